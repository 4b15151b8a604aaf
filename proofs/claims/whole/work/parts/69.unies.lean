/-! THE REFERENCE: unification -/
def rplU (P : List Int) (β : Bd) (x y : Nat) : Prop := ∀ σ, gdS σ → RsB P β σ → (vl σ P x).length < (vl σ P y).length
noncomputable def anc (P : List Int) (β : Bd) (x : Nat) : Nat := smN (fun y => @ite Nat (rplU P β x y) (Classical.propDecidable _) 1 0) P.length
theorem smN_mono {f g : Nat → Nat} : ∀ n, (∀ i, i < n → f i ≤ g i) → smN f n ≤ smN g n := by
  intro n
  induction n with
  | zero => intro _; exact Nat.le_refl _
  | succ n ih =>
    intro h
    rw [smN, smN]
    have := ih fun i hi => h i (by omega)
    have := h n (by omega)
    omega
theorem smN_lt {f g : Nat → Nat} {j : Nat} : ∀ n, j < n → (∀ i, i < n → f i ≤ g i) → f j + 1 ≤ g j → smN f n + 1 ≤ smN g n := by
  intro n
  induction n with
  | zero => intro h; omega
  | succ n ih =>
    intro h h1 h2
    rw [smN, smN]
    by_cases e : j = n
    · subst e
      have := smN_mono (f := f) (g := g) j fun i hi => h1 i (by omega)
      omega
    · have := ih (by omega) (fun i hi => h1 i (by omega)) h2
      have := h1 n (by omega)
      omega
theorem anc_le (P : List Int) (β : Bd) (x : Nat) : anc P β x ≤ P.length := by
  unfold anc
  have := smN_le (f := fun y => @ite Nat (rplU P β x y) (Classical.propDecidable _) 1 0) (m := 1) P.length fun i _ => by split <;> omega
  omega
theorem anc_mono {P : List Int} {β β' : Bd} {x : Nat} (h : ∀ σ, RsB P β' σ → RsB P β σ) : anc P β x ≤ anc P β' x := by
  unfold anc
  refine smN_mono _ fun i _ => ?_
  by_cases k : rplU P β x i
  · rw [if_pos k, if_pos (show rplU P β' x i from fun σ hg hs => k σ hg (h σ hs))]
    omega
  · rw [if_neg k]
    omega
/-- a child has one more above it -/
theorem anc_child {P : List Int} {β : Bd} {θ : Int → List Int} {a r x : Nat} (hI : RI P β θ) (hr : r < P.length) (he : ∀ σ, RsB P β σ → vl σ P r = vl σ P a) (hx : ∀ σ, gdS σ → (vl σ P x).length < (vl σ P r).length) : anc P β a + 1 ≤ anc P β x := by
  unfold anc
  refine smN_lt (j := r) _ hr (fun i _ => ?_) ?_
  · by_cases k : rplU P β a i
    · have k2 : rplU P β x i := fun σ hg hs => by
        have h1 := k σ hg hs
        have h2 := hx σ hg
        rw [he σ hs] at h2
        omega
      rw [if_pos k, if_pos k2]
      omega
    · rw [if_neg k]
      omega
  · have k1 : ¬ rplU P β a r := fun k => by
      have := k θ hI.1 hI.2.2.1
      rw [he θ hI.2.2.1] at this
      omega
    have k2 : rplU P β x r := fun σ hg _ => hx σ hg
    rw [if_neg k1, if_pos k2]
    omega
abbrev Ps : Type := List (Nat × Nat)
def UStk (μ : Mem) (S : Ps) : Prop := μ 772 36 = (S.length : Int) ∧ Nst (μ 786) (S.map (·.1)) ∧ Nst (μ 787) (S.map (·.2))
def SufB (P : List Int) (β : Bd) : Ps → Prop
  | [] => True
  | x :: S => S.length ≤ 3 * anc P β x.1 ∧ SufB P β S
theorem SufB.mono {P : List Int} {β β' : Bd} (h : ∀ σ, RsB P β' σ → RsB P β σ) : ∀ S, SufB P β S → SufB P β' S := by
  intro S
  induction S with
  | nil => exact fun _ => trivial
  | cons x S ih =>
    intro k
    have := anc_mono (x := x.1) h
    exact ⟨by have := k.1; omega, ih k.2⟩
def AllE (P : List Int) (σ : Int → List Int) (S : Ps) : Prop := ∀ x, x ∈ S → vl σ P x.1 = vl σ P x.2
theorem AllE.cons {P : List Int} {σ : Int → List Int} {x : Nat × Nat} {S : Ps} : AllE P σ (x :: S) ↔ vl σ P x.1 = vl σ P x.2 ∧ AllE P σ S := by
  unfold AllE
  constructor
  · intro h
    exact ⟨h x (List.mem_cons_self ..), fun y hy => h y (List.mem_cons_of_mem _ hy)⟩
  · rintro ⟨h1, h2⟩ y hy
    rcases List.mem_cons.mp hy with e | e
    · rw [e]; exact h1
    · exact h2 y e
def szS (P : List Int) (θ : Int → List Int) : Ps → Nat
  | [] => 0
  | x :: S => (vl θ P x.1).length + szS P θ S
def InS (P : List Int) (S : Ps) : Prop := ∀ x, x ∈ S → x.1 < P.length ∧ x.2 < P.length
section U69
variable {P : List Int} {β : Bd} {θ : Int → List Int} {c : Int} {q d : Nat} {ars : List Nat} {μ : Mem} {S : Ps}
theorem UStk.len (h : UStk μ S) : μ 772 36 = (S.length : Int) := h.1
theorem c_owes {a b : Nat} {Q : Mem → Prop} (h : UStk μ S) (hl : S.length < 4000) (k : ∀ μ', UStk μ' ((a, b) :: S) → Gm [786, 787] [36] μ μ' → Q μ') : d_Md_owes (a : Int) (b : Int) μ Q := by
  unfold d_Md_owes
  have e1 : mup μ 786 (μ 772 36).toNat (a : Int) 772 = μ 772 := mup_r (by decide)
  have e2 : mup (mup μ 786 (μ 772 36).toNat (a : Int)) 787 ((mup μ 786 (μ 772 36).toNat (a : Int)) 772 36).toNat (b : Int) 772 = μ 772 := by rw [mup_r (by decide), e1]
  rw [e2, e1, h.1, Int.toNat_natCast, wr_id (by omega) (by omega)]
  refine ⟨by omega, by omega, k _ ⟨?_, ?_, ?_⟩ ?_⟩
  · rw [mup_s, List.length_cons]
    omega
  · refine h.2.1.push (fun i hi => ?_) ?_
    · rw [List.length_map] at hi
      rw [mup_r (by decide), mup_r (by decide), mup_k (by omega)]
    · rw [List.length_map, mup_r (by decide), mup_r (by decide), mup_s]
  · refine h.2.2.push (fun i hi => ?_) ?_
    · rw [List.length_map] at hi
      rw [mup_r (by decide), mup_k (by omega), mup_r (by decide)]
    · rw [List.length_map, mup_r (by decide), mup_s]
  · exact ((Gm.upR (a := 786) (by decide)).tr (Gm.upR (a := 787) (by decide)) (r := [786, 787]) (f := [36]) (by decide) (by decide) (by decide) (by decide)).tr (Gm.upF (k := 36)) (by decide) (by decide) (by decide) (by decide)
theorem c_owesArgs {r s : Nat} {Q : Mem → Prop} (hpo : PoM μ P) (hok : pok ars P d) (hA : AR μ ars) (hr : r < P.length) (hs : s < P.length) (hh : P.getD r 0 = P.getD s 0) (hU : UStk μ S) (hin : InS P S) (hl : S.length ≤ 1300) (hg : gdS θ) (hsb : SufB P β S)
    (hanc : ∀ x, x < P.length → (∀ σ, gdS σ → (vl σ P x).length ≤ (va σ P (r + 1) (ar (P.getD r 0))).length) → S.length + 2 ≤ 3 * anc P β x)
    (k : ∀ μ' S', UStk μ' S' → Gm [786, 787] [36] μ μ' → InS P S' → SufB P β S' → szS P θ S' = szS P θ S + (va θ P (r + 1) (ar (P.getD r 0))).length → (∀ σ, gdS σ → (AllE P σ S' ↔ AllE P σ S ∧ va σ P (r + 1) (ar (P.getD r 0)) = va σ P (s + 1) (ar (P.getD r 0)))) → Q μ') : d_Md_owesArguments (r : Int) (s : Int) μ Q := by
  unfold d_Md_owesArguments
  have h400 := hok.2.2.1
  have hcr := hok.2.2.2 _ (gm0 hr)
  rw [Int.toNat_natCast, meg hpo.2 hr]
  refine ⟨by omega, c_mArityOf hA hcr ?_⟩
  have har := ar_le (P.getD r 0)
  have hP1 : Pk P (r + 1) (ar (P.getD r 0)) := Pk.args hok.2.1 hr
  have hP2 : Pk P (s + 1) (ar (P.getD r 0)) := by rw [hh]; exact Pk.args hok.2.1 hs
  generalize ar (P.getD r 0) = n0 at *
  rw [wr_id (by omega) (by omega), wr_id (by omega) (by omega)]
  refine i_Md_owesArguments_l21 (Inv := fun v3 v4 v5 μ1 => ∃ (p p' n : Nat) (S1 : Ps), v3 = p ∧ v4 = p' ∧ v5 = n ∧ Pk P p n ∧ Pk P p' n ∧ UStk μ1 S1 ∧ Gm [786, 787] [36] μ μ1 ∧ InS P S1 ∧ SufB P β S1 ∧ S1.length + n = S.length + n0 ∧ szS P θ S1 + (va θ P p n).length = szS P θ S + (va θ P (r + 1) n0).length ∧ (∀ σ, gdS σ → (va σ P p n).length ≤ (va σ P (r + 1) n0).length) ∧ ∀ σ, gdS σ → ((AllE P σ S1 ∧ va σ P p n = va σ P p' n) ↔ (AllE P σ S ∧ va σ P (r + 1) n0 = va σ P (s + 1) n0))) (fun _ _ v5 _ => v5.toNat) ?_ _ _ _ μ ⟨r + 1, s + 1, n0, S, by omega, by omega, rfl, hP1, hP2, hU, Gm.rfl', hin, hsb, rfl, rfl, fun σ _ => Nat.le_refl _, fun σ _ => Iff.rfl⟩
  rintro _ _ _ μ1 ⟨p, p', n, S1, rfl, rfl, rfl, g1, g2, g3, g4, g5, g6, g7, g8, g9, g10⟩ W hW
  unfold d_Md_owesArguments_b21
  cases n with
  | zero =>
    rw [if_neg (by omega)]
    refine k μ1 S1 g3 g4 g5 g6 (by rw [va_zero] at g8; exact g8) fun σ hσ => ?_
    have := g10 σ hσ
    rw [va_zero, va_zero] at this
    exact ⟨fun q => this.mp ⟨q, rfl⟩, fun q => (this.mpr q).1⟩
  | succ n =>
    rw [if_pos (by omega)]
    have hp := g1.lt
    have hp' := g2.lt
    refine c_owes g3 (by omega) fun μ2 u1 u2 => ?_
    have hG2 : Gm [786, 787] [36] μ μ2 := g4.same u2
    have hA2 := hA.gm (hG2.1 773 (by decide) (by decide))
    have hM2 : Me (μ2 784) 0 P := by rw [hG2.1 784 (by decide) (by decide)]; exact hpo.2
    have hl784 : P.length ≤ ln 784 := by rw [show ln 784 = 400 by decide +kernel]; exact h400
    refine c_behind hA2 hM2 hl784 hok.2.2.2 g1.pred (c_behind hA2 hM2 hl784 hok.2.2.2 g2.pred ?_)
    rw [wr_id (by omega) (by omega)]
    refine hW _ _ _ _ ⟨en P p, en P p', n, (p, p') :: S1, rfl, rfl, by omega, g1.next, g2.next, u1, hG2, ?_, ⟨?_, g6⟩, by rw [List.length_cons]; omega, ?_, fun σ hσ => ?_, fun σ hσ => ?_⟩ (by omega)
    · intro x hx
      rcases List.mem_cons.mp hx with e | e
      · rw [e]; exact ⟨hp, hp'⟩
      · exact g5 x e
    · have := hanc p hp fun σ hσ => by
        have := g9 σ hσ
        rw [va_succ, List.length_append] at this
        omega
      dsimp only
      omega
    · rw [va_succ, List.length_append] at g8
      rw [szS]
      dsimp only
      omega
    · have := g9 σ hσ
      rw [va_succ, List.length_append] at this
      omega
    · rw [← g10 σ hσ, AllE.cons, va_eq hσ g1 g2]
      dsimp only
      constructor
      · rintro ⟨⟨a1, a2⟩, a3⟩
        exact ⟨a2, a1, a3⟩
      · rintro ⟨a2, a1, a3⟩
        exact ⟨⟨a1, a2⟩, a3⟩
end U69
