/-! THE CLASS: arguments onto the stack -/
def flat : Ps → List Nat
  | [] => []
  | x :: S => x.1 :: x.2 :: flat S
theorem flat_len : ∀ S : Ps, (flat S).length = 2 * S.length := by
  intro S
  induction S with
  | nil => rfl
  | cons x S ih => rw [flat, List.length_cons, List.length_cons, List.length_cons, ih]; omega
/-- rows that the stack may use -/
def Fst (v0 : Nat) (μ μ' : Mem) : Prop := (∀ b, b ≠ v0 → b ≠ v0 + 6 → μ' b = μ b) ∧ ∀ j, j ≠ 7 → μ' v0 j = μ v0 j
theorem Fst.rfl' {v0 : Nat} {μ : Mem} : Fst v0 μ μ := ⟨fun _ _ _ => rfl, fun _ _ => rfl⟩
theorem Fst.tr {v0 : Nat} {μ μ1 μ2 : Mem} (h1 : Fst v0 μ μ1) (h2 : Fst v0 μ1 μ2) : Fst v0 μ μ2 := ⟨fun b k1 k2 => by rw [h2.1 b k1 k2, h1.1 b k1 k2], fun j hj => by rw [h2.2 j hj, h1.2 j hj]⟩
theorem CPl.st {v0 : Nat} {μ μ' : Mem} {P : List Int} (h : CPl μ v0 P) (hf : Fst v0 μ μ') : CPl μ' v0 P := h.fr (hf.2 0 (by decide)) (hf.1 _ (by omega) (by omega)) (hf.1 _ (by omega) (by omega))
section A76
variable {μ : Mem} {v0 d : Nat} {P : List Int} {S : Ps}
theorem c_upushArgs {r s : Nat} {v1 v2 : Int} {Q : Mem → Prop} (hv1 : v1 = (r : Int)) (hv2 : v2 = (s : Int)) (hC : CPl μ v0 P) (hw : wl P d = true) (hP : P.length ≤ 160) (h32 : ∀ c, c ∈ P → c < 32) (hr : r < P.length) (hs : s < P.length) (hh : P.getD r 0 = P.getD s 0) (hU : NK μ v0 (flat S)) (hin : InS P S) (hl : S.length ≤ 477)
    (k : ∀ μ' S', NK μ' v0 (flat S') → Fst v0 μ μ' → InS P S' → S'.length ≤ S.length + 3 → (∀ σ, gdS σ → (AllE P σ S' ↔ AllE P σ S ∧ va σ P (s + 1) (ar (P.getD r 0)) = va σ P (r + 1) (ar (P.getD r 0)))) → (∀ f, rsS S' f ↔ rsS S f ∧ (kids P (s + 1) (ar (P.getD r 0))).map f = (kids P (r + 1) (ar (P.getD r 0))).map f) → Q μ') : d_Unifier_pushArguments v0 v1 v2 μ Q := by
  unfold d_Unifier_pushArguments
  refine c_ulabel hv1 hC hP hr ?_
  have hc32 := h32 _ (gm0 hr)
  have e1 : wr (v1 + 1) = ((r + 1 : Nat) : Int) := by rw [wr_id (by omega) (by omega)]; omega
  have e2 : wr (v2 + 1) = ((s + 1 : Nat) : Int) := by rw [wr_id (by omega) (by omega)]; omega
  rw [e1, e2]
  refine c_arityOf hc32 ?_
  have har := ar_le (P.getD r 0)
  have hP1 : Pk P (r + 1) (ar (P.getD r 0)) := Pk.args hw hr
  have hP2 : Pk P (s + 1) (ar (P.getD r 0)) := by rw [hh]; exact Pk.args hw hs
  generalize ar (P.getD r 0) = n0 at *
  refine i_Unifier_pushArguments_l19 (Inv := fun v3 v4 v5 μ1 => ∃ (p p' n : Nat) (S1 : Ps), v3 = p ∧ v4 = p' ∧ v5 = n ∧ Pk P p n ∧ Pk P p' n ∧ NK μ1 v0 (flat S1) ∧ Fst v0 μ μ1 ∧ InS P S1 ∧ S1.length + n = S.length + n0 ∧ (∀ σ, gdS σ → ((AllE P σ S1 ∧ va σ P p' n = va σ P p n) ↔ (AllE P σ S ∧ va σ P (s + 1) n0 = va σ P (r + 1) n0))) ∧ ∀ f : Nat → Nat, (rsS S1 f ∧ (kids P p' n).map f = (kids P p n).map f) ↔ (rsS S f ∧ (kids P (s + 1) n0).map f = (kids P (r + 1) n0).map f)) (fun _ _ v5 _ => v5.toNat) ?_ _ _ _ μ ⟨r + 1, s + 1, n0, S, by omega, by omega, rfl, hP1, hP2, hU, Fst.rfl', hin, rfl, fun σ _ => Iff.rfl, fun f => Iff.rfl⟩
  rintro v3 v4 _ μ1 ⟨p, p', n, S1, h3, h4, rfl, g1, g2, g3, g4, g5, g6, g7, g8⟩ W hW
  unfold d_Unifier_pushArguments_b19
  have hfl := flat_len S1
  cases n with
  | zero =>
    rw [if_neg (by omega)]
    refine k μ1 S1 g3 g4 g5 (by omega) (fun σ hσ => ?_) fun f => ?_
    · have := g7 σ hσ
      rw [va_zero, va_zero] at this
      exact ⟨fun q => this.mp ⟨q, rfl⟩, fun q => (this.mpr q).1⟩
    · have := g8 f
      exact ⟨fun q => this.mp ⟨q, rfl⟩, fun q => (this.mpr q).1⟩
  | succ n =>
    rw [if_pos (by omega)]
    have hp := g1.lt
    have hp' := g2.lt
    refine c_upush h3 g3 (by omega) fun μ2 u1 u2 u3 => c_upush h4 u1 (by rw [List.length_cons]; omega) fun μ3 w1 w2 w3 => ?_
    have hF : Fst v0 μ μ3 := g4.tr (Fst.tr (μ1 := μ2) ⟨u2, u3⟩ ⟨w2, w3⟩)
    have hC3 := hC.st hF
    refine c_uend h3 hC3 hP hp (c_uend h4 hC3 hP hp' ?_)
    rw [wr_id (by omega) (by omega)]
    refine hW _ _ _ _ ⟨en P p, en P p', n, (p', p) :: S1, rfl, rfl, by omega, g1.next, g2.next, w1, hF, ?_, by rw [List.length_cons]; omega, fun σ hσ => ?_, fun f => ?_⟩ (by omega)
    · intro x hx
      rcases List.mem_cons.mp hx with e | e
      · rw [e]; exact ⟨hp', hp⟩
      · exact g5 x e
    · rw [← g7 σ hσ, AllE.cons, va_eq hσ g2 g1]
      dsimp only
      constructor
      · rintro ⟨⟨a1, a2⟩, a3⟩
        exact ⟨a2, a1, a3⟩
      · rintro ⟨a2, a1, a3⟩
        exact ⟨⟨a1, a2⟩, a3⟩
    · rw [← g8 f, rsS.cons, kids, kids, List.map_cons, List.map_cons, List.cons_eq_cons]
      dsimp only
      constructor
      · rintro ⟨⟨a1, a2⟩, a3⟩
        exact ⟨a2, a1, a3⟩
      · rintro ⟨a2, a1, a3⟩
        exact ⟨⟨a1, a2⟩, a3⟩
end A76

