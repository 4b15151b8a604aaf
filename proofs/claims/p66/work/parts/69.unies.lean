/-! THE REFERENCE: unification -/
def rplU (P : List Int) (β : Bd) (x y : Nat) : Prop := ∀ σ, gdS σ → RsB P β σ → (vl σ P x).length < (vl σ P y).length
noncomputable def anc (P : List Int) (β : Bd) (x : Nat) : Nat := smN (fun y => @ite Nat (rplU P β x y) (Classical.propDecidable _) 1 0) P.length
theorem smN_mono {f g : Nat → Nat} : ∀ n, (∀ i, i < n → f i ≤ g i) → smN f n ≤ smN g n := by
  intro n
  induction n with
  | zero => intro _; exact Nat.le_refl _
  | succ n ih =>
    intro h
    rw [smN, smN]
    have := ih fun i hi => h i (by omega)
    have := h n (by omega)
    omega
theorem smN_lt {f g : Nat → Nat} {j : Nat} : ∀ n, j < n → (∀ i, i < n → f i ≤ g i) → f j + 1 ≤ g j → smN f n + 1 ≤ smN g n := by
  intro n
  induction n with
  | zero => intro h; omega
  | succ n ih =>
    intro h h1 h2
    rw [smN, smN]
    by_cases e : j = n
    · subst e
      have := smN_mono (f := f) (g := g) j fun i hi => h1 i (by omega)
      omega
    · have := ih (by omega) (fun i hi => h1 i (by omega)) h2
      have := h1 n (by omega)
      omega
theorem anc_mono {P : List Int} {β β' : Bd} {x : Nat} (h : ∀ σ, RsB P β' σ → RsB P β σ) : anc P β x ≤ anc P β' x := by
  unfold anc
  refine smN_mono _ fun i _ => ?_
  by_cases k : rplU P β x i
  · rw [if_pos k, if_pos (show rplU P β' x i from fun σ hg hs => k σ hg (h σ hs))]
    omega
  · rw [if_neg k]
    omega
abbrev Ps : Type := List (Nat × Nat)
def SufB (P : List Int) (β : Bd) : Ps → Prop
  | [] => True
  | x :: S => S.length ≤ 3 * anc P β x.1 ∧ SufB P β S
theorem SufB.mono {P : List Int} {β β' : Bd} (h : ∀ σ, RsB P β' σ → RsB P β σ) : ∀ S, SufB P β S → SufB P β' S := by
  intro S
  induction S with
  | nil => exact fun _ => trivial
  | cons x S ih =>
    intro k
    have := anc_mono (x := x.1) h
    exact ⟨by have := k.1; omega, ih k.2⟩
def AllE (P : List Int) (σ : Int → List Int) (S : Ps) : Prop := ∀ x, x ∈ S → vl σ P x.1 = vl σ P x.2
theorem AllE.cons {P : List Int} {σ : Int → List Int} {x : Nat × Nat} {S : Ps} : AllE P σ (x :: S) ↔ vl σ P x.1 = vl σ P x.2 ∧ AllE P σ S := by
  unfold AllE
  constructor
  · intro h
    exact ⟨h x (List.mem_cons_self ..), fun y hy => h y (List.mem_cons_of_mem _ hy)⟩
  · rintro ⟨h1, h2⟩ y hy
    rcases List.mem_cons.mp hy with e | e
    · rw [e]; exact h1
    · exact h2 y e
def InS (P : List Int) (S : Ps) : Prop := ∀ x, x ∈ S → x.1 < P.length ∧ x.2 < P.length
section U69
variable {P : List Int} {β : Bd} {θ : Int → List Int} {c : Int} {q d : Nat} {ars : List Nat} {μ : Mem} {S : Ps}
end U69

