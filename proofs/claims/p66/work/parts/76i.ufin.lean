/-! THE CLASS: is each class finite -/
def uns (g : Nat → Int) (N : Nat) : Nat := smN (fun i => if g i = 0 then 1 else 0) N
/-- settled places, in their order -/
def Sto (P : List Int) (R : Nat → Nat) (g : Nat → Int) (od : Nat → Nat) (c : Nat) : Prop := ∀ i, i < P.length → ¬ g i = 0 → od i < c ∧ (R i = i → ∀ x, x ∈ kids P (i + 1) (ar (P.getD i 0)) → ¬ g (R x) = 0 ∧ od (R x) < od i)
section I76
variable {P : List Int} {R od : Nat → Nat} {d a b c : Nat} {g : Nat → Int}
theorem uns_0 {N : Nat} (h : uns g N = 0) : ∀ i, i < N → ¬ g i = 0 := by
  intro i hi e
  have := smN_lt (f := fun _ => 0) (g := fun i => if g i = 0 then 1 else 0) (j := i) N hi (fun _ _ => Nat.zero_le _) (by rw [if_pos e]; omega)
  unfold uns at h
  omega
theorem Sto.ord (h : Sto P R g od c) (hw : wl P d = true) (hall : ∀ i, i < P.length → ¬ g i = 0) : Ord P R od := fun i hi e x hx => ((h i hi (hall i hi)).2 e x hx).2
theorem Sto.settle {g' : Nat → Int} {q : Nat} (h : Sto P R g od c) (h0 : g q = 0) (hs : stl g P R q = true) (h1 : g' q = 1) (h2 : ∀ i, i ≠ q → g' i = g i) (hod : ∀ i, i < P.length → ¬ g i = 0 → od i < c) (hin : ∀ i, i < P.length → R i = i → ∀ x, x ∈ kids P (i + 1) (ar (P.getD i 0)) → R x < P.length) : Sto P R g' (fun i => if i = q then c else od i) (c + 1) := by
  intro i hi n
  dsimp only
  have hne : ∀ y, ¬ g y = 0 → y ≠ q := fun y hy e => hy (by rw [e]; exact h0)
  by_cases e : i = q
  · subst e
    rw [if_pos rfl]
    refine ⟨by omega, fun hR x hx => ?_⟩
    unfold stl at hs
    rw [if_pos hR, List.all_eq_true] at hs
    have hx1 := of_decide_eq_true (hs x hx)
    have hx2 := hne _ hx1
    rw [h2 _ hx2, if_neg hx2]
    exact ⟨hx1, hod _ (hin i hi hR x hx) hx1⟩
  · rw [h2 i e] at n
    have := h i hi n
    rw [if_neg e]
    refine ⟨by omega, fun hR x hx => ?_⟩
    have hx1 := this.2 hR x hx
    have hx2 := hne _ hx1.1
    rw [h2 _ hx2, if_neg hx2]
    exact hx1
theorem fvl_mem {σ : Int → List Int} : ∀ (K : List Nat) (x : Nat), x ∈ K → (vl σ P x).length ≤ (fvl σ P K).length := by
  intro K
  induction K with
  | nil => intro x h; cases h
  | cons y K ih =>
    intro x h
    rw [fvl_cons, List.length_append]
    rcases List.mem_cons.mp h with e | e
    · rw [e]; omega
    · have := ih x e; omega
theorem stuck {σ : Int → List Int} (hw : wl P d = true) (hR : ∀ i, i < P.length → R i < P.length ∧ R (R i) = R i) (hs : vlR P σ R) (hst : ∀ q, q < P.length → g q = 0 → stl g P R q = false) {q : Nat} (hq : q < P.length) (hg : g q = 0) : False := by
  have key : ∀ n r, (vl σ P r).length = n → r < P.length → R r = r → g r = 0 → False := by
    intro n
    induction n using Nat.strongRecOn with
    | _ n ih =>
      intro r hn hr hRr h0
      have h := hst r hr h0
      unfold stl at h
      rw [if_pos hRr, List.all_eq_false] at h
      obtain ⟨x, hx, hx0⟩ := h
      have hx1 : g (R x) = 0 := by
        by_cases e : g (R x) = 0
        · exact e
        · exact absurd (decide_eq_true e) hx0
      have hxN := kids_in _ _ (Pk.args hw hr) x hx
      by_cases k : P.getD r 0 < 0
      · rw [ar_neg k] at hx
        cases hx
      · have hl := fvl_mem (σ := σ) (P := P) _ x hx
        have hv : vl σ P r = P.getD r 0 :: fvl σ P (kids P (r + 1) (ar (P.getD r 0))) := by rw [vl_fun hr k, va_kids]
        rw [hv, List.length_cons] at hn
        exact ih _ (by rw [← hs x hxN]; omega) (R x) rfl (hR x hxN).1 (hR x hxN).2 hx1
  by_cases e : R q = q
  · exact key _ q rfl hq e hg
  · have h := hst q hq hg
    unfold stl at h
    rw [if_neg e] at h
    have h0 : g (R q) = 0 := by
      by_cases k : g (R q) = 0
      · exact k
      · rw [decide_eq_true k] at h; cases h
    exact key _ (R q) rfl (hR q hq).1 (hR q hq).2 h0
end I76

