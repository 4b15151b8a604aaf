/-! THE REFERENCE: does a variable occur in what a place stands for -/
theorem smN_upd {f f' : Nat → Nat} {j : Nat} : ∀ n, j < n → f' j + 1 = f j → (∀ i, i ≠ j → f' i = f i) → smN f' n + 1 = smN f n := by
  intro n
  induction n with
  | zero => intro h; omega
  | succ n ih =>
    intro h h1 h2
    rw [smN, smN]
    by_cases e : j = n
    · subst e
      have : ∀ m, m ≤ j → smN f' m = smN f m := by
        intro m
        induction m with
        | zero => intro _; rfl
        | succ m ihm => intro hm; rw [smN, smN, ihm (by omega), h2 m (by omega)]
      rw [this j (by omega)]
      omega
    · have := ih (by omega) h1 h2
      rw [h2 n (fun k => e k.symm)]
      omega
def Nst (f : Nat → Int) (K : List Nat) : Prop := ∀ i, i < K.length → f i = ((K.getD (K.length - 1 - i) 0 : Nat) : Int)
theorem Nst.top {f : Nat → Int} {x : Nat} {K : List Nat} (h : Nst f (x :: K)) : f K.length = (x : Int) := by
  have := h K.length (by rw [List.length_cons]; omega)
  rw [this, List.length_cons, show K.length + 1 - 1 - K.length = 0 by omega]
  rfl
theorem Nst.pop {f : Nat → Int} {x : Nat} {K : List Nat} (h : Nst f (x :: K)) : Nst f K := by
  intro i hi
  have := h i (by rw [List.length_cons]; omega)
  rw [this, List.length_cons, show K.length + 1 - 1 - i = (K.length - 1 - i) + 1 by omega]
  rfl
theorem Nst.push {f g : Nat → Int} {x : Nat} {K : List Nat} (h : Nst f K) (hg : ∀ i, i < K.length → g i = f i) (ht : g K.length = (x : Int)) : Nst g (x :: K) := by
  intro i hi
  rw [List.length_cons] at hi ⊢
  by_cases e : i = K.length
  · rw [e, ht, show K.length + 1 - 1 - K.length = 0 by omega]
    rfl
  · rw [hg i (by omega), h i (by omega), show K.length + 1 - 1 - i = (K.length - 1 - i) + 1 by omega]
    rfl
section O68
variable {P : List Int} {β : Bd} {θ : Int → List Int} {rk : Int → Nat} {c : Int} {q d : Nat} {ars : List Nat} {μ : Mem}
end O68

