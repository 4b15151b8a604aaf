/-! THE REFERENCE: a pair is found -/
section I77
variable {μ : Mem} {r1 r2 : Rl2} {ars : List Nat} {p : Nat} {β : Bd} {θ : Int → List Int} {rk : Int → Nat}
/-- rows that finding the pair n may use -/
abbrev fpR : List Nat := [781, 784, 785, 786, 787, 788, 789, 790, 791, 792, 793]
abbrev fpF : List Nat := [26, 35, 36, 41, 42]
def FM (n : Nat) (μ μ' : Mem) : Prop := Gm fpR fpF μ μ' ∧ (∀ x, x < 3 * n → μ' 790 x = μ 790 x) ∧ (∀ x, x < 2 * n → μ' 791 x = μ 791 x) ∧ ∀ x, x < 160 * n → μ' 792 x = μ 792 x
theorem FM.of {n : Nat} {μ μ' : Mem} (h : Gm [781, 784, 785, 786, 787, 788, 789, 793] [26, 35, 36, 42] μ μ') : FM n μ μ' :=
  ⟨h.mono (by decide) (by decide), fun x _ => by rw [h.1 790 (by decide) (by decide)], fun x _ => by rw [h.1 791 (by decide) (by decide)], fun x _ => by rw [h.1 792 (by decide) (by decide)]⟩
/-- what is noted of a pair -/
def NtM (μ : Mem) (n i j p : Nat) (X : List Int × List Int) : Prop := μ 790 (3 * n) = (i : Int) ∧ μ 790 (3 * n + 1) = (j : Int) ∧ μ 790 (3 * n + 2) = (p : Int) ∧ μ 791 (2 * n) = (X.1.length : Int) ∧ μ 791 (2 * n + 1) = (X.2.length : Int) ∧ Me (μ 792) (160 * n) X.1 ∧ Me (μ 792) (160 * n + 80) X.2
end I77

