/-! THE REFERENCE'S POOL: following bindings, does a variable occur -/
def pok (ars : List Nat) (P : List Int) (d : Nat) : Prop := ars.length ≤ 8 ∧ wl P d = true ∧ P.length ≤ 400 ∧ ∀ c, c ∈ P → okn ars 16 c
section R67
variable {P : List Int} {β : Bd} {θ : Int → List Int} {rk : Int → Nat} {c : Int} {q d : Nat} {ars : List Nat} {μ : Mem}
end R67

