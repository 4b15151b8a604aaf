/-! CALLS THAT CHANGE rules, remove, undo, save: the reference -/
section M57
variable {μ : Mem} {A : AS} {Q : Int → Mem → Prop} {v1 v2 v3 : Int}
theorem swp_len {rs : List Rl2} {i k : Nat} : (swp rs i k).length = rs.length := by unfold swp; rw [List.length_set, List.length_set]
end M57

