/-! THE REFERENCE: rewriting -/
section M41
variable {μ : Mem} {ars : List Nat} {m : Nat}
/-- the reference's rules -/
def MRs (μ : Mem) (rs : List Rl2) : Prop := μ 773 1 = (rs.length : Int) ∧ rs.length ≤ 6 ∧ ∀ i, i < rs.length → MR μ i (rs.getD i ([], []))
/-- what is built: a list of which the first 80 nodes stand in the row -/
def BL (μ : Mem) (X : List Int) : Prop := μ 772 26 = (X.length : Int) ∧ Me (μ 781) 0 (X.take 80)
theorem BL.nil {μ : Mem} : BL (mup μ 772 26 0) [] := ⟨mup_s, Sg.nil⟩
end M41

