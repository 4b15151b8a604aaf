/-! THE CLASS: the pool at the start -/
def R0 (P : List Int) : Nat → Nat := fun i => if P.getD i 0 < 0 then P.idxOf (P.getD i 0) else i
def dp0 (P : List Int) : Nat → Nat := fun i => if R0 P i = i then 0 else 1
section K76k
variable {P : List Int} {a b : Nat}
theorem R0_in {i : Nat} (hi : i < P.length) : R0 P i < P.length ∧ P.getD (R0 P i) 0 = P.getD i 0 ∧ R0 P (R0 P i) = R0 P i := by
  by_cases k : P.getD i 0 < 0
  · have e : R0 P i = P.idxOf (P.getD i 0) := if_pos k
    have h := idx_get P _ (gm0 hi)
    rw [e]
    refine ⟨h.1, h.2, ?_⟩
    unfold R0
    rw [h.2, if_pos k]
  · have e : R0 P i = i := if_neg k
    rw [e]
    exact ⟨hi, rfl, e⟩
theorem UF0 : UF P.length (R0 P) (R0 P) (dp0 P) := by
  refine ⟨fun i hi => ⟨(R0_in hi).1, (R0_in hi).2.2⟩, fun i hi => ⟨(R0_in hi).1, (R0_in hi).2.2⟩, fun i hi e => ⟨e, if_pos e⟩, fun i hi e => ?_, fun i hi => ?_⟩
  · have h1 : dp0 P i = 1 := if_neg e
    have h2 : dp0 P (R0 P i) = 0 := if_pos (R0_in hi).2.2
    omega
  · have := nrt_le (R0 P) P.length
    unfold dp0
    split <;> omega
theorem MGI0 : MGI P a b (R0 P) [(b, a)] := by
  refine ⟨fun i hi n => (R0_in hi).2.1, fun σ _ => ?_, fun i hi n f _ _ => ?_, fun i j hi hj e n => ?_⟩
  · rw [AllE.cons]
    dsimp only
    refine ⟨fun q => ⟨fun i hi => ?_, q.symm, fun x hx => by cases hx⟩, fun q => q.2.1.symm⟩
    by_cases k : P.getD i 0 < 0
    · rw [vl_var hi k, vl_var (R0_in hi).1 (by rw [(R0_in hi).2.1]; exact k), (R0_in hi).2.1]
    · rw [show R0 P i = i from if_neg k]
  · rw [show R0 P i = i from if_neg n]
  · unfold R0
    rw [← e, if_pos n, if_pos n]
end K76k

