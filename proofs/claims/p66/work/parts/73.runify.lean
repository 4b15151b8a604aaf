/-! THE REFERENCE: unify -/
theorem sb_full {T : List Int} (h : wl T 1 = true) : sb T 0 = T := by
  unfold sb
  rw [List.drop_zero, sk_wl T 1 h, List.take_of_length_le (Nat.le_refl _)]
theorem sb_appL {A B : List Int} {p d : Nat} (h : wl A d = true) (hp : p < A.length) : sb (A ++ B) p = sb A p := by
  have hw := (sb_wl h hp).1
  have e : (A ++ B).drop p = sb A p ++ (A.drop (en A p) ++ B) := by rw [List.drop_append_of_le_length (by omega), ← List.append_assoc, sb_drop]
  rw [show sb (A ++ B) p = ((A ++ B).drop p).take (sk ((A ++ B).drop p) 1) from rfl, e, sk_app _ _ _ hw, List.take_left]
theorem sb_appR (A B : List Int) (p : Nat) : sb (A ++ B) (A.length + p) = sb B p := by
  unfold sb
  rw [← List.drop_drop, List.drop_left]
noncomputable def uni (s t : List Int) : Bool := (mguOf s t).isSome
theorem uni_t {s t : List Int} {θ : Int → List Int} (h : mgu θ s t) : uni s t = true := by
  obtain ⟨η, e, _⟩ := mguOf_some h
  unfold uni
  rw [e]
  rfl
theorem uni_f {s t : List Int} (h : ∀ σ, ¬ isU σ s t) : uni s t = false := by
  unfold uni
  rw [mguOf_none h]
  rfl
section Z73
variable {μ : Mem} {A : AS}
noncomputable def sp_unify (A : AS) (v1 v2 : Int) : Int × Int := g1 (aL A) (decide ((0 ≤ v1 ∧ v1 < ((aT A).length : Int)) ∧ 0 ≤ v2 ∧ v2 < ((aT A).length : Int))) (b2i (uni ((aT A).getD v1.toNat []) (shv ((aT A).getD v2.toNat []))))
end Z73

