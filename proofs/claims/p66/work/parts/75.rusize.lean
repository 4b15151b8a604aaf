/-! THE REFERENCE: unifiedSize -/
noncomputable def usz (s t : List Int) : Int := match mguOf s t with
  | none => -1
  | some θ => if (sv θ s).length ≤ 80 then ((sv θ s).length : Int) else -1
theorem usz_t {s t : List Int} {θ : Int → List Int} (h : mgu θ s t) : usz s t = if (sv θ s).length ≤ 80 then ((sv θ s).length : Int) else -1 := by
  obtain ⟨η, e, hη⟩ := mguOf_some h
  unfold usz
  rw [e, mgu_len h hη]
theorem usz_f {s t : List Int} (h : ∀ σ, ¬ isU σ s t) : usz s t = -1 := by
  unfold usz
  rw [mguOf_none h]
section Y75
variable {μ : Mem} {A : AS}
noncomputable def sp_unifiedSize (A : AS) (v1 v2 : Int) : Int × Int := g1 (aL A) (decide ((0 ≤ v1 ∧ v1 < ((aT A).length : Int)) ∧ 0 ≤ v2 ∧ v2 < ((aT A).length : Int))) (usz ((aT A).getD v1.toNat []) (shv ((aT A).getD v2.toNat [])))
/-- the pool of two terms is well formed -/
theorem pok_two {ars : List Nat} {S T : List Int} (h8 : ars.length ≤ 8) (hs : okt ars 8 80 S) (ht : okt ars 8 80 T) : pok ars (S ++ shv T) 2 := by
  have eT : shb 1 T = shv T := if_neg (by decide)
  have okS := shb_okn (v := 0) hs.2.2
  have okT := shb_okn (v := 1) ht.2.2
  have hl := shb_len 1 T
  rw [eT] at okT hl
  rw [show shb 0 S = S from if_pos rfl] at okS
  have := hs.2.1
  have := ht.2.1
  exact ⟨h8, wl_app _ _ 1 1 hs.1 (by rw [wl_shv]; exact ht.1), by rw [List.length_append]; omega, fun c hc => by
    rcases List.mem_append.mp hc with q | q
    · exact okS c q
    · exact okT c q⟩
end Y75

