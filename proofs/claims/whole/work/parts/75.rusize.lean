/-! THE REFERENCE: unifiedSize -/
noncomputable def usz (s t : List Int) : Int := match mguOf s t with
  | none => -1
  | some θ => if (sv θ s).length ≤ 80 then ((sv θ s).length : Int) else -1
theorem usz_t {s t : List Int} {θ : Int → List Int} (h : mgu θ s t) : usz s t = if (sv θ s).length ≤ 80 then ((sv θ s).length : Int) else -1 := by
  obtain ⟨η, e, hη⟩ := mguOf_some h
  unfold usz
  rw [e, mgu_len h hη]
theorem usz_f {s t : List Int} (h : ∀ σ, ¬ isU σ s t) : usz s t = -1 := by
  unfold usz
  rw [mguOf_none h]
section Y75
variable {μ : Mem} {A : AS}
noncomputable def sp_unifiedSize (A : AS) (v1 v2 : Int) : Int × Int := g1 (aL A) (decide ((0 ≤ v1 ∧ v1 < ((aT A).length : Int)) ∧ 0 ≤ v2 ∧ v2 < ((aT A).length : Int))) (usz ((aT A).getD v1.toNat []) (shv ((aT A).getD v2.toNat [])))
/-- the pool of two terms is well formed -/
theorem pok_two {ars : List Nat} {S T : List Int} (h8 : ars.length ≤ 8) (hs : okt ars 8 80 S) (ht : okt ars 8 80 T) : pok ars (S ++ shv T) 2 := by
  have eT : shb 1 T = shv T := if_neg (by decide)
  have okS := shb_okn (v := 0) hs.2.2
  have okT := shb_okn (v := 1) ht.2.2
  have hl := shb_len 1 T
  rw [eT] at okT hl
  rw [show shb 0 S = S from if_pos rfl] at okS
  have := hs.2.1
  have := ht.2.1
  exact ⟨h8, wl_app _ _ 1 1 hs.1 (by rw [wl_shv]; exact ht.1), by rw [List.length_append]; omega, fun c hc => by
    rcases List.mem_append.mp hc with q | q
    · exact okS c q
    · exact okT c q⟩
theorem mm_unifiedSize {Q : Int → Mem → Prop} {v1 v2 : Int} (hI : MI μ A) (hA : AOK A) (h : MQI μ A (sp_unifiedSize A v1 v2) Q) : d_Md_unifiedSize v1 v2 μ Q := by
  unfold d_Md_unifiedSize
  unfold sp_unifiedSize at h
  refine c_mayTerms hI hA (fun e => ?_) (fun e en => ?_) (fun e i k hv hk hi hkl => ?_)
  · rw [e] at h
    exact h.t1 hI
  · rw [e, decide_eq_false en] at h
    exact h.t2 hI
  · subst hv hk
    rw [e, decide_eq_true (by omega)] at h
    simp only [Int.toNat_natCast] at h
    have hI0 : MI (mup μ 772 0 0) A := hI.f0 (by decide)
    rw [if_pos rfl]
    have hoi := hA.term hi
    have hoj := hA.term hkl
    refine c_unifiesTerms hI0 hA hi hkl (fun μ' β θ hG hpo hbd hin hR hrk hm => ?_) (fun μ' hG hu => ?_)
    · rw [if_pos rfl]
      obtain ⟨rk, hk⟩ := hrk
      have hAR := hI0.AR hA
      rw [usz_t hm] at h
      have hS0 := wl_len (d := 0) hoi.1
      generalize (aT A).getD i [] = S at *
      generalize (aT A).getD k [] = T at *
      have hok := pok_two hAR.1 hoi hoj
      have hG1 : Gm uR4 [26, 35, 36] (mup μ 772 0 0) (mup μ' 772 26 0) := hG.tr (Gm.upF (k := 26)) (by decide) (by decide) (by decide) (by decide)
      have e784 : mup μ' 772 26 0 784 = μ' 784 := mup_r (by decide)
      have e785 : mup μ' 772 26 0 785 = μ' 785 := mup_r (by decide)
      have hpo1 : PoM (mup μ' 772 26 0) (S ++ shv T) := by
        unfold PoM
        rw [e784, mup_k (by decide)]
        exact hpo
      have hbd1 : MBd (mup μ' 772 26 0) β := by unfold MBd; rw [e785]; exact hbd
      refine c_buildsMeaning (q := 0) (X := []) hR hpo1 hok (hAR.gm (hG1.1 773 (by decide) (by decide))) hbd1 hin hk (by rw [List.length_append]; omega) BL.nil (Nat.zero_le _) fun μ2 Y R hG2 hY hE hR0 _ => ?_
      have hv : vl θ (S ++ shv T) 0 = sv θ S := by
        unfold vl
        rw [sb_appL hoi.1 (by omega), sb_full hoi.1]
      rw [hv, List.nil_append] at hE
      have hlen := congrArg List.length hE
      rw [List.length_append] at hlen
      have hQ : Gm qmR qF0 (mup μ 772 0 0) μ2 := hG1.tr hG2 (by decide) (by decide) (by decide) (by decide)
      rw [hY.1]
      by_cases h80 : 80 < Y.length
      · rw [if_pos (by omega)]
        rw [if_neg (by omega)] at h
        exact h.ok hI hQ rfl
      · rw [if_neg (by omega)]
        have hR1 := hR0 (by omega)
        subst hR1
        rw [List.length_nil] at hlen
        rw [if_pos (by omega)] at h
        exact h.ok hI hQ (by omega)
    · rw [if_neg (by decide)]
      rw [usz_f hu] at h
      exact h.ok hI (hG.mono (by decide) (by decide)) rfl
end Y75
