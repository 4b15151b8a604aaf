/-! that the printed tables do what the texts say (written by wip/gen/dec.py), 6 -/
theorem k_Md_parseErrorPosition {E : JE2} {μ : Mem} {M : JM} {Q : Int → Mem → Prop} (hM : Rl E M μ) (h : d_Md_parseErrorPosition μ Q) : JX 262 0 (jargs 262 [jR 772]) [] M (PO E (QI Q) XN) := by
  unfold d_Md_parseErrorPosition at h
  show JX 262 0 [jR 772] [] M (PO E (QI Q) XN)
  generalize hP : PO E (QI Q) XN = P
  have hQ : ∀ (r : Int) (M1 : JM) (μ1 : Mem), Rl E M1 μ1 → Q r μ1 → P (.inl (some (.inl r))) M1 := by rw [← hP]; exact fun r M1 μ1 a b => ⟨μ1, a, r, rfl, b⟩
  clear hP
  refine L_ps c262 (n := 2) (pc1 := 2) (ls1 := [jR 772]) (st1 := [jR 772, jR 772]) rfl ?_
  refine L_getI (c262 2 rfl) hM rt772 rfl ?_
  refine L_cI (c262 5 rfl) (js_v rfl ((Rl_tag hM rt772 (by decide)).trans js261)) hh262 (k_Md_told hM h) (fun r1 M μ2 hM h => ?_) (fun _ _ _ _ f => f.elim)
  exact L_retI (c262 8 rfl) (hQ _ _ _ hM h)
theorem k_Md_bufferLength {E : JE2} {μ : Mem} {M : JM} {Q : Int → Mem → Prop} (hM : Rl E M μ) (h : d_Md_bufferLength μ Q) : JX 263 0 (jargs 263 [jR 772]) [] M (PO E (QI Q) XN) := by
  unfold d_Md_bufferLength at h
  show JX 263 0 [jR 772] [] M (PO E (QI Q) XN)
  generalize hP : PO E (QI Q) XN = P
  have hQ : ∀ (r : Int) (M1 : JM) (μ1 : Mem), Rl E M1 μ1 → Q r μ1 → P (.inl (some (.inl r))) M1 := by rw [← hP]; exact fun r M1 μ1 a b => ⟨μ1, a, r, rfl, b⟩
  clear hP
  refine L_ps c263 (n := 2) (pc1 := 2) (ls1 := [jR 772]) (st1 := [jR 772, jR 772]) rfl ?_
  refine L_getI (c263 2 rfl) hM rt772 rfl ?_
  refine L_cI (c263 5 rfl) (js_v rfl ((Rl_tag hM rt772 (by decide)).trans js261)) hh263 (k_Md_told hM h) (fun r1 M μ2 hM h => ?_) (fun _ _ _ _ f => f.elim)
  exact L_retI (c263 8 rfl) (hQ _ _ _ hM h)
theorem k_Md_in {E : JE2} {v0 : Int} {v1 : Int} {v2 : Int} {μ : Mem} {M : JM} {Q : Bool → Prop} (hM : Rl E M μ) (h : d_Md_in v0 v1 v2 μ Q) : JX 265 0 (jargs 265 [jI v0, jI v1, jI v2]) [] M (PO E (pQB μ Q) XN) := by
  unfold d_Md_in at h
  show JX 265 0 [jI v0, jI v1, jI v2] [] M (PO E (pQB μ Q) XN)
  generalize hP : PO E (pQB μ Q) XN = P
  have hQ : ∀ (r : Bool) (M1 : JM), Rl E M1 μ → Q r → P (.inl (some (.inl (b2i r)))) M1 := by rw [← hP]; exact fun r M1 a b => ⟨μ, a, rfl, r, rfl, b⟩
  clear hP
  refine L_ps c265 (n := 2) (pc1 := 2) (ls1 := [jI v0, jI v1, jI v2]) (st1 := [jI v0, jI v1]) rfl ?_
  refine L_br (p1 := 14) (p2 := 5) (c265 2 rfl) rfl jc_gt h (fun h => ?_) (fun h => ?_)
  · refine L_ps c265 (n := 1) (pc1 := 15) (ls1 := [jI v0, jI v1, jI v2]) (st1 := [jI 0]) rfl ?_
    exact L_retB (c265 15 rfl) (Or.inl rfl) (hQ false _ hM h)
  · refine L_ps c265 (n := 2) (pc1 := 7) (ls1 := [jI v0, jI v1, jI v2]) (st1 := [jI v2, jI v0]) rfl ?_
    refine L_br (p1 := 14) (p2 := 10) (c265 7 rfl) rfl jc_gt h (fun h => ?_) (fun h => ?_)
    · refine L_ps c265 (n := 1) (pc1 := 15) (ls1 := [jI v0, jI v1, jI v2]) (st1 := [jI 0]) rfl ?_
      exact L_retB (c265 15 rfl) (Or.inl rfl) (hQ false _ hM h)
    · refine L_ps c265 (n := 2) (pc1 := 15) (ls1 := [jI v0, jI v1, jI v2]) (st1 := [jI 1]) rfl ?_
      exact L_retB (c265 15 rfl) (Or.inr rfl) (hQ true _ hM h)
theorem k_Md_may_j26 {E : JE2} {t1 : Int} {μ : Mem} {M : JM} {P : JO → JM → Prop} {g1 : JV} {g2 : JV} {g3 : JV} {Q : Bool → Mem → Prop} (hM : Rl E M μ) (hQ : ∀ (r : Bool) (M1 : JM) (μ1 : Mem), Rl E M1 μ1 → Q r μ1 → P (.inl (some (.inl (b2i r)))) M1) (h : d_Md_may_j26 t1 μ Q) : JX 266 26 [jR 772, g1, g2, g3] [jI t1, jR 772] M P := by
  unfold d_Md_may_j26 at h
  refine L_putI (c266 26 rfl) hM rt772 rfl (fun M hM => ?_)
  refine L_ps c266 (n := 1) (pc1 := 30) (ls1 := [jR 772, g1, g2, g3]) (st1 := [jR 772]) rfl ?_
  refine L_getI (c266 30 rfl) hM rt772 rfl ?_
  refine L_nb (p1 := 40) (p2 := 36) (c266 33 rfl) rfl jc_ne h (fun h => ?_) (fun h => ?_)
  · refine L_ps c266 (n := 2) (pc1 := 41) (ls1 := [jR 772, g1, g2, g3]) (st1 := [jI 1]) rfl ?_
    exact L_retB (c266 41 rfl) (Or.inr rfl) (hQ true _ _ hM h)
  · refine L_ps c266 (n := 1) (pc1 := 41) (ls1 := [jR 772, g1, g2, g3]) (st1 := [jI 0]) rfl ?_
    exact L_retB (c266 41 rfl) (Or.inl rfl) (hQ false _ _ hM h)
theorem k_Md_may {E : JE2} {v1 : Int} {v2 : Int} {v3 : Int} {μ : Mem} {M : JM} {Q : Bool → Mem → Prop} (hM : Rl E M μ) (h : d_Md_may v1 v2 v3 μ Q) : JX 266 0 (jargs 266 [jR 772, jI v1, jI v2, jI v3]) [] M (PO E (QB Q) XN) := by
  unfold d_Md_may at h
  show JX 266 0 [jR 772, jI v1, jI v2, jI v3] [] M (PO E (QB Q) XN)
  generalize hP : PO E (QB Q) XN = P
  have hQ : ∀ (r : Bool) (M1 : JM) (μ1 : Mem), Rl E M1 μ1 → Q r μ1 → P (.inl (some (.inl (b2i r)))) M1 := by rw [← hP]; exact fun r M1 μ1 a b => ⟨μ1, a, r, rfl, b⟩
  clear hP
  refine L_ps c266 (n := 2) (pc1 := 2) (ls1 := [jR 772, jI v1, jI v2, jI v3]) (st1 := [jI v1, jR 772]) rfl ?_
  refine L_nb (p1 := 9) (p2 := 5) (c266 2 rfl) rfl jc_ne h (fun h => ?_) (fun h => ?_)
  · refine L_ps c266 (n := 2) (pc1 := 26) (ls1 := [jR 772, jI v1, jI v2, jI v3]) (st1 := [jI 1, jR 772]) rfl ?_
    exact k_Md_may_j26 hM hQ h
  · refine L_ps c266 (n := 1) (pc1 := 10) (ls1 := [jR 772, jI v1, jI v2, jI v3]) (st1 := [jI v2, jR 772]) rfl ?_
    refine L_nb (p1 := 17) (p2 := 13) (c266 10 rfl) rfl jc_ne h (fun h => ?_) (fun h => ?_)
    · refine L_ps c266 (n := 2) (pc1 := 26) (ls1 := [jR 772, jI v1, jI v2, jI v3]) (st1 := [jI 2, jR 772]) rfl ?_
      exact k_Md_may_j26 hM hQ h
    · refine L_ps c266 (n := 1) (pc1 := 18) (ls1 := [jR 772, jI v1, jI v2, jI v3]) (st1 := [jI v3, jR 772]) rfl ?_
      refine L_br (p1 := 25) (p2 := 21) (c266 18 rfl) rfl jc_eq h (fun h => ?_) (fun h => ?_)
      · refine L_ps c266 (n := 1) (pc1 := 26) (ls1 := [jR 772, jI v1, jI v2, jI v3]) (st1 := [jI 3, jR 772]) rfl ?_
        exact k_Md_may_j26 hM hQ h
      · refine L_ps c266 (n := 2) (pc1 := 26) (ls1 := [jR 772, jI v1, jI v2, jI v3]) (st1 := [jI 0, jR 772]) rfl ?_
        exact k_Md_may_j26 hM hQ h
theorem k_Md_lays_b3 {E : JE2} {v0 : Nat} {v1 : Int} {v2 : Nat} {v3 : Int} {v4 : Int} {v5 : Int} {μ : Mem} {M : JM} {P : JO → JM → Prop} {W3 : Int → Mem → Prop} {Q : Mem → Prop} (hv0 : rt v0 = 100) (hv2 : rt v2 = 100) (hM : Rl E M μ) (hQ : ∀ (M1 : JM) (μ1 : Mem), Rl E M1 μ1 → Q μ1 → P (.inl none) M1) (hW3 : ∀ (v5 : Int) (M1 : JM) (μ1 : Mem), Rl E M1 μ1 → W3 v5 μ1 → JX 267 3 [jR v0, jI v1, jR v2, jI v3, jI v4, jI v5] [] M1 P) (h : d_Md_lays_b3 v0 v1 v2 v3 v4 v5 μ W3 Q) : JX 267 3 [jR v0, jI v1, jR v2, jI v3, jI v4, jI v5] [] M P := by
  unfold d_Md_lays_b3 at h
  refine L_ps c267 (n := 2) (pc1 := 7) (ls1 := [jR v0, jI v1, jR v2, jI v3, jI v4, jI v5]) (st1 := [jI v4, jI v5]) rfl ?_
  refine L_nb (p1 := 28) (p2 := 10) (c267 7 rfl) rfl jc_ge h (fun h => ?_) (fun h => ?_)
  · refine L_ps c267 (n := 8) (pc1 := 20) (ls1 := [jR v0, jI v1, jR v2, jI v3, jI v4, jI v5]) (st1 := [jI (wr (v1 + v5)), jR v0, jI (wr (v3 + v5)), jR v2]) rfl ?_
    obtain ⟨hb, h⟩ := h
    refine L_iald (c267 20 rfl) hM hv0 rfl hb ?_
    obtain ⟨hb, h⟩ := h
    refine L_iast (c267 21 rfl) hM hv2 rfl hb (fun M hM => ?_)
    refine L_ps c267 (n := 2) (pc1 := 3) (ls1 := [jR v0, jI v1, jR v2, jI v3, jI v4, jI (wr (v5 + 1))]) (st1 := []) rfl ?_
    exact hW3 _ _ _ hM h
  · exact L_end (c267 28 rfl) rfl (hQ _ _ hM h)
theorem k_Md_lays_l3 {E : JE2} {v0 : Nat} {v1 : Int} {v2 : Nat} {v3 : Int} {v4 : Int} {v5 : Int} {μ : Mem} {M : JM} {P : JO → JM → Prop} {Q : Mem → Prop} (hv0 : rt v0 = 100) (hv2 : rt v2 = 100) (hM : Rl E M μ) (hQ : ∀ (M1 : JM) (μ1 : Mem), Rl E M1 μ1 → Q μ1 → P (.inl none) M1) (h : d_Md_lays_l3 v0 v1 v2 v3 v4 v5 μ Q) : JX 267 3 [jR v0, jI v1, jR v2, jI v3, jI v4, jI v5] [] M P := by
  refine h (fun v5 μ => ∀ (M : JM), Rl E M μ → JX 267 3 [jR v0, jI v1, jR v2, jI v3, jI v4, jI v5] [] M P) ?_ _ hM
  intro v5 μ h M hM
  exact k_Md_lays_b3 hv0 hv2 hM hQ (fun v5 M μ hM h => h M hM) h
theorem k_Md_lays {E : JE2} {v0 : Nat} {v1 : Int} {v2 : Nat} {v3 : Int} {v4 : Int} {μ : Mem} {M : JM} {Q : Mem → Prop} (hv0 : rt v0 = 100) (hv2 : rt v2 = 100) (hM : Rl E M μ) (h : d_Md_lays v0 v1 v2 v3 v4 μ Q) : JX 267 0 (jargs 267 [jR v0, jI v1, jR v2, jI v3, jI v4]) [] M (PO E (QV Q) XN) := by
  unfold d_Md_lays at h
  show JX 267 0 [jR v0, jI v1, jR v2, jI v3, jI v4, jU] [] M (PO E (QV Q) XN)
  generalize hP : PO E (QV Q) XN = P
  have hQ : ∀ (M1 : JM) (μ1 : Mem), Rl E M1 μ1 → Q μ1 → P (.inl none) M1 := by rw [← hP]; exact fun M1 μ1 a b => ⟨μ1, a, rfl, b⟩
  clear hP
  refine L_ps c267 (n := 2) (pc1 := 3) (ls1 := [jR v0, jI v1, jR v2, jI v3, jI v4, jI 0]) (st1 := []) rfl ?_
  exact k_Md_lays_l3 hv0 hv2 hM hQ h
theorem k_Md_isSmall {E : JE2} {v1 : Int} {μ : Mem} {M : JM} {Q : Bool → Prop} (hM : Rl E M μ) (h : d_Md_isSmall v1 μ Q) : JX 270 0 (jargs 270 [jR 772, jI v1]) [] M (PO E (pQB μ Q) XN) := by
  unfold d_Md_isSmall at h
  show JX 270 0 [jR 772, jI v1] [] M (PO E (pQB μ Q) XN)
  generalize hP : PO E (pQB μ Q) XN = P
  have hQ : ∀ (r : Bool) (M1 : JM), Rl E M1 μ → Q r → P (.inl (some (.inl (b2i r)))) M1 := by rw [← hP]; exact fun r M1 a b => ⟨μ, a, rfl, r, rfl, b⟩
  clear hP
  refine L_ps c270 (n := 2) (pc1 := 2) (ls1 := [jR 772, jI v1]) (st1 := [jR 772, jI v1]) rfl ?_
  refine L_getI (c270 2 rfl) hM rt772 rfl ?_
  refine L_nb (p1 := 28) (p2 := 8) (c270 5 rfl) rfl jc_ge h (fun h => ?_) (fun h => ?_)
  · refine L_ps c270 (n := 1) (pc1 := 9) (ls1 := [jR 772, jI v1]) (st1 := [jR 772]) rfl ?_
    refine L_getP (d := 6) (c270 9 rfl) hM rt772 rfl ?_
    refine L_ps c270 (n := 1) (pc1 := 13) (ls1 := [jR 772, jI v1]) (st1 := [jI v1, jR 778]) rfl ?_
    obtain ⟨hb, h⟩ := h
    refine L_bald (c270 13 rfl) hM (Or.inl rt778) ln778 hb ?_
    refine L_ps c270 (n := 2) (pc1 := 18) (ls1 := [jR 772, jI v1]) (st1 := [jI 122, jI 97, jI (μ 778 v1.toNat)]) rfl ?_
    refine L_cpB (c270 18 rfl) (js_t rfl) hh270 (k_Md_in hM h) (fun r1 M hM h => ?_) (fun _ _ _ _ f => f.elim)
    refine L_nb (p1 := 28) (p2 := 24) (c270 21 rfl) rfl jc_eqb h (fun h => ?_) (fun h => ?_)
    · refine L_ps c270 (n := 2) (pc1 := 29) (ls1 := [jR 772, jI v1]) (st1 := [jI 1]) rfl ?_
      exact L_retB (c270 29 rfl) (Or.inr rfl) (hQ true _ hM h)
    · refine L_ps c270 (n := 1) (pc1 := 29) (ls1 := [jR 772, jI v1]) (st1 := [jI 0]) rfl ?_
      exact L_retB (c270 29 rfl) (Or.inl rfl) (hQ false _ hM h)
  · refine L_ps c270 (n := 1) (pc1 := 29) (ls1 := [jR 772, jI v1]) (st1 := [jI 0]) rfl ?_
    exact L_retB (c270 29 rfl) (Or.inl rfl) (hQ false _ hM h)
theorem k_Md_signOf {E : JE2} {v0 : Int} {μ : Mem} {M : JM} {Q : Int → Prop} (hM : Rl E M μ) (h : d_Md_signOf v0 μ Q) : JX 271 0 (jargs 271 [jI v0]) [] M (PO E (pQI μ Q) XN) := by
  unfold d_Md_signOf at h
  show JX 271 0 [jI v0] [] M (PO E (pQI μ Q) XN)
  generalize hP : PO E (pQI μ Q) XN = P
  have hQ : ∀ (r : Int) (M1 : JM), Rl E M1 μ → Q r → P (.inl (some (.inl r))) M1 := by rw [← hP]; exact fun r M1 a b => ⟨μ, a, rfl, r, rfl, b⟩
  clear hP
  refine L_ps c271 (n := 3) (pc1 := 5) (ls1 := [jI v0]) (st1 := [jI 72, jI 65, jI v0]) rfl ?_
  refine L_cpB (c271 5 rfl) (js_t rfl) hh271 (k_Md_in hM h) (fun r1 M hM h => ?_) (fun _ _ _ _ f => f.elim)
  refine L_nb (p1 := 13) (p2 := 11) (c271 8 rfl) rfl jc_eqb h (fun h => ?_) (fun h => ?_)
  · refine L_ps c271 (n := 1) (pc1 := 12) (ls1 := [jI v0]) (st1 := [jI 3]) rfl ?_
    exact L_retI (c271 12 rfl) (hQ _ _ hM h)
  · refine L_ps c271 (n := 3) (pc1 := 18) (ls1 := [jI v0]) (st1 := [jI 57, jI 48, jI v0]) rfl ?_
    refine L_cpB (c271 18 rfl) (js_t rfl) hh271 (k_Md_in hM h) (fun r3 M hM h => ?_) (fun _ _ _ _ f => f.elim)
    refine L_nb (p1 := 26) (p2 := 24) (c271 21 rfl) rfl jc_eqb h (fun h => ?_) (fun h => ?_)
    · refine L_ps c271 (n := 1) (pc1 := 25) (ls1 := [jI v0]) (st1 := [jI 4]) rfl ?_
      exact L_retI (c271 25 rfl) (hQ _ _ hM h)
    · refine L_ps c271 (n := 1) (pc1 := 27) (ls1 := [jI v0]) (st1 := [jI v0]) rfl ?_
      by_cases hk40 : v0 = 40
      · rw [if_pos hk40] at h
        refine L_lsw (l0 := [(40, 57), (41, 60), (44, 54), (59, 49), (61, 51)]) (tgt := 84) (c271 27 rfl) rfl (by rw [hk40]; decide) ?_
        refine L_ps c271 (n := 1) (pc1 := 86) (ls1 := [jI v0]) (st1 := [jI 8]) rfl ?_
        exact L_retI (c271 86 rfl) (hQ _ _ hM h)
      rw [if_neg hk40] at h
      by_cases hk41 : v0 = 41
      · rw [if_pos hk41] at h
        refine L_lsw (l0 := [(40, 57), (41, 60), (44, 54), (59, 49), (61, 51)]) (tgt := 87) (c271 27 rfl) rfl (by rw [hk41]; decide) ?_
        refine L_ps c271 (n := 1) (pc1 := 89) (ls1 := [jI v0]) (st1 := [jI 9]) rfl ?_
        exact L_retI (c271 89 rfl) (hQ _ _ hM h)
      rw [if_neg hk41] at h
      by_cases hk44 : v0 = 44
      · rw [if_pos hk44] at h
        refine L_lsw (l0 := [(40, 57), (41, 60), (44, 54), (59, 49), (61, 51)]) (tgt := 81) (c271 27 rfl) rfl (by rw [hk44]; decide) ?_
        refine L_ps c271 (n := 1) (pc1 := 83) (ls1 := [jI v0]) (st1 := [jI 7]) rfl ?_
        exact L_retI (c271 83 rfl) (hQ _ _ hM h)
      rw [if_neg hk44] at h
      by_cases hk59 : v0 = 59
      · rw [if_pos hk59] at h
        refine L_lsw (l0 := [(40, 57), (41, 60), (44, 54), (59, 49), (61, 51)]) (tgt := 76) (c271 27 rfl) rfl (by rw [hk59]; decide) ?_
        refine L_ps c271 (n := 1) (pc1 := 77) (ls1 := [jI v0]) (st1 := [jI 5]) rfl ?_
        exact L_retI (c271 77 rfl) (hQ _ _ hM h)
      rw [if_neg hk59] at h
      by_cases hk61 : v0 = 61
      · rw [if_pos hk61] at h
        refine L_lsw (l0 := [(40, 57), (41, 60), (44, 54), (59, 49), (61, 51)]) (tgt := 78) (c271 27 rfl) rfl (by rw [hk61]; decide) ?_
        refine L_ps c271 (n := 1) (pc1 := 80) (ls1 := [jI v0]) (st1 := [jI 6]) rfl ?_
        exact L_retI (c271 80 rfl) (hQ _ _ hM h)
      rw [if_neg hk61] at h
      refine L_lsw (l0 := [(40, 57), (41, 60), (44, 54), (59, 49), (61, 51)]) (tgt := 90) (c271 27 rfl) rfl (by rw [lsw_1 (fun q => hk40 q.symm), lsw_1 (fun q => hk41 q.symm), lsw_1 (fun q => hk44 q.symm), lsw_1 (fun q => hk59 q.symm), lsw_1 (fun q => hk61 q.symm)]; rfl) ?_
      refine L_ps c271 (n := 1) (pc1 := 91) (ls1 := [jI v0]) (st1 := [jI 0]) rfl ?_
      exact L_retI (c271 91 rfl) (hQ _ _ hM h)
theorem k_Md_goes_j128 {E : JE2} {t1 : Int} {μ : Mem} {M : JM} {P : JO → JM → Prop} {g0 : JV} {Q : Mem → Prop} (hM : Rl E M μ) (hQ : ∀ (M1 : JM) (μ1 : Mem), Rl E M1 μ1 → Q μ1 → P (.inl none) M1) (h : d_Md_goes_j128 t1 μ Q) : JX 269 128 [g0] [jI t1, jR 772] M P := by
  unfold d_Md_goes_j128 at h
  refine L_putI (c269 128 rfl) hM rt772 rfl (fun M hM => ?_)
  refine L_ps c269 (n := 1) (pc1 := 160) (ls1 := [g0]) (st1 := []) rfl ?_
  exact L_end (c269 160 rfl) rfl (hQ _ _ hM h)
theorem k_Md_goes_b84 {E : JE2} {μ : Mem} {M : JM} {P : JO → JM → Prop} {W84 : Mem → Prop} {Q : Mem → Prop} (hM : Rl E M μ) (hQ : ∀ (M1 : JM) (μ1 : Mem), Rl E M1 μ1 → Q μ1 → P (.inl none) M1) (hW84 : ∀ (M1 : JM) (μ1 : Mem), Rl E M1 μ1 → W84 μ1 → JX 269 84 [jR 772] [] M1 P) (h : d_Md_goes_b84 μ W84 Q) : JX 269 84 [jR 772] [] M P := by
  unfold d_Md_goes_b84 at h
  refine L_ps c269 (n := 2) (pc1 := 86) (ls1 := [jR 772]) (st1 := [jR 772, jR 772]) rfl ?_
  refine L_getI (c269 86 rfl) hM rt772 rfl ?_
  refine L_cpB (c269 89 rfl) (js_v rfl ((Rl_tag hM rt772 (by decide)).trans js270)) hh269 (k_Md_isSmall hM h) (fun r3 M hM h => ?_) (fun _ _ _ _ f => f.elim)
  refine L_nb (p1 := 108) (p2 := 95) (c269 92 rfl) rfl jc_eqb h (fun h => ?_) (fun h => ?_)
  · refine L_ps c269 (n := 2) (pc1 := 97) (ls1 := [jR 772]) (st1 := [jR 772, jR 772]) rfl ?_
    refine L_getI (c269 97 rfl) hM rt772 rfl ?_
    refine L_ps c269 (n := 2) (pc1 := 102) (ls1 := [jR 772]) (st1 := [jI (wr ((μ 772 13) + 1)), jR 772]) rfl ?_
    refine L_putI (c269 102 rfl) hM rt772 rfl (fun M hM => ?_)
    refine L_ps c269 (n := 1) (pc1 := 84) (ls1 := [jR 772]) (st1 := []) rfl ?_
    exact hW84 _ _ hM h
  · refine L_ps c269 (n := 2) (pc1 := 110) (ls1 := [jR 772]) (st1 := [jR 772, jR 772]) rfl ?_
    refine L_getI (c269 110 rfl) hM rt772 rfl ?_
    refine L_ps c269 (n := 1) (pc1 := 114) (ls1 := [jR 772]) (st1 := [jR 772, jI (μ 772 13), jR 772]) rfl ?_
    refine L_getI (c269 114 rfl) hM rt772 rfl ?_
    refine L_ps c269 (n := 2) (pc1 := 120) (ls1 := [jR 772]) (st1 := [jI 6, jI (wr ((μ 772 13) - (μ 772 14))), jR 772]) rfl ?_
    refine L_br (p1 := 127) (p2 := 123) (c269 120 rfl) rfl jc_gt h (fun h => ?_) (fun h => ?_)
    · refine L_ps c269 (n := 1) (pc1 := 128) (ls1 := [jR 772]) (st1 := [jI 0, jR 772]) rfl ?_
      exact k_Md_goes_j128 hM hQ h
    · refine L_ps c269 (n := 2) (pc1 := 128) (ls1 := [jR 772]) (st1 := [jI 2, jR 772]) rfl ?_
      exact k_Md_goes_j128 hM hQ h
theorem k_Md_goes_l84 {E : JE2} {μ : Mem} {M : JM} {P : JO → JM → Prop} {Q : Mem → Prop} (hM : Rl E M μ) (hQ : ∀ (M1 : JM) (μ1 : Mem), Rl E M1 μ1 → Q μ1 → P (.inl none) M1) (h : d_Md_goes_l84 μ Q) : JX 269 84 [jR 772] [] M P := by
  refine h (fun μ => ∀ (M : JM), Rl E M μ → JX 269 84 [jR 772] [] M P) ?_ _ hM
  intro μ h M hM
  exact k_Md_goes_b84 hM hQ (fun M μ hM h => h M hM) h
theorem k_Md_goes_j46 {E : JE2} {μ : Mem} {M : JM} {P : JO → JM → Prop} {Q : Mem → Prop} (hM : Rl E M μ) (hQ : ∀ (M1 : JM) (μ1 : Mem), Rl E M1 μ1 → Q μ1 → P (.inl none) M1) (h : d_Md_goes_j46 μ Q) : JX 269 46 [jR 772] [] M P := by
  unfold d_Md_goes_j46 at h
  refine L_ps c269 (n := 2) (pc1 := 48) (ls1 := [jR 772]) (st1 := [jR 772, jR 772]) rfl ?_
  refine L_getI (c269 48 rfl) hM rt772 rfl ?_
  refine L_putI (c269 51 rfl) hM rt772 rfl (fun M hM => ?_)
  refine L_ps c269 (n := 1) (pc1 := 55) (ls1 := [jR 772]) (st1 := [jR 772]) rfl ?_
  refine L_getI (c269 55 rfl) hM rt772 rfl ?_
  refine L_ps c269 (n := 1) (pc1 := 59) (ls1 := [jR 772]) (st1 := [jR 772, jI ((mup μ 772 14 (μ 772 13)) 772 13)]) rfl ?_
  refine L_getI (c269 59 rfl) hM rt772 rfl ?_
  refine L_nb (p1 := 73) (p2 := 65) (c269 62 rfl) rfl jc_ne h (fun h => ?_) (fun h => ?_)
  · refine L_ps c269 (n := 2) (pc1 := 67) (ls1 := [jR 772]) (st1 := [jI 1, jR 772]) rfl ?_
    refine L_putI (c269 67 rfl) hM rt772 rfl (fun M hM => ?_)
    refine L_ps c269 (n := 1) (pc1 := 160) (ls1 := [jR 772]) (st1 := []) rfl ?_
    exact L_end (c269 160 rfl) rfl (hQ _ _ hM h)
  · refine L_ps c269 (n := 2) (pc1 := 75) (ls1 := [jR 772]) (st1 := [jR 772, jR 772]) rfl ?_
    refine L_getI (c269 75 rfl) hM rt772 rfl ?_
    refine L_cpB (c269 78 rfl) (js_v rfl ((Rl_tag hM rt772 (by decide)).trans js270)) hh269 (k_Md_isSmall hM h) (fun r1 M hM h => ?_) (fun _ _ _ _ f => f.elim)
    refine L_nb (p1 := 134) (p2 := 84) (c269 81 rfl) rfl jc_eqb h (fun h => ?_) (fun h => ?_)
    · exact k_Md_goes_l84 hM hQ h
    · refine L_ps c269 (n := 2) (pc1 := 136) (ls1 := [jR 772]) (st1 := [jR 772, jR 772]) rfl ?_
      refine L_getP (d := 6) (c269 136 rfl) hM rt772 rfl ?_
      refine L_ps c269 (n := 1) (pc1 := 140) (ls1 := [jR 772]) (st1 := [jR 772, jR 778, jR 772]) rfl ?_
      refine L_getI (c269 140 rfl) hM rt772 rfl ?_
      obtain ⟨hb, h⟩ := h
      refine L_bald (c269 143 rfl) hM (Or.inl rt778) ln778 hb ?_
      refine L_cpI (c269 144 rfl) (js_t rfl) hh269 (k_Md_signOf hM h) (fun r5 M hM h => ?_) (fun _ _ _ _ f => f.elim)
      refine L_putI (c269 147 rfl) hM rt772 rfl (fun M hM => ?_)
      refine L_ps c269 (n := 2) (pc1 := 152) (ls1 := [jR 772]) (st1 := [jR 772, jR 772]) rfl ?_
      refine L_getI (c269 152 rfl) hM rt772 rfl ?_
      refine L_ps c269 (n := 2) (pc1 := 157) (ls1 := [jR 772]) (st1 := [jI (wr (((mup (mup μ 772 14 (μ 772 13)) 772 15 r5) 772 13) + 1)), jR 772]) rfl ?_
      refine L_putI (c269 157 rfl) hM rt772 rfl (fun M hM => ?_)
      exact L_end (c269 160 rfl) rfl (hQ _ _ hM h)
theorem k_Md_goes_b8 {E : JE2} {μ : Mem} {M : JM} {P : JO → JM → Prop} {W8 : Mem → Prop} {Q : Mem → Prop} (hM : Rl E M μ) (hQ : ∀ (M1 : JM) (μ1 : Mem), Rl E M1 μ1 → Q μ1 → P (.inl none) M1) (hW8 : ∀ (M1 : JM) (μ1 : Mem), Rl E M1 μ1 → W8 μ1 → JX 269 8 [jR 772] [] M1 P) (h : d_Md_goes_b8 μ W8 Q) : JX 269 8 [jR 772] [] M P := by
  unfold d_Md_goes_b8 at h
  refine L_ps c269 (n := 1) (pc1 := 9) (ls1 := [jR 772]) (st1 := [jR 772]) rfl ?_
  refine L_getI (c269 9 rfl) hM rt772 rfl ?_
  refine L_ps c269 (n := 1) (pc1 := 13) (ls1 := [jR 772]) (st1 := [jR 772, jI (μ 772 13)]) rfl ?_
  refine L_getI (c269 13 rfl) hM rt772 rfl ?_
  refine L_nb (p1 := 46) (p2 := 19) (c269 16 rfl) rfl jc_ge h (fun h => ?_) (fun h => ?_)
  · refine L_ps c269 (n := 1) (pc1 := 20) (ls1 := [jR 772]) (st1 := [jR 772]) rfl ?_
    refine L_getP (d := 6) (c269 20 rfl) hM rt772 rfl ?_
    refine L_ps c269 (n := 1) (pc1 := 24) (ls1 := [jR 772]) (st1 := [jR 772, jR 778]) rfl ?_
    refine L_getI (c269 24 rfl) hM rt772 rfl ?_
    obtain ⟨hb, h⟩ := h
    refine L_bald (c269 27 rfl) hM (Or.inl rt778) ln778 hb ?_
    refine L_ps c269 (n := 1) (pc1 := 30) (ls1 := [jR 772]) (st1 := [jI 32, jI (μ 778 (μ 772 13).toNat)]) rfl ?_
    refine L_nb (p1 := 46) (p2 := 33) (c269 30 rfl) rfl jc_ne h (fun h => ?_) (fun h => ?_)
    · refine L_ps c269 (n := 2) (pc1 := 35) (ls1 := [jR 772]) (st1 := [jR 772, jR 772]) rfl ?_
      refine L_getI (c269 35 rfl) hM rt772 rfl ?_
      refine L_ps c269 (n := 2) (pc1 := 40) (ls1 := [jR 772]) (st1 := [jI (wr ((μ 772 13) + 1)), jR 772]) rfl ?_
      refine L_putI (c269 40 rfl) hM rt772 rfl (fun M hM => ?_)
      refine L_ps c269 (n := 1) (pc1 := 8) (ls1 := [jR 772]) (st1 := []) rfl ?_
      exact hW8 _ _ hM h
    · exact k_Md_goes_j46 hM hQ h
  · exact k_Md_goes_j46 hM hQ h
theorem k_Md_goes_l8 {E : JE2} {μ : Mem} {M : JM} {P : JO → JM → Prop} {Q : Mem → Prop} (hM : Rl E M μ) (hQ : ∀ (M1 : JM) (μ1 : Mem), Rl E M1 μ1 → Q μ1 → P (.inl none) M1) (h : d_Md_goes_l8 μ Q) : JX 269 8 [jR 772] [] M P := by
  refine h (fun μ => ∀ (M : JM), Rl E M μ → JX 269 8 [jR 772] [] M P) ?_ _ hM
  intro μ h M hM
  exact k_Md_goes_b8 hM hQ (fun M μ hM h => h M hM) h
theorem k_Md_goes {E : JE2} {μ : Mem} {M : JM} {Q : Mem → Prop} (hM : Rl E M μ) (h : d_Md_goes μ Q) : JX 269 0 (jargs 269 [jR 772]) [] M (PO E (QV Q) XN) := by
  unfold d_Md_goes at h
  show JX 269 0 [jR 772] [] M (PO E (QV Q) XN)
  generalize hP : PO E (QV Q) XN = P
  have hQ : ∀ (M1 : JM) (μ1 : Mem), Rl E M1 μ1 → Q μ1 → P (.inl none) M1 := by rw [← hP]; exact fun M1 μ1 a b => ⟨μ1, a, rfl, b⟩
  clear hP
  refine L_ps c269 (n := 1) (pc1 := 1) (ls1 := [jR 772]) (st1 := [jR 772]) rfl ?_
  refine L_getI (c269 1 rfl) hM rt772 rfl ?_
  refine L_nb (p1 := 8) (p2 := 7) (c269 4 rfl) rfl jc_le h (fun h => ?_) (fun h => ?_)
  · exact L_end (c269 7 rfl) rfl (hQ _ _ hM h)
  · exact k_Md_goes_l8 hM hQ h
theorem k_Md_is {E : JE2} {v1 : Int} {μ : Mem} {M : JM} {Q : Bool → Prop} (hM : Rl E M μ) (h : d_Md_is v1 μ Q) : JX 273 0 (jargs 273 [jR 772, jI v1]) [] M (PO E (pQB μ Q) XN) := by
  unfold d_Md_is at h
  show JX 273 0 [jR 772, jI v1] [] M (PO E (pQB μ Q) XN)
  generalize hP : PO E (pQB μ Q) XN = P
  have hQ : ∀ (r : Bool) (M1 : JM), Rl E M1 μ → Q r → P (.inl (some (.inl (b2i r)))) M1 := by rw [← hP]; exact fun r M1 a b => ⟨μ, a, rfl, r, rfl, b⟩
  clear hP
  refine L_ps c273 (n := 1) (pc1 := 1) (ls1 := [jR 772, jI v1]) (st1 := [jR 772]) rfl ?_
  refine L_getI (c273 1 rfl) hM rt772 rfl ?_
  refine L_nb (p1 := 19) (p2 := 7) (c273 4 rfl) rfl jc_ne h (fun h => ?_) (fun h => ?_)
  · refine L_ps c273 (n := 1) (pc1 := 8) (ls1 := [jR 772, jI v1]) (st1 := [jR 772]) rfl ?_
    refine L_getI (c273 8 rfl) hM rt772 rfl ?_
    refine L_ps c273 (n := 1) (pc1 := 12) (ls1 := [jR 772, jI v1]) (st1 := [jI v1, jI (μ 772 15)]) rfl ?_
    refine L_nb (p1 := 19) (p2 := 15) (c273 12 rfl) rfl jc_ne h (fun h => ?_) (fun h => ?_)
    · refine L_ps c273 (n := 2) (pc1 := 20) (ls1 := [jR 772, jI v1]) (st1 := [jI 1]) rfl ?_
      exact L_retB (c273 20 rfl) (Or.inr rfl) (hQ true _ hM h)
    · refine L_ps c273 (n := 1) (pc1 := 20) (ls1 := [jR 772, jI v1]) (st1 := [jI 0]) rfl ?_
      exact L_retB (c273 20 rfl) (Or.inl rfl) (hQ false _ hM h)
  · refine L_ps c273 (n := 1) (pc1 := 20) (ls1 := [jR 772, jI v1]) (st1 := [jI 0]) rfl ?_
    exact L_retB (c273 20 rfl) (Or.inl rfl) (hQ false _ hM h)
theorem k_Md_isWord_b28 {E : JE2} {v1 : Nat} {v2 : Int} {μ : Mem} {M : JM} {P : JO → JM → Prop} {W28 : Int → Prop} {Q : Bool → Prop} (hlit : v1 < 7) (hM : Rl E M μ) (hQ : ∀ (r : Bool) (M1 : JM), Rl E M1 μ → Q r → P (.inl (some (.inl (b2i r)))) M1) (hW28 : ∀ (v2 : Int) (M1 : JM), Rl E M1 μ → W28 v2 → JX 272 28 [jR 772, jR (2000000 + v1), jI v2] [] M1 P) (h : d_Md_isWord_b28 v1 v2 μ W28 Q) : JX 272 28 [jR 772, jR (2000000 + v1), jI v2] [] M P := by
  unfold d_Md_isWord_b28 at h
  refine L_ps c272 (n := 2) (pc1 := 30) (ls1 := [jR 772, jR (2000000 + v1), jI v2]) (st1 := [jR (2000000 + v1), jI v2]) rfl ?_
  refine L_cpI (c272 30 rfl) (js_v rfl ((str_tag hlit).trans js27)) hh272 (k_String_length hlit hM h) (fun r5 M hM h => ?_) (fun _ _ _ _ f => f.elim)
  refine L_nb (p1 := 63) (p2 := 36) (c272 33 rfl) rfl jc_ge h (fun h => ?_) (fun h => ?_)
  · refine L_ps c272 (n := 1) (pc1 := 37) (ls1 := [jR 772, jR (2000000 + v1), jI v2]) (st1 := [jR 772]) rfl ?_
    refine L_getP (d := 6) (c272 37 rfl) hM rt772 rfl ?_
    refine L_ps c272 (n := 1) (pc1 := 41) (ls1 := [jR 772, jR (2000000 + v1), jI v2]) (st1 := [jR 772, jR 778]) rfl ?_
    refine L_getI (c272 41 rfl) hM rt772 rfl ?_
    refine L_ps c272 (n := 2) (pc1 := 46) (ls1 := [jR 772, jR (2000000 + v1), jI v2]) (st1 := [jI (wr ((μ 772 14) + v2)), jR 778]) rfl ?_
    obtain ⟨hb, h⟩ := h
    refine L_bald (c272 46 rfl) hM (Or.inl rt778) ln778 hb ?_
    refine L_ps c272 (n := 2) (pc1 := 49) (ls1 := [jR 772, jR (2000000 + v1), jI v2]) (st1 := [jI v2, jR (2000000 + v1), jI (μ 778 (wr ((μ 772 14) + v2)).toNat)]) rfl ?_
    refine L_cpI (c272 49 rfl) (js_v rfl ((str_tag hlit).trans js29)) hh272 (k_String_charAt hlit hM h) (fun r7 M hM h => ?_) (fun _ _ _ _ f => f.elim)
    refine L_br (p1 := 57) (p2 := 55) (c272 52 rfl) rfl jc_eq h (fun h => ?_) (fun h => ?_)
    · refine L_ps c272 (n := 2) (pc1 := 28) (ls1 := [jR 772, jR (2000000 + v1), jI (wr (v2 + 1))]) (st1 := []) rfl ?_
      exact hW28 _ _ hM h
    · refine L_ps c272 (n := 1) (pc1 := 56) (ls1 := [jR 772, jR (2000000 + v1), jI v2]) (st1 := [jI 0]) rfl ?_
      exact L_retB (c272 56 rfl) (Or.inl rfl) (hQ false _ hM h)
  · refine L_ps c272 (n := 1) (pc1 := 64) (ls1 := [jR 772, jR (2000000 + v1), jI v2]) (st1 := [jI 1]) rfl ?_
    exact L_retB (c272 64 rfl) (Or.inr rfl) (hQ true _ hM h)
theorem k_Md_isWord_l28 {E : JE2} {v1 : Nat} {v2 : Int} {μ : Mem} {M : JM} {P : JO → JM → Prop} {Q : Bool → Prop} (hlit : v1 < 7) (hM : Rl E M μ) (hQ : ∀ (r : Bool) (M1 : JM), Rl E M1 μ → Q r → P (.inl (some (.inl (b2i r)))) M1) (h : d_Md_isWord_l28 v1 v2 μ Q) : JX 272 28 [jR 772, jR (2000000 + v1), jI v2] [] M P := by
  refine h (fun v2 => ∀ (M : JM), Rl E M μ → JX 272 28 [jR 772, jR (2000000 + v1), jI v2] [] M P) ?_ _ hM
  intro v2 h M hM
  exact k_Md_isWord_b28 hlit hM hQ (fun v2 M hM h => h M hM) h
theorem k_Md_isWord {E : JE2} {v1 : Nat} {μ : Mem} {M : JM} {Q : Bool → Prop} (hlit : v1 < 7) (hM : Rl E M μ) (h : d_Md_isWord v1 μ Q) : JX 272 0 (jargs 272 [jR 772, jR (2000000 + v1)]) [] M (PO E (pQB μ Q) XN) := by
  unfold d_Md_isWord at h
  show JX 272 0 [jR 772, jR (2000000 + v1), jU] [] M (PO E (pQB μ Q) XN)
  generalize hP : PO E (pQB μ Q) XN = P
  have hQ : ∀ (r : Bool) (M1 : JM), Rl E M1 μ → Q r → P (.inl (some (.inl (b2i r)))) M1 := by rw [← hP]; exact fun r M1 a b => ⟨μ, a, rfl, r, rfl, b⟩
  clear hP
  refine L_ps c272 (n := 2) (pc1 := 2) (ls1 := [jR 772, jR (2000000 + v1), jU]) (st1 := [jI 2, jR 772]) rfl ?_
  refine L_cpB (c272 2 rfl) (js_v rfl ((Rl_tag hM rt772 (by decide)).trans js273)) hh272 (k_Md_is hM h) (fun r1 M hM h => ?_) (fun _ _ _ _ f => f.elim)
  refine L_nb (p1 := 24) (p2 := 8) (c272 5 rfl) rfl jc_eqb h (fun h => ?_) (fun h => ?_)
  · refine L_ps c272 (n := 1) (pc1 := 9) (ls1 := [jR 772, jR (2000000 + v1), jU]) (st1 := [jR 772]) rfl ?_
    refine L_getI (c272 9 rfl) hM rt772 rfl ?_
    refine L_ps c272 (n := 1) (pc1 := 13) (ls1 := [jR 772, jR (2000000 + v1), jU]) (st1 := [jR 772, jI (μ 772 13)]) rfl ?_
    refine L_getI (c272 13 rfl) hM rt772 rfl ?_
    refine L_ps c272 (n := 2) (pc1 := 18) (ls1 := [jR 772, jR (2000000 + v1), jU]) (st1 := [jR (2000000 + v1), jI (wr ((μ 772 13) - (μ 772 14)))]) rfl ?_
    refine L_cpI (c272 18 rfl) (js_v rfl ((str_tag hlit).trans js27)) hh272 (k_String_length hlit hM h) (fun r3 M hM h => ?_) (fun _ _ _ _ f => f.elim)
    refine L_br (p1 := 26) (p2 := 24) (c272 21 rfl) rfl jc_eq h (fun h => ?_) (fun h => ?_)
    · refine L_ps c272 (n := 2) (pc1 := 28) (ls1 := [jR 772, jR (2000000 + v1), jI 0]) (st1 := []) rfl ?_
      exact k_Md_isWord_l28 hlit hM hQ h
    · refine L_ps c272 (n := 1) (pc1 := 25) (ls1 := [jR 772, jR (2000000 + v1), jU]) (st1 := [jI 0]) rfl ?_
      exact L_retB (c272 25 rfl) (Or.inl rfl) (hQ false _ hM h)
  · refine L_ps c272 (n := 1) (pc1 := 25) (ls1 := [jR 772, jR (2000000 + v1), jU]) (st1 := [jI 0]) rfl ?_
    exact L_retB (c272 25 rfl) (Or.inl rfl) (hQ false _ hM h)
theorem k_Md_faults {E : JE2} {v1 : Int} {μ : Mem} {M : JM} {Q : Mem → Prop} (hM : Rl E M μ) (h : d_Md_faults v1 μ Q) : JX 274 0 (jargs 274 [jR 772, jI v1]) [] M (PO E (QV Q) XN) := by
  unfold d_Md_faults at h
  show JX 274 0 [jR 772, jI v1] [] M (PO E (QV Q) XN)
  generalize hP : PO E (QV Q) XN = P
  have hQ : ∀ (M1 : JM) (μ1 : Mem), Rl E M1 μ1 → Q μ1 → P (.inl none) M1 := by rw [← hP]; exact fun M1 μ1 a b => ⟨μ1, a, rfl, b⟩
  clear hP
  refine L_ps c274 (n := 1) (pc1 := 1) (ls1 := [jR 772, jI v1]) (st1 := [jR 772]) rfl ?_
  refine L_getI (c274 1 rfl) hM rt772 rfl ?_
  refine L_nb (p1 := 8) (p2 := 7) (c274 4 rfl) rfl jc_le h (fun h => ?_) (fun h => ?_)
  · exact L_end (c274 7 rfl) rfl (hQ _ _ hM h)
  · refine L_ps c274 (n := 2) (pc1 := 10) (ls1 := [jR 772, jI v1]) (st1 := [jI v1, jR 772]) rfl ?_
    refine L_putI (c274 10 rfl) hM rt772 rfl (fun M hM => ?_)
    refine L_ps c274 (n := 2) (pc1 := 15) (ls1 := [jR 772, jI v1]) (st1 := [jR 772, jR 772]) rfl ?_
    refine L_getI (c274 15 rfl) hM rt772 rfl ?_
    refine L_putI (c274 18 rfl) hM rt772 rfl (fun M hM => ?_)
    exact L_end (c274 21 rfl) rfl (hQ _ _ hM h)
theorem k_Md_ofSymbol {E : JE2} {v1 : Int} {v2 : Int} {μ : Mem} {M : JM} {Q : Int → Prop} (hM : Rl E M μ) (h : d_Md_ofSymbol v1 v2 μ Q) : JX 279 0 (jargs 279 [jR 772, jI v1, jI v2]) [] M (PO E (pQI μ Q) XN) := by
  unfold d_Md_ofSymbol at h
  show JX 279 0 [jR 772, jI v1, jI v2] [] M (PO E (pQI μ Q) XN)
  generalize hP : PO E (pQI μ Q) XN = P
  have hQ : ∀ (r : Int) (M1 : JM), Rl E M1 μ → Q r → P (.inl (some (.inl r))) M1 := by rw [← hP]; exact fun r M1 a b => ⟨μ, a, rfl, r, rfl, b⟩
  clear hP
  refine L_ps c279 (n := 1) (pc1 := 1) (ls1 := [jR 772, jI v1, jI v2]) (st1 := [jR 772]) rfl ?_
  refine L_getP (d := 1) (c279 1 rfl) hM rt772 rfl ?_
  refine L_ps c279 (n := 7) (pc1 := 12) (ls1 := [jR 772, jI v1, jI v2]) (st1 := [jI (wr ((wr (3 + (wr (8 * v1)))) + v2)), jR 773]) rfl ?_
  obtain ⟨hb, h⟩ := h
  refine L_iald (c279 12 rfl) hM rt773 ln773 hb ?_
  exact L_retI (c279 13 rfl) (hQ _ _ hM h)
theorem k_Md_isNamedHere_b22 {E : JE2} {v1 : Int} {v2 : Int} {μ : Mem} {M : JM} {P : JO → JM → Prop} {W22 : Int → Prop} {Q : Bool → Prop} (hM : Rl E M μ) (hQ : ∀ (r : Bool) (M1 : JM), Rl E M1 μ → Q r → P (.inl (some (.inl (b2i r)))) M1) (hW22 : ∀ (v2 : Int) (M1 : JM), Rl E M1 μ → W22 v2 → JX 278 22 [jR 772, jI v1, jI v2] [] M1 P) (h : d_Md_isNamedHere_b22 v1 v2 μ W22 Q) : JX 278 22 [jR 772, jI v1, jI v2] [] M P := by
  unfold d_Md_isNamedHere_b22 at h
  refine L_ps c278 (n := 2) (pc1 := 24) (ls1 := [jR 772, jI v1, jI v2]) (st1 := [jR 772, jI v2]) rfl ?_
  refine L_getI (c278 24 rfl) hM rt772 rfl ?_
  refine L_ps c278 (n := 1) (pc1 := 28) (ls1 := [jR 772, jI v1, jI v2]) (st1 := [jR 772, jI (μ 772 13), jI v2]) rfl ?_
  refine L_getI (c278 28 rfl) hM rt772 rfl ?_
  refine L_ps c278 (n := 1) (pc1 := 32) (ls1 := [jR 772, jI v1, jI v2]) (st1 := [jI (wr ((μ 772 13) - (μ 772 14))), jI v2]) rfl ?_
  refine L_nb (p1 := 65) (p2 := 35) (c278 32 rfl) rfl jc_ge h (fun h => ?_) (fun h => ?_)
  · refine L_ps c278 (n := 5) (pc1 := 40) (ls1 := [jR 772, jI v1, jI v2]) (st1 := [jI (wr (2 + v2)), jI v1, jR 772]) rfl ?_
    refine L_cpI (c278 40 rfl) (js_v rfl ((Rl_tag hM rt772 (by decide)).trans js279)) hh278 (k_Md_ofSymbol hM h) (fun r3 M hM h => ?_) (fun _ _ _ _ f => f.elim)
    refine L_ps c278 (n := 1) (pc1 := 44) (ls1 := [jR 772, jI v1, jI v2]) (st1 := [jR 772, jI r3]) rfl ?_
    refine L_getP (d := 6) (c278 44 rfl) hM rt772 rfl ?_
    refine L_ps c278 (n := 1) (pc1 := 48) (ls1 := [jR 772, jI v1, jI v2]) (st1 := [jR 772, jR 778, jI r3]) rfl ?_
    refine L_getI (c278 48 rfl) hM rt772 rfl ?_
    refine L_ps c278 (n := 2) (pc1 := 53) (ls1 := [jR 772, jI v1, jI v2]) (st1 := [jI (wr ((μ 772 14) + v2)), jR 778, jI r3]) rfl ?_
    obtain ⟨hb, h⟩ := h
    refine L_bald (c278 53 rfl) hM (Or.inl rt778) ln778 hb ?_
    refine L_br (p1 := 59) (p2 := 57) (c278 54 rfl) rfl jc_eq h (fun h => ?_) (fun h => ?_)
    · refine L_ps c278 (n := 2) (pc1 := 22) (ls1 := [jR 772, jI v1, jI (wr (v2 + 1))]) (st1 := []) rfl ?_
      exact hW22 _ _ hM h
    · refine L_ps c278 (n := 1) (pc1 := 58) (ls1 := [jR 772, jI v1, jI v2]) (st1 := [jI 0]) rfl ?_
      exact L_retB (c278 58 rfl) (Or.inl rfl) (hQ false _ hM h)
  · refine L_ps c278 (n := 1) (pc1 := 66) (ls1 := [jR 772, jI v1, jI v2]) (st1 := [jI 1]) rfl ?_
    exact L_retB (c278 66 rfl) (Or.inr rfl) (hQ true _ hM h)
theorem k_Md_isNamedHere_l22 {E : JE2} {v1 : Int} {v2 : Int} {μ : Mem} {M : JM} {P : JO → JM → Prop} {Q : Bool → Prop} (hM : Rl E M μ) (hQ : ∀ (r : Bool) (M1 : JM), Rl E M1 μ → Q r → P (.inl (some (.inl (b2i r)))) M1) (h : d_Md_isNamedHere_l22 v1 v2 μ Q) : JX 278 22 [jR 772, jI v1, jI v2] [] M P := by
  refine h (fun v2 => ∀ (M : JM), Rl E M μ → JX 278 22 [jR 772, jI v1, jI v2] [] M P) ?_ _ hM
  intro v2 h M hM
  exact k_Md_isNamedHere_b22 hM hQ (fun v2 M hM h => h M hM) h
theorem k_Md_isNamedHere {E : JE2} {v1 : Int} {μ : Mem} {M : JM} {Q : Bool → Prop} (hM : Rl E M μ) (h : d_Md_isNamedHere v1 μ Q) : JX 278 0 (jargs 278 [jR 772, jI v1]) [] M (PO E (pQB μ Q) XN) := by
  unfold d_Md_isNamedHere at h
  show JX 278 0 [jR 772, jI v1, jU] [] M (PO E (pQB μ Q) XN)
  generalize hP : PO E (pQB μ Q) XN = P
  have hQ : ∀ (r : Bool) (M1 : JM), Rl E M1 μ → Q r → P (.inl (some (.inl (b2i r)))) M1 := by rw [← hP]; exact fun r M1 a b => ⟨μ, a, rfl, r, rfl, b⟩
  clear hP
  refine L_ps c278 (n := 3) (pc1 := 3) (ls1 := [jR 772, jI v1, jU]) (st1 := [jI 1, jI v1, jR 772]) rfl ?_
  refine L_cpI (c278 3 rfl) (js_v rfl ((Rl_tag hM rt772 (by decide)).trans js279)) hh278 (k_Md_ofSymbol hM h) (fun r1 M hM h => ?_) (fun _ _ _ _ f => f.elim)
  refine L_ps c278 (n := 1) (pc1 := 7) (ls1 := [jR 772, jI v1, jU]) (st1 := [jR 772, jI r1]) rfl ?_
  refine L_getI (c278 7 rfl) hM rt772 rfl ?_
  refine L_ps c278 (n := 1) (pc1 := 11) (ls1 := [jR 772, jI v1, jU]) (st1 := [jR 772, jI (μ 772 13), jI r1]) rfl ?_
  refine L_getI (c278 11 rfl) hM rt772 rfl ?_
  refine L_ps c278 (n := 1) (pc1 := 15) (ls1 := [jR 772, jI v1, jU]) (st1 := [jI (wr ((μ 772 13) - (μ 772 14))), jI r1]) rfl ?_
  refine L_br (p1 := 20) (p2 := 18) (c278 15 rfl) rfl jc_eq h (fun h => ?_) (fun h => ?_)
  · refine L_ps c278 (n := 2) (pc1 := 22) (ls1 := [jR 772, jI v1, jI 0]) (st1 := []) rfl ?_
    exact k_Md_isNamedHere_l22 hM hQ h
  · refine L_ps c278 (n := 1) (pc1 := 19) (ls1 := [jR 772, jI v1, jU]) (st1 := [jI 0]) rfl ?_
    exact L_retB (c278 19 rfl) (Or.inl rfl) (hQ false _ hM h)
theorem k_Md_symbolHere_b2 {E : JE2} {v1 : Int} {μ : Mem} {M : JM} {P : JO → JM → Prop} {W2 : Int → Prop} {Q : Int → Prop} (hM : Rl E M μ) (hQ : ∀ (r : Int) (M1 : JM), Rl E M1 μ → Q r → P (.inl (some (.inl r))) M1) (hW2 : ∀ (v1 : Int) (M1 : JM), Rl E M1 μ → W2 v1 → JX 277 2 [jR 772, jI v1] [] M1 P) (h : d_Md_symbolHere_b2 v1 μ W2 Q) : JX 277 2 [jR 772, jI v1] [] M P := by
  unfold d_Md_symbolHere_b2 at h
  refine L_ps c277 (n := 2) (pc1 := 4) (ls1 := [jR 772, jI v1]) (st1 := [jR 772, jI v1]) rfl ?_
  refine L_getP (d := 1) (c277 4 rfl) hM rt772 rfl ?_
  refine L_ps c277 (n := 1) (pc1 := 8) (ls1 := [jR 772, jI v1]) (st1 := [jI 0, jR 773, jI v1]) rfl ?_
  refine L_iald (c277 8 rfl) hM rt773 ln773 (by decide) ?_
  refine L_nb (p1 := 28) (p2 := 12) (c277 9 rfl) rfl jc_ge h (fun h => ?_) (fun h => ?_)
  · refine L_ps c277 (n := 2) (pc1 := 14) (ls1 := [jR 772, jI v1]) (st1 := [jI v1, jR 772]) rfl ?_
    refine L_cpB (c277 14 rfl) (js_v rfl ((Rl_tag hM rt772 (by decide)).trans js278)) hh277 (k_Md_isNamedHere hM h) (fun r1 M hM h => ?_) (fun _ _ _ _ f => f.elim)
    refine L_nb (p1 := 22) (p2 := 20) (c277 17 rfl) rfl jc_eqb h (fun h => ?_) (fun h => ?_)
    · refine L_ps c277 (n := 1) (pc1 := 21) (ls1 := [jR 772, jI v1]) (st1 := [jI v1]) rfl ?_
      exact L_retI (c277 21 rfl) (hQ _ _ hM h)
    · refine L_ps c277 (n := 2) (pc1 := 2) (ls1 := [jR 772, jI (wr (v1 + 1))]) (st1 := []) rfl ?_
      exact hW2 _ _ hM h
  · refine L_ps c277 (n := 1) (pc1 := 29) (ls1 := [jR 772, jI v1]) (st1 := [jI (-1)]) rfl ?_
    exact L_retI (c277 29 rfl) (hQ _ _ hM h)
theorem k_Md_symbolHere_l2 {E : JE2} {v1 : Int} {μ : Mem} {M : JM} {P : JO → JM → Prop} {Q : Int → Prop} (hM : Rl E M μ) (hQ : ∀ (r : Int) (M1 : JM), Rl E M1 μ → Q r → P (.inl (some (.inl r))) M1) (h : d_Md_symbolHere_l2 v1 μ Q) : JX 277 2 [jR 772, jI v1] [] M P := by
  refine h (fun v1 => ∀ (M : JM), Rl E M μ → JX 277 2 [jR 772, jI v1] [] M P) ?_ _ hM
  intro v1 h M hM
  exact k_Md_symbolHere_b2 hM hQ (fun v1 M hM h => h M hM) h
theorem k_Md_symbolHere {E : JE2} {μ : Mem} {M : JM} {Q : Int → Prop} (hM : Rl E M μ) (h : d_Md_symbolHere μ Q) : JX 277 0 (jargs 277 [jR 772]) [] M (PO E (pQI μ Q) XN) := by
  unfold d_Md_symbolHere at h
  show JX 277 0 [jR 772, jU] [] M (PO E (pQI μ Q) XN)
  generalize hP : PO E (pQI μ Q) XN = P
  have hQ : ∀ (r : Int) (M1 : JM), Rl E M1 μ → Q r → P (.inl (some (.inl r))) M1 := by rw [← hP]; exact fun r M1 a b => ⟨μ, a, rfl, r, rfl, b⟩
  clear hP
  refine L_ps c277 (n := 2) (pc1 := 2) (ls1 := [jR 772, jI 0]) (st1 := []) rfl ?_
  exact k_Md_symbolHere_l2 hM hQ h
theorem k_Md_digitHere_j37 {E : JE2} {μ : Mem} {M : JM} {P : JO → JM → Prop} {g1 : JV} {Q : Int → Mem → Prop} (hM : Rl E M μ) (hQ : ∀ (r : Int) (M1 : JM) (μ1 : Mem), Rl E M1 μ1 → Q r μ1 → P (.inl (some (.inl r))) M1) (h : d_Md_digitHere_j37 μ Q) : JX 280 37 [jR 772, g1] [] M P := by
  unfold d_Md_digitHere_j37 at h
  refine L_ps c280 (n := 1) (pc1 := 38) (ls1 := [jR 772, g1]) (st1 := [jR 772]) rfl ?_
  refine L_getI (c280 38 rfl) hM rt772 rfl ?_
  refine L_nb (p1 := 48) (p2 := 44) (c280 41 rfl) rfl jc_le h (fun h => ?_) (fun h => ?_)
  · refine L_ps c280 (n := 2) (pc1 := 60) (ls1 := [jR 772, g1]) (st1 := [jI 0]) rfl ?_
    exact L_retI (c280 60 rfl) (hQ _ _ _ hM h)
  · refine L_ps c280 (n := 1) (pc1 := 49) (ls1 := [jR 772, g1]) (st1 := [jR 772]) rfl ?_
    refine L_getP (d := 6) (c280 49 rfl) hM rt772 rfl ?_
    refine L_ps c280 (n := 1) (pc1 := 53) (ls1 := [jR 772, g1]) (st1 := [jR 772, jR 778]) rfl ?_
    refine L_getI (c280 53 rfl) hM rt772 rfl ?_
    obtain ⟨hb, h⟩ := h
    refine L_bald (c280 56 rfl) hM (Or.inl rt778) ln778 hb ?_
    refine L_ps c280 (n := 2) (pc1 := 60) (ls1 := [jR 772, g1]) (st1 := [jI (wr ((μ 778 (μ 772 14).toNat) - 48))]) rfl ?_
    exact L_retI (c280 60 rfl) (hQ _ _ _ hM h)
theorem k_Md_digitHere {E : JE2} {v1 : Int} {μ : Mem} {M : JM} {Q : Int → Mem → Prop} (hM : Rl E M μ) (h : d_Md_digitHere v1 μ Q) : JX 280 0 (jargs 280 [jR 772, jI v1]) [] M (PO E (QI Q) XN) := by
  unfold d_Md_digitHere at h
  show JX 280 0 [jR 772, jI v1] [] M (PO E (QI Q) XN)
  generalize hP : PO E (QI Q) XN = P
  have hQ : ∀ (r : Int) (M1 : JM) (μ1 : Mem), Rl E M1 μ1 → Q r μ1 → P (.inl (some (.inl r))) M1 := by rw [← hP]; exact fun r M1 μ1 a b => ⟨μ1, a, r, rfl, b⟩
  clear hP
  refine L_ps c280 (n := 2) (pc1 := 2) (ls1 := [jR 772, jI v1]) (st1 := [jI 4, jR 772]) rfl ?_
  refine L_cpB (c280 2 rfl) (js_v rfl ((Rl_tag hM rt772 (by decide)).trans js273)) hh280 (k_Md_is hM h) (fun r1 M hM h => ?_) (fun _ _ _ _ f => f.elim)
  refine L_br (p1 := 16) (p2 := 8) (c280 5 rfl) rfl jc_neb h (fun h => ?_) (fun h => ?_)
  · refine L_ps c280 (n := 1) (pc1 := 17) (ls1 := [jR 772, jI v1]) (st1 := [jR 772]) rfl ?_
    refine L_getP (d := 6) (c280 17 rfl) hM rt772 rfl ?_
    refine L_ps c280 (n := 1) (pc1 := 21) (ls1 := [jR 772, jI v1]) (st1 := [jR 772, jR 778]) rfl ?_
    refine L_getI (c280 21 rfl) hM rt772 rfl ?_
    obtain ⟨hb, h⟩ := h
    refine L_bald (c280 24 rfl) hM (Or.inl rt778) ln778 hb ?_
    refine L_ps c280 (n := 3) (pc1 := 29) (ls1 := [jR 772, jI v1]) (st1 := [jI v1, jI (wr ((μ 778 (μ 772 14).toNat) - 48))]) rfl ?_
    refine L_nb (p1 := 37) (p2 := 32) (c280 29 rfl) rfl jc_le h (fun h => ?_) (fun h => ?_)
    · refine L_ps c280 (n := 2) (pc1 := 34) (ls1 := [jR 772, jI v1]) (st1 := [jI 2, jR 772]) rfl ?_
      refine L_cV (c280 34 rfl) (js_v rfl ((Rl_tag hM rt772 (by decide)).trans js274)) hh280 (k_Md_faults hM h) (fun M μ4 hM h => ?_) (fun _ _ _ _ f => f.elim)
      exact k_Md_digitHere_j37 hM hQ h
    · exact k_Md_digitHere_j37 hM hQ h
  · refine L_ps c280 (n := 2) (pc1 := 10) (ls1 := [jR 772, jI v1]) (st1 := [jI 1, jR 772]) rfl ?_
    refine L_cV (c280 10 rfl) (js_v rfl ((Rl_tag hM rt772 (by decide)).trans js274)) hh280 (k_Md_faults hM h) (fun M μ6 hM h => ?_) (fun _ _ _ _ f => f.elim)
    refine L_ps c280 (n := 1) (pc1 := 37) (ls1 := [jR 772, jI v1]) (st1 := []) rfl ?_
    exact k_Md_digitHere_j37 hM hQ h
theorem k_Md_readsSymbol_b88 {E : JE2} {v1 : Int} {v2 : Int} {μ : Mem} {M : JM} {P : JO → JM → Prop} {W88 : Int → Mem → Prop} {Q : Mem → Prop} (hM : Rl E M μ) (hQ : ∀ (M1 : JM) (μ1 : Mem), Rl E M1 μ1 → Q μ1 → P (.inl none) M1) (hW88 : ∀ (v2 : Int) (M1 : JM) (μ1 : Mem), Rl E M1 μ1 → W88 v2 μ1 → JX 276 88 [jR 772, jI v1, jI v2] [] M1 P) (h : d_Md_readsSymbol_b88 v1 v2 μ W88 Q) : JX 276 88 [jR 772, jI v1, jI v2] [] M P := by
  unfold d_Md_readsSymbol_b88 at h
  refine L_ps c276 (n := 2) (pc1 := 90) (ls1 := [jR 772, jI v1, jI v2]) (st1 := [jR 772, jI v2]) rfl ?_
  refine L_getI (c276 90 rfl) hM rt772 rfl ?_
  refine L_ps c276 (n := 1) (pc1 := 94) (ls1 := [jR 772, jI v1, jI v2]) (st1 := [jR 772, jI (μ 772 13), jI v2]) rfl ?_
  refine L_getI (c276 94 rfl) hM rt772 rfl ?_
  refine L_ps c276 (n := 1) (pc1 := 98) (ls1 := [jR 772, jI v1, jI v2]) (st1 := [jI (wr ((μ 772 13) - (μ 772 14))), jI v2]) rfl ?_
  refine L_nb (p1 := 128) (p2 := 101) (c276 98 rfl) rfl jc_ge h (fun h => ?_) (fun h => ?_)
  · refine L_ps c276 (n := 1) (pc1 := 102) (ls1 := [jR 772, jI v1, jI v2]) (st1 := [jR 772]) rfl ?_
    refine L_getP (d := 1) (c276 102 rfl) hM rt772 rfl ?_
    refine L_ps c276 (n := 6) (pc1 := 111) (ls1 := [jR 772, jI v1, jI v2]) (st1 := [jR 772, jI (wr ((wr (v1 + 2)) + v2)), jR 773]) rfl ?_
    refine L_getP (d := 6) (c276 111 rfl) hM rt772 rfl ?_
    refine L_ps c276 (n := 1) (pc1 := 115) (ls1 := [jR 772, jI v1, jI v2]) (st1 := [jR 772, jR 778, jI (wr ((wr (v1 + 2)) + v2)), jR 773]) rfl ?_
    refine L_getI (c276 115 rfl) hM rt772 rfl ?_
    refine L_ps c276 (n := 2) (pc1 := 120) (ls1 := [jR 772, jI v1, jI v2]) (st1 := [jI (wr ((μ 772 14) + v2)), jR 778, jI (wr ((wr (v1 + 2)) + v2)), jR 773]) rfl ?_
    obtain ⟨hb, h⟩ := h
    refine L_bald (c276 120 rfl) hM (Or.inl rt778) ln778 hb ?_
    obtain ⟨hb, h⟩ := h
    refine L_iast (c276 121 rfl) hM rt773 ln773 hb (fun M hM => ?_)
    refine L_ps c276 (n := 2) (pc1 := 88) (ls1 := [jR 772, jI v1, jI (wr (v2 + 1))]) (st1 := []) rfl ?_
    exact hW88 _ _ _ hM h
  · refine L_ps c276 (n := 1) (pc1 := 129) (ls1 := [jR 772, jI v1, jI v2]) (st1 := [jR 772]) rfl ?_
    refine L_cV (c276 129 rfl) (js_v rfl ((Rl_tag hM rt772 (by decide)).trans js269)) hh276 (k_Md_goes hM h) (fun M μ10 hM h => ?_) (fun _ _ _ _ f => f.elim)
    refine L_ps c276 (n := 1) (pc1 := 133) (ls1 := [jR 772, jI v1, jI v2]) (st1 := [jR 772]) rfl ?_
    refine L_getP (d := 1) (c276 133 rfl) hM rt772 rfl ?_
    refine L_ps c276 (n := 5) (pc1 := 141) (ls1 := [jR 772, jI v1, jI v2]) (st1 := [jI 3, jR 772, jI (wr (v1 + 0)), jR 773]) rfl ?_
    refine L_cI (c276 141 rfl) (js_v rfl ((Rl_tag hM rt772 (by decide)).trans js280)) hh276 (k_Md_digitHere hM h) (fun r11 M μ12 hM h => ?_) (fun _ _ _ _ f => f.elim)
    obtain ⟨hb, h⟩ := h
    refine L_iast (c276 144 rfl) hM rt773 ln773 hb (fun M hM => ?_)
    refine L_ps c276 (n := 1) (pc1 := 146) (ls1 := [jR 772, jI v1, jI v2]) (st1 := [jR 772]) rfl ?_
    refine L_cV (c276 146 rfl) (js_v rfl ((Rl_tag hM rt772 (by decide)).trans js269)) hh276 (k_Md_goes hM h) (fun M μ14 hM h => ?_) (fun _ _ _ _ f => f.elim)
    refine L_ps c276 (n := 1) (pc1 := 150) (ls1 := [jR 772, jI v1, jI v2]) (st1 := [jR 772]) rfl ?_
    refine L_getP (d := 1) (c276 150 rfl) hM rt772 rfl ?_
    refine L_ps c276 (n := 2) (pc1 := 155) (ls1 := [jR 772, jI v1, jI v2]) (st1 := [jI 0, jR 773, jI 0, jR 773]) rfl ?_
    refine L_iald (c276 155 rfl) hM rt773 ln773 (by decide) ?_
    refine L_ps c276 (n := 2) (pc1 := 158) (ls1 := [jR 772, jI v1, jI v2]) (st1 := [jI (wr ((μ14 773 0) + 1)), jI 0, jR 773]) rfl ?_
    refine L_iast (c276 158 rfl) hM rt773 ln773 (by decide) (fun M hM => ?_)
    exact L_end (c276 159 rfl) rfl (hQ _ _ hM h)
theorem k_Md_readsSymbol_l88 {E : JE2} {v1 : Int} {v2 : Int} {μ : Mem} {M : JM} {P : JO → JM → Prop} {Q : Mem → Prop} (hM : Rl E M μ) (hQ : ∀ (M1 : JM) (μ1 : Mem), Rl E M1 μ1 → Q μ1 → P (.inl none) M1) (h : d_Md_readsSymbol_l88 v1 v2 μ Q) : JX 276 88 [jR 772, jI v1, jI v2] [] M P := by
  refine h (fun v2 μ => ∀ (M : JM), Rl E M μ → JX 276 88 [jR 772, jI v1, jI v2] [] M P) ?_ _ hM
  intro v2 μ h M hM
  exact k_Md_readsSymbol_b88 hM hQ (fun v2 M μ hM h => h M hM) h
theorem k_Md_readsSymbol_j49 {E : JE2} {μ : Mem} {M : JM} {P : JO → JM → Prop} {g1 : JV} {g2 : JV} {Q : Mem → Prop} (hg1 : jc2 g1 = false) (hM : Rl E M μ) (hQ : ∀ (M1 : JM) (μ1 : Mem), Rl E M1 μ1 → Q μ1 → P (.inl none) M1) (h : d_Md_readsSymbol_j49 μ Q) : JX 276 49 [jR 772, g1, g2] [] M P := by
  unfold d_Md_readsSymbol_j49 at h
  refine L_ps c276 (n := 1) (pc1 := 50) (ls1 := [jR 772, g1, g2]) (st1 := [jR 772]) rfl ?_
  refine L_getI (c276 50 rfl) hM rt772 rfl ?_
  refine L_nb (p1 := 57) (p2 := 56) (c276 53 rfl) rfl jc_le h (fun h => ?_) (fun h => ?_)
  · exact L_end (c276 56 rfl) rfl (hQ _ _ hM h)
  · refine L_ps c276 (n := 3) (pc1 := 61) (ls1 := [jR 772, g1, g2]) (st1 := [jR 772, jI 8, jI 3]) rfl ?_
    refine L_getP (d := 1) (c276 61 rfl) hM rt772 rfl ?_
    refine L_ps c276 (n := 1) (pc1 := 65) (ls1 := [jR 772, g1, g2]) (st1 := [jI 0, jR 773, jI 8, jI 3]) rfl ?_
    refine L_iald (c276 65 rfl) hM rt773 ln773 (by decide) ?_
    refine L_ps c276 (n := 4) (pc1 := 70) (ls1 := [jR 772, jI (wr (3 + (wr (8 * (μ 773 0))))), g2]) (st1 := [jR 772]) rfl ?_
    refine L_getP (d := 1) (c276 70 rfl) hM rt772 rfl ?_
    refine L_ps c276 (n := 4) (pc1 := 77) (ls1 := [jR 772, jI (wr (3 + (wr (8 * (μ 773 0))))), g2]) (st1 := [jR 772, jI (wr ((wr (3 + (wr (8 * (μ 773 0))))) + 1)), jR 773]) rfl ?_
    refine L_getI (c276 77 rfl) hM rt772 rfl ?_
    refine L_ps c276 (n := 1) (pc1 := 81) (ls1 := [jR 772, jI (wr (3 + (wr (8 * (μ 773 0))))), g2]) (st1 := [jR 772, jI (μ 772 13), jI (wr ((wr (3 + (wr (8 * (μ 773 0))))) + 1)), jR 773]) rfl ?_
    refine L_getI (c276 81 rfl) hM rt772 rfl ?_
    refine L_ps c276 (n := 1) (pc1 := 85) (ls1 := [jR 772, jI (wr (3 + (wr (8 * (μ 773 0))))), g2]) (st1 := [jI (wr ((μ 772 13) - (μ 772 14))), jI (wr ((wr (3 + (wr (8 * (μ 773 0))))) + 1)), jR 773]) rfl ?_
    obtain ⟨hb, h⟩ := h
    refine L_iast (c276 85 rfl) hM rt773 ln773 hb (fun M hM => ?_)
    refine L_ps c276 (n := 2) (pc1 := 88) (ls1 := [jR 772, jI (wr (3 + (wr (8 * (μ 773 0))))), jI 0]) (st1 := []) rfl ?_
    exact k_Md_readsSymbol_l88 hM hQ h
theorem k_Md_readsSymbol_j16 {E : JE2} {μ : Mem} {M : JM} {P : JO → JM → Prop} {g1 : JV} {g2 : JV} {Q : Mem → Prop} (hg1 : jc2 g1 = false) (hM : Rl E M μ) (hQ : ∀ (M1 : JM) (μ1 : Mem), Rl E M1 μ1 → Q μ1 → P (.inl none) M1) (h : d_Md_readsSymbol_j16 μ Q) : JX 276 16 [jR 772, g1, g2] [] M P := by
  unfold d_Md_readsSymbol_j16 at h
  refine L_ps c276 (n := 1) (pc1 := 17) (ls1 := [jR 772, g1, g2]) (st1 := [jR 772]) rfl ?_
  refine L_cV (c276 17 rfl) (js_v rfl ((Rl_tag hM rt772 (by decide)).trans js269)) hh276 (k_Md_goes hM h) (fun M μ4 hM h => ?_) (fun _ _ _ _ f => f.elim)
  refine L_ps c276 (n := 2) (pc1 := 22) (ls1 := [jR 772, g1, g2]) (st1 := [jI 2, jR 772]) rfl ?_
  refine L_cpB (c276 22 rfl) (js_v rfl ((Rl_tag hM rt772 (by decide)).trans js273)) hh276 (k_Md_is hM h) (fun r5 M hM h => ?_) (fun _ _ _ _ f => f.elim)
  refine L_br (p1 := 36) (p2 := 28) (c276 25 rfl) rfl jc_neb h (fun h => ?_) (fun h => ?_)
  · refine L_ps c276 (n := 1) (pc1 := 37) (ls1 := [jR 772, g1, g2]) (st1 := [jR 772]) rfl ?_
    refine L_cpI (c276 37 rfl) (js_v rfl ((Rl_tag hM rt772 (by decide)).trans js277)) hh276 (k_Md_symbolHere hM h) (fun r7 M hM h => ?_) (fun _ _ _ _ f => f.elim)
    refine L_ps c276 (n := 1) (pc1 := 41) (ls1 := [jR 772, g1, g2]) (st1 := [jI (-1), jI r7]) rfl ?_
    refine L_br (p1 := 49) (p2 := 44) (c276 41 rfl) rfl jc_eq h (fun h => ?_) (fun h => ?_)
    · exact k_Md_readsSymbol_j49 hg1 hM hQ h
    · refine L_ps c276 (n := 2) (pc1 := 46) (ls1 := [jR 772, g1, g2]) (st1 := [jI 3, jR 772]) rfl ?_
      refine L_cV (c276 46 rfl) (js_v rfl ((Rl_tag hM rt772 (by decide)).trans js274)) hh276 (k_Md_faults hM h) (fun M μ16 hM h => ?_) (fun _ _ _ _ f => f.elim)
      exact k_Md_readsSymbol_j49 hg1 hM hQ h
  · refine L_ps c276 (n := 2) (pc1 := 30) (ls1 := [jR 772, g1, g2]) (st1 := [jI 1, jR 772]) rfl ?_
    refine L_cV (c276 30 rfl) (js_v rfl ((Rl_tag hM rt772 (by decide)).trans js274)) hh276 (k_Md_faults hM h) (fun M μ18 hM h => ?_) (fun _ _ _ _ f => f.elim)
    refine L_ps c276 (n := 1) (pc1 := 49) (ls1 := [jR 772, g1, g2]) (st1 := []) rfl ?_
    exact k_Md_readsSymbol_j49 hg1 hM hQ h
theorem k_Md_readsSymbol {E : JE2} {μ : Mem} {M : JM} {Q : Mem → Prop} (hM : Rl E M μ) (h : d_Md_readsSymbol μ Q) : JX 276 0 (jargs 276 [jR 772]) [] M (PO E (QV Q) XN) := by
  unfold d_Md_readsSymbol at h
  show JX 276 0 [jR 772, jU, jU] [] M (PO E (QV Q) XN)
  generalize hP : PO E (QV Q) XN = P
  have hQ : ∀ (M1 : JM) (μ1 : Mem), Rl E M1 μ1 → Q μ1 → P (.inl none) M1 := by rw [← hP]; exact fun M1 μ1 a b => ⟨μ1, a, rfl, b⟩
  clear hP
  refine L_ps c276 (n := 1) (pc1 := 1) (ls1 := [jR 772, jU, jU]) (st1 := [jR 772]) rfl ?_
  refine L_getP (d := 1) (c276 1 rfl) hM rt772 rfl ?_
  refine L_ps c276 (n := 1) (pc1 := 5) (ls1 := [jR 772, jU, jU]) (st1 := [jI 0, jR 773]) rfl ?_
  refine L_iald (c276 5 rfl) hM rt773 ln773 (by decide) ?_
  refine L_ps c276 (n := 1) (pc1 := 8) (ls1 := [jR 772, jU, jU]) (st1 := [jI 8, jI (μ 773 0)]) rfl ?_
  refine L_nb (p1 := 16) (p2 := 11) (c276 8 rfl) rfl jc_ne h (fun h => ?_) (fun h => ?_)
  · refine L_ps c276 (n := 2) (pc1 := 13) (ls1 := [jR 772, jU, jU]) (st1 := [jI 5, jR 772]) rfl ?_
    refine L_cV (c276 13 rfl) (js_v rfl ((Rl_tag hM rt772 (by decide)).trans js274)) hh276 (k_Md_faults hM h) (fun M μ2 hM h => ?_) (fun _ _ _ _ f => f.elim)
    exact k_Md_readsSymbol_j16 rfl hM hQ h
  · exact k_Md_readsSymbol_j16 rfl hM hQ h
theorem k_Md_isInLeft_b2 {E : JE2} {v1 : Int} {v2 : Int} {μ : Mem} {M : JM} {P : JO → JM → Prop} {W2 : Int → Prop} {Q : Bool → Prop} (hM : Rl E M μ) (hQ : ∀ (r : Bool) (M1 : JM), Rl E M1 μ → Q r → P (.inl (some (.inl (b2i r)))) M1) (hW2 : ∀ (v2 : Int) (M1 : JM), Rl E M1 μ → W2 v2 → JX 286 2 [jR 772, jI v1, jI v2] [] M1 P) (h : d_Md_isInLeft_b2 v1 v2 μ W2 Q) : JX 286 2 [jR 772, jI v1, jI v2] [] M P := by
  unfold d_Md_isInLeft_b2 at h
  refine L_ps c286 (n := 2) (pc1 := 4) (ls1 := [jR 772, jI v1, jI v2]) (st1 := [jR 772, jI v2]) rfl ?_
  refine L_getP (d := 1) (c286 4 rfl) hM rt772 rfl ?_
  refine L_ps c286 (n := 3) (pc1 := 12) (ls1 := [jR 772, jI v1, jI v2]) (st1 := [jR 772, jI 26, jI 67, jR 773, jI v2]) rfl ?_
  refine L_getP (d := 1) (c286 12 rfl) hM rt772 rfl ?_
  refine L_ps c286 (n := 1) (pc1 := 16) (ls1 := [jR 772, jI v1, jI v2]) (st1 := [jI 1, jR 773, jI 26, jI 67, jR 773, jI v2]) rfl ?_
  refine L_iald (c286 16 rfl) hM rt773 ln773 (by decide) ?_
  refine L_ps c286 (n := 4) (pc1 := 21) (ls1 := [jR 772, jI v1, jI v2]) (st1 := [jI (wr ((wr (67 + (wr (26 * (μ 773 1))))) + 0)), jR 773, jI v2]) rfl ?_
  obtain ⟨hb, h⟩ := h
  refine L_iald (c286 21 rfl) hM rt773 ln773 hb ?_
  refine L_nb (p1 := 58) (p2 := 25) (c286 22 rfl) rfl jc_ge h (fun h => ?_) (fun h => ?_)
  · refine L_ps c286 (n := 1) (pc1 := 26) (ls1 := [jR 772, jI v1, jI v2]) (st1 := [jR 772]) rfl ?_
    refine L_getP (d := 1) (c286 26 rfl) hM rt772 rfl ?_
    refine L_ps c286 (n := 3) (pc1 := 34) (ls1 := [jR 772, jI v1, jI v2]) (st1 := [jR 772, jI 26, jI 67, jR 773]) rfl ?_
    refine L_getP (d := 1) (c286 34 rfl) hM rt772 rfl ?_
    refine L_ps c286 (n := 1) (pc1 := 38) (ls1 := [jR 772, jI v1, jI v2]) (st1 := [jI 1, jR 773, jI 26, jI 67, jR 773]) rfl ?_
    refine L_iald (c286 38 rfl) hM rt773 ln773 (by decide) ?_
    refine L_ps c286 (n := 6) (pc1 := 45) (ls1 := [jR 772, jI v1, jI v2]) (st1 := [jI (wr ((wr ((wr (67 + (wr (26 * (μ 773 1))))) + 2)) + v2)), jR 773]) rfl ?_
    obtain ⟨hb, h⟩ := h
    refine L_iald (c286 45 rfl) hM rt773 ln773 hb ?_
    refine L_ps c286 (n := 1) (pc1 := 47) (ls1 := [jR 772, jI v1, jI v2]) (st1 := [jI v1, jI (μ 773 (wr ((wr ((wr (67 + (wr (26 * (μ 773 1))))) + 2)) + v2)).toNat)]) rfl ?_
    refine L_nb (p1 := 52) (p2 := 50) (c286 47 rfl) rfl jc_ne h (fun h => ?_) (fun h => ?_)
    · refine L_ps c286 (n := 1) (pc1 := 51) (ls1 := [jR 772, jI v1, jI v2]) (st1 := [jI 1]) rfl ?_
      exact L_retB (c286 51 rfl) (Or.inr rfl) (hQ true _ hM h)
    · refine L_ps c286 (n := 2) (pc1 := 2) (ls1 := [jR 772, jI v1, jI (wr (v2 + 1))]) (st1 := []) rfl ?_
      exact hW2 _ _ hM h
  · refine L_ps c286 (n := 1) (pc1 := 59) (ls1 := [jR 772, jI v1, jI v2]) (st1 := [jI 0]) rfl ?_
    exact L_retB (c286 59 rfl) (Or.inl rfl) (hQ false _ hM h)
theorem k_Md_isInLeft_l2 {E : JE2} {v1 : Int} {v2 : Int} {μ : Mem} {M : JM} {P : JO → JM → Prop} {Q : Bool → Prop} (hM : Rl E M μ) (hQ : ∀ (r : Bool) (M1 : JM), Rl E M1 μ → Q r → P (.inl (some (.inl (b2i r)))) M1) (h : d_Md_isInLeft_l2 v1 v2 μ Q) : JX 286 2 [jR 772, jI v1, jI v2] [] M P := by
  refine h (fun v2 => ∀ (M : JM), Rl E M μ → JX 286 2 [jR 772, jI v1, jI v2] [] M P) ?_ _ hM
  intro v2 h M hM
  exact k_Md_isInLeft_b2 hM hQ (fun v2 M hM h => h M hM) h
theorem k_Md_isInLeft {E : JE2} {v1 : Int} {μ : Mem} {M : JM} {Q : Bool → Prop} (hM : Rl E M μ) (h : d_Md_isInLeft v1 μ Q) : JX 286 0 (jargs 286 [jR 772, jI v1]) [] M (PO E (pQB μ Q) XN) := by
  unfold d_Md_isInLeft at h
  show JX 286 0 [jR 772, jI v1, jU] [] M (PO E (pQB μ Q) XN)
  generalize hP : PO E (pQB μ Q) XN = P
  have hQ : ∀ (r : Bool) (M1 : JM), Rl E M1 μ → Q r → P (.inl (some (.inl (b2i r)))) M1 := by rw [← hP]; exact fun r M1 a b => ⟨μ, a, rfl, r, rfl, b⟩
  clear hP
  refine L_ps c286 (n := 2) (pc1 := 2) (ls1 := [jR 772, jI v1, jI 0]) (st1 := []) rfl ?_
  exact k_Md_isInLeft_l2 hM hQ h
theorem k_Md_addsNode_j16 {E : JE2} {v1 : Int} {μ : Mem} {M : JM} {P : JO → JM → Prop} {Q : Mem → Prop} (hM : Rl E M μ) (hQ : ∀ (M1 : JM) (μ1 : Mem), Rl E M1 μ1 → Q μ1 → P (.inl none) M1) (h : d_Md_addsNode_j16 v1 μ Q) : JX 287 16 [jR 772, jI v1] [] M P := by
  unfold d_Md_addsNode_j16 at h
  refine L_ps c287 (n := 1) (pc1 := 17) (ls1 := [jR 772, jI v1]) (st1 := [jR 772]) rfl ?_
  refine L_getI (c287 17 rfl) hM rt772 rfl ?_
  refine L_nb (p1 := 24) (p2 := 23) (c287 20 rfl) rfl jc_le h (fun h => ?_) (fun h => ?_)
  · exact L_end (c287 23 rfl) rfl (hQ _ _ hM h)
  · refine L_ps c287 (n := 1) (pc1 := 25) (ls1 := [jR 772, jI v1]) (st1 := [jR 772]) rfl ?_
    refine L_getP (d := 1) (c287 25 rfl) hM rt772 rfl ?_
    refine L_ps c287 (n := 1) (pc1 := 29) (ls1 := [jR 772, jI v1]) (st1 := [jR 772, jR 773]) rfl ?_
    refine L_getI (c287 29 rfl) hM rt772 rfl ?_
    refine L_ps c287 (n := 1) (pc1 := 33) (ls1 := [jR 772, jI v1]) (st1 := [jR 772, jI (μ 772 19), jR 773]) rfl ?_
    refine L_getI (c287 33 rfl) hM rt772 rfl ?_
    refine L_ps c287 (n := 2) (pc1 := 38) (ls1 := [jR 772, jI v1]) (st1 := [jI v1, jI (wr ((μ 772 19) + (μ 772 18))), jR 773]) rfl ?_
    obtain ⟨hb, h⟩ := h
    refine L_iast (c287 38 rfl) hM rt773 ln773 hb (fun M hM => ?_)
    refine L_ps c287 (n := 2) (pc1 := 41) (ls1 := [jR 772, jI v1]) (st1 := [jR 772, jR 772]) rfl ?_
    refine L_getI (c287 41 rfl) hM rt772 rfl ?_
    refine L_ps c287 (n := 2) (pc1 := 46) (ls1 := [jR 772, jI v1]) (st1 := [jI (wr (((mup μ 773 (wr ((μ 772 19) + (μ 772 18))).toNat v1) 772 18) + 1)), jR 772]) rfl ?_
    refine L_putI (c287 46 rfl) hM rt772 rfl (fun M hM => ?_)
    refine L_ps c287 (n := 1) (pc1 := 50) (ls1 := [jR 772, jI v1]) (st1 := [jR 772]) rfl ?_
    refine L_cV (c287 50 rfl) (js_v rfl ((Rl_tag hM rt772 (by decide)).trans js269)) hh287 (k_Md_goes hM h) (fun M μ4 hM h => ?_) (fun _ _ _ _ f => f.elim)
    exact L_end (c287 53 rfl) rfl (hQ _ _ hM h)
theorem k_Md_addsNode {E : JE2} {v1 : Int} {μ : Mem} {M : JM} {Q : Mem → Prop} (hM : Rl E M μ) (h : d_Md_addsNode v1 μ Q) : JX 287 0 (jargs 287 [jR 772, jI v1]) [] M (PO E (QV Q) XN) := by
  unfold d_Md_addsNode at h
  show JX 287 0 [jR 772, jI v1] [] M (PO E (QV Q) XN)
  generalize hP : PO E (QV Q) XN = P
  have hQ : ∀ (M1 : JM) (μ1 : Mem), Rl E M1 μ1 → Q μ1 → P (.inl none) M1 := by rw [← hP]; exact fun M1 μ1 a b => ⟨μ1, a, rfl, b⟩
  clear hP
  refine L_ps c287 (n := 1) (pc1 := 1) (ls1 := [jR 772, jI v1]) (st1 := [jR 772]) rfl ?_
  refine L_getI (c287 1 rfl) hM rt772 rfl ?_
  refine L_ps c287 (n := 1) (pc1 := 5) (ls1 := [jR 772, jI v1]) (st1 := [jR 772, jI (μ 772 18)]) rfl ?_
  refine L_getI (c287 5 rfl) hM rt772 rfl ?_
  refine L_nb (p1 := 16) (p2 := 11) (c287 8 rfl) rfl jc_ne h (fun h => ?_) (fun h => ?_)
  · refine L_ps c287 (n := 2) (pc1 := 13) (ls1 := [jR 772, jI v1]) (st1 := [jI 5, jR 772]) rfl ?_
    refine L_cV (c287 13 rfl) (js_v rfl ((Rl_tag hM rt772 (by decide)).trans js274)) hh287 (k_Md_faults hM h) (fun M μ2 hM h => ?_) (fun _ _ _ _ f => f.elim)
    exact k_Md_addsNode_j16 hM hQ h
  · exact k_Md_addsNode_j16 hM hQ h
theorem k_Md_readsVariable_j40 {E : JE2} {v2 : Int} {μ : Mem} {M : JM} {P : JO → JM → Prop} {g1 : JV} {Q : Mem → Prop} (hg1 : jc2 g1 = false) (hM : Rl E M μ) (hQ : ∀ (M1 : JM) (μ1 : Mem), Rl E M1 μ1 → Q μ1 → P (.inl none) M1) (h : d_Md_readsVariable_j40 v2 μ Q) : JX 285 40 [jR 772, g1, jI v2] [] M P := by
  unfold d_Md_readsVariable_j40 at h
  refine L_ps c285 (n := 2) (pc1 := 42) (ls1 := [jR 772, g1, jI v2]) (st1 := [jI v2, jR 772]) rfl ?_
  refine L_cV (c285 42 rfl) (js_v rfl ((Rl_tag hM rt772 (by decide)).trans js287)) hh285 (k_Md_addsNode hM h) (fun M μ4 hM h => ?_) (fun _ _ _ _ f => f.elim)
  exact L_end (c285 45 rfl) rfl (hQ _ _ hM h)
theorem k_Md_readsVariable_j35 {E : JE2} {v2 : Int} {μ : Mem} {M : JM} {P : JO → JM → Prop} {g1 : JV} {Q : Mem → Prop} (hg1 : jc2 g1 = false) (hM : Rl E M μ) (hQ : ∀ (M1 : JM) (μ1 : Mem), Rl E M1 μ1 → Q μ1 → P (.inl none) M1) (h : d_Md_readsVariable_j35 v2 μ Q) : JX 285 35 [jR 772, g1, jI v2] [] M P := by
  unfold d_Md_readsVariable_j35 at h
  refine L_ps c285 (n := 2) (pc1 := 37) (ls1 := [jR 772, g1, jI v2]) (st1 := [jI 4, jR 772]) rfl ?_
  refine L_cV (c285 37 rfl) (js_v rfl ((Rl_tag hM rt772 (by decide)).trans js274)) hh285 (k_Md_faults hM h) (fun M μ2 hM h => ?_) (fun _ _ _ _ f => f.elim)
  exact k_Md_readsVariable_j40 hg1 hM hQ h
theorem k_Md_readsVariable {E : JE2} {v1 : Int} {μ : Mem} {M : JM} {Q : Mem → Prop} (hM : Rl E M μ) (h : d_Md_readsVariable v1 μ Q) : JX 285 0 (jargs 285 [jR 772, jI v1]) [] M (PO E (QV Q) XN) := by
  unfold d_Md_readsVariable at h
  show JX 285 0 [jR 772, jI v1, jU] [] M (PO E (QV Q) XN)
  generalize hP : PO E (QV Q) XN = P
  have hQ : ∀ (M1 : JM) (μ1 : Mem), Rl E M1 μ1 → Q μ1 → P (.inl none) M1 := by rw [← hP]; exact fun M1 μ1 a b => ⟨μ1, a, rfl, b⟩
  clear hP
  refine L_ps c285 (n := 2) (pc1 := 3) (ls1 := [jR 772, jI v1, jU]) (st1 := [jR 772, jI 100]) rfl ?_
  refine L_getP (d := 6) (c285 3 rfl) hM rt772 rfl ?_
  refine L_ps c285 (n := 1) (pc1 := 7) (ls1 := [jR 772, jI v1, jU]) (st1 := [jR 772, jR 778, jI 100]) rfl ?_
  refine L_getI (c285 7 rfl) hM rt772 rfl ?_
  obtain ⟨hb, h⟩ := h
  refine L_bald (c285 10 rfl) hM (Or.inl rt778) ln778 hb ?_
  refine L_ps c285 (n := 5) (pc1 := 17) (ls1 := [jR 772, jI v1, jI (wr ((wr (100 + (μ 778 (μ 772 14).toNat))) - 65))]) (st1 := [jI v1]) rfl ?_
  refine L_br (p1 := 35) (p2 := 20) (c285 17 rfl) rfl jc_eq h (fun h => ?_) (fun h => ?_)
  · exact k_Md_readsVariable_j35 rfl hM hQ h
  · refine L_ps c285 (n := 1) (pc1 := 21) (ls1 := [jR 772, jI v1, jI (wr ((wr (100 + (μ 778 (μ 772 14).toNat))) - 65))]) (st1 := [jR 772]) rfl ?_
    refine L_getI (c285 21 rfl) hM rt772 rfl ?_
    refine L_br (p1 := 40) (p2 := 27) (c285 24 rfl) rfl jc_eq h (fun h => ?_) (fun h => ?_)
    · exact k_Md_readsVariable_j40 rfl hM hQ h
    · refine L_ps c285 (n := 2) (pc1 := 29) (ls1 := [jR 772, jI v1, jI (wr ((wr (100 + (μ 778 (μ 772 14).toNat))) - 65))]) (st1 := [jI (wr ((wr (100 + (μ 778 (μ 772 14).toNat))) - 65)), jR 772]) rfl ?_
      refine L_cpB (c285 29 rfl) (js_v rfl ((Rl_tag hM rt772 (by decide)).trans js286)) hh285 (k_Md_isInLeft hM h) (fun r5 M hM h => ?_) (fun _ _ _ _ f => f.elim)
      refine L_br (p1 := 40) (p2 := 35) (c285 32 rfl) rfl jc_neb h (fun h => ?_) (fun h => ?_)
      · exact k_Md_readsVariable_j40 rfl hM hQ h
      · exact k_Md_readsVariable_j35 rfl hM hQ h
theorem k_Md_wants_j13 {E : JE2} {μ : Mem} {M : JM} {P : JO → JM → Prop} {g1 : JV} {Q : Mem → Prop} (hM : Rl E M μ) (hQ : ∀ (M1 : JM) (μ1 : Mem), Rl E M1 μ1 → Q μ1 → P (.inl none) M1) (h : d_Md_wants_j13 μ Q) : JX 289 13 [jR 772, g1] [] M P := by
  unfold d_Md_wants_j13 at h
  refine L_ps c289 (n := 1) (pc1 := 14) (ls1 := [jR 772, g1]) (st1 := [jR 772]) rfl ?_
  refine L_cV (c289 14 rfl) (js_v rfl ((Rl_tag hM rt772 (by decide)).trans js269)) hh289 (k_Md_goes hM h) (fun M μ4 hM h => ?_) (fun _ _ _ _ f => f.elim)
  exact L_end (c289 17 rfl) rfl (hQ _ _ hM h)
theorem k_Md_wants {E : JE2} {v1 : Int} {μ : Mem} {M : JM} {Q : Mem → Prop} (hM : Rl E M μ) (h : d_Md_wants v1 μ Q) : JX 289 0 (jargs 289 [jR 772, jI v1]) [] M (PO E (QV Q) XN) := by
  unfold d_Md_wants at h
  show JX 289 0 [jR 772, jI v1] [] M (PO E (QV Q) XN)
  generalize hP : PO E (QV Q) XN = P
  have hQ : ∀ (M1 : JM) (μ1 : Mem), Rl E M1 μ1 → Q μ1 → P (.inl none) M1 := by rw [← hP]; exact fun M1 μ1 a b => ⟨μ1, a, rfl, b⟩
  clear hP
  refine L_ps c289 (n := 2) (pc1 := 2) (ls1 := [jR 772, jI v1]) (st1 := [jI v1, jR 772]) rfl ?_
  refine L_cpB (c289 2 rfl) (js_v rfl ((Rl_tag hM rt772 (by decide)).trans js273)) hh289 (k_Md_is hM h) (fun r1 M hM h => ?_) (fun _ _ _ _ f => f.elim)
  refine L_br (p1 := 13) (p2 := 8) (c289 5 rfl) rfl jc_neb h (fun h => ?_) (fun h => ?_)
  · exact k_Md_wants_j13 hM hQ h
  · refine L_ps c289 (n := 2) (pc1 := 10) (ls1 := [jR 772, jI v1]) (st1 := [jI 1, jR 772]) rfl ?_
    refine L_cV (c289 10 rfl) (js_v rfl ((Rl_tag hM rt772 (by decide)).trans js274)) hh289 (k_Md_faults hM h) (fun M μ6 hM h => ?_) (fun _ _ _ _ f => f.elim)
    exact k_Md_wants_j13 hM hQ h
theorem k_Md_readsSymbolNode_j15 {E : JE2} {v1 : Int} {μ : Mem} {M : JM} {P : JO → JM → Prop} {Q : Mem → Prop} (hM : Rl E M μ) (hQ : ∀ (M1 : JM) (μ1 : Mem), Rl E M1 μ1 → Q μ1 → P (.inl none) M1) (h : d_Md_readsSymbolNode_j15 v1 μ Q) : JX 288 15 [jR 772, jI v1] [] M P := by
  unfold d_Md_readsSymbolNode_j15 at h
  refine L_ps c288 (n := 1) (pc1 := 16) (ls1 := [jR 772, jI v1]) (st1 := [jR 772]) rfl ?_
  refine L_getI (c288 16 rfl) hM rt772 rfl ?_
  refine L_nb (p1 := 23) (p2 := 22) (c288 19 rfl) rfl jc_le h (fun h => ?_) (fun h => ?_)
  · exact L_end (c288 22 rfl) rfl (hQ _ _ hM h)
  · refine L_ps c288 (n := 2) (pc1 := 25) (ls1 := [jR 772, jI v1]) (st1 := [jI v1, jR 772]) rfl ?_
    refine L_cV (c288 25 rfl) (js_v rfl ((Rl_tag hM rt772 (by decide)).trans js287)) hh288 (k_Md_addsNode hM h) (fun M μ6 hM h => ?_) (fun _ _ _ _ f => f.elim)
    refine L_ps c288 (n := 1) (pc1 := 29) (ls1 := [jR 772, jI v1]) (st1 := [jR 772]) rfl ?_
    refine L_getI (c288 29 rfl) hM rt772 rfl ?_
    refine L_br (p1 := 44) (p2 := 35) (c288 32 rfl) rfl jc_gt h (fun h => ?_) (fun h => ?_)
    · exact L_end (c288 44 rfl) rfl (hQ _ _ hM h)
    · refine L_ps c288 (n := 3) (pc1 := 38) (ls1 := [jR 772, jI v1]) (st1 := [jI 0, jI v1, jR 772]) rfl ?_
      refine L_cpI (c288 38 rfl) (js_v rfl ((Rl_tag hM rt772 (by decide)).trans js279)) hh288 (k_Md_ofSymbol hM h) (fun r7 M hM h => ?_) (fun _ _ _ _ f => f.elim)
      refine L_nb (p1 := 45) (p2 := 44) (c288 41 rfl) rfl jc_ne h (fun h => ?_) (fun h => ?_)
      · exact L_end (c288 44 rfl) rfl (hQ _ _ hM h)
      · refine L_ps c288 (n := 2) (pc1 := 48) (ls1 := [jR 772, jI v1]) (st1 := [jI 8, jR 772]) rfl ?_
        refine L_cV (c288 48 rfl) (js_v rfl ((Rl_tag hM rt772 (by decide)).trans js289)) hh288 (k_Md_wants hM h) (fun M μ10 hM h => ?_) (fun _ _ _ _ f => f.elim)
        refine L_ps c288 (n := 1) (pc1 := 52) (ls1 := [jR 772, jI v1]) (st1 := [jR 772]) rfl ?_
        refine L_getP (d := 7) (c288 52 rfl) hM rt772 rfl ?_
        refine L_ps c288 (n := 1) (pc1 := 56) (ls1 := [jR 772, jI v1]) (st1 := [jR 772, jR 779]) rfl ?_
        refine L_getI (c288 56 rfl) hM rt772 rfl ?_
        refine L_ps c288 (n := 3) (pc1 := 62) (ls1 := [jR 772, jI v1]) (st1 := [jI 0, jI v1, jR 772, jI (μ10 772 17), jR 779]) rfl ?_
        refine L_cpI (c288 62 rfl) (js_v rfl ((Rl_tag hM rt772 (by decide)).trans js279)) hh288 (k_Md_ofSymbol hM h) (fun r11 M hM h => ?_) (fun _ _ _ _ f => f.elim)
        obtain ⟨hb, h⟩ := h
        refine L_iast (c288 65 rfl) hM rt779 ln779 hb (fun M hM => ?_)
        refine L_ps c288 (n := 2) (pc1 := 68) (ls1 := [jR 772, jI v1]) (st1 := [jR 772, jR 772]) rfl ?_
        refine L_getI (c288 68 rfl) hM rt772 rfl ?_
        refine L_ps c288 (n := 2) (pc1 := 73) (ls1 := [jR 772, jI v1]) (st1 := [jI (wr (((mup μ10 779 (μ10 772 17).toNat r11) 772 17) + 1)), jR 772]) rfl ?_
        refine L_putI (c288 73 rfl) hM rt772 rfl (fun M hM => ?_)
        exact L_end (c288 76 rfl) rfl (hQ _ _ hM h)
theorem k_Md_readsSymbolNode {E : JE2} {μ : Mem} {M : JM} {Q : Mem → Prop} (hM : Rl E M μ) (h : d_Md_readsSymbolNode μ Q) : JX 288 0 (jargs 288 [jR 772]) [] M (PO E (QV Q) XN) := by
  unfold d_Md_readsSymbolNode at h
  show JX 288 0 [jR 772, jU] [] M (PO E (QV Q) XN)
  generalize hP : PO E (QV Q) XN = P
  have hQ : ∀ (M1 : JM) (μ1 : Mem), Rl E M1 μ1 → Q μ1 → P (.inl none) M1 := by rw [← hP]; exact fun M1 μ1 a b => ⟨μ1, a, rfl, b⟩
  clear hP
  refine L_ps c288 (n := 1) (pc1 := 1) (ls1 := [jR 772, jU]) (st1 := [jR 772]) rfl ?_
  refine L_cpI (c288 1 rfl) (js_v rfl ((Rl_tag hM rt772 (by decide)).trans js277)) hh288 (k_Md_symbolHere hM h) (fun r1 M hM h => ?_) (fun _ _ _ _ f => f.elim)
  refine L_ps c288 (n := 3) (pc1 := 7) (ls1 := [jR 772, jI r1]) (st1 := [jI (-1), jI r1]) rfl ?_
  refine L_nb (p1 := 15) (p2 := 10) (c288 7 rfl) rfl jc_ne h (fun h => ?_) (fun h => ?_)
  · refine L_ps c288 (n := 2) (pc1 := 12) (ls1 := [jR 772, jI r1]) (st1 := [jI 3, jR 772]) rfl ?_
    refine L_cV (c288 12 rfl) (js_v rfl ((Rl_tag hM rt772 (by decide)).trans js274)) hh288 (k_Md_faults hM h) (fun M μ4 hM h => ?_) (fun _ _ _ _ f => f.elim)
    exact k_Md_readsSymbolNode_j15 hM hQ h
  · exact k_Md_readsSymbolNode_j15 hM hQ h
theorem k_Md_readsNode {E : JE2} {v1 : Int} {μ : Mem} {M : JM} {Q : Mem → Prop} (hM : Rl E M μ) (h : d_Md_readsNode v1 μ Q) : JX 284 0 (jargs 284 [jR 772, jI v1]) [] M (PO E (QV Q) XN) := by
  unfold d_Md_readsNode at h
  show JX 284 0 [jR 772, jI v1] [] M (PO E (QV Q) XN)
  generalize hP : PO E (QV Q) XN = P
  have hQ : ∀ (M1 : JM) (μ1 : Mem), Rl E M1 μ1 → Q μ1 → P (.inl none) M1 := by rw [← hP]; exact fun M1 μ1 a b => ⟨μ1, a, rfl, b⟩
  clear hP
  refine L_ps c284 (n := 2) (pc1 := 2) (ls1 := [jR 772, jI v1]) (st1 := [jI 3, jR 772]) rfl ?_
  refine L_cpB (c284 2 rfl) (js_v rfl ((Rl_tag hM rt772 (by decide)).trans js273)) hh284 (k_Md_is hM h) (fun r1 M hM h => ?_) (fun _ _ _ _ f => f.elim)
  refine L_nb (p1 := 16) (p2 := 8) (c284 5 rfl) rfl jc_eqb h (fun h => ?_) (fun h => ?_)
  · refine L_ps c284 (n := 2) (pc1 := 10) (ls1 := [jR 772, jI v1]) (st1 := [jI v1, jR 772]) rfl ?_
    refine L_cV (c284 10 rfl) (js_v rfl ((Rl_tag hM rt772 (by decide)).trans js285)) hh284 (k_Md_readsVariable hM h) (fun M μ4 hM h => ?_) (fun _ _ _ _ f => f.elim)
    refine L_ps c284 (n := 1) (pc1 := 36) (ls1 := [jR 772, jI v1]) (st1 := []) rfl ?_
    exact L_end (c284 36 rfl) rfl (hQ _ _ hM h)
  · refine L_ps c284 (n := 2) (pc1 := 18) (ls1 := [jR 772, jI v1]) (st1 := [jI 2, jR 772]) rfl ?_
    refine L_cpB (c284 18 rfl) (js_v rfl ((Rl_tag hM rt772 (by decide)).trans js273)) hh284 (k_Md_is hM h) (fun r5 M hM h => ?_) (fun _ _ _ _ f => f.elim)
    refine L_nb (p1 := 31) (p2 := 24) (c284 21 rfl) rfl jc_eqb h (fun h => ?_) (fun h => ?_)
    · refine L_ps c284 (n := 1) (pc1 := 25) (ls1 := [jR 772, jI v1]) (st1 := [jR 772]) rfl ?_
      refine L_cV (c284 25 rfl) (js_v rfl ((Rl_tag hM rt772 (by decide)).trans js288)) hh284 (k_Md_readsSymbolNode hM h) (fun M μ8 hM h => ?_) (fun _ _ _ _ f => f.elim)
      refine L_ps c284 (n := 1) (pc1 := 36) (ls1 := [jR 772, jI v1]) (st1 := []) rfl ?_
      exact L_end (c284 36 rfl) rfl (hQ _ _ hM h)
    · refine L_ps c284 (n := 2) (pc1 := 33) (ls1 := [jR 772, jI v1]) (st1 := [jI 1, jR 772]) rfl ?_
      refine L_cV (c284 33 rfl) (js_v rfl ((Rl_tag hM rt772 (by decide)).trans js274)) hh284 (k_Md_faults hM h) (fun M μ10 hM h => ?_) (fun _ _ _ _ f => f.elim)
      exact L_end (c284 36 rfl) rfl (hQ _ _ hM h)
theorem k_Md_readsEnds_b0 {E : JE2} {μ : Mem} {M : JM} {P : JO → JM → Prop} {W0 : Mem → Prop} {Q : Mem → Prop} (hM : Rl E M μ) (hQ : ∀ (M1 : JM) (μ1 : Mem), Rl E M1 μ1 → Q μ1 → P (.inl none) M1) (hW0 : ∀ (M1 : JM) (μ1 : Mem), Rl E M1 μ1 → W0 μ1 → JX 290 0 [jR 772] [] M1 P) (h : d_Md_readsEnds_b0 μ W0 Q) : JX 290 0 [jR 772] [] M P := by
  unfold d_Md_readsEnds_b0 at h
  refine L_ps c290 (n := 1) (pc1 := 1) (ls1 := [jR 772]) (st1 := [jR 772]) rfl ?_
  refine L_getI (c290 1 rfl) hM rt772 rfl ?_
  refine L_nb (p1 := 69) (p2 := 7) (c290 4 rfl) rfl jc_le h (fun h => ?_) (fun h => ?_)
  · refine L_ps c290 (n := 1) (pc1 := 8) (ls1 := [jR 772]) (st1 := [jR 772]) rfl ?_
    refine L_getI (c290 8 rfl) hM rt772 rfl ?_
    refine L_nb (p1 := 69) (p2 := 14) (c290 11 rfl) rfl jc_ne h (fun h => ?_) (fun h => ?_)
    · refine L_ps c290 (n := 1) (pc1 := 15) (ls1 := [jR 772]) (st1 := [jR 772]) rfl ?_
      refine L_getP (d := 7) (c290 15 rfl) hM rt772 rfl ?_
      refine L_ps c290 (n := 1) (pc1 := 19) (ls1 := [jR 772]) (st1 := [jR 772, jR 779]) rfl ?_
      refine L_getI (c290 19 rfl) hM rt772 rfl ?_
      refine L_ps c290 (n := 3) (pc1 := 25) (ls1 := [jR 772]) (st1 := [jI (wr ((μ 772 17) - 1)), jR 779, jI (wr ((μ 772 17) - 1)), jR 779]) rfl ?_
      obtain ⟨hb, h⟩ := h
      refine L_iald (c290 25 rfl) hM rt779 ln779 hb ?_
      refine L_ps c290 (n := 2) (pc1 := 28) (ls1 := [jR 772]) (st1 := [jI (wr ((μ 779 (wr ((μ 772 17) - 1)).toNat) - 1)), jI (wr ((μ 772 17) - 1)), jR 779]) rfl ?_
      obtain ⟨hb, h⟩ := h
      refine L_iast (c290 28 rfl) hM rt779 ln779 hb (fun M hM => ?_)
      refine L_ps c290 (n := 1) (pc1 := 30) (ls1 := [jR 772]) (st1 := [jR 772]) rfl ?_
      refine L_getP (d := 7) (c290 30 rfl) hM rt772 rfl ?_
      refine L_ps c290 (n := 1) (pc1 := 34) (ls1 := [jR 772]) (st1 := [jR 772, jR 779]) rfl ?_
      refine L_getI (c290 34 rfl) hM rt772 rfl ?_
      refine L_ps c290 (n := 2) (pc1 := 39) (ls1 := [jR 772]) (st1 := [jI (wr (((mup μ 779 (wr ((μ 772 17) - 1)).toNat (wr ((μ 779 (wr ((μ 772 17) - 1)).toNat) - 1))) 772 17) - 1)), jR 779]) rfl ?_
      obtain ⟨hb, h⟩ := h
      refine L_iald (c290 39 rfl) hM rt779 ln779 hb ?_
      refine L_nb (p1 := 50) (p2 := 43) (c290 40 rfl) rfl jc_le h (fun h => ?_) (fun h => ?_)
      · refine L_ps c290 (n := 2) (pc1 := 46) (ls1 := [jR 772]) (st1 := [jI 7, jR 772]) rfl ?_
        refine L_cV (c290 46 rfl) (js_v rfl ((Rl_tag hM rt772 (by decide)).trans js289)) hh290 (k_Md_wants hM h) (fun M μ2 hM h => ?_) (fun _ _ _ _ f => f.elim)
        exact L_end (c290 49 rfl) rfl (hQ _ _ hM h)
      · refine L_ps c290 (n := 2) (pc1 := 53) (ls1 := [jR 772]) (st1 := [jI 9, jR 772]) rfl ?_
        refine L_cV (c290 53 rfl) (js_v rfl ((Rl_tag hM rt772 (by decide)).trans js289)) hh290 (k_Md_wants hM h) (fun M μ4 hM h => ?_) (fun _ _ _ _ f => f.elim)
        refine L_ps c290 (n := 2) (pc1 := 58) (ls1 := [jR 772]) (st1 := [jR 772, jR 772]) rfl ?_
        refine L_getI (c290 58 rfl) hM rt772 rfl ?_
        refine L_ps c290 (n := 2) (pc1 := 63) (ls1 := [jR 772]) (st1 := [jI (wr ((μ4 772 17) - 1)), jR 772]) rfl ?_
        refine L_putI (c290 63 rfl) hM rt772 rfl (fun M hM => ?_)
        refine L_ps c290 (n := 1) (pc1 := 0) (ls1 := [jR 772]) (st1 := []) rfl ?_
        exact hW0 _ _ hM h
    · exact L_end (c290 69 rfl) rfl (hQ _ _ hM h)
  · exact L_end (c290 69 rfl) rfl (hQ _ _ hM h)
theorem k_Md_readsEnds_l0 {E : JE2} {μ : Mem} {M : JM} {P : JO → JM → Prop} {Q : Mem → Prop} (hM : Rl E M μ) (hQ : ∀ (M1 : JM) (μ1 : Mem), Rl E M1 μ1 → Q μ1 → P (.inl none) M1) (h : d_Md_readsEnds_l0 μ Q) : JX 290 0 [jR 772] [] M P := by
  refine h (fun μ => ∀ (M : JM), Rl E M μ → JX 290 0 [jR 772] [] M P) ?_ _ hM
  intro μ h M hM
  exact k_Md_readsEnds_b0 hM hQ (fun M μ hM h => h M hM) h
theorem k_Md_readsEnds {E : JE2} {μ : Mem} {M : JM} {Q : Mem → Prop} (hM : Rl E M μ) (h : d_Md_readsEnds μ Q) : JX 290 0 (jargs 290 [jR 772]) [] M (PO E (QV Q) XN) := by
  unfold d_Md_readsEnds at h
  show JX 290 0 [jR 772] [] M (PO E (QV Q) XN)
  generalize hP : PO E (QV Q) XN = P
  have hQ : ∀ (M1 : JM) (μ1 : Mem), Rl E M1 μ1 → Q μ1 → P (.inl none) M1 := by rw [← hP]; exact fun M1 μ1 a b => ⟨μ1, a, rfl, b⟩
  clear hP
  exact k_Md_readsEnds_l0 hM hQ h
theorem k_Md_readsOne {E : JE2} {v1 : Int} {μ : Mem} {M : JM} {Q : Mem → Prop} (hM : Rl E M μ) (h : d_Md_readsOne v1 μ Q) : JX 283 0 (jargs 283 [jR 772, jI v1]) [] M (PO E (QV Q) XN) := by
  unfold d_Md_readsOne at h
  show JX 283 0 [jR 772, jI v1, jU] [] M (PO E (QV Q) XN)
  generalize hP : PO E (QV Q) XN = P
  have hQ : ∀ (M1 : JM) (μ1 : Mem), Rl E M1 μ1 → Q μ1 → P (.inl none) M1 := by rw [← hP]; exact fun M1 μ1 a b => ⟨μ1, a, rfl, b⟩
  clear hP
  refine L_ps c283 (n := 1) (pc1 := 1) (ls1 := [jR 772, jI v1, jU]) (st1 := [jR 772]) rfl ?_
  refine L_getI (c283 1 rfl) hM rt772 rfl ?_
  refine L_ps c283 (n := 3) (pc1 := 7) (ls1 := [jR 772, jI v1, jI (μ 772 17)]) (st1 := [jI v1, jR 772]) rfl ?_
  refine L_cV (c283 7 rfl) (js_v rfl ((Rl_tag hM rt772 (by decide)).trans js284)) hh283 (k_Md_readsNode hM h) (fun M μ2 hM h => ?_) (fun _ _ _ _ f => f.elim)
  refine L_ps c283 (n := 1) (pc1 := 11) (ls1 := [jR 772, jI v1, jI (μ 772 17)]) (st1 := [jR 772]) rfl ?_
  refine L_getI (c283 11 rfl) hM rt772 rfl ?_
  refine L_ps c283 (n := 1) (pc1 := 15) (ls1 := [jR 772, jI v1, jI (μ 772 17)]) (st1 := [jI (μ 772 17), jI (μ2 772 17)]) rfl ?_
  refine L_nb (p1 := 22) (p2 := 18) (c283 15 rfl) rfl jc_ne h (fun h => ?_) (fun h => ?_)
  · refine L_ps c283 (n := 1) (pc1 := 19) (ls1 := [jR 772, jI v1, jI (μ 772 17)]) (st1 := [jR 772]) rfl ?_
    refine L_cV (c283 19 rfl) (js_v rfl ((Rl_tag hM rt772 (by decide)).trans js290)) hh283 (k_Md_readsEnds hM h) (fun M μ4 hM h => ?_) (fun _ _ _ _ f => f.elim)
    exact L_end (c283 22 rfl) rfl (hQ _ _ hM h)
  · exact L_end (c283 22 rfl) rfl (hQ _ _ hM h)
theorem k_Md_readTerm_b25 {E : JE2} {μ : Mem} {M : JM} {P : JO → JM → Prop} {g1 : JV} {g2 : JV} {g3 : JV} {W25 : Mem → Prop} {Q : Int → Mem → Prop} (hM : Rl E M μ) (hQ : ∀ (r : Int) (M1 : JM) (μ1 : Mem), Rl E M1 μ1 → Q r μ1 → P (.inl (some (.inl r))) M1) (hW25 : ∀ (g1 : JV) (g2 : JV) (g3 : JV) (M1 : JM) (μ1 : Mem), Rl E M1 μ1 → W25 μ1 → JX 282 25 [jR 772, g1, g2, g3] [] M1 P) (h : d_Md_readTerm_b25 μ W25 Q) : JX 282 25 [jR 772, g1, g2, g3] [] M P := by
  unfold d_Md_readTerm_b25 at h
  refine L_ps c282 (n := 1) (pc1 := 26) (ls1 := [jR 772, g1, g2, g3]) (st1 := [jR 772]) rfl ?_
  refine L_getI (c282 26 rfl) hM rt772 rfl ?_
  refine L_nb (p1 := 47) (p2 := 32) (c282 29 rfl) rfl jc_le h (fun h => ?_) (fun h => ?_)
  · refine L_ps c282 (n := 1) (pc1 := 33) (ls1 := [jR 772, g1, g2, g3]) (st1 := [jR 772]) rfl ?_
    refine L_getI (c282 33 rfl) hM rt772 rfl ?_
    refine L_nb (p1 := 47) (p2 := 39) (c282 36 rfl) rfl jc_ne h (fun h => ?_) (fun h => ?_)
    · refine L_ps c282 (n := 2) (pc1 := 41) (ls1 := [jR 772, g1, g2, g3]) (st1 := [jI 1, jR 772]) rfl ?_
      refine L_cV (c282 41 rfl) (js_v rfl ((Rl_tag hM rt772 (by decide)).trans js283)) hh282 (k_Md_readsOne hM h) (fun M μ4 hM h => ?_) (fun _ _ _ _ f => f.elim)
      refine L_ps c282 (n := 1) (pc1 := 25) (ls1 := [jR 772, g1, g2, g3]) (st1 := []) rfl ?_
      exact hW25 _ _ _ _ _ hM h
    · refine L_ps c282 (n := 1) (pc1 := 48) (ls1 := [jR 772, g1, g2, g3]) (st1 := [jR 772]) rfl ?_
      refine L_getI (c282 48 rfl) hM rt772 rfl ?_
      exact L_retI (c282 51 rfl) (hQ _ _ _ hM h)
  · refine L_ps c282 (n := 1) (pc1 := 48) (ls1 := [jR 772, g1, g2, g3]) (st1 := [jR 772]) rfl ?_
    refine L_getI (c282 48 rfl) hM rt772 rfl ?_
    exact L_retI (c282 51 rfl) (hQ _ _ _ hM h)
theorem k_Md_readTerm_l25 {E : JE2} {μ : Mem} {M : JM} {P : JO → JM → Prop} {g1 : JV} {g2 : JV} {g3 : JV} {Q : Int → Mem → Prop} (hM : Rl E M μ) (hQ : ∀ (r : Int) (M1 : JM) (μ1 : Mem), Rl E M1 μ1 → Q r μ1 → P (.inl (some (.inl r))) M1) (h : d_Md_readTerm_l25 μ Q) : JX 282 25 [jR 772, g1, g2, g3] [] M P := by
  refine h (fun μ => ∀ (g1 : JV) (g2 : JV) (g3 : JV) (M : JM), Rl E M μ → JX 282 25 [jR 772, g1, g2, g3] [] M P) ?_ _ _ _ _ hM
  intro μ h g1 g2 g3 M hM
  exact k_Md_readTerm_b25 hM hQ (fun g1 g2 g3 M μ hM h => h g1 g2 g3 M hM) h
theorem k_Md_readTerm {E : JE2} {v1 : Int} {v2 : Int} {v3 : Int} {μ : Mem} {M : JM} {Q : Int → Mem → Prop} (hM : Rl E M μ) (h : d_Md_readTerm v1 v2 v3 μ Q) : JX 282 0 (jargs 282 [jR 772, jI v1, jI v2, jI v3]) [] M (PO E (QI Q) XN) := by
  unfold d_Md_readTerm at h
  show JX 282 0 [jR 772, jI v1, jI v2, jI v3] [] M (PO E (QI Q) XN)
  generalize hP : PO E (QI Q) XN = P
  have hQ : ∀ (r : Int) (M1 : JM) (μ1 : Mem), Rl E M1 μ1 → Q r μ1 → P (.inl (some (.inl r))) M1 := by rw [← hP]; exact fun r M1 μ1 a b => ⟨μ1, a, r, rfl, b⟩
  clear hP
  refine L_ps c282 (n := 2) (pc1 := 2) (ls1 := [jR 772, jI v1, jI v2, jI v3]) (st1 := [jI v1, jR 772]) rfl ?_
  refine L_putI (c282 2 rfl) hM rt772 rfl (fun M hM => ?_)
  refine L_ps c282 (n := 2) (pc1 := 7) (ls1 := [jR 772, jI v1, jI v2, jI v3]) (st1 := [jI v2, jR 772]) rfl ?_
  refine L_putI (c282 7 rfl) hM rt772 rfl (fun M hM => ?_)
  refine L_ps c282 (n := 2) (pc1 := 12) (ls1 := [jR 772, jI v1, jI v2, jI v3]) (st1 := [jI 0, jR 772]) rfl ?_
  refine L_putI (c282 12 rfl) hM rt772 rfl (fun M hM => ?_)
  refine L_ps c282 (n := 2) (pc1 := 17) (ls1 := [jR 772, jI v1, jI v2, jI v3]) (st1 := [jI 0, jR 772]) rfl ?_
  refine L_putI (c282 17 rfl) hM rt772 rfl (fun M hM => ?_)
  refine L_ps c282 (n := 2) (pc1 := 22) (ls1 := [jR 772, jI v1, jI v2, jI v3]) (st1 := [jI v3, jR 772]) rfl ?_
  refine L_cV (c282 22 rfl) (js_v rfl ((Rl_tag hM rt772 (by decide)).trans js283)) hh282 (k_Md_readsOne hM h) (fun M μ2 hM h => ?_) (fun _ _ _ _ f => f.elim)
  exact k_Md_readTerm_l25 hM hQ h
theorem k_Md_readsRule_j16 {E : JE2} {μ : Mem} {M : JM} {P : JO → JM → Prop} {g1 : JV} {Q : Mem → Prop} (hM : Rl E M μ) (hQ : ∀ (M1 : JM) (μ1 : Mem), Rl E M1 μ1 → Q μ1 → P (.inl none) M1) (h : d_Md_readsRule_j16 μ Q) : JX 281 16 [jR 772, g1] [] M P := by
  unfold d_Md_readsRule_j16 at h
  refine L_ps c281 (n := 1) (pc1 := 17) (ls1 := [jR 772, g1]) (st1 := [jR 772]) rfl ?_
  refine L_cV (c281 17 rfl) (js_v rfl ((Rl_tag hM rt772 (by decide)).trans js269)) hh281 (k_Md_goes hM h) (fun M μ4 hM h => ?_) (fun _ _ _ _ f => f.elim)
  refine L_ps c281 (n := 3) (pc1 := 25) (ls1 := [jR 772, g1]) (st1 := [jR 772, jI 26, jI 67]) rfl ?_
  refine L_getP (d := 1) (c281 25 rfl) hM rt772 rfl ?_
  refine L_ps c281 (n := 1) (pc1 := 29) (ls1 := [jR 772, g1]) (st1 := [jI 1, jR 773, jI 26, jI 67]) rfl ?_
  refine L_iald (c281 29 rfl) hM rt773 ln773 (by decide) ?_
  refine L_ps c281 (n := 5) (pc1 := 35) (ls1 := [jR 772, jI (wr (67 + (wr (26 * (μ4 773 1)))))]) (st1 := [jI 0, jR 772]) rfl ?_
  refine L_putB (t := 11) (c281 35 rfl) hM rt772 rfl (Or.inl rfl) (fun M hM => ?_)
  refine L_ps c281 (n := 1) (pc1 := 39) (ls1 := [jR 772, jI (wr (67 + (wr (26 * (μ4 773 1)))))]) (st1 := [jR 772]) rfl ?_
  refine L_getP (d := 1) (c281 39 rfl) hM rt772 rfl ?_
  refine L_ps c281 (n := 9) (pc1 := 52) (ls1 := [jR 772, jI (wr (67 + (wr (26 * (μ4 773 1)))))]) (st1 := [jI 0, jI 12, jI (wr ((wr (67 + (wr (26 * (μ4 773 1))))) + 2)), jR 772, jI (wr ((wr (67 + (wr (26 * (μ4 773 1))))) + 0)), jR 773]) rfl ?_
  refine L_cI (c281 52 rfl) (js_v rfl ((Rl_tag hM rt772 (by decide)).trans js282)) hh281 (k_Md_readTerm hM h) (fun r5 M μ6 hM h => ?_) (fun _ _ _ _ f => f.elim)
  obtain ⟨hb, h⟩ := h
  refine L_iast (c281 55 rfl) hM rt773 ln773 hb (fun M hM => ?_)
  refine L_ps c281 (n := 2) (pc1 := 59) (ls1 := [jR 772, jI (wr (67 + (wr (26 * (μ4 773 1)))))]) (st1 := [jI 6, jR 772]) rfl ?_
  refine L_cV (c281 59 rfl) (js_v rfl ((Rl_tag hM rt772 (by decide)).trans js289)) hh281 (k_Md_wants hM h) (fun M μ8 hM h => ?_) (fun _ _ _ _ f => f.elim)
  refine L_ps c281 (n := 2) (pc1 := 64) (ls1 := [jR 772, jI (wr (67 + (wr (26 * (μ4 773 1)))))]) (st1 := [jI 1, jR 772]) rfl ?_
  refine L_putB (t := 11) (c281 64 rfl) hM rt772 rfl (Or.inr rfl) (fun M hM => ?_)
  refine L_ps c281 (n := 1) (pc1 := 68) (ls1 := [jR 772, jI (wr (67 + (wr (26 * (μ4 773 1)))))]) (st1 := [jR 772]) rfl ?_
  refine L_getI (c281 68 rfl) hM rt772 rfl ?_
  refine L_nb (p1 := 75) (p2 := 74) (c281 71 rfl) rfl jc_le h (fun h => ?_) (fun h => ?_)
  · exact L_end (c281 74 rfl) rfl (hQ _ _ hM h)
  · refine L_ps c281 (n := 1) (pc1 := 76) (ls1 := [jR 772, jI (wr (67 + (wr (26 * (μ4 773 1)))))]) (st1 := [jR 772]) rfl ?_
    refine L_getP (d := 1) (c281 76 rfl) hM rt772 rfl ?_
    refine L_ps c281 (n := 9) (pc1 := 90) (ls1 := [jR 772, jI (wr (67 + (wr (26 * (μ4 773 1)))))]) (st1 := [jI 1, jI 12, jI (wr ((wr (67 + (wr (26 * (μ4 773 1))))) + 14)), jR 772, jI (wr ((wr (67 + (wr (26 * (μ4 773 1))))) + 1)), jR 773]) rfl ?_
    refine L_cI (c281 90 rfl) (js_v rfl ((Rl_tag hM rt772 (by decide)).trans js282)) hh281 (k_Md_readTerm hM h) (fun r9 M μ10 hM h => ?_) (fun _ _ _ _ f => f.elim)
    obtain ⟨hb, h⟩ := h
    refine L_iast (c281 93 rfl) hM rt773 ln773 hb (fun M hM => ?_)
    refine L_ps c281 (n := 2) (pc1 := 96) (ls1 := [jR 772, jI (wr (67 + (wr (26 * (μ4 773 1)))))]) (st1 := [jI 0, jR 772]) rfl ?_
    refine L_putB (t := 11) (c281 96 rfl) hM rt772 rfl (Or.inl rfl) (fun M hM => ?_)
    refine L_ps c281 (n := 1) (pc1 := 100) (ls1 := [jR 772, jI (wr (67 + (wr (26 * (μ4 773 1)))))]) (st1 := [jR 772]) rfl ?_
    refine L_getP (d := 1) (c281 100 rfl) hM rt772 rfl ?_
    refine L_ps c281 (n := 2) (pc1 := 105) (ls1 := [jR 772, jI (wr (67 + (wr (26 * (μ4 773 1)))))]) (st1 := [jI 1, jR 773, jI 1, jR 773]) rfl ?_
    refine L_iald (c281 105 rfl) hM rt773 ln773 (by decide) ?_
    refine L_ps c281 (n := 2) (pc1 := 108) (ls1 := [jR 772, jI (wr (67 + (wr (26 * (μ4 773 1)))))]) (st1 := [jI (wr (((mup (mup μ10 773 (wr ((wr (67 + (wr (26 * (μ4 773 1))))) + 1)).toNat r9) 772 21 0) 773 1) + 1)), jI 1, jR 773]) rfl ?_
    refine L_iast (c281 108 rfl) hM rt773 ln773 (by decide) (fun M hM => ?_)
    exact L_end (c281 109 rfl) rfl (hQ _ _ hM h)
theorem k_Md_readsRule {E : JE2} {μ : Mem} {M : JM} {Q : Mem → Prop} (hM : Rl E M μ) (h : d_Md_readsRule μ Q) : JX 281 0 (jargs 281 [jR 772]) [] M (PO E (QV Q) XN) := by
  unfold d_Md_readsRule at h
  show JX 281 0 [jR 772, jU] [] M (PO E (QV Q) XN)
  generalize hP : PO E (QV Q) XN = P
  have hQ : ∀ (M1 : JM) (μ1 : Mem), Rl E M1 μ1 → Q μ1 → P (.inl none) M1 := by rw [← hP]; exact fun M1 μ1 a b => ⟨μ1, a, rfl, b⟩
  clear hP
  refine L_ps c281 (n := 1) (pc1 := 1) (ls1 := [jR 772, jU]) (st1 := [jR 772]) rfl ?_
  refine L_getP (d := 1) (c281 1 rfl) hM rt772 rfl ?_
  refine L_ps c281 (n := 1) (pc1 := 5) (ls1 := [jR 772, jU]) (st1 := [jI 1, jR 773]) rfl ?_
  refine L_iald (c281 5 rfl) hM rt773 ln773 (by decide) ?_
  refine L_ps c281 (n := 1) (pc1 := 8) (ls1 := [jR 772, jU]) (st1 := [jI 6, jI (μ 773 1)]) rfl ?_
  refine L_nb (p1 := 16) (p2 := 11) (c281 8 rfl) rfl jc_ne h (fun h => ?_) (fun h => ?_)
  · refine L_ps c281 (n := 2) (pc1 := 13) (ls1 := [jR 772, jU]) (st1 := [jI 5, jR 772]) rfl ?_
    refine L_cV (c281 13 rfl) (js_v rfl ((Rl_tag hM rt772 (by decide)).trans js274)) hh281 (k_Md_faults hM h) (fun M μ2 hM h => ?_) (fun _ _ _ _ f => f.elim)
    exact k_Md_readsRule_j16 hM hQ h
  · exact k_Md_readsRule_j16 hM hQ h
theorem k_Md_readsNewTerm_j16 {E : JE2} {μ : Mem} {M : JM} {P : JO → JM → Prop} {g1 : JV} {Q : Mem → Prop} (hM : Rl E M μ) (hQ : ∀ (M1 : JM) (μ1 : Mem), Rl E M1 μ1 → Q μ1 → P (.inl none) M1) (h : d_Md_readsNewTerm_j16 μ Q) : JX 291 16 [jR 772, g1] [] M P := by
  unfold d_Md_readsNewTerm_j16 at h
  refine L_ps c291 (n := 1) (pc1 := 17) (ls1 := [jR 772, g1]) (st1 := [jR 772]) rfl ?_
  refine L_cV (c291 17 rfl) (js_v rfl ((Rl_tag hM rt772 (by decide)).trans js269)) hh291 (k_Md_goes hM h) (fun M μ4 hM h => ?_) (fun _ _ _ _ f => f.elim)
  refine L_ps c291 (n := 1) (pc1 := 21) (ls1 := [jR 772, g1]) (st1 := [jR 772]) rfl ?_
  refine L_getI (c291 21 rfl) hM rt772 rfl ?_
  refine L_nb (p1 := 28) (p2 := 27) (c291 24 rfl) rfl jc_le h (fun h => ?_) (fun h => ?_)
  · exact L_end (c291 27 rfl) rfl (hQ _ _ hM h)
  · refine L_ps c291 (n := 2) (pc1 := 30) (ls1 := [jR 772, g1]) (st1 := [jI 0, jR 772]) rfl ?_
    refine L_putB (t := 11) (c291 30 rfl) hM rt772 rfl (Or.inl rfl) (fun M hM => ?_)
    refine L_ps c291 (n := 3) (pc1 := 39) (ls1 := [jR 772, g1]) (st1 := [jR 772, jI 81, jI 223]) rfl ?_
    refine L_getP (d := 1) (c291 39 rfl) hM rt772 rfl ?_
    refine L_ps c291 (n := 1) (pc1 := 43) (ls1 := [jR 772, g1]) (st1 := [jI 2, jR 773, jI 81, jI 223]) rfl ?_
    refine L_iald (c291 43 rfl) hM rt773 ln773 (by decide) ?_
    refine L_ps c291 (n := 4) (pc1 := 48) (ls1 := [jR 772, jI (wr (223 + (wr (81 * ((mup μ4 772 21 0) 773 2)))))]) (st1 := [jR 772]) rfl ?_
    refine L_getP (d := 1) (c291 48 rfl) hM rt772 rfl ?_
    refine L_ps c291 (n := 9) (pc1 := 61) (ls1 := [jR 772, jI (wr (223 + (wr (81 * ((mup μ4 772 21 0) 773 2)))))]) (st1 := [jI 1, jI 40, jI (wr ((wr (223 + (wr (81 * ((mup μ4 772 21 0) 773 2))))) + 1)), jR 772, jI (wr ((wr (223 + (wr (81 * ((mup μ4 772 21 0) 773 2))))) + 0)), jR 773]) rfl ?_
    refine L_cI (c291 61 rfl) (js_v rfl ((Rl_tag hM rt772 (by decide)).trans js282)) hh291 (k_Md_readTerm hM h) (fun r5 M μ6 hM h => ?_) (fun _ _ _ _ f => f.elim)
    obtain ⟨hb, h⟩ := h
    refine L_iast (c291 64 rfl) hM rt773 ln773 hb (fun M hM => ?_)
    refine L_ps c291 (n := 1) (pc1 := 66) (ls1 := [jR 772, jI (wr (223 + (wr (81 * ((mup μ4 772 21 0) 773 2)))))]) (st1 := [jR 772]) rfl ?_
    refine L_getP (d := 1) (c291 66 rfl) hM rt772 rfl ?_
    refine L_ps c291 (n := 2) (pc1 := 71) (ls1 := [jR 772, jI (wr (223 + (wr (81 * ((mup μ4 772 21 0) 773 2)))))]) (st1 := [jI 2, jR 773, jI 2, jR 773]) rfl ?_
    refine L_iald (c291 71 rfl) hM rt773 ln773 (by decide) ?_
    refine L_ps c291 (n := 2) (pc1 := 74) (ls1 := [jR 772, jI (wr (223 + (wr (81 * ((mup μ4 772 21 0) 773 2)))))]) (st1 := [jI (wr (((mup μ6 773 (wr ((wr (223 + (wr (81 * ((mup μ4 772 21 0) 773 2))))) + 0)).toNat r5) 773 2) + 1)), jI 2, jR 773]) rfl ?_
    refine L_iast (c291 74 rfl) hM rt773 ln773 (by decide) (fun M hM => ?_)
    exact L_end (c291 75 rfl) rfl (hQ _ _ hM h)
theorem k_Md_readsNewTerm {E : JE2} {μ : Mem} {M : JM} {Q : Mem → Prop} (hM : Rl E M μ) (h : d_Md_readsNewTerm μ Q) : JX 291 0 (jargs 291 [jR 772]) [] M (PO E (QV Q) XN) := by
  unfold d_Md_readsNewTerm at h
  show JX 291 0 [jR 772, jU] [] M (PO E (QV Q) XN)
  generalize hP : PO E (QV Q) XN = P
  have hQ : ∀ (M1 : JM) (μ1 : Mem), Rl E M1 μ1 → Q μ1 → P (.inl none) M1 := by rw [← hP]; exact fun M1 μ1 a b => ⟨μ1, a, rfl, b⟩
  clear hP
  refine L_ps c291 (n := 1) (pc1 := 1) (ls1 := [jR 772, jU]) (st1 := [jR 772]) rfl ?_
  refine L_getP (d := 1) (c291 1 rfl) hM rt772 rfl ?_
  refine L_ps c291 (n := 1) (pc1 := 5) (ls1 := [jR 772, jU]) (st1 := [jI 2, jR 773]) rfl ?_
  refine L_iald (c291 5 rfl) hM rt773 ln773 (by decide) ?_
  refine L_ps c291 (n := 1) (pc1 := 8) (ls1 := [jR 772, jU]) (st1 := [jI 6, jI (μ 773 2)]) rfl ?_
  refine L_nb (p1 := 16) (p2 := 11) (c291 8 rfl) rfl jc_ne h (fun h => ?_) (fun h => ?_)
  · refine L_ps c291 (n := 2) (pc1 := 13) (ls1 := [jR 772, jU]) (st1 := [jI 5, jR 772]) rfl ?_
    refine L_cV (c291 13 rfl) (js_v rfl ((Rl_tag hM rt772 (by decide)).trans js274)) hh291 (k_Md_faults hM h) (fun M μ2 hM h => ?_) (fun _ _ _ _ f => f.elim)
    exact k_Md_readsNewTerm_j16 hM hQ h
  · exact k_Md_readsNewTerm_j16 hM hQ h
theorem k_Md_sizeOf {E : JE2} {v1 : Int} {μ : Mem} {M : JM} {Q : Int → Prop} (hM : Rl E M μ) (h : d_Md_sizeOf v1 μ Q) : JX 294 0 (jargs 294 [jR 772, jI v1]) [] M (PO E (pQI μ Q) XN) := by
  unfold d_Md_sizeOf at h
  show JX 294 0 [jR 772, jI v1] [] M (PO E (pQI μ Q) XN)
  generalize hP : PO E (pQI μ Q) XN = P
  have hQ : ∀ (r : Int) (M1 : JM), Rl E M1 μ → Q r → P (.inl (some (.inl r))) M1 := by rw [← hP]; exact fun r M1 a b => ⟨μ, a, rfl, r, rfl, b⟩
  clear hP
  refine L_ps c294 (n := 1) (pc1 := 1) (ls1 := [jR 772, jI v1]) (st1 := [jR 772]) rfl ?_
  refine L_getP (d := 1) (c294 1 rfl) hM rt772 rfl ?_
  refine L_ps c294 (n := 7) (pc1 := 14) (ls1 := [jR 772, jI v1]) (st1 := [jI (wr ((wr (223 + (wr (81 * v1)))) + 0)), jR 773]) rfl ?_
  obtain ⟨hb, h⟩ := h
  refine L_iald (c294 14 rfl) hM rt773 ln773 hb ?_
  exact L_retI (c294 15 rfl) (hQ _ _ hM h)
theorem k_Md_lends {E : JE2} {v1 : Int} {μ : Mem} {M : JM} {Q : Mem → Prop} (hM : Rl E M μ) (h : d_Md_lends v1 μ Q) : JX 293 0 (jargs 293 [jR 772, jI v1]) [] M (PO E (QV Q) XN) := by
  unfold d_Md_lends at h
  show JX 293 0 [jR 772, jI v1] [] M (PO E (QV Q) XN)
  generalize hP : PO E (QV Q) XN = P
  have hQ : ∀ (M1 : JM) (μ1 : Mem), Rl E M1 μ1 → Q μ1 → P (.inl none) M1 := by rw [← hP]; exact fun M1 μ1 a b => ⟨μ1, a, rfl, b⟩
  clear hP
  refine L_ps c293 (n := 3) (pc1 := 3) (ls1 := [jR 772, jI v1]) (st1 := [jI v1, jR 772, jR 772]) rfl ?_
  refine L_cpI (c293 3 rfl) (js_v rfl ((Rl_tag hM rt772 (by decide)).trans js294)) hh293 (k_Md_sizeOf hM h) (fun r1 M hM h => ?_) (fun _ _ _ _ f => f.elim)
  refine L_putI (c293 6 rfl) hM rt772 rfl (fun M hM => ?_)
  refine L_ps c293 (n := 1) (pc1 := 10) (ls1 := [jR 772, jI v1]) (st1 := [jR 772]) rfl ?_
  refine L_getP (d := 1) (c293 10 rfl) hM rt772 rfl ?_
  refine L_ps c293 (n := 8) (pc1 := 24) (ls1 := [jR 772, jI v1]) (st1 := [jR 772, jI (wr ((wr (223 + (wr (81 * v1)))) + 1)), jR 773]) rfl ?_
  refine L_getP (d := 8) (c293 24 rfl) hM rt772 rfl ?_
  refine L_ps c293 (n := 2) (pc1 := 29) (ls1 := [jR 772, jI v1]) (st1 := [jR 772, jI 0, jR 780, jI (wr ((wr (223 + (wr (81 * v1)))) + 1)), jR 773]) rfl ?_
  refine L_getI (c293 29 rfl) hM rt772 rfl ?_
  refine L_cV (c293 32 rfl) (js_t rfl) hh293 (k_Md_lays rt773 rt780 hM h) (fun M μ4 hM h => ?_) (fun _ _ _ _ f => f.elim)
  exact L_end (c293 35 rfl) rfl (hQ _ _ hM h)
theorem k_Md_stores {E : JE2} {v1 : Int} {μ : Mem} {M : JM} {Q : Mem → Prop} (hM : Rl E M μ) (h : d_Md_stores v1 μ Q) : JX 295 0 (jargs 295 [jR 772, jI v1]) [] M (PO E (QV Q) XN) := by
  unfold d_Md_stores at h
  show JX 295 0 [jR 772, jI v1] [] M (PO E (QV Q) XN)
  generalize hP : PO E (QV Q) XN = P
  have hQ : ∀ (M1 : JM) (μ1 : Mem), Rl E M1 μ1 → Q μ1 → P (.inl none) M1 := by rw [← hP]; exact fun M1 μ1 a b => ⟨μ1, a, rfl, b⟩
  clear hP
  refine L_ps c295 (n := 1) (pc1 := 1) (ls1 := [jR 772, jI v1]) (st1 := [jR 772]) rfl ?_
  refine L_getP (d := 1) (c295 1 rfl) hM rt772 rfl ?_
  refine L_ps c295 (n := 8) (pc1 := 15) (ls1 := [jR 772, jI v1]) (st1 := [jR 772, jI (wr ((wr (223 + (wr (81 * v1)))) + 0)), jR 773]) rfl ?_
  refine L_getI (c295 15 rfl) hM rt772 rfl ?_
  obtain ⟨hb, h⟩ := h
  refine L_iast (c295 18 rfl) hM rt773 ln773 hb (fun M hM => ?_)
  refine L_ps c295 (n := 1) (pc1 := 20) (ls1 := [jR 772, jI v1]) (st1 := [jR 772]) rfl ?_
  refine L_getP (d := 8) (c295 20 rfl) hM rt772 rfl ?_
  refine L_ps c295 (n := 2) (pc1 := 25) (ls1 := [jR 772, jI v1]) (st1 := [jR 772, jI 0, jR 780]) rfl ?_
  refine L_getP (d := 1) (c295 25 rfl) hM rt772 rfl ?_
  refine L_ps c295 (n := 8) (pc1 := 39) (ls1 := [jR 772, jI v1]) (st1 := [jR 772, jI (wr ((wr (223 + (wr (81 * v1)))) + 1)), jR 773, jI 0, jR 780]) rfl ?_
  refine L_getI (c295 39 rfl) hM rt772 rfl ?_
  refine L_cV (c295 42 rfl) (js_t rfl) hh295 (k_Md_lays rt780 rt773 hM h) (fun M μ2 hM h => ?_) (fun _ _ _ _ f => f.elim)
  exact L_end (c295 45 rfl) rfl (hQ _ _ hM h)
theorem k_Md_readsCopy_j16 {E : JE2} {μ : Mem} {M : JM} {P : JO → JM → Prop} {g1 : JV} {Q : Mem → Prop} (hM : Rl E M μ) (hQ : ∀ (M1 : JM) (μ1 : Mem), Rl E M1 μ1 → Q μ1 → P (.inl none) M1) (h : d_Md_readsCopy_j16 μ Q) : JX 292 16 [jR 772, g1] [] M P := by
  unfold d_Md_readsCopy_j16 at h
  refine L_ps c292 (n := 1) (pc1 := 17) (ls1 := [jR 772, g1]) (st1 := [jR 772]) rfl ?_
  refine L_cV (c292 17 rfl) (js_v rfl ((Rl_tag hM rt772 (by decide)).trans js269)) hh292 (k_Md_goes hM h) (fun M μ4 hM h => ?_) (fun _ _ _ _ f => f.elim)
  refine L_ps c292 (n := 2) (pc1 := 22) (ls1 := [jR 772, g1]) (st1 := [jR 772, jR 772]) rfl ?_
  refine L_getP (d := 1) (c292 22 rfl) hM rt772 rfl ?_
  refine L_ps c292 (n := 1) (pc1 := 26) (ls1 := [jR 772, g1]) (st1 := [jI 2, jR 773, jR 772]) rfl ?_
  refine L_iald (c292 26 rfl) hM rt773 ln773 (by decide) ?_
  refine L_ps c292 (n := 2) (pc1 := 29) (ls1 := [jR 772, g1]) (st1 := [jI (wr ((μ4 773 2) - 1)), jR 772]) rfl ?_
  refine L_cI (c292 29 rfl) (js_v rfl ((Rl_tag hM rt772 (by decide)).trans js280)) hh292 (k_Md_digitHere hM h) (fun r5 M μ6 hM h => ?_) (fun _ _ _ _ f => f.elim)
  refine L_ps c292 (n := 2) (pc1 := 34) (ls1 := [jR 772, jI r5]) (st1 := [jR 772]) rfl ?_
  refine L_cV (c292 34 rfl) (js_v rfl ((Rl_tag hM rt772 (by decide)).trans js269)) hh292 (k_Md_goes hM h) (fun M μ8 hM h => ?_) (fun _ _ _ _ f => f.elim)
  refine L_ps c292 (n := 1) (pc1 := 38) (ls1 := [jR 772, jI r5]) (st1 := [jR 772]) rfl ?_
  refine L_getI (c292 38 rfl) hM rt772 rfl ?_
  refine L_nb (p1 := 45) (p2 := 44) (c292 41 rfl) rfl jc_le h (fun h => ?_) (fun h => ?_)
  · exact L_end (c292 44 rfl) rfl (hQ _ _ hM h)
  · refine L_ps c292 (n := 2) (pc1 := 47) (ls1 := [jR 772, jI r5]) (st1 := [jI r5, jR 772]) rfl ?_
    refine L_cV (c292 47 rfl) (js_v rfl ((Rl_tag hM rt772 (by decide)).trans js293)) hh292 (k_Md_lends hM h) (fun M μ10 hM h => ?_) (fun _ _ _ _ f => f.elim)
    refine L_ps c292 (n := 1) (pc1 := 51) (ls1 := [jR 772, jI r5]) (st1 := [jR 772]) rfl ?_
    refine L_getP (d := 1) (c292 51 rfl) hM rt772 rfl ?_
    refine L_ps c292 (n := 2) (pc1 := 56) (ls1 := [jR 772, jI r5]) (st1 := [jI 2, jR 773, jI 2, jR 773]) rfl ?_
    refine L_iald (c292 56 rfl) hM rt773 ln773 (by decide) ?_
    refine L_ps c292 (n := 2) (pc1 := 59) (ls1 := [jR 772, jI r5]) (st1 := [jI (wr ((μ10 773 2) + 1)), jI 2, jR 773]) rfl ?_
    refine L_iast (c292 59 rfl) hM rt773 ln773 (by decide) (fun M hM => ?_)
    refine L_ps c292 (n := 2) (pc1 := 62) (ls1 := [jR 772, jI r5]) (st1 := [jR 772, jR 772]) rfl ?_
    refine L_getP (d := 1) (c292 62 rfl) hM rt772 rfl ?_
    refine L_ps c292 (n := 1) (pc1 := 66) (ls1 := [jR 772, jI r5]) (st1 := [jI 2, jR 773, jR 772]) rfl ?_
    refine L_iald (c292 66 rfl) hM rt773 ln773 (by decide) ?_
    refine L_ps c292 (n := 2) (pc1 := 69) (ls1 := [jR 772, jI r5]) (st1 := [jI (wr (((mup μ10 773 2 (wr ((μ10 773 2) + 1))) 773 2) - 1)), jR 772]) rfl ?_
    refine L_cV (c292 69 rfl) (js_v rfl ((Rl_tag hM rt772 (by decide)).trans js295)) hh292 (k_Md_stores hM h) (fun M μ12 hM h => ?_) (fun _ _ _ _ f => f.elim)
    exact L_end (c292 72 rfl) rfl (hQ _ _ hM h)
theorem k_Md_readsCopy {E : JE2} {μ : Mem} {M : JM} {Q : Mem → Prop} (hM : Rl E M μ) (h : d_Md_readsCopy μ Q) : JX 292 0 (jargs 292 [jR 772]) [] M (PO E (QV Q) XN) := by
  unfold d_Md_readsCopy at h
  show JX 292 0 [jR 772, jU] [] M (PO E (QV Q) XN)
  generalize hP : PO E (QV Q) XN = P
  have hQ : ∀ (M1 : JM) (μ1 : Mem), Rl E M1 μ1 → Q μ1 → P (.inl none) M1 := by rw [← hP]; exact fun M1 μ1 a b => ⟨μ1, a, rfl, b⟩
  clear hP
  refine L_ps c292 (n := 1) (pc1 := 1) (ls1 := [jR 772, jU]) (st1 := [jR 772]) rfl ?_
  refine L_getP (d := 1) (c292 1 rfl) hM rt772 rfl ?_
  refine L_ps c292 (n := 1) (pc1 := 5) (ls1 := [jR 772, jU]) (st1 := [jI 2, jR 773]) rfl ?_
  refine L_iald (c292 5 rfl) hM rt773 ln773 (by decide) ?_
  refine L_ps c292 (n := 1) (pc1 := 8) (ls1 := [jR 772, jU]) (st1 := [jI 6, jI (μ 773 2)]) rfl ?_
  refine L_nb (p1 := 16) (p2 := 11) (c292 8 rfl) rfl jc_ne h (fun h => ?_) (fun h => ?_)
  · refine L_ps c292 (n := 2) (pc1 := 13) (ls1 := [jR 772, jU]) (st1 := [jI 5, jR 772]) rfl ?_
    refine L_cV (c292 13 rfl) (js_v rfl ((Rl_tag hM rt772 (by decide)).trans js274)) hh292 (k_Md_faults hM h) (fun M μ2 hM h => ?_) (fun _ _ _ _ f => f.elim)
    exact k_Md_readsCopy_j16 hM hQ h
  · exact k_Md_readsCopy_j16 hM hQ h
theorem k_Md_ofRule {E : JE2} {v1 : Int} {v2 : Int} {μ : Mem} {M : JM} {Q : Int → Prop} (hM : Rl E M μ) (h : d_Md_ofRule v1 v2 μ Q) : JX 298 0 (jargs 298 [jR 772, jI v1, jI v2]) [] M (PO E (pQI μ Q) XN) := by
  unfold d_Md_ofRule at h
  show JX 298 0 [jR 772, jI v1, jI v2] [] M (PO E (pQI μ Q) XN)
  generalize hP : PO E (pQI μ Q) XN = P
  have hQ : ∀ (r : Int) (M1 : JM), Rl E M1 μ → Q r → P (.inl (some (.inl r))) M1 := by rw [← hP]; exact fun r M1 a b => ⟨μ, a, rfl, r, rfl, b⟩
  clear hP
  refine L_ps c298 (n := 1) (pc1 := 1) (ls1 := [jR 772, jI v1, jI v2]) (st1 := [jR 772]) rfl ?_
  refine L_getP (d := 1) (c298 1 rfl) hM rt772 rfl ?_
  refine L_ps c298 (n := 7) (pc1 := 13) (ls1 := [jR 772, jI v1, jI v2]) (st1 := [jI (wr ((wr (67 + (wr (26 * v1)))) + v2)), jR 773]) rfl ?_
  obtain ⟨hb, h⟩ := h
  refine L_iald (c298 13 rfl) hM rt773 ln773 hb ?_
  exact L_retI (c298 14 rfl) (hQ _ _ hM h)
theorem k_Md_one {E : JE2} {v0 : Int} {μ : Mem} {M : JM} {Q : Int → Prop} (hM : Rl E M μ) (h : d_Md_one v0 μ Q) : JX 300 0 (jargs 300 [jI v0]) [] M (PO E (pQI μ Q) XN) := by
  unfold d_Md_one at h
  show JX 300 0 [jI v0] [] M (PO E (pQI μ Q) XN)
  generalize hP : PO E (pQI μ Q) XN = P
  have hQ : ∀ (r : Int) (M1 : JM), Rl E M1 μ → Q r → P (.inl (some (.inl r))) M1 := by rw [← hP]; exact fun r M1 a b => ⟨μ, a, rfl, r, rfl, b⟩
  clear hP
  refine L_ps c300 (n := 1) (pc1 := 1) (ls1 := [jI v0]) (st1 := [jI v0]) rfl ?_
  refine L_br (p1 := 8) (p2 := 4) (c300 1 rfl) rfl jc_eq h (fun h => ?_) (fun h => ?_)
  · refine L_ps c300 (n := 1) (pc1 := 9) (ls1 := [jI v0]) (st1 := [jI 0]) rfl ?_
    exact L_retI (c300 9 rfl) (hQ _ _ hM h)
  · refine L_ps c300 (n := 2) (pc1 := 9) (ls1 := [jI v0]) (st1 := [jI 1]) rfl ?_
    exact L_retI (c300 9 rfl) (hQ _ _ hM h)
theorem k_Md_occurrences_j58 {E : JE2} {v1 : Int} {v2 : Int} {v3 : Int} {v4 : Int} {v6 : Int} {t0 : Int} {t1 : Int} {μ : Mem} {M : JM} {P : JO → JM → Prop} {g5 : JV} {W22 : Int → Int → Prop} {Q : Int → Prop} (hg5 : jc2 g5 = false) (hM : Rl E M μ) (hQ : ∀ (r : Int) (M1 : JM), Rl E M1 μ → Q r → P (.inl (some (.inl r))) M1) (hW22 : ∀ (v5 : Int) (v6 : Int) (M1 : JM), Rl E M1 μ → W22 v5 v6 → JX 299 22 [jR 772, jI v1, jI v2, jI v3, jI v4, jI v5, jI v6] [] M1 P) (h : d_Md_occurrences_j58 v1 v2 v3 v4 v6 t0 t1 μ W22 Q) : JX 299 58 [jR 772, jI v1, jI v2, jI v3, jI v4, g5, jI v6] [jI t1, jI t0] M P := by
  unfold d_Md_occurrences_j58 at h
  refine L_cpI (c299 58 rfl) (js_t rfl) hh299 (k_Md_one hM h) (fun r5 M hM h => ?_) (fun _ _ _ _ f => f.elim)
  refine L_ps c299 (n := 4) (pc1 := 22) (ls1 := [jR 772, jI v1, jI v2, jI v3, jI v4, jI (wr (t0 + r5)), jI (wr (v6 + 1))]) (st1 := []) rfl ?_
  exact hW22 _ _ _ hM h
theorem k_Md_occurrences_j43 {E : JE2} {v1 : Int} {v2 : Int} {v3 : Int} {v4 : Int} {v6 : Int} {t0 : Int} {t2 : Int} {t3 : Int} {μ : Mem} {M : JM} {P : JO → JM → Prop} {g5 : JV} {W22 : Int → Int → Prop} {Q : Int → Prop} (hg5 : jc2 g5 = false) (hM : Rl E M μ) (hQ : ∀ (r : Int) (M1 : JM), Rl E M1 μ → Q r → P (.inl (some (.inl r))) M1) (hW22 : ∀ (v5 : Int) (v6 : Int) (M1 : JM), Rl E M1 μ → W22 v5 v6 → JX 299 22 [jR 772, jI v1, jI v2, jI v3, jI v4, jI v5, jI v6] [] M1 P) (h : d_Md_occurrences_j43 v1 v2 v3 v4 v6 t0 t2 t3 μ W22 Q) : JX 299 43 [jR 772, jI v1, jI v2, jI v3, jI v4, g5, jI v6] [jI t3, jI t2, jR 772, jI t0] M P := by
  unfold d_Md_occurrences_j43 at h
  refine L_ps c299 (n := 2) (pc1 := 46) (ls1 := [jR 772, jI v1, jI v2, jI v3, jI v4, g5, jI v6]) (st1 := [jI (wr (t3 + v6)), jI t2, jR 772, jI t0]) rfl ?_
  refine L_cpI (c299 46 rfl) (js_v rfl ((Rl_tag hM rt772 (by decide)).trans js298)) hh299 (k_Md_ofRule hM h) (fun r3 M hM h => ?_) (fun _ _ _ _ f => f.elim)
  refine L_ps c299 (n := 1) (pc1 := 50) (ls1 := [jR 772, jI v1, jI v2, jI v3, jI v4, g5, jI v6]) (st1 := [jI v3, jI r3, jI t0]) rfl ?_
  refine L_nb (p1 := 57) (p2 := 53) (c299 50 rfl) rfl jc_ne h (fun h => ?_) (fun h => ?_)
  · refine L_ps c299 (n := 2) (pc1 := 58) (ls1 := [jR 772, jI v1, jI v2, jI v3, jI v4, g5, jI v6]) (st1 := [jI 1, jI t0]) rfl ?_
    exact k_Md_occurrences_j58 hg5 hM hQ hW22 h
  · refine L_ps c299 (n := 1) (pc1 := 58) (ls1 := [jR 772, jI v1, jI v2, jI v3, jI v4, g5, jI v6]) (st1 := [jI 0, jI t0]) rfl ?_
    exact k_Md_occurrences_j58 hg5 hM hQ hW22 h
theorem k_Md_occurrences_b22 {E : JE2} {v1 : Int} {v2 : Int} {v3 : Int} {v4 : Int} {v5 : Int} {v6 : Int} {μ : Mem} {M : JM} {P : JO → JM → Prop} {W22 : Int → Int → Prop} {Q : Int → Prop} (hM : Rl E M μ) (hQ : ∀ (r : Int) (M1 : JM), Rl E M1 μ → Q r → P (.inl (some (.inl r))) M1) (hW22 : ∀ (v5 : Int) (v6 : Int) (M1 : JM), Rl E M1 μ → W22 v5 v6 → JX 299 22 [jR 772, jI v1, jI v2, jI v3, jI v4, jI v5, jI v6] [] M1 P) (h : d_Md_occurrences_b22 v1 v2 v3 v4 v5 v6 μ W22 Q) : JX 299 22 [jR 772, jI v1, jI v2, jI v3, jI v4, jI v5, jI v6] [] M P := by
  unfold d_Md_occurrences_b22 at h
  refine L_ps c299 (n := 2) (pc1 := 26) (ls1 := [jR 772, jI v1, jI v2, jI v3, jI v4, jI v5, jI v6]) (st1 := [jI v4, jI v6]) rfl ?_
  refine L_nb (p1 := 70) (p2 := 29) (c299 26 rfl) rfl jc_ge h (fun h => ?_) (fun h => ?_)
  · refine L_ps c299 (n := 4) (pc1 := 34) (ls1 := [jR 772, jI v1, jI v2, jI v3, jI v4, jI v5, jI v6]) (st1 := [jI v2, jI v1, jR 772, jI v5]) rfl ?_
    refine L_br (p1 := 41) (p2 := 37) (c299 34 rfl) rfl jc_eq h (fun h => ?_) (fun h => ?_)
    · refine L_ps c299 (n := 1) (pc1 := 43) (ls1 := [jR 772, jI v1, jI v2, jI v3, jI v4, jI v5, jI v6]) (st1 := [jI 14, jI v1, jR 772, jI v5]) rfl ?_
      exact k_Md_occurrences_j43 rfl hM hQ hW22 h
    · refine L_ps c299 (n := 2) (pc1 := 43) (ls1 := [jR 772, jI v1, jI v2, jI v3, jI v4, jI v5, jI v6]) (st1 := [jI 2, jI v1, jR 772, jI v5]) rfl ?_
      exact k_Md_occurrences_j43 rfl hM hQ hW22 h
  · refine L_ps c299 (n := 1) (pc1 := 72) (ls1 := [jR 772, jI v1, jI v2, jI v3, jI v4, jI v5, jI v6]) (st1 := [jI v5]) rfl ?_
    exact L_retI (c299 72 rfl) (hQ _ _ hM h)
theorem k_Md_occurrences_l22 {E : JE2} {v1 : Int} {v2 : Int} {v3 : Int} {v4 : Int} {v5 : Int} {v6 : Int} {μ : Mem} {M : JM} {P : JO → JM → Prop} {Q : Int → Prop} (hM : Rl E M μ) (hQ : ∀ (r : Int) (M1 : JM), Rl E M1 μ → Q r → P (.inl (some (.inl r))) M1) (h : d_Md_occurrences_l22 v1 v2 v3 v4 v5 v6 μ Q) : JX 299 22 [jR 772, jI v1, jI v2, jI v3, jI v4, jI v5, jI v6] [] M P := by
  refine h (fun v5 v6 => ∀ (M : JM), Rl E M μ → JX 299 22 [jR 772, jI v1, jI v2, jI v3, jI v4, jI v5, jI v6] [] M P) ?_ _ hM
  intro v5 v6 h M hM
  exact k_Md_occurrences_b22 hM hQ (fun v5 v6 M hM h => h M hM) h
theorem k_Md_occurrences_j11 {E : JE2} {v1 : Int} {v2 : Int} {v3 : Int} {t1 : Int} {t2 : Int} {μ : Mem} {M : JM} {P : JO → JM → Prop} {g4 : JV} {g5 : JV} {g6 : JV} {Q : Int → Prop} (hg4 : jc2 g4 = false) (hg5 : jc2 g5 = false) (hM : Rl E M μ) (hQ : ∀ (r : Int) (M1 : JM), Rl E M1 μ → Q r → P (.inl (some (.inl r))) M1) (h : d_Md_occurrences_j11 v1 v2 v3 t1 t2 μ Q) : JX 299 11 [jR 772, jI v1, jI v2, jI v3, g4, g5, g6] [jI t2, jI t1, jR 772] M P := by
  unfold d_Md_occurrences_j11 at h
  refine L_cpI (c299 11 rfl) (js_v rfl ((Rl_tag hM rt772 (by decide)).trans js298)) hh299 (k_Md_ofRule hM h) (fun r1 M hM h => ?_) (fun _ _ _ _ f => f.elim)
  refine L_ps c299 (n := 5) (pc1 := 22) (ls1 := [jR 772, jI v1, jI v2, jI v3, jI r1, jI 0, jI 0]) (st1 := []) rfl ?_
  exact k_Md_occurrences_l22 hM hQ h
theorem k_Md_occurrences {E : JE2} {v1 : Int} {v2 : Int} {v3 : Int} {μ : Mem} {M : JM} {Q : Int → Prop} (hM : Rl E M μ) (h : d_Md_occurrences v1 v2 v3 μ Q) : JX 299 0 (jargs 299 [jR 772, jI v1, jI v2, jI v3]) [] M (PO E (pQI μ Q) XN) := by
  unfold d_Md_occurrences at h
  show JX 299 0 [jR 772, jI v1, jI v2, jI v3, jU, jU, jU] [] M (PO E (pQI μ Q) XN)
  generalize hP : PO E (pQI μ Q) XN = P
  have hQ : ∀ (r : Int) (M1 : JM), Rl E M1 μ → Q r → P (.inl (some (.inl r))) M1 := by rw [← hP]; exact fun r M1 a b => ⟨μ, a, rfl, r, rfl, b⟩
  clear hP
  refine L_ps c299 (n := 3) (pc1 := 3) (ls1 := [jR 772, jI v1, jI v2, jI v3, jU, jU, jU]) (st1 := [jI v2, jI v1, jR 772]) rfl ?_
  refine L_br (p1 := 10) (p2 := 6) (c299 3 rfl) rfl jc_eq h (fun h => ?_) (fun h => ?_)
  · refine L_ps c299 (n := 1) (pc1 := 11) (ls1 := [jR 772, jI v1, jI v2, jI v3, jU, jU, jU]) (st1 := [jI 1, jI v1, jR 772]) rfl ?_
    exact k_Md_occurrences_j11 rfl rfl hM hQ h
  · refine L_ps c299 (n := 2) (pc1 := 11) (ls1 := [jR 772, jI v1, jI v2, jI v3, jU, jU, jU]) (st1 := [jI 0, jI v1, jR 772]) rfl ?_
    exact k_Md_occurrences_j11 rfl rfl hM hQ h
theorem k_Md_canReverse_j50 {E : JE2} {v1 : Int} {v2 : Int} {μ : Mem} {M : JM} {P : JO → JM → Prop} {W16 : Int → Prop} {Q : Bool → Prop} (hM : Rl E M μ) (hQ : ∀ (r : Bool) (M1 : JM), Rl E M1 μ → Q r → P (.inl (some (.inl (b2i r)))) M1) (hW16 : ∀ (v2 : Int) (M1 : JM), Rl E M1 μ → W16 v2 → JX 297 16 [jR 772, jI v1, jI v2] [] M1 P) (h : d_Md_canReverse_j50 v1 v2 μ W16 Q) : JX 297 50 [jR 772, jI v1, jI v2] [] M P := by
  unfold d_Md_canReverse_j50 at h
  refine L_ps c297 (n := 2) (pc1 := 16) (ls1 := [jR 772, jI v1, jI (wr (v2 + 1))]) (st1 := []) rfl ?_
  exact hW16 _ _ hM h
theorem k_Md_canReverse_b16 {E : JE2} {v1 : Int} {v2 : Int} {μ : Mem} {M : JM} {P : JO → JM → Prop} {W16 : Int → Prop} {Q : Bool → Prop} (hM : Rl E M μ) (hQ : ∀ (r : Bool) (M1 : JM), Rl E M1 μ → Q r → P (.inl (some (.inl (b2i r)))) M1) (hW16 : ∀ (v2 : Int) (M1 : JM), Rl E M1 μ → W16 v2 → JX 297 16 [jR 772, jI v1, jI v2] [] M1 P) (h : d_Md_canReverse_b16 v1 v2 μ W16 Q) : JX 297 16 [jR 772, jI v1, jI v2] [] M P := by
  unfold d_Md_canReverse_b16 at h
  refine L_ps c297 (n := 2) (pc1 := 19) (ls1 := [jR 772, jI v1, jI v2]) (st1 := [jI 8, jI v2]) rfl ?_
  refine L_nb (p1 := 56) (p2 := 22) (c297 19 rfl) rfl jc_ge h (fun h => ?_) (fun h => ?_)
  · refine L_ps c297 (n := 6) (pc1 := 29) (ls1 := [jR 772, jI v1, jI v2]) (st1 := [jI (wr (100 + v2)), jI 1, jI v1, jR 772]) rfl ?_
    refine L_cpI (c297 29 rfl) (js_v rfl ((Rl_tag hM rt772 (by decide)).trans js299)) hh297 (k_Md_occurrences hM h) (fun r3 M hM h => ?_) (fun _ _ _ _ f => f.elim)
    refine L_nb (p1 := 50) (p2 := 35) (c297 32 rfl) rfl jc_le h (fun h => ?_) (fun h => ?_)
    · refine L_ps c297 (n := 6) (pc1 := 42) (ls1 := [jR 772, jI v1, jI v2]) (st1 := [jI (wr (100 + v2)), jI 0, jI v1, jR 772]) rfl ?_
      refine L_cpI (c297 42 rfl) (js_v rfl ((Rl_tag hM rt772 (by decide)).trans js299)) hh297 (k_Md_occurrences hM h) (fun r5 M hM h => ?_) (fun _ _ _ _ f => f.elim)
      refine L_nb (p1 := 50) (p2 := 48) (c297 45 rfl) rfl jc_ne h (fun h => ?_) (fun h => ?_)
      · refine L_ps c297 (n := 1) (pc1 := 49) (ls1 := [jR 772, jI v1, jI v2]) (st1 := [jI 0]) rfl ?_
        exact L_retB (c297 49 rfl) (Or.inl rfl) (hQ false _ hM h)
      · exact k_Md_canReverse_j50 hM hQ hW16 h
    · exact k_Md_canReverse_j50 hM hQ hW16 h
  · refine L_ps c297 (n := 1) (pc1 := 57) (ls1 := [jR 772, jI v1, jI v2]) (st1 := [jI 1]) rfl ?_
    exact L_retB (c297 57 rfl) (Or.inr rfl) (hQ true _ hM h)
theorem k_Md_canReverse_l16 {E : JE2} {v1 : Int} {v2 : Int} {μ : Mem} {M : JM} {P : JO → JM → Prop} {Q : Bool → Prop} (hM : Rl E M μ) (hQ : ∀ (r : Bool) (M1 : JM), Rl E M1 μ → Q r → P (.inl (some (.inl (b2i r)))) M1) (h : d_Md_canReverse_l16 v1 v2 μ Q) : JX 297 16 [jR 772, jI v1, jI v2] [] M P := by
  refine h (fun v2 => ∀ (M : JM), Rl E M μ → JX 297 16 [jR 772, jI v1, jI v2] [] M P) ?_ _ hM
  intro v2 h M hM
  exact k_Md_canReverse_b16 hM hQ (fun v2 M hM h => h M hM) h
theorem k_Md_canReverse {E : JE2} {v1 : Int} {μ : Mem} {M : JM} {Q : Bool → Prop} (hM : Rl E M μ) (h : d_Md_canReverse v1 μ Q) : JX 297 0 (jargs 297 [jR 772, jI v1]) [] M (PO E (pQB μ Q) XN) := by
  unfold d_Md_canReverse at h
  show JX 297 0 [jR 772, jI v1, jU] [] M (PO E (pQB μ Q) XN)
  generalize hP : PO E (pQB μ Q) XN = P
  have hQ : ∀ (r : Bool) (M1 : JM), Rl E M1 μ → Q r → P (.inl (some (.inl (b2i r)))) M1 := by rw [← hP]; exact fun r M1 a b => ⟨μ, a, rfl, r, rfl, b⟩
  clear hP
  refine L_ps c297 (n := 3) (pc1 := 4) (ls1 := [jR 772, jI v1, jU]) (st1 := [jI 14, jI v1, jR 772]) rfl ?_
  refine L_cpI (c297 4 rfl) (js_v rfl ((Rl_tag hM rt772 (by decide)).trans js298)) hh297 (k_Md_ofRule hM h) (fun r1 M hM h => ?_) (fun _ _ _ _ f => f.elim)
  refine L_ps c297 (n := 1) (pc1 := 9) (ls1 := [jR 772, jI v1, jU]) (st1 := [jI 100, jI r1]) rfl ?_
  refine L_br (p1 := 14) (p2 := 12) (c297 9 rfl) rfl jc_lt h (fun h => ?_) (fun h => ?_)
  · refine L_ps c297 (n := 2) (pc1 := 16) (ls1 := [jR 772, jI v1, jI 0]) (st1 := []) rfl ?_
    exact k_Md_canReverse_l16 hM hQ h
  · refine L_ps c297 (n := 1) (pc1 := 13) (ls1 := [jR 772, jI v1, jU]) (st1 := [jI 0]) rfl ?_
    exact L_retB (c297 13 rfl) (Or.inl rfl) (hQ false _ hM h)
theorem k_Md_exchanges {E : JE2} {v1 : Int} {v2 : Int} {μ : Mem} {M : JM} {Q : Mem → Prop} (hM : Rl E M μ) (h : d_Md_exchanges v1 v2 μ Q) : JX 302 0 (jargs 302 [jR 772, jI v1, jI v2]) [] M (PO E (QV Q) XN) := by
  unfold d_Md_exchanges at h
  show JX 302 0 [jR 772, jI v1, jI v2, jU] [] M (PO E (QV Q) XN)
  generalize hP : PO E (QV Q) XN = P
  have hQ : ∀ (M1 : JM) (μ1 : Mem), Rl E M1 μ1 → Q μ1 → P (.inl none) M1 := by rw [← hP]; exact fun M1 μ1 a b => ⟨μ1, a, rfl, b⟩
  clear hP
  refine L_ps c302 (n := 1) (pc1 := 1) (ls1 := [jR 772, jI v1, jI v2, jU]) (st1 := [jR 772]) rfl ?_
  refine L_getP (d := 1) (c302 1 rfl) hM rt772 rfl ?_
  refine L_ps c302 (n := 1) (pc1 := 5) (ls1 := [jR 772, jI v1, jI v2, jU]) (st1 := [jI v1, jR 773]) rfl ?_
  obtain ⟨hb, h⟩ := h
  refine L_iald (c302 5 rfl) hM rt773 ln773 hb ?_
  refine L_ps c302 (n := 2) (pc1 := 8) (ls1 := [jR 772, jI v1, jI v2, jI (μ 773 v1.toNat)]) (st1 := [jR 772]) rfl ?_
  refine L_getP (d := 1) (c302 8 rfl) hM rt772 rfl ?_
  refine L_ps c302 (n := 2) (pc1 := 13) (ls1 := [jR 772, jI v1, jI v2, jI (μ 773 v1.toNat)]) (st1 := [jR 772, jI v1, jR 773]) rfl ?_
  refine L_getP (d := 1) (c302 13 rfl) hM rt772 rfl ?_
  refine L_ps c302 (n := 1) (pc1 := 17) (ls1 := [jR 772, jI v1, jI v2, jI (μ 773 v1.toNat)]) (st1 := [jI v2, jR 773, jI v1, jR 773]) rfl ?_
  obtain ⟨hb, h⟩ := h
  refine L_iald (c302 17 rfl) hM rt773 ln773 hb ?_
  obtain ⟨hb, h⟩ := h
  refine L_iast (c302 18 rfl) hM rt773 ln773 hb (fun M hM => ?_)
  refine L_ps c302 (n := 1) (pc1 := 20) (ls1 := [jR 772, jI v1, jI v2, jI (μ 773 v1.toNat)]) (st1 := [jR 772]) rfl ?_
  refine L_getP (d := 1) (c302 20 rfl) hM rt772 rfl ?_
  refine L_ps c302 (n := 2) (pc1 := 25) (ls1 := [jR 772, jI v1, jI v2, jI (μ 773 v1.toNat)]) (st1 := [jI (μ 773 v1.toNat), jI v2, jR 773]) rfl ?_
  obtain ⟨hb, h⟩ := h
  refine L_iast (c302 25 rfl) hM rt773 ln773 hb (fun M hM => ?_)
  exact L_end (c302 26 rfl) rfl (hQ _ _ hM h)
theorem k_Md_reverses_b20 {E : JE2} {v2 : Int} {v3 : Int} {μ : Mem} {M : JM} {P : JO → JM → Prop} {g1 : JV} {W20 : Int → Mem → Prop} {Q : Mem → Prop} (hg1 : jc2 g1 = false) (hM : Rl E M μ) (hQ : ∀ (M1 : JM) (μ1 : Mem), Rl E M1 μ1 → Q μ1 → P (.inl none) M1) (hW20 : ∀ (v3 : Int) (g1 : JV) (M1 : JM) (μ1 : Mem), jc2 g1 = false → Rl E M1 μ1 → W20 v3 μ1 → JX 301 20 [jR 772, g1, jI v2, jI v3] [] M1 P) (h : d_Md_reverses_b20 v2 v3 μ W20 Q) : JX 301 20 [jR 772, g1, jI v2, jI v3] [] M P := by
  unfold d_Md_reverses_b20 at h
  refine L_ps c301 (n := 2) (pc1 := 23) (ls1 := [jR 772, g1, jI v2, jI v3]) (st1 := [jI 12, jI v3]) rfl ?_
  refine L_nb (p1 := 47) (p2 := 26) (c301 23 rfl) rfl jc_ge h (fun h => ?_) (fun h => ?_)
  · refine L_ps c301 (n := 11) (pc1 := 38) (ls1 := [jR 772, g1, jI v2, jI v3]) (st1 := [jI (wr ((wr (v2 + 14)) + v3)), jI (wr ((wr (v2 + 2)) + v3)), jR 772]) rfl ?_
    refine L_cV (c301 38 rfl) (js_v rfl ((Rl_tag hM rt772 (by decide)).trans js302)) hh301 (k_Md_exchanges hM h) (fun M μ4 hM h => ?_) (fun _ _ _ _ f => f.elim)
    refine L_ps c301 (n := 2) (pc1 := 20) (ls1 := [jR 772, g1, jI v2, jI (wr (v3 + 1))]) (st1 := []) rfl ?_
    exact hW20 _ _ _ _ hg1 hM h
  · exact L_end (c301 47 rfl) rfl (hQ _ _ hM h)
theorem k_Md_reverses_l20 {E : JE2} {v2 : Int} {v3 : Int} {μ : Mem} {M : JM} {P : JO → JM → Prop} {g1 : JV} {Q : Mem → Prop} (hg1 : jc2 g1 = false) (hM : Rl E M μ) (hQ : ∀ (M1 : JM) (μ1 : Mem), Rl E M1 μ1 → Q μ1 → P (.inl none) M1) (h : d_Md_reverses_l20 v2 v3 μ Q) : JX 301 20 [jR 772, g1, jI v2, jI v3] [] M P := by
  refine h (fun v3 μ => ∀ (g1 : JV) (M : JM), jc2 g1 = false → Rl E M μ → JX 301 20 [jR 772, g1, jI v2, jI v3] [] M P) ?_ _ _ hg1 hM
  intro v3 μ h g1 M hg1 hM
  exact k_Md_reverses_b20 hg1 hM hQ (fun v3 g1 M μ hg1 hM h => h g1 M hg1 hM) h
theorem k_Md_reverses {E : JE2} {v1 : Int} {μ : Mem} {M : JM} {Q : Mem → Prop} (hM : Rl E M μ) (h : d_Md_reverses v1 μ Q) : JX 301 0 (jargs 301 [jR 772, jI v1]) [] M (PO E (QV Q) XN) := by
  unfold d_Md_reverses at h
  show JX 301 0 [jR 772, jI v1, jU, jU] [] M (PO E (QV Q) XN)
  generalize hP : PO E (QV Q) XN = P
  have hQ : ∀ (M1 : JM) (μ1 : Mem), Rl E M1 μ1 → Q μ1 → P (.inl none) M1 := by rw [← hP]; exact fun M1 μ1 a b => ⟨μ1, a, rfl, b⟩
  clear hP
  refine L_ps c301 (n := 13) (pc1 := 15) (ls1 := [jR 772, jI v1, jI (wr (67 + (wr (26 * v1)))), jU]) (st1 := [jI (wr ((wr (67 + (wr (26 * v1)))) + 1)), jI (wr ((wr (67 + (wr (26 * v1)))) + 0)), jR 772]) rfl ?_
  refine L_cV (c301 15 rfl) (js_v rfl ((Rl_tag hM rt772 (by decide)).trans js302)) hh301 (k_Md_exchanges hM h) (fun M μ2 hM h => ?_) (fun _ _ _ _ f => f.elim)
  refine L_ps c301 (n := 2) (pc1 := 20) (ls1 := [jR 772, jI v1, jI (wr (67 + (wr (26 * v1)))), jI 0]) (st1 := []) rfl ?_
  exact k_Md_reverses_l20 rfl hM hQ h
theorem k_Md_readsFlip_j49 {E : JE2} {μ : Mem} {M : JM} {P : JO → JM → Prop} {g1 : JV} {Q : Mem → Prop} (hM : Rl E M μ) (hQ : ∀ (M1 : JM) (μ1 : Mem), Rl E M1 μ1 → Q μ1 → P (.inl none) M1) (h : d_Md_readsFlip_j49 μ Q) : JX 296 49 [jR 772, g1] [] M P := by
  unfold d_Md_readsFlip_j49 at h
  refine L_ps c296 (n := 1) (pc1 := 50) (ls1 := [jR 772, g1]) (st1 := [jR 772]) rfl ?_
  refine L_cV (c296 50 rfl) (js_v rfl ((Rl_tag hM rt772 (by decide)).trans js269)) hh296 (k_Md_goes hM h) (fun M μ10 hM h => ?_) (fun _ _ _ _ f => f.elim)
  exact L_end (c296 53 rfl) rfl (hQ _ _ hM h)
theorem k_Md_readsFlip_j37 {E : JE2} {v1 : Int} {μ : Mem} {M : JM} {P : JO → JM → Prop} {Q : Mem → Prop} (hM : Rl E M μ) (hQ : ∀ (M1 : JM) (μ1 : Mem), Rl E M1 μ1 → Q μ1 → P (.inl none) M1) (h : d_Md_readsFlip_j37 v1 μ Q) : JX 296 37 [jR 772, jI v1] [] M P := by
  unfold d_Md_readsFlip_j37 at h
  refine L_ps c296 (n := 1) (pc1 := 38) (ls1 := [jR 772, jI v1]) (st1 := [jR 772]) rfl ?_
  refine L_getI (c296 38 rfl) hM rt772 rfl ?_
  refine L_nb (p1 := 49) (p2 := 44) (c296 41 rfl) rfl jc_ne h (fun h => ?_) (fun h => ?_)
  · refine L_ps c296 (n := 2) (pc1 := 46) (ls1 := [jR 772, jI v1]) (st1 := [jI v1, jR 772]) rfl ?_
    refine L_cV (c296 46 rfl) (js_v rfl ((Rl_tag hM rt772 (by decide)).trans js301)) hh296 (k_Md_reverses hM h) (fun M μ8 hM h => ?_) (fun _ _ _ _ f => f.elim)
    exact k_Md_readsFlip_j49 hM hQ h
  · exact k_Md_readsFlip_j49 hM hQ h
theorem k_Md_readsFlip {E : JE2} {μ : Mem} {M : JM} {Q : Mem → Prop} (hM : Rl E M μ) (h : d_Md_readsFlip μ Q) : JX 296 0 (jargs 296 [jR 772]) [] M (PO E (QV Q) XN) := by
  unfold d_Md_readsFlip at h
  show JX 296 0 [jR 772, jU] [] M (PO E (QV Q) XN)
  generalize hP : PO E (QV Q) XN = P
  have hQ : ∀ (M1 : JM) (μ1 : Mem), Rl E M1 μ1 → Q μ1 → P (.inl none) M1 := by rw [← hP]; exact fun M1 μ1 a b => ⟨μ1, a, rfl, b⟩
  clear hP
  refine L_ps c296 (n := 1) (pc1 := 1) (ls1 := [jR 772, jU]) (st1 := [jR 772]) rfl ?_
  refine L_cV (c296 1 rfl) (js_v rfl ((Rl_tag hM rt772 (by decide)).trans js269)) hh296 (k_Md_goes hM h) (fun M μ2 hM h => ?_) (fun _ _ _ _ f => f.elim)
  refine L_ps c296 (n := 2) (pc1 := 6) (ls1 := [jR 772, jU]) (st1 := [jR 772, jR 772]) rfl ?_
  refine L_getP (d := 1) (c296 6 rfl) hM rt772 rfl ?_
  refine L_ps c296 (n := 1) (pc1 := 10) (ls1 := [jR 772, jU]) (st1 := [jI 1, jR 773, jR 772]) rfl ?_
  refine L_iald (c296 10 rfl) hM rt773 ln773 (by decide) ?_
  refine L_ps c296 (n := 2) (pc1 := 13) (ls1 := [jR 772, jU]) (st1 := [jI (wr ((μ2 773 1) - 1)), jR 772]) rfl ?_
  refine L_cI (c296 13 rfl) (js_v rfl ((Rl_tag hM rt772 (by decide)).trans js280)) hh296 (k_Md_digitHere hM h) (fun r3 M μ4 hM h => ?_) (fun _ _ _ _ f => f.elim)
  refine L_ps c296 (n := 2) (pc1 := 18) (ls1 := [jR 772, jI r3]) (st1 := [jR 772]) rfl ?_
  refine L_getI (c296 18 rfl) hM rt772 rfl ?_
  refine L_nb (p1 := 37) (p2 := 24) (c296 21 rfl) rfl jc_ne h (fun h => ?_) (fun h => ?_)
  · refine L_ps c296 (n := 2) (pc1 := 26) (ls1 := [jR 772, jI r3]) (st1 := [jI r3, jR 772]) rfl ?_
    refine L_cpB (c296 26 rfl) (js_v rfl ((Rl_tag hM rt772 (by decide)).trans js297)) hh296 (k_Md_canReverse hM h) (fun r5 M hM h => ?_) (fun _ _ _ _ f => f.elim)
    refine L_br (p1 := 37) (p2 := 32) (c296 29 rfl) rfl jc_neb h (fun h => ?_) (fun h => ?_)
    · exact k_Md_readsFlip_j37 hM hQ h
    · refine L_ps c296 (n := 2) (pc1 := 34) (ls1 := [jR 772, jI r3]) (st1 := [jI 4, jR 772]) rfl ?_
      refine L_cV (c296 34 rfl) (js_v rfl ((Rl_tag hM rt772 (by decide)).trans js274)) hh296 (k_Md_faults hM h) (fun M μ12 hM h => ?_) (fun _ _ _ _ f => f.elim)
      exact k_Md_readsFlip_j37 hM hQ h
  · exact k_Md_readsFlip_j37 hM hQ h
theorem k_Md_arityOf {E : JE2} {v1 : Int} {μ : Mem} {M : JM} {Q : Int → Prop} (hM : Rl E M μ) (h : d_Md_arityOf v1 μ Q) : JX 312 0 (jargs 312 [jR 772, jI v1]) [] M (PO E (pQI μ Q) XN) := by
  unfold d_Md_arityOf at h
  show JX 312 0 [jR 772, jI v1] [] M (PO E (pQI μ Q) XN)
  generalize hP : PO E (pQI μ Q) XN = P
  have hQ : ∀ (r : Int) (M1 : JM), Rl E M1 μ → Q r → P (.inl (some (.inl r))) M1 := by rw [← hP]; exact fun r M1 a b => ⟨μ, a, rfl, r, rfl, b⟩
  clear hP
  refine L_ps c312 (n := 2) (pc1 := 3) (ls1 := [jR 772, jI v1]) (st1 := [jI 100, jI v1]) rfl ?_
  refine L_br (p1 := 10) (p2 := 6) (c312 3 rfl) rfl jc_lt h (fun h => ?_) (fun h => ?_)
  · refine L_ps c312 (n := 3) (pc1 := 13) (ls1 := [jR 772, jI v1]) (st1 := [jI 0, jI v1, jR 772]) rfl ?_
    refine L_cpI (c312 13 rfl) (js_v rfl ((Rl_tag hM rt772 (by decide)).trans js279)) hh312 (k_Md_ofSymbol hM h) (fun r1 M hM h => ?_) (fun _ _ _ _ f => f.elim)
    exact L_retI (c312 16 rfl) (hQ _ _ hM h)
  · refine L_ps c312 (n := 2) (pc1 := 16) (ls1 := [jR 772, jI v1]) (st1 := [jI 0]) rfl ?_
    exact L_retI (c312 16 rfl) (hQ _ _ hM h)
theorem k_Md_behind_b5 {E : JE2} {v1 : Nat} {v3 : Int} {v4 : Int} {μ : Mem} {M : JM} {P : JO → JM → Prop} {g2 : JV} {W5 : Int → Int → Prop} {Q : Int → Prop} (hg2 : jc2 g2 = false) (hv1 : rt v1 = 100) (hM : Rl E M μ) (hQ : ∀ (r : Int) (M1 : JM), Rl E M1 μ → Q r → P (.inl (some (.inl r))) M1) (hW5 : ∀ (v3 : Int) (v4 : Int) (g2 : JV) (M1 : JM), jc2 g2 = false → Rl E M1 μ → W5 v3 v4 → JX 311 5 [jR 772, jR v1, g2, jI v3, jI v4] [] M1 P) (h : d_Md_behind_b5 v1 v3 v4 μ W5 Q) : JX 311 5 [jR 772, jR v1, g2, jI v3, jI v4] [] M P := by
  unfold d_Md_behind_b5 at h
  refine L_ps c311 (n := 1) (pc1 := 6) (ls1 := [jR 772, jR v1, g2, jI v3, jI v4]) (st1 := [jI v3]) rfl ?_
  refine L_nb (p1 := 28) (p2 := 9) (c311 6 rfl) rfl jc_le h (fun h => ?_) (fun h => ?_)
  · refine L_ps c311 (n := 4) (pc1 := 14) (ls1 := [jR 772, jR v1, g2, jI v3, jI v4]) (st1 := [jI v4, jR v1, jR 772, jI v3]) rfl ?_
    obtain ⟨hb, h⟩ := h
    refine L_iald (c311 14 rfl) hM hv1 rfl hb ?_
    refine L_cpI (c311 15 rfl) (js_v rfl ((Rl_tag hM rt772 (by decide)).trans js312)) hh311 (k_Md_arityOf hM h) (fun r1 M hM h => ?_) (fun _ _ _ _ f => f.elim)
    refine L_ps c311 (n := 3) (pc1 := 21) (ls1 := [jR 772, jR v1, g2, jI v3, jI v4]) (st1 := [jI (wr (v3 + (wr (r1 - 1))))]) rfl ?_
    refine L_istn (c311 21 rfl) (hg2) (Nat.le_of_ble_eq_true rfl) ?_
    show JX 311 22 [jR 772, jR v1, g2, jI (wr (v3 + (wr (r1 - 1)))), jI v4] [] M P
    refine L_ps c311 (n := 2) (pc1 := 5) (ls1 := [jR 772, jR v1, g2, jI (wr (v3 + (wr (r1 - 1)))), jI (wr (v4 + 1))]) (st1 := []) rfl ?_
    exact hW5 _ _ _ _ hg2 hM h
  · refine L_ps c311 (n := 1) (pc1 := 30) (ls1 := [jR 772, jR v1, g2, jI v3, jI v4]) (st1 := [jI v4]) rfl ?_
    exact L_retI (c311 30 rfl) (hQ _ _ hM h)
theorem k_Md_behind_l5 {E : JE2} {v1 : Nat} {v3 : Int} {v4 : Int} {μ : Mem} {M : JM} {P : JO → JM → Prop} {g2 : JV} {Q : Int → Prop} (hg2 : jc2 g2 = false) (hv1 : rt v1 = 100) (hM : Rl E M μ) (hQ : ∀ (r : Int) (M1 : JM), Rl E M1 μ → Q r → P (.inl (some (.inl r))) M1) (h : d_Md_behind_l5 v1 v3 v4 μ Q) : JX 311 5 [jR 772, jR v1, g2, jI v3, jI v4] [] M P := by
  refine h (fun v3 v4 => ∀ (g2 : JV) (M : JM), jc2 g2 = false → Rl E M μ → JX 311 5 [jR 772, jR v1, g2, jI v3, jI v4] [] M P) ?_ _ _ hg2 hM
  intro v3 v4 h g2 M hg2 hM
  exact k_Md_behind_b5 hg2 hv1 hM hQ (fun v3 v4 g2 M hg2 hM h => h g2 M hg2 hM) h
theorem k_Md_behind {E : JE2} {v1 : Nat} {v2 : Int} {μ : Mem} {M : JM} {Q : Int → Prop} (hv1 : rt v1 = 100) (hM : Rl E M μ) (h : d_Md_behind v1 v2 μ Q) : JX 311 0 (jargs 311 [jR 772, jR v1, jI v2]) [] M (PO E (pQI μ Q) XN) := by
  unfold d_Md_behind at h
  show JX 311 0 [jR 772, jR v1, jI v2, jU, jU] [] M (PO E (pQI μ Q) XN)
  generalize hP : PO E (pQI μ Q) XN = P
  have hQ : ∀ (r : Int) (M1 : JM), Rl E M1 μ → Q r → P (.inl (some (.inl r))) M1 := by rw [← hP]; exact fun r M1 a b => ⟨μ, a, rfl, r, rfl, b⟩
  clear hP
  refine L_ps c311 (n := 4) (pc1 := 5) (ls1 := [jR 772, jR v1, jI v2, jI 1, jI v2]) (st1 := []) rfl ?_
  exact k_Md_behind_l5 rfl hv1 hM hQ h
