/-! that the printed tables do what the texts say (written by wip/gen/dec.py), 0 -/
theorem k_Parser_putFourBytes_j52 {E : JE2} {v1 : Int} {v2 : Int} {μ : Mem} {M : JM} {P : JO → JM → Prop} {W3 : Int → Mem → Prop} {Q : Mem → Prop} (hM : Rl E M μ) (hQ : ∀ (M1 : JM) (μ1 : Mem), Rl E M1 μ1 → Q μ1 → P (.inl none) M1) (hW3 : ∀ (v2 : Int) (M1 : JM) (μ1 : Mem), Rl E M1 μ1 → W3 v2 μ1 → JX 14 3 [jR 72, jI v1, jI v2] [] M1 P) (h : d_Parser_putFourBytes_j52 v1 v2 μ W3 Q) : JX 14 52 [jR 72, jI v1, jI v2] [] M P := by
  unfold d_Parser_putFourBytes_j52 at h
  refine L_ps c14 (n := 2) (pc1 := 3) (ls1 := [jR 72, jI v1, jI (wr (v2 + (-8)))]) (st1 := []) rfl ?_
  exact hW3 _ _ _ hM h
theorem k_Parser_putFourBytes_b3 {E : JE2} {v1 : Int} {v2 : Int} {μ : Mem} {M : JM} {P : JO → JM → Prop} {W3 : Int → Mem → Prop} {Q : Mem → Prop} (hM : Rl E M μ) (hQ : ∀ (M1 : JM) (μ1 : Mem), Rl E M1 μ1 → Q μ1 → P (.inl none) M1) (hW3 : ∀ (v2 : Int) (M1 : JM) (μ1 : Mem), Rl E M1 μ1 → W3 v2 μ1 → JX 14 3 [jR 72, jI v1, jI v2] [] M1 P) (h : d_Parser_putFourBytes_b3 v1 v2 μ W3 Q) : JX 14 3 [jR 72, jI v1, jI v2] [] M P := by
  unfold d_Parser_putFourBytes_b3 at h
  refine L_ps c14 (n := 1) (pc1 := 4) (ls1 := [jR 72, jI v1, jI v2]) (st1 := [jI v2]) rfl ?_
  refine L_br (p1 := 58) (p2 := 7) (c14 4 rfl) rfl jc_lt h (fun h => ?_) (fun h => ?_)
  · exact L_end (c14 58 rfl) rfl (hQ _ _ hM h)
  · refine L_ps c14 (n := 1) (pc1 := 8) (ls1 := [jR 72, jI v1, jI v2]) (st1 := [jR 72]) rfl ?_
    refine L_getI (c14 8 rfl) hM rt72 rfl ?_
    refine L_br (p1 := 52) (p2 := 14) (c14 11 rfl) rfl jc_lt h (fun h => ?_) (fun h => ?_)
    · exact k_Parser_putFourBytes_j52 hM hQ hW3 h
    · refine L_ps c14 (n := 1) (pc1 := 15) (ls1 := [jR 72, jI v1, jI v2]) (st1 := [jR 72]) rfl ?_
      refine L_getI (c14 15 rfl) hM rt72 rfl ?_
      refine L_ps c14 (n := 1) (pc1 := 19) (ls1 := [jR 72, jI v1, jI v2]) (st1 := [jR 72, jI (μ 72 4)]) rfl ?_
      refine L_getP (d := 57) (c14 19 rfl) hM rt72 rfl ?_
      refine L_alen (n := 500) (z := 500) (c14 22 rfl) hM rt129 (by decide) ln129 (by decide) rfl ?_
      refine L_nb (p1 := 52) (p2 := 26) (c14 23 rfl) rfl jc_ge h (fun h => ?_) (fun h => ?_)
      · refine L_ps c14 (n := 1) (pc1 := 27) (ls1 := [jR 72, jI v1, jI v2]) (st1 := [jR 72]) rfl ?_
        refine L_getP (d := 57) (c14 27 rfl) hM rt72 rfl ?_
        refine L_ps c14 (n := 1) (pc1 := 31) (ls1 := [jR 72, jI v1, jI v2]) (st1 := [jR 72, jR 129]) rfl ?_
        refine L_getI (c14 31 rfl) hM rt72 rfl ?_
        refine L_ps c14 (n := 5) (pc1 := 41) (ls1 := [jR 72, jI v1, jI v2]) (st1 := [jI (jand (jushr v1 v2) 255), jI (μ 72 4), jR 129]) rfl ?_
        obtain ⟨hb, h⟩ := h
        refine L_iast (c14 41 rfl) hM rt129 ln129 hb (fun M hM => ?_)
        refine L_ps c14 (n := 2) (pc1 := 44) (ls1 := [jR 72, jI v1, jI v2]) (st1 := [jR 72, jR 72]) rfl ?_
        refine L_getI (c14 44 rfl) hM rt72 rfl ?_
        refine L_ps c14 (n := 2) (pc1 := 49) (ls1 := [jR 72, jI v1, jI v2]) (st1 := [jI (wr (((mup μ 129 (μ 72 4).toNat (jand (jushr v1 v2) 255)) 72 4) + 1)), jR 72]) rfl ?_
        refine L_putI (c14 49 rfl) hM rt72 rfl (fun M hM => ?_)
        exact k_Parser_putFourBytes_j52 hM hQ hW3 h
      · exact k_Parser_putFourBytes_j52 hM hQ hW3 h
theorem k_Parser_putFourBytes_l3 {E : JE2} {v1 : Int} {v2 : Int} {μ : Mem} {M : JM} {P : JO → JM → Prop} {Q : Mem → Prop} (hM : Rl E M μ) (hQ : ∀ (M1 : JM) (μ1 : Mem), Rl E M1 μ1 → Q μ1 → P (.inl none) M1) (h : d_Parser_putFourBytes_l3 v1 v2 μ Q) : JX 14 3 [jR 72, jI v1, jI v2] [] M P := by
  refine h (fun v2 μ => ∀ (M : JM), Rl E M μ → JX 14 3 [jR 72, jI v1, jI v2] [] M P) ?_ _ hM
  intro v2 μ h M hM
  exact k_Parser_putFourBytes_b3 hM hQ (fun v2 M μ hM h => h M hM) h
theorem k_Parser_putFourBytes {E : JE2} {v1 : Int} {μ : Mem} {M : JM} {Q : Mem → Prop} (hM : Rl E M μ) (h : d_Parser_putFourBytes v1 μ Q) : JX 14 0 (jargs 14 [jR 72, jI v1]) [] M (PO E (QV Q) XN) := by
  unfold d_Parser_putFourBytes at h
  show JX 14 0 [jR 72, jI v1, jU] [] M (PO E (QV Q) XN)
  generalize hP : PO E (QV Q) XN = P
  have hQ : ∀ (M1 : JM) (μ1 : Mem), Rl E M1 μ1 → Q μ1 → P (.inl none) M1 := by rw [← hP]; exact fun M1 μ1 a b => ⟨μ1, a, rfl, b⟩
  clear hP
  refine L_ps c14 (n := 2) (pc1 := 3) (ls1 := [jR 72, jI v1, jI 24]) (st1 := []) rfl ?_
  exact k_Parser_putFourBytes_l3 hM hQ h
theorem k_OB_append {E : JE2} {v1 : Int} {v2 : Int} {v3 : Int} {v4 : Int} {v5 : Int} {μ : Mem} {M : JM} {Q : Int → Mem → Prop} (hM : Rl E M μ) (h : d_OB_append v1 v2 v3 v4 v5 μ Q) : JX 13 0 (jargs 13 [jR 0, jI v1, jI v2, jI v3, jI v4, jI v5]) [] M (PO E (QI Q) XN) := by
  unfold d_OB_append at h
  show JX 13 0 [jR 0, jI v1, jI v2, jI v3, jI v4, jI v5] [] M (PO E (QI Q) XN)
  generalize hP : PO E (QI Q) XN = P
  have hQ : ∀ (r : Int) (M1 : JM) (μ1 : Mem), Rl E M1 μ1 → Q r μ1 → P (.inl (some (.inl r))) M1 := by rw [← hP]; exact fun r M1 μ1 a b => ⟨μ1, a, r, rfl, b⟩
  clear hP
  refine L_ps c13 (n := 1) (pc1 := 1) (ls1 := [jR 0, jI v1, jI v2, jI v3, jI v4, jI v5]) (st1 := [jR 0]) rfl ?_
  refine L_getP (d := 72) (c13 1 rfl) hM rt0 rfl ?_
  refine L_getI (c13 4 rfl) hM rt72 rfl ?_
  refine L_ps c13 (n := 1) (pc1 := 10) (ls1 := [jR 0, jI v1, jI v2, jI v3, jI v4, jI v5]) (st1 := [jI 480, jI (μ 72 4)]) rfl ?_
  refine L_nb (p1 := 15) (p2 := 13) (c13 10 rfl) rfl jc_le h (fun h => ?_) (fun h => ?_)
  · refine L_ps c13 (n := 1) (pc1 := 14) (ls1 := [jR 0, jI v1, jI v2, jI v3, jI v4, jI v5]) (st1 := [jI (-1)]) rfl ?_
    exact L_retI (c13 14 rfl) (hQ _ _ _ hM h)
  · refine L_ps c13 (n := 1) (pc1 := 16) (ls1 := [jR 0, jI v1, jI v2, jI v3, jI v4, jI v5]) (st1 := [jR 0]) rfl ?_
    refine L_getP (d := 72) (c13 16 rfl) hM rt0 rfl ?_
    refine L_ps c13 (n := 1) (pc1 := 20) (ls1 := [jR 0, jI v1, jI v2, jI v3, jI v4, jI v5]) (st1 := [jI v1, jR 72]) rfl ?_
    refine L_cV (c13 20 rfl) (js_v rfl ((Rl_tag hM rt72 (by decide)).trans js14)) hh13 (k_Parser_putFourBytes hM h) (fun M μ2 hM h => ?_) (fun _ _ _ _ f => f.elim)
    refine L_ps c13 (n := 1) (pc1 := 24) (ls1 := [jR 0, jI v1, jI v2, jI v3, jI v4, jI v5]) (st1 := [jR 0]) rfl ?_
    refine L_getP (d := 72) (c13 24 rfl) hM rt0 rfl ?_
    refine L_ps c13 (n := 1) (pc1 := 28) (ls1 := [jR 0, jI v1, jI v2, jI v3, jI v4, jI v5]) (st1 := [jI v2, jR 72]) rfl ?_
    refine L_cV (c13 28 rfl) (js_v rfl ((Rl_tag hM rt72 (by decide)).trans js14)) hh13 (k_Parser_putFourBytes hM h) (fun M μ4 hM h => ?_) (fun _ _ _ _ f => f.elim)
    refine L_ps c13 (n := 1) (pc1 := 32) (ls1 := [jR 0, jI v1, jI v2, jI v3, jI v4, jI v5]) (st1 := [jR 0]) rfl ?_
    refine L_getP (d := 72) (c13 32 rfl) hM rt0 rfl ?_
    refine L_ps c13 (n := 1) (pc1 := 36) (ls1 := [jR 0, jI v1, jI v2, jI v3, jI v4, jI v5]) (st1 := [jI v3, jR 72]) rfl ?_
    refine L_cV (c13 36 rfl) (js_v rfl ((Rl_tag hM rt72 (by decide)).trans js14)) hh13 (k_Parser_putFourBytes hM h) (fun M μ6 hM h => ?_) (fun _ _ _ _ f => f.elim)
    refine L_ps c13 (n := 1) (pc1 := 40) (ls1 := [jR 0, jI v1, jI v2, jI v3, jI v4, jI v5]) (st1 := [jR 0]) rfl ?_
    refine L_getP (d := 72) (c13 40 rfl) hM rt0 rfl ?_
    refine L_ps c13 (n := 1) (pc1 := 45) (ls1 := [jR 0, jI v1, jI v2, jI v3, jI v4, jI v5]) (st1 := [jI v4, jR 72]) rfl ?_
    refine L_cV (c13 45 rfl) (js_v rfl ((Rl_tag hM rt72 (by decide)).trans js14)) hh13 (k_Parser_putFourBytes hM h) (fun M μ8 hM h => ?_) (fun _ _ _ _ f => f.elim)
    refine L_ps c13 (n := 1) (pc1 := 49) (ls1 := [jR 0, jI v1, jI v2, jI v3, jI v4, jI v5]) (st1 := [jR 0]) rfl ?_
    refine L_getP (d := 72) (c13 49 rfl) hM rt0 rfl ?_
    refine L_ps c13 (n := 1) (pc1 := 54) (ls1 := [jR 0, jI v1, jI v2, jI v3, jI v4, jI v5]) (st1 := [jI v5, jR 72]) rfl ?_
    refine L_cV (c13 54 rfl) (js_v rfl ((Rl_tag hM rt72 (by decide)).trans js14)) hh13 (k_Parser_putFourBytes hM h) (fun M μ10 hM h => ?_) (fun _ _ _ _ f => f.elim)
    refine L_ps c13 (n := 1) (pc1 := 58) (ls1 := [jR 0, jI v1, jI v2, jI v3, jI v4, jI v5]) (st1 := [jR 0]) rfl ?_
    refine L_getP (d := 72) (c13 58 rfl) hM rt0 rfl ?_
    refine L_getI (c13 61 rfl) hM rt72 rfl ?_
    exact L_retI (c13 64 rfl) (hQ _ _ _ hM h)
theorem k_OB_parseErrorCode {E : JE2} {μ : Mem} {M : JM} {Q : Int → Prop} (hM : Rl E M μ) (h : d_OB_parseErrorCode μ Q) : JX 15 0 (jargs 15 [jR 0]) [] M (PO E (pQI μ Q) XN) := by
  unfold d_OB_parseErrorCode at h
  show JX 15 0 [jR 0] [] M (PO E (pQI μ Q) XN)
  generalize hP : PO E (pQI μ Q) XN = P
  have hQ : ∀ (r : Int) (M1 : JM), Rl E M1 μ → Q r → P (.inl (some (.inl r))) M1 := by rw [← hP]; exact fun r M1 a b => ⟨μ, a, rfl, r, rfl, b⟩
  clear hP
  refine L_ps c15 (n := 1) (pc1 := 1) (ls1 := [jR 0]) (st1 := [jR 0]) rfl ?_
  refine L_getP (d := 72) (c15 1 rfl) hM rt0 rfl ?_
  refine L_getI (c15 4 rfl) hM rt72 rfl ?_
  exact L_retI (c15 7 rfl) (hQ _ _ hM h)
theorem k_OB_parseErrorPosition {E : JE2} {μ : Mem} {M : JM} {Q : Int → Prop} (hM : Rl E M μ) (h : d_OB_parseErrorPosition μ Q) : JX 16 0 (jargs 16 [jR 0]) [] M (PO E (pQI μ Q) XN) := by
  unfold d_OB_parseErrorPosition at h
  show JX 16 0 [jR 0] [] M (PO E (pQI μ Q) XN)
  generalize hP : PO E (pQI μ Q) XN = P
  have hQ : ∀ (r : Int) (M1 : JM), Rl E M1 μ → Q r → P (.inl (some (.inl r))) M1 := by rw [← hP]; exact fun r M1 a b => ⟨μ, a, rfl, r, rfl, b⟩
  clear hP
  refine L_ps c16 (n := 1) (pc1 := 1) (ls1 := [jR 0]) (st1 := [jR 0]) rfl ?_
  refine L_getP (d := 72) (c16 1 rfl) hM rt0 rfl ?_
  refine L_getI (c16 4 rfl) hM rt72 rfl ?_
  exact L_retI (c16 7 rfl) (hQ _ _ hM h)
theorem k_OB_bufferLength {E : JE2} {μ : Mem} {M : JM} {Q : Int → Prop} (hM : Rl E M μ) (h : d_OB_bufferLength μ Q) : JX 17 0 (jargs 17 [jR 0]) [] M (PO E (pQI μ Q) XN) := by
  unfold d_OB_bufferLength at h
  show JX 17 0 [jR 0] [] M (PO E (pQI μ Q) XN)
  generalize hP : PO E (pQI μ Q) XN = P
  have hQ : ∀ (r : Int) (M1 : JM), Rl E M1 μ → Q r → P (.inl (some (.inl r))) M1 := by rw [← hP]; exact fun r M1 a b => ⟨μ, a, rfl, r, rfl, b⟩
  clear hP
  refine L_ps c17 (n := 1) (pc1 := 1) (ls1 := [jR 0]) (st1 := [jR 0]) rfl ?_
  refine L_getP (d := 72) (c17 1 rfl) hM rt0 rfl ?_
  refine L_getI (c17 4 rfl) hM rt72 rfl ?_
  exact L_retI (c17 7 rfl) (hQ _ _ hM h)
theorem k_OB_undoCount {E : JE2} {μ : Mem} {M : JM} {Q : Int → Prop} (hM : Rl E M μ) (h : d_OB_undoCount μ Q) : JX 18 0 (jargs 18 [jR 0]) [] M (PO E (pQI μ Q) XN) := by
  unfold d_OB_undoCount at h
  show JX 18 0 [jR 0] [] M (PO E (pQI μ Q) XN)
  generalize hP : PO E (pQI μ Q) XN = P
  have hQ : ∀ (r : Int) (M1 : JM), Rl E M1 μ → Q r → P (.inl (some (.inl r))) M1 := by rw [← hP]; exact fun r M1 a b => ⟨μ, a, rfl, r, rfl, b⟩
  clear hP
  refine L_ps c18 (n := 1) (pc1 := 1) (ls1 := [jR 0]) (st1 := [jR 0]) rfl ?_
  refine L_getP (d := 247) (c18 1 rfl) hM rt0 rfl ?_
  refine L_getI (c18 4 rfl) hM rt247 rfl ?_
  exact L_retI (c18 7 rfl) (hQ _ _ hM h)
theorem k_State_clear {E : JE2} {v0 : Nat} {μ : Mem} {M : JM} {Q : Mem → Prop} (hv0 : rt v0 = 7) (hM : Rl E M μ) (h : d_State_clear v0 μ Q) : JX 22 0 (jargs 22 [jR v0]) [] M (PO E (QV Q) XN) := by
  unfold d_State_clear at h
  show JX 22 0 [jR v0] [] M (PO E (QV Q) XN)
  generalize hP : PO E (QV Q) XN = P
  have hQ : ∀ (M1 : JM) (μ1 : Mem), Rl E M1 μ1 → Q μ1 → P (.inl none) M1 := by rw [← hP]; exact fun M1 μ1 a b => ⟨μ1, a, rfl, b⟩
  clear hP
  refine L_ps c22 (n := 2) (pc1 := 2) (ls1 := [jR v0]) (st1 := [jI 0, jR v0]) rfl ?_
  refine L_putI (c22 2 rfl) hM hv0 rfl (fun M hM => ?_)
  refine L_ps c22 (n := 2) (pc1 := 7) (ls1 := [jR v0]) (st1 := [jI 0, jR v0]) rfl ?_
  refine L_putI (c22 7 rfl) hM hv0 rfl (fun M hM => ?_)
  exact L_end (c22 10 rfl) rfl (hQ _ _ hM h)
theorem k_Parser_byteAt {E : JE2} {v1 : Int} {μ : Mem} {M : JM} {Q : Int → Prop} (hM : Rl E M μ) (h : d_Parser_byteAt v1 μ Q) : JX 24 0 (jargs 24 [jR 72, jI v1]) [] M (PO E (pQI μ Q) XN) := by
  unfold d_Parser_byteAt at h
  show JX 24 0 [jR 72, jI v1] [] M (PO E (pQI μ Q) XN)
  generalize hP : PO E (pQI μ Q) XN = P
  have hQ : ∀ (r : Int) (M1 : JM), Rl E M1 μ → Q r → P (.inl (some (.inl r))) M1 := by rw [← hP]; exact fun r M1 a b => ⟨μ, a, rfl, r, rfl, b⟩
  clear hP
  refine L_ps c24 (n := 1) (pc1 := 1) (ls1 := [jR 72, jI v1]) (st1 := [jI v1]) rfl ?_
  refine L_br (p1 := 30) (p2 := 4) (c24 1 rfl) rfl jc_lt h (fun h => ?_) (fun h => ?_)
  · refine L_ps c24 (n := 1) (pc1 := 31) (ls1 := [jR 72, jI v1]) (st1 := [jI (-1)]) rfl ?_
    exact L_retI (c24 31 rfl) (hQ _ _ hM h)
  · refine L_ps c24 (n := 2) (pc1 := 6) (ls1 := [jR 72, jI v1]) (st1 := [jR 72, jI v1]) rfl ?_
    refine L_getI (c24 6 rfl) hM rt72 rfl ?_
    refine L_nb (p1 := 30) (p2 := 12) (c24 9 rfl) rfl jc_ge h (fun h => ?_) (fun h => ?_)
    · refine L_ps c24 (n := 2) (pc1 := 14) (ls1 := [jR 72, jI v1]) (st1 := [jR 72, jI v1]) rfl ?_
      refine L_getP (d := 57) (c24 14 rfl) hM rt72 rfl ?_
      refine L_alen (n := 500) (z := 500) (c24 17 rfl) hM rt129 (by decide) ln129 (by decide) rfl ?_
      refine L_nb (p1 := 30) (p2 := 21) (c24 18 rfl) rfl jc_ge h (fun h => ?_) (fun h => ?_)
      · refine L_ps c24 (n := 1) (pc1 := 22) (ls1 := [jR 72, jI v1]) (st1 := [jR 72]) rfl ?_
        refine L_getP (d := 57) (c24 22 rfl) hM rt72 rfl ?_
        refine L_ps c24 (n := 1) (pc1 := 26) (ls1 := [jR 72, jI v1]) (st1 := [jI v1, jR 129]) rfl ?_
        obtain ⟨hb, h⟩ := h
        refine L_iald (c24 26 rfl) hM rt129 ln129 hb ?_
        refine L_ps c24 (n := 1) (pc1 := 31) (ls1 := [jR 72, jI v1]) (st1 := [jI (μ 129 v1.toNat)]) rfl ?_
        exact L_retI (c24 31 rfl) (hQ _ _ hM h)
      · refine L_ps c24 (n := 1) (pc1 := 31) (ls1 := [jR 72, jI v1]) (st1 := [jI (-1)]) rfl ?_
        exact L_retI (c24 31 rfl) (hQ _ _ hM h)
    · refine L_ps c24 (n := 1) (pc1 := 31) (ls1 := [jR 72, jI v1]) (st1 := [jI (-1)]) rfl ?_
      exact L_retI (c24 31 rfl) (hQ _ _ hM h)
theorem k_Parser_kindOfByte_j65 {E : JE2} {v1 : Int} {t0 : Int} {μ : Mem} {M : JM} {P : JO → JM → Prop} {g0 : JV} {g2 : JV} {Q : Int → Prop} (hM : Rl E M μ) (hQ : ∀ (r : Int) (M1 : JM), Rl E M1 μ → Q r → P (.inl (some (.inl r))) M1) (h : d_Parser_kindOfByte_j65 v1 t0 μ Q) : JX 25 65 [g0, jI v1, g2] [jI t0] M P := by
  unfold d_Parser_kindOfByte_j65 at h
  refine L_ps c25 (n := 2) (pc1 := 67) (ls1 := [g0, jI v1, jI t0]) (st1 := [jI t0]) rfl ?_
  refine L_br (p1 := 74) (p2 := 70) (c25 67 rfl) rfl jc_eq h (fun h => ?_) (fun h => ?_)
  · refine L_ps c25 (n := 1) (pc1 := 75) (ls1 := [g0, jI v1, jI t0]) (st1 := [jI 1]) rfl ?_
    exact L_retI (c25 75 rfl) (hQ _ _ hM h)
  · refine L_ps c25 (n := 2) (pc1 := 75) (ls1 := [g0, jI v1, jI t0]) (st1 := [jI v1]) rfl ?_
    exact L_retI (c25 75 rfl) (hQ _ _ hM h)
theorem k_Parser_kindOfByte_j60 {E : JE2} {v1 : Int} {μ : Mem} {M : JM} {P : JO → JM → Prop} {g0 : JV} {g2 : JV} {Q : Int → Prop} (hM : Rl E M μ) (hQ : ∀ (r : Int) (M1 : JM), Rl E M1 μ → Q r → P (.inl (some (.inl r))) M1) (h : d_Parser_kindOfByte_j60 v1 μ Q) : JX 25 60 [g0, jI v1, g2] [] M P := by
  unfold d_Parser_kindOfByte_j60 at h
  refine L_ps c25 (n := 2) (pc1 := 65) (ls1 := [g0, jI v1, g2]) (st1 := [jI 1]) rfl ?_
  exact k_Parser_kindOfByte_j65 hM hQ h
theorem k_Parser_kindOfByte_j30 {E : JE2} {v1 : Int} {μ : Mem} {M : JM} {P : JO → JM → Prop} {g0 : JV} {g2 : JV} {Q : Int → Prop} (hM : Rl E M μ) (hQ : ∀ (r : Int) (M1 : JM), Rl E M1 μ → Q r → P (.inl (some (.inl r))) M1) (h : d_Parser_kindOfByte_j30 v1 μ Q) : JX 25 30 [g0, jI v1, g2] [] M P := by
  unfold d_Parser_kindOfByte_j30 at h
  refine L_ps c25 (n := 2) (pc1 := 33) (ls1 := [g0, jI v1, g2]) (st1 := [jI 59, jI v1]) rfl ?_
  refine L_br (p1 := 60) (p2 := 36) (c25 33 rfl) rfl jc_eq h (fun h => ?_) (fun h => ?_)
  · exact k_Parser_kindOfByte_j60 hM hQ h
  · refine L_ps c25 (n := 2) (pc1 := 39) (ls1 := [g0, jI v1, g2]) (st1 := [jI 61, jI v1]) rfl ?_
    refine L_br (p1 := 60) (p2 := 42) (c25 39 rfl) rfl jc_eq h (fun h => ?_) (fun h => ?_)
    · exact k_Parser_kindOfByte_j60 hM hQ h
    · refine L_ps c25 (n := 2) (pc1 := 45) (ls1 := [g0, jI v1, g2]) (st1 := [jI 44, jI v1]) rfl ?_
      refine L_br (p1 := 60) (p2 := 48) (c25 45 rfl) rfl jc_eq h (fun h => ?_) (fun h => ?_)
      · exact k_Parser_kindOfByte_j60 hM hQ h
      · refine L_ps c25 (n := 2) (pc1 := 51) (ls1 := [g0, jI v1, g2]) (st1 := [jI 40, jI v1]) rfl ?_
        refine L_br (p1 := 60) (p2 := 54) (c25 51 rfl) rfl jc_eq h (fun h => ?_) (fun h => ?_)
        · exact k_Parser_kindOfByte_j60 hM hQ h
        · refine L_ps c25 (n := 2) (pc1 := 57) (ls1 := [g0, jI v1, g2]) (st1 := [jI 41, jI v1]) rfl ?_
          refine L_nb (p1 := 64) (p2 := 60) (c25 57 rfl) rfl jc_ne h (fun h => ?_) (fun h => ?_)
          · exact k_Parser_kindOfByte_j60 hM hQ h
          · refine L_ps c25 (n := 1) (pc1 := 65) (ls1 := [g0, jI v1, g2]) (st1 := [jI 0]) rfl ?_
            exact k_Parser_kindOfByte_j65 hM hQ h
theorem k_Parser_kindOfByte_j15 {E : JE2} {v1 : Int} {μ : Mem} {M : JM} {P : JO → JM → Prop} {g0 : JV} {g2 : JV} {Q : Int → Prop} (hM : Rl E M μ) (hQ : ∀ (r : Int) (M1 : JM), Rl E M1 μ → Q r → P (.inl (some (.inl r))) M1) (h : d_Parser_kindOfByte_j15 v1 μ Q) : JX 25 15 [g0, jI v1, g2] [] M P := by
  unfold d_Parser_kindOfByte_j15 at h
  refine L_ps c25 (n := 2) (pc1 := 18) (ls1 := [g0, jI v1, g2]) (st1 := [jI 48, jI v1]) rfl ?_
  refine L_br (p1 := 30) (p2 := 21) (c25 18 rfl) rfl jc_lt h (fun h => ?_) (fun h => ?_)
  · exact k_Parser_kindOfByte_j30 hM hQ h
  · refine L_ps c25 (n := 2) (pc1 := 24) (ls1 := [g0, jI v1, g2]) (st1 := [jI 57, jI v1]) rfl ?_
    refine L_br (p1 := 30) (p2 := 27) (c25 24 rfl) rfl jc_gt h (fun h => ?_) (fun h => ?_)
    · exact k_Parser_kindOfByte_j30 hM hQ h
    · refine L_ps c25 (n := 1) (pc1 := 29) (ls1 := [g0, jI v1, g2]) (st1 := [jI 48]) rfl ?_
      exact L_retI (c25 29 rfl) (hQ _ _ hM h)
theorem k_Parser_kindOfByte {E : JE2} {v1 : Int} {μ : Mem} {M : JM} {Q : Int → Prop} (hM : Rl E M μ) (h : d_Parser_kindOfByte v1 μ Q) : JX 25 0 (jargs 25 [jR 72, jI v1]) [] M (PO E (pQI μ Q) XN) := by
  unfold d_Parser_kindOfByte at h
  show JX 25 0 [jR 72, jI v1, jU] [] M (PO E (pQI μ Q) XN)
  generalize hP : PO E (pQI μ Q) XN = P
  have hQ : ∀ (r : Int) (M1 : JM), Rl E M1 μ → Q r → P (.inl (some (.inl r))) M1 := by rw [← hP]; exact fun r M1 a b => ⟨μ, a, rfl, r, rfl, b⟩
  clear hP
  refine L_ps c25 (n := 2) (pc1 := 3) (ls1 := [jR 72, jI v1, jU]) (st1 := [jI 65, jI v1]) rfl ?_
  refine L_br (p1 := 15) (p2 := 6) (c25 3 rfl) rfl jc_lt h (fun h => ?_) (fun h => ?_)
  · exact k_Parser_kindOfByte_j15 hM hQ h
  · refine L_ps c25 (n := 2) (pc1 := 9) (ls1 := [jR 72, jI v1, jU]) (st1 := [jI 73, jI v1]) rfl ?_
    refine L_nb (p1 := 15) (p2 := 12) (c25 9 rfl) rfl jc_ge h (fun h => ?_) (fun h => ?_)
    · refine L_ps c25 (n := 1) (pc1 := 14) (ls1 := [jR 72, jI v1, jU]) (st1 := [jI 65]) rfl ?_
      exact L_retI (c25 14 rfl) (hQ _ _ hM h)
    · exact k_Parser_kindOfByte_j15 hM hQ h
theorem k_Parser_next_j135 {E : JE2} {t1 : Int} {μ : Mem} {M : JM} {P : JO → JM → Prop} {g0 : JV} {Q : Mem → Prop} (hM : Rl E M μ) (hQ : ∀ (M1 : JM) (μ1 : Mem), Rl E M1 μ1 → Q μ1 → P (.inl none) M1) (h : d_Parser_next_j135 t1 μ Q) : JX 23 135 [g0] [jI t1, jR 72] M P := by
  unfold d_Parser_next_j135 at h
  refine L_putI (c23 135 rfl) hM rt72 rfl (fun M hM => ?_)
  refine L_ps c23 (n := 1) (pc1 := 186) (ls1 := [g0]) (st1 := []) rfl ?_
  exact L_end (c23 186 rfl) rfl (hQ _ _ hM h)
theorem k_Parser_next_j103 {E : JE2} {μ : Mem} {M : JM} {P : JO → JM → Prop} {Q : Mem → Prop} (hM : Rl E M μ) (hQ : ∀ (M1 : JM) (μ1 : Mem), Rl E M1 μ1 → Q μ1 → P (.inl none) M1) (h : d_Parser_next_j103 μ Q) : JX 23 103 [jR 72] [] M P := by
  unfold d_Parser_next_j103 at h
  refine L_ps c23 (n := 1) (pc1 := 104) (ls1 := [jR 72]) (st1 := [jR 72]) rfl ?_
  refine L_getI (c23 104 rfl) hM rt72 rfl ?_
  refine L_ps c23 (n := 1) (pc1 := 108) (ls1 := [jR 72]) (st1 := [jR 72, jI (μ 72 11)]) rfl ?_
  refine L_getI (c23 108 rfl) hM rt72 rfl ?_
  refine L_nb (p1 := 141) (p2 := 114) (c23 111 rfl) rfl jc_le h (fun h => ?_) (fun h => ?_)
  · refine L_ps c23 (n := 2) (pc1 := 116) (ls1 := [jR 72]) (st1 := [jR 72, jR 72]) rfl ?_
    refine L_getI (c23 116 rfl) hM rt72 rfl ?_
    refine L_ps c23 (n := 1) (pc1 := 120) (ls1 := [jR 72]) (st1 := [jR 72, jI (μ 72 11), jR 72]) rfl ?_
    refine L_getI (c23 120 rfl) hM rt72 rfl ?_
    refine L_ps c23 (n := 2) (pc1 := 126) (ls1 := [jR 72]) (st1 := [jI 6, jI (wr ((μ 72 11) - (μ 72 10))), jR 72]) rfl ?_
    refine L_nb (p1 := 133) (p2 := 129) (c23 126 rfl) rfl jc_le h (fun h => ?_) (fun h => ?_)
    · refine L_ps c23 (n := 2) (pc1 := 135) (ls1 := [jR 72]) (st1 := [jI 1, jR 72]) rfl ?_
      exact k_Parser_next_j135 hM hQ h
    · refine L_ps c23 (n := 1) (pc1 := 135) (ls1 := [jR 72]) (st1 := [jI 97, jR 72]) rfl ?_
      exact k_Parser_next_j135 hM hQ h
  · refine L_ps c23 (n := 1) (pc1 := 142) (ls1 := [jR 72]) (st1 := [jR 72]) rfl ?_
    refine L_getI (c23 142 rfl) hM rt72 rfl ?_
    refine L_ps c23 (n := 1) (pc1 := 146) (ls1 := [jR 72]) (st1 := [jR 72, jI (μ 72 10)]) rfl ?_
    refine L_getI (c23 146 rfl) hM rt72 rfl ?_
    refine L_br (p1 := 160) (p2 := 152) (c23 149 rfl) rfl jc_lt h (fun h => ?_) (fun h => ?_)
    · refine L_ps c23 (n := 4) (pc1 := 164) (ls1 := [jR 72]) (st1 := [jR 72, jR 72, jR 72, jR 72]) rfl ?_
      refine L_getI (c23 164 rfl) hM rt72 rfl ?_
      refine L_cpI (c23 167 rfl) (js_v rfl ((Rl_tag hM rt72 (by decide)).trans js24)) hh23 (k_Parser_byteAt hM h) (fun r5 M hM h => ?_) (fun _ _ _ _ f => f.elim)
      refine L_cpI (c23 170 rfl) (js_v rfl ((Rl_tag hM rt72 (by decide)).trans js25)) hh23 (k_Parser_kindOfByte hM h) (fun r7 M hM h => ?_) (fun _ _ _ _ f => f.elim)
      refine L_putI (c23 173 rfl) hM rt72 rfl (fun M hM => ?_)
      refine L_ps c23 (n := 2) (pc1 := 178) (ls1 := [jR 72]) (st1 := [jR 72, jR 72]) rfl ?_
      refine L_getI (c23 178 rfl) hM rt72 rfl ?_
      refine L_ps c23 (n := 2) (pc1 := 183) (ls1 := [jR 72]) (st1 := [jI (wr (((mup μ 72 9 r7) 72 10) + 1)), jR 72]) rfl ?_
      refine L_putI (c23 183 rfl) hM rt72 rfl (fun M hM => ?_)
      exact L_end (c23 186 rfl) rfl (hQ _ _ hM h)
    · refine L_ps c23 (n := 2) (pc1 := 154) (ls1 := [jR 72]) (st1 := [jI 0, jR 72]) rfl ?_
      refine L_putI (c23 154 rfl) hM rt72 rfl (fun M hM => ?_)
      refine L_ps c23 (n := 1) (pc1 := 186) (ls1 := [jR 72]) (st1 := []) rfl ?_
      exact L_end (c23 186 rfl) rfl (hQ _ _ hM h)
theorem k_Parser_next_b53 {E : JE2} {μ : Mem} {M : JM} {P : JO → JM → Prop} {W53 : Mem → Prop} {Q : Mem → Prop} (hM : Rl E M μ) (hQ : ∀ (M1 : JM) (μ1 : Mem), Rl E M1 μ1 → Q μ1 → P (.inl none) M1) (hW53 : ∀ (M1 : JM) (μ1 : Mem), Rl E M1 μ1 → W53 μ1 → JX 23 53 [jR 72] [] M1 P) (h : d_Parser_next_b53 μ W53 Q) : JX 23 53 [jR 72] [] M P := by
  unfold d_Parser_next_b53 at h
  refine L_ps c23 (n := 1) (pc1 := 54) (ls1 := [jR 72]) (st1 := [jR 72]) rfl ?_
  refine L_getI (c23 54 rfl) hM rt72 rfl ?_
  refine L_ps c23 (n := 1) (pc1 := 58) (ls1 := [jR 72]) (st1 := [jR 72, jI (μ 72 11)]) rfl ?_
  refine L_getI (c23 58 rfl) hM rt72 rfl ?_
  refine L_nb (p1 := 103) (p2 := 64) (c23 61 rfl) rfl jc_ge h (fun h => ?_) (fun h => ?_)
  · refine L_ps c23 (n := 2) (pc1 := 66) (ls1 := [jR 72]) (st1 := [jR 72, jR 72]) rfl ?_
    refine L_getI (c23 66 rfl) hM rt72 rfl ?_
    refine L_cpI (c23 69 rfl) (js_v rfl ((Rl_tag hM rt72 (by decide)).trans js24)) hh23 (k_Parser_byteAt hM h) (fun r3 M hM h => ?_) (fun _ _ _ _ f => f.elim)
    refine L_ps c23 (n := 1) (pc1 := 74) (ls1 := [jR 72]) (st1 := [jI 97, jI r3]) rfl ?_
    refine L_br (p1 := 103) (p2 := 77) (c23 74 rfl) rfl jc_lt h (fun h => ?_) (fun h => ?_)
    · exact k_Parser_next_j103 hM hQ h
    · refine L_ps c23 (n := 2) (pc1 := 79) (ls1 := [jR 72]) (st1 := [jR 72, jR 72]) rfl ?_
      refine L_getI (c23 79 rfl) hM rt72 rfl ?_
      refine L_cpI (c23 82 rfl) (js_v rfl ((Rl_tag hM rt72 (by decide)).trans js24)) hh23 (k_Parser_byteAt hM h) (fun r9 M hM h => ?_) (fun _ _ _ _ f => f.elim)
      refine L_ps c23 (n := 1) (pc1 := 87) (ls1 := [jR 72]) (st1 := [jI 122, jI r9]) rfl ?_
      refine L_br (p1 := 103) (p2 := 90) (c23 87 rfl) rfl jc_gt h (fun h => ?_) (fun h => ?_)
      · exact k_Parser_next_j103 hM hQ h
      · refine L_ps c23 (n := 2) (pc1 := 92) (ls1 := [jR 72]) (st1 := [jR 72, jR 72]) rfl ?_
        refine L_getI (c23 92 rfl) hM rt72 rfl ?_
        refine L_ps c23 (n := 2) (pc1 := 97) (ls1 := [jR 72]) (st1 := [jI (wr ((μ 72 11) + 1)), jR 72]) rfl ?_
        refine L_putI (c23 97 rfl) hM rt72 rfl (fun M hM => ?_)
        refine L_ps c23 (n := 1) (pc1 := 53) (ls1 := [jR 72]) (st1 := []) rfl ?_
        exact hW53 _ _ hM h
  · exact k_Parser_next_j103 hM hQ h
theorem k_Parser_next_l53 {E : JE2} {μ : Mem} {M : JM} {P : JO → JM → Prop} {Q : Mem → Prop} (hM : Rl E M μ) (hQ : ∀ (M1 : JM) (μ1 : Mem), Rl E M1 μ1 → Q μ1 → P (.inl none) M1) (h : d_Parser_next_l53 μ Q) : JX 23 53 [jR 72] [] M P := by
  refine h (fun μ => ∀ (M : JM), Rl E M μ → JX 23 53 [jR 72] [] M P) ?_ _ hM
  intro μ h M hM
  exact k_Parser_next_b53 hM hQ (fun M μ hM h => h M hM) h
theorem k_Parser_next_j45 {E : JE2} {μ : Mem} {M : JM} {P : JO → JM → Prop} {Q : Mem → Prop} (hM : Rl E M μ) (hQ : ∀ (M1 : JM) (μ1 : Mem), Rl E M1 μ1 → Q μ1 → P (.inl none) M1) (h : d_Parser_next_j45 μ Q) : JX 23 45 [jR 72] [] M P := by
  unfold d_Parser_next_j45 at h
  refine L_ps c23 (n := 2) (pc1 := 47) (ls1 := [jR 72]) (st1 := [jR 72, jR 72]) rfl ?_
  refine L_getI (c23 47 rfl) hM rt72 rfl ?_
  refine L_putI (c23 50 rfl) hM rt72 rfl (fun M hM => ?_)
  exact k_Parser_next_l53 hM hQ h
theorem k_Parser_next_b8 {E : JE2} {μ : Mem} {M : JM} {P : JO → JM → Prop} {W8 : Mem → Prop} {Q : Mem → Prop} (hM : Rl E M μ) (hQ : ∀ (M1 : JM) (μ1 : Mem), Rl E M1 μ1 → Q μ1 → P (.inl none) M1) (hW8 : ∀ (M1 : JM) (μ1 : Mem), Rl E M1 μ1 → W8 μ1 → JX 23 8 [jR 72] [] M1 P) (h : d_Parser_next_b8 μ W8 Q) : JX 23 8 [jR 72] [] M P := by
  unfold d_Parser_next_b8 at h
  refine L_ps c23 (n := 1) (pc1 := 9) (ls1 := [jR 72]) (st1 := [jR 72]) rfl ?_
  refine L_getI (c23 9 rfl) hM rt72 rfl ?_
  refine L_ps c23 (n := 1) (pc1 := 13) (ls1 := [jR 72]) (st1 := [jR 72, jI (μ 72 10)]) rfl ?_
  refine L_getI (c23 13 rfl) hM rt72 rfl ?_
  refine L_nb (p1 := 45) (p2 := 19) (c23 16 rfl) rfl jc_ge h (fun h => ?_) (fun h => ?_)
  · refine L_ps c23 (n := 2) (pc1 := 21) (ls1 := [jR 72]) (st1 := [jR 72, jR 72]) rfl ?_
    refine L_getI (c23 21 rfl) hM rt72 rfl ?_
    refine L_cpI (c23 24 rfl) (js_v rfl ((Rl_tag hM rt72 (by decide)).trans js24)) hh23 (k_Parser_byteAt hM h) (fun r1 M hM h => ?_) (fun _ _ _ _ f => f.elim)
    refine L_ps c23 (n := 1) (pc1 := 29) (ls1 := [jR 72]) (st1 := [jI 32, jI r1]) rfl ?_
    refine L_nb (p1 := 45) (p2 := 32) (c23 29 rfl) rfl jc_ne h (fun h => ?_) (fun h => ?_)
    · refine L_ps c23 (n := 2) (pc1 := 34) (ls1 := [jR 72]) (st1 := [jR 72, jR 72]) rfl ?_
      refine L_getI (c23 34 rfl) hM rt72 rfl ?_
      refine L_ps c23 (n := 2) (pc1 := 39) (ls1 := [jR 72]) (st1 := [jI (wr ((μ 72 10) + 1)), jR 72]) rfl ?_
      refine L_putI (c23 39 rfl) hM rt72 rfl (fun M hM => ?_)
      refine L_ps c23 (n := 1) (pc1 := 8) (ls1 := [jR 72]) (st1 := []) rfl ?_
      exact hW8 _ _ hM h
    · exact k_Parser_next_j45 hM hQ h
  · exact k_Parser_next_j45 hM hQ h
theorem k_Parser_next_l8 {E : JE2} {μ : Mem} {M : JM} {P : JO → JM → Prop} {Q : Mem → Prop} (hM : Rl E M μ) (hQ : ∀ (M1 : JM) (μ1 : Mem), Rl E M1 μ1 → Q μ1 → P (.inl none) M1) (h : d_Parser_next_l8 μ Q) : JX 23 8 [jR 72] [] M P := by
  refine h (fun μ => ∀ (M : JM), Rl E M μ → JX 23 8 [jR 72] [] M P) ?_ _ hM
  intro μ h M hM
  exact k_Parser_next_b8 hM hQ (fun M μ hM h => h M hM) h
theorem k_Parser_next {E : JE2} {μ : Mem} {M : JM} {Q : Mem → Prop} (hM : Rl E M μ) (h : d_Parser_next μ Q) : JX 23 0 (jargs 23 [jR 72]) [] M (PO E (QV Q) XN) := by
  unfold d_Parser_next at h
  show JX 23 0 [jR 72] [] M (PO E (QV Q) XN)
  generalize hP : PO E (QV Q) XN = P
  have hQ : ∀ (M1 : JM) (μ1 : Mem), Rl E M1 μ1 → Q μ1 → P (.inl none) M1 := by rw [← hP]; exact fun M1 μ1 a b => ⟨μ1, a, rfl, b⟩
  clear hP
  refine L_ps c23 (n := 2) (pc1 := 2) (ls1 := [jR 72]) (st1 := [jR 72, jR 72]) rfl ?_
  refine L_getI (c23 2 rfl) hM rt72 rfl ?_
  refine L_putI (c23 5 rfl) hM rt72 rfl (fun M hM => ?_)
  exact k_Parser_next_l8 hM hQ h
theorem k_Parser_isWord_b29 {E : JE2} {v1 : Nat} {v2 : Int} {μ : Mem} {M : JM} {P : JO → JM → Prop} {W29 : Int → Prop} {Q : Bool → Prop} (hlit : v1 < 7) (hM : Rl E M μ) (hQ : ∀ (r : Bool) (M1 : JM), Rl E M1 μ → Q r → P (.inl (some (.inl (b2i r)))) M1) (hW29 : ∀ (v2 : Int) (M1 : JM), Rl E M1 μ → W29 v2 → JX 26 29 [jR 72, jR (2000000 + v1), jI v2] [] M1 P) (h : d_Parser_isWord_b29 v1 v2 μ W29 Q) : JX 26 29 [jR 72, jR (2000000 + v1), jI v2] [] M P := by
  unfold d_Parser_isWord_b29 at h
  refine L_ps c26 (n := 2) (pc1 := 31) (ls1 := [jR 72, jR (2000000 + v1), jI v2]) (st1 := [jR (2000000 + v1), jI v2]) rfl ?_
  refine L_cpI (c26 31 rfl) (js_v rfl ((str_tag hlit).trans js27)) hh26 (k_String_length hlit hM h) (fun r3 M hM h => ?_) (fun _ _ _ _ f => f.elim)
  refine L_nb (p1 := 63) (p2 := 37) (c26 34 rfl) rfl jc_ge h (fun h => ?_) (fun h => ?_)
  · refine L_ps c26 (n := 2) (pc1 := 39) (ls1 := [jR 72, jR (2000000 + v1), jI v2]) (st1 := [jR 72, jR 72]) rfl ?_
    refine L_getI (c26 39 rfl) hM rt72 rfl ?_
    refine L_ps c26 (n := 2) (pc1 := 44) (ls1 := [jR 72, jR (2000000 + v1), jI v2]) (st1 := [jI (wr ((μ 72 10) + v2)), jR 72]) rfl ?_
    refine L_cpI (c26 44 rfl) (js_v rfl ((Rl_tag hM rt72 (by decide)).trans js24)) hh26 (k_Parser_byteAt hM h) (fun r5 M hM h => ?_) (fun _ _ _ _ f => f.elim)
    refine L_ps c26 (n := 2) (pc1 := 49) (ls1 := [jR 72, jR (2000000 + v1), jI v2]) (st1 := [jI v2, jR (2000000 + v1), jI r5]) rfl ?_
    refine L_cpI (c26 49 rfl) (js_v rfl ((str_tag hlit).trans js29)) hh26 (k_String_charAt hlit hM h) (fun r7 M hM h => ?_) (fun _ _ _ _ f => f.elim)
    refine L_br (p1 := 57) (p2 := 55) (c26 52 rfl) rfl jc_eq h (fun h => ?_) (fun h => ?_)
    · refine L_ps c26 (n := 2) (pc1 := 29) (ls1 := [jR 72, jR (2000000 + v1), jI (wr (v2 + 1))]) (st1 := []) rfl ?_
      exact hW29 _ _ hM h
    · refine L_ps c26 (n := 1) (pc1 := 56) (ls1 := [jR 72, jR (2000000 + v1), jI v2]) (st1 := [jI 0]) rfl ?_
      exact L_retB (c26 56 rfl) (Or.inl rfl) (hQ false _ hM h)
  · refine L_ps c26 (n := 1) (pc1 := 64) (ls1 := [jR 72, jR (2000000 + v1), jI v2]) (st1 := [jI 1]) rfl ?_
    exact L_retB (c26 64 rfl) (Or.inr rfl) (hQ true _ hM h)
theorem k_Parser_isWord_l29 {E : JE2} {v1 : Nat} {v2 : Int} {μ : Mem} {M : JM} {P : JO → JM → Prop} {Q : Bool → Prop} (hlit : v1 < 7) (hM : Rl E M μ) (hQ : ∀ (r : Bool) (M1 : JM), Rl E M1 μ → Q r → P (.inl (some (.inl (b2i r)))) M1) (h : d_Parser_isWord_l29 v1 v2 μ Q) : JX 26 29 [jR 72, jR (2000000 + v1), jI v2] [] M P := by
  refine h (fun v2 => ∀ (M : JM), Rl E M μ → JX 26 29 [jR 72, jR (2000000 + v1), jI v2] [] M P) ?_ _ hM
  intro v2 h M hM
  exact k_Parser_isWord_b29 hlit hM hQ (fun v2 M hM h => h M hM) h
theorem k_Parser_isWord {E : JE2} {v1 : Nat} {μ : Mem} {M : JM} {Q : Bool → Prop} (hlit : v1 < 7) (hM : Rl E M μ) (h : d_Parser_isWord v1 μ Q) : JX 26 0 (jargs 26 [jR 72, jR (2000000 + v1)]) [] M (PO E (pQB μ Q) XN) := by
  unfold d_Parser_isWord at h
  show JX 26 0 [jR 72, jR (2000000 + v1), jU] [] M (PO E (pQB μ Q) XN)
  generalize hP : PO E (pQB μ Q) XN = P
  have hQ : ∀ (r : Bool) (M1 : JM), Rl E M1 μ → Q r → P (.inl (some (.inl (b2i r)))) M1 := by rw [← hP]; exact fun r M1 a b => ⟨μ, a, rfl, r, rfl, b⟩
  clear hP
  refine L_ps c26 (n := 1) (pc1 := 1) (ls1 := [jR 72, jR (2000000 + v1), jU]) (st1 := [jR 72]) rfl ?_
  refine L_getI (c26 1 rfl) hM rt72 rfl ?_
  refine L_ps c26 (n := 1) (pc1 := 6) (ls1 := [jR 72, jR (2000000 + v1), jU]) (st1 := [jI 97, jI (μ 72 9)]) rfl ?_
  refine L_nb (p1 := 25) (p2 := 9) (c26 6 rfl) rfl jc_ne h (fun h => ?_) (fun h => ?_)
  · refine L_ps c26 (n := 1) (pc1 := 10) (ls1 := [jR 72, jR (2000000 + v1), jU]) (st1 := [jR 72]) rfl ?_
    refine L_getI (c26 10 rfl) hM rt72 rfl ?_
    refine L_ps c26 (n := 1) (pc1 := 14) (ls1 := [jR 72, jR (2000000 + v1), jU]) (st1 := [jR 72, jI (μ 72 11)]) rfl ?_
    refine L_getI (c26 14 rfl) hM rt72 rfl ?_
    refine L_ps c26 (n := 2) (pc1 := 19) (ls1 := [jR 72, jR (2000000 + v1), jU]) (st1 := [jR (2000000 + v1), jI (wr ((μ 72 11) - (μ 72 10)))]) rfl ?_
    refine L_cpI (c26 19 rfl) (js_v rfl ((str_tag hlit).trans js27)) hh26 (k_String_length hlit hM h) (fun r1 M hM h => ?_) (fun _ _ _ _ f => f.elim)
    refine L_br (p1 := 27) (p2 := 25) (c26 22 rfl) rfl jc_eq h (fun h => ?_) (fun h => ?_)
    · refine L_ps c26 (n := 2) (pc1 := 29) (ls1 := [jR 72, jR (2000000 + v1), jI 0]) (st1 := []) rfl ?_
      exact k_Parser_isWord_l29 hlit hM hQ h
    · refine L_ps c26 (n := 1) (pc1 := 26) (ls1 := [jR 72, jR (2000000 + v1), jU]) (st1 := [jI 0]) rfl ?_
      exact L_retB (c26 26 rfl) (Or.inl rfl) (hQ false _ hM h)
  · refine L_ps c26 (n := 1) (pc1 := 26) (ls1 := [jR 72, jR (2000000 + v1), jU]) (st1 := [jI 0]) rfl ?_
    exact L_retB (c26 26 rfl) (Or.inl rfl) (hQ false _ hM h)
theorem k_Parser_fail {E : JE2} {v1 : Int} {μ : Mem} {M : JM} {Q : Bool → Mem → Prop} (hM : Rl E M μ) (h : d_Parser_fail v1 μ Q) : JX 34 0 (jargs 34 [jR 72, jI v1]) [] M (PO E (QB Q) XN) := by
  unfold d_Parser_fail at h
  show JX 34 0 [jR 72, jI v1] [] M (PO E (QB Q) XN)
  generalize hP : PO E (QB Q) XN = P
  have hQ : ∀ (r : Bool) (M1 : JM) (μ1 : Mem), Rl E M1 μ1 → Q r μ1 → P (.inl (some (.inl (b2i r)))) M1 := by rw [← hP]; exact fun r M1 μ1 a b => ⟨μ1, a, r, rfl, b⟩
  clear hP
  refine L_ps c34 (n := 2) (pc1 := 2) (ls1 := [jR 72, jI v1]) (st1 := [jI v1, jR 72]) rfl ?_
  refine L_putI (c34 2 rfl) hM rt72 rfl (fun M hM => ?_)
  refine L_ps c34 (n := 2) (pc1 := 7) (ls1 := [jR 72, jI v1]) (st1 := [jR 72, jR 72]) rfl ?_
  refine L_getI (c34 7 rfl) hM rt72 rfl ?_
  refine L_putI (c34 10 rfl) hM rt72 rfl (fun M hM => ?_)
  refine L_ps c34 (n := 1) (pc1 := 14) (ls1 := [jR 72, jI v1]) (st1 := [jI 0]) rfl ?_
  exact L_retB (c34 14 rfl) (Or.inl rfl) (hQ false _ _ hM h)
theorem k_Signature_nameLength {E : JE2} {v0 : Nat} {v1 : Int} {μ : Mem} {M : JM} {Q : Int → Prop} (hv0 : rt v0 = 6) (hM : Rl E M μ) (h : d_Signature_nameLength v0 v1 μ Q) : JX 38 0 (jargs 38 [jR v0, jI v1]) [] M (PO E (pQI μ Q) XN) := by
  unfold d_Signature_nameLength at h
  show JX 38 0 [jR v0, jI v1] [] M (PO E (pQI μ Q) XN)
  generalize hP : PO E (pQI μ Q) XN = P
  have hQ : ∀ (r : Int) (M1 : JM), Rl E M1 μ → Q r → P (.inl (some (.inl r))) M1 := by rw [← hP]; exact fun r M1 a b => ⟨μ, a, rfl, r, rfl, b⟩
  clear hP
  refine L_ps c38 (n := 1) (pc1 := 1) (ls1 := [jR v0, jI v1]) (st1 := [jI v1]) rfl ?_
  refine L_br (p1 := 19) (p2 := 4) (c38 1 rfl) rfl jc_lt h (fun h => ?_) (fun h => ?_)
  · refine L_ps c38 (n := 1) (pc1 := 20) (ls1 := [jR v0, jI v1]) (st1 := [jI 0]) rfl ?_
    exact L_retI (c38 20 rfl) (hQ _ _ hM h)
  · refine L_ps c38 (n := 2) (pc1 := 7) (ls1 := [jR v0, jI v1]) (st1 := [jI 8, jI v1]) rfl ?_
    refine L_nb (p1 := 19) (p2 := 10) (c38 7 rfl) rfl jc_ge h (fun h => ?_) (fun h => ?_)
    · refine L_ps c38 (n := 1) (pc1 := 11) (ls1 := [jR v0, jI v1]) (st1 := [jR v0]) rfl ?_
      refine L_getP (d := 2) (c38 11 rfl) hM hv0 rfl ?_
      refine L_ps c38 (n := 1) (pc1 := 15) (ls1 := [jR v0, jI v1]) (st1 := [jI v1, jR (v0 + 2)]) rfl ?_
      obtain ⟨hb, h⟩ := h
      refine L_iald (c38 15 rfl) hM (rp_6_2 hv0) (lp_6_2 hv0) hb ?_
      refine L_ps c38 (n := 1) (pc1 := 20) (ls1 := [jR v0, jI v1]) (st1 := [jI (μ (v0 + 2) v1.toNat)]) rfl ?_
      exact L_retI (c38 20 rfl) (hQ _ _ hM h)
    · refine L_ps c38 (n := 1) (pc1 := 20) (ls1 := [jR v0, jI v1]) (st1 := [jI 0]) rfl ?_
      exact L_retI (c38 20 rfl) (hQ _ _ hM h)
theorem k_Signature_letter_j25 {E : JE2} {v0 : Nat} {v1 : Int} {v2 : Int} {t0 : Int} {μ : Mem} {M : JM} {P : JO → JM → Prop} {g3 : JV} {Q : Int → Prop} (hv0 : rt v0 = 6) (hM : Rl E M μ) (hQ : ∀ (r : Int) (M1 : JM), Rl E M1 μ → Q r → P (.inl (some (.inl r))) M1) (h : d_Signature_letter_j25 v0 v1 v2 t0 μ Q) : JX 39 25 [jR v0, jI v1, jI v2, g3] [jI t0] M P := by
  unfold d_Signature_letter_j25 at h
  refine L_ps c39 (n := 2) (pc1 := 27) (ls1 := [jR v0, jI v1, jI v2, jI t0]) (st1 := [jI t0]) rfl ?_
  refine L_br (p1 := 54) (p2 := 30) (c39 27 rfl) rfl jc_eq h (fun h => ?_) (fun h => ?_)
  · refine L_ps c39 (n := 1) (pc1 := 55) (ls1 := [jR v0, jI v1, jI v2, jI t0]) (st1 := [jI (-1)]) rfl ?_
    exact L_retI (c39 55 rfl) (hQ _ _ hM h)
  · refine L_ps c39 (n := 2) (pc1 := 32) (ls1 := [jR v0, jI v1, jI v2, jI t0]) (st1 := [jR v0, jI v2]) rfl ?_
    refine L_getP (d := 2) (c39 32 rfl) hM hv0 rfl ?_
    refine L_ps c39 (n := 1) (pc1 := 36) (ls1 := [jR v0, jI v1, jI v2, jI t0]) (st1 := [jI v1, jR (v0 + 2), jI v2]) rfl ?_
    obtain ⟨hb, h⟩ := h
    refine L_iald (c39 36 rfl) hM (rp_6_2 hv0) (lp_6_2 hv0) hb ?_
    refine L_nb (p1 := 54) (p2 := 40) (c39 37 rfl) rfl jc_ge h (fun h => ?_) (fun h => ?_)
    · refine L_ps c39 (n := 1) (pc1 := 41) (ls1 := [jR v0, jI v1, jI v2, jI t0]) (st1 := [jR v0]) rfl ?_
      refine L_getP (d := 3) (c39 41 rfl) hM hv0 rfl ?_
      refine L_ps c39 (n := 5) (pc1 := 50) (ls1 := [jR v0, jI v1, jI v2, jI t0]) (st1 := [jI (wr ((wr (v1 * 6)) + v2)), jR (v0 + 3)]) rfl ?_
      obtain ⟨hb, h⟩ := h
      refine L_iald (c39 50 rfl) hM (rp_6_3 hv0) (lp_6_3 hv0) hb ?_
      refine L_ps c39 (n := 1) (pc1 := 55) (ls1 := [jR v0, jI v1, jI v2, jI t0]) (st1 := [jI (μ (v0 + 3) (wr ((wr (v1 * 6)) + v2)).toNat)]) rfl ?_
      exact L_retI (c39 55 rfl) (hQ _ _ hM h)
    · refine L_ps c39 (n := 1) (pc1 := 55) (ls1 := [jR v0, jI v1, jI v2, jI t0]) (st1 := [jI (-1)]) rfl ?_
      exact L_retI (c39 55 rfl) (hQ _ _ hM h)
theorem k_Signature_letter_j24 {E : JE2} {v0 : Nat} {v1 : Int} {v2 : Int} {μ : Mem} {M : JM} {P : JO → JM → Prop} {g3 : JV} {Q : Int → Prop} (hv0 : rt v0 = 6) (hM : Rl E M μ) (hQ : ∀ (r : Int) (M1 : JM), Rl E M1 μ → Q r → P (.inl (some (.inl r))) M1) (h : d_Signature_letter_j24 v0 v1 v2 μ Q) : JX 39 24 [jR v0, jI v1, jI v2, g3] [] M P := by
  unfold d_Signature_letter_j24 at h
  refine L_ps c39 (n := 1) (pc1 := 25) (ls1 := [jR v0, jI v1, jI v2, g3]) (st1 := [jI 0]) rfl ?_
  exact k_Signature_letter_j25 hv0 hM hQ h
theorem k_Signature_letter {E : JE2} {v0 : Nat} {v1 : Int} {v2 : Int} {μ : Mem} {M : JM} {Q : Int → Prop} (hv0 : rt v0 = 6) (hM : Rl E M μ) (h : d_Signature_letter v0 v1 v2 μ Q) : JX 39 0 (jargs 39 [jR v0, jI v1, jI v2]) [] M (PO E (pQI μ Q) XN) := by
  unfold d_Signature_letter at h
  show JX 39 0 [jR v0, jI v1, jI v2, jU] [] M (PO E (pQI μ Q) XN)
  generalize hP : PO E (pQI μ Q) XN = P
  have hQ : ∀ (r : Int) (M1 : JM), Rl E M1 μ → Q r → P (.inl (some (.inl r))) M1 := by rw [← hP]; exact fun r M1 a b => ⟨μ, a, rfl, r, rfl, b⟩
  clear hP
  refine L_ps c39 (n := 1) (pc1 := 1) (ls1 := [jR v0, jI v1, jI v2, jU]) (st1 := [jI v1]) rfl ?_
  refine L_br (p1 := 24) (p2 := 4) (c39 1 rfl) rfl jc_lt h (fun h => ?_) (fun h => ?_)
  · exact k_Signature_letter_j24 hv0 hM hQ h
  · refine L_ps c39 (n := 2) (pc1 := 7) (ls1 := [jR v0, jI v1, jI v2, jU]) (st1 := [jI 8, jI v1]) rfl ?_
    refine L_nb (p1 := 24) (p2 := 10) (c39 7 rfl) rfl jc_ge h (fun h => ?_) (fun h => ?_)
    · refine L_ps c39 (n := 1) (pc1 := 11) (ls1 := [jR v0, jI v1, jI v2, jU]) (st1 := [jI v2]) rfl ?_
      refine L_br (p1 := 24) (p2 := 14) (c39 11 rfl) rfl jc_lt h (fun h => ?_) (fun h => ?_)
      · exact k_Signature_letter_j24 hv0 hM hQ h
      · refine L_ps c39 (n := 2) (pc1 := 17) (ls1 := [jR v0, jI v1, jI v2, jU]) (st1 := [jI 6, jI v2]) rfl ?_
        refine L_nb (p1 := 24) (p2 := 20) (c39 17 rfl) rfl jc_ge h (fun h => ?_) (fun h => ?_)
        · refine L_ps c39 (n := 2) (pc1 := 25) (ls1 := [jR v0, jI v1, jI v2, jU]) (st1 := [jI 1]) rfl ?_
          exact k_Signature_letter_j25 hv0 hM hQ h
        · exact k_Signature_letter_j24 hv0 hM hQ h
    · exact k_Signature_letter_j24 hv0 hM hQ h
theorem k_Parser_isNamed_b27 {E : JE2} {v1 : Int} {v2 : Int} {μ : Mem} {M : JM} {P : JO → JM → Prop} {W27 : Int → Prop} {Q : Bool → Prop} (hM : Rl E M μ) (hQ : ∀ (r : Bool) (M1 : JM), Rl E M1 μ → Q r → P (.inl (some (.inl (b2i r)))) M1) (hW27 : ∀ (v2 : Int) (M1 : JM), Rl E M1 μ → W27 v2 → JX 37 27 [jR 72, jI v1, jI v2] [] M1 P) (h : d_Parser_isNamed_b27 v1 v2 μ W27 Q) : JX 37 27 [jR 72, jI v1, jI v2] [] M P := by
  unfold d_Parser_isNamed_b27 at h
  refine L_ps c37 (n := 2) (pc1 := 29) (ls1 := [jR 72, jI v1, jI v2]) (st1 := [jR 72, jI v2]) rfl ?_
  refine L_getI (c37 29 rfl) hM rt72 rfl ?_
  refine L_nb (p1 := 65) (p2 := 35) (c37 32 rfl) rfl jc_ge h (fun h => ?_) (fun h => ?_)
  · refine L_ps c37 (n := 2) (pc1 := 37) (ls1 := [jR 72, jI v1, jI v2]) (st1 := [jI v2, jR 72]) rfl ?_
    refine L_cpI (c37 37 rfl) (js_v rfl ((Rl_tag hM rt72 (by decide)).trans js24)) hh37 (k_Parser_byteAt hM h) (fun r3 M hM h => ?_) (fun _ _ _ _ f => f.elim)
    refine L_ps c37 (n := 1) (pc1 := 41) (ls1 := [jR 72, jI v1, jI v2]) (st1 := [jR 72, jI r3]) rfl ?_
    refine L_getP (d := 1) (c37 41 rfl) hM rt72 rfl ?_
    refine L_ps c37 (n := 3) (pc1 := 47) (ls1 := [jR 72, jI v1, jI v2]) (st1 := [jR 72, jI v2, jI v1, jR 73, jI r3]) rfl ?_
    refine L_getI (c37 47 rfl) hM rt72 rfl ?_
    refine L_ps c37 (n := 1) (pc1 := 51) (ls1 := [jR 72, jI v1, jI v2]) (st1 := [jI (wr (v2 - (μ 72 10))), jI v1, jR 73, jI r3]) rfl ?_
    refine L_cpI (c37 51 rfl) (js_v rfl ((Rl_tag hM rt73 (by decide)).trans js39)) hh37 (k_Signature_letter rt73 hM h) (fun r5 M hM h => ?_) (fun _ _ _ _ f => f.elim)
    refine L_br (p1 := 59) (p2 := 57) (c37 54 rfl) rfl jc_eq h (fun h => ?_) (fun h => ?_)
    · refine L_ps c37 (n := 2) (pc1 := 27) (ls1 := [jR 72, jI v1, jI (wr (v2 + 1))]) (st1 := []) rfl ?_
      exact hW27 _ _ hM h
    · refine L_ps c37 (n := 1) (pc1 := 58) (ls1 := [jR 72, jI v1, jI v2]) (st1 := [jI 0]) rfl ?_
      exact L_retB (c37 58 rfl) (Or.inl rfl) (hQ false _ hM h)
  · refine L_ps c37 (n := 1) (pc1 := 66) (ls1 := [jR 72, jI v1, jI v2]) (st1 := [jI 1]) rfl ?_
    exact L_retB (c37 66 rfl) (Or.inr rfl) (hQ true _ hM h)
theorem k_Parser_isNamed_l27 {E : JE2} {v1 : Int} {v2 : Int} {μ : Mem} {M : JM} {P : JO → JM → Prop} {Q : Bool → Prop} (hM : Rl E M μ) (hQ : ∀ (r : Bool) (M1 : JM), Rl E M1 μ → Q r → P (.inl (some (.inl (b2i r)))) M1) (h : d_Parser_isNamed_l27 v1 v2 μ Q) : JX 37 27 [jR 72, jI v1, jI v2] [] M P := by
  refine h (fun v2 => ∀ (M : JM), Rl E M μ → JX 37 27 [jR 72, jI v1, jI v2] [] M P) ?_ _ hM
  intro v2 h M hM
  exact k_Parser_isNamed_b27 hM hQ (fun v2 M hM h => h M hM) h
theorem k_Parser_isNamed {E : JE2} {v1 : Int} {μ : Mem} {M : JM} {Q : Bool → Prop} (hM : Rl E M μ) (h : d_Parser_isNamed v1 μ Q) : JX 37 0 (jargs 37 [jR 72, jI v1]) [] M (PO E (pQB μ Q) XN) := by
  unfold d_Parser_isNamed at h
  show JX 37 0 [jR 72, jI v1, jU] [] M (PO E (pQB μ Q) XN)
  generalize hP : PO E (pQB μ Q) XN = P
  have hQ : ∀ (r : Bool) (M1 : JM), Rl E M1 μ → Q r → P (.inl (some (.inl (b2i r)))) M1 := by rw [← hP]; exact fun r M1 a b => ⟨μ, a, rfl, r, rfl, b⟩
  clear hP
  refine L_ps c37 (n := 1) (pc1 := 1) (ls1 := [jR 72, jI v1, jU]) (st1 := [jR 72]) rfl ?_
  refine L_getI (c37 1 rfl) hM rt72 rfl ?_
  refine L_ps c37 (n := 1) (pc1 := 5) (ls1 := [jR 72, jI v1, jU]) (st1 := [jR 72, jI (μ 72 11)]) rfl ?_
  refine L_getI (c37 5 rfl) hM rt72 rfl ?_
  refine L_ps c37 (n := 2) (pc1 := 10) (ls1 := [jR 72, jI v1, jU]) (st1 := [jR 72, jI (wr ((μ 72 11) - (μ 72 10)))]) rfl ?_
  refine L_getP (d := 1) (c37 10 rfl) hM rt72 rfl ?_
  refine L_ps c37 (n := 1) (pc1 := 14) (ls1 := [jR 72, jI v1, jU]) (st1 := [jI v1, jR 73, jI (wr ((μ 72 11) - (μ 72 10)))]) rfl ?_
  refine L_cpI (c37 14 rfl) (js_v rfl ((Rl_tag hM rt73 (by decide)).trans js38)) hh37 (k_Signature_nameLength rt73 hM h) (fun r1 M hM h => ?_) (fun _ _ _ _ f => f.elim)
  refine L_br (p1 := 22) (p2 := 20) (c37 17 rfl) rfl jc_eq h (fun h => ?_) (fun h => ?_)
  · refine L_ps c37 (n := 1) (pc1 := 23) (ls1 := [jR 72, jI v1, jU]) (st1 := [jR 72]) rfl ?_
    refine L_getI (c37 23 rfl) hM rt72 rfl ?_
    refine L_ps c37 (n := 1) (pc1 := 27) (ls1 := [jR 72, jI v1, jI (μ 72 10)]) (st1 := []) rfl ?_
    exact k_Parser_isNamed_l27 hM hQ h
  · refine L_ps c37 (n := 1) (pc1 := 21) (ls1 := [jR 72, jI v1, jU]) (st1 := [jI 0]) rfl ?_
    exact L_retB (c37 21 rfl) (Or.inl rfl) (hQ false _ hM h)
theorem k_Parser_symbolOfWord_b2 {E : JE2} {v1 : Int} {μ : Mem} {M : JM} {P : JO → JM → Prop} {W2 : Int → Prop} {Q : Int → Prop} (hM : Rl E M μ) (hQ : ∀ (r : Int) (M1 : JM), Rl E M1 μ → Q r → P (.inl (some (.inl r))) M1) (hW2 : ∀ (v1 : Int) (M1 : JM), Rl E M1 μ → W2 v1 → JX 36 2 [jR 72, jI v1] [] M1 P) (h : d_Parser_symbolOfWord_b2 v1 μ W2 Q) : JX 36 2 [jR 72, jI v1] [] M P := by
  unfold d_Parser_symbolOfWord_b2 at h
  refine L_ps c36 (n := 2) (pc1 := 4) (ls1 := [jR 72, jI v1]) (st1 := [jR 72, jI v1]) rfl ?_
  refine L_getP (d := 1) (c36 4 rfl) hM rt72 rfl ?_
  refine L_getI (c36 7 rfl) hM rt73 rfl ?_
  refine L_nb (p1 := 29) (p2 := 13) (c36 10 rfl) rfl jc_ge h (fun h => ?_) (fun h => ?_)
  · refine L_ps c36 (n := 2) (pc1 := 15) (ls1 := [jR 72, jI v1]) (st1 := [jI v1, jR 72]) rfl ?_
    refine L_cpB (c36 15 rfl) (js_v rfl ((Rl_tag hM rt72 (by decide)).trans js37)) hh36 (k_Parser_isNamed hM h) (fun r1 M hM h => ?_) (fun _ _ _ _ f => f.elim)
    refine L_nb (p1 := 23) (p2 := 21) (c36 18 rfl) rfl jc_eqb h (fun h => ?_) (fun h => ?_)
    · refine L_ps c36 (n := 1) (pc1 := 22) (ls1 := [jR 72, jI v1]) (st1 := [jI v1]) rfl ?_
      exact L_retI (c36 22 rfl) (hQ _ _ hM h)
    · refine L_ps c36 (n := 2) (pc1 := 2) (ls1 := [jR 72, jI (wr (v1 + 1))]) (st1 := []) rfl ?_
      exact hW2 _ _ hM h
  · refine L_ps c36 (n := 1) (pc1 := 30) (ls1 := [jR 72, jI v1]) (st1 := [jI (-1)]) rfl ?_
    exact L_retI (c36 30 rfl) (hQ _ _ hM h)
theorem k_Parser_symbolOfWord_l2 {E : JE2} {v1 : Int} {μ : Mem} {M : JM} {P : JO → JM → Prop} {Q : Int → Prop} (hM : Rl E M μ) (hQ : ∀ (r : Int) (M1 : JM), Rl E M1 μ → Q r → P (.inl (some (.inl r))) M1) (h : d_Parser_symbolOfWord_l2 v1 μ Q) : JX 36 2 [jR 72, jI v1] [] M P := by
  refine h (fun v1 => ∀ (M : JM), Rl E M μ → JX 36 2 [jR 72, jI v1] [] M P) ?_ _ hM
  intro v1 h M hM
  exact k_Parser_symbolOfWord_b2 hM hQ (fun v1 M hM h => h M hM) h
theorem k_Parser_symbolOfWord {E : JE2} {μ : Mem} {M : JM} {Q : Int → Prop} (hM : Rl E M μ) (h : d_Parser_symbolOfWord μ Q) : JX 36 0 (jargs 36 [jR 72]) [] M (PO E (pQI μ Q) XN) := by
  unfold d_Parser_symbolOfWord at h
  show JX 36 0 [jR 72, jU] [] M (PO E (pQI μ Q) XN)
  generalize hP : PO E (pQI μ Q) XN = P
  have hQ : ∀ (r : Int) (M1 : JM), Rl E M1 μ → Q r → P (.inl (some (.inl r))) M1 := by rw [← hP]; exact fun r M1 a b => ⟨μ, a, rfl, r, rfl, b⟩
  clear hP
  refine L_ps c36 (n := 2) (pc1 := 2) (ls1 := [jR 72, jI 0]) (st1 := []) rfl ?_
  exact k_Parser_symbolOfWord_l2 hM hQ h
theorem k_Signature_begin {E : JE2} {v0 : Nat} {μ : Mem} {M : JM} {Q : Mem → Prop} (hv0 : rt v0 = 6) (hM : Rl E M μ) (h : d_Signature_begin v0 μ Q) : JX 40 0 (jargs 40 [jR v0]) [] M (PO E (QV Q) XN) := by
  unfold d_Signature_begin at h
  show JX 40 0 [jR v0] [] M (PO E (QV Q) XN)
  generalize hP : PO E (QV Q) XN = P
  have hQ : ∀ (M1 : JM) (μ1 : Mem), Rl E M1 μ1 → Q μ1 → P (.inl none) M1 := by rw [← hP]; exact fun M1 μ1 a b => ⟨μ1, a, rfl, b⟩
  clear hP
  refine L_ps c40 (n := 1) (pc1 := 1) (ls1 := [jR v0]) (st1 := [jR v0]) rfl ?_
  refine L_getI (c40 1 rfl) hM hv0 rfl ?_
  refine L_br (p1 := 26) (p2 := 7) (c40 4 rfl) rfl jc_lt h (fun h => ?_) (fun h => ?_)
  · exact L_end (c40 26 rfl) rfl (hQ _ _ hM h)
  · refine L_ps c40 (n := 1) (pc1 := 8) (ls1 := [jR v0]) (st1 := [jR v0]) rfl ?_
    refine L_getI (c40 8 rfl) hM hv0 rfl ?_
    refine L_ps c40 (n := 1) (pc1 := 13) (ls1 := [jR v0]) (st1 := [jI 8, jI (μ v0 0)]) rfl ?_
    refine L_nb (p1 := 26) (p2 := 16) (c40 13 rfl) rfl jc_ge h (fun h => ?_) (fun h => ?_)
    · refine L_ps c40 (n := 1) (pc1 := 17) (ls1 := [jR v0]) (st1 := [jR v0]) rfl ?_
      refine L_getP (d := 2) (c40 17 rfl) hM hv0 rfl ?_
      refine L_ps c40 (n := 1) (pc1 := 21) (ls1 := [jR v0]) (st1 := [jR v0, jR (v0 + 2)]) rfl ?_
      refine L_getI (c40 21 rfl) hM hv0 rfl ?_
      refine L_ps c40 (n := 1) (pc1 := 25) (ls1 := [jR v0]) (st1 := [jI 0, jI (μ v0 0), jR (v0 + 2)]) rfl ?_
      obtain ⟨hb, h⟩ := h
      refine L_iast (c40 25 rfl) hM (rp_6_2 hv0) (lp_6_2 hv0) hb (fun M hM => ?_)
      exact L_end (c40 26 rfl) rfl (hQ _ _ hM h)
    · exact L_end (c40 26 rfl) rfl (hQ _ _ hM h)
theorem k_Signature_addLetter {E : JE2} {v0 : Nat} {v1 : Int} {μ : Mem} {M : JM} {Q : Mem → Prop} (hv0 : rt v0 = 6) (hM : Rl E M μ) (h : d_Signature_addLetter v0 v1 μ Q) : JX 41 0 (jargs 41 [jR v0, jI v1]) [] M (PO E (QV Q) XN) := by
  unfold d_Signature_addLetter at h
  show JX 41 0 [jR v0, jI v1, jU] [] M (PO E (QV Q) XN)
  generalize hP : PO E (QV Q) XN = P
  have hQ : ∀ (M1 : JM) (μ1 : Mem), Rl E M1 μ1 → Q μ1 → P (.inl none) M1 := by rw [← hP]; exact fun M1 μ1 a b => ⟨μ1, a, rfl, b⟩
  clear hP
  refine L_ps c41 (n := 2) (pc1 := 2) (ls1 := [jR v0, jI v1, jU]) (st1 := [jR v0, jR v0]) rfl ?_
  refine L_getI (c41 2 rfl) hM hv0 rfl ?_
  refine L_cpI (c41 5 rfl) (js_v rfl ((Rl_tag hM hv0 (by decide)).trans js38)) hh41 (k_Signature_nameLength hv0 hM h) (fun r1 M hM h => ?_) (fun _ _ _ _ f => f.elim)
  refine L_ps c41 (n := 2) (pc1 := 10) (ls1 := [jR v0, jI v1, jI r1]) (st1 := [jR v0]) rfl ?_
  refine L_getI (c41 10 rfl) hM hv0 rfl ?_
  refine L_br (p1 := 62) (p2 := 16) (c41 13 rfl) rfl jc_lt h (fun h => ?_) (fun h => ?_)
  · exact L_end (c41 62 rfl) rfl (hQ _ _ hM h)
  · refine L_ps c41 (n := 1) (pc1 := 17) (ls1 := [jR v0, jI v1, jI r1]) (st1 := [jR v0]) rfl ?_
    refine L_getI (c41 17 rfl) hM hv0 rfl ?_
    refine L_ps c41 (n := 1) (pc1 := 22) (ls1 := [jR v0, jI v1, jI r1]) (st1 := [jI 8, jI (μ v0 0)]) rfl ?_
    refine L_nb (p1 := 62) (p2 := 25) (c41 22 rfl) rfl jc_ge h (fun h => ?_) (fun h => ?_)
    · refine L_ps c41 (n := 1) (pc1 := 26) (ls1 := [jR v0, jI v1, jI r1]) (st1 := [jI r1]) rfl ?_
      refine L_br (p1 := 62) (p2 := 29) (c41 26 rfl) rfl jc_lt h (fun h => ?_) (fun h => ?_)
      · exact L_end (c41 62 rfl) rfl (hQ _ _ hM h)
      · refine L_ps c41 (n := 2) (pc1 := 32) (ls1 := [jR v0, jI v1, jI r1]) (st1 := [jI 6, jI r1]) rfl ?_
        refine L_nb (p1 := 62) (p2 := 35) (c41 32 rfl) rfl jc_ge h (fun h => ?_) (fun h => ?_)
        · refine L_ps c41 (n := 1) (pc1 := 36) (ls1 := [jR v0, jI v1, jI r1]) (st1 := [jR v0]) rfl ?_
          refine L_getP (d := 3) (c41 36 rfl) hM hv0 rfl ?_
          refine L_ps c41 (n := 1) (pc1 := 40) (ls1 := [jR v0, jI v1, jI r1]) (st1 := [jR v0, jR (v0 + 3)]) rfl ?_
          refine L_getI (c41 40 rfl) hM hv0 rfl ?_
          refine L_ps c41 (n := 5) (pc1 := 49) (ls1 := [jR v0, jI v1, jI r1]) (st1 := [jI v1, jI (wr ((wr ((μ v0 0) * 6)) + r1)), jR (v0 + 3)]) rfl ?_
          obtain ⟨hb, h⟩ := h
          refine L_iast (c41 49 rfl) hM (rp_6_3 hv0) (lp_6_3 hv0) hb (fun M hM => ?_)
          refine L_ps c41 (n := 1) (pc1 := 51) (ls1 := [jR v0, jI v1, jI r1]) (st1 := [jR v0]) rfl ?_
          refine L_getP (d := 2) (c41 51 rfl) hM hv0 rfl ?_
          refine L_ps c41 (n := 1) (pc1 := 55) (ls1 := [jR v0, jI v1, jI r1]) (st1 := [jR v0, jR (v0 + 2)]) rfl ?_
          refine L_getI (c41 55 rfl) hM hv0 rfl ?_
          refine L_ps c41 (n := 3) (pc1 := 61) (ls1 := [jR v0, jI v1, jI r1]) (st1 := [jI (wr (r1 + 1)), jI ((mup μ (v0 + 3) (wr ((wr ((μ v0 0) * 6)) + r1)).toNat v1) v0 0), jR (v0 + 2)]) rfl ?_
          obtain ⟨hb, h⟩ := h
          refine L_iast (c41 61 rfl) hM (rp_6_2 hv0) (lp_6_2 hv0) hb (fun M hM => ?_)
          exact L_end (c41 62 rfl) rfl (hQ _ _ hM h)
        · exact L_end (c41 62 rfl) rfl (hQ _ _ hM h)
    · exact L_end (c41 62 rfl) rfl (hQ _ _ hM h)
theorem k_Parser_digit {E : JE2} {μ : Mem} {M : JM} {Q : Int → Prop} (hM : Rl E M μ) (h : d_Parser_digit μ Q) : JX 43 0 (jargs 43 [jR 72]) [] M (PO E (pQI μ Q) XN) := by
  unfold d_Parser_digit at h
  show JX 43 0 [jR 72] [] M (PO E (pQI μ Q) XN)
  generalize hP : PO E (pQI μ Q) XN = P
  have hQ : ∀ (r : Int) (M1 : JM), Rl E M1 μ → Q r → P (.inl (some (.inl r))) M1 := by rw [← hP]; exact fun r M1 a b => ⟨μ, a, rfl, r, rfl, b⟩
  clear hP
  refine L_ps c43 (n := 2) (pc1 := 2) (ls1 := [jR 72]) (st1 := [jR 72, jR 72]) rfl ?_
  refine L_getI (c43 2 rfl) hM rt72 rfl ?_
  refine L_cpI (c43 5 rfl) (js_v rfl ((Rl_tag hM rt72 (by decide)).trans js24)) hh43 (k_Parser_byteAt hM h) (fun r1 M hM h => ?_) (fun _ _ _ _ f => f.elim)
  refine L_ps c43 (n := 2) (pc1 := 11) (ls1 := [jR 72]) (st1 := [jI (wr (r1 - 48))]) rfl ?_
  exact L_retI (c43 11 rfl) (hQ _ _ hM h)
theorem k_Parser_readDigit {E : JE2} {v1 : Int} {μ : Mem} {M : JM} {Q : Bool → Mem → Prop} (hM : Rl E M μ) (h : d_Parser_readDigit v1 μ Q) : JX 42 0 (jargs 42 [jR 72, jI v1]) [] M (PO E (QB Q) XN) := by
  unfold d_Parser_readDigit at h
  show JX 42 0 [jR 72, jI v1] [] M (PO E (QB Q) XN)
  generalize hP : PO E (QB Q) XN = P
  have hQ : ∀ (r : Bool) (M1 : JM) (μ1 : Mem), Rl E M1 μ1 → Q r μ1 → P (.inl (some (.inl (b2i r)))) M1 := by rw [← hP]; exact fun r M1 μ1 a b => ⟨μ1, a, r, rfl, b⟩
  clear hP
  refine L_ps c42 (n := 1) (pc1 := 1) (ls1 := [jR 72, jI v1]) (st1 := [jR 72]) rfl ?_
  refine L_getI (c42 1 rfl) hM rt72 rfl ?_
  refine L_ps c42 (n := 1) (pc1 := 6) (ls1 := [jR 72, jI v1]) (st1 := [jI 48, jI (μ 72 9)]) rfl ?_
  refine L_br (p1 := 15) (p2 := 9) (c42 6 rfl) rfl jc_eq h (fun h => ?_) (fun h => ?_)
  · refine L_ps c42 (n := 1) (pc1 := 16) (ls1 := [jR 72, jI v1]) (st1 := [jR 72]) rfl ?_
    refine L_cpI (c42 16 rfl) (js_v rfl ((Rl_tag hM rt72 (by decide)).trans js43)) hh42 (k_Parser_digit hM h) (fun r1 M hM h => ?_) (fun _ _ _ _ f => f.elim)
    refine L_ps c42 (n := 1) (pc1 := 20) (ls1 := [jR 72, jI v1]) (st1 := [jI v1, jI r1]) rfl ?_
    refine L_br (p1 := 31) (p2 := 23) (c42 20 rfl) rfl jc_lt h (fun h => ?_) (fun h => ?_)
    · refine L_ps c42 (n := 2) (pc1 := 36) (ls1 := [jR 72, jI v1]) (st1 := [jI 1]) rfl ?_
      exact L_retB (c42 36 rfl) (Or.inr rfl) (hQ true _ _ hM h)
    · refine L_ps c42 (n := 2) (pc1 := 25) (ls1 := [jR 72, jI v1]) (st1 := [jI 2, jR 72]) rfl ?_
      refine L_cB (c42 25 rfl) (js_v rfl ((Rl_tag hM rt72 (by decide)).trans js34)) hh42 (k_Parser_fail hM h) (fun r3 M μ4 hM h => ?_) (fun _ _ _ _ f => f.elim)
      refine L_nb (p1 := 35) (p2 := 31) (c42 28 rfl) rfl jc_eqb h (fun h => ?_) (fun h => ?_)
      · refine L_ps c42 (n := 2) (pc1 := 36) (ls1 := [jR 72, jI v1]) (st1 := [jI 1]) rfl ?_
        exact L_retB (c42 36 rfl) (Or.inr rfl) (hQ true _ _ hM h)
      · refine L_ps c42 (n := 1) (pc1 := 36) (ls1 := [jR 72, jI v1]) (st1 := [jI 0]) rfl ?_
        exact L_retB (c42 36 rfl) (Or.inl rfl) (hQ false _ _ hM h)
  · refine L_ps c42 (n := 2) (pc1 := 11) (ls1 := [jR 72, jI v1]) (st1 := [jI 1, jR 72]) rfl ?_
    refine L_cB (c42 11 rfl) (js_v rfl ((Rl_tag hM rt72 (by decide)).trans js34)) hh42 (k_Parser_fail hM h) (fun r5 M μ6 hM h => ?_) (fun _ _ _ _ f => f.elim)
    exact L_retB (c42 14 rfl) (bz_b _) (hQ _ _ _ hM h)
theorem k_Signature_finish {E : JE2} {v0 : Nat} {v1 : Int} {μ : Mem} {M : JM} {Q : Mem → Prop} (hv0 : rt v0 = 6) (hM : Rl E M μ) (h : d_Signature_finish v0 v1 μ Q) : JX 44 0 (jargs 44 [jR v0, jI v1]) [] M (PO E (QV Q) XN) := by
  unfold d_Signature_finish at h
  show JX 44 0 [jR v0, jI v1] [] M (PO E (QV Q) XN)
  generalize hP : PO E (QV Q) XN = P
  have hQ : ∀ (M1 : JM) (μ1 : Mem), Rl E M1 μ1 → Q μ1 → P (.inl none) M1 := by rw [← hP]; exact fun M1 μ1 a b => ⟨μ1, a, rfl, b⟩
  clear hP
  refine L_ps c44 (n := 1) (pc1 := 1) (ls1 := [jR v0, jI v1]) (st1 := [jR v0]) rfl ?_
  refine L_getI (c44 1 rfl) hM hv0 rfl ?_
  refine L_br (p1 := 36) (p2 := 7) (c44 4 rfl) rfl jc_lt h (fun h => ?_) (fun h => ?_)
  · exact L_end (c44 36 rfl) rfl (hQ _ _ hM h)
  · refine L_ps c44 (n := 1) (pc1 := 8) (ls1 := [jR v0, jI v1]) (st1 := [jR v0]) rfl ?_
    refine L_getI (c44 8 rfl) hM hv0 rfl ?_
    refine L_ps c44 (n := 1) (pc1 := 13) (ls1 := [jR v0, jI v1]) (st1 := [jI 8, jI (μ v0 0)]) rfl ?_
    refine L_nb (p1 := 36) (p2 := 16) (c44 13 rfl) rfl jc_ge h (fun h => ?_) (fun h => ?_)
    · refine L_ps c44 (n := 1) (pc1 := 17) (ls1 := [jR v0, jI v1]) (st1 := [jR v0]) rfl ?_
      refine L_getP (d := 1) (c44 17 rfl) hM hv0 rfl ?_
      refine L_ps c44 (n := 1) (pc1 := 21) (ls1 := [jR v0, jI v1]) (st1 := [jR v0, jR (v0 + 1)]) rfl ?_
      refine L_getI (c44 21 rfl) hM hv0 rfl ?_
      refine L_ps c44 (n := 1) (pc1 := 25) (ls1 := [jR v0, jI v1]) (st1 := [jI v1, jI (μ v0 0), jR (v0 + 1)]) rfl ?_
      obtain ⟨hb, h⟩ := h
      refine L_iast (c44 25 rfl) hM (rp_6_1 hv0) (lp_6_1 hv0) hb (fun M hM => ?_)
      refine L_ps c44 (n := 2) (pc1 := 28) (ls1 := [jR v0, jI v1]) (st1 := [jR v0, jR v0]) rfl ?_
      refine L_getI (c44 28 rfl) hM hv0 rfl ?_
      refine L_ps c44 (n := 2) (pc1 := 33) (ls1 := [jR v0, jI v1]) (st1 := [jI (wr (((mup μ (v0 + 1) (μ v0 0).toNat v1) v0 0) + 1)), jR v0]) rfl ?_
      refine L_putI (c44 33 rfl) hM hv0 rfl (fun M hM => ?_)
      exact L_end (c44 36 rfl) rfl (hQ _ _ hM h)
    · exact L_end (c44 36 rfl) rfl (hQ _ _ hM h)
theorem k_Parser_readSymbol_b63 {E : JE2} {v1 : Int} {μ : Mem} {M : JM} {P : JO → JM → Prop} {W63 : Int → Mem → Prop} {Q : Bool → Mem → Prop} (hM : Rl E M μ) (hQ : ∀ (r : Bool) (M1 : JM) (μ1 : Mem), Rl E M1 μ1 → Q r μ1 → P (.inl (some (.inl (b2i r)))) M1) (hW63 : ∀ (v1 : Int) (M1 : JM) (μ1 : Mem), Rl E M1 μ1 → W63 v1 μ1 → JX 35 63 [jR 72, jI v1] [] M1 P) (h : d_Parser_readSymbol_b63 v1 μ W63 Q) : JX 35 63 [jR 72, jI v1] [] M P := by
  unfold d_Parser_readSymbol_b63 at h
  refine L_ps c35 (n := 2) (pc1 := 65) (ls1 := [jR 72, jI v1]) (st1 := [jR 72, jI v1]) rfl ?_
  refine L_getI (c35 65 rfl) hM rt72 rfl ?_
  refine L_nb (p1 := 89) (p2 := 71) (c35 68 rfl) rfl jc_ge h (fun h => ?_) (fun h => ?_)
  · refine L_ps c35 (n := 1) (pc1 := 72) (ls1 := [jR 72, jI v1]) (st1 := [jR 72]) rfl ?_
    refine L_getP (d := 1) (c35 72 rfl) hM rt72 rfl ?_
    refine L_ps c35 (n := 2) (pc1 := 77) (ls1 := [jR 72, jI v1]) (st1 := [jI v1, jR 72, jR 73]) rfl ?_
    refine L_cpI (c35 77 rfl) (js_v rfl ((Rl_tag hM rt72 (by decide)).trans js24)) hh35 (k_Parser_byteAt hM h) (fun r7 M hM h => ?_) (fun _ _ _ _ f => f.elim)
    refine L_cV (c35 80 rfl) (js_v rfl ((Rl_tag hM rt73 (by decide)).trans js41)) hh35 (k_Signature_addLetter rt73 hM h) (fun M μ10 hM h => ?_) (fun _ _ _ _ f => f.elim)
    refine L_ps c35 (n := 2) (pc1 := 63) (ls1 := [jR 72, jI (wr (v1 + 1))]) (st1 := []) rfl ?_
    exact hW63 _ _ _ hM h
  · refine L_ps c35 (n := 1) (pc1 := 90) (ls1 := [jR 72, jI v1]) (st1 := [jR 72]) rfl ?_
    refine L_cV (c35 90 rfl) (js_v rfl ((Rl_tag hM rt72 (by decide)).trans js23)) hh35 (k_Parser_next hM h) (fun M μ12 hM h => ?_) (fun _ _ _ _ f => f.elim)
    refine L_ps c35 (n := 2) (pc1 := 95) (ls1 := [jR 72, jI v1]) (st1 := [jI 4, jR 72]) rfl ?_
    refine L_cB (c35 95 rfl) (js_v rfl ((Rl_tag hM rt72 (by decide)).trans js42)) hh35 (k_Parser_readDigit hM h) (fun r13 M μ14 hM h => ?_) (fun _ _ _ _ f => f.elim)
    refine L_br (p1 := 103) (p2 := 101) (c35 98 rfl) rfl jc_neb h (fun h => ?_) (fun h => ?_)
    · refine L_ps c35 (n := 1) (pc1 := 104) (ls1 := [jR 72, jI v1]) (st1 := [jR 72]) rfl ?_
      refine L_getP (d := 1) (c35 104 rfl) hM rt72 rfl ?_
      refine L_ps c35 (n := 1) (pc1 := 108) (ls1 := [jR 72, jI v1]) (st1 := [jR 72, jR 73]) rfl ?_
      refine L_cpI (c35 108 rfl) (js_v rfl ((Rl_tag hM rt72 (by decide)).trans js43)) hh35 (k_Parser_digit hM h) (fun r15 M hM h => ?_) (fun _ _ _ _ f => f.elim)
      refine L_cV (c35 111 rfl) (js_v rfl ((Rl_tag hM rt73 (by decide)).trans js44)) hh35 (k_Signature_finish rt73 hM h) (fun M μ18 hM h => ?_) (fun _ _ _ _ f => f.elim)
      refine L_ps c35 (n := 1) (pc1 := 115) (ls1 := [jR 72, jI v1]) (st1 := [jR 72]) rfl ?_
      refine L_cV (c35 115 rfl) (js_v rfl ((Rl_tag hM rt72 (by decide)).trans js23)) hh35 (k_Parser_next hM h) (fun M μ20 hM h => ?_) (fun _ _ _ _ f => f.elim)
      refine L_ps c35 (n := 1) (pc1 := 119) (ls1 := [jR 72, jI v1]) (st1 := [jI 1]) rfl ?_
      exact L_retB (c35 119 rfl) (Or.inr rfl) (hQ true _ _ hM h)
    · refine L_ps c35 (n := 1) (pc1 := 102) (ls1 := [jR 72, jI v1]) (st1 := [jI 0]) rfl ?_
      exact L_retB (c35 102 rfl) (Or.inl rfl) (hQ false _ _ hM h)
theorem k_Parser_readSymbol_l63 {E : JE2} {v1 : Int} {μ : Mem} {M : JM} {P : JO → JM → Prop} {Q : Bool → Mem → Prop} (hM : Rl E M μ) (hQ : ∀ (r : Bool) (M1 : JM) (μ1 : Mem), Rl E M1 μ1 → Q r μ1 → P (.inl (some (.inl (b2i r)))) M1) (h : d_Parser_readSymbol_l63 v1 μ Q) : JX 35 63 [jR 72, jI v1] [] M P := by
  refine h (fun v1 μ => ∀ (M : JM), Rl E M μ → JX 35 63 [jR 72, jI v1] [] M P) ?_ _ hM
  intro v1 μ h M hM
  exact k_Parser_readSymbol_b63 hM hQ (fun v1 M μ hM h => h M hM) h
theorem k_Parser_readSymbol {E : JE2} {μ : Mem} {M : JM} {Q : Bool → Mem → Prop} (hM : Rl E M μ) (h : d_Parser_readSymbol μ Q) : JX 35 0 (jargs 35 [jR 72]) [] M (PO E (QB Q) XN) := by
  unfold d_Parser_readSymbol at h
  show JX 35 0 [jR 72, jU] [] M (PO E (QB Q) XN)
  generalize hP : PO E (QB Q) XN = P
  have hQ : ∀ (r : Bool) (M1 : JM) (μ1 : Mem), Rl E M1 μ1 → Q r μ1 → P (.inl (some (.inl (b2i r)))) M1 := by rw [← hP]; exact fun r M1 μ1 a b => ⟨μ1, a, r, rfl, b⟩
  clear hP
  refine L_ps c35 (n := 1) (pc1 := 1) (ls1 := [jR 72, jU]) (st1 := [jR 72]) rfl ?_
  refine L_getP (d := 1) (c35 1 rfl) hM rt72 rfl ?_
  refine L_getI (c35 4 rfl) hM rt73 rfl ?_
  refine L_ps c35 (n := 1) (pc1 := 9) (ls1 := [jR 72, jU]) (st1 := [jI 8, jI (μ 73 0)]) rfl ?_
  refine L_br (p1 := 18) (p2 := 12) (c35 9 rfl) rfl jc_lt h (fun h => ?_) (fun h => ?_)
  · refine L_ps c35 (n := 1) (pc1 := 19) (ls1 := [jR 72, jU]) (st1 := [jR 72]) rfl ?_
    refine L_cV (c35 19 rfl) (js_v rfl ((Rl_tag hM rt72 (by decide)).trans js23)) hh35 (k_Parser_next hM h) (fun M μ2 hM h => ?_) (fun _ _ _ _ f => f.elim)
    refine L_ps c35 (n := 1) (pc1 := 23) (ls1 := [jR 72, jU]) (st1 := [jR 72]) rfl ?_
    refine L_getI (c35 23 rfl) hM rt72 rfl ?_
    refine L_ps c35 (n := 1) (pc1 := 28) (ls1 := [jR 72, jU]) (st1 := [jI 97, jI (μ2 72 9)]) rfl ?_
    refine L_br (p1 := 37) (p2 := 31) (c35 28 rfl) rfl jc_eq h (fun h => ?_) (fun h => ?_)
    · refine L_ps c35 (n := 1) (pc1 := 38) (ls1 := [jR 72, jU]) (st1 := [jR 72]) rfl ?_
      refine L_cpI (c35 38 rfl) (js_v rfl ((Rl_tag hM rt72 (by decide)).trans js36)) hh35 (k_Parser_symbolOfWord hM h) (fun r3 M hM h => ?_) (fun _ _ _ _ f => f.elim)
      refine L_ps c35 (n := 1) (pc1 := 42) (ls1 := [jR 72, jU]) (st1 := [jI (-1), jI r3]) rfl ?_
      refine L_br (p1 := 51) (p2 := 45) (c35 42 rfl) rfl jc_eq h (fun h => ?_) (fun h => ?_)
      · refine L_ps c35 (n := 1) (pc1 := 52) (ls1 := [jR 72, jU]) (st1 := [jR 72]) rfl ?_
        refine L_getP (d := 1) (c35 52 rfl) hM rt72 rfl ?_
        refine L_cV (c35 55 rfl) (js_v rfl ((Rl_tag hM rt73 (by decide)).trans js40)) hh35 (k_Signature_begin rt73 hM h) (fun M μ6 hM h => ?_) (fun _ _ _ _ f => f.elim)
        refine L_ps c35 (n := 1) (pc1 := 59) (ls1 := [jR 72, jU]) (st1 := [jR 72]) rfl ?_
        refine L_getI (c35 59 rfl) hM rt72 rfl ?_
        refine L_ps c35 (n := 1) (pc1 := 63) (ls1 := [jR 72, jI (μ6 72 10)]) (st1 := []) rfl ?_
        exact k_Parser_readSymbol_l63 hM hQ h
      · refine L_ps c35 (n := 2) (pc1 := 47) (ls1 := [jR 72, jU]) (st1 := [jI 3, jR 72]) rfl ?_
        refine L_cB (c35 47 rfl) (js_v rfl ((Rl_tag hM rt72 (by decide)).trans js34)) hh35 (k_Parser_fail hM h) (fun r21 M μ22 hM h => ?_) (fun _ _ _ _ f => f.elim)
        exact L_retB (c35 50 rfl) (bz_b _) (hQ _ _ _ hM h)
    · refine L_ps c35 (n := 2) (pc1 := 33) (ls1 := [jR 72, jU]) (st1 := [jI 1, jR 72]) rfl ?_
      refine L_cB (c35 33 rfl) (js_v rfl ((Rl_tag hM rt72 (by decide)).trans js34)) hh35 (k_Parser_fail hM h) (fun r23 M μ24 hM h => ?_) (fun _ _ _ _ f => f.elim)
      exact L_retB (c35 36 rfl) (bz_b _) (hQ _ _ _ hM h)
  · refine L_ps c35 (n := 2) (pc1 := 14) (ls1 := [jR 72, jU]) (st1 := [jI 5, jR 72]) rfl ?_
    refine L_cB (c35 14 rfl) (js_v rfl ((Rl_tag hM rt72 (by decide)).trans js34)) hh35 (k_Parser_fail hM h) (fun r25 M μ26 hM h => ?_) (fun _ _ _ _ f => f.elim)
    exact L_retB (c35 17 rfl) (bz_b _) (hQ _ _ _ hM h)
theorem k_State_rule {E : JE2} {v0 : Nat} {v1 : Int} {μ : Mem} {M : JM} {Q : Nat → Prop} (hv0 : rt v0 = 7) (hM : Rl E M μ) (h : d_State_rule v0 v1 μ Q) : JX 46 0 (jargs 46 [jR v0, jI v1]) [] M (PO E (pQR μ 5 Q) XN) := by
  unfold d_State_rule at h
  show JX 46 0 [jR v0, jI v1, jU] [] M (PO E (pQR μ 5 Q) XN)
  generalize hP : PO E (pQR μ 5 Q) XN = P
  have hQ : ∀ (r : Nat) (M1 : JM), Rl E M1 μ → rt r = 5 → Q r → P (.inl (some (.inr (.inl r)))) M1 := by rw [← hP]; exact fun r M1 a c b => ⟨μ, a, rfl, r, rfl, c, b⟩
  clear hP
  refine L_ps c46 (n := 1) (pc1 := 1) (ls1 := [jR v0, jI v1, jU]) (st1 := [jI v1]) rfl ?_
  refine L_br (p1 := 13) (p2 := 4) (c46 1 rfl) rfl jc_lt h (fun h => ?_) (fun h => ?_)
  · refine L_ps c46 (n := 1) (pc1 := 14) (ls1 := [jR v0, jI v1, jU]) (st1 := [jR v0]) rfl ?_
    refine L_getP (d := 3) (c46 14 rfl) hM hv0 rfl ?_
    exact L_end (c46 17 rfl) rfl (hQ _ _ hM (rp_7_3 hv0) h)
  · refine L_ps c46 (n := 2) (pc1 := 6) (ls1 := [jR v0, jI v1, jU]) (st1 := [jR v0, jI v1]) rfl ?_
    refine L_getP (d := 1) (c46 6 rfl) hM hv0 rfl ?_
    refine L_alen (n := 6) (z := 6) (c46 9 rfl) hM (rp_7_1 hv0) (by decide) (le_110 (rp_7_1 hv0)) (by decide) rfl ?_
    refine L_br (p1 := 18) (p2 := 13) (c46 10 rfl) rfl jc_lt h (fun h => ?_) (fun h => ?_)
    · refine L_ps c46 (n := 1) (pc1 := 19) (ls1 := [jR v0, jI v1, jU]) (st1 := [jR v0]) rfl ?_
      refine L_getP (d := 1) (c46 19 rfl) hM hv0 rfl ?_
      refine L_ps c46 (n := 1) (pc1 := 23) (ls1 := [jR v0, jI v1, jU]) (st1 := [jI v1, jR (v0 + 1)]) rfl ?_
      obtain ⟨hb, h⟩ := h
      have e1 : rt (v0 + 1 + (9 + 5 * v1.toNat)) = 5 := re_110 (rp_7_1 hv0) (by omega)
      refine L_aald (c46 23 rfl) hM (rp_7_1 hv0) (by decide) (le_110 (rp_7_1 hv0)) hb rfl ?_
      refine L_ps c46 (n := 4) (pc1 := 37) (ls1 := [jR v0, jI v1, jR (v0 + 1 + (9 + 5 * v1.toNat))]) (st1 := [jR (v0 + 1 + (9 + 5 * v1.toNat))]) rfl ?_
      exact L_end (c46 37 rfl) rfl (hQ _ _ hM e1 h)
    · refine L_ps c46 (n := 1) (pc1 := 14) (ls1 := [jR v0, jI v1, jU]) (st1 := [jR v0]) rfl ?_
      refine L_getP (d := 3) (c46 14 rfl) hM hv0 rfl ?_
      exact L_end (c46 17 rfl) rfl (hQ _ _ hM (rp_7_3 hv0) h)
theorem k_Term_clear {E : JE2} {v0 : Nat} {μ : Mem} {M : JM} {Q : Mem → Prop} (hv0 : rt v0 = 8) (hM : Rl E M μ) (h : d_Term_clear v0 μ Q) : JX 48 0 (jargs 48 [jR v0]) [] M (PO E (QV Q) XN) := by
  unfold d_Term_clear at h
  show JX 48 0 [jR v0] [] M (PO E (QV Q) XN)
  generalize hP : PO E (QV Q) XN = P
  have hQ : ∀ (M1 : JM) (μ1 : Mem), Rl E M1 μ1 → Q μ1 → P (.inl none) M1 := by rw [← hP]; exact fun M1 μ1 a b => ⟨μ1, a, rfl, b⟩
  clear hP
  refine L_ps c48 (n := 2) (pc1 := 2) (ls1 := [jR v0]) (st1 := [jI 0, jR v0]) rfl ?_
  refine L_putI (c48 2 rfl) hM hv0 rfl (fun M hM => ?_)
  exact L_end (c48 5 rfl) rfl (hQ _ _ hM h)
theorem k_Term_variableNode {E : JE2} {v0 : Int} {μ : Mem} {M : JM} {Q : Int → Prop} (hM : Rl E M μ) (h : d_Term_variableNode v0 μ Q) : JX 51 0 (jargs 51 [jI v0]) [] M (PO E (pQI μ Q) XN) := by
  unfold d_Term_variableNode at h
  show JX 51 0 [jI v0] [] M (PO E (pQI μ Q) XN)
  generalize hP : PO E (pQI μ Q) XN = P
  have hQ : ∀ (r : Int) (M1 : JM), Rl E M1 μ → Q r → P (.inl (some (.inl r))) M1 := by rw [← hP]; exact fun r M1 a b => ⟨μ, a, rfl, r, rfl, b⟩
  clear hP
  refine L_ps c51 (n := 3) (pc1 := 3) (ls1 := [jI v0]) (st1 := [jI (wr ((-1) - v0))]) rfl ?_
  exact L_retI (c51 3 rfl) (hQ _ _ hM h)
theorem k_Parser_variableOfToken {E : JE2} {μ : Mem} {M : JM} {Q : Int → Prop} (hM : Rl E M μ) (h : d_Parser_variableOfToken μ Q) : JX 50 0 (jargs 50 [jR 72]) [] M (PO E (pQI μ Q) XN) := by
  unfold d_Parser_variableOfToken at h
  show JX 50 0 [jR 72] [] M (PO E (pQI μ Q) XN)
  generalize hP : PO E (pQI μ Q) XN = P
  have hQ : ∀ (r : Int) (M1 : JM), Rl E M1 μ → Q r → P (.inl (some (.inl r))) M1 := by rw [← hP]; exact fun r M1 a b => ⟨μ, a, rfl, r, rfl, b⟩
  clear hP
  refine L_ps c50 (n := 2) (pc1 := 2) (ls1 := [jR 72]) (st1 := [jR 72, jR 72]) rfl ?_
  refine L_getI (c50 2 rfl) hM rt72 rfl ?_
  refine L_cpI (c50 5 rfl) (js_v rfl ((Rl_tag hM rt72 (by decide)).trans js24)) hh50 (k_Parser_byteAt hM h) (fun r1 M hM h => ?_) (fun _ _ _ _ f => f.elim)
  refine L_ps c50 (n := 2) (pc1 := 11) (ls1 := [jR 72]) (st1 := [jI (wr (r1 - 65))]) rfl ?_
  refine L_cpI (c50 11 rfl) (js_t rfl) hh50 (k_Term_variableNode hM h) (fun r3 M hM h => ?_) (fun _ _ _ _ f => f.elim)
  exact L_retI (c50 14 rfl) (hQ _ _ hM h)
theorem k_Term_get {E : JE2} {v0 : Nat} {v1 : Int} {μ : Mem} {M : JM} {Q : Int → Prop} (hv0 : rt v0 = 8) (hM : Rl E M μ) (h : d_Term_get v0 v1 μ Q) : JX 53 0 (jargs 53 [jR v0, jI v1]) [] M (PO E (pQI μ Q) XN) := by
  unfold d_Term_get at h
  show JX 53 0 [jR v0, jI v1] [] M (PO E (pQI μ Q) XN)
  generalize hP : PO E (pQI μ Q) XN = P
  have hQ : ∀ (r : Int) (M1 : JM), Rl E M1 μ → Q r → P (.inl (some (.inl r))) M1 := by rw [← hP]; exact fun r M1 a b => ⟨μ, a, rfl, r, rfl, b⟩
  clear hP
  refine L_ps c53 (n := 1) (pc1 := 1) (ls1 := [jR v0, jI v1]) (st1 := [jI v1]) rfl ?_
  refine L_br (p1 := 30) (p2 := 4) (c53 1 rfl) rfl jc_lt h (fun h => ?_) (fun h => ?_)
  · refine L_ps c53 (n := 1) (pc1 := 32) (ls1 := [jR v0, jI v1]) (st1 := [jI (-2147483648)]) rfl ?_
    exact L_retI (c53 32 rfl) (hQ _ _ hM h)
  · refine L_ps c53 (n := 2) (pc1 := 6) (ls1 := [jR v0, jI v1]) (st1 := [jR v0, jI v1]) rfl ?_
    refine L_getI (c53 6 rfl) hM hv0 rfl ?_
    refine L_nb (p1 := 30) (p2 := 12) (c53 9 rfl) rfl jc_ge h (fun h => ?_) (fun h => ?_)
    · refine L_ps c53 (n := 2) (pc1 := 14) (ls1 := [jR v0, jI v1]) (st1 := [jR v0, jI v1]) rfl ?_
      refine L_getP (d := 1) (c53 14 rfl) hM hv0 rfl ?_
      refine L_alen (n := ln (v0 + 1)) (z := (ln (v0 + 1) : Int)) (c53 17 rfl) hM (rp_8_1 hv0) (by decide) rfl (ln_small _) rfl ?_
      refine L_nb (p1 := 30) (p2 := 21) (c53 18 rfl) rfl jc_ge h (fun h => ?_) (fun h => ?_)
      · refine L_ps c53 (n := 1) (pc1 := 22) (ls1 := [jR v0, jI v1]) (st1 := [jR v0]) rfl ?_
        refine L_getP (d := 1) (c53 22 rfl) hM hv0 rfl ?_
        refine L_ps c53 (n := 1) (pc1 := 26) (ls1 := [jR v0, jI v1]) (st1 := [jI v1, jR (v0 + 1)]) rfl ?_
        obtain ⟨hb, h⟩ := h
        refine L_iald (c53 26 rfl) hM (rp_8_1 hv0) rfl hb ?_
        refine L_ps c53 (n := 1) (pc1 := 32) (ls1 := [jR v0, jI v1]) (st1 := [jI (μ (v0 + 1) v1.toNat)]) rfl ?_
        exact L_retI (c53 32 rfl) (hQ _ _ hM h)
      · refine L_ps c53 (n := 1) (pc1 := 32) (ls1 := [jR v0, jI v1]) (st1 := [jI (-2147483648)]) rfl ?_
        exact L_retI (c53 32 rfl) (hQ _ _ hM h)
    · refine L_ps c53 (n := 1) (pc1 := 32) (ls1 := [jR v0, jI v1]) (st1 := [jI (-2147483648)]) rfl ?_
      exact L_retI (c53 32 rfl) (hQ _ _ hM h)
theorem k_Term_count_j24 {E : JE2} {v0 : Nat} {v1 : Int} {v2 : Int} {v3 : Int} {μ : Mem} {M : JM} {P : JO → JM → Prop} {W4 : Int → Int → Prop} {Q : Int → Prop} (hv0 : rt v0 = 8) (hM : Rl E M μ) (hQ : ∀ (r : Int) (M1 : JM), Rl E M1 μ → Q r → P (.inl (some (.inl r))) M1) (hW4 : ∀ (v2 : Int) (v3 : Int) (M1 : JM), Rl E M1 μ → W4 v2 v3 → JX 52 4 [jR v0, jI v1, jI v2, jI v3] [] M1 P) (h : d_Term_count_j24 v0 v1 v2 v3 μ W4 Q) : JX 52 24 [jR v0, jI v1, jI v2, jI v3] [] M P := by
  unfold d_Term_count_j24 at h
  refine L_ps c52 (n := 2) (pc1 := 4) (ls1 := [jR v0, jI v1, jI v2, jI (wr (v3 + 1))]) (st1 := []) rfl ?_
  exact hW4 _ _ _ hM h
theorem k_Term_count_b4 {E : JE2} {v0 : Nat} {v1 : Int} {v2 : Int} {v3 : Int} {μ : Mem} {M : JM} {P : JO → JM → Prop} {W4 : Int → Int → Prop} {Q : Int → Prop} (hv0 : rt v0 = 8) (hM : Rl E M μ) (hQ : ∀ (r : Int) (M1 : JM), Rl E M1 μ → Q r → P (.inl (some (.inl r))) M1) (hW4 : ∀ (v2 : Int) (v3 : Int) (M1 : JM), Rl E M1 μ → W4 v2 v3 → JX 52 4 [jR v0, jI v1, jI v2, jI v3] [] M1 P) (h : d_Term_count_b4 v0 v1 v2 v3 μ W4 Q) : JX 52 4 [jR v0, jI v1, jI v2, jI v3] [] M P := by
  unfold d_Term_count_b4 at h
  refine L_ps c52 (n := 2) (pc1 := 6) (ls1 := [jR v0, jI v1, jI v2, jI v3]) (st1 := [jR v0, jI v3]) rfl ?_
  refine L_getI (c52 6 rfl) hM hv0 rfl ?_
  refine L_nb (p1 := 30) (p2 := 12) (c52 9 rfl) rfl jc_ge h (fun h => ?_) (fun h => ?_)
  · refine L_ps c52 (n := 2) (pc1 := 14) (ls1 := [jR v0, jI v1, jI v2, jI v3]) (st1 := [jI v3, jR v0]) rfl ?_
    refine L_cpI (c52 14 rfl) (js_v rfl ((Rl_tag hM hv0 (by decide)).trans js53)) hh52 (k_Term_get hv0 hM h) (fun r1 M hM h => ?_) (fun _ _ _ _ f => f.elim)
    refine L_ps c52 (n := 1) (pc1 := 18) (ls1 := [jR v0, jI v1, jI v2, jI v3]) (st1 := [jI v1, jI r1]) rfl ?_
    refine L_nb (p1 := 24) (p2 := 21) (c52 18 rfl) rfl jc_ne h (fun h => ?_) (fun h => ?_)
    · refine L_ps c52 (n := 1) (pc1 := 24) (ls1 := [jR v0, jI v1, jI (wr (v2 + 1)), jI v3]) (st1 := []) rfl ?_
      exact k_Term_count_j24 hv0 hM hQ hW4 h
    · exact k_Term_count_j24 hv0 hM hQ hW4 h
  · refine L_ps c52 (n := 1) (pc1 := 31) (ls1 := [jR v0, jI v1, jI v2, jI v3]) (st1 := [jI v2]) rfl ?_
    exact L_retI (c52 31 rfl) (hQ _ _ hM h)
theorem k_Term_count_l4 {E : JE2} {v0 : Nat} {v1 : Int} {v2 : Int} {v3 : Int} {μ : Mem} {M : JM} {P : JO → JM → Prop} {Q : Int → Prop} (hv0 : rt v0 = 8) (hM : Rl E M μ) (hQ : ∀ (r : Int) (M1 : JM), Rl E M1 μ → Q r → P (.inl (some (.inl r))) M1) (h : d_Term_count_l4 v0 v1 v2 v3 μ Q) : JX 52 4 [jR v0, jI v1, jI v2, jI v3] [] M P := by
  refine h (fun v2 v3 => ∀ (M : JM), Rl E M μ → JX 52 4 [jR v0, jI v1, jI v2, jI v3] [] M P) ?_ _ hM
  intro v2 v3 h M hM
  exact k_Term_count_b4 hv0 hM hQ (fun v2 v3 M hM h => h M hM) h
theorem k_Term_count {E : JE2} {v0 : Nat} {v1 : Int} {μ : Mem} {M : JM} {Q : Int → Prop} (hv0 : rt v0 = 8) (hM : Rl E M μ) (h : d_Term_count v0 v1 μ Q) : JX 52 0 (jargs 52 [jR v0, jI v1]) [] M (PO E (pQI μ Q) XN) := by
  unfold d_Term_count at h
  show JX 52 0 [jR v0, jI v1, jU, jU] [] M (PO E (pQI μ Q) XN)
  generalize hP : PO E (pQI μ Q) XN = P
  have hQ : ∀ (r : Int) (M1 : JM), Rl E M1 μ → Q r → P (.inl (some (.inl r))) M1 := by rw [← hP]; exact fun r M1 a b => ⟨μ, a, rfl, r, rfl, b⟩
  clear hP
  refine L_ps c52 (n := 4) (pc1 := 4) (ls1 := [jR v0, jI v1, jI 0, jI 0]) (st1 := []) rfl ?_
  exact k_Term_count_l4 hv0 hM hQ h
theorem k_Parser_faultOfNode_j105 {E : JE2} {v1 : Nat} {v2 : Int} {μ : Mem} {M : JM} {P : JO → JM → Prop} {g0 : JV} {g3 : JV} {Q : Int → Prop} (hv1 : rt v1 = 8) (hM : Rl E M μ) (hQ : ∀ (r : Int) (M1 : JM), Rl E M1 μ → Q r → P (.inl (some (.inl r))) M1) (h : d_Parser_faultOfNode_j105 v1 v2 μ Q) : JX 49 105 [g0, jR v1, jI v2, g3] [] M P := by
  unfold d_Parser_faultOfNode_j105 at h
  refine L_ps c49 (n := 1) (pc1 := 106) (ls1 := [g0, jR v1, jI v2, g3]) (st1 := [jR v1]) rfl ?_
  refine L_getI (c49 106 rfl) hM hv1 rfl ?_
  refine L_ps c49 (n := 1) (pc1 := 110) (ls1 := [g0, jR v1, jI v2, g3]) (st1 := [jI v2, jI (μ v1 1)]) rfl ?_
  refine L_br (p1 := 117) (p2 := 113) (c49 110 rfl) rfl jc_lt h (fun h => ?_) (fun h => ?_)
  · refine L_ps c49 (n := 1) (pc1 := 118) (ls1 := [g0, jR v1, jI v2, g3]) (st1 := [jI 0]) rfl ?_
    exact L_retI (c49 118 rfl) (hQ _ _ hM h)
  · refine L_ps c49 (n := 2) (pc1 := 118) (ls1 := [g0, jR v1, jI v2, g3]) (st1 := [jI 5]) rfl ?_
    exact L_retI (c49 118 rfl) (hQ _ _ hM h)
theorem k_Parser_faultOfNode_j62 {E : JE2} {v1 : Nat} {v2 : Int} {v3 : Int} {μ : Mem} {M : JM} {P : JO → JM → Prop} {Q : Int → Prop} (hv1 : rt v1 = 8) (hM : Rl E M μ) (hQ : ∀ (r : Int) (M1 : JM), Rl E M1 μ → Q r → P (.inl (some (.inl r))) M1) (h : d_Parser_faultOfNode_j62 v1 v2 v3 μ Q) : JX 49 62 [jR 72, jR v1, jI v2, jI v3] [] M P := by
  unfold d_Parser_faultOfNode_j62 at h
  refine L_ps c49 (n := 1) (pc1 := 63) (ls1 := [jR 72, jR v1, jI v2, jI v3]) (st1 := [jR 72]) rfl ?_
  refine L_getI (c49 63 rfl) hM rt72 rfl ?_
  refine L_ps c49 (n := 1) (pc1 := 68) (ls1 := [jR 72, jR v1, jI v2, jI v3]) (st1 := [jI 65, jI (μ 72 9)]) rfl ?_
  refine L_nb (p1 := 105) (p2 := 71) (c49 68 rfl) rfl jc_ne h (fun h => ?_) (fun h => ?_)
  · refine L_ps c49 (n := 2) (pc1 := 73) (ls1 := [jR 72, jR v1, jI v2, jI v3]) (st1 := [jI 2, jI v3]) rfl ?_
    refine L_nb (p1 := 105) (p2 := 76) (c49 73 rfl) rfl jc_ne h (fun h => ?_) (fun h => ?_)
    · refine L_ps c49 (n := 1) (pc1 := 77) (ls1 := [jR 72, jR v1, jI v2, jI v3]) (st1 := [jR 72]) rfl ?_
      refine L_getP (d := 5) (c49 77 rfl) hM rt72 rfl ?_
      refine L_ps c49 (n := 1) (pc1 := 81) (ls1 := [jR 72, jR v1, jI v2, jI v3]) (st1 := [jR 72, jR 77]) rfl ?_
      refine L_getP (d := 5) (c49 81 rfl) hM rt72 rfl ?_
      refine L_getI (c49 84 rfl) hM rt77 rfl ?_
      refine L_cpR (c49 87 rfl) (js_v rfl ((Rl_tag hM rt77 (by decide)).trans js46)) hh49 (k_State_rule rt77 hM h) (fun r3 M hM hr3 h => ?_) (fun _ _ _ _ f => f.elim)
      refine L_getD (c49 90 rfl) hM hr3 (by decide) ?_
      refine L_ps c49 (n := 1) (pc1 := 94) (ls1 := [jR 72, jR v1, jI v2, jI v3]) (st1 := [jR 72, jR (dp (μ r3 0))]) rfl ?_
      refine L_cpI (c49 94 rfl) (js_v rfl ((Rl_tag hM rt72 (by decide)).trans js50)) hh49 (k_Parser_variableOfToken hM h) (fun r5 M hM h => ?_) (fun _ _ _ _ f => f.elim)
      refine L_cpI (c49 97 rfl) (js_v rfl ((Rl_tag hM (dp_rt _) (by decide)).trans js52)) hh49 (k_Term_count (dp_rt _) hM h) (fun r7 M hM h => ?_) (fun _ _ _ _ f => f.elim)
      refine L_nb (p1 := 105) (p2 := 103) (c49 100 rfl) rfl jc_ne h (fun h => ?_) (fun h => ?_)
      · refine L_ps c49 (n := 1) (pc1 := 104) (ls1 := [jR 72, jR v1, jI v2, jI v3]) (st1 := [jI 4]) rfl ?_
        exact L_retI (c49 104 rfl) (hQ _ _ hM h)
      · exact k_Parser_faultOfNode_j105 hv1 hM hQ h
    · exact k_Parser_faultOfNode_j105 hv1 hM hQ h
  · exact k_Parser_faultOfNode_j105 hv1 hM hQ h
theorem k_Parser_faultOfNode_j39 {E : JE2} {v1 : Nat} {v2 : Int} {v3 : Int} {μ : Mem} {M : JM} {P : JO → JM → Prop} {Q : Int → Prop} (hv1 : rt v1 = 8) (hM : Rl E M μ) (hQ : ∀ (r : Int) (M1 : JM), Rl E M1 μ → Q r → P (.inl (some (.inl r))) M1) (h : d_Parser_faultOfNode_j39 v1 v2 v3 μ Q) : JX 49 39 [jR 72, jR v1, jI v2, jI v3] [] M P := by
  unfold d_Parser_faultOfNode_j39 at h
  refine L_ps c49 (n := 1) (pc1 := 40) (ls1 := [jR 72, jR v1, jI v2, jI v3]) (st1 := [jR 72]) rfl ?_
  refine L_getI (c49 40 rfl) hM rt72 rfl ?_
  refine L_ps c49 (n := 1) (pc1 := 45) (ls1 := [jR 72, jR v1, jI v2, jI v3]) (st1 := [jI 65, jI (μ 72 9)]) rfl ?_
  refine L_nb (p1 := 62) (p2 := 48) (c49 45 rfl) rfl jc_ne h (fun h => ?_) (fun h => ?_)
  · refine L_ps c49 (n := 2) (pc1 := 50) (ls1 := [jR 72, jR v1, jI v2, jI v3]) (st1 := [jI 1, jI v3]) rfl ?_
    refine L_nb (p1 := 62) (p2 := 53) (c49 50 rfl) rfl jc_ne h (fun h => ?_) (fun h => ?_)
    · refine L_ps c49 (n := 1) (pc1 := 54) (ls1 := [jR 72, jR v1, jI v2, jI v3]) (st1 := [jR v1]) rfl ?_
      refine L_getI (c49 54 rfl) hM hv1 rfl ?_
      refine L_nb (p1 := 62) (p2 := 60) (c49 57 rfl) rfl jc_ne h (fun h => ?_) (fun h => ?_)
      · refine L_ps c49 (n := 1) (pc1 := 61) (ls1 := [jR 72, jR v1, jI v2, jI v3]) (st1 := [jI 4]) rfl ?_
        exact L_retI (c49 61 rfl) (hQ _ _ hM h)
      · exact k_Parser_faultOfNode_j62 hv1 hM hQ h
    · exact k_Parser_faultOfNode_j62 hv1 hM hQ h
  · exact k_Parser_faultOfNode_j62 hv1 hM hQ h
theorem k_Parser_faultOfNode_j20 {E : JE2} {v1 : Nat} {v2 : Int} {v3 : Int} {μ : Mem} {M : JM} {P : JO → JM → Prop} {Q : Int → Prop} (hv1 : rt v1 = 8) (hM : Rl E M μ) (hQ : ∀ (r : Int) (M1 : JM), Rl E M1 μ → Q r → P (.inl (some (.inl r))) M1) (h : d_Parser_faultOfNode_j20 v1 v2 v3 μ Q) : JX 49 20 [jR 72, jR v1, jI v2, jI v3] [] M P := by
  unfold d_Parser_faultOfNode_j20 at h
  refine L_ps c49 (n := 1) (pc1 := 21) (ls1 := [jR 72, jR v1, jI v2, jI v3]) (st1 := [jR 72]) rfl ?_
  refine L_getI (c49 21 rfl) hM rt72 rfl ?_
  refine L_ps c49 (n := 1) (pc1 := 26) (ls1 := [jR 72, jR v1, jI v2, jI v3]) (st1 := [jI 97, jI (μ 72 9)]) rfl ?_
  refine L_nb (p1 := 39) (p2 := 29) (c49 26 rfl) rfl jc_ne h (fun h => ?_) (fun h => ?_)
  · refine L_ps c49 (n := 1) (pc1 := 30) (ls1 := [jR 72, jR v1, jI v2, jI v3]) (st1 := [jR 72]) rfl ?_
    refine L_cpI (c49 30 rfl) (js_v rfl ((Rl_tag hM rt72 (by decide)).trans js36)) hh49 (k_Parser_symbolOfWord hM h) (fun r1 M hM h => ?_) (fun _ _ _ _ f => f.elim)
    refine L_ps c49 (n := 1) (pc1 := 34) (ls1 := [jR 72, jR v1, jI v2, jI v3]) (st1 := [jI (-1), jI r1]) rfl ?_
    refine L_nb (p1 := 39) (p2 := 37) (c49 34 rfl) rfl jc_ne h (fun h => ?_) (fun h => ?_)
    · refine L_ps c49 (n := 1) (pc1 := 38) (ls1 := [jR 72, jR v1, jI v2, jI v3]) (st1 := [jI 3]) rfl ?_
      exact L_retI (c49 38 rfl) (hQ _ _ hM h)
    · exact k_Parser_faultOfNode_j39 hv1 hM hQ h
  · exact k_Parser_faultOfNode_j39 hv1 hM hQ h
theorem k_Parser_faultOfNode {E : JE2} {v1 : Nat} {v2 : Int} {v3 : Int} {μ : Mem} {M : JM} {Q : Int → Prop} (hv1 : rt v1 = 8) (hM : Rl E M μ) (h : d_Parser_faultOfNode v1 v2 v3 μ Q) : JX 49 0 (jargs 49 [jR 72, jR v1, jI v2, jI v3]) [] M (PO E (pQI μ Q) XN) := by
  unfold d_Parser_faultOfNode at h
  show JX 49 0 [jR 72, jR v1, jI v2, jI v3] [] M (PO E (pQI μ Q) XN)
  generalize hP : PO E (pQI μ Q) XN = P
  have hQ : ∀ (r : Int) (M1 : JM), Rl E M1 μ → Q r → P (.inl (some (.inl r))) M1 := by rw [← hP]; exact fun r M1 a b => ⟨μ, a, rfl, r, rfl, b⟩
  clear hP
  refine L_ps c49 (n := 1) (pc1 := 1) (ls1 := [jR 72, jR v1, jI v2, jI v3]) (st1 := [jR 72]) rfl ?_
  refine L_getI (c49 1 rfl) hM rt72 rfl ?_
  refine L_ps c49 (n := 1) (pc1 := 6) (ls1 := [jR 72, jR v1, jI v2, jI v3]) (st1 := [jI 97, jI (μ 72 9)]) rfl ?_
  refine L_br (p1 := 20) (p2 := 9) (c49 6 rfl) rfl jc_eq h (fun h => ?_) (fun h => ?_)
  · exact k_Parser_faultOfNode_j20 hv1 hM hQ h
  · refine L_ps c49 (n := 1) (pc1 := 10) (ls1 := [jR 72, jR v1, jI v2, jI v3]) (st1 := [jR 72]) rfl ?_
    refine L_getI (c49 10 rfl) hM rt72 rfl ?_
    refine L_ps c49 (n := 1) (pc1 := 15) (ls1 := [jR 72, jR v1, jI v2, jI v3]) (st1 := [jI 65, jI (μ 72 9)]) rfl ?_
    refine L_br (p1 := 20) (p2 := 18) (c49 15 rfl) rfl jc_eq h (fun h => ?_) (fun h => ?_)
    · exact k_Parser_faultOfNode_j20 hv1 hM hQ h
    · refine L_ps c49 (n := 1) (pc1 := 19) (ls1 := [jR 72, jR v1, jI v2, jI v3]) (st1 := [jI 1]) rfl ?_
      exact L_retI (c49 19 rfl) (hQ _ _ hM h)
theorem k_Signature_arity {E : JE2} {v0 : Nat} {v1 : Int} {μ : Mem} {M : JM} {Q : Int → Prop} (hv0 : rt v0 = 6) (hM : Rl E M μ) (h : d_Signature_arity v0 v1 μ Q) : JX 55 0 (jargs 55 [jR v0, jI v1]) [] M (PO E (pQI μ Q) XN) := by
  unfold d_Signature_arity at h
  show JX 55 0 [jR v0, jI v1] [] M (PO E (pQI μ Q) XN)
  generalize hP : PO E (pQI μ Q) XN = P
  have hQ : ∀ (r : Int) (M1 : JM), Rl E M1 μ → Q r → P (.inl (some (.inl r))) M1 := by rw [← hP]; exact fun r M1 a b => ⟨μ, a, rfl, r, rfl, b⟩
  clear hP
  refine L_ps c55 (n := 1) (pc1 := 1) (ls1 := [jR v0, jI v1]) (st1 := [jI v1]) rfl ?_
  refine L_br (p1 := 19) (p2 := 4) (c55 1 rfl) rfl jc_lt h (fun h => ?_) (fun h => ?_)
  · refine L_ps c55 (n := 1) (pc1 := 20) (ls1 := [jR v0, jI v1]) (st1 := [jI 0]) rfl ?_
    exact L_retI (c55 20 rfl) (hQ _ _ hM h)
  · refine L_ps c55 (n := 2) (pc1 := 7) (ls1 := [jR v0, jI v1]) (st1 := [jI 8, jI v1]) rfl ?_
    refine L_nb (p1 := 19) (p2 := 10) (c55 7 rfl) rfl jc_ge h (fun h => ?_) (fun h => ?_)
    · refine L_ps c55 (n := 1) (pc1 := 11) (ls1 := [jR v0, jI v1]) (st1 := [jR v0]) rfl ?_
      refine L_getP (d := 1) (c55 11 rfl) hM hv0 rfl ?_
      refine L_ps c55 (n := 1) (pc1 := 15) (ls1 := [jR v0, jI v1]) (st1 := [jI v1, jR (v0 + 1)]) rfl ?_
      obtain ⟨hb, h⟩ := h
      refine L_iald (c55 15 rfl) hM (rp_6_1 hv0) (lp_6_1 hv0) hb ?_
      refine L_ps c55 (n := 1) (pc1 := 20) (ls1 := [jR v0, jI v1]) (st1 := [jI (μ (v0 + 1) v1.toNat)]) rfl ?_
      exact L_retI (c55 20 rfl) (hQ _ _ hM h)
    · refine L_ps c55 (n := 1) (pc1 := 20) (ls1 := [jR v0, jI v1]) (st1 := [jI 0]) rfl ?_
      exact L_retI (c55 20 rfl) (hQ _ _ hM h)
theorem k_Term_symbolNode {E : JE2} {v0 : Int} {v1 : Int} {μ : Mem} {M : JM} {Q : Int → Prop} (hM : Rl E M μ) (h : d_Term_symbolNode v0 v1 μ Q) : JX 56 0 (jargs 56 [jI v0, jI v1]) [] M (PO E (pQI μ Q) XN) := by
  unfold d_Term_symbolNode at h
  show JX 56 0 [jI v0, jI v1] [] M (PO E (pQI μ Q) XN)
  generalize hP : PO E (pQI μ Q) XN = P
  have hQ : ∀ (r : Int) (M1 : JM), Rl E M1 μ → Q r → P (.inl (some (.inl r))) M1 := by rw [← hP]; exact fun r M1 a b => ⟨μ, a, rfl, r, rfl, b⟩
  clear hP
  refine L_ps c56 (n := 5) (pc1 := 5) (ls1 := [jI v0, jI v1]) (st1 := [jI (wr ((wr (4 * v0)) + v1))]) rfl ?_
  exact L_retI (c56 5 rfl) (hQ _ _ hM h)
theorem k_Parser_nodeOfToken {E : JE2} {μ : Mem} {M : JM} {Q : Int → Prop} (hM : Rl E M μ) (h : d_Parser_nodeOfToken μ Q) : JX 54 0 (jargs 54 [jR 72]) [] M (PO E (pQI μ Q) XN) := by
  unfold d_Parser_nodeOfToken at h
  show JX 54 0 [jR 72, jU] [] M (PO E (pQI μ Q) XN)
  generalize hP : PO E (pQI μ Q) XN = P
  have hQ : ∀ (r : Int) (M1 : JM), Rl E M1 μ → Q r → P (.inl (some (.inl r))) M1 := by rw [← hP]; exact fun r M1 a b => ⟨μ, a, rfl, r, rfl, b⟩
  clear hP
  refine L_ps c54 (n := 1) (pc1 := 1) (ls1 := [jR 72, jU]) (st1 := [jR 72]) rfl ?_
  refine L_getI (c54 1 rfl) hM rt72 rfl ?_
  refine L_ps c54 (n := 1) (pc1 := 6) (ls1 := [jR 72, jU]) (st1 := [jI 65, jI (μ 72 9)]) rfl ?_
  refine L_nb (p1 := 14) (p2 := 9) (c54 6 rfl) rfl jc_ne h (fun h => ?_) (fun h => ?_)
  · refine L_ps c54 (n := 1) (pc1 := 10) (ls1 := [jR 72, jU]) (st1 := [jR 72]) rfl ?_
    refine L_cpI (c54 10 rfl) (js_v rfl ((Rl_tag hM rt72 (by decide)).trans js50)) hh54 (k_Parser_variableOfToken hM h) (fun r1 M hM h => ?_) (fun _ _ _ _ f => f.elim)
    exact L_retI (c54 13 rfl) (hQ _ _ hM h)
  · refine L_ps c54 (n := 1) (pc1 := 15) (ls1 := [jR 72, jU]) (st1 := [jR 72]) rfl ?_
    refine L_cpI (c54 15 rfl) (js_v rfl ((Rl_tag hM rt72 (by decide)).trans js36)) hh54 (k_Parser_symbolOfWord hM h) (fun r3 M hM h => ?_) (fun _ _ _ _ f => f.elim)
    refine L_ps c54 (n := 3) (pc1 := 21) (ls1 := [jR 72, jI r3]) (st1 := [jR 72, jI r3]) rfl ?_
    refine L_getP (d := 1) (c54 21 rfl) hM rt72 rfl ?_
    refine L_ps c54 (n := 1) (pc1 := 25) (ls1 := [jR 72, jI r3]) (st1 := [jI r3, jR 73, jI r3]) rfl ?_
    refine L_cpI (c54 25 rfl) (js_v rfl ((Rl_tag hM rt73 (by decide)).trans js55)) hh54 (k_Signature_arity rt73 hM h) (fun r5 M hM h => ?_) (fun _ _ _ _ f => f.elim)
    refine L_cpI (c54 28 rfl) (js_t rfl) hh54 (k_Term_symbolNode hM h) (fun r7 M hM h => ?_) (fun _ _ _ _ f => f.elim)
    exact L_retI (c54 31 rfl) (hQ _ _ hM h)
theorem k_Term_add {E : JE2} {v0 : Nat} {v1 : Int} {μ : Mem} {M : JM} {Q : Bool → Mem → Prop} (hv0 : rt v0 = 8) (hM : Rl E M μ) (h : d_Term_add v0 v1 μ Q) : JX 57 0 (jargs 57 [jR v0, jI v1]) [] M (PO E (QB Q) XN) := by
  unfold d_Term_add at h
  show JX 57 0 [jR v0, jI v1] [] M (PO E (QB Q) XN)
  generalize hP : PO E (QB Q) XN = P
  have hQ : ∀ (r : Bool) (M1 : JM) (μ1 : Mem), Rl E M1 μ1 → Q r μ1 → P (.inl (some (.inl (b2i r)))) M1 := by rw [← hP]; exact fun r M1 μ1 a b => ⟨μ1, a, r, rfl, b⟩
  clear hP
  refine L_ps c57 (n := 1) (pc1 := 1) (ls1 := [jR v0, jI v1]) (st1 := [jR v0]) rfl ?_
  refine L_getI (c57 1 rfl) hM hv0 rfl ?_
  refine L_br (p1 := 19) (p2 := 7) (c57 4 rfl) rfl jc_lt h (fun h => ?_) (fun h => ?_)
  · refine L_ps c57 (n := 1) (pc1 := 20) (ls1 := [jR v0, jI v1]) (st1 := [jI 0]) rfl ?_
    exact L_retB (c57 20 rfl) (Or.inl rfl) (hQ false _ _ hM h)
  · refine L_ps c57 (n := 1) (pc1 := 8) (ls1 := [jR v0, jI v1]) (st1 := [jR v0]) rfl ?_
    refine L_getI (c57 8 rfl) hM hv0 rfl ?_
    refine L_ps c57 (n := 1) (pc1 := 12) (ls1 := [jR v0, jI v1]) (st1 := [jR v0, jI (μ v0 1)]) rfl ?_
    refine L_getP (d := 1) (c57 12 rfl) hM hv0 rfl ?_
    refine L_alen (n := ln (v0 + 1)) (z := (ln (v0 + 1) : Int)) (c57 15 rfl) hM (rp_8_1 hv0) (by decide) rfl (ln_small _) rfl ?_
    refine L_br (p1 := 21) (p2 := 19) (c57 16 rfl) rfl jc_lt h (fun h => ?_) (fun h => ?_)
    · refine L_ps c57 (n := 1) (pc1 := 22) (ls1 := [jR v0, jI v1]) (st1 := [jR v0]) rfl ?_
      refine L_getP (d := 1) (c57 22 rfl) hM hv0 rfl ?_
      refine L_ps c57 (n := 1) (pc1 := 26) (ls1 := [jR v0, jI v1]) (st1 := [jR v0, jR (v0 + 1)]) rfl ?_
      refine L_getI (c57 26 rfl) hM hv0 rfl ?_
      refine L_ps c57 (n := 1) (pc1 := 30) (ls1 := [jR v0, jI v1]) (st1 := [jI v1, jI (μ v0 1), jR (v0 + 1)]) rfl ?_
      obtain ⟨hb, h⟩ := h
      refine L_iast (c57 30 rfl) hM (rp_8_1 hv0) rfl hb (fun M hM => ?_)
      refine L_ps c57 (n := 2) (pc1 := 33) (ls1 := [jR v0, jI v1]) (st1 := [jR v0, jR v0]) rfl ?_
      refine L_getI (c57 33 rfl) hM hv0 rfl ?_
      refine L_ps c57 (n := 2) (pc1 := 38) (ls1 := [jR v0, jI v1]) (st1 := [jI (wr (((mup μ (v0 + 1) (μ v0 1).toNat v1) v0 1) + 1)), jR v0]) rfl ?_
      refine L_putI (c57 38 rfl) hM hv0 rfl (fun M hM => ?_)
      refine L_ps c57 (n := 1) (pc1 := 42) (ls1 := [jR v0, jI v1]) (st1 := [jI 1]) rfl ?_
      exact L_retB (c57 42 rfl) (Or.inr rfl) (hQ true _ _ hM h)
    · refine L_ps c57 (n := 1) (pc1 := 20) (ls1 := [jR v0, jI v1]) (st1 := [jI 0]) rfl ?_
      exact L_retB (c57 20 rfl) (Or.inl rfl) (hQ false _ _ hM h)
theorem k_Term_arityOf {E : JE2} {v0 : Int} {μ : Mem} {M : JM} {Q : Int → Prop} (hM : Rl E M μ) (h : d_Term_arityOf v0 μ Q) : JX 58 0 (jargs 58 [jI v0]) [] M (PO E (pQI μ Q) XN) := by
  unfold d_Term_arityOf at h
  show JX 58 0 [jI v0] [] M (PO E (pQI μ Q) XN)
  generalize hP : PO E (pQI μ Q) XN = P
  have hQ : ∀ (r : Int) (M1 : JM), Rl E M1 μ → Q r → P (.inl (some (.inl r))) M1 := by rw [← hP]; exact fun r M1 a b => ⟨μ, a, rfl, r, rfl, b⟩
  clear hP
  refine L_ps c58 (n := 1) (pc1 := 1) (ls1 := [jI v0]) (st1 := [jI v0]) rfl ?_
  refine L_nb (p1 := 8) (p2 := 4) (c58 1 rfl) rfl jc_ge h (fun h => ?_) (fun h => ?_)
  · refine L_ps c58 (n := 2) (pc1 := 11) (ls1 := [jI v0]) (st1 := [jI 0]) rfl ?_
    exact L_retI (c58 11 rfl) (hQ _ _ hM h)
  · refine L_ps c58 (n := 3) (pc1 := 11) (ls1 := [jI v0]) (st1 := [jI (jand v0 3)]) rfl ?_
    exact L_retI (c58 11 rfl) (hQ _ _ hM h)
theorem k_Parser_closeBrackets_j57 {E : JE2} {v2 : Int} {v3 : Int} {t0 : Int} {t1 : Int} {μ : Mem} {M : JM} {P : JO → JM → Prop} {g1 : JV} {W4 : Int → Mem → Prop} {Q : Int → Mem → Prop} (hg1 : jc2 g1 = false) (hM : Rl E M μ) (hQ : ∀ (r : Int) (M1 : JM) (μ1 : Mem), Rl E M1 μ1 → Q r μ1 → P (.inl (some (.inl r))) M1) (hW4 : ∀ (v2 : Int) (g1 : JV) (g3 : JV) (M1 : JM) (μ1 : Mem), jc2 g1 = false → Rl E M1 μ1 → W4 v2 μ1 → JX 59 4 [jR 72, g1, jI v2, g3] [] M1 P) (h : d_Parser_closeBrackets_j57 v2 v3 t0 t1 μ W4 Q) : JX 59 57 [jR 72, g1, jI v2, jI v3] [jI t1, jI t0] M P := by
  unfold d_Parser_closeBrackets_j57 at h
  refine L_br (p1 := 68) (p2 := 60) (c59 57 rfl) rfl jc_eq h (fun h => ?_) (fun h => ?_)
  · refine L_ps c59 (n := 1) (pc1 := 69) (ls1 := [jR 72, g1, jI v2, jI v3]) (st1 := [jR 72]) rfl ?_
    refine L_cV (c59 69 rfl) (js_v rfl ((Rl_tag hM rt72 (by decide)).trans js23)) hh59 (k_Parser_next hM h) (fun M μ2 hM h => ?_) (fun _ _ _ _ f => f.elim)
    refine L_ps c59 (n := 1) (pc1 := 73) (ls1 := [jR 72, g1, jI v2, jI v3]) (st1 := [jI v3]) rfl ?_
    refine L_br (p1 := 80) (p2 := 76) (c59 73 rfl) rfl jc_eq h (fun h => ?_) (fun h => ?_)
    · refine L_iinc (c59 80 rfl) (hg1) (Nat.le_of_ble_eq_true rfl) rfl ?_
      show JX 59 83 [jR 72, g1, jI (wr (v2 + (-1))), jI v3] [] M P
      refine L_ps c59 (n := 1) (pc1 := 4) (ls1 := [jR 72, g1, jI (wr (v2 + (-1))), jI v3]) (st1 := []) rfl ?_
      exact hW4 _ _ _ _ _ hg1 hM h
    · refine L_ps c59 (n := 3) (pc1 := 79) (ls1 := [jR 72, g1, jI v2, jI v3]) (st1 := [jI (wr (v2 + 1))]) rfl ?_
      exact L_retI (c59 79 rfl) (hQ _ _ _ hM h)
  · refine L_ps c59 (n := 2) (pc1 := 62) (ls1 := [jR 72, g1, jI v2, jI v3]) (st1 := [jI 1, jR 72]) rfl ?_
    refine L_cB (c59 62 rfl) (js_v rfl ((Rl_tag hM rt72 (by decide)).trans js34)) hh59 (k_Parser_fail hM h) (fun r3 M μ4 hM h => ?_) (fun _ _ _ _ f => f.elim)
    refine L_ps c59 (n := 2) (pc1 := 67) (ls1 := [jR 72, g1, jI v2, jI v3]) (st1 := [jI (-1)]) rfl ?_
    exact L_retI (c59 67 rfl) (hQ _ _ _ hM h)
theorem k_Parser_closeBrackets_j41 {E : JE2} {v2 : Int} {t0 : Int} {μ : Mem} {M : JM} {P : JO → JM → Prop} {g1 : JV} {g3 : JV} {W4 : Int → Mem → Prop} {Q : Int → Mem → Prop} (hg1 : jc2 g1 = false) (hM : Rl E M μ) (hQ : ∀ (r : Int) (M1 : JM) (μ1 : Mem), Rl E M1 μ1 → Q r μ1 → P (.inl (some (.inl r))) M1) (hW4 : ∀ (v2 : Int) (g1 : JV) (g3 : JV) (M1 : JM) (μ1 : Mem), jc2 g1 = false → Rl E M1 μ1 → W4 v2 μ1 → JX 59 4 [jR 72, g1, jI v2, g3] [] M1 P) (h : d_Parser_closeBrackets_j41 v2 t0 μ W4 Q) : JX 59 41 [jR 72, g1, jI v2, g3] [jI t0] M P := by
  unfold d_Parser_closeBrackets_j41 at h
  refine L_ps c59 (n := 2) (pc1 := 43) (ls1 := [jR 72, g1, jI v2, jI t0]) (st1 := [jR 72]) rfl ?_
  refine L_getI (c59 43 rfl) hM rt72 rfl ?_
  refine L_ps c59 (n := 1) (pc1 := 47) (ls1 := [jR 72, g1, jI v2, jI t0]) (st1 := [jI t0, jI (μ 72 9)]) rfl ?_
  refine L_br (p1 := 55) (p2 := 50) (c59 47 rfl) rfl jc_eq h (fun h => ?_) (fun h => ?_)
  · refine L_ps c59 (n := 1) (pc1 := 57) (ls1 := [jR 72, g1, jI v2, jI t0]) (st1 := [jI 41, jI (μ 72 9)]) rfl ?_
    exact k_Parser_closeBrackets_j57 hg1 hM hQ hW4 h
  · refine L_ps c59 (n := 2) (pc1 := 57) (ls1 := [jR 72, g1, jI v2, jI t0]) (st1 := [jI 44, jI (μ 72 9)]) rfl ?_
    exact k_Parser_closeBrackets_j57 hg1 hM hQ hW4 h
theorem k_Parser_closeBrackets_b4 {E : JE2} {v2 : Int} {μ : Mem} {M : JM} {P : JO → JM → Prop} {g1 : JV} {g3 : JV} {W4 : Int → Mem → Prop} {Q : Int → Mem → Prop} (hg1 : jc2 g1 = false) (hM : Rl E M μ) (hQ : ∀ (r : Int) (M1 : JM) (μ1 : Mem), Rl E M1 μ1 → Q r μ1 → P (.inl (some (.inl r))) M1) (hW4 : ∀ (v2 : Int) (g1 : JV) (g3 : JV) (M1 : JM) (μ1 : Mem), jc2 g1 = false → Rl E M1 μ1 → W4 v2 μ1 → JX 59 4 [jR 72, g1, jI v2, g3] [] M1 P) (h : d_Parser_closeBrackets_b4 v2 μ W4 Q) : JX 59 4 [jR 72, g1, jI v2, g3] [] M P := by
  unfold d_Parser_closeBrackets_b4 at h
  refine L_ps c59 (n := 1) (pc1 := 5) (ls1 := [jR 72, g1, jI v2, g3]) (st1 := [jI v2]) rfl ?_
  refine L_br (p1 := 86) (p2 := 8) (c59 5 rfl) rfl jc_lt h (fun h => ?_) (fun h => ?_)
  · refine L_ps c59 (n := 1) (pc1 := 87) (ls1 := [jR 72, g1, jI v2, g3]) (st1 := [jI 0]) rfl ?_
    exact L_retI (c59 87 rfl) (hQ _ _ _ hM h)
  · refine L_ps c59 (n := 2) (pc1 := 10) (ls1 := [jR 72, g1, jI v2, g3]) (st1 := [jR 72, jI v2]) rfl ?_
    refine L_getP (d := 66) (c59 10 rfl) hM rt72 rfl ?_
    refine L_alen (n := 40) (z := 40) (c59 13 rfl) hM rt138 (by decide) ln138 (by decide) rfl ?_
    refine L_nb (p1 := 86) (p2 := 17) (c59 14 rfl) rfl jc_ge h (fun h => ?_) (fun h => ?_)
    · refine L_ps c59 (n := 1) (pc1 := 18) (ls1 := [jR 72, g1, jI v2, g3]) (st1 := [jR 72]) rfl ?_
      refine L_getP (d := 66) (c59 18 rfl) hM rt72 rfl ?_
      refine L_ps c59 (n := 2) (pc1 := 23) (ls1 := [jR 72, g1, jI v2, g3]) (st1 := [jI v2, jR 138, jI v2, jR 138]) rfl ?_
      obtain ⟨hb, h⟩ := h
      refine L_iald (c59 23 rfl) hM rt138 ln138 hb ?_
      refine L_ps c59 (n := 2) (pc1 := 26) (ls1 := [jR 72, g1, jI v2, g3]) (st1 := [jI (wr ((μ 138 v2.toNat) - 1)), jI v2, jR 138]) rfl ?_
      obtain ⟨hb, h⟩ := h
      refine L_iast (c59 26 rfl) hM rt138 ln138 hb (fun M hM => ?_)
      refine L_ps c59 (n := 1) (pc1 := 28) (ls1 := [jR 72, g1, jI v2, g3]) (st1 := [jR 72]) rfl ?_
      refine L_getP (d := 66) (c59 28 rfl) hM rt72 rfl ?_
      refine L_ps c59 (n := 1) (pc1 := 32) (ls1 := [jR 72, g1, jI v2, g3]) (st1 := [jI v2, jR 138]) rfl ?_
      obtain ⟨hb, h⟩ := h
      refine L_iald (c59 32 rfl) hM rt138 ln138 hb ?_
      refine L_nb (p1 := 40) (p2 := 36) (c59 33 rfl) rfl jc_le h (fun h => ?_) (fun h => ?_)
      · refine L_ps c59 (n := 2) (pc1 := 41) (ls1 := [jR 72, g1, jI v2, g3]) (st1 := [jI 1]) rfl ?_
        exact k_Parser_closeBrackets_j41 hg1 hM hQ hW4 h
      · refine L_ps c59 (n := 1) (pc1 := 41) (ls1 := [jR 72, g1, jI v2, g3]) (st1 := [jI 0]) rfl ?_
        exact k_Parser_closeBrackets_j41 hg1 hM hQ hW4 h
    · refine L_ps c59 (n := 1) (pc1 := 87) (ls1 := [jR 72, g1, jI v2, g3]) (st1 := [jI 0]) rfl ?_
      exact L_retI (c59 87 rfl) (hQ _ _ _ hM h)
theorem k_Parser_closeBrackets_l4 {E : JE2} {v2 : Int} {μ : Mem} {M : JM} {P : JO → JM → Prop} {g1 : JV} {g3 : JV} {Q : Int → Mem → Prop} (hg1 : jc2 g1 = false) (hM : Rl E M μ) (hQ : ∀ (r : Int) (M1 : JM) (μ1 : Mem), Rl E M1 μ1 → Q r μ1 → P (.inl (some (.inl r))) M1) (h : d_Parser_closeBrackets_l4 v2 μ Q) : JX 59 4 [jR 72, g1, jI v2, g3] [] M P := by
  refine h (fun v2 μ => ∀ (g1 : JV) (g3 : JV) (M : JM), jc2 g1 = false → Rl E M μ → JX 59 4 [jR 72, g1, jI v2, g3] [] M P) ?_ _ _ _ hg1 hM
  intro v2 μ h g1 g3 M hg1 hM
  exact k_Parser_closeBrackets_b4 hg1 hM hQ (fun v2 g1 g3 M μ hg1 hM h => h g1 g3 M hg1 hM) h
theorem k_Parser_closeBrackets {E : JE2} {v1 : Int} {μ : Mem} {M : JM} {Q : Int → Mem → Prop} (hM : Rl E M μ) (h : d_Parser_closeBrackets v1 μ Q) : JX 59 0 (jargs 59 [jR 72, jI v1]) [] M (PO E (QI Q) XN) := by
  unfold d_Parser_closeBrackets at h
  show JX 59 0 [jR 72, jI v1, jU, jU] [] M (PO E (QI Q) XN)
  generalize hP : PO E (QI Q) XN = P
  have hQ : ∀ (r : Int) (M1 : JM) (μ1 : Mem), Rl E M1 μ1 → Q r μ1 → P (.inl (some (.inl r))) M1 := by rw [← hP]; exact fun r M1 μ1 a b => ⟨μ1, a, r, rfl, b⟩
  clear hP
  refine L_ps c59 (n := 4) (pc1 := 4) (ls1 := [jR 72, jI v1, jI (wr (v1 - 1)), jU]) (st1 := []) rfl ?_
  exact k_Parser_closeBrackets_l4 rfl hM hQ h
theorem k_Parser_readTerm_j133 {E : JE2} {v1 : Nat} {v2 : Int} {v3 : Int} {v4 : Int} {v5 : Int} {μ : Mem} {M : JM} {P : JO → JM → Prop} {g6 : JV} {g7 : JV} {W10 : Int → Int → Mem → Prop} {Q : Bool → Mem → Prop} (hg6 : jc2 g6 = false) (hv1 : rt v1 = 8) (hM : Rl E M μ) (hQ : ∀ (r : Bool) (M1 : JM) (μ1 : Mem), Rl E M1 μ1 → Q r μ1 → P (.inl (some (.inl (b2i r)))) M1) (hW10 : ∀ (v4 : Int) (v5 : Int) (g6 : JV) (g7 : JV) (M1 : JM) (μ1 : Mem), jc2 g6 = false → Rl E M1 μ1 → W10 v4 v5 μ1 → JX 47 10 [jR 72, jR v1, jI v2, jI v3, jI v4, jI v5, g6, g7] [] M1 P) (h : d_Parser_readTerm_j133 v1 v2 v3 v4 v5 μ W10 Q) : JX 47 133 [jR 72, jR v1, jI v2, jI v3, jI v4, jI v5, g6, g7] [] M P := by
  unfold d_Parser_readTerm_j133 at h
  refine L_ps c47 (n := 2) (pc1 := 10) (ls1 := [jR 72, jR v1, jI v2, jI v3, jI v4, jI (wr (v5 + 1)), g6, g7]) (st1 := []) rfl ?_
  exact hW10 _ _ _ _ _ _ hg6 hM h
theorem k_Parser_readTerm_j81 {E : JE2} {μ : Mem} {M : JM} {P : JO → JM → Prop} {g1 : JV} {g2 : JV} {g3 : JV} {g4 : JV} {g5 : JV} {g6 : JV} {g7 : JV} {Q : Bool → Mem → Prop} (hg3 : jc2 g3 = false) (hg4 : jc2 g4 = false) (hg5 : jc2 g5 = false) (hg6 : jc2 g6 = false) (hM : Rl E M μ) (hQ : ∀ (r : Bool) (M1 : JM) (μ1 : Mem), Rl E M1 μ1 → Q r μ1 → P (.inl (some (.inl (b2i r)))) M1) (h : d_Parser_readTerm_j81 μ Q) : JX 47 81 [jR 72, g1, g2, g3, g4, g5, g6, g7] [] M P := by
  unfold d_Parser_readTerm_j81 at h
  refine L_ps c47 (n := 2) (pc1 := 83) (ls1 := [jR 72, g1, g2, g3, g4, g5, g6, g7]) (st1 := [jI 1, jR 72]) rfl ?_
  refine L_cB (c47 83 rfl) (js_v rfl ((Rl_tag hM rt72 (by decide)).trans js34)) hh47 (k_Parser_fail hM h) (fun r19 M μ20 hM h => ?_) (fun _ _ _ _ f => f.elim)
  exact L_retB (c47 86 rfl) (bz_b _) (hQ _ _ _ hM h)
theorem k_Parser_readTerm_b10 {E : JE2} {v1 : Nat} {v2 : Int} {v3 : Int} {v4 : Int} {v5 : Int} {μ : Mem} {M : JM} {P : JO → JM → Prop} {g6 : JV} {g7 : JV} {W10 : Int → Int → Mem → Prop} {Q : Bool → Mem → Prop} (hg6 : jc2 g6 = false) (hv1 : rt v1 = 8) (hM : Rl E M μ) (hQ : ∀ (r : Bool) (M1 : JM) (μ1 : Mem), Rl E M1 μ1 → Q r μ1 → P (.inl (some (.inl (b2i r)))) M1) (hW10 : ∀ (v4 : Int) (v5 : Int) (g6 : JV) (g7 : JV) (M1 : JM) (μ1 : Mem), jc2 g6 = false → Rl E M1 μ1 → W10 v4 v5 μ1 → JX 47 10 [jR 72, jR v1, jI v2, jI v3, jI v4, jI v5, g6, g7] [] M1 P) (h : d_Parser_readTerm_b10 v1 v2 v3 v4 v5 μ W10 Q) : JX 47 10 [jR 72, jR v1, jI v2, jI v3, jI v4, jI v5, g6, g7] [] M P := by
  unfold d_Parser_readTerm_b10 at h
  refine L_ps c47 (n := 2) (pc1 := 13) (ls1 := [jR 72, jR v1, jI v2, jI v3, jI v4, jI v5, g6, g7]) (st1 := [jI v2, jI v5]) rfl ?_
  refine L_br (p1 := 139) (p2 := 16) (c47 13 rfl) rfl jc_gt h (fun h => ?_) (fun h => ?_)
  · refine L_ps c47 (n := 2) (pc1 := 141) (ls1 := [jR 72, jR v1, jI v2, jI v3, jI v4, jI v5, g6, g7]) (st1 := [jI 5, jR 72]) rfl ?_
    refine L_cB (c47 141 rfl) (js_v rfl ((Rl_tag hM rt72 (by decide)).trans js34)) hh47 (k_Parser_fail hM h) (fun r3 M μ4 hM h => ?_) (fun _ _ _ _ f => f.elim)
    exact L_retB (c47 144 rfl) (bz_b _) (hQ _ _ _ hM h)
  · refine L_ps c47 (n := 4) (pc1 := 20) (ls1 := [jR 72, jR v1, jI v2, jI v3, jI v4, jI v5, g6, g7]) (st1 := [jI v3, jI v2, jR v1, jR 72]) rfl ?_
    refine L_cpI (c47 20 rfl) (js_v rfl ((Rl_tag hM rt72 (by decide)).trans js49)) hh47 (k_Parser_faultOfNode hv1 hM h) (fun r5 M hM h => ?_) (fun _ _ _ _ f => f.elim)
    refine L_ps c47 (n := 2) (pc1 := 27) (ls1 := [jR 72, jR v1, jI v2, jI v3, jI v4, jI v5, jI r5, g7]) (st1 := [jI r5]) rfl ?_
    refine L_br (p1 := 37) (p2 := 30) (c47 27 rfl) rfl jc_eq h (fun h => ?_) (fun h => ?_)
    · refine L_ps c47 (n := 1) (pc1 := 38) (ls1 := [jR 72, jR v1, jI v2, jI v3, jI v4, jI v5, jI r5, g7]) (st1 := [jR 72]) rfl ?_
      refine L_cpI (c47 38 rfl) (js_v rfl ((Rl_tag hM rt72 (by decide)).trans js54)) hh47 (k_Parser_nodeOfToken hM h) (fun r7 M hM h => ?_) (fun _ _ _ _ f => f.elim)
      refine L_ps c47 (n := 3) (pc1 := 46) (ls1 := [jR 72, jR v1, jI v2, jI v3, jI v4, jI v5, jI r5, jI r7]) (st1 := [jI r7, jR v1]) rfl ?_
      refine L_cB (c47 46 rfl) (js_v rfl ((Rl_tag hM hv1 (by decide)).trans js57)) hh47 (k_Term_add hv1 hM h) (fun r9 M μ10 hM h => ?_) (fun _ _ _ _ f => f.elim)
      refine L_ps c47 (n := 2) (pc1 := 51) (ls1 := [jR 72, jR v1, jI v2, jI v3, jI v4, jI v5, jI r5, jI r7]) (st1 := [jR 72]) rfl ?_
      refine L_cV (c47 51 rfl) (js_v rfl ((Rl_tag hM rt72 (by decide)).trans js23)) hh47 (k_Parser_next hM h) (fun M μ12 hM h => ?_) (fun _ _ _ _ f => f.elim)
      refine L_ps c47 (n := 1) (pc1 := 56) (ls1 := [jR 72, jR v1, jI v2, jI v3, jI v4, jI v5, jI r5, jI r7]) (st1 := [jI r7]) rfl ?_
      refine L_cpI (c47 56 rfl) (js_t rfl) hh47 (k_Term_arityOf hM h) (fun r13 M hM h => ?_) (fun _ _ _ _ f => f.elim)
      refine L_nb (p1 := 109) (p2 := 62) (c47 59 rfl) rfl jc_le h (fun h => ?_) (fun h => ?_)
      · refine L_ps c47 (n := 1) (pc1 := 63) (ls1 := [jR 72, jR v1, jI v2, jI v3, jI v4, jI v5, jI r5, jI r7]) (st1 := [jR 72]) rfl ?_
        refine L_getI (c47 63 rfl) hM rt72 rfl ?_
        refine L_ps c47 (n := 1) (pc1 := 68) (ls1 := [jR 72, jR v1, jI v2, jI v3, jI v4, jI v5, jI r5, jI r7]) (st1 := [jI 40, jI (μ12 72 9)]) rfl ?_
        refine L_nb (p1 := 81) (p2 := 71) (c47 68 rfl) rfl jc_ne h (fun h => ?_) (fun h => ?_)
        · refine L_ps c47 (n := 2) (pc1 := 74) (ls1 := [jR 72, jR v1, jI v2, jI v3, jI v4, jI v5, jI r5, jI r7]) (st1 := [jR 72, jI v4]) rfl ?_
          refine L_getP (d := 66) (c47 74 rfl) hM rt72 rfl ?_
          refine L_alen (n := 40) (z := 40) (c47 77 rfl) hM rt138 (by decide) ln138 (by decide) rfl ?_
          refine L_br (p1 := 87) (p2 := 81) (c47 78 rfl) rfl jc_lt h (fun h => ?_) (fun h => ?_)
          · refine L_ps c47 (n := 1) (pc1 := 88) (ls1 := [jR 72, jR v1, jI v2, jI v3, jI v4, jI v5, jI r5, jI r7]) (st1 := [jR 72]) rfl ?_
            refine L_cV (c47 88 rfl) (js_v rfl ((Rl_tag hM rt72 (by decide)).trans js23)) hh47 (k_Parser_next hM h) (fun M μ16 hM h => ?_) (fun _ _ _ _ f => f.elim)
            refine L_ps c47 (n := 1) (pc1 := 92) (ls1 := [jR 72, jR v1, jI v2, jI v3, jI v4, jI v5, jI r5, jI r7]) (st1 := [jR 72]) rfl ?_
            refine L_getP (d := 66) (c47 92 rfl) hM rt72 rfl ?_
            refine L_ps c47 (n := 2) (pc1 := 99) (ls1 := [jR 72, jR v1, jI v2, jI v3, jI v4, jI v5, jI r5, jI r7]) (st1 := [jI r7, jI v4, jR 138]) rfl ?_
            refine L_cpI (c47 99 rfl) (js_t rfl) hh47 (k_Term_arityOf hM h) (fun r17 M hM h => ?_) (fun _ _ _ _ f => f.elim)
            obtain ⟨hb, h⟩ := h
            refine L_iast (c47 102 rfl) hM rt138 ln138 hb (fun M hM => ?_)
            refine L_ps c47 (n := 2) (pc1 := 133) (ls1 := [jR 72, jR v1, jI v2, jI v3, jI (wr (v4 + 1)), jI v5, jI r5, jI r7]) (st1 := []) rfl ?_
            exact k_Parser_readTerm_j133 rfl hv1 hM hQ hW10 h
          · exact k_Parser_readTerm_j81 rfl rfl rfl rfl hM hQ h
        · exact k_Parser_readTerm_j81 rfl rfl rfl rfl hM hQ h
      · refine L_ps c47 (n := 2) (pc1 := 112) (ls1 := [jR 72, jR v1, jI v2, jI v3, jI v4, jI v5, jI r5, jI r7]) (st1 := [jI v4, jR 72]) rfl ?_
        refine L_cI (c47 112 rfl) (js_v rfl ((Rl_tag hM rt72 (by decide)).trans js59)) hh47 (k_Parser_closeBrackets hM h) (fun r21 M μ22 hM h => ?_) (fun _ _ _ _ f => f.elim)
        refine L_ps c47 (n := 2) (pc1 := 119) (ls1 := [jR 72, jR v1, jI v2, jI v3, jI r21, jI v5, jI r5, jI r7]) (st1 := [jI r21]) rfl ?_
        refine L_br (p1 := 133) (p2 := 122) (c47 119 rfl) rfl jc_gt h (fun h => ?_) (fun h => ?_)
        · exact k_Parser_readTerm_j133 rfl hv1 hM hQ hW10 h
        · refine L_ps c47 (n := 1) (pc1 := 124) (ls1 := [jR 72, jR v1, jI v2, jI v3, jI r21, jI v5, jI r5, jI r7]) (st1 := [jI r21]) rfl ?_
          refine L_nb (p1 := 131) (p2 := 127) (c47 124 rfl) rfl jc_ne h (fun h => ?_) (fun h => ?_)
          · refine L_ps c47 (n := 2) (pc1 := 132) (ls1 := [jR 72, jR v1, jI v2, jI v3, jI r21, jI v5, jI r5, jI r7]) (st1 := [jI 1]) rfl ?_
            exact L_retB (c47 132 rfl) (Or.inr rfl) (hQ true _ _ hM h)
          · refine L_ps c47 (n := 1) (pc1 := 132) (ls1 := [jR 72, jR v1, jI v2, jI v3, jI r21, jI v5, jI r5, jI r7]) (st1 := [jI 0]) rfl ?_
            exact L_retB (c47 132 rfl) (Or.inl rfl) (hQ false _ _ hM h)
    · refine L_ps c47 (n := 2) (pc1 := 33) (ls1 := [jR 72, jR v1, jI v2, jI v3, jI v4, jI v5, jI r5, g7]) (st1 := [jI r5, jR 72]) rfl ?_
      refine L_cB (c47 33 rfl) (js_v rfl ((Rl_tag hM rt72 (by decide)).trans js34)) hh47 (k_Parser_fail hM h) (fun r23 M μ24 hM h => ?_) (fun _ _ _ _ f => f.elim)
      exact L_retB (c47 36 rfl) (bz_b _) (hQ _ _ _ hM h)
theorem k_Parser_readTerm_l10 {E : JE2} {v1 : Nat} {v2 : Int} {v3 : Int} {v4 : Int} {v5 : Int} {μ : Mem} {M : JM} {P : JO → JM → Prop} {g6 : JV} {g7 : JV} {Q : Bool → Mem → Prop} (hg6 : jc2 g6 = false) (hv1 : rt v1 = 8) (hM : Rl E M μ) (hQ : ∀ (r : Bool) (M1 : JM) (μ1 : Mem), Rl E M1 μ1 → Q r μ1 → P (.inl (some (.inl (b2i r)))) M1) (h : d_Parser_readTerm_l10 v1 v2 v3 v4 v5 μ Q) : JX 47 10 [jR 72, jR v1, jI v2, jI v3, jI v4, jI v5, g6, g7] [] M P := by
  refine h (fun v4 v5 μ => ∀ (g6 : JV) (g7 : JV) (M : JM), jc2 g6 = false → Rl E M μ → JX 47 10 [jR 72, jR v1, jI v2, jI v3, jI v4, jI v5, g6, g7] [] M P) ?_ _ _ _ hg6 hM
  intro v4 v5 μ h g6 g7 M hg6 hM
  exact k_Parser_readTerm_b10 hg6 hv1 hM hQ (fun v4 v5 g6 g7 M μ hg6 hM h => h g6 g7 M hg6 hM) h
theorem k_Parser_readTerm {E : JE2} {v1 : Nat} {v2 : Int} {v3 : Int} {μ : Mem} {M : JM} {Q : Bool → Mem → Prop} (hv1 : rt v1 = 8) (hM : Rl E M μ) (h : d_Parser_readTerm v1 v2 v3 μ Q) : JX 47 0 (jargs 47 [jR 72, jR v1, jI v2, jI v3]) [] M (PO E (QB Q) XN) := by
  unfold d_Parser_readTerm at h
  show JX 47 0 [jR 72, jR v1, jI v2, jI v3, jU, jU, jU, jU] [] M (PO E (QB Q) XN)
  generalize hP : PO E (QB Q) XN = P
  have hQ : ∀ (r : Bool) (M1 : JM) (μ1 : Mem), Rl E M1 μ1 → Q r μ1 → P (.inl (some (.inl (b2i r)))) M1 := by rw [← hP]; exact fun r M1 μ1 a b => ⟨μ1, a, r, rfl, b⟩
  clear hP
  refine L_ps c47 (n := 1) (pc1 := 1) (ls1 := [jR 72, jR v1, jI v2, jI v3, jU, jU, jU, jU]) (st1 := [jR v1]) rfl ?_
  refine L_cV (c47 1 rfl) (js_v rfl ((Rl_tag hM hv1 (by decide)).trans js48)) hh47 (k_Term_clear hv1 hM h) (fun M μ2 hM h => ?_) (fun _ _ _ _ f => f.elim)
  refine L_ps c47 (n := 4) (pc1 := 10) (ls1 := [jR 72, jR v1, jI v2, jI v3, jI 0, jI 0, jU, jU]) (st1 := []) rfl ?_
  exact k_Parser_readTerm_l10 rfl hv1 hM hQ h
theorem k_Parser_readRule {E : JE2} {μ : Mem} {M : JM} {Q : Bool → Mem → Prop} (hM : Rl E M μ) (h : d_Parser_readRule μ Q) : JX 45 0 (jargs 45 [jR 72]) [] M (PO E (QB Q) XN) := by
  unfold d_Parser_readRule at h
  show JX 45 0 [jR 72, jU] [] M (PO E (QB Q) XN)
  generalize hP : PO E (QB Q) XN = P
  have hQ : ∀ (r : Bool) (M1 : JM) (μ1 : Mem), Rl E M1 μ1 → Q r μ1 → P (.inl (some (.inl (b2i r)))) M1 := by rw [← hP]; exact fun r M1 μ1 a b => ⟨μ1, a, r, rfl, b⟩
  clear hP
  refine L_ps c45 (n := 1) (pc1 := 1) (ls1 := [jR 72, jU]) (st1 := [jR 72]) rfl ?_
  refine L_getP (d := 5) (c45 1 rfl) hM rt72 rfl ?_
  refine L_getI (c45 4 rfl) hM rt77 rfl ?_
  refine L_ps c45 (n := 1) (pc1 := 9) (ls1 := [jR 72, jU]) (st1 := [jI 6, jI (μ 77 0)]) rfl ?_
  refine L_br (p1 := 18) (p2 := 12) (c45 9 rfl) rfl jc_lt h (fun h => ?_) (fun h => ?_)
  · refine L_ps c45 (n := 1) (pc1 := 19) (ls1 := [jR 72, jU]) (st1 := [jR 72]) rfl ?_
    refine L_cV (c45 19 rfl) (js_v rfl ((Rl_tag hM rt72 (by decide)).trans js23)) hh45 (k_Parser_next hM h) (fun M μ2 hM h => ?_) (fun _ _ _ _ f => f.elim)
    refine L_ps c45 (n := 1) (pc1 := 23) (ls1 := [jR 72, jU]) (st1 := [jR 72]) rfl ?_
    refine L_getP (d := 5) (c45 23 rfl) hM rt72 rfl ?_
    refine L_ps c45 (n := 1) (pc1 := 27) (ls1 := [jR 72, jU]) (st1 := [jR 72, jR 77]) rfl ?_
    refine L_getP (d := 5) (c45 27 rfl) hM rt72 rfl ?_
    refine L_getI (c45 30 rfl) hM rt77 rfl ?_
    refine L_cpR (c45 33 rfl) (js_v rfl ((Rl_tag hM rt77 (by decide)).trans js46)) hh45 (k_State_rule rt77 hM h) (fun r3 M hM hr3 h => ?_) (fun _ _ _ _ f => f.elim)
    refine L_ps c45 (n := 3) (pc1 := 39) (ls1 := [jR 72, jR r3]) (st1 := [jR r3, jR 72]) rfl ?_
    refine L_getD (c45 39 rfl) hM hr3 (by decide) ?_
    refine L_ps c45 (n := 2) (pc1 := 45) (ls1 := [jR 72, jR r3]) (st1 := [jI 1, jI 12, jR (dp (μ2 r3 0)), jR 72]) rfl ?_
    refine L_cB (c45 45 rfl) (js_v rfl ((Rl_tag hM rt72 (by decide)).trans js47)) hh45 (k_Parser_readTerm (dp_rt _) hM h) (fun r5 M μ6 hM h => ?_) (fun _ _ _ _ f => f.elim)
    refine L_br (p1 := 53) (p2 := 51) (c45 48 rfl) rfl jc_neb h (fun h => ?_) (fun h => ?_)
    · refine L_ps c45 (n := 1) (pc1 := 54) (ls1 := [jR 72, jR r3]) (st1 := [jR 72]) rfl ?_
      refine L_getI (c45 54 rfl) hM rt72 rfl ?_
      refine L_ps c45 (n := 1) (pc1 := 59) (ls1 := [jR 72, jR r3]) (st1 := [jI 61, jI (μ6 72 9)]) rfl ?_
      refine L_br (p1 := 68) (p2 := 62) (c45 59 rfl) rfl jc_eq h (fun h => ?_) (fun h => ?_)
      · refine L_ps c45 (n := 1) (pc1 := 69) (ls1 := [jR 72, jR r3]) (st1 := [jR 72]) rfl ?_
        refine L_cV (c45 69 rfl) (js_v rfl ((Rl_tag hM rt72 (by decide)).trans js23)) hh45 (k_Parser_next hM h) (fun M μ8 hM h => ?_) (fun _ _ _ _ f => f.elim)
        refine L_ps c45 (n := 2) (pc1 := 74) (ls1 := [jR 72, jR r3]) (st1 := [jR r3, jR 72]) rfl ?_
        refine L_getD (c45 74 rfl) hM hr3 (by decide) ?_
        refine L_ps c45 (n := 2) (pc1 := 80) (ls1 := [jR 72, jR r3]) (st1 := [jI 2, jI 12, jR (dp (μ8 r3 1)), jR 72]) rfl ?_
        refine L_cB (c45 80 rfl) (js_v rfl ((Rl_tag hM rt72 (by decide)).trans js47)) hh45 (k_Parser_readTerm (dp_rt _) hM h) (fun r9 M μ10 hM h => ?_) (fun _ _ _ _ f => f.elim)
        refine L_br (p1 := 88) (p2 := 86) (c45 83 rfl) rfl jc_neb h (fun h => ?_) (fun h => ?_)
        · refine L_ps c45 (n := 1) (pc1 := 89) (ls1 := [jR 72, jR r3]) (st1 := [jR 72]) rfl ?_
          refine L_getP (d := 5) (c45 89 rfl) hM rt72 rfl ?_
          refine L_ps c45 (n := 1) (pc1 := 93) (ls1 := [jR 72, jR r3]) (st1 := [jR 77, jR 77]) rfl ?_
          refine L_getI (c45 93 rfl) hM rt77 rfl ?_
          refine L_ps c45 (n := 2) (pc1 := 98) (ls1 := [jR 72, jR r3]) (st1 := [jI (wr ((μ10 77 0) + 1)), jR 77]) rfl ?_
          refine L_putI (c45 98 rfl) hM rt77 rfl (fun M hM => ?_)
          refine L_ps c45 (n := 1) (pc1 := 102) (ls1 := [jR 72, jR r3]) (st1 := [jI 1]) rfl ?_
          exact L_retB (c45 102 rfl) (Or.inr rfl) (hQ true _ _ hM h)
        · refine L_ps c45 (n := 1) (pc1 := 87) (ls1 := [jR 72, jR r3]) (st1 := [jI 0]) rfl ?_
          exact L_retB (c45 87 rfl) (Or.inl rfl) (hQ false _ _ hM h)
      · refine L_ps c45 (n := 2) (pc1 := 64) (ls1 := [jR 72, jR r3]) (st1 := [jI 1, jR 72]) rfl ?_
        refine L_cB (c45 64 rfl) (js_v rfl ((Rl_tag hM rt72 (by decide)).trans js34)) hh45 (k_Parser_fail hM h) (fun r11 M μ12 hM h => ?_) (fun _ _ _ _ f => f.elim)
        exact L_retB (c45 67 rfl) (bz_b _) (hQ _ _ _ hM h)
    · refine L_ps c45 (n := 1) (pc1 := 52) (ls1 := [jR 72, jR r3]) (st1 := [jI 0]) rfl ?_
      exact L_retB (c45 52 rfl) (Or.inl rfl) (hQ false _ _ hM h)
  · refine L_ps c45 (n := 2) (pc1 := 14) (ls1 := [jR 72, jU]) (st1 := [jI 5, jR 72]) rfl ?_
    refine L_cB (c45 14 rfl) (js_v rfl ((Rl_tag hM rt72 (by decide)).trans js34)) hh45 (k_Parser_fail hM h) (fun r13 M μ14 hM h => ?_) (fun _ _ _ _ f => f.elim)
    exact L_retB (c45 17 rfl) (bz_b _) (hQ _ _ _ hM h)
theorem k_State_term {E : JE2} {v0 : Nat} {v1 : Int} {μ : Mem} {M : JM} {Q : Nat → Prop} (hv0 : rt v0 = 7) (hM : Rl E M μ) (h : d_State_term v0 v1 μ Q) : JX 61 0 (jargs 61 [jR v0, jI v1]) [] M (PO E (pQR μ 8 Q) XN) := by
  unfold d_State_term at h
  show JX 61 0 [jR v0, jI v1, jU] [] M (PO E (pQR μ 8 Q) XN)
  generalize hP : PO E (pQR μ 8 Q) XN = P
  have hQ : ∀ (r : Nat) (M1 : JM), Rl E M1 μ → rt r = 8 → Q r → P (.inl (some (.inr (.inl r)))) M1 := by rw [← hP]; exact fun r M1 a c b => ⟨μ, a, rfl, r, rfl, c, b⟩
  clear hP
  refine L_ps c61 (n := 1) (pc1 := 1) (ls1 := [jR v0, jI v1, jU]) (st1 := [jI v1]) rfl ?_
  refine L_br (p1 := 13) (p2 := 4) (c61 1 rfl) rfl jc_lt h (fun h => ?_) (fun h => ?_)
  · refine L_ps c61 (n := 1) (pc1 := 14) (ls1 := [jR v0, jI v1, jU]) (st1 := [jR v0]) rfl ?_
    refine L_getP (d := 8) (c61 14 rfl) hM hv0 rfl ?_
    exact L_end (c61 17 rfl) rfl (hQ _ _ hM (rp_7_8 hv0) h)
  · refine L_ps c61 (n := 2) (pc1 := 6) (ls1 := [jR v0, jI v1, jU]) (st1 := [jR v0, jI v1]) rfl ?_
    refine L_getP (d := 2) (c61 6 rfl) hM hv0 rfl ?_
    refine L_alen (n := 6) (z := 6) (c61 9 rfl) hM (rp_7_2 hv0) (by decide) (le_113 (rp_7_2 hv0)) (by decide) rfl ?_
    refine L_br (p1 := 18) (p2 := 13) (c61 10 rfl) rfl jc_lt h (fun h => ?_) (fun h => ?_)
    · refine L_ps c61 (n := 1) (pc1 := 19) (ls1 := [jR v0, jI v1, jU]) (st1 := [jR v0]) rfl ?_
      refine L_getP (d := 2) (c61 19 rfl) hM hv0 rfl ?_
      refine L_ps c61 (n := 1) (pc1 := 23) (ls1 := [jR v0, jI v1, jU]) (st1 := [jI v1, jR (v0 + 2)]) rfl ?_
      obtain ⟨hb, h⟩ := h
      have e1 : rt (v0 + 2 + (38 + 2 * v1.toNat)) = 8 := re_113 (rp_7_2 hv0) (by omega)
      refine L_aald (c61 23 rfl) hM (rp_7_2 hv0) (by decide) (le_113 (rp_7_2 hv0)) hb rfl ?_
      refine L_ps c61 (n := 4) (pc1 := 37) (ls1 := [jR v0, jI v1, jR (v0 + 2 + (38 + 2 * v1.toNat))]) (st1 := [jR (v0 + 2 + (38 + 2 * v1.toNat))]) rfl ?_
      exact L_end (c61 37 rfl) rfl (hQ _ _ hM e1 h)
    · refine L_ps c61 (n := 1) (pc1 := 14) (ls1 := [jR v0, jI v1, jU]) (st1 := [jR v0]) rfl ?_
      refine L_getP (d := 8) (c61 14 rfl) hM hv0 rfl ?_
      exact L_end (c61 17 rfl) rfl (hQ _ _ hM (rp_7_8 hv0) h)
theorem k_Parser_readPlainTerm {E : JE2} {μ : Mem} {M : JM} {Q : Bool → Mem → Prop} (hM : Rl E M μ) (h : d_Parser_readPlainTerm μ Q) : JX 60 0 (jargs 60 [jR 72]) [] M (PO E (QB Q) XN) := by
  unfold d_Parser_readPlainTerm at h
  show JX 60 0 [jR 72] [] M (PO E (QB Q) XN)
  generalize hP : PO E (QB Q) XN = P
  have hQ : ∀ (r : Bool) (M1 : JM) (μ1 : Mem), Rl E M1 μ1 → Q r μ1 → P (.inl (some (.inl (b2i r)))) M1 := by rw [← hP]; exact fun r M1 μ1 a b => ⟨μ1, a, r, rfl, b⟩
  clear hP
  refine L_ps c60 (n := 1) (pc1 := 1) (ls1 := [jR 72]) (st1 := [jR 72]) rfl ?_
  refine L_getP (d := 5) (c60 1 rfl) hM rt72 rfl ?_
  refine L_getI (c60 4 rfl) hM rt77 rfl ?_
  refine L_ps c60 (n := 1) (pc1 := 9) (ls1 := [jR 72]) (st1 := [jI 6, jI (μ 77 1)]) rfl ?_
  refine L_br (p1 := 18) (p2 := 12) (c60 9 rfl) rfl jc_lt h (fun h => ?_) (fun h => ?_)
  · refine L_ps c60 (n := 1) (pc1 := 19) (ls1 := [jR 72]) (st1 := [jR 72]) rfl ?_
    refine L_cV (c60 19 rfl) (js_v rfl ((Rl_tag hM rt72 (by decide)).trans js23)) hh60 (k_Parser_next hM h) (fun M μ2 hM h => ?_) (fun _ _ _ _ f => f.elim)
    refine L_ps c60 (n := 2) (pc1 := 24) (ls1 := [jR 72]) (st1 := [jR 72, jR 72]) rfl ?_
    refine L_getP (d := 5) (c60 24 rfl) hM rt72 rfl ?_
    refine L_ps c60 (n := 1) (pc1 := 28) (ls1 := [jR 72]) (st1 := [jR 72, jR 77, jR 72]) rfl ?_
    refine L_getP (d := 5) (c60 28 rfl) hM rt72 rfl ?_
    refine L_getI (c60 31 rfl) hM rt77 rfl ?_
    refine L_cpR (c60 34 rfl) (js_v rfl ((Rl_tag hM rt77 (by decide)).trans js61)) hh60 (k_State_term rt77 hM h) (fun r3 M hM hr3 h => ?_) (fun _ _ _ _ f => f.elim)
    refine L_ps c60 (n := 2) (pc1 := 40) (ls1 := [jR 72]) (st1 := [jI 0, jI 40, jR r3, jR 72]) rfl ?_
    refine L_cB (c60 40 rfl) (js_v rfl ((Rl_tag hM rt72 (by decide)).trans js47)) hh60 (k_Parser_readTerm hr3 hM h) (fun r5 M μ6 hM h => ?_) (fun _ _ _ _ f => f.elim)
    refine L_br (p1 := 48) (p2 := 46) (c60 43 rfl) rfl jc_neb h (fun h => ?_) (fun h => ?_)
    · refine L_ps c60 (n := 1) (pc1 := 49) (ls1 := [jR 72]) (st1 := [jR 72]) rfl ?_
      refine L_getP (d := 5) (c60 49 rfl) hM rt72 rfl ?_
      refine L_ps c60 (n := 1) (pc1 := 53) (ls1 := [jR 72]) (st1 := [jR 77, jR 77]) rfl ?_
      refine L_getI (c60 53 rfl) hM rt77 rfl ?_
      refine L_ps c60 (n := 2) (pc1 := 58) (ls1 := [jR 72]) (st1 := [jI (wr ((μ6 77 1) + 1)), jR 77]) rfl ?_
      refine L_putI (c60 58 rfl) hM rt77 rfl (fun M hM => ?_)
      refine L_ps c60 (n := 1) (pc1 := 62) (ls1 := [jR 72]) (st1 := [jI 1]) rfl ?_
      exact L_retB (c60 62 rfl) (Or.inr rfl) (hQ true _ _ hM h)
    · refine L_ps c60 (n := 1) (pc1 := 47) (ls1 := [jR 72]) (st1 := [jI 0]) rfl ?_
      exact L_retB (c60 47 rfl) (Or.inl rfl) (hQ false _ _ hM h)
  · refine L_ps c60 (n := 2) (pc1 := 14) (ls1 := [jR 72]) (st1 := [jI 5, jR 72]) rfl ?_
    refine L_cB (c60 14 rfl) (js_v rfl ((Rl_tag hM rt72 (by decide)).trans js34)) hh60 (k_Parser_fail hM h) (fun r7 M μ8 hM h => ?_) (fun _ _ _ _ f => f.elim)
    exact L_retB (c60 17 rfl) (bz_b _) (hQ _ _ _ hM h)
theorem k_Term_addPart_b3 {E : JE2} {v0 : Nat} {v1 : Nat} {v3 : Int} {v4 : Int} {μ : Mem} {M : JM} {P : JO → JM → Prop} {g2 : JV} {W3 : Int → Mem → Prop} {Q : Bool → Mem → Prop} (hv0 : rt v0 = 8) (hv1 : rt v1 = 8) (hM : Rl E M μ) (hQ : ∀ (r : Bool) (M1 : JM) (μ1 : Mem), Rl E M1 μ1 → Q r μ1 → P (.inl (some (.inl (b2i r)))) M1) (hW3 : ∀ (v4 : Int) (g2 : JV) (M1 : JM) (μ1 : Mem), Rl E M1 μ1 → W3 v4 μ1 → JX 64 3 [jR v0, jR v1, g2, jI v3, jI v4] [] M1 P) (h : d_Term_addPart_b3 v0 v1 v3 v4 μ W3 Q) : JX 64 3 [jR v0, jR v1, g2, jI v3, jI v4] [] M P := by
  unfold d_Term_addPart_b3 at h
  refine L_ps c64 (n := 2) (pc1 := 6) (ls1 := [jR v0, jR v1, g2, jI v3, jI v4]) (st1 := [jI v3, jI v4]) rfl ?_
  refine L_nb (p1 := 30) (p2 := 9) (c64 6 rfl) rfl jc_ge h (fun h => ?_) (fun h => ?_)
  · refine L_ps c64 (n := 3) (pc1 := 13) (ls1 := [jR v0, jR v1, g2, jI v3, jI v4]) (st1 := [jI v4, jR v1, jR v0]) rfl ?_
    refine L_cpI (c64 13 rfl) (js_v rfl ((Rl_tag hM hv1 (by decide)).trans js53)) hh64 (k_Term_get hv1 hM h) (fun r1 M hM h => ?_) (fun _ _ _ _ f => f.elim)
    refine L_cB (c64 16 rfl) (js_v rfl ((Rl_tag hM hv0 (by decide)).trans js57)) hh64 (k_Term_add hv0 hM h) (fun r3 M μ4 hM h => ?_) (fun _ _ _ _ f => f.elim)
    refine L_br (p1 := 24) (p2 := 22) (c64 19 rfl) rfl jc_neb h (fun h => ?_) (fun h => ?_)
    · refine L_ps c64 (n := 2) (pc1 := 3) (ls1 := [jR v0, jR v1, g2, jI v3, jI (wr (v4 + 1))]) (st1 := []) rfl ?_
      exact hW3 _ _ _ _ hM h
    · refine L_ps c64 (n := 1) (pc1 := 23) (ls1 := [jR v0, jR v1, g2, jI v3, jI v4]) (st1 := [jI 0]) rfl ?_
      exact L_retB (c64 23 rfl) (Or.inl rfl) (hQ false _ _ hM h)
  · refine L_ps c64 (n := 1) (pc1 := 31) (ls1 := [jR v0, jR v1, g2, jI v3, jI v4]) (st1 := [jI 1]) rfl ?_
    exact L_retB (c64 31 rfl) (Or.inr rfl) (hQ true _ _ hM h)
theorem k_Term_addPart_l3 {E : JE2} {v0 : Nat} {v1 : Nat} {v3 : Int} {v4 : Int} {μ : Mem} {M : JM} {P : JO → JM → Prop} {g2 : JV} {Q : Bool → Mem → Prop} (hv0 : rt v0 = 8) (hv1 : rt v1 = 8) (hM : Rl E M μ) (hQ : ∀ (r : Bool) (M1 : JM) (μ1 : Mem), Rl E M1 μ1 → Q r μ1 → P (.inl (some (.inl (b2i r)))) M1) (h : d_Term_addPart_l3 v0 v1 v3 v4 μ Q) : JX 64 3 [jR v0, jR v1, g2, jI v3, jI v4] [] M P := by
  refine h (fun v4 μ => ∀ (g2 : JV) (M : JM), Rl E M μ → JX 64 3 [jR v0, jR v1, g2, jI v3, jI v4] [] M P) ?_ _ _ hM
  intro v4 μ h g2 M hM
  exact k_Term_addPart_b3 hv0 hv1 hM hQ (fun v4 g2 M μ hM h => h g2 M hM) h
theorem k_Term_addPart {E : JE2} {v0 : Nat} {v1 : Nat} {v2 : Int} {v3 : Int} {μ : Mem} {M : JM} {Q : Bool → Mem → Prop} (hv0 : rt v0 = 8) (hv1 : rt v1 = 8) (hM : Rl E M μ) (h : d_Term_addPart v0 v1 v2 v3 μ Q) : JX 64 0 (jargs 64 [jR v0, jR v1, jI v2, jI v3]) [] M (PO E (QB Q) XN) := by
  unfold d_Term_addPart at h
  show JX 64 0 [jR v0, jR v1, jI v2, jI v3, jU] [] M (PO E (QB Q) XN)
  generalize hP : PO E (QB Q) XN = P
  have hQ : ∀ (r : Bool) (M1 : JM) (μ1 : Mem), Rl E M1 μ1 → Q r μ1 → P (.inl (some (.inl (b2i r)))) M1 := by rw [← hP]; exact fun r M1 μ1 a b => ⟨μ1, a, r, rfl, b⟩
  clear hP
  refine L_ps c64 (n := 2) (pc1 := 3) (ls1 := [jR v0, jR v1, jI v2, jI v3, jI v2]) (st1 := []) rfl ?_
  exact k_Term_addPart_l3 hv0 hv1 hM hQ h
