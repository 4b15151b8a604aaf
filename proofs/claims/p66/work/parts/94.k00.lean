/-! that the printed tables do what the texts say (written by wip/gen/dec.py), 0 -/
theorem k_State_clear {E : JE2} {v0 : Nat} {μ : Mem} {M : JM} {Q : Mem → Prop} (hv0 : rt v0 = 7) (hM : Rl E M μ) (h : d_State_clear v0 μ Q) : JX 15 0 (jargs 15 [jR v0]) [] M (PO E (QV Q) XN) := by
  unfold d_State_clear at h
  show JX 15 0 [jR v0] [] M (PO E (QV Q) XN)
  generalize hP : PO E (QV Q) XN = P
  have hQ : ∀ (M1 : JM) (μ1 : Mem), Rl E M1 μ1 → Q μ1 → P (.inl none) M1 := by rw [← hP]; exact fun M1 μ1 a b => ⟨μ1, a, rfl, b⟩
  clear hP
  refine L_ps c15 (n := 2) (pc1 := 2) (ls1 := [jR v0]) (st1 := [jI 0, jR v0]) rfl ?_
  refine L_putI (c15 2 rfl) hM hv0 rfl (fun M hM => ?_)
  refine L_ps c15 (n := 2) (pc1 := 7) (ls1 := [jR v0]) (st1 := [jI 0, jR v0]) rfl ?_
  refine L_putI (c15 7 rfl) hM hv0 rfl (fun M hM => ?_)
  exact L_end (c15 10 rfl) rfl (hQ _ _ hM h)
theorem k_Parser_byteAt {E : JE2} {v1 : Int} {μ : Mem} {M : JM} {Q : Int → Prop} (hM : Rl E M μ) (h : d_Parser_byteAt v1 μ Q) : JX 17 0 (jargs 17 [jR 72, jI v1]) [] M (PO E (pQI μ Q) XN) := by
  unfold d_Parser_byteAt at h
  show JX 17 0 [jR 72, jI v1] [] M (PO E (pQI μ Q) XN)
  generalize hP : PO E (pQI μ Q) XN = P
  have hQ : ∀ (r : Int) (M1 : JM), Rl E M1 μ → Q r → P (.inl (some (.inl r))) M1 := by rw [← hP]; exact fun r M1 a b => ⟨μ, a, rfl, r, rfl, b⟩
  clear hP
  refine L_ps c17 (n := 1) (pc1 := 1) (ls1 := [jR 72, jI v1]) (st1 := [jI v1]) rfl ?_
  refine L_br (p1 := 30) (p2 := 4) (c17 1 rfl) rfl jc_lt h (fun h => ?_) (fun h => ?_)
  · refine L_ps c17 (n := 1) (pc1 := 31) (ls1 := [jR 72, jI v1]) (st1 := [jI (-1)]) rfl ?_
    exact L_retI (c17 31 rfl) (hQ _ _ hM h)
  · refine L_ps c17 (n := 2) (pc1 := 6) (ls1 := [jR 72, jI v1]) (st1 := [jR 72, jI v1]) rfl ?_
    refine L_getI (c17 6 rfl) hM rt72 rfl ?_
    refine L_nb (p1 := 30) (p2 := 12) (c17 9 rfl) rfl jc_ge h (fun h => ?_) (fun h => ?_)
    · refine L_ps c17 (n := 2) (pc1 := 14) (ls1 := [jR 72, jI v1]) (st1 := [jR 72, jI v1]) rfl ?_
      refine L_getP (d := 57) (c17 14 rfl) hM rt72 rfl ?_
      refine L_alen (n := 500) (z := 500) (c17 17 rfl) hM rt129 (by decide) ln129 (by decide) rfl ?_
      refine L_nb (p1 := 30) (p2 := 21) (c17 18 rfl) rfl jc_ge h (fun h => ?_) (fun h => ?_)
      · refine L_ps c17 (n := 1) (pc1 := 22) (ls1 := [jR 72, jI v1]) (st1 := [jR 72]) rfl ?_
        refine L_getP (d := 57) (c17 22 rfl) hM rt72 rfl ?_
        refine L_ps c17 (n := 1) (pc1 := 26) (ls1 := [jR 72, jI v1]) (st1 := [jI v1, jR 129]) rfl ?_
        obtain ⟨hb, h⟩ := h
        refine L_iald (c17 26 rfl) hM rt129 ln129 hb ?_
        refine L_ps c17 (n := 1) (pc1 := 31) (ls1 := [jR 72, jI v1]) (st1 := [jI (μ 129 v1.toNat)]) rfl ?_
        exact L_retI (c17 31 rfl) (hQ _ _ hM h)
      · refine L_ps c17 (n := 1) (pc1 := 31) (ls1 := [jR 72, jI v1]) (st1 := [jI (-1)]) rfl ?_
        exact L_retI (c17 31 rfl) (hQ _ _ hM h)
    · refine L_ps c17 (n := 1) (pc1 := 31) (ls1 := [jR 72, jI v1]) (st1 := [jI (-1)]) rfl ?_
      exact L_retI (c17 31 rfl) (hQ _ _ hM h)
theorem k_Parser_kindOfByte_j65 {E : JE2} {v1 : Int} {t0 : Int} {μ : Mem} {M : JM} {P : JO → JM → Prop} {g0 : JV} {g2 : JV} {Q : Int → Prop} (hM : Rl E M μ) (hQ : ∀ (r : Int) (M1 : JM), Rl E M1 μ → Q r → P (.inl (some (.inl r))) M1) (h : d_Parser_kindOfByte_j65 v1 t0 μ Q) : JX 18 65 [g0, jI v1, g2] [jI t0] M P := by
  unfold d_Parser_kindOfByte_j65 at h
  refine L_ps c18 (n := 2) (pc1 := 67) (ls1 := [g0, jI v1, jI t0]) (st1 := [jI t0]) rfl ?_
  refine L_br (p1 := 74) (p2 := 70) (c18 67 rfl) rfl jc_eq h (fun h => ?_) (fun h => ?_)
  · refine L_ps c18 (n := 1) (pc1 := 75) (ls1 := [g0, jI v1, jI t0]) (st1 := [jI 1]) rfl ?_
    exact L_retI (c18 75 rfl) (hQ _ _ hM h)
  · refine L_ps c18 (n := 2) (pc1 := 75) (ls1 := [g0, jI v1, jI t0]) (st1 := [jI v1]) rfl ?_
    exact L_retI (c18 75 rfl) (hQ _ _ hM h)
theorem k_Parser_kindOfByte_j60 {E : JE2} {v1 : Int} {μ : Mem} {M : JM} {P : JO → JM → Prop} {g0 : JV} {g2 : JV} {Q : Int → Prop} (hM : Rl E M μ) (hQ : ∀ (r : Int) (M1 : JM), Rl E M1 μ → Q r → P (.inl (some (.inl r))) M1) (h : d_Parser_kindOfByte_j60 v1 μ Q) : JX 18 60 [g0, jI v1, g2] [] M P := by
  unfold d_Parser_kindOfByte_j60 at h
  refine L_ps c18 (n := 2) (pc1 := 65) (ls1 := [g0, jI v1, g2]) (st1 := [jI 1]) rfl ?_
  exact k_Parser_kindOfByte_j65 hM hQ h
theorem k_Parser_kindOfByte_j30 {E : JE2} {v1 : Int} {μ : Mem} {M : JM} {P : JO → JM → Prop} {g0 : JV} {g2 : JV} {Q : Int → Prop} (hM : Rl E M μ) (hQ : ∀ (r : Int) (M1 : JM), Rl E M1 μ → Q r → P (.inl (some (.inl r))) M1) (h : d_Parser_kindOfByte_j30 v1 μ Q) : JX 18 30 [g0, jI v1, g2] [] M P := by
  unfold d_Parser_kindOfByte_j30 at h
  refine L_ps c18 (n := 2) (pc1 := 33) (ls1 := [g0, jI v1, g2]) (st1 := [jI 59, jI v1]) rfl ?_
  refine L_br (p1 := 60) (p2 := 36) (c18 33 rfl) rfl jc_eq h (fun h => ?_) (fun h => ?_)
  · exact k_Parser_kindOfByte_j60 hM hQ h
  · refine L_ps c18 (n := 2) (pc1 := 39) (ls1 := [g0, jI v1, g2]) (st1 := [jI 61, jI v1]) rfl ?_
    refine L_br (p1 := 60) (p2 := 42) (c18 39 rfl) rfl jc_eq h (fun h => ?_) (fun h => ?_)
    · exact k_Parser_kindOfByte_j60 hM hQ h
    · refine L_ps c18 (n := 2) (pc1 := 45) (ls1 := [g0, jI v1, g2]) (st1 := [jI 44, jI v1]) rfl ?_
      refine L_br (p1 := 60) (p2 := 48) (c18 45 rfl) rfl jc_eq h (fun h => ?_) (fun h => ?_)
      · exact k_Parser_kindOfByte_j60 hM hQ h
      · refine L_ps c18 (n := 2) (pc1 := 51) (ls1 := [g0, jI v1, g2]) (st1 := [jI 40, jI v1]) rfl ?_
        refine L_br (p1 := 60) (p2 := 54) (c18 51 rfl) rfl jc_eq h (fun h => ?_) (fun h => ?_)
        · exact k_Parser_kindOfByte_j60 hM hQ h
        · refine L_ps c18 (n := 2) (pc1 := 57) (ls1 := [g0, jI v1, g2]) (st1 := [jI 41, jI v1]) rfl ?_
          refine L_nb (p1 := 64) (p2 := 60) (c18 57 rfl) rfl jc_ne h (fun h => ?_) (fun h => ?_)
          · exact k_Parser_kindOfByte_j60 hM hQ h
          · refine L_ps c18 (n := 1) (pc1 := 65) (ls1 := [g0, jI v1, g2]) (st1 := [jI 0]) rfl ?_
            exact k_Parser_kindOfByte_j65 hM hQ h
theorem k_Parser_kindOfByte_j15 {E : JE2} {v1 : Int} {μ : Mem} {M : JM} {P : JO → JM → Prop} {g0 : JV} {g2 : JV} {Q : Int → Prop} (hM : Rl E M μ) (hQ : ∀ (r : Int) (M1 : JM), Rl E M1 μ → Q r → P (.inl (some (.inl r))) M1) (h : d_Parser_kindOfByte_j15 v1 μ Q) : JX 18 15 [g0, jI v1, g2] [] M P := by
  unfold d_Parser_kindOfByte_j15 at h
  refine L_ps c18 (n := 2) (pc1 := 18) (ls1 := [g0, jI v1, g2]) (st1 := [jI 48, jI v1]) rfl ?_
  refine L_br (p1 := 30) (p2 := 21) (c18 18 rfl) rfl jc_lt h (fun h => ?_) (fun h => ?_)
  · exact k_Parser_kindOfByte_j30 hM hQ h
  · refine L_ps c18 (n := 2) (pc1 := 24) (ls1 := [g0, jI v1, g2]) (st1 := [jI 57, jI v1]) rfl ?_
    refine L_br (p1 := 30) (p2 := 27) (c18 24 rfl) rfl jc_gt h (fun h => ?_) (fun h => ?_)
    · exact k_Parser_kindOfByte_j30 hM hQ h
    · refine L_ps c18 (n := 1) (pc1 := 29) (ls1 := [g0, jI v1, g2]) (st1 := [jI 48]) rfl ?_
      exact L_retI (c18 29 rfl) (hQ _ _ hM h)
theorem k_Parser_kindOfByte {E : JE2} {v1 : Int} {μ : Mem} {M : JM} {Q : Int → Prop} (hM : Rl E M μ) (h : d_Parser_kindOfByte v1 μ Q) : JX 18 0 (jargs 18 [jR 72, jI v1]) [] M (PO E (pQI μ Q) XN) := by
  unfold d_Parser_kindOfByte at h
  show JX 18 0 [jR 72, jI v1, jU] [] M (PO E (pQI μ Q) XN)
  generalize hP : PO E (pQI μ Q) XN = P
  have hQ : ∀ (r : Int) (M1 : JM), Rl E M1 μ → Q r → P (.inl (some (.inl r))) M1 := by rw [← hP]; exact fun r M1 a b => ⟨μ, a, rfl, r, rfl, b⟩
  clear hP
  refine L_ps c18 (n := 2) (pc1 := 3) (ls1 := [jR 72, jI v1, jU]) (st1 := [jI 65, jI v1]) rfl ?_
  refine L_br (p1 := 15) (p2 := 6) (c18 3 rfl) rfl jc_lt h (fun h => ?_) (fun h => ?_)
  · exact k_Parser_kindOfByte_j15 hM hQ h
  · refine L_ps c18 (n := 2) (pc1 := 9) (ls1 := [jR 72, jI v1, jU]) (st1 := [jI 73, jI v1]) rfl ?_
    refine L_nb (p1 := 15) (p2 := 12) (c18 9 rfl) rfl jc_ge h (fun h => ?_) (fun h => ?_)
    · refine L_ps c18 (n := 1) (pc1 := 14) (ls1 := [jR 72, jI v1, jU]) (st1 := [jI 65]) rfl ?_
      exact L_retI (c18 14 rfl) (hQ _ _ hM h)
    · exact k_Parser_kindOfByte_j15 hM hQ h
theorem k_Parser_next_j135 {E : JE2} {t1 : Int} {μ : Mem} {M : JM} {P : JO → JM → Prop} {g0 : JV} {Q : Mem → Prop} (hM : Rl E M μ) (hQ : ∀ (M1 : JM) (μ1 : Mem), Rl E M1 μ1 → Q μ1 → P (.inl none) M1) (h : d_Parser_next_j135 t1 μ Q) : JX 16 135 [g0] [jI t1, jR 72] M P := by
  unfold d_Parser_next_j135 at h
  refine L_putI (c16 135 rfl) hM rt72 rfl (fun M hM => ?_)
  refine L_ps c16 (n := 1) (pc1 := 186) (ls1 := [g0]) (st1 := []) rfl ?_
  exact L_end (c16 186 rfl) rfl (hQ _ _ hM h)
theorem k_Parser_next_j103 {E : JE2} {μ : Mem} {M : JM} {P : JO → JM → Prop} {Q : Mem → Prop} (hM : Rl E M μ) (hQ : ∀ (M1 : JM) (μ1 : Mem), Rl E M1 μ1 → Q μ1 → P (.inl none) M1) (h : d_Parser_next_j103 μ Q) : JX 16 103 [jR 72] [] M P := by
  unfold d_Parser_next_j103 at h
  refine L_ps c16 (n := 1) (pc1 := 104) (ls1 := [jR 72]) (st1 := [jR 72]) rfl ?_
  refine L_getI (c16 104 rfl) hM rt72 rfl ?_
  refine L_ps c16 (n := 1) (pc1 := 108) (ls1 := [jR 72]) (st1 := [jR 72, jI (μ 72 11)]) rfl ?_
  refine L_getI (c16 108 rfl) hM rt72 rfl ?_
  refine L_nb (p1 := 141) (p2 := 114) (c16 111 rfl) rfl jc_le h (fun h => ?_) (fun h => ?_)
  · refine L_ps c16 (n := 2) (pc1 := 116) (ls1 := [jR 72]) (st1 := [jR 72, jR 72]) rfl ?_
    refine L_getI (c16 116 rfl) hM rt72 rfl ?_
    refine L_ps c16 (n := 1) (pc1 := 120) (ls1 := [jR 72]) (st1 := [jR 72, jI (μ 72 11), jR 72]) rfl ?_
    refine L_getI (c16 120 rfl) hM rt72 rfl ?_
    refine L_ps c16 (n := 2) (pc1 := 126) (ls1 := [jR 72]) (st1 := [jI 6, jI (wr ((μ 72 11) - (μ 72 10))), jR 72]) rfl ?_
    refine L_nb (p1 := 133) (p2 := 129) (c16 126 rfl) rfl jc_le h (fun h => ?_) (fun h => ?_)
    · refine L_ps c16 (n := 2) (pc1 := 135) (ls1 := [jR 72]) (st1 := [jI 1, jR 72]) rfl ?_
      exact k_Parser_next_j135 hM hQ h
    · refine L_ps c16 (n := 1) (pc1 := 135) (ls1 := [jR 72]) (st1 := [jI 97, jR 72]) rfl ?_
      exact k_Parser_next_j135 hM hQ h
  · refine L_ps c16 (n := 1) (pc1 := 142) (ls1 := [jR 72]) (st1 := [jR 72]) rfl ?_
    refine L_getI (c16 142 rfl) hM rt72 rfl ?_
    refine L_ps c16 (n := 1) (pc1 := 146) (ls1 := [jR 72]) (st1 := [jR 72, jI (μ 72 10)]) rfl ?_
    refine L_getI (c16 146 rfl) hM rt72 rfl ?_
    refine L_br (p1 := 160) (p2 := 152) (c16 149 rfl) rfl jc_lt h (fun h => ?_) (fun h => ?_)
    · refine L_ps c16 (n := 4) (pc1 := 164) (ls1 := [jR 72]) (st1 := [jR 72, jR 72, jR 72, jR 72]) rfl ?_
      refine L_getI (c16 164 rfl) hM rt72 rfl ?_
      refine L_cpI (c16 167 rfl) (js_v rfl ((Rl_tag hM rt72 (by decide)).trans js17)) hh16 (k_Parser_byteAt hM h) (fun r5 M hM h => ?_) (fun _ _ _ _ f => f.elim)
      refine L_cpI (c16 170 rfl) (js_v rfl ((Rl_tag hM rt72 (by decide)).trans js18)) hh16 (k_Parser_kindOfByte hM h) (fun r7 M hM h => ?_) (fun _ _ _ _ f => f.elim)
      refine L_putI (c16 173 rfl) hM rt72 rfl (fun M hM => ?_)
      refine L_ps c16 (n := 2) (pc1 := 178) (ls1 := [jR 72]) (st1 := [jR 72, jR 72]) rfl ?_
      refine L_getI (c16 178 rfl) hM rt72 rfl ?_
      refine L_ps c16 (n := 2) (pc1 := 183) (ls1 := [jR 72]) (st1 := [jI (wr (((mup μ 72 9 r7) 72 10) + 1)), jR 72]) rfl ?_
      refine L_putI (c16 183 rfl) hM rt72 rfl (fun M hM => ?_)
      exact L_end (c16 186 rfl) rfl (hQ _ _ hM h)
    · refine L_ps c16 (n := 2) (pc1 := 154) (ls1 := [jR 72]) (st1 := [jI 0, jR 72]) rfl ?_
      refine L_putI (c16 154 rfl) hM rt72 rfl (fun M hM => ?_)
      refine L_ps c16 (n := 1) (pc1 := 186) (ls1 := [jR 72]) (st1 := []) rfl ?_
      exact L_end (c16 186 rfl) rfl (hQ _ _ hM h)
theorem k_Parser_next_b53 {E : JE2} {μ : Mem} {M : JM} {P : JO → JM → Prop} {W53 : Mem → Prop} {Q : Mem → Prop} (hM : Rl E M μ) (hQ : ∀ (M1 : JM) (μ1 : Mem), Rl E M1 μ1 → Q μ1 → P (.inl none) M1) (hW53 : ∀ (M1 : JM) (μ1 : Mem), Rl E M1 μ1 → W53 μ1 → JX 16 53 [jR 72] [] M1 P) (h : d_Parser_next_b53 μ W53 Q) : JX 16 53 [jR 72] [] M P := by
  unfold d_Parser_next_b53 at h
  refine L_ps c16 (n := 1) (pc1 := 54) (ls1 := [jR 72]) (st1 := [jR 72]) rfl ?_
  refine L_getI (c16 54 rfl) hM rt72 rfl ?_
  refine L_ps c16 (n := 1) (pc1 := 58) (ls1 := [jR 72]) (st1 := [jR 72, jI (μ 72 11)]) rfl ?_
  refine L_getI (c16 58 rfl) hM rt72 rfl ?_
  refine L_nb (p1 := 103) (p2 := 64) (c16 61 rfl) rfl jc_ge h (fun h => ?_) (fun h => ?_)
  · refine L_ps c16 (n := 2) (pc1 := 66) (ls1 := [jR 72]) (st1 := [jR 72, jR 72]) rfl ?_
    refine L_getI (c16 66 rfl) hM rt72 rfl ?_
    refine L_cpI (c16 69 rfl) (js_v rfl ((Rl_tag hM rt72 (by decide)).trans js17)) hh16 (k_Parser_byteAt hM h) (fun r3 M hM h => ?_) (fun _ _ _ _ f => f.elim)
    refine L_ps c16 (n := 1) (pc1 := 74) (ls1 := [jR 72]) (st1 := [jI 97, jI r3]) rfl ?_
    refine L_br (p1 := 103) (p2 := 77) (c16 74 rfl) rfl jc_lt h (fun h => ?_) (fun h => ?_)
    · exact k_Parser_next_j103 hM hQ h
    · refine L_ps c16 (n := 2) (pc1 := 79) (ls1 := [jR 72]) (st1 := [jR 72, jR 72]) rfl ?_
      refine L_getI (c16 79 rfl) hM rt72 rfl ?_
      refine L_cpI (c16 82 rfl) (js_v rfl ((Rl_tag hM rt72 (by decide)).trans js17)) hh16 (k_Parser_byteAt hM h) (fun r9 M hM h => ?_) (fun _ _ _ _ f => f.elim)
      refine L_ps c16 (n := 1) (pc1 := 87) (ls1 := [jR 72]) (st1 := [jI 122, jI r9]) rfl ?_
      refine L_br (p1 := 103) (p2 := 90) (c16 87 rfl) rfl jc_gt h (fun h => ?_) (fun h => ?_)
      · exact k_Parser_next_j103 hM hQ h
      · refine L_ps c16 (n := 2) (pc1 := 92) (ls1 := [jR 72]) (st1 := [jR 72, jR 72]) rfl ?_
        refine L_getI (c16 92 rfl) hM rt72 rfl ?_
        refine L_ps c16 (n := 2) (pc1 := 97) (ls1 := [jR 72]) (st1 := [jI (wr ((μ 72 11) + 1)), jR 72]) rfl ?_
        refine L_putI (c16 97 rfl) hM rt72 rfl (fun M hM => ?_)
        refine L_ps c16 (n := 1) (pc1 := 53) (ls1 := [jR 72]) (st1 := []) rfl ?_
        exact hW53 _ _ hM h
  · exact k_Parser_next_j103 hM hQ h
theorem k_Parser_next_l53 {E : JE2} {μ : Mem} {M : JM} {P : JO → JM → Prop} {Q : Mem → Prop} (hM : Rl E M μ) (hQ : ∀ (M1 : JM) (μ1 : Mem), Rl E M1 μ1 → Q μ1 → P (.inl none) M1) (h : d_Parser_next_l53 μ Q) : JX 16 53 [jR 72] [] M P := by
  refine h (fun μ => ∀ (M : JM), Rl E M μ → JX 16 53 [jR 72] [] M P) ?_ _ hM
  intro μ h M hM
  exact k_Parser_next_b53 hM hQ (fun M μ hM h => h M hM) h
theorem k_Parser_next_j45 {E : JE2} {μ : Mem} {M : JM} {P : JO → JM → Prop} {Q : Mem → Prop} (hM : Rl E M μ) (hQ : ∀ (M1 : JM) (μ1 : Mem), Rl E M1 μ1 → Q μ1 → P (.inl none) M1) (h : d_Parser_next_j45 μ Q) : JX 16 45 [jR 72] [] M P := by
  unfold d_Parser_next_j45 at h
  refine L_ps c16 (n := 2) (pc1 := 47) (ls1 := [jR 72]) (st1 := [jR 72, jR 72]) rfl ?_
  refine L_getI (c16 47 rfl) hM rt72 rfl ?_
  refine L_putI (c16 50 rfl) hM rt72 rfl (fun M hM => ?_)
  exact k_Parser_next_l53 hM hQ h
theorem k_Parser_next_b8 {E : JE2} {μ : Mem} {M : JM} {P : JO → JM → Prop} {W8 : Mem → Prop} {Q : Mem → Prop} (hM : Rl E M μ) (hQ : ∀ (M1 : JM) (μ1 : Mem), Rl E M1 μ1 → Q μ1 → P (.inl none) M1) (hW8 : ∀ (M1 : JM) (μ1 : Mem), Rl E M1 μ1 → W8 μ1 → JX 16 8 [jR 72] [] M1 P) (h : d_Parser_next_b8 μ W8 Q) : JX 16 8 [jR 72] [] M P := by
  unfold d_Parser_next_b8 at h
  refine L_ps c16 (n := 1) (pc1 := 9) (ls1 := [jR 72]) (st1 := [jR 72]) rfl ?_
  refine L_getI (c16 9 rfl) hM rt72 rfl ?_
  refine L_ps c16 (n := 1) (pc1 := 13) (ls1 := [jR 72]) (st1 := [jR 72, jI (μ 72 10)]) rfl ?_
  refine L_getI (c16 13 rfl) hM rt72 rfl ?_
  refine L_nb (p1 := 45) (p2 := 19) (c16 16 rfl) rfl jc_ge h (fun h => ?_) (fun h => ?_)
  · refine L_ps c16 (n := 2) (pc1 := 21) (ls1 := [jR 72]) (st1 := [jR 72, jR 72]) rfl ?_
    refine L_getI (c16 21 rfl) hM rt72 rfl ?_
    refine L_cpI (c16 24 rfl) (js_v rfl ((Rl_tag hM rt72 (by decide)).trans js17)) hh16 (k_Parser_byteAt hM h) (fun r1 M hM h => ?_) (fun _ _ _ _ f => f.elim)
    refine L_ps c16 (n := 1) (pc1 := 29) (ls1 := [jR 72]) (st1 := [jI 32, jI r1]) rfl ?_
    refine L_nb (p1 := 45) (p2 := 32) (c16 29 rfl) rfl jc_ne h (fun h => ?_) (fun h => ?_)
    · refine L_ps c16 (n := 2) (pc1 := 34) (ls1 := [jR 72]) (st1 := [jR 72, jR 72]) rfl ?_
      refine L_getI (c16 34 rfl) hM rt72 rfl ?_
      refine L_ps c16 (n := 2) (pc1 := 39) (ls1 := [jR 72]) (st1 := [jI (wr ((μ 72 10) + 1)), jR 72]) rfl ?_
      refine L_putI (c16 39 rfl) hM rt72 rfl (fun M hM => ?_)
      refine L_ps c16 (n := 1) (pc1 := 8) (ls1 := [jR 72]) (st1 := []) rfl ?_
      exact hW8 _ _ hM h
    · exact k_Parser_next_j45 hM hQ h
  · exact k_Parser_next_j45 hM hQ h
theorem k_Parser_next_l8 {E : JE2} {μ : Mem} {M : JM} {P : JO → JM → Prop} {Q : Mem → Prop} (hM : Rl E M μ) (hQ : ∀ (M1 : JM) (μ1 : Mem), Rl E M1 μ1 → Q μ1 → P (.inl none) M1) (h : d_Parser_next_l8 μ Q) : JX 16 8 [jR 72] [] M P := by
  refine h (fun μ => ∀ (M : JM), Rl E M μ → JX 16 8 [jR 72] [] M P) ?_ _ hM
  intro μ h M hM
  exact k_Parser_next_b8 hM hQ (fun M μ hM h => h M hM) h
theorem k_Parser_next {E : JE2} {μ : Mem} {M : JM} {Q : Mem → Prop} (hM : Rl E M μ) (h : d_Parser_next μ Q) : JX 16 0 (jargs 16 [jR 72]) [] M (PO E (QV Q) XN) := by
  unfold d_Parser_next at h
  show JX 16 0 [jR 72] [] M (PO E (QV Q) XN)
  generalize hP : PO E (QV Q) XN = P
  have hQ : ∀ (M1 : JM) (μ1 : Mem), Rl E M1 μ1 → Q μ1 → P (.inl none) M1 := by rw [← hP]; exact fun M1 μ1 a b => ⟨μ1, a, rfl, b⟩
  clear hP
  refine L_ps c16 (n := 2) (pc1 := 2) (ls1 := [jR 72]) (st1 := [jR 72, jR 72]) rfl ?_
  refine L_getI (c16 2 rfl) hM rt72 rfl ?_
  refine L_putI (c16 5 rfl) hM rt72 rfl (fun M hM => ?_)
  exact k_Parser_next_l8 hM hQ h
theorem k_Parser_isWord_b29 {E : JE2} {v1 : Nat} {v2 : Int} {μ : Mem} {M : JM} {P : JO → JM → Prop} {W29 : Int → Prop} {Q : Bool → Prop} (hlit : v1 < 7) (hM : Rl E M μ) (hQ : ∀ (r : Bool) (M1 : JM), Rl E M1 μ → Q r → P (.inl (some (.inl (b2i r)))) M1) (hW29 : ∀ (v2 : Int) (M1 : JM), Rl E M1 μ → W29 v2 → JX 19 29 [jR 72, jR (2000000 + v1), jI v2] [] M1 P) (h : d_Parser_isWord_b29 v1 v2 μ W29 Q) : JX 19 29 [jR 72, jR (2000000 + v1), jI v2] [] M P := by
  unfold d_Parser_isWord_b29 at h
  refine L_ps c19 (n := 2) (pc1 := 31) (ls1 := [jR 72, jR (2000000 + v1), jI v2]) (st1 := [jR (2000000 + v1), jI v2]) rfl ?_
  refine L_cpI (c19 31 rfl) (js_v rfl ((str_tag hlit).trans js20)) hh19 (k_String_length hlit hM h) (fun r3 M hM h => ?_) (fun _ _ _ _ f => f.elim)
  refine L_nb (p1 := 63) (p2 := 37) (c19 34 rfl) rfl jc_ge h (fun h => ?_) (fun h => ?_)
  · refine L_ps c19 (n := 2) (pc1 := 39) (ls1 := [jR 72, jR (2000000 + v1), jI v2]) (st1 := [jR 72, jR 72]) rfl ?_
    refine L_getI (c19 39 rfl) hM rt72 rfl ?_
    refine L_ps c19 (n := 2) (pc1 := 44) (ls1 := [jR 72, jR (2000000 + v1), jI v2]) (st1 := [jI (wr ((μ 72 10) + v2)), jR 72]) rfl ?_
    refine L_cpI (c19 44 rfl) (js_v rfl ((Rl_tag hM rt72 (by decide)).trans js17)) hh19 (k_Parser_byteAt hM h) (fun r5 M hM h => ?_) (fun _ _ _ _ f => f.elim)
    refine L_ps c19 (n := 2) (pc1 := 49) (ls1 := [jR 72, jR (2000000 + v1), jI v2]) (st1 := [jI v2, jR (2000000 + v1), jI r5]) rfl ?_
    refine L_cpI (c19 49 rfl) (js_v rfl ((str_tag hlit).trans js22)) hh19 (k_String_charAt hlit hM h) (fun r7 M hM h => ?_) (fun _ _ _ _ f => f.elim)
    refine L_br (p1 := 57) (p2 := 55) (c19 52 rfl) rfl jc_eq h (fun h => ?_) (fun h => ?_)
    · refine L_ps c19 (n := 2) (pc1 := 29) (ls1 := [jR 72, jR (2000000 + v1), jI (wr (v2 + 1))]) (st1 := []) rfl ?_
      exact hW29 _ _ hM h
    · refine L_ps c19 (n := 1) (pc1 := 56) (ls1 := [jR 72, jR (2000000 + v1), jI v2]) (st1 := [jI 0]) rfl ?_
      exact L_retB (c19 56 rfl) (Or.inl rfl) (hQ false _ hM h)
  · refine L_ps c19 (n := 1) (pc1 := 64) (ls1 := [jR 72, jR (2000000 + v1), jI v2]) (st1 := [jI 1]) rfl ?_
    exact L_retB (c19 64 rfl) (Or.inr rfl) (hQ true _ hM h)
theorem k_Parser_isWord_l29 {E : JE2} {v1 : Nat} {v2 : Int} {μ : Mem} {M : JM} {P : JO → JM → Prop} {Q : Bool → Prop} (hlit : v1 < 7) (hM : Rl E M μ) (hQ : ∀ (r : Bool) (M1 : JM), Rl E M1 μ → Q r → P (.inl (some (.inl (b2i r)))) M1) (h : d_Parser_isWord_l29 v1 v2 μ Q) : JX 19 29 [jR 72, jR (2000000 + v1), jI v2] [] M P := by
  refine h (fun v2 => ∀ (M : JM), Rl E M μ → JX 19 29 [jR 72, jR (2000000 + v1), jI v2] [] M P) ?_ _ hM
  intro v2 h M hM
  exact k_Parser_isWord_b29 hlit hM hQ (fun v2 M hM h => h M hM) h
theorem k_Parser_isWord {E : JE2} {v1 : Nat} {μ : Mem} {M : JM} {Q : Bool → Prop} (hlit : v1 < 7) (hM : Rl E M μ) (h : d_Parser_isWord v1 μ Q) : JX 19 0 (jargs 19 [jR 72, jR (2000000 + v1)]) [] M (PO E (pQB μ Q) XN) := by
  unfold d_Parser_isWord at h
  show JX 19 0 [jR 72, jR (2000000 + v1), jU] [] M (PO E (pQB μ Q) XN)
  generalize hP : PO E (pQB μ Q) XN = P
  have hQ : ∀ (r : Bool) (M1 : JM), Rl E M1 μ → Q r → P (.inl (some (.inl (b2i r)))) M1 := by rw [← hP]; exact fun r M1 a b => ⟨μ, a, rfl, r, rfl, b⟩
  clear hP
  refine L_ps c19 (n := 1) (pc1 := 1) (ls1 := [jR 72, jR (2000000 + v1), jU]) (st1 := [jR 72]) rfl ?_
  refine L_getI (c19 1 rfl) hM rt72 rfl ?_
  refine L_ps c19 (n := 1) (pc1 := 6) (ls1 := [jR 72, jR (2000000 + v1), jU]) (st1 := [jI 97, jI (μ 72 9)]) rfl ?_
  refine L_nb (p1 := 25) (p2 := 9) (c19 6 rfl) rfl jc_ne h (fun h => ?_) (fun h => ?_)
  · refine L_ps c19 (n := 1) (pc1 := 10) (ls1 := [jR 72, jR (2000000 + v1), jU]) (st1 := [jR 72]) rfl ?_
    refine L_getI (c19 10 rfl) hM rt72 rfl ?_
    refine L_ps c19 (n := 1) (pc1 := 14) (ls1 := [jR 72, jR (2000000 + v1), jU]) (st1 := [jR 72, jI (μ 72 11)]) rfl ?_
    refine L_getI (c19 14 rfl) hM rt72 rfl ?_
    refine L_ps c19 (n := 2) (pc1 := 19) (ls1 := [jR 72, jR (2000000 + v1), jU]) (st1 := [jR (2000000 + v1), jI (wr ((μ 72 11) - (μ 72 10)))]) rfl ?_
    refine L_cpI (c19 19 rfl) (js_v rfl ((str_tag hlit).trans js20)) hh19 (k_String_length hlit hM h) (fun r1 M hM h => ?_) (fun _ _ _ _ f => f.elim)
    refine L_br (p1 := 27) (p2 := 25) (c19 22 rfl) rfl jc_eq h (fun h => ?_) (fun h => ?_)
    · refine L_ps c19 (n := 2) (pc1 := 29) (ls1 := [jR 72, jR (2000000 + v1), jI 0]) (st1 := []) rfl ?_
      exact k_Parser_isWord_l29 hlit hM hQ h
    · refine L_ps c19 (n := 1) (pc1 := 26) (ls1 := [jR 72, jR (2000000 + v1), jU]) (st1 := [jI 0]) rfl ?_
      exact L_retB (c19 26 rfl) (Or.inl rfl) (hQ false _ hM h)
  · refine L_ps c19 (n := 1) (pc1 := 26) (ls1 := [jR 72, jR (2000000 + v1), jU]) (st1 := [jI 0]) rfl ?_
    exact L_retB (c19 26 rfl) (Or.inl rfl) (hQ false _ hM h)
theorem k_Parser_fail {E : JE2} {v1 : Int} {μ : Mem} {M : JM} {Q : Bool → Mem → Prop} (hM : Rl E M μ) (h : d_Parser_fail v1 μ Q) : JX 27 0 (jargs 27 [jR 72, jI v1]) [] M (PO E (QB Q) XN) := by
  unfold d_Parser_fail at h
  show JX 27 0 [jR 72, jI v1] [] M (PO E (QB Q) XN)
  generalize hP : PO E (QB Q) XN = P
  have hQ : ∀ (r : Bool) (M1 : JM) (μ1 : Mem), Rl E M1 μ1 → Q r μ1 → P (.inl (some (.inl (b2i r)))) M1 := by rw [← hP]; exact fun r M1 μ1 a b => ⟨μ1, a, r, rfl, b⟩
  clear hP
  refine L_ps c27 (n := 2) (pc1 := 2) (ls1 := [jR 72, jI v1]) (st1 := [jI v1, jR 72]) rfl ?_
  refine L_putI (c27 2 rfl) hM rt72 rfl (fun M hM => ?_)
  refine L_ps c27 (n := 2) (pc1 := 7) (ls1 := [jR 72, jI v1]) (st1 := [jR 72, jR 72]) rfl ?_
  refine L_getI (c27 7 rfl) hM rt72 rfl ?_
  refine L_putI (c27 10 rfl) hM rt72 rfl (fun M hM => ?_)
  refine L_ps c27 (n := 1) (pc1 := 14) (ls1 := [jR 72, jI v1]) (st1 := [jI 0]) rfl ?_
  exact L_retB (c27 14 rfl) (Or.inl rfl) (hQ false _ _ hM h)
theorem k_Signature_nameLength {E : JE2} {v0 : Nat} {v1 : Int} {μ : Mem} {M : JM} {Q : Int → Prop} (hv0 : rt v0 = 6) (hM : Rl E M μ) (h : d_Signature_nameLength v0 v1 μ Q) : JX 31 0 (jargs 31 [jR v0, jI v1]) [] M (PO E (pQI μ Q) XN) := by
  unfold d_Signature_nameLength at h
  show JX 31 0 [jR v0, jI v1] [] M (PO E (pQI μ Q) XN)
  generalize hP : PO E (pQI μ Q) XN = P
  have hQ : ∀ (r : Int) (M1 : JM), Rl E M1 μ → Q r → P (.inl (some (.inl r))) M1 := by rw [← hP]; exact fun r M1 a b => ⟨μ, a, rfl, r, rfl, b⟩
  clear hP
  refine L_ps c31 (n := 1) (pc1 := 1) (ls1 := [jR v0, jI v1]) (st1 := [jI v1]) rfl ?_
  refine L_br (p1 := 19) (p2 := 4) (c31 1 rfl) rfl jc_lt h (fun h => ?_) (fun h => ?_)
  · refine L_ps c31 (n := 1) (pc1 := 20) (ls1 := [jR v0, jI v1]) (st1 := [jI 0]) rfl ?_
    exact L_retI (c31 20 rfl) (hQ _ _ hM h)
  · refine L_ps c31 (n := 2) (pc1 := 7) (ls1 := [jR v0, jI v1]) (st1 := [jI 8, jI v1]) rfl ?_
    refine L_nb (p1 := 19) (p2 := 10) (c31 7 rfl) rfl jc_ge h (fun h => ?_) (fun h => ?_)
    · refine L_ps c31 (n := 1) (pc1 := 11) (ls1 := [jR v0, jI v1]) (st1 := [jR v0]) rfl ?_
      refine L_getP (d := 2) (c31 11 rfl) hM hv0 rfl ?_
      refine L_ps c31 (n := 1) (pc1 := 15) (ls1 := [jR v0, jI v1]) (st1 := [jI v1, jR (v0 + 2)]) rfl ?_
      obtain ⟨hb, h⟩ := h
      refine L_iald (c31 15 rfl) hM (rp_6_2 hv0) (lp_6_2 hv0) hb ?_
      refine L_ps c31 (n := 1) (pc1 := 20) (ls1 := [jR v0, jI v1]) (st1 := [jI (μ (v0 + 2) v1.toNat)]) rfl ?_
      exact L_retI (c31 20 rfl) (hQ _ _ hM h)
    · refine L_ps c31 (n := 1) (pc1 := 20) (ls1 := [jR v0, jI v1]) (st1 := [jI 0]) rfl ?_
      exact L_retI (c31 20 rfl) (hQ _ _ hM h)
theorem k_Signature_letter_j25 {E : JE2} {v0 : Nat} {v1 : Int} {v2 : Int} {t0 : Int} {μ : Mem} {M : JM} {P : JO → JM → Prop} {g3 : JV} {Q : Int → Prop} (hv0 : rt v0 = 6) (hM : Rl E M μ) (hQ : ∀ (r : Int) (M1 : JM), Rl E M1 μ → Q r → P (.inl (some (.inl r))) M1) (h : d_Signature_letter_j25 v0 v1 v2 t0 μ Q) : JX 32 25 [jR v0, jI v1, jI v2, g3] [jI t0] M P := by
  unfold d_Signature_letter_j25 at h
  refine L_ps c32 (n := 2) (pc1 := 27) (ls1 := [jR v0, jI v1, jI v2, jI t0]) (st1 := [jI t0]) rfl ?_
  refine L_br (p1 := 54) (p2 := 30) (c32 27 rfl) rfl jc_eq h (fun h => ?_) (fun h => ?_)
  · refine L_ps c32 (n := 1) (pc1 := 55) (ls1 := [jR v0, jI v1, jI v2, jI t0]) (st1 := [jI (-1)]) rfl ?_
    exact L_retI (c32 55 rfl) (hQ _ _ hM h)
  · refine L_ps c32 (n := 2) (pc1 := 32) (ls1 := [jR v0, jI v1, jI v2, jI t0]) (st1 := [jR v0, jI v2]) rfl ?_
    refine L_getP (d := 2) (c32 32 rfl) hM hv0 rfl ?_
    refine L_ps c32 (n := 1) (pc1 := 36) (ls1 := [jR v0, jI v1, jI v2, jI t0]) (st1 := [jI v1, jR (v0 + 2), jI v2]) rfl ?_
    obtain ⟨hb, h⟩ := h
    refine L_iald (c32 36 rfl) hM (rp_6_2 hv0) (lp_6_2 hv0) hb ?_
    refine L_nb (p1 := 54) (p2 := 40) (c32 37 rfl) rfl jc_ge h (fun h => ?_) (fun h => ?_)
    · refine L_ps c32 (n := 1) (pc1 := 41) (ls1 := [jR v0, jI v1, jI v2, jI t0]) (st1 := [jR v0]) rfl ?_
      refine L_getP (d := 3) (c32 41 rfl) hM hv0 rfl ?_
      refine L_ps c32 (n := 5) (pc1 := 50) (ls1 := [jR v0, jI v1, jI v2, jI t0]) (st1 := [jI (wr ((wr (v1 * 6)) + v2)), jR (v0 + 3)]) rfl ?_
      obtain ⟨hb, h⟩ := h
      refine L_iald (c32 50 rfl) hM (rp_6_3 hv0) (lp_6_3 hv0) hb ?_
      refine L_ps c32 (n := 1) (pc1 := 55) (ls1 := [jR v0, jI v1, jI v2, jI t0]) (st1 := [jI (μ (v0 + 3) (wr ((wr (v1 * 6)) + v2)).toNat)]) rfl ?_
      exact L_retI (c32 55 rfl) (hQ _ _ hM h)
    · refine L_ps c32 (n := 1) (pc1 := 55) (ls1 := [jR v0, jI v1, jI v2, jI t0]) (st1 := [jI (-1)]) rfl ?_
      exact L_retI (c32 55 rfl) (hQ _ _ hM h)
theorem k_Signature_letter_j24 {E : JE2} {v0 : Nat} {v1 : Int} {v2 : Int} {μ : Mem} {M : JM} {P : JO → JM → Prop} {g3 : JV} {Q : Int → Prop} (hv0 : rt v0 = 6) (hM : Rl E M μ) (hQ : ∀ (r : Int) (M1 : JM), Rl E M1 μ → Q r → P (.inl (some (.inl r))) M1) (h : d_Signature_letter_j24 v0 v1 v2 μ Q) : JX 32 24 [jR v0, jI v1, jI v2, g3] [] M P := by
  unfold d_Signature_letter_j24 at h
  refine L_ps c32 (n := 1) (pc1 := 25) (ls1 := [jR v0, jI v1, jI v2, g3]) (st1 := [jI 0]) rfl ?_
  exact k_Signature_letter_j25 hv0 hM hQ h
theorem k_Signature_letter {E : JE2} {v0 : Nat} {v1 : Int} {v2 : Int} {μ : Mem} {M : JM} {Q : Int → Prop} (hv0 : rt v0 = 6) (hM : Rl E M μ) (h : d_Signature_letter v0 v1 v2 μ Q) : JX 32 0 (jargs 32 [jR v0, jI v1, jI v2]) [] M (PO E (pQI μ Q) XN) := by
  unfold d_Signature_letter at h
  show JX 32 0 [jR v0, jI v1, jI v2, jU] [] M (PO E (pQI μ Q) XN)
  generalize hP : PO E (pQI μ Q) XN = P
  have hQ : ∀ (r : Int) (M1 : JM), Rl E M1 μ → Q r → P (.inl (some (.inl r))) M1 := by rw [← hP]; exact fun r M1 a b => ⟨μ, a, rfl, r, rfl, b⟩
  clear hP
  refine L_ps c32 (n := 1) (pc1 := 1) (ls1 := [jR v0, jI v1, jI v2, jU]) (st1 := [jI v1]) rfl ?_
  refine L_br (p1 := 24) (p2 := 4) (c32 1 rfl) rfl jc_lt h (fun h => ?_) (fun h => ?_)
  · exact k_Signature_letter_j24 hv0 hM hQ h
  · refine L_ps c32 (n := 2) (pc1 := 7) (ls1 := [jR v0, jI v1, jI v2, jU]) (st1 := [jI 8, jI v1]) rfl ?_
    refine L_nb (p1 := 24) (p2 := 10) (c32 7 rfl) rfl jc_ge h (fun h => ?_) (fun h => ?_)
    · refine L_ps c32 (n := 1) (pc1 := 11) (ls1 := [jR v0, jI v1, jI v2, jU]) (st1 := [jI v2]) rfl ?_
      refine L_br (p1 := 24) (p2 := 14) (c32 11 rfl) rfl jc_lt h (fun h => ?_) (fun h => ?_)
      · exact k_Signature_letter_j24 hv0 hM hQ h
      · refine L_ps c32 (n := 2) (pc1 := 17) (ls1 := [jR v0, jI v1, jI v2, jU]) (st1 := [jI 6, jI v2]) rfl ?_
        refine L_nb (p1 := 24) (p2 := 20) (c32 17 rfl) rfl jc_ge h (fun h => ?_) (fun h => ?_)
        · refine L_ps c32 (n := 2) (pc1 := 25) (ls1 := [jR v0, jI v1, jI v2, jU]) (st1 := [jI 1]) rfl ?_
          exact k_Signature_letter_j25 hv0 hM hQ h
        · exact k_Signature_letter_j24 hv0 hM hQ h
    · exact k_Signature_letter_j24 hv0 hM hQ h
theorem k_Parser_isNamed_b27 {E : JE2} {v1 : Int} {v2 : Int} {μ : Mem} {M : JM} {P : JO → JM → Prop} {W27 : Int → Prop} {Q : Bool → Prop} (hM : Rl E M μ) (hQ : ∀ (r : Bool) (M1 : JM), Rl E M1 μ → Q r → P (.inl (some (.inl (b2i r)))) M1) (hW27 : ∀ (v2 : Int) (M1 : JM), Rl E M1 μ → W27 v2 → JX 30 27 [jR 72, jI v1, jI v2] [] M1 P) (h : d_Parser_isNamed_b27 v1 v2 μ W27 Q) : JX 30 27 [jR 72, jI v1, jI v2] [] M P := by
  unfold d_Parser_isNamed_b27 at h
  refine L_ps c30 (n := 2) (pc1 := 29) (ls1 := [jR 72, jI v1, jI v2]) (st1 := [jR 72, jI v2]) rfl ?_
  refine L_getI (c30 29 rfl) hM rt72 rfl ?_
  refine L_nb (p1 := 65) (p2 := 35) (c30 32 rfl) rfl jc_ge h (fun h => ?_) (fun h => ?_)
  · refine L_ps c30 (n := 2) (pc1 := 37) (ls1 := [jR 72, jI v1, jI v2]) (st1 := [jI v2, jR 72]) rfl ?_
    refine L_cpI (c30 37 rfl) (js_v rfl ((Rl_tag hM rt72 (by decide)).trans js17)) hh30 (k_Parser_byteAt hM h) (fun r3 M hM h => ?_) (fun _ _ _ _ f => f.elim)
    refine L_ps c30 (n := 1) (pc1 := 41) (ls1 := [jR 72, jI v1, jI v2]) (st1 := [jR 72, jI r3]) rfl ?_
    refine L_getP (d := 1) (c30 41 rfl) hM rt72 rfl ?_
    refine L_ps c30 (n := 3) (pc1 := 47) (ls1 := [jR 72, jI v1, jI v2]) (st1 := [jR 72, jI v2, jI v1, jR 73, jI r3]) rfl ?_
    refine L_getI (c30 47 rfl) hM rt72 rfl ?_
    refine L_ps c30 (n := 1) (pc1 := 51) (ls1 := [jR 72, jI v1, jI v2]) (st1 := [jI (wr (v2 - (μ 72 10))), jI v1, jR 73, jI r3]) rfl ?_
    refine L_cpI (c30 51 rfl) (js_v rfl ((Rl_tag hM rt73 (by decide)).trans js32)) hh30 (k_Signature_letter rt73 hM h) (fun r5 M hM h => ?_) (fun _ _ _ _ f => f.elim)
    refine L_br (p1 := 59) (p2 := 57) (c30 54 rfl) rfl jc_eq h (fun h => ?_) (fun h => ?_)
    · refine L_ps c30 (n := 2) (pc1 := 27) (ls1 := [jR 72, jI v1, jI (wr (v2 + 1))]) (st1 := []) rfl ?_
      exact hW27 _ _ hM h
    · refine L_ps c30 (n := 1) (pc1 := 58) (ls1 := [jR 72, jI v1, jI v2]) (st1 := [jI 0]) rfl ?_
      exact L_retB (c30 58 rfl) (Or.inl rfl) (hQ false _ hM h)
  · refine L_ps c30 (n := 1) (pc1 := 66) (ls1 := [jR 72, jI v1, jI v2]) (st1 := [jI 1]) rfl ?_
    exact L_retB (c30 66 rfl) (Or.inr rfl) (hQ true _ hM h)
theorem k_Parser_isNamed_l27 {E : JE2} {v1 : Int} {v2 : Int} {μ : Mem} {M : JM} {P : JO → JM → Prop} {Q : Bool → Prop} (hM : Rl E M μ) (hQ : ∀ (r : Bool) (M1 : JM), Rl E M1 μ → Q r → P (.inl (some (.inl (b2i r)))) M1) (h : d_Parser_isNamed_l27 v1 v2 μ Q) : JX 30 27 [jR 72, jI v1, jI v2] [] M P := by
  refine h (fun v2 => ∀ (M : JM), Rl E M μ → JX 30 27 [jR 72, jI v1, jI v2] [] M P) ?_ _ hM
  intro v2 h M hM
  exact k_Parser_isNamed_b27 hM hQ (fun v2 M hM h => h M hM) h
theorem k_Parser_isNamed {E : JE2} {v1 : Int} {μ : Mem} {M : JM} {Q : Bool → Prop} (hM : Rl E M μ) (h : d_Parser_isNamed v1 μ Q) : JX 30 0 (jargs 30 [jR 72, jI v1]) [] M (PO E (pQB μ Q) XN) := by
  unfold d_Parser_isNamed at h
  show JX 30 0 [jR 72, jI v1, jU] [] M (PO E (pQB μ Q) XN)
  generalize hP : PO E (pQB μ Q) XN = P
  have hQ : ∀ (r : Bool) (M1 : JM), Rl E M1 μ → Q r → P (.inl (some (.inl (b2i r)))) M1 := by rw [← hP]; exact fun r M1 a b => ⟨μ, a, rfl, r, rfl, b⟩
  clear hP
  refine L_ps c30 (n := 1) (pc1 := 1) (ls1 := [jR 72, jI v1, jU]) (st1 := [jR 72]) rfl ?_
  refine L_getI (c30 1 rfl) hM rt72 rfl ?_
  refine L_ps c30 (n := 1) (pc1 := 5) (ls1 := [jR 72, jI v1, jU]) (st1 := [jR 72, jI (μ 72 11)]) rfl ?_
  refine L_getI (c30 5 rfl) hM rt72 rfl ?_
  refine L_ps c30 (n := 2) (pc1 := 10) (ls1 := [jR 72, jI v1, jU]) (st1 := [jR 72, jI (wr ((μ 72 11) - (μ 72 10)))]) rfl ?_
  refine L_getP (d := 1) (c30 10 rfl) hM rt72 rfl ?_
  refine L_ps c30 (n := 1) (pc1 := 14) (ls1 := [jR 72, jI v1, jU]) (st1 := [jI v1, jR 73, jI (wr ((μ 72 11) - (μ 72 10)))]) rfl ?_
  refine L_cpI (c30 14 rfl) (js_v rfl ((Rl_tag hM rt73 (by decide)).trans js31)) hh30 (k_Signature_nameLength rt73 hM h) (fun r1 M hM h => ?_) (fun _ _ _ _ f => f.elim)
  refine L_br (p1 := 22) (p2 := 20) (c30 17 rfl) rfl jc_eq h (fun h => ?_) (fun h => ?_)
  · refine L_ps c30 (n := 1) (pc1 := 23) (ls1 := [jR 72, jI v1, jU]) (st1 := [jR 72]) rfl ?_
    refine L_getI (c30 23 rfl) hM rt72 rfl ?_
    refine L_ps c30 (n := 1) (pc1 := 27) (ls1 := [jR 72, jI v1, jI (μ 72 10)]) (st1 := []) rfl ?_
    exact k_Parser_isNamed_l27 hM hQ h
  · refine L_ps c30 (n := 1) (pc1 := 21) (ls1 := [jR 72, jI v1, jU]) (st1 := [jI 0]) rfl ?_
    exact L_retB (c30 21 rfl) (Or.inl rfl) (hQ false _ hM h)
theorem k_Parser_symbolOfWord_b2 {E : JE2} {v1 : Int} {μ : Mem} {M : JM} {P : JO → JM → Prop} {W2 : Int → Prop} {Q : Int → Prop} (hM : Rl E M μ) (hQ : ∀ (r : Int) (M1 : JM), Rl E M1 μ → Q r → P (.inl (some (.inl r))) M1) (hW2 : ∀ (v1 : Int) (M1 : JM), Rl E M1 μ → W2 v1 → JX 29 2 [jR 72, jI v1] [] M1 P) (h : d_Parser_symbolOfWord_b2 v1 μ W2 Q) : JX 29 2 [jR 72, jI v1] [] M P := by
  unfold d_Parser_symbolOfWord_b2 at h
  refine L_ps c29 (n := 2) (pc1 := 4) (ls1 := [jR 72, jI v1]) (st1 := [jR 72, jI v1]) rfl ?_
  refine L_getP (d := 1) (c29 4 rfl) hM rt72 rfl ?_
  refine L_getI (c29 7 rfl) hM rt73 rfl ?_
  refine L_nb (p1 := 29) (p2 := 13) (c29 10 rfl) rfl jc_ge h (fun h => ?_) (fun h => ?_)
  · refine L_ps c29 (n := 2) (pc1 := 15) (ls1 := [jR 72, jI v1]) (st1 := [jI v1, jR 72]) rfl ?_
    refine L_cpB (c29 15 rfl) (js_v rfl ((Rl_tag hM rt72 (by decide)).trans js30)) hh29 (k_Parser_isNamed hM h) (fun r1 M hM h => ?_) (fun _ _ _ _ f => f.elim)
    refine L_nb (p1 := 23) (p2 := 21) (c29 18 rfl) rfl jc_eqb h (fun h => ?_) (fun h => ?_)
    · refine L_ps c29 (n := 1) (pc1 := 22) (ls1 := [jR 72, jI v1]) (st1 := [jI v1]) rfl ?_
      exact L_retI (c29 22 rfl) (hQ _ _ hM h)
    · refine L_ps c29 (n := 2) (pc1 := 2) (ls1 := [jR 72, jI (wr (v1 + 1))]) (st1 := []) rfl ?_
      exact hW2 _ _ hM h
  · refine L_ps c29 (n := 1) (pc1 := 30) (ls1 := [jR 72, jI v1]) (st1 := [jI (-1)]) rfl ?_
    exact L_retI (c29 30 rfl) (hQ _ _ hM h)
theorem k_Parser_symbolOfWord_l2 {E : JE2} {v1 : Int} {μ : Mem} {M : JM} {P : JO → JM → Prop} {Q : Int → Prop} (hM : Rl E M μ) (hQ : ∀ (r : Int) (M1 : JM), Rl E M1 μ → Q r → P (.inl (some (.inl r))) M1) (h : d_Parser_symbolOfWord_l2 v1 μ Q) : JX 29 2 [jR 72, jI v1] [] M P := by
  refine h (fun v1 => ∀ (M : JM), Rl E M μ → JX 29 2 [jR 72, jI v1] [] M P) ?_ _ hM
  intro v1 h M hM
  exact k_Parser_symbolOfWord_b2 hM hQ (fun v1 M hM h => h M hM) h
theorem k_Parser_symbolOfWord {E : JE2} {μ : Mem} {M : JM} {Q : Int → Prop} (hM : Rl E M μ) (h : d_Parser_symbolOfWord μ Q) : JX 29 0 (jargs 29 [jR 72]) [] M (PO E (pQI μ Q) XN) := by
  unfold d_Parser_symbolOfWord at h
  show JX 29 0 [jR 72, jU] [] M (PO E (pQI μ Q) XN)
  generalize hP : PO E (pQI μ Q) XN = P
  have hQ : ∀ (r : Int) (M1 : JM), Rl E M1 μ → Q r → P (.inl (some (.inl r))) M1 := by rw [← hP]; exact fun r M1 a b => ⟨μ, a, rfl, r, rfl, b⟩
  clear hP
  refine L_ps c29 (n := 2) (pc1 := 2) (ls1 := [jR 72, jI 0]) (st1 := []) rfl ?_
  exact k_Parser_symbolOfWord_l2 hM hQ h
theorem k_Signature_begin {E : JE2} {v0 : Nat} {μ : Mem} {M : JM} {Q : Mem → Prop} (hv0 : rt v0 = 6) (hM : Rl E M μ) (h : d_Signature_begin v0 μ Q) : JX 33 0 (jargs 33 [jR v0]) [] M (PO E (QV Q) XN) := by
  unfold d_Signature_begin at h
  show JX 33 0 [jR v0] [] M (PO E (QV Q) XN)
  generalize hP : PO E (QV Q) XN = P
  have hQ : ∀ (M1 : JM) (μ1 : Mem), Rl E M1 μ1 → Q μ1 → P (.inl none) M1 := by rw [← hP]; exact fun M1 μ1 a b => ⟨μ1, a, rfl, b⟩
  clear hP
  refine L_ps c33 (n := 1) (pc1 := 1) (ls1 := [jR v0]) (st1 := [jR v0]) rfl ?_
  refine L_getI (c33 1 rfl) hM hv0 rfl ?_
  refine L_br (p1 := 26) (p2 := 7) (c33 4 rfl) rfl jc_lt h (fun h => ?_) (fun h => ?_)
  · exact L_end (c33 26 rfl) rfl (hQ _ _ hM h)
  · refine L_ps c33 (n := 1) (pc1 := 8) (ls1 := [jR v0]) (st1 := [jR v0]) rfl ?_
    refine L_getI (c33 8 rfl) hM hv0 rfl ?_
    refine L_ps c33 (n := 1) (pc1 := 13) (ls1 := [jR v0]) (st1 := [jI 8, jI (μ v0 0)]) rfl ?_
    refine L_nb (p1 := 26) (p2 := 16) (c33 13 rfl) rfl jc_ge h (fun h => ?_) (fun h => ?_)
    · refine L_ps c33 (n := 1) (pc1 := 17) (ls1 := [jR v0]) (st1 := [jR v0]) rfl ?_
      refine L_getP (d := 2) (c33 17 rfl) hM hv0 rfl ?_
      refine L_ps c33 (n := 1) (pc1 := 21) (ls1 := [jR v0]) (st1 := [jR v0, jR (v0 + 2)]) rfl ?_
      refine L_getI (c33 21 rfl) hM hv0 rfl ?_
      refine L_ps c33 (n := 1) (pc1 := 25) (ls1 := [jR v0]) (st1 := [jI 0, jI (μ v0 0), jR (v0 + 2)]) rfl ?_
      obtain ⟨hb, h⟩ := h
      refine L_iast (c33 25 rfl) hM (rp_6_2 hv0) (lp_6_2 hv0) hb (fun M hM => ?_)
      exact L_end (c33 26 rfl) rfl (hQ _ _ hM h)
    · exact L_end (c33 26 rfl) rfl (hQ _ _ hM h)
theorem k_Signature_addLetter {E : JE2} {v0 : Nat} {v1 : Int} {μ : Mem} {M : JM} {Q : Mem → Prop} (hv0 : rt v0 = 6) (hM : Rl E M μ) (h : d_Signature_addLetter v0 v1 μ Q) : JX 34 0 (jargs 34 [jR v0, jI v1]) [] M (PO E (QV Q) XN) := by
  unfold d_Signature_addLetter at h
  show JX 34 0 [jR v0, jI v1, jU] [] M (PO E (QV Q) XN)
  generalize hP : PO E (QV Q) XN = P
  have hQ : ∀ (M1 : JM) (μ1 : Mem), Rl E M1 μ1 → Q μ1 → P (.inl none) M1 := by rw [← hP]; exact fun M1 μ1 a b => ⟨μ1, a, rfl, b⟩
  clear hP
  refine L_ps c34 (n := 2) (pc1 := 2) (ls1 := [jR v0, jI v1, jU]) (st1 := [jR v0, jR v0]) rfl ?_
  refine L_getI (c34 2 rfl) hM hv0 rfl ?_
  refine L_cpI (c34 5 rfl) (js_v rfl ((Rl_tag hM hv0 (by decide)).trans js31)) hh34 (k_Signature_nameLength hv0 hM h) (fun r1 M hM h => ?_) (fun _ _ _ _ f => f.elim)
  refine L_ps c34 (n := 2) (pc1 := 10) (ls1 := [jR v0, jI v1, jI r1]) (st1 := [jR v0]) rfl ?_
  refine L_getI (c34 10 rfl) hM hv0 rfl ?_
  refine L_br (p1 := 62) (p2 := 16) (c34 13 rfl) rfl jc_lt h (fun h => ?_) (fun h => ?_)
  · exact L_end (c34 62 rfl) rfl (hQ _ _ hM h)
  · refine L_ps c34 (n := 1) (pc1 := 17) (ls1 := [jR v0, jI v1, jI r1]) (st1 := [jR v0]) rfl ?_
    refine L_getI (c34 17 rfl) hM hv0 rfl ?_
    refine L_ps c34 (n := 1) (pc1 := 22) (ls1 := [jR v0, jI v1, jI r1]) (st1 := [jI 8, jI (μ v0 0)]) rfl ?_
    refine L_nb (p1 := 62) (p2 := 25) (c34 22 rfl) rfl jc_ge h (fun h => ?_) (fun h => ?_)
    · refine L_ps c34 (n := 1) (pc1 := 26) (ls1 := [jR v0, jI v1, jI r1]) (st1 := [jI r1]) rfl ?_
      refine L_br (p1 := 62) (p2 := 29) (c34 26 rfl) rfl jc_lt h (fun h => ?_) (fun h => ?_)
      · exact L_end (c34 62 rfl) rfl (hQ _ _ hM h)
      · refine L_ps c34 (n := 2) (pc1 := 32) (ls1 := [jR v0, jI v1, jI r1]) (st1 := [jI 6, jI r1]) rfl ?_
        refine L_nb (p1 := 62) (p2 := 35) (c34 32 rfl) rfl jc_ge h (fun h => ?_) (fun h => ?_)
        · refine L_ps c34 (n := 1) (pc1 := 36) (ls1 := [jR v0, jI v1, jI r1]) (st1 := [jR v0]) rfl ?_
          refine L_getP (d := 3) (c34 36 rfl) hM hv0 rfl ?_
          refine L_ps c34 (n := 1) (pc1 := 40) (ls1 := [jR v0, jI v1, jI r1]) (st1 := [jR v0, jR (v0 + 3)]) rfl ?_
          refine L_getI (c34 40 rfl) hM hv0 rfl ?_
          refine L_ps c34 (n := 5) (pc1 := 49) (ls1 := [jR v0, jI v1, jI r1]) (st1 := [jI v1, jI (wr ((wr ((μ v0 0) * 6)) + r1)), jR (v0 + 3)]) rfl ?_
          obtain ⟨hb, h⟩ := h
          refine L_iast (c34 49 rfl) hM (rp_6_3 hv0) (lp_6_3 hv0) hb (fun M hM => ?_)
          refine L_ps c34 (n := 1) (pc1 := 51) (ls1 := [jR v0, jI v1, jI r1]) (st1 := [jR v0]) rfl ?_
          refine L_getP (d := 2) (c34 51 rfl) hM hv0 rfl ?_
          refine L_ps c34 (n := 1) (pc1 := 55) (ls1 := [jR v0, jI v1, jI r1]) (st1 := [jR v0, jR (v0 + 2)]) rfl ?_
          refine L_getI (c34 55 rfl) hM hv0 rfl ?_
          refine L_ps c34 (n := 3) (pc1 := 61) (ls1 := [jR v0, jI v1, jI r1]) (st1 := [jI (wr (r1 + 1)), jI ((mup μ (v0 + 3) (wr ((wr ((μ v0 0) * 6)) + r1)).toNat v1) v0 0), jR (v0 + 2)]) rfl ?_
          obtain ⟨hb, h⟩ := h
          refine L_iast (c34 61 rfl) hM (rp_6_2 hv0) (lp_6_2 hv0) hb (fun M hM => ?_)
          exact L_end (c34 62 rfl) rfl (hQ _ _ hM h)
        · exact L_end (c34 62 rfl) rfl (hQ _ _ hM h)
    · exact L_end (c34 62 rfl) rfl (hQ _ _ hM h)
theorem k_Parser_digit {E : JE2} {μ : Mem} {M : JM} {Q : Int → Prop} (hM : Rl E M μ) (h : d_Parser_digit μ Q) : JX 36 0 (jargs 36 [jR 72]) [] M (PO E (pQI μ Q) XN) := by
  unfold d_Parser_digit at h
  show JX 36 0 [jR 72] [] M (PO E (pQI μ Q) XN)
  generalize hP : PO E (pQI μ Q) XN = P
  have hQ : ∀ (r : Int) (M1 : JM), Rl E M1 μ → Q r → P (.inl (some (.inl r))) M1 := by rw [← hP]; exact fun r M1 a b => ⟨μ, a, rfl, r, rfl, b⟩
  clear hP
  refine L_ps c36 (n := 2) (pc1 := 2) (ls1 := [jR 72]) (st1 := [jR 72, jR 72]) rfl ?_
  refine L_getI (c36 2 rfl) hM rt72 rfl ?_
  refine L_cpI (c36 5 rfl) (js_v rfl ((Rl_tag hM rt72 (by decide)).trans js17)) hh36 (k_Parser_byteAt hM h) (fun r1 M hM h => ?_) (fun _ _ _ _ f => f.elim)
  refine L_ps c36 (n := 2) (pc1 := 11) (ls1 := [jR 72]) (st1 := [jI (wr (r1 - 48))]) rfl ?_
  exact L_retI (c36 11 rfl) (hQ _ _ hM h)
theorem k_Parser_readDigit {E : JE2} {v1 : Int} {μ : Mem} {M : JM} {Q : Bool → Mem → Prop} (hM : Rl E M μ) (h : d_Parser_readDigit v1 μ Q) : JX 35 0 (jargs 35 [jR 72, jI v1]) [] M (PO E (QB Q) XN) := by
  unfold d_Parser_readDigit at h
  show JX 35 0 [jR 72, jI v1] [] M (PO E (QB Q) XN)
  generalize hP : PO E (QB Q) XN = P
  have hQ : ∀ (r : Bool) (M1 : JM) (μ1 : Mem), Rl E M1 μ1 → Q r μ1 → P (.inl (some (.inl (b2i r)))) M1 := by rw [← hP]; exact fun r M1 μ1 a b => ⟨μ1, a, r, rfl, b⟩
  clear hP
  refine L_ps c35 (n := 1) (pc1 := 1) (ls1 := [jR 72, jI v1]) (st1 := [jR 72]) rfl ?_
  refine L_getI (c35 1 rfl) hM rt72 rfl ?_
  refine L_ps c35 (n := 1) (pc1 := 6) (ls1 := [jR 72, jI v1]) (st1 := [jI 48, jI (μ 72 9)]) rfl ?_
  refine L_br (p1 := 15) (p2 := 9) (c35 6 rfl) rfl jc_eq h (fun h => ?_) (fun h => ?_)
  · refine L_ps c35 (n := 1) (pc1 := 16) (ls1 := [jR 72, jI v1]) (st1 := [jR 72]) rfl ?_
    refine L_cpI (c35 16 rfl) (js_v rfl ((Rl_tag hM rt72 (by decide)).trans js36)) hh35 (k_Parser_digit hM h) (fun r1 M hM h => ?_) (fun _ _ _ _ f => f.elim)
    refine L_ps c35 (n := 1) (pc1 := 20) (ls1 := [jR 72, jI v1]) (st1 := [jI v1, jI r1]) rfl ?_
    refine L_br (p1 := 31) (p2 := 23) (c35 20 rfl) rfl jc_lt h (fun h => ?_) (fun h => ?_)
    · refine L_ps c35 (n := 2) (pc1 := 36) (ls1 := [jR 72, jI v1]) (st1 := [jI 1]) rfl ?_
      exact L_retB (c35 36 rfl) (Or.inr rfl) (hQ true _ _ hM h)
    · refine L_ps c35 (n := 2) (pc1 := 25) (ls1 := [jR 72, jI v1]) (st1 := [jI 2, jR 72]) rfl ?_
      refine L_cB (c35 25 rfl) (js_v rfl ((Rl_tag hM rt72 (by decide)).trans js27)) hh35 (k_Parser_fail hM h) (fun r3 M μ4 hM h => ?_) (fun _ _ _ _ f => f.elim)
      refine L_nb (p1 := 35) (p2 := 31) (c35 28 rfl) rfl jc_eqb h (fun h => ?_) (fun h => ?_)
      · refine L_ps c35 (n := 2) (pc1 := 36) (ls1 := [jR 72, jI v1]) (st1 := [jI 1]) rfl ?_
        exact L_retB (c35 36 rfl) (Or.inr rfl) (hQ true _ _ hM h)
      · refine L_ps c35 (n := 1) (pc1 := 36) (ls1 := [jR 72, jI v1]) (st1 := [jI 0]) rfl ?_
        exact L_retB (c35 36 rfl) (Or.inl rfl) (hQ false _ _ hM h)
  · refine L_ps c35 (n := 2) (pc1 := 11) (ls1 := [jR 72, jI v1]) (st1 := [jI 1, jR 72]) rfl ?_
    refine L_cB (c35 11 rfl) (js_v rfl ((Rl_tag hM rt72 (by decide)).trans js27)) hh35 (k_Parser_fail hM h) (fun r5 M μ6 hM h => ?_) (fun _ _ _ _ f => f.elim)
    exact L_retB (c35 14 rfl) (bz_b _) (hQ _ _ _ hM h)
theorem k_Signature_finish {E : JE2} {v0 : Nat} {v1 : Int} {μ : Mem} {M : JM} {Q : Mem → Prop} (hv0 : rt v0 = 6) (hM : Rl E M μ) (h : d_Signature_finish v0 v1 μ Q) : JX 37 0 (jargs 37 [jR v0, jI v1]) [] M (PO E (QV Q) XN) := by
  unfold d_Signature_finish at h
  show JX 37 0 [jR v0, jI v1] [] M (PO E (QV Q) XN)
  generalize hP : PO E (QV Q) XN = P
  have hQ : ∀ (M1 : JM) (μ1 : Mem), Rl E M1 μ1 → Q μ1 → P (.inl none) M1 := by rw [← hP]; exact fun M1 μ1 a b => ⟨μ1, a, rfl, b⟩
  clear hP
  refine L_ps c37 (n := 1) (pc1 := 1) (ls1 := [jR v0, jI v1]) (st1 := [jR v0]) rfl ?_
  refine L_getI (c37 1 rfl) hM hv0 rfl ?_
  refine L_br (p1 := 36) (p2 := 7) (c37 4 rfl) rfl jc_lt h (fun h => ?_) (fun h => ?_)
  · exact L_end (c37 36 rfl) rfl (hQ _ _ hM h)
  · refine L_ps c37 (n := 1) (pc1 := 8) (ls1 := [jR v0, jI v1]) (st1 := [jR v0]) rfl ?_
    refine L_getI (c37 8 rfl) hM hv0 rfl ?_
    refine L_ps c37 (n := 1) (pc1 := 13) (ls1 := [jR v0, jI v1]) (st1 := [jI 8, jI (μ v0 0)]) rfl ?_
    refine L_nb (p1 := 36) (p2 := 16) (c37 13 rfl) rfl jc_ge h (fun h => ?_) (fun h => ?_)
    · refine L_ps c37 (n := 1) (pc1 := 17) (ls1 := [jR v0, jI v1]) (st1 := [jR v0]) rfl ?_
      refine L_getP (d := 1) (c37 17 rfl) hM hv0 rfl ?_
      refine L_ps c37 (n := 1) (pc1 := 21) (ls1 := [jR v0, jI v1]) (st1 := [jR v0, jR (v0 + 1)]) rfl ?_
      refine L_getI (c37 21 rfl) hM hv0 rfl ?_
      refine L_ps c37 (n := 1) (pc1 := 25) (ls1 := [jR v0, jI v1]) (st1 := [jI v1, jI (μ v0 0), jR (v0 + 1)]) rfl ?_
      obtain ⟨hb, h⟩ := h
      refine L_iast (c37 25 rfl) hM (rp_6_1 hv0) (lp_6_1 hv0) hb (fun M hM => ?_)
      refine L_ps c37 (n := 2) (pc1 := 28) (ls1 := [jR v0, jI v1]) (st1 := [jR v0, jR v0]) rfl ?_
      refine L_getI (c37 28 rfl) hM hv0 rfl ?_
      refine L_ps c37 (n := 2) (pc1 := 33) (ls1 := [jR v0, jI v1]) (st1 := [jI (wr (((mup μ (v0 + 1) (μ v0 0).toNat v1) v0 0) + 1)), jR v0]) rfl ?_
      refine L_putI (c37 33 rfl) hM hv0 rfl (fun M hM => ?_)
      exact L_end (c37 36 rfl) rfl (hQ _ _ hM h)
    · exact L_end (c37 36 rfl) rfl (hQ _ _ hM h)
theorem k_Parser_readSymbol_b63 {E : JE2} {v1 : Int} {μ : Mem} {M : JM} {P : JO → JM → Prop} {W63 : Int → Mem → Prop} {Q : Bool → Mem → Prop} (hM : Rl E M μ) (hQ : ∀ (r : Bool) (M1 : JM) (μ1 : Mem), Rl E M1 μ1 → Q r μ1 → P (.inl (some (.inl (b2i r)))) M1) (hW63 : ∀ (v1 : Int) (M1 : JM) (μ1 : Mem), Rl E M1 μ1 → W63 v1 μ1 → JX 28 63 [jR 72, jI v1] [] M1 P) (h : d_Parser_readSymbol_b63 v1 μ W63 Q) : JX 28 63 [jR 72, jI v1] [] M P := by
  unfold d_Parser_readSymbol_b63 at h
  refine L_ps c28 (n := 2) (pc1 := 65) (ls1 := [jR 72, jI v1]) (st1 := [jR 72, jI v1]) rfl ?_
  refine L_getI (c28 65 rfl) hM rt72 rfl ?_
  refine L_nb (p1 := 89) (p2 := 71) (c28 68 rfl) rfl jc_ge h (fun h => ?_) (fun h => ?_)
  · refine L_ps c28 (n := 1) (pc1 := 72) (ls1 := [jR 72, jI v1]) (st1 := [jR 72]) rfl ?_
    refine L_getP (d := 1) (c28 72 rfl) hM rt72 rfl ?_
    refine L_ps c28 (n := 2) (pc1 := 77) (ls1 := [jR 72, jI v1]) (st1 := [jI v1, jR 72, jR 73]) rfl ?_
    refine L_cpI (c28 77 rfl) (js_v rfl ((Rl_tag hM rt72 (by decide)).trans js17)) hh28 (k_Parser_byteAt hM h) (fun r7 M hM h => ?_) (fun _ _ _ _ f => f.elim)
    refine L_cV (c28 80 rfl) (js_v rfl ((Rl_tag hM rt73 (by decide)).trans js34)) hh28 (k_Signature_addLetter rt73 hM h) (fun M μ10 hM h => ?_) (fun _ _ _ _ f => f.elim)
    refine L_ps c28 (n := 2) (pc1 := 63) (ls1 := [jR 72, jI (wr (v1 + 1))]) (st1 := []) rfl ?_
    exact hW63 _ _ _ hM h
  · refine L_ps c28 (n := 1) (pc1 := 90) (ls1 := [jR 72, jI v1]) (st1 := [jR 72]) rfl ?_
    refine L_cV (c28 90 rfl) (js_v rfl ((Rl_tag hM rt72 (by decide)).trans js16)) hh28 (k_Parser_next hM h) (fun M μ12 hM h => ?_) (fun _ _ _ _ f => f.elim)
    refine L_ps c28 (n := 2) (pc1 := 95) (ls1 := [jR 72, jI v1]) (st1 := [jI 4, jR 72]) rfl ?_
    refine L_cB (c28 95 rfl) (js_v rfl ((Rl_tag hM rt72 (by decide)).trans js35)) hh28 (k_Parser_readDigit hM h) (fun r13 M μ14 hM h => ?_) (fun _ _ _ _ f => f.elim)
    refine L_br (p1 := 103) (p2 := 101) (c28 98 rfl) rfl jc_neb h (fun h => ?_) (fun h => ?_)
    · refine L_ps c28 (n := 1) (pc1 := 104) (ls1 := [jR 72, jI v1]) (st1 := [jR 72]) rfl ?_
      refine L_getP (d := 1) (c28 104 rfl) hM rt72 rfl ?_
      refine L_ps c28 (n := 1) (pc1 := 108) (ls1 := [jR 72, jI v1]) (st1 := [jR 72, jR 73]) rfl ?_
      refine L_cpI (c28 108 rfl) (js_v rfl ((Rl_tag hM rt72 (by decide)).trans js36)) hh28 (k_Parser_digit hM h) (fun r15 M hM h => ?_) (fun _ _ _ _ f => f.elim)
      refine L_cV (c28 111 rfl) (js_v rfl ((Rl_tag hM rt73 (by decide)).trans js37)) hh28 (k_Signature_finish rt73 hM h) (fun M μ18 hM h => ?_) (fun _ _ _ _ f => f.elim)
      refine L_ps c28 (n := 1) (pc1 := 115) (ls1 := [jR 72, jI v1]) (st1 := [jR 72]) rfl ?_
      refine L_cV (c28 115 rfl) (js_v rfl ((Rl_tag hM rt72 (by decide)).trans js16)) hh28 (k_Parser_next hM h) (fun M μ20 hM h => ?_) (fun _ _ _ _ f => f.elim)
      refine L_ps c28 (n := 1) (pc1 := 119) (ls1 := [jR 72, jI v1]) (st1 := [jI 1]) rfl ?_
      exact L_retB (c28 119 rfl) (Or.inr rfl) (hQ true _ _ hM h)
    · refine L_ps c28 (n := 1) (pc1 := 102) (ls1 := [jR 72, jI v1]) (st1 := [jI 0]) rfl ?_
      exact L_retB (c28 102 rfl) (Or.inl rfl) (hQ false _ _ hM h)
theorem k_Parser_readSymbol_l63 {E : JE2} {v1 : Int} {μ : Mem} {M : JM} {P : JO → JM → Prop} {Q : Bool → Mem → Prop} (hM : Rl E M μ) (hQ : ∀ (r : Bool) (M1 : JM) (μ1 : Mem), Rl E M1 μ1 → Q r μ1 → P (.inl (some (.inl (b2i r)))) M1) (h : d_Parser_readSymbol_l63 v1 μ Q) : JX 28 63 [jR 72, jI v1] [] M P := by
  refine h (fun v1 μ => ∀ (M : JM), Rl E M μ → JX 28 63 [jR 72, jI v1] [] M P) ?_ _ hM
  intro v1 μ h M hM
  exact k_Parser_readSymbol_b63 hM hQ (fun v1 M μ hM h => h M hM) h
theorem k_Parser_readSymbol {E : JE2} {μ : Mem} {M : JM} {Q : Bool → Mem → Prop} (hM : Rl E M μ) (h : d_Parser_readSymbol μ Q) : JX 28 0 (jargs 28 [jR 72]) [] M (PO E (QB Q) XN) := by
  unfold d_Parser_readSymbol at h
  show JX 28 0 [jR 72, jU] [] M (PO E (QB Q) XN)
  generalize hP : PO E (QB Q) XN = P
  have hQ : ∀ (r : Bool) (M1 : JM) (μ1 : Mem), Rl E M1 μ1 → Q r μ1 → P (.inl (some (.inl (b2i r)))) M1 := by rw [← hP]; exact fun r M1 μ1 a b => ⟨μ1, a, r, rfl, b⟩
  clear hP
  refine L_ps c28 (n := 1) (pc1 := 1) (ls1 := [jR 72, jU]) (st1 := [jR 72]) rfl ?_
  refine L_getP (d := 1) (c28 1 rfl) hM rt72 rfl ?_
  refine L_getI (c28 4 rfl) hM rt73 rfl ?_
  refine L_ps c28 (n := 1) (pc1 := 9) (ls1 := [jR 72, jU]) (st1 := [jI 8, jI (μ 73 0)]) rfl ?_
  refine L_br (p1 := 18) (p2 := 12) (c28 9 rfl) rfl jc_lt h (fun h => ?_) (fun h => ?_)
  · refine L_ps c28 (n := 1) (pc1 := 19) (ls1 := [jR 72, jU]) (st1 := [jR 72]) rfl ?_
    refine L_cV (c28 19 rfl) (js_v rfl ((Rl_tag hM rt72 (by decide)).trans js16)) hh28 (k_Parser_next hM h) (fun M μ2 hM h => ?_) (fun _ _ _ _ f => f.elim)
    refine L_ps c28 (n := 1) (pc1 := 23) (ls1 := [jR 72, jU]) (st1 := [jR 72]) rfl ?_
    refine L_getI (c28 23 rfl) hM rt72 rfl ?_
    refine L_ps c28 (n := 1) (pc1 := 28) (ls1 := [jR 72, jU]) (st1 := [jI 97, jI (μ2 72 9)]) rfl ?_
    refine L_br (p1 := 37) (p2 := 31) (c28 28 rfl) rfl jc_eq h (fun h => ?_) (fun h => ?_)
    · refine L_ps c28 (n := 1) (pc1 := 38) (ls1 := [jR 72, jU]) (st1 := [jR 72]) rfl ?_
      refine L_cpI (c28 38 rfl) (js_v rfl ((Rl_tag hM rt72 (by decide)).trans js29)) hh28 (k_Parser_symbolOfWord hM h) (fun r3 M hM h => ?_) (fun _ _ _ _ f => f.elim)
      refine L_ps c28 (n := 1) (pc1 := 42) (ls1 := [jR 72, jU]) (st1 := [jI (-1), jI r3]) rfl ?_
      refine L_br (p1 := 51) (p2 := 45) (c28 42 rfl) rfl jc_eq h (fun h => ?_) (fun h => ?_)
      · refine L_ps c28 (n := 1) (pc1 := 52) (ls1 := [jR 72, jU]) (st1 := [jR 72]) rfl ?_
        refine L_getP (d := 1) (c28 52 rfl) hM rt72 rfl ?_
        refine L_cV (c28 55 rfl) (js_v rfl ((Rl_tag hM rt73 (by decide)).trans js33)) hh28 (k_Signature_begin rt73 hM h) (fun M μ6 hM h => ?_) (fun _ _ _ _ f => f.elim)
        refine L_ps c28 (n := 1) (pc1 := 59) (ls1 := [jR 72, jU]) (st1 := [jR 72]) rfl ?_
        refine L_getI (c28 59 rfl) hM rt72 rfl ?_
        refine L_ps c28 (n := 1) (pc1 := 63) (ls1 := [jR 72, jI (μ6 72 10)]) (st1 := []) rfl ?_
        exact k_Parser_readSymbol_l63 hM hQ h
      · refine L_ps c28 (n := 2) (pc1 := 47) (ls1 := [jR 72, jU]) (st1 := [jI 3, jR 72]) rfl ?_
        refine L_cB (c28 47 rfl) (js_v rfl ((Rl_tag hM rt72 (by decide)).trans js27)) hh28 (k_Parser_fail hM h) (fun r21 M μ22 hM h => ?_) (fun _ _ _ _ f => f.elim)
        exact L_retB (c28 50 rfl) (bz_b _) (hQ _ _ _ hM h)
    · refine L_ps c28 (n := 2) (pc1 := 33) (ls1 := [jR 72, jU]) (st1 := [jI 1, jR 72]) rfl ?_
      refine L_cB (c28 33 rfl) (js_v rfl ((Rl_tag hM rt72 (by decide)).trans js27)) hh28 (k_Parser_fail hM h) (fun r23 M μ24 hM h => ?_) (fun _ _ _ _ f => f.elim)
      exact L_retB (c28 36 rfl) (bz_b _) (hQ _ _ _ hM h)
  · refine L_ps c28 (n := 2) (pc1 := 14) (ls1 := [jR 72, jU]) (st1 := [jI 5, jR 72]) rfl ?_
    refine L_cB (c28 14 rfl) (js_v rfl ((Rl_tag hM rt72 (by decide)).trans js27)) hh28 (k_Parser_fail hM h) (fun r25 M μ26 hM h => ?_) (fun _ _ _ _ f => f.elim)
    exact L_retB (c28 17 rfl) (bz_b _) (hQ _ _ _ hM h)
theorem k_State_rule {E : JE2} {v0 : Nat} {v1 : Int} {μ : Mem} {M : JM} {Q : Nat → Prop} (hv0 : rt v0 = 7) (hM : Rl E M μ) (h : d_State_rule v0 v1 μ Q) : JX 39 0 (jargs 39 [jR v0, jI v1]) [] M (PO E (pQR μ 5 Q) XN) := by
  unfold d_State_rule at h
  show JX 39 0 [jR v0, jI v1, jU] [] M (PO E (pQR μ 5 Q) XN)
  generalize hP : PO E (pQR μ 5 Q) XN = P
  have hQ : ∀ (r : Nat) (M1 : JM), Rl E M1 μ → rt r = 5 → Q r → P (.inl (some (.inr (.inl r)))) M1 := by rw [← hP]; exact fun r M1 a c b => ⟨μ, a, rfl, r, rfl, c, b⟩
  clear hP
  refine L_ps c39 (n := 1) (pc1 := 1) (ls1 := [jR v0, jI v1, jU]) (st1 := [jI v1]) rfl ?_
  refine L_br (p1 := 13) (p2 := 4) (c39 1 rfl) rfl jc_lt h (fun h => ?_) (fun h => ?_)
  · refine L_ps c39 (n := 1) (pc1 := 14) (ls1 := [jR v0, jI v1, jU]) (st1 := [jR v0]) rfl ?_
    refine L_getP (d := 3) (c39 14 rfl) hM hv0 rfl ?_
    exact L_end (c39 17 rfl) rfl (hQ _ _ hM (rp_7_3 hv0) h)
  · refine L_ps c39 (n := 2) (pc1 := 6) (ls1 := [jR v0, jI v1, jU]) (st1 := [jR v0, jI v1]) rfl ?_
    refine L_getP (d := 1) (c39 6 rfl) hM hv0 rfl ?_
    refine L_alen (n := 6) (z := 6) (c39 9 rfl) hM (rp_7_1 hv0) (by decide) (le_110 (rp_7_1 hv0)) (by decide) rfl ?_
    refine L_br (p1 := 18) (p2 := 13) (c39 10 rfl) rfl jc_lt h (fun h => ?_) (fun h => ?_)
    · refine L_ps c39 (n := 1) (pc1 := 19) (ls1 := [jR v0, jI v1, jU]) (st1 := [jR v0]) rfl ?_
      refine L_getP (d := 1) (c39 19 rfl) hM hv0 rfl ?_
      refine L_ps c39 (n := 1) (pc1 := 23) (ls1 := [jR v0, jI v1, jU]) (st1 := [jI v1, jR (v0 + 1)]) rfl ?_
      obtain ⟨hb, h⟩ := h
      have e1 : rt (v0 + 1 + (9 + 5 * v1.toNat)) = 5 := re_110 (rp_7_1 hv0) (by omega)
      refine L_aald (c39 23 rfl) hM (rp_7_1 hv0) (by decide) (le_110 (rp_7_1 hv0)) hb rfl ?_
      refine L_ps c39 (n := 4) (pc1 := 37) (ls1 := [jR v0, jI v1, jR (v0 + 1 + (9 + 5 * v1.toNat))]) (st1 := [jR (v0 + 1 + (9 + 5 * v1.toNat))]) rfl ?_
      exact L_end (c39 37 rfl) rfl (hQ _ _ hM e1 h)
    · refine L_ps c39 (n := 1) (pc1 := 14) (ls1 := [jR v0, jI v1, jU]) (st1 := [jR v0]) rfl ?_
      refine L_getP (d := 3) (c39 14 rfl) hM hv0 rfl ?_
      exact L_end (c39 17 rfl) rfl (hQ _ _ hM (rp_7_3 hv0) h)
theorem k_Term_clear {E : JE2} {v0 : Nat} {μ : Mem} {M : JM} {Q : Mem → Prop} (hv0 : rt v0 = 8) (hM : Rl E M μ) (h : d_Term_clear v0 μ Q) : JX 41 0 (jargs 41 [jR v0]) [] M (PO E (QV Q) XN) := by
  unfold d_Term_clear at h
  show JX 41 0 [jR v0] [] M (PO E (QV Q) XN)
  generalize hP : PO E (QV Q) XN = P
  have hQ : ∀ (M1 : JM) (μ1 : Mem), Rl E M1 μ1 → Q μ1 → P (.inl none) M1 := by rw [← hP]; exact fun M1 μ1 a b => ⟨μ1, a, rfl, b⟩
  clear hP
  refine L_ps c41 (n := 2) (pc1 := 2) (ls1 := [jR v0]) (st1 := [jI 0, jR v0]) rfl ?_
  refine L_putI (c41 2 rfl) hM hv0 rfl (fun M hM => ?_)
  exact L_end (c41 5 rfl) rfl (hQ _ _ hM h)
theorem k_Term_variableNode {E : JE2} {v0 : Int} {μ : Mem} {M : JM} {Q : Int → Prop} (hM : Rl E M μ) (h : d_Term_variableNode v0 μ Q) : JX 44 0 (jargs 44 [jI v0]) [] M (PO E (pQI μ Q) XN) := by
  unfold d_Term_variableNode at h
  show JX 44 0 [jI v0] [] M (PO E (pQI μ Q) XN)
  generalize hP : PO E (pQI μ Q) XN = P
  have hQ : ∀ (r : Int) (M1 : JM), Rl E M1 μ → Q r → P (.inl (some (.inl r))) M1 := by rw [← hP]; exact fun r M1 a b => ⟨μ, a, rfl, r, rfl, b⟩
  clear hP
  refine L_ps c44 (n := 3) (pc1 := 3) (ls1 := [jI v0]) (st1 := [jI (wr ((-1) - v0))]) rfl ?_
  exact L_retI (c44 3 rfl) (hQ _ _ hM h)
theorem k_Parser_variableOfToken {E : JE2} {μ : Mem} {M : JM} {Q : Int → Prop} (hM : Rl E M μ) (h : d_Parser_variableOfToken μ Q) : JX 43 0 (jargs 43 [jR 72]) [] M (PO E (pQI μ Q) XN) := by
  unfold d_Parser_variableOfToken at h
  show JX 43 0 [jR 72] [] M (PO E (pQI μ Q) XN)
  generalize hP : PO E (pQI μ Q) XN = P
  have hQ : ∀ (r : Int) (M1 : JM), Rl E M1 μ → Q r → P (.inl (some (.inl r))) M1 := by rw [← hP]; exact fun r M1 a b => ⟨μ, a, rfl, r, rfl, b⟩
  clear hP
  refine L_ps c43 (n := 2) (pc1 := 2) (ls1 := [jR 72]) (st1 := [jR 72, jR 72]) rfl ?_
  refine L_getI (c43 2 rfl) hM rt72 rfl ?_
  refine L_cpI (c43 5 rfl) (js_v rfl ((Rl_tag hM rt72 (by decide)).trans js17)) hh43 (k_Parser_byteAt hM h) (fun r1 M hM h => ?_) (fun _ _ _ _ f => f.elim)
  refine L_ps c43 (n := 2) (pc1 := 11) (ls1 := [jR 72]) (st1 := [jI (wr (r1 - 65))]) rfl ?_
  refine L_cpI (c43 11 rfl) (js_t rfl) hh43 (k_Term_variableNode hM h) (fun r3 M hM h => ?_) (fun _ _ _ _ f => f.elim)
  exact L_retI (c43 14 rfl) (hQ _ _ hM h)
theorem k_Term_get {E : JE2} {v0 : Nat} {v1 : Int} {μ : Mem} {M : JM} {Q : Int → Prop} (hv0 : rt v0 = 8) (hM : Rl E M μ) (h : d_Term_get v0 v1 μ Q) : JX 46 0 (jargs 46 [jR v0, jI v1]) [] M (PO E (pQI μ Q) XN) := by
  unfold d_Term_get at h
  show JX 46 0 [jR v0, jI v1] [] M (PO E (pQI μ Q) XN)
  generalize hP : PO E (pQI μ Q) XN = P
  have hQ : ∀ (r : Int) (M1 : JM), Rl E M1 μ → Q r → P (.inl (some (.inl r))) M1 := by rw [← hP]; exact fun r M1 a b => ⟨μ, a, rfl, r, rfl, b⟩
  clear hP
  refine L_ps c46 (n := 1) (pc1 := 1) (ls1 := [jR v0, jI v1]) (st1 := [jI v1]) rfl ?_
  refine L_br (p1 := 30) (p2 := 4) (c46 1 rfl) rfl jc_lt h (fun h => ?_) (fun h => ?_)
  · refine L_ps c46 (n := 1) (pc1 := 32) (ls1 := [jR v0, jI v1]) (st1 := [jI (-2147483648)]) rfl ?_
    exact L_retI (c46 32 rfl) (hQ _ _ hM h)
  · refine L_ps c46 (n := 2) (pc1 := 6) (ls1 := [jR v0, jI v1]) (st1 := [jR v0, jI v1]) rfl ?_
    refine L_getI (c46 6 rfl) hM hv0 rfl ?_
    refine L_nb (p1 := 30) (p2 := 12) (c46 9 rfl) rfl jc_ge h (fun h => ?_) (fun h => ?_)
    · refine L_ps c46 (n := 2) (pc1 := 14) (ls1 := [jR v0, jI v1]) (st1 := [jR v0, jI v1]) rfl ?_
      refine L_getP (d := 1) (c46 14 rfl) hM hv0 rfl ?_
      refine L_alen (n := ln (v0 + 1)) (z := (ln (v0 + 1) : Int)) (c46 17 rfl) hM (rp_8_1 hv0) (by decide) rfl (ln_small _) rfl ?_
      refine L_nb (p1 := 30) (p2 := 21) (c46 18 rfl) rfl jc_ge h (fun h => ?_) (fun h => ?_)
      · refine L_ps c46 (n := 1) (pc1 := 22) (ls1 := [jR v0, jI v1]) (st1 := [jR v0]) rfl ?_
        refine L_getP (d := 1) (c46 22 rfl) hM hv0 rfl ?_
        refine L_ps c46 (n := 1) (pc1 := 26) (ls1 := [jR v0, jI v1]) (st1 := [jI v1, jR (v0 + 1)]) rfl ?_
        obtain ⟨hb, h⟩ := h
        refine L_iald (c46 26 rfl) hM (rp_8_1 hv0) rfl hb ?_
        refine L_ps c46 (n := 1) (pc1 := 32) (ls1 := [jR v0, jI v1]) (st1 := [jI (μ (v0 + 1) v1.toNat)]) rfl ?_
        exact L_retI (c46 32 rfl) (hQ _ _ hM h)
      · refine L_ps c46 (n := 1) (pc1 := 32) (ls1 := [jR v0, jI v1]) (st1 := [jI (-2147483648)]) rfl ?_
        exact L_retI (c46 32 rfl) (hQ _ _ hM h)
    · refine L_ps c46 (n := 1) (pc1 := 32) (ls1 := [jR v0, jI v1]) (st1 := [jI (-2147483648)]) rfl ?_
      exact L_retI (c46 32 rfl) (hQ _ _ hM h)
theorem k_Term_count_j24 {E : JE2} {v0 : Nat} {v1 : Int} {v2 : Int} {v3 : Int} {μ : Mem} {M : JM} {P : JO → JM → Prop} {W4 : Int → Int → Prop} {Q : Int → Prop} (hv0 : rt v0 = 8) (hM : Rl E M μ) (hQ : ∀ (r : Int) (M1 : JM), Rl E M1 μ → Q r → P (.inl (some (.inl r))) M1) (hW4 : ∀ (v2 : Int) (v3 : Int) (M1 : JM), Rl E M1 μ → W4 v2 v3 → JX 45 4 [jR v0, jI v1, jI v2, jI v3] [] M1 P) (h : d_Term_count_j24 v0 v1 v2 v3 μ W4 Q) : JX 45 24 [jR v0, jI v1, jI v2, jI v3] [] M P := by
  unfold d_Term_count_j24 at h
  refine L_ps c45 (n := 2) (pc1 := 4) (ls1 := [jR v0, jI v1, jI v2, jI (wr (v3 + 1))]) (st1 := []) rfl ?_
  exact hW4 _ _ _ hM h
theorem k_Term_count_b4 {E : JE2} {v0 : Nat} {v1 : Int} {v2 : Int} {v3 : Int} {μ : Mem} {M : JM} {P : JO → JM → Prop} {W4 : Int → Int → Prop} {Q : Int → Prop} (hv0 : rt v0 = 8) (hM : Rl E M μ) (hQ : ∀ (r : Int) (M1 : JM), Rl E M1 μ → Q r → P (.inl (some (.inl r))) M1) (hW4 : ∀ (v2 : Int) (v3 : Int) (M1 : JM), Rl E M1 μ → W4 v2 v3 → JX 45 4 [jR v0, jI v1, jI v2, jI v3] [] M1 P) (h : d_Term_count_b4 v0 v1 v2 v3 μ W4 Q) : JX 45 4 [jR v0, jI v1, jI v2, jI v3] [] M P := by
  unfold d_Term_count_b4 at h
  refine L_ps c45 (n := 2) (pc1 := 6) (ls1 := [jR v0, jI v1, jI v2, jI v3]) (st1 := [jR v0, jI v3]) rfl ?_
  refine L_getI (c45 6 rfl) hM hv0 rfl ?_
  refine L_nb (p1 := 30) (p2 := 12) (c45 9 rfl) rfl jc_ge h (fun h => ?_) (fun h => ?_)
  · refine L_ps c45 (n := 2) (pc1 := 14) (ls1 := [jR v0, jI v1, jI v2, jI v3]) (st1 := [jI v3, jR v0]) rfl ?_
    refine L_cpI (c45 14 rfl) (js_v rfl ((Rl_tag hM hv0 (by decide)).trans js46)) hh45 (k_Term_get hv0 hM h) (fun r1 M hM h => ?_) (fun _ _ _ _ f => f.elim)
    refine L_ps c45 (n := 1) (pc1 := 18) (ls1 := [jR v0, jI v1, jI v2, jI v3]) (st1 := [jI v1, jI r1]) rfl ?_
    refine L_nb (p1 := 24) (p2 := 21) (c45 18 rfl) rfl jc_ne h (fun h => ?_) (fun h => ?_)
    · refine L_ps c45 (n := 1) (pc1 := 24) (ls1 := [jR v0, jI v1, jI (wr (v2 + 1)), jI v3]) (st1 := []) rfl ?_
      exact k_Term_count_j24 hv0 hM hQ hW4 h
    · exact k_Term_count_j24 hv0 hM hQ hW4 h
  · refine L_ps c45 (n := 1) (pc1 := 31) (ls1 := [jR v0, jI v1, jI v2, jI v3]) (st1 := [jI v2]) rfl ?_
    exact L_retI (c45 31 rfl) (hQ _ _ hM h)
theorem k_Term_count_l4 {E : JE2} {v0 : Nat} {v1 : Int} {v2 : Int} {v3 : Int} {μ : Mem} {M : JM} {P : JO → JM → Prop} {Q : Int → Prop} (hv0 : rt v0 = 8) (hM : Rl E M μ) (hQ : ∀ (r : Int) (M1 : JM), Rl E M1 μ → Q r → P (.inl (some (.inl r))) M1) (h : d_Term_count_l4 v0 v1 v2 v3 μ Q) : JX 45 4 [jR v0, jI v1, jI v2, jI v3] [] M P := by
  refine h (fun v2 v3 => ∀ (M : JM), Rl E M μ → JX 45 4 [jR v0, jI v1, jI v2, jI v3] [] M P) ?_ _ hM
  intro v2 v3 h M hM
  exact k_Term_count_b4 hv0 hM hQ (fun v2 v3 M hM h => h M hM) h
theorem k_Term_count {E : JE2} {v0 : Nat} {v1 : Int} {μ : Mem} {M : JM} {Q : Int → Prop} (hv0 : rt v0 = 8) (hM : Rl E M μ) (h : d_Term_count v0 v1 μ Q) : JX 45 0 (jargs 45 [jR v0, jI v1]) [] M (PO E (pQI μ Q) XN) := by
  unfold d_Term_count at h
  show JX 45 0 [jR v0, jI v1, jU, jU] [] M (PO E (pQI μ Q) XN)
  generalize hP : PO E (pQI μ Q) XN = P
  have hQ : ∀ (r : Int) (M1 : JM), Rl E M1 μ → Q r → P (.inl (some (.inl r))) M1 := by rw [← hP]; exact fun r M1 a b => ⟨μ, a, rfl, r, rfl, b⟩
  clear hP
  refine L_ps c45 (n := 4) (pc1 := 4) (ls1 := [jR v0, jI v1, jI 0, jI 0]) (st1 := []) rfl ?_
  exact k_Term_count_l4 hv0 hM hQ h
theorem k_Parser_faultOfNode_j105 {E : JE2} {v1 : Nat} {v2 : Int} {μ : Mem} {M : JM} {P : JO → JM → Prop} {g0 : JV} {g3 : JV} {Q : Int → Prop} (hv1 : rt v1 = 8) (hM : Rl E M μ) (hQ : ∀ (r : Int) (M1 : JM), Rl E M1 μ → Q r → P (.inl (some (.inl r))) M1) (h : d_Parser_faultOfNode_j105 v1 v2 μ Q) : JX 42 105 [g0, jR v1, jI v2, g3] [] M P := by
  unfold d_Parser_faultOfNode_j105 at h
  refine L_ps c42 (n := 1) (pc1 := 106) (ls1 := [g0, jR v1, jI v2, g3]) (st1 := [jR v1]) rfl ?_
  refine L_getI (c42 106 rfl) hM hv1 rfl ?_
  refine L_ps c42 (n := 1) (pc1 := 110) (ls1 := [g0, jR v1, jI v2, g3]) (st1 := [jI v2, jI (μ v1 1)]) rfl ?_
  refine L_br (p1 := 117) (p2 := 113) (c42 110 rfl) rfl jc_lt h (fun h => ?_) (fun h => ?_)
  · refine L_ps c42 (n := 1) (pc1 := 118) (ls1 := [g0, jR v1, jI v2, g3]) (st1 := [jI 0]) rfl ?_
    exact L_retI (c42 118 rfl) (hQ _ _ hM h)
  · refine L_ps c42 (n := 2) (pc1 := 118) (ls1 := [g0, jR v1, jI v2, g3]) (st1 := [jI 5]) rfl ?_
    exact L_retI (c42 118 rfl) (hQ _ _ hM h)
theorem k_Parser_faultOfNode_j62 {E : JE2} {v1 : Nat} {v2 : Int} {v3 : Int} {μ : Mem} {M : JM} {P : JO → JM → Prop} {Q : Int → Prop} (hv1 : rt v1 = 8) (hM : Rl E M μ) (hQ : ∀ (r : Int) (M1 : JM), Rl E M1 μ → Q r → P (.inl (some (.inl r))) M1) (h : d_Parser_faultOfNode_j62 v1 v2 v3 μ Q) : JX 42 62 [jR 72, jR v1, jI v2, jI v3] [] M P := by
  unfold d_Parser_faultOfNode_j62 at h
  refine L_ps c42 (n := 1) (pc1 := 63) (ls1 := [jR 72, jR v1, jI v2, jI v3]) (st1 := [jR 72]) rfl ?_
  refine L_getI (c42 63 rfl) hM rt72 rfl ?_
  refine L_ps c42 (n := 1) (pc1 := 68) (ls1 := [jR 72, jR v1, jI v2, jI v3]) (st1 := [jI 65, jI (μ 72 9)]) rfl ?_
  refine L_nb (p1 := 105) (p2 := 71) (c42 68 rfl) rfl jc_ne h (fun h => ?_) (fun h => ?_)
  · refine L_ps c42 (n := 2) (pc1 := 73) (ls1 := [jR 72, jR v1, jI v2, jI v3]) (st1 := [jI 2, jI v3]) rfl ?_
    refine L_nb (p1 := 105) (p2 := 76) (c42 73 rfl) rfl jc_ne h (fun h => ?_) (fun h => ?_)
    · refine L_ps c42 (n := 1) (pc1 := 77) (ls1 := [jR 72, jR v1, jI v2, jI v3]) (st1 := [jR 72]) rfl ?_
      refine L_getP (d := 5) (c42 77 rfl) hM rt72 rfl ?_
      refine L_ps c42 (n := 1) (pc1 := 81) (ls1 := [jR 72, jR v1, jI v2, jI v3]) (st1 := [jR 72, jR 77]) rfl ?_
      refine L_getP (d := 5) (c42 81 rfl) hM rt72 rfl ?_
      refine L_getI (c42 84 rfl) hM rt77 rfl ?_
      refine L_cpR (c42 87 rfl) (js_v rfl ((Rl_tag hM rt77 (by decide)).trans js39)) hh42 (k_State_rule rt77 hM h) (fun r3 M hM hr3 h => ?_) (fun _ _ _ _ f => f.elim)
      refine L_getD (c42 90 rfl) hM hr3 (by decide) ?_
      refine L_ps c42 (n := 1) (pc1 := 94) (ls1 := [jR 72, jR v1, jI v2, jI v3]) (st1 := [jR 72, jR (dp (μ r3 0))]) rfl ?_
      refine L_cpI (c42 94 rfl) (js_v rfl ((Rl_tag hM rt72 (by decide)).trans js43)) hh42 (k_Parser_variableOfToken hM h) (fun r5 M hM h => ?_) (fun _ _ _ _ f => f.elim)
      refine L_cpI (c42 97 rfl) (js_v rfl ((Rl_tag hM (dp_rt _) (by decide)).trans js45)) hh42 (k_Term_count (dp_rt _) hM h) (fun r7 M hM h => ?_) (fun _ _ _ _ f => f.elim)
      refine L_nb (p1 := 105) (p2 := 103) (c42 100 rfl) rfl jc_ne h (fun h => ?_) (fun h => ?_)
      · refine L_ps c42 (n := 1) (pc1 := 104) (ls1 := [jR 72, jR v1, jI v2, jI v3]) (st1 := [jI 4]) rfl ?_
        exact L_retI (c42 104 rfl) (hQ _ _ hM h)
      · exact k_Parser_faultOfNode_j105 hv1 hM hQ h
    · exact k_Parser_faultOfNode_j105 hv1 hM hQ h
  · exact k_Parser_faultOfNode_j105 hv1 hM hQ h
theorem k_Parser_faultOfNode_j39 {E : JE2} {v1 : Nat} {v2 : Int} {v3 : Int} {μ : Mem} {M : JM} {P : JO → JM → Prop} {Q : Int → Prop} (hv1 : rt v1 = 8) (hM : Rl E M μ) (hQ : ∀ (r : Int) (M1 : JM), Rl E M1 μ → Q r → P (.inl (some (.inl r))) M1) (h : d_Parser_faultOfNode_j39 v1 v2 v3 μ Q) : JX 42 39 [jR 72, jR v1, jI v2, jI v3] [] M P := by
  unfold d_Parser_faultOfNode_j39 at h
  refine L_ps c42 (n := 1) (pc1 := 40) (ls1 := [jR 72, jR v1, jI v2, jI v3]) (st1 := [jR 72]) rfl ?_
  refine L_getI (c42 40 rfl) hM rt72 rfl ?_
  refine L_ps c42 (n := 1) (pc1 := 45) (ls1 := [jR 72, jR v1, jI v2, jI v3]) (st1 := [jI 65, jI (μ 72 9)]) rfl ?_
  refine L_nb (p1 := 62) (p2 := 48) (c42 45 rfl) rfl jc_ne h (fun h => ?_) (fun h => ?_)
  · refine L_ps c42 (n := 2) (pc1 := 50) (ls1 := [jR 72, jR v1, jI v2, jI v3]) (st1 := [jI 1, jI v3]) rfl ?_
    refine L_nb (p1 := 62) (p2 := 53) (c42 50 rfl) rfl jc_ne h (fun h => ?_) (fun h => ?_)
    · refine L_ps c42 (n := 1) (pc1 := 54) (ls1 := [jR 72, jR v1, jI v2, jI v3]) (st1 := [jR v1]) rfl ?_
      refine L_getI (c42 54 rfl) hM hv1 rfl ?_
      refine L_nb (p1 := 62) (p2 := 60) (c42 57 rfl) rfl jc_ne h (fun h => ?_) (fun h => ?_)
      · refine L_ps c42 (n := 1) (pc1 := 61) (ls1 := [jR 72, jR v1, jI v2, jI v3]) (st1 := [jI 4]) rfl ?_
        exact L_retI (c42 61 rfl) (hQ _ _ hM h)
      · exact k_Parser_faultOfNode_j62 hv1 hM hQ h
    · exact k_Parser_faultOfNode_j62 hv1 hM hQ h
  · exact k_Parser_faultOfNode_j62 hv1 hM hQ h
theorem k_Parser_faultOfNode_j20 {E : JE2} {v1 : Nat} {v2 : Int} {v3 : Int} {μ : Mem} {M : JM} {P : JO → JM → Prop} {Q : Int → Prop} (hv1 : rt v1 = 8) (hM : Rl E M μ) (hQ : ∀ (r : Int) (M1 : JM), Rl E M1 μ → Q r → P (.inl (some (.inl r))) M1) (h : d_Parser_faultOfNode_j20 v1 v2 v3 μ Q) : JX 42 20 [jR 72, jR v1, jI v2, jI v3] [] M P := by
  unfold d_Parser_faultOfNode_j20 at h
  refine L_ps c42 (n := 1) (pc1 := 21) (ls1 := [jR 72, jR v1, jI v2, jI v3]) (st1 := [jR 72]) rfl ?_
  refine L_getI (c42 21 rfl) hM rt72 rfl ?_
  refine L_ps c42 (n := 1) (pc1 := 26) (ls1 := [jR 72, jR v1, jI v2, jI v3]) (st1 := [jI 97, jI (μ 72 9)]) rfl ?_
  refine L_nb (p1 := 39) (p2 := 29) (c42 26 rfl) rfl jc_ne h (fun h => ?_) (fun h => ?_)
  · refine L_ps c42 (n := 1) (pc1 := 30) (ls1 := [jR 72, jR v1, jI v2, jI v3]) (st1 := [jR 72]) rfl ?_
    refine L_cpI (c42 30 rfl) (js_v rfl ((Rl_tag hM rt72 (by decide)).trans js29)) hh42 (k_Parser_symbolOfWord hM h) (fun r1 M hM h => ?_) (fun _ _ _ _ f => f.elim)
    refine L_ps c42 (n := 1) (pc1 := 34) (ls1 := [jR 72, jR v1, jI v2, jI v3]) (st1 := [jI (-1), jI r1]) rfl ?_
    refine L_nb (p1 := 39) (p2 := 37) (c42 34 rfl) rfl jc_ne h (fun h => ?_) (fun h => ?_)
    · refine L_ps c42 (n := 1) (pc1 := 38) (ls1 := [jR 72, jR v1, jI v2, jI v3]) (st1 := [jI 3]) rfl ?_
      exact L_retI (c42 38 rfl) (hQ _ _ hM h)
    · exact k_Parser_faultOfNode_j39 hv1 hM hQ h
  · exact k_Parser_faultOfNode_j39 hv1 hM hQ h
theorem k_Parser_faultOfNode {E : JE2} {v1 : Nat} {v2 : Int} {v3 : Int} {μ : Mem} {M : JM} {Q : Int → Prop} (hv1 : rt v1 = 8) (hM : Rl E M μ) (h : d_Parser_faultOfNode v1 v2 v3 μ Q) : JX 42 0 (jargs 42 [jR 72, jR v1, jI v2, jI v3]) [] M (PO E (pQI μ Q) XN) := by
  unfold d_Parser_faultOfNode at h
  show JX 42 0 [jR 72, jR v1, jI v2, jI v3] [] M (PO E (pQI μ Q) XN)
  generalize hP : PO E (pQI μ Q) XN = P
  have hQ : ∀ (r : Int) (M1 : JM), Rl E M1 μ → Q r → P (.inl (some (.inl r))) M1 := by rw [← hP]; exact fun r M1 a b => ⟨μ, a, rfl, r, rfl, b⟩
  clear hP
  refine L_ps c42 (n := 1) (pc1 := 1) (ls1 := [jR 72, jR v1, jI v2, jI v3]) (st1 := [jR 72]) rfl ?_
  refine L_getI (c42 1 rfl) hM rt72 rfl ?_
  refine L_ps c42 (n := 1) (pc1 := 6) (ls1 := [jR 72, jR v1, jI v2, jI v3]) (st1 := [jI 97, jI (μ 72 9)]) rfl ?_
  refine L_br (p1 := 20) (p2 := 9) (c42 6 rfl) rfl jc_eq h (fun h => ?_) (fun h => ?_)
  · exact k_Parser_faultOfNode_j20 hv1 hM hQ h
  · refine L_ps c42 (n := 1) (pc1 := 10) (ls1 := [jR 72, jR v1, jI v2, jI v3]) (st1 := [jR 72]) rfl ?_
    refine L_getI (c42 10 rfl) hM rt72 rfl ?_
    refine L_ps c42 (n := 1) (pc1 := 15) (ls1 := [jR 72, jR v1, jI v2, jI v3]) (st1 := [jI 65, jI (μ 72 9)]) rfl ?_
    refine L_br (p1 := 20) (p2 := 18) (c42 15 rfl) rfl jc_eq h (fun h => ?_) (fun h => ?_)
    · exact k_Parser_faultOfNode_j20 hv1 hM hQ h
    · refine L_ps c42 (n := 1) (pc1 := 19) (ls1 := [jR 72, jR v1, jI v2, jI v3]) (st1 := [jI 1]) rfl ?_
      exact L_retI (c42 19 rfl) (hQ _ _ hM h)
theorem k_Signature_arity {E : JE2} {v0 : Nat} {v1 : Int} {μ : Mem} {M : JM} {Q : Int → Prop} (hv0 : rt v0 = 6) (hM : Rl E M μ) (h : d_Signature_arity v0 v1 μ Q) : JX 48 0 (jargs 48 [jR v0, jI v1]) [] M (PO E (pQI μ Q) XN) := by
  unfold d_Signature_arity at h
  show JX 48 0 [jR v0, jI v1] [] M (PO E (pQI μ Q) XN)
  generalize hP : PO E (pQI μ Q) XN = P
  have hQ : ∀ (r : Int) (M1 : JM), Rl E M1 μ → Q r → P (.inl (some (.inl r))) M1 := by rw [← hP]; exact fun r M1 a b => ⟨μ, a, rfl, r, rfl, b⟩
  clear hP
  refine L_ps c48 (n := 1) (pc1 := 1) (ls1 := [jR v0, jI v1]) (st1 := [jI v1]) rfl ?_
  refine L_br (p1 := 19) (p2 := 4) (c48 1 rfl) rfl jc_lt h (fun h => ?_) (fun h => ?_)
  · refine L_ps c48 (n := 1) (pc1 := 20) (ls1 := [jR v0, jI v1]) (st1 := [jI 0]) rfl ?_
    exact L_retI (c48 20 rfl) (hQ _ _ hM h)
  · refine L_ps c48 (n := 2) (pc1 := 7) (ls1 := [jR v0, jI v1]) (st1 := [jI 8, jI v1]) rfl ?_
    refine L_nb (p1 := 19) (p2 := 10) (c48 7 rfl) rfl jc_ge h (fun h => ?_) (fun h => ?_)
    · refine L_ps c48 (n := 1) (pc1 := 11) (ls1 := [jR v0, jI v1]) (st1 := [jR v0]) rfl ?_
      refine L_getP (d := 1) (c48 11 rfl) hM hv0 rfl ?_
      refine L_ps c48 (n := 1) (pc1 := 15) (ls1 := [jR v0, jI v1]) (st1 := [jI v1, jR (v0 + 1)]) rfl ?_
      obtain ⟨hb, h⟩ := h
      refine L_iald (c48 15 rfl) hM (rp_6_1 hv0) (lp_6_1 hv0) hb ?_
      refine L_ps c48 (n := 1) (pc1 := 20) (ls1 := [jR v0, jI v1]) (st1 := [jI (μ (v0 + 1) v1.toNat)]) rfl ?_
      exact L_retI (c48 20 rfl) (hQ _ _ hM h)
    · refine L_ps c48 (n := 1) (pc1 := 20) (ls1 := [jR v0, jI v1]) (st1 := [jI 0]) rfl ?_
      exact L_retI (c48 20 rfl) (hQ _ _ hM h)
theorem k_Term_symbolNode {E : JE2} {v0 : Int} {v1 : Int} {μ : Mem} {M : JM} {Q : Int → Prop} (hM : Rl E M μ) (h : d_Term_symbolNode v0 v1 μ Q) : JX 49 0 (jargs 49 [jI v0, jI v1]) [] M (PO E (pQI μ Q) XN) := by
  unfold d_Term_symbolNode at h
  show JX 49 0 [jI v0, jI v1] [] M (PO E (pQI μ Q) XN)
  generalize hP : PO E (pQI μ Q) XN = P
  have hQ : ∀ (r : Int) (M1 : JM), Rl E M1 μ → Q r → P (.inl (some (.inl r))) M1 := by rw [← hP]; exact fun r M1 a b => ⟨μ, a, rfl, r, rfl, b⟩
  clear hP
  refine L_ps c49 (n := 5) (pc1 := 5) (ls1 := [jI v0, jI v1]) (st1 := [jI (wr ((wr (4 * v0)) + v1))]) rfl ?_
  exact L_retI (c49 5 rfl) (hQ _ _ hM h)
theorem k_Parser_nodeOfToken {E : JE2} {μ : Mem} {M : JM} {Q : Int → Prop} (hM : Rl E M μ) (h : d_Parser_nodeOfToken μ Q) : JX 47 0 (jargs 47 [jR 72]) [] M (PO E (pQI μ Q) XN) := by
  unfold d_Parser_nodeOfToken at h
  show JX 47 0 [jR 72, jU] [] M (PO E (pQI μ Q) XN)
  generalize hP : PO E (pQI μ Q) XN = P
  have hQ : ∀ (r : Int) (M1 : JM), Rl E M1 μ → Q r → P (.inl (some (.inl r))) M1 := by rw [← hP]; exact fun r M1 a b => ⟨μ, a, rfl, r, rfl, b⟩
  clear hP
  refine L_ps c47 (n := 1) (pc1 := 1) (ls1 := [jR 72, jU]) (st1 := [jR 72]) rfl ?_
  refine L_getI (c47 1 rfl) hM rt72 rfl ?_
  refine L_ps c47 (n := 1) (pc1 := 6) (ls1 := [jR 72, jU]) (st1 := [jI 65, jI (μ 72 9)]) rfl ?_
  refine L_nb (p1 := 14) (p2 := 9) (c47 6 rfl) rfl jc_ne h (fun h => ?_) (fun h => ?_)
  · refine L_ps c47 (n := 1) (pc1 := 10) (ls1 := [jR 72, jU]) (st1 := [jR 72]) rfl ?_
    refine L_cpI (c47 10 rfl) (js_v rfl ((Rl_tag hM rt72 (by decide)).trans js43)) hh47 (k_Parser_variableOfToken hM h) (fun r1 M hM h => ?_) (fun _ _ _ _ f => f.elim)
    exact L_retI (c47 13 rfl) (hQ _ _ hM h)
  · refine L_ps c47 (n := 1) (pc1 := 15) (ls1 := [jR 72, jU]) (st1 := [jR 72]) rfl ?_
    refine L_cpI (c47 15 rfl) (js_v rfl ((Rl_tag hM rt72 (by decide)).trans js29)) hh47 (k_Parser_symbolOfWord hM h) (fun r3 M hM h => ?_) (fun _ _ _ _ f => f.elim)
    refine L_ps c47 (n := 3) (pc1 := 21) (ls1 := [jR 72, jI r3]) (st1 := [jR 72, jI r3]) rfl ?_
    refine L_getP (d := 1) (c47 21 rfl) hM rt72 rfl ?_
    refine L_ps c47 (n := 1) (pc1 := 25) (ls1 := [jR 72, jI r3]) (st1 := [jI r3, jR 73, jI r3]) rfl ?_
    refine L_cpI (c47 25 rfl) (js_v rfl ((Rl_tag hM rt73 (by decide)).trans js48)) hh47 (k_Signature_arity rt73 hM h) (fun r5 M hM h => ?_) (fun _ _ _ _ f => f.elim)
    refine L_cpI (c47 28 rfl) (js_t rfl) hh47 (k_Term_symbolNode hM h) (fun r7 M hM h => ?_) (fun _ _ _ _ f => f.elim)
    exact L_retI (c47 31 rfl) (hQ _ _ hM h)
theorem k_Term_add {E : JE2} {v0 : Nat} {v1 : Int} {μ : Mem} {M : JM} {Q : Bool → Mem → Prop} (hv0 : rt v0 = 8) (hM : Rl E M μ) (h : d_Term_add v0 v1 μ Q) : JX 50 0 (jargs 50 [jR v0, jI v1]) [] M (PO E (QB Q) XN) := by
  unfold d_Term_add at h
  show JX 50 0 [jR v0, jI v1] [] M (PO E (QB Q) XN)
  generalize hP : PO E (QB Q) XN = P
  have hQ : ∀ (r : Bool) (M1 : JM) (μ1 : Mem), Rl E M1 μ1 → Q r μ1 → P (.inl (some (.inl (b2i r)))) M1 := by rw [← hP]; exact fun r M1 μ1 a b => ⟨μ1, a, r, rfl, b⟩
  clear hP
  refine L_ps c50 (n := 1) (pc1 := 1) (ls1 := [jR v0, jI v1]) (st1 := [jR v0]) rfl ?_
  refine L_getI (c50 1 rfl) hM hv0 rfl ?_
  refine L_br (p1 := 19) (p2 := 7) (c50 4 rfl) rfl jc_lt h (fun h => ?_) (fun h => ?_)
  · refine L_ps c50 (n := 1) (pc1 := 20) (ls1 := [jR v0, jI v1]) (st1 := [jI 0]) rfl ?_
    exact L_retB (c50 20 rfl) (Or.inl rfl) (hQ false _ _ hM h)
  · refine L_ps c50 (n := 1) (pc1 := 8) (ls1 := [jR v0, jI v1]) (st1 := [jR v0]) rfl ?_
    refine L_getI (c50 8 rfl) hM hv0 rfl ?_
    refine L_ps c50 (n := 1) (pc1 := 12) (ls1 := [jR v0, jI v1]) (st1 := [jR v0, jI (μ v0 1)]) rfl ?_
    refine L_getP (d := 1) (c50 12 rfl) hM hv0 rfl ?_
    refine L_alen (n := ln (v0 + 1)) (z := (ln (v0 + 1) : Int)) (c50 15 rfl) hM (rp_8_1 hv0) (by decide) rfl (ln_small _) rfl ?_
    refine L_br (p1 := 21) (p2 := 19) (c50 16 rfl) rfl jc_lt h (fun h => ?_) (fun h => ?_)
    · refine L_ps c50 (n := 1) (pc1 := 22) (ls1 := [jR v0, jI v1]) (st1 := [jR v0]) rfl ?_
      refine L_getP (d := 1) (c50 22 rfl) hM hv0 rfl ?_
      refine L_ps c50 (n := 1) (pc1 := 26) (ls1 := [jR v0, jI v1]) (st1 := [jR v0, jR (v0 + 1)]) rfl ?_
      refine L_getI (c50 26 rfl) hM hv0 rfl ?_
      refine L_ps c50 (n := 1) (pc1 := 30) (ls1 := [jR v0, jI v1]) (st1 := [jI v1, jI (μ v0 1), jR (v0 + 1)]) rfl ?_
      obtain ⟨hb, h⟩ := h
      refine L_iast (c50 30 rfl) hM (rp_8_1 hv0) rfl hb (fun M hM => ?_)
      refine L_ps c50 (n := 2) (pc1 := 33) (ls1 := [jR v0, jI v1]) (st1 := [jR v0, jR v0]) rfl ?_
      refine L_getI (c50 33 rfl) hM hv0 rfl ?_
      refine L_ps c50 (n := 2) (pc1 := 38) (ls1 := [jR v0, jI v1]) (st1 := [jI (wr (((mup μ (v0 + 1) (μ v0 1).toNat v1) v0 1) + 1)), jR v0]) rfl ?_
      refine L_putI (c50 38 rfl) hM hv0 rfl (fun M hM => ?_)
      refine L_ps c50 (n := 1) (pc1 := 42) (ls1 := [jR v0, jI v1]) (st1 := [jI 1]) rfl ?_
      exact L_retB (c50 42 rfl) (Or.inr rfl) (hQ true _ _ hM h)
    · refine L_ps c50 (n := 1) (pc1 := 20) (ls1 := [jR v0, jI v1]) (st1 := [jI 0]) rfl ?_
      exact L_retB (c50 20 rfl) (Or.inl rfl) (hQ false _ _ hM h)
theorem k_Term_arityOf {E : JE2} {v0 : Int} {μ : Mem} {M : JM} {Q : Int → Prop} (hM : Rl E M μ) (h : d_Term_arityOf v0 μ Q) : JX 51 0 (jargs 51 [jI v0]) [] M (PO E (pQI μ Q) XN) := by
  unfold d_Term_arityOf at h
  show JX 51 0 [jI v0] [] M (PO E (pQI μ Q) XN)
  generalize hP : PO E (pQI μ Q) XN = P
  have hQ : ∀ (r : Int) (M1 : JM), Rl E M1 μ → Q r → P (.inl (some (.inl r))) M1 := by rw [← hP]; exact fun r M1 a b => ⟨μ, a, rfl, r, rfl, b⟩
  clear hP
  refine L_ps c51 (n := 1) (pc1 := 1) (ls1 := [jI v0]) (st1 := [jI v0]) rfl ?_
  refine L_nb (p1 := 8) (p2 := 4) (c51 1 rfl) rfl jc_ge h (fun h => ?_) (fun h => ?_)
  · refine L_ps c51 (n := 2) (pc1 := 11) (ls1 := [jI v0]) (st1 := [jI 0]) rfl ?_
    exact L_retI (c51 11 rfl) (hQ _ _ hM h)
  · refine L_ps c51 (n := 3) (pc1 := 11) (ls1 := [jI v0]) (st1 := [jI (jand v0 3)]) rfl ?_
    exact L_retI (c51 11 rfl) (hQ _ _ hM h)
theorem k_Parser_closeBrackets_j57 {E : JE2} {v2 : Int} {v3 : Int} {t0 : Int} {t1 : Int} {μ : Mem} {M : JM} {P : JO → JM → Prop} {g1 : JV} {W4 : Int → Mem → Prop} {Q : Int → Mem → Prop} (hg1 : jc2 g1 = false) (hM : Rl E M μ) (hQ : ∀ (r : Int) (M1 : JM) (μ1 : Mem), Rl E M1 μ1 → Q r μ1 → P (.inl (some (.inl r))) M1) (hW4 : ∀ (v2 : Int) (g1 : JV) (g3 : JV) (M1 : JM) (μ1 : Mem), jc2 g1 = false → Rl E M1 μ1 → W4 v2 μ1 → JX 52 4 [jR 72, g1, jI v2, g3] [] M1 P) (h : d_Parser_closeBrackets_j57 v2 v3 t0 t1 μ W4 Q) : JX 52 57 [jR 72, g1, jI v2, jI v3] [jI t1, jI t0] M P := by
  unfold d_Parser_closeBrackets_j57 at h
  refine L_br (p1 := 68) (p2 := 60) (c52 57 rfl) rfl jc_eq h (fun h => ?_) (fun h => ?_)
  · refine L_ps c52 (n := 1) (pc1 := 69) (ls1 := [jR 72, g1, jI v2, jI v3]) (st1 := [jR 72]) rfl ?_
    refine L_cV (c52 69 rfl) (js_v rfl ((Rl_tag hM rt72 (by decide)).trans js16)) hh52 (k_Parser_next hM h) (fun M μ2 hM h => ?_) (fun _ _ _ _ f => f.elim)
    refine L_ps c52 (n := 1) (pc1 := 73) (ls1 := [jR 72, g1, jI v2, jI v3]) (st1 := [jI v3]) rfl ?_
    refine L_br (p1 := 80) (p2 := 76) (c52 73 rfl) rfl jc_eq h (fun h => ?_) (fun h => ?_)
    · refine L_iinc (c52 80 rfl) (hg1) (Nat.le_of_ble_eq_true rfl) rfl ?_
      show JX 52 83 [jR 72, g1, jI (wr (v2 + (-1))), jI v3] [] M P
      refine L_ps c52 (n := 1) (pc1 := 4) (ls1 := [jR 72, g1, jI (wr (v2 + (-1))), jI v3]) (st1 := []) rfl ?_
      exact hW4 _ _ _ _ _ hg1 hM h
    · refine L_ps c52 (n := 3) (pc1 := 79) (ls1 := [jR 72, g1, jI v2, jI v3]) (st1 := [jI (wr (v2 + 1))]) rfl ?_
      exact L_retI (c52 79 rfl) (hQ _ _ _ hM h)
  · refine L_ps c52 (n := 2) (pc1 := 62) (ls1 := [jR 72, g1, jI v2, jI v3]) (st1 := [jI 1, jR 72]) rfl ?_
    refine L_cB (c52 62 rfl) (js_v rfl ((Rl_tag hM rt72 (by decide)).trans js27)) hh52 (k_Parser_fail hM h) (fun r3 M μ4 hM h => ?_) (fun _ _ _ _ f => f.elim)
    refine L_ps c52 (n := 2) (pc1 := 67) (ls1 := [jR 72, g1, jI v2, jI v3]) (st1 := [jI (-1)]) rfl ?_
    exact L_retI (c52 67 rfl) (hQ _ _ _ hM h)
theorem k_Parser_closeBrackets_j41 {E : JE2} {v2 : Int} {t0 : Int} {μ : Mem} {M : JM} {P : JO → JM → Prop} {g1 : JV} {g3 : JV} {W4 : Int → Mem → Prop} {Q : Int → Mem → Prop} (hg1 : jc2 g1 = false) (hM : Rl E M μ) (hQ : ∀ (r : Int) (M1 : JM) (μ1 : Mem), Rl E M1 μ1 → Q r μ1 → P (.inl (some (.inl r))) M1) (hW4 : ∀ (v2 : Int) (g1 : JV) (g3 : JV) (M1 : JM) (μ1 : Mem), jc2 g1 = false → Rl E M1 μ1 → W4 v2 μ1 → JX 52 4 [jR 72, g1, jI v2, g3] [] M1 P) (h : d_Parser_closeBrackets_j41 v2 t0 μ W4 Q) : JX 52 41 [jR 72, g1, jI v2, g3] [jI t0] M P := by
  unfold d_Parser_closeBrackets_j41 at h
  refine L_ps c52 (n := 2) (pc1 := 43) (ls1 := [jR 72, g1, jI v2, jI t0]) (st1 := [jR 72]) rfl ?_
  refine L_getI (c52 43 rfl) hM rt72 rfl ?_
  refine L_ps c52 (n := 1) (pc1 := 47) (ls1 := [jR 72, g1, jI v2, jI t0]) (st1 := [jI t0, jI (μ 72 9)]) rfl ?_
  refine L_br (p1 := 55) (p2 := 50) (c52 47 rfl) rfl jc_eq h (fun h => ?_) (fun h => ?_)
  · refine L_ps c52 (n := 1) (pc1 := 57) (ls1 := [jR 72, g1, jI v2, jI t0]) (st1 := [jI 41, jI (μ 72 9)]) rfl ?_
    exact k_Parser_closeBrackets_j57 hg1 hM hQ hW4 h
  · refine L_ps c52 (n := 2) (pc1 := 57) (ls1 := [jR 72, g1, jI v2, jI t0]) (st1 := [jI 44, jI (μ 72 9)]) rfl ?_
    exact k_Parser_closeBrackets_j57 hg1 hM hQ hW4 h
theorem k_Parser_closeBrackets_b4 {E : JE2} {v2 : Int} {μ : Mem} {M : JM} {P : JO → JM → Prop} {g1 : JV} {g3 : JV} {W4 : Int → Mem → Prop} {Q : Int → Mem → Prop} (hg1 : jc2 g1 = false) (hM : Rl E M μ) (hQ : ∀ (r : Int) (M1 : JM) (μ1 : Mem), Rl E M1 μ1 → Q r μ1 → P (.inl (some (.inl r))) M1) (hW4 : ∀ (v2 : Int) (g1 : JV) (g3 : JV) (M1 : JM) (μ1 : Mem), jc2 g1 = false → Rl E M1 μ1 → W4 v2 μ1 → JX 52 4 [jR 72, g1, jI v2, g3] [] M1 P) (h : d_Parser_closeBrackets_b4 v2 μ W4 Q) : JX 52 4 [jR 72, g1, jI v2, g3] [] M P := by
  unfold d_Parser_closeBrackets_b4 at h
  refine L_ps c52 (n := 1) (pc1 := 5) (ls1 := [jR 72, g1, jI v2, g3]) (st1 := [jI v2]) rfl ?_
  refine L_br (p1 := 86) (p2 := 8) (c52 5 rfl) rfl jc_lt h (fun h => ?_) (fun h => ?_)
  · refine L_ps c52 (n := 1) (pc1 := 87) (ls1 := [jR 72, g1, jI v2, g3]) (st1 := [jI 0]) rfl ?_
    exact L_retI (c52 87 rfl) (hQ _ _ _ hM h)
  · refine L_ps c52 (n := 2) (pc1 := 10) (ls1 := [jR 72, g1, jI v2, g3]) (st1 := [jR 72, jI v2]) rfl ?_
    refine L_getP (d := 66) (c52 10 rfl) hM rt72 rfl ?_
    refine L_alen (n := 40) (z := 40) (c52 13 rfl) hM rt138 (by decide) ln138 (by decide) rfl ?_
    refine L_nb (p1 := 86) (p2 := 17) (c52 14 rfl) rfl jc_ge h (fun h => ?_) (fun h => ?_)
    · refine L_ps c52 (n := 1) (pc1 := 18) (ls1 := [jR 72, g1, jI v2, g3]) (st1 := [jR 72]) rfl ?_
      refine L_getP (d := 66) (c52 18 rfl) hM rt72 rfl ?_
      refine L_ps c52 (n := 2) (pc1 := 23) (ls1 := [jR 72, g1, jI v2, g3]) (st1 := [jI v2, jR 138, jI v2, jR 138]) rfl ?_
      obtain ⟨hb, h⟩ := h
      refine L_iald (c52 23 rfl) hM rt138 ln138 hb ?_
      refine L_ps c52 (n := 2) (pc1 := 26) (ls1 := [jR 72, g1, jI v2, g3]) (st1 := [jI (wr ((μ 138 v2.toNat) - 1)), jI v2, jR 138]) rfl ?_
      obtain ⟨hb, h⟩ := h
      refine L_iast (c52 26 rfl) hM rt138 ln138 hb (fun M hM => ?_)
      refine L_ps c52 (n := 1) (pc1 := 28) (ls1 := [jR 72, g1, jI v2, g3]) (st1 := [jR 72]) rfl ?_
      refine L_getP (d := 66) (c52 28 rfl) hM rt72 rfl ?_
      refine L_ps c52 (n := 1) (pc1 := 32) (ls1 := [jR 72, g1, jI v2, g3]) (st1 := [jI v2, jR 138]) rfl ?_
      obtain ⟨hb, h⟩ := h
      refine L_iald (c52 32 rfl) hM rt138 ln138 hb ?_
      refine L_nb (p1 := 40) (p2 := 36) (c52 33 rfl) rfl jc_le h (fun h => ?_) (fun h => ?_)
      · refine L_ps c52 (n := 2) (pc1 := 41) (ls1 := [jR 72, g1, jI v2, g3]) (st1 := [jI 1]) rfl ?_
        exact k_Parser_closeBrackets_j41 hg1 hM hQ hW4 h
      · refine L_ps c52 (n := 1) (pc1 := 41) (ls1 := [jR 72, g1, jI v2, g3]) (st1 := [jI 0]) rfl ?_
        exact k_Parser_closeBrackets_j41 hg1 hM hQ hW4 h
    · refine L_ps c52 (n := 1) (pc1 := 87) (ls1 := [jR 72, g1, jI v2, g3]) (st1 := [jI 0]) rfl ?_
      exact L_retI (c52 87 rfl) (hQ _ _ _ hM h)
theorem k_Parser_closeBrackets_l4 {E : JE2} {v2 : Int} {μ : Mem} {M : JM} {P : JO → JM → Prop} {g1 : JV} {g3 : JV} {Q : Int → Mem → Prop} (hg1 : jc2 g1 = false) (hM : Rl E M μ) (hQ : ∀ (r : Int) (M1 : JM) (μ1 : Mem), Rl E M1 μ1 → Q r μ1 → P (.inl (some (.inl r))) M1) (h : d_Parser_closeBrackets_l4 v2 μ Q) : JX 52 4 [jR 72, g1, jI v2, g3] [] M P := by
  refine h (fun v2 μ => ∀ (g1 : JV) (g3 : JV) (M : JM), jc2 g1 = false → Rl E M μ → JX 52 4 [jR 72, g1, jI v2, g3] [] M P) ?_ _ _ _ hg1 hM
  intro v2 μ h g1 g3 M hg1 hM
  exact k_Parser_closeBrackets_b4 hg1 hM hQ (fun v2 g1 g3 M μ hg1 hM h => h g1 g3 M hg1 hM) h
theorem k_Parser_closeBrackets {E : JE2} {v1 : Int} {μ : Mem} {M : JM} {Q : Int → Mem → Prop} (hM : Rl E M μ) (h : d_Parser_closeBrackets v1 μ Q) : JX 52 0 (jargs 52 [jR 72, jI v1]) [] M (PO E (QI Q) XN) := by
  unfold d_Parser_closeBrackets at h
  show JX 52 0 [jR 72, jI v1, jU, jU] [] M (PO E (QI Q) XN)
  generalize hP : PO E (QI Q) XN = P
  have hQ : ∀ (r : Int) (M1 : JM) (μ1 : Mem), Rl E M1 μ1 → Q r μ1 → P (.inl (some (.inl r))) M1 := by rw [← hP]; exact fun r M1 μ1 a b => ⟨μ1, a, r, rfl, b⟩
  clear hP
  refine L_ps c52 (n := 4) (pc1 := 4) (ls1 := [jR 72, jI v1, jI (wr (v1 - 1)), jU]) (st1 := []) rfl ?_
  exact k_Parser_closeBrackets_l4 rfl hM hQ h
theorem k_Parser_readTerm_j133 {E : JE2} {v1 : Nat} {v2 : Int} {v3 : Int} {v4 : Int} {v5 : Int} {μ : Mem} {M : JM} {P : JO → JM → Prop} {g6 : JV} {g7 : JV} {W10 : Int → Int → Mem → Prop} {Q : Bool → Mem → Prop} (hg6 : jc2 g6 = false) (hv1 : rt v1 = 8) (hM : Rl E M μ) (hQ : ∀ (r : Bool) (M1 : JM) (μ1 : Mem), Rl E M1 μ1 → Q r μ1 → P (.inl (some (.inl (b2i r)))) M1) (hW10 : ∀ (v4 : Int) (v5 : Int) (g6 : JV) (g7 : JV) (M1 : JM) (μ1 : Mem), jc2 g6 = false → Rl E M1 μ1 → W10 v4 v5 μ1 → JX 40 10 [jR 72, jR v1, jI v2, jI v3, jI v4, jI v5, g6, g7] [] M1 P) (h : d_Parser_readTerm_j133 v1 v2 v3 v4 v5 μ W10 Q) : JX 40 133 [jR 72, jR v1, jI v2, jI v3, jI v4, jI v5, g6, g7] [] M P := by
  unfold d_Parser_readTerm_j133 at h
  refine L_ps c40 (n := 2) (pc1 := 10) (ls1 := [jR 72, jR v1, jI v2, jI v3, jI v4, jI (wr (v5 + 1)), g6, g7]) (st1 := []) rfl ?_
  exact hW10 _ _ _ _ _ _ hg6 hM h
theorem k_Parser_readTerm_j81 {E : JE2} {μ : Mem} {M : JM} {P : JO → JM → Prop} {g1 : JV} {g2 : JV} {g3 : JV} {g4 : JV} {g5 : JV} {g6 : JV} {g7 : JV} {Q : Bool → Mem → Prop} (hg3 : jc2 g3 = false) (hg4 : jc2 g4 = false) (hg5 : jc2 g5 = false) (hg6 : jc2 g6 = false) (hM : Rl E M μ) (hQ : ∀ (r : Bool) (M1 : JM) (μ1 : Mem), Rl E M1 μ1 → Q r μ1 → P (.inl (some (.inl (b2i r)))) M1) (h : d_Parser_readTerm_j81 μ Q) : JX 40 81 [jR 72, g1, g2, g3, g4, g5, g6, g7] [] M P := by
  unfold d_Parser_readTerm_j81 at h
  refine L_ps c40 (n := 2) (pc1 := 83) (ls1 := [jR 72, g1, g2, g3, g4, g5, g6, g7]) (st1 := [jI 1, jR 72]) rfl ?_
  refine L_cB (c40 83 rfl) (js_v rfl ((Rl_tag hM rt72 (by decide)).trans js27)) hh40 (k_Parser_fail hM h) (fun r19 M μ20 hM h => ?_) (fun _ _ _ _ f => f.elim)
  exact L_retB (c40 86 rfl) (bz_b _) (hQ _ _ _ hM h)
theorem k_Parser_readTerm_b10 {E : JE2} {v1 : Nat} {v2 : Int} {v3 : Int} {v4 : Int} {v5 : Int} {μ : Mem} {M : JM} {P : JO → JM → Prop} {g6 : JV} {g7 : JV} {W10 : Int → Int → Mem → Prop} {Q : Bool → Mem → Prop} (hg6 : jc2 g6 = false) (hv1 : rt v1 = 8) (hM : Rl E M μ) (hQ : ∀ (r : Bool) (M1 : JM) (μ1 : Mem), Rl E M1 μ1 → Q r μ1 → P (.inl (some (.inl (b2i r)))) M1) (hW10 : ∀ (v4 : Int) (v5 : Int) (g6 : JV) (g7 : JV) (M1 : JM) (μ1 : Mem), jc2 g6 = false → Rl E M1 μ1 → W10 v4 v5 μ1 → JX 40 10 [jR 72, jR v1, jI v2, jI v3, jI v4, jI v5, g6, g7] [] M1 P) (h : d_Parser_readTerm_b10 v1 v2 v3 v4 v5 μ W10 Q) : JX 40 10 [jR 72, jR v1, jI v2, jI v3, jI v4, jI v5, g6, g7] [] M P := by
  unfold d_Parser_readTerm_b10 at h
  refine L_ps c40 (n := 2) (pc1 := 13) (ls1 := [jR 72, jR v1, jI v2, jI v3, jI v4, jI v5, g6, g7]) (st1 := [jI v2, jI v5]) rfl ?_
  refine L_br (p1 := 139) (p2 := 16) (c40 13 rfl) rfl jc_gt h (fun h => ?_) (fun h => ?_)
  · refine L_ps c40 (n := 2) (pc1 := 141) (ls1 := [jR 72, jR v1, jI v2, jI v3, jI v4, jI v5, g6, g7]) (st1 := [jI 5, jR 72]) rfl ?_
    refine L_cB (c40 141 rfl) (js_v rfl ((Rl_tag hM rt72 (by decide)).trans js27)) hh40 (k_Parser_fail hM h) (fun r3 M μ4 hM h => ?_) (fun _ _ _ _ f => f.elim)
    exact L_retB (c40 144 rfl) (bz_b _) (hQ _ _ _ hM h)
  · refine L_ps c40 (n := 4) (pc1 := 20) (ls1 := [jR 72, jR v1, jI v2, jI v3, jI v4, jI v5, g6, g7]) (st1 := [jI v3, jI v2, jR v1, jR 72]) rfl ?_
    refine L_cpI (c40 20 rfl) (js_v rfl ((Rl_tag hM rt72 (by decide)).trans js42)) hh40 (k_Parser_faultOfNode hv1 hM h) (fun r5 M hM h => ?_) (fun _ _ _ _ f => f.elim)
    refine L_ps c40 (n := 2) (pc1 := 27) (ls1 := [jR 72, jR v1, jI v2, jI v3, jI v4, jI v5, jI r5, g7]) (st1 := [jI r5]) rfl ?_
    refine L_br (p1 := 37) (p2 := 30) (c40 27 rfl) rfl jc_eq h (fun h => ?_) (fun h => ?_)
    · refine L_ps c40 (n := 1) (pc1 := 38) (ls1 := [jR 72, jR v1, jI v2, jI v3, jI v4, jI v5, jI r5, g7]) (st1 := [jR 72]) rfl ?_
      refine L_cpI (c40 38 rfl) (js_v rfl ((Rl_tag hM rt72 (by decide)).trans js47)) hh40 (k_Parser_nodeOfToken hM h) (fun r7 M hM h => ?_) (fun _ _ _ _ f => f.elim)
      refine L_ps c40 (n := 3) (pc1 := 46) (ls1 := [jR 72, jR v1, jI v2, jI v3, jI v4, jI v5, jI r5, jI r7]) (st1 := [jI r7, jR v1]) rfl ?_
      refine L_cB (c40 46 rfl) (js_v rfl ((Rl_tag hM hv1 (by decide)).trans js50)) hh40 (k_Term_add hv1 hM h) (fun r9 M μ10 hM h => ?_) (fun _ _ _ _ f => f.elim)
      refine L_ps c40 (n := 2) (pc1 := 51) (ls1 := [jR 72, jR v1, jI v2, jI v3, jI v4, jI v5, jI r5, jI r7]) (st1 := [jR 72]) rfl ?_
      refine L_cV (c40 51 rfl) (js_v rfl ((Rl_tag hM rt72 (by decide)).trans js16)) hh40 (k_Parser_next hM h) (fun M μ12 hM h => ?_) (fun _ _ _ _ f => f.elim)
      refine L_ps c40 (n := 1) (pc1 := 56) (ls1 := [jR 72, jR v1, jI v2, jI v3, jI v4, jI v5, jI r5, jI r7]) (st1 := [jI r7]) rfl ?_
      refine L_cpI (c40 56 rfl) (js_t rfl) hh40 (k_Term_arityOf hM h) (fun r13 M hM h => ?_) (fun _ _ _ _ f => f.elim)
      refine L_nb (p1 := 109) (p2 := 62) (c40 59 rfl) rfl jc_le h (fun h => ?_) (fun h => ?_)
      · refine L_ps c40 (n := 1) (pc1 := 63) (ls1 := [jR 72, jR v1, jI v2, jI v3, jI v4, jI v5, jI r5, jI r7]) (st1 := [jR 72]) rfl ?_
        refine L_getI (c40 63 rfl) hM rt72 rfl ?_
        refine L_ps c40 (n := 1) (pc1 := 68) (ls1 := [jR 72, jR v1, jI v2, jI v3, jI v4, jI v5, jI r5, jI r7]) (st1 := [jI 40, jI (μ12 72 9)]) rfl ?_
        refine L_nb (p1 := 81) (p2 := 71) (c40 68 rfl) rfl jc_ne h (fun h => ?_) (fun h => ?_)
        · refine L_ps c40 (n := 2) (pc1 := 74) (ls1 := [jR 72, jR v1, jI v2, jI v3, jI v4, jI v5, jI r5, jI r7]) (st1 := [jR 72, jI v4]) rfl ?_
          refine L_getP (d := 66) (c40 74 rfl) hM rt72 rfl ?_
          refine L_alen (n := 40) (z := 40) (c40 77 rfl) hM rt138 (by decide) ln138 (by decide) rfl ?_
          refine L_br (p1 := 87) (p2 := 81) (c40 78 rfl) rfl jc_lt h (fun h => ?_) (fun h => ?_)
          · refine L_ps c40 (n := 1) (pc1 := 88) (ls1 := [jR 72, jR v1, jI v2, jI v3, jI v4, jI v5, jI r5, jI r7]) (st1 := [jR 72]) rfl ?_
            refine L_cV (c40 88 rfl) (js_v rfl ((Rl_tag hM rt72 (by decide)).trans js16)) hh40 (k_Parser_next hM h) (fun M μ16 hM h => ?_) (fun _ _ _ _ f => f.elim)
            refine L_ps c40 (n := 1) (pc1 := 92) (ls1 := [jR 72, jR v1, jI v2, jI v3, jI v4, jI v5, jI r5, jI r7]) (st1 := [jR 72]) rfl ?_
            refine L_getP (d := 66) (c40 92 rfl) hM rt72 rfl ?_
            refine L_ps c40 (n := 2) (pc1 := 99) (ls1 := [jR 72, jR v1, jI v2, jI v3, jI v4, jI v5, jI r5, jI r7]) (st1 := [jI r7, jI v4, jR 138]) rfl ?_
            refine L_cpI (c40 99 rfl) (js_t rfl) hh40 (k_Term_arityOf hM h) (fun r17 M hM h => ?_) (fun _ _ _ _ f => f.elim)
            obtain ⟨hb, h⟩ := h
            refine L_iast (c40 102 rfl) hM rt138 ln138 hb (fun M hM => ?_)
            refine L_ps c40 (n := 2) (pc1 := 133) (ls1 := [jR 72, jR v1, jI v2, jI v3, jI (wr (v4 + 1)), jI v5, jI r5, jI r7]) (st1 := []) rfl ?_
            exact k_Parser_readTerm_j133 rfl hv1 hM hQ hW10 h
          · exact k_Parser_readTerm_j81 rfl rfl rfl rfl hM hQ h
        · exact k_Parser_readTerm_j81 rfl rfl rfl rfl hM hQ h
      · refine L_ps c40 (n := 2) (pc1 := 112) (ls1 := [jR 72, jR v1, jI v2, jI v3, jI v4, jI v5, jI r5, jI r7]) (st1 := [jI v4, jR 72]) rfl ?_
        refine L_cI (c40 112 rfl) (js_v rfl ((Rl_tag hM rt72 (by decide)).trans js52)) hh40 (k_Parser_closeBrackets hM h) (fun r21 M μ22 hM h => ?_) (fun _ _ _ _ f => f.elim)
        refine L_ps c40 (n := 2) (pc1 := 119) (ls1 := [jR 72, jR v1, jI v2, jI v3, jI r21, jI v5, jI r5, jI r7]) (st1 := [jI r21]) rfl ?_
        refine L_br (p1 := 133) (p2 := 122) (c40 119 rfl) rfl jc_gt h (fun h => ?_) (fun h => ?_)
        · exact k_Parser_readTerm_j133 rfl hv1 hM hQ hW10 h
        · refine L_ps c40 (n := 1) (pc1 := 124) (ls1 := [jR 72, jR v1, jI v2, jI v3, jI r21, jI v5, jI r5, jI r7]) (st1 := [jI r21]) rfl ?_
          refine L_nb (p1 := 131) (p2 := 127) (c40 124 rfl) rfl jc_ne h (fun h => ?_) (fun h => ?_)
          · refine L_ps c40 (n := 2) (pc1 := 132) (ls1 := [jR 72, jR v1, jI v2, jI v3, jI r21, jI v5, jI r5, jI r7]) (st1 := [jI 1]) rfl ?_
            exact L_retB (c40 132 rfl) (Or.inr rfl) (hQ true _ _ hM h)
          · refine L_ps c40 (n := 1) (pc1 := 132) (ls1 := [jR 72, jR v1, jI v2, jI v3, jI r21, jI v5, jI r5, jI r7]) (st1 := [jI 0]) rfl ?_
            exact L_retB (c40 132 rfl) (Or.inl rfl) (hQ false _ _ hM h)
    · refine L_ps c40 (n := 2) (pc1 := 33) (ls1 := [jR 72, jR v1, jI v2, jI v3, jI v4, jI v5, jI r5, g7]) (st1 := [jI r5, jR 72]) rfl ?_
      refine L_cB (c40 33 rfl) (js_v rfl ((Rl_tag hM rt72 (by decide)).trans js27)) hh40 (k_Parser_fail hM h) (fun r23 M μ24 hM h => ?_) (fun _ _ _ _ f => f.elim)
      exact L_retB (c40 36 rfl) (bz_b _) (hQ _ _ _ hM h)
theorem k_Parser_readTerm_l10 {E : JE2} {v1 : Nat} {v2 : Int} {v3 : Int} {v4 : Int} {v5 : Int} {μ : Mem} {M : JM} {P : JO → JM → Prop} {g6 : JV} {g7 : JV} {Q : Bool → Mem → Prop} (hg6 : jc2 g6 = false) (hv1 : rt v1 = 8) (hM : Rl E M μ) (hQ : ∀ (r : Bool) (M1 : JM) (μ1 : Mem), Rl E M1 μ1 → Q r μ1 → P (.inl (some (.inl (b2i r)))) M1) (h : d_Parser_readTerm_l10 v1 v2 v3 v4 v5 μ Q) : JX 40 10 [jR 72, jR v1, jI v2, jI v3, jI v4, jI v5, g6, g7] [] M P := by
  refine h (fun v4 v5 μ => ∀ (g6 : JV) (g7 : JV) (M : JM), jc2 g6 = false → Rl E M μ → JX 40 10 [jR 72, jR v1, jI v2, jI v3, jI v4, jI v5, g6, g7] [] M P) ?_ _ _ _ hg6 hM
  intro v4 v5 μ h g6 g7 M hg6 hM
  exact k_Parser_readTerm_b10 hg6 hv1 hM hQ (fun v4 v5 g6 g7 M μ hg6 hM h => h g6 g7 M hg6 hM) h
theorem k_Parser_readTerm {E : JE2} {v1 : Nat} {v2 : Int} {v3 : Int} {μ : Mem} {M : JM} {Q : Bool → Mem → Prop} (hv1 : rt v1 = 8) (hM : Rl E M μ) (h : d_Parser_readTerm v1 v2 v3 μ Q) : JX 40 0 (jargs 40 [jR 72, jR v1, jI v2, jI v3]) [] M (PO E (QB Q) XN) := by
  unfold d_Parser_readTerm at h
  show JX 40 0 [jR 72, jR v1, jI v2, jI v3, jU, jU, jU, jU] [] M (PO E (QB Q) XN)
  generalize hP : PO E (QB Q) XN = P
  have hQ : ∀ (r : Bool) (M1 : JM) (μ1 : Mem), Rl E M1 μ1 → Q r μ1 → P (.inl (some (.inl (b2i r)))) M1 := by rw [← hP]; exact fun r M1 μ1 a b => ⟨μ1, a, r, rfl, b⟩
  clear hP
  refine L_ps c40 (n := 1) (pc1 := 1) (ls1 := [jR 72, jR v1, jI v2, jI v3, jU, jU, jU, jU]) (st1 := [jR v1]) rfl ?_
  refine L_cV (c40 1 rfl) (js_v rfl ((Rl_tag hM hv1 (by decide)).trans js41)) hh40 (k_Term_clear hv1 hM h) (fun M μ2 hM h => ?_) (fun _ _ _ _ f => f.elim)
  refine L_ps c40 (n := 4) (pc1 := 10) (ls1 := [jR 72, jR v1, jI v2, jI v3, jI 0, jI 0, jU, jU]) (st1 := []) rfl ?_
  exact k_Parser_readTerm_l10 rfl hv1 hM hQ h
theorem k_Parser_readRule {E : JE2} {μ : Mem} {M : JM} {Q : Bool → Mem → Prop} (hM : Rl E M μ) (h : d_Parser_readRule μ Q) : JX 38 0 (jargs 38 [jR 72]) [] M (PO E (QB Q) XN) := by
  unfold d_Parser_readRule at h
  show JX 38 0 [jR 72, jU] [] M (PO E (QB Q) XN)
  generalize hP : PO E (QB Q) XN = P
  have hQ : ∀ (r : Bool) (M1 : JM) (μ1 : Mem), Rl E M1 μ1 → Q r μ1 → P (.inl (some (.inl (b2i r)))) M1 := by rw [← hP]; exact fun r M1 μ1 a b => ⟨μ1, a, r, rfl, b⟩
  clear hP
  refine L_ps c38 (n := 1) (pc1 := 1) (ls1 := [jR 72, jU]) (st1 := [jR 72]) rfl ?_
  refine L_getP (d := 5) (c38 1 rfl) hM rt72 rfl ?_
  refine L_getI (c38 4 rfl) hM rt77 rfl ?_
  refine L_ps c38 (n := 1) (pc1 := 9) (ls1 := [jR 72, jU]) (st1 := [jI 6, jI (μ 77 0)]) rfl ?_
  refine L_br (p1 := 18) (p2 := 12) (c38 9 rfl) rfl jc_lt h (fun h => ?_) (fun h => ?_)
  · refine L_ps c38 (n := 1) (pc1 := 19) (ls1 := [jR 72, jU]) (st1 := [jR 72]) rfl ?_
    refine L_cV (c38 19 rfl) (js_v rfl ((Rl_tag hM rt72 (by decide)).trans js16)) hh38 (k_Parser_next hM h) (fun M μ2 hM h => ?_) (fun _ _ _ _ f => f.elim)
    refine L_ps c38 (n := 1) (pc1 := 23) (ls1 := [jR 72, jU]) (st1 := [jR 72]) rfl ?_
    refine L_getP (d := 5) (c38 23 rfl) hM rt72 rfl ?_
    refine L_ps c38 (n := 1) (pc1 := 27) (ls1 := [jR 72, jU]) (st1 := [jR 72, jR 77]) rfl ?_
    refine L_getP (d := 5) (c38 27 rfl) hM rt72 rfl ?_
    refine L_getI (c38 30 rfl) hM rt77 rfl ?_
    refine L_cpR (c38 33 rfl) (js_v rfl ((Rl_tag hM rt77 (by decide)).trans js39)) hh38 (k_State_rule rt77 hM h) (fun r3 M hM hr3 h => ?_) (fun _ _ _ _ f => f.elim)
    refine L_ps c38 (n := 3) (pc1 := 39) (ls1 := [jR 72, jR r3]) (st1 := [jR r3, jR 72]) rfl ?_
    refine L_getD (c38 39 rfl) hM hr3 (by decide) ?_
    refine L_ps c38 (n := 2) (pc1 := 45) (ls1 := [jR 72, jR r3]) (st1 := [jI 1, jI 12, jR (dp (μ2 r3 0)), jR 72]) rfl ?_
    refine L_cB (c38 45 rfl) (js_v rfl ((Rl_tag hM rt72 (by decide)).trans js40)) hh38 (k_Parser_readTerm (dp_rt _) hM h) (fun r5 M μ6 hM h => ?_) (fun _ _ _ _ f => f.elim)
    refine L_br (p1 := 53) (p2 := 51) (c38 48 rfl) rfl jc_neb h (fun h => ?_) (fun h => ?_)
    · refine L_ps c38 (n := 1) (pc1 := 54) (ls1 := [jR 72, jR r3]) (st1 := [jR 72]) rfl ?_
      refine L_getI (c38 54 rfl) hM rt72 rfl ?_
      refine L_ps c38 (n := 1) (pc1 := 59) (ls1 := [jR 72, jR r3]) (st1 := [jI 61, jI (μ6 72 9)]) rfl ?_
      refine L_br (p1 := 68) (p2 := 62) (c38 59 rfl) rfl jc_eq h (fun h => ?_) (fun h => ?_)
      · refine L_ps c38 (n := 1) (pc1 := 69) (ls1 := [jR 72, jR r3]) (st1 := [jR 72]) rfl ?_
        refine L_cV (c38 69 rfl) (js_v rfl ((Rl_tag hM rt72 (by decide)).trans js16)) hh38 (k_Parser_next hM h) (fun M μ8 hM h => ?_) (fun _ _ _ _ f => f.elim)
        refine L_ps c38 (n := 2) (pc1 := 74) (ls1 := [jR 72, jR r3]) (st1 := [jR r3, jR 72]) rfl ?_
        refine L_getD (c38 74 rfl) hM hr3 (by decide) ?_
        refine L_ps c38 (n := 2) (pc1 := 80) (ls1 := [jR 72, jR r3]) (st1 := [jI 2, jI 12, jR (dp (μ8 r3 1)), jR 72]) rfl ?_
        refine L_cB (c38 80 rfl) (js_v rfl ((Rl_tag hM rt72 (by decide)).trans js40)) hh38 (k_Parser_readTerm (dp_rt _) hM h) (fun r9 M μ10 hM h => ?_) (fun _ _ _ _ f => f.elim)
        refine L_br (p1 := 88) (p2 := 86) (c38 83 rfl) rfl jc_neb h (fun h => ?_) (fun h => ?_)
        · refine L_ps c38 (n := 1) (pc1 := 89) (ls1 := [jR 72, jR r3]) (st1 := [jR 72]) rfl ?_
          refine L_getP (d := 5) (c38 89 rfl) hM rt72 rfl ?_
          refine L_ps c38 (n := 1) (pc1 := 93) (ls1 := [jR 72, jR r3]) (st1 := [jR 77, jR 77]) rfl ?_
          refine L_getI (c38 93 rfl) hM rt77 rfl ?_
          refine L_ps c38 (n := 2) (pc1 := 98) (ls1 := [jR 72, jR r3]) (st1 := [jI (wr ((μ10 77 0) + 1)), jR 77]) rfl ?_
          refine L_putI (c38 98 rfl) hM rt77 rfl (fun M hM => ?_)
          refine L_ps c38 (n := 1) (pc1 := 102) (ls1 := [jR 72, jR r3]) (st1 := [jI 1]) rfl ?_
          exact L_retB (c38 102 rfl) (Or.inr rfl) (hQ true _ _ hM h)
        · refine L_ps c38 (n := 1) (pc1 := 87) (ls1 := [jR 72, jR r3]) (st1 := [jI 0]) rfl ?_
          exact L_retB (c38 87 rfl) (Or.inl rfl) (hQ false _ _ hM h)
      · refine L_ps c38 (n := 2) (pc1 := 64) (ls1 := [jR 72, jR r3]) (st1 := [jI 1, jR 72]) rfl ?_
        refine L_cB (c38 64 rfl) (js_v rfl ((Rl_tag hM rt72 (by decide)).trans js27)) hh38 (k_Parser_fail hM h) (fun r11 M μ12 hM h => ?_) (fun _ _ _ _ f => f.elim)
        exact L_retB (c38 67 rfl) (bz_b _) (hQ _ _ _ hM h)
    · refine L_ps c38 (n := 1) (pc1 := 52) (ls1 := [jR 72, jR r3]) (st1 := [jI 0]) rfl ?_
      exact L_retB (c38 52 rfl) (Or.inl rfl) (hQ false _ _ hM h)
  · refine L_ps c38 (n := 2) (pc1 := 14) (ls1 := [jR 72, jU]) (st1 := [jI 5, jR 72]) rfl ?_
    refine L_cB (c38 14 rfl) (js_v rfl ((Rl_tag hM rt72 (by decide)).trans js27)) hh38 (k_Parser_fail hM h) (fun r13 M μ14 hM h => ?_) (fun _ _ _ _ f => f.elim)
    exact L_retB (c38 17 rfl) (bz_b _) (hQ _ _ _ hM h)
theorem k_State_term {E : JE2} {v0 : Nat} {v1 : Int} {μ : Mem} {M : JM} {Q : Nat → Prop} (hv0 : rt v0 = 7) (hM : Rl E M μ) (h : d_State_term v0 v1 μ Q) : JX 54 0 (jargs 54 [jR v0, jI v1]) [] M (PO E (pQR μ 8 Q) XN) := by
  unfold d_State_term at h
  show JX 54 0 [jR v0, jI v1, jU] [] M (PO E (pQR μ 8 Q) XN)
  generalize hP : PO E (pQR μ 8 Q) XN = P
  have hQ : ∀ (r : Nat) (M1 : JM), Rl E M1 μ → rt r = 8 → Q r → P (.inl (some (.inr (.inl r)))) M1 := by rw [← hP]; exact fun r M1 a c b => ⟨μ, a, rfl, r, rfl, c, b⟩
  clear hP
  refine L_ps c54 (n := 1) (pc1 := 1) (ls1 := [jR v0, jI v1, jU]) (st1 := [jI v1]) rfl ?_
  refine L_br (p1 := 13) (p2 := 4) (c54 1 rfl) rfl jc_lt h (fun h => ?_) (fun h => ?_)
  · refine L_ps c54 (n := 1) (pc1 := 14) (ls1 := [jR v0, jI v1, jU]) (st1 := [jR v0]) rfl ?_
    refine L_getP (d := 8) (c54 14 rfl) hM hv0 rfl ?_
    exact L_end (c54 17 rfl) rfl (hQ _ _ hM (rp_7_8 hv0) h)
  · refine L_ps c54 (n := 2) (pc1 := 6) (ls1 := [jR v0, jI v1, jU]) (st1 := [jR v0, jI v1]) rfl ?_
    refine L_getP (d := 2) (c54 6 rfl) hM hv0 rfl ?_
    refine L_alen (n := 6) (z := 6) (c54 9 rfl) hM (rp_7_2 hv0) (by decide) (le_113 (rp_7_2 hv0)) (by decide) rfl ?_
    refine L_br (p1 := 18) (p2 := 13) (c54 10 rfl) rfl jc_lt h (fun h => ?_) (fun h => ?_)
    · refine L_ps c54 (n := 1) (pc1 := 19) (ls1 := [jR v0, jI v1, jU]) (st1 := [jR v0]) rfl ?_
      refine L_getP (d := 2) (c54 19 rfl) hM hv0 rfl ?_
      refine L_ps c54 (n := 1) (pc1 := 23) (ls1 := [jR v0, jI v1, jU]) (st1 := [jI v1, jR (v0 + 2)]) rfl ?_
      obtain ⟨hb, h⟩ := h
      have e1 : rt (v0 + 2 + (38 + 2 * v1.toNat)) = 8 := re_113 (rp_7_2 hv0) (by omega)
      refine L_aald (c54 23 rfl) hM (rp_7_2 hv0) (by decide) (le_113 (rp_7_2 hv0)) hb rfl ?_
      refine L_ps c54 (n := 4) (pc1 := 37) (ls1 := [jR v0, jI v1, jR (v0 + 2 + (38 + 2 * v1.toNat))]) (st1 := [jR (v0 + 2 + (38 + 2 * v1.toNat))]) rfl ?_
      exact L_end (c54 37 rfl) rfl (hQ _ _ hM e1 h)
    · refine L_ps c54 (n := 1) (pc1 := 14) (ls1 := [jR v0, jI v1, jU]) (st1 := [jR v0]) rfl ?_
      refine L_getP (d := 8) (c54 14 rfl) hM hv0 rfl ?_
      exact L_end (c54 17 rfl) rfl (hQ _ _ hM (rp_7_8 hv0) h)
theorem k_Parser_readPlainTerm {E : JE2} {μ : Mem} {M : JM} {Q : Bool → Mem → Prop} (hM : Rl E M μ) (h : d_Parser_readPlainTerm μ Q) : JX 53 0 (jargs 53 [jR 72]) [] M (PO E (QB Q) XN) := by
  unfold d_Parser_readPlainTerm at h
  show JX 53 0 [jR 72] [] M (PO E (QB Q) XN)
  generalize hP : PO E (QB Q) XN = P
  have hQ : ∀ (r : Bool) (M1 : JM) (μ1 : Mem), Rl E M1 μ1 → Q r μ1 → P (.inl (some (.inl (b2i r)))) M1 := by rw [← hP]; exact fun r M1 μ1 a b => ⟨μ1, a, r, rfl, b⟩
  clear hP
  refine L_ps c53 (n := 1) (pc1 := 1) (ls1 := [jR 72]) (st1 := [jR 72]) rfl ?_
  refine L_getP (d := 5) (c53 1 rfl) hM rt72 rfl ?_
  refine L_getI (c53 4 rfl) hM rt77 rfl ?_
  refine L_ps c53 (n := 1) (pc1 := 9) (ls1 := [jR 72]) (st1 := [jI 6, jI (μ 77 1)]) rfl ?_
  refine L_br (p1 := 18) (p2 := 12) (c53 9 rfl) rfl jc_lt h (fun h => ?_) (fun h => ?_)
  · refine L_ps c53 (n := 1) (pc1 := 19) (ls1 := [jR 72]) (st1 := [jR 72]) rfl ?_
    refine L_cV (c53 19 rfl) (js_v rfl ((Rl_tag hM rt72 (by decide)).trans js16)) hh53 (k_Parser_next hM h) (fun M μ2 hM h => ?_) (fun _ _ _ _ f => f.elim)
    refine L_ps c53 (n := 2) (pc1 := 24) (ls1 := [jR 72]) (st1 := [jR 72, jR 72]) rfl ?_
    refine L_getP (d := 5) (c53 24 rfl) hM rt72 rfl ?_
    refine L_ps c53 (n := 1) (pc1 := 28) (ls1 := [jR 72]) (st1 := [jR 72, jR 77, jR 72]) rfl ?_
    refine L_getP (d := 5) (c53 28 rfl) hM rt72 rfl ?_
    refine L_getI (c53 31 rfl) hM rt77 rfl ?_
    refine L_cpR (c53 34 rfl) (js_v rfl ((Rl_tag hM rt77 (by decide)).trans js54)) hh53 (k_State_term rt77 hM h) (fun r3 M hM hr3 h => ?_) (fun _ _ _ _ f => f.elim)
    refine L_ps c53 (n := 2) (pc1 := 40) (ls1 := [jR 72]) (st1 := [jI 0, jI 40, jR r3, jR 72]) rfl ?_
    refine L_cB (c53 40 rfl) (js_v rfl ((Rl_tag hM rt72 (by decide)).trans js40)) hh53 (k_Parser_readTerm hr3 hM h) (fun r5 M μ6 hM h => ?_) (fun _ _ _ _ f => f.elim)
    refine L_br (p1 := 48) (p2 := 46) (c53 43 rfl) rfl jc_neb h (fun h => ?_) (fun h => ?_)
    · refine L_ps c53 (n := 1) (pc1 := 49) (ls1 := [jR 72]) (st1 := [jR 72]) rfl ?_
      refine L_getP (d := 5) (c53 49 rfl) hM rt72 rfl ?_
      refine L_ps c53 (n := 1) (pc1 := 53) (ls1 := [jR 72]) (st1 := [jR 77, jR 77]) rfl ?_
      refine L_getI (c53 53 rfl) hM rt77 rfl ?_
      refine L_ps c53 (n := 2) (pc1 := 58) (ls1 := [jR 72]) (st1 := [jI (wr ((μ6 77 1) + 1)), jR 77]) rfl ?_
      refine L_putI (c53 58 rfl) hM rt77 rfl (fun M hM => ?_)
      refine L_ps c53 (n := 1) (pc1 := 62) (ls1 := [jR 72]) (st1 := [jI 1]) rfl ?_
      exact L_retB (c53 62 rfl) (Or.inr rfl) (hQ true _ _ hM h)
    · refine L_ps c53 (n := 1) (pc1 := 47) (ls1 := [jR 72]) (st1 := [jI 0]) rfl ?_
      exact L_retB (c53 47 rfl) (Or.inl rfl) (hQ false _ _ hM h)
  · refine L_ps c53 (n := 2) (pc1 := 14) (ls1 := [jR 72]) (st1 := [jI 5, jR 72]) rfl ?_
    refine L_cB (c53 14 rfl) (js_v rfl ((Rl_tag hM rt72 (by decide)).trans js27)) hh53 (k_Parser_fail hM h) (fun r7 M μ8 hM h => ?_) (fun _ _ _ _ f => f.elim)
    exact L_retB (c53 17 rfl) (bz_b _) (hQ _ _ _ hM h)
theorem k_Term_addPart_b3 {E : JE2} {v0 : Nat} {v1 : Nat} {v3 : Int} {v4 : Int} {μ : Mem} {M : JM} {P : JO → JM → Prop} {g2 : JV} {W3 : Int → Mem → Prop} {Q : Bool → Mem → Prop} (hv0 : rt v0 = 8) (hv1 : rt v1 = 8) (hM : Rl E M μ) (hQ : ∀ (r : Bool) (M1 : JM) (μ1 : Mem), Rl E M1 μ1 → Q r μ1 → P (.inl (some (.inl (b2i r)))) M1) (hW3 : ∀ (v4 : Int) (g2 : JV) (M1 : JM) (μ1 : Mem), Rl E M1 μ1 → W3 v4 μ1 → JX 57 3 [jR v0, jR v1, g2, jI v3, jI v4] [] M1 P) (h : d_Term_addPart_b3 v0 v1 v3 v4 μ W3 Q) : JX 57 3 [jR v0, jR v1, g2, jI v3, jI v4] [] M P := by
  unfold d_Term_addPart_b3 at h
  refine L_ps c57 (n := 2) (pc1 := 6) (ls1 := [jR v0, jR v1, g2, jI v3, jI v4]) (st1 := [jI v3, jI v4]) rfl ?_
  refine L_nb (p1 := 30) (p2 := 9) (c57 6 rfl) rfl jc_ge h (fun h => ?_) (fun h => ?_)
  · refine L_ps c57 (n := 3) (pc1 := 13) (ls1 := [jR v0, jR v1, g2, jI v3, jI v4]) (st1 := [jI v4, jR v1, jR v0]) rfl ?_
    refine L_cpI (c57 13 rfl) (js_v rfl ((Rl_tag hM hv1 (by decide)).trans js46)) hh57 (k_Term_get hv1 hM h) (fun r1 M hM h => ?_) (fun _ _ _ _ f => f.elim)
    refine L_cB (c57 16 rfl) (js_v rfl ((Rl_tag hM hv0 (by decide)).trans js50)) hh57 (k_Term_add hv0 hM h) (fun r3 M μ4 hM h => ?_) (fun _ _ _ _ f => f.elim)
    refine L_br (p1 := 24) (p2 := 22) (c57 19 rfl) rfl jc_neb h (fun h => ?_) (fun h => ?_)
    · refine L_ps c57 (n := 2) (pc1 := 3) (ls1 := [jR v0, jR v1, g2, jI v3, jI (wr (v4 + 1))]) (st1 := []) rfl ?_
      exact hW3 _ _ _ _ hM h
    · refine L_ps c57 (n := 1) (pc1 := 23) (ls1 := [jR v0, jR v1, g2, jI v3, jI v4]) (st1 := [jI 0]) rfl ?_
      exact L_retB (c57 23 rfl) (Or.inl rfl) (hQ false _ _ hM h)
  · refine L_ps c57 (n := 1) (pc1 := 31) (ls1 := [jR v0, jR v1, g2, jI v3, jI v4]) (st1 := [jI 1]) rfl ?_
    exact L_retB (c57 31 rfl) (Or.inr rfl) (hQ true _ _ hM h)
theorem k_Term_addPart_l3 {E : JE2} {v0 : Nat} {v1 : Nat} {v3 : Int} {v4 : Int} {μ : Mem} {M : JM} {P : JO → JM → Prop} {g2 : JV} {Q : Bool → Mem → Prop} (hv0 : rt v0 = 8) (hv1 : rt v1 = 8) (hM : Rl E M μ) (hQ : ∀ (r : Bool) (M1 : JM) (μ1 : Mem), Rl E M1 μ1 → Q r μ1 → P (.inl (some (.inl (b2i r)))) M1) (h : d_Term_addPart_l3 v0 v1 v3 v4 μ Q) : JX 57 3 [jR v0, jR v1, g2, jI v3, jI v4] [] M P := by
  refine h (fun v4 μ => ∀ (g2 : JV) (M : JM), Rl E M μ → JX 57 3 [jR v0, jR v1, g2, jI v3, jI v4] [] M P) ?_ _ _ hM
  intro v4 μ h g2 M hM
  exact k_Term_addPart_b3 hv0 hv1 hM hQ (fun v4 g2 M μ hM h => h g2 M hM) h
theorem k_Term_addPart {E : JE2} {v0 : Nat} {v1 : Nat} {v2 : Int} {v3 : Int} {μ : Mem} {M : JM} {Q : Bool → Mem → Prop} (hv0 : rt v0 = 8) (hv1 : rt v1 = 8) (hM : Rl E M μ) (h : d_Term_addPart v0 v1 v2 v3 μ Q) : JX 57 0 (jargs 57 [jR v0, jR v1, jI v2, jI v3]) [] M (PO E (QB Q) XN) := by
  unfold d_Term_addPart at h
  show JX 57 0 [jR v0, jR v1, jI v2, jI v3, jU] [] M (PO E (QB Q) XN)
  generalize hP : PO E (QB Q) XN = P
  have hQ : ∀ (r : Bool) (M1 : JM) (μ1 : Mem), Rl E M1 μ1 → Q r μ1 → P (.inl (some (.inl (b2i r)))) M1 := by rw [← hP]; exact fun r M1 μ1 a b => ⟨μ1, a, r, rfl, b⟩
  clear hP
  refine L_ps c57 (n := 2) (pc1 := 3) (ls1 := [jR v0, jR v1, jI v2, jI v3, jI v2]) (st1 := []) rfl ?_
  exact k_Term_addPart_l3 hv0 hv1 hM hQ h
theorem k_State_addTerm {E : JE2} {v0 : Nat} {v1 : Nat} {v2 : Int} {v3 : Int} {μ : Mem} {M : JM} {Q : Mem → Prop} (hv0 : rt v0 = 7) (hv1 : rt v1 = 8) (hM : Rl E M μ) (h : d_State_addTerm v0 v1 v2 v3 μ Q) : JX 56 0 (jargs 56 [jR v0, jR v1, jI v2, jI v3]) [] M (PO E (QV Q) XN) := by
  unfold d_State_addTerm at h
  show JX 56 0 [jR v0, jR v1, jI v2, jI v3, jU] [] M (PO E (QV Q) XN)
  generalize hP : PO E (QV Q) XN = P
  have hQ : ∀ (M1 : JM) (μ1 : Mem), Rl E M1 μ1 → Q μ1 → P (.inl none) M1 := by rw [← hP]; exact fun M1 μ1 a b => ⟨μ1, a, rfl, b⟩
  clear hP
  refine L_ps c56 (n := 1) (pc1 := 1) (ls1 := [jR v0, jR v1, jI v2, jI v3, jU]) (st1 := [jR v0]) rfl ?_
  refine L_getI (c56 1 rfl) hM hv0 rfl ?_
  refine L_ps c56 (n := 1) (pc1 := 6) (ls1 := [jR v0, jR v1, jI v2, jI v3, jU]) (st1 := [jI 6, jI (μ v0 1)]) rfl ?_
  refine L_nb (p1 := 43) (p2 := 9) (c56 6 rfl) rfl jc_ge h (fun h => ?_) (fun h => ?_)
  · refine L_ps c56 (n := 2) (pc1 := 11) (ls1 := [jR v0, jR v1, jI v2, jI v3, jU]) (st1 := [jR v0, jR v0]) rfl ?_
    refine L_getI (c56 11 rfl) hM hv0 rfl ?_
    refine L_cpR (c56 14 rfl) (js_v rfl ((Rl_tag hM hv0 (by decide)).trans js54)) hh56 (k_State_term hv0 hM h) (fun r1 M hM hr1 h => ?_) (fun _ _ _ _ f => f.elim)
    refine L_ps c56 (n := 2) (pc1 := 21) (ls1 := [jR v0, jR v1, jI v2, jI v3, jR r1]) (st1 := [jR r1]) rfl ?_
    refine L_cV (c56 21 rfl) (js_v rfl ((Rl_tag hM hr1 (by decide)).trans js41)) hh56 (k_Term_clear hr1 hM h) (fun M μ4 hM h => ?_) (fun _ _ _ _ f => f.elim)
    refine L_ps c56 (n := 4) (pc1 := 29) (ls1 := [jR v0, jR v1, jI v2, jI v3, jR r1]) (st1 := [jI v3, jI v2, jR v1, jR r1]) rfl ?_
    refine L_cB (c56 29 rfl) (js_v rfl ((Rl_tag hM hr1 (by decide)).trans js57)) hh56 (k_Term_addPart hr1 hv1 hM h) (fun r5 M μ6 hM h => ?_) (fun _ _ _ _ f => f.elim)
    refine L_ps c56 (n := 3) (pc1 := 35) (ls1 := [jR v0, jR v1, jI v2, jI v3, jR r1]) (st1 := [jR v0, jR v0]) rfl ?_
    refine L_getI (c56 35 rfl) hM hv0 rfl ?_
    refine L_ps c56 (n := 2) (pc1 := 40) (ls1 := [jR v0, jR v1, jI v2, jI v3, jR r1]) (st1 := [jI (wr ((μ6 v0 1) + 1)), jR v0]) rfl ?_
    refine L_putI (c56 40 rfl) hM hv0 rfl (fun M hM => ?_)
    exact L_end (c56 43 rfl) rfl (hQ _ _ hM h)
  · exact L_end (c56 43 rfl) rfl (hQ _ _ hM h)
theorem k_Parser_readCopy {E : JE2} {μ : Mem} {M : JM} {Q : Bool → Mem → Prop} (hM : Rl E M μ) (h : d_Parser_readCopy μ Q) : JX 55 0 (jargs 55 [jR 72]) [] M (PO E (QB Q) XN) := by
  unfold d_Parser_readCopy at h
  show JX 55 0 [jR 72, jU] [] M (PO E (QB Q) XN)
  generalize hP : PO E (QB Q) XN = P
  have hQ : ∀ (r : Bool) (M1 : JM) (μ1 : Mem), Rl E M1 μ1 → Q r μ1 → P (.inl (some (.inl (b2i r)))) M1 := by rw [← hP]; exact fun r M1 μ1 a b => ⟨μ1, a, r, rfl, b⟩
  clear hP
  refine L_ps c55 (n := 1) (pc1 := 1) (ls1 := [jR 72, jU]) (st1 := [jR 72]) rfl ?_
  refine L_getP (d := 5) (c55 1 rfl) hM rt72 rfl ?_
  refine L_getI (c55 4 rfl) hM rt77 rfl ?_
  refine L_ps c55 (n := 1) (pc1 := 9) (ls1 := [jR 72, jU]) (st1 := [jI 6, jI (μ 77 1)]) rfl ?_
  refine L_br (p1 := 18) (p2 := 12) (c55 9 rfl) rfl jc_lt h (fun h => ?_) (fun h => ?_)
  · refine L_ps c55 (n := 1) (pc1 := 19) (ls1 := [jR 72, jU]) (st1 := [jR 72]) rfl ?_
    refine L_cV (c55 19 rfl) (js_v rfl ((Rl_tag hM rt72 (by decide)).trans js16)) hh55 (k_Parser_next hM h) (fun M μ2 hM h => ?_) (fun _ _ _ _ f => f.elim)
    refine L_ps c55 (n := 2) (pc1 := 24) (ls1 := [jR 72, jU]) (st1 := [jR 72, jR 72]) rfl ?_
    refine L_getP (d := 5) (c55 24 rfl) hM rt72 rfl ?_
    refine L_getI (c55 27 rfl) hM rt77 rfl ?_
    refine L_cB (c55 30 rfl) (js_v rfl ((Rl_tag hM rt72 (by decide)).trans js35)) hh55 (k_Parser_readDigit hM h) (fun r3 M μ4 hM h => ?_) (fun _ _ _ _ f => f.elim)
    refine L_br (p1 := 38) (p2 := 36) (c55 33 rfl) rfl jc_neb h (fun h => ?_) (fun h => ?_)
    · refine L_ps c55 (n := 1) (pc1 := 39) (ls1 := [jR 72, jU]) (st1 := [jR 72]) rfl ?_
      refine L_getP (d := 5) (c55 39 rfl) hM rt72 rfl ?_
      refine L_ps c55 (n := 1) (pc1 := 43) (ls1 := [jR 72, jU]) (st1 := [jR 72, jR 77]) rfl ?_
      refine L_cpI (c55 43 rfl) (js_v rfl ((Rl_tag hM rt72 (by decide)).trans js36)) hh55 (k_Parser_digit hM h) (fun r5 M hM h => ?_) (fun _ _ _ _ f => f.elim)
      refine L_cpR (c55 46 rfl) (js_v rfl ((Rl_tag hM rt77 (by decide)).trans js54)) hh55 (k_State_term rt77 hM h) (fun r7 M hM hr7 h => ?_) (fun _ _ _ _ f => f.elim)
      refine L_ps c55 (n := 2) (pc1 := 51) (ls1 := [jR 72, jR r7]) (st1 := [jR 72]) rfl ?_
      refine L_getP (d := 5) (c55 51 rfl) hM rt72 rfl ?_
      refine L_ps c55 (n := 3) (pc1 := 57) (ls1 := [jR 72, jR r7]) (st1 := [jR r7, jI 0, jR r7, jR 77]) rfl ?_
      refine L_getI (c55 57 rfl) hM hr7 rfl ?_
      refine L_cV (c55 60 rfl) (js_v rfl ((Rl_tag hM rt77 (by decide)).trans js56)) hh55 (k_State_addTerm rt77 hr7 hM h) (fun M μ10 hM h => ?_) (fun _ _ _ _ f => f.elim)
      refine L_ps c55 (n := 1) (pc1 := 64) (ls1 := [jR 72, jR r7]) (st1 := [jR 72]) rfl ?_
      refine L_cV (c55 64 rfl) (js_v rfl ((Rl_tag hM rt72 (by decide)).trans js16)) hh55 (k_Parser_next hM h) (fun M μ12 hM h => ?_) (fun _ _ _ _ f => f.elim)
      refine L_ps c55 (n := 1) (pc1 := 68) (ls1 := [jR 72, jR r7]) (st1 := [jI 1]) rfl ?_
      exact L_retB (c55 68 rfl) (Or.inr rfl) (hQ true _ _ hM h)
    · refine L_ps c55 (n := 1) (pc1 := 37) (ls1 := [jR 72, jU]) (st1 := [jI 0]) rfl ?_
      exact L_retB (c55 37 rfl) (Or.inl rfl) (hQ false _ _ hM h)
  · refine L_ps c55 (n := 2) (pc1 := 14) (ls1 := [jR 72, jU]) (st1 := [jI 5, jR 72]) rfl ?_
    refine L_cB (c55 14 rfl) (js_v rfl ((Rl_tag hM rt72 (by decide)).trans js27)) hh55 (k_Parser_fail hM h) (fun r13 M μ14 hM h => ?_) (fun _ _ _ _ f => f.elim)
    exact L_retB (c55 17 rfl) (bz_b _) (hQ _ _ _ hM h)
theorem k_Rule_canTurn_j52 {E : JE2} {v0 : Nat} {v1 : Int} {μ : Mem} {M : JM} {P : JO → JM → Prop} {g2 : JV} {W15 : Int → Prop} {Q : Bool → Prop} (hv0 : rt v0 = 5) (hM : Rl E M μ) (hQ : ∀ (r : Bool) (M1 : JM), Rl E M1 μ → Q r → P (.inl (some (.inl (b2i r)))) M1) (hW15 : ∀ (v1 : Int) (g2 : JV) (M1 : JM), Rl E M1 μ → W15 v1 → JX 59 15 [jR v0, jI v1, g2] [] M1 P) (h : d_Rule_canTurn_j52 v0 v1 μ W15 Q) : JX 59 52 [jR v0, jI v1, g2] [] M P := by
  unfold d_Rule_canTurn_j52 at h
  refine L_ps c59 (n := 2) (pc1 := 15) (ls1 := [jR v0, jI (wr (v1 + 1)), g2]) (st1 := []) rfl ?_
  exact hW15 _ _ _ hM h
theorem k_Rule_canTurn_b15 {E : JE2} {v0 : Nat} {v1 : Int} {μ : Mem} {M : JM} {P : JO → JM → Prop} {g2 : JV} {W15 : Int → Prop} {Q : Bool → Prop} (hv0 : rt v0 = 5) (hM : Rl E M μ) (hQ : ∀ (r : Bool) (M1 : JM), Rl E M1 μ → Q r → P (.inl (some (.inl (b2i r)))) M1) (hW15 : ∀ (v1 : Int) (g2 : JV) (M1 : JM), Rl E M1 μ → W15 v1 → JX 59 15 [jR v0, jI v1, g2] [] M1 P) (h : d_Rule_canTurn_b15 v0 v1 μ W15 Q) : JX 59 15 [jR v0, jI v1, g2] [] M P := by
  unfold d_Rule_canTurn_b15 at h
  refine L_ps c59 (n := 2) (pc1 := 17) (ls1 := [jR v0, jI v1, g2]) (st1 := [jR v0, jI v1]) rfl ?_
  refine L_getD (c59 17 rfl) hM hv0 (by decide) ?_
  refine L_getI (c59 20 rfl) hM (dp_rt _) rfl ?_
  refine L_nb (p1 := 58) (p2 := 26) (c59 23 rfl) rfl jc_ge h (fun h => ?_) (fun h => ?_)
  · refine L_ps c59 (n := 1) (pc1 := 27) (ls1 := [jR v0, jI v1, g2]) (st1 := [jR v0]) rfl ?_
    refine L_getD (c59 27 rfl) hM hv0 (by decide) ?_
    refine L_ps c59 (n := 1) (pc1 := 31) (ls1 := [jR v0, jI v1, g2]) (st1 := [jI v1, jR (dp (μ v0 0))]) rfl ?_
    refine L_cpI (c59 31 rfl) (js_v rfl ((Rl_tag hM (dp_rt _) (by decide)).trans js46)) hh59 (k_Term_get (dp_rt _) hM h) (fun r3 M hM h => ?_) (fun _ _ _ _ f => f.elim)
    refine L_ps c59 (n := 2) (pc1 := 36) (ls1 := [jR v0, jI v1, jI r3]) (st1 := [jI r3]) rfl ?_
    refine L_nb (p1 := 52) (p2 := 39) (c59 36 rfl) rfl jc_ge h (fun h => ?_) (fun h => ?_)
    · refine L_ps c59 (n := 1) (pc1 := 40) (ls1 := [jR v0, jI v1, jI r3]) (st1 := [jR v0]) rfl ?_
      refine L_getD (c59 40 rfl) hM hv0 (by decide) ?_
      refine L_ps c59 (n := 1) (pc1 := 44) (ls1 := [jR v0, jI v1, jI r3]) (st1 := [jI r3, jR (dp (μ v0 1))]) rfl ?_
      refine L_cpI (c59 44 rfl) (js_v rfl ((Rl_tag hM (dp_rt _) (by decide)).trans js45)) hh59 (k_Term_count (dp_rt _) hM h) (fun r5 M hM h => ?_) (fun _ _ _ _ f => f.elim)
      refine L_nb (p1 := 52) (p2 := 50) (c59 47 rfl) rfl jc_ne h (fun h => ?_) (fun h => ?_)
      · refine L_ps c59 (n := 1) (pc1 := 51) (ls1 := [jR v0, jI v1, jI r3]) (st1 := [jI 0]) rfl ?_
        exact L_retB (c59 51 rfl) (Or.inl rfl) (hQ false _ hM h)
      · exact k_Rule_canTurn_j52 hv0 hM hQ hW15 h
    · exact k_Rule_canTurn_j52 hv0 hM hQ hW15 h
  · refine L_ps c59 (n := 1) (pc1 := 59) (ls1 := [jR v0, jI v1, g2]) (st1 := [jI 1]) rfl ?_
    exact L_retB (c59 59 rfl) (Or.inr rfl) (hQ true _ hM h)
theorem k_Rule_canTurn_l15 {E : JE2} {v0 : Nat} {v1 : Int} {μ : Mem} {M : JM} {P : JO → JM → Prop} {g2 : JV} {Q : Bool → Prop} (hv0 : rt v0 = 5) (hM : Rl E M μ) (hQ : ∀ (r : Bool) (M1 : JM), Rl E M1 μ → Q r → P (.inl (some (.inl (b2i r)))) M1) (h : d_Rule_canTurn_l15 v0 v1 μ Q) : JX 59 15 [jR v0, jI v1, g2] [] M P := by
  refine h (fun v1 => ∀ (g2 : JV) (M : JM), Rl E M μ → JX 59 15 [jR v0, jI v1, g2] [] M P) ?_ _ _ hM
  intro v1 h g2 M hM
  exact k_Rule_canTurn_b15 hv0 hM hQ (fun v1 g2 M hM h => h g2 M hM) h
theorem k_Rule_canTurn {E : JE2} {v0 : Nat} {μ : Mem} {M : JM} {Q : Bool → Prop} (hv0 : rt v0 = 5) (hM : Rl E M μ) (h : d_Rule_canTurn v0 μ Q) : JX 59 0 (jargs 59 [jR v0]) [] M (PO E (pQB μ Q) XN) := by
  unfold d_Rule_canTurn at h
  show JX 59 0 [jR v0, jU, jU] [] M (PO E (pQB μ Q) XN)
  generalize hP : PO E (pQB μ Q) XN = P
  have hQ : ∀ (r : Bool) (M1 : JM), Rl E M1 μ → Q r → P (.inl (some (.inl (b2i r)))) M1 := by rw [← hP]; exact fun r M1 a b => ⟨μ, a, rfl, r, rfl, b⟩
  clear hP
  refine L_ps c59 (n := 1) (pc1 := 1) (ls1 := [jR v0, jU, jU]) (st1 := [jR v0]) rfl ?_
  refine L_getD (c59 1 rfl) hM hv0 (by decide) ?_
  refine L_ps c59 (n := 1) (pc1 := 5) (ls1 := [jR v0, jU, jU]) (st1 := [jI 0, jR (dp (μ v0 1))]) rfl ?_
  refine L_cpI (c59 5 rfl) (js_v rfl ((Rl_tag hM (dp_rt _) (by decide)).trans js46)) hh59 (k_Term_get (dp_rt _) hM h) (fun r1 M hM h => ?_) (fun _ _ _ _ f => f.elim)
  refine L_nb (p1 := 13) (p2 := 11) (c59 8 rfl) rfl jc_ge h (fun h => ?_) (fun h => ?_)
  · refine L_ps c59 (n := 1) (pc1 := 12) (ls1 := [jR v0, jU, jU]) (st1 := [jI 0]) rfl ?_
    exact L_retB (c59 12 rfl) (Or.inl rfl) (hQ false _ hM h)
  · refine L_ps c59 (n := 2) (pc1 := 15) (ls1 := [jR v0, jI 0, jU]) (st1 := []) rfl ?_
    exact k_Rule_canTurn_l15 hv0 hM hQ h
theorem k_Rule_turn {E : JE2} {v0 : Nat} {μ : Mem} {M : JM} {Q : Mem → Prop} (hv0 : rt v0 = 5) (hM : Rl E M μ) (h : d_Rule_turn v0 μ Q) : JX 60 0 (jargs 60 [jR v0]) [] M (PO E (QV Q) XN) := by
  unfold d_Rule_turn at h
  show JX 60 0 [jR v0, jU] [] M (PO E (QV Q) XN)
  generalize hP : PO E (QV Q) XN = P
  have hQ : ∀ (M1 : JM) (μ1 : Mem), Rl E M1 μ1 → Q μ1 → P (.inl none) M1 := by rw [← hP]; exact fun M1 μ1 a b => ⟨μ1, a, rfl, b⟩
  clear hP
  refine L_ps c60 (n := 1) (pc1 := 1) (ls1 := [jR v0, jU]) (st1 := [jR v0]) rfl ?_
  refine L_getD (c60 1 rfl) hM hv0 (by decide) ?_
  refine L_ps c60 (n := 3) (pc1 := 7) (ls1 := [jR v0, jR (dp (μ v0 0))]) (st1 := [jR v0, jR v0]) rfl ?_
  refine L_getD (c60 7 rfl) hM hv0 (by decide) ?_
  refine L_putD (c60 10 rfl) hM hv0 (dp_rt _) (by decide) (fun M hM => ?_)
  refine L_ps c60 (n := 2) (pc1 := 15) (ls1 := [jR v0, jR (dp (μ v0 0))]) (st1 := [jR (dp (μ v0 0)), jR v0]) rfl ?_
  refine L_putD (c60 15 rfl) hM hv0 (dp_rt _) (by decide) (fun M hM => ?_)
  exact L_end (c60 18 rfl) rfl (hQ _ _ hM h)
theorem k_Parser_readFlip {E : JE2} {μ : Mem} {M : JM} {Q : Bool → Mem → Prop} (hM : Rl E M μ) (h : d_Parser_readFlip μ Q) : JX 58 0 (jargs 58 [jR 72]) [] M (PO E (QB Q) XN) := by
  unfold d_Parser_readFlip at h
  show JX 58 0 [jR 72, jU] [] M (PO E (QB Q) XN)
  generalize hP : PO E (QB Q) XN = P
  have hQ : ∀ (r : Bool) (M1 : JM) (μ1 : Mem), Rl E M1 μ1 → Q r μ1 → P (.inl (some (.inl (b2i r)))) M1 := by rw [← hP]; exact fun r M1 μ1 a b => ⟨μ1, a, r, rfl, b⟩
  clear hP
  refine L_ps c58 (n := 1) (pc1 := 1) (ls1 := [jR 72, jU]) (st1 := [jR 72]) rfl ?_
  refine L_cV (c58 1 rfl) (js_v rfl ((Rl_tag hM rt72 (by decide)).trans js16)) hh58 (k_Parser_next hM h) (fun M μ2 hM h => ?_) (fun _ _ _ _ f => f.elim)
  refine L_ps c58 (n := 2) (pc1 := 6) (ls1 := [jR 72, jU]) (st1 := [jR 72, jR 72]) rfl ?_
  refine L_getP (d := 5) (c58 6 rfl) hM rt72 rfl ?_
  refine L_getI (c58 9 rfl) hM rt77 rfl ?_
  refine L_cB (c58 12 rfl) (js_v rfl ((Rl_tag hM rt72 (by decide)).trans js35)) hh58 (k_Parser_readDigit hM h) (fun r3 M μ4 hM h => ?_) (fun _ _ _ _ f => f.elim)
  refine L_br (p1 := 20) (p2 := 18) (c58 15 rfl) rfl jc_neb h (fun h => ?_) (fun h => ?_)
  · refine L_ps c58 (n := 1) (pc1 := 21) (ls1 := [jR 72, jU]) (st1 := [jR 72]) rfl ?_
    refine L_getP (d := 5) (c58 21 rfl) hM rt72 rfl ?_
    refine L_ps c58 (n := 1) (pc1 := 25) (ls1 := [jR 72, jU]) (st1 := [jR 72, jR 77]) rfl ?_
    refine L_cpI (c58 25 rfl) (js_v rfl ((Rl_tag hM rt72 (by decide)).trans js36)) hh58 (k_Parser_digit hM h) (fun r5 M hM h => ?_) (fun _ _ _ _ f => f.elim)
    refine L_cpR (c58 28 rfl) (js_v rfl ((Rl_tag hM rt77 (by decide)).trans js39)) hh58 (k_State_rule rt77 hM h) (fun r7 M hM hr7 h => ?_) (fun _ _ _ _ f => f.elim)
    refine L_ps c58 (n := 2) (pc1 := 33) (ls1 := [jR 72, jR r7]) (st1 := [jR r7]) rfl ?_
    refine L_cpB (c58 33 rfl) (js_v rfl ((Rl_tag hM hr7 (by decide)).trans js59)) hh58 (k_Rule_canTurn hr7 hM h) (fun r9 M hM h => ?_) (fun _ _ _ _ f => f.elim)
    refine L_br (p1 := 45) (p2 := 39) (c58 36 rfl) rfl jc_neb h (fun h => ?_) (fun h => ?_)
    · refine L_ps c58 (n := 1) (pc1 := 46) (ls1 := [jR 72, jR r7]) (st1 := [jR r7]) rfl ?_
      refine L_cV (c58 46 rfl) (js_v rfl ((Rl_tag hM hr7 (by decide)).trans js60)) hh58 (k_Rule_turn hr7 hM h) (fun M μ12 hM h => ?_) (fun _ _ _ _ f => f.elim)
      refine L_ps c58 (n := 1) (pc1 := 50) (ls1 := [jR 72, jR r7]) (st1 := [jR 72]) rfl ?_
      refine L_cV (c58 50 rfl) (js_v rfl ((Rl_tag hM rt72 (by decide)).trans js16)) hh58 (k_Parser_next hM h) (fun M μ14 hM h => ?_) (fun _ _ _ _ f => f.elim)
      refine L_ps c58 (n := 1) (pc1 := 54) (ls1 := [jR 72, jR r7]) (st1 := [jI 1]) rfl ?_
      exact L_retB (c58 54 rfl) (Or.inr rfl) (hQ true _ _ hM h)
    · refine L_ps c58 (n := 2) (pc1 := 41) (ls1 := [jR 72, jR r7]) (st1 := [jI 4, jR 72]) rfl ?_
      refine L_cB (c58 41 rfl) (js_v rfl ((Rl_tag hM rt72 (by decide)).trans js27)) hh58 (k_Parser_fail hM h) (fun r15 M μ16 hM h => ?_) (fun _ _ _ _ f => f.elim)
      exact L_retB (c58 44 rfl) (bz_b _) (hQ _ _ _ hM h)
  · refine L_ps c58 (n := 1) (pc1 := 19) (ls1 := [jR 72, jU]) (st1 := [jI 0]) rfl ?_
    exact L_retB (c58 19 rfl) (Or.inl rfl) (hQ false _ _ hM h)
theorem k_Arrays_fill_b5 {E : JE2} {v0 : Nat} {v1 : Int} {v3 : Int} {v2 : Int} {μ : Mem} {M : JM} {P : JO → JM → Prop} {W5 : Int → Mem → Prop} {Q : Mem → Prop} (hv0 : rt v0 = 100) (hM : Rl E M μ) (hQ : ∀ (M1 : JM) (μ1 : Mem), Rl E M1 μ1 → Q μ1 → P (.inl none) M1) (hW5 : ∀ (v2 : Int) (M1 : JM) (μ1 : Mem), Rl E M1 μ1 → W5 v2 μ1 → JX 66 5 [jR v0, jI v1, jI v2, jI v3] [] M1 P) (h : d_Arrays_fill_b5 v0 v1 v3 v2 μ W5 Q) : JX 66 5 [jR v0, jI v1, jI v2, jI v3] [] M P := by
  unfold d_Arrays_fill_b5 at h
  refine L_ps c66 (n := 2) (pc1 := 7) (ls1 := [jR v0, jI v1, jI v2, jI v3]) (st1 := [jI v3, jI v2]) rfl ?_
  refine L_nb (p1 := 20) (p2 := 10) (c66 7 rfl) rfl jc_ge h (fun h => ?_) (fun h => ?_)
  · refine L_ps c66 (n := 3) (pc1 := 13) (ls1 := [jR v0, jI v1, jI v2, jI v3]) (st1 := [jI v1, jI v2, jR v0]) rfl ?_
    obtain ⟨hb, h⟩ := h
    refine L_iast (c66 13 rfl) hM hv0 rfl hb (fun M hM => ?_)
    refine L_ps c66 (n := 2) (pc1 := 5) (ls1 := [jR v0, jI v1, jI (wr (v2 + 1)), jI v3]) (st1 := []) rfl ?_
    exact hW5 _ _ _ hM h
  · exact L_end (c66 20 rfl) rfl (hQ _ _ hM h)
theorem k_Arrays_fill_l5 {E : JE2} {v0 : Nat} {v1 : Int} {v3 : Int} {v2 : Int} {μ : Mem} {M : JM} {P : JO → JM → Prop} {Q : Mem → Prop} (hv0 : rt v0 = 100) (hM : Rl E M μ) (hQ : ∀ (M1 : JM) (μ1 : Mem), Rl E M1 μ1 → Q μ1 → P (.inl none) M1) (h : d_Arrays_fill_l5 v0 v1 v3 v2 μ Q) : JX 66 5 [jR v0, jI v1, jI v2, jI v3] [] M P := by
  refine h (fun v2 μ => ∀ (M : JM), Rl E M μ → JX 66 5 [jR v0, jI v1, jI v2, jI v3] [] M P) ?_ _ hM
  intro v2 μ h M hM
  exact k_Arrays_fill_b5 hv0 hM hQ (fun v2 M μ hM h => h M hM) h
theorem k_Arrays_fill {E : JE2} {v0 : Nat} {v1 : Int} {μ : Mem} {M : JM} {Q : Mem → Prop} (hv0 : rt v0 = 100) (hM : Rl E M μ) (h : d_Arrays_fill v0 v1 μ Q) : JX 66 0 (jargs 66 [jR v0, jI v1]) [] M (PO E (QV Q) XN) := by
  unfold d_Arrays_fill at h
  show JX 66 0 [jR v0, jI v1, jU, jU] [] M (PO E (QV Q) XN)
  generalize hP : PO E (QV Q) XN = P
  have hQ : ∀ (M1 : JM) (μ1 : Mem), Rl E M1 μ1 → Q μ1 → P (.inl none) M1 := by rw [← hP]; exact fun M1 μ1 a b => ⟨μ1, a, rfl, b⟩
  clear hP
  refine L_ps c66 (n := 3) (pc1 := 3) (ls1 := [jR v0, jI v1, jI 0, jU]) (st1 := [jR v0]) rfl ?_
  refine L_alen (n := ln v0) (z := (ln v0 : Int)) (c66 3 rfl) hM hv0 (by decide) rfl (ln_small _) rfl ?_
  refine L_ps c66 (n := 1) (pc1 := 5) (ls1 := [jR v0, jI v1, jI 0, jI (ln v0 : Int)]) (st1 := []) rfl ?_
  exact k_Arrays_fill_l5 hv0 hM hQ h
