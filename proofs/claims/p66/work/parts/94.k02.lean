/-! that the printed tables do what the texts say (written by wip/gen/dec.py), 2 -/
theorem k_Unifier_push {E : JE2} {v0 : Nat} {v1 : Int} {μ : Mem} {M : JM} {Q : Mem → Prop} (hv0 : rt v0 = 9) (hM : Rl E M μ) (h : d_Unifier_push v0 v1 μ Q) : JX 106 0 (jargs 106 [jR v0, jI v1]) [] M (PO E (QV Q) XN) := by
  unfold d_Unifier_push at h
  show JX 106 0 [jR v0, jI v1] [] M (PO E (QV Q) XN)
  generalize hP : PO E (QV Q) XN = P
  have hQ : ∀ (M1 : JM) (μ1 : Mem), Rl E M1 μ1 → Q μ1 → P (.inl none) M1 := by rw [← hP]; exact fun M1 μ1 a b => ⟨μ1, a, rfl, b⟩
  clear hP
  refine L_ps c106 (n := 1) (pc1 := 1) (ls1 := [jR v0, jI v1]) (st1 := [jR v0]) rfl ?_
  refine L_getI (c106 1 rfl) hM hv0 rfl ?_
  refine L_br (p1 := 37) (p2 := 7) (c106 4 rfl) rfl jc_lt h (fun h => ?_) (fun h => ?_)
  · exact L_end (c106 37 rfl) rfl (hQ _ _ hM h)
  · refine L_ps c106 (n := 1) (pc1 := 8) (ls1 := [jR v0, jI v1]) (st1 := [jR v0]) rfl ?_
    refine L_getI (c106 8 rfl) hM hv0 rfl ?_
    refine L_ps c106 (n := 1) (pc1 := 14) (ls1 := [jR v0, jI v1]) (st1 := [jI 962, jI (μ v0 7)]) rfl ?_
    refine L_nb (p1 := 37) (p2 := 17) (c106 14 rfl) rfl jc_ge h (fun h => ?_) (fun h => ?_)
    · refine L_ps c106 (n := 1) (pc1 := 18) (ls1 := [jR v0, jI v1]) (st1 := [jR v0]) rfl ?_
      refine L_getP (d := 6) (c106 18 rfl) hM hv0 rfl ?_
      refine L_ps c106 (n := 1) (pc1 := 22) (ls1 := [jR v0, jI v1]) (st1 := [jR v0, jR (v0 + 6)]) rfl ?_
      refine L_getI (c106 22 rfl) hM hv0 rfl ?_
      refine L_ps c106 (n := 1) (pc1 := 26) (ls1 := [jR v0, jI v1]) (st1 := [jI v1, jI (μ v0 7), jR (v0 + 6)]) rfl ?_
      obtain ⟨hb, h⟩ := h
      refine L_iast (c106 26 rfl) hM (rp_9_6 hv0) (lp_9_6 hv0) hb (fun M hM => ?_)
      refine L_ps c106 (n := 2) (pc1 := 29) (ls1 := [jR v0, jI v1]) (st1 := [jR v0, jR v0]) rfl ?_
      refine L_getI (c106 29 rfl) hM hv0 rfl ?_
      refine L_ps c106 (n := 2) (pc1 := 34) (ls1 := [jR v0, jI v1]) (st1 := [jI (wr (((mup μ (v0 + 6) (μ v0 7).toNat v1) v0 7) + 1)), jR v0]) rfl ?_
      refine L_putI (c106 34 rfl) hM hv0 rfl (fun M hM => ?_)
      exact L_end (c106 37 rfl) rfl (hQ _ _ hM h)
    · exact L_end (c106 37 rfl) rfl (hQ _ _ hM h)
theorem k_Unifier_pop {E : JE2} {v0 : Nat} {μ : Mem} {M : JM} {Q : Int → Mem → Prop} (hv0 : rt v0 = 9) (hM : Rl E M μ) (h : d_Unifier_pop v0 μ Q) : JX 107 0 (jargs 107 [jR v0]) [] M (PO E (QI Q) XN) := by
  unfold d_Unifier_pop at h
  show JX 107 0 [jR v0] [] M (PO E (QI Q) XN)
  generalize hP : PO E (QI Q) XN = P
  have hQ : ∀ (r : Int) (M1 : JM) (μ1 : Mem), Rl E M1 μ1 → Q r μ1 → P (.inl (some (.inl r))) M1 := by rw [← hP]; exact fun r M1 μ1 a b => ⟨μ1, a, r, rfl, b⟩
  clear hP
  refine L_ps c107 (n := 1) (pc1 := 1) (ls1 := [jR v0]) (st1 := [jR v0]) rfl ?_
  refine L_getI (c107 1 rfl) hM hv0 rfl ?_
  refine L_nb (p1 := 17) (p2 := 7) (c107 4 rfl) rfl jc_le h (fun h => ?_) (fun h => ?_)
  · refine L_ps c107 (n := 1) (pc1 := 8) (ls1 := [jR v0]) (st1 := [jR v0]) rfl ?_
    refine L_getI (c107 8 rfl) hM hv0 rfl ?_
    refine L_ps c107 (n := 1) (pc1 := 14) (ls1 := [jR v0]) (st1 := [jI 962, jI (μ v0 7)]) rfl ?_
    refine L_nb (p1 := 19) (p2 := 17) (c107 14 rfl) rfl jc_le h (fun h => ?_) (fun h => ?_)
    · refine L_ps c107 (n := 1) (pc1 := 18) (ls1 := [jR v0]) (st1 := [jI (-1)]) rfl ?_
      exact L_retI (c107 18 rfl) (hQ _ _ _ hM h)
    · refine L_ps c107 (n := 2) (pc1 := 21) (ls1 := [jR v0]) (st1 := [jR v0, jR v0]) rfl ?_
      refine L_getI (c107 21 rfl) hM hv0 rfl ?_
      refine L_ps c107 (n := 2) (pc1 := 26) (ls1 := [jR v0]) (st1 := [jI (wr ((μ v0 7) - 1)), jR v0]) rfl ?_
      refine L_putI (c107 26 rfl) hM hv0 rfl (fun M hM => ?_)
      refine L_ps c107 (n := 1) (pc1 := 30) (ls1 := [jR v0]) (st1 := [jR v0]) rfl ?_
      refine L_getP (d := 6) (c107 30 rfl) hM hv0 rfl ?_
      refine L_ps c107 (n := 1) (pc1 := 34) (ls1 := [jR v0]) (st1 := [jR v0, jR (v0 + 6)]) rfl ?_
      refine L_getI (c107 34 rfl) hM hv0 rfl ?_
      obtain ⟨hb, h⟩ := h
      refine L_iald (c107 37 rfl) hM (rp_9_6 hv0) (lp_9_6 hv0) hb ?_
      exact L_retI (c107 38 rfl) (hQ _ _ _ hM h)
  · refine L_ps c107 (n := 1) (pc1 := 18) (ls1 := [jR v0]) (st1 := [jI (-1)]) rfl ?_
    exact L_retI (c107 18 rfl) (hQ _ _ _ hM h)
theorem k_Unifier_root_b4 {E : JE2} {v0 : Nat} {v2 : Int} {v3 : Int} {μ : Mem} {M : JM} {P : JO → JM → Prop} {g1 : JV} {W4 : Int → Int → Prop} {Q : Int → Prop} (hg1 : jc2 g1 = false) (hv0 : rt v0 = 9) (hM : Rl E M μ) (hQ : ∀ (r : Int) (M1 : JM), Rl E M1 μ → Q r → P (.inl (some (.inl r))) M1) (hW4 : ∀ (v2 : Int) (v3 : Int) (g1 : JV) (M1 : JM), jc2 g1 = false → Rl E M1 μ → W4 v2 v3 → JX 108 4 [jR v0, g1, jI v2, jI v3] [] M1 P) (h : d_Unifier_root_b4 v0 v2 v3 μ W4 Q) : JX 108 4 [jR v0, g1, jI v2, jI v3] [] M P := by
  unfold d_Unifier_root_b4 at h
  refine L_ps c108 (n := 2) (pc1 := 8) (ls1 := [jR v0, g1, jI v2, jI v3]) (st1 := [jI 160, jI v3]) rfl ?_
  refine L_nb (p1 := 47) (p2 := 11) (c108 8 rfl) rfl jc_ge h (fun h => ?_) (fun h => ?_)
  · refine L_ps c108 (n := 1) (pc1 := 12) (ls1 := [jR v0, g1, jI v2, jI v3]) (st1 := [jI v2]) rfl ?_
    refine L_br (p1 := 32) (p2 := 15) (c108 12 rfl) rfl jc_lt h (fun h => ?_) (fun h => ?_)
    · refine L_ps c108 (n := 1) (pc1 := 33) (ls1 := [jR v0, g1, jI v2, jI v3]) (st1 := [jI v2]) rfl ?_
      exact L_retI (c108 33 rfl) (hQ _ _ hM h)
    · refine L_ps c108 (n := 2) (pc1 := 19) (ls1 := [jR v0, g1, jI v2, jI v3]) (st1 := [jI 160, jI v2]) rfl ?_
      refine L_nb (p1 := 32) (p2 := 22) (c108 19 rfl) rfl jc_ge h (fun h => ?_) (fun h => ?_)
      · refine L_ps c108 (n := 1) (pc1 := 23) (ls1 := [jR v0, g1, jI v2, jI v3]) (st1 := [jR v0]) rfl ?_
        refine L_getP (d := 2) (c108 23 rfl) hM hv0 rfl ?_
        refine L_ps c108 (n := 1) (pc1 := 27) (ls1 := [jR v0, g1, jI v2, jI v3]) (st1 := [jI v2, jR (v0 + 2)]) rfl ?_
        obtain ⟨hb, h⟩ := h
        refine L_iald (c108 27 rfl) hM (rp_9_2 hv0) (lp_9_2 hv0) hb ?_
        refine L_ps c108 (n := 1) (pc1 := 29) (ls1 := [jR v0, g1, jI v2, jI v3]) (st1 := [jI v2, jI (μ (v0 + 2) v2.toNat)]) rfl ?_
        refine L_nb (p1 := 34) (p2 := 32) (c108 29 rfl) rfl jc_ne h (fun h => ?_) (fun h => ?_)
        · refine L_ps c108 (n := 1) (pc1 := 33) (ls1 := [jR v0, g1, jI v2, jI v3]) (st1 := [jI v2]) rfl ?_
          exact L_retI (c108 33 rfl) (hQ _ _ hM h)
        · refine L_ps c108 (n := 1) (pc1 := 35) (ls1 := [jR v0, g1, jI v2, jI v3]) (st1 := [jR v0]) rfl ?_
          refine L_getP (d := 2) (c108 35 rfl) hM hv0 rfl ?_
          refine L_ps c108 (n := 1) (pc1 := 39) (ls1 := [jR v0, g1, jI v2, jI v3]) (st1 := [jI v2, jR (v0 + 2)]) rfl ?_
          obtain ⟨hb, h⟩ := h
          refine L_iald (c108 39 rfl) hM (rp_9_2 hv0) (lp_9_2 hv0) hb ?_
          refine L_istn (c108 40 rfl) (hg1) (Nat.le_of_ble_eq_true rfl) ?_
          show JX 108 41 [jR v0, g1, jI (μ (v0 + 2) v2.toNat), jI v3] [] M P
          refine L_ps c108 (n := 2) (pc1 := 4) (ls1 := [jR v0, g1, jI (μ (v0 + 2) v2.toNat), jI (wr (v3 + 1))]) (st1 := []) rfl ?_
          exact hW4 _ _ _ _ hg1 hM h
      · refine L_ps c108 (n := 1) (pc1 := 33) (ls1 := [jR v0, g1, jI v2, jI v3]) (st1 := [jI v2]) rfl ?_
        exact L_retI (c108 33 rfl) (hQ _ _ hM h)
  · refine L_ps c108 (n := 1) (pc1 := 48) (ls1 := [jR v0, g1, jI v2, jI v3]) (st1 := [jI v2]) rfl ?_
    exact L_retI (c108 48 rfl) (hQ _ _ hM h)
theorem k_Unifier_root_l4 {E : JE2} {v0 : Nat} {v2 : Int} {v3 : Int} {μ : Mem} {M : JM} {P : JO → JM → Prop} {g1 : JV} {Q : Int → Prop} (hg1 : jc2 g1 = false) (hv0 : rt v0 = 9) (hM : Rl E M μ) (hQ : ∀ (r : Int) (M1 : JM), Rl E M1 μ → Q r → P (.inl (some (.inl r))) M1) (h : d_Unifier_root_l4 v0 v2 v3 μ Q) : JX 108 4 [jR v0, g1, jI v2, jI v3] [] M P := by
  refine h (fun v2 v3 => ∀ (g1 : JV) (M : JM), jc2 g1 = false → Rl E M μ → JX 108 4 [jR v0, g1, jI v2, jI v3] [] M P) ?_ _ _ hg1 hM
  intro v2 v3 h g1 M hg1 hM
  exact k_Unifier_root_b4 hg1 hv0 hM hQ (fun v2 v3 g1 M hg1 hM h => h g1 M hg1 hM) h
theorem k_Unifier_root {E : JE2} {v0 : Nat} {v1 : Int} {μ : Mem} {M : JM} {Q : Int → Prop} (hv0 : rt v0 = 9) (hM : Rl E M μ) (h : d_Unifier_root v0 v1 μ Q) : JX 108 0 (jargs 108 [jR v0, jI v1]) [] M (PO E (pQI μ Q) XN) := by
  unfold d_Unifier_root at h
  show JX 108 0 [jR v0, jI v1, jU, jU] [] M (PO E (pQI μ Q) XN)
  generalize hP : PO E (pQI μ Q) XN = P
  have hQ : ∀ (r : Int) (M1 : JM), Rl E M1 μ → Q r → P (.inl (some (.inl r))) M1 := by rw [← hP]; exact fun r M1 a b => ⟨μ, a, rfl, r, rfl, b⟩
  clear hP
  refine L_ps c108 (n := 4) (pc1 := 4) (ls1 := [jR v0, jI v1, jI v1, jI 0]) (st1 := []) rfl ?_
  exact k_Unifier_root_l4 rfl hv0 hM hQ h
theorem k_Unifier_label {E : JE2} {v0 : Nat} {v1 : Int} {μ : Mem} {M : JM} {Q : Int → Prop} (hv0 : rt v0 = 9) (hM : Rl E M μ) (h : d_Unifier_label v0 v1 μ Q) : JX 109 0 (jargs 109 [jR v0, jI v1]) [] M (PO E (pQI μ Q) XN) := by
  unfold d_Unifier_label at h
  show JX 109 0 [jR v0, jI v1] [] M (PO E (pQI μ Q) XN)
  generalize hP : PO E (pQI μ Q) XN = P
  have hQ : ∀ (r : Int) (M1 : JM), Rl E M1 μ → Q r → P (.inl (some (.inl r))) M1 := by rw [← hP]; exact fun r M1 a b => ⟨μ, a, rfl, r, rfl, b⟩
  clear hP
  refine L_ps c109 (n := 1) (pc1 := 1) (ls1 := [jR v0, jI v1]) (st1 := [jI v1]) rfl ?_
  refine L_br (p1 := 20) (p2 := 4) (c109 1 rfl) rfl jc_lt h (fun h => ?_) (fun h => ?_)
  · refine L_ps c109 (n := 1) (pc1 := 22) (ls1 := [jR v0, jI v1]) (st1 := [jI (-2147483648)]) rfl ?_
    exact L_retI (c109 22 rfl) (hQ _ _ hM h)
  · refine L_ps c109 (n := 2) (pc1 := 8) (ls1 := [jR v0, jI v1]) (st1 := [jI 160, jI v1]) rfl ?_
    refine L_nb (p1 := 20) (p2 := 11) (c109 8 rfl) rfl jc_ge h (fun h => ?_) (fun h => ?_)
    · refine L_ps c109 (n := 1) (pc1 := 12) (ls1 := [jR v0, jI v1]) (st1 := [jR v0]) rfl ?_
      refine L_getP (d := 1) (c109 12 rfl) hM hv0 rfl ?_
      refine L_ps c109 (n := 1) (pc1 := 16) (ls1 := [jR v0, jI v1]) (st1 := [jI v1, jR (v0 + 1)]) rfl ?_
      obtain ⟨hb, h⟩ := h
      refine L_iald (c109 16 rfl) hM (rp_9_1 hv0) (lp_9_1 hv0) hb ?_
      refine L_ps c109 (n := 1) (pc1 := 22) (ls1 := [jR v0, jI v1]) (st1 := [jI (μ (v0 + 1) v1.toNat)]) rfl ?_
      exact L_retI (c109 22 rfl) (hQ _ _ hM h)
    · refine L_ps c109 (n := 1) (pc1 := 22) (ls1 := [jR v0, jI v1]) (st1 := [jI (-2147483648)]) rfl ?_
      exact L_retI (c109 22 rfl) (hQ _ _ hM h)
theorem k_Unifier_hang {E : JE2} {v0 : Nat} {v1 : Int} {v2 : Int} {μ : Mem} {M : JM} {Q : Mem → Prop} (hv0 : rt v0 = 9) (hM : Rl E M μ) (h : d_Unifier_hang v0 v1 v2 μ Q) : JX 110 0 (jargs 110 [jR v0, jI v1, jI v2]) [] M (PO E (QV Q) XN) := by
  unfold d_Unifier_hang at h
  show JX 110 0 [jR v0, jI v1, jI v2] [] M (PO E (QV Q) XN)
  generalize hP : PO E (QV Q) XN = P
  have hQ : ∀ (M1 : JM) (μ1 : Mem), Rl E M1 μ1 → Q μ1 → P (.inl none) M1 := by rw [← hP]; exact fun M1 μ1 a b => ⟨μ1, a, rfl, b⟩
  clear hP
  refine L_ps c110 (n := 1) (pc1 := 1) (ls1 := [jR v0, jI v1, jI v2]) (st1 := [jI v1]) rfl ?_
  refine L_br (p1 := 18) (p2 := 4) (c110 1 rfl) rfl jc_lt h (fun h => ?_) (fun h => ?_)
  · exact L_end (c110 18 rfl) rfl (hQ _ _ hM h)
  · refine L_ps c110 (n := 2) (pc1 := 8) (ls1 := [jR v0, jI v1, jI v2]) (st1 := [jI 160, jI v1]) rfl ?_
    refine L_nb (p1 := 18) (p2 := 11) (c110 8 rfl) rfl jc_ge h (fun h => ?_) (fun h => ?_)
    · refine L_ps c110 (n := 1) (pc1 := 12) (ls1 := [jR v0, jI v1, jI v2]) (st1 := [jR v0]) rfl ?_
      refine L_getP (d := 2) (c110 12 rfl) hM hv0 rfl ?_
      refine L_ps c110 (n := 2) (pc1 := 17) (ls1 := [jR v0, jI v1, jI v2]) (st1 := [jI v2, jI v1, jR (v0 + 2)]) rfl ?_
      obtain ⟨hb, h⟩ := h
      refine L_iast (c110 17 rfl) hM (rp_9_2 hv0) (lp_9_2 hv0) hb (fun M hM => ?_)
      exact L_end (c110 18 rfl) rfl (hQ _ _ hM h)
    · exact L_end (c110 18 rfl) rfl (hQ _ _ hM h)
theorem k_Unifier_end {E : JE2} {v0 : Nat} {v1 : Int} {μ : Mem} {M : JM} {Q : Int → Prop} (hv0 : rt v0 = 9) (hM : Rl E M μ) (h : d_Unifier_end v0 v1 μ Q) : JX 112 0 (jargs 112 [jR v0, jI v1]) [] M (PO E (pQI μ Q) XN) := by
  unfold d_Unifier_end at h
  show JX 112 0 [jR v0, jI v1] [] M (PO E (pQI μ Q) XN)
  generalize hP : PO E (pQI μ Q) XN = P
  have hQ : ∀ (r : Int) (M1 : JM), Rl E M1 μ → Q r → P (.inl (some (.inl r))) M1 := by rw [← hP]; exact fun r M1 a b => ⟨μ, a, rfl, r, rfl, b⟩
  clear hP
  refine L_ps c112 (n := 1) (pc1 := 1) (ls1 := [jR v0, jI v1]) (st1 := [jI v1]) rfl ?_
  refine L_br (p1 := 20) (p2 := 4) (c112 1 rfl) rfl jc_lt h (fun h => ?_) (fun h => ?_)
  · refine L_ps c112 (n := 1) (pc1 := 23) (ls1 := [jR v0, jI v1]) (st1 := [jI 160]) rfl ?_
    exact L_retI (c112 23 rfl) (hQ _ _ hM h)
  · refine L_ps c112 (n := 2) (pc1 := 8) (ls1 := [jR v0, jI v1]) (st1 := [jI 160, jI v1]) rfl ?_
    refine L_nb (p1 := 20) (p2 := 11) (c112 8 rfl) rfl jc_ge h (fun h => ?_) (fun h => ?_)
    · refine L_ps c112 (n := 1) (pc1 := 12) (ls1 := [jR v0, jI v1]) (st1 := [jR v0]) rfl ?_
      refine L_getP (d := 3) (c112 12 rfl) hM hv0 rfl ?_
      refine L_ps c112 (n := 1) (pc1 := 16) (ls1 := [jR v0, jI v1]) (st1 := [jI v1, jR (v0 + 3)]) rfl ?_
      obtain ⟨hb, h⟩ := h
      refine L_iald (c112 16 rfl) hM (rp_9_3 hv0) (lp_9_3 hv0) hb ?_
      refine L_ps c112 (n := 1) (pc1 := 23) (ls1 := [jR v0, jI v1]) (st1 := [jI (μ (v0 + 3) v1.toNat)]) rfl ?_
      exact L_retI (c112 23 rfl) (hQ _ _ hM h)
    · refine L_ps c112 (n := 1) (pc1 := 23) (ls1 := [jR v0, jI v1]) (st1 := [jI 160]) rfl ?_
      exact L_retI (c112 23 rfl) (hQ _ _ hM h)
theorem k_Unifier_pushArguments_b19 {E : JE2} {v0 : Nat} {v3 : Int} {v4 : Int} {v5 : Int} {μ : Mem} {M : JM} {P : JO → JM → Prop} {g1 : JV} {g2 : JV} {W19 : Int → Int → Int → Mem → Prop} {Q : Mem → Prop} (hg2 : jc2 g2 = false) (hv0 : rt v0 = 9) (hM : Rl E M μ) (hQ : ∀ (M1 : JM) (μ1 : Mem), Rl E M1 μ1 → Q μ1 → P (.inl none) M1) (hW19 : ∀ (v3 : Int) (v4 : Int) (v5 : Int) (g1 : JV) (g2 : JV) (M1 : JM) (μ1 : Mem), jc2 g2 = false → Rl E M1 μ1 → W19 v3 v4 v5 μ1 → JX 111 19 [jR v0, g1, g2, jI v3, jI v4, jI v5] [] M1 P) (h : d_Unifier_pushArguments_b19 v0 v3 v4 v5 μ W19 Q) : JX 111 19 [jR v0, g1, g2, jI v3, jI v4, jI v5] [] M P := by
  unfold d_Unifier_pushArguments_b19 at h
  refine L_ps c111 (n := 1) (pc1 := 21) (ls1 := [jR v0, g1, g2, jI v3, jI v4, jI v5]) (st1 := [jI v5]) rfl ?_
  refine L_nb (p1 := 55) (p2 := 24) (c111 21 rfl) rfl jc_le h (fun h => ?_) (fun h => ?_)
  · refine L_ps c111 (n := 2) (pc1 := 26) (ls1 := [jR v0, g1, g2, jI v3, jI v4, jI v5]) (st1 := [jI v3, jR v0]) rfl ?_
    refine L_cV (c111 26 rfl) (js_v rfl ((Rl_tag hM hv0 (by decide)).trans js106)) hh111 (k_Unifier_push hv0 hM h) (fun M μ6 hM h => ?_) (fun _ _ _ _ f => f.elim)
    refine L_ps c111 (n := 2) (pc1 := 32) (ls1 := [jR v0, g1, g2, jI v3, jI v4, jI v5]) (st1 := [jI v4, jR v0]) rfl ?_
    refine L_cV (c111 32 rfl) (js_v rfl ((Rl_tag hM hv0 (by decide)).trans js106)) hh111 (k_Unifier_push hv0 hM h) (fun M μ8 hM h => ?_) (fun _ _ _ _ f => f.elim)
    refine L_ps c111 (n := 2) (pc1 := 37) (ls1 := [jR v0, g1, g2, jI v3, jI v4, jI v5]) (st1 := [jI v3, jR v0]) rfl ?_
    refine L_cpI (c111 37 rfl) (js_v rfl ((Rl_tag hM hv0 (by decide)).trans js112)) hh111 (k_Unifier_end hv0 hM h) (fun r9 M hM h => ?_) (fun _ _ _ _ f => f.elim)
    refine L_istn (c111 40 rfl) (hg2) (Nat.le_of_ble_eq_true rfl) ?_
    show JX 111 41 [jR v0, g1, g2, jI r9, jI v4, jI v5] [] M P
    refine L_ps c111 (n := 2) (pc1 := 44) (ls1 := [jR v0, g1, g2, jI r9, jI v4, jI v5]) (st1 := [jI v4, jR v0]) rfl ?_
    refine L_cpI (c111 44 rfl) (js_v rfl ((Rl_tag hM hv0 (by decide)).trans js112)) hh111 (k_Unifier_end hv0 hM h) (fun r11 M hM h => ?_) (fun _ _ _ _ f => f.elim)
    refine L_ps c111 (n := 3) (pc1 := 19) (ls1 := [jR v0, g1, g2, jI r9, jI r11, jI (wr (v5 + (-1)))]) (st1 := []) rfl ?_
    exact hW19 _ _ _ _ _ _ _ hg2 hM h
  · exact L_end (c111 55 rfl) rfl (hQ _ _ hM h)
theorem k_Unifier_pushArguments_l19 {E : JE2} {v0 : Nat} {v3 : Int} {v4 : Int} {v5 : Int} {μ : Mem} {M : JM} {P : JO → JM → Prop} {g1 : JV} {g2 : JV} {Q : Mem → Prop} (hg2 : jc2 g2 = false) (hv0 : rt v0 = 9) (hM : Rl E M μ) (hQ : ∀ (M1 : JM) (μ1 : Mem), Rl E M1 μ1 → Q μ1 → P (.inl none) M1) (h : d_Unifier_pushArguments_l19 v0 v3 v4 v5 μ Q) : JX 111 19 [jR v0, g1, g2, jI v3, jI v4, jI v5] [] M P := by
  refine h (fun v3 v4 v5 μ => ∀ (g1 : JV) (g2 : JV) (M : JM), jc2 g2 = false → Rl E M μ → JX 111 19 [jR v0, g1, g2, jI v3, jI v4, jI v5] [] M P) ?_ _ _ _ hg2 hM
  intro v3 v4 v5 μ h g1 g2 M hg2 hM
  exact k_Unifier_pushArguments_b19 hg2 hv0 hM hQ (fun v3 v4 v5 g1 g2 M μ hg2 hM h => h g1 g2 M hg2 hM) h
theorem k_Unifier_pushArguments {E : JE2} {v0 : Nat} {v1 : Int} {v2 : Int} {μ : Mem} {M : JM} {Q : Mem → Prop} (hv0 : rt v0 = 9) (hM : Rl E M μ) (h : d_Unifier_pushArguments v0 v1 v2 μ Q) : JX 111 0 (jargs 111 [jR v0, jI v1, jI v2]) [] M (PO E (QV Q) XN) := by
  unfold d_Unifier_pushArguments at h
  show JX 111 0 [jR v0, jI v1, jI v2, jU, jU, jU] [] M (PO E (QV Q) XN)
  generalize hP : PO E (QV Q) XN = P
  have hQ : ∀ (M1 : JM) (μ1 : Mem), Rl E M1 μ1 → Q μ1 → P (.inl none) M1 := by rw [← hP]; exact fun M1 μ1 a b => ⟨μ1, a, rfl, b⟩
  clear hP
  refine L_ps c111 (n := 10) (pc1 := 11) (ls1 := [jR v0, jI v1, jI v2, jI (wr (v1 + 1)), jI (wr (v2 + 1)), jU]) (st1 := [jI v1, jR v0]) rfl ?_
  refine L_cpI (c111 11 rfl) (js_v rfl ((Rl_tag hM hv0 (by decide)).trans js109)) hh111 (k_Unifier_label hv0 hM h) (fun r1 M hM h => ?_) (fun _ _ _ _ f => f.elim)
  refine L_cpI (c111 14 rfl) (js_t rfl) hh111 (k_Term_arityOf hM h) (fun r3 M hM h => ?_) (fun _ _ _ _ f => f.elim)
  refine L_ps c111 (n := 1) (pc1 := 19) (ls1 := [jR v0, jI v1, jI v2, jI (wr (v1 + 1)), jI (wr (v2 + 1)), jI r3]) (st1 := []) rfl ?_
  exact k_Unifier_pushArguments_l19 rfl hv0 hM hQ h
theorem k_Unifier_merge_j136 {E : JE2} {v0 : Nat} {v3 : Int} {μ : Mem} {M : JM} {P : JO → JM → Prop} {g1 : JV} {g2 : JV} {g4 : JV} {g5 : JV} {g6 : JV} {g7 : JV} {W17 : Int → Mem → Prop} {Q : Bool → Mem → Prop} (hg2 : jc2 g2 = false) (hg4 : jc2 g4 = false) (hg5 : jc2 g5 = false) (hg6 : jc2 g6 = false) (hv0 : rt v0 = 9) (hM : Rl E M μ) (hQ : ∀ (r : Bool) (M1 : JM) (μ1 : Mem), Rl E M1 μ1 → Q r μ1 → P (.inl (some (.inl (b2i r)))) M1) (hW17 : ∀ (v3 : Int) (g1 : JV) (g2 : JV) (g4 : JV) (g5 : JV) (g6 : JV) (g7 : JV) (M1 : JM) (μ1 : Mem), jc2 g2 = false → jc2 g4 = false → jc2 g5 = false → jc2 g6 = false → Rl E M1 μ1 → W17 v3 μ1 → JX 105 17 [jR v0, g1, g2, jI v3, g4, g5, g6, g7] [] M1 P) (h : d_Unifier_merge_j136 v0 v3 μ W17 Q) : JX 105 136 [jR v0, g1, g2, jI v3, g4, g5, g6, g7] [] M P := by
  unfold d_Unifier_merge_j136 at h
  refine L_iinc (c105 136 rfl) (hg2) (Nat.le_of_ble_eq_true rfl) rfl ?_
  show JX 105 139 [jR v0, g1, g2, jI (wr (v3 + 1)), g4, g5, g6, g7] [] M P
  refine L_ps c105 (n := 1) (pc1 := 17) (ls1 := [jR v0, g1, g2, jI (wr (v3 + 1)), g4, g5, g6, g7]) (st1 := []) rfl ?_
  exact hW17 _ _ _ _ _ _ _ _ _ hg2 hg4 hg5 hg6 hM h
theorem k_Unifier_merge_j118 {E : JE2} {v0 : Nat} {v3 : Int} {v4 : Int} {v5 : Int} {v6 : Int} {v7 : Int} {μ : Mem} {M : JM} {P : JO → JM → Prop} {g1 : JV} {g2 : JV} {W17 : Int → Mem → Prop} {Q : Bool → Mem → Prop} (hg2 : jc2 g2 = false) (hv0 : rt v0 = 9) (hM : Rl E M μ) (hQ : ∀ (r : Bool) (M1 : JM) (μ1 : Mem), Rl E M1 μ1 → Q r μ1 → P (.inl (some (.inl (b2i r)))) M1) (hW17 : ∀ (v3 : Int) (g1 : JV) (g2 : JV) (g4 : JV) (g5 : JV) (g6 : JV) (g7 : JV) (M1 : JM) (μ1 : Mem), jc2 g2 = false → jc2 g4 = false → jc2 g5 = false → jc2 g6 = false → Rl E M1 μ1 → W17 v3 μ1 → JX 105 17 [jR v0, g1, g2, jI v3, g4, g5, g6, g7] [] M1 P) (h : d_Unifier_merge_j118 v0 v3 v4 v5 v6 v7 μ W17 Q) : JX 105 118 [jR v0, g1, g2, jI v3, jI v4, jI v5, jI v6, jI v7] [] M P := by
  unfold d_Unifier_merge_j118 at h
  refine L_ps c105 (n := 1) (pc1 := 120) (ls1 := [jR v0, g1, g2, jI v3, jI v4, jI v5, jI v6, jI v7]) (st1 := [jI v6]) rfl ?_
  refine L_br (p1 := 136) (p2 := 123) (c105 120 rfl) rfl jc_lt h (fun h => ?_) (fun h => ?_)
  · exact k_Unifier_merge_j136 hg2 rfl rfl rfl hv0 hM hQ hW17 h
  · refine L_ps c105 (n := 1) (pc1 := 125) (ls1 := [jR v0, g1, g2, jI v3, jI v4, jI v5, jI v6, jI v7]) (st1 := [jI v7]) rfl ?_
    refine L_br (p1 := 136) (p2 := 128) (c105 125 rfl) rfl jc_lt h (fun h => ?_) (fun h => ?_)
    · exact k_Unifier_merge_j136 hg2 rfl rfl rfl hv0 hM hQ hW17 h
    · refine L_ps c105 (n := 3) (pc1 := 133) (ls1 := [jR v0, g1, g2, jI v3, jI v4, jI v5, jI v6, jI v7]) (st1 := [jI v5, jI v4, jR v0]) rfl ?_
      refine L_cV (c105 133 rfl) (js_v rfl ((Rl_tag hM hv0 (by decide)).trans js111)) hh105 (k_Unifier_pushArguments hv0 hM h) (fun M μ20 hM h => ?_) (fun _ _ _ _ f => f.elim)
      exact k_Unifier_merge_j136 hg2 rfl rfl rfl hv0 hM hQ hW17 h
theorem k_Unifier_merge_j94 {E : JE2} {v0 : Nat} {v3 : Int} {v4 : Int} {v5 : Int} {v6 : Int} {v7 : Int} {μ : Mem} {M : JM} {P : JO → JM → Prop} {g1 : JV} {g2 : JV} {W17 : Int → Mem → Prop} {Q : Bool → Mem → Prop} (hg2 : jc2 g2 = false) (hv0 : rt v0 = 9) (hM : Rl E M μ) (hQ : ∀ (r : Bool) (M1 : JM) (μ1 : Mem), Rl E M1 μ1 → Q r μ1 → P (.inl (some (.inl (b2i r)))) M1) (hW17 : ∀ (v3 : Int) (g1 : JV) (g2 : JV) (g4 : JV) (g5 : JV) (g6 : JV) (g7 : JV) (M1 : JM) (μ1 : Mem), jc2 g2 = false → jc2 g4 = false → jc2 g5 = false → jc2 g6 = false → Rl E M1 μ1 → W17 v3 μ1 → JX 105 17 [jR v0, g1, g2, jI v3, g4, g5, g6, g7] [] M1 P) (h : d_Unifier_merge_j94 v0 v3 v4 v5 v6 v7 μ W17 Q) : JX 105 94 [jR v0, g1, g2, jI v3, jI v4, jI v5, jI v6, jI v7] [] M P := by
  unfold d_Unifier_merge_j94 at h
  refine L_ps c105 (n := 1) (pc1 := 96) (ls1 := [jR v0, g1, g2, jI v3, jI v4, jI v5, jI v6, jI v7]) (st1 := [jI v6]) rfl ?_
  refine L_nb (p1 := 110) (p2 := 99) (c105 96 rfl) rfl jc_ge h (fun h => ?_) (fun h => ?_)
  · refine L_ps c105 (n := 3) (pc1 := 104) (ls1 := [jR v0, g1, g2, jI v3, jI v4, jI v5, jI v6, jI v7]) (st1 := [jI v5, jI v4, jR v0]) rfl ?_
    refine L_cV (c105 104 rfl) (js_v rfl ((Rl_tag hM hv0 (by decide)).trans js110)) hh105 (k_Unifier_hang hv0 hM h) (fun M μ18 hM h => ?_) (fun _ _ _ _ f => f.elim)
    refine L_ps c105 (n := 1) (pc1 := 118) (ls1 := [jR v0, g1, g2, jI v3, jI v4, jI v5, jI v6, jI v7]) (st1 := []) rfl ?_
    exact k_Unifier_merge_j118 hg2 hv0 hM hQ hW17 h
  · refine L_ps c105 (n := 3) (pc1 := 115) (ls1 := [jR v0, g1, g2, jI v3, jI v4, jI v5, jI v6, jI v7]) (st1 := [jI v4, jI v5, jR v0]) rfl ?_
    refine L_cV (c105 115 rfl) (js_v rfl ((Rl_tag hM hv0 (by decide)).trans js110)) hh105 (k_Unifier_hang hv0 hM h) (fun M μ22 hM h => ?_) (fun _ _ _ _ f => f.elim)
    exact k_Unifier_merge_j118 hg2 hv0 hM hQ hW17 h
theorem k_Unifier_merge_b17 {E : JE2} {v0 : Nat} {v3 : Int} {μ : Mem} {M : JM} {P : JO → JM → Prop} {g1 : JV} {g2 : JV} {g4 : JV} {g5 : JV} {g6 : JV} {g7 : JV} {W17 : Int → Mem → Prop} {Q : Bool → Mem → Prop} (hg2 : jc2 g2 = false) (hg4 : jc2 g4 = false) (hg5 : jc2 g5 = false) (hg6 : jc2 g6 = false) (hv0 : rt v0 = 9) (hM : Rl E M μ) (hQ : ∀ (r : Bool) (M1 : JM) (μ1 : Mem), Rl E M1 μ1 → Q r μ1 → P (.inl (some (.inl (b2i r)))) M1) (hW17 : ∀ (v3 : Int) (g1 : JV) (g2 : JV) (g4 : JV) (g5 : JV) (g6 : JV) (g7 : JV) (M1 : JM) (μ1 : Mem), jc2 g2 = false → jc2 g4 = false → jc2 g5 = false → jc2 g6 = false → Rl E M1 μ1 → W17 v3 μ1 → JX 105 17 [jR v0, g1, g2, jI v3, g4, g5, g6, g7] [] M1 P) (h : d_Unifier_merge_b17 v0 v3 μ W17 Q) : JX 105 17 [jR v0, g1, g2, jI v3, g4, g5, g6, g7] [] M P := by
  unfold d_Unifier_merge_b17 at h
  refine L_ps c105 (n := 2) (pc1 := 21) (ls1 := [jR v0, g1, g2, jI v3, g4, g5, g6, g7]) (st1 := [jI 962, jI v3]) rfl ?_
  refine L_nb (p1 := 142) (p2 := 24) (c105 21 rfl) rfl jc_ge h (fun h => ?_) (fun h => ?_)
  · refine L_ps c105 (n := 1) (pc1 := 25) (ls1 := [jR v0, g1, g2, jI v3, g4, g5, g6, g7]) (st1 := [jR v0]) rfl ?_
    refine L_getI (c105 25 rfl) hM hv0 rfl ?_
    refine L_ps c105 (n := 1) (pc1 := 29) (ls1 := [jR v0, g1, g2, jI v3, g4, g5, g6, g7]) (st1 := [jI 1, jI (μ v0 7)]) rfl ?_
    refine L_nb (p1 := 142) (p2 := 32) (c105 29 rfl) rfl jc_le h (fun h => ?_) (fun h => ?_)
    · refine L_ps c105 (n := 2) (pc1 := 34) (ls1 := [jR v0, g1, g2, jI v3, g4, g5, g6, g7]) (st1 := [jR v0, jR v0]) rfl ?_
      refine L_cI (c105 34 rfl) (js_v rfl ((Rl_tag hM hv0 (by decide)).trans js107)) hh105 (k_Unifier_pop hv0 hM h) (fun r5 M μ6 hM h => ?_) (fun _ _ _ _ f => f.elim)
      refine L_cpI (c105 37 rfl) (js_v rfl ((Rl_tag hM hv0 (by decide)).trans js108)) hh105 (k_Unifier_root hv0 hM h) (fun r7 M hM h => ?_) (fun _ _ _ _ f => f.elim)
      refine L_ps c105 (n := 3) (pc1 := 44) (ls1 := [jR v0, g1, g2, jI v3, jI r7, g5, g6, g7]) (st1 := [jR v0, jR v0]) rfl ?_
      refine L_cI (c105 44 rfl) (js_v rfl ((Rl_tag hM hv0 (by decide)).trans js107)) hh105 (k_Unifier_pop hv0 hM h) (fun r9 M μ10 hM h => ?_) (fun _ _ _ _ f => f.elim)
      refine L_cpI (c105 47 rfl) (js_v rfl ((Rl_tag hM hv0 (by decide)).trans js108)) hh105 (k_Unifier_root hv0 hM h) (fun r11 M hM h => ?_) (fun _ _ _ _ f => f.elim)
      refine L_ps c105 (n := 3) (pc1 := 56) (ls1 := [jR v0, g1, g2, jI v3, jI r7, jI r11, g6, g7]) (st1 := [jI r11, jI r7]) rfl ?_
      refine L_br (p1 := 136) (p2 := 59) (c105 56 rfl) rfl jc_eq h (fun h => ?_) (fun h => ?_)
      · exact k_Unifier_merge_j136 hg2 rfl rfl hg6 hv0 hM hQ hW17 h
      · refine L_ps c105 (n := 2) (pc1 := 62) (ls1 := [jR v0, g1, g2, jI v3, jI r7, jI r11, g6, g7]) (st1 := [jI r7, jR v0]) rfl ?_
        refine L_cpI (c105 62 rfl) (js_v rfl ((Rl_tag hM hv0 (by decide)).trans js109)) hh105 (k_Unifier_label hv0 hM h) (fun r13 M hM h => ?_) (fun _ _ _ _ f => f.elim)
        refine L_ps c105 (n := 3) (pc1 := 70) (ls1 := [jR v0, g1, g2, jI v3, jI r7, jI r11, jI r13, g7]) (st1 := [jI r11, jR v0]) rfl ?_
        refine L_cpI (c105 70 rfl) (js_v rfl ((Rl_tag hM hv0 (by decide)).trans js109)) hh105 (k_Unifier_label hv0 hM h) (fun r15 M hM h => ?_) (fun _ _ _ _ f => f.elim)
        refine L_ps c105 (n := 2) (pc1 := 77) (ls1 := [jR v0, g1, g2, jI v3, jI r7, jI r11, jI r13, jI r15]) (st1 := [jI r13]) rfl ?_
        refine L_br (p1 := 94) (p2 := 80) (c105 77 rfl) rfl jc_lt h (fun h => ?_) (fun h => ?_)
        · exact k_Unifier_merge_j94 hg2 hv0 hM hQ hW17 h
        · refine L_ps c105 (n := 1) (pc1 := 82) (ls1 := [jR v0, g1, g2, jI v3, jI r7, jI r11, jI r13, jI r15]) (st1 := [jI r15]) rfl ?_
          refine L_br (p1 := 94) (p2 := 85) (c105 82 rfl) rfl jc_lt h (fun h => ?_) (fun h => ?_)
          · exact k_Unifier_merge_j94 hg2 hv0 hM hQ hW17 h
          · refine L_ps c105 (n := 2) (pc1 := 89) (ls1 := [jR v0, g1, g2, jI v3, jI r7, jI r11, jI r13, jI r15]) (st1 := [jI r15, jI r13]) rfl ?_
            refine L_br (p1 := 94) (p2 := 92) (c105 89 rfl) rfl jc_eq h (fun h => ?_) (fun h => ?_)
            · exact k_Unifier_merge_j94 hg2 hv0 hM hQ hW17 h
            · refine L_ps c105 (n := 1) (pc1 := 93) (ls1 := [jR v0, g1, g2, jI v3, jI r7, jI r11, jI r13, jI r15]) (st1 := [jI 0]) rfl ?_
              exact L_retB (c105 93 rfl) (Or.inl rfl) (hQ false _ _ hM h)
    · refine L_ps c105 (n := 1) (pc1 := 143) (ls1 := [jR v0, g1, g2, jI v3, g4, g5, g6, g7]) (st1 := [jI 1]) rfl ?_
      exact L_retB (c105 143 rfl) (Or.inr rfl) (hQ true _ _ hM h)
  · refine L_ps c105 (n := 1) (pc1 := 143) (ls1 := [jR v0, g1, g2, jI v3, g4, g5, g6, g7]) (st1 := [jI 1]) rfl ?_
    exact L_retB (c105 143 rfl) (Or.inr rfl) (hQ true _ _ hM h)
theorem k_Unifier_merge_l17 {E : JE2} {v0 : Nat} {v3 : Int} {μ : Mem} {M : JM} {P : JO → JM → Prop} {g1 : JV} {g2 : JV} {g4 : JV} {g5 : JV} {g6 : JV} {g7 : JV} {Q : Bool → Mem → Prop} (hg2 : jc2 g2 = false) (hg4 : jc2 g4 = false) (hg5 : jc2 g5 = false) (hg6 : jc2 g6 = false) (hv0 : rt v0 = 9) (hM : Rl E M μ) (hQ : ∀ (r : Bool) (M1 : JM) (μ1 : Mem), Rl E M1 μ1 → Q r μ1 → P (.inl (some (.inl (b2i r)))) M1) (h : d_Unifier_merge_l17 v0 v3 μ Q) : JX 105 17 [jR v0, g1, g2, jI v3, g4, g5, g6, g7] [] M P := by
  refine h (fun v3 μ => ∀ (g1 : JV) (g2 : JV) (g4 : JV) (g5 : JV) (g6 : JV) (g7 : JV) (M : JM), jc2 g2 = false → jc2 g4 = false → jc2 g5 = false → jc2 g6 = false → Rl E M μ → JX 105 17 [jR v0, g1, g2, jI v3, g4, g5, g6, g7] [] M P) ?_ _ _ _ _ _ _ _ hg2 hg4 hg5 hg6 hM
  intro v3 μ h g1 g2 g4 g5 g6 g7 M hg2 hg4 hg5 hg6 hM
  exact k_Unifier_merge_b17 hg2 hg4 hg5 hg6 hv0 hM hQ (fun v3 g1 g2 g4 g5 g6 g7 M μ hg2 hg4 hg5 hg6 hM h => h g1 g2 g4 g5 g6 g7 M hg2 hg4 hg5 hg6 hM) h
theorem k_Unifier_merge {E : JE2} {v0 : Nat} {v1 : Int} {v2 : Int} {μ : Mem} {M : JM} {Q : Bool → Mem → Prop} (hv0 : rt v0 = 9) (hM : Rl E M μ) (h : d_Unifier_merge v0 v1 v2 μ Q) : JX 105 0 (jargs 105 [jR v0, jI v1, jI v2]) [] M (PO E (QB Q) XN) := by
  unfold d_Unifier_merge at h
  show JX 105 0 [jR v0, jI v1, jI v2, jU, jU, jU, jU, jU] [] M (PO E (QB Q) XN)
  generalize hP : PO E (QB Q) XN = P
  have hQ : ∀ (r : Bool) (M1 : JM) (μ1 : Mem), Rl E M1 μ1 → Q r μ1 → P (.inl (some (.inl (b2i r)))) M1 := by rw [← hP]; exact fun r M1 μ1 a b => ⟨μ1, a, r, rfl, b⟩
  clear hP
  refine L_ps c105 (n := 2) (pc1 := 2) (ls1 := [jR v0, jI v1, jI v2, jU, jU, jU, jU, jU]) (st1 := [jI 0, jR v0]) rfl ?_
  refine L_putI (c105 2 rfl) hM hv0 rfl (fun M hM => ?_)
  refine L_ps c105 (n := 2) (pc1 := 7) (ls1 := [jR v0, jI v1, jI v2, jU, jU, jU, jU, jU]) (st1 := [jI v1, jR v0]) rfl ?_
  refine L_cV (c105 7 rfl) (js_v rfl ((Rl_tag hM hv0 (by decide)).trans js106)) hh105 (k_Unifier_push hv0 hM h) (fun M μ2 hM h => ?_) (fun _ _ _ _ f => f.elim)
  refine L_ps c105 (n := 2) (pc1 := 12) (ls1 := [jR v0, jI v1, jI v2, jU, jU, jU, jU, jU]) (st1 := [jI v2, jR v0]) rfl ?_
  refine L_cV (c105 12 rfl) (js_v rfl ((Rl_tag hM hv0 (by decide)).trans js106)) hh105 (k_Unifier_push hv0 hM h) (fun M μ4 hM h => ?_) (fun _ _ _ _ f => f.elim)
  refine L_ps c105 (n := 2) (pc1 := 17) (ls1 := [jR v0, jI v1, jI v2, jI 0, jU, jU, jU, jU]) (st1 := []) rfl ?_
  exact k_Unifier_merge_l17 rfl rfl rfl rfl hv0 hM hQ h
theorem k_Unifier_isSettled {E : JE2} {v0 : Nat} {v1 : Int} {μ : Mem} {M : JM} {Q : Bool → Prop} (hv0 : rt v0 = 9) (hM : Rl E M μ) (h : d_Unifier_isSettled v0 v1 μ Q) : JX 114 0 (jargs 114 [jR v0, jI v1]) [] M (PO E (pQB μ Q) XN) := by
  unfold d_Unifier_isSettled at h
  show JX 114 0 [jR v0, jI v1] [] M (PO E (pQB μ Q) XN)
  generalize hP : PO E (pQB μ Q) XN = P
  have hQ : ∀ (r : Bool) (M1 : JM), Rl E M1 μ → Q r → P (.inl (some (.inl (b2i r)))) M1 := by rw [← hP]; exact fun r M1 a b => ⟨μ, a, rfl, r, rfl, b⟩
  clear hP
  refine L_ps c114 (n := 1) (pc1 := 1) (ls1 := [jR v0, jI v1]) (st1 := [jI v1]) rfl ?_
  refine L_br (p1 := 24) (p2 := 4) (c114 1 rfl) rfl jc_lt h (fun h => ?_) (fun h => ?_)
  · refine L_ps c114 (n := 1) (pc1 := 25) (ls1 := [jR v0, jI v1]) (st1 := [jI 0]) rfl ?_
    exact L_retB (c114 25 rfl) (Or.inl rfl) (hQ false _ hM h)
  · refine L_ps c114 (n := 2) (pc1 := 8) (ls1 := [jR v0, jI v1]) (st1 := [jI 160, jI v1]) rfl ?_
    refine L_nb (p1 := 24) (p2 := 11) (c114 8 rfl) rfl jc_ge h (fun h => ?_) (fun h => ?_)
    · refine L_ps c114 (n := 1) (pc1 := 12) (ls1 := [jR v0, jI v1]) (st1 := [jR v0]) rfl ?_
      refine L_getP (d := 4) (c114 12 rfl) hM hv0 rfl ?_
      refine L_ps c114 (n := 1) (pc1 := 16) (ls1 := [jR v0, jI v1]) (st1 := [jI v1, jR (v0 + 4)]) rfl ?_
      obtain ⟨hb, h⟩ := h
      refine L_bald (c114 16 rfl) hM (Or.inr (rp_9_4 hv0)) (lp_9_4 hv0) hb ?_
      refine L_br (p1 := 24) (p2 := 20) (c114 17 rfl) rfl jc_eq h (fun h => ?_) (fun h => ?_)
      · refine L_ps c114 (n := 1) (pc1 := 25) (ls1 := [jR v0, jI v1]) (st1 := [jI 0]) rfl ?_
        exact L_retB (c114 25 rfl) (Or.inl rfl) (hQ false _ hM h)
      · refine L_ps c114 (n := 2) (pc1 := 25) (ls1 := [jR v0, jI v1]) (st1 := [jI 1]) rfl ?_
        exact L_retB (c114 25 rfl) (Or.inr rfl) (hQ true _ hM h)
    · refine L_ps c114 (n := 1) (pc1 := 25) (ls1 := [jR v0, jI v1]) (st1 := [jI 0]) rfl ?_
      exact L_retB (c114 25 rfl) (Or.inl rfl) (hQ false _ hM h)
theorem k_Unifier_settles_b31 {E : JE2} {v0 : Nat} {v3 : Int} {v4 : Int} {μ : Mem} {M : JM} {P : JO → JM → Prop} {g1 : JV} {g2 : JV} {W31 : Int → Int → Prop} {Q : Bool → Prop} (hg1 : jc2 g1 = false) (hg2 : jc2 g2 = false) (hv0 : rt v0 = 9) (hM : Rl E M μ) (hQ : ∀ (r : Bool) (M1 : JM), Rl E M1 μ → Q r → P (.inl (some (.inl (b2i r)))) M1) (hW31 : ∀ (v3 : Int) (v4 : Int) (g1 : JV) (g2 : JV) (M1 : JM), jc2 g1 = false → jc2 g2 = false → Rl E M1 μ → W31 v3 v4 → JX 115 31 [jR v0, g1, g2, jI v3, jI v4] [] M1 P) (h : d_Unifier_settles_b31 v0 v3 v4 μ W31 Q) : JX 115 31 [jR v0, g1, g2, jI v3, jI v4] [] M P := by
  unfold d_Unifier_settles_b31 at h
  refine L_ps c115 (n := 1) (pc1 := 33) (ls1 := [jR v0, g1, g2, jI v3, jI v4]) (st1 := [jI v4]) rfl ?_
  refine L_nb (p1 := 62) (p2 := 36) (c115 33 rfl) rfl jc_le h (fun h => ?_) (fun h => ?_)
  · refine L_ps c115 (n := 3) (pc1 := 39) (ls1 := [jR v0, g1, g2, jI v3, jI v4]) (st1 := [jI v3, jR v0, jR v0]) rfl ?_
    refine L_cpI (c115 39 rfl) (js_v rfl ((Rl_tag hM hv0 (by decide)).trans js108)) hh115 (k_Unifier_root hv0 hM h) (fun r7 M hM h => ?_) (fun _ _ _ _ f => f.elim)
    refine L_cpB (c115 42 rfl) (js_v rfl ((Rl_tag hM hv0 (by decide)).trans js114)) hh115 (k_Unifier_isSettled hv0 hM h) (fun r9 M hM h => ?_) (fun _ _ _ _ f => f.elim)
    refine L_br (p1 := 50) (p2 := 48) (c115 45 rfl) rfl jc_neb h (fun h => ?_) (fun h => ?_)
    · refine L_ps c115 (n := 2) (pc1 := 52) (ls1 := [jR v0, g1, g2, jI v3, jI v4]) (st1 := [jI v3, jR v0]) rfl ?_
      refine L_cpI (c115 52 rfl) (js_v rfl ((Rl_tag hM hv0 (by decide)).trans js112)) hh115 (k_Unifier_end hv0 hM h) (fun r11 M hM h => ?_) (fun _ _ _ _ f => f.elim)
      refine L_istn (c115 55 rfl) (hg2) (Nat.le_of_ble_eq_true rfl) ?_
      show JX 115 56 [jR v0, g1, g2, jI r11, jI v4] [] M P
      refine L_ps c115 (n := 2) (pc1 := 31) (ls1 := [jR v0, g1, g2, jI r11, jI (wr (v4 + (-1)))]) (st1 := []) rfl ?_
      exact hW31 _ _ _ _ _ hg1 hg2 hM h
    · refine L_ps c115 (n := 1) (pc1 := 49) (ls1 := [jR v0, g1, g2, jI v3, jI v4]) (st1 := [jI 0]) rfl ?_
      exact L_retB (c115 49 rfl) (Or.inl rfl) (hQ false _ hM h)
  · refine L_ps c115 (n := 1) (pc1 := 63) (ls1 := [jR v0, g1, g2, jI v3, jI v4]) (st1 := [jI 1]) rfl ?_
    exact L_retB (c115 63 rfl) (Or.inr rfl) (hQ true _ hM h)
theorem k_Unifier_settles_l31 {E : JE2} {v0 : Nat} {v3 : Int} {v4 : Int} {μ : Mem} {M : JM} {P : JO → JM → Prop} {g1 : JV} {g2 : JV} {Q : Bool → Prop} (hg1 : jc2 g1 = false) (hg2 : jc2 g2 = false) (hv0 : rt v0 = 9) (hM : Rl E M μ) (hQ : ∀ (r : Bool) (M1 : JM), Rl E M1 μ → Q r → P (.inl (some (.inl (b2i r)))) M1) (h : d_Unifier_settles_l31 v0 v3 v4 μ Q) : JX 115 31 [jR v0, g1, g2, jI v3, jI v4] [] M P := by
  refine h (fun v3 v4 => ∀ (g1 : JV) (g2 : JV) (M : JM), jc2 g1 = false → jc2 g2 = false → Rl E M μ → JX 115 31 [jR v0, g1, g2, jI v3, jI v4] [] M P) ?_ _ _ _ hg1 hg2 hM
  intro v3 v4 h g1 g2 M hg1 hg2 hM
  exact k_Unifier_settles_b31 hg1 hg2 hv0 hM hQ (fun v3 v4 g1 g2 M hg1 hg2 hM h => h g1 g2 M hg1 hg2 hM) h
theorem k_Unifier_settles {E : JE2} {v0 : Nat} {v1 : Int} {μ : Mem} {M : JM} {Q : Bool → Prop} (hv0 : rt v0 = 9) (hM : Rl E M μ) (h : d_Unifier_settles v0 v1 μ Q) : JX 115 0 (jargs 115 [jR v0, jI v1]) [] M (PO E (pQB μ Q) XN) := by
  unfold d_Unifier_settles at h
  show JX 115 0 [jR v0, jI v1, jU, jU, jU] [] M (PO E (pQB μ Q) XN)
  generalize hP : PO E (pQB μ Q) XN = P
  have hQ : ∀ (r : Bool) (M1 : JM), Rl E M1 μ → Q r → P (.inl (some (.inl (b2i r)))) M1 := by rw [← hP]; exact fun r M1 a b => ⟨μ, a, rfl, r, rfl, b⟩
  clear hP
  refine L_ps c115 (n := 2) (pc1 := 2) (ls1 := [jR v0, jI v1, jU, jU, jU]) (st1 := [jI v1, jR v0]) rfl ?_
  refine L_cpI (c115 2 rfl) (js_v rfl ((Rl_tag hM hv0 (by decide)).trans js108)) hh115 (k_Unifier_root hv0 hM h) (fun r1 M hM h => ?_) (fun _ _ _ _ f => f.elim)
  refine L_ps c115 (n := 3) (pc1 := 8) (ls1 := [jR v0, jI v1, jI r1, jU, jU]) (st1 := [jI v1, jI r1]) rfl ?_
  refine L_br (p1 := 17) (p2 := 11) (c115 8 rfl) rfl jc_eq h (fun h => ?_) (fun h => ?_)
  · refine L_ps c115 (n := 6) (pc1 := 23) (ls1 := [jR v0, jI v1, jI r1, jI (wr (v1 + 1)), jU]) (st1 := [jI v1, jR v0]) rfl ?_
    refine L_cpI (c115 23 rfl) (js_v rfl ((Rl_tag hM hv0 (by decide)).trans js109)) hh115 (k_Unifier_label hv0 hM h) (fun r3 M hM h => ?_) (fun _ _ _ _ f => f.elim)
    refine L_cpI (c115 26 rfl) (js_t rfl) hh115 (k_Term_arityOf hM h) (fun r5 M hM h => ?_) (fun _ _ _ _ f => f.elim)
    refine L_ps c115 (n := 1) (pc1 := 31) (ls1 := [jR v0, jI v1, jI r1, jI (wr (v1 + 1)), jI r5]) (st1 := []) rfl ?_
    exact k_Unifier_settles_l31 rfl rfl hv0 hM hQ h
  · refine L_ps c115 (n := 2) (pc1 := 13) (ls1 := [jR v0, jI v1, jI r1, jU, jU]) (st1 := [jI r1, jR v0]) rfl ?_
    refine L_cpB (c115 13 rfl) (js_v rfl ((Rl_tag hM hv0 (by decide)).trans js114)) hh115 (k_Unifier_isSettled hv0 hM h) (fun r13 M hM h => ?_) (fun _ _ _ _ f => f.elim)
    exact L_retB (c115 16 rfl) (bz_b _) (hQ _ _ hM h)
theorem k_Unifier_settle {E : JE2} {v0 : Nat} {v1 : Int} {μ : Mem} {M : JM} {Q : Mem → Prop} (hv0 : rt v0 = 9) (hM : Rl E M μ) (h : d_Unifier_settle v0 v1 μ Q) : JX 116 0 (jargs 116 [jR v0, jI v1]) [] M (PO E (QV Q) XN) := by
  unfold d_Unifier_settle at h
  show JX 116 0 [jR v0, jI v1] [] M (PO E (QV Q) XN)
  generalize hP : PO E (QV Q) XN = P
  have hQ : ∀ (M1 : JM) (μ1 : Mem), Rl E M1 μ1 → Q μ1 → P (.inl none) M1 := by rw [← hP]; exact fun M1 μ1 a b => ⟨μ1, a, rfl, b⟩
  clear hP
  refine L_ps c116 (n := 1) (pc1 := 1) (ls1 := [jR v0, jI v1]) (st1 := [jI v1]) rfl ?_
  refine L_br (p1 := 18) (p2 := 4) (c116 1 rfl) rfl jc_lt h (fun h => ?_) (fun h => ?_)
  · exact L_end (c116 18 rfl) rfl (hQ _ _ hM h)
  · refine L_ps c116 (n := 2) (pc1 := 8) (ls1 := [jR v0, jI v1]) (st1 := [jI 160, jI v1]) rfl ?_
    refine L_nb (p1 := 18) (p2 := 11) (c116 8 rfl) rfl jc_ge h (fun h => ?_) (fun h => ?_)
    · refine L_ps c116 (n := 1) (pc1 := 12) (ls1 := [jR v0, jI v1]) (st1 := [jR v0]) rfl ?_
      refine L_getP (d := 4) (c116 12 rfl) hM hv0 rfl ?_
      refine L_ps c116 (n := 2) (pc1 := 17) (ls1 := [jR v0, jI v1]) (st1 := [jI 1, jI v1, jR (v0 + 4)]) rfl ?_
      obtain ⟨hb, h⟩ := h
      refine L_zast (c116 17 rfl) hM (rp_9_4 hv0) (lp_9_4 hv0) hb (Or.inr rfl) (fun M hM => ?_)
      exact L_end (c116 18 rfl) rfl (hQ _ _ hM h)
    · exact L_end (c116 18 rfl) rfl (hQ _ _ hM h)
theorem k_Unifier_isFinite_j99 {E : JE2} {v1 : Int} {μ : Mem} {M : JM} {P : JO → JM → Prop} {g0 : JV} {g2 : JV} {g3 : JV} {g4 : JV} {Q : Bool → Mem → Prop} (hg0 : jc2 g0 = false) (hg2 : jc2 g2 = false) (hg3 : jc2 g3 = false) (hM : Rl E M μ) (hQ : ∀ (r : Bool) (M1 : JM) (μ1 : Mem), Rl E M1 μ1 → Q r μ1 → P (.inl (some (.inl (b2i r)))) M1) (h : d_Unifier_isFinite_j99 v1 μ Q) : JX 113 99 [g0, jI v1, g2, g3, g4] [] M P := by
  unfold d_Unifier_isFinite_j99 at h
  refine L_ps c113 (n := 1) (pc1 := 100) (ls1 := [g0, jI v1, g2, g3, g4]) (st1 := [jI v1]) rfl ?_
  refine L_nb (p1 := 107) (p2 := 103) (c113 100 rfl) rfl jc_ne h (fun h => ?_) (fun h => ?_)
  · refine L_ps c113 (n := 2) (pc1 := 108) (ls1 := [g0, jI v1, g2, g3, g4]) (st1 := [jI 1]) rfl ?_
    exact L_retB (c113 108 rfl) (Or.inr rfl) (hQ true _ _ hM h)
  · refine L_ps c113 (n := 1) (pc1 := 108) (ls1 := [g0, jI v1, g2, g3, g4]) (st1 := [jI 0]) rfl ?_
    exact L_retB (c113 108 rfl) (Or.inl rfl) (hQ false _ _ hM h)
theorem k_Unifier_isFinite_j87 {E : JE2} {v0 : Nat} {v1 : Int} {v2 : Int} {v3 : Int} {v4 : Int} {μ : Mem} {M : JM} {P : JO → JM → Prop} {W31 : Int → Int → Int → Mem → Prop} {W53 : Int → Int → Int → Mem → Prop} {Q : Bool → Mem → Prop} (hv0 : rt v0 = 9) (hM : Rl E M μ) (hQ : ∀ (r : Bool) (M1 : JM) (μ1 : Mem), Rl E M1 μ1 → Q r μ1 → P (.inl (some (.inl (b2i r)))) M1) (hW31 : ∀ (v1 : Int) (v2 : Int) (v3 : Int) (g4 : JV) (M1 : JM) (μ1 : Mem), Rl E M1 μ1 → W31 v1 v2 v3 μ1 → JX 113 31 [jR v0, jI v1, jI v2, jI v3, g4] [] M1 P) (hW53 : ∀ (v1 : Int) (v2 : Int) (v4 : Int) (M1 : JM) (μ1 : Mem), Rl E M1 μ1 → W53 v1 v2 v4 μ1 → JX 113 53 [jR v0, jI v1, jI v2, jI v3, jI v4] [] M1 P) (h : d_Unifier_isFinite_j87 v0 v1 v2 v3 v4 μ W31 W53 Q) : JX 113 87 [jR v0, jI v1, jI v2, jI v3, jI v4] [] M P := by
  unfold d_Unifier_isFinite_j87 at h
  refine L_ps c113 (n := 2) (pc1 := 53) (ls1 := [jR v0, jI v1, jI v2, jI v3, jI (wr (v4 + (-1)))]) (st1 := []) rfl ?_
  exact hW53 _ _ _ _ _ hM h
theorem k_Unifier_isFinite_b53 {E : JE2} {v0 : Nat} {v3 : Int} {v1 : Int} {v2 : Int} {v4 : Int} {μ : Mem} {M : JM} {P : JO → JM → Prop} {W31 : Int → Int → Int → Mem → Prop} {W53 : Int → Int → Int → Mem → Prop} {Q : Bool → Mem → Prop} (hv0 : rt v0 = 9) (hM : Rl E M μ) (hQ : ∀ (r : Bool) (M1 : JM) (μ1 : Mem), Rl E M1 μ1 → Q r μ1 → P (.inl (some (.inl (b2i r)))) M1) (hW31 : ∀ (v1 : Int) (v2 : Int) (v3 : Int) (g4 : JV) (M1 : JM) (μ1 : Mem), Rl E M1 μ1 → W31 v1 v2 v3 μ1 → JX 113 31 [jR v0, jI v1, jI v2, jI v3, g4] [] M1 P) (hW53 : ∀ (v1 : Int) (v2 : Int) (v4 : Int) (M1 : JM) (μ1 : Mem), Rl E M1 μ1 → W53 v1 v2 v4 μ1 → JX 113 53 [jR v0, jI v1, jI v2, jI v3, jI v4] [] M1 P) (h : d_Unifier_isFinite_b53 v0 v3 v1 v2 v4 μ W31 W53 Q) : JX 113 53 [jR v0, jI v1, jI v2, jI v3, jI v4] [] M P := by
  unfold d_Unifier_isFinite_b53 at h
  refine L_ps c113 (n := 1) (pc1 := 55) (ls1 := [jR v0, jI v1, jI v2, jI v3, jI v4]) (st1 := [jI v4]) rfl ?_
  refine L_br (p1 := 93) (p2 := 58) (c113 55 rfl) rfl jc_lt h (fun h => ?_) (fun h => ?_)
  · refine L_ps c113 (n := 2) (pc1 := 31) (ls1 := [jR v0, jI v1, jI v2, jI (wr (v3 + 1)), jI v4]) (st1 := []) rfl ?_
    exact hW31 _ _ _ _ _ _ hM h
  · refine L_ps c113 (n := 2) (pc1 := 61) (ls1 := [jR v0, jI v1, jI v2, jI v3, jI v4]) (st1 := [jI v4, jR v0]) rfl ?_
    refine L_cpB (c113 61 rfl) (js_v rfl ((Rl_tag hM hv0 (by decide)).trans js114)) hh113 (k_Unifier_isSettled hv0 hM h) (fun r1 M hM h => ?_) (fun _ _ _ _ f => f.elim)
    refine L_br (p1 := 87) (p2 := 67) (c113 64 rfl) rfl jc_neb h (fun h => ?_) (fun h => ?_)
    · exact k_Unifier_isFinite_j87 hv0 hM hQ hW31 hW53 h
    · refine L_ps c113 (n := 2) (pc1 := 70) (ls1 := [jR v0, jI v1, jI v2, jI v3, jI v4]) (st1 := [jI v4, jR v0]) rfl ?_
      refine L_cpB (c113 70 rfl) (js_v rfl ((Rl_tag hM hv0 (by decide)).trans js115)) hh113 (k_Unifier_settles hv0 hM h) (fun r3 M hM h => ?_) (fun _ _ _ _ f => f.elim)
      refine L_nb (p1 := 87) (p2 := 76) (c113 73 rfl) rfl jc_eqb h (fun h => ?_) (fun h => ?_)
      · refine L_ps c113 (n := 2) (pc1 := 79) (ls1 := [jR v0, jI v1, jI v2, jI v3, jI v4]) (st1 := [jI v4, jR v0]) rfl ?_
        refine L_cV (c113 79 rfl) (js_v rfl ((Rl_tag hM hv0 (by decide)).trans js116)) hh113 (k_Unifier_settle hv0 hM h) (fun M μ6 hM h => ?_) (fun _ _ _ _ f => f.elim)
        refine L_ps c113 (n := 3) (pc1 := 87) (ls1 := [jR v0, jI (wr (v1 + (-1))), jI 1, jI v3, jI v4]) (st1 := []) rfl ?_
        exact k_Unifier_isFinite_j87 hv0 hM hQ hW31 hW53 h
      · exact k_Unifier_isFinite_j87 hv0 hM hQ hW31 hW53 h
theorem k_Unifier_isFinite_l53 {E : JE2} {v0 : Nat} {v3 : Int} {v1 : Int} {v2 : Int} {v4 : Int} {μ : Mem} {M : JM} {P : JO → JM → Prop} {W31 : Int → Int → Int → Mem → Prop} {Q : Bool → Mem → Prop} (hv0 : rt v0 = 9) (hM : Rl E M μ) (hQ : ∀ (r : Bool) (M1 : JM) (μ1 : Mem), Rl E M1 μ1 → Q r μ1 → P (.inl (some (.inl (b2i r)))) M1) (hW31 : ∀ (v1 : Int) (v2 : Int) (v3 : Int) (g4 : JV) (M1 : JM) (μ1 : Mem), Rl E M1 μ1 → W31 v1 v2 v3 μ1 → JX 113 31 [jR v0, jI v1, jI v2, jI v3, g4] [] M1 P) (h : d_Unifier_isFinite_l53 v0 v3 v1 v2 v4 μ W31 Q) : JX 113 53 [jR v0, jI v1, jI v2, jI v3, jI v4] [] M P := by
  refine h (fun v1 v2 v4 μ => ∀ (M : JM), Rl E M μ → JX 113 53 [jR v0, jI v1, jI v2, jI v3, jI v4] [] M P) ?_ _ hM
  intro v1 v2 v4 μ h M hM
  exact k_Unifier_isFinite_b53 hv0 hM hQ hW31 (fun v1 v2 v4 M μ hM h => h M hM) h
theorem k_Unifier_isFinite_b31 {E : JE2} {v0 : Nat} {v1 : Int} {v2 : Int} {v3 : Int} {μ : Mem} {M : JM} {P : JO → JM → Prop} {g4 : JV} {W31 : Int → Int → Int → Mem → Prop} {Q : Bool → Mem → Prop} (hv0 : rt v0 = 9) (hM : Rl E M μ) (hQ : ∀ (r : Bool) (M1 : JM) (μ1 : Mem), Rl E M1 μ1 → Q r μ1 → P (.inl (some (.inl (b2i r)))) M1) (hW31 : ∀ (v1 : Int) (v2 : Int) (v3 : Int) (g4 : JV) (M1 : JM) (μ1 : Mem), Rl E M1 μ1 → W31 v1 v2 v3 μ1 → JX 113 31 [jR v0, jI v1, jI v2, jI v3, g4] [] M1 P) (h : d_Unifier_isFinite_b31 v0 v1 v2 v3 μ W31 Q) : JX 113 31 [jR v0, jI v1, jI v2, jI v3, g4] [] M P := by
  unfold d_Unifier_isFinite_b31 at h
  refine L_ps c113 (n := 2) (pc1 := 33) (ls1 := [jR v0, jI v1, jI v2, jI v3, g4]) (st1 := [jR v0, jI v3]) rfl ?_
  refine L_getI (c113 33 rfl) hM hv0 rfl ?_
  refine L_br (p1 := 99) (p2 := 39) (c113 36 rfl) rfl jc_gt h (fun h => ?_) (fun h => ?_)
  · exact k_Unifier_isFinite_j99 rfl rfl rfl hM hQ h
  · refine L_ps c113 (n := 1) (pc1 := 40) (ls1 := [jR v0, jI v1, jI v2, jI v3, g4]) (st1 := [jI v2]) rfl ?_
    refine L_br (p1 := 99) (p2 := 43) (c113 40 rfl) rfl jc_eq h (fun h => ?_) (fun h => ?_)
    · exact k_Unifier_isFinite_j99 rfl rfl rfl hM hQ h
    · refine L_ps c113 (n := 3) (pc1 := 46) (ls1 := [jR v0, jI v1, jI 0, jI v3, g4]) (st1 := [jR v0]) rfl ?_
      refine L_getI (c113 46 rfl) hM hv0 rfl ?_
      refine L_ps c113 (n := 3) (pc1 := 53) (ls1 := [jR v0, jI v1, jI 0, jI v3, jI (wr ((μ v0 0) - 1))]) (st1 := []) rfl ?_
      exact k_Unifier_isFinite_l53 hv0 hM hQ hW31 h
theorem k_Unifier_isFinite_l31 {E : JE2} {v0 : Nat} {v1 : Int} {v2 : Int} {v3 : Int} {μ : Mem} {M : JM} {P : JO → JM → Prop} {g4 : JV} {Q : Bool → Mem → Prop} (hv0 : rt v0 = 9) (hM : Rl E M μ) (hQ : ∀ (r : Bool) (M1 : JM) (μ1 : Mem), Rl E M1 μ1 → Q r μ1 → P (.inl (some (.inl (b2i r)))) M1) (h : d_Unifier_isFinite_l31 v0 v1 v2 v3 μ Q) : JX 113 31 [jR v0, jI v1, jI v2, jI v3, g4] [] M P := by
  refine h (fun v1 v2 v3 μ => ∀ (g4 : JV) (M : JM), Rl E M μ → JX 113 31 [jR v0, jI v1, jI v2, jI v3, g4] [] M P) ?_ _ _ hM
  intro v1 v2 v3 μ h g4 M hM
  exact k_Unifier_isFinite_b31 hv0 hM hQ (fun v1 v2 v3 g4 M μ hM h => h g4 M hM) h
theorem k_Unifier_isFinite_b2 {E : JE2} {v0 : Nat} {v1 : Int} {μ : Mem} {M : JM} {P : JO → JM → Prop} {g2 : JV} {g3 : JV} {g4 : JV} {W2 : Int → Mem → Prop} {Q : Bool → Mem → Prop} (hg2 : jc2 g2 = false) (hg3 : jc2 g3 = false) (hv0 : rt v0 = 9) (hM : Rl E M μ) (hQ : ∀ (r : Bool) (M1 : JM) (μ1 : Mem), Rl E M1 μ1 → Q r μ1 → P (.inl (some (.inl (b2i r)))) M1) (hW2 : ∀ (v1 : Int) (g2 : JV) (g3 : JV) (g4 : JV) (M1 : JM) (μ1 : Mem), jc2 g2 = false → jc2 g3 = false → Rl E M1 μ1 → W2 v1 μ1 → JX 113 2 [jR v0, jI v1, g2, g3, g4] [] M1 P) (h : d_Unifier_isFinite_b2 v0 v1 μ W2 Q) : JX 113 2 [jR v0, jI v1, g2, g3, g4] [] M P := by
  unfold d_Unifier_isFinite_b2 at h
  refine L_ps c113 (n := 2) (pc1 := 6) (ls1 := [jR v0, jI v1, g2, g3, g4]) (st1 := [jI 160, jI v1]) rfl ?_
  refine L_nb (p1 := 22) (p2 := 9) (c113 6 rfl) rfl jc_ge h (fun h => ?_) (fun h => ?_)
  · refine L_ps c113 (n := 1) (pc1 := 10) (ls1 := [jR v0, jI v1, g2, g3, g4]) (st1 := [jR v0]) rfl ?_
    refine L_getP (d := 4) (c113 10 rfl) hM hv0 rfl ?_
    refine L_ps c113 (n := 2) (pc1 := 15) (ls1 := [jR v0, jI v1, g2, g3, g4]) (st1 := [jI 0, jI v1, jR (v0 + 4)]) rfl ?_
    obtain ⟨hb, h⟩ := h
    refine L_zast (c113 15 rfl) hM (rp_9_4 hv0) (lp_9_4 hv0) hb (Or.inl rfl) (fun M hM => ?_)
    refine L_ps c113 (n := 2) (pc1 := 2) (ls1 := [jR v0, jI (wr (v1 + 1)), g2, g3, g4]) (st1 := []) rfl ?_
    exact hW2 _ _ _ _ _ _ hg2 hg3 hM h
  · refine L_ps c113 (n := 1) (pc1 := 23) (ls1 := [jR v0, jI v1, g2, g3, g4]) (st1 := [jR v0]) rfl ?_
    refine L_getI (c113 23 rfl) hM hv0 rfl ?_
    refine L_ps c113 (n := 5) (pc1 := 31) (ls1 := [jR v0, jI (μ v0 0), jI 1, jI 0, g4]) (st1 := []) rfl ?_
    exact k_Unifier_isFinite_l31 hv0 hM hQ h
theorem k_Unifier_isFinite_l2 {E : JE2} {v0 : Nat} {v1 : Int} {μ : Mem} {M : JM} {P : JO → JM → Prop} {g2 : JV} {g3 : JV} {g4 : JV} {Q : Bool → Mem → Prop} (hg2 : jc2 g2 = false) (hg3 : jc2 g3 = false) (hv0 : rt v0 = 9) (hM : Rl E M μ) (hQ : ∀ (r : Bool) (M1 : JM) (μ1 : Mem), Rl E M1 μ1 → Q r μ1 → P (.inl (some (.inl (b2i r)))) M1) (h : d_Unifier_isFinite_l2 v0 v1 μ Q) : JX 113 2 [jR v0, jI v1, g2, g3, g4] [] M P := by
  refine h (fun v1 μ => ∀ (g2 : JV) (g3 : JV) (g4 : JV) (M : JM), jc2 g2 = false → jc2 g3 = false → Rl E M μ → JX 113 2 [jR v0, jI v1, g2, g3, g4] [] M P) ?_ _ _ _ _ hg2 hg3 hM
  intro v1 μ h g2 g3 g4 M hg2 hg3 hM
  exact k_Unifier_isFinite_b2 hg2 hg3 hv0 hM hQ (fun v1 g2 g3 g4 M μ hg2 hg3 hM h => h g2 g3 g4 M hg2 hg3 hM) h
theorem k_Unifier_isFinite {E : JE2} {v0 : Nat} {μ : Mem} {M : JM} {Q : Bool → Mem → Prop} (hv0 : rt v0 = 9) (hM : Rl E M μ) (h : d_Unifier_isFinite v0 μ Q) : JX 113 0 (jargs 113 [jR v0]) [] M (PO E (QB Q) XN) := by
  unfold d_Unifier_isFinite at h
  show JX 113 0 [jR v0, jU, jU, jU, jU] [] M (PO E (QB Q) XN)
  generalize hP : PO E (QB Q) XN = P
  have hQ : ∀ (r : Bool) (M1 : JM) (μ1 : Mem), Rl E M1 μ1 → Q r μ1 → P (.inl (some (.inl (b2i r)))) M1 := by rw [← hP]; exact fun r M1 μ1 a b => ⟨μ1, a, r, rfl, b⟩
  clear hP
  refine L_ps c113 (n := 2) (pc1 := 2) (ls1 := [jR v0, jI 0, jU, jU, jU]) (st1 := []) rfl ?_
  exact k_Unifier_isFinite_l2 rfl rfl hv0 hM hQ h
theorem k_Unifier_solve {E : JE2} {v0 : Nat} {v1 : Int} {v2 : Int} {μ : Mem} {M : JM} {Q : Bool → Mem → Prop} (hv0 : rt v0 = 9) (hM : Rl E M μ) (h : d_Unifier_solve v0 v1 v2 μ Q) : JX 104 0 (jargs 104 [jR v0, jI v1, jI v2]) [] M (PO E (QB Q) XN) := by
  unfold d_Unifier_solve at h
  show JX 104 0 [jR v0, jI v1, jI v2] [] M (PO E (QB Q) XN)
  generalize hP : PO E (QB Q) XN = P
  have hQ : ∀ (r : Bool) (M1 : JM) (μ1 : Mem), Rl E M1 μ1 → Q r μ1 → P (.inl (some (.inl (b2i r)))) M1 := by rw [← hP]; exact fun r M1 μ1 a b => ⟨μ1, a, r, rfl, b⟩
  clear hP
  refine L_ps c104 (n := 3) (pc1 := 3) (ls1 := [jR v0, jI v1, jI v2]) (st1 := [jI v2, jI v1, jR v0]) rfl ?_
  refine L_cB (c104 3 rfl) (js_v rfl ((Rl_tag hM hv0 (by decide)).trans js105)) hh104 (k_Unifier_merge hv0 hM h) (fun r1 M μ2 hM h => ?_) (fun _ _ _ _ f => f.elim)
  refine L_nb (p1 := 20) (p2 := 9) (c104 6 rfl) rfl jc_eqb h (fun h => ?_) (fun h => ?_)
  · refine L_ps c104 (n := 1) (pc1 := 10) (ls1 := [jR v0, jI v1, jI v2]) (st1 := [jR v0]) rfl ?_
    refine L_cB (c104 10 rfl) (js_v rfl ((Rl_tag hM hv0 (by decide)).trans js113)) hh104 (k_Unifier_isFinite hv0 hM h) (fun r3 M μ4 hM h => ?_) (fun _ _ _ _ f => f.elim)
    refine L_nb (p1 := 20) (p2 := 16) (c104 13 rfl) rfl jc_eqb h (fun h => ?_) (fun h => ?_)
    · refine L_ps c104 (n := 2) (pc1 := 21) (ls1 := [jR v0, jI v1, jI v2]) (st1 := [jI 1]) rfl ?_
      exact L_retB (c104 21 rfl) (Or.inr rfl) (hQ true _ _ hM h)
    · refine L_ps c104 (n := 1) (pc1 := 21) (ls1 := [jR v0, jI v1, jI v2]) (st1 := [jI 0]) rfl ?_
      exact L_retB (c104 21 rfl) (Or.inl rfl) (hQ false _ _ hM h)
  · refine L_ps c104 (n := 1) (pc1 := 21) (ls1 := [jR v0, jI v1, jI v2]) (st1 := [jI 0]) rfl ?_
    exact L_retB (c104 21 rfl) (Or.inl rfl) (hQ false _ _ hM h)
theorem k_PairList_firstTerm_j21 {E : JE2} {t0 : Nat} {μ : Mem} {M : JM} {P : JO → JM → Prop} {g0 : JV} {g1 : JV} {g2 : JV} {Q : Nat → Prop} (hg1 : jc2 g1 = false) (ht0 : rt t0 = 8) (hM : Rl E M μ) (hQ : ∀ (r : Nat) (M1 : JM), Rl E M1 μ → rt r = 8 → Q r → P (.inl (some (.inr (.inl r)))) M1) (h : d_PairList_firstTerm_j21 t0 μ Q) : JX 117 21 [g0, g1, g2] [jR t0] M P := by
  unfold d_PairList_firstTerm_j21 at h
  refine L_astn (c117 21 rfl) (hg1) (Nat.le_of_ble_eq_true rfl) ?_
  show JX 117 22 [g0, g1, jR t0] [] M P
  refine L_ps c117 (n := 3) (pc1 := 34) (ls1 := [g0, g1, jR t0]) (st1 := [jR t0]) rfl ?_
  exact L_end (c117 34 rfl) rfl (hQ _ _ hM ht0 h)
theorem k_PairList_firstTerm {E : JE2} {v1 : Int} {μ : Mem} {M : JM} {Q : Nat → Prop} (hM : Rl E M μ) (h : d_PairList_firstTerm v1 μ Q) : JX 117 0 (jargs 117 [jR 139, jI v1]) [] M (PO E (pQR μ 8 Q) XN) := by
  unfold d_PairList_firstTerm at h
  show JX 117 0 [jR 139, jI v1, jU] [] M (PO E (pQR μ 8 Q) XN)
  generalize hP : PO E (pQR μ 8 Q) XN = P
  have hQ : ∀ (r : Nat) (M1 : JM), Rl E M1 μ → rt r = 8 → Q r → P (.inl (some (.inr (.inl r)))) M1 := by rw [← hP]; exact fun r M1 a c b => ⟨μ, a, rfl, r, rfl, c, b⟩
  clear hP
  refine L_ps c117 (n := 2) (pc1 := 2) (ls1 := [jR 139, jI v1, jU]) (st1 := [jI v1, jR 139]) rfl ?_
  refine L_cpB (c117 2 rfl) (js_v rfl ((Rl_tag hM rt139 (by decide)).trans js99)) hh117 (k_PairList_has hM h) (fun r1 M hM h => ?_) (fun _ _ _ _ f => f.elim)
  refine L_nb (p1 := 17) (p2 := 8) (c117 5 rfl) rfl jc_eqb h (fun h => ?_) (fun h => ?_)
  · refine L_ps c117 (n := 1) (pc1 := 9) (ls1 := [jR 139, jI v1, jU]) (st1 := [jR 139]) rfl ?_
    refine L_getP (d := 20) (c117 9 rfl) hM rt139 rfl ?_
    refine L_ps c117 (n := 1) (pc1 := 13) (ls1 := [jR 139, jI v1, jU]) (st1 := [jI v1, jR 159]) rfl ?_
    obtain ⟨hb, h⟩ := h
    have e3 : rt (159 + (5 + 4 * v1.toNat)) = 8 := re_114 rt159 (by omega)
    refine L_aald (c117 13 rfl) hM rt159 (by decide) ln159 hb rfl ?_
    refine L_ps c117 (n := 1) (pc1 := 21) (ls1 := [jR 139, jI v1, jU]) (st1 := [jR (159 + (5 + 4 * v1.toNat))]) rfl ?_
    exact k_PairList_firstTerm_j21 rfl e3 hM hQ h
  · refine L_ps c117 (n := 1) (pc1 := 18) (ls1 := [jR 139, jI v1, jU]) (st1 := [jR 139]) rfl ?_
    refine L_getP (d := 22) (c117 18 rfl) hM rt139 rfl ?_
    exact k_PairList_firstTerm_j21 rfl rt161 hM hQ h
theorem k_PairList_secondTerm_j21 {E : JE2} {t0 : Nat} {μ : Mem} {M : JM} {P : JO → JM → Prop} {g0 : JV} {g1 : JV} {g2 : JV} {Q : Nat → Prop} (hg1 : jc2 g1 = false) (ht0 : rt t0 = 8) (hM : Rl E M μ) (hQ : ∀ (r : Nat) (M1 : JM), Rl E M1 μ → rt r = 8 → Q r → P (.inl (some (.inr (.inl r)))) M1) (h : d_PairList_secondTerm_j21 t0 μ Q) : JX 118 21 [g0, g1, g2] [jR t0] M P := by
  unfold d_PairList_secondTerm_j21 at h
  refine L_astn (c118 21 rfl) (hg1) (Nat.le_of_ble_eq_true rfl) ?_
  show JX 118 22 [g0, g1, jR t0] [] M P
  refine L_ps c118 (n := 3) (pc1 := 34) (ls1 := [g0, g1, jR t0]) (st1 := [jR t0]) rfl ?_
  exact L_end (c118 34 rfl) rfl (hQ _ _ hM ht0 h)
theorem k_PairList_secondTerm {E : JE2} {v1 : Int} {μ : Mem} {M : JM} {Q : Nat → Prop} (hM : Rl E M μ) (h : d_PairList_secondTerm v1 μ Q) : JX 118 0 (jargs 118 [jR 139, jI v1]) [] M (PO E (pQR μ 8 Q) XN) := by
  unfold d_PairList_secondTerm at h
  show JX 118 0 [jR 139, jI v1, jU] [] M (PO E (pQR μ 8 Q) XN)
  generalize hP : PO E (pQR μ 8 Q) XN = P
  have hQ : ∀ (r : Nat) (M1 : JM), Rl E M1 μ → rt r = 8 → Q r → P (.inl (some (.inr (.inl r)))) M1 := by rw [← hP]; exact fun r M1 a c b => ⟨μ, a, rfl, r, rfl, c, b⟩
  clear hP
  refine L_ps c118 (n := 2) (pc1 := 2) (ls1 := [jR 139, jI v1, jU]) (st1 := [jI v1, jR 139]) rfl ?_
  refine L_cpB (c118 2 rfl) (js_v rfl ((Rl_tag hM rt139 (by decide)).trans js99)) hh118 (k_PairList_has hM h) (fun r1 M hM h => ?_) (fun _ _ _ _ f => f.elim)
  refine L_nb (p1 := 17) (p2 := 8) (c118 5 rfl) rfl jc_eqb h (fun h => ?_) (fun h => ?_)
  · refine L_ps c118 (n := 1) (pc1 := 9) (ls1 := [jR 139, jI v1, jU]) (st1 := [jR 139]) rfl ?_
    refine L_getP (d := 21) (c118 9 rfl) hM rt139 rfl ?_
    refine L_ps c118 (n := 1) (pc1 := 13) (ls1 := [jR 139, jI v1, jU]) (st1 := [jI v1, jR 160]) rfl ?_
    obtain ⟨hb, h⟩ := h
    have e3 : rt (160 + (6 + 4 * v1.toNat)) = 8 := re_115 rt160 (by omega)
    refine L_aald (c118 13 rfl) hM rt160 (by decide) ln160 hb rfl ?_
    refine L_ps c118 (n := 1) (pc1 := 21) (ls1 := [jR 139, jI v1, jU]) (st1 := [jR (160 + (6 + 4 * v1.toNat))]) rfl ?_
    exact k_PairList_secondTerm_j21 rfl e3 hM hQ h
  · refine L_ps c118 (n := 1) (pc1 := 18) (ls1 := [jR 139, jI v1, jU]) (st1 := [jR 139]) rfl ?_
    refine L_getP (d := 22) (c118 18 rfl) hM rt139 rfl ?_
    exact k_PairList_secondTerm_j21 rfl rt161 hM hQ h
theorem k_Unifier_pushReversed_j41 {E : JE2} {v0 : Nat} {v1 : Int} {v2 : Int} {μ : Mem} {M : JM} {P : JO → JM → Prop} {g3 : JV} {Q : Mem → Prop} (hv0 : rt v0 = 9) (hM : Rl E M μ) (hQ : ∀ (M1 : JM) (μ1 : Mem), Rl E M1 μ1 → Q μ1 → P (.inl none) M1) (h : d_Unifier_pushReversed_j41 v0 v1 v2 μ Q) : JX 120 41 [jR v0, jI v1, jI v2, g3] [] M P := by
  unfold d_Unifier_pushReversed_j41 at h
  refine L_ps c120 (n := 1) (pc1 := 42) (ls1 := [jR v0, jI v1, jI v2, g3]) (st1 := [jI v2]) rfl ?_
  refine L_nb (p1 := 52) (p2 := 45) (c120 42 rfl) rfl jc_le h (fun h => ?_) (fun h => ?_)
  · refine L_ps c120 (n := 4) (pc1 := 49) (ls1 := [jR v0, jI v1, jI v2, g3]) (st1 := [jI (wr (v1 + 1)), jR v0]) rfl ?_
    refine L_cV (c120 49 rfl) (js_v rfl ((Rl_tag hM hv0 (by decide)).trans js106)) hh120 (k_Unifier_push hv0 hM h) (fun M μ14 hM h => ?_) (fun _ _ _ _ f => f.elim)
    exact L_end (c120 52 rfl) rfl (hQ _ _ hM h)
  · exact L_end (c120 52 rfl) rfl (hQ _ _ hM h)
theorem k_Unifier_pushReversed_j31 {E : JE2} {v0 : Nat} {v1 : Int} {v2 : Int} {v3 : Int} {μ : Mem} {M : JM} {P : JO → JM → Prop} {Q : Mem → Prop} (hv0 : rt v0 = 9) (hM : Rl E M μ) (hQ : ∀ (M1 : JM) (μ1 : Mem), Rl E M1 μ1 → Q μ1 → P (.inl none) M1) (h : d_Unifier_pushReversed_j31 v0 v1 v2 v3 μ Q) : JX 120 31 [jR v0, jI v1, jI v2, jI v3] [] M P := by
  unfold d_Unifier_pushReversed_j31 at h
  refine L_ps c120 (n := 2) (pc1 := 33) (ls1 := [jR v0, jI v1, jI v2, jI v3]) (st1 := [jI 1, jI v2]) rfl ?_
  refine L_nb (p1 := 41) (p2 := 36) (c120 33 rfl) rfl jc_le h (fun h => ?_) (fun h => ?_)
  · refine L_ps c120 (n := 2) (pc1 := 38) (ls1 := [jR v0, jI v1, jI v2, jI v3]) (st1 := [jI v3, jR v0]) rfl ?_
    refine L_cV (c120 38 rfl) (js_v rfl ((Rl_tag hM hv0 (by decide)).trans js106)) hh120 (k_Unifier_push hv0 hM h) (fun M μ12 hM h => ?_) (fun _ _ _ _ f => f.elim)
    exact k_Unifier_pushReversed_j41 hv0 hM hQ h
  · exact k_Unifier_pushReversed_j41 hv0 hM hQ h
theorem k_Unifier_pushReversed {E : JE2} {v0 : Nat} {v1 : Int} {μ : Mem} {M : JM} {Q : Mem → Prop} (hv0 : rt v0 = 9) (hM : Rl E M μ) (h : d_Unifier_pushReversed v0 v1 μ Q) : JX 120 0 (jargs 120 [jR v0, jI v1]) [] M (PO E (QV Q) XN) := by
  unfold d_Unifier_pushReversed at h
  show JX 120 0 [jR v0, jI v1, jU, jU] [] M (PO E (QV Q) XN)
  generalize hP : PO E (QV Q) XN = P
  have hQ : ∀ (M1 : JM) (μ1 : Mem), Rl E M1 μ1 → Q μ1 → P (.inl none) M1 := by rw [← hP]; exact fun M1 μ1 a b => ⟨μ1, a, rfl, b⟩
  clear hP
  refine L_ps c120 (n := 2) (pc1 := 2) (ls1 := [jR v0, jI v1, jU, jU]) (st1 := [jI v1, jR v0]) rfl ?_
  refine L_cpI (c120 2 rfl) (js_v rfl ((Rl_tag hM hv0 (by decide)).trans js109)) hh120 (k_Unifier_label hv0 hM h) (fun r1 M hM h => ?_) (fun _ _ _ _ f => f.elim)
  refine L_cpI (c120 5 rfl) (js_t rfl) hh120 (k_Term_arityOf hM h) (fun r3 M hM h => ?_) (fun _ _ _ _ f => f.elim)
  refine L_ps c120 (n := 5) (pc1 := 13) (ls1 := [jR v0, jI v1, jI r3, jU]) (st1 := [jI (wr (v1 + 1)), jR v0]) rfl ?_
  refine L_cpI (c120 13 rfl) (js_v rfl ((Rl_tag hM hv0 (by decide)).trans js112)) hh120 (k_Unifier_end hv0 hM h) (fun r5 M hM h => ?_) (fun _ _ _ _ f => f.elim)
  refine L_ps c120 (n := 3) (pc1 := 19) (ls1 := [jR v0, jI v1, jI r3, jI r5]) (st1 := [jI 2, jI r3]) rfl ?_
  refine L_nb (p1 := 31) (p2 := 22) (c120 19 rfl) rfl jc_le h (fun h => ?_) (fun h => ?_)
  · refine L_ps c120 (n := 3) (pc1 := 25) (ls1 := [jR v0, jI v1, jI r3, jI r5]) (st1 := [jI r5, jR v0, jR v0]) rfl ?_
    refine L_cpI (c120 25 rfl) (js_v rfl ((Rl_tag hM hv0 (by decide)).trans js112)) hh120 (k_Unifier_end hv0 hM h) (fun r7 M hM h => ?_) (fun _ _ _ _ f => f.elim)
    refine L_cV (c120 28 rfl) (js_v rfl ((Rl_tag hM hv0 (by decide)).trans js106)) hh120 (k_Unifier_push hv0 hM h) (fun M μ10 hM h => ?_) (fun _ _ _ _ f => f.elim)
    exact k_Unifier_pushReversed_j31 hv0 hM hQ h
  · exact k_Unifier_pushReversed_j31 hv0 hM hQ h
theorem k_Unifier_expand_j62 {E : JE2} {v0 : Nat} {μ : Mem} {M : JM} {P : JO → JM → Prop} {g1 : JV} {g2 : JV} {g3 : JV} {g4 : JV} {Q : Bool → Mem → Prop} (hg2 : jc2 g2 = false) (hg3 : jc2 g3 = false) (hv0 : rt v0 = 9) (hM : Rl E M μ) (hQ : ∀ (r : Bool) (M1 : JM) (μ1 : Mem), Rl E M1 μ1 → Q r μ1 → P (.inl (some (.inl (b2i r)))) M1) (h : d_Unifier_expand_j62 v0 μ Q) : JX 119 62 [jR v0, g1, g2, g3, g4] [] M P := by
  unfold d_Unifier_expand_j62 at h
  refine L_ps c119 (n := 1) (pc1 := 63) (ls1 := [jR v0, g1, g2, g3, g4]) (st1 := [jR v0]) rfl ?_
  refine L_getI (c119 63 rfl) hM hv0 rfl ?_
  refine L_nb (p1 := 73) (p2 := 69) (c119 66 rfl) rfl jc_ne h (fun h => ?_) (fun h => ?_)
  · refine L_ps c119 (n := 2) (pc1 := 74) (ls1 := [jR v0, g1, g2, g3, g4]) (st1 := [jI 1]) rfl ?_
    exact L_retB (c119 74 rfl) (Or.inr rfl) (hQ true _ _ hM h)
  · refine L_ps c119 (n := 1) (pc1 := 74) (ls1 := [jR v0, g1, g2, g3, g4]) (st1 := [jI 0]) rfl ?_
    exact L_retB (c119 74 rfl) (Or.inl rfl) (hQ false _ _ hM h)
theorem k_Unifier_expand_b12 {E : JE2} {v0 : Nat} {v2 : Nat} {v3 : Int} {μ : Mem} {M : JM} {P : JO → JM → Prop} {g1 : JV} {g4 : JV} {W12 : Int → Mem → Prop} {Q : Bool → Mem → Prop} (hv0 : rt v0 = 9) (hv2 : rt v2 = 8) (hM : Rl E M μ) (hQ : ∀ (r : Bool) (M1 : JM) (μ1 : Mem), Rl E M1 μ1 → Q r μ1 → P (.inl (some (.inl (b2i r)))) M1) (hW12 : ∀ (v3 : Int) (g1 : JV) (g4 : JV) (M1 : JM) (μ1 : Mem), Rl E M1 μ1 → W12 v3 μ1 → JX 119 12 [jR v0, g1, jR v2, jI v3, g4] [] M1 P) (h : d_Unifier_expand_b12 v0 v2 v3 μ W12 Q) : JX 119 12 [jR v0, g1, jR v2, jI v3, g4] [] M P := by
  unfold d_Unifier_expand_b12 at h
  refine L_ps c119 (n := 2) (pc1 := 15) (ls1 := [jR v0, g1, jR v2, jI v3, g4]) (st1 := [jI 80, jI v3]) rfl ?_
  refine L_br (p1 := 62) (p2 := 18) (c119 15 rfl) rfl jc_gt h (fun h => ?_) (fun h => ?_)
  · exact k_Unifier_expand_j62 rfl rfl hv0 hM hQ h
  · refine L_ps c119 (n := 1) (pc1 := 19) (ls1 := [jR v0, g1, jR v2, jI v3, g4]) (st1 := [jR v0]) rfl ?_
    refine L_getI (c119 19 rfl) hM hv0 rfl ?_
    refine L_nb (p1 := 62) (p2 := 25) (c119 22 rfl) rfl jc_le h (fun h => ?_) (fun h => ?_)
    · refine L_ps c119 (n := 2) (pc1 := 27) (ls1 := [jR v0, g1, jR v2, jI v3, g4]) (st1 := [jR v0, jR v0]) rfl ?_
      refine L_cI (c119 27 rfl) (js_v rfl ((Rl_tag hM hv0 (by decide)).trans js107)) hh119 (k_Unifier_pop hv0 hM h) (fun r3 M μ4 hM h => ?_) (fun _ _ _ _ f => f.elim)
      refine L_cpI (c119 30 rfl) (js_v rfl ((Rl_tag hM hv0 (by decide)).trans js108)) hh119 (k_Unifier_root hv0 hM h) (fun r5 M hM h => ?_) (fun _ _ _ _ f => f.elim)
      refine L_ps c119 (n := 4) (pc1 := 39) (ls1 := [jR v0, g1, jR v2, jI v3, jI r5]) (st1 := [jI r5, jR v0, jR v2]) rfl ?_
      refine L_cpI (c119 39 rfl) (js_v rfl ((Rl_tag hM hv0 (by decide)).trans js109)) hh119 (k_Unifier_label hv0 hM h) (fun r7 M hM h => ?_) (fun _ _ _ _ f => f.elim)
      refine L_cB (c119 42 rfl) (js_v rfl ((Rl_tag hM hv2 (by decide)).trans js50)) hh119 (k_Term_add hv2 hM h) (fun r9 M μ10 hM h => ?_) (fun _ _ _ _ f => f.elim)
      refine L_br (p1 := 50) (p2 := 48) (c119 45 rfl) rfl jc_neb h (fun h => ?_) (fun h => ?_)
      · refine L_ps c119 (n := 2) (pc1 := 53) (ls1 := [jR v0, g1, jR v2, jI v3, jI r5]) (st1 := [jI r5, jR v0]) rfl ?_
        refine L_cV (c119 53 rfl) (js_v rfl ((Rl_tag hM hv0 (by decide)).trans js120)) hh119 (k_Unifier_pushReversed hv0 hM h) (fun M μ12 hM h => ?_) (fun _ _ _ _ f => f.elim)
        refine L_ps c119 (n := 2) (pc1 := 12) (ls1 := [jR v0, g1, jR v2, jI (wr (v3 + 1)), jI r5]) (st1 := []) rfl ?_
        exact hW12 _ _ _ _ _ hM h
      · refine L_ps c119 (n := 1) (pc1 := 49) (ls1 := [jR v0, g1, jR v2, jI v3, jI r5]) (st1 := [jI 0]) rfl ?_
        exact L_retB (c119 49 rfl) (Or.inl rfl) (hQ false _ _ hM h)
    · exact k_Unifier_expand_j62 rfl rfl hv0 hM hQ h
theorem k_Unifier_expand_l12 {E : JE2} {v0 : Nat} {v2 : Nat} {v3 : Int} {μ : Mem} {M : JM} {P : JO → JM → Prop} {g1 : JV} {g4 : JV} {Q : Bool → Mem → Prop} (hv0 : rt v0 = 9) (hv2 : rt v2 = 8) (hM : Rl E M μ) (hQ : ∀ (r : Bool) (M1 : JM) (μ1 : Mem), Rl E M1 μ1 → Q r μ1 → P (.inl (some (.inl (b2i r)))) M1) (h : d_Unifier_expand_l12 v0 v2 v3 μ Q) : JX 119 12 [jR v0, g1, jR v2, jI v3, g4] [] M P := by
  refine h (fun v3 μ => ∀ (g1 : JV) (g4 : JV) (M : JM), Rl E M μ → JX 119 12 [jR v0, g1, jR v2, jI v3, g4] [] M P) ?_ _ _ _ hM
  intro v3 μ h g1 g4 M hM
  exact k_Unifier_expand_b12 hv0 hv2 hM hQ (fun v3 g1 g4 M μ hM h => h g1 g4 M hM) h
theorem k_Unifier_expand {E : JE2} {v0 : Nat} {v1 : Int} {v2 : Nat} {μ : Mem} {M : JM} {Q : Bool → Mem → Prop} (hv0 : rt v0 = 9) (hv2 : rt v2 = 8) (hM : Rl E M μ) (h : d_Unifier_expand v0 v1 v2 μ Q) : JX 119 0 (jargs 119 [jR v0, jI v1, jR v2]) [] M (PO E (QB Q) XN) := by
  unfold d_Unifier_expand at h
  show JX 119 0 [jR v0, jI v1, jR v2, jU, jU] [] M (PO E (QB Q) XN)
  generalize hP : PO E (QB Q) XN = P
  have hQ : ∀ (r : Bool) (M1 : JM) (μ1 : Mem), Rl E M1 μ1 → Q r μ1 → P (.inl (some (.inl (b2i r)))) M1 := by rw [← hP]; exact fun r M1 μ1 a b => ⟨μ1, a, r, rfl, b⟩
  clear hP
  refine L_ps c119 (n := 2) (pc1 := 2) (ls1 := [jR v0, jI v1, jR v2, jU, jU]) (st1 := [jI 0, jR v0]) rfl ?_
  refine L_putI (c119 2 rfl) hM hv0 rfl (fun M hM => ?_)
  refine L_ps c119 (n := 2) (pc1 := 7) (ls1 := [jR v0, jI v1, jR v2, jU, jU]) (st1 := [jI v1, jR v0]) rfl ?_
  refine L_cV (c119 7 rfl) (js_v rfl ((Rl_tag hM hv0 (by decide)).trans js106)) hh119 (k_Unifier_push hv0 hM h) (fun M μ2 hM h => ?_) (fun _ _ _ _ f => f.elim)
  refine L_ps c119 (n := 2) (pc1 := 12) (ls1 := [jR v0, jI v1, jR v2, jI 0, jU]) (st1 := []) rfl ?_
  exact k_Unifier_expand_l12 hv0 hv2 hM hQ h
theorem k_Term_variableOf {E : JE2} {v0 : Int} {μ : Mem} {M : JM} {Q : Int → Prop} (hM : Rl E M μ) (h : d_Term_variableOf v0 μ Q) : JX 122 0 (jargs 122 [jI v0]) [] M (PO E (pQI μ Q) XN) := by
  unfold d_Term_variableOf at h
  show JX 122 0 [jI v0] [] M (PO E (pQI μ Q) XN)
  generalize hP : PO E (pQI μ Q) XN = P
  have hQ : ∀ (r : Int) (M1 : JM), Rl E M1 μ → Q r → P (.inl (some (.inl r))) M1 := by rw [← hP]; exact fun r M1 a b => ⟨μ, a, rfl, r, rfl, b⟩
  clear hP
  refine L_ps c122 (n := 1) (pc1 := 1) (ls1 := [jI v0]) (st1 := [jI v0]) rfl ?_
  refine L_nb (p1 := 10) (p2 := 4) (c122 1 rfl) rfl jc_ge h (fun h => ?_) (fun h => ?_)
  · refine L_ps c122 (n := 4) (pc1 := 11) (ls1 := [jI v0]) (st1 := [jI (wr ((-1) - v0))]) rfl ?_
    exact L_retI (c122 11 rfl) (hQ _ _ hM h)
  · refine L_ps c122 (n := 1) (pc1 := 11) (ls1 := [jI v0]) (st1 := [jI (-1)]) rfl ?_
    exact L_retI (c122 11 rfl) (hQ _ _ hM h)
theorem k_Term_set {E : JE2} {v0 : Nat} {v1 : Int} {v2 : Int} {μ : Mem} {M : JM} {Q : Mem → Prop} (hv0 : rt v0 = 8) (hM : Rl E M μ) (h : d_Term_set v0 v1 v2 μ Q) : JX 123 0 (jargs 123 [jR v0, jI v1, jI v2]) [] M (PO E (QV Q) XN) := by
  unfold d_Term_set at h
  show JX 123 0 [jR v0, jI v1, jI v2] [] M (PO E (QV Q) XN)
  generalize hP : PO E (QV Q) XN = P
  have hQ : ∀ (M1 : JM) (μ1 : Mem), Rl E M1 μ1 → Q μ1 → P (.inl none) M1 := by rw [← hP]; exact fun M1 μ1 a b => ⟨μ1, a, rfl, b⟩
  clear hP
  refine L_ps c123 (n := 1) (pc1 := 1) (ls1 := [jR v0, jI v1, jI v2]) (st1 := [jI v1]) rfl ?_
  refine L_br (p1 := 28) (p2 := 4) (c123 1 rfl) rfl jc_lt h (fun h => ?_) (fun h => ?_)
  · exact L_end (c123 28 rfl) rfl (hQ _ _ hM h)
  · refine L_ps c123 (n := 2) (pc1 := 6) (ls1 := [jR v0, jI v1, jI v2]) (st1 := [jR v0, jI v1]) rfl ?_
    refine L_getI (c123 6 rfl) hM hv0 rfl ?_
    refine L_nb (p1 := 28) (p2 := 12) (c123 9 rfl) rfl jc_ge h (fun h => ?_) (fun h => ?_)
    · refine L_ps c123 (n := 2) (pc1 := 14) (ls1 := [jR v0, jI v1, jI v2]) (st1 := [jR v0, jI v1]) rfl ?_
      refine L_getP (d := 1) (c123 14 rfl) hM hv0 rfl ?_
      refine L_alen (n := ln (v0 + 1)) (z := (ln (v0 + 1) : Int)) (c123 17 rfl) hM (rp_8_1 hv0) (by decide) rfl (ln_small _) rfl ?_
      refine L_nb (p1 := 28) (p2 := 21) (c123 18 rfl) rfl jc_ge h (fun h => ?_) (fun h => ?_)
      · refine L_ps c123 (n := 1) (pc1 := 22) (ls1 := [jR v0, jI v1, jI v2]) (st1 := [jR v0]) rfl ?_
        refine L_getP (d := 1) (c123 22 rfl) hM hv0 rfl ?_
        refine L_ps c123 (n := 2) (pc1 := 27) (ls1 := [jR v0, jI v1, jI v2]) (st1 := [jI v2, jI v1, jR (v0 + 1)]) rfl ?_
        obtain ⟨hb, h⟩ := h
        refine L_iast (c123 27 rfl) hM (rp_8_1 hv0) rfl hb (fun M hM => ?_)
        exact L_end (c123 28 rfl) rfl (hQ _ _ hM h)
      · exact L_end (c123 28 rfl) rfl (hQ _ _ hM h)
    · exact L_end (c123 28 rfl) rfl (hQ _ _ hM h)
theorem k_PairList_nameVariables_j78 {E : JE2} {v1 : Nat} {v3 : Int} {v4 : Int} {μ : Mem} {M : JM} {P : JO → JM → Prop} {g2 : JV} {g5 : JV} {W5 : Int → Int → Mem → Prop} {Q : Int → Mem → Prop} (hg2 : jc2 g2 = false) (hv1 : rt v1 = 8) (hM : Rl E M μ) (hQ : ∀ (r : Int) (M1 : JM) (μ1 : Mem), Rl E M1 μ1 → Q r μ1 → P (.inl (some (.inl r))) M1) (hW5 : ∀ (v3 : Int) (v4 : Int) (g2 : JV) (g5 : JV) (M1 : JM) (μ1 : Mem), jc2 g2 = false → Rl E M1 μ1 → W5 v3 v4 μ1 → JX 121 5 [jR 139, jR v1, g2, jI v3, jI v4, g5] [] M1 P) (h : d_PairList_nameVariables_j78 v1 v3 v4 μ W5 Q) : JX 121 78 [jR 139, jR v1, g2, jI v3, jI v4, g5] [] M P := by
  unfold d_PairList_nameVariables_j78 at h
  refine L_ps c121 (n := 2) (pc1 := 5) (ls1 := [jR 139, jR v1, g2, jI v3, jI (wr (v4 + 1)), g5]) (st1 := []) rfl ?_
  exact hW5 _ _ _ _ _ _ hg2 hM h
theorem k_PairList_nameVariables_j62 {E : JE2} {v1 : Nat} {v3 : Int} {v4 : Int} {v5 : Int} {μ : Mem} {M : JM} {P : JO → JM → Prop} {g2 : JV} {W5 : Int → Int → Mem → Prop} {Q : Int → Mem → Prop} (hg2 : jc2 g2 = false) (hv1 : rt v1 = 8) (hM : Rl E M μ) (hQ : ∀ (r : Int) (M1 : JM) (μ1 : Mem), Rl E M1 μ1 → Q r μ1 → P (.inl (some (.inl r))) M1) (hW5 : ∀ (v3 : Int) (v4 : Int) (g2 : JV) (g5 : JV) (M1 : JM) (μ1 : Mem), jc2 g2 = false → Rl E M1 μ1 → W5 v3 v4 μ1 → JX 121 5 [jR 139, jR v1, g2, jI v3, jI v4, g5] [] M1 P) (h : d_PairList_nameVariables_j62 v1 v3 v4 v5 μ W5 Q) : JX 121 62 [jR 139, jR v1, g2, jI v3, jI v4, jI v5] [] M P := by
  unfold d_PairList_nameVariables_j62 at h
  refine L_ps c121 (n := 3) (pc1 := 66) (ls1 := [jR 139, jR v1, g2, jI v3, jI v4, jI v5]) (st1 := [jR 139, jI v4, jR v1]) rfl ?_
  refine L_getP (d := 24) (c121 66 rfl) hM rt139 rfl ?_
  refine L_ps c121 (n := 1) (pc1 := 71) (ls1 := [jR 139, jR v1, g2, jI v3, jI v4, jI v5]) (st1 := [jI v5, jR 163, jI v4, jR v1]) rfl ?_
  obtain ⟨hb, h⟩ := h
  refine L_iald (c121 71 rfl) hM rt163 ln163 hb ?_
  refine L_cpI (c121 72 rfl) (js_t rfl) hh121 (k_Term_variableNode hM h) (fun r5 M hM h => ?_) (fun _ _ _ _ f => f.elim)
  refine L_cV (c121 75 rfl) (js_v rfl ((Rl_tag hM hv1 (by decide)).trans js123)) hh121 (k_Term_set hv1 hM h) (fun M μ8 hM h => ?_) (fun _ _ _ _ f => f.elim)
  exact k_PairList_nameVariables_j78 hg2 hv1 hM hQ hW5 h
theorem k_PairList_nameVariables_b5 {E : JE2} {v1 : Nat} {v3 : Int} {v4 : Int} {μ : Mem} {M : JM} {P : JO → JM → Prop} {g2 : JV} {g5 : JV} {W5 : Int → Int → Mem → Prop} {Q : Int → Mem → Prop} (hg2 : jc2 g2 = false) (hv1 : rt v1 = 8) (hM : Rl E M μ) (hQ : ∀ (r : Int) (M1 : JM) (μ1 : Mem), Rl E M1 μ1 → Q r μ1 → P (.inl (some (.inl r))) M1) (hW5 : ∀ (v3 : Int) (v4 : Int) (g2 : JV) (g5 : JV) (M1 : JM) (μ1 : Mem), jc2 g2 = false → Rl E M1 μ1 → W5 v3 v4 μ1 → JX 121 5 [jR 139, jR v1, g2, jI v3, jI v4, g5] [] M1 P) (h : d_PairList_nameVariables_b5 v1 v3 v4 μ W5 Q) : JX 121 5 [jR 139, jR v1, g2, jI v3, jI v4, g5] [] M P := by
  unfold d_PairList_nameVariables_b5 at h
  refine L_ps c121 (n := 2) (pc1 := 8) (ls1 := [jR 139, jR v1, g2, jI v3, jI v4, g5]) (st1 := [jR v1, jI v4]) rfl ?_
  refine L_getI (c121 8 rfl) hM hv1 rfl ?_
  refine L_nb (p1 := 84) (p2 := 14) (c121 11 rfl) rfl jc_ge h (fun h => ?_) (fun h => ?_)
  · refine L_ps c121 (n := 2) (pc1 := 17) (ls1 := [jR 139, jR v1, g2, jI v3, jI v4, g5]) (st1 := [jI v4, jR v1]) rfl ?_
    refine L_cpI (c121 17 rfl) (js_v rfl ((Rl_tag hM hv1 (by decide)).trans js46)) hh121 (k_Term_get hv1 hM h) (fun r1 M hM h => ?_) (fun _ _ _ _ f => f.elim)
    refine L_cpI (c121 20 rfl) (js_t rfl) hh121 (k_Term_variableOf hM h) (fun r3 M hM h => ?_) (fun _ _ _ _ f => f.elim)
    refine L_ps c121 (n := 2) (pc1 := 27) (ls1 := [jR 139, jR v1, g2, jI v3, jI v4, jI r3]) (st1 := [jI r3]) rfl ?_
    refine L_br (p1 := 78) (p2 := 30) (c121 27 rfl) rfl jc_lt h (fun h => ?_) (fun h => ?_)
    · exact k_PairList_nameVariables_j78 hg2 hv1 hM hQ hW5 h
    · refine L_ps c121 (n := 2) (pc1 := 33) (ls1 := [jR 139, jR v1, g2, jI v3, jI v4, jI r3]) (st1 := [jR 139, jI r3]) rfl ?_
      refine L_getP (d := 24) (c121 33 rfl) hM rt139 rfl ?_
      refine L_alen (n := 16) (z := 16) (c121 36 rfl) hM rt163 (by decide) ln163 (by decide) rfl ?_
      refine L_nb (p1 := 78) (p2 := 40) (c121 37 rfl) rfl jc_ge h (fun h => ?_) (fun h => ?_)
      · refine L_ps c121 (n := 1) (pc1 := 41) (ls1 := [jR 139, jR v1, g2, jI v3, jI v4, jI r3]) (st1 := [jR 139]) rfl ?_
        refine L_getP (d := 24) (c121 41 rfl) hM rt139 rfl ?_
        refine L_ps c121 (n := 1) (pc1 := 46) (ls1 := [jR 139, jR v1, g2, jI v3, jI v4, jI r3]) (st1 := [jI r3, jR 163]) rfl ?_
        obtain ⟨hb, h⟩ := h
        refine L_iald (c121 46 rfl) hM rt163 ln163 hb ?_
        refine L_ps c121 (n := 1) (pc1 := 48) (ls1 := [jR 139, jR v1, g2, jI v3, jI v4, jI r3]) (st1 := [jI (-1), jI (μ 163 r3.toNat)]) rfl ?_
        refine L_nb (p1 := 62) (p2 := 51) (c121 48 rfl) rfl jc_ne h (fun h => ?_) (fun h => ?_)
        · refine L_ps c121 (n := 1) (pc1 := 52) (ls1 := [jR 139, jR v1, g2, jI v3, jI v4, jI r3]) (st1 := [jR 139]) rfl ?_
          refine L_getP (d := 24) (c121 52 rfl) hM rt139 rfl ?_
          refine L_ps c121 (n := 2) (pc1 := 58) (ls1 := [jR 139, jR v1, g2, jI v3, jI v4, jI r3]) (st1 := [jI v3, jI r3, jR 163]) rfl ?_
          obtain ⟨hb, h⟩ := h
          refine L_iast (c121 58 rfl) hM rt163 ln163 hb (fun M hM => ?_)
          refine L_iinc (c121 59 rfl) (hg2) (Nat.le_of_ble_eq_true rfl) rfl ?_
          show JX 121 62 [jR 139, jR v1, g2, jI (wr (v3 + 1)), jI v4, jI r3] [] M P
          exact k_PairList_nameVariables_j62 hg2 hv1 hM hQ hW5 h
        · exact k_PairList_nameVariables_j62 hg2 hv1 hM hQ hW5 h
      · exact k_PairList_nameVariables_j78 hg2 hv1 hM hQ hW5 h
  · refine L_ps c121 (n := 1) (pc1 := 85) (ls1 := [jR 139, jR v1, g2, jI v3, jI v4, g5]) (st1 := [jI v3]) rfl ?_
    exact L_retI (c121 85 rfl) (hQ _ _ _ hM h)
theorem k_PairList_nameVariables_l5 {E : JE2} {v1 : Nat} {v3 : Int} {v4 : Int} {μ : Mem} {M : JM} {P : JO → JM → Prop} {g2 : JV} {g5 : JV} {Q : Int → Mem → Prop} (hg2 : jc2 g2 = false) (hv1 : rt v1 = 8) (hM : Rl E M μ) (hQ : ∀ (r : Int) (M1 : JM) (μ1 : Mem), Rl E M1 μ1 → Q r μ1 → P (.inl (some (.inl r))) M1) (h : d_PairList_nameVariables_l5 v1 v3 v4 μ Q) : JX 121 5 [jR 139, jR v1, g2, jI v3, jI v4, g5] [] M P := by
  refine h (fun v3 v4 μ => ∀ (g2 : JV) (g5 : JV) (M : JM), jc2 g2 = false → Rl E M μ → JX 121 5 [jR 139, jR v1, g2, jI v3, jI v4, g5] [] M P) ?_ _ _ _ hg2 hM
  intro v3 v4 μ h g2 g5 M hg2 hM
  exact k_PairList_nameVariables_b5 hg2 hv1 hM hQ (fun v3 v4 g2 g5 M μ hg2 hM h => h g2 g5 M hg2 hM) h
theorem k_PairList_nameVariables {E : JE2} {v1 : Nat} {v2 : Int} {μ : Mem} {M : JM} {Q : Int → Mem → Prop} (hv1 : rt v1 = 8) (hM : Rl E M μ) (h : d_PairList_nameVariables v1 v2 μ Q) : JX 121 0 (jargs 121 [jR 139, jR v1, jI v2]) [] M (PO E (QI Q) XN) := by
  unfold d_PairList_nameVariables at h
  show JX 121 0 [jR 139, jR v1, jI v2, jU, jU, jU] [] M (PO E (QI Q) XN)
  generalize hP : PO E (QI Q) XN = P
  have hQ : ∀ (r : Int) (M1 : JM) (μ1 : Mem), Rl E M1 μ1 → Q r μ1 → P (.inl (some (.inl r))) M1 := by rw [← hP]; exact fun r M1 μ1 a b => ⟨μ1, a, r, rfl, b⟩
  clear hP
  refine L_ps c121 (n := 4) (pc1 := 5) (ls1 := [jR 139, jR v1, jI v2, jI v2, jI 0, jU]) (st1 := []) rfl ?_
  exact k_PairList_nameVariables_l5 rfl hv1 hM hQ h
theorem k_PairList_buildPair_j234 {E : JE2} {v8 : Nat} {v9 : Nat} {v10 : Int} {μ : Mem} {M : JM} {P : JO → JM → Prop} {g1 : JV} {g2 : JV} {g3 : JV} {g4 : JV} {g5 : JV} {g6 : JV} {g7 : JV} {g11 : JV} {g12 : JV} {Q : Bool → Mem → Prop} (hg3 : jc2 g3 = false) (hg4 : jc2 g4 = false) (hg5 : jc2 g5 = false) (hg6 : jc2 g6 = false) (hg7 : jc2 g7 = false) (hg11 : jc2 g11 = false) (hv8 : rt v8 = 8) (hv9 : rt v9 = 8) (hM : Rl E M μ) (hQ : ∀ (r : Bool) (M1 : JM) (μ1 : Mem), Rl E M1 μ1 → Q r μ1 → P (.inl (some (.inl (b2i r)))) M1) (h : d_PairList_buildPair_j234 v8 v9 v10 μ Q) : JX 100 234 [jR 139, g1, g2, g3, g4, g5, g6, g7, jR v8, jR v9, jI v10, g11, g12] [] M P := by
  unfold d_PairList_buildPair_j234 at h
  refine L_ps c100 (n := 1) (pc1 := 235) (ls1 := [jR 139, g1, g2, g3, g4, g5, g6, g7, jR v8, jR v9, jI v10, g11, g12]) (st1 := [jR 139]) rfl ?_
  refine L_getP (d := 24) (c100 235 rfl) hM rt139 rfl ?_
  refine L_ps c100 (n := 1) (pc1 := 239) (ls1 := [jR 139, g1, g2, g3, g4, g5, g6, g7, jR v8, jR v9, jI v10, g11, g12]) (st1 := [jI (-1), jR 163]) rfl ?_
  refine L_cV (c100 239 rfl) (js_t rfl) hh100 (k_Arrays_fill rt163 hM h) (fun M μ24 hM h => ?_) (fun _ _ _ _ f => f.elim)
  refine L_ps c100 (n := 1) (pc1 := 244) (ls1 := [jR 139, g1, g2, g3, g4, g5, g6, g7, jR v8, jR v9, jI v10, g11, g12]) (st1 := [jI v10]) rfl ?_
  refine L_br (p1 := 267) (p2 := 247) (c100 244 rfl) rfl jc_eq h (fun h => ?_) (fun h => ?_)
  · refine L_ps c100 (n := 1) (pc1 := 268) (ls1 := [jR 139, g1, g2, g3, g4, g5, g6, g7, jR v8, jR v9, jI v10, g11, g12]) (st1 := [jI 0]) rfl ?_
    exact L_retB (c100 268 rfl) (Or.inl rfl) (hQ false _ _ hM h)
  · refine L_ps c100 (n := 5) (pc1 := 254) (ls1 := [jR 139, g1, g2, g3, g4, g5, g6, g7, jR v8, jR v9, jI v10, g11, g12]) (st1 := [jI 0, jR v8, jR 139, jR v9, jR 139]) rfl ?_
    refine L_cI (c100 254 rfl) (js_v rfl ((Rl_tag hM rt139 (by decide)).trans js121)) hh100 (k_PairList_nameVariables hv8 hM h) (fun r25 M μ26 hM h => ?_) (fun _ _ _ _ f => f.elim)
    refine L_cI (c100 257 rfl) (js_v rfl ((Rl_tag hM rt139 (by decide)).trans js121)) hh100 (k_PairList_nameVariables hv9 hM h) (fun r27 M μ28 hM h => ?_) (fun _ _ _ _ f => f.elim)
    refine L_br (p1 := 267) (p2 := 263) (c100 260 rfl) rfl jc_lt h (fun h => ?_) (fun h => ?_)
    · refine L_ps c100 (n := 1) (pc1 := 268) (ls1 := [jR 139, g1, g2, g3, g4, g5, g6, g7, jR v8, jR v9, jI v10, g11, g12]) (st1 := [jI 0]) rfl ?_
      exact L_retB (c100 268 rfl) (Or.inl rfl) (hQ false _ _ hM h)
    · refine L_ps c100 (n := 2) (pc1 := 268) (ls1 := [jR 139, g1, g2, g3, g4, g5, g6, g7, jR v8, jR v9, jI v10, g11, g12]) (st1 := [jI 1]) rfl ?_
      exact L_retB (c100 268 rfl) (Or.inr rfl) (hQ true _ _ hM h)
theorem k_PairList_buildPair_j228 {E : JE2} {v1 : Nat} {v3 : Int} {v4 : Int} {v7 : Int} {v8 : Nat} {v9 : Nat} {v10 : Int} {v11 : Int} {μ : Mem} {M : JM} {P : JO → JM → Prop} {g2 : JV} {g5 : JV} {g6 : JV} {g12 : JV} {W129 : Int → Int → Mem → Prop} {Q : Bool → Mem → Prop} (hg5 : jc2 g5 = false) (hg6 : jc2 g6 = false) (hv1 : rt v1 = 5) (hv8 : rt v8 = 8) (hv9 : rt v9 = 8) (hM : Rl E M μ) (hQ : ∀ (r : Bool) (M1 : JM) (μ1 : Mem), Rl E M1 μ1 → Q r μ1 → P (.inl (some (.inl (b2i r)))) M1) (hW129 : ∀ (v10 : Int) (v11 : Int) (g2 : JV) (g5 : JV) (g6 : JV) (g12 : JV) (M1 : JM) (μ1 : Mem), jc2 g5 = false → jc2 g6 = false → Rl E M1 μ1 → W129 v10 v11 μ1 → JX 100 129 [jR 139, jR v1, g2, jI v3, jI v4, g5, g6, jI v7, jR v8, jR v9, jI v10, jI v11, g12] [] M1 P) (h : d_PairList_buildPair_j228 v1 v3 v4 v7 v8 v9 v10 v11 μ W129 Q) : JX 100 228 [jR 139, jR v1, g2, jI v3, jI v4, g5, g6, jI v7, jR v8, jR v9, jI v10, jI v11, g12] [] M P := by
  unfold d_PairList_buildPair_j228 at h
  refine L_ps c100 (n := 2) (pc1 := 129) (ls1 := [jR 139, jR v1, g2, jI v3, jI v4, g5, g6, jI v7, jR v8, jR v9, jI v10, jI (wr (v11 + 1)), g12]) (st1 := []) rfl ?_
  exact hW129 _ _ _ _ _ _ _ _ hg5 hg6 hM h
theorem k_PairList_buildPair_j226 {E : JE2} {v1 : Nat} {v3 : Int} {v4 : Int} {v7 : Int} {v8 : Nat} {v9 : Nat} {v11 : Int} {t0 : Int} {μ : Mem} {M : JM} {P : JO → JM → Prop} {g2 : JV} {g5 : JV} {g6 : JV} {g10 : JV} {g12 : JV} {W129 : Int → Int → Mem → Prop} {Q : Bool → Mem → Prop} (hg5 : jc2 g5 = false) (hg6 : jc2 g6 = false) (hg10 : jc2 g10 = false) (hv1 : rt v1 = 5) (hv8 : rt v8 = 8) (hv9 : rt v9 = 8) (hM : Rl E M μ) (hQ : ∀ (r : Bool) (M1 : JM) (μ1 : Mem), Rl E M1 μ1 → Q r μ1 → P (.inl (some (.inl (b2i r)))) M1) (hW129 : ∀ (v10 : Int) (v11 : Int) (g2 : JV) (g5 : JV) (g6 : JV) (g12 : JV) (M1 : JM) (μ1 : Mem), jc2 g5 = false → jc2 g6 = false → Rl E M1 μ1 → W129 v10 v11 μ1 → JX 100 129 [jR 139, jR v1, g2, jI v3, jI v4, g5, g6, jI v7, jR v8, jR v9, jI v10, jI v11, g12] [] M1 P) (h : d_PairList_buildPair_j226 v1 v3 v4 v7 v8 v9 v11 t0 μ W129 Q) : JX 100 226 [jR 139, jR v1, g2, jI v3, jI v4, g5, g6, jI v7, jR v8, jR v9, g10, jI v11, g12] [jI t0] M P := by
  unfold d_PairList_buildPair_j226 at h
  refine L_ps c100 (n := 1) (pc1 := 228) (ls1 := [jR 139, jR v1, g2, jI v3, jI v4, g5, g6, jI v7, jR v8, jR v9, jI t0, jI v11, g12]) (st1 := []) rfl ?_
  exact k_PairList_buildPair_j228 hg5 hg6 hv1 hv8 hv9 hM hQ hW129 h
theorem k_PairList_buildPair_b129 {E : JE2} {v1 : Nat} {v3 : Int} {v4 : Int} {v7 : Int} {v8 : Nat} {v9 : Nat} {v10 : Int} {v11 : Int} {μ : Mem} {M : JM} {P : JO → JM → Prop} {g2 : JV} {g5 : JV} {g6 : JV} {g12 : JV} {W129 : Int → Int → Mem → Prop} {Q : Bool → Mem → Prop} (hg5 : jc2 g5 = false) (hg6 : jc2 g6 = false) (hv1 : rt v1 = 5) (hv8 : rt v8 = 8) (hv9 : rt v9 = 8) (hM : Rl E M μ) (hQ : ∀ (r : Bool) (M1 : JM) (μ1 : Mem), Rl E M1 μ1 → Q r μ1 → P (.inl (some (.inl (b2i r)))) M1) (hW129 : ∀ (v10 : Int) (v11 : Int) (g2 : JV) (g5 : JV) (g6 : JV) (g12 : JV) (M1 : JM) (μ1 : Mem), jc2 g5 = false → jc2 g6 = false → Rl E M1 μ1 → W129 v10 v11 μ1 → JX 100 129 [jR 139, jR v1, g2, jI v3, jI v4, g5, g6, jI v7, jR v8, jR v9, jI v10, jI v11, g12] [] M1 P) (h : d_PairList_buildPair_b129 v1 v3 v4 v7 v8 v9 v10 v11 μ W129 Q) : JX 100 129 [jR 139, jR v1, g2, jI v3, jI v4, g5, g6, jI v7, jR v8, jR v9, jI v10, jI v11, g12] [] M P := by
  unfold d_PairList_buildPair_b129 at h
  refine L_ps c100 (n := 1) (pc1 := 131) (ls1 := [jR 139, jR v1, g2, jI v3, jI v4, g5, g6, jI v7, jR v8, jR v9, jI v10, jI v11, g12]) (st1 := [jI v10]) rfl ?_
  refine L_br (p1 := 234) (p2 := 134) (c100 131 rfl) rfl jc_eq h (fun h => ?_) (fun h => ?_)
  · exact k_PairList_buildPair_j234 rfl rfl hg5 hg6 rfl rfl hv8 hv9 hM hQ h
  · refine L_ps c100 (n := 2) (pc1 := 137) (ls1 := [jR 139, jR v1, g2, jI v3, jI v4, g5, g6, jI v7, jR v8, jR v9, jI v10, jI v11, g12]) (st1 := [jR v1, jI v11]) rfl ?_
    refine L_getD (c100 137 rfl) hM hv1 (by decide) ?_
    refine L_getI (c100 140 rfl) hM (dp_rt _) rfl ?_
    refine L_nb (p1 := 234) (p2 := 146) (c100 143 rfl) rfl jc_ge h (fun h => ?_) (fun h => ?_)
    · refine L_ps c100 (n := 2) (pc1 := 149) (ls1 := [jR 139, jR v1, g2, jI v3, jI v4, g5, g6, jI v7, jR v8, jR v9, jI v10, jI v11, g12]) (st1 := [jI v3, jI v11]) rfl ?_
      refine L_nb (p1 := 186) (p2 := 152) (c100 149 rfl) rfl jc_ne h (fun h => ?_) (fun h => ?_)
      · refine L_ps c100 (n := 1) (pc1 := 153) (ls1 := [jR 139, jR v1, g2, jI v3, jI v4, g5, g6, jI v7, jR v8, jR v9, jI v10, jI v11, g12]) (st1 := [jR 139]) rfl ?_
        refine L_getP (d := 1) (c100 153 rfl) hM rt139 rfl ?_
        refine L_ps c100 (n := 2) (pc1 := 160) (ls1 := [jR 139, jR v1, g2, jI v3, jI v4, g5, g6, jI v7, jR v8, jR v9, jI v10, jI v11, g12]) (st1 := [jR v9, jI v7, jR 140]) rfl ?_
        refine L_cB (c100 160 rfl) (js_v rfl ((Rl_tag hM rt140 (by decide)).trans js119)) hh100 (k_Unifier_expand rt140 hv9 hM h) (fun r29 M μ30 hM h => ?_) (fun _ _ _ _ f => f.elim)
        refine L_ps c100 (n := 3) (pc1 := 168) (ls1 := [jR 139, jR v1, g2, jI v3, jI v4, g5, g6, jI v7, jR v8, jR v9, jI (b2i r29), jI v11, g12]) (st1 := [jR v1, jI v11]) rfl ?_
        refine L_getD (c100 168 rfl) hM hv1 (by decide) ?_
        refine L_ps c100 (n := 1) (pc1 := 173) (ls1 := [jR 139, jR v1, g2, jI v3, jI v4, g5, g6, jI v7, jR v8, jR v9, jI (b2i r29), jI v11, g12]) (st1 := [jI v11, jR (dp (μ30 v1 0)), jI v11]) rfl ?_
        refine L_cpI (c100 173 rfl) (js_v rfl ((Rl_tag hM (dp_rt _) (by decide)).trans js68)) hh100 (k_Term_end (dp_rt _) hM h) (fun r31 M hM h => ?_) (fun _ _ _ _ f => f.elim)
        refine L_ps c100 (n := 2) (pc1 := 178) (ls1 := [jR 139, jR v1, g2, jI v3, jI v4, g5, g6, jI v7, jR v8, jR v9, jI (b2i r29), jI v11, g12]) (st1 := [jI (wr (r31 - 1)), jI v11]) rfl ?_
        refine L_cpI (c100 178 rfl) (js_t rfl) hh100 (k_Math_max hM h) (fun r33 M hM h => ?_) (fun _ _ _ _ f => f.elim)
        refine L_ps c100 (n := 2) (pc1 := 228) (ls1 := [jR 139, jR v1, g2, jI v3, jI v4, g5, g6, jI v7, jR v8, jR v9, jI (b2i r29), jI r33, g12]) (st1 := []) rfl ?_
        exact k_PairList_buildPair_j228 hg5 hg6 hv1 hv8 hv9 hM hQ hW129 h
      · refine L_ps c100 (n := 1) (pc1 := 187) (ls1 := [jR 139, jR v1, g2, jI v3, jI v4, g5, g6, jI v7, jR v8, jR v9, jI v10, jI v11, g12]) (st1 := [jR v1]) rfl ?_
        refine L_getD (c100 187 rfl) hM hv1 (by decide) ?_
        refine L_ps c100 (n := 1) (pc1 := 192) (ls1 := [jR 139, jR v1, g2, jI v3, jI v4, g5, g6, jI v7, jR v8, jR v9, jI v10, jI v11, g12]) (st1 := [jI v11, jR (dp (μ v1 0))]) rfl ?_
        refine L_cpI (c100 192 rfl) (js_v rfl ((Rl_tag hM (dp_rt _) (by decide)).trans js46)) hh100 (k_Term_get (dp_rt _) hM h) (fun r35 M hM h => ?_) (fun _ _ _ _ f => f.elim)
        refine L_ps c100 (n := 2) (pc1 := 199) (ls1 := [jR 139, jR v1, g2, jI v3, jI v4, g5, g6, jI v7, jR v8, jR v9, jI v10, jI v11, jI r35]) (st1 := [jI r35]) rfl ?_
        refine L_nb (p1 := 219) (p2 := 202) (c100 199 rfl) rfl jc_ge h (fun h => ?_) (fun h => ?_)
        · refine L_ps c100 (n := 1) (pc1 := 203) (ls1 := [jR 139, jR v1, g2, jI v3, jI v4, g5, g6, jI v7, jR v8, jR v9, jI v10, jI v11, jI r35]) (st1 := [jR 139]) rfl ?_
          refine L_getP (d := 1) (c100 203 rfl) hM rt139 rfl ?_
          refine L_ps c100 (n := 4) (pc1 := 213) (ls1 := [jR 139, jR v1, g2, jI v3, jI v4, g5, g6, jI v7, jR v8, jR v9, jI v10, jI v11, jI r35]) (st1 := [jR v9, jI (wr (v4 + v11)), jR 140]) rfl ?_
          refine L_cB (c100 213 rfl) (js_v rfl ((Rl_tag hM rt140 (by decide)).trans js119)) hh100 (k_Unifier_expand rt140 hv9 hM h) (fun r37 M μ38 hM h => ?_) (fun _ _ _ _ f => f.elim)
          refine L_ps c100 (n := 1) (pc1 := 226) (ls1 := [jR 139, jR v1, g2, jI v3, jI v4, g5, g6, jI v7, jR v8, jR v9, jI v10, jI v11, jI r35]) (st1 := [jI (b2i r37)]) rfl ?_
          exact k_PairList_buildPair_j226 hg5 hg6 rfl hv1 hv8 hv9 hM hQ hW129 h
        · refine L_ps c100 (n := 2) (pc1 := 223) (ls1 := [jR 139, jR v1, g2, jI v3, jI v4, g5, g6, jI v7, jR v8, jR v9, jI v10, jI v11, jI r35]) (st1 := [jI r35, jR v9]) rfl ?_
          refine L_cB (c100 223 rfl) (js_v rfl ((Rl_tag hM hv9 (by decide)).trans js50)) hh100 (k_Term_add hv9 hM h) (fun r39 M μ40 hM h => ?_) (fun _ _ _ _ f => f.elim)
          exact k_PairList_buildPair_j226 hg5 hg6 rfl hv1 hv8 hv9 hM hQ hW129 h
    · exact k_PairList_buildPair_j234 rfl rfl hg5 hg6 rfl rfl hv8 hv9 hM hQ h
theorem k_PairList_buildPair_l129 {E : JE2} {v1 : Nat} {v3 : Int} {v4 : Int} {v7 : Int} {v8 : Nat} {v9 : Nat} {v10 : Int} {v11 : Int} {μ : Mem} {M : JM} {P : JO → JM → Prop} {g2 : JV} {g5 : JV} {g6 : JV} {g12 : JV} {Q : Bool → Mem → Prop} (hg5 : jc2 g5 = false) (hg6 : jc2 g6 = false) (hv1 : rt v1 = 5) (hv8 : rt v8 = 8) (hv9 : rt v9 = 8) (hM : Rl E M μ) (hQ : ∀ (r : Bool) (M1 : JM) (μ1 : Mem), Rl E M1 μ1 → Q r μ1 → P (.inl (some (.inl (b2i r)))) M1) (h : d_PairList_buildPair_l129 v1 v3 v4 v7 v8 v9 v10 v11 μ Q) : JX 100 129 [jR 139, jR v1, g2, jI v3, jI v4, g5, g6, jI v7, jR v8, jR v9, jI v10, jI v11, g12] [] M P := by
  refine h (fun v10 v11 μ => ∀ (g2 : JV) (g5 : JV) (g6 : JV) (g12 : JV) (M : JM), jc2 g5 = false → jc2 g6 = false → Rl E M μ → JX 100 129 [jR 139, jR v1, g2, jI v3, jI v4, g5, g6, jI v7, jR v8, jR v9, jI v10, jI v11, g12] [] M P) ?_ _ _ _ _ _ hg5 hg6 hM
  intro v10 v11 μ h g2 g5 g6 g12 M hg5 hg6 hM
  exact k_PairList_buildPair_b129 hg5 hg6 hv1 hv8 hv9 hM hQ (fun v10 v11 g2 g5 g6 g12 M μ hg5 hg6 hM h => h g2 g5 g6 g12 M hg5 hg6 hM) h
theorem k_PairList_buildPair {E : JE2} {v1 : Nat} {v2 : Nat} {v3 : Int} {μ : Mem} {M : JM} {Q : Bool → Mem → Prop} (hv1 : rt v1 = 5) (hv2 : rt v2 = 5) (hM : Rl E M μ) (h : d_PairList_buildPair v1 v2 v3 μ Q) : JX 100 0 (jargs 100 [jR 139, jR v1, jR v2, jI v3]) [] M (PO E (QB Q) XN) := by
  unfold d_PairList_buildPair at h
  show JX 100 0 [jR 139, jR v1, jR v2, jI v3, jU, jU, jU, jU, jU, jU, jU, jU, jU] [] M (PO E (QB Q) XN)
  generalize hP : PO E (QB Q) XN = P
  have hQ : ∀ (r : Bool) (M1 : JM) (μ1 : Mem), Rl E M1 μ1 → Q r μ1 → P (.inl (some (.inl (b2i r)))) M1 := by rw [← hP]; exact fun r M1 μ1 a b => ⟨μ1, a, r, rfl, b⟩
  clear hP
  refine L_ps c100 (n := 1) (pc1 := 1) (ls1 := [jR 139, jR v1, jR v2, jI v3, jU, jU, jU, jU, jU, jU, jU, jU, jU]) (st1 := [jR 139]) rfl ?_
  refine L_getP (d := 1) (c100 1 rfl) hM rt139 rfl ?_
  refine L_cV (c100 4 rfl) (js_v rfl ((Rl_tag hM rt140 (by decide)).trans js101)) hh100 (k_Unifier_clear rt140 hM h) (fun M μ2 hM h => ?_) (fun _ _ _ _ f => f.elim)
  refine L_ps c100 (n := 1) (pc1 := 8) (ls1 := [jR 139, jR v1, jR v2, jI v3, jU, jU, jU, jU, jU, jU, jU, jU, jU]) (st1 := [jR 139]) rfl ?_
  refine L_getP (d := 1) (c100 8 rfl) hM rt139 rfl ?_
  refine L_ps c100 (n := 1) (pc1 := 12) (ls1 := [jR 139, jR v1, jR v2, jI v3, jU, jU, jU, jU, jU, jU, jU, jU, jU]) (st1 := [jR v1, jR 140]) rfl ?_
  refine L_getD (c100 12 rfl) hM hv1 (by decide) ?_
  refine L_ps c100 (n := 1) (pc1 := 16) (ls1 := [jR 139, jR v1, jR v2, jI v3, jU, jU, jU, jU, jU, jU, jU, jU, jU]) (st1 := [jI 0, jR (dp (μ2 v1 0)), jR 140]) rfl ?_
  refine L_cI (c100 16 rfl) (js_v rfl ((Rl_tag hM rt140 (by decide)).trans js102)) hh100 (k_Unifier_load rt140 (dp_rt _) hM h) (fun r3 M μ4 hM h => ?_) (fun _ _ _ _ f => f.elim)
  refine L_ps c100 (n := 2) (pc1 := 22) (ls1 := [jR 139, jR v1, jR v2, jI v3, jI r3, jU, jU, jU, jU, jU, jU, jU, jU]) (st1 := [jR 139]) rfl ?_
  refine L_getP (d := 1) (c100 22 rfl) hM rt139 rfl ?_
  refine L_ps c100 (n := 1) (pc1 := 26) (ls1 := [jR 139, jR v1, jR v2, jI v3, jI r3, jU, jU, jU, jU, jU, jU, jU, jU]) (st1 := [jR v2, jR 140]) rfl ?_
  refine L_getD (c100 26 rfl) hM hv2 (by decide) ?_
  refine L_ps c100 (n := 1) (pc1 := 31) (ls1 := [jR 139, jR v1, jR v2, jI v3, jI r3, jU, jU, jU, jU, jU, jU, jU, jU]) (st1 := [jI 8, jR (dp (μ4 v2 0)), jR 140]) rfl ?_
  refine L_cI (c100 31 rfl) (js_v rfl ((Rl_tag hM rt140 (by decide)).trans js102)) hh100 (k_Unifier_load rt140 (dp_rt _) hM h) (fun r5 M μ6 hM h => ?_) (fun _ _ _ _ f => f.elim)
  refine L_ps c100 (n := 2) (pc1 := 37) (ls1 := [jR 139, jR v1, jR v2, jI v3, jI r3, jI r5, jU, jU, jU, jU, jU, jU, jU]) (st1 := [jR 139]) rfl ?_
  refine L_getP (d := 1) (c100 37 rfl) hM rt139 rfl ?_
  refine L_ps c100 (n := 1) (pc1 := 41) (ls1 := [jR 139, jR v1, jR v2, jI v3, jI r3, jI r5, jU, jU, jU, jU, jU, jU, jU]) (st1 := [jR v1, jR 140]) rfl ?_
  refine L_getD (c100 41 rfl) hM hv1 (by decide) ?_
  refine L_ps c100 (n := 1) (pc1 := 45) (ls1 := [jR 139, jR v1, jR v2, jI v3, jI r3, jI r5, jU, jU, jU, jU, jU, jU, jU]) (st1 := [jI 0, jR (dp (μ6 v1 1)), jR 140]) rfl ?_
  refine L_cI (c100 45 rfl) (js_v rfl ((Rl_tag hM rt140 (by decide)).trans js102)) hh100 (k_Unifier_load rt140 (dp_rt _) hM h) (fun r7 M μ8 hM h => ?_) (fun _ _ _ _ f => f.elim)
  refine L_ps c100 (n := 2) (pc1 := 51) (ls1 := [jR 139, jR v1, jR v2, jI v3, jI r3, jI r5, jI r7, jU, jU, jU, jU, jU, jU]) (st1 := [jR 139]) rfl ?_
  refine L_getP (d := 1) (c100 51 rfl) hM rt139 rfl ?_
  refine L_ps c100 (n := 1) (pc1 := 55) (ls1 := [jR 139, jR v1, jR v2, jI v3, jI r3, jI r5, jI r7, jU, jU, jU, jU, jU, jU]) (st1 := [jR v2, jR 140]) rfl ?_
  refine L_getD (c100 55 rfl) hM hv2 (by decide) ?_
  refine L_ps c100 (n := 1) (pc1 := 60) (ls1 := [jR 139, jR v1, jR v2, jI v3, jI r3, jI r5, jI r7, jU, jU, jU, jU, jU, jU]) (st1 := [jI 8, jR (dp (μ8 v2 1)), jR 140]) rfl ?_
  refine L_cI (c100 60 rfl) (js_v rfl ((Rl_tag hM rt140 (by decide)).trans js102)) hh100 (k_Unifier_load rt140 (dp_rt _) hM h) (fun r9 M μ10 hM h => ?_) (fun _ _ _ _ f => f.elim)
  refine L_ps c100 (n := 2) (pc1 := 66) (ls1 := [jR 139, jR v1, jR v2, jI v3, jI r3, jI r5, jI r7, jI r9, jU, jU, jU, jU, jU]) (st1 := [jR 139]) rfl ?_
  refine L_getP (d := 1) (c100 66 rfl) hM rt139 rfl ?_
  refine L_ps c100 (n := 4) (pc1 := 75) (ls1 := [jR 139, jR v1, jR v2, jI v3, jI r3, jI r5, jI r7, jI r9, jU, jU, jU, jU, jU]) (st1 := [jI r5, jI (wr (r3 + v3)), jR 140]) rfl ?_
  refine L_cB (c100 75 rfl) (js_v rfl ((Rl_tag hM rt140 (by decide)).trans js104)) hh100 (k_Unifier_solve rt140 hM h) (fun r11 M μ12 hM h => ?_) (fun _ _ _ _ f => f.elim)
  refine L_br (p1 := 83) (p2 := 81) (c100 78 rfl) rfl jc_neb h (fun h => ?_) (fun h => ?_)
  · refine L_ps c100 (n := 2) (pc1 := 85) (ls1 := [jR 139, jR v1, jR v2, jI v3, jI r3, jI r5, jI r7, jI r9, jU, jU, jU, jU, jU]) (st1 := [jR 139, jR 139]) rfl ?_
    refine L_getI (c100 85 rfl) hM rt139 rfl ?_
    refine L_cpR (c100 88 rfl) (js_v rfl ((Rl_tag hM rt139 (by decide)).trans js117)) hh100 (k_PairList_firstTerm hM h) (fun r13 M hM hr13 h => ?_) (fun _ _ _ _ f => f.elim)
    refine L_ps c100 (n := 3) (pc1 := 95) (ls1 := [jR 139, jR v1, jR v2, jI v3, jI r3, jI r5, jI r7, jI r9, jR r13, jU, jU, jU, jU]) (st1 := [jR 139, jR 139]) rfl ?_
    refine L_getI (c100 95 rfl) hM rt139 rfl ?_
    refine L_cpR (c100 98 rfl) (js_v rfl ((Rl_tag hM rt139 (by decide)).trans js118)) hh100 (k_PairList_secondTerm hM h) (fun r15 M hM hr15 h => ?_) (fun _ _ _ _ f => f.elim)
    refine L_ps c100 (n := 2) (pc1 := 105) (ls1 := [jR 139, jR v1, jR v2, jI v3, jI r3, jI r5, jI r7, jI r9, jR r13, jR r15, jU, jU, jU]) (st1 := [jR r13]) rfl ?_
    refine L_cV (c100 105 rfl) (js_v rfl ((Rl_tag hM hr13 (by decide)).trans js41)) hh100 (k_Term_clear hr13 hM h) (fun M μ18 hM h => ?_) (fun _ _ _ _ f => f.elim)
    refine L_ps c100 (n := 1) (pc1 := 110) (ls1 := [jR 139, jR v1, jR v2, jI v3, jI r3, jI r5, jI r7, jI r9, jR r13, jR r15, jU, jU, jU]) (st1 := [jR r15]) rfl ?_
    refine L_cV (c100 110 rfl) (js_v rfl ((Rl_tag hM hr15 (by decide)).trans js41)) hh100 (k_Term_clear hr15 hM h) (fun M μ20 hM h => ?_) (fun _ _ _ _ f => f.elim)
    refine L_ps c100 (n := 1) (pc1 := 114) (ls1 := [jR 139, jR v1, jR v2, jI v3, jI r3, jI r5, jI r7, jI r9, jR r13, jR r15, jU, jU, jU]) (st1 := [jR 139]) rfl ?_
    refine L_getP (d := 1) (c100 114 rfl) hM rt139 rfl ?_
    refine L_ps c100 (n := 2) (pc1 := 121) (ls1 := [jR 139, jR v1, jR v2, jI v3, jI r3, jI r5, jI r7, jI r9, jR r13, jR r15, jU, jU, jU]) (st1 := [jR r13, jI r7, jR 140]) rfl ?_
    refine L_cB (c100 121 rfl) (js_v rfl ((Rl_tag hM rt140 (by decide)).trans js119)) hh100 (k_Unifier_expand rt140 hr13 hM h) (fun r21 M μ22 hM h => ?_) (fun _ _ _ _ f => f.elim)
    refine L_ps c100 (n := 3) (pc1 := 129) (ls1 := [jR 139, jR v1, jR v2, jI v3, jI r3, jI r5, jI r7, jI r9, jR r13, jR r15, jI (b2i r21), jI 0, jU]) (st1 := []) rfl ?_
    exact k_PairList_buildPair_l129 rfl rfl hv1 hr13 hr15 hM hQ h
  · refine L_ps c100 (n := 1) (pc1 := 82) (ls1 := [jR 139, jR v1, jR v2, jI v3, jI r3, jI r5, jI r7, jI r9, jU, jU, jU, jU, jU]) (st1 := [jI 0]) rfl ?_
    exact L_retB (c100 82 rfl) (Or.inl rfl) (hQ false _ _ hM h)
theorem k_PairList_keep {E : JE2} {v1 : Int} {v2 : Int} {v3 : Int} {μ : Mem} {M : JM} {Q : Mem → Prop} (hM : Rl E M μ) (h : d_PairList_keep v1 v2 v3 μ Q) : JX 124 0 (jargs 124 [jR 139, jI v1, jI v2, jI v3]) [] M (PO E (QV Q) XN) := by
  unfold d_PairList_keep at h
  show JX 124 0 [jR 139, jI v1, jI v2, jI v3] [] M (PO E (QV Q) XN)
  generalize hP : PO E (QV Q) XN = P
  have hQ : ∀ (M1 : JM) (μ1 : Mem), Rl E M1 μ1 → Q μ1 → P (.inl none) M1 := by rw [← hP]; exact fun M1 μ1 a b => ⟨μ1, a, rfl, b⟩
  clear hP
  refine L_ps c124 (n := 2) (pc1 := 2) (ls1 := [jR 139, jI v1, jI v2, jI v3]) (st1 := [jR 139, jR 139]) rfl ?_
  refine L_getI (c124 2 rfl) hM rt139 rfl ?_
  refine L_cpB (c124 5 rfl) (js_v rfl ((Rl_tag hM rt139 (by decide)).trans js99)) hh124 (k_PairList_has hM h) (fun r1 M hM h => ?_) (fun _ _ _ _ f => f.elim)
  refine L_nb (p1 := 61) (p2 := 11) (c124 8 rfl) rfl jc_eqb h (fun h => ?_) (fun h => ?_)
  · refine L_ps c124 (n := 1) (pc1 := 12) (ls1 := [jR 139, jI v1, jI v2, jI v3]) (st1 := [jR 139]) rfl ?_
    refine L_getP (d := 16) (c124 12 rfl) hM rt139 rfl ?_
    refine L_ps c124 (n := 1) (pc1 := 16) (ls1 := [jR 139, jI v1, jI v2, jI v3]) (st1 := [jR 139, jR 155]) rfl ?_
    refine L_getI (c124 16 rfl) hM rt139 rfl ?_
    refine L_ps c124 (n := 1) (pc1 := 20) (ls1 := [jR 139, jI v1, jI v2, jI v3]) (st1 := [jI v1, jI (μ 139 1), jR 155]) rfl ?_
    obtain ⟨hb, h⟩ := h
    refine L_iast (c124 20 rfl) hM rt155 ln155 hb (fun M hM => ?_)
    refine L_ps c124 (n := 1) (pc1 := 22) (ls1 := [jR 139, jI v1, jI v2, jI v3]) (st1 := [jR 139]) rfl ?_
    refine L_getP (d := 17) (c124 22 rfl) hM rt139 rfl ?_
    refine L_ps c124 (n := 1) (pc1 := 26) (ls1 := [jR 139, jI v1, jI v2, jI v3]) (st1 := [jR 139, jR 156]) rfl ?_
    refine L_getI (c124 26 rfl) hM rt139 rfl ?_
    refine L_ps c124 (n := 1) (pc1 := 30) (ls1 := [jR 139, jI v1, jI v2, jI v3]) (st1 := [jI v2, jI ((mup μ 155 (μ 139 1).toNat v1) 139 1), jR 156]) rfl ?_
    obtain ⟨hb, h⟩ := h
    refine L_iast (c124 30 rfl) hM rt156 ln156 hb (fun M hM => ?_)
    refine L_ps c124 (n := 1) (pc1 := 32) (ls1 := [jR 139, jI v1, jI v2, jI v3]) (st1 := [jR 139]) rfl ?_
    refine L_getP (d := 18) (c124 32 rfl) hM rt139 rfl ?_
    refine L_ps c124 (n := 1) (pc1 := 36) (ls1 := [jR 139, jI v1, jI v2, jI v3]) (st1 := [jR 139, jR 157]) rfl ?_
    refine L_getI (c124 36 rfl) hM rt139 rfl ?_
    refine L_ps c124 (n := 1) (pc1 := 40) (ls1 := [jR 139, jI v1, jI v2, jI v3]) (st1 := [jI v3, jI ((mup (mup μ 155 (μ 139 1).toNat v1) 156 ((mup μ 155 (μ 139 1).toNat v1) 139 1).toNat v2) 139 1), jR 157]) rfl ?_
    obtain ⟨hb, h⟩ := h
    refine L_iast (c124 40 rfl) hM rt157 ln157 hb (fun M hM => ?_)
    refine L_ps c124 (n := 1) (pc1 := 42) (ls1 := [jR 139, jI v1, jI v2, jI v3]) (st1 := [jR 139]) rfl ?_
    refine L_getP (d := 19) (c124 42 rfl) hM rt139 rfl ?_
    refine L_ps c124 (n := 1) (pc1 := 46) (ls1 := [jR 139, jI v1, jI v2, jI v3]) (st1 := [jR 139, jR 158]) rfl ?_
    refine L_getI (c124 46 rfl) hM rt139 rfl ?_
    refine L_ps c124 (n := 1) (pc1 := 50) (ls1 := [jR 139, jI v1, jI v2, jI v3]) (st1 := [jI 0, jI ((mup (mup (mup μ 155 (μ 139 1).toNat v1) 156 ((mup μ 155 (μ 139 1).toNat v1) 139 1).toNat v2) 157 ((mup (mup μ 155 (μ 139 1).toNat v1) 156 ((mup μ 155 (μ 139 1).toNat v1) 139 1).toNat v2) 139 1).toNat v3) 139 1), jR 158]) rfl ?_
    obtain ⟨hb, h⟩ := h
    refine L_iast (c124 50 rfl) hM rt158 ln158 hb (fun M hM => ?_)
    refine L_ps c124 (n := 2) (pc1 := 53) (ls1 := [jR 139, jI v1, jI v2, jI v3]) (st1 := [jR 139, jR 139]) rfl ?_
    refine L_getI (c124 53 rfl) hM rt139 rfl ?_
    refine L_ps c124 (n := 2) (pc1 := 58) (ls1 := [jR 139, jI v1, jI v2, jI v3]) (st1 := [jI (wr (((mup (mup (mup (mup μ 155 (μ 139 1).toNat v1) 156 ((mup μ 155 (μ 139 1).toNat v1) 139 1).toNat v2) 157 ((mup (mup μ 155 (μ 139 1).toNat v1) 156 ((mup μ 155 (μ 139 1).toNat v1) 139 1).toNat v2) 139 1).toNat v3) 158 ((mup (mup (mup μ 155 (μ 139 1).toNat v1) 156 ((mup μ 155 (μ 139 1).toNat v1) 139 1).toNat v2) 157 ((mup (mup μ 155 (μ 139 1).toNat v1) 156 ((mup μ 155 (μ 139 1).toNat v1) 139 1).toNat v2) 139 1).toNat v3) 139 1).toNat 0) 139 1) + 1)), jR 139]) rfl ?_
    refine L_putI (c124 58 rfl) hM rt139 rfl (fun M hM => ?_)
    exact L_end (c124 61 rfl) rfl (hQ _ _ hM h)
  · exact L_end (c124 61 rfl) rfl (hQ _ _ hM h)
theorem k_PairList_refresh_j132 {E : JE2} {v1 : Nat} {v2 : Int} {v3 : Nat} {v4 : Int} {v5 : Nat} {v6 : Int} {μ : Mem} {M : JM} {P : JO → JM → Prop} {W20 : Int → Mem → Prop} {W37 : Int → Mem → Prop} {W67 : Int → Mem → Prop} {Q : Mem → Prop} (hv1 : rt v1 = 7) (hv3 : rt v3 = 5) (hv5 : rt v5 = 5) (hM : Rl E M μ) (hQ : ∀ (M1 : JM) (μ1 : Mem), Rl E M1 μ1 → Q μ1 → P (.inl none) M1) (hW20 : ∀ (v2 : Int) (g3 : JV) (g4 : JV) (g5 : JV) (g6 : JV) (M1 : JM) (μ1 : Mem), jc2 g3 = false → jc2 g4 = false → jc2 g5 = false → Rl E M1 μ1 → W20 v2 μ1 → JX 98 20 [jR 139, jR v1, jI v2, g3, g4, g5, g6] [] M1 P) (hW37 : ∀ (v4 : Int) (g5 : JV) (g6 : JV) (M1 : JM) (μ1 : Mem), jc2 g5 = false → Rl E M1 μ1 → W37 v4 μ1 → JX 98 37 [jR 139, jR v1, jI v2, jR v3, jI v4, g5, g6] [] M1 P) (hW67 : ∀ (v6 : Int) (M1 : JM) (μ1 : Mem), Rl E M1 μ1 → W67 v6 μ1 → JX 98 67 [jR 139, jR v1, jI v2, jR v3, jI v4, jR v5, jI v6] [] M1 P) (h : d_PairList_refresh_j132 v1 v2 v3 v4 v5 v6 μ W20 W37 W67 Q) : JX 98 132 [jR 139, jR v1, jI v2, jR v3, jI v4, jR v5, jI v6] [] M P := by
  unfold d_PairList_refresh_j132 at h
  refine L_ps c98 (n := 2) (pc1 := 67) (ls1 := [jR 139, jR v1, jI v2, jR v3, jI v4, jR v5, jI (wr (v6 + 1))]) (st1 := []) rfl ?_
  exact hW67 _ _ _ hM h
theorem k_PairList_refresh_b67 {E : JE2} {v1 : Nat} {v2 : Int} {v3 : Nat} {v4 : Int} {v5 : Nat} {v6 : Int} {μ : Mem} {M : JM} {P : JO → JM → Prop} {W20 : Int → Mem → Prop} {W37 : Int → Mem → Prop} {W67 : Int → Mem → Prop} {Q : Mem → Prop} (hv1 : rt v1 = 7) (hv3 : rt v3 = 5) (hv5 : rt v5 = 5) (hM : Rl E M μ) (hQ : ∀ (M1 : JM) (μ1 : Mem), Rl E M1 μ1 → Q μ1 → P (.inl none) M1) (hW20 : ∀ (v2 : Int) (g3 : JV) (g4 : JV) (g5 : JV) (g6 : JV) (M1 : JM) (μ1 : Mem), jc2 g3 = false → jc2 g4 = false → jc2 g5 = false → Rl E M1 μ1 → W20 v2 μ1 → JX 98 20 [jR 139, jR v1, jI v2, g3, g4, g5, g6] [] M1 P) (hW37 : ∀ (v4 : Int) (g5 : JV) (g6 : JV) (M1 : JM) (μ1 : Mem), jc2 g5 = false → Rl E M1 μ1 → W37 v4 μ1 → JX 98 37 [jR 139, jR v1, jI v2, jR v3, jI v4, g5, g6] [] M1 P) (hW67 : ∀ (v6 : Int) (M1 : JM) (μ1 : Mem), Rl E M1 μ1 → W67 v6 μ1 → JX 98 67 [jR 139, jR v1, jI v2, jR v3, jI v4, jR v5, jI v6] [] M1 P) (h : d_PairList_refresh_b67 v1 v2 v3 v4 v5 v6 μ W20 W37 W67 Q) : JX 98 67 [jR 139, jR v1, jI v2, jR v3, jI v4, jR v5, jI v6] [] M P := by
  unfold d_PairList_refresh_b67 at h
  refine L_ps c98 (n := 2) (pc1 := 70) (ls1 := [jR 139, jR v1, jI v2, jR v3, jI v4, jR v5, jI v6]) (st1 := [jR v3, jI v6]) rfl ?_
  refine L_getD (c98 70 rfl) hM hv3 (by decide) ?_
  refine L_getI (c98 73 rfl) hM (dp_rt _) rfl ?_
  refine L_nb (p1 := 138) (p2 := 79) (c98 76 rfl) rfl jc_ge h (fun h => ?_) (fun h => ?_)
  · refine L_ps c98 (n := 1) (pc1 := 80) (ls1 := [jR 139, jR v1, jI v2, jR v3, jI v4, jR v5, jI v6]) (st1 := [jR v3]) rfl ?_
    refine L_getD (c98 80 rfl) hM hv3 (by decide) ?_
    refine L_ps c98 (n := 1) (pc1 := 85) (ls1 := [jR 139, jR v1, jI v2, jR v3, jI v4, jR v5, jI v6]) (st1 := [jI v6, jR (dp (μ v3 0))]) rfl ?_
    refine L_cpI (c98 85 rfl) (js_v rfl ((Rl_tag hM (dp_rt _) (by decide)).trans js46)) hh98 (k_Term_get (dp_rt _) hM h) (fun r5 M hM h => ?_) (fun _ _ _ _ f => f.elim)
    refine L_ps c98 (n := 1) (pc1 := 90) (ls1 := [jR 139, jR v1, jI v2, jR v3, jI v4, jR v5, jI v6]) (st1 := [jR v5, jI r5]) rfl ?_
    refine L_getD (c98 90 rfl) hM hv5 (by decide) ?_
    refine L_ps c98 (n := 1) (pc1 := 94) (ls1 := [jR 139, jR v1, jI v2, jR v3, jI v4, jR v5, jI v6]) (st1 := [jI 0, jR (dp (μ v5 0)), jI r5]) rfl ?_
    refine L_cpI (c98 94 rfl) (js_v rfl ((Rl_tag hM (dp_rt _) (by decide)).trans js46)) hh98 (k_Term_get (dp_rt _) hM h) (fun r7 M hM h => ?_) (fun _ _ _ _ f => f.elim)
    refine L_nb (p1 := 132) (p2 := 100) (c98 97 rfl) rfl jc_ne h (fun h => ?_) (fun h => ?_)
    · refine L_ps c98 (n := 2) (pc1 := 102) (ls1 := [jR 139, jR v1, jI v2, jR v3, jI v4, jR v5, jI v6]) (st1 := [jR 139, jR 139]) rfl ?_
      refine L_getI (c98 102 rfl) hM rt139 rfl ?_
      refine L_cpB (c98 105 rfl) (js_v rfl ((Rl_tag hM rt139 (by decide)).trans js99)) hh98 (k_PairList_has hM h) (fun r9 M hM h => ?_) (fun _ _ _ _ f => f.elim)
      refine L_nb (p1 := 132) (p2 := 111) (c98 108 rfl) rfl jc_eqb h (fun h => ?_) (fun h => ?_)
      · refine L_ps c98 (n := 4) (pc1 := 117) (ls1 := [jR 139, jR v1, jI v2, jR v3, jI v4, jR v5, jI v6]) (st1 := [jI v6, jR v5, jR v3, jR 139]) rfl ?_
        refine L_cB (c98 117 rfl) (js_v rfl ((Rl_tag hM rt139 (by decide)).trans js100)) hh98 (k_PairList_buildPair hv3 hv5 hM h) (fun r11 M μ12 hM h => ?_) (fun _ _ _ _ f => f.elim)
        refine L_nb (p1 := 132) (p2 := 123) (c98 120 rfl) rfl jc_eqb h (fun h => ?_) (fun h => ?_)
        · refine L_ps c98 (n := 4) (pc1 := 129) (ls1 := [jR 139, jR v1, jI v2, jR v3, jI v4, jR v5, jI v6]) (st1 := [jI v6, jI v4, jI v2, jR 139]) rfl ?_
          refine L_cV (c98 129 rfl) (js_v rfl ((Rl_tag hM rt139 (by decide)).trans js124)) hh98 (k_PairList_keep hM h) (fun M μ14 hM h => ?_) (fun _ _ _ _ f => f.elim)
          exact k_PairList_refresh_j132 hv1 hv3 hv5 hM hQ hW20 hW37 hW67 h
        · exact k_PairList_refresh_j132 hv1 hv3 hv5 hM hQ hW20 hW37 hW67 h
      · exact k_PairList_refresh_j132 hv1 hv3 hv5 hM hQ hW20 hW37 hW67 h
    · exact k_PairList_refresh_j132 hv1 hv3 hv5 hM hQ hW20 hW37 hW67 h
  · refine L_ps c98 (n := 2) (pc1 := 37) (ls1 := [jR 139, jR v1, jI v2, jR v3, jI (wr (v4 + 1)), jR v5, jI v6]) (st1 := []) rfl ?_
    exact hW37 _ _ _ _ _ rfl hM h
theorem k_PairList_refresh_l67 {E : JE2} {v1 : Nat} {v2 : Int} {v3 : Nat} {v4 : Int} {v5 : Nat} {v6 : Int} {μ : Mem} {M : JM} {P : JO → JM → Prop} {W20 : Int → Mem → Prop} {W37 : Int → Mem → Prop} {Q : Mem → Prop} (hv1 : rt v1 = 7) (hv3 : rt v3 = 5) (hv5 : rt v5 = 5) (hM : Rl E M μ) (hQ : ∀ (M1 : JM) (μ1 : Mem), Rl E M1 μ1 → Q μ1 → P (.inl none) M1) (hW20 : ∀ (v2 : Int) (g3 : JV) (g4 : JV) (g5 : JV) (g6 : JV) (M1 : JM) (μ1 : Mem), jc2 g3 = false → jc2 g4 = false → jc2 g5 = false → Rl E M1 μ1 → W20 v2 μ1 → JX 98 20 [jR 139, jR v1, jI v2, g3, g4, g5, g6] [] M1 P) (hW37 : ∀ (v4 : Int) (g5 : JV) (g6 : JV) (M1 : JM) (μ1 : Mem), jc2 g5 = false → Rl E M1 μ1 → W37 v4 μ1 → JX 98 37 [jR 139, jR v1, jI v2, jR v3, jI v4, g5, g6] [] M1 P) (h : d_PairList_refresh_l67 v1 v2 v3 v4 v5 v6 μ W20 W37 Q) : JX 98 67 [jR 139, jR v1, jI v2, jR v3, jI v4, jR v5, jI v6] [] M P := by
  refine h (fun v6 μ => ∀ (M : JM), Rl E M μ → JX 98 67 [jR 139, jR v1, jI v2, jR v3, jI v4, jR v5, jI v6] [] M P) ?_ _ hM
  intro v6 μ h M hM
  exact k_PairList_refresh_b67 hv1 hv3 hv5 hM hQ hW20 hW37 (fun v6 M μ hM h => h M hM) h
theorem k_PairList_refresh_j65 {E : JE2} {v1 : Nat} {v2 : Int} {v3 : Nat} {v4 : Int} {v5 : Nat} {t0 : Int} {μ : Mem} {M : JM} {P : JO → JM → Prop} {g6 : JV} {W20 : Int → Mem → Prop} {W37 : Int → Mem → Prop} {Q : Mem → Prop} (hv1 : rt v1 = 7) (hv3 : rt v3 = 5) (hv5 : rt v5 = 5) (hM : Rl E M μ) (hQ : ∀ (M1 : JM) (μ1 : Mem), Rl E M1 μ1 → Q μ1 → P (.inl none) M1) (hW20 : ∀ (v2 : Int) (g3 : JV) (g4 : JV) (g5 : JV) (g6 : JV) (M1 : JM) (μ1 : Mem), jc2 g3 = false → jc2 g4 = false → jc2 g5 = false → Rl E M1 μ1 → W20 v2 μ1 → JX 98 20 [jR 139, jR v1, jI v2, g3, g4, g5, g6] [] M1 P) (hW37 : ∀ (v4 : Int) (g5 : JV) (g6 : JV) (M1 : JM) (μ1 : Mem), jc2 g5 = false → Rl E M1 μ1 → W37 v4 μ1 → JX 98 37 [jR 139, jR v1, jI v2, jR v3, jI v4, g5, g6] [] M1 P) (h : d_PairList_refresh_j65 v1 v2 v3 v4 v5 t0 μ W20 W37 Q) : JX 98 65 [jR 139, jR v1, jI v2, jR v3, jI v4, jR v5, g6] [jI t0] M P := by
  unfold d_PairList_refresh_j65 at h
  refine L_ps c98 (n := 1) (pc1 := 67) (ls1 := [jR 139, jR v1, jI v2, jR v3, jI v4, jR v5, jI t0]) (st1 := []) rfl ?_
  exact k_PairList_refresh_l67 hv1 hv3 hv5 hM hQ hW20 hW37 h
theorem k_PairList_refresh_b37 {E : JE2} {v1 : Nat} {v2 : Int} {v3 : Nat} {v4 : Int} {μ : Mem} {M : JM} {P : JO → JM → Prop} {g5 : JV} {g6 : JV} {W20 : Int → Mem → Prop} {W37 : Int → Mem → Prop} {Q : Mem → Prop} (hg5 : jc2 g5 = false) (hv1 : rt v1 = 7) (hv3 : rt v3 = 5) (hM : Rl E M μ) (hQ : ∀ (M1 : JM) (μ1 : Mem), Rl E M1 μ1 → Q μ1 → P (.inl none) M1) (hW20 : ∀ (v2 : Int) (g3 : JV) (g4 : JV) (g5 : JV) (g6 : JV) (M1 : JM) (μ1 : Mem), jc2 g3 = false → jc2 g4 = false → jc2 g5 = false → Rl E M1 μ1 → W20 v2 μ1 → JX 98 20 [jR 139, jR v1, jI v2, g3, g4, g5, g6] [] M1 P) (hW37 : ∀ (v4 : Int) (g5 : JV) (g6 : JV) (M1 : JM) (μ1 : Mem), jc2 g5 = false → Rl E M1 μ1 → W37 v4 μ1 → JX 98 37 [jR 139, jR v1, jI v2, jR v3, jI v4, g5, g6] [] M1 P) (h : d_PairList_refresh_b37 v1 v2 v3 v4 μ W20 W37 Q) : JX 98 37 [jR 139, jR v1, jI v2, jR v3, jI v4, g5, g6] [] M P := by
  unfold d_PairList_refresh_b37 at h
  refine L_ps c98 (n := 2) (pc1 := 40) (ls1 := [jR 139, jR v1, jI v2, jR v3, jI v4, g5, g6]) (st1 := [jR v1, jI v4]) rfl ?_
  refine L_getI (c98 40 rfl) hM hv1 rfl ?_
  refine L_nb (p1 := 144) (p2 := 46) (c98 43 rfl) rfl jc_ge h (fun h => ?_) (fun h => ?_)
  · refine L_ps c98 (n := 2) (pc1 := 49) (ls1 := [jR 139, jR v1, jI v2, jR v3, jI v4, g5, g6]) (st1 := [jI v4, jR v1]) rfl ?_
    refine L_cpR (c98 49 rfl) (js_v rfl ((Rl_tag hM hv1 (by decide)).trans js39)) hh98 (k_State_rule hv1 hM h) (fun r3 M hM hr3 h => ?_) (fun _ _ _ _ f => f.elim)
    refine L_ps c98 (n := 3) (pc1 := 57) (ls1 := [jR 139, jR v1, jI v2, jR v3, jI v4, jR r3, g6]) (st1 := [jI v4, jI v2]) rfl ?_
    refine L_nb (p1 := 64) (p2 := 60) (c98 57 rfl) rfl jc_ne h (fun h => ?_) (fun h => ?_)
    · refine L_ps c98 (n := 2) (pc1 := 65) (ls1 := [jR 139, jR v1, jI v2, jR v3, jI v4, jR r3, g6]) (st1 := [jI 1]) rfl ?_
      exact k_PairList_refresh_j65 hv1 hv3 hr3 hM hQ hW20 hW37 h
    · refine L_ps c98 (n := 1) (pc1 := 65) (ls1 := [jR 139, jR v1, jI v2, jR v3, jI v4, jR r3, g6]) (st1 := [jI 0]) rfl ?_
      exact k_PairList_refresh_j65 hv1 hv3 hr3 hM hQ hW20 hW37 h
  · refine L_ps c98 (n := 2) (pc1 := 20) (ls1 := [jR 139, jR v1, jI (wr (v2 + 1)), jR v3, jI v4, g5, g6]) (st1 := []) rfl ?_
    exact hW20 _ _ _ _ _ _ _ rfl rfl hg5 hM h
theorem k_PairList_refresh_l37 {E : JE2} {v1 : Nat} {v2 : Int} {v3 : Nat} {v4 : Int} {μ : Mem} {M : JM} {P : JO → JM → Prop} {g5 : JV} {g6 : JV} {W20 : Int → Mem → Prop} {Q : Mem → Prop} (hg5 : jc2 g5 = false) (hv1 : rt v1 = 7) (hv3 : rt v3 = 5) (hM : Rl E M μ) (hQ : ∀ (M1 : JM) (μ1 : Mem), Rl E M1 μ1 → Q μ1 → P (.inl none) M1) (hW20 : ∀ (v2 : Int) (g3 : JV) (g4 : JV) (g5 : JV) (g6 : JV) (M1 : JM) (μ1 : Mem), jc2 g3 = false → jc2 g4 = false → jc2 g5 = false → Rl E M1 μ1 → W20 v2 μ1 → JX 98 20 [jR 139, jR v1, jI v2, g3, g4, g5, g6] [] M1 P) (h : d_PairList_refresh_l37 v1 v2 v3 v4 μ W20 Q) : JX 98 37 [jR 139, jR v1, jI v2, jR v3, jI v4, g5, g6] [] M P := by
  refine h (fun v4 μ => ∀ (g5 : JV) (g6 : JV) (M : JM), jc2 g5 = false → Rl E M μ → JX 98 37 [jR 139, jR v1, jI v2, jR v3, jI v4, g5, g6] [] M P) ?_ _ _ _ hg5 hM
  intro v4 μ h g5 g6 M hg5 hM
  exact k_PairList_refresh_b37 hg5 hv1 hv3 hM hQ hW20 (fun v4 g5 g6 M μ hg5 hM h => h g5 g6 M hg5 hM) h
theorem k_PairList_refresh_b20 {E : JE2} {v1 : Nat} {v2 : Int} {μ : Mem} {M : JM} {P : JO → JM → Prop} {g3 : JV} {g4 : JV} {g5 : JV} {g6 : JV} {W20 : Int → Mem → Prop} {Q : Mem → Prop} (hg3 : jc2 g3 = false) (hg4 : jc2 g4 = false) (hg5 : jc2 g5 = false) (hv1 : rt v1 = 7) (hM : Rl E M μ) (hQ : ∀ (M1 : JM) (μ1 : Mem), Rl E M1 μ1 → Q μ1 → P (.inl none) M1) (hW20 : ∀ (v2 : Int) (g3 : JV) (g4 : JV) (g5 : JV) (g6 : JV) (M1 : JM) (μ1 : Mem), jc2 g3 = false → jc2 g4 = false → jc2 g5 = false → Rl E M1 μ1 → W20 v2 μ1 → JX 98 20 [jR 139, jR v1, jI v2, g3, g4, g5, g6] [] M1 P) (h : d_PairList_refresh_b20 v1 v2 μ W20 Q) : JX 98 20 [jR 139, jR v1, jI v2, g3, g4, g5, g6] [] M P := by
  unfold d_PairList_refresh_b20 at h
  refine L_ps c98 (n := 2) (pc1 := 22) (ls1 := [jR 139, jR v1, jI v2, g3, g4, g5, g6]) (st1 := [jR v1, jI v2]) rfl ?_
  refine L_getI (c98 22 rfl) hM hv1 rfl ?_
  refine L_nb (p1 := 150) (p2 := 28) (c98 25 rfl) rfl jc_ge h (fun h => ?_) (fun h => ?_)
  · refine L_ps c98 (n := 2) (pc1 := 30) (ls1 := [jR 139, jR v1, jI v2, g3, g4, g5, g6]) (st1 := [jI v2, jR v1]) rfl ?_
    refine L_cpR (c98 30 rfl) (js_v rfl ((Rl_tag hM hv1 (by decide)).trans js39)) hh98 (k_State_rule hv1 hM h) (fun r1 M hM hr1 h => ?_) (fun _ _ _ _ f => f.elim)
    refine L_ps c98 (n := 3) (pc1 := 37) (ls1 := [jR 139, jR v1, jI v2, jR r1, jI 0, g5, g6]) (st1 := []) rfl ?_
    exact k_PairList_refresh_l37 hg5 hv1 hr1 hM hQ hW20 h
  · exact L_end (c98 150 rfl) rfl (hQ _ _ hM h)
theorem k_PairList_refresh_l20 {E : JE2} {v1 : Nat} {v2 : Int} {μ : Mem} {M : JM} {P : JO → JM → Prop} {g3 : JV} {g4 : JV} {g5 : JV} {g6 : JV} {Q : Mem → Prop} (hg3 : jc2 g3 = false) (hg4 : jc2 g4 = false) (hg5 : jc2 g5 = false) (hv1 : rt v1 = 7) (hM : Rl E M μ) (hQ : ∀ (M1 : JM) (μ1 : Mem), Rl E M1 μ1 → Q μ1 → P (.inl none) M1) (h : d_PairList_refresh_l20 v1 v2 μ Q) : JX 98 20 [jR 139, jR v1, jI v2, g3, g4, g5, g6] [] M P := by
  refine h (fun v2 μ => ∀ (g3 : JV) (g4 : JV) (g5 : JV) (g6 : JV) (M : JM), jc2 g3 = false → jc2 g4 = false → jc2 g5 = false → Rl E M μ → JX 98 20 [jR 139, jR v1, jI v2, g3, g4, g5, g6] [] M P) ?_ _ _ _ _ _ hg3 hg4 hg5 hM
  intro v2 μ h g3 g4 g5 g6 M hg3 hg4 hg5 hM
  exact k_PairList_refresh_b20 hg3 hg4 hg5 hv1 hM hQ (fun v2 g3 g4 g5 g6 M μ hg3 hg4 hg5 hM h => h g3 g4 g5 g6 M hg3 hg4 hg5 hM) h
theorem k_PairList_refresh {E : JE2} {v1 : Nat} {μ : Mem} {M : JM} {Q : Mem → Prop} (hv1 : rt v1 = 7) (hM : Rl E M μ) (h : d_PairList_refresh v1 μ Q) : JX 98 0 (jargs 98 [jR 139, jR v1]) [] M (PO E (QV Q) XN) := by
  unfold d_PairList_refresh at h
  show JX 98 0 [jR 139, jR v1, jU, jU, jU, jU, jU] [] M (PO E (QV Q) XN)
  generalize hP : PO E (QV Q) XN = P
  have hQ : ∀ (M1 : JM) (μ1 : Mem), Rl E M1 μ1 → Q μ1 → P (.inl none) M1 := by rw [← hP]; exact fun M1 μ1 a b => ⟨μ1, a, rfl, b⟩
  clear hP
  refine L_ps c98 (n := 1) (pc1 := 1) (ls1 := [jR 139, jR v1, jU, jU, jU, jU, jU]) (st1 := [jR 139]) rfl ?_
  refine L_getI (c98 1 rfl) hM rt139 rfl ?_
  refine L_nb (p1 := 8) (p2 := 7) (c98 4 rfl) rfl jc_ne h (fun h => ?_) (fun h => ?_)
  · exact L_end (c98 7 rfl) rfl (hQ _ _ hM h)
  · refine L_ps c98 (n := 2) (pc1 := 10) (ls1 := [jR 139, jR v1, jU, jU, jU, jU, jU]) (st1 := [jI 0, jR 139]) rfl ?_
    refine L_putB (t := 2) (c98 10 rfl) hM rt139 rfl (Or.inl rfl) (fun M hM => ?_)
    refine L_ps c98 (n := 2) (pc1 := 15) (ls1 := [jR 139, jR v1, jU, jU, jU, jU, jU]) (st1 := [jI 0, jR 139]) rfl ?_
    refine L_putI (c98 15 rfl) hM rt139 rfl (fun M hM => ?_)
    refine L_ps c98 (n := 2) (pc1 := 20) (ls1 := [jR 139, jR v1, jI 0, jU, jU, jU, jU]) (st1 := []) rfl ?_
    exact k_PairList_refresh_l20 rfl rfl rfl hv1 hM hQ h
theorem k_OB_criticalPairCount {E : JE2} {μ : Mem} {M : JM} {Q : Int → Mem → Prop} {X : Nat → Mem → Prop} (hM : Rl E M μ) (h : d_OB_criticalPairCount μ Q X) : JX 97 0 (jargs 97 [jR 0]) [] M (PO E (QI Q) X) := by
  unfold d_OB_criticalPairCount at h
  show JX 97 0 [jR 0] [] M (PO E (QI Q) X)
  generalize hP : PO E (QI Q) X = P
  have hQ : ∀ (r : Int) (M1 : JM) (μ1 : Mem), Rl E M1 μ1 → Q r μ1 → P (.inl (some (.inl r))) M1 := by rw [← hP]; exact fun r M1 μ1 a b => ⟨μ1, a, r, rfl, b⟩
  have hX : ∀ (k : Nat) (M1 : JM) (μ1 : Mem), Rl E M1 μ1 → X k μ1 → P (.inr k) M1 := by rw [← hP]; exact fun k M1 μ1 a b => ⟨μ1, a, b⟩
  clear hP
  refine L_ps c97 (n := 1) (pc1 := 1) (ls1 := [jR 0]) (st1 := [jR 0]) rfl ?_
  refine L_cV (c97 1 rfl) (js_v rfl ((Rl_tag hM rt0 (by decide)).trans js78)) hh97 (k_OB_requireSystem hM h) (fun M μ2 hM h => ?_) (fun k M μx hM hx => hX _ _ _ hM hx)
  refine L_ps c97 (n := 1) (pc1 := 5) (ls1 := [jR 0]) (st1 := [jR 0]) rfl ?_
  refine L_getP (d := 139) (c97 5 rfl) hM rt0 rfl ?_
  refine L_ps c97 (n := 1) (pc1 := 9) (ls1 := [jR 0]) (st1 := [jR 0, jR 139]) rfl ?_
  refine L_getP (d := 5) (c97 9 rfl) hM rt0 rfl ?_
  refine L_cV (c97 12 rfl) (js_v rfl ((Rl_tag hM rt139 (by decide)).trans js98)) hh97 (k_PairList_refresh rt5 hM h) (fun M μ4 hM h => ?_) (fun _ _ _ _ f => f.elim)
  refine L_ps c97 (n := 1) (pc1 := 16) (ls1 := [jR 0]) (st1 := [jR 0]) rfl ?_
  refine L_getP (d := 139) (c97 16 rfl) hM rt0 rfl ?_
  refine L_getI (c97 19 rfl) hM rt139 rfl ?_
  exact L_retI (c97 22 rfl) (hQ _ _ _ hM h)
theorem k_Term_sameAs_b15 {E : JE2} {v0 : Nat} {v1 : Nat} {v2 : Int} {μ : Mem} {M : JM} {P : JO → JM → Prop} {W15 : Int → Prop} {Q : Bool → Prop} (hv0 : rt v0 = 8) (hv1 : rt v1 = 8) (hM : Rl E M μ) (hQ : ∀ (r : Bool) (M1 : JM), Rl E M1 μ → Q r → P (.inl (some (.inl (b2i r)))) M1) (hW15 : ∀ (v2 : Int) (M1 : JM), Rl E M1 μ → W15 v2 → JX 128 15 [jR v0, jR v1, jI v2] [] M1 P) (h : d_Term_sameAs_b15 v0 v1 v2 μ W15 Q) : JX 128 15 [jR v0, jR v1, jI v2] [] M P := by
  unfold d_Term_sameAs_b15 at h
  refine L_ps c128 (n := 2) (pc1 := 17) (ls1 := [jR v0, jR v1, jI v2]) (st1 := [jR v0, jI v2]) rfl ?_
  refine L_getI (c128 17 rfl) hM hv0 rfl ?_
  refine L_nb (p1 := 44) (p2 := 23) (c128 20 rfl) rfl jc_ge h (fun h => ?_) (fun h => ?_)
  · refine L_ps c128 (n := 2) (pc1 := 25) (ls1 := [jR v0, jR v1, jI v2]) (st1 := [jI v2, jR v0]) rfl ?_
    refine L_cpI (c128 25 rfl) (js_v rfl ((Rl_tag hM hv0 (by decide)).trans js46)) hh128 (k_Term_get hv0 hM h) (fun r1 M hM h => ?_) (fun _ _ _ _ f => f.elim)
    refine L_ps c128 (n := 2) (pc1 := 30) (ls1 := [jR v0, jR v1, jI v2]) (st1 := [jI v2, jR v1, jI r1]) rfl ?_
    refine L_cpI (c128 30 rfl) (js_v rfl ((Rl_tag hM hv1 (by decide)).trans js46)) hh128 (k_Term_get hv1 hM h) (fun r3 M hM h => ?_) (fun _ _ _ _ f => f.elim)
    refine L_br (p1 := 38) (p2 := 36) (c128 33 rfl) rfl jc_eq h (fun h => ?_) (fun h => ?_)
    · refine L_ps c128 (n := 2) (pc1 := 15) (ls1 := [jR v0, jR v1, jI (wr (v2 + 1))]) (st1 := []) rfl ?_
      exact hW15 _ _ hM h
    · refine L_ps c128 (n := 1) (pc1 := 37) (ls1 := [jR v0, jR v1, jI v2]) (st1 := [jI 0]) rfl ?_
      exact L_retB (c128 37 rfl) (Or.inl rfl) (hQ false _ hM h)
  · refine L_ps c128 (n := 1) (pc1 := 45) (ls1 := [jR v0, jR v1, jI v2]) (st1 := [jI 1]) rfl ?_
    exact L_retB (c128 45 rfl) (Or.inr rfl) (hQ true _ hM h)
theorem k_Term_sameAs_l15 {E : JE2} {v0 : Nat} {v1 : Nat} {v2 : Int} {μ : Mem} {M : JM} {P : JO → JM → Prop} {Q : Bool → Prop} (hv0 : rt v0 = 8) (hv1 : rt v1 = 8) (hM : Rl E M μ) (hQ : ∀ (r : Bool) (M1 : JM), Rl E M1 μ → Q r → P (.inl (some (.inl (b2i r)))) M1) (h : d_Term_sameAs_l15 v0 v1 v2 μ Q) : JX 128 15 [jR v0, jR v1, jI v2] [] M P := by
  refine h (fun v2 => ∀ (M : JM), Rl E M μ → JX 128 15 [jR v0, jR v1, jI v2] [] M P) ?_ _ hM
  intro v2 h M hM
  exact k_Term_sameAs_b15 hv0 hv1 hM hQ (fun v2 M hM h => h M hM) h
theorem k_Term_sameAs {E : JE2} {v0 : Nat} {v1 : Nat} {μ : Mem} {M : JM} {Q : Bool → Prop} (hv0 : rt v0 = 8) (hv1 : rt v1 = 8) (hM : Rl E M μ) (h : d_Term_sameAs v0 v1 μ Q) : JX 128 0 (jargs 128 [jR v0, jR v1]) [] M (PO E (pQB μ Q) XN) := by
  unfold d_Term_sameAs at h
  show JX 128 0 [jR v0, jR v1, jU] [] M (PO E (pQB μ Q) XN)
  generalize hP : PO E (pQB μ Q) XN = P
  have hQ : ∀ (r : Bool) (M1 : JM), Rl E M1 μ → Q r → P (.inl (some (.inl (b2i r)))) M1 := by rw [← hP]; exact fun r M1 a b => ⟨μ, a, rfl, r, rfl, b⟩
  clear hP
  refine L_ps c128 (n := 1) (pc1 := 1) (ls1 := [jR v0, jR v1, jU]) (st1 := [jR v0]) rfl ?_
  refine L_getI (c128 1 rfl) hM hv0 rfl ?_
  refine L_ps c128 (n := 1) (pc1 := 5) (ls1 := [jR v0, jR v1, jU]) (st1 := [jR v1, jI (μ v0 1)]) rfl ?_
  refine L_getI (c128 5 rfl) hM hv1 rfl ?_
  refine L_br (p1 := 13) (p2 := 11) (c128 8 rfl) rfl jc_eq h (fun h => ?_) (fun h => ?_)
  · refine L_ps c128 (n := 2) (pc1 := 15) (ls1 := [jR v0, jR v1, jI 0]) (st1 := []) rfl ?_
    exact k_Term_sameAs_l15 hv0 hv1 hM hQ h
  · refine L_ps c128 (n := 1) (pc1 := 12) (ls1 := [jR v0, jR v1, jU]) (st1 := [jI 0]) rfl ?_
    exact L_retB (c128 12 rfl) (Or.inl rfl) (hQ false _ hM h)
theorem k_Rewriter_meet {E : JE2} {v0 : Nat} {v1 : Nat} {v2 : Nat} {v3 : Nat} {v4 : Int} {μ : Mem} {M : JM} {Q : Bool → Mem → Prop} (hv0 : rt v0 = 4) (hv1 : rt v1 = 7) (hv2 : rt v2 = 8) (hv3 : rt v3 = 8) (hM : Rl E M μ) (h : d_Rewriter_meet v0 v1 v2 v3 v4 μ Q) : JX 127 0 (jargs 127 [jR v0, jR v1, jR v2, jR v3, jI v4]) [] M (PO E (QB Q) XN) := by
  unfold d_Rewriter_meet at h
  show JX 127 0 [jR v0, jR v1, jR v2, jR v3, jI v4] [] M (PO E (QB Q) XN)
  generalize hP : PO E (QB Q) XN = P
  have hQ : ∀ (r : Bool) (M1 : JM) (μ1 : Mem), Rl E M1 μ1 → Q r μ1 → P (.inl (some (.inl (b2i r)))) M1 := by rw [← hP]; exact fun r M1 μ1 a b => ⟨μ1, a, r, rfl, b⟩
  clear hP
  refine L_ps c127 (n := 5) (pc1 := 6) (ls1 := [jR v0, jR v1, jR v2, jR v3, jI v4]) (st1 := [jI v4, jI 1, jR v2, jR v1, jR v0]) rfl ?_
  refine L_cI (c127 6 rfl) (js_v rfl ((Rl_tag hM hv0 (by decide)).trans js94)) hh127 (k_Rewriter_reduce hv0 hv1 hv2 hM h) (fun r1 M μ2 hM h => ?_) (fun _ _ _ _ f => f.elim)
  refine L_ps c127 (n := 1) (pc1 := 10) (ls1 := [jR v0, jR v1, jR v2, jR v3, jI v4]) (st1 := [jI (-1), jI r1]) rfl ?_
  refine L_nb (p1 := 15) (p2 := 13) (c127 10 rfl) rfl jc_ne h (fun h => ?_) (fun h => ?_)
  · refine L_ps c127 (n := 1) (pc1 := 14) (ls1 := [jR v0, jR v1, jR v2, jR v3, jI v4]) (st1 := [jI 0]) rfl ?_
    exact L_retB (c127 14 rfl) (Or.inl rfl) (hQ false _ _ hM h)
  · refine L_ps c127 (n := 1) (pc1 := 16) (ls1 := [jR v0, jR v1, jR v2, jR v3, jI v4]) (st1 := [jR v0]) rfl ?_
    refine L_getP (d := 5) (c127 16 rfl) hM hv0 rfl ?_
    refine L_ps c127 (n := 1) (pc1 := 20) (ls1 := [jR v0, jR v1, jR v2, jR v3, jI v4]) (st1 := [jR v0, jR (v0 + 5)]) rfl ?_
    refine L_getP (d := 3) (c127 20 rfl) hM hv0 rfl ?_
    refine L_cV (c127 23 rfl) (js_v rfl ((Rl_tag hM (rp_4_5 hv0) (by decide)).trans js71)) hh127 (k_Term_copyFrom (rp_4_5 hv0) (rp_4_3 hv0) hM h) (fun M μ4 hM h => ?_) (fun _ _ _ _ f => f.elim)
    refine L_ps c127 (n := 5) (pc1 := 32) (ls1 := [jR v0, jR v1, jR v2, jR v3, jI v4]) (st1 := [jI v4, jI 1, jR v3, jR v1, jR v0]) rfl ?_
    refine L_cI (c127 32 rfl) (js_v rfl ((Rl_tag hM hv0 (by decide)).trans js94)) hh127 (k_Rewriter_reduce hv0 hv1 hv3 hM h) (fun r5 M μ6 hM h => ?_) (fun _ _ _ _ f => f.elim)
    refine L_ps c127 (n := 1) (pc1 := 36) (ls1 := [jR v0, jR v1, jR v2, jR v3, jI v4]) (st1 := [jI (-1), jI r5]) rfl ?_
    refine L_br (p1 := 57) (p2 := 39) (c127 36 rfl) rfl jc_eq h (fun h => ?_) (fun h => ?_)
    · refine L_ps c127 (n := 1) (pc1 := 58) (ls1 := [jR v0, jR v1, jR v2, jR v3, jI v4]) (st1 := [jI 0]) rfl ?_
      exact L_retB (c127 58 rfl) (Or.inl rfl) (hQ false _ _ hM h)
    · refine L_ps c127 (n := 1) (pc1 := 40) (ls1 := [jR v0, jR v1, jR v2, jR v3, jI v4]) (st1 := [jR v0]) rfl ?_
      refine L_getP (d := 5) (c127 40 rfl) hM hv0 rfl ?_
      refine L_ps c127 (n := 1) (pc1 := 44) (ls1 := [jR v0, jR v1, jR v2, jR v3, jI v4]) (st1 := [jR v0, jR (v0 + 5)]) rfl ?_
      refine L_getP (d := 3) (c127 44 rfl) hM hv0 rfl ?_
      refine L_cpB (c127 47 rfl) (js_v rfl ((Rl_tag hM (rp_4_5 hv0) (by decide)).trans js128)) hh127 (k_Term_sameAs (rp_4_5 hv0) (rp_4_3 hv0) hM h) (fun r7 M hM h => ?_) (fun _ _ _ _ f => f.elim)
      refine L_nb (p1 := 57) (p2 := 53) (c127 50 rfl) rfl jc_eqb h (fun h => ?_) (fun h => ?_)
      · refine L_ps c127 (n := 2) (pc1 := 58) (ls1 := [jR v0, jR v1, jR v2, jR v3, jI v4]) (st1 := [jI 1]) rfl ?_
        exact L_retB (c127 58 rfl) (Or.inr rfl) (hQ true _ _ hM h)
      · refine L_ps c127 (n := 1) (pc1 := 58) (ls1 := [jR v0, jR v1, jR v2, jR v3, jI v4]) (st1 := [jI 0]) rfl ?_
        exact L_retB (c127 58 rfl) (Or.inl rfl) (hQ false _ _ hM h)
theorem k_PairList_joins_j55 {E : JE2} {v2 : Int} {μ : Mem} {M : JM} {P : JO → JM → Prop} {g1 : JV} {g3 : JV} {Q : Bool → Mem → Prop} (hM : Rl E M μ) (hQ : ∀ (r : Bool) (M1 : JM) (μ1 : Mem), Rl E M1 μ1 → Q r μ1 → P (.inl (some (.inl (b2i r)))) M1) (h : d_PairList_joins_j55 v2 μ Q) : JX 126 55 [jR 139, g1, jI v2, g3] [] M P := by
  unfold d_PairList_joins_j55 at h
  refine L_ps c126 (n := 1) (pc1 := 56) (ls1 := [jR 139, g1, jI v2, g3]) (st1 := [jR 139]) rfl ?_
  refine L_getP (d := 19) (c126 56 rfl) hM rt139 rfl ?_
  refine L_ps c126 (n := 1) (pc1 := 60) (ls1 := [jR 139, g1, jI v2, g3]) (st1 := [jI v2, jR 158]) rfl ?_
  obtain ⟨hb, h⟩ := h
  refine L_iald (c126 60 rfl) hM rt158 ln158 hb ?_
  refine L_ps c126 (n := 1) (pc1 := 62) (ls1 := [jR 139, g1, jI v2, g3]) (st1 := [jI 1, jI (μ 158 v2.toNat)]) rfl ?_
  refine L_nb (p1 := 69) (p2 := 65) (c126 62 rfl) rfl jc_ne h (fun h => ?_) (fun h => ?_)
  · refine L_ps c126 (n := 2) (pc1 := 70) (ls1 := [jR 139, g1, jI v2, g3]) (st1 := [jI 1]) rfl ?_
    exact L_retB (c126 70 rfl) (Or.inr rfl) (hQ true _ _ hM h)
  · refine L_ps c126 (n := 1) (pc1 := 70) (ls1 := [jR 139, g1, jI v2, g3]) (st1 := [jI 0]) rfl ?_
    exact L_retB (c126 70 rfl) (Or.inl rfl) (hQ false _ _ hM h)
theorem k_PairList_joins_j54 {E : JE2} {v2 : Int} {t1 : Int} {t2 : Int} {μ : Mem} {M : JM} {P : JO → JM → Prop} {g1 : JV} {g3 : JV} {Q : Bool → Mem → Prop} (hM : Rl E M μ) (hQ : ∀ (r : Bool) (M1 : JM) (μ1 : Mem), Rl E M1 μ1 → Q r μ1 → P (.inl (some (.inl (b2i r)))) M1) (h : d_PairList_joins_j54 v2 t1 t2 μ Q) : JX 126 54 [jR 139, g1, jI v2, g3] [jI t2, jI t1, jR 158] M P := by
  unfold d_PairList_joins_j54 at h
  obtain ⟨hb, h⟩ := h
  refine L_iast (c126 54 rfl) hM rt158 ln158 hb (fun M hM => ?_)
  exact k_PairList_joins_j55 hM hQ h
theorem k_PairList_joins {E : JE2} {v1 : Nat} {v2 : Int} {μ : Mem} {M : JM} {Q : Bool → Mem → Prop} (hv1 : rt v1 = 7) (hM : Rl E M μ) (h : d_PairList_joins v1 v2 μ Q) : JX 126 0 (jargs 126 [jR 139, jR v1, jI v2]) [] M (PO E (QB Q) XN) := by
  unfold d_PairList_joins at h
  show JX 126 0 [jR 139, jR v1, jI v2, jU] [] M (PO E (QB Q) XN)
  generalize hP : PO E (QB Q) XN = P
  have hQ : ∀ (r : Bool) (M1 : JM) (μ1 : Mem), Rl E M1 μ1 → Q r μ1 → P (.inl (some (.inl (b2i r)))) M1 := by rw [← hP]; exact fun r M1 μ1 a b => ⟨μ1, a, r, rfl, b⟩
  clear hP
  refine L_ps c126 (n := 2) (pc1 := 2) (ls1 := [jR 139, jR v1, jI v2, jU]) (st1 := [jI v2, jR 139]) rfl ?_
  refine L_cpB (c126 2 rfl) (js_v rfl ((Rl_tag hM rt139 (by decide)).trans js99)) hh126 (k_PairList_has hM h) (fun r1 M hM h => ?_) (fun _ _ _ _ f => f.elim)
  refine L_br (p1 := 10) (p2 := 8) (c126 5 rfl) rfl jc_neb h (fun h => ?_) (fun h => ?_)
  · refine L_ps c126 (n := 1) (pc1 := 11) (ls1 := [jR 139, jR v1, jI v2, jU]) (st1 := [jR 139]) rfl ?_
    refine L_getP (d := 19) (c126 11 rfl) hM rt139 rfl ?_
    refine L_ps c126 (n := 1) (pc1 := 15) (ls1 := [jR 139, jR v1, jI v2, jU]) (st1 := [jI v2, jR 158]) rfl ?_
    obtain ⟨hb, h⟩ := h
    refine L_iald (c126 15 rfl) hM rt158 ln158 hb ?_
    refine L_nb (p1 := 55) (p2 := 19) (c126 16 rfl) rfl jc_ne h (fun h => ?_) (fun h => ?_)
    · refine L_ps c126 (n := 1) (pc1 := 20) (ls1 := [jR 139, jR v1, jI v2, jU]) (st1 := [jR 139]) rfl ?_
      refine L_getP (d := 8) (c126 20 rfl) hM rt139 rfl ?_
      refine L_ps c126 (n := 3) (pc1 := 26) (ls1 := [jR 139, jR v1, jI v2, jU]) (st1 := [jI v2, jR 139, jR v1, jR 147]) rfl ?_
      refine L_cpR (c126 26 rfl) (js_v rfl ((Rl_tag hM rt139 (by decide)).trans js117)) hh126 (k_PairList_firstTerm hM h) (fun r3 M hM hr3 h => ?_) (fun _ _ _ _ f => f.elim)
      refine L_ps c126 (n := 2) (pc1 := 31) (ls1 := [jR 139, jR v1, jI v2, jU]) (st1 := [jI v2, jR 139, jR r3, jR v1, jR 147]) rfl ?_
      refine L_cpR (c126 31 rfl) (js_v rfl ((Rl_tag hM rt139 (by decide)).trans js118)) hh126 (k_PairList_secondTerm hM h) (fun r5 M hM hr5 h => ?_) (fun _ _ _ _ f => f.elim)
      refine L_ps c126 (n := 1) (pc1 := 36) (ls1 := [jR 139, jR v1, jI v2, jU]) (st1 := [jI 50, jR r5, jR r3, jR v1, jR 147]) rfl ?_
      refine L_cB (c126 36 rfl) (js_v rfl ((Rl_tag hM rt147 (by decide)).trans js127)) hh126 (k_Rewriter_meet rt147 hv1 hr3 hr5 hM h) (fun r7 M μ8 hM h => ?_) (fun _ _ _ _ f => f.elim)
      refine L_ps c126 (n := 2) (pc1 := 41) (ls1 := [jR 139, jR v1, jI v2, jI (b2i r7)]) (st1 := [jR 139]) rfl ?_
      refine L_getP (d := 19) (c126 41 rfl) hM rt139 rfl ?_
      refine L_ps c126 (n := 2) (pc1 := 46) (ls1 := [jR 139, jR v1, jI v2, jI (b2i r7)]) (st1 := [jI (b2i r7), jI v2, jR 158]) rfl ?_
      refine L_nb (p1 := 53) (p2 := 49) (c126 46 rfl) rfl jc_eqb h (fun h => ?_) (fun h => ?_)
      · refine L_ps c126 (n := 2) (pc1 := 54) (ls1 := [jR 139, jR v1, jI v2, jI (b2i r7)]) (st1 := [jI 1, jI v2, jR 158]) rfl ?_
        exact k_PairList_joins_j54 hM hQ h
      · refine L_ps c126 (n := 1) (pc1 := 54) (ls1 := [jR 139, jR v1, jI v2, jI (b2i r7)]) (st1 := [jI 2, jI v2, jR 158]) rfl ?_
        exact k_PairList_joins_j54 hM hQ h
    · exact k_PairList_joins_j55 hM hQ h
  · refine L_ps c126 (n := 1) (pc1 := 9) (ls1 := [jR 139, jR v1, jI v2, jU]) (st1 := [jI 0]) rfl ?_
    exact L_retB (c126 9 rfl) (Or.inl rfl) (hQ false _ _ hM h)
theorem k_OB_unjoinedPairs_j48 {E : JE2} {v1 : Int} {v2 : Int} {μ : Mem} {M : JM} {P : JO → JM → Prop} {W19 : Int → Int → Mem → Prop} {Q : Int → Mem → Prop} {X : Nat → Mem → Prop} (hM : Rl E M μ) (hQ : ∀ (r : Int) (M1 : JM) (μ1 : Mem), Rl E M1 μ1 → Q r μ1 → P (.inl (some (.inl r))) M1) (hX : ∀ (k : Nat) (M1 : JM) (μ1 : Mem), Rl E M1 μ1 → X k μ1 → P (.inr k) M1) (hW19 : ∀ (v1 : Int) (v2 : Int) (M1 : JM) (μ1 : Mem), Rl E M1 μ1 → W19 v1 v2 μ1 → JX 125 19 [jR 0, jI v1, jI v2] [] M1 P) (h : d_OB_unjoinedPairs_j48 v1 v2 μ W19 Q X) : JX 125 48 [jR 0, jI v1, jI v2] [] M P := by
  unfold d_OB_unjoinedPairs_j48 at h
  refine L_ps c125 (n := 2) (pc1 := 19) (ls1 := [jR 0, jI v1, jI (wr (v2 + 1))]) (st1 := []) rfl ?_
  exact hW19 _ _ _ _ hM h
theorem k_OB_unjoinedPairs_b19 {E : JE2} {v1 : Int} {v2 : Int} {μ : Mem} {M : JM} {P : JO → JM → Prop} {W19 : Int → Int → Mem → Prop} {Q : Int → Mem → Prop} {X : Nat → Mem → Prop} (hM : Rl E M μ) (hQ : ∀ (r : Int) (M1 : JM) (μ1 : Mem), Rl E M1 μ1 → Q r μ1 → P (.inl (some (.inl r))) M1) (hX : ∀ (k : Nat) (M1 : JM) (μ1 : Mem), Rl E M1 μ1 → X k μ1 → P (.inr k) M1) (hW19 : ∀ (v1 : Int) (v2 : Int) (M1 : JM) (μ1 : Mem), Rl E M1 μ1 → W19 v1 v2 μ1 → JX 125 19 [jR 0, jI v1, jI v2] [] M1 P) (h : d_OB_unjoinedPairs_b19 v1 v2 μ W19 Q X) : JX 125 19 [jR 0, jI v1, jI v2] [] M P := by
  unfold d_OB_unjoinedPairs_b19 at h
  refine L_ps c125 (n := 2) (pc1 := 21) (ls1 := [jR 0, jI v1, jI v2]) (st1 := [jR 0, jI v2]) rfl ?_
  refine L_getP (d := 139) (c125 21 rfl) hM rt0 rfl ?_
  refine L_getI (c125 24 rfl) hM rt139 rfl ?_
  refine L_nb (p1 := 54) (p2 := 30) (c125 27 rfl) rfl jc_ge h (fun h => ?_) (fun h => ?_)
  · refine L_ps c125 (n := 1) (pc1 := 31) (ls1 := [jR 0, jI v1, jI v2]) (st1 := [jR 0]) rfl ?_
    refine L_getP (d := 139) (c125 31 rfl) hM rt0 rfl ?_
    refine L_ps c125 (n := 1) (pc1 := 35) (ls1 := [jR 0, jI v1, jI v2]) (st1 := [jR 0, jR 139]) rfl ?_
    refine L_getP (d := 5) (c125 35 rfl) hM rt0 rfl ?_
    refine L_ps c125 (n := 1) (pc1 := 39) (ls1 := [jR 0, jI v1, jI v2]) (st1 := [jI v2, jR 5, jR 139]) rfl ?_
    refine L_cB (c125 39 rfl) (js_v rfl ((Rl_tag hM rt139 (by decide)).trans js126)) hh125 (k_PairList_joins rt5 hM h) (fun r5 M μ6 hM h => ?_) (fun _ _ _ _ f => f.elim)
    refine L_br (p1 := 48) (p2 := 45) (c125 42 rfl) rfl jc_neb h (fun h => ?_) (fun h => ?_)
    · exact k_OB_unjoinedPairs_j48 hM hQ hX hW19 h
    · refine L_ps c125 (n := 1) (pc1 := 48) (ls1 := [jR 0, jI (wr (v1 + 1)), jI v2]) (st1 := []) rfl ?_
      exact k_OB_unjoinedPairs_j48 hM hQ hX hW19 h
  · refine L_ps c125 (n := 1) (pc1 := 55) (ls1 := [jR 0, jI v1, jI v2]) (st1 := [jI v1]) rfl ?_
    exact L_retI (c125 55 rfl) (hQ _ _ _ hM h)
theorem k_OB_unjoinedPairs_l19 {E : JE2} {v1 : Int} {v2 : Int} {μ : Mem} {M : JM} {P : JO → JM → Prop} {Q : Int → Mem → Prop} {X : Nat → Mem → Prop} (hM : Rl E M μ) (hQ : ∀ (r : Int) (M1 : JM) (μ1 : Mem), Rl E M1 μ1 → Q r μ1 → P (.inl (some (.inl r))) M1) (hX : ∀ (k : Nat) (M1 : JM) (μ1 : Mem), Rl E M1 μ1 → X k μ1 → P (.inr k) M1) (h : d_OB_unjoinedPairs_l19 v1 v2 μ Q X) : JX 125 19 [jR 0, jI v1, jI v2] [] M P := by
  refine h (fun v1 v2 μ => ∀ (M : JM), Rl E M μ → JX 125 19 [jR 0, jI v1, jI v2] [] M P) ?_ _ hM
  intro v1 v2 μ h M hM
  exact k_OB_unjoinedPairs_b19 hM hQ hX (fun v1 v2 M μ hM h => h M hM) h
theorem k_OB_unjoinedPairs {E : JE2} {μ : Mem} {M : JM} {Q : Int → Mem → Prop} {X : Nat → Mem → Prop} (hM : Rl E M μ) (h : d_OB_unjoinedPairs μ Q X) : JX 125 0 (jargs 125 [jR 0]) [] M (PO E (QI Q) X) := by
  unfold d_OB_unjoinedPairs at h
  show JX 125 0 [jR 0, jU, jU] [] M (PO E (QI Q) X)
  generalize hP : PO E (QI Q) X = P
  have hQ : ∀ (r : Int) (M1 : JM) (μ1 : Mem), Rl E M1 μ1 → Q r μ1 → P (.inl (some (.inl r))) M1 := by rw [← hP]; exact fun r M1 μ1 a b => ⟨μ1, a, r, rfl, b⟩
  have hX : ∀ (k : Nat) (M1 : JM) (μ1 : Mem), Rl E M1 μ1 → X k μ1 → P (.inr k) M1 := by rw [← hP]; exact fun k M1 μ1 a b => ⟨μ1, a, b⟩
  clear hP
  refine L_ps c125 (n := 1) (pc1 := 1) (ls1 := [jR 0, jU, jU]) (st1 := [jR 0]) rfl ?_
  refine L_cV (c125 1 rfl) (js_v rfl ((Rl_tag hM rt0 (by decide)).trans js78)) hh125 (k_OB_requireSystem hM h) (fun M μ2 hM h => ?_) (fun k M μx hM hx => hX _ _ _ hM hx)
  refine L_ps c125 (n := 1) (pc1 := 5) (ls1 := [jR 0, jU, jU]) (st1 := [jR 0]) rfl ?_
  refine L_getP (d := 139) (c125 5 rfl) hM rt0 rfl ?_
  refine L_ps c125 (n := 1) (pc1 := 9) (ls1 := [jR 0, jU, jU]) (st1 := [jR 0, jR 139]) rfl ?_
  refine L_getP (d := 5) (c125 9 rfl) hM rt0 rfl ?_
  refine L_cV (c125 12 rfl) (js_v rfl ((Rl_tag hM rt139 (by decide)).trans js98)) hh125 (k_PairList_refresh rt5 hM h) (fun M μ4 hM h => ?_) (fun _ _ _ _ f => f.elim)
  refine L_ps c125 (n := 4) (pc1 := 19) (ls1 := [jR 0, jI 0, jI 0]) (st1 := []) rfl ?_
  exact k_OB_unjoinedPairs_l19 hM hQ hX h
theorem k_History_at_j22 {E : JE2} {μ : Mem} {M : JM} {P : JO → JM → Prop} {g0 : JV} {g1 : JV} {Q : Nat → Prop} (hM : Rl E M μ) (hQ : ∀ (r : Nat) (M1 : JM), Rl E M1 μ → rt r = 7 → Q r → P (.inl (some (.inr (.inl r)))) M1) (h : d_History_at_j22 μ Q) : JX 133 22 [g0, g1] [] M P := by
  unfold d_History_at_j22 at h
  exact h.elim
theorem k_History_at {E : JE2} {v1 : Int} {μ : Mem} {M : JM} {Q : Nat → Prop} (hM : Rl E M μ) (h : d_History_at v1 μ Q) : JX 133 0 (jargs 133 [jR 247, jI v1]) [] M (PO E (pQR μ 7 Q) XN) := by
  unfold d_History_at at h
  show JX 133 0 [jR 247, jI v1] [] M (PO E (pQR μ 7 Q) XN)
  generalize hP : PO E (pQR μ 7 Q) XN = P
  have hQ : ∀ (r : Nat) (M1 : JM), Rl E M1 μ → rt r = 7 → Q r → P (.inl (some (.inr (.inl r)))) M1 := by rw [← hP]; exact fun r M1 a c b => ⟨μ, a, rfl, r, rfl, c, b⟩
  clear hP
  refine L_ps c133 (n := 1) (pc1 := 1) (ls1 := [jR 247, jI v1]) (st1 := [jI v1]) rfl ?_
  refine L_br (p1 := 22) (p2 := 4) (c133 1 rfl) rfl jc_lt h (fun h => ?_) (fun h => ?_)
  · exact k_History_at_j22 hM hQ h
  · refine L_ps c133 (n := 2) (pc1 := 6) (ls1 := [jR 247, jI v1]) (st1 := [jR 247, jI v1]) rfl ?_
    refine L_getP (d := 1) (c133 6 rfl) hM rt247 rfl ?_
    refine L_alen (n := 8) (z := 8) (c133 9 rfl) hM rt248 (by decide) ln248 (by decide) rfl ?_
    refine L_nb (p1 := 22) (p2 := 13) (c133 10 rfl) rfl jc_ge h (fun h => ?_) (fun h => ?_)
    · refine L_ps c133 (n := 1) (pc1 := 14) (ls1 := [jR 247, jI v1]) (st1 := [jR 247]) rfl ?_
      refine L_getP (d := 1) (c133 14 rfl) hM rt247 rfl ?_
      refine L_ps c133 (n := 1) (pc1 := 18) (ls1 := [jR 247, jI v1]) (st1 := [jI v1, jR 248]) rfl ?_
      obtain ⟨hb, h⟩ := h
      have e1 : rt (248 + (1 + 52 * v1.toNat)) = 7 := re_112 rt248 (by omega)
      refine L_aald (c133 18 rfl) hM rt248 (by decide) ln248 hb rfl ?_
      refine L_ps c133 (n := 1) (pc1 := 23) (ls1 := [jR 247, jI v1]) (st1 := [jR (248 + (1 + 52 * v1.toNat))]) rfl ?_
      exact L_end (c133 23 rfl) rfl (hQ _ _ hM e1 h)
    · exact k_History_at_j22 hM hQ h
theorem k_History_keep_j22 {E : JE2} {v1 : Nat} {t1 : Int} {μ : Mem} {M : JM} {P : JO → JM → Prop} {g2 : JV} {Q : Mem → Prop} (hv1 : rt v1 = 7) (hM : Rl E M μ) (hQ : ∀ (M1 : JM) (μ1 : Mem), Rl E M1 μ1 → Q μ1 → P (.inl none) M1) (h : d_History_keep_j22 v1 t1 μ Q) : JX 132 22 [jR 247, jR v1, g2] [jI t1, jR 247] M P := by
  unfold d_History_keep_j22 at h
  refine L_putI (c132 22 rfl) hM rt247 rfl (fun M hM => ?_)
  refine L_ps c132 (n := 2) (pc1 := 27) (ls1 := [jR 247, jR v1, g2]) (st1 := [jR 247, jR 247]) rfl ?_
  refine L_getI (c132 27 rfl) hM rt247 rfl ?_
  refine L_ps c132 (n := 3) (pc1 := 34) (ls1 := [jR 247, jR v1, g2]) (st1 := [jI 8, jI (wr (((mup μ 247 1 t1) 247 0) + 1)), jR 247]) rfl ?_
  refine L_cpI (c132 34 rfl) (js_t rfl) hh132 (k_Math_min hM h) (fun r1 M hM h => ?_) (fun _ _ _ _ f => f.elim)
  refine L_putI (c132 37 rfl) hM rt247 rfl (fun M hM => ?_)
  refine L_ps c132 (n := 2) (pc1 := 42) (ls1 := [jR 247, jR v1, g2]) (st1 := [jR 247, jR 247]) rfl ?_
  refine L_getI (c132 42 rfl) hM rt247 rfl ?_
  refine L_cpR (c132 45 rfl) (js_v rfl ((Rl_tag hM rt247 (by decide)).trans js133)) hh132 (k_History_at hM h) (fun r3 M hM hr3 h => ?_) (fun _ _ _ _ f => f.elim)
  refine L_ps c132 (n := 5) (pc1 := 55) (ls1 := [jR 247, jR v1, jR r3]) (st1 := [jR v1, jR r3]) rfl ?_
  refine L_cV (c132 55 rfl) (js_v rfl ((Rl_tag hM hr3 (by decide)).trans js75)) hh132 (k_State_copyFrom hr3 hv1 hM h) (fun M μ6 hM h => ?_) (fun _ _ _ _ f => f.elim)
  exact L_end (c132 58 rfl) rfl (hQ _ _ hM h)
theorem k_History_keep {E : JE2} {v1 : Nat} {μ : Mem} {M : JM} {Q : Mem → Prop} (hv1 : rt v1 = 7) (hM : Rl E M μ) (h : d_History_keep v1 μ Q) : JX 132 0 (jargs 132 [jR 247, jR v1]) [] M (PO E (QV Q) XN) := by
  unfold d_History_keep at h
  show JX 132 0 [jR 247, jR v1, jU] [] M (PO E (QV Q) XN)
  generalize hP : PO E (QV Q) XN = P
  have hQ : ∀ (M1 : JM) (μ1 : Mem), Rl E M1 μ1 → Q μ1 → P (.inl none) M1 := by rw [← hP]; exact fun M1 μ1 a b => ⟨μ1, a, rfl, b⟩
  clear hP
  refine L_ps c132 (n := 2) (pc1 := 2) (ls1 := [jR 247, jR v1, jU]) (st1 := [jR 247, jR 247]) rfl ?_
  refine L_getI (c132 2 rfl) hM rt247 rfl ?_
  refine L_ps c132 (n := 3) (pc1 := 9) (ls1 := [jR 247, jR v1, jU]) (st1 := [jI 8, jI (wr ((μ 247 1) + 1)), jR 247]) rfl ?_
  refine L_nb (p1 := 21) (p2 := 12) (c132 9 rfl) rfl jc_ge h (fun h => ?_) (fun h => ?_)
  · refine L_ps c132 (n := 1) (pc1 := 13) (ls1 := [jR 247, jR v1, jU]) (st1 := [jR 247, jR 247]) rfl ?_
    refine L_getI (c132 13 rfl) hM rt247 rfl ?_
    refine L_ps c132 (n := 3) (pc1 := 22) (ls1 := [jR 247, jR v1, jU]) (st1 := [jI (wr ((μ 247 1) + 1)), jR 247]) rfl ?_
    exact k_History_keep_j22 hv1 hM hQ h
  · refine L_ps c132 (n := 1) (pc1 := 22) (ls1 := [jR 247, jR v1, jU]) (st1 := [jI 0, jR 247]) rfl ?_
    exact k_History_keep_j22 hv1 hM hQ h
theorem k_OB_remember {E : JE2} {μ : Mem} {M : JM} {Q : Mem → Prop} (hM : Rl E M μ) (h : d_OB_remember μ Q) : JX 131 0 (jargs 131 [jR 0]) [] M (PO E (QV Q) XN) := by
  unfold d_OB_remember at h
  show JX 131 0 [jR 0] [] M (PO E (QV Q) XN)
  generalize hP : PO E (QV Q) XN = P
  have hQ : ∀ (M1 : JM) (μ1 : Mem), Rl E M1 μ1 → Q μ1 → P (.inl none) M1 := by rw [← hP]; exact fun M1 μ1 a b => ⟨μ1, a, rfl, b⟩
  clear hP
  refine L_ps c131 (n := 1) (pc1 := 1) (ls1 := [jR 0]) (st1 := [jR 0]) rfl ?_
  refine L_getP (d := 247) (c131 1 rfl) hM rt0 rfl ?_
  refine L_ps c131 (n := 1) (pc1 := 5) (ls1 := [jR 0]) (st1 := [jR 0, jR 247]) rfl ?_
  refine L_getP (d := 5) (c131 5 rfl) hM rt0 rfl ?_
  refine L_cV (c131 8 rfl) (js_v rfl ((Rl_tag hM rt247 (by decide)).trans js132)) hh131 (k_History_keep rt5 hM h) (fun M μ2 hM h => ?_) (fun _ _ _ _ f => f.elim)
  refine L_ps c131 (n := 1) (pc1 := 12) (ls1 := [jR 0]) (st1 := [jR 0]) rfl ?_
  refine L_getP (d := 139) (c131 12 rfl) hM rt0 rfl ?_
  refine L_ps c131 (n := 1) (pc1 := 16) (ls1 := [jR 0]) (st1 := [jI 1, jR 139]) rfl ?_
  refine L_putB (t := 2) (c131 16 rfl) hM rt139 rfl (Or.inr rfl) (fun M hM => ?_)
  exact L_end (c131 19 rfl) rfl (hQ _ _ hM h)
theorem k_OB_takeStep {E : JE2} {v1 : Nat} {v2 : Int} {μ : Mem} {M : JM} {Q : Int → Mem → Prop} {X : Nat → Mem → Prop} (hv1 : rt v1 = 8) (hM : Rl E M μ) (h : d_OB_takeStep v1 v2 μ Q X) : JX 130 0 (jargs 130 [jR 0, jR v1, jI v2]) [] M (PO E (QI Q) X) := by
  unfold d_OB_takeStep at h
  show JX 130 0 [jR 0, jR v1, jI v2, jU] [] M (PO E (QI Q) X)
  generalize hP : PO E (QI Q) X = P
  have hQ : ∀ (r : Int) (M1 : JM) (μ1 : Mem), Rl E M1 μ1 → Q r μ1 → P (.inl (some (.inl r))) M1 := by rw [← hP]; exact fun r M1 μ1 a b => ⟨μ1, a, r, rfl, b⟩
  have hX : ∀ (k : Nat) (M1 : JM) (μ1 : Mem), Rl E M1 μ1 → X k μ1 → P (.inr k) M1 := by rw [← hP]; exact fun k M1 μ1 a b => ⟨μ1, a, b⟩
  clear hP
  refine L_ps c130 (n := 1) (pc1 := 1) (ls1 := [jR 0, jR v1, jI v2, jU]) (st1 := [jR 0]) rfl ?_
  refine L_getP (d := 57) (c130 1 rfl) hM rt0 rfl ?_
  refine L_ps c130 (n := 1) (pc1 := 5) (ls1 := [jR 0, jR v1, jI v2, jU]) (st1 := [jR 0, jR 57]) rfl ?_
  refine L_getP (d := 5) (c130 5 rfl) hM rt0 rfl ?_
  refine L_ps c130 (n := 2) (pc1 := 10) (ls1 := [jR 0, jR v1, jI v2, jU]) (st1 := [jI v2, jR v1, jR 5, jR 57]) rfl ?_
  refine L_cI (c130 10 rfl) (js_v rfl ((Rl_tag hM rt57 (by decide)).trans js62)) hh130 (k_Rewriter_step rt57 rt5 hv1 hM h) (fun r1 M μ2 hM h => ?_) (fun _ _ _ _ f => f.elim)
  refine L_ps c130 (n := 3) (pc1 := 16) (ls1 := [jR 0, jR v1, jI v2, jI r1]) (st1 := [jI (-1), jI r1]) rfl ?_
  refine L_nb (p1 := 27) (p2 := 19) (c130 16 rfl) rfl jc_ne h (fun h => ?_) (fun h => ?_)
  · exact L_throw (k := 2) (c130 19 rfl) (hX _ _ _ (Rl_throw hM) h)
  · refine L_ps c130 (n := 1) (pc1 := 28) (ls1 := [jR 0, jR v1, jI v2, jI r1]) (st1 := [jR 0]) rfl ?_
    refine L_cV (c130 28 rfl) (js_v rfl ((Rl_tag hM rt0 (by decide)).trans js131)) hh130 (k_OB_remember hM h) (fun M μ4 hM h => ?_) (fun _ _ _ _ f => f.elim)
    refine L_ps c130 (n := 2) (pc1 := 33) (ls1 := [jR 0, jR v1, jI v2, jI r1]) (st1 := [jR 0, jR v1]) rfl ?_
    refine L_getP (d := 57) (c130 33 rfl) hM rt0 rfl ?_
    refine L_getP (d := 1) (c130 36 rfl) hM rt57 rfl ?_
    refine L_cV (c130 39 rfl) (js_v rfl ((Rl_tag hM hv1 (by decide)).trans js71)) hh130 (k_Term_copyFrom hv1 rt58 hM h) (fun M μ6 hM h => ?_) (fun _ _ _ _ f => f.elim)
    refine L_ps c130 (n := 1) (pc1 := 43) (ls1 := [jR 0, jR v1, jI v2, jI r1]) (st1 := [jI r1]) rfl ?_
    exact L_retI (c130 43 rfl) (hQ _ _ _ hM h)
theorem k_OB_stepInnermost {E : JE2} {v1 : Int} {μ : Mem} {M : JM} {Q : Int → Mem → Prop} {X : Nat → Mem → Prop} (hM : Rl E M μ) (h : d_OB_stepInnermost v1 μ Q X) : JX 129 0 (jargs 129 [jR 0, jI v1]) [] M (PO E (QI Q) X) := by
  unfold d_OB_stepInnermost at h
  show JX 129 0 [jR 0, jI v1] [] M (PO E (QI Q) X)
  generalize hP : PO E (QI Q) X = P
  have hQ : ∀ (r : Int) (M1 : JM) (μ1 : Mem), Rl E M1 μ1 → Q r μ1 → P (.inl (some (.inl r))) M1 := by rw [← hP]; exact fun r M1 μ1 a b => ⟨μ1, a, r, rfl, b⟩
  have hX : ∀ (k : Nat) (M1 : JM) (μ1 : Mem), Rl E M1 μ1 → X k μ1 → P (.inr k) M1 := by rw [← hP]; exact fun k M1 μ1 a b => ⟨μ1, a, b⟩
  clear hP
  refine L_ps c129 (n := 3) (pc1 := 3) (ls1 := [jR 0, jI v1]) (st1 := [jI v1, jR 0, jR 0]) rfl ?_
  refine L_cR (c129 3 rfl) (js_v rfl ((Rl_tag hM rt0 (by decide)).trans js81)) hh129 (k_OB_requireTerm hM h) (fun r1 M μ2 hM hr1 h => ?_) (fun k M μx hM hx => hX _ _ _ hM hx)
  refine L_ps c129 (n := 1) (pc1 := 7) (ls1 := [jR 0, jI v1]) (st1 := [jI 1, jR r1, jR 0]) rfl ?_
  refine L_cI (c129 7 rfl) (js_v rfl ((Rl_tag hM rt0 (by decide)).trans js130)) hh129 (k_OB_takeStep hr1 hM h) (fun r3 M μ4 hM h => ?_) (fun k M μx hM hx => hX _ _ _ hM hx)
  exact L_retI (c129 10 rfl) (hQ _ _ _ hM h)
theorem k_OB_stepOutermost {E : JE2} {v1 : Int} {μ : Mem} {M : JM} {Q : Int → Mem → Prop} {X : Nat → Mem → Prop} (hM : Rl E M μ) (h : d_OB_stepOutermost v1 μ Q X) : JX 134 0 (jargs 134 [jR 0, jI v1]) [] M (PO E (QI Q) X) := by
  unfold d_OB_stepOutermost at h
  show JX 134 0 [jR 0, jI v1] [] M (PO E (QI Q) X)
  generalize hP : PO E (QI Q) X = P
  have hQ : ∀ (r : Int) (M1 : JM) (μ1 : Mem), Rl E M1 μ1 → Q r μ1 → P (.inl (some (.inl r))) M1 := by rw [← hP]; exact fun r M1 μ1 a b => ⟨μ1, a, r, rfl, b⟩
  have hX : ∀ (k : Nat) (M1 : JM) (μ1 : Mem), Rl E M1 μ1 → X k μ1 → P (.inr k) M1 := by rw [← hP]; exact fun k M1 μ1 a b => ⟨μ1, a, b⟩
  clear hP
  refine L_ps c134 (n := 3) (pc1 := 3) (ls1 := [jR 0, jI v1]) (st1 := [jI v1, jR 0, jR 0]) rfl ?_
  refine L_cR (c134 3 rfl) (js_v rfl ((Rl_tag hM rt0 (by decide)).trans js81)) hh134 (k_OB_requireTerm hM h) (fun r1 M μ2 hM hr1 h => ?_) (fun k M μx hM hx => hX _ _ _ hM hx)
  refine L_ps c134 (n := 1) (pc1 := 7) (ls1 := [jR 0, jI v1]) (st1 := [jI 0, jR r1, jR 0]) rfl ?_
  refine L_cI (c134 7 rfl) (js_v rfl ((Rl_tag hM rt0 (by decide)).trans js130)) hh134 (k_OB_takeStep hr1 hM h) (fun r3 M μ4 hM h => ?_) (fun k M μx hM hx => hX _ _ _ hM hx)
  exact L_retI (c134 10 rfl) (hQ _ _ _ hM h)
theorem k_OB_normalize {E : JE2} {v1 : Int} {μ : Mem} {M : JM} {Q : Int → Mem → Prop} {X : Nat → Mem → Prop} (hM : Rl E M μ) (h : d_OB_normalize v1 μ Q X) : JX 135 0 (jargs 135 [jR 0, jI v1]) [] M (PO E (QI Q) X) := by
  unfold d_OB_normalize at h
  show JX 135 0 [jR 0, jI v1, jU, jU] [] M (PO E (QI Q) X)
  generalize hP : PO E (QI Q) X = P
  have hQ : ∀ (r : Int) (M1 : JM) (μ1 : Mem), Rl E M1 μ1 → Q r μ1 → P (.inl (some (.inl r))) M1 := by rw [← hP]; exact fun r M1 μ1 a b => ⟨μ1, a, r, rfl, b⟩
  have hX : ∀ (k : Nat) (M1 : JM) (μ1 : Mem), Rl E M1 μ1 → X k μ1 → P (.inr k) M1 := by rw [← hP]; exact fun k M1 μ1 a b => ⟨μ1, a, b⟩
  clear hP
  refine L_ps c135 (n := 2) (pc1 := 2) (ls1 := [jR 0, jI v1, jU, jU]) (st1 := [jI v1, jR 0]) rfl ?_
  refine L_cR (c135 2 rfl) (js_v rfl ((Rl_tag hM rt0 (by decide)).trans js81)) hh135 (k_OB_requireTerm hM h) (fun r1 M μ2 hM hr1 h => ?_) (fun k M μx hM hx => hX _ _ _ hM hx)
  refine L_ps c135 (n := 2) (pc1 := 7) (ls1 := [jR 0, jI v1, jR r1, jU]) (st1 := [jR 0]) rfl ?_
  refine L_getP (d := 57) (c135 7 rfl) hM rt0 rfl ?_
  refine L_ps c135 (n := 1) (pc1 := 11) (ls1 := [jR 0, jI v1, jR r1, jU]) (st1 := [jR 0, jR 57]) rfl ?_
  refine L_getP (d := 5) (c135 11 rfl) hM rt0 rfl ?_
  refine L_ps c135 (n := 3) (pc1 := 19) (ls1 := [jR 0, jI v1, jR r1, jU]) (st1 := [jI 200, jI 1, jR r1, jR 5, jR 57]) rfl ?_
  refine L_cI (c135 19 rfl) (js_v rfl ((Rl_tag hM rt57 (by decide)).trans js94)) hh135 (k_Rewriter_reduce rt57 rt5 hr1 hM h) (fun r3 M μ4 hM h => ?_) (fun _ _ _ _ f => f.elim)
  refine L_ps c135 (n := 3) (pc1 := 25) (ls1 := [jR 0, jI v1, jR r1, jI r3]) (st1 := [jI (-1), jI r3]) rfl ?_
  refine L_nb (p1 := 36) (p2 := 28) (c135 25 rfl) rfl jc_ne h (fun h => ?_) (fun h => ?_)
  · exact L_throw (k := 2) (c135 28 rfl) (hX _ _ _ (Rl_throw hM) h)
  · refine L_ps c135 (n := 1) (pc1 := 37) (ls1 := [jR 0, jI v1, jR r1, jI r3]) (st1 := [jR 0]) rfl ?_
    refine L_cV (c135 37 rfl) (js_v rfl ((Rl_tag hM rt0 (by decide)).trans js131)) hh135 (k_OB_remember hM h) (fun M μ6 hM h => ?_) (fun _ _ _ _ f => f.elim)
    refine L_ps c135 (n := 2) (pc1 := 42) (ls1 := [jR 0, jI v1, jR r1, jI r3]) (st1 := [jR 0, jR r1]) rfl ?_
    refine L_getP (d := 57) (c135 42 rfl) hM rt0 rfl ?_
    refine L_getP (d := 3) (c135 45 rfl) hM rt57 rfl ?_
    refine L_cV (c135 48 rfl) (js_v rfl ((Rl_tag hM hr1 (by decide)).trans js71)) hh135 (k_Term_copyFrom hr1 rt60 hM h) (fun M μ8 hM h => ?_) (fun _ _ _ _ f => f.elim)
    refine L_ps c135 (n := 1) (pc1 := 52) (ls1 := [jR 0, jI v1, jR r1, jI r3]) (st1 := [jI r3]) rfl ?_
    exact L_retI (c135 52 rfl) (hQ _ _ _ hM h)
theorem k_OB_copySubterm {E : JE2} {v1 : Int} {v2 : Int} {μ : Mem} {M : JM} {Q : Int → Mem → Prop} {X : Nat → Mem → Prop} (hM : Rl E M μ) (h : d_OB_copySubterm v1 v2 μ Q X) : JX 136 0 (jargs 136 [jR 0, jI v1, jI v2]) [] M (PO E (QI Q) X) := by
  unfold d_OB_copySubterm at h
  show JX 136 0 [jR 0, jI v1, jI v2, jU] [] M (PO E (QI Q) X)
  generalize hP : PO E (QI Q) X = P
  have hQ : ∀ (r : Int) (M1 : JM) (μ1 : Mem), Rl E M1 μ1 → Q r μ1 → P (.inl (some (.inl r))) M1 := by rw [← hP]; exact fun r M1 μ1 a b => ⟨μ1, a, r, rfl, b⟩
  have hX : ∀ (k : Nat) (M1 : JM) (μ1 : Mem), Rl E M1 μ1 → X k μ1 → P (.inr k) M1 := by rw [← hP]; exact fun k M1 μ1 a b => ⟨μ1, a, b⟩
  clear hP
  refine L_ps c136 (n := 3) (pc1 := 3) (ls1 := [jR 0, jI v1, jI v2, jU]) (st1 := [jI v2, jI v1, jR 0]) rfl ?_
  refine L_cR (c136 3 rfl) (js_v rfl ((Rl_tag hM rt0 (by decide)).trans js84)) hh136 (k_OB_requireNode hM h) (fun r1 M μ2 hM hr1 h => ?_) (fun k M μx hM hx => hX _ _ _ hM hx)
  refine L_ps c136 (n := 2) (pc1 := 8) (ls1 := [jR 0, jI v1, jI v2, jR r1]) (st1 := [jR 0]) rfl ?_
  refine L_getP (d := 5) (c136 8 rfl) hM rt0 rfl ?_
  refine L_getI (c136 11 rfl) hM rt5 rfl ?_
  refine L_ps c136 (n := 1) (pc1 := 16) (ls1 := [jR 0, jI v1, jI v2, jR r1]) (st1 := [jI 6, jI (μ2 5 1)]) rfl ?_
  refine L_br (p1 := 27) (p2 := 19) (c136 16 rfl) rfl jc_lt h (fun h => ?_) (fun h => ?_)
  · refine L_ps c136 (n := 1) (pc1 := 28) (ls1 := [jR 0, jI v1, jI v2, jR r1]) (st1 := [jR 0]) rfl ?_
    refine L_cV (c136 28 rfl) (js_v rfl ((Rl_tag hM rt0 (by decide)).trans js131)) hh136 (k_OB_remember hM h) (fun M μ4 hM h => ?_) (fun _ _ _ _ f => f.elim)
    refine L_ps c136 (n := 1) (pc1 := 32) (ls1 := [jR 0, jI v1, jI v2, jR r1]) (st1 := [jR 0]) rfl ?_
    refine L_getP (d := 5) (c136 32 rfl) hM rt0 rfl ?_
    refine L_ps c136 (n := 4) (pc1 := 39) (ls1 := [jR 0, jI v1, jI v2, jR r1]) (st1 := [jI v2, jR r1, jI v2, jR r1, jR 5]) rfl ?_
    refine L_cpI (c136 39 rfl) (js_v rfl ((Rl_tag hM hr1 (by decide)).trans js68)) hh136 (k_Term_end hr1 hM h) (fun r5 M hM h => ?_) (fun _ _ _ _ f => f.elim)
    refine L_cV (c136 42 rfl) (js_v rfl ((Rl_tag hM rt5 (by decide)).trans js56)) hh136 (k_State_addTerm rt5 hr1 hM h) (fun M μ8 hM h => ?_) (fun _ _ _ _ f => f.elim)
    refine L_ps c136 (n := 1) (pc1 := 46) (ls1 := [jR 0, jI v1, jI v2, jR r1]) (st1 := [jR 0]) rfl ?_
    refine L_getP (d := 5) (c136 46 rfl) hM rt0 rfl ?_
    refine L_getI (c136 49 rfl) hM rt5 rfl ?_
    refine L_ps c136 (n := 2) (pc1 := 54) (ls1 := [jR 0, jI v1, jI v2, jR r1]) (st1 := [jI (wr ((μ8 5 1) - 1))]) rfl ?_
    exact L_retI (c136 54 rfl) (hQ _ _ _ hM h)
  · exact L_throw (k := 2) (c136 19 rfl) (hX _ _ _ (Rl_throw hM) h)
theorem k_OB_replaceSubterm_j82 {E : JE2} {v4 : Nat} {t0 : Int} {μ : Mem} {M : JM} {P : JO → JM → Prop} {g1 : JV} {g2 : JV} {g3 : JV} {g5 : JV} {g6 : JV} {Q : Int → Mem → Prop} {X : Nat → Mem → Prop} (hg3 : jc2 g3 = false) (hg5 : jc2 g5 = false) (hv4 : rt v4 = 8) (hM : Rl E M μ) (hQ : ∀ (r : Int) (M1 : JM) (μ1 : Mem), Rl E M1 μ1 → Q r μ1 → P (.inl (some (.inl r))) M1) (hX : ∀ (k : Nat) (M1 : JM) (μ1 : Mem), Rl E M1 μ1 → X k μ1 → P (.inr k) M1) (h : d_OB_replaceSubterm_j82 v4 t0 μ Q X) : JX 137 82 [jR 0, g1, g2, g3, jR v4, g5, g6] [jI t0] M P := by
  unfold d_OB_replaceSubterm_j82 at h
  refine L_ist (c137 82 rfl) (hg5) (Nat.le_of_ble_eq_true rfl) ?_
  show JX 137 84 [jR 0, g1, g2, g3, jR v4, g5, jI t0] [] M P
  refine L_ps c137 (n := 1) (pc1 := 86) (ls1 := [jR 0, g1, g2, g3, jR v4, g5, jI t0]) (st1 := [jI t0]) rfl ?_
  refine L_nb (p1 := 97) (p2 := 89) (c137 86 rfl) rfl jc_ne h (fun h => ?_) (fun h => ?_)
  · exact L_throw (k := 2) (c137 89 rfl) (hX _ _ _ (Rl_throw hM) h)
  · refine L_ps c137 (n := 1) (pc1 := 98) (ls1 := [jR 0, g1, g2, g3, jR v4, g5, jI t0]) (st1 := [jR 0]) rfl ?_
    refine L_cV (c137 98 rfl) (js_v rfl ((Rl_tag hM rt0 (by decide)).trans js131)) hh137 (k_OB_remember hM h) (fun M μ16 hM h => ?_) (fun _ _ _ _ f => f.elim)
    refine L_ps c137 (n := 2) (pc1 := 104) (ls1 := [jR 0, g1, g2, g3, jR v4, g5, jI t0]) (st1 := [jR 0, jR v4]) rfl ?_
    refine L_getP (d := 769) (c137 104 rfl) hM rt0 rfl ?_
    refine L_cV (c137 107 rfl) (js_v rfl ((Rl_tag hM hv4 (by decide)).trans js71)) hh137 (k_Term_copyFrom hv4 rt769 hM h) (fun M μ18 hM h => ?_) (fun _ _ _ _ f => f.elim)
    refine L_ps c137 (n := 1) (pc1 := 112) (ls1 := [jR 0, g1, g2, g3, jR v4, g5, jI t0]) (st1 := [jR v4]) rfl ?_
    refine L_getI (c137 112 rfl) hM hv4 rfl ?_
    exact L_retI (c137 115 rfl) (hQ _ _ _ hM h)
theorem k_OB_replaceSubterm_j81 {E : JE2} {v4 : Nat} {μ : Mem} {M : JM} {P : JO → JM → Prop} {g1 : JV} {g2 : JV} {g3 : JV} {g5 : JV} {g6 : JV} {Q : Int → Mem → Prop} {X : Nat → Mem → Prop} (hg3 : jc2 g3 = false) (hg5 : jc2 g5 = false) (hv4 : rt v4 = 8) (hM : Rl E M μ) (hQ : ∀ (r : Int) (M1 : JM) (μ1 : Mem), Rl E M1 μ1 → Q r μ1 → P (.inl (some (.inl r))) M1) (hX : ∀ (k : Nat) (M1 : JM) (μ1 : Mem), Rl E M1 μ1 → X k μ1 → P (.inr k) M1) (h : d_OB_replaceSubterm_j81 v4 μ Q X) : JX 137 81 [jR 0, g1, g2, g3, jR v4, g5, g6] [] M P := by
  unfold d_OB_replaceSubterm_j81 at h
  refine L_ps c137 (n := 1) (pc1 := 82) (ls1 := [jR 0, g1, g2, g3, jR v4, g5, g6]) (st1 := [jI 0]) rfl ?_
  exact k_OB_replaceSubterm_j82 hg3 hg5 hv4 hM hQ hX h
theorem k_OB_replaceSubterm {E : JE2} {v1 : Int} {v2 : Int} {v3 : Int} {μ : Mem} {M : JM} {Q : Int → Mem → Prop} {X : Nat → Mem → Prop} (hM : Rl E M μ) (h : d_OB_replaceSubterm v1 v2 v3 μ Q X) : JX 137 0 (jargs 137 [jR 0, jI v1, jI v2, jI v3]) [] M (PO E (QI Q) X) := by
  unfold d_OB_replaceSubterm at h
  show JX 137 0 [jR 0, jI v1, jI v2, jI v3, jU, jU, jU] [] M (PO E (QI Q) X)
  generalize hP : PO E (QI Q) X = P
  have hQ : ∀ (r : Int) (M1 : JM) (μ1 : Mem), Rl E M1 μ1 → Q r μ1 → P (.inl (some (.inl r))) M1 := by rw [← hP]; exact fun r M1 μ1 a b => ⟨μ1, a, r, rfl, b⟩
  have hX : ∀ (k : Nat) (M1 : JM) (μ1 : Mem), Rl E M1 μ1 → X k μ1 → P (.inr k) M1 := by rw [← hP]; exact fun k M1 μ1 a b => ⟨μ1, a, b⟩
  clear hP
  refine L_ps c137 (n := 3) (pc1 := 3) (ls1 := [jR 0, jI v1, jI v2, jI v3, jU, jU, jU]) (st1 := [jI v2, jI v1, jR 0]) rfl ?_
  refine L_cR (c137 3 rfl) (js_v rfl ((Rl_tag hM rt0 (by decide)).trans js84)) hh137 (k_OB_requireNode hM h) (fun r1 M μ2 hM hr1 h => ?_) (fun k M μx hM hx => hX _ _ _ hM hx)
  refine L_ps c137 (n := 3) (pc1 := 10) (ls1 := [jR 0, jI v1, jI v2, jI v3, jR r1, jU, jU]) (st1 := [jI v3, jR 0]) rfl ?_
  refine L_cR (c137 10 rfl) (js_v rfl ((Rl_tag hM rt0 (by decide)).trans js81)) hh137 (k_OB_requireTerm hM h) (fun r3 M μ4 hM hr3 h => ?_) (fun k M μx hM hx => hX _ _ _ hM hx)
  refine L_ps c137 (n := 2) (pc1 := 16) (ls1 := [jR 0, jI v1, jI v2, jI v3, jR r1, jR r3, jU]) (st1 := [jR 0]) rfl ?_
  refine L_getP (d := 769) (c137 16 rfl) hM rt0 rfl ?_
  refine L_cV (c137 19 rfl) (js_v rfl ((Rl_tag hM rt769 (by decide)).trans js41)) hh137 (k_Term_clear rt769 hM h) (fun M μ6 hM h => ?_) (fun _ _ _ _ f => f.elim)
  refine L_ps c137 (n := 1) (pc1 := 23) (ls1 := [jR 0, jI v1, jI v2, jI v3, jR r1, jR r3, jU]) (st1 := [jR 0]) rfl ?_
  refine L_getP (d := 769) (c137 23 rfl) hM rt0 rfl ?_
  refine L_ps c137 (n := 3) (pc1 := 30) (ls1 := [jR 0, jI v1, jI v2, jI v3, jR r1, jR r3, jU]) (st1 := [jI v2, jI 0, jR r1, jR 769]) rfl ?_
  refine L_cB (c137 30 rfl) (js_v rfl ((Rl_tag hM rt769 (by decide)).trans js57)) hh137 (k_Term_addPart rt769 hr1 hM h) (fun r7 M μ8 hM h => ?_) (fun _ _ _ _ f => f.elim)
  refine L_nb (p1 := 81) (p2 := 36) (c137 33 rfl) rfl jc_eqb h (fun h => ?_) (fun h => ?_)
  · refine L_ps c137 (n := 1) (pc1 := 37) (ls1 := [jR 0, jI v1, jI v2, jI v3, jR r1, jR r3, jU]) (st1 := [jR 0]) rfl ?_
    refine L_getP (d := 769) (c137 37 rfl) hM rt0 rfl ?_
    refine L_ps c137 (n := 3) (pc1 := 45) (ls1 := [jR 0, jI v1, jI v2, jI v3, jR r1, jR r3, jU]) (st1 := [jR r3, jI 0, jR r3, jR 769]) rfl ?_
    refine L_getI (c137 45 rfl) hM hr3 rfl ?_
    refine L_cB (c137 48 rfl) (js_v rfl ((Rl_tag hM rt769 (by decide)).trans js57)) hh137 (k_Term_addPart rt769 hr3 hM h) (fun r9 M μ10 hM h => ?_) (fun _ _ _ _ f => f.elim)
    refine L_nb (p1 := 81) (p2 := 54) (c137 51 rfl) rfl jc_eqb h (fun h => ?_) (fun h => ?_)
    · refine L_ps c137 (n := 1) (pc1 := 55) (ls1 := [jR 0, jI v1, jI v2, jI v3, jR r1, jR r3, jU]) (st1 := [jR 0]) rfl ?_
      refine L_getP (d := 769) (c137 55 rfl) hM rt0 rfl ?_
      refine L_ps c137 (n := 3) (pc1 := 63) (ls1 := [jR 0, jI v1, jI v2, jI v3, jR r1, jR r3, jU]) (st1 := [jI v2, jR r1, jR r1, jR 769]) rfl ?_
      refine L_cpI (c137 63 rfl) (js_v rfl ((Rl_tag hM hr1 (by decide)).trans js68)) hh137 (k_Term_end hr1 hM h) (fun r11 M hM h => ?_) (fun _ _ _ _ f => f.elim)
      refine L_ps c137 (n := 1) (pc1 := 68) (ls1 := [jR 0, jI v1, jI v2, jI v3, jR r1, jR r3, jU]) (st1 := [jR r1, jI r11, jR r1, jR 769]) rfl ?_
      refine L_getI (c137 68 rfl) hM hr1 rfl ?_
      refine L_cB (c137 71 rfl) (js_v rfl ((Rl_tag hM rt769 (by decide)).trans js57)) hh137 (k_Term_addPart rt769 hr1 hM h) (fun r13 M μ14 hM h => ?_) (fun _ _ _ _ f => f.elim)
      refine L_nb (p1 := 81) (p2 := 77) (c137 74 rfl) rfl jc_eqb h (fun h => ?_) (fun h => ?_)
      · refine L_ps c137 (n := 2) (pc1 := 82) (ls1 := [jR 0, jI v1, jI v2, jI v3, jR r1, jR r3, jU]) (st1 := [jI 1]) rfl ?_
        exact k_OB_replaceSubterm_j82 rfl rfl hr1 hM hQ hX h
      · exact k_OB_replaceSubterm_j81 rfl rfl hr1 hM hQ hX h
    · exact k_OB_replaceSubterm_j81 rfl rfl hr1 hM hQ hX h
  · exact k_OB_replaceSubterm_j81 rfl rfl hr1 hM hQ hX h
theorem k_Rule_exchange {E : JE2} {v0 : Nat} {v1 : Nat} {μ : Mem} {M : JM} {Q : Mem → Prop} (hv0 : rt v0 = 5) (hv1 : rt v1 = 5) (hM : Rl E M μ) (h : d_Rule_exchange v0 v1 μ Q) : JX 139 0 (jargs 139 [jR v0, jR v1]) [] M (PO E (QV Q) XN) := by
  unfold d_Rule_exchange at h
  show JX 139 0 [jR v0, jR v1, jU, jU] [] M (PO E (QV Q) XN)
  generalize hP : PO E (QV Q) XN = P
  have hQ : ∀ (M1 : JM) (μ1 : Mem), Rl E M1 μ1 → Q μ1 → P (.inl none) M1 := by rw [← hP]; exact fun M1 μ1 a b => ⟨μ1, a, rfl, b⟩
  clear hP
  refine L_ps c139 (n := 1) (pc1 := 1) (ls1 := [jR v0, jR v1, jU, jU]) (st1 := [jR v0]) rfl ?_
  refine L_getD (c139 1 rfl) hM hv0 (by decide) ?_
  refine L_ps c139 (n := 2) (pc1 := 6) (ls1 := [jR v0, jR v1, jR (dp (μ v0 0)), jU]) (st1 := [jR v0]) rfl ?_
  refine L_getD (c139 6 rfl) hM hv0 (by decide) ?_
  refine L_ps c139 (n := 3) (pc1 := 12) (ls1 := [jR v0, jR v1, jR (dp (μ v0 0)), jR (dp (μ v0 1))]) (st1 := [jR v1, jR v0]) rfl ?_
  refine L_getD (c139 12 rfl) hM hv1 (by decide) ?_
  refine L_putD (c139 15 rfl) hM hv0 (dp_rt _) (by decide) (fun M hM => ?_)
  refine L_ps c139 (n := 2) (pc1 := 20) (ls1 := [jR v0, jR v1, jR (dp (μ v0 0)), jR (dp (μ v0 1))]) (st1 := [jR v1, jR v0]) rfl ?_
  refine L_getD (c139 20 rfl) hM hv1 (by decide) ?_
  refine L_putD (c139 23 rfl) hM hv0 (dp_rt _) (by decide) (fun M hM => ?_)
  refine L_ps c139 (n := 2) (pc1 := 28) (ls1 := [jR v0, jR v1, jR (dp (μ v0 0)), jR (dp (μ v0 1))]) (st1 := [jR (dp (μ v0 0)), jR v1]) rfl ?_
  refine L_putD (c139 28 rfl) hM hv1 (dp_rt _) (by decide) (fun M hM => ?_)
  refine L_ps c139 (n := 2) (pc1 := 33) (ls1 := [jR v0, jR v1, jR (dp (μ v0 0)), jR (dp (μ v0 1))]) (st1 := [jR (dp (μ v0 1)), jR v1]) rfl ?_
  refine L_putD (c139 33 rfl) hM hv1 (dp_rt _) (by decide) (fun M hM => ?_)
  exact L_end (c139 36 rfl) rfl (hQ _ _ hM h)
theorem k_OB_swapRules_b29 {E : JE2} {v5 : Int} {v6 : Int} {μ : Mem} {M : JM} {P : JO → JM → Prop} {g1 : JV} {g2 : JV} {g3 : JV} {g4 : JV} {W29 : Int → Int → Mem → Prop} {Q : Int → Mem → Prop} {X : Nat → Mem → Prop} (hg2 : jc2 g2 = false) (hg3 : jc2 g3 = false) (hg4 : jc2 g4 = false) (hM : Rl E M μ) (hQ : ∀ (r : Int) (M1 : JM) (μ1 : Mem), Rl E M1 μ1 → Q r μ1 → P (.inl (some (.inl r))) M1) (hX : ∀ (k : Nat) (M1 : JM) (μ1 : Mem), Rl E M1 μ1 → X k μ1 → P (.inr k) M1) (hW29 : ∀ (v5 : Int) (v6 : Int) (g1 : JV) (g2 : JV) (g3 : JV) (g4 : JV) (M1 : JM) (μ1 : Mem), jc2 g2 = false → jc2 g3 = false → jc2 g4 = false → Rl E M1 μ1 → W29 v5 v6 μ1 → JX 138 29 [jR 0, g1, g2, g3, g4, jI v5, jI v6] [] M1 P) (h : d_OB_swapRules_b29 v5 v6 μ W29 Q X) : JX 138 29 [jR 0, g1, g2, g3, g4, jI v5, jI v6] [] M P := by
  unfold d_OB_swapRules_b29 at h
  refine L_ps c138 (n := 2) (pc1 := 32) (ls1 := [jR 0, g1, g2, g3, g4, jI v5, jI v6]) (st1 := [jR 0, jI v6]) rfl ?_
  refine L_getP (d := 5) (c138 32 rfl) hM rt0 rfl ?_
  refine L_getI (c138 35 rfl) hM rt5 rfl ?_
  refine L_nb (p1 := 72) (p2 := 41) (c138 38 rfl) rfl jc_ge h (fun h => ?_) (fun h => ?_)
  · refine L_ps c138 (n := 2) (pc1 := 44) (ls1 := [jR 0, g1, g2, g3, g4, jI v5, jI v6]) (st1 := [jR 0, jI v5]) rfl ?_
    refine L_getP (d := 57) (c138 44 rfl) hM rt0 rfl ?_
    refine L_ps c138 (n := 1) (pc1 := 48) (ls1 := [jR 0, g1, g2, g3, g4, jI v5, jI v6]) (st1 := [jR 0, jR 57, jI v5]) rfl ?_
    refine L_getP (d := 5) (c138 48 rfl) hM rt0 rfl ?_
    refine L_ps c138 (n := 1) (pc1 := 52) (ls1 := [jR 0, g1, g2, g3, g4, jI v5, jI v6]) (st1 := [jR 0, jR 5, jR 57, jI v5]) rfl ?_
    refine L_getP (d := 5) (c138 52 rfl) hM rt0 rfl ?_
    refine L_ps c138 (n := 1) (pc1 := 57) (ls1 := [jR 0, g1, g2, g3, g4, jI v5, jI v6]) (st1 := [jI v6, jR 5, jR 5, jR 57, jI v5]) rfl ?_
    refine L_cpR (c138 57 rfl) (js_v rfl ((Rl_tag hM rt5 (by decide)).trans js54)) hh138 (k_State_term rt5 hM h) (fun r9 M hM hr9 h => ?_) (fun _ _ _ _ f => f.elim)
    refine L_cI (c138 60 rfl) (js_v rfl ((Rl_tag hM rt57 (by decide)).trans js89)) hh138 (k_Rewriter_countRedexes rt57 rt5 hr9 hM h) (fun r11 M μ12 hM h => ?_) (fun _ _ _ _ f => f.elim)
    refine L_ps c138 (n := 1) (pc1 := 64) (ls1 := [jR 0, g1, g2, g3, g4, jI v5, jI v6]) (st1 := [jI (wr (v5 + r11))]) rfl ?_
    refine L_ist (c138 64 rfl) (hg4) (Nat.le_of_ble_eq_true rfl) ?_
    show JX 138 66 [jR 0, g1, g2, g3, g4, jI (wr (v5 + r11)), jI v6] [] M P
    refine L_ps c138 (n := 2) (pc1 := 29) (ls1 := [jR 0, g1, g2, g3, g4, jI (wr (v5 + r11)), jI (wr (v6 + 1))]) (st1 := []) rfl ?_
    exact hW29 _ _ _ _ _ _ _ _ hg2 hg3 hg4 hM h
  · refine L_ps c138 (n := 1) (pc1 := 74) (ls1 := [jR 0, g1, g2, g3, g4, jI v5, jI v6]) (st1 := [jI v5]) rfl ?_
    exact L_retI (c138 74 rfl) (hQ _ _ _ hM h)
theorem k_OB_swapRules_l29 {E : JE2} {v5 : Int} {v6 : Int} {μ : Mem} {M : JM} {P : JO → JM → Prop} {g1 : JV} {g2 : JV} {g3 : JV} {g4 : JV} {Q : Int → Mem → Prop} {X : Nat → Mem → Prop} (hg2 : jc2 g2 = false) (hg3 : jc2 g3 = false) (hg4 : jc2 g4 = false) (hM : Rl E M μ) (hQ : ∀ (r : Int) (M1 : JM) (μ1 : Mem), Rl E M1 μ1 → Q r μ1 → P (.inl (some (.inl r))) M1) (hX : ∀ (k : Nat) (M1 : JM) (μ1 : Mem), Rl E M1 μ1 → X k μ1 → P (.inr k) M1) (h : d_OB_swapRules_l29 v5 v6 μ Q X) : JX 138 29 [jR 0, g1, g2, g3, g4, jI v5, jI v6] [] M P := by
  refine h (fun v5 v6 μ => ∀ (g1 : JV) (g2 : JV) (g3 : JV) (g4 : JV) (M : JM), jc2 g2 = false → jc2 g3 = false → jc2 g4 = false → Rl E M μ → JX 138 29 [jR 0, g1, g2, g3, g4, jI v5, jI v6] [] M P) ?_ _ _ _ _ _ hg2 hg3 hg4 hM
  intro v5 v6 μ h g1 g2 g3 g4 M hg2 hg3 hg4 hM
  exact k_OB_swapRules_b29 hg2 hg3 hg4 hM hQ hX (fun v5 v6 g1 g2 g3 g4 M μ hg2 hg3 hg4 hM h => h g1 g2 g3 g4 M hg2 hg3 hg4 hM) h
theorem k_OB_swapRules {E : JE2} {v1 : Int} {v2 : Int} {μ : Mem} {M : JM} {Q : Int → Mem → Prop} {X : Nat → Mem → Prop} (hM : Rl E M μ) (h : d_OB_swapRules v1 v2 μ Q X) : JX 138 0 (jargs 138 [jR 0, jI v1, jI v2]) [] M (PO E (QI Q) X) := by
  unfold d_OB_swapRules at h
  show JX 138 0 [jR 0, jI v1, jI v2, jU, jU, jU, jU] [] M (PO E (QI Q) X)
  generalize hP : PO E (QI Q) X = P
  have hQ : ∀ (r : Int) (M1 : JM) (μ1 : Mem), Rl E M1 μ1 → Q r μ1 → P (.inl (some (.inl r))) M1 := by rw [← hP]; exact fun r M1 μ1 a b => ⟨μ1, a, r, rfl, b⟩
  have hX : ∀ (k : Nat) (M1 : JM) (μ1 : Mem), Rl E M1 μ1 → X k μ1 → P (.inr k) M1 := by rw [← hP]; exact fun k M1 μ1 a b => ⟨μ1, a, b⟩
  clear hP
  refine L_ps c138 (n := 2) (pc1 := 2) (ls1 := [jR 0, jI v1, jI v2, jU, jU, jU, jU]) (st1 := [jI v1, jR 0]) rfl ?_
  refine L_cR (c138 2 rfl) (js_v rfl ((Rl_tag hM rt0 (by decide)).trans js86)) hh138 (k_OB_requireRule hM h) (fun r1 M μ2 hM hr1 h => ?_) (fun k M μx hM hx => hX _ _ _ hM hx)
  refine L_ps c138 (n := 3) (pc1 := 8) (ls1 := [jR 0, jI v1, jI v2, jR r1, jU, jU, jU]) (st1 := [jI v2, jR 0]) rfl ?_
  refine L_cR (c138 8 rfl) (js_v rfl ((Rl_tag hM rt0 (by decide)).trans js86)) hh138 (k_OB_requireRule hM h) (fun r3 M μ4 hM hr3 h => ?_) (fun k M μx hM hx => hX _ _ _ hM hx)
  refine L_ps c138 (n := 2) (pc1 := 14) (ls1 := [jR 0, jI v1, jI v2, jR r1, jR r3, jU, jU]) (st1 := [jR 0]) rfl ?_
  refine L_cV (c138 14 rfl) (js_v rfl ((Rl_tag hM rt0 (by decide)).trans js131)) hh138 (k_OB_remember hM h) (fun M μ6 hM h => ?_) (fun _ _ _ _ f => f.elim)
  refine L_ps c138 (n := 2) (pc1 := 20) (ls1 := [jR 0, jI v1, jI v2, jR r1, jR r3, jU, jU]) (st1 := [jR r3, jR r1]) rfl ?_
  refine L_cV (c138 20 rfl) (js_v rfl ((Rl_tag hM hr1 (by decide)).trans js139)) hh138 (k_Rule_exchange hr1 hr3 hM h) (fun M μ8 hM h => ?_) (fun _ _ _ _ f => f.elim)
  refine L_ps c138 (n := 4) (pc1 := 29) (ls1 := [jR 0, jI v1, jI v2, jR r1, jR r3, jI 0, jI 0]) (st1 := []) rfl ?_
  exact k_OB_swapRules_l29 rfl rfl rfl hM hQ hX h
theorem k_State_dropTerm_b2 {E : JE2} {v0 : Nat} {v2 : Int} {μ : Mem} {M : JM} {P : JO → JM → Prop} {g1 : JV} {W2 : Int → Mem → Prop} {Q : Mem → Prop} (hg1 : jc2 g1 = false) (hv0 : rt v0 = 7) (hM : Rl E M μ) (hQ : ∀ (M1 : JM) (μ1 : Mem), Rl E M1 μ1 → Q μ1 → P (.inl none) M1) (hW2 : ∀ (v2 : Int) (g1 : JV) (M1 : JM) (μ1 : Mem), jc2 g1 = false → Rl E M1 μ1 → W2 v2 μ1 → JX 141 2 [jR v0, g1, jI v2] [] M1 P) (h : d_State_dropTerm_b2 v0 v2 μ W2 Q) : JX 141 2 [jR v0, g1, jI v2] [] M P := by
  unfold d_State_dropTerm_b2 at h
  refine L_ps c141 (n := 4) (pc1 := 6) (ls1 := [jR v0, g1, jI v2]) (st1 := [jR v0, jI (wr (v2 + 1))]) rfl ?_
  refine L_getI (c141 6 rfl) hM hv0 rfl ?_
  refine L_nb (p1 := 33) (p2 := 12) (c141 9 rfl) rfl jc_ge h (fun h => ?_) (fun h => ?_)
  · refine L_ps c141 (n := 2) (pc1 := 14) (ls1 := [jR v0, g1, jI v2]) (st1 := [jI v2, jR v0]) rfl ?_
    refine L_cpR (c141 14 rfl) (js_v rfl ((Rl_tag hM hv0 (by decide)).trans js54)) hh141 (k_State_term hv0 hM h) (fun r1 M hM hr1 h => ?_) (fun _ _ _ _ f => f.elim)
    refine L_ps c141 (n := 4) (pc1 := 21) (ls1 := [jR v0, g1, jI v2]) (st1 := [jI (wr (v2 + 1)), jR v0, jR r1]) rfl ?_
    refine L_cpR (c141 21 rfl) (js_v rfl ((Rl_tag hM hv0 (by decide)).trans js54)) hh141 (k_State_term hv0 hM h) (fun r3 M hM hr3 h => ?_) (fun _ _ _ _ f => f.elim)
    refine L_cV (c141 24 rfl) (js_v rfl ((Rl_tag hM hr1 (by decide)).trans js71)) hh141 (k_Term_copyFrom hr1 hr3 hM h) (fun M μ6 hM h => ?_) (fun _ _ _ _ f => f.elim)
    refine L_iinc (c141 27 rfl) (hg1) (Nat.le_of_ble_eq_true rfl) rfl ?_
    show JX 141 30 [jR v0, g1, jI (wr (v2 + 1))] [] M P
    refine L_ps c141 (n := 1) (pc1 := 2) (ls1 := [jR v0, g1, jI (wr (v2 + 1))]) (st1 := []) rfl ?_
    exact hW2 _ _ _ _ hg1 hM h
  · refine L_ps c141 (n := 2) (pc1 := 35) (ls1 := [jR v0, g1, jI v2]) (st1 := [jR v0, jR v0]) rfl ?_
    refine L_getI (c141 35 rfl) hM hv0 rfl ?_
    refine L_ps c141 (n := 2) (pc1 := 40) (ls1 := [jR v0, g1, jI v2]) (st1 := [jI (wr ((μ v0 1) - 1)), jR v0]) rfl ?_
    refine L_putI (c141 40 rfl) hM hv0 rfl (fun M hM => ?_)
    exact L_end (c141 43 rfl) rfl (hQ _ _ hM h)
theorem k_State_dropTerm_l2 {E : JE2} {v0 : Nat} {v2 : Int} {μ : Mem} {M : JM} {P : JO → JM → Prop} {g1 : JV} {Q : Mem → Prop} (hg1 : jc2 g1 = false) (hv0 : rt v0 = 7) (hM : Rl E M μ) (hQ : ∀ (M1 : JM) (μ1 : Mem), Rl E M1 μ1 → Q μ1 → P (.inl none) M1) (h : d_State_dropTerm_l2 v0 v2 μ Q) : JX 141 2 [jR v0, g1, jI v2] [] M P := by
  refine h (fun v2 μ => ∀ (g1 : JV) (M : JM), jc2 g1 = false → Rl E M μ → JX 141 2 [jR v0, g1, jI v2] [] M P) ?_ _ _ hg1 hM
  intro v2 μ h g1 M hg1 hM
  exact k_State_dropTerm_b2 hg1 hv0 hM hQ (fun v2 g1 M μ hg1 hM h => h g1 M hg1 hM) h
theorem k_State_dropTerm {E : JE2} {v0 : Nat} {v1 : Int} {μ : Mem} {M : JM} {Q : Mem → Prop} (hv0 : rt v0 = 7) (hM : Rl E M μ) (h : d_State_dropTerm v0 v1 μ Q) : JX 141 0 (jargs 141 [jR v0, jI v1]) [] M (PO E (QV Q) XN) := by
  unfold d_State_dropTerm at h
  show JX 141 0 [jR v0, jI v1, jU] [] M (PO E (QV Q) XN)
  generalize hP : PO E (QV Q) XN = P
  have hQ : ∀ (M1 : JM) (μ1 : Mem), Rl E M1 μ1 → Q μ1 → P (.inl none) M1 := by rw [← hP]; exact fun M1 μ1 a b => ⟨μ1, a, rfl, b⟩
  clear hP
  refine L_ps c141 (n := 2) (pc1 := 2) (ls1 := [jR v0, jI v1, jI v1]) (st1 := []) rfl ?_
  exact k_State_dropTerm_l2 rfl hv0 hM hQ h
