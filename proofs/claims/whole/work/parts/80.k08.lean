/-! that the printed tables do what the texts say (written by wip/gen/dec.py), 8 -/
theorem k_Md_nodeOf {E : JE2} {v1 : Int} {v2 : Int} {μ : Mem} {M : JM} {Q : Int → Prop} (hM : Rl E M μ) (h : d_Md_nodeOf v1 v2 μ Q) : JX 343 0 (jargs 343 [jR 772, jI v1, jI v2]) [] M (PO E (pQI μ Q) XN) := by
  unfold d_Md_nodeOf at h
  show JX 343 0 [jR 772, jI v1, jI v2] [] M (PO E (pQI μ Q) XN)
  generalize hP : PO E (pQI μ Q) XN = P
  have hQ : ∀ (r : Int) (M1 : JM), Rl E M1 μ → Q r → P (.inl (some (.inl r))) M1 := by rw [← hP]; exact fun r M1 a b => ⟨μ, a, rfl, r, rfl, b⟩
  clear hP
  refine L_ps c343 (n := 1) (pc1 := 1) (ls1 := [jR 772, jI v1, jI v2]) (st1 := [jR 772]) rfl ?_
  refine L_getP (d := 1) (c343 1 rfl) hM rt772 rfl ?_
  refine L_ps c343 (n := 9) (pc1 := 16) (ls1 := [jR 772, jI v1, jI v2]) (st1 := [jI (wr ((wr ((wr (223 + (wr (81 * v1)))) + 1)) + v2)), jR 773]) rfl ?_
  obtain ⟨hb, h⟩ := h
  refine L_iald (c343 16 rfl) hM rt773 ln773 hb ?_
  exact L_retI (c343 17 rfl) (hQ _ _ hM h)
theorem k_Md_termDepth_j109 {E : JE2} {v1 : Int} {v2 : Int} {v3 : Int} {v4 : Int} {μ : Mem} {M : JM} {P : JO → JM → Prop} {W17 : Int → Int → Int → Mem → Prop} {Q : Int → Mem → Prop} (hM : Rl E M μ) (hQ : ∀ (r : Int) (M1 : JM) (μ1 : Mem), Rl E M1 μ1 → Q r μ1 → P (.inl (some (.inl r))) M1) (hW17 : ∀ (v2 : Int) (v3 : Int) (v4 : Int) (M1 : JM) (μ1 : Mem), Rl E M1 μ1 → W17 v2 v3 v4 μ1 → JX 342 17 [jR 772, jI v1, jI v2, jI v3, jI v4] [] M1 P) (h : d_Md_termDepth_j109 v1 v2 v3 v4 μ W17 Q) : JX 342 109 [jR 772, jI v1, jI v2, jI v3, jI v4] [] M P := by
  unfold d_Md_termDepth_j109 at h
  refine L_ps c342 (n := 2) (pc1 := 17) (ls1 := [jR 772, jI v1, jI v2, jI v3, jI (wr (v4 + 1))]) (st1 := []) rfl ?_
  exact hW17 _ _ _ _ _ hM h
theorem k_Md_termDepth_j64 {E : JE2} {v1 : Int} {v2 : Int} {v3 : Int} {v4 : Int} {μ : Mem} {M : JM} {P : JO → JM → Prop} {W17 : Int → Int → Int → Mem → Prop} {Q : Int → Mem → Prop} (hM : Rl E M μ) (hQ : ∀ (r : Int) (M1 : JM) (μ1 : Mem), Rl E M1 μ1 → Q r μ1 → P (.inl (some (.inl r))) M1) (hW17 : ∀ (v2 : Int) (v3 : Int) (v4 : Int) (M1 : JM) (μ1 : Mem), Rl E M1 μ1 → W17 v2 v3 v4 μ1 → JX 342 17 [jR 772, jI v1, jI v2, jI v3, jI v4] [] M1 P) (h : d_Md_termDepth_j64 v1 v2 v3 v4 μ W17 Q) : JX 342 64 [jR 772, jI v1, jI v2, jI v3, jI v4] [] M P := by
  unfold d_Md_termDepth_j64 at h
  refine L_ps c342 (n := 4) (pc1 := 68) (ls1 := [jR 772, jI v1, jI v2, jI v3, jI v4]) (st1 := [jI (wr (v3 + 1)), jI v2]) rfl ?_
  refine L_cpI (c342 68 rfl) (js_t rfl) hh342 (k_Math_max hM h) (fun r5 M hM h => ?_) (fun _ _ _ _ f => f.elim)
  refine L_ps c342 (n := 5) (pc1 := 77) (ls1 := [jR 772, jI v1, jI r5, jI v3, jI v4]) (st1 := [jI v4, jI v1, jR 772, jR 772]) rfl ?_
  refine L_cpI (c342 77 rfl) (js_v rfl ((Rl_tag hM rt772 (by decide)).trans js343)) hh342 (k_Md_nodeOf hM h) (fun r7 M hM h => ?_) (fun _ _ _ _ f => f.elim)
  refine L_cpI (c342 80 rfl) (js_v rfl ((Rl_tag hM rt772 (by decide)).trans js312)) hh342 (k_Md_arityOf hM h) (fun r9 M hM h => ?_) (fun _ _ _ _ f => f.elim)
  refine L_nb (p1 := 89) (p2 := 86) (c342 83 rfl) rfl jc_ne h (fun h => ?_) (fun h => ?_)
  · refine L_ps c342 (n := 1) (pc1 := 109) (ls1 := [jR 772, jI v1, jI r5, jI v3, jI v4]) (st1 := []) rfl ?_
    exact k_Md_termDepth_j109 hM hQ hW17 h
  · refine L_ps c342 (n := 1) (pc1 := 90) (ls1 := [jR 772, jI v1, jI r5, jI v3, jI v4]) (st1 := [jR 772]) rfl ?_
    refine L_getP (d := 7) (c342 90 rfl) hM rt772 rfl ?_
    refine L_ps c342 (n := 5) (pc1 := 99) (ls1 := [jR 772, jI v1, jI r5, jI v3, jI v4]) (st1 := [jI v4, jI v1, jR 772, jR 772, jI v3, jR 779]) rfl ?_
    refine L_cpI (c342 99 rfl) (js_v rfl ((Rl_tag hM rt772 (by decide)).trans js343)) hh342 (k_Md_nodeOf hM h) (fun r11 M hM h => ?_) (fun _ _ _ _ f => f.elim)
    refine L_cpI (c342 102 rfl) (js_v rfl ((Rl_tag hM rt772 (by decide)).trans js312)) hh342 (k_Md_arityOf hM h) (fun r13 M hM h => ?_) (fun _ _ _ _ f => f.elim)
    obtain ⟨hb, h⟩ := h
    refine L_iast (c342 105 rfl) hM rt779 ln779 hb (fun M hM => ?_)
    refine L_ps c342 (n := 1) (pc1 := 109) (ls1 := [jR 772, jI v1, jI r5, jI (wr (v3 + 1)), jI v4]) (st1 := []) rfl ?_
    exact k_Md_termDepth_j109 hM hQ hW17 h
theorem k_Md_termDepth_j48 {E : JE2} {v1 : Int} {v2 : Int} {v3 : Int} {v4 : Int} {μ : Mem} {M : JM} {P : JO → JM → Prop} {W17 : Int → Int → Int → Mem → Prop} {Q : Int → Mem → Prop} (hM : Rl E M μ) (hQ : ∀ (r : Int) (M1 : JM) (μ1 : Mem), Rl E M1 μ1 → Q r μ1 → P (.inl (some (.inl r))) M1) (hW17 : ∀ (v2 : Int) (v3 : Int) (v4 : Int) (M1 : JM) (μ1 : Mem), Rl E M1 μ1 → W17 v2 v3 v4 μ1 → JX 342 17 [jR 772, jI v1, jI v2, jI v3, jI v4] [] M1 P) (h : d_Md_termDepth_j48 v1 v2 v3 v4 μ W17 Q) : JX 342 48 [jR 772, jI v1, jI v2, jI v3, jI v4] [] M P := by
  unfold d_Md_termDepth_j48 at h
  refine L_ps c342 (n := 1) (pc1 := 49) (ls1 := [jR 772, jI v1, jI v2, jI v3, jI v4]) (st1 := [jI v3]) rfl ?_
  refine L_nb (p1 := 64) (p2 := 52) (c342 49 rfl) rfl jc_le h (fun h => ?_) (fun h => ?_)
  · refine L_ps c342 (n := 1) (pc1 := 53) (ls1 := [jR 772, jI v1, jI v2, jI v3, jI v4]) (st1 := [jR 772]) rfl ?_
    refine L_getP (d := 7) (c342 53 rfl) hM rt772 rfl ?_
    refine L_ps c342 (n := 4) (pc1 := 60) (ls1 := [jR 772, jI v1, jI v2, jI v3, jI v4]) (st1 := [jI (wr (v3 - 1)), jR 779, jI (wr (v3 - 1)), jR 779]) rfl ?_
    obtain ⟨hb, h⟩ := h
    refine L_iald (c342 60 rfl) hM rt779 ln779 hb ?_
    refine L_ps c342 (n := 2) (pc1 := 63) (ls1 := [jR 772, jI v1, jI v2, jI v3, jI v4]) (st1 := [jI (wr ((μ 779 (wr (v3 - 1)).toNat) - 1)), jI (wr (v3 - 1)), jR 779]) rfl ?_
    obtain ⟨hb, h⟩ := h
    refine L_iast (c342 63 rfl) hM rt779 ln779 hb (fun M hM => ?_)
    exact k_Md_termDepth_j64 hM hQ hW17 h
  · exact k_Md_termDepth_j64 hM hQ hW17 h
theorem k_Md_termDepth_b27 {E : JE2} {v1 : Int} {v2 : Int} {v4 : Int} {v3 : Int} {μ : Mem} {M : JM} {P : JO → JM → Prop} {W17 : Int → Int → Int → Mem → Prop} {W27 : Int → Prop} {Q : Int → Mem → Prop} (hM : Rl E M μ) (hQ : ∀ (r : Int) (M1 : JM) (μ1 : Mem), Rl E M1 μ1 → Q r μ1 → P (.inl (some (.inl r))) M1) (hW17 : ∀ (v2 : Int) (v3 : Int) (v4 : Int) (M1 : JM) (μ1 : Mem), Rl E M1 μ1 → W17 v2 v3 v4 μ1 → JX 342 17 [jR 772, jI v1, jI v2, jI v3, jI v4] [] M1 P) (hW27 : ∀ (v3 : Int) (M1 : JM), Rl E M1 μ → W27 v3 → JX 342 27 [jR 772, jI v1, jI v2, jI v3, jI v4] [] M1 P) (h : d_Md_termDepth_b27 v1 v2 v4 v3 μ W17 W27 Q) : JX 342 27 [jR 772, jI v1, jI v2, jI v3, jI v4] [] M P := by
  unfold d_Md_termDepth_b27 at h
  refine L_ps c342 (n := 1) (pc1 := 28) (ls1 := [jR 772, jI v1, jI v2, jI v3, jI v4]) (st1 := [jI v3]) rfl ?_
  refine L_nb (p1 := 48) (p2 := 31) (c342 28 rfl) rfl jc_le h (fun h => ?_) (fun h => ?_)
  · refine L_ps c342 (n := 1) (pc1 := 32) (ls1 := [jR 772, jI v1, jI v2, jI v3, jI v4]) (st1 := [jR 772]) rfl ?_
    refine L_getP (d := 7) (c342 32 rfl) hM rt772 rfl ?_
    refine L_ps c342 (n := 3) (pc1 := 38) (ls1 := [jR 772, jI v1, jI v2, jI v3, jI v4]) (st1 := [jI (wr (v3 - 1)), jR 779]) rfl ?_
    obtain ⟨hb, h⟩ := h
    refine L_iald (c342 38 rfl) hM rt779 ln779 hb ?_
    refine L_nb (p1 := 48) (p2 := 42) (c342 39 rfl) rfl jc_ne h (fun h => ?_) (fun h => ?_)
    · refine L_ps c342 (n := 2) (pc1 := 27) (ls1 := [jR 772, jI v1, jI v2, jI (wr (v3 + (-1))), jI v4]) (st1 := []) rfl ?_
      exact hW27 _ _ hM h
    · exact k_Md_termDepth_j48 hM hQ hW17 h
  · exact k_Md_termDepth_j48 hM hQ hW17 h
theorem k_Md_termDepth_l27 {E : JE2} {v1 : Int} {v2 : Int} {v4 : Int} {v3 : Int} {μ : Mem} {M : JM} {P : JO → JM → Prop} {W17 : Int → Int → Int → Mem → Prop} {Q : Int → Mem → Prop} (hM : Rl E M μ) (hQ : ∀ (r : Int) (M1 : JM) (μ1 : Mem), Rl E M1 μ1 → Q r μ1 → P (.inl (some (.inl r))) M1) (hW17 : ∀ (v2 : Int) (v3 : Int) (v4 : Int) (M1 : JM) (μ1 : Mem), Rl E M1 μ1 → W17 v2 v3 v4 μ1 → JX 342 17 [jR 772, jI v1, jI v2, jI v3, jI v4] [] M1 P) (h : d_Md_termDepth_l27 v1 v2 v4 v3 μ W17 Q) : JX 342 27 [jR 772, jI v1, jI v2, jI v3, jI v4] [] M P := by
  refine h (fun v3 => ∀ (M : JM), Rl E M μ → JX 342 27 [jR 772, jI v1, jI v2, jI v3, jI v4] [] M P) ?_ _ hM
  intro v3 h M hM
  exact k_Md_termDepth_b27 hM hQ hW17 (fun v3 M hM h => h M hM) h
theorem k_Md_termDepth_b17 {E : JE2} {v1 : Int} {v2 : Int} {v3 : Int} {v4 : Int} {μ : Mem} {M : JM} {P : JO → JM → Prop} {W17 : Int → Int → Int → Mem → Prop} {Q : Int → Mem → Prop} (hM : Rl E M μ) (hQ : ∀ (r : Int) (M1 : JM) (μ1 : Mem), Rl E M1 μ1 → Q r μ1 → P (.inl (some (.inl r))) M1) (hW17 : ∀ (v2 : Int) (v3 : Int) (v4 : Int) (M1 : JM) (μ1 : Mem), Rl E M1 μ1 → W17 v2 v3 v4 μ1 → JX 342 17 [jR 772, jI v1, jI v2, jI v3, jI v4] [] M1 P) (h : d_Md_termDepth_b17 v1 v2 v3 v4 μ W17 Q) : JX 342 17 [jR 772, jI v1, jI v2, jI v3, jI v4] [] M P := by
  unfold d_Md_termDepth_b17 at h
  refine L_ps c342 (n := 3) (pc1 := 21) (ls1 := [jR 772, jI v1, jI v2, jI v3, jI v4]) (st1 := [jI v1, jR 772, jI v4]) rfl ?_
  refine L_cpI (c342 21 rfl) (js_v rfl ((Rl_tag hM rt772 (by decide)).trans js294)) hh342 (k_Md_sizeOf hM h) (fun r3 M hM h => ?_) (fun _ _ _ _ f => f.elim)
  refine L_nb (p1 := 115) (p2 := 27) (c342 24 rfl) rfl jc_ge h (fun h => ?_) (fun h => ?_)
  · exact k_Md_termDepth_l27 hM hQ hW17 h
  · refine L_ps c342 (n := 1) (pc1 := 116) (ls1 := [jR 772, jI v1, jI v2, jI v3, jI v4]) (st1 := [jI v2]) rfl ?_
    exact L_retI (c342 116 rfl) (hQ _ _ _ hM h)
theorem k_Md_termDepth_l17 {E : JE2} {v1 : Int} {v2 : Int} {v3 : Int} {v4 : Int} {μ : Mem} {M : JM} {P : JO → JM → Prop} {Q : Int → Mem → Prop} (hM : Rl E M μ) (hQ : ∀ (r : Int) (M1 : JM) (μ1 : Mem), Rl E M1 μ1 → Q r μ1 → P (.inl (some (.inl r))) M1) (h : d_Md_termDepth_l17 v1 v2 v3 v4 μ Q) : JX 342 17 [jR 772, jI v1, jI v2, jI v3, jI v4] [] M P := by
  refine h (fun v2 v3 v4 μ => ∀ (M : JM), Rl E M μ → JX 342 17 [jR 772, jI v1, jI v2, jI v3, jI v4] [] M P) ?_ _ hM
  intro v2 v3 v4 μ h M hM
  exact k_Md_termDepth_b17 hM hQ (fun v2 v3 v4 M μ hM h => h M hM) h
theorem k_Md_termDepth {E : JE2} {v1 : Int} {μ : Mem} {M : JM} {Q : Int → Mem → Prop} (hM : Rl E M μ) (h : d_Md_termDepth v1 μ Q) : JX 342 0 (jargs 342 [jR 772, jI v1]) [] M (PO E (QI Q) XN) := by
  unfold d_Md_termDepth at h
  show JX 342 0 [jR 772, jI v1, jU, jU, jU] [] M (PO E (QI Q) XN)
  generalize hP : PO E (QI Q) XN = P
  have hQ : ∀ (r : Int) (M1 : JM) (μ1 : Mem), Rl E M1 μ1 → Q r μ1 → P (.inl (some (.inl r))) M1 := by rw [← hP]; exact fun r M1 μ1 a b => ⟨μ1, a, r, rfl, b⟩
  clear hP
  refine L_ps c342 (n := 2) (pc1 := 2) (ls1 := [jR 772, jI v1, jU, jU, jU]) (st1 := [jI v1, jR 772]) rfl ?_
  refine L_cB (c342 2 rfl) (js_v rfl ((Rl_tag hM rt772 (by decide)).trans js340)) hh342 (k_Md_mayTerm hM h) (fun r1 M μ2 hM h => ?_) (fun _ _ _ _ f => f.elim)
  refine L_br (p1 := 10) (p2 := 8) (c342 5 rfl) rfl jc_neb h (fun h => ?_) (fun h => ?_)
  · refine L_ps c342 (n := 6) (pc1 := 17) (ls1 := [jR 772, jI v1, jI 0, jI 0, jI 0]) (st1 := []) rfl ?_
    exact k_Md_termDepth_l17 hM hQ h
  · refine L_ps c342 (n := 1) (pc1 := 9) (ls1 := [jR 772, jI v1, jU, jU, jU]) (st1 := [jI 0]) rfl ?_
    exact L_retI (c342 9 rfl) (hQ _ _ _ hM h)
theorem k_Md_isPosition {E : JE2} {v1 : Int} {v2 : Int} {μ : Mem} {M : JM} {Q : Bool → Prop} (hM : Rl E M μ) (h : d_Md_isPosition v1 v2 μ Q) : JX 346 0 (jargs 346 [jR 772, jI v1, jI v2]) [] M (PO E (pQB μ Q) XN) := by
  unfold d_Md_isPosition at h
  show JX 346 0 [jR 772, jI v1, jI v2] [] M (PO E (pQB μ Q) XN)
  generalize hP : PO E (pQB μ Q) XN = P
  have hQ : ∀ (r : Bool) (M1 : JM), Rl E M1 μ → Q r → P (.inl (some (.inl (b2i r)))) M1 := by rw [← hP]; exact fun r M1 a b => ⟨μ, a, rfl, r, rfl, b⟩
  clear hP
  refine L_ps c346 (n := 2) (pc1 := 2) (ls1 := [jR 772, jI v1, jI v2]) (st1 := [jI v1, jR 772]) rfl ?_
  refine L_cpB (c346 2 rfl) (js_v rfl ((Rl_tag hM rt772 (by decide)).trans js341)) hh346 (k_Md_isTerm hM h) (fun r1 M hM h => ?_) (fun _ _ _ _ f => f.elim)
  refine L_nb (p1 := 27) (p2 := 8) (c346 5 rfl) rfl jc_eqb h (fun h => ?_) (fun h => ?_)
  · refine L_ps c346 (n := 4) (pc1 := 12) (ls1 := [jR 772, jI v1, jI v2]) (st1 := [jI v1, jR 772, jI 0, jI v2]) rfl ?_
    refine L_cpI (c346 12 rfl) (js_v rfl ((Rl_tag hM rt772 (by decide)).trans js294)) hh346 (k_Md_sizeOf hM h) (fun r3 M hM h => ?_) (fun _ _ _ _ f => f.elim)
    refine L_ps c346 (n := 2) (pc1 := 17) (ls1 := [jR 772, jI v1, jI v2]) (st1 := [jI (wr (r3 - 1)), jI 0, jI v2]) rfl ?_
    refine L_cpB (c346 17 rfl) (js_t rfl) hh346 (k_Md_in hM h) (fun r5 M hM h => ?_) (fun _ _ _ _ f => f.elim)
    refine L_nb (p1 := 27) (p2 := 23) (c346 20 rfl) rfl jc_eqb h (fun h => ?_) (fun h => ?_)
    · refine L_ps c346 (n := 2) (pc1 := 28) (ls1 := [jR 772, jI v1, jI v2]) (st1 := [jI 1]) rfl ?_
      exact L_retB (c346 28 rfl) (Or.inr rfl) (hQ true _ hM h)
    · refine L_ps c346 (n := 1) (pc1 := 28) (ls1 := [jR 772, jI v1, jI v2]) (st1 := [jI 0]) rfl ?_
      exact L_retB (c346 28 rfl) (Or.inl rfl) (hQ false _ hM h)
  · refine L_ps c346 (n := 1) (pc1 := 28) (ls1 := [jR 772, jI v1, jI v2]) (st1 := [jI 0]) rfl ?_
    exact L_retB (c346 28 rfl) (Or.inl rfl) (hQ false _ hM h)
theorem k_Md_mayPosition {E : JE2} {v1 : Int} {v2 : Int} {μ : Mem} {M : JM} {Q : Bool → Mem → Prop} (hM : Rl E M μ) (h : d_Md_mayPosition v1 v2 μ Q) : JX 345 0 (jargs 345 [jR 772, jI v1, jI v2]) [] M (PO E (QB Q) XN) := by
  unfold d_Md_mayPosition at h
  show JX 345 0 [jR 772, jI v1, jI v2] [] M (PO E (QB Q) XN)
  generalize hP : PO E (QB Q) XN = P
  have hQ : ∀ (r : Bool) (M1 : JM) (μ1 : Mem), Rl E M1 μ1 → Q r μ1 → P (.inl (some (.inl (b2i r)))) M1 := by rw [← hP]; exact fun r M1 μ1 a b => ⟨μ1, a, r, rfl, b⟩
  clear hP
  refine L_ps c345 (n := 2) (pc1 := 2) (ls1 := [jR 772, jI v1, jI v2]) (st1 := [jR 772, jR 772]) rfl ?_
  refine L_getI (c345 2 rfl) hM rt772 rfl ?_
  refine L_ps c345 (n := 3) (pc1 := 8) (ls1 := [jR 772, jI v1, jI v2]) (st1 := [jI v2, jI v1, jR 772, jI (μ 772 6), jR 772]) rfl ?_
  refine L_cpB (c345 8 rfl) (js_v rfl ((Rl_tag hM rt772 (by decide)).trans js346)) hh345 (k_Md_isPosition hM h) (fun r1 M hM h => ?_) (fun _ _ _ _ f => f.elim)
  refine L_cB (c345 11 rfl) (js_v rfl ((Rl_tag hM rt772 (by decide)).trans js325)) hh345 (k_Md_mayTwo hM h) (fun r3 M μ4 hM h => ?_) (fun _ _ _ _ f => f.elim)
  exact L_retB (c345 14 rfl) (bz_b _) (hQ _ _ _ hM h)
theorem k_Md_symbolAt {E : JE2} {v1 : Int} {v2 : Int} {μ : Mem} {M : JM} {Q : Int → Mem → Prop} (hM : Rl E M μ) (h : d_Md_symbolAt v1 v2 μ Q) : JX 344 0 (jargs 344 [jR 772, jI v1, jI v2]) [] M (PO E (QI Q) XN) := by
  unfold d_Md_symbolAt at h
  show JX 344 0 [jR 772, jI v1, jI v2] [] M (PO E (QI Q) XN)
  generalize hP : PO E (QI Q) XN = P
  have hQ : ∀ (r : Int) (M1 : JM) (μ1 : Mem), Rl E M1 μ1 → Q r μ1 → P (.inl (some (.inl r))) M1 := by rw [← hP]; exact fun r M1 μ1 a b => ⟨μ1, a, r, rfl, b⟩
  clear hP
  refine L_ps c344 (n := 3) (pc1 := 3) (ls1 := [jR 772, jI v1, jI v2]) (st1 := [jI v2, jI v1, jR 772]) rfl ?_
  refine L_cB (c344 3 rfl) (js_v rfl ((Rl_tag hM rt772 (by decide)).trans js345)) hh344 (k_Md_mayPosition hM h) (fun r1 M μ2 hM h => ?_) (fun _ _ _ _ f => f.elim)
  refine L_br (p1 := 11) (p2 := 9) (c344 6 rfl) rfl jc_neb h (fun h => ?_) (fun h => ?_)
  · refine L_ps c344 (n := 3) (pc1 := 14) (ls1 := [jR 772, jI v1, jI v2]) (st1 := [jI v2, jI v1, jR 772]) rfl ?_
    refine L_cpI (c344 14 rfl) (js_v rfl ((Rl_tag hM rt772 (by decide)).trans js343)) hh344 (k_Md_nodeOf hM h) (fun r3 M hM h => ?_) (fun _ _ _ _ f => f.elim)
    refine L_ps c344 (n := 1) (pc1 := 19) (ls1 := [jR 772, jI v1, jI v2]) (st1 := [jI 100, jI r3]) rfl ?_
    refine L_nb (p1 := 31) (p2 := 22) (c344 19 rfl) rfl jc_ge h (fun h => ?_) (fun h => ?_)
    · refine L_ps c344 (n := 3) (pc1 := 25) (ls1 := [jR 772, jI v1, jI v2]) (st1 := [jI v2, jI v1, jR 772]) rfl ?_
      refine L_cpI (c344 25 rfl) (js_v rfl ((Rl_tag hM rt772 (by decide)).trans js343)) hh344 (k_Md_nodeOf hM h) (fun r5 M hM h => ?_) (fun _ _ _ _ f => f.elim)
      refine L_ps c344 (n := 1) (pc1 := 32) (ls1 := [jR 772, jI v1, jI v2]) (st1 := [jI r5]) rfl ?_
      exact L_retI (c344 32 rfl) (hQ _ _ _ hM h)
    · refine L_ps c344 (n := 1) (pc1 := 32) (ls1 := [jR 772, jI v1, jI v2]) (st1 := [jI (-1)]) rfl ?_
      exact L_retI (c344 32 rfl) (hQ _ _ _ hM h)
  · refine L_ps c344 (n := 1) (pc1 := 10) (ls1 := [jR 772, jI v1, jI v2]) (st1 := [jI 0]) rfl ?_
    exact L_retI (c344 10 rfl) (hQ _ _ _ hM h)
theorem k_Md_variableAt {E : JE2} {v1 : Int} {v2 : Int} {μ : Mem} {M : JM} {Q : Int → Mem → Prop} (hM : Rl E M μ) (h : d_Md_variableAt v1 v2 μ Q) : JX 347 0 (jargs 347 [jR 772, jI v1, jI v2]) [] M (PO E (QI Q) XN) := by
  unfold d_Md_variableAt at h
  show JX 347 0 [jR 772, jI v1, jI v2] [] M (PO E (QI Q) XN)
  generalize hP : PO E (QI Q) XN = P
  have hQ : ∀ (r : Int) (M1 : JM) (μ1 : Mem), Rl E M1 μ1 → Q r μ1 → P (.inl (some (.inl r))) M1 := by rw [← hP]; exact fun r M1 μ1 a b => ⟨μ1, a, r, rfl, b⟩
  clear hP
  refine L_ps c347 (n := 3) (pc1 := 3) (ls1 := [jR 772, jI v1, jI v2]) (st1 := [jI v2, jI v1, jR 772]) rfl ?_
  refine L_cB (c347 3 rfl) (js_v rfl ((Rl_tag hM rt772 (by decide)).trans js345)) hh347 (k_Md_mayPosition hM h) (fun r1 M μ2 hM h => ?_) (fun _ _ _ _ f => f.elim)
  refine L_br (p1 := 11) (p2 := 9) (c347 6 rfl) rfl jc_neb h (fun h => ?_) (fun h => ?_)
  · refine L_ps c347 (n := 3) (pc1 := 14) (ls1 := [jR 772, jI v1, jI v2]) (st1 := [jI v2, jI v1, jR 772]) rfl ?_
    refine L_cpI (c347 14 rfl) (js_v rfl ((Rl_tag hM rt772 (by decide)).trans js343)) hh347 (k_Md_nodeOf hM h) (fun r3 M hM h => ?_) (fun _ _ _ _ f => f.elim)
    refine L_ps c347 (n := 1) (pc1 := 19) (ls1 := [jR 772, jI v1, jI v2]) (st1 := [jI 100, jI r3]) rfl ?_
    refine L_nb (p1 := 26) (p2 := 22) (c347 19 rfl) rfl jc_ge h (fun h => ?_) (fun h => ?_)
    · refine L_ps c347 (n := 2) (pc1 := 35) (ls1 := [jR 772, jI v1, jI v2]) (st1 := [jI (-1)]) rfl ?_
      exact L_retI (c347 35 rfl) (hQ _ _ _ hM h)
    · refine L_ps c347 (n := 3) (pc1 := 29) (ls1 := [jR 772, jI v1, jI v2]) (st1 := [jI v2, jI v1, jR 772]) rfl ?_
      refine L_cpI (c347 29 rfl) (js_v rfl ((Rl_tag hM rt772 (by decide)).trans js343)) hh347 (k_Md_nodeOf hM h) (fun r5 M hM h => ?_) (fun _ _ _ _ f => f.elim)
      refine L_ps c347 (n := 2) (pc1 := 35) (ls1 := [jR 772, jI v1, jI v2]) (st1 := [jI (wr (r5 - 100))]) rfl ?_
      exact L_retI (c347 35 rfl) (hQ _ _ _ hM h)
  · refine L_ps c347 (n := 1) (pc1 := 10) (ls1 := [jR 772, jI v1, jI v2]) (st1 := [jI 0]) rfl ?_
    exact L_retI (c347 10 rfl) (hQ _ _ _ hM h)
theorem k_Md_subtermSize {E : JE2} {v1 : Int} {v2 : Int} {μ : Mem} {M : JM} {Q : Int → Mem → Prop} (hM : Rl E M μ) (h : d_Md_subtermSize v1 v2 μ Q) : JX 348 0 (jargs 348 [jR 772, jI v1, jI v2]) [] M (PO E (QI Q) XN) := by
  unfold d_Md_subtermSize at h
  show JX 348 0 [jR 772, jI v1, jI v2] [] M (PO E (QI Q) XN)
  generalize hP : PO E (QI Q) XN = P
  have hQ : ∀ (r : Int) (M1 : JM) (μ1 : Mem), Rl E M1 μ1 → Q r μ1 → P (.inl (some (.inl r))) M1 := by rw [← hP]; exact fun r M1 μ1 a b => ⟨μ1, a, r, rfl, b⟩
  clear hP
  refine L_ps c348 (n := 3) (pc1 := 3) (ls1 := [jR 772, jI v1, jI v2]) (st1 := [jI v2, jI v1, jR 772]) rfl ?_
  refine L_cB (c348 3 rfl) (js_v rfl ((Rl_tag hM rt772 (by decide)).trans js345)) hh348 (k_Md_mayPosition hM h) (fun r1 M μ2 hM h => ?_) (fun _ _ _ _ f => f.elim)
  refine L_br (p1 := 11) (p2 := 9) (c348 6 rfl) rfl jc_neb h (fun h => ?_) (fun h => ?_)
  · refine L_ps c348 (n := 2) (pc1 := 13) (ls1 := [jR 772, jI v1, jI v2]) (st1 := [jI v1, jR 772]) rfl ?_
    refine L_cV (c348 13 rfl) (js_v rfl ((Rl_tag hM rt772 (by decide)).trans js293)) hh348 (k_Md_lends hM h) (fun M μ4 hM h => ?_) (fun _ _ _ _ f => f.elim)
    refine L_ps c348 (n := 2) (pc1 := 18) (ls1 := [jR 772, jI v1, jI v2]) (st1 := [jR 772, jR 772]) rfl ?_
    refine L_getP (d := 8) (c348 18 rfl) hM rt772 rfl ?_
    refine L_ps c348 (n := 1) (pc1 := 22) (ls1 := [jR 772, jI v1, jI v2]) (st1 := [jI v2, jR 780, jR 772]) rfl ?_
    refine L_cpI (c348 22 rfl) (js_v rfl ((Rl_tag hM rt772 (by decide)).trans js311)) hh348 (k_Md_behind rt780 hM h) (fun r5 M hM h => ?_) (fun _ _ _ _ f => f.elim)
    refine L_ps c348 (n := 2) (pc1 := 27) (ls1 := [jR 772, jI v1, jI v2]) (st1 := [jI (wr (r5 - v2))]) rfl ?_
    exact L_retI (c348 27 rfl) (hQ _ _ _ hM h)
  · refine L_ps c348 (n := 1) (pc1 := 10) (ls1 := [jR 772, jI v1, jI v2]) (st1 := [jI 0]) rfl ?_
    exact L_retI (c348 10 rfl) (hQ _ _ _ hM h)
theorem k_Md_isGround_b12 {E : JE2} {v1 : Int} {v2 : Int} {μ : Mem} {M : JM} {P : JO → JM → Prop} {W12 : Int → Prop} {Q : Bool → Mem → Prop} (hM : Rl E M μ) (hQ : ∀ (r : Bool) (M1 : JM) (μ1 : Mem), Rl E M1 μ1 → Q r μ1 → P (.inl (some (.inl (b2i r)))) M1) (hW12 : ∀ (v2 : Int) (M1 : JM), Rl E M1 μ → W12 v2 → JX 349 12 [jR 772, jI v1, jI v2] [] M1 P) (h : d_Md_isGround_b12 v1 v2 μ W12 Q) : JX 349 12 [jR 772, jI v1, jI v2] [] M P := by
  unfold d_Md_isGround_b12 at h
  refine L_ps c349 (n := 3) (pc1 := 15) (ls1 := [jR 772, jI v1, jI v2]) (st1 := [jI v1, jR 772, jI v2]) rfl ?_
  refine L_cpI (c349 15 rfl) (js_v rfl ((Rl_tag hM rt772 (by decide)).trans js294)) hh349 (k_Md_sizeOf hM h) (fun r3 M hM h => ?_) (fun _ _ _ _ f => f.elim)
  refine L_nb (p1 := 40) (p2 := 21) (c349 18 rfl) rfl jc_ge h (fun h => ?_) (fun h => ?_)
  · refine L_ps c349 (n := 3) (pc1 := 24) (ls1 := [jR 772, jI v1, jI v2]) (st1 := [jI v2, jI v1, jR 772]) rfl ?_
    refine L_cpI (c349 24 rfl) (js_v rfl ((Rl_tag hM rt772 (by decide)).trans js343)) hh349 (k_Md_nodeOf hM h) (fun r5 M hM h => ?_) (fun _ _ _ _ f => f.elim)
    refine L_ps c349 (n := 1) (pc1 := 29) (ls1 := [jR 772, jI v1, jI v2]) (st1 := [jI 100, jI r5]) rfl ?_
    refine L_br (p1 := 34) (p2 := 32) (c349 29 rfl) rfl jc_lt h (fun h => ?_) (fun h => ?_)
    · refine L_ps c349 (n := 2) (pc1 := 12) (ls1 := [jR 772, jI v1, jI (wr (v2 + 1))]) (st1 := []) rfl ?_
      exact hW12 _ _ hM h
    · refine L_ps c349 (n := 1) (pc1 := 33) (ls1 := [jR 772, jI v1, jI v2]) (st1 := [jI 0]) rfl ?_
      exact L_retB (c349 33 rfl) (Or.inl rfl) (hQ false _ _ hM h)
  · refine L_ps c349 (n := 1) (pc1 := 41) (ls1 := [jR 772, jI v1, jI v2]) (st1 := [jI 1]) rfl ?_
    exact L_retB (c349 41 rfl) (Or.inr rfl) (hQ true _ _ hM h)
theorem k_Md_isGround_l12 {E : JE2} {v1 : Int} {v2 : Int} {μ : Mem} {M : JM} {P : JO → JM → Prop} {Q : Bool → Mem → Prop} (hM : Rl E M μ) (hQ : ∀ (r : Bool) (M1 : JM) (μ1 : Mem), Rl E M1 μ1 → Q r μ1 → P (.inl (some (.inl (b2i r)))) M1) (h : d_Md_isGround_l12 v1 v2 μ Q) : JX 349 12 [jR 772, jI v1, jI v2] [] M P := by
  refine h (fun v2 => ∀ (M : JM), Rl E M μ → JX 349 12 [jR 772, jI v1, jI v2] [] M P) ?_ _ hM
  intro v2 h M hM
  exact k_Md_isGround_b12 hM hQ (fun v2 M hM h => h M hM) h
theorem k_Md_isGround {E : JE2} {v1 : Int} {μ : Mem} {M : JM} {Q : Bool → Mem → Prop} (hM : Rl E M μ) (h : d_Md_isGround v1 μ Q) : JX 349 0 (jargs 349 [jR 772, jI v1]) [] M (PO E (QB Q) XN) := by
  unfold d_Md_isGround at h
  show JX 349 0 [jR 772, jI v1, jU] [] M (PO E (QB Q) XN)
  generalize hP : PO E (QB Q) XN = P
  have hQ : ∀ (r : Bool) (M1 : JM) (μ1 : Mem), Rl E M1 μ1 → Q r μ1 → P (.inl (some (.inl (b2i r)))) M1 := by rw [← hP]; exact fun r M1 μ1 a b => ⟨μ1, a, r, rfl, b⟩
  clear hP
  refine L_ps c349 (n := 2) (pc1 := 2) (ls1 := [jR 772, jI v1, jU]) (st1 := [jI v1, jR 772]) rfl ?_
  refine L_cB (c349 2 rfl) (js_v rfl ((Rl_tag hM rt772 (by decide)).trans js340)) hh349 (k_Md_mayTerm hM h) (fun r1 M μ2 hM h => ?_) (fun _ _ _ _ f => f.elim)
  refine L_br (p1 := 10) (p2 := 8) (c349 5 rfl) rfl jc_neb h (fun h => ?_) (fun h => ?_)
  · refine L_ps c349 (n := 2) (pc1 := 12) (ls1 := [jR 772, jI v1, jI 0]) (st1 := []) rfl ?_
    exact k_Md_isGround_l12 hM hQ h
  · refine L_ps c349 (n := 1) (pc1 := 9) (ls1 := [jR 772, jI v1, jU]) (st1 := [jI 0]) rfl ?_
    exact L_retB (c349 9 rfl) (Or.inl rfl) (hQ false _ _ hM h)
theorem k_Md_mayTerms_j26 {E : JE2} {t1 : Int} {t2 : Int} {μ : Mem} {M : JM} {P : JO → JM → Prop} {g0 : JV} {g1 : JV} {g2 : JV} {Q : Bool → Mem → Prop} (hM : Rl E M μ) (hQ : ∀ (r : Bool) (M1 : JM) (μ1 : Mem), Rl E M1 μ1 → Q r μ1 → P (.inl (some (.inl (b2i r)))) M1) (h : d_Md_mayTerms_j26 t1 t2 μ Q) : JX 351 26 [g0, g1, g2] [jI t2, jI t1, jR 772] M P := by
  unfold d_Md_mayTerms_j26 at h
  refine L_cB (c351 26 rfl) (js_v rfl ((Rl_tag hM rt772 (by decide)).trans js325)) hh351 (k_Md_mayTwo hM h) (fun r5 M μ6 hM h => ?_) (fun _ _ _ _ f => f.elim)
  exact L_retB (c351 29 rfl) (bz_b _) (hQ _ _ _ hM h)
theorem k_Md_mayTerms_j25 {E : JE2} {t1 : Int} {μ : Mem} {M : JM} {P : JO → JM → Prop} {g0 : JV} {g1 : JV} {g2 : JV} {Q : Bool → Mem → Prop} (hM : Rl E M μ) (hQ : ∀ (r : Bool) (M1 : JM) (μ1 : Mem), Rl E M1 μ1 → Q r μ1 → P (.inl (some (.inl (b2i r)))) M1) (h : d_Md_mayTerms_j25 t1 μ Q) : JX 351 25 [g0, g1, g2] [jI t1, jR 772] M P := by
  unfold d_Md_mayTerms_j25 at h
  refine L_ps c351 (n := 1) (pc1 := 26) (ls1 := [g0, g1, g2]) (st1 := [jI 0, jI t1, jR 772]) rfl ?_
  exact k_Md_mayTerms_j26 hM hQ h
theorem k_Md_mayTerms {E : JE2} {v1 : Int} {v2 : Int} {μ : Mem} {M : JM} {Q : Bool → Mem → Prop} (hM : Rl E M μ) (h : d_Md_mayTerms v1 v2 μ Q) : JX 351 0 (jargs 351 [jR 772, jI v1, jI v2]) [] M (PO E (QB Q) XN) := by
  unfold d_Md_mayTerms at h
  show JX 351 0 [jR 772, jI v1, jI v2] [] M (PO E (QB Q) XN)
  generalize hP : PO E (QB Q) XN = P
  have hQ : ∀ (r : Bool) (M1 : JM) (μ1 : Mem), Rl E M1 μ1 → Q r μ1 → P (.inl (some (.inl (b2i r)))) M1 := by rw [← hP]; exact fun r M1 μ1 a b => ⟨μ1, a, r, rfl, b⟩
  clear hP
  refine L_ps c351 (n := 2) (pc1 := 2) (ls1 := [jR 772, jI v1, jI v2]) (st1 := [jR 772, jR 772]) rfl ?_
  refine L_getI (c351 2 rfl) hM rt772 rfl ?_
  refine L_ps c351 (n := 2) (pc1 := 7) (ls1 := [jR 772, jI v1, jI v2]) (st1 := [jI v1, jR 772, jI (μ 772 6), jR 772]) rfl ?_
  refine L_cpB (c351 7 rfl) (js_v rfl ((Rl_tag hM rt772 (by decide)).trans js341)) hh351 (k_Md_isTerm hM h) (fun r1 M hM h => ?_) (fun _ _ _ _ f => f.elim)
  refine L_nb (p1 := 25) (p2 := 13) (c351 10 rfl) rfl jc_eqb h (fun h => ?_) (fun h => ?_)
  · refine L_ps c351 (n := 2) (pc1 := 15) (ls1 := [jR 772, jI v1, jI v2]) (st1 := [jI v2, jR 772, jI (μ 772 6), jR 772]) rfl ?_
    refine L_cpB (c351 15 rfl) (js_v rfl ((Rl_tag hM rt772 (by decide)).trans js341)) hh351 (k_Md_isTerm hM h) (fun r3 M hM h => ?_) (fun _ _ _ _ f => f.elim)
    refine L_nb (p1 := 25) (p2 := 21) (c351 18 rfl) rfl jc_eqb h (fun h => ?_) (fun h => ?_)
    · refine L_ps c351 (n := 2) (pc1 := 26) (ls1 := [jR 772, jI v1, jI v2]) (st1 := [jI 1, jI (μ 772 6), jR 772]) rfl ?_
      exact k_Md_mayTerms_j26 hM hQ h
    · exact k_Md_mayTerms_j25 hM hQ h
  · exact k_Md_mayTerms_j25 hM hQ h
theorem k_Md_keeps {E : JE2} {μ : Mem} {M : JM} {Q : Mem → Prop} (hM : Rl E M μ) (h : d_Md_keeps μ Q) : JX 352 0 (jargs 352 [jR 772]) [] M (PO E (QV Q) XN) := by
  unfold d_Md_keeps at h
  show JX 352 0 [jR 772] [] M (PO E (QV Q) XN)
  generalize hP : PO E (QV Q) XN = P
  have hQ : ∀ (M1 : JM) (μ1 : Mem), Rl E M1 μ1 → Q μ1 → P (.inl none) M1 := by rw [← hP]; exact fun M1 μ1 a b => ⟨μ1, a, rfl, b⟩
  clear hP
  refine L_ps c352 (n := 2) (pc1 := 2) (ls1 := [jR 772]) (st1 := [jR 772, jR 772]) rfl ?_
  refine L_getI (c352 2 rfl) hM rt772 rfl ?_
  refine L_putI (c352 5 rfl) hM rt772 rfl (fun M hM => ?_)
  refine L_ps c352 (n := 1) (pc1 := 9) (ls1 := [jR 772]) (st1 := [jR 772]) rfl ?_
  refine L_getP (d := 8) (c352 9 rfl) hM rt772 rfl ?_
  refine L_ps c352 (n := 2) (pc1 := 14) (ls1 := [jR 772]) (st1 := [jR 772, jI 0, jR 780]) rfl ?_
  refine L_getP (d := 10) (c352 14 rfl) hM rt772 rfl ?_
  refine L_ps c352 (n := 2) (pc1 := 19) (ls1 := [jR 772]) (st1 := [jR 772, jI 0, jR 782, jI 0, jR 780]) rfl ?_
  refine L_getI (c352 19 rfl) hM rt772 rfl ?_
  refine L_cV (c352 22 rfl) (js_t rfl) hh352 (k_Md_lays rt780 rt782 hM h) (fun M μ2 hM h => ?_) (fun _ _ _ _ f => f.elim)
  exact L_end (c352 25 rfl) rfl (hQ _ _ hM h)
theorem k_Md_isKept_b15 {E : JE2} {v1 : Int} {μ : Mem} {M : JM} {P : JO → JM → Prop} {W15 : Int → Prop} {Q : Bool → Prop} (hM : Rl E M μ) (hQ : ∀ (r : Bool) (M1 : JM), Rl E M1 μ → Q r → P (.inl (some (.inl (b2i r)))) M1) (hW15 : ∀ (v1 : Int) (M1 : JM), Rl E M1 μ → W15 v1 → JX 353 15 [jR 772, jI v1] [] M1 P) (h : d_Md_isKept_b15 v1 μ W15 Q) : JX 353 15 [jR 772, jI v1] [] M P := by
  unfold d_Md_isKept_b15 at h
  refine L_ps c353 (n := 2) (pc1 := 17) (ls1 := [jR 772, jI v1]) (st1 := [jR 772, jI v1]) rfl ?_
  refine L_getI (c353 17 rfl) hM rt772 rfl ?_
  refine L_nb (p1 := 46) (p2 := 23) (c353 20 rfl) rfl jc_ge h (fun h => ?_) (fun h => ?_)
  · refine L_ps c353 (n := 1) (pc1 := 24) (ls1 := [jR 772, jI v1]) (st1 := [jR 772]) rfl ?_
    refine L_getP (d := 10) (c353 24 rfl) hM rt772 rfl ?_
    refine L_ps c353 (n := 1) (pc1 := 28) (ls1 := [jR 772, jI v1]) (st1 := [jI v1, jR 782]) rfl ?_
    obtain ⟨hb, h⟩ := h
    refine L_iald (c353 28 rfl) hM rt782 ln782 hb ?_
    refine L_ps c353 (n := 1) (pc1 := 30) (ls1 := [jR 772, jI v1]) (st1 := [jR 772, jI (μ 782 v1.toNat)]) rfl ?_
    refine L_getP (d := 8) (c353 30 rfl) hM rt772 rfl ?_
    refine L_ps c353 (n := 1) (pc1 := 34) (ls1 := [jR 772, jI v1]) (st1 := [jI v1, jR 780, jI (μ 782 v1.toNat)]) rfl ?_
    obtain ⟨hb, h⟩ := h
    refine L_iald (c353 34 rfl) hM rt780 ln780 hb ?_
    refine L_br (p1 := 40) (p2 := 38) (c353 35 rfl) rfl jc_eq h (fun h => ?_) (fun h => ?_)
    · refine L_ps c353 (n := 2) (pc1 := 15) (ls1 := [jR 772, jI (wr (v1 + 1))]) (st1 := []) rfl ?_
      exact hW15 _ _ hM h
    · refine L_ps c353 (n := 1) (pc1 := 39) (ls1 := [jR 772, jI v1]) (st1 := [jI 0]) rfl ?_
      exact L_retB (c353 39 rfl) (Or.inl rfl) (hQ false _ hM h)
  · refine L_ps c353 (n := 1) (pc1 := 47) (ls1 := [jR 772, jI v1]) (st1 := [jI 1]) rfl ?_
    exact L_retB (c353 47 rfl) (Or.inr rfl) (hQ true _ hM h)
theorem k_Md_isKept_l15 {E : JE2} {v1 : Int} {μ : Mem} {M : JM} {P : JO → JM → Prop} {Q : Bool → Prop} (hM : Rl E M μ) (hQ : ∀ (r : Bool) (M1 : JM), Rl E M1 μ → Q r → P (.inl (some (.inl (b2i r)))) M1) (h : d_Md_isKept_l15 v1 μ Q) : JX 353 15 [jR 772, jI v1] [] M P := by
  refine h (fun v1 => ∀ (M : JM), Rl E M μ → JX 353 15 [jR 772, jI v1] [] M P) ?_ _ hM
  intro v1 h M hM
  exact k_Md_isKept_b15 hM hQ (fun v1 M hM h => h M hM) h
theorem k_Md_isKept {E : JE2} {μ : Mem} {M : JM} {Q : Bool → Prop} (hM : Rl E M μ) (h : d_Md_isKept μ Q) : JX 353 0 (jargs 353 [jR 772]) [] M (PO E (pQB μ Q) XN) := by
  unfold d_Md_isKept at h
  show JX 353 0 [jR 772, jU] [] M (PO E (pQB μ Q) XN)
  generalize hP : PO E (pQB μ Q) XN = P
  have hQ : ∀ (r : Bool) (M1 : JM), Rl E M1 μ → Q r → P (.inl (some (.inl (b2i r)))) M1 := by rw [← hP]; exact fun r M1 a b => ⟨μ, a, rfl, r, rfl, b⟩
  clear hP
  refine L_ps c353 (n := 1) (pc1 := 1) (ls1 := [jR 772, jU]) (st1 := [jR 772]) rfl ?_
  refine L_getI (c353 1 rfl) hM rt772 rfl ?_
  refine L_ps c353 (n := 1) (pc1 := 5) (ls1 := [jR 772, jU]) (st1 := [jR 772, jI (μ 772 27)]) rfl ?_
  refine L_getI (c353 5 rfl) hM rt772 rfl ?_
  refine L_br (p1 := 13) (p2 := 11) (c353 8 rfl) rfl jc_eq h (fun h => ?_) (fun h => ?_)
  · refine L_ps c353 (n := 2) (pc1 := 15) (ls1 := [jR 772, jI 0]) (st1 := []) rfl ?_
    exact k_Md_isKept_l15 hM hQ h
  · refine L_ps c353 (n := 1) (pc1 := 12) (ls1 := [jR 772, jU]) (st1 := [jI 0]) rfl ?_
    exact L_retB (c353 12 rfl) (Or.inl rfl) (hQ false _ hM h)
theorem k_Md_areEqual {E : JE2} {v1 : Int} {v2 : Int} {μ : Mem} {M : JM} {Q : Bool → Mem → Prop} (hM : Rl E M μ) (h : d_Md_areEqual v1 v2 μ Q) : JX 350 0 (jargs 350 [jR 772, jI v1, jI v2]) [] M (PO E (QB Q) XN) := by
  unfold d_Md_areEqual at h
  show JX 350 0 [jR 772, jI v1, jI v2] [] M (PO E (QB Q) XN)
  generalize hP : PO E (QB Q) XN = P
  have hQ : ∀ (r : Bool) (M1 : JM) (μ1 : Mem), Rl E M1 μ1 → Q r μ1 → P (.inl (some (.inl (b2i r)))) M1 := by rw [← hP]; exact fun r M1 μ1 a b => ⟨μ1, a, r, rfl, b⟩
  clear hP
  refine L_ps c350 (n := 3) (pc1 := 3) (ls1 := [jR 772, jI v1, jI v2]) (st1 := [jI v2, jI v1, jR 772]) rfl ?_
  refine L_cB (c350 3 rfl) (js_v rfl ((Rl_tag hM rt772 (by decide)).trans js351)) hh350 (k_Md_mayTerms hM h) (fun r1 M μ2 hM h => ?_) (fun _ _ _ _ f => f.elim)
  refine L_br (p1 := 11) (p2 := 9) (c350 6 rfl) rfl jc_neb h (fun h => ?_) (fun h => ?_)
  · refine L_ps c350 (n := 2) (pc1 := 13) (ls1 := [jR 772, jI v1, jI v2]) (st1 := [jI v1, jR 772]) rfl ?_
    refine L_cV (c350 13 rfl) (js_v rfl ((Rl_tag hM rt772 (by decide)).trans js293)) hh350 (k_Md_lends hM h) (fun M μ4 hM h => ?_) (fun _ _ _ _ f => f.elim)
    refine L_ps c350 (n := 1) (pc1 := 17) (ls1 := [jR 772, jI v1, jI v2]) (st1 := [jR 772]) rfl ?_
    refine L_cV (c350 17 rfl) (js_v rfl ((Rl_tag hM rt772 (by decide)).trans js352)) hh350 (k_Md_keeps hM h) (fun M μ6 hM h => ?_) (fun _ _ _ _ f => f.elim)
    refine L_ps c350 (n := 2) (pc1 := 22) (ls1 := [jR 772, jI v1, jI v2]) (st1 := [jI v2, jR 772]) rfl ?_
    refine L_cV (c350 22 rfl) (js_v rfl ((Rl_tag hM rt772 (by decide)).trans js293)) hh350 (k_Md_lends hM h) (fun M μ8 hM h => ?_) (fun _ _ _ _ f => f.elim)
    refine L_ps c350 (n := 1) (pc1 := 26) (ls1 := [jR 772, jI v1, jI v2]) (st1 := [jR 772]) rfl ?_
    refine L_cpB (c350 26 rfl) (js_v rfl ((Rl_tag hM rt772 (by decide)).trans js353)) hh350 (k_Md_isKept hM h) (fun r9 M hM h => ?_) (fun _ _ _ _ f => f.elim)
    exact L_retB (c350 29 rfl) (bz_b _) (hQ _ _ _ hM h)
  · refine L_ps c350 (n := 1) (pc1 := 10) (ls1 := [jR 772, jI v1, jI v2]) (st1 := [jI 0]) rfl ?_
    exact L_retB (c350 10 rfl) (Or.inl rfl) (hQ false _ _ hM h)
theorem k_Md_averageSize_b13 {E : JE2} {v1 : Int} {v2 : Int} {μ : Mem} {M : JM} {P : JO → JM → Prop} {W13 : Int → Int → Prop} {Q : UInt64 → Mem → Prop} (hM : Rl E M μ) (hQ : ∀ (r : UInt64) (M1 : JM) (μ1 : Mem), Rl E M1 μ1 → Q r μ1 → P (.inl (some (.inr (.inr (.double r))))) M1) (hW13 : ∀ (v1 : Int) (v2 : Int) (M1 : JM), Rl E M1 μ → W13 v1 v2 → JX 354 13 [jR 772, jI v1, jI v2] [] M1 P) (h : d_Md_averageSize_b13 v1 v2 μ W13 Q) : JX 354 13 [jR 772, jI v1, jI v2] [] M P := by
  unfold d_Md_averageSize_b13 at h
  refine L_ps c354 (n := 2) (pc1 := 15) (ls1 := [jR 772, jI v1, jI v2]) (st1 := [jR 772, jI v2]) rfl ?_
  refine L_getP (d := 1) (c354 15 rfl) hM rt772 rfl ?_
  refine L_ps c354 (n := 1) (pc1 := 19) (ls1 := [jR 772, jI v1, jI v2]) (st1 := [jI 2, jR 773, jI v2]) rfl ?_
  refine L_iald (c354 19 rfl) hM rt773 ln773 (by decide) ?_
  refine L_nb (p1 := 37) (p2 := 23) (c354 20 rfl) rfl jc_ge h (fun h => ?_) (fun h => ?_)
  · refine L_ps c354 (n := 3) (pc1 := 26) (ls1 := [jR 772, jI v1, jI v2]) (st1 := [jI v2, jR 772, jI v1]) rfl ?_
    refine L_cpI (c354 26 rfl) (js_v rfl ((Rl_tag hM rt772 (by decide)).trans js294)) hh354 (k_Md_sizeOf hM h) (fun r3 M hM h => ?_) (fun _ _ _ _ f => f.elim)
    refine L_ps c354 (n := 4) (pc1 := 13) (ls1 := [jR 772, jI (wr (v1 + r3)), jI (wr (v2 + 1))]) (st1 := []) rfl ?_
    exact hW13 _ _ _ hM h
  · refine L_ps c354 (n := 1) (pc1 := 38) (ls1 := [jR 772, jI v1, jI v2]) (st1 := [jR 772]) rfl ?_
    refine L_getP (d := 1) (c354 38 rfl) hM rt772 rfl ?_
    refine L_ps c354 (n := 1) (pc1 := 42) (ls1 := [jR 772, jI v1, jI v2]) (st1 := [jI 2, jR 773]) rfl ?_
    refine L_iald (c354 42 rfl) hM rt773 ln773 (by decide) ?_
    refine L_nb (p1 := 50) (p2 := 46) (c354 43 rfl) rfl jc_ne h (fun h => ?_) (fun h => ?_)
    · refine L_ps c354 (n := 2) (pc1 := 60) (ls1 := [jR 772, jI v1, jI v2]) (st1 := [jX (.double (FP.dconst0))]) rfl ?_
      exact L_end (c354 60 rfl) rfl (hQ _ _ _ hM h)
    · refine L_ps c354 (n := 3) (pc1 := 53) (ls1 := [jR 772, jI v1, jI v2]) (st1 := [jR 772, jX (.double (FP.i2d (Int32.ofInt v1)))]) rfl ?_
      refine L_getP (d := 1) (c354 53 rfl) hM rt772 rfl ?_
      refine L_ps c354 (n := 1) (pc1 := 57) (ls1 := [jR 772, jI v1, jI v2]) (st1 := [jI 2, jR 773, jX (.double (FP.i2d (Int32.ofInt v1)))]) rfl ?_
      refine L_iald (c354 57 rfl) hM rt773 ln773 (by decide) ?_
      refine L_ps c354 (n := 1) (pc1 := 59) (ls1 := [jR 772, jI v1, jI v2]) (st1 := [jX (.double (FP.i2d (Int32.ofInt (μ 773 2)))), jX (.double (FP.i2d (Int32.ofInt v1)))]) rfl ?_
      obtain ⟨hn, h⟩ := h
      refine L_ddiv (c354 59 rfl) hn ?_
      exact L_end (c354 60 rfl) rfl (hQ _ _ _ hM h)
theorem k_Md_averageSize_l13 {E : JE2} {v1 : Int} {v2 : Int} {μ : Mem} {M : JM} {P : JO → JM → Prop} {Q : UInt64 → Mem → Prop} (hM : Rl E M μ) (hQ : ∀ (r : UInt64) (M1 : JM) (μ1 : Mem), Rl E M1 μ1 → Q r μ1 → P (.inl (some (.inr (.inr (.double r))))) M1) (h : d_Md_averageSize_l13 v1 v2 μ Q) : JX 354 13 [jR 772, jI v1, jI v2] [] M P := by
  refine h (fun v1 v2 => ∀ (M : JM), Rl E M μ → JX 354 13 [jR 772, jI v1, jI v2] [] M P) ?_ _ hM
  intro v1 v2 h M hM
  exact k_Md_averageSize_b13 hM hQ (fun v1 v2 M hM h => h M hM) h
theorem k_Md_averageSize {E : JE2} {μ : Mem} {M : JM} {Q : UInt64 → Mem → Prop} (hM : Rl E M μ) (h : d_Md_averageSize μ Q) : JX 354 0 (jargs 354 [jR 772]) [] M (PO E (QD Q) XN) := by
  unfold d_Md_averageSize at h
  show JX 354 0 [jR 772, jU, jU] [] M (PO E (QD Q) XN)
  generalize hP : PO E (QD Q) XN = P
  have hQ : ∀ (r : UInt64) (M1 : JM) (μ1 : Mem), Rl E M1 μ1 → Q r μ1 → P (.inl (some (.inr (.inr (.double r))))) M1 := by rw [← hP]; exact fun r M1 μ1 a b => ⟨μ1, a, r, rfl, b⟩
  clear hP
  refine L_ps c354 (n := 1) (pc1 := 1) (ls1 := [jR 772, jU, jU]) (st1 := [jR 772]) rfl ?_
  refine L_cB (c354 1 rfl) (js_v rfl ((Rl_tag hM rt772 (by decide)).trans js321)) hh354 (k_Md_mayLook hM h) (fun r1 M μ2 hM h => ?_) (fun _ _ _ _ f => f.elim)
  refine L_br (p1 := 9) (p2 := 7) (c354 4 rfl) rfl jc_neb h (fun h => ?_) (fun h => ?_)
  · refine L_ps c354 (n := 4) (pc1 := 13) (ls1 := [jR 772, jI 0, jI 0]) (st1 := []) rfl ?_
    exact k_Md_averageSize_l13 hM hQ h
  · refine L_ps c354 (n := 1) (pc1 := 8) (ls1 := [jR 772, jU, jU]) (st1 := [jX (.double (FP.dconst0))]) rfl ?_
    exact L_end (c354 8 rfl) rfl (hQ _ _ _ hM h)
theorem k_Md_matches_j27 {E : JE2} {v1 : Int} {v2 : Int} {v3 : Int} {t1 : Int} {t2 : Int} {μ : Mem} {M : JM} {P : JO → JM → Prop} {Q : Bool → Mem → Prop} (hM : Rl E M μ) (hQ : ∀ (r : Bool) (M1 : JM) (μ1 : Mem), Rl E M1 μ1 → Q r μ1 → P (.inl (some (.inl (b2i r)))) M1) (h : d_Md_matches_j27 v1 v2 v3 t1 t2 μ Q) : JX 355 27 [jR 772, jI v1, jI v2, jI v3] [jI t2, jI t1, jR 772] M P := by
  unfold d_Md_matches_j27 at h
  refine L_cB (c355 27 rfl) (js_v rfl ((Rl_tag hM rt772 (by decide)).trans js325)) hh355 (k_Md_mayTwo hM h) (fun r5 M μ6 hM h => ?_) (fun _ _ _ _ f => f.elim)
  refine L_br (p1 := 35) (p2 := 33) (c355 30 rfl) rfl jc_neb h (fun h => ?_) (fun h => ?_)
  · refine L_ps c355 (n := 2) (pc1 := 37) (ls1 := [jR 772, jI v1, jI v2, jI v3]) (st1 := [jI v2, jR 772]) rfl ?_
    refine L_cV (c355 37 rfl) (js_v rfl ((Rl_tag hM rt772 (by decide)).trans js293)) hh355 (k_Md_lends hM h) (fun M μ8 hM h => ?_) (fun _ _ _ _ f => f.elim)
    refine L_ps c355 (n := 3) (pc1 := 43) (ls1 := [jR 772, jI v1, jI v2, jI v3]) (st1 := [jI v3, jI v1, jR 772]) rfl ?_
    refine L_cB (c355 43 rfl) (js_v rfl ((Rl_tag hM rt772 (by decide)).trans js309)) hh355 (k_Md_matchesAt hM h) (fun r9 M μ10 hM h => ?_) (fun _ _ _ _ f => f.elim)
    exact L_retB (c355 46 rfl) (bz_b _) (hQ _ _ _ hM h)
  · refine L_ps c355 (n := 1) (pc1 := 34) (ls1 := [jR 772, jI v1, jI v2, jI v3]) (st1 := [jI 0]) rfl ?_
    exact L_retB (c355 34 rfl) (Or.inl rfl) (hQ false _ _ hM h)
theorem k_Md_matches_j26 {E : JE2} {v1 : Int} {v2 : Int} {v3 : Int} {t1 : Int} {μ : Mem} {M : JM} {P : JO → JM → Prop} {Q : Bool → Mem → Prop} (hM : Rl E M μ) (hQ : ∀ (r : Bool) (M1 : JM) (μ1 : Mem), Rl E M1 μ1 → Q r μ1 → P (.inl (some (.inl (b2i r)))) M1) (h : d_Md_matches_j26 v1 v2 v3 t1 μ Q) : JX 355 26 [jR 772, jI v1, jI v2, jI v3] [jI t1, jR 772] M P := by
  unfold d_Md_matches_j26 at h
  refine L_ps c355 (n := 1) (pc1 := 27) (ls1 := [jR 772, jI v1, jI v2, jI v3]) (st1 := [jI 0, jI t1, jR 772]) rfl ?_
  exact k_Md_matches_j27 hM hQ h
theorem k_Md_matches {E : JE2} {v1 : Int} {v2 : Int} {v3 : Int} {μ : Mem} {M : JM} {Q : Bool → Mem → Prop} (hM : Rl E M μ) (h : d_Md_matches v1 v2 v3 μ Q) : JX 355 0 (jargs 355 [jR 772, jI v1, jI v2, jI v3]) [] M (PO E (QB Q) XN) := by
  unfold d_Md_matches at h
  show JX 355 0 [jR 772, jI v1, jI v2, jI v3] [] M (PO E (QB Q) XN)
  generalize hP : PO E (QB Q) XN = P
  have hQ : ∀ (r : Bool) (M1 : JM) (μ1 : Mem), Rl E M1 μ1 → Q r μ1 → P (.inl (some (.inl (b2i r)))) M1 := by rw [← hP]; exact fun r M1 μ1 a b => ⟨μ1, a, r, rfl, b⟩
  clear hP
  refine L_ps c355 (n := 2) (pc1 := 2) (ls1 := [jR 772, jI v1, jI v2, jI v3]) (st1 := [jR 772, jR 772]) rfl ?_
  refine L_getI (c355 2 rfl) hM rt772 rfl ?_
  refine L_ps c355 (n := 2) (pc1 := 7) (ls1 := [jR 772, jI v1, jI v2, jI v3]) (st1 := [jI v1, jR 772, jI (μ 772 6), jR 772]) rfl ?_
  refine L_cpB (c355 7 rfl) (js_v rfl ((Rl_tag hM rt772 (by decide)).trans js331)) hh355 (k_Md_isRule hM h) (fun r1 M hM h => ?_) (fun _ _ _ _ f => f.elim)
  refine L_nb (p1 := 26) (p2 := 13) (c355 10 rfl) rfl jc_eqb h (fun h => ?_) (fun h => ?_)
  · refine L_ps c355 (n := 3) (pc1 := 16) (ls1 := [jR 772, jI v1, jI v2, jI v3]) (st1 := [jI v3, jI v2, jR 772, jI (μ 772 6), jR 772]) rfl ?_
    refine L_cpB (c355 16 rfl) (js_v rfl ((Rl_tag hM rt772 (by decide)).trans js346)) hh355 (k_Md_isPosition hM h) (fun r3 M hM h => ?_) (fun _ _ _ _ f => f.elim)
    refine L_nb (p1 := 26) (p2 := 22) (c355 19 rfl) rfl jc_eqb h (fun h => ?_) (fun h => ?_)
    · refine L_ps c355 (n := 2) (pc1 := 27) (ls1 := [jR 772, jI v1, jI v2, jI v3]) (st1 := [jI 1, jI (μ 772 6), jR 772]) rfl ?_
      exact k_Md_matches_j27 hM hQ h
    · exact k_Md_matches_j26 hM hQ h
  · exact k_Md_matches_j26 hM hQ h
theorem k_Md_ruleAt {E : JE2} {v1 : Int} {v2 : Int} {μ : Mem} {M : JM} {Q : Int → Mem → Prop} (hM : Rl E M μ) (h : d_Md_ruleAt v1 v2 μ Q) : JX 356 0 (jargs 356 [jR 772, jI v1, jI v2]) [] M (PO E (QI Q) XN) := by
  unfold d_Md_ruleAt at h
  show JX 356 0 [jR 772, jI v1, jI v2] [] M (PO E (QI Q) XN)
  generalize hP : PO E (QI Q) XN = P
  have hQ : ∀ (r : Int) (M1 : JM) (μ1 : Mem), Rl E M1 μ1 → Q r μ1 → P (.inl (some (.inl r))) M1 := by rw [← hP]; exact fun r M1 μ1 a b => ⟨μ1, a, r, rfl, b⟩
  clear hP
  refine L_ps c356 (n := 3) (pc1 := 3) (ls1 := [jR 772, jI v1, jI v2]) (st1 := [jI v2, jI v1, jR 772]) rfl ?_
  refine L_cB (c356 3 rfl) (js_v rfl ((Rl_tag hM rt772 (by decide)).trans js345)) hh356 (k_Md_mayPosition hM h) (fun r1 M μ2 hM h => ?_) (fun _ _ _ _ f => f.elim)
  refine L_br (p1 := 11) (p2 := 9) (c356 6 rfl) rfl jc_neb h (fun h => ?_) (fun h => ?_)
  · refine L_ps c356 (n := 2) (pc1 := 13) (ls1 := [jR 772, jI v1, jI v2]) (st1 := [jI v1, jR 772]) rfl ?_
    refine L_cV (c356 13 rfl) (js_v rfl ((Rl_tag hM rt772 (by decide)).trans js293)) hh356 (k_Md_lends hM h) (fun M μ4 hM h => ?_) (fun _ _ _ _ f => f.elim)
    refine L_ps c356 (n := 2) (pc1 := 18) (ls1 := [jR 772, jI v1, jI v2]) (st1 := [jI v2, jR 772]) rfl ?_
    refine L_cI (c356 18 rfl) (js_v rfl ((Rl_tag hM rt772 (by decide)).trans js308)) hh356 (k_Md_firstRule hM h) (fun r5 M μ6 hM h => ?_) (fun _ _ _ _ f => f.elim)
    exact L_retI (c356 21 rfl) (hQ _ _ _ hM h)
  · refine L_ps c356 (n := 1) (pc1 := 10) (ls1 := [jR 772, jI v1, jI v2]) (st1 := [jI 0]) rfl ?_
    exact L_retI (c356 10 rfl) (hQ _ _ _ hM h)
theorem k_Md_redexes_j27 {E : JE2} {v2 : Int} {t0 : Int} {t1 : Int} {μ : Mem} {M : JM} {P : JO → JM → Prop} {g1 : JV} {W4 : Int → Int → Mem → Prop} {Q : Int → Mem → Prop} (hg1 : jc2 g1 = false) (hM : Rl E M μ) (hQ : ∀ (r : Int) (M1 : JM) (μ1 : Mem), Rl E M1 μ1 → Q r μ1 → P (.inl (some (.inl r))) M1) (hW4 : ∀ (v1 : Int) (v2 : Int) (M1 : JM) (μ1 : Mem), Rl E M1 μ1 → W4 v1 v2 μ1 → JX 358 4 [jR 772, jI v1, jI v2] [] M1 P) (h : d_Md_redexes_j27 v2 t0 t1 μ W4 Q) : JX 358 27 [jR 772, g1, jI v2] [jI t1, jI t0] M P := by
  unfold d_Md_redexes_j27 at h
  refine L_cpI (c358 27 rfl) (js_t rfl) hh358 (k_Md_one hM h) (fun r3 M hM h => ?_) (fun _ _ _ _ f => f.elim)
  refine L_ps c358 (n := 4) (pc1 := 4) (ls1 := [jR 772, jI (wr (t0 + r3)), jI (wr (v2 + 1))]) (st1 := []) rfl ?_
  exact hW4 _ _ _ _ hM h
theorem k_Md_redexes_b4 {E : JE2} {v1 : Int} {v2 : Int} {μ : Mem} {M : JM} {P : JO → JM → Prop} {W4 : Int → Int → Mem → Prop} {Q : Int → Mem → Prop} (hM : Rl E M μ) (hQ : ∀ (r : Int) (M1 : JM) (μ1 : Mem), Rl E M1 μ1 → Q r μ1 → P (.inl (some (.inl r))) M1) (hW4 : ∀ (v1 : Int) (v2 : Int) (M1 : JM) (μ1 : Mem), Rl E M1 μ1 → W4 v1 v2 μ1 → JX 358 4 [jR 772, jI v1, jI v2] [] M1 P) (h : d_Md_redexes_b4 v1 v2 μ W4 Q) : JX 358 4 [jR 772, jI v1, jI v2] [] M P := by
  unfold d_Md_redexes_b4 at h
  refine L_ps c358 (n := 2) (pc1 := 6) (ls1 := [jR 772, jI v1, jI v2]) (st1 := [jR 772, jI v2]) rfl ?_
  refine L_getI (c358 6 rfl) hM rt772 rfl ?_
  refine L_nb (p1 := 38) (p2 := 12) (c358 9 rfl) rfl jc_ge h (fun h => ?_) (fun h => ?_)
  · refine L_ps c358 (n := 3) (pc1 := 15) (ls1 := [jR 772, jI v1, jI v2]) (st1 := [jI v2, jR 772, jI v1]) rfl ?_
    refine L_cI (c358 15 rfl) (js_v rfl ((Rl_tag hM rt772 (by decide)).trans js308)) hh358 (k_Md_firstRule hM h) (fun r1 M μ2 hM h => ?_) (fun _ _ _ _ f => f.elim)
    refine L_ps c358 (n := 1) (pc1 := 19) (ls1 := [jR 772, jI v1, jI v2]) (st1 := [jI (-1), jI r1, jI v1]) rfl ?_
    refine L_br (p1 := 26) (p2 := 22) (c358 19 rfl) rfl jc_eq h (fun h => ?_) (fun h => ?_)
    · refine L_ps c358 (n := 1) (pc1 := 27) (ls1 := [jR 772, jI v1, jI v2]) (st1 := [jI 0, jI v1]) rfl ?_
      exact k_Md_redexes_j27 rfl hM hQ hW4 h
    · refine L_ps c358 (n := 2) (pc1 := 27) (ls1 := [jR 772, jI v1, jI v2]) (st1 := [jI 1, jI v1]) rfl ?_
      exact k_Md_redexes_j27 rfl hM hQ hW4 h
  · refine L_ps c358 (n := 1) (pc1 := 39) (ls1 := [jR 772, jI v1, jI v2]) (st1 := [jI v1]) rfl ?_
    exact L_retI (c358 39 rfl) (hQ _ _ _ hM h)
theorem k_Md_redexes_l4 {E : JE2} {v1 : Int} {v2 : Int} {μ : Mem} {M : JM} {P : JO → JM → Prop} {Q : Int → Mem → Prop} (hM : Rl E M μ) (hQ : ∀ (r : Int) (M1 : JM) (μ1 : Mem), Rl E M1 μ1 → Q r μ1 → P (.inl (some (.inl r))) M1) (h : d_Md_redexes_l4 v1 v2 μ Q) : JX 358 4 [jR 772, jI v1, jI v2] [] M P := by
  refine h (fun v1 v2 μ => ∀ (M : JM), Rl E M μ → JX 358 4 [jR 772, jI v1, jI v2] [] M P) ?_ _ hM
  intro v1 v2 μ h M hM
  exact k_Md_redexes_b4 hM hQ (fun v1 v2 M μ hM h => h M hM) h
theorem k_Md_redexes {E : JE2} {μ : Mem} {M : JM} {Q : Int → Mem → Prop} (hM : Rl E M μ) (h : d_Md_redexes μ Q) : JX 358 0 (jargs 358 [jR 772]) [] M (PO E (QI Q) XN) := by
  unfold d_Md_redexes at h
  show JX 358 0 [jR 772, jU, jU] [] M (PO E (QI Q) XN)
  generalize hP : PO E (QI Q) XN = P
  have hQ : ∀ (r : Int) (M1 : JM) (μ1 : Mem), Rl E M1 μ1 → Q r μ1 → P (.inl (some (.inl r))) M1 := by rw [← hP]; exact fun r M1 μ1 a b => ⟨μ1, a, r, rfl, b⟩
  clear hP
  refine L_ps c358 (n := 4) (pc1 := 4) (ls1 := [jR 772, jI 0, jI 0]) (st1 := []) rfl ?_
  exact k_Md_redexes_l4 hM hQ h
theorem k_Md_redexCount {E : JE2} {v1 : Int} {μ : Mem} {M : JM} {Q : Int → Mem → Prop} (hM : Rl E M μ) (h : d_Md_redexCount v1 μ Q) : JX 357 0 (jargs 357 [jR 772, jI v1]) [] M (PO E (QI Q) XN) := by
  unfold d_Md_redexCount at h
  show JX 357 0 [jR 772, jI v1] [] M (PO E (QI Q) XN)
  generalize hP : PO E (QI Q) XN = P
  have hQ : ∀ (r : Int) (M1 : JM) (μ1 : Mem), Rl E M1 μ1 → Q r μ1 → P (.inl (some (.inl r))) M1 := by rw [← hP]; exact fun r M1 μ1 a b => ⟨μ1, a, r, rfl, b⟩
  clear hP
  refine L_ps c357 (n := 2) (pc1 := 2) (ls1 := [jR 772, jI v1]) (st1 := [jI v1, jR 772]) rfl ?_
  refine L_cB (c357 2 rfl) (js_v rfl ((Rl_tag hM rt772 (by decide)).trans js340)) hh357 (k_Md_mayTerm hM h) (fun r1 M μ2 hM h => ?_) (fun _ _ _ _ f => f.elim)
  refine L_br (p1 := 10) (p2 := 8) (c357 5 rfl) rfl jc_neb h (fun h => ?_) (fun h => ?_)
  · refine L_ps c357 (n := 2) (pc1 := 12) (ls1 := [jR 772, jI v1]) (st1 := [jI v1, jR 772]) rfl ?_
    refine L_cV (c357 12 rfl) (js_v rfl ((Rl_tag hM rt772 (by decide)).trans js293)) hh357 (k_Md_lends hM h) (fun M μ4 hM h => ?_) (fun _ _ _ _ f => f.elim)
    refine L_ps c357 (n := 1) (pc1 := 16) (ls1 := [jR 772, jI v1]) (st1 := [jR 772]) rfl ?_
    refine L_cI (c357 16 rfl) (js_v rfl ((Rl_tag hM rt772 (by decide)).trans js358)) hh357 (k_Md_redexes hM h) (fun r5 M μ6 hM h => ?_) (fun _ _ _ _ f => f.elim)
    exact L_retI (c357 19 rfl) (hQ _ _ _ hM h)
  · refine L_ps c357 (n := 1) (pc1 := 9) (ls1 := [jR 772, jI v1]) (st1 := [jI 0]) rfl ?_
    exact L_retI (c357 9 rfl) (hQ _ _ _ hM h)
theorem k_Md_innermostRedex {E : JE2} {v1 : Int} {μ : Mem} {M : JM} {Q : Int → Mem → Prop} (hM : Rl E M μ) (h : d_Md_innermostRedex v1 μ Q) : JX 359 0 (jargs 359 [jR 772, jI v1]) [] M (PO E (QI Q) XN) := by
  unfold d_Md_innermostRedex at h
  show JX 359 0 [jR 772, jI v1] [] M (PO E (QI Q) XN)
  generalize hP : PO E (QI Q) XN = P
  have hQ : ∀ (r : Int) (M1 : JM) (μ1 : Mem), Rl E M1 μ1 → Q r μ1 → P (.inl (some (.inl r))) M1 := by rw [← hP]; exact fun r M1 μ1 a b => ⟨μ1, a, r, rfl, b⟩
  clear hP
  refine L_ps c359 (n := 2) (pc1 := 2) (ls1 := [jR 772, jI v1]) (st1 := [jI v1, jR 772]) rfl ?_
  refine L_cB (c359 2 rfl) (js_v rfl ((Rl_tag hM rt772 (by decide)).trans js340)) hh359 (k_Md_mayTerm hM h) (fun r1 M μ2 hM h => ?_) (fun _ _ _ _ f => f.elim)
  refine L_br (p1 := 10) (p2 := 8) (c359 5 rfl) rfl jc_neb h (fun h => ?_) (fun h => ?_)
  · refine L_ps c359 (n := 2) (pc1 := 12) (ls1 := [jR 772, jI v1]) (st1 := [jI v1, jR 772]) rfl ?_
    refine L_cV (c359 12 rfl) (js_v rfl ((Rl_tag hM rt772 (by decide)).trans js293)) hh359 (k_Md_lends hM h) (fun M μ4 hM h => ?_) (fun _ _ _ _ f => f.elim)
    refine L_ps c359 (n := 1) (pc1 := 16) (ls1 := [jR 772, jI v1]) (st1 := [jR 772]) rfl ?_
    refine L_cI (c359 16 rfl) (js_v rfl ((Rl_tag hM rt772 (by decide)).trans js306)) hh359 (k_Md_innermost hM h) (fun r5 M μ6 hM h => ?_) (fun _ _ _ _ f => f.elim)
    exact L_retI (c359 19 rfl) (hQ _ _ _ hM h)
  · refine L_ps c359 (n := 1) (pc1 := 9) (ls1 := [jR 772, jI v1]) (st1 := [jI 0]) rfl ?_
    exact L_retI (c359 9 rfl) (hQ _ _ _ hM h)
theorem k_Md_outermostRedex {E : JE2} {v1 : Int} {μ : Mem} {M : JM} {Q : Int → Mem → Prop} (hM : Rl E M μ) (h : d_Md_outermostRedex v1 μ Q) : JX 360 0 (jargs 360 [jR 772, jI v1]) [] M (PO E (QI Q) XN) := by
  unfold d_Md_outermostRedex at h
  show JX 360 0 [jR 772, jI v1] [] M (PO E (QI Q) XN)
  generalize hP : PO E (QI Q) XN = P
  have hQ : ∀ (r : Int) (M1 : JM) (μ1 : Mem), Rl E M1 μ1 → Q r μ1 → P (.inl (some (.inl r))) M1 := by rw [← hP]; exact fun r M1 μ1 a b => ⟨μ1, a, r, rfl, b⟩
  clear hP
  refine L_ps c360 (n := 2) (pc1 := 2) (ls1 := [jR 772, jI v1]) (st1 := [jI v1, jR 772]) rfl ?_
  refine L_cB (c360 2 rfl) (js_v rfl ((Rl_tag hM rt772 (by decide)).trans js340)) hh360 (k_Md_mayTerm hM h) (fun r1 M μ2 hM h => ?_) (fun _ _ _ _ f => f.elim)
  refine L_br (p1 := 10) (p2 := 8) (c360 5 rfl) rfl jc_neb h (fun h => ?_) (fun h => ?_)
  · refine L_ps c360 (n := 2) (pc1 := 12) (ls1 := [jR 772, jI v1]) (st1 := [jI v1, jR 772]) rfl ?_
    refine L_cV (c360 12 rfl) (js_v rfl ((Rl_tag hM rt772 (by decide)).trans js293)) hh360 (k_Md_lends hM h) (fun M μ4 hM h => ?_) (fun _ _ _ _ f => f.elim)
    refine L_ps c360 (n := 1) (pc1 := 16) (ls1 := [jR 772, jI v1]) (st1 := [jR 772]) rfl ?_
    refine L_cI (c360 16 rfl) (js_v rfl ((Rl_tag hM rt772 (by decide)).trans js307)) hh360 (k_Md_outermost hM h) (fun r5 M μ6 hM h => ?_) (fun _ _ _ _ f => f.elim)
    exact L_retI (c360 19 rfl) (hQ _ _ _ hM h)
  · refine L_ps c360 (n := 1) (pc1 := 9) (ls1 := [jR 772, jI v1]) (st1 := [jI 0]) rfl ?_
    exact L_retI (c360 9 rfl) (hQ _ _ _ hM h)
theorem k_Md_isNormal {E : JE2} {v1 : Int} {μ : Mem} {M : JM} {Q : Bool → Mem → Prop} (hM : Rl E M μ) (h : d_Md_isNormal v1 μ Q) : JX 362 0 (jargs 362 [jR 772, jI v1]) [] M (PO E (QB Q) XN) := by
  unfold d_Md_isNormal at h
  show JX 362 0 [jR 772, jI v1] [] M (PO E (QB Q) XN)
  generalize hP : PO E (QB Q) XN = P
  have hQ : ∀ (r : Bool) (M1 : JM) (μ1 : Mem), Rl E M1 μ1 → Q r μ1 → P (.inl (some (.inl (b2i r)))) M1 := by rw [← hP]; exact fun r M1 μ1 a b => ⟨μ1, a, r, rfl, b⟩
  clear hP
  refine L_ps c362 (n := 2) (pc1 := 2) (ls1 := [jR 772, jI v1]) (st1 := [jI v1, jR 772]) rfl ?_
  refine L_cV (c362 2 rfl) (js_v rfl ((Rl_tag hM rt772 (by decide)).trans js293)) hh362 (k_Md_lends hM h) (fun M μ2 hM h => ?_) (fun _ _ _ _ f => f.elim)
  refine L_ps c362 (n := 1) (pc1 := 6) (ls1 := [jR 772, jI v1]) (st1 := [jR 772]) rfl ?_
  refine L_cI (c362 6 rfl) (js_v rfl ((Rl_tag hM rt772 (by decide)).trans js307)) hh362 (k_Md_outermost hM h) (fun r3 M μ4 hM h => ?_) (fun _ _ _ _ f => f.elim)
  refine L_ps c362 (n := 1) (pc1 := 10) (ls1 := [jR 772, jI v1]) (st1 := [jI (-1), jI r3]) rfl ?_
  refine L_nb (p1 := 17) (p2 := 13) (c362 10 rfl) rfl jc_ne h (fun h => ?_) (fun h => ?_)
  · refine L_ps c362 (n := 2) (pc1 := 18) (ls1 := [jR 772, jI v1]) (st1 := [jI 1]) rfl ?_
    exact L_retB (c362 18 rfl) (Or.inr rfl) (hQ true _ _ hM h)
  · refine L_ps c362 (n := 1) (pc1 := 18) (ls1 := [jR 772, jI v1]) (st1 := [jI 0]) rfl ?_
    exact L_retB (c362 18 rfl) (Or.inl rfl) (hQ false _ _ hM h)
theorem k_Md_isNormalForm {E : JE2} {v1 : Int} {μ : Mem} {M : JM} {Q : Bool → Mem → Prop} (hM : Rl E M μ) (h : d_Md_isNormalForm v1 μ Q) : JX 361 0 (jargs 361 [jR 772, jI v1]) [] M (PO E (QB Q) XN) := by
  unfold d_Md_isNormalForm at h
  show JX 361 0 [jR 772, jI v1] [] M (PO E (QB Q) XN)
  generalize hP : PO E (QB Q) XN = P
  have hQ : ∀ (r : Bool) (M1 : JM) (μ1 : Mem), Rl E M1 μ1 → Q r μ1 → P (.inl (some (.inl (b2i r)))) M1 := by rw [← hP]; exact fun r M1 μ1 a b => ⟨μ1, a, r, rfl, b⟩
  clear hP
  refine L_ps c361 (n := 2) (pc1 := 2) (ls1 := [jR 772, jI v1]) (st1 := [jI v1, jR 772]) rfl ?_
  refine L_cB (c361 2 rfl) (js_v rfl ((Rl_tag hM rt772 (by decide)).trans js340)) hh361 (k_Md_mayTerm hM h) (fun r1 M μ2 hM h => ?_) (fun _ _ _ _ f => f.elim)
  refine L_nb (p1 := 20) (p2 := 8) (c361 5 rfl) rfl jc_eqb h (fun h => ?_) (fun h => ?_)
  · refine L_ps c361 (n := 2) (pc1 := 10) (ls1 := [jR 772, jI v1]) (st1 := [jI v1, jR 772]) rfl ?_
    refine L_cB (c361 10 rfl) (js_v rfl ((Rl_tag hM rt772 (by decide)).trans js362)) hh361 (k_Md_isNormal hM h) (fun r3 M μ4 hM h => ?_) (fun _ _ _ _ f => f.elim)
    refine L_nb (p1 := 20) (p2 := 16) (c361 13 rfl) rfl jc_eqb h (fun h => ?_) (fun h => ?_)
    · refine L_ps c361 (n := 2) (pc1 := 21) (ls1 := [jR 772, jI v1]) (st1 := [jI 1]) rfl ?_
      exact L_retB (c361 21 rfl) (Or.inr rfl) (hQ true _ _ hM h)
    · refine L_ps c361 (n := 1) (pc1 := 21) (ls1 := [jR 772, jI v1]) (st1 := [jI 0]) rfl ?_
      exact L_retB (c361 21 rfl) (Or.inl rfl) (hQ false _ _ hM h)
  · refine L_ps c361 (n := 1) (pc1 := 21) (ls1 := [jR 772, jI v1]) (st1 := [jI 0]) rfl ?_
    exact L_retB (c361 21 rfl) (Or.inl rfl) (hQ false _ _ hM h)
theorem k_Md_normalShare_b13 {E : JE2} {v1 : Int} {v2 : Int} {μ : Mem} {M : JM} {P : JO → JM → Prop} {W13 : Int → Int → Mem → Prop} {Q : UInt32 → Mem → Prop} (hM : Rl E M μ) (hQ : ∀ (r : UInt32) (M1 : JM) (μ1 : Mem), Rl E M1 μ1 → Q r μ1 → P (.inl (some (.inr (.inr (.float r))))) M1) (hW13 : ∀ (v1 : Int) (v2 : Int) (M1 : JM) (μ1 : Mem), Rl E M1 μ1 → W13 v1 v2 μ1 → JX 363 13 [jR 772, jI v1, jI v2] [] M1 P) (h : d_Md_normalShare_b13 v1 v2 μ W13 Q) : JX 363 13 [jR 772, jI v1, jI v2] [] M P := by
  unfold d_Md_normalShare_b13 at h
  refine L_ps c363 (n := 2) (pc1 := 15) (ls1 := [jR 772, jI v1, jI v2]) (st1 := [jR 772, jI v2]) rfl ?_
  refine L_getP (d := 1) (c363 15 rfl) hM rt772 rfl ?_
  refine L_ps c363 (n := 1) (pc1 := 19) (ls1 := [jR 772, jI v1, jI v2]) (st1 := [jI 2, jR 773, jI v2]) rfl ?_
  refine L_iald (c363 19 rfl) hM rt773 ln773 (by decide) ?_
  refine L_nb (p1 := 40) (p2 := 23) (c363 20 rfl) rfl jc_ge h (fun h => ?_) (fun h => ?_)
  · refine L_ps c363 (n := 3) (pc1 := 26) (ls1 := [jR 772, jI v1, jI v2]) (st1 := [jI v2, jR 772, jI v1]) rfl ?_
    refine L_cB (c363 26 rfl) (js_v rfl ((Rl_tag hM rt772 (by decide)).trans js362)) hh363 (k_Md_isNormal hM h) (fun r3 M μ4 hM h => ?_) (fun _ _ _ _ f => f.elim)
    refine L_cpI (c363 29 rfl) (js_t rfl) hh363 (k_Md_one hM h) (fun r5 M hM h => ?_) (fun _ _ _ _ f => f.elim)
    refine L_ps c363 (n := 4) (pc1 := 13) (ls1 := [jR 772, jI (wr (v1 + r5)), jI (wr (v2 + 1))]) (st1 := []) rfl ?_
    exact hW13 _ _ _ _ hM h
  · refine L_ps c363 (n := 1) (pc1 := 41) (ls1 := [jR 772, jI v1, jI v2]) (st1 := [jR 772]) rfl ?_
    refine L_getP (d := 1) (c363 41 rfl) hM rt772 rfl ?_
    refine L_ps c363 (n := 1) (pc1 := 45) (ls1 := [jR 772, jI v1, jI v2]) (st1 := [jI 2, jR 773]) rfl ?_
    refine L_iald (c363 45 rfl) hM rt773 ln773 (by decide) ?_
    refine L_nb (p1 := 53) (p2 := 49) (c363 46 rfl) rfl jc_ne h (fun h => ?_) (fun h => ?_)
    · refine L_ps c363 (n := 2) (pc1 := 63) (ls1 := [jR 772, jI v1, jI v2]) (st1 := [jX (.float (FP.fconst0))]) rfl ?_
      exact L_end (c363 63 rfl) rfl (hQ _ _ _ hM h)
    · refine L_ps c363 (n := 3) (pc1 := 56) (ls1 := [jR 772, jI v1, jI v2]) (st1 := [jR 772, jX (.float (FP.i2f (Int32.ofInt v1)))]) rfl ?_
      refine L_getP (d := 1) (c363 56 rfl) hM rt772 rfl ?_
      refine L_ps c363 (n := 1) (pc1 := 60) (ls1 := [jR 772, jI v1, jI v2]) (st1 := [jI 2, jR 773, jX (.float (FP.i2f (Int32.ofInt v1)))]) rfl ?_
      refine L_iald (c363 60 rfl) hM rt773 ln773 (by decide) ?_
      refine L_ps c363 (n := 1) (pc1 := 62) (ls1 := [jR 772, jI v1, jI v2]) (st1 := [jX (.float (FP.i2f (Int32.ofInt (μ 773 2)))), jX (.float (FP.i2f (Int32.ofInt v1)))]) rfl ?_
      obtain ⟨hn, h⟩ := h
      refine L_fdiv (c363 62 rfl) hn ?_
      exact L_end (c363 63 rfl) rfl (hQ _ _ _ hM h)
theorem k_Md_normalShare_l13 {E : JE2} {v1 : Int} {v2 : Int} {μ : Mem} {M : JM} {P : JO → JM → Prop} {Q : UInt32 → Mem → Prop} (hM : Rl E M μ) (hQ : ∀ (r : UInt32) (M1 : JM) (μ1 : Mem), Rl E M1 μ1 → Q r μ1 → P (.inl (some (.inr (.inr (.float r))))) M1) (h : d_Md_normalShare_l13 v1 v2 μ Q) : JX 363 13 [jR 772, jI v1, jI v2] [] M P := by
  refine h (fun v1 v2 μ => ∀ (M : JM), Rl E M μ → JX 363 13 [jR 772, jI v1, jI v2] [] M P) ?_ _ hM
  intro v1 v2 μ h M hM
  exact k_Md_normalShare_b13 hM hQ (fun v1 v2 M μ hM h => h M hM) h
theorem k_Md_normalShare {E : JE2} {μ : Mem} {M : JM} {Q : UInt32 → Mem → Prop} (hM : Rl E M μ) (h : d_Md_normalShare μ Q) : JX 363 0 (jargs 363 [jR 772]) [] M (PO E (QF Q) XN) := by
  unfold d_Md_normalShare at h
  show JX 363 0 [jR 772, jU, jU] [] M (PO E (QF Q) XN)
  generalize hP : PO E (QF Q) XN = P
  have hQ : ∀ (r : UInt32) (M1 : JM) (μ1 : Mem), Rl E M1 μ1 → Q r μ1 → P (.inl (some (.inr (.inr (.float r))))) M1 := by rw [← hP]; exact fun r M1 μ1 a b => ⟨μ1, a, r, rfl, b⟩
  clear hP
  refine L_ps c363 (n := 1) (pc1 := 1) (ls1 := [jR 772, jU, jU]) (st1 := [jR 772]) rfl ?_
  refine L_cB (c363 1 rfl) (js_v rfl ((Rl_tag hM rt772 (by decide)).trans js321)) hh363 (k_Md_mayLook hM h) (fun r1 M μ2 hM h => ?_) (fun _ _ _ _ f => f.elim)
  refine L_br (p1 := 9) (p2 := 7) (c363 4 rfl) rfl jc_neb h (fun h => ?_) (fun h => ?_)
  · refine L_ps c363 (n := 4) (pc1 := 13) (ls1 := [jR 772, jI 0, jI 0]) (st1 := []) rfl ?_
    exact k_Md_normalShare_l13 hM hQ h
  · refine L_ps c363 (n := 1) (pc1 := 8) (ls1 := [jR 772, jU, jU]) (st1 := [jX (.float (FP.fconst0))]) rfl ?_
    exact L_end (c363 8 rfl) rfl (hQ _ _ _ hM h)
theorem k_Md_reduces_b2 {E : JE2} {v1 : Int} {v2 : Int} {v3 : Int} {μ : Mem} {M : JM} {P : JO → JM → Prop} {g4 : JV} {W2 : Int → Mem → Prop} {Q : Int → Mem → Prop} (hM : Rl E M μ) (hQ : ∀ (r : Int) (M1 : JM) (μ1 : Mem), Rl E M1 μ1 → Q r μ1 → P (.inl (some (.inl r))) M1) (hW2 : ∀ (v3 : Int) (g4 : JV) (M1 : JM) (μ1 : Mem), Rl E M1 μ1 → W2 v3 μ1 → JX 366 2 [jR 772, jI v1, jI v2, jI v3, g4] [] M1 P) (h : d_Md_reduces_b2 v1 v2 v3 μ W2 Q) : JX 366 2 [jR 772, jI v1, jI v2, jI v3, g4] [] M P := by
  unfold d_Md_reduces_b2 at h
  refine L_ps c366 (n := 2) (pc1 := 4) (ls1 := [jR 772, jI v1, jI v2, jI v3, g4]) (st1 := [jI v2, jI v3]) rfl ?_
  refine L_br (p1 := 44) (p2 := 7) (c366 4 rfl) rfl jc_gt h (fun h => ?_) (fun h => ?_)
  · refine L_ps c366 (n := 1) (pc1 := 45) (ls1 := [jR 772, jI v1, jI v2, jI v3, g4]) (st1 := [jI (-1)]) rfl ?_
    exact L_retI (c366 45 rfl) (hQ _ _ _ hM h)
  · refine L_ps c366 (n := 2) (pc1 := 9) (ls1 := [jR 772, jI v1, jI v2, jI v3, g4]) (st1 := [jI v1, jR 772]) rfl ?_
    refine L_cI (c366 9 rfl) (js_v rfl ((Rl_tag hM rt772 (by decide)).trans js305)) hh366 (k_Md_redex hM h) (fun r1 M μ2 hM h => ?_) (fun _ _ _ _ f => f.elim)
    refine L_ps c366 (n := 3) (pc1 := 17) (ls1 := [jR 772, jI v1, jI v2, jI v3, jI r1]) (st1 := [jI (-1), jI r1]) rfl ?_
    refine L_nb (p1 := 22) (p2 := 20) (c366 17 rfl) rfl jc_ne h (fun h => ?_) (fun h => ?_)
    · refine L_ps c366 (n := 1) (pc1 := 21) (ls1 := [jR 772, jI v1, jI v2, jI v3, jI r1]) (st1 := [jI v3]) rfl ?_
      exact L_retI (c366 21 rfl) (hQ _ _ _ hM h)
    · refine L_ps c366 (n := 2) (pc1 := 24) (ls1 := [jR 772, jI v1, jI v2, jI v3, jI r1]) (st1 := [jI v2, jI v3]) rfl ?_
      refine L_br (p1 := 36) (p2 := 27) (c366 24 rfl) rfl jc_eq h (fun h => ?_) (fun h => ?_)
      · refine L_ps c366 (n := 1) (pc1 := 37) (ls1 := [jR 772, jI v1, jI v2, jI v3, jI r1]) (st1 := [jI (-1)]) rfl ?_
        exact L_retI (c366 37 rfl) (hQ _ _ _ hM h)
      · refine L_ps c366 (n := 2) (pc1 := 30) (ls1 := [jR 772, jI v1, jI v2, jI v3, jI r1]) (st1 := [jI r1, jR 772]) rfl ?_
        refine L_cB (c366 30 rfl) (js_v rfl ((Rl_tag hM rt772 (by decide)).trans js314)) hh366 (k_Md_stepsAt hM h) (fun r3 M μ4 hM h => ?_) (fun _ _ _ _ f => f.elim)
        refine L_br (p1 := 38) (p2 := 36) (c366 33 rfl) rfl jc_neb h (fun h => ?_) (fun h => ?_)
        · refine L_ps c366 (n := 2) (pc1 := 2) (ls1 := [jR 772, jI v1, jI v2, jI (wr (v3 + 1)), jI r1]) (st1 := []) rfl ?_
          exact hW2 _ _ _ _ hM h
        · refine L_ps c366 (n := 1) (pc1 := 37) (ls1 := [jR 772, jI v1, jI v2, jI v3, jI r1]) (st1 := [jI (-1)]) rfl ?_
          exact L_retI (c366 37 rfl) (hQ _ _ _ hM h)
theorem k_Md_reduces_l2 {E : JE2} {v1 : Int} {v2 : Int} {v3 : Int} {μ : Mem} {M : JM} {P : JO → JM → Prop} {g4 : JV} {Q : Int → Mem → Prop} (hM : Rl E M μ) (hQ : ∀ (r : Int) (M1 : JM) (μ1 : Mem), Rl E M1 μ1 → Q r μ1 → P (.inl (some (.inl r))) M1) (h : d_Md_reduces_l2 v1 v2 v3 μ Q) : JX 366 2 [jR 772, jI v1, jI v2, jI v3, g4] [] M P := by
  refine h (fun v3 μ => ∀ (g4 : JV) (M : JM), Rl E M μ → JX 366 2 [jR 772, jI v1, jI v2, jI v3, g4] [] M P) ?_ _ _ hM
  intro v3 μ h g4 M hM
  exact k_Md_reduces_b2 hM hQ (fun v3 g4 M μ hM h => h g4 M hM) h
theorem k_Md_reduces {E : JE2} {v1 : Int} {v2 : Int} {μ : Mem} {M : JM} {Q : Int → Mem → Prop} (hM : Rl E M μ) (h : d_Md_reduces v1 v2 μ Q) : JX 366 0 (jargs 366 [jR 772, jI v1, jI v2]) [] M (PO E (QI Q) XN) := by
  unfold d_Md_reduces at h
  show JX 366 0 [jR 772, jI v1, jI v2, jU, jU] [] M (PO E (QI Q) XN)
  generalize hP : PO E (QI Q) XN = P
  have hQ : ∀ (r : Int) (M1 : JM) (μ1 : Mem), Rl E M1 μ1 → Q r μ1 → P (.inl (some (.inl r))) M1 := by rw [← hP]; exact fun r M1 μ1 a b => ⟨μ1, a, r, rfl, b⟩
  clear hP
  refine L_ps c366 (n := 2) (pc1 := 2) (ls1 := [jR 772, jI v1, jI v2, jI 0, jU]) (st1 := []) rfl ?_
  exact k_Md_reduces_l2 hM hQ h
theorem k_Md_stepsOf {E : JE2} {v1 : Int} {v2 : Int} {μ : Mem} {M : JM} {Q : Int → Mem → Prop} (hM : Rl E M μ) (h : d_Md_stepsOf v1 v2 μ Q) : JX 365 0 (jargs 365 [jR 772, jI v1, jI v2]) [] M (PO E (QI Q) XN) := by
  unfold d_Md_stepsOf at h
  show JX 365 0 [jR 772, jI v1, jI v2] [] M (PO E (QI Q) XN)
  generalize hP : PO E (QI Q) XN = P
  have hQ : ∀ (r : Int) (M1 : JM) (μ1 : Mem), Rl E M1 μ1 → Q r μ1 → P (.inl (some (.inl r))) M1 := by rw [← hP]; exact fun r M1 μ1 a b => ⟨μ1, a, r, rfl, b⟩
  clear hP
  refine L_ps c365 (n := 2) (pc1 := 2) (ls1 := [jR 772, jI v1, jI v2]) (st1 := [jI v1, jR 772]) rfl ?_
  refine L_cV (c365 2 rfl) (js_v rfl ((Rl_tag hM rt772 (by decide)).trans js293)) hh365 (k_Md_lends hM h) (fun M μ2 hM h => ?_) (fun _ _ _ _ f => f.elim)
  refine L_ps c365 (n := 3) (pc1 := 10) (ls1 := [jR 772, jI v1, jI v2]) (st1 := [jI 200, jI v2, jR 772]) rfl ?_
  refine L_cI (c365 10 rfl) (js_v rfl ((Rl_tag hM rt772 (by decide)).trans js366)) hh365 (k_Md_reduces hM h) (fun r3 M μ4 hM h => ?_) (fun _ _ _ _ f => f.elim)
  exact L_retI (c365 13 rfl) (hQ _ _ _ hM h)
theorem k_Md_stepsInnermost {E : JE2} {v1 : Int} {μ : Mem} {M : JM} {Q : Int → Mem → Prop} (hM : Rl E M μ) (h : d_Md_stepsInnermost v1 μ Q) : JX 364 0 (jargs 364 [jR 772, jI v1]) [] M (PO E (QI Q) XN) := by
  unfold d_Md_stepsInnermost at h
  show JX 364 0 [jR 772, jI v1] [] M (PO E (QI Q) XN)
  generalize hP : PO E (QI Q) XN = P
  have hQ : ∀ (r : Int) (M1 : JM) (μ1 : Mem), Rl E M1 μ1 → Q r μ1 → P (.inl (some (.inl r))) M1 := by rw [← hP]; exact fun r M1 μ1 a b => ⟨μ1, a, r, rfl, b⟩
  clear hP
  refine L_ps c364 (n := 2) (pc1 := 2) (ls1 := [jR 772, jI v1]) (st1 := [jI v1, jR 772]) rfl ?_
  refine L_cB (c364 2 rfl) (js_v rfl ((Rl_tag hM rt772 (by decide)).trans js340)) hh364 (k_Md_mayTerm hM h) (fun r1 M μ2 hM h => ?_) (fun _ _ _ _ f => f.elim)
  refine L_nb (p1 := 17) (p2 := 8) (c364 5 rfl) rfl jc_eqb h (fun h => ?_) (fun h => ?_)
  · refine L_ps c364 (n := 3) (pc1 := 11) (ls1 := [jR 772, jI v1]) (st1 := [jI 1, jI v1, jR 772]) rfl ?_
    refine L_cI (c364 11 rfl) (js_v rfl ((Rl_tag hM rt772 (by decide)).trans js365)) hh364 (k_Md_stepsOf hM h) (fun r3 M μ4 hM h => ?_) (fun _ _ _ _ f => f.elim)
    refine L_ps c364 (n := 1) (pc1 := 18) (ls1 := [jR 772, jI v1]) (st1 := [jI r3]) rfl ?_
    exact L_retI (c364 18 rfl) (hQ _ _ _ hM h)
  · refine L_ps c364 (n := 1) (pc1 := 18) (ls1 := [jR 772, jI v1]) (st1 := [jI 0]) rfl ?_
    exact L_retI (c364 18 rfl) (hQ _ _ _ hM h)
theorem k_Md_stepsOutermost {E : JE2} {v1 : Int} {μ : Mem} {M : JM} {Q : Int → Mem → Prop} (hM : Rl E M μ) (h : d_Md_stepsOutermost v1 μ Q) : JX 367 0 (jargs 367 [jR 772, jI v1]) [] M (PO E (QI Q) XN) := by
  unfold d_Md_stepsOutermost at h
  show JX 367 0 [jR 772, jI v1] [] M (PO E (QI Q) XN)
  generalize hP : PO E (QI Q) XN = P
  have hQ : ∀ (r : Int) (M1 : JM) (μ1 : Mem), Rl E M1 μ1 → Q r μ1 → P (.inl (some (.inl r))) M1 := by rw [← hP]; exact fun r M1 μ1 a b => ⟨μ1, a, r, rfl, b⟩
  clear hP
  refine L_ps c367 (n := 2) (pc1 := 2) (ls1 := [jR 772, jI v1]) (st1 := [jI v1, jR 772]) rfl ?_
  refine L_cB (c367 2 rfl) (js_v rfl ((Rl_tag hM rt772 (by decide)).trans js340)) hh367 (k_Md_mayTerm hM h) (fun r1 M μ2 hM h => ?_) (fun _ _ _ _ f => f.elim)
  refine L_nb (p1 := 17) (p2 := 8) (c367 5 rfl) rfl jc_eqb h (fun h => ?_) (fun h => ?_)
  · refine L_ps c367 (n := 3) (pc1 := 11) (ls1 := [jR 772, jI v1]) (st1 := [jI 0, jI v1, jR 772]) rfl ?_
    refine L_cI (c367 11 rfl) (js_v rfl ((Rl_tag hM rt772 (by decide)).trans js365)) hh367 (k_Md_stepsOf hM h) (fun r3 M μ4 hM h => ?_) (fun _ _ _ _ f => f.elim)
    refine L_ps c367 (n := 1) (pc1 := 18) (ls1 := [jR 772, jI v1]) (st1 := [jI r3]) rfl ?_
    exact L_retI (c367 18 rfl) (hQ _ _ _ hM h)
  · refine L_ps c367 (n := 1) (pc1 := 18) (ls1 := [jR 772, jI v1]) (st1 := [jI 0]) rfl ?_
    exact L_retI (c367 18 rfl) (hQ _ _ _ hM h)
theorem k_Md_normalFormSize {E : JE2} {v1 : Int} {μ : Mem} {M : JM} {Q : Int → Mem → Prop} (hM : Rl E M μ) (h : d_Md_normalFormSize v1 μ Q) : JX 368 0 (jargs 368 [jR 772, jI v1]) [] M (PO E (QI Q) XN) := by
  unfold d_Md_normalFormSize at h
  show JX 368 0 [jR 772, jI v1] [] M (PO E (QI Q) XN)
  generalize hP : PO E (QI Q) XN = P
  have hQ : ∀ (r : Int) (M1 : JM) (μ1 : Mem), Rl E M1 μ1 → Q r μ1 → P (.inl (some (.inl r))) M1 := by rw [← hP]; exact fun r M1 μ1 a b => ⟨μ1, a, r, rfl, b⟩
  clear hP
  refine L_ps c368 (n := 2) (pc1 := 2) (ls1 := [jR 772, jI v1]) (st1 := [jI v1, jR 772]) rfl ?_
  refine L_cB (c368 2 rfl) (js_v rfl ((Rl_tag hM rt772 (by decide)).trans js340)) hh368 (k_Md_mayTerm hM h) (fun r1 M μ2 hM h => ?_) (fun _ _ _ _ f => f.elim)
  refine L_br (p1 := 10) (p2 := 8) (c368 5 rfl) rfl jc_neb h (fun h => ?_) (fun h => ?_)
  · refine L_ps c368 (n := 3) (pc1 := 13) (ls1 := [jR 772, jI v1]) (st1 := [jI 1, jI v1, jR 772]) rfl ?_
    refine L_cI (c368 13 rfl) (js_v rfl ((Rl_tag hM rt772 (by decide)).trans js365)) hh368 (k_Md_stepsOf hM h) (fun r3 M μ4 hM h => ?_) (fun _ _ _ _ f => f.elim)
    refine L_ps c368 (n := 1) (pc1 := 17) (ls1 := [jR 772, jI v1]) (st1 := [jI (-1), jI r3]) rfl ?_
    refine L_nb (p1 := 24) (p2 := 20) (c368 17 rfl) rfl jc_ne h (fun h => ?_) (fun h => ?_)
    · refine L_ps c368 (n := 2) (pc1 := 28) (ls1 := [jR 772, jI v1]) (st1 := [jI (-1)]) rfl ?_
      exact L_retI (c368 28 rfl) (hQ _ _ _ hM h)
    · refine L_ps c368 (n := 1) (pc1 := 25) (ls1 := [jR 772, jI v1]) (st1 := [jR 772]) rfl ?_
      refine L_getI (c368 25 rfl) hM rt772 rfl ?_
      exact L_retI (c368 28 rfl) (hQ _ _ _ hM h)
  · refine L_ps c368 (n := 1) (pc1 := 9) (ls1 := [jR 772, jI v1]) (st1 := [jI 0]) rfl ?_
    exact L_retI (c368 9 rfl) (hQ _ _ _ hM h)
theorem k_Md_haveSameNormalForm {E : JE2} {v1 : Int} {v2 : Int} {μ : Mem} {M : JM} {Q : Bool → Mem → Prop} (hM : Rl E M μ) (h : d_Md_haveSameNormalForm v1 v2 μ Q) : JX 369 0 (jargs 369 [jR 772, jI v1, jI v2]) [] M (PO E (QB Q) XN) := by
  unfold d_Md_haveSameNormalForm at h
  show JX 369 0 [jR 772, jI v1, jI v2] [] M (PO E (QB Q) XN)
  generalize hP : PO E (QB Q) XN = P
  have hQ : ∀ (r : Bool) (M1 : JM) (μ1 : Mem), Rl E M1 μ1 → Q r μ1 → P (.inl (some (.inl (b2i r)))) M1 := by rw [← hP]; exact fun r M1 μ1 a b => ⟨μ1, a, r, rfl, b⟩
  clear hP
  refine L_ps c369 (n := 3) (pc1 := 3) (ls1 := [jR 772, jI v1, jI v2]) (st1 := [jI v2, jI v1, jR 772]) rfl ?_
  refine L_cB (c369 3 rfl) (js_v rfl ((Rl_tag hM rt772 (by decide)).trans js351)) hh369 (k_Md_mayTerms hM h) (fun r1 M μ2 hM h => ?_) (fun _ _ _ _ f => f.elim)
  refine L_nb (p1 := 19) (p2 := 9) (c369 6 rfl) rfl jc_eqb h (fun h => ?_) (fun h => ?_)
  · refine L_ps c369 (n := 3) (pc1 := 12) (ls1 := [jR 772, jI v1, jI v2]) (st1 := [jI 1, jI v1, jR 772]) rfl ?_
    refine L_cI (c369 12 rfl) (js_v rfl ((Rl_tag hM rt772 (by decide)).trans js365)) hh369 (k_Md_stepsOf hM h) (fun r3 M μ4 hM h => ?_) (fun _ _ _ _ f => f.elim)
    refine L_ps c369 (n := 1) (pc1 := 16) (ls1 := [jR 772, jI v1, jI v2]) (st1 := [jI (-1), jI r3]) rfl ?_
    refine L_nb (p1 := 21) (p2 := 19) (c369 16 rfl) rfl jc_ne h (fun h => ?_) (fun h => ?_)
    · refine L_ps c369 (n := 1) (pc1 := 20) (ls1 := [jR 772, jI v1, jI v2]) (st1 := [jI 0]) rfl ?_
      exact L_retB (c369 20 rfl) (Or.inl rfl) (hQ false _ _ hM h)
    · refine L_ps c369 (n := 1) (pc1 := 22) (ls1 := [jR 772, jI v1, jI v2]) (st1 := [jR 772]) rfl ?_
      refine L_cV (c369 22 rfl) (js_v rfl ((Rl_tag hM rt772 (by decide)).trans js352)) hh369 (k_Md_keeps hM h) (fun M μ6 hM h => ?_) (fun _ _ _ _ f => f.elim)
      refine L_ps c369 (n := 3) (pc1 := 28) (ls1 := [jR 772, jI v1, jI v2]) (st1 := [jI 1, jI v2, jR 772]) rfl ?_
      refine L_cI (c369 28 rfl) (js_v rfl ((Rl_tag hM rt772 (by decide)).trans js365)) hh369 (k_Md_stepsOf hM h) (fun r7 M μ8 hM h => ?_) (fun _ _ _ _ f => f.elim)
      refine L_ps c369 (n := 1) (pc1 := 32) (ls1 := [jR 772, jI v1, jI v2]) (st1 := [jI (-1), jI r7]) rfl ?_
      refine L_br (p1 := 46) (p2 := 35) (c369 32 rfl) rfl jc_eq h (fun h => ?_) (fun h => ?_)
      · refine L_ps c369 (n := 1) (pc1 := 47) (ls1 := [jR 772, jI v1, jI v2]) (st1 := [jI 0]) rfl ?_
        exact L_retB (c369 47 rfl) (Or.inl rfl) (hQ false _ _ hM h)
      · refine L_ps c369 (n := 1) (pc1 := 36) (ls1 := [jR 772, jI v1, jI v2]) (st1 := [jR 772]) rfl ?_
        refine L_cpB (c369 36 rfl) (js_v rfl ((Rl_tag hM rt772 (by decide)).trans js353)) hh369 (k_Md_isKept hM h) (fun r9 M hM h => ?_) (fun _ _ _ _ f => f.elim)
        refine L_nb (p1 := 46) (p2 := 42) (c369 39 rfl) rfl jc_eqb h (fun h => ?_) (fun h => ?_)
        · refine L_ps c369 (n := 2) (pc1 := 47) (ls1 := [jR 772, jI v1, jI v2]) (st1 := [jI 1]) rfl ?_
          exact L_retB (c369 47 rfl) (Or.inr rfl) (hQ true _ _ hM h)
        · refine L_ps c369 (n := 1) (pc1 := 47) (ls1 := [jR 772, jI v1, jI v2]) (st1 := [jI 0]) rfl ?_
          exact L_retB (c369 47 rfl) (Or.inl rfl) (hQ false _ _ hM h)
  · refine L_ps c369 (n := 1) (pc1 := 20) (ls1 := [jR 772, jI v1, jI v2]) (st1 := [jI 0]) rfl ?_
    exact L_retB (c369 20 rfl) (Or.inl rfl) (hQ false _ _ hM h)
theorem k_Md_empties_b7 {E : JE2} {v1 : Int} {μ : Mem} {M : JM} {P : JO → JM → Prop} {W7 : Int → Mem → Prop} {Q : Mem → Prop} (hM : Rl E M μ) (hQ : ∀ (M1 : JM) (μ1 : Mem), Rl E M1 μ1 → Q μ1 → P (.inl none) M1) (hW7 : ∀ (v1 : Int) (M1 : JM) (μ1 : Mem), Rl E M1 μ1 → W7 v1 μ1 → JX 372 7 [jR 772, jI v1] [] M1 P) (h : d_Md_empties_b7 v1 μ W7 Q) : JX 372 7 [jR 772, jI v1] [] M P := by
  unfold d_Md_empties_b7 at h
  refine L_ps c372 (n := 2) (pc1 := 10) (ls1 := [jR 772, jI v1]) (st1 := [jI 16, jI v1]) rfl ?_
  refine L_nb (p1 := 26) (p2 := 13) (c372 10 rfl) rfl jc_ge h (fun h => ?_) (fun h => ?_)
  · refine L_ps c372 (n := 1) (pc1 := 14) (ls1 := [jR 772, jI v1]) (st1 := [jR 772]) rfl ?_
    refine L_getP (d := 13) (c372 14 rfl) hM rt772 rfl ?_
    refine L_ps c372 (n := 2) (pc1 := 19) (ls1 := [jR 772, jI v1]) (st1 := [jI (-1), jI v1, jR 785]) rfl ?_
    obtain ⟨hb, h⟩ := h
    refine L_iast (c372 19 rfl) hM rt785 ln785 hb (fun M hM => ?_)
    refine L_ps c372 (n := 2) (pc1 := 7) (ls1 := [jR 772, jI (wr (v1 + 1))]) (st1 := []) rfl ?_
    exact hW7 _ _ _ hM h
  · exact L_end (c372 26 rfl) rfl (hQ _ _ hM h)
theorem k_Md_empties_l7 {E : JE2} {v1 : Int} {μ : Mem} {M : JM} {P : JO → JM → Prop} {Q : Mem → Prop} (hM : Rl E M μ) (hQ : ∀ (M1 : JM) (μ1 : Mem), Rl E M1 μ1 → Q μ1 → P (.inl none) M1) (h : d_Md_empties_l7 v1 μ Q) : JX 372 7 [jR 772, jI v1] [] M P := by
  refine h (fun v1 μ => ∀ (M : JM), Rl E M μ → JX 372 7 [jR 772, jI v1] [] M P) ?_ _ hM
  intro v1 μ h M hM
  exact k_Md_empties_b7 hM hQ (fun v1 M μ hM h => h M hM) h
theorem k_Md_empties {E : JE2} {μ : Mem} {M : JM} {Q : Mem → Prop} (hM : Rl E M μ) (h : d_Md_empties μ Q) : JX 372 0 (jargs 372 [jR 772]) [] M (PO E (QV Q) XN) := by
  unfold d_Md_empties at h
  show JX 372 0 [jR 772, jU] [] M (PO E (QV Q) XN)
  generalize hP : PO E (QV Q) XN = P
  have hQ : ∀ (M1 : JM) (μ1 : Mem), Rl E M1 μ1 → Q μ1 → P (.inl none) M1 := by rw [← hP]; exact fun M1 μ1 a b => ⟨μ1, a, rfl, b⟩
  clear hP
  refine L_ps c372 (n := 2) (pc1 := 2) (ls1 := [jR 772, jU]) (st1 := [jI 0, jR 772]) rfl ?_
  refine L_putI (c372 2 rfl) hM rt772 rfl (fun M hM => ?_)
  refine L_ps c372 (n := 2) (pc1 := 7) (ls1 := [jR 772, jI 0]) (st1 := []) rfl ?_
  exact k_Md_empties_l7 hM hQ h
theorem k_Md_pools_j58 {E : JE2} {v1 : Int} {v2 : Int} {v3 : Int} {v4 : Int} {v5 : Int} {t1 : Int} {t2 : Int} {μ : Mem} {M : JM} {P : JO → JM → Prop} {g6 : JV} {W9 : Int → Mem → Prop} {Q : Int → Mem → Prop} (hM : Rl E M μ) (hQ : ∀ (r : Int) (M1 : JM) (μ1 : Mem), Rl E M1 μ1 → Q r μ1 → P (.inl (some (.inl r))) M1) (hW9 : ∀ (v5 : Int) (g6 : JV) (M1 : JM) (μ1 : Mem), Rl E M1 μ1 → W9 v5 μ1 → JX 373 9 [jR 772, jI v1, jI v2, jI v3, jI v4, jI v5, g6] [] M1 P) (h : d_Md_pools_j58 v1 v2 v3 v4 v5 t1 t2 μ W9 Q) : JX 373 58 [jR 772, jI v1, jI v2, jI v3, jI v4, jI v5, g6] [jI t2, jI t1, jR 784] M P := by
  unfold d_Md_pools_j58 at h
  obtain ⟨hb, h⟩ := h
  refine L_iast (c373 58 rfl) hM rt784 ln784 hb (fun M hM => ?_)
  refine L_ps c373 (n := 2) (pc1 := 61) (ls1 := [jR 772, jI v1, jI v2, jI v3, jI v4, jI v5, g6]) (st1 := [jR 772, jR 772]) rfl ?_
  refine L_getI (c373 61 rfl) hM rt772 rfl ?_
  refine L_ps c373 (n := 2) (pc1 := 66) (ls1 := [jR 772, jI v1, jI v2, jI v3, jI v4, jI v5, g6]) (st1 := [jI (wr (((mup μ 784 t1.toNat t2) 772 35) + 1)), jR 772]) rfl ?_
  refine L_putI (c373 66 rfl) hM rt772 rfl (fun M hM => ?_)
  refine L_ps c373 (n := 2) (pc1 := 9) (ls1 := [jR 772, jI v1, jI v2, jI v3, jI v4, jI (wr (v5 + 1)), g6]) (st1 := []) rfl ?_
  exact hW9 _ _ _ _ hM h
theorem k_Md_pools_j56 {E : JE2} {v1 : Int} {v2 : Int} {v3 : Int} {v4 : Int} {v5 : Int} {v6 : Int} {t1 : Int} {μ : Mem} {M : JM} {P : JO → JM → Prop} {W9 : Int → Mem → Prop} {Q : Int → Mem → Prop} (hM : Rl E M μ) (hQ : ∀ (r : Int) (M1 : JM) (μ1 : Mem), Rl E M1 μ1 → Q r μ1 → P (.inl (some (.inl r))) M1) (hW9 : ∀ (v5 : Int) (g6 : JV) (M1 : JM) (μ1 : Mem), Rl E M1 μ1 → W9 v5 μ1 → JX 373 9 [jR 772, jI v1, jI v2, jI v3, jI v4, jI v5, g6] [] M1 P) (h : d_Md_pools_j56 v1 v2 v3 v4 v5 v6 t1 μ W9 Q) : JX 373 56 [jR 772, jI v1, jI v2, jI v3, jI v4, jI v5, jI v6] [jI t1, jR 784] M P := by
  unfold d_Md_pools_j56 at h
  refine L_ps c373 (n := 1) (pc1 := 58) (ls1 := [jR 772, jI v1, jI v2, jI v3, jI v4, jI v5, jI v6]) (st1 := [jI v6, jI t1, jR 784]) rfl ?_
  exact k_Md_pools_j58 hM hQ hW9 h
theorem k_Md_pools_b9 {E : JE2} {v1 : Int} {v2 : Int} {v3 : Int} {v4 : Int} {v5 : Int} {μ : Mem} {M : JM} {P : JO → JM → Prop} {g6 : JV} {W9 : Int → Mem → Prop} {Q : Int → Mem → Prop} (hM : Rl E M μ) (hQ : ∀ (r : Int) (M1 : JM) (μ1 : Mem), Rl E M1 μ1 → Q r μ1 → P (.inl (some (.inl r))) M1) (hW9 : ∀ (v5 : Int) (g6 : JV) (M1 : JM) (μ1 : Mem), Rl E M1 μ1 → W9 v5 μ1 → JX 373 9 [jR 772, jI v1, jI v2, jI v3, jI v4, jI v5, g6] [] M1 P) (h : d_Md_pools_b9 v1 v2 v3 v4 v5 μ W9 Q) : JX 373 9 [jR 772, jI v1, jI v2, jI v3, jI v4, jI v5, g6] [] M P := by
  unfold d_Md_pools_b9 at h
  refine L_ps c373 (n := 2) (pc1 := 12) (ls1 := [jR 772, jI v1, jI v2, jI v3, jI v4, jI v5, g6]) (st1 := [jI v2, jI v5]) rfl ?_
  refine L_nb (p1 := 75) (p2 := 15) (c373 12 rfl) rfl jc_ge h (fun h => ?_) (fun h => ?_)
  · refine L_ps c373 (n := 1) (pc1 := 16) (ls1 := [jR 772, jI v1, jI v2, jI v3, jI v4, jI v5, g6]) (st1 := [jR 772]) rfl ?_
    refine L_getP (d := 1) (c373 16 rfl) hM rt772 rfl ?_
    refine L_ps c373 (n := 3) (pc1 := 23) (ls1 := [jR 772, jI v1, jI v2, jI v3, jI v4, jI v5, g6]) (st1 := [jI (wr (v1 + v5)), jR 773]) rfl ?_
    obtain ⟨hb, h⟩ := h
    refine L_iald (c373 23 rfl) hM rt773 ln773 hb ?_
    refine L_ps c373 (n := 2) (pc1 := 27) (ls1 := [jR 772, jI v1, jI v2, jI v3, jI v4, jI v5, jI (μ 773 (wr (v1 + v5)).toNat)]) (st1 := [jR 772]) rfl ?_
    refine L_getP (d := 12) (c373 27 rfl) hM rt772 rfl ?_
    refine L_ps c373 (n := 1) (pc1 := 31) (ls1 := [jR 772, jI v1, jI v2, jI v3, jI v4, jI v5, jI (μ 773 (wr (v1 + v5)).toNat)]) (st1 := [jR 772, jR 784]) rfl ?_
    refine L_getI (c373 31 rfl) hM rt772 rfl ?_
    refine L_ps c373 (n := 2) (pc1 := 38) (ls1 := [jR 772, jI v1, jI v2, jI v3, jI v4, jI v5, jI (μ 773 (wr (v1 + v5)).toNat)]) (st1 := [jI 100, jI (μ 773 (wr (v1 + v5)).toNat), jI (μ 772 35), jR 784]) rfl ?_
    refine L_br (p1 := 56) (p2 := 41) (c373 38 rfl) rfl jc_lt h (fun h => ?_) (fun h => ?_)
    · exact k_Md_pools_j56 hM hQ hW9 h
    · refine L_ps c373 (n := 1) (pc1 := 42) (ls1 := [jR 772, jI v1, jI v2, jI v3, jI v4, jI v5, jI (μ 773 (wr (v1 + v5)).toNat)]) (st1 := [jI v3, jI (μ 772 35), jR 784]) rfl ?_
      refine L_br (p1 := 56) (p2 := 45) (c373 42 rfl) rfl jc_eq h (fun h => ?_) (fun h => ?_)
      · exact k_Md_pools_j56 hM hQ hW9 h
      · refine L_ps c373 (n := 6) (pc1 := 58) (ls1 := [jR 772, jI v1, jI v2, jI v3, jI v4, jI v5, jI (μ 773 (wr (v1 + v5)).toNat)]) (st1 := [jI (wr ((wr ((μ 773 (wr (v1 + v5)).toNat) - 100)) + 108)), jI (μ 772 35), jR 784]) rfl ?_
        exact k_Md_pools_j58 hM hQ hW9 h
  · refine L_ps c373 (n := 1) (pc1 := 77) (ls1 := [jR 772, jI v1, jI v2, jI v3, jI v4, jI v5, g6]) (st1 := [jI v4]) rfl ?_
    exact L_retI (c373 77 rfl) (hQ _ _ _ hM h)
theorem k_Md_pools_l9 {E : JE2} {v1 : Int} {v2 : Int} {v3 : Int} {v4 : Int} {v5 : Int} {μ : Mem} {M : JM} {P : JO → JM → Prop} {g6 : JV} {Q : Int → Mem → Prop} (hM : Rl E M μ) (hQ : ∀ (r : Int) (M1 : JM) (μ1 : Mem), Rl E M1 μ1 → Q r μ1 → P (.inl (some (.inl r))) M1) (h : d_Md_pools_l9 v1 v2 v3 v4 v5 μ Q) : JX 373 9 [jR 772, jI v1, jI v2, jI v3, jI v4, jI v5, g6] [] M P := by
  refine h (fun v5 μ => ∀ (g6 : JV) (M : JM), Rl E M μ → JX 373 9 [jR 772, jI v1, jI v2, jI v3, jI v4, jI v5, g6] [] M P) ?_ _ _ hM
  intro v5 μ h g6 M hM
  exact k_Md_pools_b9 hM hQ (fun v5 g6 M μ hM h => h g6 M hM) h
theorem k_Md_pools {E : JE2} {v1 : Int} {v2 : Int} {v3 : Int} {μ : Mem} {M : JM} {Q : Int → Mem → Prop} (hM : Rl E M μ) (h : d_Md_pools v1 v2 v3 μ Q) : JX 373 0 (jargs 373 [jR 772, jI v1, jI v2, jI v3]) [] M (PO E (QI Q) XN) := by
  unfold d_Md_pools at h
  show JX 373 0 [jR 772, jI v1, jI v2, jI v3, jU, jU, jU] [] M (PO E (QI Q) XN)
  generalize hP : PO E (QI Q) XN = P
  have hQ : ∀ (r : Int) (M1 : JM) (μ1 : Mem), Rl E M1 μ1 → Q r μ1 → P (.inl (some (.inl r))) M1 := by rw [← hP]; exact fun r M1 μ1 a b => ⟨μ1, a, r, rfl, b⟩
  clear hP
  refine L_ps c373 (n := 1) (pc1 := 1) (ls1 := [jR 772, jI v1, jI v2, jI v3, jU, jU, jU]) (st1 := [jR 772]) rfl ?_
  refine L_getI (c373 1 rfl) hM rt772 rfl ?_
  refine L_ps c373 (n := 3) (pc1 := 9) (ls1 := [jR 772, jI v1, jI v2, jI v3, jI (μ 772 35), jI 0, jU]) (st1 := []) rfl ?_
  exact k_Md_pools_l9 hM hQ h
theorem k_Md_owes {E : JE2} {v1 : Int} {v2 : Int} {μ : Mem} {M : JM} {Q : Mem → Prop} (hM : Rl E M μ) (h : d_Md_owes v1 v2 μ Q) : JX 375 0 (jargs 375 [jR 772, jI v1, jI v2]) [] M (PO E (QV Q) XN) := by
  unfold d_Md_owes at h
  show JX 375 0 [jR 772, jI v1, jI v2] [] M (PO E (QV Q) XN)
  generalize hP : PO E (QV Q) XN = P
  have hQ : ∀ (M1 : JM) (μ1 : Mem), Rl E M1 μ1 → Q μ1 → P (.inl none) M1 := by rw [← hP]; exact fun M1 μ1 a b => ⟨μ1, a, rfl, b⟩
  clear hP
  refine L_ps c375 (n := 1) (pc1 := 1) (ls1 := [jR 772, jI v1, jI v2]) (st1 := [jR 772]) rfl ?_
  refine L_getP (d := 14) (c375 1 rfl) hM rt772 rfl ?_
  refine L_ps c375 (n := 1) (pc1 := 5) (ls1 := [jR 772, jI v1, jI v2]) (st1 := [jR 772, jR 786]) rfl ?_
  refine L_getI (c375 5 rfl) hM rt772 rfl ?_
  refine L_ps c375 (n := 1) (pc1 := 9) (ls1 := [jR 772, jI v1, jI v2]) (st1 := [jI v1, jI (μ 772 36), jR 786]) rfl ?_
  obtain ⟨hb, h⟩ := h
  refine L_iast (c375 9 rfl) hM rt786 ln786 hb (fun M hM => ?_)
  refine L_ps c375 (n := 1) (pc1 := 11) (ls1 := [jR 772, jI v1, jI v2]) (st1 := [jR 772]) rfl ?_
  refine L_getP (d := 15) (c375 11 rfl) hM rt772 rfl ?_
  refine L_ps c375 (n := 1) (pc1 := 15) (ls1 := [jR 772, jI v1, jI v2]) (st1 := [jR 772, jR 787]) rfl ?_
  refine L_getI (c375 15 rfl) hM rt772 rfl ?_
  refine L_ps c375 (n := 1) (pc1 := 19) (ls1 := [jR 772, jI v1, jI v2]) (st1 := [jI v2, jI ((mup μ 786 (μ 772 36).toNat v1) 772 36), jR 787]) rfl ?_
  obtain ⟨hb, h⟩ := h
  refine L_iast (c375 19 rfl) hM rt787 ln787 hb (fun M hM => ?_)
  refine L_ps c375 (n := 2) (pc1 := 22) (ls1 := [jR 772, jI v1, jI v2]) (st1 := [jR 772, jR 772]) rfl ?_
  refine L_getI (c375 22 rfl) hM rt772 rfl ?_
  refine L_ps c375 (n := 2) (pc1 := 27) (ls1 := [jR 772, jI v1, jI v2]) (st1 := [jI (wr (((mup (mup μ 786 (μ 772 36).toNat v1) 787 ((mup μ 786 (μ 772 36).toNat v1) 772 36).toNat v2) 772 36) + 1)), jR 772]) rfl ?_
  refine L_putI (c375 27 rfl) hM rt772 rfl (fun M hM => ?_)
  exact L_end (c375 30 rfl) rfl (hQ _ _ hM h)
theorem k_Md_ends_b2 {E : JE2} {v2 : Int} {μ : Mem} {M : JM} {P : JO → JM → Prop} {g1 : JV} {W2 : Int → Prop} {Q : Int → Prop} (hg1 : jc2 g1 = false) (hM : Rl E M μ) (hQ : ∀ (r : Int) (M1 : JM), Rl E M1 μ → Q r → P (.inl (some (.inl r))) M1) (hW2 : ∀ (v2 : Int) (g1 : JV) (M1 : JM), jc2 g1 = false → Rl E M1 μ → W2 v2 → JX 376 2 [jR 772, g1, jI v2] [] M1 P) (h : d_Md_ends_b2 v2 μ W2 Q) : JX 376 2 [jR 772, g1, jI v2] [] M P := by
  unfold d_Md_ends_b2 at h
  refine L_ps c376 (n := 1) (pc1 := 3) (ls1 := [jR 772, g1, jI v2]) (st1 := [jR 772]) rfl ?_
  refine L_getP (d := 12) (c376 3 rfl) hM rt772 rfl ?_
  refine L_ps c376 (n := 1) (pc1 := 7) (ls1 := [jR 772, g1, jI v2]) (st1 := [jI v2, jR 784]) rfl ?_
  obtain ⟨hb, h⟩ := h
  refine L_iald (c376 7 rfl) hM rt784 ln784 hb ?_
  refine L_ps c376 (n := 1) (pc1 := 10) (ls1 := [jR 772, g1, jI v2]) (st1 := [jI 100, jI (μ 784 v2.toNat)]) rfl ?_
  refine L_br (p1 := 49) (p2 := 13) (c376 10 rfl) rfl jc_lt h (fun h => ?_) (fun h => ?_)
  · refine L_ps c376 (n := 1) (pc1 := 50) (ls1 := [jR 772, g1, jI v2]) (st1 := [jI v2]) rfl ?_
    exact L_retI (c376 50 rfl) (hQ _ _ hM h)
  · refine L_ps c376 (n := 1) (pc1 := 14) (ls1 := [jR 772, g1, jI v2]) (st1 := [jR 772]) rfl ?_
    refine L_getP (d := 13) (c376 14 rfl) hM rt772 rfl ?_
    refine L_ps c376 (n := 1) (pc1 := 18) (ls1 := [jR 772, g1, jI v2]) (st1 := [jR 772, jR 785]) rfl ?_
    refine L_getP (d := 12) (c376 18 rfl) hM rt772 rfl ?_
    refine L_ps c376 (n := 1) (pc1 := 22) (ls1 := [jR 772, g1, jI v2]) (st1 := [jI v2, jR 784, jR 785]) rfl ?_
    obtain ⟨hb, h⟩ := h
    refine L_iald (c376 22 rfl) hM rt784 ln784 hb ?_
    refine L_ps c376 (n := 2) (pc1 := 26) (ls1 := [jR 772, g1, jI v2]) (st1 := [jI (wr ((μ 784 v2.toNat) - 100)), jR 785]) rfl ?_
    obtain ⟨hb, h⟩ := h
    refine L_iald (c376 26 rfl) hM rt785 ln785 hb ?_
    refine L_ps c376 (n := 1) (pc1 := 28) (ls1 := [jR 772, g1, jI v2]) (st1 := [jI (-1), jI (μ 785 (wr ((μ 784 v2.toNat) - 100)).toNat)]) rfl ?_
    refine L_br (p1 := 49) (p2 := 31) (c376 28 rfl) rfl jc_eq h (fun h => ?_) (fun h => ?_)
    · refine L_ps c376 (n := 1) (pc1 := 50) (ls1 := [jR 772, g1, jI v2]) (st1 := [jI v2]) rfl ?_
      exact L_retI (c376 50 rfl) (hQ _ _ hM h)
    · refine L_ps c376 (n := 1) (pc1 := 32) (ls1 := [jR 772, g1, jI v2]) (st1 := [jR 772]) rfl ?_
      refine L_getP (d := 13) (c376 32 rfl) hM rt772 rfl ?_
      refine L_ps c376 (n := 1) (pc1 := 36) (ls1 := [jR 772, g1, jI v2]) (st1 := [jR 772, jR 785]) rfl ?_
      refine L_getP (d := 12) (c376 36 rfl) hM rt772 rfl ?_
      refine L_ps c376 (n := 1) (pc1 := 40) (ls1 := [jR 772, g1, jI v2]) (st1 := [jI v2, jR 784, jR 785]) rfl ?_
      obtain ⟨hb, h⟩ := h
      refine L_iald (c376 40 rfl) hM rt784 ln784 hb ?_
      refine L_ps c376 (n := 2) (pc1 := 44) (ls1 := [jR 772, g1, jI v2]) (st1 := [jI (wr ((μ 784 v2.toNat) - 100)), jR 785]) rfl ?_
      obtain ⟨hb, h⟩ := h
      refine L_iald (c376 44 rfl) hM rt785 ln785 hb ?_
      refine L_istn (c376 45 rfl) (hg1) (Nat.le_of_ble_eq_true rfl) ?_
      show JX 376 46 [jR 772, g1, jI (μ 785 (wr ((μ 784 v2.toNat) - 100)).toNat)] [] M P
      refine L_ps c376 (n := 1) (pc1 := 2) (ls1 := [jR 772, g1, jI (μ 785 (wr ((μ 784 v2.toNat) - 100)).toNat)]) (st1 := []) rfl ?_
      exact hW2 _ _ _ hg1 hM h
theorem k_Md_ends_l2 {E : JE2} {v2 : Int} {μ : Mem} {M : JM} {P : JO → JM → Prop} {g1 : JV} {Q : Int → Prop} (hg1 : jc2 g1 = false) (hM : Rl E M μ) (hQ : ∀ (r : Int) (M1 : JM), Rl E M1 μ → Q r → P (.inl (some (.inl r))) M1) (h : d_Md_ends_l2 v2 μ Q) : JX 376 2 [jR 772, g1, jI v2] [] M P := by
  refine h (fun v2 => ∀ (g1 : JV) (M : JM), jc2 g1 = false → Rl E M μ → JX 376 2 [jR 772, g1, jI v2] [] M P) ?_ _ _ hg1 hM
  intro v2 h g1 M hg1 hM
  exact k_Md_ends_b2 hg1 hM hQ (fun v2 g1 M hg1 hM h => h g1 M hg1 hM) h
theorem k_Md_ends {E : JE2} {v1 : Int} {μ : Mem} {M : JM} {Q : Int → Prop} (hM : Rl E M μ) (h : d_Md_ends v1 μ Q) : JX 376 0 (jargs 376 [jR 772, jI v1]) [] M (PO E (pQI μ Q) XN) := by
  unfold d_Md_ends at h
  show JX 376 0 [jR 772, jI v1, jU] [] M (PO E (pQI μ Q) XN)
  generalize hP : PO E (pQI μ Q) XN = P
  have hQ : ∀ (r : Int) (M1 : JM), Rl E M1 μ → Q r → P (.inl (some (.inl r))) M1 := by rw [← hP]; exact fun r M1 a b => ⟨μ, a, rfl, r, rfl, b⟩
  clear hP
  refine L_ps c376 (n := 2) (pc1 := 2) (ls1 := [jR 772, jI v1, jI v1]) (st1 := []) rfl ?_
  exact k_Md_ends_l2 rfl hM hQ h
theorem k_Md_occurs_j176 {E : JE2} {v1 : Int} {v3 : Int} {v5 : Int} {v6 : Int} {μ : Mem} {M : JM} {P : JO → JM → Prop} {g2 : JV} {g4 : JV} {W30 : Int → Mem → Prop} {W61 : Int → Int → Mem → Prop} {Q : Bool → Mem → Prop} (hg2 : jc2 g2 = false) (hg4 : jc2 g4 = false) (hM : Rl E M μ) (hQ : ∀ (r : Bool) (M1 : JM) (μ1 : Mem), Rl E M1 μ1 → Q r μ1 → P (.inl (some (.inl (b2i r)))) M1) (hW30 : ∀ (v3 : Int) (g2 : JV) (g4 : JV) (g5 : JV) (g6 : JV) (M1 : JM) (μ1 : Mem), jc2 g2 = false → jc2 g4 = false → jc2 g5 = false → Rl E M1 μ1 → W30 v3 μ1 → JX 379 30 [jR 772, jI v1, g2, jI v3, g4, g5, g6] [] M1 P) (hW61 : ∀ (v3 : Int) (v6 : Int) (g2 : JV) (g4 : JV) (M1 : JM) (μ1 : Mem), jc2 g2 = false → jc2 g4 = false → Rl E M1 μ1 → W61 v3 v6 μ1 → JX 379 61 [jR 772, jI v1, g2, jI v3, g4, jI v5, jI v6] [] M1 P) (h : d_Md_occurs_j176 v1 v3 v5 v6 μ W30 W61 Q) : JX 379 176 [jR 772, jI v1, g2, jI v3, g4, jI v5, jI v6] [] M P := by
  unfold d_Md_occurs_j176 at h
  refine L_ps c379 (n := 2) (pc1 := 61) (ls1 := [jR 772, jI v1, g2, jI v3, g4, jI v5, jI (wr (v6 + 1))]) (st1 := []) rfl ?_
  exact hW61 _ _ _ _ _ _ hg2 hg4 hM h
theorem k_Md_occurs_b61 {E : JE2} {v1 : Int} {v5 : Int} {v3 : Int} {v6 : Int} {μ : Mem} {M : JM} {P : JO → JM → Prop} {g2 : JV} {g4 : JV} {W30 : Int → Mem → Prop} {W61 : Int → Int → Mem → Prop} {Q : Bool → Mem → Prop} (hg2 : jc2 g2 = false) (hg4 : jc2 g4 = false) (hM : Rl E M μ) (hQ : ∀ (r : Bool) (M1 : JM) (μ1 : Mem), Rl E M1 μ1 → Q r μ1 → P (.inl (some (.inl (b2i r)))) M1) (hW30 : ∀ (v3 : Int) (g2 : JV) (g4 : JV) (g5 : JV) (g6 : JV) (M1 : JM) (μ1 : Mem), jc2 g2 = false → jc2 g4 = false → jc2 g5 = false → Rl E M1 μ1 → W30 v3 μ1 → JX 379 30 [jR 772, jI v1, g2, jI v3, g4, g5, g6] [] M1 P) (hW61 : ∀ (v3 : Int) (v6 : Int) (g2 : JV) (g4 : JV) (M1 : JM) (μ1 : Mem), jc2 g2 = false → jc2 g4 = false → Rl E M1 μ1 → W61 v3 v6 μ1 → JX 379 61 [jR 772, jI v1, g2, jI v3, g4, jI v5, jI v6] [] M1 P) (h : d_Md_occurs_b61 v1 v5 v3 v6 μ W30 W61 Q) : JX 379 61 [jR 772, jI v1, g2, jI v3, g4, jI v5, jI v6] [] M P := by
  unfold d_Md_occurs_b61 at h
  refine L_ps c379 (n := 2) (pc1 := 65) (ls1 := [jR 772, jI v1, g2, jI v3, g4, jI v5, jI v6]) (st1 := [jI v5, jI v6]) rfl ?_
  refine L_nb (p1 := 182) (p2 := 68) (c379 65 rfl) rfl jc_ge h (fun h => ?_) (fun h => ?_)
  · refine L_ps c379 (n := 1) (pc1 := 69) (ls1 := [jR 772, jI v1, g2, jI v3, g4, jI v5, jI v6]) (st1 := [jR 772]) rfl ?_
    refine L_getP (d := 12) (c379 69 rfl) hM rt772 rfl ?_
    refine L_ps c379 (n := 1) (pc1 := 74) (ls1 := [jR 772, jI v1, g2, jI v3, g4, jI v5, jI v6]) (st1 := [jI v6, jR 784]) rfl ?_
    obtain ⟨hb, h⟩ := h
    refine L_iald (c379 74 rfl) hM rt784 ln784 hb ?_
    refine L_ps c379 (n := 1) (pc1 := 76) (ls1 := [jR 772, jI v1, g2, jI v3, g4, jI v5, jI v6]) (st1 := [jI v1, jI (μ 784 v6.toNat)]) rfl ?_
    refine L_nb (p1 := 81) (p2 := 79) (c379 76 rfl) rfl jc_ne h (fun h => ?_) (fun h => ?_)
    · refine L_ps c379 (n := 1) (pc1 := 80) (ls1 := [jR 772, jI v1, g2, jI v3, g4, jI v5, jI v6]) (st1 := [jI 1]) rfl ?_
      exact L_retB (c379 80 rfl) (Or.inr rfl) (hQ true _ _ hM h)
    · refine L_ps c379 (n := 1) (pc1 := 82) (ls1 := [jR 772, jI v1, g2, jI v3, g4, jI v5, jI v6]) (st1 := [jR 772]) rfl ?_
      refine L_getP (d := 12) (c379 82 rfl) hM rt772 rfl ?_
      refine L_ps c379 (n := 1) (pc1 := 87) (ls1 := [jR 772, jI v1, g2, jI v3, g4, jI v5, jI v6]) (st1 := [jI v6, jR 784]) rfl ?_
      obtain ⟨hb, h⟩ := h
      refine L_iald (c379 87 rfl) hM rt784 ln784 hb ?_
      refine L_ps c379 (n := 1) (pc1 := 90) (ls1 := [jR 772, jI v1, g2, jI v3, g4, jI v5, jI v6]) (st1 := [jI 100, jI (μ 784 v6.toNat)]) rfl ?_
      refine L_br (p1 := 176) (p2 := 93) (c379 90 rfl) rfl jc_lt h (fun h => ?_) (fun h => ?_)
      · exact k_Md_occurs_j176 hg2 hg4 hM hQ hW30 hW61 h
      · refine L_ps c379 (n := 1) (pc1 := 94) (ls1 := [jR 772, jI v1, g2, jI v3, g4, jI v5, jI v6]) (st1 := [jR 772]) rfl ?_
        refine L_getP (d := 17) (c379 94 rfl) hM rt772 rfl ?_
        refine L_ps c379 (n := 1) (pc1 := 98) (ls1 := [jR 772, jI v1, g2, jI v3, g4, jI v5, jI v6]) (st1 := [jR 772, jR 789]) rfl ?_
        refine L_getP (d := 12) (c379 98 rfl) hM rt772 rfl ?_
        refine L_ps c379 (n := 1) (pc1 := 103) (ls1 := [jR 772, jI v1, g2, jI v3, g4, jI v5, jI v6]) (st1 := [jI v6, jR 784, jR 789]) rfl ?_
        obtain ⟨hb, h⟩ := h
        refine L_iald (c379 103 rfl) hM rt784 ln784 hb ?_
        refine L_ps c379 (n := 2) (pc1 := 107) (ls1 := [jR 772, jI v1, g2, jI v3, g4, jI v5, jI v6]) (st1 := [jI (wr ((μ 784 v6.toNat) - 100)), jR 789]) rfl ?_
        obtain ⟨hb, h⟩ := h
        refine L_bald (c379 107 rfl) hM (Or.inr rt789) ln789 hb ?_
        refine L_br (p1 := 114) (p2 := 111) (c379 108 rfl) rfl jc_eq h (fun h => ?_) (fun h => ?_)
        · refine L_ps c379 (n := 1) (pc1 := 115) (ls1 := [jR 772, jI v1, g2, jI v3, g4, jI v5, jI v6]) (st1 := [jR 772]) rfl ?_
          refine L_getP (d := 17) (c379 115 rfl) hM rt772 rfl ?_
          refine L_ps c379 (n := 1) (pc1 := 119) (ls1 := [jR 772, jI v1, g2, jI v3, g4, jI v5, jI v6]) (st1 := [jR 772, jR 789]) rfl ?_
          refine L_getP (d := 12) (c379 119 rfl) hM rt772 rfl ?_
          refine L_ps c379 (n := 1) (pc1 := 124) (ls1 := [jR 772, jI v1, g2, jI v3, g4, jI v5, jI v6]) (st1 := [jI v6, jR 784, jR 789]) rfl ?_
          obtain ⟨hb, h⟩ := h
          refine L_iald (c379 124 rfl) hM rt784 ln784 hb ?_
          refine L_ps c379 (n := 3) (pc1 := 129) (ls1 := [jR 772, jI v1, g2, jI v3, g4, jI v5, jI v6]) (st1 := [jI 1, jI (wr ((μ 784 v6.toNat) - 100)), jR 789]) rfl ?_
          obtain ⟨hb, h⟩ := h
          refine L_zast (c379 129 rfl) hM rt789 ln789 hb (Or.inr rfl) (fun M hM => ?_)
          refine L_ps c379 (n := 1) (pc1 := 131) (ls1 := [jR 772, jI v1, g2, jI v3, g4, jI v5, jI v6]) (st1 := [jR 772]) rfl ?_
          refine L_getP (d := 13) (c379 131 rfl) hM rt772 rfl ?_
          refine L_ps c379 (n := 1) (pc1 := 135) (ls1 := [jR 772, jI v1, g2, jI v3, g4, jI v5, jI v6]) (st1 := [jR 772, jR 785]) rfl ?_
          refine L_getP (d := 12) (c379 135 rfl) hM rt772 rfl ?_
          refine L_ps c379 (n := 1) (pc1 := 140) (ls1 := [jR 772, jI v1, g2, jI v3, g4, jI v5, jI v6]) (st1 := [jI v6, jR 784, jR 785]) rfl ?_
          obtain ⟨hb, h⟩ := h
          refine L_iald (c379 140 rfl) hM rt784 ln784 hb ?_
          refine L_ps c379 (n := 2) (pc1 := 144) (ls1 := [jR 772, jI v1, g2, jI v3, g4, jI v5, jI v6]) (st1 := [jI (wr (((mup μ 789 (wr ((μ 784 v6.toNat) - 100)).toNat 1) 784 v6.toNat) - 100)), jR 785]) rfl ?_
          obtain ⟨hb, h⟩ := h
          refine L_iald (c379 144 rfl) hM rt785 ln785 hb ?_
          refine L_ps c379 (n := 1) (pc1 := 146) (ls1 := [jR 772, jI v1, g2, jI v3, g4, jI v5, jI v6]) (st1 := [jI (-1), jI ((mup μ 789 (wr ((μ 784 v6.toNat) - 100)).toNat 1) 785 (wr (((mup μ 789 (wr ((μ 784 v6.toNat) - 100)).toNat 1) 784 v6.toNat) - 100)).toNat)]) rfl ?_
          refine L_nb (p1 := 152) (p2 := 149) (c379 146 rfl) rfl jc_ne h (fun h => ?_) (fun h => ?_)
          · refine L_ps c379 (n := 1) (pc1 := 176) (ls1 := [jR 772, jI v1, g2, jI v3, g4, jI v5, jI v6]) (st1 := []) rfl ?_
            exact k_Md_occurs_j176 hg2 hg4 hM hQ hW30 hW61 h
          · refine L_ps c379 (n := 1) (pc1 := 153) (ls1 := [jR 772, jI v1, g2, jI v3, g4, jI v5, jI v6]) (st1 := [jR 772]) rfl ?_
            refine L_getP (d := 16) (c379 153 rfl) hM rt772 rfl ?_
            refine L_ps c379 (n := 2) (pc1 := 158) (ls1 := [jR 772, jI v1, g2, jI v3, g4, jI v5, jI v6]) (st1 := [jR 772, jI v3, jR 788]) rfl ?_
            refine L_getP (d := 13) (c379 158 rfl) hM rt772 rfl ?_
            refine L_ps c379 (n := 1) (pc1 := 162) (ls1 := [jR 772, jI v1, g2, jI v3, g4, jI v5, jI v6]) (st1 := [jR 772, jR 785, jI v3, jR 788]) rfl ?_
            refine L_getP (d := 12) (c379 162 rfl) hM rt772 rfl ?_
            refine L_ps c379 (n := 1) (pc1 := 167) (ls1 := [jR 772, jI v1, g2, jI v3, g4, jI v5, jI v6]) (st1 := [jI v6, jR 784, jR 785, jI v3, jR 788]) rfl ?_
            obtain ⟨hb, h⟩ := h
            refine L_iald (c379 167 rfl) hM rt784 ln784 hb ?_
            refine L_ps c379 (n := 2) (pc1 := 171) (ls1 := [jR 772, jI v1, g2, jI v3, g4, jI v5, jI v6]) (st1 := [jI (wr (((mup μ 789 (wr ((μ 784 v6.toNat) - 100)).toNat 1) 784 v6.toNat) - 100)), jR 785, jI v3, jR 788]) rfl ?_
            obtain ⟨hb, h⟩ := h
            refine L_iald (c379 171 rfl) hM rt785 ln785 hb ?_
            obtain ⟨hb, h⟩ := h
            refine L_iast (c379 172 rfl) hM rt788 ln788 hb (fun M hM => ?_)
            refine L_iinc (c379 173 rfl) (hg2) (Nat.le_of_ble_eq_true rfl) rfl ?_
            show JX 379 176 [jR 772, jI v1, g2, jI (wr (v3 + 1)), g4, jI v5, jI v6] [] M P
            exact k_Md_occurs_j176 hg2 hg4 hM hQ hW30 hW61 h
        · refine L_ps c379 (n := 1) (pc1 := 176) (ls1 := [jR 772, jI v1, g2, jI v3, g4, jI v5, jI v6]) (st1 := []) rfl ?_
          exact k_Md_occurs_j176 hg2 hg4 hM hQ hW30 hW61 h
  · refine L_ps c379 (n := 1) (pc1 := 30) (ls1 := [jR 772, jI v1, g2, jI v3, g4, jI v5, jI v6]) (st1 := []) rfl ?_
    exact hW30 _ _ _ _ _ _ _ hg2 hg4 rfl hM h
theorem k_Md_occurs_l61 {E : JE2} {v1 : Int} {v5 : Int} {v3 : Int} {v6 : Int} {μ : Mem} {M : JM} {P : JO → JM → Prop} {g2 : JV} {g4 : JV} {W30 : Int → Mem → Prop} {Q : Bool → Mem → Prop} (hg2 : jc2 g2 = false) (hg4 : jc2 g4 = false) (hM : Rl E M μ) (hQ : ∀ (r : Bool) (M1 : JM) (μ1 : Mem), Rl E M1 μ1 → Q r μ1 → P (.inl (some (.inl (b2i r)))) M1) (hW30 : ∀ (v3 : Int) (g2 : JV) (g4 : JV) (g5 : JV) (g6 : JV) (M1 : JM) (μ1 : Mem), jc2 g2 = false → jc2 g4 = false → jc2 g5 = false → Rl E M1 μ1 → W30 v3 μ1 → JX 379 30 [jR 772, jI v1, g2, jI v3, g4, g5, g6] [] M1 P) (h : d_Md_occurs_l61 v1 v5 v3 v6 μ W30 Q) : JX 379 61 [jR 772, jI v1, g2, jI v3, g4, jI v5, jI v6] [] M P := by
  refine h (fun v3 v6 μ => ∀ (g2 : JV) (g4 : JV) (M : JM), jc2 g2 = false → jc2 g4 = false → Rl E M μ → JX 379 61 [jR 772, jI v1, g2, jI v3, g4, jI v5, jI v6] [] M P) ?_ _ _ _ hg2 hg4 hM
  intro v3 v6 μ h g2 g4 M hg2 hg4 hM
  exact k_Md_occurs_b61 hg2 hg4 hM hQ hW30 (fun v3 v6 g2 g4 M μ hg2 hg4 hM h => h g2 g4 M hg2 hg4 hM) h
theorem k_Md_occurs_b30 {E : JE2} {v1 : Int} {v3 : Int} {μ : Mem} {M : JM} {P : JO → JM → Prop} {g2 : JV} {g4 : JV} {g5 : JV} {g6 : JV} {W30 : Int → Mem → Prop} {Q : Bool → Mem → Prop} (hg2 : jc2 g2 = false) (hg4 : jc2 g4 = false) (hg5 : jc2 g5 = false) (hM : Rl E M μ) (hQ : ∀ (r : Bool) (M1 : JM) (μ1 : Mem), Rl E M1 μ1 → Q r μ1 → P (.inl (some (.inl (b2i r)))) M1) (hW30 : ∀ (v3 : Int) (g2 : JV) (g4 : JV) (g5 : JV) (g6 : JV) (M1 : JM) (μ1 : Mem), jc2 g2 = false → jc2 g4 = false → jc2 g5 = false → Rl E M1 μ1 → W30 v3 μ1 → JX 379 30 [jR 772, jI v1, g2, jI v3, g4, g5, g6] [] M1 P) (h : d_Md_occurs_b30 v1 v3 μ W30 Q) : JX 379 30 [jR 772, jI v1, g2, jI v3, g4, g5, g6] [] M P := by
  unfold d_Md_occurs_b30 at h
  refine L_ps c379 (n := 1) (pc1 := 31) (ls1 := [jR 772, jI v1, g2, jI v3, g4, g5, g6]) (st1 := [jI v3]) rfl ?_
  refine L_nb (p1 := 185) (p2 := 34) (c379 31 rfl) rfl jc_le h (fun h => ?_) (fun h => ?_)
  · refine L_iinc (c379 34 rfl) (hg2) (Nat.le_of_ble_eq_true rfl) rfl ?_
    show JX 379 37 [jR 772, jI v1, g2, jI (wr (v3 + (-1))), g4, g5, g6] [] M P
    refine L_ps c379 (n := 1) (pc1 := 38) (ls1 := [jR 772, jI v1, g2, jI (wr (v3 + (-1))), g4, g5, g6]) (st1 := [jR 772]) rfl ?_
    refine L_getP (d := 16) (c379 38 rfl) hM rt772 rfl ?_
    refine L_ps c379 (n := 1) (pc1 := 42) (ls1 := [jR 772, jI v1, g2, jI (wr (v3 + (-1))), g4, g5, g6]) (st1 := [jI (wr (v3 + (-1))), jR 788]) rfl ?_
    obtain ⟨hb, h⟩ := h
    refine L_iald (c379 42 rfl) hM rt788 ln788 hb ?_
    refine L_ps c379 (n := 3) (pc1 := 47) (ls1 := [jR 772, jI v1, g2, jI (wr (v3 + (-1))), jI (μ 788 (wr (v3 + (-1))).toNat), g5, g6]) (st1 := [jR 772, jR 772]) rfl ?_
    refine L_getP (d := 12) (c379 47 rfl) hM rt772 rfl ?_
    refine L_ps c379 (n := 1) (pc1 := 52) (ls1 := [jR 772, jI v1, g2, jI (wr (v3 + (-1))), jI (μ 788 (wr (v3 + (-1))).toNat), g5, g6]) (st1 := [jI (μ 788 (wr (v3 + (-1))).toNat), jR 784, jR 772]) rfl ?_
    refine L_cpI (c379 52 rfl) (js_v rfl ((Rl_tag hM rt772 (by decide)).trans js311)) hh379 (k_Md_behind rt784 hM h) (fun r1 M hM h => ?_) (fun _ _ _ _ f => f.elim)
    refine L_ps c379 (n := 3) (pc1 := 61) (ls1 := [jR 772, jI v1, g2, jI (wr (v3 + (-1))), jI (μ 788 (wr (v3 + (-1))).toNat), jI r1, jI (μ 788 (wr (v3 + (-1))).toNat)]) (st1 := []) rfl ?_
    exact k_Md_occurs_l61 hg2 rfl hM hQ hW30 h
  · refine L_ps c379 (n := 1) (pc1 := 186) (ls1 := [jR 772, jI v1, g2, jI v3, g4, g5, g6]) (st1 := [jI 0]) rfl ?_
    exact L_retB (c379 186 rfl) (Or.inl rfl) (hQ false _ _ hM h)
theorem k_Md_occurs_l30 {E : JE2} {v1 : Int} {v3 : Int} {μ : Mem} {M : JM} {P : JO → JM → Prop} {g2 : JV} {g4 : JV} {g5 : JV} {g6 : JV} {Q : Bool → Mem → Prop} (hg2 : jc2 g2 = false) (hg4 : jc2 g4 = false) (hg5 : jc2 g5 = false) (hM : Rl E M μ) (hQ : ∀ (r : Bool) (M1 : JM) (μ1 : Mem), Rl E M1 μ1 → Q r μ1 → P (.inl (some (.inl (b2i r)))) M1) (h : d_Md_occurs_l30 v1 v3 μ Q) : JX 379 30 [jR 772, jI v1, g2, jI v3, g4, g5, g6] [] M P := by
  refine h (fun v3 μ => ∀ (g2 : JV) (g4 : JV) (g5 : JV) (g6 : JV) (M : JM), jc2 g2 = false → jc2 g4 = false → jc2 g5 = false → Rl E M μ → JX 379 30 [jR 772, jI v1, g2, jI v3, g4, g5, g6] [] M P) ?_ _ _ _ _ _ hg2 hg4 hg5 hM
  intro v3 μ h g2 g4 g5 g6 M hg2 hg4 hg5 hM
  exact k_Md_occurs_b30 hg2 hg4 hg5 hM hQ (fun v3 g2 g4 g5 g6 M μ hg2 hg4 hg5 hM h => h g2 g4 g5 g6 M hg2 hg4 hg5 hM) h
theorem k_Md_occurs_b2 {E : JE2} {v1 : Int} {v2 : Int} {v3 : Int} {μ : Mem} {M : JM} {P : JO → JM → Prop} {g4 : JV} {g5 : JV} {g6 : JV} {W2 : Int → Mem → Prop} {Q : Bool → Mem → Prop} (hg4 : jc2 g4 = false) (hg5 : jc2 g5 = false) (hM : Rl E M μ) (hQ : ∀ (r : Bool) (M1 : JM) (μ1 : Mem), Rl E M1 μ1 → Q r μ1 → P (.inl (some (.inl (b2i r)))) M1) (hW2 : ∀ (v3 : Int) (g4 : JV) (g5 : JV) (g6 : JV) (M1 : JM) (μ1 : Mem), jc2 g4 = false → jc2 g5 = false → Rl E M1 μ1 → W2 v3 μ1 → JX 379 2 [jR 772, jI v1, jI v2, jI v3, g4, g5, g6] [] M1 P) (h : d_Md_occurs_b2 v1 v2 v3 μ W2 Q) : JX 379 2 [jR 772, jI v1, jI v2, jI v3, g4, g5, g6] [] M P := by
  unfold d_Md_occurs_b2 at h
  refine L_ps c379 (n := 2) (pc1 := 5) (ls1 := [jR 772, jI v1, jI v2, jI v3, g4, g5, g6]) (st1 := [jI 16, jI v3]) rfl ?_
  refine L_nb (p1 := 21) (p2 := 8) (c379 5 rfl) rfl jc_ge h (fun h => ?_) (fun h => ?_)
  · refine L_ps c379 (n := 1) (pc1 := 9) (ls1 := [jR 772, jI v1, jI v2, jI v3, g4, g5, g6]) (st1 := [jR 772]) rfl ?_
    refine L_getP (d := 17) (c379 9 rfl) hM rt772 rfl ?_
    refine L_ps c379 (n := 2) (pc1 := 14) (ls1 := [jR 772, jI v1, jI v2, jI v3, g4, g5, g6]) (st1 := [jI 0, jI v3, jR 789]) rfl ?_
    obtain ⟨hb, h⟩ := h
    refine L_zast (c379 14 rfl) hM rt789 ln789 hb (Or.inl rfl) (fun M hM => ?_)
    refine L_ps c379 (n := 2) (pc1 := 2) (ls1 := [jR 772, jI v1, jI v2, jI (wr (v3 + 1)), g4, g5, g6]) (st1 := []) rfl ?_
    exact hW2 _ _ _ _ _ _ hg4 hg5 hM h
  · refine L_ps c379 (n := 3) (pc1 := 24) (ls1 := [jR 772, jI v1, jI v2, jI 1, g4, g5, g6]) (st1 := [jR 772]) rfl ?_
    refine L_getP (d := 16) (c379 24 rfl) hM rt772 rfl ?_
    refine L_ps c379 (n := 2) (pc1 := 29) (ls1 := [jR 772, jI v1, jI v2, jI 1, g4, g5, g6]) (st1 := [jI v2, jI 0, jR 788]) rfl ?_
    refine L_iast (c379 29 rfl) hM rt788 ln788 (by decide) (fun M hM => ?_)
    exact k_Md_occurs_l30 rfl hg4 hg5 hM hQ h
theorem k_Md_occurs_l2 {E : JE2} {v1 : Int} {v2 : Int} {v3 : Int} {μ : Mem} {M : JM} {P : JO → JM → Prop} {g4 : JV} {g5 : JV} {g6 : JV} {Q : Bool → Mem → Prop} (hg4 : jc2 g4 = false) (hg5 : jc2 g5 = false) (hM : Rl E M μ) (hQ : ∀ (r : Bool) (M1 : JM) (μ1 : Mem), Rl E M1 μ1 → Q r μ1 → P (.inl (some (.inl (b2i r)))) M1) (h : d_Md_occurs_l2 v1 v2 v3 μ Q) : JX 379 2 [jR 772, jI v1, jI v2, jI v3, g4, g5, g6] [] M P := by
  refine h (fun v3 μ => ∀ (g4 : JV) (g5 : JV) (g6 : JV) (M : JM), jc2 g4 = false → jc2 g5 = false → Rl E M μ → JX 379 2 [jR 772, jI v1, jI v2, jI v3, g4, g5, g6] [] M P) ?_ _ _ _ _ hg4 hg5 hM
  intro v3 μ h g4 g5 g6 M hg4 hg5 hM
  exact k_Md_occurs_b2 hg4 hg5 hM hQ (fun v3 g4 g5 g6 M μ hg4 hg5 hM h => h g4 g5 g6 M hg4 hg5 hM) h
theorem k_Md_occurs {E : JE2} {v1 : Int} {v2 : Int} {μ : Mem} {M : JM} {Q : Bool → Mem → Prop} (hM : Rl E M μ) (h : d_Md_occurs v1 v2 μ Q) : JX 379 0 (jargs 379 [jR 772, jI v1, jI v2]) [] M (PO E (QB Q) XN) := by
  unfold d_Md_occurs at h
  show JX 379 0 [jR 772, jI v1, jI v2, jU, jU, jU, jU] [] M (PO E (QB Q) XN)
  generalize hP : PO E (QB Q) XN = P
  have hQ : ∀ (r : Bool) (M1 : JM) (μ1 : Mem), Rl E M1 μ1 → Q r μ1 → P (.inl (some (.inl (b2i r)))) M1 := by rw [← hP]; exact fun r M1 μ1 a b => ⟨μ1, a, r, rfl, b⟩
  clear hP
  refine L_ps c379 (n := 2) (pc1 := 2) (ls1 := [jR 772, jI v1, jI v2, jI 0, jU, jU, jU]) (st1 := []) rfl ?_
  exact k_Md_occurs_l2 rfl rfl hM hQ h
theorem k_Md_means {E : JE2} {v1 : Int} {v2 : Int} {μ : Mem} {M : JM} {Q : Bool → Mem → Prop} (hM : Rl E M μ) (h : d_Md_means v1 v2 μ Q) : JX 378 0 (jargs 378 [jR 772, jI v1, jI v2]) [] M (PO E (QB Q) XN) := by
  unfold d_Md_means at h
  show JX 378 0 [jR 772, jI v1, jI v2] [] M (PO E (QB Q) XN)
  generalize hP : PO E (QB Q) XN = P
  have hQ : ∀ (r : Bool) (M1 : JM) (μ1 : Mem), Rl E M1 μ1 → Q r μ1 → P (.inl (some (.inl (b2i r)))) M1 := by rw [← hP]; exact fun r M1 μ1 a b => ⟨μ1, a, r, rfl, b⟩
  clear hP
  refine L_ps c378 (n := 2) (pc1 := 2) (ls1 := [jR 772, jI v1, jI v2]) (st1 := [jR 772, jR 772]) rfl ?_
  refine L_getP (d := 12) (c378 2 rfl) hM rt772 rfl ?_
  refine L_ps c378 (n := 1) (pc1 := 6) (ls1 := [jR 772, jI v1, jI v2]) (st1 := [jI v1, jR 784, jR 772]) rfl ?_
  obtain ⟨hb, h⟩ := h
  refine L_iald (c378 6 rfl) hM rt784 ln784 hb ?_
  refine L_ps c378 (n := 1) (pc1 := 8) (ls1 := [jR 772, jI v1, jI v2]) (st1 := [jI v2, jI (μ 784 v1.toNat), jR 772]) rfl ?_
  refine L_cB (c378 8 rfl) (js_v rfl ((Rl_tag hM rt772 (by decide)).trans js379)) hh378 (k_Md_occurs hM h) (fun r1 M μ2 hM h => ?_) (fun _ _ _ _ f => f.elim)
  refine L_nb (p1 := 16) (p2 := 14) (c378 11 rfl) rfl jc_eqb h (fun h => ?_) (fun h => ?_)
  · refine L_ps c378 (n := 1) (pc1 := 15) (ls1 := [jR 772, jI v1, jI v2]) (st1 := [jI 0]) rfl ?_
    exact L_retB (c378 15 rfl) (Or.inl rfl) (hQ false _ _ hM h)
  · refine L_ps c378 (n := 1) (pc1 := 17) (ls1 := [jR 772, jI v1, jI v2]) (st1 := [jR 772]) rfl ?_
    refine L_getP (d := 13) (c378 17 rfl) hM rt772 rfl ?_
    refine L_ps c378 (n := 1) (pc1 := 21) (ls1 := [jR 772, jI v1, jI v2]) (st1 := [jR 772, jR 785]) rfl ?_
    refine L_getP (d := 12) (c378 21 rfl) hM rt772 rfl ?_
    refine L_ps c378 (n := 1) (pc1 := 25) (ls1 := [jR 772, jI v1, jI v2]) (st1 := [jI v1, jR 784, jR 785]) rfl ?_
    obtain ⟨hb, h⟩ := h
    refine L_iald (c378 25 rfl) hM rt784 ln784 hb ?_
    refine L_ps c378 (n := 3) (pc1 := 30) (ls1 := [jR 772, jI v1, jI v2]) (st1 := [jI v2, jI (wr ((μ2 784 v1.toNat) - 100)), jR 785]) rfl ?_
    obtain ⟨hb, h⟩ := h
    refine L_iast (c378 30 rfl) hM rt785 ln785 hb (fun M hM => ?_)
    refine L_ps c378 (n := 1) (pc1 := 32) (ls1 := [jR 772, jI v1, jI v2]) (st1 := [jI 1]) rfl ?_
    exact L_retB (c378 32 rfl) (Or.inr rfl) (hQ true _ _ hM h)
theorem k_Md_owesArguments_b21 {E : JE2} {v3 : Int} {v4 : Int} {v5 : Int} {μ : Mem} {M : JM} {P : JO → JM → Prop} {g1 : JV} {g2 : JV} {W21 : Int → Int → Int → Mem → Prop} {Q : Mem → Prop} (hg2 : jc2 g2 = false) (hM : Rl E M μ) (hQ : ∀ (M1 : JM) (μ1 : Mem), Rl E M1 μ1 → Q μ1 → P (.inl none) M1) (hW21 : ∀ (v3 : Int) (v4 : Int) (v5 : Int) (g1 : JV) (g2 : JV) (M1 : JM) (μ1 : Mem), jc2 g2 = false → Rl E M1 μ1 → W21 v3 v4 v5 μ1 → JX 380 21 [jR 772, g1, g2, jI v3, jI v4, jI v5] [] M1 P) (h : d_Md_owesArguments_b21 v3 v4 v5 μ W21 Q) : JX 380 21 [jR 772, g1, g2, jI v3, jI v4, jI v5] [] M P := by
  unfold d_Md_owesArguments_b21 at h
  refine L_ps c380 (n := 1) (pc1 := 23) (ls1 := [jR 772, g1, g2, jI v3, jI v4, jI v5]) (st1 := [jI v5]) rfl ?_
  refine L_nb (p1 := 61) (p2 := 26) (c380 23 rfl) rfl jc_le h (fun h => ?_) (fun h => ?_)
  · refine L_ps c380 (n := 3) (pc1 := 30) (ls1 := [jR 772, g1, g2, jI v3, jI v4, jI v5]) (st1 := [jI v4, jI v3, jR 772]) rfl ?_
    refine L_cV (c380 30 rfl) (js_v rfl ((Rl_tag hM rt772 (by decide)).trans js375)) hh380 (k_Md_owes hM h) (fun M μ4 hM h => ?_) (fun _ _ _ _ f => f.elim)
    refine L_ps c380 (n := 2) (pc1 := 35) (ls1 := [jR 772, g1, g2, jI v3, jI v4, jI v5]) (st1 := [jR 772, jR 772]) rfl ?_
    refine L_getP (d := 12) (c380 35 rfl) hM rt772 rfl ?_
    refine L_ps c380 (n := 1) (pc1 := 39) (ls1 := [jR 772, g1, g2, jI v3, jI v4, jI v5]) (st1 := [jI v3, jR 784, jR 772]) rfl ?_
    refine L_cpI (c380 39 rfl) (js_v rfl ((Rl_tag hM rt772 (by decide)).trans js311)) hh380 (k_Md_behind rt784 hM h) (fun r5 M hM h => ?_) (fun _ _ _ _ f => f.elim)
    refine L_istn (c380 42 rfl) (hg2) (Nat.le_of_ble_eq_true rfl) ?_
    show JX 380 43 [jR 772, g1, g2, jI r5, jI v4, jI v5] [] M P
    refine L_ps c380 (n := 2) (pc1 := 45) (ls1 := [jR 772, g1, g2, jI r5, jI v4, jI v5]) (st1 := [jR 772, jR 772]) rfl ?_
    refine L_getP (d := 12) (c380 45 rfl) hM rt772 rfl ?_
    refine L_ps c380 (n := 1) (pc1 := 50) (ls1 := [jR 772, g1, g2, jI r5, jI v4, jI v5]) (st1 := [jI v4, jR 784, jR 772]) rfl ?_
    refine L_cpI (c380 50 rfl) (js_v rfl ((Rl_tag hM rt772 (by decide)).trans js311)) hh380 (k_Md_behind rt784 hM h) (fun r7 M hM h => ?_) (fun _ _ _ _ f => f.elim)
    refine L_ps c380 (n := 3) (pc1 := 21) (ls1 := [jR 772, g1, g2, jI r5, jI r7, jI (wr (v5 + (-1)))]) (st1 := []) rfl ?_
    exact hW21 _ _ _ _ _ _ _ hg2 hM h
  · exact L_end (c380 61 rfl) rfl (hQ _ _ hM h)
theorem k_Md_owesArguments_l21 {E : JE2} {v3 : Int} {v4 : Int} {v5 : Int} {μ : Mem} {M : JM} {P : JO → JM → Prop} {g1 : JV} {g2 : JV} {Q : Mem → Prop} (hg2 : jc2 g2 = false) (hM : Rl E M μ) (hQ : ∀ (M1 : JM) (μ1 : Mem), Rl E M1 μ1 → Q μ1 → P (.inl none) M1) (h : d_Md_owesArguments_l21 v3 v4 v5 μ Q) : JX 380 21 [jR 772, g1, g2, jI v3, jI v4, jI v5] [] M P := by
  refine h (fun v3 v4 v5 μ => ∀ (g1 : JV) (g2 : JV) (M : JM), jc2 g2 = false → Rl E M μ → JX 380 21 [jR 772, g1, g2, jI v3, jI v4, jI v5] [] M P) ?_ _ _ _ hg2 hM
  intro v3 v4 v5 μ h g1 g2 M hg2 hM
  exact k_Md_owesArguments_b21 hg2 hM hQ (fun v3 v4 v5 g1 g2 M μ hg2 hM h => h g1 g2 M hg2 hM) h
theorem k_Md_owesArguments {E : JE2} {v1 : Int} {v2 : Int} {μ : Mem} {M : JM} {Q : Mem → Prop} (hM : Rl E M μ) (h : d_Md_owesArguments v1 v2 μ Q) : JX 380 0 (jargs 380 [jR 772, jI v1, jI v2]) [] M (PO E (QV Q) XN) := by
  unfold d_Md_owesArguments at h
  show JX 380 0 [jR 772, jI v1, jI v2, jU, jU, jU] [] M (PO E (QV Q) XN)
  generalize hP : PO E (QV Q) XN = P
  have hQ : ∀ (M1 : JM) (μ1 : Mem), Rl E M1 μ1 → Q μ1 → P (.inl none) M1 := by rw [← hP]; exact fun M1 μ1 a b => ⟨μ1, a, rfl, b⟩
  clear hP
  refine L_ps c380 (n := 10) (pc1 := 11) (ls1 := [jR 772, jI v1, jI v2, jI (wr (v1 + 1)), jI (wr (v2 + 1)), jU]) (st1 := [jR 772, jR 772]) rfl ?_
  refine L_getP (d := 12) (c380 11 rfl) hM rt772 rfl ?_
  refine L_ps c380 (n := 1) (pc1 := 15) (ls1 := [jR 772, jI v1, jI v2, jI (wr (v1 + 1)), jI (wr (v2 + 1)), jU]) (st1 := [jI v1, jR 784, jR 772]) rfl ?_
  obtain ⟨hb, h⟩ := h
  refine L_iald (c380 15 rfl) hM rt784 ln784 hb ?_
  refine L_cpI (c380 16 rfl) (js_v rfl ((Rl_tag hM rt772 (by decide)).trans js312)) hh380 (k_Md_arityOf hM h) (fun r1 M hM h => ?_) (fun _ _ _ _ f => f.elim)
  refine L_ps c380 (n := 1) (pc1 := 21) (ls1 := [jR 772, jI v1, jI v2, jI (wr (v1 + 1)), jI (wr (v2 + 1)), jI r1]) (st1 := []) rfl ?_
  exact k_Md_owesArguments_l21 rfl hM hQ h
theorem k_Md_isEqualTo_j33 {E : JE2} {v1 : Int} {v2 : Int} {μ : Mem} {M : JM} {P : JO → JM → Prop} {Q : Bool → Mem → Prop} (hM : Rl E M μ) (hQ : ∀ (r : Bool) (M1 : JM) (μ1 : Mem), Rl E M1 μ1 → Q r μ1 → P (.inl (some (.inl (b2i r)))) M1) (h : d_Md_isEqualTo_j33 v1 v2 μ Q) : JX 377 33 [jR 772, jI v1, jI v2] [] M P := by
  unfold d_Md_isEqualTo_j33 at h
  refine L_ps c377 (n := 1) (pc1 := 34) (ls1 := [jR 772, jI v1, jI v2]) (st1 := [jR 772]) rfl ?_
  refine L_getP (d := 12) (c377 34 rfl) hM rt772 rfl ?_
  refine L_ps c377 (n := 1) (pc1 := 38) (ls1 := [jR 772, jI v1, jI v2]) (st1 := [jI v1, jR 784]) rfl ?_
  obtain ⟨hb, h⟩ := h
  refine L_iald (c377 38 rfl) hM rt784 ln784 hb ?_
  refine L_ps c377 (n := 1) (pc1 := 41) (ls1 := [jR 772, jI v1, jI v2]) (st1 := [jI 100, jI (μ 784 v1.toNat)]) rfl ?_
  refine L_br (p1 := 51) (p2 := 44) (c377 41 rfl) rfl jc_lt h (fun h => ?_) (fun h => ?_)
  · refine L_ps c377 (n := 1) (pc1 := 52) (ls1 := [jR 772, jI v1, jI v2]) (st1 := [jR 772]) rfl ?_
    refine L_getP (d := 12) (c377 52 rfl) hM rt772 rfl ?_
    refine L_ps c377 (n := 1) (pc1 := 56) (ls1 := [jR 772, jI v1, jI v2]) (st1 := [jI v2, jR 784]) rfl ?_
    obtain ⟨hb, h⟩ := h
    refine L_iald (c377 56 rfl) hM rt784 ln784 hb ?_
    refine L_ps c377 (n := 1) (pc1 := 59) (ls1 := [jR 772, jI v1, jI v2]) (st1 := [jI 100, jI (μ 784 v2.toNat)]) rfl ?_
    refine L_br (p1 := 69) (p2 := 62) (c377 59 rfl) rfl jc_lt h (fun h => ?_) (fun h => ?_)
    · refine L_ps c377 (n := 1) (pc1 := 70) (ls1 := [jR 772, jI v1, jI v2]) (st1 := [jR 772]) rfl ?_
      refine L_getP (d := 12) (c377 70 rfl) hM rt772 rfl ?_
      refine L_ps c377 (n := 1) (pc1 := 74) (ls1 := [jR 772, jI v1, jI v2]) (st1 := [jI v1, jR 784]) rfl ?_
      obtain ⟨hb, h⟩ := h
      refine L_iald (c377 74 rfl) hM rt784 ln784 hb ?_
      refine L_ps c377 (n := 1) (pc1 := 76) (ls1 := [jR 772, jI v1, jI v2]) (st1 := [jR 772, jI (μ 784 v1.toNat)]) rfl ?_
      refine L_getP (d := 12) (c377 76 rfl) hM rt772 rfl ?_
      refine L_ps c377 (n := 1) (pc1 := 80) (ls1 := [jR 772, jI v1, jI v2]) (st1 := [jI v2, jR 784, jI (μ 784 v1.toNat)]) rfl ?_
      obtain ⟨hb, h⟩ := h
      refine L_iald (c377 80 rfl) hM rt784 ln784 hb ?_
      refine L_br (p1 := 86) (p2 := 84) (c377 81 rfl) rfl jc_eq h (fun h => ?_) (fun h => ?_)
      · refine L_ps c377 (n := 3) (pc1 := 89) (ls1 := [jR 772, jI v1, jI v2]) (st1 := [jI v2, jI v1, jR 772]) rfl ?_
        refine L_cV (c377 89 rfl) (js_v rfl ((Rl_tag hM rt772 (by decide)).trans js380)) hh377 (k_Md_owesArguments hM h) (fun M μ2 hM h => ?_) (fun _ _ _ _ f => f.elim)
        refine L_ps c377 (n := 1) (pc1 := 93) (ls1 := [jR 772, jI v1, jI v2]) (st1 := [jI 1]) rfl ?_
        exact L_retB (c377 93 rfl) (Or.inr rfl) (hQ true _ _ hM h)
      · refine L_ps c377 (n := 1) (pc1 := 85) (ls1 := [jR 772, jI v1, jI v2]) (st1 := [jI 0]) rfl ?_
        exact L_retB (c377 85 rfl) (Or.inl rfl) (hQ false _ _ hM h)
    · refine L_ps c377 (n := 3) (pc1 := 65) (ls1 := [jR 772, jI v1, jI v2]) (st1 := [jI v1, jI v2, jR 772]) rfl ?_
      refine L_cB (c377 65 rfl) (js_v rfl ((Rl_tag hM rt772 (by decide)).trans js378)) hh377 (k_Md_means hM h) (fun r3 M μ4 hM h => ?_) (fun _ _ _ _ f => f.elim)
      exact L_retB (c377 68 rfl) (bz_b _) (hQ _ _ _ hM h)
  · refine L_ps c377 (n := 3) (pc1 := 47) (ls1 := [jR 772, jI v1, jI v2]) (st1 := [jI v2, jI v1, jR 772]) rfl ?_
    refine L_cB (c377 47 rfl) (js_v rfl ((Rl_tag hM rt772 (by decide)).trans js378)) hh377 (k_Md_means hM h) (fun r5 M μ6 hM h => ?_) (fun _ _ _ _ f => f.elim)
    exact L_retB (c377 50 rfl) (bz_b _) (hQ _ _ _ hM h)
theorem k_Md_isEqualTo {E : JE2} {v1 : Int} {v2 : Int} {μ : Mem} {M : JM} {Q : Bool → Mem → Prop} (hM : Rl E M μ) (h : d_Md_isEqualTo v1 v2 μ Q) : JX 377 0 (jargs 377 [jR 772, jI v1, jI v2]) [] M (PO E (QB Q) XN) := by
  unfold d_Md_isEqualTo at h
  show JX 377 0 [jR 772, jI v1, jI v2] [] M (PO E (QB Q) XN)
  generalize hP : PO E (QB Q) XN = P
  have hQ : ∀ (r : Bool) (M1 : JM) (μ1 : Mem), Rl E M1 μ1 → Q r μ1 → P (.inl (some (.inl (b2i r)))) M1 := by rw [← hP]; exact fun r M1 μ1 a b => ⟨μ1, a, r, rfl, b⟩
  clear hP
  refine L_ps c377 (n := 2) (pc1 := 2) (ls1 := [jR 772, jI v1, jI v2]) (st1 := [jI v2, jI v1]) rfl ?_
  refine L_br (p1 := 31) (p2 := 5) (c377 2 rfl) rfl jc_eq h (fun h => ?_) (fun h => ?_)
  · refine L_ps c377 (n := 1) (pc1 := 32) (ls1 := [jR 772, jI v1, jI v2]) (st1 := [jI 1]) rfl ?_
    exact L_retB (c377 32 rfl) (Or.inr rfl) (hQ true _ _ hM h)
  · refine L_ps c377 (n := 1) (pc1 := 6) (ls1 := [jR 772, jI v1, jI v2]) (st1 := [jR 772]) rfl ?_
    refine L_getP (d := 12) (c377 6 rfl) hM rt772 rfl ?_
    refine L_ps c377 (n := 1) (pc1 := 10) (ls1 := [jR 772, jI v1, jI v2]) (st1 := [jI v1, jR 784]) rfl ?_
    obtain ⟨hb, h⟩ := h
    refine L_iald (c377 10 rfl) hM rt784 ln784 hb ?_
    refine L_ps c377 (n := 1) (pc1 := 13) (ls1 := [jR 772, jI v1, jI v2]) (st1 := [jI 100, jI (μ 784 v1.toNat)]) rfl ?_
    refine L_br (p1 := 33) (p2 := 16) (c377 13 rfl) rfl jc_lt h (fun h => ?_) (fun h => ?_)
    · exact k_Md_isEqualTo_j33 hM hQ h
    · refine L_ps c377 (n := 1) (pc1 := 17) (ls1 := [jR 772, jI v1, jI v2]) (st1 := [jR 772]) rfl ?_
      refine L_getP (d := 12) (c377 17 rfl) hM rt772 rfl ?_
      refine L_ps c377 (n := 1) (pc1 := 21) (ls1 := [jR 772, jI v1, jI v2]) (st1 := [jI v1, jR 784]) rfl ?_
      obtain ⟨hb, h⟩ := h
      refine L_iald (c377 21 rfl) hM rt784 ln784 hb ?_
      refine L_ps c377 (n := 1) (pc1 := 23) (ls1 := [jR 772, jI v1, jI v2]) (st1 := [jR 772, jI (μ 784 v1.toNat)]) rfl ?_
      refine L_getP (d := 12) (c377 23 rfl) hM rt772 rfl ?_
      refine L_ps c377 (n := 1) (pc1 := 27) (ls1 := [jR 772, jI v1, jI v2]) (st1 := [jI v2, jR 784, jI (μ 784 v1.toNat)]) rfl ?_
      obtain ⟨hb, h⟩ := h
      refine L_iald (c377 27 rfl) hM rt784 ln784 hb ?_
      refine L_nb (p1 := 33) (p2 := 31) (c377 28 rfl) rfl jc_ne h (fun h => ?_) (fun h => ?_)
      · refine L_ps c377 (n := 1) (pc1 := 32) (ls1 := [jR 772, jI v1, jI v2]) (st1 := [jI 1]) rfl ?_
        exact L_retB (c377 32 rfl) (Or.inr rfl) (hQ true _ _ hM h)
      · exact k_Md_isEqualTo_j33 hM hQ h
theorem k_Md_unifies_b11 {E : JE2} {μ : Mem} {M : JM} {P : JO → JM → Prop} {g1 : JV} {g2 : JV} {W11 : Mem → Prop} {Q : Bool → Mem → Prop} (hM : Rl E M μ) (hQ : ∀ (r : Bool) (M1 : JM) (μ1 : Mem), Rl E M1 μ1 → Q r μ1 → P (.inl (some (.inl (b2i r)))) M1) (hW11 : ∀ (g1 : JV) (g2 : JV) (M1 : JM) (μ1 : Mem), Rl E M1 μ1 → W11 μ1 → JX 374 11 [jR 772, g1, g2] [] M1 P) (h : d_Md_unifies_b11 μ W11 Q) : JX 374 11 [jR 772, g1, g2] [] M P := by
  unfold d_Md_unifies_b11 at h
  refine L_ps c374 (n := 1) (pc1 := 12) (ls1 := [jR 772, g1, g2]) (st1 := [jR 772]) rfl ?_
  refine L_getI (c374 12 rfl) hM rt772 rfl ?_
  refine L_nb (p1 := 63) (p2 := 18) (c374 15 rfl) rfl jc_le h (fun h => ?_) (fun h => ?_)
  · refine L_ps c374 (n := 2) (pc1 := 20) (ls1 := [jR 772, g1, g2]) (st1 := [jR 772, jR 772]) rfl ?_
    refine L_getI (c374 20 rfl) hM rt772 rfl ?_
    refine L_ps c374 (n := 2) (pc1 := 25) (ls1 := [jR 772, g1, g2]) (st1 := [jI (wr ((μ 772 36) - 1)), jR 772]) rfl ?_
    refine L_putI (c374 25 rfl) hM rt772 rfl (fun M hM => ?_)
    refine L_ps c374 (n := 3) (pc1 := 31) (ls1 := [jR 772, g1, g2]) (st1 := [jR 772, jR 772, jR 772]) rfl ?_
    refine L_getP (d := 14) (c374 31 rfl) hM rt772 rfl ?_
    refine L_ps c374 (n := 1) (pc1 := 35) (ls1 := [jR 772, g1, g2]) (st1 := [jR 772, jR 786, jR 772, jR 772]) rfl ?_
    refine L_getI (c374 35 rfl) hM rt772 rfl ?_
    obtain ⟨hb, h⟩ := h
    refine L_iald (c374 38 rfl) hM rt786 ln786 hb ?_
    refine L_cpI (c374 39 rfl) (js_v rfl ((Rl_tag hM rt772 (by decide)).trans js376)) hh374 (k_Md_ends hM h) (fun r3 M hM h => ?_) (fun _ _ _ _ f => f.elim)
    refine L_ps c374 (n := 2) (pc1 := 44) (ls1 := [jR 772, g1, g2]) (st1 := [jR 772, jR 772, jI r3, jR 772]) rfl ?_
    refine L_getP (d := 15) (c374 44 rfl) hM rt772 rfl ?_
    refine L_ps c374 (n := 1) (pc1 := 48) (ls1 := [jR 772, g1, g2]) (st1 := [jR 772, jR 787, jR 772, jI r3, jR 772]) rfl ?_
    refine L_getI (c374 48 rfl) hM rt772 rfl ?_
    obtain ⟨hb, h⟩ := h
    refine L_iald (c374 51 rfl) hM rt787 ln787 hb ?_
    refine L_cpI (c374 52 rfl) (js_v rfl ((Rl_tag hM rt772 (by decide)).trans js376)) hh374 (k_Md_ends hM h) (fun r5 M hM h => ?_) (fun _ _ _ _ f => f.elim)
    refine L_cB (c374 55 rfl) (js_v rfl ((Rl_tag hM rt772 (by decide)).trans js377)) hh374 (k_Md_isEqualTo hM h) (fun r7 M μ8 hM h => ?_) (fun _ _ _ _ f => f.elim)
    refine L_br (p1 := 11) (p2 := 61) (c374 58 rfl) rfl jc_neb h (fun h => ?_) (fun h => ?_)
    · exact hW11 _ _ _ _ hM h
    · refine L_ps c374 (n := 1) (pc1 := 62) (ls1 := [jR 772, g1, g2]) (st1 := [jI 0]) rfl ?_
      exact L_retB (c374 62 rfl) (Or.inl rfl) (hQ false _ _ hM h)
  · refine L_ps c374 (n := 1) (pc1 := 64) (ls1 := [jR 772, g1, g2]) (st1 := [jI 1]) rfl ?_
    exact L_retB (c374 64 rfl) (Or.inr rfl) (hQ true _ _ hM h)
theorem k_Md_unifies_l11 {E : JE2} {μ : Mem} {M : JM} {P : JO → JM → Prop} {g1 : JV} {g2 : JV} {Q : Bool → Mem → Prop} (hM : Rl E M μ) (hQ : ∀ (r : Bool) (M1 : JM) (μ1 : Mem), Rl E M1 μ1 → Q r μ1 → P (.inl (some (.inl (b2i r)))) M1) (h : d_Md_unifies_l11 μ Q) : JX 374 11 [jR 772, g1, g2] [] M P := by
  refine h (fun μ => ∀ (g1 : JV) (g2 : JV) (M : JM), Rl E M μ → JX 374 11 [jR 772, g1, g2] [] M P) ?_ _ _ _ hM
  intro μ h g1 g2 M hM
  exact k_Md_unifies_b11 hM hQ (fun g1 g2 M μ hM h => h g1 g2 M hM) h
theorem k_Md_unifies {E : JE2} {v1 : Int} {v2 : Int} {μ : Mem} {M : JM} {Q : Bool → Mem → Prop} (hM : Rl E M μ) (h : d_Md_unifies v1 v2 μ Q) : JX 374 0 (jargs 374 [jR 772, jI v1, jI v2]) [] M (PO E (QB Q) XN) := by
  unfold d_Md_unifies at h
  show JX 374 0 [jR 772, jI v1, jI v2] [] M (PO E (QB Q) XN)
  generalize hP : PO E (QB Q) XN = P
  have hQ : ∀ (r : Bool) (M1 : JM) (μ1 : Mem), Rl E M1 μ1 → Q r μ1 → P (.inl (some (.inl (b2i r)))) M1 := by rw [← hP]; exact fun r M1 μ1 a b => ⟨μ1, a, r, rfl, b⟩
  clear hP
  refine L_ps c374 (n := 2) (pc1 := 2) (ls1 := [jR 772, jI v1, jI v2]) (st1 := [jI 0, jR 772]) rfl ?_
  refine L_putI (c374 2 rfl) hM rt772 rfl (fun M hM => ?_)
  refine L_ps c374 (n := 3) (pc1 := 8) (ls1 := [jR 772, jI v1, jI v2]) (st1 := [jI v2, jI v1, jR 772]) rfl ?_
  refine L_cV (c374 8 rfl) (js_v rfl ((Rl_tag hM rt772 (by decide)).trans js375)) hh374 (k_Md_owes hM h) (fun M μ2 hM h => ?_) (fun _ _ _ _ f => f.elim)
  exact k_Md_unifies_l11 hM hQ h
theorem k_Md_unifiesTerms {E : JE2} {v1 : Int} {v2 : Int} {μ : Mem} {M : JM} {Q : Bool → Mem → Prop} (hM : Rl E M μ) (h : d_Md_unifiesTerms v1 v2 μ Q) : JX 371 0 (jargs 371 [jR 772, jI v1, jI v2]) [] M (PO E (QB Q) XN) := by
  unfold d_Md_unifiesTerms at h
  show JX 371 0 [jR 772, jI v1, jI v2, jU, jU] [] M (PO E (QB Q) XN)
  generalize hP : PO E (QB Q) XN = P
  have hQ : ∀ (r : Bool) (M1 : JM) (μ1 : Mem), Rl E M1 μ1 → Q r μ1 → P (.inl (some (.inl (b2i r)))) M1 := by rw [← hP]; exact fun r M1 μ1 a b => ⟨μ1, a, r, rfl, b⟩
  clear hP
  refine L_ps c371 (n := 1) (pc1 := 1) (ls1 := [jR 772, jI v1, jI v2, jU, jU]) (st1 := [jR 772]) rfl ?_
  refine L_cV (c371 1 rfl) (js_v rfl ((Rl_tag hM rt772 (by decide)).trans js372)) hh371 (k_Md_empties hM h) (fun M μ2 hM h => ?_) (fun _ _ _ _ f => f.elim)
  refine L_ps c371 (n := 10) (pc1 := 17) (ls1 := [jR 772, jI v1, jI v2, jU, jU]) (st1 := [jI v1, jR 772, jI (wr ((wr (223 + (wr (81 * v1)))) + 1)), jR 772]) rfl ?_
  refine L_cpI (c371 17 rfl) (js_v rfl ((Rl_tag hM rt772 (by decide)).trans js294)) hh371 (k_Md_sizeOf hM h) (fun r3 M hM h => ?_) (fun _ _ _ _ f => f.elim)
  refine L_ps c371 (n := 1) (pc1 := 21) (ls1 := [jR 772, jI v1, jI v2, jU, jU]) (st1 := [jI 0, jI r3, jI (wr ((wr (223 + (wr (81 * v1)))) + 1)), jR 772]) rfl ?_
  refine L_cI (c371 21 rfl) (js_v rfl ((Rl_tag hM rt772 (by decide)).trans js373)) hh371 (k_Md_pools hM h) (fun r5 M μ6 hM h => ?_) (fun _ _ _ _ f => f.elim)
  refine L_ps c371 (n := 11) (pc1 := 38) (ls1 := [jR 772, jI v1, jI v2, jI r5, jU]) (st1 := [jI v2, jR 772, jI (wr ((wr (223 + (wr (81 * v2)))) + 1)), jR 772]) rfl ?_
  refine L_cpI (c371 38 rfl) (js_v rfl ((Rl_tag hM rt772 (by decide)).trans js294)) hh371 (k_Md_sizeOf hM h) (fun r7 M hM h => ?_) (fun _ _ _ _ f => f.elim)
  refine L_ps c371 (n := 1) (pc1 := 42) (ls1 := [jR 772, jI v1, jI v2, jI r5, jU]) (st1 := [jI 1, jI r7, jI (wr ((wr (223 + (wr (81 * v2)))) + 1)), jR 772]) rfl ?_
  refine L_cI (c371 42 rfl) (js_v rfl ((Rl_tag hM rt772 (by decide)).trans js373)) hh371 (k_Md_pools hM h) (fun r9 M μ10 hM h => ?_) (fun _ _ _ _ f => f.elim)
  refine L_ps c371 (n := 4) (pc1 := 51) (ls1 := [jR 772, jI v1, jI v2, jI r5, jI r9]) (st1 := [jI r9, jI r5, jR 772]) rfl ?_
  refine L_cB (c371 51 rfl) (js_v rfl ((Rl_tag hM rt772 (by decide)).trans js374)) hh371 (k_Md_unifies hM h) (fun r11 M μ12 hM h => ?_) (fun _ _ _ _ f => f.elim)
  exact L_retB (c371 54 rfl) (bz_b _) (hQ _ _ _ hM h)
theorem k_Md_unify {E : JE2} {v1 : Int} {v2 : Int} {μ : Mem} {M : JM} {Q : Bool → Mem → Prop} (hM : Rl E M μ) (h : d_Md_unify v1 v2 μ Q) : JX 370 0 (jargs 370 [jR 772, jI v1, jI v2]) [] M (PO E (QB Q) XN) := by
  unfold d_Md_unify at h
  show JX 370 0 [jR 772, jI v1, jI v2] [] M (PO E (QB Q) XN)
  generalize hP : PO E (QB Q) XN = P
  have hQ : ∀ (r : Bool) (M1 : JM) (μ1 : Mem), Rl E M1 μ1 → Q r μ1 → P (.inl (some (.inl (b2i r)))) M1 := by rw [← hP]; exact fun r M1 μ1 a b => ⟨μ1, a, r, rfl, b⟩
  clear hP
  refine L_ps c370 (n := 3) (pc1 := 3) (ls1 := [jR 772, jI v1, jI v2]) (st1 := [jI v2, jI v1, jR 772]) rfl ?_
  refine L_cB (c370 3 rfl) (js_v rfl ((Rl_tag hM rt772 (by decide)).trans js351)) hh370 (k_Md_mayTerms hM h) (fun r1 M μ2 hM h => ?_) (fun _ _ _ _ f => f.elim)
  refine L_nb (p1 := 22) (p2 := 9) (c370 6 rfl) rfl jc_eqb h (fun h => ?_) (fun h => ?_)
  · refine L_ps c370 (n := 3) (pc1 := 12) (ls1 := [jR 772, jI v1, jI v2]) (st1 := [jI v2, jI v1, jR 772]) rfl ?_
    refine L_cB (c370 12 rfl) (js_v rfl ((Rl_tag hM rt772 (by decide)).trans js371)) hh370 (k_Md_unifiesTerms hM h) (fun r3 M μ4 hM h => ?_) (fun _ _ _ _ f => f.elim)
    refine L_nb (p1 := 22) (p2 := 18) (c370 15 rfl) rfl jc_eqb h (fun h => ?_) (fun h => ?_)
    · refine L_ps c370 (n := 2) (pc1 := 23) (ls1 := [jR 772, jI v1, jI v2]) (st1 := [jI 1]) rfl ?_
      exact L_retB (c370 23 rfl) (Or.inr rfl) (hQ true _ _ hM h)
    · refine L_ps c370 (n := 1) (pc1 := 23) (ls1 := [jR 772, jI v1, jI v2]) (st1 := [jI 0]) rfl ?_
      exact L_retB (c370 23 rfl) (Or.inl rfl) (hQ false _ _ hM h)
  · refine L_ps c370 (n := 1) (pc1 := 23) (ls1 := [jR 772, jI v1, jI v2]) (st1 := [jI 0]) rfl ?_
    exact L_retB (c370 23 rfl) (Or.inl rfl) (hQ false _ _ hM h)
theorem k_Md_buildsMeaning_b69 {E : JE2} {v2 : Int} {v4 : Int} {v5 : Int} {v6 : Int} {μ : Mem} {M : JM} {P : JO → JM → Prop} {g1 : JV} {g3 : JV} {W9 : Int → Mem → Prop} {W69 : Int → Int → Mem → Prop} {Q : Mem → Prop} (hg1 : jc2 g1 = false) (hg3 : jc2 g3 = false) (hM : Rl E M μ) (hQ : ∀ (M1 : JM) (μ1 : Mem), Rl E M1 μ1 → Q μ1 → P (.inl none) M1) (hW9 : ∀ (v2 : Int) (g1 : JV) (g3 : JV) (g4 : JV) (g5 : JV) (g6 : JV) (M1 : JM) (μ1 : Mem), jc2 g1 = false → jc2 g3 = false → jc2 g4 = false → jc2 g5 = false → Rl E M1 μ1 → W9 v2 μ1 → JX 382 9 [jR 772, g1, jI v2, g3, g4, g5, g6] [] M1 P) (hW69 : ∀ (v5 : Int) (v6 : Int) (g1 : JV) (g3 : JV) (M1 : JM) (μ1 : Mem), jc2 g1 = false → jc2 g3 = false → Rl E M1 μ1 → W69 v5 v6 μ1 → JX 382 69 [jR 772, g1, jI v2, g3, jI v4, jI v5, jI v6] [] M1 P) (h : d_Md_buildsMeaning_b69 v2 v4 v5 v6 μ W9 W69 Q) : JX 382 69 [jR 772, g1, jI v2, g3, jI v4, jI v5, jI v6] [] M P := by
  unfold d_Md_buildsMeaning_b69 at h
  refine L_ps c382 (n := 1) (pc1 := 71) (ls1 := [jR 772, g1, jI v2, g3, jI v4, jI v5, jI v6]) (st1 := [jI v6]) rfl ?_
  refine L_br (p1 := 103) (p2 := 74) (c382 71 rfl) rfl jc_lt h (fun h => ?_) (fun h => ?_)
  · refine L_ps c382 (n := 3) (pc1 := 107) (ls1 := [jR 772, g1, jI v2, g3, jI v4, jI v5, jI v6]) (st1 := [jI (wr (v2 + v4))]) rfl ?_
    refine L_istn (c382 107 rfl) (hg1) (Nat.le_of_ble_eq_true rfl) ?_
    show JX 382 108 [jR 772, g1, jI (wr (v2 + v4)), g3, jI v4, jI v5, jI v6] [] M P
    refine L_ps c382 (n := 1) (pc1 := 9) (ls1 := [jR 772, g1, jI (wr (v2 + v4)), g3, jI v4, jI v5, jI v6]) (st1 := []) rfl ?_
    exact hW9 _ _ _ _ _ _ _ _ hg1 hg3 rfl rfl hM h
  · refine L_ps c382 (n := 1) (pc1 := 75) (ls1 := [jR 772, g1, jI v2, g3, jI v4, jI v5, jI v6]) (st1 := [jR 772]) rfl ?_
    refine L_getP (d := 16) (c382 75 rfl) hM rt772 rfl ?_
    refine L_ps c382 (n := 4) (pc1 := 84) (ls1 := [jR 772, g1, jI v2, g3, jI v4, jI v5, jI v6]) (st1 := [jI v5, jI (wr (v2 + v6)), jR 788]) rfl ?_
    obtain ⟨hb, h⟩ := h
    refine L_iast (c382 84 rfl) hM rt788 ln788 hb (fun M hM => ?_)
    refine L_ps c382 (n := 2) (pc1 := 87) (ls1 := [jR 772, g1, jI v2, g3, jI v4, jI v5, jI v6]) (st1 := [jR 772, jR 772]) rfl ?_
    refine L_getP (d := 12) (c382 87 rfl) hM rt772 rfl ?_
    refine L_ps c382 (n := 1) (pc1 := 92) (ls1 := [jR 772, g1, jI v2, g3, jI v4, jI v5, jI v6]) (st1 := [jI v5, jR 784, jR 772]) rfl ?_
    refine L_cpI (c382 92 rfl) (js_v rfl ((Rl_tag hM rt772 (by decide)).trans js311)) hh382 (k_Md_behind rt784 hM h) (fun r7 M hM h => ?_) (fun _ _ _ _ f => f.elim)
    refine L_ps c382 (n := 3) (pc1 := 69) (ls1 := [jR 772, g1, jI v2, g3, jI v4, jI r7, jI (wr (v6 + (-1)))]) (st1 := []) rfl ?_
    exact hW69 _ _ _ _ _ _ hg1 hg3 hM h
theorem k_Md_buildsMeaning_l69 {E : JE2} {v2 : Int} {v4 : Int} {v5 : Int} {v6 : Int} {μ : Mem} {M : JM} {P : JO → JM → Prop} {g1 : JV} {g3 : JV} {W9 : Int → Mem → Prop} {Q : Mem → Prop} (hg1 : jc2 g1 = false) (hg3 : jc2 g3 = false) (hM : Rl E M μ) (hQ : ∀ (M1 : JM) (μ1 : Mem), Rl E M1 μ1 → Q μ1 → P (.inl none) M1) (hW9 : ∀ (v2 : Int) (g1 : JV) (g3 : JV) (g4 : JV) (g5 : JV) (g6 : JV) (M1 : JM) (μ1 : Mem), jc2 g1 = false → jc2 g3 = false → jc2 g4 = false → jc2 g5 = false → Rl E M1 μ1 → W9 v2 μ1 → JX 382 9 [jR 772, g1, jI v2, g3, g4, g5, g6] [] M1 P) (h : d_Md_buildsMeaning_l69 v2 v4 v5 v6 μ W9 Q) : JX 382 69 [jR 772, g1, jI v2, g3, jI v4, jI v5, jI v6] [] M P := by
  refine h (fun v5 v6 μ => ∀ (g1 : JV) (g3 : JV) (M : JM), jc2 g1 = false → jc2 g3 = false → Rl E M μ → JX 382 69 [jR 772, g1, jI v2, g3, jI v4, jI v5, jI v6] [] M P) ?_ _ _ _ hg1 hg3 hM
  intro v5 v6 μ h g1 g3 M hg1 hg3 hM
  exact k_Md_buildsMeaning_b69 hg1 hg3 hM hQ hW9 (fun v5 v6 g1 g3 M μ hg1 hg3 hM h => h g1 g3 M hg1 hg3 hM) h
theorem k_Md_buildsMeaning_b9 {E : JE2} {v2 : Int} {μ : Mem} {M : JM} {P : JO → JM → Prop} {g1 : JV} {g3 : JV} {g4 : JV} {g5 : JV} {g6 : JV} {W9 : Int → Mem → Prop} {Q : Mem → Prop} (hg1 : jc2 g1 = false) (hg3 : jc2 g3 = false) (hg4 : jc2 g4 = false) (hg5 : jc2 g5 = false) (hM : Rl E M μ) (hQ : ∀ (M1 : JM) (μ1 : Mem), Rl E M1 μ1 → Q μ1 → P (.inl none) M1) (hW9 : ∀ (v2 : Int) (g1 : JV) (g3 : JV) (g4 : JV) (g5 : JV) (g6 : JV) (M1 : JM) (μ1 : Mem), jc2 g1 = false → jc2 g3 = false → jc2 g4 = false → jc2 g5 = false → Rl E M1 μ1 → W9 v2 μ1 → JX 382 9 [jR 772, g1, jI v2, g3, g4, g5, g6] [] M1 P) (h : d_Md_buildsMeaning_b9 v2 μ W9 Q) : JX 382 9 [jR 772, g1, jI v2, g3, g4, g5, g6] [] M P := by
  unfold d_Md_buildsMeaning_b9 at h
  refine L_ps c382 (n := 1) (pc1 := 10) (ls1 := [jR 772, g1, jI v2, g3, g4, g5, g6]) (st1 := [jI v2]) rfl ?_
  refine L_nb (p1 := 111) (p2 := 13) (c382 10 rfl) rfl jc_le h (fun h => ?_) (fun h => ?_)
  · refine L_ps c382 (n := 1) (pc1 := 14) (ls1 := [jR 772, g1, jI v2, g3, g4, g5, g6]) (st1 := [jR 772]) rfl ?_
    refine L_getI (c382 14 rfl) hM rt772 rfl ?_
    refine L_ps c382 (n := 1) (pc1 := 19) (ls1 := [jR 772, g1, jI v2, g3, g4, g5, g6]) (st1 := [jI 80, jI (μ 772 26)]) rfl ?_
    refine L_br (p1 := 111) (p2 := 22) (c382 19 rfl) rfl jc_gt h (fun h => ?_) (fun h => ?_)
    · exact L_end (c382 111 rfl) rfl (hQ _ _ hM h)
    · refine L_iinc (c382 22 rfl) (hg1) (Nat.le_of_ble_eq_true rfl) rfl ?_
      show JX 382 25 [jR 772, g1, jI (wr (v2 + (-1))), g3, g4, g5, g6] [] M P
      refine L_ps c382 (n := 2) (pc1 := 27) (ls1 := [jR 772, g1, jI (wr (v2 + (-1))), g3, g4, g5, g6]) (st1 := [jR 772, jR 772]) rfl ?_
      refine L_getP (d := 16) (c382 27 rfl) hM rt772 rfl ?_
      refine L_ps c382 (n := 1) (pc1 := 31) (ls1 := [jR 772, g1, jI (wr (v2 + (-1))), g3, g4, g5, g6]) (st1 := [jI (wr (v2 + (-1))), jR 788, jR 772]) rfl ?_
      obtain ⟨hb, h⟩ := h
      refine L_iald (c382 31 rfl) hM rt788 ln788 hb ?_
      refine L_cpI (c382 32 rfl) (js_v rfl ((Rl_tag hM rt772 (by decide)).trans js376)) hh382 (k_Md_ends hM h) (fun r1 M hM h => ?_) (fun _ _ _ _ f => f.elim)
      refine L_ps c382 (n := 3) (pc1 := 38) (ls1 := [jR 772, g1, jI (wr (v2 + (-1))), jI r1, g4, g5, g6]) (st1 := [jR 772, jR 772]) rfl ?_
      refine L_getP (d := 12) (c382 38 rfl) hM rt772 rfl ?_
      refine L_ps c382 (n := 1) (pc1 := 42) (ls1 := [jR 772, g1, jI (wr (v2 + (-1))), jI r1, g4, g5, g6]) (st1 := [jI r1, jR 784, jR 772]) rfl ?_
      obtain ⟨hb, h⟩ := h
      refine L_iald (c382 42 rfl) hM rt784 ln784 hb ?_
      refine L_cV (c382 43 rfl) (js_v rfl ((Rl_tag hM rt772 (by decide)).trans js317)) hh382 (k_Md_builds hM h) (fun M μ4 hM h => ?_) (fun _ _ _ _ f => f.elim)
      refine L_ps c382 (n := 2) (pc1 := 48) (ls1 := [jR 772, g1, jI (wr (v2 + (-1))), jI r1, g4, g5, g6]) (st1 := [jR 772, jR 772]) rfl ?_
      refine L_getP (d := 12) (c382 48 rfl) hM rt772 rfl ?_
      refine L_ps c382 (n := 1) (pc1 := 52) (ls1 := [jR 772, g1, jI (wr (v2 + (-1))), jI r1, g4, g5, g6]) (st1 := [jI r1, jR 784, jR 772]) rfl ?_
      obtain ⟨hb, h⟩ := h
      refine L_iald (c382 52 rfl) hM rt784 ln784 hb ?_
      refine L_cpI (c382 53 rfl) (js_v rfl ((Rl_tag hM rt772 (by decide)).trans js312)) hh382 (k_Md_arityOf hM h) (fun r5 M hM h => ?_) (fun _ _ _ _ f => f.elim)
      refine L_ps c382 (n := 9) (pc1 := 69) (ls1 := [jR 772, g1, jI (wr (v2 + (-1))), jI r1, jI r5, jI (wr (r1 + 1)), jI (wr (r5 - 1))]) (st1 := []) rfl ?_
      exact k_Md_buildsMeaning_l69 hg1 rfl hM hQ hW9 h
  · exact L_end (c382 111 rfl) rfl (hQ _ _ hM h)
theorem k_Md_buildsMeaning_l9 {E : JE2} {v2 : Int} {μ : Mem} {M : JM} {P : JO → JM → Prop} {g1 : JV} {g3 : JV} {g4 : JV} {g5 : JV} {g6 : JV} {Q : Mem → Prop} (hg1 : jc2 g1 = false) (hg3 : jc2 g3 = false) (hg4 : jc2 g4 = false) (hg5 : jc2 g5 = false) (hM : Rl E M μ) (hQ : ∀ (M1 : JM) (μ1 : Mem), Rl E M1 μ1 → Q μ1 → P (.inl none) M1) (h : d_Md_buildsMeaning_l9 v2 μ Q) : JX 382 9 [jR 772, g1, jI v2, g3, g4, g5, g6] [] M P := by
  refine h (fun v2 μ => ∀ (g1 : JV) (g3 : JV) (g4 : JV) (g5 : JV) (g6 : JV) (M : JM), jc2 g1 = false → jc2 g3 = false → jc2 g4 = false → jc2 g5 = false → Rl E M μ → JX 382 9 [jR 772, g1, jI v2, g3, g4, g5, g6] [] M P) ?_ _ _ _ _ _ _ hg1 hg3 hg4 hg5 hM
  intro v2 μ h g1 g3 g4 g5 g6 M hg1 hg3 hg4 hg5 hM
  exact k_Md_buildsMeaning_b9 hg1 hg3 hg4 hg5 hM hQ (fun v2 g1 g3 g4 g5 g6 M μ hg1 hg3 hg4 hg5 hM h => h g1 g3 g4 g5 g6 M hg1 hg3 hg4 hg5 hM) h
theorem k_Md_buildsMeaning {E : JE2} {v1 : Int} {μ : Mem} {M : JM} {Q : Mem → Prop} (hM : Rl E M μ) (h : d_Md_buildsMeaning v1 μ Q) : JX 382 0 (jargs 382 [jR 772, jI v1]) [] M (PO E (QV Q) XN) := by
  unfold d_Md_buildsMeaning at h
  show JX 382 0 [jR 772, jI v1, jU, jU, jU, jU, jU] [] M (PO E (QV Q) XN)
  generalize hP : PO E (QV Q) XN = P
  have hQ : ∀ (M1 : JM) (μ1 : Mem), Rl E M1 μ1 → Q μ1 → P (.inl none) M1 := by rw [← hP]; exact fun M1 μ1 a b => ⟨μ1, a, rfl, b⟩
  clear hP
  refine L_ps c382 (n := 3) (pc1 := 3) (ls1 := [jR 772, jI v1, jI 1, jU, jU, jU, jU]) (st1 := [jR 772]) rfl ?_
  refine L_getP (d := 16) (c382 3 rfl) hM rt772 rfl ?_
  refine L_ps c382 (n := 2) (pc1 := 8) (ls1 := [jR 772, jI v1, jI 1, jU, jU, jU, jU]) (st1 := [jI v1, jI 0, jR 788]) rfl ?_
  refine L_iast (c382 8 rfl) hM rt788 ln788 (by decide) (fun M hM => ?_)
  exact k_Md_buildsMeaning_l9 rfl rfl rfl rfl hM hQ h
