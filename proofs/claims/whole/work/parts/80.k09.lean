/-! that the printed tables do what the texts say (written by wip/gen/dec.py), 9 -/
theorem k_Md_unifiedSize {E : JE2} {v1 : Int} {v2 : Int} {μ : Mem} {M : JM} {Q : Int → Mem → Prop} (hM : Rl E M μ) (h : d_Md_unifiedSize v1 v2 μ Q) : JX 381 0 (jargs 381 [jR 772, jI v1, jI v2]) [] M (PO E (QI Q) XN) := by
  unfold d_Md_unifiedSize at h
  show JX 381 0 [jR 772, jI v1, jI v2] [] M (PO E (QI Q) XN)
  generalize hP : PO E (QI Q) XN = P
  have hQ : ∀ (r : Int) (M1 : JM) (μ1 : Mem), Rl E M1 μ1 → Q r μ1 → P (.inl (some (.inl r))) M1 := by rw [← hP]; exact fun r M1 μ1 a b => ⟨μ1, a, r, rfl, b⟩
  clear hP
  refine L_ps c381 (n := 3) (pc1 := 3) (ls1 := [jR 772, jI v1, jI v2]) (st1 := [jI v2, jI v1, jR 772]) rfl ?_
  refine L_cB (c381 3 rfl) (js_v rfl ((Rl_tag hM rt772 (by decide)).trans js351)) hh381 (k_Md_mayTerms hM h) (fun r1 M μ2 hM h => ?_) (fun _ _ _ _ f => f.elim)
  refine L_br (p1 := 11) (p2 := 9) (c381 6 rfl) rfl jc_neb h (fun h => ?_) (fun h => ?_)
  · refine L_ps c381 (n := 3) (pc1 := 14) (ls1 := [jR 772, jI v1, jI v2]) (st1 := [jI v2, jI v1, jR 772]) rfl ?_
    refine L_cB (c381 14 rfl) (js_v rfl ((Rl_tag hM rt772 (by decide)).trans js371)) hh381 (k_Md_unifiesTerms hM h) (fun r3 M μ4 hM h => ?_) (fun _ _ _ _ f => f.elim)
    refine L_br (p1 := 22) (p2 := 20) (c381 17 rfl) rfl jc_neb h (fun h => ?_) (fun h => ?_)
    · refine L_ps c381 (n := 2) (pc1 := 24) (ls1 := [jR 772, jI v1, jI v2]) (st1 := [jI 0, jR 772]) rfl ?_
      refine L_putI (c381 24 rfl) hM rt772 rfl (fun M hM => ?_)
      refine L_ps c381 (n := 2) (pc1 := 29) (ls1 := [jR 772, jI v1, jI v2]) (st1 := [jI 0, jR 772]) rfl ?_
      refine L_cV (c381 29 rfl) (js_v rfl ((Rl_tag hM rt772 (by decide)).trans js382)) hh381 (k_Md_buildsMeaning hM h) (fun M μ6 hM h => ?_) (fun _ _ _ _ f => f.elim)
      refine L_ps c381 (n := 1) (pc1 := 33) (ls1 := [jR 772, jI v1, jI v2]) (st1 := [jR 772]) rfl ?_
      refine L_getI (c381 33 rfl) hM rt772 rfl ?_
      refine L_ps c381 (n := 1) (pc1 := 38) (ls1 := [jR 772, jI v1, jI v2]) (st1 := [jI 80, jI (μ6 772 26)]) rfl ?_
      refine L_nb (p1 := 45) (p2 := 41) (c381 38 rfl) rfl jc_le h (fun h => ?_) (fun h => ?_)
      · refine L_ps c381 (n := 2) (pc1 := 49) (ls1 := [jR 772, jI v1, jI v2]) (st1 := [jI (-1)]) rfl ?_
        exact L_retI (c381 49 rfl) (hQ _ _ _ hM h)
      · refine L_ps c381 (n := 1) (pc1 := 46) (ls1 := [jR 772, jI v1, jI v2]) (st1 := [jR 772]) rfl ?_
        refine L_getI (c381 46 rfl) hM rt772 rfl ?_
        exact L_retI (c381 49 rfl) (hQ _ _ _ hM h)
    · refine L_ps c381 (n := 1) (pc1 := 21) (ls1 := [jR 772, jI v1, jI v2]) (st1 := [jI (-1)]) rfl ?_
      exact L_retI (c381 21 rfl) (hQ _ _ _ hM h)
  · refine L_ps c381 (n := 1) (pc1 := 10) (ls1 := [jR 772, jI v1, jI v2]) (st1 := [jI 0]) rfl ?_
    exact L_retI (c381 10 rfl) (hQ _ _ _ hM h)
theorem k_Md_nameOf_j33 {E : JE2} {v1 : Int} {μ : Mem} {M : JM} {P : JO → JM → Prop} {Q : Int → Mem → Prop} (hM : Rl E M μ) (hQ : ∀ (r : Int) (M1 : JM) (μ1 : Mem), Rl E M1 μ1 → Q r μ1 → P (.inl (some (.inl r))) M1) (h : d_Md_nameOf_j33 v1 μ Q) : JX 387 33 [jR 772, jI v1] [] M P := by
  unfold d_Md_nameOf_j33 at h
  refine L_ps c387 (n := 1) (pc1 := 34) (ls1 := [jR 772, jI v1]) (st1 := [jR 772]) rfl ?_
  refine L_getP (d := 21) (c387 34 rfl) hM rt772 rfl ?_
  refine L_ps c387 (n := 1) (pc1 := 38) (ls1 := [jR 772, jI v1]) (st1 := [jI v1, jR 793]) rfl ?_
  obtain ⟨hb, h⟩ := h
  refine L_iald (c387 38 rfl) hM rt793 ln793 hb ?_
  exact L_retI (c387 39 rfl) (hQ _ _ _ hM h)
theorem k_Md_nameOf {E : JE2} {v1 : Int} {μ : Mem} {M : JM} {Q : Int → Mem → Prop} (hM : Rl E M μ) (h : d_Md_nameOf v1 μ Q) : JX 387 0 (jargs 387 [jR 772, jI v1]) [] M (PO E (QI Q) XN) := by
  unfold d_Md_nameOf at h
  show JX 387 0 [jR 772, jI v1] [] M (PO E (QI Q) XN)
  generalize hP : PO E (QI Q) XN = P
  have hQ : ∀ (r : Int) (M1 : JM) (μ1 : Mem), Rl E M1 μ1 → Q r μ1 → P (.inl (some (.inl r))) M1 := by rw [← hP]; exact fun r M1 μ1 a b => ⟨μ1, a, r, rfl, b⟩
  clear hP
  refine L_ps c387 (n := 1) (pc1 := 1) (ls1 := [jR 772, jI v1]) (st1 := [jR 772]) rfl ?_
  refine L_getP (d := 21) (c387 1 rfl) hM rt772 rfl ?_
  refine L_ps c387 (n := 1) (pc1 := 5) (ls1 := [jR 772, jI v1]) (st1 := [jI v1, jR 793]) rfl ?_
  obtain ⟨hb, h⟩ := h
  refine L_iald (c387 5 rfl) hM rt793 ln793 hb ?_
  refine L_ps c387 (n := 1) (pc1 := 7) (ls1 := [jR 772, jI v1]) (st1 := [jI (-1), jI (μ 793 v1.toNat)]) rfl ?_
  refine L_nb (p1 := 33) (p2 := 10) (c387 7 rfl) rfl jc_ne h (fun h => ?_) (fun h => ?_)
  · refine L_ps c387 (n := 1) (pc1 := 11) (ls1 := [jR 772, jI v1]) (st1 := [jR 772]) rfl ?_
    refine L_getP (d := 21) (c387 11 rfl) hM rt772 rfl ?_
    refine L_ps c387 (n := 3) (pc1 := 18) (ls1 := [jR 772, jI v1]) (st1 := [jR 772, jI 100, jI v1, jR 793]) rfl ?_
    refine L_getI (c387 18 rfl) hM rt772 rfl ?_
    refine L_ps c387 (n := 1) (pc1 := 22) (ls1 := [jR 772, jI v1]) (st1 := [jI (wr (100 + (μ 772 42))), jI v1, jR 793]) rfl ?_
    obtain ⟨hb, h⟩ := h
    refine L_iast (c387 22 rfl) hM rt793 ln793 hb (fun M hM => ?_)
    refine L_ps c387 (n := 2) (pc1 := 25) (ls1 := [jR 772, jI v1]) (st1 := [jR 772, jR 772]) rfl ?_
    refine L_getI (c387 25 rfl) hM rt772 rfl ?_
    refine L_ps c387 (n := 2) (pc1 := 30) (ls1 := [jR 772, jI v1]) (st1 := [jI (wr (((mup μ 793 v1.toNat (wr (100 + (μ 772 42)))) 772 42) + 1)), jR 772]) rfl ?_
    refine L_putI (c387 30 rfl) hM rt772 rfl (fun M hM => ?_)
    exact k_Md_nameOf_j33 hM hQ h
  · exact k_Md_nameOf_j33 hM hQ h
theorem k_Md_keepsTerm_j63 {E : JE2} {v1 : Int} {v2 : Int} {t1 : Int} {t2 : Int} {μ : Mem} {M : JM} {P : JO → JM → Prop} {W12 : Int → Mem → Prop} {Q : Mem → Prop} (hM : Rl E M μ) (hQ : ∀ (M1 : JM) (μ1 : Mem), Rl E M1 μ1 → Q μ1 → P (.inl none) M1) (hW12 : ∀ (v2 : Int) (M1 : JM) (μ1 : Mem), Rl E M1 μ1 → W12 v2 μ1 → JX 386 12 [jR 772, jI v1, jI v2] [] M1 P) (h : d_Md_keepsTerm_j63 v1 v2 t1 t2 μ W12 Q) : JX 386 63 [jR 772, jI v1, jI v2] [jI t2, jI t1, jR 792] M P := by
  unfold d_Md_keepsTerm_j63 at h
  obtain ⟨hb, h⟩ := h
  refine L_iast (c386 63 rfl) hM rt792 ln792 hb (fun M hM => ?_)
  refine L_ps c386 (n := 2) (pc1 := 12) (ls1 := [jR 772, jI v1, jI (wr (v2 + 1))]) (st1 := []) rfl ?_
  exact hW12 _ _ _ hM h
theorem k_Md_keepsTerm_b12 {E : JE2} {v1 : Int} {v2 : Int} {μ : Mem} {M : JM} {P : JO → JM → Prop} {W12 : Int → Mem → Prop} {Q : Mem → Prop} (hM : Rl E M μ) (hQ : ∀ (M1 : JM) (μ1 : Mem), Rl E M1 μ1 → Q μ1 → P (.inl none) M1) (hW12 : ∀ (v2 : Int) (M1 : JM) (μ1 : Mem), Rl E M1 μ1 → W12 v2 μ1 → JX 386 12 [jR 772, jI v1, jI v2] [] M1 P) (h : d_Md_keepsTerm_b12 v1 v2 μ W12 Q) : JX 386 12 [jR 772, jI v1, jI v2] [] M P := by
  unfold d_Md_keepsTerm_b12 at h
  refine L_ps c386 (n := 2) (pc1 := 14) (ls1 := [jR 772, jI v1, jI v2]) (st1 := [jR 772, jI v2]) rfl ?_
  refine L_getI (c386 14 rfl) hM rt772 rfl ?_
  refine L_nb (p1 := 70) (p2 := 20) (c386 17 rfl) rfl jc_ge h (fun h => ?_) (fun h => ?_)
  · refine L_ps c386 (n := 1) (pc1 := 21) (ls1 := [jR 772, jI v1, jI v2]) (st1 := [jR 772]) rfl ?_
    refine L_getP (d := 20) (c386 21 rfl) hM rt772 rfl ?_
    refine L_ps c386 (n := 6) (pc1 := 31) (ls1 := [jR 772, jI v1, jI v2]) (st1 := [jR 772, jI (wr ((wr (v1 * 80)) + v2)), jR 792]) rfl ?_
    refine L_getP (d := 9) (c386 31 rfl) hM rt772 rfl ?_
    refine L_ps c386 (n := 1) (pc1 := 35) (ls1 := [jR 772, jI v1, jI v2]) (st1 := [jI v2, jR 781, jI (wr ((wr (v1 * 80)) + v2)), jR 792]) rfl ?_
    obtain ⟨hb, h⟩ := h
    refine L_iald (c386 35 rfl) hM rt781 ln781 hb ?_
    refine L_ps c386 (n := 1) (pc1 := 38) (ls1 := [jR 772, jI v1, jI v2]) (st1 := [jI 100, jI (μ 781 v2.toNat), jI (wr ((wr (v1 * 80)) + v2)), jR 792]) rfl ?_
    refine L_nb (p1 := 50) (p2 := 41) (c386 38 rfl) rfl jc_ge h (fun h => ?_) (fun h => ?_)
    · refine L_ps c386 (n := 1) (pc1 := 42) (ls1 := [jR 772, jI v1, jI v2]) (st1 := [jR 772, jI (wr ((wr (v1 * 80)) + v2)), jR 792]) rfl ?_
      refine L_getP (d := 9) (c386 42 rfl) hM rt772 rfl ?_
      refine L_ps c386 (n := 1) (pc1 := 46) (ls1 := [jR 772, jI v1, jI v2]) (st1 := [jI v2, jR 781, jI (wr ((wr (v1 * 80)) + v2)), jR 792]) rfl ?_
      obtain ⟨hb, h⟩ := h
      refine L_iald (c386 46 rfl) hM rt781 ln781 hb ?_
      refine L_ps c386 (n := 1) (pc1 := 63) (ls1 := [jR 772, jI v1, jI v2]) (st1 := [jI (μ 781 v2.toNat), jI (wr ((wr (v1 * 80)) + v2)), jR 792]) rfl ?_
      exact k_Md_keepsTerm_j63 hM hQ hW12 h
    · refine L_ps c386 (n := 2) (pc1 := 52) (ls1 := [jR 772, jI v1, jI v2]) (st1 := [jR 772, jR 772, jI (wr ((wr (v1 * 80)) + v2)), jR 792]) rfl ?_
      refine L_getP (d := 9) (c386 52 rfl) hM rt772 rfl ?_
      refine L_ps c386 (n := 1) (pc1 := 56) (ls1 := [jR 772, jI v1, jI v2]) (st1 := [jI v2, jR 781, jR 772, jI (wr ((wr (v1 * 80)) + v2)), jR 792]) rfl ?_
      obtain ⟨hb, h⟩ := h
      refine L_iald (c386 56 rfl) hM rt781 ln781 hb ?_
      refine L_ps c386 (n := 2) (pc1 := 60) (ls1 := [jR 772, jI v1, jI v2]) (st1 := [jI (wr ((μ 781 v2.toNat) - 100)), jR 772, jI (wr ((wr (v1 * 80)) + v2)), jR 792]) rfl ?_
      refine L_cI (c386 60 rfl) (js_v rfl ((Rl_tag hM rt772 (by decide)).trans js387)) hh386 (k_Md_nameOf hM h) (fun r1 M μ2 hM h => ?_) (fun _ _ _ _ f => f.elim)
      exact k_Md_keepsTerm_j63 hM hQ hW12 h
  · exact L_end (c386 70 rfl) rfl (hQ _ _ hM h)
theorem k_Md_keepsTerm_l12 {E : JE2} {v1 : Int} {v2 : Int} {μ : Mem} {M : JM} {P : JO → JM → Prop} {Q : Mem → Prop} (hM : Rl E M μ) (hQ : ∀ (M1 : JM) (μ1 : Mem), Rl E M1 μ1 → Q μ1 → P (.inl none) M1) (h : d_Md_keepsTerm_l12 v1 v2 μ Q) : JX 386 12 [jR 772, jI v1, jI v2] [] M P := by
  refine h (fun v2 μ => ∀ (M : JM), Rl E M μ → JX 386 12 [jR 772, jI v1, jI v2] [] M P) ?_ _ hM
  intro v2 μ h M hM
  exact k_Md_keepsTerm_b12 hM hQ (fun v2 M μ hM h => h M hM) h
theorem k_Md_keepsTerm {E : JE2} {v1 : Int} {μ : Mem} {M : JM} {Q : Mem → Prop} (hM : Rl E M μ) (h : d_Md_keepsTerm v1 μ Q) : JX 386 0 (jargs 386 [jR 772, jI v1]) [] M (PO E (QV Q) XN) := by
  unfold d_Md_keepsTerm at h
  show JX 386 0 [jR 772, jI v1, jU] [] M (PO E (QV Q) XN)
  generalize hP : PO E (QV Q) XN = P
  have hQ : ∀ (M1 : JM) (μ1 : Mem), Rl E M1 μ1 → Q μ1 → P (.inl none) M1 := by rw [← hP]; exact fun M1 μ1 a b => ⟨μ1, a, rfl, b⟩
  clear hP
  refine L_ps c386 (n := 1) (pc1 := 1) (ls1 := [jR 772, jI v1, jU]) (st1 := [jR 772]) rfl ?_
  refine L_getP (d := 19) (c386 1 rfl) hM rt772 rfl ?_
  refine L_ps c386 (n := 2) (pc1 := 6) (ls1 := [jR 772, jI v1, jU]) (st1 := [jR 772, jI v1, jR 791]) rfl ?_
  refine L_getI (c386 6 rfl) hM rt772 rfl ?_
  obtain ⟨hb, h⟩ := h
  refine L_iast (c386 9 rfl) hM rt791 ln791 hb (fun M hM => ?_)
  refine L_ps c386 (n := 2) (pc1 := 12) (ls1 := [jR 772, jI v1, jI 0]) (st1 := []) rfl ?_
  exact k_Md_keepsTerm_l12 hM hQ h
theorem k_Md_buildsSecond_j86 {E : JE2} {v1 : Int} {v2 : Int} {v3 : Int} {v4 : Int} {v5 : Int} {μ : Mem} {M : JM} {P : JO → JM → Prop} {W8 : Int → Mem → Prop} {Q : Mem → Prop} (hM : Rl E M μ) (hQ : ∀ (M1 : JM) (μ1 : Mem), Rl E M1 μ1 → Q μ1 → P (.inl none) M1) (hW8 : ∀ (v5 : Int) (M1 : JM) (μ1 : Mem), Rl E M1 μ1 → W8 v5 μ1 → JX 388 8 [jR 772, jI v1, jI v2, jI v3, jI v4, jI v5] [] M1 P) (h : d_Md_buildsSecond_j86 v1 v2 v3 v4 v5 μ W8 Q) : JX 388 86 [jR 772, jI v1, jI v2, jI v3, jI v4, jI v5] [] M P := by
  unfold d_Md_buildsSecond_j86 at h
  refine L_ps c388 (n := 2) (pc1 := 8) (ls1 := [jR 772, jI v1, jI v2, jI v3, jI v4, jI (wr (v5 + 1))]) (st1 := []) rfl ?_
  exact hW8 _ _ _ hM h
theorem k_Md_buildsSecond_b8 {E : JE2} {v1 : Int} {v2 : Int} {v3 : Int} {v4 : Int} {v5 : Int} {μ : Mem} {M : JM} {P : JO → JM → Prop} {W8 : Int → Mem → Prop} {Q : Mem → Prop} (hM : Rl E M μ) (hQ : ∀ (M1 : JM) (μ1 : Mem), Rl E M1 μ1 → Q μ1 → P (.inl none) M1) (hW8 : ∀ (v5 : Int) (M1 : JM) (μ1 : Mem), Rl E M1 μ1 → W8 v5 μ1 → JX 388 8 [jR 772, jI v1, jI v2, jI v3, jI v4, jI v5] [] M1 P) (h : d_Md_buildsSecond_b8 v1 v2 v3 v4 v5 μ W8 Q) : JX 388 8 [jR 772, jI v1, jI v2, jI v3, jI v4, jI v5] [] M P := by
  unfold d_Md_buildsSecond_b8 at h
  refine L_ps c388 (n := 4) (pc1 := 13) (ls1 := [jR 772, jI v1, jI v2, jI v3, jI v4, jI v5]) (st1 := [jI (wr (v1 + v2)), jI v5]) rfl ?_
  refine L_nb (p1 := 92) (p2 := 16) (c388 13 rfl) rfl jc_ge h (fun h => ?_) (fun h => ?_)
  · refine L_ps c388 (n := 1) (pc1 := 17) (ls1 := [jR 772, jI v1, jI v2, jI v3, jI v4, jI v5]) (st1 := [jR 772]) rfl ?_
    refine L_getI (c388 17 rfl) hM rt772 rfl ?_
    refine L_ps c388 (n := 1) (pc1 := 22) (ls1 := [jR 772, jI v1, jI v2, jI v3, jI v4, jI v5]) (st1 := [jI 80, jI (μ 772 26)]) rfl ?_
    refine L_br (p1 := 92) (p2 := 25) (c388 22 rfl) rfl jc_gt h (fun h => ?_) (fun h => ?_)
    · exact L_end (c388 92 rfl) rfl (hQ _ _ hM h)
    · refine L_ps c388 (n := 4) (pc1 := 30) (ls1 := [jR 772, jI v1, jI v2, jI v3, jI v4, jI v5]) (st1 := [jI (wr (v1 + v3)), jI v5]) rfl ?_
      refine L_nb (p1 := 54) (p2 := 33) (c388 30 rfl) rfl jc_ne h (fun h => ?_) (fun h => ?_)
      · refine L_ps c388 (n := 2) (pc1 := 36) (ls1 := [jR 772, jI v1, jI v2, jI v3, jI v4, jI v5]) (st1 := [jI v4, jR 772]) rfl ?_
        refine L_cV (c388 36 rfl) (js_v rfl ((Rl_tag hM rt772 (by decide)).trans js382)) hh388 (k_Md_buildsMeaning hM h) (fun M μ2 hM h => ?_) (fun _ _ _ _ f => f.elim)
        refine L_ps c388 (n := 2) (pc1 := 41) (ls1 := [jR 772, jI v1, jI v2, jI v3, jI v4, jI v5]) (st1 := [jR 772, jR 772]) rfl ?_
        refine L_getP (d := 12) (c388 41 rfl) hM rt772 rfl ?_
        refine L_ps c388 (n := 1) (pc1 := 46) (ls1 := [jR 772, jI v1, jI v2, jI v3, jI v4, jI v5]) (st1 := [jI v5, jR 784, jR 772]) rfl ?_
        refine L_cpI (c388 46 rfl) (js_v rfl ((Rl_tag hM rt772 (by decide)).trans js311)) hh388 (k_Md_behind rt784 hM h) (fun r3 M hM h => ?_) (fun _ _ _ _ f => f.elim)
        refine L_ps c388 (n := 2) (pc1 := 8) (ls1 := [jR 772, jI v1, jI v2, jI v3, jI v4, jI r3]) (st1 := []) rfl ?_
        exact hW8 _ _ _ hM h
      · refine L_ps c388 (n := 1) (pc1 := 55) (ls1 := [jR 772, jI v1, jI v2, jI v3, jI v4, jI v5]) (st1 := [jR 772]) rfl ?_
        refine L_getP (d := 12) (c388 55 rfl) hM rt772 rfl ?_
        refine L_ps c388 (n := 1) (pc1 := 60) (ls1 := [jR 772, jI v1, jI v2, jI v3, jI v4, jI v5]) (st1 := [jI v5, jR 784]) rfl ?_
        obtain ⟨hb, h⟩ := h
        refine L_iald (c388 60 rfl) hM rt784 ln784 hb ?_
        refine L_ps c388 (n := 1) (pc1 := 63) (ls1 := [jR 772, jI v1, jI v2, jI v3, jI v4, jI v5]) (st1 := [jI 100, jI (μ 784 v5.toNat)]) rfl ?_
        refine L_br (p1 := 75) (p2 := 66) (c388 63 rfl) rfl jc_lt h (fun h => ?_) (fun h => ?_)
        · refine L_ps c388 (n := 2) (pc1 := 77) (ls1 := [jR 772, jI v1, jI v2, jI v3, jI v4, jI v5]) (st1 := [jR 772, jR 772]) rfl ?_
          refine L_getP (d := 12) (c388 77 rfl) hM rt772 rfl ?_
          refine L_ps c388 (n := 1) (pc1 := 82) (ls1 := [jR 772, jI v1, jI v2, jI v3, jI v4, jI v5]) (st1 := [jI v5, jR 784, jR 772]) rfl ?_
          obtain ⟨hb, h⟩ := h
          refine L_iald (c388 82 rfl) hM rt784 ln784 hb ?_
          refine L_cV (c388 83 rfl) (js_v rfl ((Rl_tag hM rt772 (by decide)).trans js317)) hh388 (k_Md_builds hM h) (fun M μ6 hM h => ?_) (fun _ _ _ _ f => f.elim)
          exact k_Md_buildsSecond_j86 hM hQ hW8 h
        · refine L_ps c388 (n := 2) (pc1 := 69) (ls1 := [jR 772, jI v1, jI v2, jI v3, jI v4, jI v5]) (st1 := [jI v5, jR 772]) rfl ?_
          refine L_cV (c388 69 rfl) (js_v rfl ((Rl_tag hM rt772 (by decide)).trans js382)) hh388 (k_Md_buildsMeaning hM h) (fun M μ8 hM h => ?_) (fun _ _ _ _ f => f.elim)
          refine L_ps c388 (n := 1) (pc1 := 86) (ls1 := [jR 772, jI v1, jI v2, jI v3, jI v4, jI v5]) (st1 := []) rfl ?_
          exact k_Md_buildsSecond_j86 hM hQ hW8 h
  · exact L_end (c388 92 rfl) rfl (hQ _ _ hM h)
theorem k_Md_buildsSecond_l8 {E : JE2} {v1 : Int} {v2 : Int} {v3 : Int} {v4 : Int} {v5 : Int} {μ : Mem} {M : JM} {P : JO → JM → Prop} {Q : Mem → Prop} (hM : Rl E M μ) (hQ : ∀ (M1 : JM) (μ1 : Mem), Rl E M1 μ1 → Q μ1 → P (.inl none) M1) (h : d_Md_buildsSecond_l8 v1 v2 v3 v4 v5 μ Q) : JX 388 8 [jR 772, jI v1, jI v2, jI v3, jI v4, jI v5] [] M P := by
  refine h (fun v5 μ => ∀ (M : JM), Rl E M μ → JX 388 8 [jR 772, jI v1, jI v2, jI v3, jI v4, jI v5] [] M P) ?_ _ hM
  intro v5 μ h M hM
  exact k_Md_buildsSecond_b8 hM hQ (fun v5 M μ hM h => h M hM) h
theorem k_Md_buildsSecond {E : JE2} {v1 : Int} {v2 : Int} {v3 : Int} {v4 : Int} {μ : Mem} {M : JM} {Q : Mem → Prop} (hM : Rl E M μ) (h : d_Md_buildsSecond v1 v2 v3 v4 μ Q) : JX 388 0 (jargs 388 [jR 772, jI v1, jI v2, jI v3, jI v4]) [] M (PO E (QV Q) XN) := by
  unfold d_Md_buildsSecond at h
  show JX 388 0 [jR 772, jI v1, jI v2, jI v3, jI v4, jU] [] M (PO E (QV Q) XN)
  generalize hP : PO E (QV Q) XN = P
  have hQ : ∀ (M1 : JM) (μ1 : Mem), Rl E M1 μ1 → Q μ1 → P (.inl none) M1 := by rw [← hP]; exact fun M1 μ1 a b => ⟨μ1, a, rfl, b⟩
  clear hP
  refine L_ps c388 (n := 2) (pc1 := 2) (ls1 := [jR 772, jI v1, jI v2, jI v3, jI v4, jU]) (st1 := [jI 0, jR 772]) rfl ?_
  refine L_putI (c388 2 rfl) hM rt772 rfl (fun M hM => ?_)
  refine L_ps c388 (n := 2) (pc1 := 8) (ls1 := [jR 772, jI v1, jI v2, jI v3, jI v4, jI v1]) (st1 := []) rfl ?_
  exact k_Md_buildsSecond_l8 hM hQ h
theorem k_Md_findsPair_b109 {E : JE2} {v1 : Int} {v2 : Int} {v3 : Int} {v6 : Int} {v8 : Int} {v9 : Int} {v10 : Int} {μ : Mem} {M : JM} {P : JO → JM → Prop} {g4 : JV} {g5 : JV} {g7 : JV} {W109 : Int → Mem → Prop} {Q : Mem → Prop} (hg4 : jc2 g4 = false) (hg5 : jc2 g5 = false) (hg7 : jc2 g7 = false) (hM : Rl E M μ) (hQ : ∀ (M1 : JM) (μ1 : Mem), Rl E M1 μ1 → Q μ1 → P (.inl none) M1) (hW109 : ∀ (v10 : Int) (g4 : JV) (g5 : JV) (g7 : JV) (M1 : JM) (μ1 : Mem), jc2 g4 = false → jc2 g5 = false → jc2 g7 = false → Rl E M1 μ1 → W109 v10 μ1 → JX 385 109 [jR 772, jI v1, jI v2, jI v3, g4, g5, jI v6, g7, jI v8, jI v9, jI v10] [] M1 P) (h : d_Md_findsPair_b109 v1 v2 v3 v6 v8 v9 v10 μ W109 Q) : JX 385 109 [jR 772, jI v1, jI v2, jI v3, g4, g5, jI v6, g7, jI v8, jI v9, jI v10] [] M P := by
  unfold d_Md_findsPair_b109 at h
  refine L_ps c385 (n := 2) (pc1 := 113) (ls1 := [jR 772, jI v1, jI v2, jI v3, g4, g5, jI v6, g7, jI v8, jI v9, jI v10]) (st1 := [jI 16, jI v10]) rfl ?_
  refine L_nb (p1 := 130) (p2 := 116) (c385 113 rfl) rfl jc_ge h (fun h => ?_) (fun h => ?_)
  · refine L_ps c385 (n := 1) (pc1 := 117) (ls1 := [jR 772, jI v1, jI v2, jI v3, g4, g5, jI v6, g7, jI v8, jI v9, jI v10]) (st1 := [jR 772]) rfl ?_
    refine L_getP (d := 21) (c385 117 rfl) hM rt772 rfl ?_
    refine L_ps c385 (n := 2) (pc1 := 123) (ls1 := [jR 772, jI v1, jI v2, jI v3, g4, g5, jI v6, g7, jI v8, jI v9, jI v10]) (st1 := [jI (-1), jI v10, jR 793]) rfl ?_
    obtain ⟨hb, h⟩ := h
    refine L_iast (c385 123 rfl) hM rt793 ln793 hb (fun M hM => ?_)
    refine L_ps c385 (n := 2) (pc1 := 109) (ls1 := [jR 772, jI v1, jI v2, jI v3, g4, g5, jI v6, g7, jI v8, jI v9, jI (wr (v10 + 1))]) (st1 := []) rfl ?_
    exact hW109 _ _ _ _ _ _ hg4 hg5 hg7 hM h
  · refine L_ps c385 (n := 2) (pc1 := 132) (ls1 := [jR 772, jI v1, jI v2, jI v3, g4, g5, jI v6, g7, jI v8, jI v9, jI v10]) (st1 := [jI 0, jR 772]) rfl ?_
    refine L_putI (c385 132 rfl) hM rt772 rfl (fun M hM => ?_)
    refine L_ps c385 (n := 2) (pc1 := 137) (ls1 := [jR 772, jI v1, jI v2, jI v3, g4, g5, jI v6, g7, jI v8, jI v9, jI v10]) (st1 := [jI 0, jR 772]) rfl ?_
    refine L_putI (c385 137 rfl) hM rt772 rfl (fun M hM => ?_)
    refine L_ps c385 (n := 2) (pc1 := 143) (ls1 := [jR 772, jI v1, jI v2, jI v3, g4, g5, jI v6, g7, jI v8, jI v9, jI v10]) (st1 := [jI v8, jR 772]) rfl ?_
    refine L_cV (c385 143 rfl) (js_v rfl ((Rl_tag hM rt772 (by decide)).trans js382)) hh385 (k_Md_buildsMeaning hM h) (fun M μ22 hM h => ?_) (fun _ _ _ _ f => f.elim)
    refine L_ps c385 (n := 1) (pc1 := 147) (ls1 := [jR 772, jI v1, jI v2, jI v3, g4, g5, jI v6, g7, jI v8, jI v9, jI v10]) (st1 := [jR 772]) rfl ?_
    refine L_getI (c385 147 rfl) hM rt772 rfl ?_
    refine L_ps c385 (n := 1) (pc1 := 152) (ls1 := [jR 772, jI v1, jI v2, jI v3, g4, g5, jI v6, g7, jI v8, jI v9, jI v10]) (st1 := [jI 80, jI (μ22 772 26)]) rfl ?_
    refine L_nb (p1 := 156) (p2 := 155) (c385 152 rfl) rfl jc_le h (fun h => ?_) (fun h => ?_)
    · exact L_end (c385 155 rfl) rfl (hQ _ _ hM h)
    · refine L_ps c385 (n := 3) (pc1 := 159) (ls1 := [jR 772, jI v1, jI v2, jI v3, g4, g5, jI v6, g7, jI v8, jI v9, jI v10]) (st1 := [jR 772, jI 2, jR 772]) rfl ?_
      refine L_getI (c385 159 rfl) hM rt772 rfl ?_
      refine L_ps c385 (n := 1) (pc1 := 163) (ls1 := [jR 772, jI v1, jI v2, jI v3, g4, g5, jI v6, g7, jI v8, jI v9, jI v10]) (st1 := [jI (wr (2 * (μ22 772 41))), jR 772]) rfl ?_
      refine L_cV (c385 163 rfl) (js_v rfl ((Rl_tag hM rt772 (by decide)).trans js386)) hh385 (k_Md_keepsTerm hM h) (fun M μ24 hM h => ?_) (fun _ _ _ _ f => f.elim)
      refine L_ps c385 (n := 5) (pc1 := 172) (ls1 := [jR 772, jI v1, jI v2, jI v3, g4, g5, jI v6, g7, jI v8, jI v9, jI v10]) (st1 := [jI 0, jI v1, jR 772, jI v6, jR 772]) rfl ?_
      refine L_cpI (c385 172 rfl) (js_v rfl ((Rl_tag hM rt772 (by decide)).trans js298)) hh385 (k_Md_ofRule hM h) (fun r25 M hM h => ?_) (fun _ _ _ _ f => f.elim)
      refine L_ps c385 (n := 2) (pc1 := 178) (ls1 := [jR 772, jI v1, jI v2, jI v3, g4, g5, jI v6, g7, jI v8, jI v9, jI v10]) (st1 := [jI v9, jI v3, jI r25, jI v6, jR 772]) rfl ?_
      refine L_cV (c385 178 rfl) (js_v rfl ((Rl_tag hM rt772 (by decide)).trans js388)) hh385 (k_Md_buildsSecond hM h) (fun M μ28 hM h => ?_) (fun _ _ _ _ f => f.elim)
      refine L_ps c385 (n := 1) (pc1 := 182) (ls1 := [jR 772, jI v1, jI v2, jI v3, g4, g5, jI v6, g7, jI v8, jI v9, jI v10]) (st1 := [jR 772]) rfl ?_
      refine L_getI (c385 182 rfl) hM rt772 rfl ?_
      refine L_ps c385 (n := 1) (pc1 := 187) (ls1 := [jR 772, jI v1, jI v2, jI v3, g4, g5, jI v6, g7, jI v8, jI v9, jI v10]) (st1 := [jI 80, jI (μ28 772 26)]) rfl ?_
      refine L_nb (p1 := 191) (p2 := 190) (c385 187 rfl) rfl jc_le h (fun h => ?_) (fun h => ?_)
      · exact L_end (c385 190 rfl) rfl (hQ _ _ hM h)
      · refine L_ps c385 (n := 3) (pc1 := 194) (ls1 := [jR 772, jI v1, jI v2, jI v3, g4, g5, jI v6, g7, jI v8, jI v9, jI v10]) (st1 := [jR 772, jI 2, jR 772]) rfl ?_
        refine L_getI (c385 194 rfl) hM rt772 rfl ?_
        refine L_ps c385 (n := 3) (pc1 := 200) (ls1 := [jR 772, jI v1, jI v2, jI v3, g4, g5, jI v6, g7, jI v8, jI v9, jI v10]) (st1 := [jI (wr ((wr (2 * (μ28 772 41))) + 1)), jR 772]) rfl ?_
        refine L_cV (c385 200 rfl) (js_v rfl ((Rl_tag hM rt772 (by decide)).trans js386)) hh385 (k_Md_keepsTerm hM h) (fun M μ30 hM h => ?_) (fun _ _ _ _ f => f.elim)
        refine L_ps c385 (n := 1) (pc1 := 204) (ls1 := [jR 772, jI v1, jI v2, jI v3, g4, g5, jI v6, g7, jI v8, jI v9, jI v10]) (st1 := [jR 772]) rfl ?_
        refine L_getP (d := 18) (c385 204 rfl) hM rt772 rfl ?_
        refine L_ps c385 (n := 2) (pc1 := 209) (ls1 := [jR 772, jI v1, jI v2, jI v3, g4, g5, jI v6, g7, jI v8, jI v9, jI v10]) (st1 := [jR 772, jI 3, jR 790]) rfl ?_
        refine L_getI (c385 209 rfl) hM rt772 rfl ?_
        refine L_ps c385 (n := 2) (pc1 := 214) (ls1 := [jR 772, jI v1, jI v2, jI v3, g4, g5, jI v6, g7, jI v8, jI v9, jI v10]) (st1 := [jI v1, jI (wr (3 * (μ30 772 41))), jR 790]) rfl ?_
        obtain ⟨hb, h⟩ := h
        refine L_iast (c385 214 rfl) hM rt790 ln790 hb (fun M hM => ?_)
        refine L_ps c385 (n := 1) (pc1 := 216) (ls1 := [jR 772, jI v1, jI v2, jI v3, g4, g5, jI v6, g7, jI v8, jI v9, jI v10]) (st1 := [jR 772]) rfl ?_
        refine L_getP (d := 18) (c385 216 rfl) hM rt772 rfl ?_
        refine L_ps c385 (n := 2) (pc1 := 221) (ls1 := [jR 772, jI v1, jI v2, jI v3, g4, g5, jI v6, g7, jI v8, jI v9, jI v10]) (st1 := [jR 772, jI 3, jR 790]) rfl ?_
        refine L_getI (c385 221 rfl) hM rt772 rfl ?_
        refine L_ps c385 (n := 4) (pc1 := 228) (ls1 := [jR 772, jI v1, jI v2, jI v3, g4, g5, jI v6, g7, jI v8, jI v9, jI v10]) (st1 := [jI v2, jI (wr ((wr (3 * ((mup μ30 790 (wr (3 * (μ30 772 41))).toNat v1) 772 41))) + 1)), jR 790]) rfl ?_
        obtain ⟨hb, h⟩ := h
        refine L_iast (c385 228 rfl) hM rt790 ln790 hb (fun M hM => ?_)
        refine L_ps c385 (n := 1) (pc1 := 230) (ls1 := [jR 772, jI v1, jI v2, jI v3, g4, g5, jI v6, g7, jI v8, jI v9, jI v10]) (st1 := [jR 772]) rfl ?_
        refine L_getP (d := 18) (c385 230 rfl) hM rt772 rfl ?_
        refine L_ps c385 (n := 2) (pc1 := 235) (ls1 := [jR 772, jI v1, jI v2, jI v3, g4, g5, jI v6, g7, jI v8, jI v9, jI v10]) (st1 := [jR 772, jI 3, jR 790]) rfl ?_
        refine L_getI (c385 235 rfl) hM rt772 rfl ?_
        refine L_ps c385 (n := 4) (pc1 := 242) (ls1 := [jR 772, jI v1, jI v2, jI v3, g4, g5, jI v6, g7, jI v8, jI v9, jI v10]) (st1 := [jI v3, jI (wr ((wr (3 * ((mup (mup μ30 790 (wr (3 * (μ30 772 41))).toNat v1) 790 (wr ((wr (3 * ((mup μ30 790 (wr (3 * (μ30 772 41))).toNat v1) 772 41))) + 1)).toNat v2) 772 41))) + 2)), jR 790]) rfl ?_
        obtain ⟨hb, h⟩ := h
        refine L_iast (c385 242 rfl) hM rt790 ln790 hb (fun M hM => ?_)
        refine L_ps c385 (n := 2) (pc1 := 245) (ls1 := [jR 772, jI v1, jI v2, jI v3, g4, g5, jI v6, g7, jI v8, jI v9, jI v10]) (st1 := [jR 772, jR 772]) rfl ?_
        refine L_getI (c385 245 rfl) hM rt772 rfl ?_
        refine L_ps c385 (n := 2) (pc1 := 250) (ls1 := [jR 772, jI v1, jI v2, jI v3, g4, g5, jI v6, g7, jI v8, jI v9, jI v10]) (st1 := [jI (wr (((mup (mup (mup μ30 790 (wr (3 * (μ30 772 41))).toNat v1) 790 (wr ((wr (3 * ((mup μ30 790 (wr (3 * (μ30 772 41))).toNat v1) 772 41))) + 1)).toNat v2) 790 (wr ((wr (3 * ((mup (mup μ30 790 (wr (3 * (μ30 772 41))).toNat v1) 790 (wr ((wr (3 * ((mup μ30 790 (wr (3 * (μ30 772 41))).toNat v1) 772 41))) + 1)).toNat v2) 772 41))) + 2)).toNat v3) 772 41) + 1)), jR 772]) rfl ?_
        refine L_putI (c385 250 rfl) hM rt772 rfl (fun M hM => ?_)
        exact L_end (c385 253 rfl) rfl (hQ _ _ hM h)
theorem k_Md_findsPair_l109 {E : JE2} {v1 : Int} {v2 : Int} {v3 : Int} {v6 : Int} {v8 : Int} {v9 : Int} {v10 : Int} {μ : Mem} {M : JM} {P : JO → JM → Prop} {g4 : JV} {g5 : JV} {g7 : JV} {Q : Mem → Prop} (hg4 : jc2 g4 = false) (hg5 : jc2 g5 = false) (hg7 : jc2 g7 = false) (hM : Rl E M μ) (hQ : ∀ (M1 : JM) (μ1 : Mem), Rl E M1 μ1 → Q μ1 → P (.inl none) M1) (h : d_Md_findsPair_l109 v1 v2 v3 v6 v8 v9 v10 μ Q) : JX 385 109 [jR 772, jI v1, jI v2, jI v3, g4, g5, jI v6, g7, jI v8, jI v9, jI v10] [] M P := by
  refine h (fun v10 μ => ∀ (g4 : JV) (g5 : JV) (g7 : JV) (M : JM), jc2 g4 = false → jc2 g5 = false → jc2 g7 = false → Rl E M μ → JX 385 109 [jR 772, jI v1, jI v2, jI v3, g4, g5, jI v6, g7, jI v8, jI v9, jI v10] [] M P) ?_ _ _ _ _ hg4 hg5 hg7 hM
  intro v10 μ h g4 g5 g7 M hg4 hg5 hg7 hM
  exact k_Md_findsPair_b109 hg4 hg5 hg7 hM hQ (fun v10 g4 g5 g7 M μ hg4 hg5 hg7 hM h => h g4 g5 g7 M hg4 hg5 hg7 hM) h
theorem k_Md_findsPair {E : JE2} {v1 : Int} {v2 : Int} {v3 : Int} {μ : Mem} {M : JM} {Q : Mem → Prop} (hM : Rl E M μ) (h : d_Md_findsPair v1 v2 v3 μ Q) : JX 385 0 (jargs 385 [jR 772, jI v1, jI v2, jI v3]) [] M (PO E (QV Q) XN) := by
  unfold d_Md_findsPair at h
  show JX 385 0 [jR 772, jI v1, jI v2, jI v3, jU, jU, jU, jU, jU, jU, jU] [] M (PO E (QV Q) XN)
  generalize hP : PO E (QV Q) XN = P
  have hQ : ∀ (M1 : JM) (μ1 : Mem), Rl E M1 μ1 → Q μ1 → P (.inl none) M1 := by rw [← hP]; exact fun M1 μ1 a b => ⟨μ1, a, rfl, b⟩
  clear hP
  refine L_ps c385 (n := 1) (pc1 := 1) (ls1 := [jR 772, jI v1, jI v2, jI v3, jU, jU, jU, jU, jU, jU, jU]) (st1 := [jR 772]) rfl ?_
  refine L_cV (c385 1 rfl) (js_v rfl ((Rl_tag hM rt772 (by decide)).trans js372)) hh385 (k_Md_empties hM h) (fun M μ2 hM h => ?_) (fun _ _ _ _ f => f.elim)
  refine L_ps c385 (n := 19) (pc1 := 30) (ls1 := [jR 772, jI v1, jI v2, jI v3, jI (wr (67 + (wr (26 * v1)))), jI (wr (67 + (wr (26 * v2)))), jU, jU, jU, jU, jU]) (st1 := [jI 0, jI v1, jR 772, jI (wr ((wr (67 + (wr (26 * v1)))) + 2)), jR 772]) rfl ?_
  refine L_cpI (c385 30 rfl) (js_v rfl ((Rl_tag hM rt772 (by decide)).trans js298)) hh385 (k_Md_ofRule hM h) (fun r3 M hM h => ?_) (fun _ _ _ _ f => f.elim)
  refine L_ps c385 (n := 1) (pc1 := 34) (ls1 := [jR 772, jI v1, jI v2, jI v3, jI (wr (67 + (wr (26 * v1)))), jI (wr (67 + (wr (26 * v2)))), jU, jU, jU, jU, jU]) (st1 := [jI 0, jI r3, jI (wr ((wr (67 + (wr (26 * v1)))) + 2)), jR 772]) rfl ?_
  refine L_cI (c385 34 rfl) (js_v rfl ((Rl_tag hM rt772 (by decide)).trans js373)) hh385 (k_Md_pools hM h) (fun r5 M μ6 hM h => ?_) (fun _ _ _ _ f => f.elim)
  refine L_ps c385 (n := 8) (pc1 := 47) (ls1 := [jR 772, jI v1, jI v2, jI v3, jI (wr (67 + (wr (26 * v1)))), jI (wr (67 + (wr (26 * v2)))), jI r5, jU, jU, jU, jU]) (st1 := [jI 0, jI v2, jR 772, jI (wr ((wr (67 + (wr (26 * v2)))) + 2)), jR 772]) rfl ?_
  refine L_cpI (c385 47 rfl) (js_v rfl ((Rl_tag hM rt772 (by decide)).trans js298)) hh385 (k_Md_ofRule hM h) (fun r7 M hM h => ?_) (fun _ _ _ _ f => f.elim)
  refine L_ps c385 (n := 1) (pc1 := 51) (ls1 := [jR 772, jI v1, jI v2, jI v3, jI (wr (67 + (wr (26 * v1)))), jI (wr (67 + (wr (26 * v2)))), jI r5, jU, jU, jU, jU]) (st1 := [jI 1, jI r7, jI (wr ((wr (67 + (wr (26 * v2)))) + 2)), jR 772]) rfl ?_
  refine L_cI (c385 51 rfl) (js_v rfl ((Rl_tag hM rt772 (by decide)).trans js373)) hh385 (k_Md_pools hM h) (fun r9 M μ10 hM h => ?_) (fun _ _ _ _ f => f.elim)
  refine L_ps c385 (n := 8) (pc1 := 65) (ls1 := [jR 772, jI v1, jI v2, jI v3, jI (wr (67 + (wr (26 * v1)))), jI (wr (67 + (wr (26 * v2)))), jI r5, jI r9, jU, jU, jU]) (st1 := [jI 1, jI v1, jR 772, jI (wr ((wr (67 + (wr (26 * v1)))) + 14)), jR 772]) rfl ?_
  refine L_cpI (c385 65 rfl) (js_v rfl ((Rl_tag hM rt772 (by decide)).trans js298)) hh385 (k_Md_ofRule hM h) (fun r11 M hM h => ?_) (fun _ _ _ _ f => f.elim)
  refine L_ps c385 (n := 1) (pc1 := 69) (ls1 := [jR 772, jI v1, jI v2, jI v3, jI (wr (67 + (wr (26 * v1)))), jI (wr (67 + (wr (26 * v2)))), jI r5, jI r9, jU, jU, jU]) (st1 := [jI 0, jI r11, jI (wr ((wr (67 + (wr (26 * v1)))) + 14)), jR 772]) rfl ?_
  refine L_cI (c385 69 rfl) (js_v rfl ((Rl_tag hM rt772 (by decide)).trans js373)) hh385 (k_Md_pools hM h) (fun r13 M μ14 hM h => ?_) (fun _ _ _ _ f => f.elim)
  refine L_ps c385 (n := 8) (pc1 := 83) (ls1 := [jR 772, jI v1, jI v2, jI v3, jI (wr (67 + (wr (26 * v1)))), jI (wr (67 + (wr (26 * v2)))), jI r5, jI r9, jI r13, jU, jU]) (st1 := [jI 1, jI v2, jR 772, jI (wr ((wr (67 + (wr (26 * v2)))) + 14)), jR 772]) rfl ?_
  refine L_cpI (c385 83 rfl) (js_v rfl ((Rl_tag hM rt772 (by decide)).trans js298)) hh385 (k_Md_ofRule hM h) (fun r15 M hM h => ?_) (fun _ _ _ _ f => f.elim)
  refine L_ps c385 (n := 1) (pc1 := 87) (ls1 := [jR 772, jI v1, jI v2, jI v3, jI (wr (67 + (wr (26 * v1)))), jI (wr (67 + (wr (26 * v2)))), jI r5, jI r9, jI r13, jU, jU]) (st1 := [jI 1, jI r15, jI (wr ((wr (67 + (wr (26 * v2)))) + 14)), jR 772]) rfl ?_
  refine L_cI (c385 87 rfl) (js_v rfl ((Rl_tag hM rt772 (by decide)).trans js373)) hh385 (k_Md_pools hM h) (fun r17 M μ18 hM h => ?_) (fun _ _ _ _ f => f.elim)
  refine L_ps c385 (n := 6) (pc1 := 99) (ls1 := [jR 772, jI v1, jI v2, jI v3, jI (wr (67 + (wr (26 * v1)))), jI (wr (67 + (wr (26 * v2)))), jI r5, jI r9, jI r13, jI r17, jU]) (st1 := [jI r9, jI (wr (r5 + v3)), jR 772]) rfl ?_
  refine L_cB (c385 99 rfl) (js_v rfl ((Rl_tag hM rt772 (by decide)).trans js374)) hh385 (k_Md_unifies hM h) (fun r19 M μ20 hM h => ?_) (fun _ _ _ _ f => f.elim)
  refine L_br (p1 := 106) (p2 := 105) (c385 102 rfl) rfl jc_neb h (fun h => ?_) (fun h => ?_)
  · refine L_ps c385 (n := 2) (pc1 := 109) (ls1 := [jR 772, jI v1, jI v2, jI v3, jI (wr (67 + (wr (26 * v1)))), jI (wr (67 + (wr (26 * v2)))), jI r5, jI r9, jI r13, jI r17, jI 0]) (st1 := []) rfl ?_
    exact k_Md_findsPair_l109 rfl rfl rfl hM hQ h
  · exact L_end (c385 105 rfl) rfl (hQ _ _ hM h)
theorem k_Md_findsPairs_j79 {E : JE2} {v1 : Int} {v2 : Int} {v3 : Int} {μ : Mem} {M : JM} {P : JO → JM → Prop} {W7 : Int → Mem → Prop} {W19 : Int → Mem → Prop} {W40 : Int → Mem → Prop} {Q : Mem → Prop} (hM : Rl E M μ) (hQ : ∀ (M1 : JM) (μ1 : Mem), Rl E M1 μ1 → Q μ1 → P (.inl none) M1) (hW7 : ∀ (v1 : Int) (g2 : JV) (g3 : JV) (M1 : JM) (μ1 : Mem), jc2 g2 = false → Rl E M1 μ1 → W7 v1 μ1 → JX 384 7 [jR 772, jI v1, g2, g3] [] M1 P) (hW19 : ∀ (v2 : Int) (g3 : JV) (M1 : JM) (μ1 : Mem), Rl E M1 μ1 → W19 v2 μ1 → JX 384 19 [jR 772, jI v1, jI v2, g3] [] M1 P) (hW40 : ∀ (v3 : Int) (M1 : JM) (μ1 : Mem), Rl E M1 μ1 → W40 v3 μ1 → JX 384 40 [jR 772, jI v1, jI v2, jI v3] [] M1 P) (h : d_Md_findsPairs_j79 v1 v2 v3 μ W7 W19 W40 Q) : JX 384 79 [jR 772, jI v1, jI v2, jI v3] [] M P := by
  unfold d_Md_findsPairs_j79 at h
  refine L_ps c384 (n := 2) (pc1 := 40) (ls1 := [jR 772, jI v1, jI v2, jI (wr (v3 + 1))]) (st1 := []) rfl ?_
  exact hW40 _ _ _ hM h
theorem k_Md_findsPairs_b40 {E : JE2} {v1 : Int} {v2 : Int} {v3 : Int} {μ : Mem} {M : JM} {P : JO → JM → Prop} {W7 : Int → Mem → Prop} {W19 : Int → Mem → Prop} {W40 : Int → Mem → Prop} {Q : Mem → Prop} (hM : Rl E M μ) (hQ : ∀ (M1 : JM) (μ1 : Mem), Rl E M1 μ1 → Q μ1 → P (.inl none) M1) (hW7 : ∀ (v1 : Int) (g2 : JV) (g3 : JV) (M1 : JM) (μ1 : Mem), jc2 g2 = false → Rl E M1 μ1 → W7 v1 μ1 → JX 384 7 [jR 772, jI v1, g2, g3] [] M1 P) (hW19 : ∀ (v2 : Int) (g3 : JV) (M1 : JM) (μ1 : Mem), Rl E M1 μ1 → W19 v2 μ1 → JX 384 19 [jR 772, jI v1, jI v2, g3] [] M1 P) (hW40 : ∀ (v3 : Int) (M1 : JM) (μ1 : Mem), Rl E M1 μ1 → W40 v3 μ1 → JX 384 40 [jR 772, jI v1, jI v2, jI v3] [] M1 P) (h : d_Md_findsPairs_b40 v1 v2 v3 μ W7 W19 W40 Q) : JX 384 40 [jR 772, jI v1, jI v2, jI v3] [] M P := by
  unfold d_Md_findsPairs_b40 at h
  refine L_ps c384 (n := 4) (pc1 := 44) (ls1 := [jR 772, jI v1, jI v2, jI v3]) (st1 := [jI 0, jI v1, jR 772, jI v3]) rfl ?_
  refine L_cpI (c384 44 rfl) (js_v rfl ((Rl_tag hM rt772 (by decide)).trans js298)) hh384 (k_Md_ofRule hM h) (fun r1 M hM h => ?_) (fun _ _ _ _ f => f.elim)
  refine L_nb (p1 := 85) (p2 := 50) (c384 47 rfl) rfl jc_ge h (fun h => ?_) (fun h => ?_)
  · refine L_ps c384 (n := 1) (pc1 := 51) (ls1 := [jR 772, jI v1, jI v2, jI v3]) (st1 := [jR 772]) rfl ?_
    refine L_getI (c384 51 rfl) hM rt772 rfl ?_
    refine L_ps c384 (n := 1) (pc1 := 56) (ls1 := [jR 772, jI v1, jI v2, jI v3]) (st1 := [jI 20, jI (μ 772 41)]) rfl ?_
    refine L_nb (p1 := 79) (p2 := 59) (c384 56 rfl) rfl jc_ge h (fun h => ?_) (fun h => ?_)
    · refine L_ps c384 (n := 5) (pc1 := 64) (ls1 := [jR 772, jI v1, jI v2, jI v3]) (st1 := [jI (wr (2 + v3)), jI v1, jR 772]) rfl ?_
      refine L_cpI (c384 64 rfl) (js_v rfl ((Rl_tag hM rt772 (by decide)).trans js298)) hh384 (k_Md_ofRule hM h) (fun r3 M hM h => ?_) (fun _ _ _ _ f => f.elim)
      refine L_ps c384 (n := 1) (pc1 := 69) (ls1 := [jR 772, jI v1, jI v2, jI v3]) (st1 := [jI 100, jI r3]) rfl ?_
      refine L_nb (p1 := 79) (p2 := 72) (c384 69 rfl) rfl jc_ge h (fun h => ?_) (fun h => ?_)
      · refine L_ps c384 (n := 4) (pc1 := 76) (ls1 := [jR 772, jI v1, jI v2, jI v3]) (st1 := [jI v3, jI v2, jI v1, jR 772]) rfl ?_
        refine L_cV (c384 76 rfl) (js_v rfl ((Rl_tag hM rt772 (by decide)).trans js385)) hh384 (k_Md_findsPair hM h) (fun M μ6 hM h => ?_) (fun _ _ _ _ f => f.elim)
        exact k_Md_findsPairs_j79 hM hQ hW7 hW19 hW40 h
      · exact k_Md_findsPairs_j79 hM hQ hW7 hW19 hW40 h
    · exact k_Md_findsPairs_j79 hM hQ hW7 hW19 hW40 h
  · refine L_ps c384 (n := 2) (pc1 := 19) (ls1 := [jR 772, jI v1, jI (wr (v2 + 1)), jI v3]) (st1 := []) rfl ?_
    exact hW19 _ _ _ _ hM h
theorem k_Md_findsPairs_l40 {E : JE2} {v1 : Int} {v2 : Int} {v3 : Int} {μ : Mem} {M : JM} {P : JO → JM → Prop} {W7 : Int → Mem → Prop} {W19 : Int → Mem → Prop} {Q : Mem → Prop} (hM : Rl E M μ) (hQ : ∀ (M1 : JM) (μ1 : Mem), Rl E M1 μ1 → Q μ1 → P (.inl none) M1) (hW7 : ∀ (v1 : Int) (g2 : JV) (g3 : JV) (M1 : JM) (μ1 : Mem), jc2 g2 = false → Rl E M1 μ1 → W7 v1 μ1 → JX 384 7 [jR 772, jI v1, g2, g3] [] M1 P) (hW19 : ∀ (v2 : Int) (g3 : JV) (M1 : JM) (μ1 : Mem), Rl E M1 μ1 → W19 v2 μ1 → JX 384 19 [jR 772, jI v1, jI v2, g3] [] M1 P) (h : d_Md_findsPairs_l40 v1 v2 v3 μ W7 W19 Q) : JX 384 40 [jR 772, jI v1, jI v2, jI v3] [] M P := by
  refine h (fun v3 μ => ∀ (M : JM), Rl E M μ → JX 384 40 [jR 772, jI v1, jI v2, jI v3] [] M P) ?_ _ hM
  intro v3 μ h M hM
  exact k_Md_findsPairs_b40 hM hQ hW7 hW19 (fun v3 M μ hM h => h M hM) h
theorem k_Md_findsPairs_j39 {E : JE2} {v1 : Int} {v2 : Int} {t0 : Int} {μ : Mem} {M : JM} {P : JO → JM → Prop} {g3 : JV} {W7 : Int → Mem → Prop} {W19 : Int → Mem → Prop} {Q : Mem → Prop} (hM : Rl E M μ) (hQ : ∀ (M1 : JM) (μ1 : Mem), Rl E M1 μ1 → Q μ1 → P (.inl none) M1) (hW7 : ∀ (v1 : Int) (g2 : JV) (g3 : JV) (M1 : JM) (μ1 : Mem), jc2 g2 = false → Rl E M1 μ1 → W7 v1 μ1 → JX 384 7 [jR 772, jI v1, g2, g3] [] M1 P) (hW19 : ∀ (v2 : Int) (g3 : JV) (M1 : JM) (μ1 : Mem), Rl E M1 μ1 → W19 v2 μ1 → JX 384 19 [jR 772, jI v1, jI v2, g3] [] M1 P) (h : d_Md_findsPairs_j39 v1 v2 t0 μ W7 W19 Q) : JX 384 39 [jR 772, jI v1, jI v2, g3] [jI t0] M P := by
  unfold d_Md_findsPairs_j39 at h
  refine L_ps c384 (n := 1) (pc1 := 40) (ls1 := [jR 772, jI v1, jI v2, jI t0]) (st1 := []) rfl ?_
  exact k_Md_findsPairs_l40 hM hQ hW7 hW19 h
theorem k_Md_findsPairs_b19 {E : JE2} {v1 : Int} {v2 : Int} {μ : Mem} {M : JM} {P : JO → JM → Prop} {g3 : JV} {W7 : Int → Mem → Prop} {W19 : Int → Mem → Prop} {Q : Mem → Prop} (hM : Rl E M μ) (hQ : ∀ (M1 : JM) (μ1 : Mem), Rl E M1 μ1 → Q μ1 → P (.inl none) M1) (hW7 : ∀ (v1 : Int) (g2 : JV) (g3 : JV) (M1 : JM) (μ1 : Mem), jc2 g2 = false → Rl E M1 μ1 → W7 v1 μ1 → JX 384 7 [jR 772, jI v1, g2, g3] [] M1 P) (hW19 : ∀ (v2 : Int) (g3 : JV) (M1 : JM) (μ1 : Mem), Rl E M1 μ1 → W19 v2 μ1 → JX 384 19 [jR 772, jI v1, jI v2, g3] [] M1 P) (h : d_Md_findsPairs_b19 v1 v2 μ W7 W19 Q) : JX 384 19 [jR 772, jI v1, jI v2, g3] [] M P := by
  unfold d_Md_findsPairs_b19 at h
  refine L_ps c384 (n := 2) (pc1 := 21) (ls1 := [jR 772, jI v1, jI v2, g3]) (st1 := [jR 772, jI v2]) rfl ?_
  refine L_getP (d := 1) (c384 21 rfl) hM rt772 rfl ?_
  refine L_ps c384 (n := 1) (pc1 := 25) (ls1 := [jR 772, jI v1, jI v2, g3]) (st1 := [jI 1, jR 773, jI v2]) rfl ?_
  refine L_iald (c384 25 rfl) hM rt773 ln773 (by decide) ?_
  refine L_nb (p1 := 91) (p2 := 29) (c384 26 rfl) rfl jc_ge h (fun h => ?_) (fun h => ?_)
  · refine L_ps c384 (n := 2) (pc1 := 31) (ls1 := [jR 772, jI v1, jI v2, g3]) (st1 := [jI v2, jI v1]) rfl ?_
    refine L_nb (p1 := 38) (p2 := 34) (c384 31 rfl) rfl jc_ne h (fun h => ?_) (fun h => ?_)
    · refine L_ps c384 (n := 2) (pc1 := 39) (ls1 := [jR 772, jI v1, jI v2, g3]) (st1 := [jI 1]) rfl ?_
      exact k_Md_findsPairs_j39 hM hQ hW7 hW19 h
    · refine L_ps c384 (n := 1) (pc1 := 39) (ls1 := [jR 772, jI v1, jI v2, g3]) (st1 := [jI 0]) rfl ?_
      exact k_Md_findsPairs_j39 hM hQ hW7 hW19 h
  · refine L_ps c384 (n := 2) (pc1 := 7) (ls1 := [jR 772, jI (wr (v1 + 1)), jI v2, g3]) (st1 := []) rfl ?_
    exact hW7 _ _ _ _ _ rfl hM h
theorem k_Md_findsPairs_l19 {E : JE2} {v1 : Int} {v2 : Int} {μ : Mem} {M : JM} {P : JO → JM → Prop} {g3 : JV} {W7 : Int → Mem → Prop} {Q : Mem → Prop} (hM : Rl E M μ) (hQ : ∀ (M1 : JM) (μ1 : Mem), Rl E M1 μ1 → Q μ1 → P (.inl none) M1) (hW7 : ∀ (v1 : Int) (g2 : JV) (g3 : JV) (M1 : JM) (μ1 : Mem), jc2 g2 = false → Rl E M1 μ1 → W7 v1 μ1 → JX 384 7 [jR 772, jI v1, g2, g3] [] M1 P) (h : d_Md_findsPairs_l19 v1 v2 μ W7 Q) : JX 384 19 [jR 772, jI v1, jI v2, g3] [] M P := by
  refine h (fun v2 μ => ∀ (g3 : JV) (M : JM), Rl E M μ → JX 384 19 [jR 772, jI v1, jI v2, g3] [] M P) ?_ _ _ hM
  intro v2 μ h g3 M hM
  exact k_Md_findsPairs_b19 hM hQ hW7 (fun v2 g3 M μ hM h => h g3 M hM) h
theorem k_Md_findsPairs_b7 {E : JE2} {v1 : Int} {μ : Mem} {M : JM} {P : JO → JM → Prop} {g2 : JV} {g3 : JV} {W7 : Int → Mem → Prop} {Q : Mem → Prop} (hg2 : jc2 g2 = false) (hM : Rl E M μ) (hQ : ∀ (M1 : JM) (μ1 : Mem), Rl E M1 μ1 → Q μ1 → P (.inl none) M1) (hW7 : ∀ (v1 : Int) (g2 : JV) (g3 : JV) (M1 : JM) (μ1 : Mem), jc2 g2 = false → Rl E M1 μ1 → W7 v1 μ1 → JX 384 7 [jR 772, jI v1, g2, g3] [] M1 P) (h : d_Md_findsPairs_b7 v1 μ W7 Q) : JX 384 7 [jR 772, jI v1, g2, g3] [] M P := by
  unfold d_Md_findsPairs_b7 at h
  refine L_ps c384 (n := 2) (pc1 := 9) (ls1 := [jR 772, jI v1, g2, g3]) (st1 := [jR 772, jI v1]) rfl ?_
  refine L_getP (d := 1) (c384 9 rfl) hM rt772 rfl ?_
  refine L_ps c384 (n := 1) (pc1 := 13) (ls1 := [jR 772, jI v1, g2, g3]) (st1 := [jI 1, jR 773, jI v1]) rfl ?_
  refine L_iald (c384 13 rfl) hM rt773 ln773 (by decide) ?_
  refine L_nb (p1 := 97) (p2 := 17) (c384 14 rfl) rfl jc_ge h (fun h => ?_) (fun h => ?_)
  · refine L_ps c384 (n := 2) (pc1 := 19) (ls1 := [jR 772, jI v1, jI 0, g3]) (st1 := []) rfl ?_
    exact k_Md_findsPairs_l19 hM hQ hW7 h
  · exact L_end (c384 97 rfl) rfl (hQ _ _ hM h)
theorem k_Md_findsPairs_l7 {E : JE2} {v1 : Int} {μ : Mem} {M : JM} {P : JO → JM → Prop} {g2 : JV} {g3 : JV} {Q : Mem → Prop} (hg2 : jc2 g2 = false) (hM : Rl E M μ) (hQ : ∀ (M1 : JM) (μ1 : Mem), Rl E M1 μ1 → Q μ1 → P (.inl none) M1) (h : d_Md_findsPairs_l7 v1 μ Q) : JX 384 7 [jR 772, jI v1, g2, g3] [] M P := by
  refine h (fun v1 μ => ∀ (g2 : JV) (g3 : JV) (M : JM), jc2 g2 = false → Rl E M μ → JX 384 7 [jR 772, jI v1, g2, g3] [] M P) ?_ _ _ _ hg2 hM
  intro v1 μ h g2 g3 M hg2 hM
  exact k_Md_findsPairs_b7 hg2 hM hQ (fun v1 g2 g3 M μ hg2 hM h => h g2 g3 M hg2 hM) h
theorem k_Md_findsPairs {E : JE2} {μ : Mem} {M : JM} {Q : Mem → Prop} (hM : Rl E M μ) (h : d_Md_findsPairs μ Q) : JX 384 0 (jargs 384 [jR 772]) [] M (PO E (QV Q) XN) := by
  unfold d_Md_findsPairs at h
  show JX 384 0 [jR 772, jU, jU, jU] [] M (PO E (QV Q) XN)
  generalize hP : PO E (QV Q) XN = P
  have hQ : ∀ (M1 : JM) (μ1 : Mem), Rl E M1 μ1 → Q μ1 → P (.inl none) M1 := by rw [← hP]; exact fun M1 μ1 a b => ⟨μ1, a, rfl, b⟩
  clear hP
  refine L_ps c384 (n := 2) (pc1 := 2) (ls1 := [jR 772, jU, jU, jU]) (st1 := [jI 0, jR 772]) rfl ?_
  refine L_putI (c384 2 rfl) hM rt772 rfl (fun M hM => ?_)
  refine L_ps c384 (n := 2) (pc1 := 7) (ls1 := [jR 772, jI 0, jU, jU]) (st1 := []) rfl ?_
  exact k_Md_findsPairs_l7 rfl hM hQ h
theorem k_Md_criticalPairCount {E : JE2} {μ : Mem} {M : JM} {Q : Int → Mem → Prop} (hM : Rl E M μ) (h : d_Md_criticalPairCount μ Q) : JX 383 0 (jargs 383 [jR 772]) [] M (PO E (QI Q) XN) := by
  unfold d_Md_criticalPairCount at h
  show JX 383 0 [jR 772] [] M (PO E (QI Q) XN)
  generalize hP : PO E (QI Q) XN = P
  have hQ : ∀ (r : Int) (M1 : JM) (μ1 : Mem), Rl E M1 μ1 → Q r μ1 → P (.inl (some (.inl r))) M1 := by rw [← hP]; exact fun r M1 μ1 a b => ⟨μ1, a, r, rfl, b⟩
  clear hP
  refine L_ps c383 (n := 1) (pc1 := 1) (ls1 := [jR 772]) (st1 := [jR 772]) rfl ?_
  refine L_cB (c383 1 rfl) (js_v rfl ((Rl_tag hM rt772 (by decide)).trans js321)) hh383 (k_Md_mayLook hM h) (fun r1 M μ2 hM h => ?_) (fun _ _ _ _ f => f.elim)
  refine L_br (p1 := 9) (p2 := 7) (c383 4 rfl) rfl jc_neb h (fun h => ?_) (fun h => ?_)
  · refine L_ps c383 (n := 1) (pc1 := 10) (ls1 := [jR 772]) (st1 := [jR 772]) rfl ?_
    refine L_cV (c383 10 rfl) (js_v rfl ((Rl_tag hM rt772 (by decide)).trans js384)) hh383 (k_Md_findsPairs hM h) (fun M μ4 hM h => ?_) (fun _ _ _ _ f => f.elim)
    refine L_ps c383 (n := 1) (pc1 := 14) (ls1 := [jR 772]) (st1 := [jR 772]) rfl ?_
    refine L_getI (c383 14 rfl) hM rt772 rfl ?_
    exact L_retI (c383 17 rfl) (hQ _ _ _ hM h)
  · refine L_ps c383 (n := 1) (pc1 := 8) (ls1 := [jR 772]) (st1 := [jI 0]) rfl ?_
    exact L_retI (c383 8 rfl) (hQ _ _ _ hM h)
theorem k_Md_mayPair_j42 {E : JE2} {t1 : Int} {t2 : Int} {μ : Mem} {M : JM} {P : JO → JM → Prop} {g0 : JV} {g1 : JV} {Q : Bool → Mem → Prop} (hM : Rl E M μ) (hQ : ∀ (r : Bool) (M1 : JM) (μ1 : Mem), Rl E M1 μ1 → Q r μ1 → P (.inl (some (.inl (b2i r)))) M1) (h : d_Md_mayPair_j42 t1 t2 μ Q) : JX 390 42 [g0, g1] [jI t2, jI t1, jR 772] M P := by
  unfold d_Md_mayPair_j42 at h
  refine L_cB (c390 42 rfl) (js_v rfl ((Rl_tag hM rt772 (by decide)).trans js325)) hh390 (k_Md_mayTwo hM h) (fun r1 M μ2 hM h => ?_) (fun _ _ _ _ f => f.elim)
  exact L_retB (c390 45 rfl) (bz_b _) (hQ _ _ _ hM h)
theorem k_Md_mayPair_j41 {E : JE2} {t1 : Int} {μ : Mem} {M : JM} {P : JO → JM → Prop} {g0 : JV} {g1 : JV} {Q : Bool → Mem → Prop} (hM : Rl E M μ) (hQ : ∀ (r : Bool) (M1 : JM) (μ1 : Mem), Rl E M1 μ1 → Q r μ1 → P (.inl (some (.inl (b2i r)))) M1) (h : d_Md_mayPair_j41 t1 μ Q) : JX 390 41 [g0, g1] [jI t1, jR 772] M P := by
  unfold d_Md_mayPair_j41 at h
  refine L_ps c390 (n := 1) (pc1 := 42) (ls1 := [g0, g1]) (st1 := [jI 0, jI t1, jR 772]) rfl ?_
  exact k_Md_mayPair_j42 hM hQ h
theorem k_Md_mayPair_j11 {E : JE2} {v1 : Int} {μ : Mem} {M : JM} {P : JO → JM → Prop} {Q : Bool → Mem → Prop} (hM : Rl E M μ) (hQ : ∀ (r : Bool) (M1 : JM) (μ1 : Mem), Rl E M1 μ1 → Q r μ1 → P (.inl (some (.inl (b2i r)))) M1) (h : d_Md_mayPair_j11 v1 μ Q) : JX 390 11 [jR 772, jI v1] [] M P := by
  unfold d_Md_mayPair_j11 at h
  refine L_ps c390 (n := 2) (pc1 := 13) (ls1 := [jR 772, jI v1]) (st1 := [jR 772, jR 772]) rfl ?_
  refine L_getI (c390 13 rfl) hM rt772 rfl ?_
  refine L_ps c390 (n := 1) (pc1 := 17) (ls1 := [jR 772, jI v1]) (st1 := [jR 772, jI (μ 772 6), jR 772]) rfl ?_
  refine L_getI (c390 17 rfl) hM rt772 rfl ?_
  refine L_br (p1 := 41) (p2 := 23) (c390 20 rfl) rfl jc_eq h (fun h => ?_) (fun h => ?_)
  · exact k_Md_mayPair_j41 hM hQ h
  · refine L_ps c390 (n := 3) (pc1 := 26) (ls1 := [jR 772, jI v1]) (st1 := [jR 772, jI 0, jI v1, jI (μ 772 6), jR 772]) rfl ?_
    refine L_getI (c390 26 rfl) hM rt772 rfl ?_
    refine L_ps c390 (n := 2) (pc1 := 31) (ls1 := [jR 772, jI v1]) (st1 := [jI (wr ((μ 772 41) - 1)), jI 0, jI v1, jI (μ 772 6), jR 772]) rfl ?_
    refine L_cpB (c390 31 rfl) (js_t rfl) hh390 (k_Md_in hM h) (fun r3 M hM h => ?_) (fun _ _ _ _ f => f.elim)
    refine L_nb (p1 := 41) (p2 := 37) (c390 34 rfl) rfl jc_eqb h (fun h => ?_) (fun h => ?_)
    · refine L_ps c390 (n := 2) (pc1 := 42) (ls1 := [jR 772, jI v1]) (st1 := [jI 1, jI (μ 772 6), jR 772]) rfl ?_
      exact k_Md_mayPair_j42 hM hQ h
    · exact k_Md_mayPair_j41 hM hQ h
theorem k_Md_mayPair {E : JE2} {v1 : Int} {μ : Mem} {M : JM} {Q : Bool → Mem → Prop} (hM : Rl E M μ) (h : d_Md_mayPair v1 μ Q) : JX 390 0 (jargs 390 [jR 772, jI v1]) [] M (PO E (QB Q) XN) := by
  unfold d_Md_mayPair at h
  show JX 390 0 [jR 772, jI v1] [] M (PO E (QB Q) XN)
  generalize hP : PO E (QB Q) XN = P
  have hQ : ∀ (r : Bool) (M1 : JM) (μ1 : Mem), Rl E M1 μ1 → Q r μ1 → P (.inl (some (.inl (b2i r)))) M1 := by rw [← hP]; exact fun r M1 μ1 a b => ⟨μ1, a, r, rfl, b⟩
  clear hP
  refine L_ps c390 (n := 1) (pc1 := 1) (ls1 := [jR 772, jI v1]) (st1 := [jR 772]) rfl ?_
  refine L_getI (c390 1 rfl) hM rt772 rfl ?_
  refine L_br (p1 := 11) (p2 := 7) (c390 4 rfl) rfl jc_eq h (fun h => ?_) (fun h => ?_)
  · exact k_Md_mayPair_j11 hM hQ h
  · refine L_ps c390 (n := 1) (pc1 := 8) (ls1 := [jR 772, jI v1]) (st1 := [jR 772]) rfl ?_
    refine L_cV (c390 8 rfl) (js_v rfl ((Rl_tag hM rt772 (by decide)).trans js384)) hh390 (k_Md_findsPairs hM h) (fun M μ6 hM h => ?_) (fun _ _ _ _ f => f.elim)
    exact k_Md_mayPair_j11 hM hQ h
theorem k_Md_pairOuterRule {E : JE2} {v1 : Int} {μ : Mem} {M : JM} {Q : Int → Mem → Prop} (hM : Rl E M μ) (h : d_Md_pairOuterRule v1 μ Q) : JX 389 0 (jargs 389 [jR 772, jI v1]) [] M (PO E (QI Q) XN) := by
  unfold d_Md_pairOuterRule at h
  show JX 389 0 [jR 772, jI v1] [] M (PO E (QI Q) XN)
  generalize hP : PO E (QI Q) XN = P
  have hQ : ∀ (r : Int) (M1 : JM) (μ1 : Mem), Rl E M1 μ1 → Q r μ1 → P (.inl (some (.inl r))) M1 := by rw [← hP]; exact fun r M1 μ1 a b => ⟨μ1, a, r, rfl, b⟩
  clear hP
  refine L_ps c389 (n := 2) (pc1 := 2) (ls1 := [jR 772, jI v1]) (st1 := [jI v1, jR 772]) rfl ?_
  refine L_cB (c389 2 rfl) (js_v rfl ((Rl_tag hM rt772 (by decide)).trans js390)) hh389 (k_Md_mayPair hM h) (fun r1 M μ2 hM h => ?_) (fun _ _ _ _ f => f.elim)
  refine L_nb (p1 := 19) (p2 := 8) (c389 5 rfl) rfl jc_eqb h (fun h => ?_) (fun h => ?_)
  · refine L_ps c389 (n := 1) (pc1 := 9) (ls1 := [jR 772, jI v1]) (st1 := [jR 772]) rfl ?_
    refine L_getP (d := 18) (c389 9 rfl) hM rt772 rfl ?_
    refine L_ps c389 (n := 3) (pc1 := 15) (ls1 := [jR 772, jI v1]) (st1 := [jI (wr (3 * v1)), jR 790]) rfl ?_
    obtain ⟨hb, h⟩ := h
    refine L_iald (c389 15 rfl) hM rt790 ln790 hb ?_
    refine L_ps c389 (n := 1) (pc1 := 20) (ls1 := [jR 772, jI v1]) (st1 := [jI (μ2 790 (wr (3 * v1)).toNat)]) rfl ?_
    exact L_retI (c389 20 rfl) (hQ _ _ _ hM h)
  · refine L_ps c389 (n := 1) (pc1 := 20) (ls1 := [jR 772, jI v1]) (st1 := [jI 0]) rfl ?_
    exact L_retI (c389 20 rfl) (hQ _ _ _ hM h)
theorem k_Md_pairInnerRule {E : JE2} {v1 : Int} {μ : Mem} {M : JM} {Q : Int → Mem → Prop} (hM : Rl E M μ) (h : d_Md_pairInnerRule v1 μ Q) : JX 391 0 (jargs 391 [jR 772, jI v1]) [] M (PO E (QI Q) XN) := by
  unfold d_Md_pairInnerRule at h
  show JX 391 0 [jR 772, jI v1] [] M (PO E (QI Q) XN)
  generalize hP : PO E (QI Q) XN = P
  have hQ : ∀ (r : Int) (M1 : JM) (μ1 : Mem), Rl E M1 μ1 → Q r μ1 → P (.inl (some (.inl r))) M1 := by rw [← hP]; exact fun r M1 μ1 a b => ⟨μ1, a, r, rfl, b⟩
  clear hP
  refine L_ps c391 (n := 2) (pc1 := 2) (ls1 := [jR 772, jI v1]) (st1 := [jI v1, jR 772]) rfl ?_
  refine L_cB (c391 2 rfl) (js_v rfl ((Rl_tag hM rt772 (by decide)).trans js390)) hh391 (k_Md_mayPair hM h) (fun r1 M μ2 hM h => ?_) (fun _ _ _ _ f => f.elim)
  refine L_nb (p1 := 21) (p2 := 8) (c391 5 rfl) rfl jc_eqb h (fun h => ?_) (fun h => ?_)
  · refine L_ps c391 (n := 1) (pc1 := 9) (ls1 := [jR 772, jI v1]) (st1 := [jR 772]) rfl ?_
    refine L_getP (d := 18) (c391 9 rfl) hM rt772 rfl ?_
    refine L_ps c391 (n := 5) (pc1 := 17) (ls1 := [jR 772, jI v1]) (st1 := [jI (wr ((wr (3 * v1)) + 1)), jR 790]) rfl ?_
    obtain ⟨hb, h⟩ := h
    refine L_iald (c391 17 rfl) hM rt790 ln790 hb ?_
    refine L_ps c391 (n := 1) (pc1 := 22) (ls1 := [jR 772, jI v1]) (st1 := [jI (μ2 790 (wr ((wr (3 * v1)) + 1)).toNat)]) rfl ?_
    exact L_retI (c391 22 rfl) (hQ _ _ _ hM h)
  · refine L_ps c391 (n := 1) (pc1 := 22) (ls1 := [jR 772, jI v1]) (st1 := [jI 0]) rfl ?_
    exact L_retI (c391 22 rfl) (hQ _ _ _ hM h)
theorem k_Md_pairPosition {E : JE2} {v1 : Int} {μ : Mem} {M : JM} {Q : Int → Mem → Prop} (hM : Rl E M μ) (h : d_Md_pairPosition v1 μ Q) : JX 392 0 (jargs 392 [jR 772, jI v1]) [] M (PO E (QI Q) XN) := by
  unfold d_Md_pairPosition at h
  show JX 392 0 [jR 772, jI v1] [] M (PO E (QI Q) XN)
  generalize hP : PO E (QI Q) XN = P
  have hQ : ∀ (r : Int) (M1 : JM) (μ1 : Mem), Rl E M1 μ1 → Q r μ1 → P (.inl (some (.inl r))) M1 := by rw [← hP]; exact fun r M1 μ1 a b => ⟨μ1, a, r, rfl, b⟩
  clear hP
  refine L_ps c392 (n := 2) (pc1 := 2) (ls1 := [jR 772, jI v1]) (st1 := [jI v1, jR 772]) rfl ?_
  refine L_cB (c392 2 rfl) (js_v rfl ((Rl_tag hM rt772 (by decide)).trans js390)) hh392 (k_Md_mayPair hM h) (fun r1 M μ2 hM h => ?_) (fun _ _ _ _ f => f.elim)
  refine L_nb (p1 := 21) (p2 := 8) (c392 5 rfl) rfl jc_eqb h (fun h => ?_) (fun h => ?_)
  · refine L_ps c392 (n := 1) (pc1 := 9) (ls1 := [jR 772, jI v1]) (st1 := [jR 772]) rfl ?_
    refine L_getP (d := 18) (c392 9 rfl) hM rt772 rfl ?_
    refine L_ps c392 (n := 5) (pc1 := 17) (ls1 := [jR 772, jI v1]) (st1 := [jI (wr ((wr (3 * v1)) + 2)), jR 790]) rfl ?_
    obtain ⟨hb, h⟩ := h
    refine L_iald (c392 17 rfl) hM rt790 ln790 hb ?_
    refine L_ps c392 (n := 1) (pc1 := 22) (ls1 := [jR 772, jI v1]) (st1 := [jI (μ2 790 (wr ((wr (3 * v1)) + 2)).toNat)]) rfl ?_
    exact L_retI (c392 22 rfl) (hQ _ _ _ hM h)
  · refine L_ps c392 (n := 1) (pc1 := 22) (ls1 := [jR 772, jI v1]) (st1 := [jI 0]) rfl ?_
    exact L_retI (c392 22 rfl) (hQ _ _ _ hM h)
theorem k_Md_lendsPair {E : JE2} {v1 : Int} {μ : Mem} {M : JM} {Q : Int → Mem → Prop} (hM : Rl E M μ) (h : d_Md_lendsPair v1 μ Q) : JX 395 0 (jargs 395 [jR 772, jI v1]) [] M (PO E (QI Q) XN) := by
  unfold d_Md_lendsPair at h
  show JX 395 0 [jR 772, jI v1] [] M (PO E (QI Q) XN)
  generalize hP : PO E (QI Q) XN = P
  have hQ : ∀ (r : Int) (M1 : JM) (μ1 : Mem), Rl E M1 μ1 → Q r μ1 → P (.inl (some (.inl r))) M1 := by rw [← hP]; exact fun r M1 μ1 a b => ⟨μ1, a, r, rfl, b⟩
  clear hP
  refine L_ps c395 (n := 2) (pc1 := 2) (ls1 := [jR 772, jI v1]) (st1 := [jR 772, jR 772]) rfl ?_
  refine L_getP (d := 19) (c395 2 rfl) hM rt772 rfl ?_
  refine L_ps c395 (n := 1) (pc1 := 6) (ls1 := [jR 772, jI v1]) (st1 := [jI v1, jR 791, jR 772]) rfl ?_
  obtain ⟨hb, h⟩ := h
  refine L_iald (c395 6 rfl) hM rt791 ln791 hb ?_
  refine L_putI (c395 7 rfl) hM rt772 rfl (fun M hM => ?_)
  refine L_ps c395 (n := 1) (pc1 := 11) (ls1 := [jR 772, jI v1]) (st1 := [jR 772]) rfl ?_
  refine L_getP (d := 20) (c395 11 rfl) hM rt772 rfl ?_
  refine L_ps c395 (n := 4) (pc1 := 19) (ls1 := [jR 772, jI v1]) (st1 := [jR 772, jI (wr (v1 * 80)), jR 792]) rfl ?_
  refine L_getP (d := 8) (c395 19 rfl) hM rt772 rfl ?_
  refine L_ps c395 (n := 2) (pc1 := 24) (ls1 := [jR 772, jI v1]) (st1 := [jR 772, jI 0, jR 780, jI (wr (v1 * 80)), jR 792]) rfl ?_
  refine L_getI (c395 24 rfl) hM rt772 rfl ?_
  refine L_cV (c395 27 rfl) (js_t rfl) hh395 (k_Md_lays rt792 rt780 hM h) (fun M μ2 hM h => ?_) (fun _ _ _ _ f => f.elim)
  refine L_ps c395 (n := 1) (pc1 := 31) (ls1 := [jR 772, jI v1]) (st1 := [jR 772]) rfl ?_
  refine L_getI (c395 31 rfl) hM rt772 rfl ?_
  exact L_retI (c395 34 rfl) (hQ _ _ _ hM h)
theorem k_Md_joins {E : JE2} {v1 : Int} {μ : Mem} {M : JM} {Q : Bool → Mem → Prop} (hM : Rl E M μ) (h : d_Md_joins v1 μ Q) : JX 394 0 (jargs 394 [jR 772, jI v1]) [] M (PO E (QB Q) XN) := by
  unfold d_Md_joins at h
  show JX 394 0 [jR 772, jI v1, jU, jU] [] M (PO E (QB Q) XN)
  generalize hP : PO E (QB Q) XN = P
  have hQ : ∀ (r : Bool) (M1 : JM) (μ1 : Mem), Rl E M1 μ1 → Q r μ1 → P (.inl (some (.inl (b2i r)))) M1 := by rw [← hP]; exact fun r M1 μ1 a b => ⟨μ1, a, r, rfl, b⟩
  clear hP
  refine L_ps c394 (n := 4) (pc1 := 4) (ls1 := [jR 772, jI v1, jU, jU]) (st1 := [jI (wr (2 * v1)), jR 772]) rfl ?_
  refine L_cI (c394 4 rfl) (js_v rfl ((Rl_tag hM rt772 (by decide)).trans js395)) hh394 (k_Md_lendsPair hM h) (fun r1 M μ2 hM h => ?_) (fun _ _ _ _ f => f.elim)
  refine L_ps c394 (n := 4) (pc1 := 12) (ls1 := [jR 772, jI v1, jI r1, jU]) (st1 := [jI 50, jI 1, jR 772]) rfl ?_
  refine L_cI (c394 12 rfl) (js_v rfl ((Rl_tag hM rt772 (by decide)).trans js366)) hh394 (k_Md_reduces hM h) (fun r3 M μ4 hM h => ?_) (fun _ _ _ _ f => f.elim)
  refine L_ps c394 (n := 1) (pc1 := 16) (ls1 := [jR 772, jI v1, jI r1, jU]) (st1 := [jI (-1), jI r3]) rfl ?_
  refine L_nb (p1 := 21) (p2 := 19) (c394 16 rfl) rfl jc_ne h (fun h => ?_) (fun h => ?_)
  · refine L_ps c394 (n := 1) (pc1 := 20) (ls1 := [jR 772, jI v1, jI r1, jU]) (st1 := [jI 0]) rfl ?_
    exact L_retB (c394 20 rfl) (Or.inl rfl) (hQ false _ _ hM h)
  · refine L_ps c394 (n := 1) (pc1 := 22) (ls1 := [jR 772, jI v1, jI r1, jU]) (st1 := [jR 772]) rfl ?_
    refine L_cV (c394 22 rfl) (js_v rfl ((Rl_tag hM rt772 (by decide)).trans js352)) hh394 (k_Md_keeps hM h) (fun M μ6 hM h => ?_) (fun _ _ _ _ f => f.elim)
    refine L_ps c394 (n := 6) (pc1 := 31) (ls1 := [jR 772, jI v1, jI r1, jU]) (st1 := [jI (wr ((wr (2 * v1)) + 1)), jR 772]) rfl ?_
    refine L_cI (c394 31 rfl) (js_v rfl ((Rl_tag hM rt772 (by decide)).trans js395)) hh394 (k_Md_lendsPair hM h) (fun r7 M μ8 hM h => ?_) (fun _ _ _ _ f => f.elim)
    refine L_ps c394 (n := 4) (pc1 := 39) (ls1 := [jR 772, jI v1, jI r1, jI r7]) (st1 := [jI 50, jI 1, jR 772]) rfl ?_
    refine L_cI (c394 39 rfl) (js_v rfl ((Rl_tag hM rt772 (by decide)).trans js366)) hh394 (k_Md_reduces hM h) (fun r9 M μ10 hM h => ?_) (fun _ _ _ _ f => f.elim)
    refine L_ps c394 (n := 1) (pc1 := 43) (ls1 := [jR 772, jI v1, jI r1, jI r7]) (st1 := [jI (-1), jI r9]) rfl ?_
    refine L_br (p1 := 57) (p2 := 46) (c394 43 rfl) rfl jc_eq h (fun h => ?_) (fun h => ?_)
    · refine L_ps c394 (n := 1) (pc1 := 58) (ls1 := [jR 772, jI v1, jI r1, jI r7]) (st1 := [jI 0]) rfl ?_
      exact L_retB (c394 58 rfl) (Or.inl rfl) (hQ false _ _ hM h)
    · refine L_ps c394 (n := 1) (pc1 := 47) (ls1 := [jR 772, jI v1, jI r1, jI r7]) (st1 := [jR 772]) rfl ?_
      refine L_cpB (c394 47 rfl) (js_v rfl ((Rl_tag hM rt772 (by decide)).trans js353)) hh394 (k_Md_isKept hM h) (fun r11 M hM h => ?_) (fun _ _ _ _ f => f.elim)
      refine L_nb (p1 := 57) (p2 := 53) (c394 50 rfl) rfl jc_eqb h (fun h => ?_) (fun h => ?_)
      · refine L_ps c394 (n := 2) (pc1 := 58) (ls1 := [jR 772, jI v1, jI r1, jI r7]) (st1 := [jI 1]) rfl ?_
        exact L_retB (c394 58 rfl) (Or.inr rfl) (hQ true _ _ hM h)
      · refine L_ps c394 (n := 1) (pc1 := 58) (ls1 := [jR 772, jI v1, jI r1, jI r7]) (st1 := [jI 0]) rfl ?_
        exact L_retB (c394 58 rfl) (Or.inl rfl) (hQ false _ _ hM h)
theorem k_Md_pairJoins {E : JE2} {v1 : Int} {μ : Mem} {M : JM} {Q : Bool → Mem → Prop} (hM : Rl E M μ) (h : d_Md_pairJoins v1 μ Q) : JX 393 0 (jargs 393 [jR 772, jI v1]) [] M (PO E (QB Q) XN) := by
  unfold d_Md_pairJoins at h
  show JX 393 0 [jR 772, jI v1] [] M (PO E (QB Q) XN)
  generalize hP : PO E (QB Q) XN = P
  have hQ : ∀ (r : Bool) (M1 : JM) (μ1 : Mem), Rl E M1 μ1 → Q r μ1 → P (.inl (some (.inl (b2i r)))) M1 := by rw [← hP]; exact fun r M1 μ1 a b => ⟨μ1, a, r, rfl, b⟩
  clear hP
  refine L_ps c393 (n := 2) (pc1 := 2) (ls1 := [jR 772, jI v1]) (st1 := [jI v1, jR 772]) rfl ?_
  refine L_cB (c393 2 rfl) (js_v rfl ((Rl_tag hM rt772 (by decide)).trans js390)) hh393 (k_Md_mayPair hM h) (fun r1 M μ2 hM h => ?_) (fun _ _ _ _ f => f.elim)
  refine L_nb (p1 := 20) (p2 := 8) (c393 5 rfl) rfl jc_eqb h (fun h => ?_) (fun h => ?_)
  · refine L_ps c393 (n := 2) (pc1 := 10) (ls1 := [jR 772, jI v1]) (st1 := [jI v1, jR 772]) rfl ?_
    refine L_cB (c393 10 rfl) (js_v rfl ((Rl_tag hM rt772 (by decide)).trans js394)) hh393 (k_Md_joins hM h) (fun r3 M μ4 hM h => ?_) (fun _ _ _ _ f => f.elim)
    refine L_nb (p1 := 20) (p2 := 16) (c393 13 rfl) rfl jc_eqb h (fun h => ?_) (fun h => ?_)
    · refine L_ps c393 (n := 2) (pc1 := 21) (ls1 := [jR 772, jI v1]) (st1 := [jI 1]) rfl ?_
      exact L_retB (c393 21 rfl) (Or.inr rfl) (hQ true _ _ hM h)
    · refine L_ps c393 (n := 1) (pc1 := 21) (ls1 := [jR 772, jI v1]) (st1 := [jI 0]) rfl ?_
      exact L_retB (c393 21 rfl) (Or.inl rfl) (hQ false _ _ hM h)
  · refine L_ps c393 (n := 1) (pc1 := 21) (ls1 := [jR 772, jI v1]) (st1 := [jI 0]) rfl ?_
    exact L_retB (c393 21 rfl) (Or.inl rfl) (hQ false _ _ hM h)
theorem k_Md_unjoinedPairs_j39 {E : JE2} {v2 : Int} {t0 : Int} {t1 : Int} {μ : Mem} {M : JM} {P : JO → JM → Prop} {g1 : JV} {W17 : Int → Int → Mem → Prop} {Q : Int → Mem → Prop} (hg1 : jc2 g1 = false) (hM : Rl E M μ) (hQ : ∀ (r : Int) (M1 : JM) (μ1 : Mem), Rl E M1 μ1 → Q r μ1 → P (.inl (some (.inl r))) M1) (hW17 : ∀ (v1 : Int) (v2 : Int) (M1 : JM) (μ1 : Mem), Rl E M1 μ1 → W17 v1 v2 μ1 → JX 396 17 [jR 772, jI v1, jI v2] [] M1 P) (h : d_Md_unjoinedPairs_j39 v2 t0 t1 μ W17 Q) : JX 396 39 [jR 772, g1, jI v2] [jI t1, jI t0] M P := by
  unfold d_Md_unjoinedPairs_j39 at h
  refine L_cpI (c396 39 rfl) (js_t rfl) hh396 (k_Md_one hM h) (fun r7 M hM h => ?_) (fun _ _ _ _ f => f.elim)
  refine L_ps c396 (n := 4) (pc1 := 17) (ls1 := [jR 772, jI (wr (t0 + r7)), jI (wr (v2 + 1))]) (st1 := []) rfl ?_
  exact hW17 _ _ _ _ hM h
theorem k_Md_unjoinedPairs_b17 {E : JE2} {v1 : Int} {v2 : Int} {μ : Mem} {M : JM} {P : JO → JM → Prop} {W17 : Int → Int → Mem → Prop} {Q : Int → Mem → Prop} (hM : Rl E M μ) (hQ : ∀ (r : Int) (M1 : JM) (μ1 : Mem), Rl E M1 μ1 → Q r μ1 → P (.inl (some (.inl r))) M1) (hW17 : ∀ (v1 : Int) (v2 : Int) (M1 : JM) (μ1 : Mem), Rl E M1 μ1 → W17 v1 v2 μ1 → JX 396 17 [jR 772, jI v1, jI v2] [] M1 P) (h : d_Md_unjoinedPairs_b17 v1 v2 μ W17 Q) : JX 396 17 [jR 772, jI v1, jI v2] [] M P := by
  unfold d_Md_unjoinedPairs_b17 at h
  refine L_ps c396 (n := 2) (pc1 := 19) (ls1 := [jR 772, jI v1, jI v2]) (st1 := [jR 772, jI v2]) rfl ?_
  refine L_getI (c396 19 rfl) hM rt772 rfl ?_
  refine L_nb (p1 := 50) (p2 := 25) (c396 22 rfl) rfl jc_ge h (fun h => ?_) (fun h => ?_)
  · refine L_ps c396 (n := 3) (pc1 := 28) (ls1 := [jR 772, jI v1, jI v2]) (st1 := [jI v2, jR 772, jI v1]) rfl ?_
    refine L_cB (c396 28 rfl) (js_v rfl ((Rl_tag hM rt772 (by decide)).trans js394)) hh396 (k_Md_joins hM h) (fun r5 M μ6 hM h => ?_) (fun _ _ _ _ f => f.elim)
    refine L_br (p1 := 38) (p2 := 34) (c396 31 rfl) rfl jc_neb h (fun h => ?_) (fun h => ?_)
    · refine L_ps c396 (n := 1) (pc1 := 39) (ls1 := [jR 772, jI v1, jI v2]) (st1 := [jI 0, jI v1]) rfl ?_
      exact k_Md_unjoinedPairs_j39 rfl hM hQ hW17 h
    · refine L_ps c396 (n := 2) (pc1 := 39) (ls1 := [jR 772, jI v1, jI v2]) (st1 := [jI 1, jI v1]) rfl ?_
      exact k_Md_unjoinedPairs_j39 rfl hM hQ hW17 h
  · refine L_ps c396 (n := 1) (pc1 := 51) (ls1 := [jR 772, jI v1, jI v2]) (st1 := [jI v1]) rfl ?_
    exact L_retI (c396 51 rfl) (hQ _ _ _ hM h)
theorem k_Md_unjoinedPairs_l17 {E : JE2} {v1 : Int} {v2 : Int} {μ : Mem} {M : JM} {P : JO → JM → Prop} {Q : Int → Mem → Prop} (hM : Rl E M μ) (hQ : ∀ (r : Int) (M1 : JM) (μ1 : Mem), Rl E M1 μ1 → Q r μ1 → P (.inl (some (.inl r))) M1) (h : d_Md_unjoinedPairs_l17 v1 v2 μ Q) : JX 396 17 [jR 772, jI v1, jI v2] [] M P := by
  refine h (fun v1 v2 μ => ∀ (M : JM), Rl E M μ → JX 396 17 [jR 772, jI v1, jI v2] [] M P) ?_ _ hM
  intro v1 v2 μ h M hM
  exact k_Md_unjoinedPairs_b17 hM hQ (fun v1 v2 M μ hM h => h M hM) h
theorem k_Md_unjoinedPairs {E : JE2} {μ : Mem} {M : JM} {Q : Int → Mem → Prop} (hM : Rl E M μ) (h : d_Md_unjoinedPairs μ Q) : JX 396 0 (jargs 396 [jR 772]) [] M (PO E (QI Q) XN) := by
  unfold d_Md_unjoinedPairs at h
  show JX 396 0 [jR 772, jU, jU] [] M (PO E (QI Q) XN)
  generalize hP : PO E (QI Q) XN = P
  have hQ : ∀ (r : Int) (M1 : JM) (μ1 : Mem), Rl E M1 μ1 → Q r μ1 → P (.inl (some (.inl r))) M1 := by rw [← hP]; exact fun r M1 μ1 a b => ⟨μ1, a, r, rfl, b⟩
  clear hP
  refine L_ps c396 (n := 1) (pc1 := 1) (ls1 := [jR 772, jU, jU]) (st1 := [jR 772]) rfl ?_
  refine L_cB (c396 1 rfl) (js_v rfl ((Rl_tag hM rt772 (by decide)).trans js321)) hh396 (k_Md_mayLook hM h) (fun r1 M μ2 hM h => ?_) (fun _ _ _ _ f => f.elim)
  refine L_br (p1 := 9) (p2 := 7) (c396 4 rfl) rfl jc_neb h (fun h => ?_) (fun h => ?_)
  · refine L_ps c396 (n := 1) (pc1 := 10) (ls1 := [jR 772, jU, jU]) (st1 := [jR 772]) rfl ?_
    refine L_cV (c396 10 rfl) (js_v rfl ((Rl_tag hM rt772 (by decide)).trans js384)) hh396 (k_Md_findsPairs hM h) (fun M μ4 hM h => ?_) (fun _ _ _ _ f => f.elim)
    refine L_ps c396 (n := 4) (pc1 := 17) (ls1 := [jR 772, jI 0, jI 0]) (st1 := []) rfl ?_
    exact k_Md_unjoinedPairs_l17 hM hQ h
  · refine L_ps c396 (n := 1) (pc1 := 8) (ls1 := [jR 772, jU, jU]) (st1 := [jI 0]) rfl ?_
    exact L_retI (c396 8 rfl) (hQ _ _ _ hM h)
theorem k_Md_writesByte {E : JE2} {v1 : Int} {μ : Mem} {M : JM} {Q : Mem → Prop} (hM : Rl E M μ) (h : d_Md_writesByte v1 μ Q) : JX 400 0 (jargs 400 [jR 772, jI v1]) [] M (PO E (QV Q) XN) := by
  unfold d_Md_writesByte at h
  show JX 400 0 [jR 772, jI v1] [] M (PO E (QV Q) XN)
  generalize hP : PO E (QV Q) XN = P
  have hQ : ∀ (M1 : JM) (μ1 : Mem), Rl E M1 μ1 → Q μ1 → P (.inl none) M1 := by rw [← hP]; exact fun M1 μ1 a b => ⟨μ1, a, rfl, b⟩
  clear hP
  refine L_ps c400 (n := 1) (pc1 := 1) (ls1 := [jR 772, jI v1]) (st1 := [jR 772]) rfl ?_
  refine L_getP (d := 22) (c400 1 rfl) hM rt772 rfl ?_
  refine L_ps c400 (n := 1) (pc1 := 5) (ls1 := [jR 772, jI v1]) (st1 := [jR 772, jR 794]) rfl ?_
  refine L_getI (c400 5 rfl) hM rt772 rfl ?_
  refine L_ps c400 (n := 2) (pc1 := 10) (ls1 := [jR 772, jI v1]) (st1 := [jI (jb8 v1), jI (μ 772 44), jR 794]) rfl ?_
  obtain ⟨hb, h⟩ := h
  refine L_bast (c400 10 rfl) hM rt794 ln794 hb (fun M hM => ?_)
  refine L_ps c400 (n := 2) (pc1 := 13) (ls1 := [jR 772, jI v1]) (st1 := [jR 772, jR 772]) rfl ?_
  refine L_getI (c400 13 rfl) hM rt772 rfl ?_
  refine L_ps c400 (n := 2) (pc1 := 18) (ls1 := [jR 772, jI v1]) (st1 := [jI (wr (((mup μ 794 (μ 772 44).toNat (jb8 (jb8 v1))) 772 44) + 1)), jR 772]) rfl ?_
  refine L_putI (c400 18 rfl) hM rt772 rfl (fun M hM => ?_)
  exact L_end (c400 21 rfl) rfl (hQ _ _ hM h)
theorem k_Md_writesNode_b20 {E : JE2} {v1 : Int} {v2 : Int} {μ : Mem} {M : JM} {P : JO → JM → Prop} {W20 : Int → Mem → Prop} {Q : Mem → Prop} (hM : Rl E M μ) (hQ : ∀ (M1 : JM) (μ1 : Mem), Rl E M1 μ1 → Q μ1 → P (.inl none) M1) (hW20 : ∀ (v2 : Int) (M1 : JM) (μ1 : Mem), Rl E M1 μ1 → W20 v2 μ1 → JX 399 20 [jR 772, jI v1, jI v2] [] M1 P) (h : d_Md_writesNode_b20 v1 v2 μ W20 Q) : JX 399 20 [jR 772, jI v1, jI v2] [] M P := by
  unfold d_Md_writesNode_b20 at h
  refine L_ps c399 (n := 4) (pc1 := 24) (ls1 := [jR 772, jI v1, jI v2]) (st1 := [jI 1, jI v1, jR 772, jI v2]) rfl ?_
  refine L_cpI (c399 24 rfl) (js_v rfl ((Rl_tag hM rt772 (by decide)).trans js279)) hh399 (k_Md_ofSymbol hM h) (fun r1 M hM h => ?_) (fun _ _ _ _ f => f.elim)
  refine L_nb (p1 := 48) (p2 := 30) (c399 27 rfl) rfl jc_ge h (fun h => ?_) (fun h => ?_)
  · refine L_ps c399 (n := 6) (pc1 := 36) (ls1 := [jR 772, jI v1, jI v2]) (st1 := [jI (wr (2 + v2)), jI v1, jR 772, jR 772]) rfl ?_
    refine L_cpI (c399 36 rfl) (js_v rfl ((Rl_tag hM rt772 (by decide)).trans js279)) hh399 (k_Md_ofSymbol hM h) (fun r3 M hM h => ?_) (fun _ _ _ _ f => f.elim)
    refine L_cV (c399 39 rfl) (js_v rfl ((Rl_tag hM rt772 (by decide)).trans js400)) hh399 (k_Md_writesByte hM h) (fun M μ6 hM h => ?_) (fun _ _ _ _ f => f.elim)
    refine L_ps c399 (n := 2) (pc1 := 20) (ls1 := [jR 772, jI v1, jI (wr (v2 + 1))]) (st1 := []) rfl ?_
    exact hW20 _ _ _ hM h
  · exact L_end (c399 48 rfl) rfl (hQ _ _ hM h)
theorem k_Md_writesNode_l20 {E : JE2} {v1 : Int} {v2 : Int} {μ : Mem} {M : JM} {P : JO → JM → Prop} {Q : Mem → Prop} (hM : Rl E M μ) (hQ : ∀ (M1 : JM) (μ1 : Mem), Rl E M1 μ1 → Q μ1 → P (.inl none) M1) (h : d_Md_writesNode_l20 v1 v2 μ Q) : JX 399 20 [jR 772, jI v1, jI v2] [] M P := by
  refine h (fun v2 μ => ∀ (M : JM), Rl E M μ → JX 399 20 [jR 772, jI v1, jI v2] [] M P) ?_ _ hM
  intro v2 μ h M hM
  exact k_Md_writesNode_b20 hM hQ (fun v2 M μ hM h => h M hM) h
theorem k_Md_writesNode {E : JE2} {v1 : Int} {μ : Mem} {M : JM} {Q : Mem → Prop} (hM : Rl E M μ) (h : d_Md_writesNode v1 μ Q) : JX 399 0 (jargs 399 [jR 772, jI v1]) [] M (PO E (QV Q) XN) := by
  unfold d_Md_writesNode at h
  show JX 399 0 [jR 772, jI v1, jU] [] M (PO E (QV Q) XN)
  generalize hP : PO E (QV Q) XN = P
  have hQ : ∀ (M1 : JM) (μ1 : Mem), Rl E M1 μ1 → Q μ1 → P (.inl none) M1 := by rw [← hP]; exact fun M1 μ1 a b => ⟨μ1, a, rfl, b⟩
  clear hP
  refine L_ps c399 (n := 2) (pc1 := 3) (ls1 := [jR 772, jI v1, jU]) (st1 := [jI 100, jI v1]) rfl ?_
  refine L_br (p1 := 18) (p2 := 6) (c399 3 rfl) rfl jc_lt h (fun h => ?_) (fun h => ?_)
  · refine L_ps c399 (n := 2) (pc1 := 20) (ls1 := [jR 772, jI v1, jI 0]) (st1 := []) rfl ?_
    exact k_Md_writesNode_l20 hM hQ h
  · refine L_ps c399 (n := 6) (pc1 := 14) (ls1 := [jR 772, jI v1, jU]) (st1 := [jI (wr ((wr (65 + v1)) - 100)), jR 772]) rfl ?_
    refine L_cV (c399 14 rfl) (js_v rfl ((Rl_tag hM rt772 (by decide)).trans js400)) hh399 (k_Md_writesByte hM h) (fun M μ8 hM h => ?_) (fun _ _ _ _ f => f.elim)
    exact L_end (c399 17 rfl) rfl (hQ _ _ hM h)
theorem k_Md_closesNodes_b2 {E : JE2} {v2 : Int} {μ : Mem} {M : JM} {P : JO → JM → Prop} {g1 : JV} {W2 : Int → Mem → Prop} {Q : Int → Mem → Prop} (hg1 : jc2 g1 = false) (hM : Rl E M μ) (hQ : ∀ (r : Int) (M1 : JM) (μ1 : Mem), Rl E M1 μ1 → Q r μ1 → P (.inl (some (.inl r))) M1) (hW2 : ∀ (v2 : Int) (g1 : JV) (M1 : JM) (μ1 : Mem), jc2 g1 = false → Rl E M1 μ1 → W2 v2 μ1 → JX 401 2 [jR 772, g1, jI v2] [] M1 P) (h : d_Md_closesNodes_b2 v2 μ W2 Q) : JX 401 2 [jR 772, g1, jI v2] [] M P := by
  unfold d_Md_closesNodes_b2 at h
  refine L_ps c401 (n := 1) (pc1 := 3) (ls1 := [jR 772, g1, jI v2]) (st1 := [jI v2]) rfl ?_
  refine L_nb (p1 := 49) (p2 := 6) (c401 3 rfl) rfl jc_le h (fun h => ?_) (fun h => ?_)
  · refine L_ps c401 (n := 1) (pc1 := 7) (ls1 := [jR 772, g1, jI v2]) (st1 := [jR 772]) rfl ?_
    refine L_getP (d := 7) (c401 7 rfl) hM rt772 rfl ?_
    refine L_ps c401 (n := 4) (pc1 := 14) (ls1 := [jR 772, g1, jI v2]) (st1 := [jI (wr (v2 - 1)), jR 779, jI (wr (v2 - 1)), jR 779]) rfl ?_
    obtain ⟨hb, h⟩ := h
    refine L_iald (c401 14 rfl) hM rt779 ln779 hb ?_
    refine L_ps c401 (n := 2) (pc1 := 17) (ls1 := [jR 772, g1, jI v2]) (st1 := [jI (wr ((μ 779 (wr (v2 - 1)).toNat) - 1)), jI (wr (v2 - 1)), jR 779]) rfl ?_
    obtain ⟨hb, h⟩ := h
    refine L_iast (c401 17 rfl) hM rt779 ln779 hb (fun M hM => ?_)
    refine L_ps c401 (n := 1) (pc1 := 19) (ls1 := [jR 772, g1, jI v2]) (st1 := [jR 772]) rfl ?_
    refine L_getP (d := 7) (c401 19 rfl) hM rt772 rfl ?_
    refine L_ps c401 (n := 3) (pc1 := 25) (ls1 := [jR 772, g1, jI v2]) (st1 := [jI (wr (v2 - 1)), jR 779]) rfl ?_
    obtain ⟨hb, h⟩ := h
    refine L_iald (c401 25 rfl) hM rt779 ln779 hb ?_
    refine L_nb (p1 := 37) (p2 := 29) (c401 26 rfl) rfl jc_le h (fun h => ?_) (fun h => ?_)
    · refine L_ps c401 (n := 2) (pc1 := 32) (ls1 := [jR 772, g1, jI v2]) (st1 := [jI 44, jR 772]) rfl ?_
      refine L_cV (c401 32 rfl) (js_v rfl ((Rl_tag hM rt772 (by decide)).trans js400)) hh401 (k_Md_writesByte hM h) (fun M μ2 hM h => ?_) (fun _ _ _ _ f => f.elim)
      refine L_ps c401 (n := 1) (pc1 := 36) (ls1 := [jR 772, g1, jI v2]) (st1 := [jI v2]) rfl ?_
      exact L_retI (c401 36 rfl) (hQ _ _ _ hM h)
    · refine L_ps c401 (n := 2) (pc1 := 40) (ls1 := [jR 772, g1, jI v2]) (st1 := [jI 41, jR 772]) rfl ?_
      refine L_cV (c401 40 rfl) (js_v rfl ((Rl_tag hM rt772 (by decide)).trans js400)) hh401 (k_Md_writesByte hM h) (fun M μ4 hM h => ?_) (fun _ _ _ _ f => f.elim)
      refine L_iinc (c401 43 rfl) (hg1) (Nat.le_of_ble_eq_true rfl) rfl ?_
      show JX 401 46 [jR 772, g1, jI (wr (v2 + (-1)))] [] M P
      refine L_ps c401 (n := 1) (pc1 := 2) (ls1 := [jR 772, g1, jI (wr (v2 + (-1)))]) (st1 := []) rfl ?_
      exact hW2 _ _ _ _ hg1 hM h
  · refine L_ps c401 (n := 1) (pc1 := 50) (ls1 := [jR 772, g1, jI v2]) (st1 := [jI v2]) rfl ?_
    exact L_retI (c401 50 rfl) (hQ _ _ _ hM h)
theorem k_Md_closesNodes_l2 {E : JE2} {v2 : Int} {μ : Mem} {M : JM} {P : JO → JM → Prop} {g1 : JV} {Q : Int → Mem → Prop} (hg1 : jc2 g1 = false) (hM : Rl E M μ) (hQ : ∀ (r : Int) (M1 : JM) (μ1 : Mem), Rl E M1 μ1 → Q r μ1 → P (.inl (some (.inl r))) M1) (h : d_Md_closesNodes_l2 v2 μ Q) : JX 401 2 [jR 772, g1, jI v2] [] M P := by
  refine h (fun v2 μ => ∀ (g1 : JV) (M : JM), jc2 g1 = false → Rl E M μ → JX 401 2 [jR 772, g1, jI v2] [] M P) ?_ _ _ hg1 hM
  intro v2 μ h g1 M hg1 hM
  exact k_Md_closesNodes_b2 hg1 hM hQ (fun v2 g1 M μ hg1 hM h => h g1 M hg1 hM) h
theorem k_Md_closesNodes {E : JE2} {v1 : Int} {μ : Mem} {M : JM} {Q : Int → Mem → Prop} (hM : Rl E M μ) (h : d_Md_closesNodes v1 μ Q) : JX 401 0 (jargs 401 [jR 772, jI v1]) [] M (PO E (QI Q) XN) := by
  unfold d_Md_closesNodes at h
  show JX 401 0 [jR 772, jI v1, jU] [] M (PO E (QI Q) XN)
  generalize hP : PO E (QI Q) XN = P
  have hQ : ∀ (r : Int) (M1 : JM) (μ1 : Mem), Rl E M1 μ1 → Q r μ1 → P (.inl (some (.inl r))) M1 := by rw [← hP]; exact fun r M1 μ1 a b => ⟨μ1, a, r, rfl, b⟩
  clear hP
  refine L_ps c401 (n := 2) (pc1 := 2) (ls1 := [jR 772, jI v1, jI v1]) (st1 := []) rfl ?_
  exact k_Md_closesNodes_l2 rfl hM hQ h
theorem k_Md_writesRow_j66 {E : JE2} {v1 : Nat} {v2 : Int} {v3 : Int} {v4 : Int} {v5 : Int} {μ : Mem} {M : JM} {P : JO → JM → Prop} {g6 : JV} {W6 : Int → Int → Mem → Prop} {Q : Mem → Prop} (hv1 : rt v1 = 100) (hM : Rl E M μ) (hQ : ∀ (M1 : JM) (μ1 : Mem), Rl E M1 μ1 → Q μ1 → P (.inl none) M1) (hW6 : ∀ (v4 : Int) (v5 : Int) (g6 : JV) (M1 : JM) (μ1 : Mem), Rl E M1 μ1 → W6 v4 v5 μ1 → JX 398 6 [jR 772, jR v1, jI v2, jI v3, jI v4, jI v5, g6] [] M1 P) (h : d_Md_writesRow_j66 v1 v2 v3 v4 v5 μ W6 Q) : JX 398 66 [jR 772, jR v1, jI v2, jI v3, jI v4, jI v5, g6] [] M P := by
  unfold d_Md_writesRow_j66 at h
  refine L_ps c398 (n := 2) (pc1 := 6) (ls1 := [jR 772, jR v1, jI v2, jI v3, jI v4, jI (wr (v5 + 1)), g6]) (st1 := []) rfl ?_
  exact hW6 _ _ _ _ _ hM h
theorem k_Md_writesRow_b6 {E : JE2} {v1 : Nat} {v2 : Int} {v3 : Int} {v4 : Int} {v5 : Int} {μ : Mem} {M : JM} {P : JO → JM → Prop} {g6 : JV} {W6 : Int → Int → Mem → Prop} {Q : Mem → Prop} (hv1 : rt v1 = 100) (hM : Rl E M μ) (hQ : ∀ (M1 : JM) (μ1 : Mem), Rl E M1 μ1 → Q μ1 → P (.inl none) M1) (hW6 : ∀ (v4 : Int) (v5 : Int) (g6 : JV) (M1 : JM) (μ1 : Mem), Rl E M1 μ1 → W6 v4 v5 μ1 → JX 398 6 [jR 772, jR v1, jI v2, jI v3, jI v4, jI v5, g6] [] M1 P) (h : d_Md_writesRow_b6 v1 v2 v3 v4 v5 μ W6 Q) : JX 398 6 [jR 772, jR v1, jI v2, jI v3, jI v4, jI v5, g6] [] M P := by
  unfold d_Md_writesRow_b6 at h
  refine L_ps c398 (n := 4) (pc1 := 11) (ls1 := [jR 772, jR v1, jI v2, jI v3, jI v4, jI v5, g6]) (st1 := [jI (wr (v2 + v3)), jI v5]) rfl ?_
  refine L_nb (p1 := 72) (p2 := 14) (c398 11 rfl) rfl jc_ge h (fun h => ?_) (fun h => ?_)
  · refine L_ps c398 (n := 3) (pc1 := 18) (ls1 := [jR 772, jR v1, jI v2, jI v3, jI v4, jI v5, g6]) (st1 := [jI v5, jR v1, jR 772]) rfl ?_
    obtain ⟨hb, h⟩ := h
    refine L_iald (c398 18 rfl) hM hv1 rfl hb ?_
    refine L_cV (c398 19 rfl) (js_v rfl ((Rl_tag hM rt772 (by decide)).trans js399)) hh398 (k_Md_writesNode hM h) (fun M μ2 hM h => ?_) (fun _ _ _ _ f => f.elim)
    refine L_ps c398 (n := 3) (pc1 := 26) (ls1 := [jR 772, jR v1, jI v2, jI v3, jI v4, jI v5, g6]) (st1 := [jI v5, jR v1, jR 772]) rfl ?_
    obtain ⟨hb, h⟩ := h
    refine L_iald (c398 26 rfl) hM hv1 rfl hb ?_
    refine L_cpI (c398 27 rfl) (js_v rfl ((Rl_tag hM rt772 (by decide)).trans js312)) hh398 (k_Md_arityOf hM h) (fun r3 M hM h => ?_) (fun _ _ _ _ f => f.elim)
    refine L_ps c398 (n := 2) (pc1 := 34) (ls1 := [jR 772, jR v1, jI v2, jI v3, jI v4, jI v5, jI r3]) (st1 := [jI r3]) rfl ?_
    refine L_nb (p1 := 48) (p2 := 37) (c398 34 rfl) rfl jc_ne h (fun h => ?_) (fun h => ?_)
    · refine L_ps c398 (n := 2) (pc1 := 40) (ls1 := [jR 772, jR v1, jI v2, jI v3, jI v4, jI v5, jI r3]) (st1 := [jI v4, jR 772]) rfl ?_
      refine L_cI (c398 40 rfl) (js_v rfl ((Rl_tag hM rt772 (by decide)).trans js401)) hh398 (k_Md_closesNodes hM h) (fun r5 M μ6 hM h => ?_) (fun _ _ _ _ f => f.elim)
      refine L_ps c398 (n := 2) (pc1 := 66) (ls1 := [jR 772, jR v1, jI v2, jI v3, jI r5, jI v5, jI r3]) (st1 := []) rfl ?_
      exact k_Md_writesRow_j66 hv1 hM hQ hW6 h
    · refine L_ps c398 (n := 2) (pc1 := 51) (ls1 := [jR 772, jR v1, jI v2, jI v3, jI v4, jI v5, jI r3]) (st1 := [jI 40, jR 772]) rfl ?_
      refine L_cV (c398 51 rfl) (js_v rfl ((Rl_tag hM rt772 (by decide)).trans js400)) hh398 (k_Md_writesByte hM h) (fun M μ8 hM h => ?_) (fun _ _ _ _ f => f.elim)
      refine L_ps c398 (n := 1) (pc1 := 55) (ls1 := [jR 772, jR v1, jI v2, jI v3, jI v4, jI v5, jI r3]) (st1 := [jR 772]) rfl ?_
      refine L_getP (d := 7) (c398 55 rfl) hM rt772 rfl ?_
      refine L_ps c398 (n := 2) (pc1 := 62) (ls1 := [jR 772, jR v1, jI v2, jI v3, jI v4, jI v5, jI r3]) (st1 := [jI r3, jI v4, jR 779]) rfl ?_
      obtain ⟨hb, h⟩ := h
      refine L_iast (c398 62 rfl) hM rt779 ln779 hb (fun M hM => ?_)
      refine L_ps c398 (n := 1) (pc1 := 66) (ls1 := [jR 772, jR v1, jI v2, jI v3, jI (wr (v4 + 1)), jI v5, jI r3]) (st1 := []) rfl ?_
      exact k_Md_writesRow_j66 hv1 hM hQ hW6 h
  · exact L_end (c398 72 rfl) rfl (hQ _ _ hM h)
theorem k_Md_writesRow_l6 {E : JE2} {v1 : Nat} {v2 : Int} {v3 : Int} {v4 : Int} {v5 : Int} {μ : Mem} {M : JM} {P : JO → JM → Prop} {g6 : JV} {Q : Mem → Prop} (hv1 : rt v1 = 100) (hM : Rl E M μ) (hQ : ∀ (M1 : JM) (μ1 : Mem), Rl E M1 μ1 → Q μ1 → P (.inl none) M1) (h : d_Md_writesRow_l6 v1 v2 v3 v4 v5 μ Q) : JX 398 6 [jR 772, jR v1, jI v2, jI v3, jI v4, jI v5, g6] [] M P := by
  refine h (fun v4 v5 μ => ∀ (g6 : JV) (M : JM), Rl E M μ → JX 398 6 [jR 772, jR v1, jI v2, jI v3, jI v4, jI v5, g6] [] M P) ?_ _ _ hM
  intro v4 v5 μ h g6 M hM
  exact k_Md_writesRow_b6 hv1 hM hQ (fun v4 v5 g6 M μ hM h => h g6 M hM) h
theorem k_Md_writesRow {E : JE2} {v1 : Nat} {v2 : Int} {v3 : Int} {μ : Mem} {M : JM} {Q : Mem → Prop} (hv1 : rt v1 = 100) (hM : Rl E M μ) (h : d_Md_writesRow v1 v2 v3 μ Q) : JX 398 0 (jargs 398 [jR 772, jR v1, jI v2, jI v3]) [] M (PO E (QV Q) XN) := by
  unfold d_Md_writesRow at h
  show JX 398 0 [jR 772, jR v1, jI v2, jI v3, jU, jU, jU] [] M (PO E (QV Q) XN)
  generalize hP : PO E (QV Q) XN = P
  have hQ : ∀ (M1 : JM) (μ1 : Mem), Rl E M1 μ1 → Q μ1 → P (.inl none) M1 := by rw [← hP]; exact fun M1 μ1 a b => ⟨μ1, a, rfl, b⟩
  clear hP
  refine L_ps c398 (n := 4) (pc1 := 6) (ls1 := [jR 772, jR v1, jI v2, jI v3, jI 0, jI v2, jU]) (st1 := []) rfl ?_
  exact k_Md_writesRow_l6 hv1 hM hQ h
theorem k_Md_writeTerm {E : JE2} {v1 : Int} {μ : Mem} {M : JM} {Q : Int → Mem → Prop} (hM : Rl E M μ) (h : d_Md_writeTerm v1 μ Q) : JX 397 0 (jargs 397 [jR 772, jI v1]) [] M (PO E (QI Q) XN) := by
  unfold d_Md_writeTerm at h
  show JX 397 0 [jR 772, jI v1] [] M (PO E (QI Q) XN)
  generalize hP : PO E (QI Q) XN = P
  have hQ : ∀ (r : Int) (M1 : JM) (μ1 : Mem), Rl E M1 μ1 → Q r μ1 → P (.inl (some (.inl r))) M1 := by rw [← hP]; exact fun r M1 μ1 a b => ⟨μ1, a, r, rfl, b⟩
  clear hP
  refine L_ps c397 (n := 2) (pc1 := 2) (ls1 := [jR 772, jI v1]) (st1 := [jI v1, jR 772]) rfl ?_
  refine L_cB (c397 2 rfl) (js_v rfl ((Rl_tag hM rt772 (by decide)).trans js340)) hh397 (k_Md_mayTerm hM h) (fun r1 M μ2 hM h => ?_) (fun _ _ _ _ f => f.elim)
  refine L_br (p1 := 10) (p2 := 8) (c397 5 rfl) rfl jc_neb h (fun h => ?_) (fun h => ?_)
  · refine L_ps c397 (n := 2) (pc1 := 12) (ls1 := [jR 772, jI v1]) (st1 := [jI 0, jR 772]) rfl ?_
    refine L_putI (c397 12 rfl) hM rt772 rfl (fun M hM => ?_)
    refine L_ps c397 (n := 2) (pc1 := 17) (ls1 := [jR 772, jI v1]) (st1 := [jR 772, jR 772]) rfl ?_
    refine L_getP (d := 1) (c397 17 rfl) hM rt772 rfl ?_
    refine L_ps c397 (n := 9) (pc1 := 32) (ls1 := [jR 772, jI v1]) (st1 := [jI v1, jR 772, jI (wr ((wr (223 + (wr (81 * v1)))) + 1)), jR 773, jR 772]) rfl ?_
    refine L_cpI (c397 32 rfl) (js_v rfl ((Rl_tag hM rt772 (by decide)).trans js294)) hh397 (k_Md_sizeOf hM h) (fun r3 M hM h => ?_) (fun _ _ _ _ f => f.elim)
    refine L_cV (c397 35 rfl) (js_v rfl ((Rl_tag hM rt772 (by decide)).trans js398)) hh397 (k_Md_writesRow rt773 hM h) (fun M μ6 hM h => ?_) (fun _ _ _ _ f => f.elim)
    refine L_ps c397 (n := 1) (pc1 := 39) (ls1 := [jR 772, jI v1]) (st1 := [jR 772]) rfl ?_
    refine L_getI (c397 39 rfl) hM rt772 rfl ?_
    exact L_retI (c397 42 rfl) (hQ _ _ _ hM h)
  · refine L_ps c397 (n := 1) (pc1 := 9) (ls1 := [jR 772, jI v1]) (st1 := [jI 0]) rfl ?_
    exact L_retI (c397 9 rfl) (hQ _ _ _ hM h)
theorem k_Md_writeRule {E : JE2} {v1 : Int} {μ : Mem} {M : JM} {Q : Int → Mem → Prop} (hM : Rl E M μ) (h : d_Md_writeRule v1 μ Q) : JX 402 0 (jargs 402 [jR 772, jI v1]) [] M (PO E (QI Q) XN) := by
  unfold d_Md_writeRule at h
  show JX 402 0 [jR 772, jI v1] [] M (PO E (QI Q) XN)
  generalize hP : PO E (QI Q) XN = P
  have hQ : ∀ (r : Int) (M1 : JM) (μ1 : Mem), Rl E M1 μ1 → Q r μ1 → P (.inl (some (.inl r))) M1 := by rw [← hP]; exact fun r M1 μ1 a b => ⟨μ1, a, r, rfl, b⟩
  clear hP
  refine L_ps c402 (n := 2) (pc1 := 2) (ls1 := [jR 772, jI v1]) (st1 := [jI v1, jR 772]) rfl ?_
  refine L_cB (c402 2 rfl) (js_v rfl ((Rl_tag hM rt772 (by decide)).trans js330)) hh402 (k_Md_mayRule hM h) (fun r1 M μ2 hM h => ?_) (fun _ _ _ _ f => f.elim)
  refine L_br (p1 := 10) (p2 := 8) (c402 5 rfl) rfl jc_neb h (fun h => ?_) (fun h => ?_)
  · refine L_ps c402 (n := 2) (pc1 := 12) (ls1 := [jR 772, jI v1]) (st1 := [jI 0, jR 772]) rfl ?_
    refine L_putI (c402 12 rfl) hM rt772 rfl (fun M hM => ?_)
    refine L_ps c402 (n := 2) (pc1 := 17) (ls1 := [jR 772, jI v1]) (st1 := [jR 772, jR 772]) rfl ?_
    refine L_getP (d := 1) (c402 17 rfl) hM rt772 rfl ?_
    refine L_ps c402 (n := 10) (pc1 := 32) (ls1 := [jR 772, jI v1]) (st1 := [jI 0, jI v1, jR 772, jI (wr ((wr (67 + (wr (26 * v1)))) + 2)), jR 773, jR 772]) rfl ?_
    refine L_cpI (c402 32 rfl) (js_v rfl ((Rl_tag hM rt772 (by decide)).trans js298)) hh402 (k_Md_ofRule hM h) (fun r3 M hM h => ?_) (fun _ _ _ _ f => f.elim)
    refine L_cV (c402 35 rfl) (js_v rfl ((Rl_tag hM rt772 (by decide)).trans js398)) hh402 (k_Md_writesRow rt773 hM h) (fun M μ6 hM h => ?_) (fun _ _ _ _ f => f.elim)
    refine L_ps c402 (n := 2) (pc1 := 41) (ls1 := [jR 772, jI v1]) (st1 := [jI 61, jR 772]) rfl ?_
    refine L_cV (c402 41 rfl) (js_v rfl ((Rl_tag hM rt772 (by decide)).trans js400)) hh402 (k_Md_writesByte hM h) (fun M μ8 hM h => ?_) (fun _ _ _ _ f => f.elim)
    refine L_ps c402 (n := 2) (pc1 := 46) (ls1 := [jR 772, jI v1]) (st1 := [jR 772, jR 772]) rfl ?_
    refine L_getP (d := 1) (c402 46 rfl) hM rt772 rfl ?_
    refine L_ps c402 (n := 10) (pc1 := 62) (ls1 := [jR 772, jI v1]) (st1 := [jI 1, jI v1, jR 772, jI (wr ((wr (67 + (wr (26 * v1)))) + 14)), jR 773, jR 772]) rfl ?_
    refine L_cpI (c402 62 rfl) (js_v rfl ((Rl_tag hM rt772 (by decide)).trans js298)) hh402 (k_Md_ofRule hM h) (fun r9 M hM h => ?_) (fun _ _ _ _ f => f.elim)
    refine L_cV (c402 65 rfl) (js_v rfl ((Rl_tag hM rt772 (by decide)).trans js398)) hh402 (k_Md_writesRow rt773 hM h) (fun M μ12 hM h => ?_) (fun _ _ _ _ f => f.elim)
    refine L_ps c402 (n := 1) (pc1 := 69) (ls1 := [jR 772, jI v1]) (st1 := [jR 772]) rfl ?_
    refine L_getI (c402 69 rfl) hM rt772 rfl ?_
    exact L_retI (c402 72 rfl) (hQ _ _ _ hM h)
  · refine L_ps c402 (n := 1) (pc1 := 9) (ls1 := [jR 772, jI v1]) (st1 := [jI 0]) rfl ?_
    exact L_retI (c402 9 rfl) (hQ _ _ _ hM h)
theorem k_Md_writeNormalForm {E : JE2} {v1 : Int} {μ : Mem} {M : JM} {Q : Int → Mem → Prop} (hM : Rl E M μ) (h : d_Md_writeNormalForm v1 μ Q) : JX 403 0 (jargs 403 [jR 772, jI v1]) [] M (PO E (QI Q) XN) := by
  unfold d_Md_writeNormalForm at h
  show JX 403 0 [jR 772, jI v1] [] M (PO E (QI Q) XN)
  generalize hP : PO E (QI Q) XN = P
  have hQ : ∀ (r : Int) (M1 : JM) (μ1 : Mem), Rl E M1 μ1 → Q r μ1 → P (.inl (some (.inl r))) M1 := by rw [← hP]; exact fun r M1 μ1 a b => ⟨μ1, a, r, rfl, b⟩
  clear hP
  refine L_ps c403 (n := 2) (pc1 := 2) (ls1 := [jR 772, jI v1]) (st1 := [jI v1, jR 772]) rfl ?_
  refine L_cB (c403 2 rfl) (js_v rfl ((Rl_tag hM rt772 (by decide)).trans js340)) hh403 (k_Md_mayTerm hM h) (fun r1 M μ2 hM h => ?_) (fun _ _ _ _ f => f.elim)
  refine L_br (p1 := 10) (p2 := 8) (c403 5 rfl) rfl jc_neb h (fun h => ?_) (fun h => ?_)
  · refine L_ps c403 (n := 2) (pc1 := 12) (ls1 := [jR 772, jI v1]) (st1 := [jI 0, jR 772]) rfl ?_
    refine L_putI (c403 12 rfl) hM rt772 rfl (fun M hM => ?_)
    refine L_ps c403 (n := 3) (pc1 := 18) (ls1 := [jR 772, jI v1]) (st1 := [jI 1, jI v1, jR 772]) rfl ?_
    refine L_cI (c403 18 rfl) (js_v rfl ((Rl_tag hM rt772 (by decide)).trans js365)) hh403 (k_Md_stepsOf hM h) (fun r3 M μ4 hM h => ?_) (fun _ _ _ _ f => f.elim)
    refine L_ps c403 (n := 1) (pc1 := 22) (ls1 := [jR 772, jI v1]) (st1 := [jI (-1), jI r3]) rfl ?_
    refine L_nb (p1 := 34) (p2 := 25) (c403 22 rfl) rfl jc_ne h (fun h => ?_) (fun h => ?_)
    · refine L_ps c403 (n := 2) (pc1 := 28) (ls1 := [jR 772, jI v1]) (st1 := [jI 63, jR 772]) rfl ?_
      refine L_cV (c403 28 rfl) (js_v rfl ((Rl_tag hM rt772 (by decide)).trans js400)) hh403 (k_Md_writesByte hM h) (fun M μ6 hM h => ?_) (fun _ _ _ _ f => f.elim)
      refine L_ps c403 (n := 2) (pc1 := 48) (ls1 := [jR 772, jI v1]) (st1 := [jR 772]) rfl ?_
      refine L_getI (c403 48 rfl) hM rt772 rfl ?_
      exact L_retI (c403 51 rfl) (hQ _ _ _ hM h)
    · refine L_ps c403 (n := 2) (pc1 := 36) (ls1 := [jR 772, jI v1]) (st1 := [jR 772, jR 772]) rfl ?_
      refine L_getP (d := 8) (c403 36 rfl) hM rt772 rfl ?_
      refine L_ps c403 (n := 2) (pc1 := 41) (ls1 := [jR 772, jI v1]) (st1 := [jR 772, jI 0, jR 780, jR 772]) rfl ?_
      refine L_getI (c403 41 rfl) hM rt772 rfl ?_
      refine L_cV (c403 44 rfl) (js_v rfl ((Rl_tag hM rt772 (by decide)).trans js398)) hh403 (k_Md_writesRow rt780 hM h) (fun M μ8 hM h => ?_) (fun _ _ _ _ f => f.elim)
      refine L_ps c403 (n := 1) (pc1 := 48) (ls1 := [jR 772, jI v1]) (st1 := [jR 772]) rfl ?_
      refine L_getI (c403 48 rfl) hM rt772 rfl ?_
      exact L_retI (c403 51 rfl) (hQ _ _ _ hM h)
  · refine L_ps c403 (n := 1) (pc1 := 9) (ls1 := [jR 772, jI v1]) (st1 := [jI 0]) rfl ?_
    exact L_retI (c403 9 rfl) (hQ _ _ _ hM h)
theorem k_Md_writePair {E : JE2} {v1 : Int} {μ : Mem} {M : JM} {Q : Int → Mem → Prop} (hM : Rl E M μ) (h : d_Md_writePair v1 μ Q) : JX 404 0 (jargs 404 [jR 772, jI v1]) [] M (PO E (QI Q) XN) := by
  unfold d_Md_writePair at h
  show JX 404 0 [jR 772, jI v1] [] M (PO E (QI Q) XN)
  generalize hP : PO E (QI Q) XN = P
  have hQ : ∀ (r : Int) (M1 : JM) (μ1 : Mem), Rl E M1 μ1 → Q r μ1 → P (.inl (some (.inl r))) M1 := by rw [← hP]; exact fun r M1 μ1 a b => ⟨μ1, a, r, rfl, b⟩
  clear hP
  refine L_ps c404 (n := 2) (pc1 := 2) (ls1 := [jR 772, jI v1]) (st1 := [jI v1, jR 772]) rfl ?_
  refine L_cB (c404 2 rfl) (js_v rfl ((Rl_tag hM rt772 (by decide)).trans js390)) hh404 (k_Md_mayPair hM h) (fun r1 M μ2 hM h => ?_) (fun _ _ _ _ f => f.elim)
  refine L_br (p1 := 10) (p2 := 8) (c404 5 rfl) rfl jc_neb h (fun h => ?_) (fun h => ?_)
  · refine L_ps c404 (n := 2) (pc1 := 12) (ls1 := [jR 772, jI v1]) (st1 := [jI 0, jR 772]) rfl ?_
    refine L_putI (c404 12 rfl) hM rt772 rfl (fun M hM => ?_)
    refine L_ps c404 (n := 2) (pc1 := 17) (ls1 := [jR 772, jI v1]) (st1 := [jR 772, jR 772]) rfl ?_
    refine L_getP (d := 20) (c404 17 rfl) hM rt772 rfl ?_
    refine L_ps c404 (n := 6) (pc1 := 27) (ls1 := [jR 772, jI v1]) (st1 := [jR 772, jI (wr ((wr (2 * v1)) * 80)), jR 792, jR 772]) rfl ?_
    refine L_getP (d := 19) (c404 27 rfl) hM rt772 rfl ?_
    refine L_ps c404 (n := 3) (pc1 := 33) (ls1 := [jR 772, jI v1]) (st1 := [jI (wr (2 * v1)), jR 791, jI (wr ((wr (2 * v1)) * 80)), jR 792, jR 772]) rfl ?_
    obtain ⟨hb, h⟩ := h
    refine L_iald (c404 33 rfl) hM rt791 ln791 hb ?_
    refine L_cV (c404 34 rfl) (js_v rfl ((Rl_tag hM rt772 (by decide)).trans js398)) hh404 (k_Md_writesRow rt792 hM h) (fun M μ4 hM h => ?_) (fun _ _ _ _ f => f.elim)
    refine L_ps c404 (n := 2) (pc1 := 40) (ls1 := [jR 772, jI v1]) (st1 := [jI 60, jR 772]) rfl ?_
    refine L_cV (c404 40 rfl) (js_v rfl ((Rl_tag hM rt772 (by decide)).trans js400)) hh404 (k_Md_writesByte hM h) (fun M μ6 hM h => ?_) (fun _ _ _ _ f => f.elim)
    refine L_ps c404 (n := 2) (pc1 := 46) (ls1 := [jR 772, jI v1]) (st1 := [jI 62, jR 772]) rfl ?_
    refine L_cV (c404 46 rfl) (js_v rfl ((Rl_tag hM rt772 (by decide)).trans js400)) hh404 (k_Md_writesByte hM h) (fun M μ8 hM h => ?_) (fun _ _ _ _ f => f.elim)
    refine L_ps c404 (n := 2) (pc1 := 51) (ls1 := [jR 772, jI v1]) (st1 := [jR 772, jR 772]) rfl ?_
    refine L_getP (d := 20) (c404 51 rfl) hM rt772 rfl ?_
    refine L_ps c404 (n := 8) (pc1 := 63) (ls1 := [jR 772, jI v1]) (st1 := [jR 772, jI (wr ((wr ((wr (2 * v1)) + 1)) * 80)), jR 792, jR 772]) rfl ?_
    refine L_getP (d := 19) (c404 63 rfl) hM rt772 rfl ?_
    refine L_ps c404 (n := 5) (pc1 := 71) (ls1 := [jR 772, jI v1]) (st1 := [jI (wr ((wr (2 * v1)) + 1)), jR 791, jI (wr ((wr ((wr (2 * v1)) + 1)) * 80)), jR 792, jR 772]) rfl ?_
    obtain ⟨hb, h⟩ := h
    refine L_iald (c404 71 rfl) hM rt791 ln791 hb ?_
    refine L_cV (c404 72 rfl) (js_v rfl ((Rl_tag hM rt772 (by decide)).trans js398)) hh404 (k_Md_writesRow rt792 hM h) (fun M μ10 hM h => ?_) (fun _ _ _ _ f => f.elim)
    refine L_ps c404 (n := 1) (pc1 := 76) (ls1 := [jR 772, jI v1]) (st1 := [jR 772]) rfl ?_
    refine L_getI (c404 76 rfl) hM rt772 rfl ?_
    exact L_retI (c404 79 rfl) (hQ _ _ _ hM h)
  · refine L_ps c404 (n := 1) (pc1 := 9) (ls1 := [jR 772, jI v1]) (st1 := [jI 0]) rfl ?_
    exact L_retI (c404 9 rfl) (hQ _ _ _ hM h)
theorem k_Md_outputByte {E : JE2} {v1 : Int} {μ : Mem} {M : JM} {Q : Int → Mem → Prop} (hM : Rl E M μ) (h : d_Md_outputByte v1 μ Q) : JX 405 0 (jargs 405 [jR 772, jI v1]) [] M (PO E (QI Q) XN) := by
  unfold d_Md_outputByte at h
  show JX 405 0 [jR 772, jI v1] [] M (PO E (QI Q) XN)
  generalize hP : PO E (QI Q) XN = P
  have hQ : ∀ (r : Int) (M1 : JM) (μ1 : Mem), Rl E M1 μ1 → Q r μ1 → P (.inl (some (.inl r))) M1 := by rw [← hP]; exact fun r M1 μ1 a b => ⟨μ1, a, r, rfl, b⟩
  clear hP
  refine L_ps c405 (n := 4) (pc1 := 4) (ls1 := [jR 772, jI v1]) (st1 := [jR 772, jI 0, jI v1, jR 772]) rfl ?_
  refine L_getI (c405 4 rfl) hM rt772 rfl ?_
  refine L_ps c405 (n := 2) (pc1 := 9) (ls1 := [jR 772, jI v1]) (st1 := [jI (wr ((μ 772 44) - 1)), jI 0, jI v1, jR 772]) rfl ?_
  refine L_cpB (c405 9 rfl) (js_t rfl) hh405 (k_Md_in hM h) (fun r1 M hM h => ?_) (fun _ _ _ _ f => f.elim)
  refine L_ps c405 (n := 2) (pc1 := 14) (ls1 := [jR 772, jI v1]) (st1 := [jI 1, jI 1, jI (b2i r1), jR 772]) rfl ?_
  refine L_cB (c405 14 rfl) (js_v rfl ((Rl_tag hM rt772 (by decide)).trans js266)) hh405 (k_Md_may hM h) (fun r3 M μ4 hM h => ?_) (fun _ _ _ _ f => f.elim)
  refine L_nb (p1 := 29) (p2 := 20) (c405 17 rfl) rfl jc_eqb h (fun h => ?_) (fun h => ?_)
  · refine L_ps c405 (n := 1) (pc1 := 21) (ls1 := [jR 772, jI v1]) (st1 := [jR 772]) rfl ?_
    refine L_getP (d := 22) (c405 21 rfl) hM rt772 rfl ?_
    refine L_ps c405 (n := 1) (pc1 := 25) (ls1 := [jR 772, jI v1]) (st1 := [jI v1, jR 794]) rfl ?_
    obtain ⟨hb, h⟩ := h
    refine L_bald (c405 25 rfl) hM (Or.inl rt794) ln794 hb ?_
    refine L_ps c405 (n := 1) (pc1 := 30) (ls1 := [jR 772, jI v1]) (st1 := [jI (μ4 794 v1.toNat)]) rfl ?_
    exact L_retI (c405 30 rfl) (hQ _ _ _ hM h)
  · refine L_ps c405 (n := 1) (pc1 := 30) (ls1 := [jR 772, jI v1]) (st1 := [jI 0]) rfl ?_
    exact L_retI (c405 30 rfl) (hQ _ _ _ hM h)
theorem k_Md_canRewrite {E : JE2} {v1 : Int} {v2 : Int} {v3 : Int} {μ : Mem} {M : JM} {Q : Bool → Mem → Prop} (hM : Rl E M μ) (h : d_Md_canRewrite v1 v2 v3 μ Q) : JX 407 0 (jargs 407 [jR 772, jI v1, jI v2, jI v3]) [] M (PO E (QB Q) XN) := by
  unfold d_Md_canRewrite at h
  show JX 407 0 [jR 772, jI v1, jI v2, jI v3] [] M (PO E (QB Q) XN)
  generalize hP : PO E (QB Q) XN = P
  have hQ : ∀ (r : Bool) (M1 : JM) (μ1 : Mem), Rl E M1 μ1 → Q r μ1 → P (.inl (some (.inl (b2i r)))) M1 := by rw [← hP]; exact fun r M1 μ1 a b => ⟨μ1, a, r, rfl, b⟩
  clear hP
  refine L_ps c407 (n := 2) (pc1 := 2) (ls1 := [jR 772, jI v1, jI v2, jI v3]) (st1 := [jI v2, jR 772]) rfl ?_
  refine L_cV (c407 2 rfl) (js_v rfl ((Rl_tag hM rt772 (by decide)).trans js293)) hh407 (k_Md_lends hM h) (fun M μ2 hM h => ?_) (fun _ _ _ _ f => f.elim)
  refine L_ps c407 (n := 3) (pc1 := 8) (ls1 := [jR 772, jI v1, jI v2, jI v3]) (st1 := [jI v3, jI v1, jR 772]) rfl ?_
  refine L_cB (c407 8 rfl) (js_v rfl ((Rl_tag hM rt772 (by decide)).trans js309)) hh407 (k_Md_matchesAt hM h) (fun r3 M μ4 hM h => ?_) (fun _ _ _ _ f => f.elim)
  refine L_nb (p1 := 27) (p2 := 14) (c407 11 rfl) rfl jc_eqb h (fun h => ?_) (fun h => ?_)
  · refine L_ps c407 (n := 3) (pc1 := 17) (ls1 := [jR 772, jI v1, jI v2, jI v3]) (st1 := [jI v3, jI v1, jR 772]) rfl ?_
    refine L_cB (c407 17 rfl) (js_v rfl ((Rl_tag hM rt772 (by decide)).trans js315)) hh407 (k_Md_rewritesAt hM h) (fun r5 M μ6 hM h => ?_) (fun _ _ _ _ f => f.elim)
    refine L_nb (p1 := 27) (p2 := 23) (c407 20 rfl) rfl jc_eqb h (fun h => ?_) (fun h => ?_)
    · refine L_ps c407 (n := 2) (pc1 := 28) (ls1 := [jR 772, jI v1, jI v2, jI v3]) (st1 := [jI 1]) rfl ?_
      exact L_retB (c407 28 rfl) (Or.inr rfl) (hQ true _ _ hM h)
    · refine L_ps c407 (n := 1) (pc1 := 28) (ls1 := [jR 772, jI v1, jI v2, jI v3]) (st1 := [jI 0]) rfl ?_
      exact L_retB (c407 28 rfl) (Or.inl rfl) (hQ false _ _ hM h)
  · refine L_ps c407 (n := 1) (pc1 := 28) (ls1 := [jR 772, jI v1, jI v2, jI v3]) (st1 := [jI 0]) rfl ?_
    exact L_retB (c407 28 rfl) (Or.inl rfl) (hQ false _ _ hM h)
theorem k_Md_remembers_j37 {E : JE2} {μ : Mem} {M : JM} {P : JO → JM → Prop} {Q : Mem → Prop} (hM : Rl E M μ) (hQ : ∀ (M1 : JM) (μ1 : Mem), Rl E M1 μ1 → Q μ1 → P (.inl none) M1) (h : d_Md_remembers_j37 μ Q) : JX 409 37 [jR 772] [] M P := by
  unfold d_Md_remembers_j37 at h
  refine L_ps c409 (n := 1) (pc1 := 38) (ls1 := [jR 772]) (st1 := [jR 772]) rfl ?_
  refine L_getP (d := 1) (c409 38 rfl) hM rt772 rfl ?_
  refine L_ps c409 (n := 2) (pc1 := 43) (ls1 := [jR 772]) (st1 := [jR 772, jI 0, jR 773]) rfl ?_
  refine L_getP (d := 3) (c409 43 rfl) hM rt772 rfl ?_
  refine L_ps c409 (n := 1) (pc1 := 47) (ls1 := [jR 772]) (st1 := [jR 772, jR 775, jI 0, jR 773]) rfl ?_
  refine L_getI (c409 47 rfl) hM rt772 rfl ?_
  refine L_ps c409 (n := 3) (pc1 := 57) (ls1 := [jR 772]) (st1 := [jI 709, jI (wr ((μ 772 7) * 709)), jR 775, jI 0, jR 773]) rfl ?_
  refine L_cV (c409 57 rfl) (js_t rfl) hh409 (k_Md_lays rt773 rt775 hM h) (fun M μ4 hM h => ?_) (fun _ _ _ _ f => f.elim)
  refine L_ps c409 (n := 2) (pc1 := 62) (ls1 := [jR 772]) (st1 := [jR 772, jR 772]) rfl ?_
  refine L_getI (c409 62 rfl) hM rt772 rfl ?_
  refine L_ps c409 (n := 2) (pc1 := 67) (ls1 := [jR 772]) (st1 := [jI (wr ((μ4 772 7) + 1)), jR 772]) rfl ?_
  refine L_putI (c409 67 rfl) hM rt772 rfl (fun M hM => ?_)
  exact L_end (c409 70 rfl) rfl (hQ _ _ hM h)
theorem k_Md_remembers {E : JE2} {μ : Mem} {M : JM} {Q : Mem → Prop} (hM : Rl E M μ) (h : d_Md_remembers μ Q) : JX 409 0 (jargs 409 [jR 772]) [] M (PO E (QV Q) XN) := by
  unfold d_Md_remembers at h
  show JX 409 0 [jR 772] [] M (PO E (QV Q) XN)
  generalize hP : PO E (QV Q) XN = P
  have hQ : ∀ (M1 : JM) (μ1 : Mem), Rl E M1 μ1 → Q μ1 → P (.inl none) M1 := by rw [← hP]; exact fun M1 μ1 a b => ⟨μ1, a, rfl, b⟩
  clear hP
  refine L_ps c409 (n := 1) (pc1 := 1) (ls1 := [jR 772]) (st1 := [jR 772]) rfl ?_
  refine L_getI (c409 1 rfl) hM rt772 rfl ?_
  refine L_ps c409 (n := 1) (pc1 := 6) (ls1 := [jR 772]) (st1 := [jI 8, jI (μ 772 7)]) rfl ?_
  refine L_nb (p1 := 37) (p2 := 9) (c409 6 rfl) rfl jc_ne h (fun h => ?_) (fun h => ?_)
  · refine L_ps c409 (n := 1) (pc1 := 10) (ls1 := [jR 772]) (st1 := [jR 772]) rfl ?_
    refine L_getP (d := 3) (c409 10 rfl) hM rt772 rfl ?_
    refine L_ps c409 (n := 2) (pc1 := 17) (ls1 := [jR 772]) (st1 := [jR 772, jI 709, jR 775]) rfl ?_
    refine L_getP (d := 3) (c409 17 rfl) hM rt772 rfl ?_
    refine L_ps c409 (n := 2) (pc1 := 24) (ls1 := [jR 772]) (st1 := [jI 4963, jI 0, jR 775, jI 709, jR 775]) rfl ?_
    refine L_cV (c409 24 rfl) (js_t rfl) hh409 (k_Md_lays rt775 rt775 hM h) (fun M μ2 hM h => ?_) (fun _ _ _ _ f => f.elim)
    refine L_ps c409 (n := 2) (pc1 := 29) (ls1 := [jR 772]) (st1 := [jR 772, jR 772]) rfl ?_
    refine L_getI (c409 29 rfl) hM rt772 rfl ?_
    refine L_ps c409 (n := 2) (pc1 := 34) (ls1 := [jR 772]) (st1 := [jI (wr ((μ2 772 7) - 1)), jR 772]) rfl ?_
    refine L_putI (c409 34 rfl) hM rt772 rfl (fun M hM => ?_)
    exact k_Md_remembers_j37 hM hQ h
  · exact k_Md_remembers_j37 hM hQ h
theorem k_Md_changes {E : JE2} {v1 : Int} {μ : Mem} {M : JM} {Q : Mem → Prop} (hM : Rl E M μ) (h : d_Md_changes v1 μ Q) : JX 408 0 (jargs 408 [jR 772, jI v1]) [] M (PO E (QV Q) XN) := by
  unfold d_Md_changes at h
  show JX 408 0 [jR 772, jI v1] [] M (PO E (QV Q) XN)
  generalize hP : PO E (QV Q) XN = P
  have hQ : ∀ (M1 : JM) (μ1 : Mem), Rl E M1 μ1 → Q μ1 → P (.inl none) M1 := by rw [← hP]; exact fun M1 μ1 a b => ⟨μ1, a, rfl, b⟩
  clear hP
  refine L_ps c408 (n := 1) (pc1 := 1) (ls1 := [jR 772, jI v1]) (st1 := [jR 772]) rfl ?_
  refine L_cV (c408 1 rfl) (js_v rfl ((Rl_tag hM rt772 (by decide)).trans js409)) hh408 (k_Md_remembers hM h) (fun M μ2 hM h => ?_) (fun _ _ _ _ f => f.elim)
  refine L_ps c408 (n := 2) (pc1 := 6) (ls1 := [jR 772, jI v1]) (st1 := [jI v1, jR 772]) rfl ?_
  refine L_cV (c408 6 rfl) (js_v rfl ((Rl_tag hM rt772 (by decide)).trans js295)) hh408 (k_Md_stores hM h) (fun M μ4 hM h => ?_) (fun _ _ _ _ f => f.elim)
  exact L_end (c408 9 rfl) rfl (hQ _ _ hM h)
theorem k_Md_rewrite_j51 {E : JE2} {v2 : Int} {t1 : Int} {t2 : Int} {t3 : Int} {μ : Mem} {M : JM} {P : JO → JM → Prop} {g1 : JV} {g3 : JV} {g4 : JV} {Q : Int → Mem → Prop} (hg3 : jc2 g3 = false) (hM : Rl E M μ) (hQ : ∀ (r : Int) (M1 : JM) (μ1 : Mem), Rl E M1 μ1 → Q r μ1 → P (.inl (some (.inl r))) M1) (h : d_Md_rewrite_j51 v2 t1 t2 t3 μ Q) : JX 406 51 [jR 772, g1, jI v2, g3, g4] [jI t3, jI t2, jI t1, jR 772] M P := by
  unfold d_Md_rewrite_j51 at h
  refine L_cB (c406 51 rfl) (js_v rfl ((Rl_tag hM rt772 (by decide)).trans js266)) hh406 (k_Md_may hM h) (fun r5 M μ6 hM h => ?_) (fun _ _ _ _ f => f.elim)
  refine L_br (p1 := 59) (p2 := 57) (c406 54 rfl) rfl jc_neb h (fun h => ?_) (fun h => ?_)
  · refine L_ps c406 (n := 2) (pc1 := 61) (ls1 := [jR 772, g1, jI v2, g3, g4]) (st1 := [jI v2, jR 772]) rfl ?_
    refine L_cV (c406 61 rfl) (js_v rfl ((Rl_tag hM rt772 (by decide)).trans js408)) hh406 (k_Md_changes hM h) (fun M μ8 hM h => ?_) (fun _ _ _ _ f => f.elim)
    refine L_ps c406 (n := 1) (pc1 := 65) (ls1 := [jR 772, g1, jI v2, g3, g4]) (st1 := [jR 772]) rfl ?_
    refine L_getI (c406 65 rfl) hM rt772 rfl ?_
    exact L_retI (c406 68 rfl) (hQ _ _ _ hM h)
  · refine L_ps c406 (n := 1) (pc1 := 58) (ls1 := [jR 772, g1, jI v2, g3, g4]) (st1 := [jI 0]) rfl ?_
    exact L_retI (c406 58 rfl) (hQ _ _ _ hM h)
theorem k_Md_rewrite_j50 {E : JE2} {v2 : Int} {t1 : Int} {t2 : Int} {μ : Mem} {M : JM} {P : JO → JM → Prop} {g1 : JV} {g3 : JV} {g4 : JV} {Q : Int → Mem → Prop} (hg3 : jc2 g3 = false) (hM : Rl E M μ) (hQ : ∀ (r : Int) (M1 : JM) (μ1 : Mem), Rl E M1 μ1 → Q r μ1 → P (.inl (some (.inl r))) M1) (h : d_Md_rewrite_j50 v2 t1 t2 μ Q) : JX 406 50 [jR 772, g1, jI v2, g3, g4] [jI t2, jI t1, jR 772] M P := by
  unfold d_Md_rewrite_j50 at h
  refine L_ps c406 (n := 1) (pc1 := 51) (ls1 := [jR 772, g1, jI v2, g3, g4]) (st1 := [jI 0, jI t2, jI t1, jR 772]) rfl ?_
  exact k_Md_rewrite_j51 hg3 hM hQ h
theorem k_Md_rewrite_j22 {E : JE2} {v1 : Int} {v2 : Int} {v3 : Int} {t0 : Int} {μ : Mem} {M : JM} {P : JO → JM → Prop} {g4 : JV} {Q : Int → Mem → Prop} (hM : Rl E M μ) (hQ : ∀ (r : Int) (M1 : JM) (μ1 : Mem), Rl E M1 μ1 → Q r μ1 → P (.inl (some (.inl r))) M1) (h : d_Md_rewrite_j22 v1 v2 v3 t0 μ Q) : JX 406 22 [jR 772, jI v1, jI v2, jI v3, g4] [jI t0] M P := by
  unfold d_Md_rewrite_j22 at h
  refine L_ps c406 (n := 3) (pc1 := 26) (ls1 := [jR 772, jI v1, jI v2, jI v3, jI t0]) (st1 := [jR 772, jR 772]) rfl ?_
  refine L_getI (c406 26 rfl) hM rt772 rfl ?_
  refine L_ps c406 (n := 2) (pc1 := 33) (ls1 := [jR 772, jI v1, jI v2, jI v3, jI t0]) (st1 := [jI t0, jI t0, jI (μ 772 6), jR 772]) rfl ?_
  refine L_br (p1 := 50) (p2 := 36) (c406 33 rfl) rfl jc_eq h (fun h => ?_) (fun h => ?_)
  · exact k_Md_rewrite_j50 rfl hM hQ h
  · refine L_ps c406 (n := 4) (pc1 := 40) (ls1 := [jR 772, jI v1, jI v2, jI v3, jI t0]) (st1 := [jI v3, jI v2, jI v1, jR 772, jI t0, jI (μ 772 6), jR 772]) rfl ?_
    refine L_cB (c406 40 rfl) (js_v rfl ((Rl_tag hM rt772 (by decide)).trans js407)) hh406 (k_Md_canRewrite hM h) (fun r9 M μ10 hM h => ?_) (fun _ _ _ _ f => f.elim)
    refine L_nb (p1 := 50) (p2 := 46) (c406 43 rfl) rfl jc_eqb h (fun h => ?_) (fun h => ?_)
    · refine L_ps c406 (n := 2) (pc1 := 51) (ls1 := [jR 772, jI v1, jI v2, jI v3, jI t0]) (st1 := [jI 1, jI t0, jI (μ 772 6), jR 772]) rfl ?_
      exact k_Md_rewrite_j51 rfl hM hQ h
    · exact k_Md_rewrite_j50 rfl hM hQ h
theorem k_Md_rewrite_j21 {E : JE2} {v1 : Int} {v2 : Int} {v3 : Int} {μ : Mem} {M : JM} {P : JO → JM → Prop} {g4 : JV} {Q : Int → Mem → Prop} (hM : Rl E M μ) (hQ : ∀ (r : Int) (M1 : JM) (μ1 : Mem), Rl E M1 μ1 → Q r μ1 → P (.inl (some (.inl r))) M1) (h : d_Md_rewrite_j21 v1 v2 v3 μ Q) : JX 406 21 [jR 772, jI v1, jI v2, jI v3, g4] [] M P := by
  unfold d_Md_rewrite_j21 at h
  refine L_ps c406 (n := 1) (pc1 := 22) (ls1 := [jR 772, jI v1, jI v2, jI v3, g4]) (st1 := [jI 0]) rfl ?_
  exact k_Md_rewrite_j22 hM hQ h
theorem k_Md_rewrite {E : JE2} {v1 : Int} {v2 : Int} {v3 : Int} {μ : Mem} {M : JM} {Q : Int → Mem → Prop} (hM : Rl E M μ) (h : d_Md_rewrite v1 v2 v3 μ Q) : JX 406 0 (jargs 406 [jR 772, jI v1, jI v2, jI v3]) [] M (PO E (QI Q) XN) := by
  unfold d_Md_rewrite at h
  show JX 406 0 [jR 772, jI v1, jI v2, jI v3, jU] [] M (PO E (QI Q) XN)
  generalize hP : PO E (QI Q) XN = P
  have hQ : ∀ (r : Int) (M1 : JM) (μ1 : Mem), Rl E M1 μ1 → Q r μ1 → P (.inl (some (.inl r))) M1 := by rw [← hP]; exact fun r M1 μ1 a b => ⟨μ1, a, r, rfl, b⟩
  clear hP
  refine L_ps c406 (n := 2) (pc1 := 2) (ls1 := [jR 772, jI v1, jI v2, jI v3, jU]) (st1 := [jI v1, jR 772]) rfl ?_
  refine L_cpB (c406 2 rfl) (js_v rfl ((Rl_tag hM rt772 (by decide)).trans js331)) hh406 (k_Md_isRule hM h) (fun r1 M hM h => ?_) (fun _ _ _ _ f => f.elim)
  refine L_nb (p1 := 21) (p2 := 8) (c406 5 rfl) rfl jc_eqb h (fun h => ?_) (fun h => ?_)
  · refine L_ps c406 (n := 3) (pc1 := 11) (ls1 := [jR 772, jI v1, jI v2, jI v3, jU]) (st1 := [jI v3, jI v2, jR 772]) rfl ?_
    refine L_cpB (c406 11 rfl) (js_v rfl ((Rl_tag hM rt772 (by decide)).trans js346)) hh406 (k_Md_isPosition hM h) (fun r3 M hM h => ?_) (fun _ _ _ _ f => f.elim)
    refine L_nb (p1 := 21) (p2 := 17) (c406 14 rfl) rfl jc_eqb h (fun h => ?_) (fun h => ?_)
    · refine L_ps c406 (n := 2) (pc1 := 22) (ls1 := [jR 772, jI v1, jI v2, jI v3, jU]) (st1 := [jI 1]) rfl ?_
      exact k_Md_rewrite_j22 hM hQ h
    · exact k_Md_rewrite_j21 hM hQ h
  · exact k_Md_rewrite_j21 hM hQ h
theorem k_Md_redexOf {E : JE2} {v1 : Int} {v2 : Int} {μ : Mem} {M : JM} {Q : Int → Mem → Prop} (hM : Rl E M μ) (h : d_Md_redexOf v1 v2 μ Q) : JX 412 0 (jargs 412 [jR 772, jI v1, jI v2]) [] M (PO E (QI Q) XN) := by
  unfold d_Md_redexOf at h
  show JX 412 0 [jR 772, jI v1, jI v2] [] M (PO E (QI Q) XN)
  generalize hP : PO E (QI Q) XN = P
  have hQ : ∀ (r : Int) (M1 : JM) (μ1 : Mem), Rl E M1 μ1 → Q r μ1 → P (.inl (some (.inl r))) M1 := by rw [← hP]; exact fun r M1 μ1 a b => ⟨μ1, a, r, rfl, b⟩
  clear hP
  refine L_ps c412 (n := 2) (pc1 := 2) (ls1 := [jR 772, jI v1, jI v2]) (st1 := [jI v1, jR 772]) rfl ?_
  refine L_cV (c412 2 rfl) (js_v rfl ((Rl_tag hM rt772 (by decide)).trans js293)) hh412 (k_Md_lends hM h) (fun M μ2 hM h => ?_) (fun _ _ _ _ f => f.elim)
  refine L_ps c412 (n := 2) (pc1 := 7) (ls1 := [jR 772, jI v1, jI v2]) (st1 := [jI v2, jR 772]) rfl ?_
  refine L_cI (c412 7 rfl) (js_v rfl ((Rl_tag hM rt772 (by decide)).trans js305)) hh412 (k_Md_redex hM h) (fun r3 M μ4 hM h => ?_) (fun _ _ _ _ f => f.elim)
  exact L_retI (c412 10 rfl) (hQ _ _ _ hM h)
theorem k_Md_stepsOnce_j48 {E : JE2} {v1 : Int} {v4 : Int} {t1 : Int} {t2 : Int} {t3 : Int} {μ : Mem} {M : JM} {P : JO → JM → Prop} {g2 : JV} {g3 : JV} {Q : Int → Mem → Prop} (hg2 : jc2 g2 = false) (hg3 : jc2 g3 = false) (hM : Rl E M μ) (hQ : ∀ (r : Int) (M1 : JM) (μ1 : Mem), Rl E M1 μ1 → Q r μ1 → P (.inl (some (.inl r))) M1) (h : d_Md_stepsOnce_j48 v1 v4 t1 t2 t3 μ Q) : JX 411 48 [jR 772, jI v1, g2, g3, jI v4] [jI t3, jI t2, jI t1, jR 772] M P := by
  unfold d_Md_stepsOnce_j48 at h
  refine L_cB (c411 48 rfl) (js_v rfl ((Rl_tag hM rt772 (by decide)).trans js266)) hh411 (k_Md_may hM h) (fun r5 M μ6 hM h => ?_) (fun _ _ _ _ f => f.elim)
  refine L_br (p1 := 56) (p2 := 54) (c411 51 rfl) rfl jc_neb h (fun h => ?_) (fun h => ?_)
  · refine L_ps c411 (n := 2) (pc1 := 58) (ls1 := [jR 772, jI v1, g2, g3, jI v4]) (st1 := [jI v1, jR 772]) rfl ?_
    refine L_cV (c411 58 rfl) (js_v rfl ((Rl_tag hM rt772 (by decide)).trans js408)) hh411 (k_Md_changes hM h) (fun M μ8 hM h => ?_) (fun _ _ _ _ f => f.elim)
    refine L_ps c411 (n := 1) (pc1 := 63) (ls1 := [jR 772, jI v1, g2, g3, jI v4]) (st1 := [jI v4]) rfl ?_
    exact L_retI (c411 63 rfl) (hQ _ _ _ hM h)
  · refine L_ps c411 (n := 1) (pc1 := 55) (ls1 := [jR 772, jI v1, g2, g3, jI v4]) (st1 := [jI 0]) rfl ?_
    exact L_retI (c411 55 rfl) (hQ _ _ _ hM h)
theorem k_Md_stepsOnce_j47 {E : JE2} {v1 : Int} {v4 : Int} {t1 : Int} {t2 : Int} {μ : Mem} {M : JM} {P : JO → JM → Prop} {g2 : JV} {g3 : JV} {Q : Int → Mem → Prop} (hg2 : jc2 g2 = false) (hg3 : jc2 g3 = false) (hM : Rl E M μ) (hQ : ∀ (r : Int) (M1 : JM) (μ1 : Mem), Rl E M1 μ1 → Q r μ1 → P (.inl (some (.inl r))) M1) (h : d_Md_stepsOnce_j47 v1 v4 t1 t2 μ Q) : JX 411 47 [jR 772, jI v1, g2, g3, jI v4] [jI t2, jI t1, jR 772] M P := by
  unfold d_Md_stepsOnce_j47 at h
  refine L_ps c411 (n := 1) (pc1 := 48) (ls1 := [jR 772, jI v1, g2, g3, jI v4]) (st1 := [jI 0, jI t2, jI t1, jR 772]) rfl ?_
  exact k_Md_stepsOnce_j48 hg2 hg3 hM hQ h
theorem k_Md_stepsOnce_j20 {E : JE2} {v1 : Int} {v3 : Int} {t0 : Int} {μ : Mem} {M : JM} {P : JO → JM → Prop} {g2 : JV} {g4 : JV} {Q : Int → Mem → Prop} (hg2 : jc2 g2 = false) (hM : Rl E M μ) (hQ : ∀ (r : Int) (M1 : JM) (μ1 : Mem), Rl E M1 μ1 → Q r μ1 → P (.inl (some (.inl r))) M1) (h : d_Md_stepsOnce_j20 v1 v3 t0 μ Q) : JX 411 20 [jR 772, jI v1, g2, jI v3, g4] [jI t0] M P := by
  unfold d_Md_stepsOnce_j20 at h
  refine L_ps c411 (n := 3) (pc1 := 24) (ls1 := [jR 772, jI v1, g2, jI v3, jI t0]) (st1 := [jR 772, jR 772]) rfl ?_
  refine L_getI (c411 24 rfl) hM rt772 rfl ?_
  refine L_ps c411 (n := 3) (pc1 := 31) (ls1 := [jR 772, jI v1, g2, jI v3, jI t0]) (st1 := [jI (-1), jI t0, jI v3, jI (μ 772 6), jR 772]) rfl ?_
  refine L_br (p1 := 47) (p2 := 34) (c411 31 rfl) rfl jc_eq h (fun h => ?_) (fun h => ?_)
  · exact k_Md_stepsOnce_j47 hg2 rfl hM hQ h
  · refine L_ps c411 (n := 2) (pc1 := 37) (ls1 := [jR 772, jI v1, g2, jI v3, jI t0]) (st1 := [jI t0, jR 772, jI v3, jI (μ 772 6), jR 772]) rfl ?_
    refine L_cB (c411 37 rfl) (js_v rfl ((Rl_tag hM rt772 (by decide)).trans js314)) hh411 (k_Md_stepsAt hM h) (fun r9 M μ10 hM h => ?_) (fun _ _ _ _ f => f.elim)
    refine L_nb (p1 := 47) (p2 := 43) (c411 40 rfl) rfl jc_eqb h (fun h => ?_) (fun h => ?_)
    · refine L_ps c411 (n := 2) (pc1 := 48) (ls1 := [jR 772, jI v1, g2, jI v3, jI t0]) (st1 := [jI 1, jI v3, jI (μ 772 6), jR 772]) rfl ?_
      exact k_Md_stepsOnce_j48 hg2 rfl hM hQ h
    · exact k_Md_stepsOnce_j47 hg2 rfl hM hQ h
theorem k_Md_stepsOnce {E : JE2} {v1 : Int} {v2 : Int} {μ : Mem} {M : JM} {Q : Int → Mem → Prop} (hM : Rl E M μ) (h : d_Md_stepsOnce v1 v2 μ Q) : JX 411 0 (jargs 411 [jR 772, jI v1, jI v2]) [] M (PO E (QI Q) XN) := by
  unfold d_Md_stepsOnce at h
  show JX 411 0 [jR 772, jI v1, jI v2, jU, jU] [] M (PO E (QI Q) XN)
  generalize hP : PO E (QI Q) XN = P
  have hQ : ∀ (r : Int) (M1 : JM) (μ1 : Mem), Rl E M1 μ1 → Q r μ1 → P (.inl (some (.inl r))) M1 := by rw [← hP]; exact fun r M1 μ1 a b => ⟨μ1, a, r, rfl, b⟩
  clear hP
  refine L_ps c411 (n := 2) (pc1 := 2) (ls1 := [jR 772, jI v1, jI v2, jU, jU]) (st1 := [jI v1, jR 772]) rfl ?_
  refine L_cpB (c411 2 rfl) (js_v rfl ((Rl_tag hM rt772 (by decide)).trans js341)) hh411 (k_Md_isTerm hM h) (fun r1 M hM h => ?_) (fun _ _ _ _ f => f.elim)
  refine L_ps c411 (n := 2) (pc1 := 7) (ls1 := [jR 772, jI v1, jI v2, jI (b2i r1), jU]) (st1 := [jI (b2i r1)]) rfl ?_
  refine L_nb (p1 := 19) (p2 := 10) (c411 7 rfl) rfl jc_eqb h (fun h => ?_) (fun h => ?_)
  · refine L_ps c411 (n := 3) (pc1 := 13) (ls1 := [jR 772, jI v1, jI v2, jI (b2i r1), jU]) (st1 := [jI v2, jI v1, jR 772]) rfl ?_
    refine L_cI (c411 13 rfl) (js_v rfl ((Rl_tag hM rt772 (by decide)).trans js412)) hh411 (k_Md_redexOf hM h) (fun r3 M μ4 hM h => ?_) (fun _ _ _ _ f => f.elim)
    refine L_ps c411 (n := 1) (pc1 := 20) (ls1 := [jR 772, jI v1, jI v2, jI (b2i r1), jU]) (st1 := [jI r3]) rfl ?_
    exact k_Md_stepsOnce_j20 rfl hM hQ h
  · refine L_ps c411 (n := 1) (pc1 := 20) (ls1 := [jR 772, jI v1, jI v2, jI (b2i r1), jU]) (st1 := [jI (-1)]) rfl ?_
    exact k_Md_stepsOnce_j20 rfl hM hQ h
theorem k_Md_stepInnermost {E : JE2} {v1 : Int} {μ : Mem} {M : JM} {Q : Int → Mem → Prop} (hM : Rl E M μ) (h : d_Md_stepInnermost v1 μ Q) : JX 410 0 (jargs 410 [jR 772, jI v1]) [] M (PO E (QI Q) XN) := by
  unfold d_Md_stepInnermost at h
  show JX 410 0 [jR 772, jI v1] [] M (PO E (QI Q) XN)
  generalize hP : PO E (QI Q) XN = P
  have hQ : ∀ (r : Int) (M1 : JM) (μ1 : Mem), Rl E M1 μ1 → Q r μ1 → P (.inl (some (.inl r))) M1 := by rw [← hP]; exact fun r M1 μ1 a b => ⟨μ1, a, r, rfl, b⟩
  clear hP
  refine L_ps c410 (n := 3) (pc1 := 3) (ls1 := [jR 772, jI v1]) (st1 := [jI 1, jI v1, jR 772]) rfl ?_
  refine L_cI (c410 3 rfl) (js_v rfl ((Rl_tag hM rt772 (by decide)).trans js411)) hh410 (k_Md_stepsOnce hM h) (fun r1 M μ2 hM h => ?_) (fun _ _ _ _ f => f.elim)
  exact L_retI (c410 6 rfl) (hQ _ _ _ hM h)
theorem k_Md_stepOutermost {E : JE2} {v1 : Int} {μ : Mem} {M : JM} {Q : Int → Mem → Prop} (hM : Rl E M μ) (h : d_Md_stepOutermost v1 μ Q) : JX 413 0 (jargs 413 [jR 772, jI v1]) [] M (PO E (QI Q) XN) := by
  unfold d_Md_stepOutermost at h
  show JX 413 0 [jR 772, jI v1] [] M (PO E (QI Q) XN)
  generalize hP : PO E (QI Q) XN = P
  have hQ : ∀ (r : Int) (M1 : JM) (μ1 : Mem), Rl E M1 μ1 → Q r μ1 → P (.inl (some (.inl r))) M1 := by rw [← hP]; exact fun r M1 μ1 a b => ⟨μ1, a, r, rfl, b⟩
  clear hP
  refine L_ps c413 (n := 3) (pc1 := 3) (ls1 := [jR 772, jI v1]) (st1 := [jI 0, jI v1, jR 772]) rfl ?_
  refine L_cI (c413 3 rfl) (js_v rfl ((Rl_tag hM rt772 (by decide)).trans js411)) hh413 (k_Md_stepsOnce hM h) (fun r1 M μ2 hM h => ?_) (fun _ _ _ _ f => f.elim)
  exact L_retI (c413 6 rfl) (hQ _ _ _ hM h)
theorem k_Md_normalize_j37 {E : JE2} {v1 : Int} {v3 : Int} {t1 : Int} {t2 : Int} {t3 : Int} {μ : Mem} {M : JM} {P : JO → JM → Prop} {g2 : JV} {Q : Int → Mem → Prop} (hg2 : jc2 g2 = false) (hM : Rl E M μ) (hQ : ∀ (r : Int) (M1 : JM) (μ1 : Mem), Rl E M1 μ1 → Q r μ1 → P (.inl (some (.inl r))) M1) (h : d_Md_normalize_j37 v1 v3 t1 t2 t3 μ Q) : JX 414 37 [jR 772, jI v1, g2, jI v3] [jI t3, jI t2, jI t1, jR 772] M P := by
  unfold d_Md_normalize_j37 at h
  refine L_cB (c414 37 rfl) (js_v rfl ((Rl_tag hM rt772 (by decide)).trans js266)) hh414 (k_Md_may hM h) (fun r5 M μ6 hM h => ?_) (fun _ _ _ _ f => f.elim)
  refine L_br (p1 := 45) (p2 := 43) (c414 40 rfl) rfl jc_neb h (fun h => ?_) (fun h => ?_)
  · refine L_ps c414 (n := 2) (pc1 := 47) (ls1 := [jR 772, jI v1, g2, jI v3]) (st1 := [jI v1, jR 772]) rfl ?_
    refine L_cV (c414 47 rfl) (js_v rfl ((Rl_tag hM rt772 (by decide)).trans js408)) hh414 (k_Md_changes hM h) (fun M μ8 hM h => ?_) (fun _ _ _ _ f => f.elim)
    refine L_ps c414 (n := 1) (pc1 := 51) (ls1 := [jR 772, jI v1, g2, jI v3]) (st1 := [jI v3]) rfl ?_
    exact L_retI (c414 51 rfl) (hQ _ _ _ hM h)
  · refine L_ps c414 (n := 1) (pc1 := 44) (ls1 := [jR 772, jI v1, g2, jI v3]) (st1 := [jI 0]) rfl ?_
    exact L_retI (c414 44 rfl) (hQ _ _ _ hM h)
theorem k_Md_normalize_j20 {E : JE2} {v1 : Int} {v2 : Int} {t0 : Int} {μ : Mem} {M : JM} {P : JO → JM → Prop} {g3 : JV} {Q : Int → Mem → Prop} (hM : Rl E M μ) (hQ : ∀ (r : Int) (M1 : JM) (μ1 : Mem), Rl E M1 μ1 → Q r μ1 → P (.inl (some (.inl r))) M1) (h : d_Md_normalize_j20 v1 v2 t0 μ Q) : JX 414 20 [jR 772, jI v1, jI v2, g3] [jI t0] M P := by
  unfold d_Md_normalize_j20 at h
  refine L_ps c414 (n := 3) (pc1 := 23) (ls1 := [jR 772, jI v1, jI v2, jI t0]) (st1 := [jR 772, jR 772]) rfl ?_
  refine L_getI (c414 23 rfl) hM rt772 rfl ?_
  refine L_ps c414 (n := 3) (pc1 := 29) (ls1 := [jR 772, jI v1, jI v2, jI t0]) (st1 := [jI (-1), jI t0, jI v2, jI (μ 772 6), jR 772]) rfl ?_
  refine L_br (p1 := 36) (p2 := 32) (c414 29 rfl) rfl jc_eq h (fun h => ?_) (fun h => ?_)
  · refine L_ps c414 (n := 1) (pc1 := 37) (ls1 := [jR 772, jI v1, jI v2, jI t0]) (st1 := [jI 0, jI v2, jI (μ 772 6), jR 772]) rfl ?_
    exact k_Md_normalize_j37 rfl hM hQ h
  · refine L_ps c414 (n := 2) (pc1 := 37) (ls1 := [jR 772, jI v1, jI v2, jI t0]) (st1 := [jI 1, jI v2, jI (μ 772 6), jR 772]) rfl ?_
    exact k_Md_normalize_j37 rfl hM hQ h
theorem k_Md_normalize {E : JE2} {v1 : Int} {μ : Mem} {M : JM} {Q : Int → Mem → Prop} (hM : Rl E M μ) (h : d_Md_normalize v1 μ Q) : JX 414 0 (jargs 414 [jR 772, jI v1]) [] M (PO E (QI Q) XN) := by
  unfold d_Md_normalize at h
  show JX 414 0 [jR 772, jI v1, jU, jU] [] M (PO E (QI Q) XN)
  generalize hP : PO E (QI Q) XN = P
  have hQ : ∀ (r : Int) (M1 : JM) (μ1 : Mem), Rl E M1 μ1 → Q r μ1 → P (.inl (some (.inl r))) M1 := by rw [← hP]; exact fun r M1 μ1 a b => ⟨μ1, a, r, rfl, b⟩
  clear hP
  refine L_ps c414 (n := 2) (pc1 := 2) (ls1 := [jR 772, jI v1, jU, jU]) (st1 := [jI v1, jR 772]) rfl ?_
  refine L_cpB (c414 2 rfl) (js_v rfl ((Rl_tag hM rt772 (by decide)).trans js341)) hh414 (k_Md_isTerm hM h) (fun r1 M hM h => ?_) (fun _ _ _ _ f => f.elim)
  refine L_ps c414 (n := 2) (pc1 := 7) (ls1 := [jR 772, jI v1, jI (b2i r1), jU]) (st1 := [jI (b2i r1)]) rfl ?_
  refine L_nb (p1 := 19) (p2 := 10) (c414 7 rfl) rfl jc_eqb h (fun h => ?_) (fun h => ?_)
  · refine L_ps c414 (n := 3) (pc1 := 13) (ls1 := [jR 772, jI v1, jI (b2i r1), jU]) (st1 := [jI 1, jI v1, jR 772]) rfl ?_
    refine L_cI (c414 13 rfl) (js_v rfl ((Rl_tag hM rt772 (by decide)).trans js365)) hh414 (k_Md_stepsOf hM h) (fun r3 M μ4 hM h => ?_) (fun _ _ _ _ f => f.elim)
    refine L_ps c414 (n := 1) (pc1 := 20) (ls1 := [jR 772, jI v1, jI (b2i r1), jU]) (st1 := [jI r3]) rfl ?_
    exact k_Md_normalize_j20 hM hQ h
  · refine L_ps c414 (n := 1) (pc1 := 20) (ls1 := [jR 772, jI v1, jI (b2i r1), jU]) (st1 := [jI (-1)]) rfl ?_
    exact k_Md_normalize_j20 hM hQ h
theorem k_Md_copySubterm_j34 {E : JE2} {v1 : Int} {v2 : Int} {t1 : Int} {t2 : Int} {t3 : Int} {μ : Mem} {M : JM} {P : JO → JM → Prop} {g3 : JV} {Q : Int → Mem → Prop} (hM : Rl E M μ) (hQ : ∀ (r : Int) (M1 : JM) (μ1 : Mem), Rl E M1 μ1 → Q r μ1 → P (.inl (some (.inl r))) M1) (h : d_Md_copySubterm_j34 v1 v2 t1 t2 t3 μ Q) : JX 415 34 [jR 772, jI v1, jI v2, g3] [jI t3, jI t2, jI t1, jR 772] M P := by
  unfold d_Md_copySubterm_j34 at h
  refine L_cB (c415 34 rfl) (js_v rfl ((Rl_tag hM rt772 (by decide)).trans js266)) hh415 (k_Md_may hM h) (fun r3 M μ4 hM h => ?_) (fun _ _ _ _ f => f.elim)
  refine L_br (p1 := 42) (p2 := 40) (c415 37 rfl) rfl jc_neb h (fun h => ?_) (fun h => ?_)
  · refine L_ps c415 (n := 2) (pc1 := 44) (ls1 := [jR 772, jI v1, jI v2, g3]) (st1 := [jI v1, jR 772]) rfl ?_
    refine L_cV (c415 44 rfl) (js_v rfl ((Rl_tag hM rt772 (by decide)).trans js293)) hh415 (k_Md_lends hM h) (fun M μ6 hM h => ?_) (fun _ _ _ _ f => f.elim)
    refine L_ps c415 (n := 2) (pc1 := 49) (ls1 := [jR 772, jI v1, jI v2, g3]) (st1 := [jI 0, jR 772]) rfl ?_
    refine L_putI (c415 49 rfl) hM rt772 rfl (fun M hM => ?_)
    refine L_ps c415 (n := 2) (pc1 := 54) (ls1 := [jR 772, jI v1, jI v2, g3]) (st1 := [jR 772, jR 772]) rfl ?_
    refine L_getP (d := 8) (c415 54 rfl) hM rt772 rfl ?_
    refine L_ps c415 (n := 3) (pc1 := 60) (ls1 := [jR 772, jI v1, jI v2, g3]) (st1 := [jR 772, jR 772, jI v2, jR 780, jR 772]) rfl ?_
    refine L_getP (d := 8) (c415 60 rfl) hM rt772 rfl ?_
    refine L_ps c415 (n := 1) (pc1 := 64) (ls1 := [jR 772, jI v1, jI v2, g3]) (st1 := [jI v2, jR 780, jR 772, jI v2, jR 780, jR 772]) rfl ?_
    refine L_cpI (c415 64 rfl) (js_v rfl ((Rl_tag hM rt772 (by decide)).trans js311)) hh415 (k_Md_behind rt780 hM h) (fun r7 M hM h => ?_) (fun _ _ _ _ f => f.elim)
    refine L_cV (c415 67 rfl) (js_v rfl ((Rl_tag hM rt772 (by decide)).trans js316)) hh415 (k_Md_buildsFrom rt780 hM h) (fun M μ10 hM h => ?_) (fun _ _ _ _ f => f.elim)
    refine L_ps c415 (n := 1) (pc1 := 71) (ls1 := [jR 772, jI v1, jI v2, g3]) (st1 := [jR 772]) rfl ?_
    refine L_cB (c415 71 rfl) (js_v rfl ((Rl_tag hM rt772 (by decide)).trans js318)) hh415 (k_Md_takesBuilt hM h) (fun r11 M μ12 hM h => ?_) (fun _ _ _ _ f => f.elim)
    refine L_ps c415 (n := 2) (pc1 := 76) (ls1 := [jR 772, jI v1, jI v2, jI (b2i r11)]) (st1 := [jR 772]) rfl ?_
    refine L_cV (c415 76 rfl) (js_v rfl ((Rl_tag hM rt772 (by decide)).trans js409)) hh415 (k_Md_remembers hM h) (fun M μ14 hM h => ?_) (fun _ _ _ _ f => f.elim)
    refine L_ps c415 (n := 1) (pc1 := 80) (ls1 := [jR 772, jI v1, jI v2, jI (b2i r11)]) (st1 := [jR 772]) rfl ?_
    refine L_getP (d := 1) (c415 80 rfl) hM rt772 rfl ?_
    refine L_ps c415 (n := 2) (pc1 := 85) (ls1 := [jR 772, jI v1, jI v2, jI (b2i r11)]) (st1 := [jI 2, jR 773, jI 2, jR 773]) rfl ?_
    refine L_iald (c415 85 rfl) hM rt773 ln773 (by decide) ?_
    refine L_ps c415 (n := 2) (pc1 := 88) (ls1 := [jR 772, jI v1, jI v2, jI (b2i r11)]) (st1 := [jI (wr ((μ14 773 2) + 1)), jI 2, jR 773]) rfl ?_
    refine L_iast (c415 88 rfl) hM rt773 ln773 (by decide) (fun M hM => ?_)
    refine L_ps c415 (n := 2) (pc1 := 91) (ls1 := [jR 772, jI v1, jI v2, jI (b2i r11)]) (st1 := [jR 772, jR 772]) rfl ?_
    refine L_getP (d := 1) (c415 91 rfl) hM rt772 rfl ?_
    refine L_ps c415 (n := 1) (pc1 := 95) (ls1 := [jR 772, jI v1, jI v2, jI (b2i r11)]) (st1 := [jI 2, jR 773, jR 772]) rfl ?_
    refine L_iald (c415 95 rfl) hM rt773 ln773 (by decide) ?_
    refine L_ps c415 (n := 2) (pc1 := 98) (ls1 := [jR 772, jI v1, jI v2, jI (b2i r11)]) (st1 := [jI (wr (((mup μ14 773 2 (wr ((μ14 773 2) + 1))) 773 2) - 1)), jR 772]) rfl ?_
    refine L_cV (c415 98 rfl) (js_v rfl ((Rl_tag hM rt772 (by decide)).trans js295)) hh415 (k_Md_stores hM h) (fun M μ16 hM h => ?_) (fun _ _ _ _ f => f.elim)
    refine L_ps c415 (n := 1) (pc1 := 102) (ls1 := [jR 772, jI v1, jI v2, jI (b2i r11)]) (st1 := [jR 772]) rfl ?_
    refine L_getP (d := 1) (c415 102 rfl) hM rt772 rfl ?_
    refine L_ps c415 (n := 1) (pc1 := 106) (ls1 := [jR 772, jI v1, jI v2, jI (b2i r11)]) (st1 := [jI 2, jR 773]) rfl ?_
    refine L_iald (c415 106 rfl) hM rt773 ln773 (by decide) ?_
    refine L_ps c415 (n := 2) (pc1 := 109) (ls1 := [jR 772, jI v1, jI v2, jI (b2i r11)]) (st1 := [jI (wr ((μ16 773 2) - 1))]) rfl ?_
    exact L_retI (c415 109 rfl) (hQ _ _ _ hM h)
  · refine L_ps c415 (n := 1) (pc1 := 41) (ls1 := [jR 772, jI v1, jI v2, g3]) (st1 := [jI 0]) rfl ?_
    exact L_retI (c415 41 rfl) (hQ _ _ _ hM h)
theorem k_Md_copySubterm_j33 {E : JE2} {v1 : Int} {v2 : Int} {t1 : Int} {t2 : Int} {μ : Mem} {M : JM} {P : JO → JM → Prop} {g3 : JV} {Q : Int → Mem → Prop} (hM : Rl E M μ) (hQ : ∀ (r : Int) (M1 : JM) (μ1 : Mem), Rl E M1 μ1 → Q r μ1 → P (.inl (some (.inl r))) M1) (h : d_Md_copySubterm_j33 v1 v2 t1 t2 μ Q) : JX 415 33 [jR 772, jI v1, jI v2, g3] [jI t2, jI t1, jR 772] M P := by
  unfold d_Md_copySubterm_j33 at h
  refine L_ps c415 (n := 1) (pc1 := 34) (ls1 := [jR 772, jI v1, jI v2, g3]) (st1 := [jI 0, jI t2, jI t1, jR 772]) rfl ?_
  exact k_Md_copySubterm_j34 hM hQ h
theorem k_Md_copySubterm {E : JE2} {v1 : Int} {v2 : Int} {μ : Mem} {M : JM} {Q : Int → Mem → Prop} (hM : Rl E M μ) (h : d_Md_copySubterm v1 v2 μ Q) : JX 415 0 (jargs 415 [jR 772, jI v1, jI v2]) [] M (PO E (QI Q) XN) := by
  unfold d_Md_copySubterm at h
  show JX 415 0 [jR 772, jI v1, jI v2, jU] [] M (PO E (QI Q) XN)
  generalize hP : PO E (QI Q) XN = P
  have hQ : ∀ (r : Int) (M1 : JM) (μ1 : Mem), Rl E M1 μ1 → Q r μ1 → P (.inl (some (.inl r))) M1 := by rw [← hP]; exact fun r M1 μ1 a b => ⟨μ1, a, r, rfl, b⟩
  clear hP
  refine L_ps c415 (n := 2) (pc1 := 2) (ls1 := [jR 772, jI v1, jI v2, jU]) (st1 := [jR 772, jR 772]) rfl ?_
  refine L_getI (c415 2 rfl) hM rt772 rfl ?_
  refine L_ps c415 (n := 3) (pc1 := 8) (ls1 := [jR 772, jI v1, jI v2, jU]) (st1 := [jI v2, jI v1, jR 772, jI (μ 772 6), jR 772]) rfl ?_
  refine L_cpB (c415 8 rfl) (js_v rfl ((Rl_tag hM rt772 (by decide)).trans js346)) hh415 (k_Md_isPosition hM h) (fun r1 M hM h => ?_) (fun _ _ _ _ f => f.elim)
  refine L_ps c415 (n := 1) (pc1 := 12) (ls1 := [jR 772, jI v1, jI v2, jU]) (st1 := [jR 772, jI (b2i r1), jI (μ 772 6), jR 772]) rfl ?_
  refine L_getI (c415 12 rfl) hM rt772 rfl ?_
  refine L_br (p1 := 33) (p2 := 18) (c415 15 rfl) rfl jc_eq h (fun h => ?_) (fun h => ?_)
  · exact k_Md_copySubterm_j33 hM hQ h
  · refine L_ps c415 (n := 1) (pc1 := 19) (ls1 := [jR 772, jI v1, jI v2, jU]) (st1 := [jR 772, jI (b2i r1), jI (μ 772 6), jR 772]) rfl ?_
    refine L_getP (d := 1) (c415 19 rfl) hM rt772 rfl ?_
    refine L_ps c415 (n := 1) (pc1 := 23) (ls1 := [jR 772, jI v1, jI v2, jU]) (st1 := [jI 2, jR 773, jI (b2i r1), jI (μ 772 6), jR 772]) rfl ?_
    refine L_iald (c415 23 rfl) hM rt773 ln773 (by decide) ?_
    refine L_ps c415 (n := 1) (pc1 := 26) (ls1 := [jR 772, jI v1, jI v2, jU]) (st1 := [jI 6, jI (μ 773 2), jI (b2i r1), jI (μ 772 6), jR 772]) rfl ?_
    refine L_nb (p1 := 33) (p2 := 29) (c415 26 rfl) rfl jc_ge h (fun h => ?_) (fun h => ?_)
    · refine L_ps c415 (n := 2) (pc1 := 34) (ls1 := [jR 772, jI v1, jI v2, jU]) (st1 := [jI 1, jI (b2i r1), jI (μ 772 6), jR 772]) rfl ?_
      exact k_Md_copySubterm_j34 hM hQ h
    · exact k_Md_copySubterm_j33 hM hQ h
theorem k_Md_canReplace {E : JE2} {v1 : Int} {v2 : Int} {v3 : Int} {μ : Mem} {M : JM} {Q : Bool → Mem → Prop} (hM : Rl E M μ) (h : d_Md_canReplace v1 v2 v3 μ Q) : JX 417 0 (jargs 417 [jR 772, jI v1, jI v2, jI v3]) [] M (PO E (QB Q) XN) := by
  unfold d_Md_canReplace at h
  show JX 417 0 [jR 772, jI v1, jI v2, jI v3] [] M (PO E (QB Q) XN)
  generalize hP : PO E (QB Q) XN = P
  have hQ : ∀ (r : Bool) (M1 : JM) (μ1 : Mem), Rl E M1 μ1 → Q r μ1 → P (.inl (some (.inl (b2i r)))) M1 := by rw [← hP]; exact fun r M1 μ1 a b => ⟨μ1, a, r, rfl, b⟩
  clear hP
  refine L_ps c417 (n := 2) (pc1 := 2) (ls1 := [jR 772, jI v1, jI v2, jI v3]) (st1 := [jI v3, jR 772]) rfl ?_
  refine L_cV (c417 2 rfl) (js_v rfl ((Rl_tag hM rt772 (by decide)).trans js293)) hh417 (k_Md_lends hM h) (fun M μ2 hM h => ?_) (fun _ _ _ _ f => f.elim)
  refine L_ps c417 (n := 1) (pc1 := 6) (ls1 := [jR 772, jI v1, jI v2, jI v3]) (st1 := [jR 772]) rfl ?_
  refine L_cV (c417 6 rfl) (js_v rfl ((Rl_tag hM rt772 (by decide)).trans js352)) hh417 (k_Md_keeps hM h) (fun M μ4 hM h => ?_) (fun _ _ _ _ f => f.elim)
  refine L_ps c417 (n := 2) (pc1 := 11) (ls1 := [jR 772, jI v1, jI v2, jI v3]) (st1 := [jI v1, jR 772]) rfl ?_
  refine L_cV (c417 11 rfl) (js_v rfl ((Rl_tag hM rt772 (by decide)).trans js293)) hh417 (k_Md_lends hM h) (fun M μ6 hM h => ?_) (fun _ _ _ _ f => f.elim)
  refine L_ps c417 (n := 2) (pc1 := 16) (ls1 := [jR 772, jI v1, jI v2, jI v3]) (st1 := [jI 0, jR 772]) rfl ?_
  refine L_putI (c417 16 rfl) hM rt772 rfl (fun M hM => ?_)
  refine L_ps c417 (n := 2) (pc1 := 21) (ls1 := [jR 772, jI v1, jI v2, jI v3]) (st1 := [jR 772, jR 772]) rfl ?_
  refine L_getP (d := 8) (c417 21 rfl) hM rt772 rfl ?_
  refine L_ps c417 (n := 2) (pc1 := 26) (ls1 := [jR 772, jI v1, jI v2, jI v3]) (st1 := [jI v2, jI 0, jR 780, jR 772]) rfl ?_
  refine L_cV (c417 26 rfl) (js_v rfl ((Rl_tag hM rt772 (by decide)).trans js316)) hh417 (k_Md_buildsFrom rt780 hM h) (fun M μ8 hM h => ?_) (fun _ _ _ _ f => f.elim)
  refine L_ps c417 (n := 2) (pc1 := 31) (ls1 := [jR 772, jI v1, jI v2, jI v3]) (st1 := [jR 772, jR 772]) rfl ?_
  refine L_getP (d := 10) (c417 31 rfl) hM rt772 rfl ?_
  refine L_ps c417 (n := 2) (pc1 := 36) (ls1 := [jR 772, jI v1, jI v2, jI v3]) (st1 := [jR 772, jI 0, jR 782, jR 772]) rfl ?_
  refine L_getI (c417 36 rfl) hM rt772 rfl ?_
  refine L_cV (c417 39 rfl) (js_v rfl ((Rl_tag hM rt772 (by decide)).trans js316)) hh417 (k_Md_buildsFrom rt782 hM h) (fun M μ10 hM h => ?_) (fun _ _ _ _ f => f.elim)
  refine L_ps c417 (n := 2) (pc1 := 44) (ls1 := [jR 772, jI v1, jI v2, jI v3]) (st1 := [jR 772, jR 772]) rfl ?_
  refine L_getP (d := 8) (c417 44 rfl) hM rt772 rfl ?_
  refine L_ps c417 (n := 2) (pc1 := 49) (ls1 := [jR 772, jI v1, jI v2, jI v3]) (st1 := [jR 772, jR 772, jR 780, jR 772]) rfl ?_
  refine L_getP (d := 8) (c417 49 rfl) hM rt772 rfl ?_
  refine L_ps c417 (n := 1) (pc1 := 53) (ls1 := [jR 772, jI v1, jI v2, jI v3]) (st1 := [jI v2, jR 780, jR 772, jR 780, jR 772]) rfl ?_
  refine L_cpI (c417 53 rfl) (js_v rfl ((Rl_tag hM rt772 (by decide)).trans js311)) hh417 (k_Md_behind rt780 hM h) (fun r11 M hM h => ?_) (fun _ _ _ _ f => f.elim)
  refine L_ps c417 (n := 1) (pc1 := 57) (ls1 := [jR 772, jI v1, jI v2, jI v3]) (st1 := [jR 772, jI r11, jR 780, jR 772]) rfl ?_
  refine L_getI (c417 57 rfl) hM rt772 rfl ?_
  refine L_cV (c417 60 rfl) (js_v rfl ((Rl_tag hM rt772 (by decide)).trans js316)) hh417 (k_Md_buildsFrom rt780 hM h) (fun M μ14 hM h => ?_) (fun _ _ _ _ f => f.elim)
  refine L_ps c417 (n := 1) (pc1 := 64) (ls1 := [jR 772, jI v1, jI v2, jI v3]) (st1 := [jR 772]) rfl ?_
  refine L_cB (c417 64 rfl) (js_v rfl ((Rl_tag hM rt772 (by decide)).trans js318)) hh417 (k_Md_takesBuilt hM h) (fun r15 M μ16 hM h => ?_) (fun _ _ _ _ f => f.elim)
  exact L_retB (c417 67 rfl) (bz_b _) (hQ _ _ _ hM h)
theorem k_Md_replaceSubterm_j51 {E : JE2} {v1 : Int} {t1 : Int} {t2 : Int} {t3 : Int} {μ : Mem} {M : JM} {P : JO → JM → Prop} {g2 : JV} {g3 : JV} {g4 : JV} {Q : Int → Mem → Prop} (hg3 : jc2 g3 = false) (hM : Rl E M μ) (hQ : ∀ (r : Int) (M1 : JM) (μ1 : Mem), Rl E M1 μ1 → Q r μ1 → P (.inl (some (.inl r))) M1) (h : d_Md_replaceSubterm_j51 v1 t1 t2 t3 μ Q) : JX 416 51 [jR 772, jI v1, g2, g3, g4] [jI t3, jI t2, jI t1, jR 772] M P := by
  unfold d_Md_replaceSubterm_j51 at h
  refine L_cB (c416 51 rfl) (js_v rfl ((Rl_tag hM rt772 (by decide)).trans js266)) hh416 (k_Md_may hM h) (fun r5 M μ6 hM h => ?_) (fun _ _ _ _ f => f.elim)
  refine L_br (p1 := 59) (p2 := 57) (c416 54 rfl) rfl jc_neb h (fun h => ?_) (fun h => ?_)
  · refine L_ps c416 (n := 2) (pc1 := 61) (ls1 := [jR 772, jI v1, g2, g3, g4]) (st1 := [jI v1, jR 772]) rfl ?_
    refine L_cV (c416 61 rfl) (js_v rfl ((Rl_tag hM rt772 (by decide)).trans js408)) hh416 (k_Md_changes hM h) (fun M μ8 hM h => ?_) (fun _ _ _ _ f => f.elim)
    refine L_ps c416 (n := 1) (pc1 := 65) (ls1 := [jR 772, jI v1, g2, g3, g4]) (st1 := [jR 772]) rfl ?_
    refine L_getI (c416 65 rfl) hM rt772 rfl ?_
    exact L_retI (c416 68 rfl) (hQ _ _ _ hM h)
  · refine L_ps c416 (n := 1) (pc1 := 58) (ls1 := [jR 772, jI v1, g2, g3, g4]) (st1 := [jI 0]) rfl ?_
    exact L_retI (c416 58 rfl) (hQ _ _ _ hM h)
theorem k_Md_replaceSubterm_j50 {E : JE2} {v1 : Int} {t1 : Int} {t2 : Int} {μ : Mem} {M : JM} {P : JO → JM → Prop} {g2 : JV} {g3 : JV} {g4 : JV} {Q : Int → Mem → Prop} (hg3 : jc2 g3 = false) (hM : Rl E M μ) (hQ : ∀ (r : Int) (M1 : JM) (μ1 : Mem), Rl E M1 μ1 → Q r μ1 → P (.inl (some (.inl r))) M1) (h : d_Md_replaceSubterm_j50 v1 t1 t2 μ Q) : JX 416 50 [jR 772, jI v1, g2, g3, g4] [jI t2, jI t1, jR 772] M P := by
  unfold d_Md_replaceSubterm_j50 at h
  refine L_ps c416 (n := 1) (pc1 := 51) (ls1 := [jR 772, jI v1, g2, g3, g4]) (st1 := [jI 0, jI t2, jI t1, jR 772]) rfl ?_
  exact k_Md_replaceSubterm_j51 hg3 hM hQ h
theorem k_Md_replaceSubterm_j22 {E : JE2} {v1 : Int} {v2 : Int} {v3 : Int} {t0 : Int} {μ : Mem} {M : JM} {P : JO → JM → Prop} {g4 : JV} {Q : Int → Mem → Prop} (hM : Rl E M μ) (hQ : ∀ (r : Int) (M1 : JM) (μ1 : Mem), Rl E M1 μ1 → Q r μ1 → P (.inl (some (.inl r))) M1) (h : d_Md_replaceSubterm_j22 v1 v2 v3 t0 μ Q) : JX 416 22 [jR 772, jI v1, jI v2, jI v3, g4] [jI t0] M P := by
  unfold d_Md_replaceSubterm_j22 at h
  refine L_ps c416 (n := 3) (pc1 := 26) (ls1 := [jR 772, jI v1, jI v2, jI v3, jI t0]) (st1 := [jR 772, jR 772]) rfl ?_
  refine L_getI (c416 26 rfl) hM rt772 rfl ?_
  refine L_ps c416 (n := 2) (pc1 := 33) (ls1 := [jR 772, jI v1, jI v2, jI v3, jI t0]) (st1 := [jI t0, jI t0, jI (μ 772 6), jR 772]) rfl ?_
  refine L_br (p1 := 50) (p2 := 36) (c416 33 rfl) rfl jc_eq h (fun h => ?_) (fun h => ?_)
  · exact k_Md_replaceSubterm_j50 rfl hM hQ h
  · refine L_ps c416 (n := 4) (pc1 := 40) (ls1 := [jR 772, jI v1, jI v2, jI v3, jI t0]) (st1 := [jI v3, jI v2, jI v1, jR 772, jI t0, jI (μ 772 6), jR 772]) rfl ?_
    refine L_cB (c416 40 rfl) (js_v rfl ((Rl_tag hM rt772 (by decide)).trans js417)) hh416 (k_Md_canReplace hM h) (fun r9 M μ10 hM h => ?_) (fun _ _ _ _ f => f.elim)
    refine L_nb (p1 := 50) (p2 := 46) (c416 43 rfl) rfl jc_eqb h (fun h => ?_) (fun h => ?_)
    · refine L_ps c416 (n := 2) (pc1 := 51) (ls1 := [jR 772, jI v1, jI v2, jI v3, jI t0]) (st1 := [jI 1, jI t0, jI (μ 772 6), jR 772]) rfl ?_
      exact k_Md_replaceSubterm_j51 rfl hM hQ h
    · exact k_Md_replaceSubterm_j50 rfl hM hQ h
theorem k_Md_replaceSubterm_j21 {E : JE2} {v1 : Int} {v2 : Int} {v3 : Int} {μ : Mem} {M : JM} {P : JO → JM → Prop} {g4 : JV} {Q : Int → Mem → Prop} (hM : Rl E M μ) (hQ : ∀ (r : Int) (M1 : JM) (μ1 : Mem), Rl E M1 μ1 → Q r μ1 → P (.inl (some (.inl r))) M1) (h : d_Md_replaceSubterm_j21 v1 v2 v3 μ Q) : JX 416 21 [jR 772, jI v1, jI v2, jI v3, g4] [] M P := by
  unfold d_Md_replaceSubterm_j21 at h
  refine L_ps c416 (n := 1) (pc1 := 22) (ls1 := [jR 772, jI v1, jI v2, jI v3, g4]) (st1 := [jI 0]) rfl ?_
  exact k_Md_replaceSubterm_j22 hM hQ h
theorem k_Md_replaceSubterm {E : JE2} {v1 : Int} {v2 : Int} {v3 : Int} {μ : Mem} {M : JM} {Q : Int → Mem → Prop} (hM : Rl E M μ) (h : d_Md_replaceSubterm v1 v2 v3 μ Q) : JX 416 0 (jargs 416 [jR 772, jI v1, jI v2, jI v3]) [] M (PO E (QI Q) XN) := by
  unfold d_Md_replaceSubterm at h
  show JX 416 0 [jR 772, jI v1, jI v2, jI v3, jU] [] M (PO E (QI Q) XN)
  generalize hP : PO E (QI Q) XN = P
  have hQ : ∀ (r : Int) (M1 : JM) (μ1 : Mem), Rl E M1 μ1 → Q r μ1 → P (.inl (some (.inl r))) M1 := by rw [← hP]; exact fun r M1 μ1 a b => ⟨μ1, a, r, rfl, b⟩
  clear hP
  refine L_ps c416 (n := 3) (pc1 := 3) (ls1 := [jR 772, jI v1, jI v2, jI v3, jU]) (st1 := [jI v2, jI v1, jR 772]) rfl ?_
  refine L_cpB (c416 3 rfl) (js_v rfl ((Rl_tag hM rt772 (by decide)).trans js346)) hh416 (k_Md_isPosition hM h) (fun r1 M hM h => ?_) (fun _ _ _ _ f => f.elim)
  refine L_nb (p1 := 21) (p2 := 9) (c416 6 rfl) rfl jc_eqb h (fun h => ?_) (fun h => ?_)
  · refine L_ps c416 (n := 2) (pc1 := 11) (ls1 := [jR 772, jI v1, jI v2, jI v3, jU]) (st1 := [jI v3, jR 772]) rfl ?_
    refine L_cpB (c416 11 rfl) (js_v rfl ((Rl_tag hM rt772 (by decide)).trans js341)) hh416 (k_Md_isTerm hM h) (fun r3 M hM h => ?_) (fun _ _ _ _ f => f.elim)
    refine L_nb (p1 := 21) (p2 := 17) (c416 14 rfl) rfl jc_eqb h (fun h => ?_) (fun h => ?_)
    · refine L_ps c416 (n := 2) (pc1 := 22) (ls1 := [jR 772, jI v1, jI v2, jI v3, jU]) (st1 := [jI 1]) rfl ?_
      exact k_Md_replaceSubterm_j22 hM hQ h
    · exact k_Md_replaceSubterm_j21 hM hQ h
  · exact k_Md_replaceSubterm_j21 hM hQ h
theorem k_Md_allRedexes_b4 {E : JE2} {v1 : Int} {v2 : Int} {μ : Mem} {M : JM} {P : JO → JM → Prop} {W4 : Int → Int → Mem → Prop} {Q : Int → Mem → Prop} (hM : Rl E M μ) (hQ : ∀ (r : Int) (M1 : JM) (μ1 : Mem), Rl E M1 μ1 → Q r μ1 → P (.inl (some (.inl r))) M1) (hW4 : ∀ (v1 : Int) (v2 : Int) (M1 : JM) (μ1 : Mem), Rl E M1 μ1 → W4 v1 v2 μ1 → JX 419 4 [jR 772, jI v1, jI v2] [] M1 P) (h : d_Md_allRedexes_b4 v1 v2 μ W4 Q) : JX 419 4 [jR 772, jI v1, jI v2] [] M P := by
  unfold d_Md_allRedexes_b4 at h
  refine L_ps c419 (n := 2) (pc1 := 6) (ls1 := [jR 772, jI v1, jI v2]) (st1 := [jR 772, jI v2]) rfl ?_
  refine L_getP (d := 1) (c419 6 rfl) hM rt772 rfl ?_
  refine L_ps c419 (n := 1) (pc1 := 10) (ls1 := [jR 772, jI v1, jI v2]) (st1 := [jI 2, jR 773, jI v2]) rfl ?_
  refine L_iald (c419 10 rfl) hM rt773 ln773 (by decide) ?_
  refine L_nb (p1 := 32) (p2 := 14) (c419 11 rfl) rfl jc_ge h (fun h => ?_) (fun h => ?_)
  · refine L_ps c419 (n := 2) (pc1 := 16) (ls1 := [jR 772, jI v1, jI v2]) (st1 := [jI v2, jR 772]) rfl ?_
    refine L_cV (c419 16 rfl) (js_v rfl ((Rl_tag hM rt772 (by decide)).trans js293)) hh419 (k_Md_lends hM h) (fun M μ2 hM h => ?_) (fun _ _ _ _ f => f.elim)
    refine L_ps c419 (n := 2) (pc1 := 21) (ls1 := [jR 772, jI v1, jI v2]) (st1 := [jR 772, jI v1]) rfl ?_
    refine L_cI (c419 21 rfl) (js_v rfl ((Rl_tag hM rt772 (by decide)).trans js358)) hh419 (k_Md_redexes hM h) (fun r3 M μ4 hM h => ?_) (fun _ _ _ _ f => f.elim)
    refine L_ps c419 (n := 4) (pc1 := 4) (ls1 := [jR 772, jI (wr (v1 + r3)), jI (wr (v2 + 1))]) (st1 := []) rfl ?_
    exact hW4 _ _ _ _ hM h
  · refine L_ps c419 (n := 1) (pc1 := 33) (ls1 := [jR 772, jI v1, jI v2]) (st1 := [jI v1]) rfl ?_
    exact L_retI (c419 33 rfl) (hQ _ _ _ hM h)
theorem k_Md_allRedexes_l4 {E : JE2} {v1 : Int} {v2 : Int} {μ : Mem} {M : JM} {P : JO → JM → Prop} {Q : Int → Mem → Prop} (hM : Rl E M μ) (hQ : ∀ (r : Int) (M1 : JM) (μ1 : Mem), Rl E M1 μ1 → Q r μ1 → P (.inl (some (.inl r))) M1) (h : d_Md_allRedexes_l4 v1 v2 μ Q) : JX 419 4 [jR 772, jI v1, jI v2] [] M P := by
  refine h (fun v1 v2 μ => ∀ (M : JM), Rl E M μ → JX 419 4 [jR 772, jI v1, jI v2] [] M P) ?_ _ hM
  intro v1 v2 μ h M hM
  exact k_Md_allRedexes_b4 hM hQ (fun v1 v2 M μ hM h => h M hM) h
theorem k_Md_allRedexes {E : JE2} {μ : Mem} {M : JM} {Q : Int → Mem → Prop} (hM : Rl E M μ) (h : d_Md_allRedexes μ Q) : JX 419 0 (jargs 419 [jR 772]) [] M (PO E (QI Q) XN) := by
  unfold d_Md_allRedexes at h
  show JX 419 0 [jR 772, jU, jU] [] M (PO E (QI Q) XN)
  generalize hP : PO E (QI Q) XN = P
  have hQ : ∀ (r : Int) (M1 : JM) (μ1 : Mem), Rl E M1 μ1 → Q r μ1 → P (.inl (some (.inl r))) M1 := by rw [← hP]; exact fun r M1 μ1 a b => ⟨μ1, a, r, rfl, b⟩
  clear hP
  refine L_ps c419 (n := 4) (pc1 := 4) (ls1 := [jR 772, jI 0, jI 0]) (st1 := []) rfl ?_
  exact k_Md_allRedexes_l4 hM hQ h
theorem k_Md_swapRules_b40 {E : JE2} {v1 : Int} {v2 : Int} {v3 : Int} {μ : Mem} {M : JM} {P : JO → JM → Prop} {g4 : JV} {W40 : Int → Mem → Prop} {Q : Int → Mem → Prop} (hM : Rl E M μ) (hQ : ∀ (r : Int) (M1 : JM) (μ1 : Mem), Rl E M1 μ1 → Q r μ1 → P (.inl (some (.inl r))) M1) (hW40 : ∀ (v3 : Int) (g4 : JV) (M1 : JM) (μ1 : Mem), Rl E M1 μ1 → W40 v3 μ1 → JX 418 40 [jR 772, jI v1, jI v2, jI v3, g4] [] M1 P) (h : d_Md_swapRules_b40 v1 v2 v3 μ W40 Q) : JX 418 40 [jR 772, jI v1, jI v2, jI v3, g4] [] M P := by
  unfold d_Md_swapRules_b40 at h
  refine L_ps c418 (n := 2) (pc1 := 43) (ls1 := [jR 772, jI v1, jI v2, jI v3, g4]) (st1 := [jI 26, jI v3]) rfl ?_
  refine L_nb (p1 := 96) (p2 := 46) (c418 43 rfl) rfl jc_ge h (fun h => ?_) (fun h => ?_)
  · refine L_ps c418 (n := 3) (pc1 := 49) (ls1 := [jR 772, jI v1, jI v2, jI v3, g4]) (st1 := [jI v3, jI v1, jR 772]) rfl ?_
    refine L_cpI (c418 49 rfl) (js_v rfl ((Rl_tag hM rt772 (by decide)).trans js298)) hh418 (k_Md_ofRule hM h) (fun r9 M hM h => ?_) (fun _ _ _ _ f => f.elim)
    refine L_ps c418 (n := 2) (pc1 := 55) (ls1 := [jR 772, jI v1, jI v2, jI v3, jI r9]) (st1 := [jR 772]) rfl ?_
    refine L_getP (d := 1) (c418 55 rfl) hM rt772 rfl ?_
    refine L_ps c418 (n := 10) (pc1 := 70) (ls1 := [jR 772, jI v1, jI v2, jI v3, jI r9]) (st1 := [jI v3, jI v2, jR 772, jI (wr ((wr (67 + (wr (26 * v1)))) + v3)), jR 773]) rfl ?_
    refine L_cpI (c418 70 rfl) (js_v rfl ((Rl_tag hM rt772 (by decide)).trans js298)) hh418 (k_Md_ofRule hM h) (fun r11 M hM h => ?_) (fun _ _ _ _ f => f.elim)
    obtain ⟨hb, h⟩ := h
    refine L_iast (c418 73 rfl) hM rt773 ln773 hb (fun M hM => ?_)
    refine L_ps c418 (n := 1) (pc1 := 75) (ls1 := [jR 772, jI v1, jI v2, jI v3, jI r9]) (st1 := [jR 772]) rfl ?_
    refine L_getP (d := 1) (c418 75 rfl) hM rt772 rfl ?_
    refine L_ps c418 (n := 8) (pc1 := 89) (ls1 := [jR 772, jI v1, jI v2, jI v3, jI r9]) (st1 := [jI r9, jI (wr ((wr (67 + (wr (26 * v2)))) + v3)), jR 773]) rfl ?_
    obtain ⟨hb, h⟩ := h
    refine L_iast (c418 89 rfl) hM rt773 ln773 hb (fun M hM => ?_)
    refine L_ps c418 (n := 2) (pc1 := 40) (ls1 := [jR 772, jI v1, jI v2, jI (wr (v3 + 1)), jI r9]) (st1 := []) rfl ?_
    exact hW40 _ _ _ _ hM h
  · refine L_ps c418 (n := 1) (pc1 := 97) (ls1 := [jR 772, jI v1, jI v2, jI v3, g4]) (st1 := [jR 772]) rfl ?_
    refine L_cI (c418 97 rfl) (js_v rfl ((Rl_tag hM rt772 (by decide)).trans js419)) hh418 (k_Md_allRedexes hM h) (fun r13 M μ14 hM h => ?_) (fun _ _ _ _ f => f.elim)
    exact L_retI (c418 100 rfl) (hQ _ _ _ hM h)
theorem k_Md_swapRules_l40 {E : JE2} {v1 : Int} {v2 : Int} {v3 : Int} {μ : Mem} {M : JM} {P : JO → JM → Prop} {g4 : JV} {Q : Int → Mem → Prop} (hM : Rl E M μ) (hQ : ∀ (r : Int) (M1 : JM) (μ1 : Mem), Rl E M1 μ1 → Q r μ1 → P (.inl (some (.inl r))) M1) (h : d_Md_swapRules_l40 v1 v2 v3 μ Q) : JX 418 40 [jR 772, jI v1, jI v2, jI v3, g4] [] M P := by
  refine h (fun v3 μ => ∀ (g4 : JV) (M : JM), Rl E M μ → JX 418 40 [jR 772, jI v1, jI v2, jI v3, g4] [] M P) ?_ _ _ hM
  intro v3 μ h g4 M hM
  exact k_Md_swapRules_b40 hM hQ (fun v3 g4 M μ hM h => h g4 M hM) h
theorem k_Md_swapRules_j26 {E : JE2} {v1 : Int} {v2 : Int} {t1 : Int} {t2 : Int} {μ : Mem} {M : JM} {P : JO → JM → Prop} {g3 : JV} {g4 : JV} {Q : Int → Mem → Prop} (hg3 : jc2 g3 = false) (hM : Rl E M μ) (hQ : ∀ (r : Int) (M1 : JM) (μ1 : Mem), Rl E M1 μ1 → Q r μ1 → P (.inl (some (.inl r))) M1) (h : d_Md_swapRules_j26 v1 v2 t1 t2 μ Q) : JX 418 26 [jR 772, jI v1, jI v2, g3, g4] [jI t2, jI t1, jR 772] M P := by
  unfold d_Md_swapRules_j26 at h
  refine L_cB (c418 26 rfl) (js_v rfl ((Rl_tag hM rt772 (by decide)).trans js325)) hh418 (k_Md_mayTwo hM h) (fun r5 M μ6 hM h => ?_) (fun _ _ _ _ f => f.elim)
  refine L_br (p1 := 34) (p2 := 32) (c418 29 rfl) rfl jc_neb h (fun h => ?_) (fun h => ?_)
  · refine L_ps c418 (n := 1) (pc1 := 35) (ls1 := [jR 772, jI v1, jI v2, g3, g4]) (st1 := [jR 772]) rfl ?_
    refine L_cV (c418 35 rfl) (js_v rfl ((Rl_tag hM rt772 (by decide)).trans js409)) hh418 (k_Md_remembers hM h) (fun M μ8 hM h => ?_) (fun _ _ _ _ f => f.elim)
    refine L_ps c418 (n := 2) (pc1 := 40) (ls1 := [jR 772, jI v1, jI v2, jI 0, g4]) (st1 := []) rfl ?_
    exact k_Md_swapRules_l40 hM hQ h
  · refine L_ps c418 (n := 1) (pc1 := 33) (ls1 := [jR 772, jI v1, jI v2, g3, g4]) (st1 := [jI 0]) rfl ?_
    exact L_retI (c418 33 rfl) (hQ _ _ _ hM h)
theorem k_Md_swapRules_j25 {E : JE2} {v1 : Int} {v2 : Int} {t1 : Int} {μ : Mem} {M : JM} {P : JO → JM → Prop} {g3 : JV} {g4 : JV} {Q : Int → Mem → Prop} (hg3 : jc2 g3 = false) (hM : Rl E M μ) (hQ : ∀ (r : Int) (M1 : JM) (μ1 : Mem), Rl E M1 μ1 → Q r μ1 → P (.inl (some (.inl r))) M1) (h : d_Md_swapRules_j25 v1 v2 t1 μ Q) : JX 418 25 [jR 772, jI v1, jI v2, g3, g4] [jI t1, jR 772] M P := by
  unfold d_Md_swapRules_j25 at h
  refine L_ps c418 (n := 1) (pc1 := 26) (ls1 := [jR 772, jI v1, jI v2, g3, g4]) (st1 := [jI 0, jI t1, jR 772]) rfl ?_
  exact k_Md_swapRules_j26 hg3 hM hQ h
theorem k_Md_swapRules {E : JE2} {v1 : Int} {v2 : Int} {μ : Mem} {M : JM} {Q : Int → Mem → Prop} (hM : Rl E M μ) (h : d_Md_swapRules v1 v2 μ Q) : JX 418 0 (jargs 418 [jR 772, jI v1, jI v2]) [] M (PO E (QI Q) XN) := by
  unfold d_Md_swapRules at h
  show JX 418 0 [jR 772, jI v1, jI v2, jU, jU] [] M (PO E (QI Q) XN)
  generalize hP : PO E (QI Q) XN = P
  have hQ : ∀ (r : Int) (M1 : JM) (μ1 : Mem), Rl E M1 μ1 → Q r μ1 → P (.inl (some (.inl r))) M1 := by rw [← hP]; exact fun r M1 μ1 a b => ⟨μ1, a, r, rfl, b⟩
  clear hP
  refine L_ps c418 (n := 2) (pc1 := 2) (ls1 := [jR 772, jI v1, jI v2, jU, jU]) (st1 := [jR 772, jR 772]) rfl ?_
  refine L_getI (c418 2 rfl) hM rt772 rfl ?_
  refine L_ps c418 (n := 2) (pc1 := 7) (ls1 := [jR 772, jI v1, jI v2, jU, jU]) (st1 := [jI v1, jR 772, jI (μ 772 6), jR 772]) rfl ?_
  refine L_cpB (c418 7 rfl) (js_v rfl ((Rl_tag hM rt772 (by decide)).trans js331)) hh418 (k_Md_isRule hM h) (fun r1 M hM h => ?_) (fun _ _ _ _ f => f.elim)
  refine L_nb (p1 := 25) (p2 := 13) (c418 10 rfl) rfl jc_eqb h (fun h => ?_) (fun h => ?_)
  · refine L_ps c418 (n := 2) (pc1 := 15) (ls1 := [jR 772, jI v1, jI v2, jU, jU]) (st1 := [jI v2, jR 772, jI (μ 772 6), jR 772]) rfl ?_
    refine L_cpB (c418 15 rfl) (js_v rfl ((Rl_tag hM rt772 (by decide)).trans js331)) hh418 (k_Md_isRule hM h) (fun r3 M hM h => ?_) (fun _ _ _ _ f => f.elim)
    refine L_nb (p1 := 25) (p2 := 21) (c418 18 rfl) rfl jc_eqb h (fun h => ?_) (fun h => ?_)
    · refine L_ps c418 (n := 2) (pc1 := 26) (ls1 := [jR 772, jI v1, jI v2, jU, jU]) (st1 := [jI 1, jI (μ 772 6), jR 772]) rfl ?_
      exact k_Md_swapRules_j26 rfl hM hQ h
    · exact k_Md_swapRules_j25 rfl hM hQ h
  · exact k_Md_swapRules_j25 rfl hM hQ h
theorem k_Md_removeRule {E : JE2} {v1 : Int} {μ : Mem} {M : JM} {Q : Int → Mem → Prop} (hM : Rl E M μ) (h : d_Md_removeRule v1 μ Q) : JX 420 0 (jargs 420 [jR 772, jI v1]) [] M (PO E (QI Q) XN) := by
  unfold d_Md_removeRule at h
  show JX 420 0 [jR 772, jI v1] [] M (PO E (QI Q) XN)
  generalize hP : PO E (QI Q) XN = P
  have hQ : ∀ (r : Int) (M1 : JM) (μ1 : Mem), Rl E M1 μ1 → Q r μ1 → P (.inl (some (.inl r))) M1 := by rw [← hP]; exact fun r M1 μ1 a b => ⟨μ1, a, r, rfl, b⟩
  clear hP
  refine L_ps c420 (n := 2) (pc1 := 2) (ls1 := [jR 772, jI v1]) (st1 := [jI v1, jR 772]) rfl ?_
  refine L_cB (c420 2 rfl) (js_v rfl ((Rl_tag hM rt772 (by decide)).trans js330)) hh420 (k_Md_mayRule hM h) (fun r1 M μ2 hM h => ?_) (fun _ _ _ _ f => f.elim)
  refine L_br (p1 := 10) (p2 := 8) (c420 5 rfl) rfl jc_neb h (fun h => ?_) (fun h => ?_)
  · refine L_ps c420 (n := 1) (pc1 := 11) (ls1 := [jR 772, jI v1]) (st1 := [jR 772]) rfl ?_
    refine L_cV (c420 11 rfl) (js_v rfl ((Rl_tag hM rt772 (by decide)).trans js409)) hh420 (k_Md_remembers hM h) (fun M μ4 hM h => ?_) (fun _ _ _ _ f => f.elim)
    refine L_ps c420 (n := 1) (pc1 := 15) (ls1 := [jR 772, jI v1]) (st1 := [jR 772]) rfl ?_
    refine L_getP (d := 1) (c420 15 rfl) hM rt772 rfl ?_
    refine L_ps c420 (n := 2) (pc1 := 20) (ls1 := [jR 772, jI v1]) (st1 := [jI 1, jR 773, jI 1, jR 773]) rfl ?_
    refine L_iald (c420 20 rfl) hM rt773 ln773 (by decide) ?_
    refine L_ps c420 (n := 2) (pc1 := 23) (ls1 := [jR 772, jI v1]) (st1 := [jI (wr ((μ4 773 1) - 1)), jI 1, jR 773]) rfl ?_
    refine L_iast (c420 23 rfl) hM rt773 ln773 (by decide) (fun M hM => ?_)
    refine L_ps c420 (n := 1) (pc1 := 25) (ls1 := [jR 772, jI v1]) (st1 := [jR 772]) rfl ?_
    refine L_getP (d := 1) (c420 25 rfl) hM rt772 rfl ?_
    refine L_ps c420 (n := 8) (pc1 := 38) (ls1 := [jR 772, jI v1]) (st1 := [jR 772, jI (wr (67 + (wr (26 * (wr (v1 + 1)))))), jR 773]) rfl ?_
    refine L_getP (d := 1) (c420 38 rfl) hM rt772 rfl ?_
    refine L_ps c420 (n := 7) (pc1 := 51) (ls1 := [jR 772, jI v1]) (st1 := [jR 772, jI 26, jI (wr (67 + (wr (26 * v1)))), jR 773, jI (wr (67 + (wr (26 * (wr (v1 + 1)))))), jR 773]) rfl ?_
    refine L_getP (d := 1) (c420 51 rfl) hM rt772 rfl ?_
    refine L_ps c420 (n := 1) (pc1 := 55) (ls1 := [jR 772, jI v1]) (st1 := [jI 1, jR 773, jI 26, jI (wr (67 + (wr (26 * v1)))), jR 773, jI (wr (67 + (wr (26 * (wr (v1 + 1)))))), jR 773]) rfl ?_
    refine L_iald (c420 55 rfl) hM rt773 ln773 (by decide) ?_
    refine L_ps c420 (n := 3) (pc1 := 59) (ls1 := [jR 772, jI v1]) (st1 := [jI (wr (26 * (wr (((mup μ4 773 1 (wr ((μ4 773 1) - 1))) 773 1) - v1)))), jI (wr (67 + (wr (26 * v1)))), jR 773, jI (wr (67 + (wr (26 * (wr (v1 + 1)))))), jR 773]) rfl ?_
    refine L_cV (c420 59 rfl) (js_t rfl) hh420 (k_Md_lays rt773 rt773 hM h) (fun M μ6 hM h => ?_) (fun _ _ _ _ f => f.elim)
    refine L_ps c420 (n := 1) (pc1 := 63) (ls1 := [jR 772, jI v1]) (st1 := [jR 772]) rfl ?_
    refine L_getP (d := 1) (c420 63 rfl) hM rt772 rfl ?_
    refine L_ps c420 (n := 1) (pc1 := 67) (ls1 := [jR 772, jI v1]) (st1 := [jI 1, jR 773]) rfl ?_
    refine L_iald (c420 67 rfl) hM rt773 ln773 (by decide) ?_
    exact L_retI (c420 68 rfl) (hQ _ _ _ hM h)
  · refine L_ps c420 (n := 1) (pc1 := 9) (ls1 := [jR 772, jI v1]) (st1 := [jI 0]) rfl ?_
    exact L_retI (c420 9 rfl) (hQ _ _ _ hM h)
theorem k_Md_reverseRule_j29 {E : JE2} {v1 : Int} {t1 : Int} {t2 : Int} {t3 : Int} {μ : Mem} {M : JM} {P : JO → JM → Prop} {g2 : JV} {Q : Int → Mem → Prop} (hM : Rl E M μ) (hQ : ∀ (r : Int) (M1 : JM) (μ1 : Mem), Rl E M1 μ1 → Q r μ1 → P (.inl (some (.inl r))) M1) (h : d_Md_reverseRule_j29 v1 t1 t2 t3 μ Q) : JX 421 29 [jR 772, jI v1, g2] [jI t3, jI t2, jI t1, jR 772] M P := by
  unfold d_Md_reverseRule_j29 at h
  refine L_cB (c421 29 rfl) (js_v rfl ((Rl_tag hM rt772 (by decide)).trans js266)) hh421 (k_Md_may hM h) (fun r5 M μ6 hM h => ?_) (fun _ _ _ _ f => f.elim)
  refine L_br (p1 := 37) (p2 := 35) (c421 32 rfl) rfl jc_neb h (fun h => ?_) (fun h => ?_)
  · refine L_ps c421 (n := 1) (pc1 := 38) (ls1 := [jR 772, jI v1, g2]) (st1 := [jR 772]) rfl ?_
    refine L_cV (c421 38 rfl) (js_v rfl ((Rl_tag hM rt772 (by decide)).trans js409)) hh421 (k_Md_remembers hM h) (fun M μ8 hM h => ?_) (fun _ _ _ _ f => f.elim)
    refine L_ps c421 (n := 2) (pc1 := 43) (ls1 := [jR 772, jI v1, g2]) (st1 := [jI v1, jR 772]) rfl ?_
    refine L_cV (c421 43 rfl) (js_v rfl ((Rl_tag hM rt772 (by decide)).trans js301)) hh421 (k_Md_reverses hM h) (fun M μ10 hM h => ?_) (fun _ _ _ _ f => f.elim)
    refine L_ps c421 (n := 3) (pc1 := 49) (ls1 := [jR 772, jI v1, g2]) (st1 := [jI 0, jI v1, jR 772]) rfl ?_
    refine L_cpI (c421 49 rfl) (js_v rfl ((Rl_tag hM rt772 (by decide)).trans js298)) hh421 (k_Md_ofRule hM h) (fun r11 M hM h => ?_) (fun _ _ _ _ f => f.elim)
    exact L_retI (c421 52 rfl) (hQ _ _ _ hM h)
  · refine L_ps c421 (n := 1) (pc1 := 36) (ls1 := [jR 772, jI v1, g2]) (st1 := [jI 0]) rfl ?_
    exact L_retI (c421 36 rfl) (hQ _ _ _ hM h)
theorem k_Md_reverseRule_j28 {E : JE2} {v1 : Int} {t1 : Int} {t2 : Int} {μ : Mem} {M : JM} {P : JO → JM → Prop} {g2 : JV} {Q : Int → Mem → Prop} (hM : Rl E M μ) (hQ : ∀ (r : Int) (M1 : JM) (μ1 : Mem), Rl E M1 μ1 → Q r μ1 → P (.inl (some (.inl r))) M1) (h : d_Md_reverseRule_j28 v1 t1 t2 μ Q) : JX 421 28 [jR 772, jI v1, g2] [jI t2, jI t1, jR 772] M P := by
  unfold d_Md_reverseRule_j28 at h
  refine L_ps c421 (n := 1) (pc1 := 29) (ls1 := [jR 772, jI v1, g2]) (st1 := [jI 0, jI t2, jI t1, jR 772]) rfl ?_
  exact k_Md_reverseRule_j29 hM hQ h
theorem k_Md_reverseRule {E : JE2} {v1 : Int} {μ : Mem} {M : JM} {Q : Int → Mem → Prop} (hM : Rl E M μ) (h : d_Md_reverseRule v1 μ Q) : JX 421 0 (jargs 421 [jR 772, jI v1]) [] M (PO E (QI Q) XN) := by
  unfold d_Md_reverseRule at h
  show JX 421 0 [jR 772, jI v1, jU] [] M (PO E (QI Q) XN)
  generalize hP : PO E (QI Q) XN = P
  have hQ : ∀ (r : Int) (M1 : JM) (μ1 : Mem), Rl E M1 μ1 → Q r μ1 → P (.inl (some (.inl r))) M1 := by rw [← hP]; exact fun r M1 μ1 a b => ⟨μ1, a, r, rfl, b⟩
  clear hP
  refine L_ps c421 (n := 2) (pc1 := 2) (ls1 := [jR 772, jI v1, jU]) (st1 := [jI v1, jR 772]) rfl ?_
  refine L_cpB (c421 2 rfl) (js_v rfl ((Rl_tag hM rt772 (by decide)).trans js331)) hh421 (k_Md_isRule hM h) (fun r1 M hM h => ?_) (fun _ _ _ _ f => f.elim)
  refine L_ps c421 (n := 3) (pc1 := 8) (ls1 := [jR 772, jI v1, jI (b2i r1)]) (st1 := [jR 772, jR 772]) rfl ?_
  refine L_getI (c421 8 rfl) hM rt772 rfl ?_
  refine L_ps c421 (n := 2) (pc1 := 13) (ls1 := [jR 772, jI v1, jI (b2i r1)]) (st1 := [jI (b2i r1), jI (b2i r1), jI (μ 772 6), jR 772]) rfl ?_
  refine L_nb (p1 := 28) (p2 := 16) (c421 13 rfl) rfl jc_eqb h (fun h => ?_) (fun h => ?_)
  · refine L_ps c421 (n := 2) (pc1 := 18) (ls1 := [jR 772, jI v1, jI (b2i r1)]) (st1 := [jI v1, jR 772, jI (b2i r1), jI (μ 772 6), jR 772]) rfl ?_
    refine L_cpB (c421 18 rfl) (js_v rfl ((Rl_tag hM rt772 (by decide)).trans js297)) hh421 (k_Md_canReverse hM h) (fun r3 M hM h => ?_) (fun _ _ _ _ f => f.elim)
    refine L_nb (p1 := 28) (p2 := 24) (c421 21 rfl) rfl jc_eqb h (fun h => ?_) (fun h => ?_)
    · refine L_ps c421 (n := 2) (pc1 := 29) (ls1 := [jR 772, jI v1, jI (b2i r1)]) (st1 := [jI 1, jI (b2i r1), jI (μ 772 6), jR 772]) rfl ?_
      exact k_Md_reverseRule_j29 hM hQ h
    · exact k_Md_reverseRule_j28 hM hQ h
  · exact k_Md_reverseRule_j28 hM hQ h
