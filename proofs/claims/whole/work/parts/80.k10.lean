/-! that the printed tables do what the texts say (written by wip/gen/dec.py), 10 -/
theorem k_Md_removeTerm {E : JE2} {v1 : Int} {μ : Mem} {M : JM} {Q : Int → Mem → Prop} (hM : Rl E M μ) (h : d_Md_removeTerm v1 μ Q) : JX 422 0 (jargs 422 [jR 772, jI v1]) [] M (PO E (QI Q) XN) := by
  unfold d_Md_removeTerm at h
  show JX 422 0 [jR 772, jI v1] [] M (PO E (QI Q) XN)
  generalize hP : PO E (QI Q) XN = P
  have hQ : ∀ (r : Int) (M1 : JM) (μ1 : Mem), Rl E M1 μ1 → Q r μ1 → P (.inl (some (.inl r))) M1 := by rw [← hP]; exact fun r M1 μ1 a b => ⟨μ1, a, r, rfl, b⟩
  clear hP
  refine L_ps c422 (n := 2) (pc1 := 2) (ls1 := [jR 772, jI v1]) (st1 := [jI v1, jR 772]) rfl ?_
  refine L_cB (c422 2 rfl) (js_v rfl ((Rl_tag hM rt772 (by decide)).trans js340)) hh422 (k_Md_mayTerm hM h) (fun r1 M μ2 hM h => ?_) (fun _ _ _ _ f => f.elim)
  refine L_br (p1 := 10) (p2 := 8) (c422 5 rfl) rfl jc_neb h (fun h => ?_) (fun h => ?_)
  · refine L_ps c422 (n := 1) (pc1 := 11) (ls1 := [jR 772, jI v1]) (st1 := [jR 772]) rfl ?_
    refine L_cV (c422 11 rfl) (js_v rfl ((Rl_tag hM rt772 (by decide)).trans js409)) hh422 (k_Md_remembers hM h) (fun M μ4 hM h => ?_) (fun _ _ _ _ f => f.elim)
    refine L_ps c422 (n := 1) (pc1 := 15) (ls1 := [jR 772, jI v1]) (st1 := [jR 772]) rfl ?_
    refine L_getP (d := 1) (c422 15 rfl) hM rt772 rfl ?_
    refine L_ps c422 (n := 2) (pc1 := 20) (ls1 := [jR 772, jI v1]) (st1 := [jI 2, jR 773, jI 2, jR 773]) rfl ?_
    refine L_iald (c422 20 rfl) hM rt773 ln773 (by decide) ?_
    refine L_ps c422 (n := 2) (pc1 := 23) (ls1 := [jR 772, jI v1]) (st1 := [jI (wr ((μ4 773 2) - 1)), jI 2, jR 773]) rfl ?_
    refine L_iast (c422 23 rfl) hM rt773 ln773 (by decide) (fun M hM => ?_)
    refine L_ps c422 (n := 1) (pc1 := 25) (ls1 := [jR 772, jI v1]) (st1 := [jR 772]) rfl ?_
    refine L_getP (d := 1) (c422 25 rfl) hM rt772 rfl ?_
    refine L_ps c422 (n := 8) (pc1 := 39) (ls1 := [jR 772, jI v1]) (st1 := [jR 772, jI (wr (223 + (wr (81 * (wr (v1 + 1)))))), jR 773]) rfl ?_
    refine L_getP (d := 1) (c422 39 rfl) hM rt772 rfl ?_
    refine L_ps c422 (n := 7) (pc1 := 53) (ls1 := [jR 772, jI v1]) (st1 := [jR 772, jI 81, jI (wr (223 + (wr (81 * v1)))), jR 773, jI (wr (223 + (wr (81 * (wr (v1 + 1)))))), jR 773]) rfl ?_
    refine L_getP (d := 1) (c422 53 rfl) hM rt772 rfl ?_
    refine L_ps c422 (n := 1) (pc1 := 57) (ls1 := [jR 772, jI v1]) (st1 := [jI 2, jR 773, jI 81, jI (wr (223 + (wr (81 * v1)))), jR 773, jI (wr (223 + (wr (81 * (wr (v1 + 1)))))), jR 773]) rfl ?_
    refine L_iald (c422 57 rfl) hM rt773 ln773 (by decide) ?_
    refine L_ps c422 (n := 3) (pc1 := 61) (ls1 := [jR 772, jI v1]) (st1 := [jI (wr (81 * (wr (((mup μ4 773 2 (wr ((μ4 773 2) - 1))) 773 2) - v1)))), jI (wr (223 + (wr (81 * v1)))), jR 773, jI (wr (223 + (wr (81 * (wr (v1 + 1)))))), jR 773]) rfl ?_
    refine L_cV (c422 61 rfl) (js_t rfl) hh422 (k_Md_lays rt773 rt773 hM h) (fun M μ6 hM h => ?_) (fun _ _ _ _ f => f.elim)
    refine L_ps c422 (n := 1) (pc1 := 65) (ls1 := [jR 772, jI v1]) (st1 := [jR 772]) rfl ?_
    refine L_getP (d := 1) (c422 65 rfl) hM rt772 rfl ?_
    refine L_ps c422 (n := 1) (pc1 := 69) (ls1 := [jR 772, jI v1]) (st1 := [jI 2, jR 773]) rfl ?_
    refine L_iald (c422 69 rfl) hM rt773 ln773 (by decide) ?_
    exact L_retI (c422 70 rfl) (hQ _ _ _ hM h)
  · refine L_ps c422 (n := 1) (pc1 := 9) (ls1 := [jR 772, jI v1]) (st1 := [jI 0]) rfl ?_
    exact L_retI (c422 9 rfl) (hQ _ _ _ hM h)
theorem k_Md_undo_j13 {E : JE2} {t1 : Int} {μ : Mem} {M : JM} {P : JO → JM → Prop} {Q : Int → Mem → Prop} (hM : Rl E M μ) (hQ : ∀ (r : Int) (M1 : JM) (μ1 : Mem), Rl E M1 μ1 → Q r μ1 → P (.inl (some (.inl r))) M1) (h : d_Md_undo_j13 t1 μ Q) : JX 423 13 [jR 772] [jI t1, jR 772] M P := by
  unfold d_Md_undo_j13 at h
  refine L_ps c423 (n := 2) (pc1 := 15) (ls1 := [jR 772]) (st1 := [jI 1, jI 1, jI t1, jR 772]) rfl ?_
  refine L_cB (c423 15 rfl) (js_v rfl ((Rl_tag hM rt772 (by decide)).trans js266)) hh423 (k_Md_may hM h) (fun r1 M μ2 hM h => ?_) (fun _ _ _ _ f => f.elim)
  refine L_br (p1 := 23) (p2 := 21) (c423 18 rfl) rfl jc_neb h (fun h => ?_) (fun h => ?_)
  · refine L_ps c423 (n := 2) (pc1 := 25) (ls1 := [jR 772]) (st1 := [jR 772, jR 772]) rfl ?_
    refine L_getI (c423 25 rfl) hM rt772 rfl ?_
    refine L_ps c423 (n := 2) (pc1 := 30) (ls1 := [jR 772]) (st1 := [jI (wr ((μ2 772 7) - 1)), jR 772]) rfl ?_
    refine L_putI (c423 30 rfl) hM rt772 rfl (fun M hM => ?_)
    refine L_ps c423 (n := 1) (pc1 := 34) (ls1 := [jR 772]) (st1 := [jR 772]) rfl ?_
    refine L_getP (d := 3) (c423 34 rfl) hM rt772 rfl ?_
    refine L_ps c423 (n := 1) (pc1 := 38) (ls1 := [jR 772]) (st1 := [jR 772, jR 775]) rfl ?_
    refine L_getI (c423 38 rfl) hM rt772 rfl ?_
    refine L_ps c423 (n := 3) (pc1 := 46) (ls1 := [jR 772]) (st1 := [jR 772, jI (wr (((mup μ2 772 7 (wr ((μ2 772 7) - 1))) 772 7) * 709)), jR 775]) rfl ?_
    refine L_getP (d := 1) (c423 46 rfl) hM rt772 rfl ?_
    refine L_ps c423 (n := 2) (pc1 := 53) (ls1 := [jR 772]) (st1 := [jI 709, jI 0, jR 773, jI (wr (((mup μ2 772 7 (wr ((μ2 772 7) - 1))) 772 7) * 709)), jR 775]) rfl ?_
    refine L_cV (c423 53 rfl) (js_t rfl) hh423 (k_Md_lays rt775 rt773 hM h) (fun M μ4 hM h => ?_) (fun _ _ _ _ f => f.elim)
    refine L_ps c423 (n := 1) (pc1 := 57) (ls1 := [jR 772]) (st1 := [jR 772]) rfl ?_
    refine L_getI (c423 57 rfl) hM rt772 rfl ?_
    exact L_retI (c423 60 rfl) (hQ _ _ _ hM h)
  · refine L_ps c423 (n := 1) (pc1 := 22) (ls1 := [jR 772]) (st1 := [jI 0]) rfl ?_
    exact L_retI (c423 22 rfl) (hQ _ _ _ hM h)
theorem k_Md_undo {E : JE2} {μ : Mem} {M : JM} {Q : Int → Mem → Prop} (hM : Rl E M μ) (h : d_Md_undo μ Q) : JX 423 0 (jargs 423 [jR 772]) [] M (PO E (QI Q) XN) := by
  unfold d_Md_undo at h
  show JX 423 0 [jR 772] [] M (PO E (QI Q) XN)
  generalize hP : PO E (QI Q) XN = P
  have hQ : ∀ (r : Int) (M1 : JM) (μ1 : Mem), Rl E M1 μ1 → Q r μ1 → P (.inl (some (.inl r))) M1 := by rw [← hP]; exact fun r M1 μ1 a b => ⟨μ1, a, r, rfl, b⟩
  clear hP
  refine L_ps c423 (n := 2) (pc1 := 2) (ls1 := [jR 772]) (st1 := [jR 772, jR 772]) rfl ?_
  refine L_getI (c423 2 rfl) hM rt772 rfl ?_
  refine L_nb (p1 := 12) (p2 := 8) (c423 5 rfl) rfl jc_le h (fun h => ?_) (fun h => ?_)
  · refine L_ps c423 (n := 2) (pc1 := 13) (ls1 := [jR 772]) (st1 := [jI 1, jR 772]) rfl ?_
    exact k_Md_undo_j13 hM hQ h
  · refine L_ps c423 (n := 1) (pc1 := 13) (ls1 := [jR 772]) (st1 := [jI 0, jR 772]) rfl ?_
    exact k_Md_undo_j13 hM hQ h
theorem k_Md_undoCount {E : JE2} {μ : Mem} {M : JM} {Q : Int → Mem → Prop} (hM : Rl E M μ) (h : d_Md_undoCount μ Q) : JX 424 0 (jargs 424 [jR 772]) [] M (PO E (QI Q) XN) := by
  unfold d_Md_undoCount at h
  show JX 424 0 [jR 772] [] M (PO E (QI Q) XN)
  generalize hP : PO E (QI Q) XN = P
  have hQ : ∀ (r : Int) (M1 : JM) (μ1 : Mem), Rl E M1 μ1 → Q r μ1 → P (.inl (some (.inl r))) M1 := by rw [← hP]; exact fun r M1 μ1 a b => ⟨μ1, a, r, rfl, b⟩
  clear hP
  refine L_ps c424 (n := 2) (pc1 := 2) (ls1 := [jR 772]) (st1 := [jR 772, jR 772]) rfl ?_
  refine L_getI (c424 2 rfl) hM rt772 rfl ?_
  refine L_cI (c424 5 rfl) (js_v rfl ((Rl_tag hM rt772 (by decide)).trans js261)) hh424 (k_Md_told hM h) (fun r1 M μ2 hM h => ?_) (fun _ _ _ _ f => f.elim)
  exact L_retI (c424 8 rfl) (hQ _ _ _ hM h)
theorem k_Md_isSlot {E : JE2} {v0 : Int} {μ : Mem} {M : JM} {Q : Bool → Prop} (hM : Rl E M μ) (h : d_Md_isSlot v0 μ Q) : JX 426 0 (jargs 426 [jI v0]) [] M (PO E (pQB μ Q) XN) := by
  unfold d_Md_isSlot at h
  show JX 426 0 [jI v0] [] M (PO E (pQB μ Q) XN)
  generalize hP : PO E (pQB μ Q) XN = P
  have hQ : ∀ (r : Bool) (M1 : JM), Rl E M1 μ → Q r → P (.inl (some (.inl (b2i r)))) M1 := by rw [← hP]; exact fun r M1 a b => ⟨μ, a, rfl, r, rfl, b⟩
  clear hP
  refine L_ps c426 (n := 3) (pc1 := 3) (ls1 := [jI v0]) (st1 := [jI 1, jI 0, jI v0]) rfl ?_
  refine L_cpB (c426 3 rfl) (js_t rfl) hh426 (k_Md_in hM h) (fun r1 M hM h => ?_) (fun _ _ _ _ f => f.elim)
  exact L_retB (c426 6 rfl) (bz_b _) (hQ _ _ hM h)
theorem k_Md_saveState {E : JE2} {v1 : Int} {μ : Mem} {M : JM} {Q : Int → Mem → Prop} (hM : Rl E M μ) (h : d_Md_saveState v1 μ Q) : JX 425 0 (jargs 425 [jR 772, jI v1]) [] M (PO E (QI Q) XN) := by
  unfold d_Md_saveState at h
  show JX 425 0 [jR 772, jI v1] [] M (PO E (QI Q) XN)
  generalize hP : PO E (QI Q) XN = P
  have hQ : ∀ (r : Int) (M1 : JM) (μ1 : Mem), Rl E M1 μ1 → Q r μ1 → P (.inl (some (.inl r))) M1 := by rw [← hP]; exact fun r M1 μ1 a b => ⟨μ1, a, r, rfl, b⟩
  clear hP
  refine L_ps c425 (n := 2) (pc1 := 2) (ls1 := [jR 772, jI v1]) (st1 := [jR 772, jR 772]) rfl ?_
  refine L_getI (c425 2 rfl) hM rt772 rfl ?_
  refine L_ps c425 (n := 1) (pc1 := 6) (ls1 := [jR 772, jI v1]) (st1 := [jI v1, jI (μ 772 6), jR 772]) rfl ?_
  refine L_cpB (c425 6 rfl) (js_t rfl) hh425 (k_Md_isSlot hM h) (fun r1 M hM h => ?_) (fun _ _ _ _ f => f.elim)
  refine L_cB (c425 9 rfl) (js_v rfl ((Rl_tag hM rt772 (by decide)).trans js325)) hh425 (k_Md_mayTwo hM h) (fun r3 M μ4 hM h => ?_) (fun _ _ _ _ f => f.elim)
  refine L_br (p1 := 17) (p2 := 15) (c425 12 rfl) rfl jc_neb h (fun h => ?_) (fun h => ?_)
  · refine L_ps c425 (n := 1) (pc1 := 18) (ls1 := [jR 772, jI v1]) (st1 := [jR 772]) rfl ?_
    refine L_getP (d := 1) (c425 18 rfl) hM rt772 rfl ?_
    refine L_ps c425 (n := 2) (pc1 := 23) (ls1 := [jR 772, jI v1]) (st1 := [jR 772, jI 0, jR 773]) rfl ?_
    refine L_getP (d := 4) (c425 23 rfl) hM rt772 rfl ?_
    refine L_ps c425 (n := 4) (pc1 := 34) (ls1 := [jR 772, jI v1]) (st1 := [jI 709, jI (wr (v1 * 709)), jR 776, jI 0, jR 773]) rfl ?_
    refine L_cV (c425 34 rfl) (js_t rfl) hh425 (k_Md_lays rt773 rt776 hM h) (fun M μ6 hM h => ?_) (fun _ _ _ _ f => f.elim)
    refine L_ps c425 (n := 1) (pc1 := 38) (ls1 := [jR 772, jI v1]) (st1 := [jR 772]) rfl ?_
    refine L_getP (d := 5) (c425 38 rfl) hM rt772 rfl ?_
    refine L_ps c425 (n := 2) (pc1 := 43) (ls1 := [jR 772, jI v1]) (st1 := [jI 1, jI v1, jR 777]) rfl ?_
    obtain ⟨hb, h⟩ := h
    refine L_zast (c425 43 rfl) hM rt777 ln777 hb (Or.inr rfl) (fun M hM => ?_)
    refine L_ps c425 (n := 1) (pc1 := 45) (ls1 := [jR 772, jI v1]) (st1 := [jR 772]) rfl ?_
    refine L_getP (d := 1) (c425 45 rfl) hM rt772 rfl ?_
    refine L_ps c425 (n := 1) (pc1 := 49) (ls1 := [jR 772, jI v1]) (st1 := [jI 2, jR 773]) rfl ?_
    refine L_iald (c425 49 rfl) hM rt773 ln773 (by decide) ?_
    exact L_retI (c425 50 rfl) (hQ _ _ _ hM h)
  · refine L_ps c425 (n := 1) (pc1 := 16) (ls1 := [jR 772, jI v1]) (st1 := [jI 0]) rfl ?_
    exact L_retI (c425 16 rfl) (hQ _ _ _ hM h)
theorem k_Md_restoreState_j25 {E : JE2} {v1 : Int} {t1 : Int} {t2 : Int} {μ : Mem} {M : JM} {P : JO → JM → Prop} {g2 : JV} {Q : Int → Mem → Prop} (hM : Rl E M μ) (hQ : ∀ (r : Int) (M1 : JM) (μ1 : Mem), Rl E M1 μ1 → Q r μ1 → P (.inl (some (.inl r))) M1) (h : d_Md_restoreState_j25 v1 t1 t2 μ Q) : JX 427 25 [jR 772, jI v1, g2] [jI t2, jI t1, jR 772] M P := by
  unfold d_Md_restoreState_j25 at h
  refine L_cB (c427 25 rfl) (js_v rfl ((Rl_tag hM rt772 (by decide)).trans js325)) hh427 (k_Md_mayTwo hM h) (fun r3 M μ4 hM h => ?_) (fun _ _ _ _ f => f.elim)
  refine L_br (p1 := 33) (p2 := 31) (c427 28 rfl) rfl jc_neb h (fun h => ?_) (fun h => ?_)
  · refine L_ps c427 (n := 1) (pc1 := 34) (ls1 := [jR 772, jI v1, g2]) (st1 := [jR 772]) rfl ?_
    refine L_getP (d := 4) (c427 34 rfl) hM rt772 rfl ?_
    refine L_ps c427 (n := 4) (pc1 := 43) (ls1 := [jR 772, jI v1, g2]) (st1 := [jR 772, jI (wr (v1 * 709)), jR 776]) rfl ?_
    refine L_getP (d := 1) (c427 43 rfl) hM rt772 rfl ?_
    refine L_ps c427 (n := 2) (pc1 := 50) (ls1 := [jR 772, jI v1, g2]) (st1 := [jI 709, jI 0, jR 773, jI (wr (v1 * 709)), jR 776]) rfl ?_
    refine L_cV (c427 50 rfl) (js_t rfl) hh427 (k_Md_lays rt776 rt773 hM h) (fun M μ6 hM h => ?_) (fun _ _ _ _ f => f.elim)
    refine L_ps c427 (n := 2) (pc1 := 55) (ls1 := [jR 772, jI v1, g2]) (st1 := [jI 0, jR 772]) rfl ?_
    refine L_putI (c427 55 rfl) hM rt772 rfl (fun M hM => ?_)
    refine L_ps c427 (n := 1) (pc1 := 59) (ls1 := [jR 772, jI v1, g2]) (st1 := [jR 772]) rfl ?_
    refine L_getP (d := 1) (c427 59 rfl) hM rt772 rfl ?_
    refine L_ps c427 (n := 1) (pc1 := 63) (ls1 := [jR 772, jI v1, g2]) (st1 := [jI 2, jR 773]) rfl ?_
    refine L_iald (c427 63 rfl) hM rt773 ln773 (by decide) ?_
    exact L_retI (c427 64 rfl) (hQ _ _ _ hM h)
  · refine L_ps c427 (n := 1) (pc1 := 32) (ls1 := [jR 772, jI v1, g2]) (st1 := [jI 0]) rfl ?_
    exact L_retI (c427 32 rfl) (hQ _ _ _ hM h)
theorem k_Md_restoreState_j24 {E : JE2} {v1 : Int} {t1 : Int} {μ : Mem} {M : JM} {P : JO → JM → Prop} {g2 : JV} {Q : Int → Mem → Prop} (hM : Rl E M μ) (hQ : ∀ (r : Int) (M1 : JM) (μ1 : Mem), Rl E M1 μ1 → Q r μ1 → P (.inl (some (.inl r))) M1) (h : d_Md_restoreState_j24 v1 t1 μ Q) : JX 427 24 [jR 772, jI v1, g2] [jI t1, jR 772] M P := by
  unfold d_Md_restoreState_j24 at h
  refine L_ps c427 (n := 1) (pc1 := 25) (ls1 := [jR 772, jI v1, g2]) (st1 := [jI 0, jI t1, jR 772]) rfl ?_
  exact k_Md_restoreState_j25 hM hQ h
theorem k_Md_restoreState {E : JE2} {v1 : Int} {μ : Mem} {M : JM} {Q : Int → Mem → Prop} (hM : Rl E M μ) (h : d_Md_restoreState v1 μ Q) : JX 427 0 (jargs 427 [jR 772, jI v1]) [] M (PO E (QI Q) XN) := by
  unfold d_Md_restoreState at h
  show JX 427 0 [jR 772, jI v1, jU] [] M (PO E (QI Q) XN)
  generalize hP : PO E (QI Q) XN = P
  have hQ : ∀ (r : Int) (M1 : JM) (μ1 : Mem), Rl E M1 μ1 → Q r μ1 → P (.inl (some (.inl r))) M1 := by rw [← hP]; exact fun r M1 μ1 a b => ⟨μ1, a, r, rfl, b⟩
  clear hP
  refine L_ps c427 (n := 1) (pc1 := 1) (ls1 := [jR 772, jI v1, jU]) (st1 := [jI v1]) rfl ?_
  refine L_cpB (c427 1 rfl) (js_t rfl) hh427 (k_Md_isSlot hM h) (fun r1 M hM h => ?_) (fun _ _ _ _ f => f.elim)
  refine L_ps c427 (n := 4) (pc1 := 8) (ls1 := [jR 772, jI v1, jI (b2i r1)]) (st1 := [jI (b2i r1), jI (b2i r1), jR 772]) rfl ?_
  refine L_nb (p1 := 24) (p2 := 11) (c427 8 rfl) rfl jc_eqb h (fun h => ?_) (fun h => ?_)
  · refine L_ps c427 (n := 1) (pc1 := 12) (ls1 := [jR 772, jI v1, jI (b2i r1)]) (st1 := [jR 772, jI (b2i r1), jR 772]) rfl ?_
    refine L_getP (d := 5) (c427 12 rfl) hM rt772 rfl ?_
    refine L_ps c427 (n := 1) (pc1 := 16) (ls1 := [jR 772, jI v1, jI (b2i r1)]) (st1 := [jI v1, jR 777, jI (b2i r1), jR 772]) rfl ?_
    obtain ⟨hb, h⟩ := h
    refine L_bald (c427 16 rfl) hM (Or.inr rt777) ln777 hb ?_
    refine L_br (p1 := 24) (p2 := 20) (c427 17 rfl) rfl jc_eq h (fun h => ?_) (fun h => ?_)
    · exact k_Md_restoreState_j24 hM hQ h
    · refine L_ps c427 (n := 2) (pc1 := 25) (ls1 := [jR 772, jI v1, jI (b2i r1)]) (st1 := [jI 1, jI (b2i r1), jR 772]) rfl ?_
      exact k_Md_restoreState_j25 hM hQ h
  · exact k_Md_restoreState_j24 hM hQ h
