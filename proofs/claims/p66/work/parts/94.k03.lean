/-! that the printed tables do what the texts say (written by wip/gen/dec.py), 3 -/
theorem k_OB_removeTerm {E : JE2} {v1 : Int} {μ : Mem} {M : JM} {Q : Int → Mem → Prop} {X : Nat → Mem → Prop} (hM : Rl E M μ) (h : d_OB_removeTerm v1 μ Q X) : JX 140 0 (jargs 140 [jR 0, jI v1]) [] M (PO E (QI Q) X) := by
  unfold d_OB_removeTerm at h
  show JX 140 0 [jR 0, jI v1] [] M (PO E (QI Q) X)
  generalize hP : PO E (QI Q) X = P
  have hQ : ∀ (r : Int) (M1 : JM) (μ1 : Mem), Rl E M1 μ1 → Q r μ1 → P (.inl (some (.inl r))) M1 := by rw [← hP]; exact fun r M1 μ1 a b => ⟨μ1, a, r, rfl, b⟩
  have hX : ∀ (k : Nat) (M1 : JM) (μ1 : Mem), Rl E M1 μ1 → X k μ1 → P (.inr k) M1 := by rw [← hP]; exact fun k M1 μ1 a b => ⟨μ1, a, b⟩
  clear hP
  refine L_ps c140 (n := 2) (pc1 := 2) (ls1 := [jR 0, jI v1]) (st1 := [jI v1, jR 0]) rfl ?_
  refine L_cR (c140 2 rfl) (js_v rfl ((Rl_tag hM rt0 (by decide)).trans js81)) hh140 (k_OB_requireTerm hM h) (fun r1 M μ2 hM hr1 h => ?_) (fun k M μx hM hx => hX _ _ _ hM hx)
  refine L_ps c140 (n := 2) (pc1 := 7) (ls1 := [jR 0, jI v1]) (st1 := [jR 0]) rfl ?_
  refine L_cV (c140 7 rfl) (js_v rfl ((Rl_tag hM rt0 (by decide)).trans js131)) hh140 (k_OB_remember hM h) (fun M μ4 hM h => ?_) (fun _ _ _ _ f => f.elim)
  refine L_ps c140 (n := 1) (pc1 := 11) (ls1 := [jR 0, jI v1]) (st1 := [jR 0]) rfl ?_
  refine L_getP (d := 5) (c140 11 rfl) hM rt0 rfl ?_
  refine L_ps c140 (n := 1) (pc1 := 15) (ls1 := [jR 0, jI v1]) (st1 := [jI v1, jR 5]) rfl ?_
  refine L_cV (c140 15 rfl) (js_v rfl ((Rl_tag hM rt5 (by decide)).trans js141)) hh140 (k_State_dropTerm rt5 hM h) (fun M μ6 hM h => ?_) (fun _ _ _ _ f => f.elim)
  refine L_ps c140 (n := 1) (pc1 := 19) (ls1 := [jR 0, jI v1]) (st1 := [jR 0]) rfl ?_
  refine L_getP (d := 5) (c140 19 rfl) hM rt0 rfl ?_
  refine L_getI (c140 22 rfl) hM rt5 rfl ?_
  exact L_retI (c140 25 rfl) (hQ _ _ _ hM h)
theorem k_History_takeBack_j54 {E : JE2} {t1 : Int} {μ : Mem} {M : JM} {P : JO → JM → Prop} {g0 : JV} {g1 : JV} {g2 : JV} {Q : Mem → Prop} (hg1 : jc2 g1 = false) (hM : Rl E M μ) (hQ : ∀ (M1 : JM) (μ1 : Mem), Rl E M1 μ1 → Q μ1 → P (.inl none) M1) (h : d_History_takeBack_j54 t1 μ Q) : JX 143 54 [g0, g1, g2] [jI t1, jR 247] M P := by
  unfold d_History_takeBack_j54 at h
  refine L_putI (c143 54 rfl) hM rt247 rfl (fun M hM => ?_)
  exact L_end (c143 57 rfl) rfl (hQ _ _ hM h)
theorem k_History_takeBack {E : JE2} {v1 : Nat} {μ : Mem} {M : JM} {Q : Mem → Prop} (hv1 : rt v1 = 7) (hM : Rl E M μ) (h : d_History_takeBack v1 μ Q) : JX 143 0 (jargs 143 [jR 247, jR v1]) [] M (PO E (QV Q) XN) := by
  unfold d_History_takeBack at h
  show JX 143 0 [jR 247, jR v1, jU] [] M (PO E (QV Q) XN)
  generalize hP : PO E (QV Q) XN = P
  have hQ : ∀ (M1 : JM) (μ1 : Mem), Rl E M1 μ1 → Q μ1 → P (.inl none) M1 := by rw [← hP]; exact fun M1 μ1 a b => ⟨μ1, a, rfl, b⟩
  clear hP
  refine L_ps c143 (n := 2) (pc1 := 2) (ls1 := [jR 247, jR v1, jU]) (st1 := [jR 247, jR 247]) rfl ?_
  refine L_getI (c143 2 rfl) hM rt247 rfl ?_
  refine L_cpR (c143 5 rfl) (js_v rfl ((Rl_tag hM rt247 (by decide)).trans js133)) hh143 (k_History_at hM h) (fun r1 M hM hr1 h => ?_) (fun _ _ _ _ f => f.elim)
  refine L_ps c143 (n := 2) (pc1 := 10) (ls1 := [jR 247, jR v1, jR r1]) (st1 := [jR 247]) rfl ?_
  refine L_getI (c143 10 rfl) hM rt247 rfl ?_
  refine L_nb (p1 := 57) (p2 := 16) (c143 13 rfl) rfl jc_le h (fun h => ?_) (fun h => ?_)
  · refine L_ps c143 (n := 4) (pc1 := 22) (ls1 := [jR 247, jR v1, jR r1]) (st1 := [jR r1, jR v1]) rfl ?_
    refine L_cV (c143 22 rfl) (js_v rfl ((Rl_tag hM hv1 (by decide)).trans js75)) hh143 (k_State_copyFrom hv1 hr1 hM h) (fun M μ4 hM h => ?_) (fun _ _ _ _ f => f.elim)
    refine L_ps c143 (n := 2) (pc1 := 27) (ls1 := [jR 247, jR v1, jR r1]) (st1 := [jR 247, jR 247]) rfl ?_
    refine L_getI (c143 27 rfl) hM rt247 rfl ?_
    refine L_ps c143 (n := 2) (pc1 := 32) (ls1 := [jR 247, jR v1, jR r1]) (st1 := [jI (wr ((μ4 247 0) - 1)), jR 247]) rfl ?_
    refine L_putI (c143 32 rfl) hM rt247 rfl (fun M hM => ?_)
    refine L_ps c143 (n := 2) (pc1 := 37) (ls1 := [jR 247, jR v1, jR r1]) (st1 := [jR 247, jR 247]) rfl ?_
    refine L_getI (c143 37 rfl) hM rt247 rfl ?_
    refine L_nb (p1 := 52) (p2 := 43) (c143 40 rfl) rfl jc_le h (fun h => ?_) (fun h => ?_)
    · refine L_ps c143 (n := 1) (pc1 := 44) (ls1 := [jR 247, jR v1, jR r1]) (st1 := [jR 247, jR 247]) rfl ?_
      refine L_getI (c143 44 rfl) hM rt247 rfl ?_
      refine L_ps c143 (n := 3) (pc1 := 54) (ls1 := [jR 247, jR v1, jR r1]) (st1 := [jI (wr (((mup μ4 247 0 (wr ((μ4 247 0) - 1))) 247 1) - 1)), jR 247]) rfl ?_
      exact k_History_takeBack_j54 rfl hM hQ h
    · refine L_ps c143 (n := 1) (pc1 := 54) (ls1 := [jR 247, jR v1, jR r1]) (st1 := [jI 7, jR 247]) rfl ?_
      exact k_History_takeBack_j54 rfl hM hQ h
  · exact L_end (c143 57 rfl) rfl (hQ _ _ hM h)
theorem k_OB_undo {E : JE2} {μ : Mem} {M : JM} {Q : Int → Mem → Prop} {X : Nat → Mem → Prop} (hM : Rl E M μ) (h : d_OB_undo μ Q X) : JX 142 0 (jargs 142 [jR 0]) [] M (PO E (QI Q) X) := by
  unfold d_OB_undo at h
  show JX 142 0 [jR 0] [] M (PO E (QI Q) X)
  generalize hP : PO E (QI Q) X = P
  have hQ : ∀ (r : Int) (M1 : JM) (μ1 : Mem), Rl E M1 μ1 → Q r μ1 → P (.inl (some (.inl r))) M1 := by rw [← hP]; exact fun r M1 μ1 a b => ⟨μ1, a, r, rfl, b⟩
  have hX : ∀ (k : Nat) (M1 : JM) (μ1 : Mem), Rl E M1 μ1 → X k μ1 → P (.inr k) M1 := by rw [← hP]; exact fun k M1 μ1 a b => ⟨μ1, a, b⟩
  clear hP
  refine L_ps c142 (n := 1) (pc1 := 1) (ls1 := [jR 0]) (st1 := [jR 0]) rfl ?_
  refine L_getP (d := 247) (c142 1 rfl) hM rt0 rfl ?_
  refine L_getI (c142 4 rfl) hM rt247 rfl ?_
  refine L_br (p1 := 18) (p2 := 10) (c142 7 rfl) rfl jc_gt h (fun h => ?_) (fun h => ?_)
  · refine L_ps c142 (n := 1) (pc1 := 19) (ls1 := [jR 0]) (st1 := [jR 0]) rfl ?_
    refine L_getP (d := 247) (c142 19 rfl) hM rt0 rfl ?_
    refine L_ps c142 (n := 1) (pc1 := 23) (ls1 := [jR 0]) (st1 := [jR 0, jR 247]) rfl ?_
    refine L_getP (d := 5) (c142 23 rfl) hM rt0 rfl ?_
    refine L_cV (c142 26 rfl) (js_v rfl ((Rl_tag hM rt247 (by decide)).trans js143)) hh142 (k_History_takeBack rt5 hM h) (fun M μ2 hM h => ?_) (fun _ _ _ _ f => f.elim)
    refine L_ps c142 (n := 1) (pc1 := 30) (ls1 := [jR 0]) (st1 := [jR 0]) rfl ?_
    refine L_getP (d := 139) (c142 30 rfl) hM rt0 rfl ?_
    refine L_ps c142 (n := 1) (pc1 := 34) (ls1 := [jR 0]) (st1 := [jI 1, jR 139]) rfl ?_
    refine L_putB (t := 2) (c142 34 rfl) hM rt139 rfl (Or.inr rfl) (fun M hM => ?_)
    refine L_ps c142 (n := 1) (pc1 := 38) (ls1 := [jR 0]) (st1 := [jR 0]) rfl ?_
    refine L_getP (d := 247) (c142 38 rfl) hM rt0 rfl ?_
    refine L_getI (c142 41 rfl) hM rt247 rfl ?_
    exact L_retI (c142 44 rfl) (hQ _ _ _ hM h)
  · exact L_throw (k := 0) (c142 10 rfl) (hX _ _ _ (Rl_throw hM) h)
theorem k_OB_undoCount {E : JE2} {μ : Mem} {M : JM} {Q : Int → Prop} (hM : Rl E M μ) (h : d_OB_undoCount μ Q) : JX 144 0 (jargs 144 [jR 0]) [] M (PO E (pQI μ Q) XN) := by
  unfold d_OB_undoCount at h
  show JX 144 0 [jR 0] [] M (PO E (pQI μ Q) XN)
  generalize hP : PO E (pQI μ Q) XN = P
  have hQ : ∀ (r : Int) (M1 : JM), Rl E M1 μ → Q r → P (.inl (some (.inl r))) M1 := by rw [← hP]; exact fun r M1 a b => ⟨μ, a, rfl, r, rfl, b⟩
  clear hP
  refine L_ps c144 (n := 1) (pc1 := 1) (ls1 := [jR 0]) (st1 := [jR 0]) rfl ?_
  refine L_getP (d := 247) (c144 1 rfl) hM rt0 rfl ?_
  refine L_getI (c144 4 rfl) hM rt247 rfl ?_
  exact L_retI (c144 7 rfl) (hQ _ _ hM h)
theorem k_OB_saveState {E : JE2} {v1 : Int} {μ : Mem} {M : JM} {Q : Int → Mem → Prop} {X : Nat → Mem → Prop} (hM : Rl E M μ) (h : d_OB_saveState v1 μ Q X) : JX 145 0 (jargs 145 [jR 0, jI v1]) [] M (PO E (QI Q) X) := by
  unfold d_OB_saveState at h
  show JX 145 0 [jR 0, jI v1] [] M (PO E (QI Q) X)
  generalize hP : PO E (QI Q) X = P
  have hQ : ∀ (r : Int) (M1 : JM) (μ1 : Mem), Rl E M1 μ1 → Q r μ1 → P (.inl (some (.inl r))) M1 := by rw [← hP]; exact fun r M1 μ1 a b => ⟨μ1, a, r, rfl, b⟩
  have hX : ∀ (k : Nat) (M1 : JM) (μ1 : Mem), Rl E M1 μ1 → X k μ1 → P (.inr k) M1 := by rw [← hP]; exact fun k M1 μ1 a b => ⟨μ1, a, b⟩
  clear hP
  refine L_ps c145 (n := 1) (pc1 := 1) (ls1 := [jR 0, jI v1]) (st1 := [jR 0]) rfl ?_
  refine L_cV (c145 1 rfl) (js_v rfl ((Rl_tag hM rt0 (by decide)).trans js78)) hh145 (k_OB_requireSystem hM h) (fun M μ2 hM h => ?_) (fun k M μx hM hx => hX _ _ _ hM hx)
  refine L_ps c145 (n := 3) (pc1 := 7) (ls1 := [jR 0, jI v1]) (st1 := [jI 2, jI v1, jR 0]) rfl ?_
  refine L_cV (c145 7 rfl) (js_v rfl ((Rl_tag hM rt0 (by decide)).trans js82)) hh145 (k_OB_requireIndex hM h) (fun M μ4 hM h => ?_) (fun k M μx hM hx => hX _ _ _ hM hx)
  refine L_ps c145 (n := 1) (pc1 := 11) (ls1 := [jR 0, jI v1]) (st1 := [jI v1]) rfl ?_
  refine L_nb (p1 := 33) (p2 := 14) (c145 11 rfl) rfl jc_ne h (fun h => ?_) (fun h => ?_)
  · refine L_ps c145 (n := 1) (pc1 := 15) (ls1 := [jR 0, jI v1]) (st1 := [jR 0]) rfl ?_
    refine L_getP (d := 665) (c145 15 rfl) hM rt0 rfl ?_
    refine L_ps c145 (n := 1) (pc1 := 19) (ls1 := [jR 0, jI v1]) (st1 := [jR 0, jR 665]) rfl ?_
    refine L_getP (d := 5) (c145 19 rfl) hM rt0 rfl ?_
    refine L_cV (c145 22 rfl) (js_v rfl ((Rl_tag hM rt665 (by decide)).trans js75)) hh145 (k_State_copyFrom rt665 rt5 hM h) (fun M μ6 hM h => ?_) (fun _ _ _ _ f => f.elim)
    refine L_ps c145 (n := 2) (pc1 := 27) (ls1 := [jR 0, jI v1]) (st1 := [jI 1, jR 0]) rfl ?_
    refine L_putB (t := 10) (c145 27 rfl) hM rt0 rfl (Or.inr rfl) (fun M hM => ?_)
    refine L_ps c145 (n := 2) (pc1 := 50) (ls1 := [jR 0, jI v1]) (st1 := [jR 0]) rfl ?_
    refine L_getP (d := 5) (c145 50 rfl) hM rt0 rfl ?_
    refine L_getI (c145 53 rfl) hM rt5 rfl ?_
    exact L_retI (c145 56 rfl) (hQ _ _ _ hM h)
  · refine L_ps c145 (n := 1) (pc1 := 34) (ls1 := [jR 0, jI v1]) (st1 := [jR 0]) rfl ?_
    refine L_getP (d := 717) (c145 34 rfl) hM rt0 rfl ?_
    refine L_ps c145 (n := 1) (pc1 := 38) (ls1 := [jR 0, jI v1]) (st1 := [jR 0, jR 717]) rfl ?_
    refine L_getP (d := 5) (c145 38 rfl) hM rt0 rfl ?_
    refine L_cV (c145 41 rfl) (js_v rfl ((Rl_tag hM rt717 (by decide)).trans js75)) hh145 (k_State_copyFrom rt717 rt5 hM h) (fun M μ8 hM h => ?_) (fun _ _ _ _ f => f.elim)
    refine L_ps c145 (n := 2) (pc1 := 46) (ls1 := [jR 0, jI v1]) (st1 := [jI 1, jR 0]) rfl ?_
    refine L_putB (t := 10) (c145 46 rfl) hM rt0 rfl (Or.inr rfl) (fun M hM => ?_)
    refine L_ps c145 (n := 1) (pc1 := 50) (ls1 := [jR 0, jI v1]) (st1 := [jR 0]) rfl ?_
    refine L_getP (d := 5) (c145 50 rfl) hM rt0 rfl ?_
    refine L_getI (c145 53 rfl) hM rt5 rfl ?_
    exact L_retI (c145 56 rfl) (hQ _ _ _ hM h)
theorem k_OB_restoreState_j50 {E : JE2} {t1 : Nat} {μ : Mem} {M : JM} {P : JO → JM → Prop} {g1 : JV} {g2 : JV} {Q : Int → Mem → Prop} {X : Nat → Mem → Prop} (hg1 : jc2 g1 = false) (ht1 : rt t1 = 7) (hM : Rl E M μ) (hQ : ∀ (r : Int) (M1 : JM) (μ1 : Mem), Rl E M1 μ1 → Q r μ1 → P (.inl (some (.inl r))) M1) (hX : ∀ (k : Nat) (M1 : JM) (μ1 : Mem), Rl E M1 μ1 → X k μ1 → P (.inr k) M1) (h : d_OB_restoreState_j50 t1 μ Q X) : JX 146 50 [jR 0, g1, g2] [jR t1, jR 0] M P := by
  unfold d_OB_restoreState_j50 at h
  refine L_cV (c146 50 rfl) (js_v rfl ((Rl_tag hM rt0 (by decide)).trans js74)) hh146 (k_OB_adopt ht1 hM h) (fun M μ4 hM h => ?_) (fun _ _ _ _ f => f.elim)
  refine L_ps c146 (n := 1) (pc1 := 54) (ls1 := [jR 0, g1, g2]) (st1 := [jR 0]) rfl ?_
  refine L_getP (d := 5) (c146 54 rfl) hM rt0 rfl ?_
  refine L_getI (c146 57 rfl) hM rt5 rfl ?_
  exact L_retI (c146 60 rfl) (hQ _ _ _ hM h)
theorem k_OB_restoreState_j21 {E : JE2} {v1 : Int} {t0 : Int} {μ : Mem} {M : JM} {P : JO → JM → Prop} {g2 : JV} {Q : Int → Mem → Prop} {X : Nat → Mem → Prop} (hM : Rl E M μ) (hQ : ∀ (r : Int) (M1 : JM) (μ1 : Mem), Rl E M1 μ1 → Q r μ1 → P (.inl (some (.inl r))) M1) (hX : ∀ (k : Nat) (M1 : JM) (μ1 : Mem), Rl E M1 μ1 → X k μ1 → P (.inr k) M1) (h : d_OB_restoreState_j21 v1 t0 μ Q X) : JX 146 21 [jR 0, jI v1, g2] [jI t0] M P := by
  unfold d_OB_restoreState_j21 at h
  refine L_ps c146 (n := 2) (pc1 := 23) (ls1 := [jR 0, jI v1, jI t0]) (st1 := [jI t0]) rfl ?_
  refine L_nb (p1 := 34) (p2 := 26) (c146 23 rfl) rfl jc_ne h (fun h => ?_) (fun h => ?_)
  · exact L_throw (k := 0) (c146 26 rfl) (hX _ _ _ (Rl_throw hM) h)
  · refine L_ps c146 (n := 2) (pc1 := 36) (ls1 := [jR 0, jI v1, jI t0]) (st1 := [jI v1, jR 0]) rfl ?_
    refine L_nb (p1 := 46) (p2 := 39) (c146 36 rfl) rfl jc_ne h (fun h => ?_) (fun h => ?_)
    · refine L_ps c146 (n := 1) (pc1 := 40) (ls1 := [jR 0, jI v1, jI t0]) (st1 := [jR 0, jR 0]) rfl ?_
      refine L_getP (d := 665) (c146 40 rfl) hM rt0 rfl ?_
      refine L_ps c146 (n := 1) (pc1 := 50) (ls1 := [jR 0, jI v1, jI t0]) (st1 := [jR 665, jR 0]) rfl ?_
      exact k_OB_restoreState_j50 rfl rt665 hM hQ hX h
    · refine L_ps c146 (n := 1) (pc1 := 47) (ls1 := [jR 0, jI v1, jI t0]) (st1 := [jR 0, jR 0]) rfl ?_
      refine L_getP (d := 717) (c146 47 rfl) hM rt0 rfl ?_
      exact k_OB_restoreState_j50 rfl rt717 hM hQ hX h
theorem k_OB_restoreState {E : JE2} {v1 : Int} {μ : Mem} {M : JM} {Q : Int → Mem → Prop} {X : Nat → Mem → Prop} (hM : Rl E M μ) (h : d_OB_restoreState v1 μ Q X) : JX 146 0 (jargs 146 [jR 0, jI v1]) [] M (PO E (QI Q) X) := by
  unfold d_OB_restoreState at h
  show JX 146 0 [jR 0, jI v1, jU] [] M (PO E (QI Q) X)
  generalize hP : PO E (QI Q) X = P
  have hQ : ∀ (r : Int) (M1 : JM) (μ1 : Mem), Rl E M1 μ1 → Q r μ1 → P (.inl (some (.inl r))) M1 := by rw [← hP]; exact fun r M1 μ1 a b => ⟨μ1, a, r, rfl, b⟩
  have hX : ∀ (k : Nat) (M1 : JM) (μ1 : Mem), Rl E M1 μ1 → X k μ1 → P (.inr k) M1 := by rw [← hP]; exact fun k M1 μ1 a b => ⟨μ1, a, b⟩
  clear hP
  refine L_ps c146 (n := 3) (pc1 := 3) (ls1 := [jR 0, jI v1, jU]) (st1 := [jI 2, jI v1, jR 0]) rfl ?_
  refine L_cV (c146 3 rfl) (js_v rfl ((Rl_tag hM rt0 (by decide)).trans js82)) hh146 (k_OB_requireIndex hM h) (fun M μ2 hM h => ?_) (fun k M μx hM hx => hX _ _ _ hM hx)
  refine L_ps c146 (n := 1) (pc1 := 7) (ls1 := [jR 0, jI v1, jU]) (st1 := [jI v1]) rfl ?_
  refine L_nb (p1 := 17) (p2 := 10) (c146 7 rfl) rfl jc_ne h (fun h => ?_) (fun h => ?_)
  · refine L_ps c146 (n := 1) (pc1 := 11) (ls1 := [jR 0, jI v1, jU]) (st1 := [jR 0]) rfl ?_
    refine L_getI (c146 11 rfl) hM rt0 rfl ?_
    refine L_ps c146 (n := 1) (pc1 := 21) (ls1 := [jR 0, jI v1, jU]) (st1 := [jI (μ2 0 11)]) rfl ?_
    exact k_OB_restoreState_j21 hM hQ hX h
  · refine L_ps c146 (n := 1) (pc1 := 18) (ls1 := [jR 0, jI v1, jU]) (st1 := [jR 0]) rfl ?_
    refine L_getI (c146 18 rfl) hM rt0 rfl ?_
    exact k_OB_restoreState_j21 hM hQ hX h
theorem k_Parser_putFourBytes_j52 {E : JE2} {v1 : Int} {v2 : Int} {μ : Mem} {M : JM} {P : JO → JM → Prop} {W3 : Int → Mem → Prop} {Q : Mem → Prop} (hM : Rl E M μ) (hQ : ∀ (M1 : JM) (μ1 : Mem), Rl E M1 μ1 → Q μ1 → P (.inl none) M1) (hW3 : ∀ (v2 : Int) (M1 : JM) (μ1 : Mem), Rl E M1 μ1 → W3 v2 μ1 → JX 256 3 [jR 72, jI v1, jI v2] [] M1 P) (h : d_Parser_putFourBytes_j52 v1 v2 μ W3 Q) : JX 256 52 [jR 72, jI v1, jI v2] [] M P := by
  unfold d_Parser_putFourBytes_j52 at h
  refine L_ps c256 (n := 2) (pc1 := 3) (ls1 := [jR 72, jI v1, jI (wr (v2 + (-8)))]) (st1 := []) rfl ?_
  exact hW3 _ _ _ hM h
theorem k_Parser_putFourBytes_b3 {E : JE2} {v1 : Int} {v2 : Int} {μ : Mem} {M : JM} {P : JO → JM → Prop} {W3 : Int → Mem → Prop} {Q : Mem → Prop} (hM : Rl E M μ) (hQ : ∀ (M1 : JM) (μ1 : Mem), Rl E M1 μ1 → Q μ1 → P (.inl none) M1) (hW3 : ∀ (v2 : Int) (M1 : JM) (μ1 : Mem), Rl E M1 μ1 → W3 v2 μ1 → JX 256 3 [jR 72, jI v1, jI v2] [] M1 P) (h : d_Parser_putFourBytes_b3 v1 v2 μ W3 Q) : JX 256 3 [jR 72, jI v1, jI v2] [] M P := by
  unfold d_Parser_putFourBytes_b3 at h
  refine L_ps c256 (n := 1) (pc1 := 4) (ls1 := [jR 72, jI v1, jI v2]) (st1 := [jI v2]) rfl ?_
  refine L_br (p1 := 58) (p2 := 7) (c256 4 rfl) rfl jc_lt h (fun h => ?_) (fun h => ?_)
  · exact L_end (c256 58 rfl) rfl (hQ _ _ hM h)
  · refine L_ps c256 (n := 1) (pc1 := 8) (ls1 := [jR 72, jI v1, jI v2]) (st1 := [jR 72]) rfl ?_
    refine L_getI (c256 8 rfl) hM rt72 rfl ?_
    refine L_br (p1 := 52) (p2 := 14) (c256 11 rfl) rfl jc_lt h (fun h => ?_) (fun h => ?_)
    · exact k_Parser_putFourBytes_j52 hM hQ hW3 h
    · refine L_ps c256 (n := 1) (pc1 := 15) (ls1 := [jR 72, jI v1, jI v2]) (st1 := [jR 72]) rfl ?_
      refine L_getI (c256 15 rfl) hM rt72 rfl ?_
      refine L_ps c256 (n := 1) (pc1 := 19) (ls1 := [jR 72, jI v1, jI v2]) (st1 := [jR 72, jI (μ 72 4)]) rfl ?_
      refine L_getP (d := 57) (c256 19 rfl) hM rt72 rfl ?_
      refine L_alen (n := 500) (z := 500) (c256 22 rfl) hM rt129 (by decide) ln129 (by decide) rfl ?_
      refine L_nb (p1 := 52) (p2 := 26) (c256 23 rfl) rfl jc_ge h (fun h => ?_) (fun h => ?_)
      · refine L_ps c256 (n := 1) (pc1 := 27) (ls1 := [jR 72, jI v1, jI v2]) (st1 := [jR 72]) rfl ?_
        refine L_getP (d := 57) (c256 27 rfl) hM rt72 rfl ?_
        refine L_ps c256 (n := 1) (pc1 := 31) (ls1 := [jR 72, jI v1, jI v2]) (st1 := [jR 72, jR 129]) rfl ?_
        refine L_getI (c256 31 rfl) hM rt72 rfl ?_
        refine L_ps c256 (n := 5) (pc1 := 41) (ls1 := [jR 72, jI v1, jI v2]) (st1 := [jI (jand (jushr v1 v2) 255), jI (μ 72 4), jR 129]) rfl ?_
        obtain ⟨hb, h⟩ := h
        refine L_iast (c256 41 rfl) hM rt129 ln129 hb (fun M hM => ?_)
        refine L_ps c256 (n := 2) (pc1 := 44) (ls1 := [jR 72, jI v1, jI v2]) (st1 := [jR 72, jR 72]) rfl ?_
        refine L_getI (c256 44 rfl) hM rt72 rfl ?_
        refine L_ps c256 (n := 2) (pc1 := 49) (ls1 := [jR 72, jI v1, jI v2]) (st1 := [jI (wr (((mup μ 129 (μ 72 4).toNat (jand (jushr v1 v2) 255)) 72 4) + 1)), jR 72]) rfl ?_
        refine L_putI (c256 49 rfl) hM rt72 rfl (fun M hM => ?_)
        exact k_Parser_putFourBytes_j52 hM hQ hW3 h
      · exact k_Parser_putFourBytes_j52 hM hQ hW3 h
theorem k_Parser_putFourBytes_l3 {E : JE2} {v1 : Int} {v2 : Int} {μ : Mem} {M : JM} {P : JO → JM → Prop} {Q : Mem → Prop} (hM : Rl E M μ) (hQ : ∀ (M1 : JM) (μ1 : Mem), Rl E M1 μ1 → Q μ1 → P (.inl none) M1) (h : d_Parser_putFourBytes_l3 v1 v2 μ Q) : JX 256 3 [jR 72, jI v1, jI v2] [] M P := by
  refine h (fun v2 μ => ∀ (M : JM), Rl E M μ → JX 256 3 [jR 72, jI v1, jI v2] [] M P) ?_ _ hM
  intro v2 μ h M hM
  exact k_Parser_putFourBytes_b3 hM hQ (fun v2 M μ hM h => h M hM) h
theorem k_Parser_putFourBytes {E : JE2} {v1 : Int} {μ : Mem} {M : JM} {Q : Mem → Prop} (hM : Rl E M μ) (h : d_Parser_putFourBytes v1 μ Q) : JX 256 0 (jargs 256 [jR 72, jI v1]) [] M (PO E (QV Q) XN) := by
  unfold d_Parser_putFourBytes at h
  show JX 256 0 [jR 72, jI v1, jU] [] M (PO E (QV Q) XN)
  generalize hP : PO E (QV Q) XN = P
  have hQ : ∀ (M1 : JM) (μ1 : Mem), Rl E M1 μ1 → Q μ1 → P (.inl none) M1 := by rw [← hP]; exact fun M1 μ1 a b => ⟨μ1, a, rfl, b⟩
  clear hP
  refine L_ps c256 (n := 2) (pc1 := 3) (ls1 := [jR 72, jI v1, jI 24]) (st1 := []) rfl ?_
  exact k_Parser_putFourBytes_l3 hM hQ h
theorem k_OB_append {E : JE2} {v1 : Int} {v2 : Int} {v3 : Int} {v4 : Int} {v5 : Int} {μ : Mem} {M : JM} {Q : Int → Mem → Prop} (hM : Rl E M μ) (h : d_OB_append v1 v2 v3 v4 v5 μ Q) : JX 255 0 (jargs 255 [jR 0, jI v1, jI v2, jI v3, jI v4, jI v5]) [] M (PO E (QI Q) XN) := by
  unfold d_OB_append at h
  show JX 255 0 [jR 0, jI v1, jI v2, jI v3, jI v4, jI v5] [] M (PO E (QI Q) XN)
  generalize hP : PO E (QI Q) XN = P
  have hQ : ∀ (r : Int) (M1 : JM) (μ1 : Mem), Rl E M1 μ1 → Q r μ1 → P (.inl (some (.inl r))) M1 := by rw [← hP]; exact fun r M1 μ1 a b => ⟨μ1, a, r, rfl, b⟩
  clear hP
  refine L_ps c255 (n := 1) (pc1 := 1) (ls1 := [jR 0, jI v1, jI v2, jI v3, jI v4, jI v5]) (st1 := [jR 0]) rfl ?_
  refine L_getP (d := 72) (c255 1 rfl) hM rt0 rfl ?_
  refine L_getI (c255 4 rfl) hM rt72 rfl ?_
  refine L_ps c255 (n := 1) (pc1 := 10) (ls1 := [jR 0, jI v1, jI v2, jI v3, jI v4, jI v5]) (st1 := [jI 480, jI (μ 72 4)]) rfl ?_
  refine L_nb (p1 := 15) (p2 := 13) (c255 10 rfl) rfl jc_le h (fun h => ?_) (fun h => ?_)
  · refine L_ps c255 (n := 1) (pc1 := 14) (ls1 := [jR 0, jI v1, jI v2, jI v3, jI v4, jI v5]) (st1 := [jI (-1)]) rfl ?_
    exact L_retI (c255 14 rfl) (hQ _ _ _ hM h)
  · refine L_ps c255 (n := 1) (pc1 := 16) (ls1 := [jR 0, jI v1, jI v2, jI v3, jI v4, jI v5]) (st1 := [jR 0]) rfl ?_
    refine L_getP (d := 72) (c255 16 rfl) hM rt0 rfl ?_
    refine L_ps c255 (n := 1) (pc1 := 20) (ls1 := [jR 0, jI v1, jI v2, jI v3, jI v4, jI v5]) (st1 := [jI v1, jR 72]) rfl ?_
    refine L_cV (c255 20 rfl) (js_v rfl ((Rl_tag hM rt72 (by decide)).trans js256)) hh255 (k_Parser_putFourBytes hM h) (fun M μ2 hM h => ?_) (fun _ _ _ _ f => f.elim)
    refine L_ps c255 (n := 1) (pc1 := 24) (ls1 := [jR 0, jI v1, jI v2, jI v3, jI v4, jI v5]) (st1 := [jR 0]) rfl ?_
    refine L_getP (d := 72) (c255 24 rfl) hM rt0 rfl ?_
    refine L_ps c255 (n := 1) (pc1 := 28) (ls1 := [jR 0, jI v1, jI v2, jI v3, jI v4, jI v5]) (st1 := [jI v2, jR 72]) rfl ?_
    refine L_cV (c255 28 rfl) (js_v rfl ((Rl_tag hM rt72 (by decide)).trans js256)) hh255 (k_Parser_putFourBytes hM h) (fun M μ4 hM h => ?_) (fun _ _ _ _ f => f.elim)
    refine L_ps c255 (n := 1) (pc1 := 32) (ls1 := [jR 0, jI v1, jI v2, jI v3, jI v4, jI v5]) (st1 := [jR 0]) rfl ?_
    refine L_getP (d := 72) (c255 32 rfl) hM rt0 rfl ?_
    refine L_ps c255 (n := 1) (pc1 := 36) (ls1 := [jR 0, jI v1, jI v2, jI v3, jI v4, jI v5]) (st1 := [jI v3, jR 72]) rfl ?_
    refine L_cV (c255 36 rfl) (js_v rfl ((Rl_tag hM rt72 (by decide)).trans js256)) hh255 (k_Parser_putFourBytes hM h) (fun M μ6 hM h => ?_) (fun _ _ _ _ f => f.elim)
    refine L_ps c255 (n := 1) (pc1 := 40) (ls1 := [jR 0, jI v1, jI v2, jI v3, jI v4, jI v5]) (st1 := [jR 0]) rfl ?_
    refine L_getP (d := 72) (c255 40 rfl) hM rt0 rfl ?_
    refine L_ps c255 (n := 1) (pc1 := 45) (ls1 := [jR 0, jI v1, jI v2, jI v3, jI v4, jI v5]) (st1 := [jI v4, jR 72]) rfl ?_
    refine L_cV (c255 45 rfl) (js_v rfl ((Rl_tag hM rt72 (by decide)).trans js256)) hh255 (k_Parser_putFourBytes hM h) (fun M μ8 hM h => ?_) (fun _ _ _ _ f => f.elim)
    refine L_ps c255 (n := 1) (pc1 := 49) (ls1 := [jR 0, jI v1, jI v2, jI v3, jI v4, jI v5]) (st1 := [jR 0]) rfl ?_
    refine L_getP (d := 72) (c255 49 rfl) hM rt0 rfl ?_
    refine L_ps c255 (n := 1) (pc1 := 54) (ls1 := [jR 0, jI v1, jI v2, jI v3, jI v4, jI v5]) (st1 := [jI v5, jR 72]) rfl ?_
    refine L_cV (c255 54 rfl) (js_v rfl ((Rl_tag hM rt72 (by decide)).trans js256)) hh255 (k_Parser_putFourBytes hM h) (fun M μ10 hM h => ?_) (fun _ _ _ _ f => f.elim)
    refine L_ps c255 (n := 1) (pc1 := 58) (ls1 := [jR 0, jI v1, jI v2, jI v3, jI v4, jI v5]) (st1 := [jR 0]) rfl ?_
    refine L_getP (d := 72) (c255 58 rfl) hM rt0 rfl ?_
    refine L_getI (c255 61 rfl) hM rt72 rfl ?_
    exact L_retI (c255 64 rfl) (hQ _ _ _ hM h)
theorem k_Unifier_unites {E : JE2} {v0 : Nat} {v1 : Nat} {v2 : Nat} {μ : Mem} {M : JM} {Q : Bool → Mem → Prop} (hv0 : rt v0 = 9) (hv1 : rt v1 = 8) (hv2 : rt v2 = 8) (hM : Rl E M μ) (h : d_Unifier_unites v0 v1 v2 μ Q) : JX 260 0 (jargs 260 [jR v0, jR v1, jR v2]) [] M (PO E (QB Q) XN) := by
  unfold d_Unifier_unites at h
  show JX 260 0 [jR v0, jR v1, jR v2, jU, jU] [] M (PO E (QB Q) XN)
  generalize hP : PO E (QB Q) XN = P
  have hQ : ∀ (r : Bool) (M1 : JM) (μ1 : Mem), Rl E M1 μ1 → Q r μ1 → P (.inl (some (.inl (b2i r)))) M1 := by rw [← hP]; exact fun r M1 μ1 a b => ⟨μ1, a, r, rfl, b⟩
  clear hP
  refine L_ps c260 (n := 1) (pc1 := 1) (ls1 := [jR v0, jR v1, jR v2, jU, jU]) (st1 := [jR v0]) rfl ?_
  refine L_cV (c260 1 rfl) (js_v rfl ((Rl_tag hM hv0 (by decide)).trans js101)) hh260 (k_Unifier_clear hv0 hM h) (fun M μ2 hM h => ?_) (fun _ _ _ _ f => f.elim)
  refine L_ps c260 (n := 3) (pc1 := 7) (ls1 := [jR v0, jR v1, jR v2, jU, jU]) (st1 := [jI 0, jR v1, jR v0]) rfl ?_
  refine L_cI (c260 7 rfl) (js_v rfl ((Rl_tag hM hv0 (by decide)).trans js102)) hh260 (k_Unifier_load hv0 hv1 hM h) (fun r3 M μ4 hM h => ?_) (fun _ _ _ _ f => f.elim)
  refine L_ps c260 (n := 4) (pc1 := 15) (ls1 := [jR v0, jR v1, jR v2, jI r3, jU]) (st1 := [jI 8, jR v2, jR v0]) rfl ?_
  refine L_cI (c260 15 rfl) (js_v rfl ((Rl_tag hM hv0 (by decide)).trans js102)) hh260 (k_Unifier_load hv0 hv2 hM h) (fun r5 M μ6 hM h => ?_) (fun _ _ _ _ f => f.elim)
  refine L_ps c260 (n := 4) (pc1 := 24) (ls1 := [jR v0, jR v1, jR v2, jI r3, jI r5]) (st1 := [jI r5, jI r3, jR v0]) rfl ?_
  refine L_cB (c260 24 rfl) (js_v rfl ((Rl_tag hM hv0 (by decide)).trans js104)) hh260 (k_Unifier_solve hv0 hM h) (fun r7 M μ8 hM h => ?_) (fun _ _ _ _ f => f.elim)
  exact L_retB (c260 27 rfl) (bz_b _) (hQ _ _ _ hM h)
theorem k_OB_unify {E : JE2} {v1 : Int} {v2 : Int} {μ : Mem} {M : JM} {Q : Bool → Mem → Prop} {X : Nat → Mem → Prop} (hM : Rl E M μ) (h : d_OB_unify v1 v2 μ Q X) : JX 259 0 (jargs 259 [jR 0, jI v1, jI v2]) [] M (PO E (QB Q) X) := by
  unfold d_OB_unify at h
  show JX 259 0 [jR 0, jI v1, jI v2, jU] [] M (PO E (QB Q) X)
  generalize hP : PO E (QB Q) X = P
  have hQ : ∀ (r : Bool) (M1 : JM) (μ1 : Mem), Rl E M1 μ1 → Q r μ1 → P (.inl (some (.inl (b2i r)))) M1 := by rw [← hP]; exact fun r M1 μ1 a b => ⟨μ1, a, r, rfl, b⟩
  have hX : ∀ (k : Nat) (M1 : JM) (μ1 : Mem), Rl E M1 μ1 → X k μ1 → P (.inr k) M1 := by rw [← hP]; exact fun k M1 μ1 a b => ⟨μ1, a, b⟩
  clear hP
  refine L_ps c259 (n := 2) (pc1 := 2) (ls1 := [jR 0, jI v1, jI v2, jU]) (st1 := [jI v1, jR 0]) rfl ?_
  refine L_cR (c259 2 rfl) (js_v rfl ((Rl_tag hM rt0 (by decide)).trans js81)) hh259 (k_OB_requireTerm hM h) (fun r1 M μ2 hM hr1 h => ?_) (fun k M μx hM hx => hX _ _ _ hM hx)
  refine L_ps c259 (n := 2) (pc1 := 7) (ls1 := [jR 0, jI v1, jI v2, jR r1]) (st1 := [jR 0]) rfl ?_
  refine L_getP (d := 65) (c259 7 rfl) hM rt0 rfl ?_
  refine L_ps c259 (n := 3) (pc1 := 13) (ls1 := [jR 0, jI v1, jI v2, jR r1]) (st1 := [jI v2, jR 0, jR r1, jR 65]) rfl ?_
  refine L_cR (c259 13 rfl) (js_v rfl ((Rl_tag hM rt0 (by decide)).trans js81)) hh259 (k_OB_requireTerm hM h) (fun r3 M μ4 hM hr3 h => ?_) (fun k M μx hM hx => hX _ _ _ hM hx)
  refine L_cB (c259 16 rfl) (js_v rfl ((Rl_tag hM rt65 (by decide)).trans js260)) hh259 (k_Unifier_unites rt65 hr1 hr3 hM h) (fun r5 M μ6 hM h => ?_) (fun _ _ _ _ f => f.elim)
  exact L_retB (c259 19 rfl) (bz_b _) (hQ _ _ _ hM h)
theorem k_OB_unifiedSize {E : JE2} {v1 : Int} {v2 : Int} {μ : Mem} {M : JM} {Q : Int → Mem → Prop} {X : Nat → Mem → Prop} (hM : Rl E M μ) (h : d_OB_unifiedSize v1 v2 μ Q X) : JX 261 0 (jargs 261 [jR 0, jI v1, jI v2]) [] M (PO E (QI Q) X) := by
  unfold d_OB_unifiedSize at h
  show JX 261 0 [jR 0, jI v1, jI v2, jU] [] M (PO E (QI Q) X)
  generalize hP : PO E (QI Q) X = P
  have hQ : ∀ (r : Int) (M1 : JM) (μ1 : Mem), Rl E M1 μ1 → Q r μ1 → P (.inl (some (.inl r))) M1 := by rw [← hP]; exact fun r M1 μ1 a b => ⟨μ1, a, r, rfl, b⟩
  have hX : ∀ (k : Nat) (M1 : JM) (μ1 : Mem), Rl E M1 μ1 → X k μ1 → P (.inr k) M1 := by rw [← hP]; exact fun k M1 μ1 a b => ⟨μ1, a, b⟩
  clear hP
  refine L_ps c261 (n := 2) (pc1 := 2) (ls1 := [jR 0, jI v1, jI v2, jU]) (st1 := [jI v1, jR 0]) rfl ?_
  refine L_cR (c261 2 rfl) (js_v rfl ((Rl_tag hM rt0 (by decide)).trans js81)) hh261 (k_OB_requireTerm hM h) (fun r1 M μ2 hM hr1 h => ?_) (fun k M μx hM hx => hX _ _ _ hM hx)
  refine L_ps c261 (n := 2) (pc1 := 7) (ls1 := [jR 0, jI v1, jI v2, jR r1]) (st1 := [jR 0]) rfl ?_
  refine L_getP (d := 65) (c261 7 rfl) hM rt0 rfl ?_
  refine L_ps c261 (n := 3) (pc1 := 13) (ls1 := [jR 0, jI v1, jI v2, jR r1]) (st1 := [jI v2, jR 0, jR r1, jR 65]) rfl ?_
  refine L_cR (c261 13 rfl) (js_v rfl ((Rl_tag hM rt0 (by decide)).trans js81)) hh261 (k_OB_requireTerm hM h) (fun r3 M μ4 hM hr3 h => ?_) (fun k M μx hM hx => hX _ _ _ hM hx)
  refine L_cB (c261 16 rfl) (js_v rfl ((Rl_tag hM rt65 (by decide)).trans js260)) hh261 (k_Unifier_unites rt65 hr1 hr3 hM h) (fun r5 M μ6 hM h => ?_) (fun _ _ _ _ f => f.elim)
  refine L_br (p1 := 24) (p2 := 22) (c261 19 rfl) rfl jc_neb h (fun h => ?_) (fun h => ?_)
  · refine L_ps c261 (n := 1) (pc1 := 25) (ls1 := [jR 0, jI v1, jI v2, jR r1]) (st1 := [jR 0]) rfl ?_
    refine L_getP (d := 769) (c261 25 rfl) hM rt0 rfl ?_
    refine L_cV (c261 28 rfl) (js_v rfl ((Rl_tag hM rt769 (by decide)).trans js41)) hh261 (k_Term_clear rt769 hM h) (fun M μ8 hM h => ?_) (fun _ _ _ _ f => f.elim)
    refine L_ps c261 (n := 1) (pc1 := 32) (ls1 := [jR 0, jI v1, jI v2, jR r1]) (st1 := [jR 0]) rfl ?_
    refine L_getP (d := 65) (c261 32 rfl) hM rt0 rfl ?_
    refine L_ps c261 (n := 2) (pc1 := 37) (ls1 := [jR 0, jI v1, jI v2, jR r1]) (st1 := [jR 0, jI 0, jR 65]) rfl ?_
    refine L_getP (d := 769) (c261 37 rfl) hM rt0 rfl ?_
    refine L_cB (c261 40 rfl) (js_v rfl ((Rl_tag hM rt65 (by decide)).trans js119)) hh261 (k_Unifier_expand rt65 rt769 hM h) (fun r9 M μ10 hM h => ?_) (fun _ _ _ _ f => f.elim)
    refine L_nb (p1 := 56) (p2 := 46) (c261 43 rfl) rfl jc_eqb h (fun h => ?_) (fun h => ?_)
    · refine L_ps c261 (n := 1) (pc1 := 47) (ls1 := [jR 0, jI v1, jI v2, jR r1]) (st1 := [jR 0]) rfl ?_
      refine L_getP (d := 769) (c261 47 rfl) hM rt0 rfl ?_
      refine L_getI (c261 50 rfl) hM rt769 rfl ?_
      refine L_ps c261 (n := 1) (pc1 := 57) (ls1 := [jR 0, jI v1, jI v2, jR r1]) (st1 := [jI (μ10 769 1)]) rfl ?_
      exact L_retI (c261 57 rfl) (hQ _ _ _ hM h)
    · refine L_ps c261 (n := 1) (pc1 := 57) (ls1 := [jR 0, jI v1, jI v2, jR r1]) (st1 := [jI (-1)]) rfl ?_
      exact L_retI (c261 57 rfl) (hQ _ _ _ hM h)
  · refine L_ps c261 (n := 1) (pc1 := 23) (ls1 := [jR 0, jI v1, jI v2, jR r1]) (st1 := [jI (-1)]) rfl ?_
    exact L_retI (c261 23 rfl) (hQ _ _ _ hM h)
theorem k_OB_areEqual {E : JE2} {v1 : Int} {v2 : Int} {μ : Mem} {M : JM} {Q : Bool → Mem → Prop} {X : Nat → Mem → Prop} (hM : Rl E M μ) (h : d_OB_areEqual v1 v2 μ Q X) : JX 262 0 (jargs 262 [jR 0, jI v1, jI v2]) [] M (PO E (QB Q) X) := by
  unfold d_OB_areEqual at h
  show JX 262 0 [jR 0, jI v1, jI v2] [] M (PO E (QB Q) X)
  generalize hP : PO E (QB Q) X = P
  have hQ : ∀ (r : Bool) (M1 : JM) (μ1 : Mem), Rl E M1 μ1 → Q r μ1 → P (.inl (some (.inl (b2i r)))) M1 := by rw [← hP]; exact fun r M1 μ1 a b => ⟨μ1, a, r, rfl, b⟩
  have hX : ∀ (k : Nat) (M1 : JM) (μ1 : Mem), Rl E M1 μ1 → X k μ1 → P (.inr k) M1 := by rw [← hP]; exact fun k M1 μ1 a b => ⟨μ1, a, b⟩
  clear hP
  refine L_ps c262 (n := 2) (pc1 := 2) (ls1 := [jR 0, jI v1, jI v2]) (st1 := [jI v1, jR 0]) rfl ?_
  refine L_cR (c262 2 rfl) (js_v rfl ((Rl_tag hM rt0 (by decide)).trans js81)) hh262 (k_OB_requireTerm hM h) (fun r1 M μ2 hM hr1 h => ?_) (fun k M μx hM hx => hX _ _ _ hM hx)
  refine L_ps c262 (n := 2) (pc1 := 7) (ls1 := [jR 0, jI v1, jI v2]) (st1 := [jI v2, jR 0, jR r1]) rfl ?_
  refine L_cR (c262 7 rfl) (js_v rfl ((Rl_tag hM rt0 (by decide)).trans js81)) hh262 (k_OB_requireTerm hM h) (fun r3 M μ4 hM hr3 h => ?_) (fun k M μx hM hx => hX _ _ _ hM hx)
  refine L_cpB (c262 10 rfl) (js_v rfl ((Rl_tag hM hr1 (by decide)).trans js128)) hh262 (k_Term_sameAs hr1 hr3 hM h) (fun r5 M hM h => ?_) (fun _ _ _ _ f => f.elim)
  exact L_retB (c262 13 rfl) (bz_b _) (hQ _ _ _ hM h)
theorem k_Term_symbolOf {E : JE2} {v0 : Int} {μ : Mem} {M : JM} {Q : Int → Prop} (hM : Rl E M μ) (h : d_Term_symbolOf v0 μ Q) : JX 265 0 (jargs 265 [jI v0]) [] M (PO E (pQI μ Q) XN) := by
  unfold d_Term_symbolOf at h
  show JX 265 0 [jI v0] [] M (PO E (pQI μ Q) XN)
  generalize hP : PO E (pQI μ Q) XN = P
  have hQ : ∀ (r : Int) (M1 : JM), Rl E M1 μ → Q r → P (.inl (some (.inl r))) M1 := by rw [← hP]; exact fun r M1 a b => ⟨μ, a, rfl, r, rfl, b⟩
  clear hP
  refine L_ps c265 (n := 1) (pc1 := 1) (ls1 := [jI v0]) (st1 := [jI v0]) rfl ?_
  refine L_nb (p1 := 8) (p2 := 4) (c265 1 rfl) rfl jc_ge h (fun h => ?_) (fun h => ?_)
  · refine L_ps c265 (n := 2) (pc1 := 11) (ls1 := [jI v0]) (st1 := [jI (-1)]) rfl ?_
    exact L_retI (c265 11 rfl) (hQ _ _ hM h)
  · refine L_ps c265 (n := 3) (pc1 := 11) (ls1 := [jI v0]) (st1 := [jI (jshr v0 2)]) rfl ?_
    exact L_retI (c265 11 rfl) (hQ _ _ hM h)
theorem k_OB_symbolAt {E : JE2} {v1 : Int} {v2 : Int} {μ : Mem} {M : JM} {Q : Int → Mem → Prop} {X : Nat → Mem → Prop} (hM : Rl E M μ) (h : d_OB_symbolAt v1 v2 μ Q X) : JX 264 0 (jargs 264 [jR 0, jI v1, jI v2]) [] M (PO E (QI Q) X) := by
  unfold d_OB_symbolAt at h
  show JX 264 0 [jR 0, jI v1, jI v2] [] M (PO E (QI Q) X)
  generalize hP : PO E (QI Q) X = P
  have hQ : ∀ (r : Int) (M1 : JM) (μ1 : Mem), Rl E M1 μ1 → Q r μ1 → P (.inl (some (.inl r))) M1 := by rw [← hP]; exact fun r M1 μ1 a b => ⟨μ1, a, r, rfl, b⟩
  have hX : ∀ (k : Nat) (M1 : JM) (μ1 : Mem), Rl E M1 μ1 → X k μ1 → P (.inr k) M1 := by rw [← hP]; exact fun k M1 μ1 a b => ⟨μ1, a, b⟩
  clear hP
  refine L_ps c264 (n := 3) (pc1 := 3) (ls1 := [jR 0, jI v1, jI v2]) (st1 := [jI v2, jI v1, jR 0]) rfl ?_
  refine L_cR (c264 3 rfl) (js_v rfl ((Rl_tag hM rt0 (by decide)).trans js84)) hh264 (k_OB_requireNode hM h) (fun r1 M μ2 hM hr1 h => ?_) (fun k M μx hM hx => hX _ _ _ hM hx)
  refine L_ps c264 (n := 1) (pc1 := 7) (ls1 := [jR 0, jI v1, jI v2]) (st1 := [jI v2, jR r1]) rfl ?_
  refine L_cpI (c264 7 rfl) (js_v rfl ((Rl_tag hM hr1 (by decide)).trans js46)) hh264 (k_Term_get hr1 hM h) (fun r3 M hM h => ?_) (fun _ _ _ _ f => f.elim)
  refine L_cpI (c264 10 rfl) (js_t rfl) hh264 (k_Term_symbolOf hM h) (fun r5 M hM h => ?_) (fun _ _ _ _ f => f.elim)
  exact L_retI (c264 13 rfl) (hQ _ _ _ hM h)
theorem k_OB_variableAt {E : JE2} {v1 : Int} {v2 : Int} {μ : Mem} {M : JM} {Q : Int → Mem → Prop} {X : Nat → Mem → Prop} (hM : Rl E M μ) (h : d_OB_variableAt v1 v2 μ Q X) : JX 266 0 (jargs 266 [jR 0, jI v1, jI v2]) [] M (PO E (QI Q) X) := by
  unfold d_OB_variableAt at h
  show JX 266 0 [jR 0, jI v1, jI v2] [] M (PO E (QI Q) X)
  generalize hP : PO E (QI Q) X = P
  have hQ : ∀ (r : Int) (M1 : JM) (μ1 : Mem), Rl E M1 μ1 → Q r μ1 → P (.inl (some (.inl r))) M1 := by rw [← hP]; exact fun r M1 μ1 a b => ⟨μ1, a, r, rfl, b⟩
  have hX : ∀ (k : Nat) (M1 : JM) (μ1 : Mem), Rl E M1 μ1 → X k μ1 → P (.inr k) M1 := by rw [← hP]; exact fun k M1 μ1 a b => ⟨μ1, a, b⟩
  clear hP
  refine L_ps c266 (n := 3) (pc1 := 3) (ls1 := [jR 0, jI v1, jI v2]) (st1 := [jI v2, jI v1, jR 0]) rfl ?_
  refine L_cR (c266 3 rfl) (js_v rfl ((Rl_tag hM rt0 (by decide)).trans js84)) hh266 (k_OB_requireNode hM h) (fun r1 M μ2 hM hr1 h => ?_) (fun k M μx hM hx => hX _ _ _ hM hx)
  refine L_ps c266 (n := 1) (pc1 := 7) (ls1 := [jR 0, jI v1, jI v2]) (st1 := [jI v2, jR r1]) rfl ?_
  refine L_cpI (c266 7 rfl) (js_v rfl ((Rl_tag hM hr1 (by decide)).trans js46)) hh266 (k_Term_get hr1 hM h) (fun r3 M hM h => ?_) (fun _ _ _ _ f => f.elim)
  refine L_cpI (c266 10 rfl) (js_t rfl) hh266 (k_Term_variableOf hM h) (fun r5 M hM h => ?_) (fun _ _ _ _ f => f.elim)
  exact L_retI (c266 13 rfl) (hQ _ _ _ hM h)
theorem k_Output_addByte {E : JE2} {v1 : Int} {μ : Mem} {M : JM} {Q : Mem → Prop} (hM : Rl E M μ) (h : d_Output_addByte v1 μ Q) : JX 270 0 (jargs 270 [jR 244, jI v1]) [] M (PO E (QV Q) XN) := by
  unfold d_Output_addByte at h
  show JX 270 0 [jR 244, jI v1] [] M (PO E (QV Q) XN)
  generalize hP : PO E (QV Q) XN = P
  have hQ : ∀ (M1 : JM) (μ1 : Mem), Rl E M1 μ1 → Q μ1 → P (.inl none) M1 := by rw [← hP]; exact fun M1 μ1 a b => ⟨μ1, a, rfl, b⟩
  clear hP
  refine L_ps c270 (n := 1) (pc1 := 1) (ls1 := [jR 244, jI v1]) (st1 := [jR 244]) rfl ?_
  refine L_getI (c270 1 rfl) hM rt244 rfl ?_
  refine L_br (p1 := 39) (p2 := 7) (c270 4 rfl) rfl jc_lt h (fun h => ?_) (fun h => ?_)
  · exact L_end (c270 39 rfl) rfl (hQ _ _ hM h)
  · refine L_ps c270 (n := 1) (pc1 := 8) (ls1 := [jR 244, jI v1]) (st1 := [jR 244]) rfl ?_
    refine L_getI (c270 8 rfl) hM rt244 rfl ?_
    refine L_ps c270 (n := 1) (pc1 := 12) (ls1 := [jR 244, jI v1]) (st1 := [jR 244, jI (μ 244 0)]) rfl ?_
    refine L_getP (d := 1) (c270 12 rfl) hM rt244 rfl ?_
    refine L_alen (n := 1600) (z := 1600) (c270 15 rfl) hM rt245 (by decide) ln245 (by decide) rfl ?_
    refine L_nb (p1 := 39) (p2 := 19) (c270 16 rfl) rfl jc_ge h (fun h => ?_) (fun h => ?_)
    · refine L_ps c270 (n := 1) (pc1 := 20) (ls1 := [jR 244, jI v1]) (st1 := [jR 244]) rfl ?_
      refine L_getP (d := 1) (c270 20 rfl) hM rt244 rfl ?_
      refine L_ps c270 (n := 1) (pc1 := 24) (ls1 := [jR 244, jI v1]) (st1 := [jR 244, jR 245]) rfl ?_
      refine L_getI (c270 24 rfl) hM rt244 rfl ?_
      refine L_ps c270 (n := 1) (pc1 := 28) (ls1 := [jR 244, jI v1]) (st1 := [jI v1, jI (μ 244 0), jR 245]) rfl ?_
      obtain ⟨hb, h⟩ := h
      refine L_iast (c270 28 rfl) hM rt245 ln245 hb (fun M hM => ?_)
      refine L_ps c270 (n := 2) (pc1 := 31) (ls1 := [jR 244, jI v1]) (st1 := [jR 244, jR 244]) rfl ?_
      refine L_getI (c270 31 rfl) hM rt244 rfl ?_
      refine L_ps c270 (n := 2) (pc1 := 36) (ls1 := [jR 244, jI v1]) (st1 := [jI (wr (((mup μ 245 (μ 244 0).toNat v1) 244 0) + 1)), jR 244]) rfl ?_
      refine L_putI (c270 36 rfl) hM rt244 rfl (fun M hM => ?_)
      exact L_end (c270 39 rfl) rfl (hQ _ _ hM h)
    · exact L_end (c270 39 rfl) rfl (hQ _ _ hM h)
theorem k_Output_addName_b24 {E : JE2} {v2 : Nat} {v3 : Int} {v4 : Int} {μ : Mem} {M : JM} {P : JO → JM → Prop} {g1 : JV} {W24 : Int → Mem → Prop} {Q : Mem → Prop} (hv2 : rt v2 = 6) (hM : Rl E M μ) (hQ : ∀ (M1 : JM) (μ1 : Mem), Rl E M1 μ1 → Q μ1 → P (.inl none) M1) (hW24 : ∀ (v4 : Int) (g1 : JV) (M1 : JM) (μ1 : Mem), Rl E M1 μ1 → W24 v4 μ1 → JX 269 24 [jR 244, g1, jR v2, jI v3, jI v4] [] M1 P) (h : d_Output_addName_b24 v2 v3 v4 μ W24 Q) : JX 269 24 [jR 244, g1, jR v2, jI v3, jI v4] [] M P := by
  unfold d_Output_addName_b24 at h
  refine L_ps c269 (n := 3) (pc1 := 28) (ls1 := [jR 244, g1, jR v2, jI v3, jI v4]) (st1 := [jI v3, jR v2, jI v4]) rfl ?_
  refine L_cpI (c269 28 rfl) (js_v rfl ((Rl_tag hM hv2 (by decide)).trans js31)) hh269 (k_Signature_nameLength hv2 hM h) (fun r7 M hM h => ?_) (fun _ _ _ _ f => f.elim)
  refine L_nb (p1 := 51) (p2 := 34) (c269 31 rfl) rfl jc_ge h (fun h => ?_) (fun h => ?_)
  · refine L_ps c269 (n := 4) (pc1 := 39) (ls1 := [jR 244, g1, jR v2, jI v3, jI v4]) (st1 := [jI v4, jI v3, jR v2, jR 244]) rfl ?_
    refine L_cpI (c269 39 rfl) (js_v rfl ((Rl_tag hM hv2 (by decide)).trans js32)) hh269 (k_Signature_letter hv2 hM h) (fun r9 M hM h => ?_) (fun _ _ _ _ f => f.elim)
    refine L_cV (c269 42 rfl) (js_v rfl ((Rl_tag hM rt244 (by decide)).trans js270)) hh269 (k_Output_addByte hM h) (fun M μ12 hM h => ?_) (fun _ _ _ _ f => f.elim)
    refine L_ps c269 (n := 2) (pc1 := 24) (ls1 := [jR 244, g1, jR v2, jI v3, jI (wr (v4 + 1))]) (st1 := []) rfl ?_
    exact hW24 _ _ _ _ hM h
  · exact L_end (c269 51 rfl) rfl (hQ _ _ hM h)
theorem k_Output_addName_l24 {E : JE2} {v2 : Nat} {v3 : Int} {v4 : Int} {μ : Mem} {M : JM} {P : JO → JM → Prop} {g1 : JV} {Q : Mem → Prop} (hv2 : rt v2 = 6) (hM : Rl E M μ) (hQ : ∀ (M1 : JM) (μ1 : Mem), Rl E M1 μ1 → Q μ1 → P (.inl none) M1) (h : d_Output_addName_l24 v2 v3 v4 μ Q) : JX 269 24 [jR 244, g1, jR v2, jI v3, jI v4] [] M P := by
  refine h (fun v4 μ => ∀ (g1 : JV) (M : JM), Rl E M μ → JX 269 24 [jR 244, g1, jR v2, jI v3, jI v4] [] M P) ?_ _ _ hM
  intro v4 μ h g1 M hM
  exact k_Output_addName_b24 hv2 hM hQ (fun v4 g1 M μ hM h => h g1 M hM) h
theorem k_Output_addName {E : JE2} {v1 : Int} {v2 : Nat} {μ : Mem} {M : JM} {Q : Mem → Prop} (hv2 : rt v2 = 6) (hM : Rl E M μ) (h : d_Output_addName v1 v2 μ Q) : JX 269 0 (jargs 269 [jR 244, jI v1, jR v2]) [] M (PO E (QV Q) XN) := by
  unfold d_Output_addName at h
  show JX 269 0 [jR 244, jI v1, jR v2, jU, jU] [] M (PO E (QV Q) XN)
  generalize hP : PO E (QV Q) XN = P
  have hQ : ∀ (M1 : JM) (μ1 : Mem), Rl E M1 μ1 → Q μ1 → P (.inl none) M1 := by rw [← hP]; exact fun M1 μ1 a b => ⟨μ1, a, rfl, b⟩
  clear hP
  refine L_ps c269 (n := 1) (pc1 := 1) (ls1 := [jR 244, jI v1, jR v2, jU, jU]) (st1 := [jI v1]) rfl ?_
  refine L_nb (p1 := 16) (p2 := 4) (c269 1 rfl) rfl jc_ge h (fun h => ?_) (fun h => ?_)
  · refine L_ps c269 (n := 3) (pc1 := 8) (ls1 := [jR 244, jI v1, jR v2, jU, jU]) (st1 := [jI v1, jI 65, jR 244]) rfl ?_
    refine L_cpI (c269 8 rfl) (js_t rfl) hh269 (k_Term_variableOf hM h) (fun r1 M hM h => ?_) (fun _ _ _ _ f => f.elim)
    refine L_ps c269 (n := 1) (pc1 := 12) (ls1 := [jR 244, jI v1, jR v2, jU, jU]) (st1 := [jI (wr (65 + r1)), jR 244]) rfl ?_
    refine L_cV (c269 12 rfl) (js_v rfl ((Rl_tag hM rt244 (by decide)).trans js270)) hh269 (k_Output_addByte hM h) (fun M μ4 hM h => ?_) (fun _ _ _ _ f => f.elim)
    exact L_end (c269 15 rfl) rfl (hQ _ _ hM h)
  · refine L_ps c269 (n := 1) (pc1 := 17) (ls1 := [jR 244, jI v1, jR v2, jU, jU]) (st1 := [jI v1]) rfl ?_
    refine L_cpI (c269 17 rfl) (js_t rfl) hh269 (k_Term_symbolOf hM h) (fun r5 M hM h => ?_) (fun _ _ _ _ f => f.elim)
    refine L_ps c269 (n := 3) (pc1 := 24) (ls1 := [jR 244, jI v1, jR v2, jI r5, jI 0]) (st1 := []) rfl ?_
    exact k_Output_addName_l24 hv2 hM hQ h
theorem k_Output_closeBrackets_b4 {E : JE2} {v2 : Int} {μ : Mem} {M : JM} {P : JO → JM → Prop} {g1 : JV} {W4 : Int → Mem → Prop} {Q : Int → Mem → Prop} (hg1 : jc2 g1 = false) (hM : Rl E M μ) (hQ : ∀ (r : Int) (M1 : JM) (μ1 : Mem), Rl E M1 μ1 → Q r μ1 → P (.inl (some (.inl r))) M1) (hW4 : ∀ (v2 : Int) (g1 : JV) (M1 : JM) (μ1 : Mem), jc2 g1 = false → Rl E M1 μ1 → W4 v2 μ1 → JX 271 4 [jR 244, g1, jI v2] [] M1 P) (h : d_Output_closeBrackets_b4 v2 μ W4 Q) : JX 271 4 [jR 244, g1, jI v2] [] M P := by
  unfold d_Output_closeBrackets_b4 at h
  refine L_ps c271 (n := 1) (pc1 := 5) (ls1 := [jR 244, g1, jI v2]) (st1 := [jI v2]) rfl ?_
  refine L_br (p1 := 58) (p2 := 8) (c271 5 rfl) rfl jc_lt h (fun h => ?_) (fun h => ?_)
  · refine L_ps c271 (n := 1) (pc1 := 59) (ls1 := [jR 244, g1, jI v2]) (st1 := [jI 0]) rfl ?_
    exact L_retI (c271 59 rfl) (hQ _ _ _ hM h)
  · refine L_ps c271 (n := 2) (pc1 := 10) (ls1 := [jR 244, g1, jI v2]) (st1 := [jR 244, jI v2]) rfl ?_
    refine L_getP (d := 2) (c271 10 rfl) hM rt244 rfl ?_
    refine L_alen (n := 80) (z := 80) (c271 13 rfl) hM rt246 (by decide) ln246 (by decide) rfl ?_
    refine L_nb (p1 := 58) (p2 := 17) (c271 14 rfl) rfl jc_ge h (fun h => ?_) (fun h => ?_)
    · refine L_ps c271 (n := 1) (pc1 := 18) (ls1 := [jR 244, g1, jI v2]) (st1 := [jR 244]) rfl ?_
      refine L_getP (d := 2) (c271 18 rfl) hM rt244 rfl ?_
      refine L_ps c271 (n := 2) (pc1 := 23) (ls1 := [jR 244, g1, jI v2]) (st1 := [jI v2, jR 246, jI v2, jR 246]) rfl ?_
      obtain ⟨hb, h⟩ := h
      refine L_iald (c271 23 rfl) hM rt246 ln246 hb ?_
      refine L_ps c271 (n := 2) (pc1 := 26) (ls1 := [jR 244, g1, jI v2]) (st1 := [jI (wr ((μ 246 v2.toNat) - 1)), jI v2, jR 246]) rfl ?_
      obtain ⟨hb, h⟩ := h
      refine L_iast (c271 26 rfl) hM rt246 ln246 hb (fun M hM => ?_)
      refine L_ps c271 (n := 1) (pc1 := 28) (ls1 := [jR 244, g1, jI v2]) (st1 := [jR 244]) rfl ?_
      refine L_getP (d := 2) (c271 28 rfl) hM rt244 rfl ?_
      refine L_ps c271 (n := 1) (pc1 := 32) (ls1 := [jR 244, g1, jI v2]) (st1 := [jI v2, jR 246]) rfl ?_
      obtain ⟨hb, h⟩ := h
      refine L_iald (c271 32 rfl) hM rt246 ln246 hb ?_
      refine L_nb (p1 := 46) (p2 := 36) (c271 33 rfl) rfl jc_le h (fun h => ?_) (fun h => ?_)
      · refine L_ps c271 (n := 2) (pc1 := 39) (ls1 := [jR 244, g1, jI v2]) (st1 := [jI 44, jR 244]) rfl ?_
        refine L_cV (c271 39 rfl) (js_v rfl ((Rl_tag hM rt244 (by decide)).trans js270)) hh271 (k_Output_addByte hM h) (fun M μ2 hM h => ?_) (fun _ _ _ _ f => f.elim)
        refine L_ps c271 (n := 3) (pc1 := 45) (ls1 := [jR 244, g1, jI v2]) (st1 := [jI (wr (v2 + 1))]) rfl ?_
        exact L_retI (c271 45 rfl) (hQ _ _ _ hM h)
      · refine L_ps c271 (n := 2) (pc1 := 49) (ls1 := [jR 244, g1, jI v2]) (st1 := [jI 41, jR 244]) rfl ?_
        refine L_cV (c271 49 rfl) (js_v rfl ((Rl_tag hM rt244 (by decide)).trans js270)) hh271 (k_Output_addByte hM h) (fun M μ4 hM h => ?_) (fun _ _ _ _ f => f.elim)
        refine L_iinc (c271 52 rfl) (hg1) (Nat.le_of_ble_eq_true rfl) rfl ?_
        show JX 271 55 [jR 244, g1, jI (wr (v2 + (-1)))] [] M P
        refine L_ps c271 (n := 1) (pc1 := 4) (ls1 := [jR 244, g1, jI (wr (v2 + (-1)))]) (st1 := []) rfl ?_
        exact hW4 _ _ _ _ hg1 hM h
    · refine L_ps c271 (n := 1) (pc1 := 59) (ls1 := [jR 244, g1, jI v2]) (st1 := [jI 0]) rfl ?_
      exact L_retI (c271 59 rfl) (hQ _ _ _ hM h)
theorem k_Output_closeBrackets_l4 {E : JE2} {v2 : Int} {μ : Mem} {M : JM} {P : JO → JM → Prop} {g1 : JV} {Q : Int → Mem → Prop} (hg1 : jc2 g1 = false) (hM : Rl E M μ) (hQ : ∀ (r : Int) (M1 : JM) (μ1 : Mem), Rl E M1 μ1 → Q r μ1 → P (.inl (some (.inl r))) M1) (h : d_Output_closeBrackets_l4 v2 μ Q) : JX 271 4 [jR 244, g1, jI v2] [] M P := by
  refine h (fun v2 μ => ∀ (g1 : JV) (M : JM), jc2 g1 = false → Rl E M μ → JX 271 4 [jR 244, g1, jI v2] [] M P) ?_ _ _ hg1 hM
  intro v2 μ h g1 M hg1 hM
  exact k_Output_closeBrackets_b4 hg1 hM hQ (fun v2 g1 M μ hg1 hM h => h g1 M hg1 hM) h
theorem k_Output_closeBrackets {E : JE2} {v1 : Int} {μ : Mem} {M : JM} {Q : Int → Mem → Prop} (hM : Rl E M μ) (h : d_Output_closeBrackets v1 μ Q) : JX 271 0 (jargs 271 [jR 244, jI v1]) [] M (PO E (QI Q) XN) := by
  unfold d_Output_closeBrackets at h
  show JX 271 0 [jR 244, jI v1, jU] [] M (PO E (QI Q) XN)
  generalize hP : PO E (QI Q) XN = P
  have hQ : ∀ (r : Int) (M1 : JM) (μ1 : Mem), Rl E M1 μ1 → Q r μ1 → P (.inl (some (.inl r))) M1 := by rw [← hP]; exact fun r M1 μ1 a b => ⟨μ1, a, r, rfl, b⟩
  clear hP
  refine L_ps c271 (n := 4) (pc1 := 4) (ls1 := [jR 244, jI v1, jI (wr (v1 - 1))]) (st1 := []) rfl ?_
  exact k_Output_closeBrackets_l4 rfl hM hQ h
theorem k_Output_addTerm_j79 {E : JE2} {v1 : Nat} {v2 : Nat} {v3 : Int} {v4 : Int} {μ : Mem} {M : JM} {P : JO → JM → Prop} {g5 : JV} {W5 : Int → Int → Mem → Prop} {Q : Mem → Prop} (hv1 : rt v1 = 8) (hv2 : rt v2 = 6) (hM : Rl E M μ) (hQ : ∀ (M1 : JM) (μ1 : Mem), Rl E M1 μ1 → Q μ1 → P (.inl none) M1) (hW5 : ∀ (v3 : Int) (v4 : Int) (g5 : JV) (M1 : JM) (μ1 : Mem), Rl E M1 μ1 → W5 v3 v4 μ1 → JX 268 5 [jR 244, jR v1, jR v2, jI v3, jI v4, g5] [] M1 P) (h : d_Output_addTerm_j79 v1 v2 v3 v4 μ W5 Q) : JX 268 79 [jR 244, jR v1, jR v2, jI v3, jI v4, g5] [] M P := by
  unfold d_Output_addTerm_j79 at h
  refine L_ps c268 (n := 2) (pc1 := 5) (ls1 := [jR 244, jR v1, jR v2, jI v3, jI (wr (v4 + 1)), g5]) (st1 := []) rfl ?_
  exact hW5 _ _ _ _ _ hM h
theorem k_Output_addTerm_b5 {E : JE2} {v1 : Nat} {v2 : Nat} {v3 : Int} {v4 : Int} {μ : Mem} {M : JM} {P : JO → JM → Prop} {g5 : JV} {W5 : Int → Int → Mem → Prop} {Q : Mem → Prop} (hv1 : rt v1 = 8) (hv2 : rt v2 = 6) (hM : Rl E M μ) (hQ : ∀ (M1 : JM) (μ1 : Mem), Rl E M1 μ1 → Q μ1 → P (.inl none) M1) (hW5 : ∀ (v3 : Int) (v4 : Int) (g5 : JV) (M1 : JM) (μ1 : Mem), Rl E M1 μ1 → W5 v3 v4 μ1 → JX 268 5 [jR 244, jR v1, jR v2, jI v3, jI v4, g5] [] M1 P) (h : d_Output_addTerm_b5 v1 v2 v3 v4 μ W5 Q) : JX 268 5 [jR 244, jR v1, jR v2, jI v3, jI v4, g5] [] M P := by
  unfold d_Output_addTerm_b5 at h
  refine L_ps c268 (n := 2) (pc1 := 8) (ls1 := [jR 244, jR v1, jR v2, jI v3, jI v4, g5]) (st1 := [jR v1, jI v4]) rfl ?_
  refine L_getI (c268 8 rfl) hM hv1 rfl ?_
  refine L_nb (p1 := 85) (p2 := 14) (c268 11 rfl) rfl jc_ge h (fun h => ?_) (fun h => ?_)
  · refine L_ps c268 (n := 2) (pc1 := 17) (ls1 := [jR 244, jR v1, jR v2, jI v3, jI v4, g5]) (st1 := [jI v4, jR v1]) rfl ?_
    refine L_cpI (c268 17 rfl) (js_v rfl ((Rl_tag hM hv1 (by decide)).trans js46)) hh268 (k_Term_get hv1 hM h) (fun r1 M hM h => ?_) (fun _ _ _ _ f => f.elim)
    refine L_ps c268 (n := 4) (pc1 := 26) (ls1 := [jR 244, jR v1, jR v2, jI v3, jI v4, jI r1]) (st1 := [jR v2, jI r1, jR 244]) rfl ?_
    refine L_cV (c268 26 rfl) (js_v rfl ((Rl_tag hM rt244 (by decide)).trans js269)) hh268 (k_Output_addName hv2 hM h) (fun M μ4 hM h => ?_) (fun _ _ _ _ f => f.elim)
    refine L_ps c268 (n := 1) (pc1 := 31) (ls1 := [jR 244, jR v1, jR v2, jI v3, jI v4, jI r1]) (st1 := [jI r1]) rfl ?_
    refine L_cpI (c268 31 rfl) (js_t rfl) hh268 (k_Term_arityOf hM h) (fun r5 M hM h => ?_) (fun _ _ _ _ f => f.elim)
    refine L_nb (p1 := 46) (p2 := 37) (c268 34 rfl) rfl jc_ne h (fun h => ?_) (fun h => ?_)
    · refine L_ps c268 (n := 2) (pc1 := 39) (ls1 := [jR 244, jR v1, jR v2, jI v3, jI v4, jI r1]) (st1 := [jI v3, jR 244]) rfl ?_
      refine L_cI (c268 39 rfl) (js_v rfl ((Rl_tag hM rt244 (by decide)).trans js271)) hh268 (k_Output_closeBrackets hM h) (fun r7 M μ8 hM h => ?_) (fun _ _ _ _ f => f.elim)
      refine L_ps c268 (n := 2) (pc1 := 79) (ls1 := [jR 244, jR v1, jR v2, jI r7, jI v4, jI r1]) (st1 := []) rfl ?_
      exact k_Output_addTerm_j79 hv1 hv2 hM hQ hW5 h
    · refine L_ps c268 (n := 1) (pc1 := 47) (ls1 := [jR 244, jR v1, jR v2, jI v3, jI v4, jI r1]) (st1 := [jI v3]) rfl ?_
      refine L_br (p1 := 79) (p2 := 50) (c268 47 rfl) rfl jc_lt h (fun h => ?_) (fun h => ?_)
      · exact k_Output_addTerm_j79 hv1 hv2 hM hQ hW5 h
      · refine L_ps c268 (n := 2) (pc1 := 52) (ls1 := [jR 244, jR v1, jR v2, jI v3, jI v4, jI r1]) (st1 := [jR 244, jI v3]) rfl ?_
        refine L_getP (d := 2) (c268 52 rfl) hM rt244 rfl ?_
        refine L_alen (n := 80) (z := 80) (c268 55 rfl) hM rt246 (by decide) ln246 (by decide) rfl ?_
        refine L_nb (p1 := 79) (p2 := 59) (c268 56 rfl) rfl jc_ge h (fun h => ?_) (fun h => ?_)
        · refine L_ps c268 (n := 2) (pc1 := 62) (ls1 := [jR 244, jR v1, jR v2, jI v3, jI v4, jI r1]) (st1 := [jI 40, jR 244]) rfl ?_
          refine L_cV (c268 62 rfl) (js_v rfl ((Rl_tag hM rt244 (by decide)).trans js270)) hh268 (k_Output_addByte hM h) (fun M μ10 hM h => ?_) (fun _ _ _ _ f => f.elim)
          refine L_ps c268 (n := 1) (pc1 := 66) (ls1 := [jR 244, jR v1, jR v2, jI v3, jI v4, jI r1]) (st1 := [jR 244]) rfl ?_
          refine L_getP (d := 2) (c268 66 rfl) hM rt244 rfl ?_
          refine L_ps c268 (n := 2) (pc1 := 72) (ls1 := [jR 244, jR v1, jR v2, jI v3, jI v4, jI r1]) (st1 := [jI r1, jI v3, jR 246]) rfl ?_
          refine L_cpI (c268 72 rfl) (js_t rfl) hh268 (k_Term_arityOf hM h) (fun r11 M hM h => ?_) (fun _ _ _ _ f => f.elim)
          obtain ⟨hb, h⟩ := h
          refine L_iast (c268 75 rfl) hM rt246 ln246 hb (fun M hM => ?_)
          refine L_ps c268 (n := 1) (pc1 := 79) (ls1 := [jR 244, jR v1, jR v2, jI (wr (v3 + 1)), jI v4, jI r1]) (st1 := []) rfl ?_
          exact k_Output_addTerm_j79 hv1 hv2 hM hQ hW5 h
        · exact k_Output_addTerm_j79 hv1 hv2 hM hQ hW5 h
  · exact L_end (c268 85 rfl) rfl (hQ _ _ hM h)
theorem k_Output_addTerm_l5 {E : JE2} {v1 : Nat} {v2 : Nat} {v3 : Int} {v4 : Int} {μ : Mem} {M : JM} {P : JO → JM → Prop} {g5 : JV} {Q : Mem → Prop} (hv1 : rt v1 = 8) (hv2 : rt v2 = 6) (hM : Rl E M μ) (hQ : ∀ (M1 : JM) (μ1 : Mem), Rl E M1 μ1 → Q μ1 → P (.inl none) M1) (h : d_Output_addTerm_l5 v1 v2 v3 v4 μ Q) : JX 268 5 [jR 244, jR v1, jR v2, jI v3, jI v4, g5] [] M P := by
  refine h (fun v3 v4 μ => ∀ (g5 : JV) (M : JM), Rl E M μ → JX 268 5 [jR 244, jR v1, jR v2, jI v3, jI v4, g5] [] M P) ?_ _ _ hM
  intro v3 v4 μ h g5 M hM
  exact k_Output_addTerm_b5 hv1 hv2 hM hQ (fun v3 v4 g5 M μ hM h => h g5 M hM) h
theorem k_Output_addTerm {E : JE2} {v1 : Nat} {v2 : Nat} {μ : Mem} {M : JM} {Q : Mem → Prop} (hv1 : rt v1 = 8) (hv2 : rt v2 = 6) (hM : Rl E M μ) (h : d_Output_addTerm v1 v2 μ Q) : JX 268 0 (jargs 268 [jR 244, jR v1, jR v2]) [] M (PO E (QV Q) XN) := by
  unfold d_Output_addTerm at h
  show JX 268 0 [jR 244, jR v1, jR v2, jU, jU, jU] [] M (PO E (QV Q) XN)
  generalize hP : PO E (QV Q) XN = P
  have hQ : ∀ (M1 : JM) (μ1 : Mem), Rl E M1 μ1 → Q μ1 → P (.inl none) M1 := by rw [← hP]; exact fun M1 μ1 a b => ⟨μ1, a, rfl, b⟩
  clear hP
  refine L_ps c268 (n := 4) (pc1 := 5) (ls1 := [jR 244, jR v1, jR v2, jI 0, jI 0, jU]) (st1 := []) rfl ?_
  exact k_Output_addTerm_l5 hv1 hv2 hM hQ h
theorem k_OB_writeRule {E : JE2} {v1 : Int} {μ : Mem} {M : JM} {Q : Int → Mem → Prop} {X : Nat → Mem → Prop} (hM : Rl E M μ) (h : d_OB_writeRule v1 μ Q X) : JX 267 0 (jargs 267 [jR 0, jI v1]) [] M (PO E (QI Q) X) := by
  unfold d_OB_writeRule at h
  show JX 267 0 [jR 0, jI v1, jU] [] M (PO E (QI Q) X)
  generalize hP : PO E (QI Q) X = P
  have hQ : ∀ (r : Int) (M1 : JM) (μ1 : Mem), Rl E M1 μ1 → Q r μ1 → P (.inl (some (.inl r))) M1 := by rw [← hP]; exact fun r M1 μ1 a b => ⟨μ1, a, r, rfl, b⟩
  have hX : ∀ (k : Nat) (M1 : JM) (μ1 : Mem), Rl E M1 μ1 → X k μ1 → P (.inr k) M1 := by rw [← hP]; exact fun k M1 μ1 a b => ⟨μ1, a, b⟩
  clear hP
  refine L_ps c267 (n := 2) (pc1 := 2) (ls1 := [jR 0, jI v1, jU]) (st1 := [jI v1, jR 0]) rfl ?_
  refine L_cR (c267 2 rfl) (js_v rfl ((Rl_tag hM rt0 (by decide)).trans js86)) hh267 (k_OB_requireRule hM h) (fun r1 M μ2 hM hr1 h => ?_) (fun k M μx hM hx => hX _ _ _ hM hx)
  refine L_ps c267 (n := 2) (pc1 := 7) (ls1 := [jR 0, jI v1, jR r1]) (st1 := [jR 0]) rfl ?_
  refine L_getP (d := 244) (c267 7 rfl) hM rt0 rfl ?_
  refine L_ps c267 (n := 1) (pc1 := 11) (ls1 := [jR 0, jI v1, jR r1]) (st1 := [jI 0, jR 244]) rfl ?_
  refine L_putI (c267 11 rfl) hM rt244 rfl (fun M hM => ?_)
  refine L_ps c267 (n := 1) (pc1 := 15) (ls1 := [jR 0, jI v1, jR r1]) (st1 := [jR 0]) rfl ?_
  refine L_getP (d := 244) (c267 15 rfl) hM rt0 rfl ?_
  refine L_ps c267 (n := 1) (pc1 := 19) (ls1 := [jR 0, jI v1, jR r1]) (st1 := [jR r1, jR 244]) rfl ?_
  refine L_getD (c267 19 rfl) hM hr1 (by decide) ?_
  refine L_ps c267 (n := 1) (pc1 := 23) (ls1 := [jR 0, jI v1, jR r1]) (st1 := [jR 0, jR (dp ((mup μ2 244 0 0) r1 0)), jR 244]) rfl ?_
  refine L_getP (d := 1) (c267 23 rfl) hM rt0 rfl ?_
  refine L_cV (c267 26 rfl) (js_v rfl ((Rl_tag hM rt244 (by decide)).trans js268)) hh267 (k_Output_addTerm (dp_rt _) rt1 hM h) (fun M μ4 hM h => ?_) (fun _ _ _ _ f => f.elim)
  refine L_ps c267 (n := 1) (pc1 := 30) (ls1 := [jR 0, jI v1, jR r1]) (st1 := [jR 0]) rfl ?_
  refine L_getP (d := 244) (c267 30 rfl) hM rt0 rfl ?_
  refine L_ps c267 (n := 1) (pc1 := 35) (ls1 := [jR 0, jI v1, jR r1]) (st1 := [jI 61, jR 244]) rfl ?_
  refine L_cV (c267 35 rfl) (js_v rfl ((Rl_tag hM rt244 (by decide)).trans js270)) hh267 (k_Output_addByte hM h) (fun M μ6 hM h => ?_) (fun _ _ _ _ f => f.elim)
  refine L_ps c267 (n := 1) (pc1 := 39) (ls1 := [jR 0, jI v1, jR r1]) (st1 := [jR 0]) rfl ?_
  refine L_getP (d := 244) (c267 39 rfl) hM rt0 rfl ?_
  refine L_ps c267 (n := 1) (pc1 := 43) (ls1 := [jR 0, jI v1, jR r1]) (st1 := [jR r1, jR 244]) rfl ?_
  refine L_getD (c267 43 rfl) hM hr1 (by decide) ?_
  refine L_ps c267 (n := 1) (pc1 := 47) (ls1 := [jR 0, jI v1, jR r1]) (st1 := [jR 0, jR (dp (μ6 r1 1)), jR 244]) rfl ?_
  refine L_getP (d := 1) (c267 47 rfl) hM rt0 rfl ?_
  refine L_cV (c267 50 rfl) (js_v rfl ((Rl_tag hM rt244 (by decide)).trans js268)) hh267 (k_Output_addTerm (dp_rt _) rt1 hM h) (fun M μ8 hM h => ?_) (fun _ _ _ _ f => f.elim)
  refine L_ps c267 (n := 1) (pc1 := 54) (ls1 := [jR 0, jI v1, jR r1]) (st1 := [jR 0]) rfl ?_
  refine L_getP (d := 244) (c267 54 rfl) hM rt0 rfl ?_
  refine L_getI (c267 57 rfl) hM rt244 rfl ?_
  exact L_retI (c267 60 rfl) (hQ _ _ _ hM h)
theorem k_Output_byteAt {E : JE2} {v1 : Int} {μ : Mem} {M : JM} {Q : Int → Prop} (hM : Rl E M μ) (h : d_Output_byteAt v1 μ Q) : JX 273 0 (jargs 273 [jR 244, jI v1]) [] M (PO E (pQI μ Q) XN) := by
  unfold d_Output_byteAt at h
  show JX 273 0 [jR 244, jI v1] [] M (PO E (pQI μ Q) XN)
  generalize hP : PO E (pQI μ Q) XN = P
  have hQ : ∀ (r : Int) (M1 : JM), Rl E M1 μ → Q r → P (.inl (some (.inl r))) M1 := by rw [← hP]; exact fun r M1 a b => ⟨μ, a, rfl, r, rfl, b⟩
  clear hP
  refine L_ps c273 (n := 1) (pc1 := 1) (ls1 := [jR 244, jI v1]) (st1 := [jI v1]) rfl ?_
  refine L_br (p1 := 30) (p2 := 4) (c273 1 rfl) rfl jc_lt h (fun h => ?_) (fun h => ?_)
  · refine L_ps c273 (n := 1) (pc1 := 31) (ls1 := [jR 244, jI v1]) (st1 := [jI (-1)]) rfl ?_
    exact L_retI (c273 31 rfl) (hQ _ _ hM h)
  · refine L_ps c273 (n := 2) (pc1 := 6) (ls1 := [jR 244, jI v1]) (st1 := [jR 244, jI v1]) rfl ?_
    refine L_getI (c273 6 rfl) hM rt244 rfl ?_
    refine L_nb (p1 := 30) (p2 := 12) (c273 9 rfl) rfl jc_ge h (fun h => ?_) (fun h => ?_)
    · refine L_ps c273 (n := 2) (pc1 := 14) (ls1 := [jR 244, jI v1]) (st1 := [jR 244, jI v1]) rfl ?_
      refine L_getP (d := 1) (c273 14 rfl) hM rt244 rfl ?_
      refine L_alen (n := 1600) (z := 1600) (c273 17 rfl) hM rt245 (by decide) ln245 (by decide) rfl ?_
      refine L_nb (p1 := 30) (p2 := 21) (c273 18 rfl) rfl jc_ge h (fun h => ?_) (fun h => ?_)
      · refine L_ps c273 (n := 1) (pc1 := 22) (ls1 := [jR 244, jI v1]) (st1 := [jR 244]) rfl ?_
        refine L_getP (d := 1) (c273 22 rfl) hM rt244 rfl ?_
        refine L_ps c273 (n := 1) (pc1 := 26) (ls1 := [jR 244, jI v1]) (st1 := [jI v1, jR 245]) rfl ?_
        obtain ⟨hb, h⟩ := h
        refine L_iald (c273 26 rfl) hM rt245 ln245 hb ?_
        refine L_ps c273 (n := 1) (pc1 := 31) (ls1 := [jR 244, jI v1]) (st1 := [jI (μ 245 v1.toNat)]) rfl ?_
        exact L_retI (c273 31 rfl) (hQ _ _ hM h)
      · refine L_ps c273 (n := 1) (pc1 := 31) (ls1 := [jR 244, jI v1]) (st1 := [jI (-1)]) rfl ?_
        exact L_retI (c273 31 rfl) (hQ _ _ hM h)
    · refine L_ps c273 (n := 1) (pc1 := 31) (ls1 := [jR 244, jI v1]) (st1 := [jI (-1)]) rfl ?_
      exact L_retI (c273 31 rfl) (hQ _ _ hM h)
theorem k_OB_outputByte {E : JE2} {v1 : Int} {μ : Mem} {M : JM} {Q : Int → Mem → Prop} {X : Nat → Mem → Prop} (hM : Rl E M μ) (h : d_OB_outputByte v1 μ Q X) : JX 272 0 (jargs 272 [jR 0, jI v1]) [] M (PO E (QI Q) X) := by
  unfold d_OB_outputByte at h
  show JX 272 0 [jR 0, jI v1] [] M (PO E (QI Q) X)
  generalize hP : PO E (QI Q) X = P
  have hQ : ∀ (r : Int) (M1 : JM) (μ1 : Mem), Rl E M1 μ1 → Q r μ1 → P (.inl (some (.inl r))) M1 := by rw [← hP]; exact fun r M1 μ1 a b => ⟨μ1, a, r, rfl, b⟩
  have hX : ∀ (k : Nat) (M1 : JM) (μ1 : Mem), Rl E M1 μ1 → X k μ1 → P (.inr k) M1 := by rw [← hP]; exact fun k M1 μ1 a b => ⟨μ1, a, b⟩
  clear hP
  refine L_ps c272 (n := 3) (pc1 := 3) (ls1 := [jR 0, jI v1]) (st1 := [jR 0, jI v1, jR 0]) rfl ?_
  refine L_getP (d := 244) (c272 3 rfl) hM rt0 rfl ?_
  refine L_getI (c272 6 rfl) hM rt244 rfl ?_
  refine L_cV (c272 9 rfl) (js_v rfl ((Rl_tag hM rt0 (by decide)).trans js82)) hh272 (k_OB_requireIndex hM h) (fun M μ2 hM h => ?_) (fun k M μx hM hx => hX _ _ _ hM hx)
  refine L_ps c272 (n := 1) (pc1 := 13) (ls1 := [jR 0, jI v1]) (st1 := [jR 0]) rfl ?_
  refine L_getP (d := 244) (c272 13 rfl) hM rt0 rfl ?_
  refine L_ps c272 (n := 1) (pc1 := 17) (ls1 := [jR 0, jI v1]) (st1 := [jI v1, jR 244]) rfl ?_
  refine L_cpI (c272 17 rfl) (js_v rfl ((Rl_tag hM rt244 (by decide)).trans js273)) hh272 (k_Output_byteAt hM h) (fun r3 M hM h => ?_) (fun _ _ _ _ f => f.elim)
  exact L_retI (c272 20 rfl) (hQ _ _ _ hM h)
