/-! that the printed tables do what the texts say (written by wip/gen/dec.py), 5 -/
theorem k_Lw_outputByte {E : JE2} {v1 : Int} {μ : Mem} {M : JM} {Q : Int → Mem → Prop} (hM : Rl E M μ) (h : d_Lw_outputByte v1 μ Q) : JX 219 0 (jargs 219 [jR 0, jI v1, jR 795]) [] M (PO E (QI Q) XN) := by
  unfold d_Lw_outputByte at h
  show JX 219 0 [jR 0, jI v1, jR 795, jU] [] M (PO E (QI Q) XN)
  generalize hP : PO E (QI Q) XN = P
  have hQ : ∀ (r : Int) (M1 : JM) (μ1 : Mem), Rl E M1 μ1 → Q r μ1 → P (.inl (some (.inl r))) M1 := by rw [← hP]; exact fun r M1 μ1 a b => ⟨μ1, a, r, rfl, b⟩
  clear hP
  refine L_ps c219 (n := 4) (pc1 := 4) (ls1 := [jR 0, jI v1, jR 795, jU]) (st1 := [jI v1, jR 0, jI 0, jR 795]) rfl ?_
  refine L_cIH (c219 4 rfl) (js_v rfl ((Rl_tag hM rt0 (by decide)).trans js220)) (k_OB_outputByte hM h) (fun r1 M μ2 hM h => ?_) (fun k M μx hM h => ?_)
  · refine L_ps c219 (n := 1) (pc1 := 8) (ls1 := [jR 0, jI v1, jR 795, jU]) (st1 := [jX (.long ((Int32.ofInt r1).toInt64)), jI 0, jR 795]) rfl ?_
    refine L_last (c219 8 rfl) hM rt795 ln795 (by decide) (fun M hM => ?_)
    refine L_ps c219 (n := 2) (pc1 := 16) (ls1 := [jR 0, jI v1, jR 795, jU]) (st1 := [jI 0]) rfl ?_
    exact L_retI (c219 16 rfl) (hQ _ _ _ hM h)
  · by_cases hk1 : k = 1
    · rw [if_pos hk1] at h
      subst hk1
      refine JH_of (h := 12) (i := 3) (pc1 := 13) (ls1 := [jR 0, jI v1, jR 795, jU]) rfl rfl (Nat.le_of_ble_eq_true rfl) rfl rfl ?_
      refine L_ps c219 (n := 1) (pc1 := 14) (ls1 := [jR 0, jI v1, jR 795, jU]) (st1 := [jI 1]) rfl ?_
      exact L_retI (c219 14 rfl) (hQ _ _ _ hM h)
    rw [if_neg hk1] at h
    exact h.elim
theorem k_History_at_j22 {E : JE2} {μ : Mem} {M : JM} {P : JO → JM → Prop} {g0 : JV} {g1 : JV} {Q : Nat → Prop} (hM : Rl E M μ) (hQ : ∀ (r : Nat) (M1 : JM), Rl E M1 μ → rt r = 7 → Q r → P (.inl (some (.inr (.inl r)))) M1) (h : d_History_at_j22 μ Q) : JX 226 22 [g0, g1] [] M P := by
  unfold d_History_at_j22 at h
  exact h.elim
theorem k_History_at {E : JE2} {v1 : Int} {μ : Mem} {M : JM} {Q : Nat → Prop} (hM : Rl E M μ) (h : d_History_at v1 μ Q) : JX 226 0 (jargs 226 [jR 247, jI v1]) [] M (PO E (pQR μ 7 Q) XN) := by
  unfold d_History_at at h
  show JX 226 0 [jR 247, jI v1] [] M (PO E (pQR μ 7 Q) XN)
  generalize hP : PO E (pQR μ 7 Q) XN = P
  have hQ : ∀ (r : Nat) (M1 : JM), Rl E M1 μ → rt r = 7 → Q r → P (.inl (some (.inr (.inl r)))) M1 := by rw [← hP]; exact fun r M1 a c b => ⟨μ, a, rfl, r, rfl, c, b⟩
  clear hP
  refine L_ps c226 (n := 1) (pc1 := 1) (ls1 := [jR 247, jI v1]) (st1 := [jI v1]) rfl ?_
  refine L_br (p1 := 22) (p2 := 4) (c226 1 rfl) rfl jc_lt h (fun h => ?_) (fun h => ?_)
  · exact k_History_at_j22 hM hQ h
  · refine L_ps c226 (n := 2) (pc1 := 6) (ls1 := [jR 247, jI v1]) (st1 := [jR 247, jI v1]) rfl ?_
    refine L_getP (d := 1) (c226 6 rfl) hM rt247 rfl ?_
    refine L_alen (n := 8) (z := 8) (c226 9 rfl) hM rt248 (by decide) ln248 (by decide) rfl ?_
    refine L_nb (p1 := 22) (p2 := 13) (c226 10 rfl) rfl jc_ge h (fun h => ?_) (fun h => ?_)
    · refine L_ps c226 (n := 1) (pc1 := 14) (ls1 := [jR 247, jI v1]) (st1 := [jR 247]) rfl ?_
      refine L_getP (d := 1) (c226 14 rfl) hM rt247 rfl ?_
      refine L_ps c226 (n := 1) (pc1 := 18) (ls1 := [jR 247, jI v1]) (st1 := [jI v1, jR 248]) rfl ?_
      obtain ⟨hb, h⟩ := h
      have e1 : rt (248 + (1 + 52 * v1.toNat)) = 7 := re_112 rt248 (by omega)
      refine L_aald (c226 18 rfl) hM rt248 (by decide) ln248 hb rfl ?_
      refine L_ps c226 (n := 1) (pc1 := 23) (ls1 := [jR 247, jI v1]) (st1 := [jR (248 + (1 + 52 * v1.toNat))]) rfl ?_
      exact L_end (c226 23 rfl) rfl (hQ _ _ hM e1 h)
    · exact k_History_at_j22 hM hQ h
theorem k_History_keep_j22 {E : JE2} {v1 : Nat} {t1 : Int} {μ : Mem} {M : JM} {P : JO → JM → Prop} {g2 : JV} {Q : Mem → Prop} (hv1 : rt v1 = 7) (hM : Rl E M μ) (hQ : ∀ (M1 : JM) (μ1 : Mem), Rl E M1 μ1 → Q μ1 → P (.inl none) M1) (h : d_History_keep_j22 v1 t1 μ Q) : JX 225 22 [jR 247, jR v1, g2] [jI t1, jR 247] M P := by
  unfold d_History_keep_j22 at h
  refine L_putI (c225 22 rfl) hM rt247 rfl (fun M hM => ?_)
  refine L_ps c225 (n := 2) (pc1 := 27) (ls1 := [jR 247, jR v1, g2]) (st1 := [jR 247, jR 247]) rfl ?_
  refine L_getI (c225 27 rfl) hM rt247 rfl ?_
  refine L_ps c225 (n := 3) (pc1 := 34) (ls1 := [jR 247, jR v1, g2]) (st1 := [jI 8, jI (wr (((mup μ 247 1 t1) 247 0) + 1)), jR 247]) rfl ?_
  refine L_cpI (c225 34 rfl) (js_t rfl) hh225 (k_Math_min hM h) (fun r1 M hM h => ?_) (fun _ _ _ _ f => f.elim)
  refine L_putI (c225 37 rfl) hM rt247 rfl (fun M hM => ?_)
  refine L_ps c225 (n := 2) (pc1 := 42) (ls1 := [jR 247, jR v1, g2]) (st1 := [jR 247, jR 247]) rfl ?_
  refine L_getI (c225 42 rfl) hM rt247 rfl ?_
  refine L_cpR (c225 45 rfl) (js_v rfl ((Rl_tag hM rt247 (by decide)).trans js226)) hh225 (k_History_at hM h) (fun r3 M hM hr3 h => ?_) (fun _ _ _ _ f => f.elim)
  refine L_ps c225 (n := 5) (pc1 := 55) (ls1 := [jR 247, jR v1, jR r3]) (st1 := [jR v1, jR r3]) rfl ?_
  refine L_cV (c225 55 rfl) (js_v rfl ((Rl_tag hM hr3 (by decide)).trans js82)) hh225 (k_State_copyFrom hr3 hv1 hM h) (fun M μ6 hM h => ?_) (fun _ _ _ _ f => f.elim)
  exact L_end (c225 58 rfl) rfl (hQ _ _ hM h)
theorem k_History_keep {E : JE2} {v1 : Nat} {μ : Mem} {M : JM} {Q : Mem → Prop} (hv1 : rt v1 = 7) (hM : Rl E M μ) (h : d_History_keep v1 μ Q) : JX 225 0 (jargs 225 [jR 247, jR v1]) [] M (PO E (QV Q) XN) := by
  unfold d_History_keep at h
  show JX 225 0 [jR 247, jR v1, jU] [] M (PO E (QV Q) XN)
  generalize hP : PO E (QV Q) XN = P
  have hQ : ∀ (M1 : JM) (μ1 : Mem), Rl E M1 μ1 → Q μ1 → P (.inl none) M1 := by rw [← hP]; exact fun M1 μ1 a b => ⟨μ1, a, rfl, b⟩
  clear hP
  refine L_ps c225 (n := 2) (pc1 := 2) (ls1 := [jR 247, jR v1, jU]) (st1 := [jR 247, jR 247]) rfl ?_
  refine L_getI (c225 2 rfl) hM rt247 rfl ?_
  refine L_ps c225 (n := 3) (pc1 := 9) (ls1 := [jR 247, jR v1, jU]) (st1 := [jI 8, jI (wr ((μ 247 1) + 1)), jR 247]) rfl ?_
  refine L_nb (p1 := 21) (p2 := 12) (c225 9 rfl) rfl jc_ge h (fun h => ?_) (fun h => ?_)
  · refine L_ps c225 (n := 1) (pc1 := 13) (ls1 := [jR 247, jR v1, jU]) (st1 := [jR 247, jR 247]) rfl ?_
    refine L_getI (c225 13 rfl) hM rt247 rfl ?_
    refine L_ps c225 (n := 3) (pc1 := 22) (ls1 := [jR 247, jR v1, jU]) (st1 := [jI (wr ((μ 247 1) + 1)), jR 247]) rfl ?_
    exact k_History_keep_j22 hv1 hM hQ h
  · refine L_ps c225 (n := 1) (pc1 := 22) (ls1 := [jR 247, jR v1, jU]) (st1 := [jI 0, jR 247]) rfl ?_
    exact k_History_keep_j22 hv1 hM hQ h
theorem k_OB_remember {E : JE2} {μ : Mem} {M : JM} {Q : Mem → Prop} (hM : Rl E M μ) (h : d_OB_remember μ Q) : JX 224 0 (jargs 224 [jR 0]) [] M (PO E (QV Q) XN) := by
  unfold d_OB_remember at h
  show JX 224 0 [jR 0] [] M (PO E (QV Q) XN)
  generalize hP : PO E (QV Q) XN = P
  have hQ : ∀ (M1 : JM) (μ1 : Mem), Rl E M1 μ1 → Q μ1 → P (.inl none) M1 := by rw [← hP]; exact fun M1 μ1 a b => ⟨μ1, a, rfl, b⟩
  clear hP
  refine L_ps c224 (n := 1) (pc1 := 1) (ls1 := [jR 0]) (st1 := [jR 0]) rfl ?_
  refine L_getP (d := 247) (c224 1 rfl) hM rt0 rfl ?_
  refine L_ps c224 (n := 1) (pc1 := 5) (ls1 := [jR 0]) (st1 := [jR 0, jR 247]) rfl ?_
  refine L_getP (d := 5) (c224 5 rfl) hM rt0 rfl ?_
  refine L_cV (c224 8 rfl) (js_v rfl ((Rl_tag hM rt247 (by decide)).trans js225)) hh224 (k_History_keep rt5 hM h) (fun M μ2 hM h => ?_) (fun _ _ _ _ f => f.elim)
  refine L_ps c224 (n := 1) (pc1 := 12) (ls1 := [jR 0]) (st1 := [jR 0]) rfl ?_
  refine L_getP (d := 139) (c224 12 rfl) hM rt0 rfl ?_
  refine L_ps c224 (n := 1) (pc1 := 16) (ls1 := [jR 0]) (st1 := [jI 1, jR 139]) rfl ?_
  refine L_putB (t := 2) (c224 16 rfl) hM rt139 rfl (Or.inr rfl) (fun M hM => ?_)
  exact L_end (c224 19 rfl) rfl (hQ _ _ hM h)
theorem k_OB_rewrite {E : JE2} {v1 : Int} {v2 : Int} {v3 : Int} {μ : Mem} {M : JM} {Q : Int → Mem → Prop} {X : Nat → Mem → Prop} (hM : Rl E M μ) (h : d_OB_rewrite v1 v2 v3 μ Q X) : JX 223 0 (jargs 223 [jR 0, jI v1, jI v2, jI v3]) [] M (PO E (QI Q) X) := by
  unfold d_OB_rewrite at h
  show JX 223 0 [jR 0, jI v1, jI v2, jI v3, jU, jU] [] M (PO E (QI Q) X)
  generalize hP : PO E (QI Q) X = P
  have hQ : ∀ (r : Int) (M1 : JM) (μ1 : Mem), Rl E M1 μ1 → Q r μ1 → P (.inl (some (.inl r))) M1 := by rw [← hP]; exact fun r M1 μ1 a b => ⟨μ1, a, r, rfl, b⟩
  have hX : ∀ (k : Nat) (M1 : JM) (μ1 : Mem), Rl E M1 μ1 → X k μ1 → P (.inr k) M1 := by rw [← hP]; exact fun k M1 μ1 a b => ⟨μ1, a, b⟩
  clear hP
  refine L_ps c223 (n := 2) (pc1 := 2) (ls1 := [jR 0, jI v1, jI v2, jI v3, jU, jU]) (st1 := [jI v1, jR 0]) rfl ?_
  refine L_cR (c223 2 rfl) (js_v rfl ((Rl_tag hM rt0 (by decide)).trans js98)) hh223 (k_OB_requireRule hM h) (fun r1 M μ2 hM hr1 h => ?_) (fun k M μx hM hx => hX _ _ _ hM hx)
  refine L_ps c223 (n := 4) (pc1 := 10) (ls1 := [jR 0, jI v1, jI v2, jI v3, jR r1, jU]) (st1 := [jI v3, jI v2, jR 0]) rfl ?_
  refine L_cR (c223 10 rfl) (js_v rfl ((Rl_tag hM rt0 (by decide)).trans js120)) hh223 (k_OB_requireNode hM h) (fun r3 M μ4 hM hr3 h => ?_) (fun k M μx hM hx => hX _ _ _ hM hx)
  refine L_ps c223 (n := 2) (pc1 := 16) (ls1 := [jR 0, jI v1, jI v2, jI v3, jR r1, jR r3]) (st1 := [jR 0]) rfl ?_
  refine L_getP (d := 57) (c223 16 rfl) hM rt0 rfl ?_
  refine L_ps c223 (n := 3) (pc1 := 24) (ls1 := [jR 0, jI v1, jI v2, jI v3, jR r1, jR r3]) (st1 := [jI v3, jR r3, jR r1, jR 57]) rfl ?_
  refine L_cB (c223 24 rfl) (js_v rfl ((Rl_tag hM rt57 (by decide)).trans js77)) hh223 (k_Rewriter_build rt57 hr1 hr3 hM h) (fun r5 M μ6 hM h => ?_) (fun _ _ _ _ f => f.elim)
  refine L_br (p1 := 38) (p2 := 30) (c223 27 rfl) rfl jc_neb h (fun h => ?_) (fun h => ?_)
  · refine L_ps c223 (n := 1) (pc1 := 39) (ls1 := [jR 0, jI v1, jI v2, jI v3, jR r1, jR r3]) (st1 := [jR 0]) rfl ?_
    refine L_cV (c223 39 rfl) (js_v rfl ((Rl_tag hM rt0 (by decide)).trans js224)) hh223 (k_OB_remember hM h) (fun M μ8 hM h => ?_) (fun _ _ _ _ f => f.elim)
    refine L_ps c223 (n := 2) (pc1 := 45) (ls1 := [jR 0, jI v1, jI v2, jI v3, jR r1, jR r3]) (st1 := [jR 0, jR r3]) rfl ?_
    refine L_getP (d := 57) (c223 45 rfl) hM rt0 rfl ?_
    refine L_getP (d := 1) (c223 48 rfl) hM rt57 rfl ?_
    refine L_cV (c223 51 rfl) (js_v rfl ((Rl_tag hM hr3 (by decide)).trans js78)) hh223 (k_Term_copyFrom hr3 rt58 hM h) (fun M μ10 hM h => ?_) (fun _ _ _ _ f => f.elim)
    refine L_ps c223 (n := 1) (pc1 := 56) (ls1 := [jR 0, jI v1, jI v2, jI v3, jR r1, jR r3]) (st1 := [jR r3]) rfl ?_
    refine L_getI (c223 56 rfl) hM hr3 rfl ?_
    exact L_retI (c223 59 rfl) (hQ _ _ _ hM h)
  · exact L_throw (k := 2) (c223 30 rfl) (hX _ _ _ (Rl_throw hM) h)
theorem k_Lw_rewrite {E : JE2} {v1 : Int} {v2 : Int} {v3 : Int} {μ : Mem} {M : JM} {Q : Int → Mem → Prop} (hM : Rl E M μ) (h : d_Lw_rewrite v1 v2 v3 μ Q) : JX 222 0 (jargs 222 [jR 0, jI v1, jI v2, jI v3, jR 795]) [] M (PO E (QI Q) XN) := by
  unfold d_Lw_rewrite at h
  show JX 222 0 [jR 0, jI v1, jI v2, jI v3, jR 795, jU] [] M (PO E (QI Q) XN)
  generalize hP : PO E (QI Q) XN = P
  have hQ : ∀ (r : Int) (M1 : JM) (μ1 : Mem), Rl E M1 μ1 → Q r μ1 → P (.inl (some (.inl r))) M1 := by rw [← hP]; exact fun r M1 μ1 a b => ⟨μ1, a, r, rfl, b⟩
  clear hP
  refine L_ps c222 (n := 6) (pc1 := 7) (ls1 := [jR 0, jI v1, jI v2, jI v3, jR 795, jU]) (st1 := [jI v3, jI v2, jI v1, jR 0, jI 0, jR 795]) rfl ?_
  refine L_cIH (c222 7 rfl) (js_v rfl ((Rl_tag hM rt0 (by decide)).trans js223)) (k_OB_rewrite hM h) (fun r1 M μ2 hM h => ?_) (fun k M μx hM h => ?_)
  · refine L_ps c222 (n := 1) (pc1 := 11) (ls1 := [jR 0, jI v1, jI v2, jI v3, jR 795, jU]) (st1 := [jX (.long ((Int32.ofInt r1).toInt64)), jI 0, jR 795]) rfl ?_
    refine L_last (c222 11 rfl) hM rt795 ln795 (by decide) (fun M hM => ?_)
    refine L_ps c222 (n := 2) (pc1 := 28) (ls1 := [jR 0, jI v1, jI v2, jI v3, jR 795, jU]) (st1 := [jI 0]) rfl ?_
    exact L_retI (c222 28 rfl) (hQ _ _ _ hM h)
  · by_cases hk0 : k = 0
    · rw [if_pos hk0] at h
      subst hk0
      refine JH_of (h := 15) (i := 5) (pc1 := 17) (ls1 := [jR 0, jI v1, jI v2, jI v3, jR 795, jU]) rfl rfl (Nat.le_of_ble_eq_true rfl) rfl rfl ?_
      refine L_ps c222 (n := 1) (pc1 := 18) (ls1 := [jR 0, jI v1, jI v2, jI v3, jR 795, jU]) (st1 := [jI 1]) rfl ?_
      exact L_retI (c222 18 rfl) (hQ _ _ _ hM h)
    rw [if_neg hk0] at h
    by_cases hk1 : k = 1
    · rw [if_pos hk1] at h
      subst hk1
      refine JH_of (h := 19) (i := 5) (pc1 := 21) (ls1 := [jR 0, jI v1, jI v2, jI v3, jR 795, jU]) rfl rfl (Nat.le_of_ble_eq_true rfl) rfl rfl ?_
      refine L_ps c222 (n := 1) (pc1 := 22) (ls1 := [jR 0, jI v1, jI v2, jI v3, jR 795, jU]) (st1 := [jI 2]) rfl ?_
      exact L_retI (c222 22 rfl) (hQ _ _ _ hM h)
    rw [if_neg hk1] at h
    by_cases hk2 : k = 2
    · rw [if_pos hk2] at h
      subst hk2
      refine JH_of (h := 23) (i := 5) (pc1 := 25) (ls1 := [jR 0, jI v1, jI v2, jI v3, jR 795, jU]) rfl rfl (Nat.le_of_ble_eq_true rfl) rfl rfl ?_
      refine L_ps c222 (n := 1) (pc1 := 26) (ls1 := [jR 0, jI v1, jI v2, jI v3, jR 795, jU]) (st1 := [jI 3]) rfl ?_
      exact L_retI (c222 26 rfl) (hQ _ _ _ hM h)
    rw [if_neg hk2] at h
    exact h.elim
theorem k_OB_takeStep {E : JE2} {v1 : Nat} {v2 : Int} {μ : Mem} {M : JM} {Q : Int → Mem → Prop} {X : Nat → Mem → Prop} (hv1 : rt v1 = 8) (hM : Rl E M μ) (h : d_OB_takeStep v1 v2 μ Q X) : JX 229 0 (jargs 229 [jR 0, jR v1, jI v2]) [] M (PO E (QI Q) X) := by
  unfold d_OB_takeStep at h
  show JX 229 0 [jR 0, jR v1, jI v2, jU] [] M (PO E (QI Q) X)
  generalize hP : PO E (QI Q) X = P
  have hQ : ∀ (r : Int) (M1 : JM) (μ1 : Mem), Rl E M1 μ1 → Q r μ1 → P (.inl (some (.inl r))) M1 := by rw [← hP]; exact fun r M1 μ1 a b => ⟨μ1, a, r, rfl, b⟩
  have hX : ∀ (k : Nat) (M1 : JM) (μ1 : Mem), Rl E M1 μ1 → X k μ1 → P (.inr k) M1 := by rw [← hP]; exact fun k M1 μ1 a b => ⟨μ1, a, b⟩
  clear hP
  refine L_ps c229 (n := 1) (pc1 := 1) (ls1 := [jR 0, jR v1, jI v2, jU]) (st1 := [jR 0]) rfl ?_
  refine L_getP (d := 57) (c229 1 rfl) hM rt0 rfl ?_
  refine L_ps c229 (n := 1) (pc1 := 5) (ls1 := [jR 0, jR v1, jI v2, jU]) (st1 := [jR 0, jR 57]) rfl ?_
  refine L_getP (d := 5) (c229 5 rfl) hM rt0 rfl ?_
  refine L_ps c229 (n := 2) (pc1 := 10) (ls1 := [jR 0, jR v1, jI v2, jU]) (st1 := [jI v2, jR v1, jR 5, jR 57]) rfl ?_
  refine L_cI (c229 10 rfl) (js_v rfl ((Rl_tag hM rt57 (by decide)).trans js69)) hh229 (k_Rewriter_step rt57 rt5 hv1 hM h) (fun r1 M μ2 hM h => ?_) (fun _ _ _ _ f => f.elim)
  refine L_ps c229 (n := 3) (pc1 := 16) (ls1 := [jR 0, jR v1, jI v2, jI r1]) (st1 := [jI (-1), jI r1]) rfl ?_
  refine L_nb (p1 := 27) (p2 := 19) (c229 16 rfl) rfl jc_ne h (fun h => ?_) (fun h => ?_)
  · exact L_throw (k := 2) (c229 19 rfl) (hX _ _ _ (Rl_throw hM) h)
  · refine L_ps c229 (n := 1) (pc1 := 28) (ls1 := [jR 0, jR v1, jI v2, jI r1]) (st1 := [jR 0]) rfl ?_
    refine L_cV (c229 28 rfl) (js_v rfl ((Rl_tag hM rt0 (by decide)).trans js224)) hh229 (k_OB_remember hM h) (fun M μ4 hM h => ?_) (fun _ _ _ _ f => f.elim)
    refine L_ps c229 (n := 2) (pc1 := 33) (ls1 := [jR 0, jR v1, jI v2, jI r1]) (st1 := [jR 0, jR v1]) rfl ?_
    refine L_getP (d := 57) (c229 33 rfl) hM rt0 rfl ?_
    refine L_getP (d := 1) (c229 36 rfl) hM rt57 rfl ?_
    refine L_cV (c229 39 rfl) (js_v rfl ((Rl_tag hM hv1 (by decide)).trans js78)) hh229 (k_Term_copyFrom hv1 rt58 hM h) (fun M μ6 hM h => ?_) (fun _ _ _ _ f => f.elim)
    refine L_ps c229 (n := 1) (pc1 := 43) (ls1 := [jR 0, jR v1, jI v2, jI r1]) (st1 := [jI r1]) rfl ?_
    exact L_retI (c229 43 rfl) (hQ _ _ _ hM h)
theorem k_OB_stepInnermost {E : JE2} {v1 : Int} {μ : Mem} {M : JM} {Q : Int → Mem → Prop} {X : Nat → Mem → Prop} (hM : Rl E M μ) (h : d_OB_stepInnermost v1 μ Q X) : JX 228 0 (jargs 228 [jR 0, jI v1]) [] M (PO E (QI Q) X) := by
  unfold d_OB_stepInnermost at h
  show JX 228 0 [jR 0, jI v1] [] M (PO E (QI Q) X)
  generalize hP : PO E (QI Q) X = P
  have hQ : ∀ (r : Int) (M1 : JM) (μ1 : Mem), Rl E M1 μ1 → Q r μ1 → P (.inl (some (.inl r))) M1 := by rw [← hP]; exact fun r M1 μ1 a b => ⟨μ1, a, r, rfl, b⟩
  have hX : ∀ (k : Nat) (M1 : JM) (μ1 : Mem), Rl E M1 μ1 → X k μ1 → P (.inr k) M1 := by rw [← hP]; exact fun k M1 μ1 a b => ⟨μ1, a, b⟩
  clear hP
  refine L_ps c228 (n := 3) (pc1 := 3) (ls1 := [jR 0, jI v1]) (st1 := [jI v1, jR 0, jR 0]) rfl ?_
  refine L_cR (c228 3 rfl) (js_v rfl ((Rl_tag hM rt0 (by decide)).trans js114)) hh228 (k_OB_requireTerm hM h) (fun r1 M μ2 hM hr1 h => ?_) (fun k M μx hM hx => hX _ _ _ hM hx)
  refine L_ps c228 (n := 1) (pc1 := 7) (ls1 := [jR 0, jI v1]) (st1 := [jI 1, jR r1, jR 0]) rfl ?_
  refine L_cI (c228 7 rfl) (js_v rfl ((Rl_tag hM rt0 (by decide)).trans js229)) hh228 (k_OB_takeStep hr1 hM h) (fun r3 M μ4 hM h => ?_) (fun k M μx hM hx => hX _ _ _ hM hx)
  exact L_retI (c228 10 rfl) (hQ _ _ _ hM h)
theorem k_Lw_stepInnermost {E : JE2} {v1 : Int} {μ : Mem} {M : JM} {Q : Int → Mem → Prop} (hM : Rl E M μ) (h : d_Lw_stepInnermost v1 μ Q) : JX 227 0 (jargs 227 [jR 0, jI v1, jR 795]) [] M (PO E (QI Q) XN) := by
  unfold d_Lw_stepInnermost at h
  show JX 227 0 [jR 0, jI v1, jR 795, jU] [] M (PO E (QI Q) XN)
  generalize hP : PO E (QI Q) XN = P
  have hQ : ∀ (r : Int) (M1 : JM) (μ1 : Mem), Rl E M1 μ1 → Q r μ1 → P (.inl (some (.inl r))) M1 := by rw [← hP]; exact fun r M1 μ1 a b => ⟨μ1, a, r, rfl, b⟩
  clear hP
  refine L_ps c227 (n := 4) (pc1 := 4) (ls1 := [jR 0, jI v1, jR 795, jU]) (st1 := [jI v1, jR 0, jI 0, jR 795]) rfl ?_
  refine L_cIH (c227 4 rfl) (js_v rfl ((Rl_tag hM rt0 (by decide)).trans js228)) (k_OB_stepInnermost hM h) (fun r1 M μ2 hM h => ?_) (fun k M μx hM h => ?_)
  · refine L_ps c227 (n := 1) (pc1 := 8) (ls1 := [jR 0, jI v1, jR 795, jU]) (st1 := [jX (.long ((Int32.ofInt r1).toInt64)), jI 0, jR 795]) rfl ?_
    refine L_last (c227 8 rfl) hM rt795 ln795 (by decide) (fun M hM => ?_)
    refine L_ps c227 (n := 2) (pc1 := 22) (ls1 := [jR 0, jI v1, jR 795, jU]) (st1 := [jI 0]) rfl ?_
    exact L_retI (c227 22 rfl) (hQ _ _ _ hM h)
  · by_cases hk0 : k = 0
    · rw [if_pos hk0] at h
      subst hk0
      refine JH_of (h := 12) (i := 3) (pc1 := 13) (ls1 := [jR 0, jI v1, jR 795, jU]) rfl rfl (Nat.le_of_ble_eq_true rfl) rfl rfl ?_
      refine L_ps c227 (n := 1) (pc1 := 14) (ls1 := [jR 0, jI v1, jR 795, jU]) (st1 := [jI 1]) rfl ?_
      exact L_retI (c227 14 rfl) (hQ _ _ _ hM h)
    rw [if_neg hk0] at h
    by_cases hk1 : k = 1
    · rw [if_pos hk1] at h
      subst hk1
      refine JH_of (h := 15) (i := 3) (pc1 := 16) (ls1 := [jR 0, jI v1, jR 795, jU]) rfl rfl (Nat.le_of_ble_eq_true rfl) rfl rfl ?_
      refine L_ps c227 (n := 1) (pc1 := 17) (ls1 := [jR 0, jI v1, jR 795, jU]) (st1 := [jI 2]) rfl ?_
      exact L_retI (c227 17 rfl) (hQ _ _ _ hM h)
    rw [if_neg hk1] at h
    by_cases hk2 : k = 2
    · rw [if_pos hk2] at h
      subst hk2
      refine JH_of (h := 18) (i := 3) (pc1 := 19) (ls1 := [jR 0, jI v1, jR 795, jU]) rfl rfl (Nat.le_of_ble_eq_true rfl) rfl rfl ?_
      refine L_ps c227 (n := 1) (pc1 := 20) (ls1 := [jR 0, jI v1, jR 795, jU]) (st1 := [jI 3]) rfl ?_
      exact L_retI (c227 20 rfl) (hQ _ _ _ hM h)
    rw [if_neg hk2] at h
    exact h.elim
theorem k_OB_stepOutermost {E : JE2} {v1 : Int} {μ : Mem} {M : JM} {Q : Int → Mem → Prop} {X : Nat → Mem → Prop} (hM : Rl E M μ) (h : d_OB_stepOutermost v1 μ Q X) : JX 231 0 (jargs 231 [jR 0, jI v1]) [] M (PO E (QI Q) X) := by
  unfold d_OB_stepOutermost at h
  show JX 231 0 [jR 0, jI v1] [] M (PO E (QI Q) X)
  generalize hP : PO E (QI Q) X = P
  have hQ : ∀ (r : Int) (M1 : JM) (μ1 : Mem), Rl E M1 μ1 → Q r μ1 → P (.inl (some (.inl r))) M1 := by rw [← hP]; exact fun r M1 μ1 a b => ⟨μ1, a, r, rfl, b⟩
  have hX : ∀ (k : Nat) (M1 : JM) (μ1 : Mem), Rl E M1 μ1 → X k μ1 → P (.inr k) M1 := by rw [← hP]; exact fun k M1 μ1 a b => ⟨μ1, a, b⟩
  clear hP
  refine L_ps c231 (n := 3) (pc1 := 3) (ls1 := [jR 0, jI v1]) (st1 := [jI v1, jR 0, jR 0]) rfl ?_
  refine L_cR (c231 3 rfl) (js_v rfl ((Rl_tag hM rt0 (by decide)).trans js114)) hh231 (k_OB_requireTerm hM h) (fun r1 M μ2 hM hr1 h => ?_) (fun k M μx hM hx => hX _ _ _ hM hx)
  refine L_ps c231 (n := 1) (pc1 := 7) (ls1 := [jR 0, jI v1]) (st1 := [jI 0, jR r1, jR 0]) rfl ?_
  refine L_cI (c231 7 rfl) (js_v rfl ((Rl_tag hM rt0 (by decide)).trans js229)) hh231 (k_OB_takeStep hr1 hM h) (fun r3 M μ4 hM h => ?_) (fun k M μx hM hx => hX _ _ _ hM hx)
  exact L_retI (c231 10 rfl) (hQ _ _ _ hM h)
theorem k_Lw_stepOutermost {E : JE2} {v1 : Int} {μ : Mem} {M : JM} {Q : Int → Mem → Prop} (hM : Rl E M μ) (h : d_Lw_stepOutermost v1 μ Q) : JX 230 0 (jargs 230 [jR 0, jI v1, jR 795]) [] M (PO E (QI Q) XN) := by
  unfold d_Lw_stepOutermost at h
  show JX 230 0 [jR 0, jI v1, jR 795, jU] [] M (PO E (QI Q) XN)
  generalize hP : PO E (QI Q) XN = P
  have hQ : ∀ (r : Int) (M1 : JM) (μ1 : Mem), Rl E M1 μ1 → Q r μ1 → P (.inl (some (.inl r))) M1 := by rw [← hP]; exact fun r M1 μ1 a b => ⟨μ1, a, r, rfl, b⟩
  clear hP
  refine L_ps c230 (n := 4) (pc1 := 4) (ls1 := [jR 0, jI v1, jR 795, jU]) (st1 := [jI v1, jR 0, jI 0, jR 795]) rfl ?_
  refine L_cIH (c230 4 rfl) (js_v rfl ((Rl_tag hM rt0 (by decide)).trans js231)) (k_OB_stepOutermost hM h) (fun r1 M μ2 hM h => ?_) (fun k M μx hM h => ?_)
  · refine L_ps c230 (n := 1) (pc1 := 8) (ls1 := [jR 0, jI v1, jR 795, jU]) (st1 := [jX (.long ((Int32.ofInt r1).toInt64)), jI 0, jR 795]) rfl ?_
    refine L_last (c230 8 rfl) hM rt795 ln795 (by decide) (fun M hM => ?_)
    refine L_ps c230 (n := 2) (pc1 := 22) (ls1 := [jR 0, jI v1, jR 795, jU]) (st1 := [jI 0]) rfl ?_
    exact L_retI (c230 22 rfl) (hQ _ _ _ hM h)
  · by_cases hk0 : k = 0
    · rw [if_pos hk0] at h
      subst hk0
      refine JH_of (h := 12) (i := 3) (pc1 := 13) (ls1 := [jR 0, jI v1, jR 795, jU]) rfl rfl (Nat.le_of_ble_eq_true rfl) rfl rfl ?_
      refine L_ps c230 (n := 1) (pc1 := 14) (ls1 := [jR 0, jI v1, jR 795, jU]) (st1 := [jI 1]) rfl ?_
      exact L_retI (c230 14 rfl) (hQ _ _ _ hM h)
    rw [if_neg hk0] at h
    by_cases hk1 : k = 1
    · rw [if_pos hk1] at h
      subst hk1
      refine JH_of (h := 15) (i := 3) (pc1 := 16) (ls1 := [jR 0, jI v1, jR 795, jU]) rfl rfl (Nat.le_of_ble_eq_true rfl) rfl rfl ?_
      refine L_ps c230 (n := 1) (pc1 := 17) (ls1 := [jR 0, jI v1, jR 795, jU]) (st1 := [jI 2]) rfl ?_
      exact L_retI (c230 17 rfl) (hQ _ _ _ hM h)
    rw [if_neg hk1] at h
    by_cases hk2 : k = 2
    · rw [if_pos hk2] at h
      subst hk2
      refine JH_of (h := 18) (i := 3) (pc1 := 19) (ls1 := [jR 0, jI v1, jR 795, jU]) rfl rfl (Nat.le_of_ble_eq_true rfl) rfl rfl ?_
      refine L_ps c230 (n := 1) (pc1 := 20) (ls1 := [jR 0, jI v1, jR 795, jU]) (st1 := [jI 3]) rfl ?_
      exact L_retI (c230 20 rfl) (hQ _ _ _ hM h)
    rw [if_neg hk2] at h
    exact h.elim
theorem k_OB_normalize {E : JE2} {v1 : Int} {μ : Mem} {M : JM} {Q : Int → Mem → Prop} {X : Nat → Mem → Prop} (hM : Rl E M μ) (h : d_OB_normalize v1 μ Q X) : JX 233 0 (jargs 233 [jR 0, jI v1]) [] M (PO E (QI Q) X) := by
  unfold d_OB_normalize at h
  show JX 233 0 [jR 0, jI v1, jU, jU] [] M (PO E (QI Q) X)
  generalize hP : PO E (QI Q) X = P
  have hQ : ∀ (r : Int) (M1 : JM) (μ1 : Mem), Rl E M1 μ1 → Q r μ1 → P (.inl (some (.inl r))) M1 := by rw [← hP]; exact fun r M1 μ1 a b => ⟨μ1, a, r, rfl, b⟩
  have hX : ∀ (k : Nat) (M1 : JM) (μ1 : Mem), Rl E M1 μ1 → X k μ1 → P (.inr k) M1 := by rw [← hP]; exact fun k M1 μ1 a b => ⟨μ1, a, b⟩
  clear hP
  refine L_ps c233 (n := 2) (pc1 := 2) (ls1 := [jR 0, jI v1, jU, jU]) (st1 := [jI v1, jR 0]) rfl ?_
  refine L_cR (c233 2 rfl) (js_v rfl ((Rl_tag hM rt0 (by decide)).trans js114)) hh233 (k_OB_requireTerm hM h) (fun r1 M μ2 hM hr1 h => ?_) (fun k M μx hM hx => hX _ _ _ hM hx)
  refine L_ps c233 (n := 2) (pc1 := 7) (ls1 := [jR 0, jI v1, jR r1, jU]) (st1 := [jR 0]) rfl ?_
  refine L_getP (d := 57) (c233 7 rfl) hM rt0 rfl ?_
  refine L_ps c233 (n := 1) (pc1 := 11) (ls1 := [jR 0, jI v1, jR r1, jU]) (st1 := [jR 0, jR 57]) rfl ?_
  refine L_getP (d := 5) (c233 11 rfl) hM rt0 rfl ?_
  refine L_ps c233 (n := 3) (pc1 := 19) (ls1 := [jR 0, jI v1, jR r1, jU]) (st1 := [jI 200, jI 1, jR r1, jR 5, jR 57]) rfl ?_
  refine L_cI (c233 19 rfl) (js_v rfl ((Rl_tag hM rt57 (by decide)).trans js151)) hh233 (k_Rewriter_reduce rt57 rt5 hr1 hM h) (fun r3 M μ4 hM h => ?_) (fun _ _ _ _ f => f.elim)
  refine L_ps c233 (n := 3) (pc1 := 25) (ls1 := [jR 0, jI v1, jR r1, jI r3]) (st1 := [jI (-1), jI r3]) rfl ?_
  refine L_nb (p1 := 36) (p2 := 28) (c233 25 rfl) rfl jc_ne h (fun h => ?_) (fun h => ?_)
  · exact L_throw (k := 2) (c233 28 rfl) (hX _ _ _ (Rl_throw hM) h)
  · refine L_ps c233 (n := 1) (pc1 := 37) (ls1 := [jR 0, jI v1, jR r1, jI r3]) (st1 := [jR 0]) rfl ?_
    refine L_cV (c233 37 rfl) (js_v rfl ((Rl_tag hM rt0 (by decide)).trans js224)) hh233 (k_OB_remember hM h) (fun M μ6 hM h => ?_) (fun _ _ _ _ f => f.elim)
    refine L_ps c233 (n := 2) (pc1 := 42) (ls1 := [jR 0, jI v1, jR r1, jI r3]) (st1 := [jR 0, jR r1]) rfl ?_
    refine L_getP (d := 57) (c233 42 rfl) hM rt0 rfl ?_
    refine L_getP (d := 3) (c233 45 rfl) hM rt57 rfl ?_
    refine L_cV (c233 48 rfl) (js_v rfl ((Rl_tag hM hr1 (by decide)).trans js78)) hh233 (k_Term_copyFrom hr1 rt60 hM h) (fun M μ8 hM h => ?_) (fun _ _ _ _ f => f.elim)
    refine L_ps c233 (n := 1) (pc1 := 52) (ls1 := [jR 0, jI v1, jR r1, jI r3]) (st1 := [jI r3]) rfl ?_
    exact L_retI (c233 52 rfl) (hQ _ _ _ hM h)
theorem k_Lw_normalize {E : JE2} {v1 : Int} {μ : Mem} {M : JM} {Q : Int → Mem → Prop} (hM : Rl E M μ) (h : d_Lw_normalize v1 μ Q) : JX 232 0 (jargs 232 [jR 0, jI v1, jR 795]) [] M (PO E (QI Q) XN) := by
  unfold d_Lw_normalize at h
  show JX 232 0 [jR 0, jI v1, jR 795, jU] [] M (PO E (QI Q) XN)
  generalize hP : PO E (QI Q) XN = P
  have hQ : ∀ (r : Int) (M1 : JM) (μ1 : Mem), Rl E M1 μ1 → Q r μ1 → P (.inl (some (.inl r))) M1 := by rw [← hP]; exact fun r M1 μ1 a b => ⟨μ1, a, r, rfl, b⟩
  clear hP
  refine L_ps c232 (n := 4) (pc1 := 4) (ls1 := [jR 0, jI v1, jR 795, jU]) (st1 := [jI v1, jR 0, jI 0, jR 795]) rfl ?_
  refine L_cIH (c232 4 rfl) (js_v rfl ((Rl_tag hM rt0 (by decide)).trans js233)) (k_OB_normalize hM h) (fun r1 M μ2 hM h => ?_) (fun k M μx hM h => ?_)
  · refine L_ps c232 (n := 1) (pc1 := 8) (ls1 := [jR 0, jI v1, jR 795, jU]) (st1 := [jX (.long ((Int32.ofInt r1).toInt64)), jI 0, jR 795]) rfl ?_
    refine L_last (c232 8 rfl) hM rt795 ln795 (by decide) (fun M hM => ?_)
    refine L_ps c232 (n := 2) (pc1 := 22) (ls1 := [jR 0, jI v1, jR 795, jU]) (st1 := [jI 0]) rfl ?_
    exact L_retI (c232 22 rfl) (hQ _ _ _ hM h)
  · by_cases hk0 : k = 0
    · rw [if_pos hk0] at h
      subst hk0
      refine JH_of (h := 12) (i := 3) (pc1 := 13) (ls1 := [jR 0, jI v1, jR 795, jU]) rfl rfl (Nat.le_of_ble_eq_true rfl) rfl rfl ?_
      refine L_ps c232 (n := 1) (pc1 := 14) (ls1 := [jR 0, jI v1, jR 795, jU]) (st1 := [jI 1]) rfl ?_
      exact L_retI (c232 14 rfl) (hQ _ _ _ hM h)
    rw [if_neg hk0] at h
    by_cases hk1 : k = 1
    · rw [if_pos hk1] at h
      subst hk1
      refine JH_of (h := 15) (i := 3) (pc1 := 16) (ls1 := [jR 0, jI v1, jR 795, jU]) rfl rfl (Nat.le_of_ble_eq_true rfl) rfl rfl ?_
      refine L_ps c232 (n := 1) (pc1 := 17) (ls1 := [jR 0, jI v1, jR 795, jU]) (st1 := [jI 2]) rfl ?_
      exact L_retI (c232 17 rfl) (hQ _ _ _ hM h)
    rw [if_neg hk1] at h
    by_cases hk2 : k = 2
    · rw [if_pos hk2] at h
      subst hk2
      refine JH_of (h := 18) (i := 3) (pc1 := 19) (ls1 := [jR 0, jI v1, jR 795, jU]) rfl rfl (Nat.le_of_ble_eq_true rfl) rfl rfl ?_
      refine L_ps c232 (n := 1) (pc1 := 20) (ls1 := [jR 0, jI v1, jR 795, jU]) (st1 := [jI 3]) rfl ?_
      exact L_retI (c232 20 rfl) (hQ _ _ _ hM h)
    rw [if_neg hk2] at h
    exact h.elim
theorem k_OB_copySubterm {E : JE2} {v1 : Int} {v2 : Int} {μ : Mem} {M : JM} {Q : Int → Mem → Prop} {X : Nat → Mem → Prop} (hM : Rl E M μ) (h : d_OB_copySubterm v1 v2 μ Q X) : JX 235 0 (jargs 235 [jR 0, jI v1, jI v2]) [] M (PO E (QI Q) X) := by
  unfold d_OB_copySubterm at h
  show JX 235 0 [jR 0, jI v1, jI v2, jU] [] M (PO E (QI Q) X)
  generalize hP : PO E (QI Q) X = P
  have hQ : ∀ (r : Int) (M1 : JM) (μ1 : Mem), Rl E M1 μ1 → Q r μ1 → P (.inl (some (.inl r))) M1 := by rw [← hP]; exact fun r M1 μ1 a b => ⟨μ1, a, r, rfl, b⟩
  have hX : ∀ (k : Nat) (M1 : JM) (μ1 : Mem), Rl E M1 μ1 → X k μ1 → P (.inr k) M1 := by rw [← hP]; exact fun k M1 μ1 a b => ⟨μ1, a, b⟩
  clear hP
  refine L_ps c235 (n := 3) (pc1 := 3) (ls1 := [jR 0, jI v1, jI v2, jU]) (st1 := [jI v2, jI v1, jR 0]) rfl ?_
  refine L_cR (c235 3 rfl) (js_v rfl ((Rl_tag hM rt0 (by decide)).trans js120)) hh235 (k_OB_requireNode hM h) (fun r1 M μ2 hM hr1 h => ?_) (fun k M μx hM hx => hX _ _ _ hM hx)
  refine L_ps c235 (n := 2) (pc1 := 8) (ls1 := [jR 0, jI v1, jI v2, jR r1]) (st1 := [jR 0]) rfl ?_
  refine L_getP (d := 5) (c235 8 rfl) hM rt0 rfl ?_
  refine L_getI (c235 11 rfl) hM rt5 rfl ?_
  refine L_ps c235 (n := 1) (pc1 := 16) (ls1 := [jR 0, jI v1, jI v2, jR r1]) (st1 := [jI 6, jI (μ2 5 1)]) rfl ?_
  refine L_br (p1 := 27) (p2 := 19) (c235 16 rfl) rfl jc_lt h (fun h => ?_) (fun h => ?_)
  · refine L_ps c235 (n := 1) (pc1 := 28) (ls1 := [jR 0, jI v1, jI v2, jR r1]) (st1 := [jR 0]) rfl ?_
    refine L_cV (c235 28 rfl) (js_v rfl ((Rl_tag hM rt0 (by decide)).trans js224)) hh235 (k_OB_remember hM h) (fun M μ4 hM h => ?_) (fun _ _ _ _ f => f.elim)
    refine L_ps c235 (n := 1) (pc1 := 32) (ls1 := [jR 0, jI v1, jI v2, jR r1]) (st1 := [jR 0]) rfl ?_
    refine L_getP (d := 5) (c235 32 rfl) hM rt0 rfl ?_
    refine L_ps c235 (n := 4) (pc1 := 39) (ls1 := [jR 0, jI v1, jI v2, jR r1]) (st1 := [jI v2, jR r1, jI v2, jR r1, jR 5]) rfl ?_
    refine L_cpI (c235 39 rfl) (js_v rfl ((Rl_tag hM hr1 (by decide)).trans js75)) hh235 (k_Term_end hr1 hM h) (fun r5 M hM h => ?_) (fun _ _ _ _ f => f.elim)
    refine L_cV (c235 42 rfl) (js_v rfl ((Rl_tag hM rt5 (by decide)).trans js63)) hh235 (k_State_addTerm rt5 hr1 hM h) (fun M μ8 hM h => ?_) (fun _ _ _ _ f => f.elim)
    refine L_ps c235 (n := 1) (pc1 := 46) (ls1 := [jR 0, jI v1, jI v2, jR r1]) (st1 := [jR 0]) rfl ?_
    refine L_getP (d := 5) (c235 46 rfl) hM rt0 rfl ?_
    refine L_getI (c235 49 rfl) hM rt5 rfl ?_
    refine L_ps c235 (n := 2) (pc1 := 54) (ls1 := [jR 0, jI v1, jI v2, jR r1]) (st1 := [jI (wr ((μ8 5 1) - 1))]) rfl ?_
    exact L_retI (c235 54 rfl) (hQ _ _ _ hM h)
  · exact L_throw (k := 2) (c235 19 rfl) (hX _ _ _ (Rl_throw hM) h)
theorem k_Lw_copySubterm {E : JE2} {v1 : Int} {v2 : Int} {μ : Mem} {M : JM} {Q : Int → Mem → Prop} (hM : Rl E M μ) (h : d_Lw_copySubterm v1 v2 μ Q) : JX 234 0 (jargs 234 [jR 0, jI v1, jI v2, jR 795]) [] M (PO E (QI Q) XN) := by
  unfold d_Lw_copySubterm at h
  show JX 234 0 [jR 0, jI v1, jI v2, jR 795, jU] [] M (PO E (QI Q) XN)
  generalize hP : PO E (QI Q) XN = P
  have hQ : ∀ (r : Int) (M1 : JM) (μ1 : Mem), Rl E M1 μ1 → Q r μ1 → P (.inl (some (.inl r))) M1 := by rw [← hP]; exact fun r M1 μ1 a b => ⟨μ1, a, r, rfl, b⟩
  clear hP
  refine L_ps c234 (n := 5) (pc1 := 5) (ls1 := [jR 0, jI v1, jI v2, jR 795, jU]) (st1 := [jI v2, jI v1, jR 0, jI 0, jR 795]) rfl ?_
  refine L_cIH (c234 5 rfl) (js_v rfl ((Rl_tag hM rt0 (by decide)).trans js235)) (k_OB_copySubterm hM h) (fun r1 M μ2 hM h => ?_) (fun k M μx hM h => ?_)
  · refine L_ps c234 (n := 1) (pc1 := 9) (ls1 := [jR 0, jI v1, jI v2, jR 795, jU]) (st1 := [jX (.long ((Int32.ofInt r1).toInt64)), jI 0, jR 795]) rfl ?_
    refine L_last (c234 9 rfl) hM rt795 ln795 (by decide) (fun M hM => ?_)
    refine L_ps c234 (n := 2) (pc1 := 26) (ls1 := [jR 0, jI v1, jI v2, jR 795, jU]) (st1 := [jI 0]) rfl ?_
    exact L_retI (c234 26 rfl) (hQ _ _ _ hM h)
  · by_cases hk0 : k = 0
    · rw [if_pos hk0] at h
      subst hk0
      refine JH_of (h := 13) (i := 4) (pc1 := 15) (ls1 := [jR 0, jI v1, jI v2, jR 795, jU]) rfl rfl (Nat.le_of_ble_eq_true rfl) rfl rfl ?_
      refine L_ps c234 (n := 1) (pc1 := 16) (ls1 := [jR 0, jI v1, jI v2, jR 795, jU]) (st1 := [jI 1]) rfl ?_
      exact L_retI (c234 16 rfl) (hQ _ _ _ hM h)
    rw [if_neg hk0] at h
    by_cases hk1 : k = 1
    · rw [if_pos hk1] at h
      subst hk1
      refine JH_of (h := 17) (i := 4) (pc1 := 19) (ls1 := [jR 0, jI v1, jI v2, jR 795, jU]) rfl rfl (Nat.le_of_ble_eq_true rfl) rfl rfl ?_
      refine L_ps c234 (n := 1) (pc1 := 20) (ls1 := [jR 0, jI v1, jI v2, jR 795, jU]) (st1 := [jI 2]) rfl ?_
      exact L_retI (c234 20 rfl) (hQ _ _ _ hM h)
    rw [if_neg hk1] at h
    by_cases hk2 : k = 2
    · rw [if_pos hk2] at h
      subst hk2
      refine JH_of (h := 21) (i := 4) (pc1 := 23) (ls1 := [jR 0, jI v1, jI v2, jR 795, jU]) rfl rfl (Nat.le_of_ble_eq_true rfl) rfl rfl ?_
      refine L_ps c234 (n := 1) (pc1 := 24) (ls1 := [jR 0, jI v1, jI v2, jR 795, jU]) (st1 := [jI 3]) rfl ?_
      exact L_retI (c234 24 rfl) (hQ _ _ _ hM h)
    rw [if_neg hk2] at h
    exact h.elim
theorem k_OB_replaceSubterm_j82 {E : JE2} {v4 : Nat} {t0 : Int} {μ : Mem} {M : JM} {P : JO → JM → Prop} {g1 : JV} {g2 : JV} {g3 : JV} {g5 : JV} {g6 : JV} {Q : Int → Mem → Prop} {X : Nat → Mem → Prop} (hg3 : jc2 g3 = false) (hg5 : jc2 g5 = false) (hv4 : rt v4 = 8) (hM : Rl E M μ) (hQ : ∀ (r : Int) (M1 : JM) (μ1 : Mem), Rl E M1 μ1 → Q r μ1 → P (.inl (some (.inl r))) M1) (hX : ∀ (k : Nat) (M1 : JM) (μ1 : Mem), Rl E M1 μ1 → X k μ1 → P (.inr k) M1) (h : d_OB_replaceSubterm_j82 v4 t0 μ Q X) : JX 237 82 [jR 0, g1, g2, g3, jR v4, g5, g6] [jI t0] M P := by
  unfold d_OB_replaceSubterm_j82 at h
  refine L_ist (c237 82 rfl) (hg5) (Nat.le_of_ble_eq_true rfl) ?_
  show JX 237 84 [jR 0, g1, g2, g3, jR v4, g5, jI t0] [] M P
  refine L_ps c237 (n := 1) (pc1 := 86) (ls1 := [jR 0, g1, g2, g3, jR v4, g5, jI t0]) (st1 := [jI t0]) rfl ?_
  refine L_nb (p1 := 97) (p2 := 89) (c237 86 rfl) rfl jc_ne h (fun h => ?_) (fun h => ?_)
  · exact L_throw (k := 2) (c237 89 rfl) (hX _ _ _ (Rl_throw hM) h)
  · refine L_ps c237 (n := 1) (pc1 := 98) (ls1 := [jR 0, g1, g2, g3, jR v4, g5, jI t0]) (st1 := [jR 0]) rfl ?_
    refine L_cV (c237 98 rfl) (js_v rfl ((Rl_tag hM rt0 (by decide)).trans js224)) hh237 (k_OB_remember hM h) (fun M μ16 hM h => ?_) (fun _ _ _ _ f => f.elim)
    refine L_ps c237 (n := 2) (pc1 := 104) (ls1 := [jR 0, g1, g2, g3, jR v4, g5, jI t0]) (st1 := [jR 0, jR v4]) rfl ?_
    refine L_getP (d := 769) (c237 104 rfl) hM rt0 rfl ?_
    refine L_cV (c237 107 rfl) (js_v rfl ((Rl_tag hM hv4 (by decide)).trans js78)) hh237 (k_Term_copyFrom hv4 rt769 hM h) (fun M μ18 hM h => ?_) (fun _ _ _ _ f => f.elim)
    refine L_ps c237 (n := 1) (pc1 := 112) (ls1 := [jR 0, g1, g2, g3, jR v4, g5, jI t0]) (st1 := [jR v4]) rfl ?_
    refine L_getI (c237 112 rfl) hM hv4 rfl ?_
    exact L_retI (c237 115 rfl) (hQ _ _ _ hM h)
theorem k_OB_replaceSubterm_j81 {E : JE2} {v4 : Nat} {μ : Mem} {M : JM} {P : JO → JM → Prop} {g1 : JV} {g2 : JV} {g3 : JV} {g5 : JV} {g6 : JV} {Q : Int → Mem → Prop} {X : Nat → Mem → Prop} (hg3 : jc2 g3 = false) (hg5 : jc2 g5 = false) (hv4 : rt v4 = 8) (hM : Rl E M μ) (hQ : ∀ (r : Int) (M1 : JM) (μ1 : Mem), Rl E M1 μ1 → Q r μ1 → P (.inl (some (.inl r))) M1) (hX : ∀ (k : Nat) (M1 : JM) (μ1 : Mem), Rl E M1 μ1 → X k μ1 → P (.inr k) M1) (h : d_OB_replaceSubterm_j81 v4 μ Q X) : JX 237 81 [jR 0, g1, g2, g3, jR v4, g5, g6] [] M P := by
  unfold d_OB_replaceSubterm_j81 at h
  refine L_ps c237 (n := 1) (pc1 := 82) (ls1 := [jR 0, g1, g2, g3, jR v4, g5, g6]) (st1 := [jI 0]) rfl ?_
  exact k_OB_replaceSubterm_j82 hg3 hg5 hv4 hM hQ hX h
theorem k_OB_replaceSubterm {E : JE2} {v1 : Int} {v2 : Int} {v3 : Int} {μ : Mem} {M : JM} {Q : Int → Mem → Prop} {X : Nat → Mem → Prop} (hM : Rl E M μ) (h : d_OB_replaceSubterm v1 v2 v3 μ Q X) : JX 237 0 (jargs 237 [jR 0, jI v1, jI v2, jI v3]) [] M (PO E (QI Q) X) := by
  unfold d_OB_replaceSubterm at h
  show JX 237 0 [jR 0, jI v1, jI v2, jI v3, jU, jU, jU] [] M (PO E (QI Q) X)
  generalize hP : PO E (QI Q) X = P
  have hQ : ∀ (r : Int) (M1 : JM) (μ1 : Mem), Rl E M1 μ1 → Q r μ1 → P (.inl (some (.inl r))) M1 := by rw [← hP]; exact fun r M1 μ1 a b => ⟨μ1, a, r, rfl, b⟩
  have hX : ∀ (k : Nat) (M1 : JM) (μ1 : Mem), Rl E M1 μ1 → X k μ1 → P (.inr k) M1 := by rw [← hP]; exact fun k M1 μ1 a b => ⟨μ1, a, b⟩
  clear hP
  refine L_ps c237 (n := 3) (pc1 := 3) (ls1 := [jR 0, jI v1, jI v2, jI v3, jU, jU, jU]) (st1 := [jI v2, jI v1, jR 0]) rfl ?_
  refine L_cR (c237 3 rfl) (js_v rfl ((Rl_tag hM rt0 (by decide)).trans js120)) hh237 (k_OB_requireNode hM h) (fun r1 M μ2 hM hr1 h => ?_) (fun k M μx hM hx => hX _ _ _ hM hx)
  refine L_ps c237 (n := 3) (pc1 := 10) (ls1 := [jR 0, jI v1, jI v2, jI v3, jR r1, jU, jU]) (st1 := [jI v3, jR 0]) rfl ?_
  refine L_cR (c237 10 rfl) (js_v rfl ((Rl_tag hM rt0 (by decide)).trans js114)) hh237 (k_OB_requireTerm hM h) (fun r3 M μ4 hM hr3 h => ?_) (fun k M μx hM hx => hX _ _ _ hM hx)
  refine L_ps c237 (n := 2) (pc1 := 16) (ls1 := [jR 0, jI v1, jI v2, jI v3, jR r1, jR r3, jU]) (st1 := [jR 0]) rfl ?_
  refine L_getP (d := 769) (c237 16 rfl) hM rt0 rfl ?_
  refine L_cV (c237 19 rfl) (js_v rfl ((Rl_tag hM rt769 (by decide)).trans js48)) hh237 (k_Term_clear rt769 hM h) (fun M μ6 hM h => ?_) (fun _ _ _ _ f => f.elim)
  refine L_ps c237 (n := 1) (pc1 := 23) (ls1 := [jR 0, jI v1, jI v2, jI v3, jR r1, jR r3, jU]) (st1 := [jR 0]) rfl ?_
  refine L_getP (d := 769) (c237 23 rfl) hM rt0 rfl ?_
  refine L_ps c237 (n := 3) (pc1 := 30) (ls1 := [jR 0, jI v1, jI v2, jI v3, jR r1, jR r3, jU]) (st1 := [jI v2, jI 0, jR r1, jR 769]) rfl ?_
  refine L_cB (c237 30 rfl) (js_v rfl ((Rl_tag hM rt769 (by decide)).trans js64)) hh237 (k_Term_addPart rt769 hr1 hM h) (fun r7 M μ8 hM h => ?_) (fun _ _ _ _ f => f.elim)
  refine L_nb (p1 := 81) (p2 := 36) (c237 33 rfl) rfl jc_eqb h (fun h => ?_) (fun h => ?_)
  · refine L_ps c237 (n := 1) (pc1 := 37) (ls1 := [jR 0, jI v1, jI v2, jI v3, jR r1, jR r3, jU]) (st1 := [jR 0]) rfl ?_
    refine L_getP (d := 769) (c237 37 rfl) hM rt0 rfl ?_
    refine L_ps c237 (n := 3) (pc1 := 45) (ls1 := [jR 0, jI v1, jI v2, jI v3, jR r1, jR r3, jU]) (st1 := [jR r3, jI 0, jR r3, jR 769]) rfl ?_
    refine L_getI (c237 45 rfl) hM hr3 rfl ?_
    refine L_cB (c237 48 rfl) (js_v rfl ((Rl_tag hM rt769 (by decide)).trans js64)) hh237 (k_Term_addPart rt769 hr3 hM h) (fun r9 M μ10 hM h => ?_) (fun _ _ _ _ f => f.elim)
    refine L_nb (p1 := 81) (p2 := 54) (c237 51 rfl) rfl jc_eqb h (fun h => ?_) (fun h => ?_)
    · refine L_ps c237 (n := 1) (pc1 := 55) (ls1 := [jR 0, jI v1, jI v2, jI v3, jR r1, jR r3, jU]) (st1 := [jR 0]) rfl ?_
      refine L_getP (d := 769) (c237 55 rfl) hM rt0 rfl ?_
      refine L_ps c237 (n := 3) (pc1 := 63) (ls1 := [jR 0, jI v1, jI v2, jI v3, jR r1, jR r3, jU]) (st1 := [jI v2, jR r1, jR r1, jR 769]) rfl ?_
      refine L_cpI (c237 63 rfl) (js_v rfl ((Rl_tag hM hr1 (by decide)).trans js75)) hh237 (k_Term_end hr1 hM h) (fun r11 M hM h => ?_) (fun _ _ _ _ f => f.elim)
      refine L_ps c237 (n := 1) (pc1 := 68) (ls1 := [jR 0, jI v1, jI v2, jI v3, jR r1, jR r3, jU]) (st1 := [jR r1, jI r11, jR r1, jR 769]) rfl ?_
      refine L_getI (c237 68 rfl) hM hr1 rfl ?_
      refine L_cB (c237 71 rfl) (js_v rfl ((Rl_tag hM rt769 (by decide)).trans js64)) hh237 (k_Term_addPart rt769 hr1 hM h) (fun r13 M μ14 hM h => ?_) (fun _ _ _ _ f => f.elim)
      refine L_nb (p1 := 81) (p2 := 77) (c237 74 rfl) rfl jc_eqb h (fun h => ?_) (fun h => ?_)
      · refine L_ps c237 (n := 2) (pc1 := 82) (ls1 := [jR 0, jI v1, jI v2, jI v3, jR r1, jR r3, jU]) (st1 := [jI 1]) rfl ?_
        exact k_OB_replaceSubterm_j82 rfl rfl hr1 hM hQ hX h
      · exact k_OB_replaceSubterm_j81 rfl rfl hr1 hM hQ hX h
    · exact k_OB_replaceSubterm_j81 rfl rfl hr1 hM hQ hX h
  · exact k_OB_replaceSubterm_j81 rfl rfl hr1 hM hQ hX h
theorem k_Lw_replaceSubterm {E : JE2} {v1 : Int} {v2 : Int} {v3 : Int} {μ : Mem} {M : JM} {Q : Int → Mem → Prop} (hM : Rl E M μ) (h : d_Lw_replaceSubterm v1 v2 v3 μ Q) : JX 236 0 (jargs 236 [jR 0, jI v1, jI v2, jI v3, jR 795]) [] M (PO E (QI Q) XN) := by
  unfold d_Lw_replaceSubterm at h
  show JX 236 0 [jR 0, jI v1, jI v2, jI v3, jR 795, jU] [] M (PO E (QI Q) XN)
  generalize hP : PO E (QI Q) XN = P
  have hQ : ∀ (r : Int) (M1 : JM) (μ1 : Mem), Rl E M1 μ1 → Q r μ1 → P (.inl (some (.inl r))) M1 := by rw [← hP]; exact fun r M1 μ1 a b => ⟨μ1, a, r, rfl, b⟩
  clear hP
  refine L_ps c236 (n := 6) (pc1 := 7) (ls1 := [jR 0, jI v1, jI v2, jI v3, jR 795, jU]) (st1 := [jI v3, jI v2, jI v1, jR 0, jI 0, jR 795]) rfl ?_
  refine L_cIH (c236 7 rfl) (js_v rfl ((Rl_tag hM rt0 (by decide)).trans js237)) (k_OB_replaceSubterm hM h) (fun r1 M μ2 hM h => ?_) (fun k M μx hM h => ?_)
  · refine L_ps c236 (n := 1) (pc1 := 11) (ls1 := [jR 0, jI v1, jI v2, jI v3, jR 795, jU]) (st1 := [jX (.long ((Int32.ofInt r1).toInt64)), jI 0, jR 795]) rfl ?_
    refine L_last (c236 11 rfl) hM rt795 ln795 (by decide) (fun M hM => ?_)
    refine L_ps c236 (n := 2) (pc1 := 28) (ls1 := [jR 0, jI v1, jI v2, jI v3, jR 795, jU]) (st1 := [jI 0]) rfl ?_
    exact L_retI (c236 28 rfl) (hQ _ _ _ hM h)
  · by_cases hk0 : k = 0
    · rw [if_pos hk0] at h
      subst hk0
      refine JH_of (h := 15) (i := 5) (pc1 := 17) (ls1 := [jR 0, jI v1, jI v2, jI v3, jR 795, jU]) rfl rfl (Nat.le_of_ble_eq_true rfl) rfl rfl ?_
      refine L_ps c236 (n := 1) (pc1 := 18) (ls1 := [jR 0, jI v1, jI v2, jI v3, jR 795, jU]) (st1 := [jI 1]) rfl ?_
      exact L_retI (c236 18 rfl) (hQ _ _ _ hM h)
    rw [if_neg hk0] at h
    by_cases hk1 : k = 1
    · rw [if_pos hk1] at h
      subst hk1
      refine JH_of (h := 19) (i := 5) (pc1 := 21) (ls1 := [jR 0, jI v1, jI v2, jI v3, jR 795, jU]) rfl rfl (Nat.le_of_ble_eq_true rfl) rfl rfl ?_
      refine L_ps c236 (n := 1) (pc1 := 22) (ls1 := [jR 0, jI v1, jI v2, jI v3, jR 795, jU]) (st1 := [jI 2]) rfl ?_
      exact L_retI (c236 22 rfl) (hQ _ _ _ hM h)
    rw [if_neg hk1] at h
    by_cases hk2 : k = 2
    · rw [if_pos hk2] at h
      subst hk2
      refine JH_of (h := 23) (i := 5) (pc1 := 25) (ls1 := [jR 0, jI v1, jI v2, jI v3, jR 795, jU]) rfl rfl (Nat.le_of_ble_eq_true rfl) rfl rfl ?_
      refine L_ps c236 (n := 1) (pc1 := 26) (ls1 := [jR 0, jI v1, jI v2, jI v3, jR 795, jU]) (st1 := [jI 3]) rfl ?_
      exact L_retI (c236 26 rfl) (hQ _ _ _ hM h)
    rw [if_neg hk2] at h
    exact h.elim
theorem k_Rule_exchange {E : JE2} {v0 : Nat} {v1 : Nat} {μ : Mem} {M : JM} {Q : Mem → Prop} (hv0 : rt v0 = 5) (hv1 : rt v1 = 5) (hM : Rl E M μ) (h : d_Rule_exchange v0 v1 μ Q) : JX 240 0 (jargs 240 [jR v0, jR v1]) [] M (PO E (QV Q) XN) := by
  unfold d_Rule_exchange at h
  show JX 240 0 [jR v0, jR v1, jU, jU] [] M (PO E (QV Q) XN)
  generalize hP : PO E (QV Q) XN = P
  have hQ : ∀ (M1 : JM) (μ1 : Mem), Rl E M1 μ1 → Q μ1 → P (.inl none) M1 := by rw [← hP]; exact fun M1 μ1 a b => ⟨μ1, a, rfl, b⟩
  clear hP
  refine L_ps c240 (n := 1) (pc1 := 1) (ls1 := [jR v0, jR v1, jU, jU]) (st1 := [jR v0]) rfl ?_
  refine L_getD (c240 1 rfl) hM hv0 (by decide) ?_
  refine L_ps c240 (n := 2) (pc1 := 6) (ls1 := [jR v0, jR v1, jR (dp (μ v0 0)), jU]) (st1 := [jR v0]) rfl ?_
  refine L_getD (c240 6 rfl) hM hv0 (by decide) ?_
  refine L_ps c240 (n := 3) (pc1 := 12) (ls1 := [jR v0, jR v1, jR (dp (μ v0 0)), jR (dp (μ v0 1))]) (st1 := [jR v1, jR v0]) rfl ?_
  refine L_getD (c240 12 rfl) hM hv1 (by decide) ?_
  refine L_putD (c240 15 rfl) hM hv0 (dp_rt _) (by decide) (fun M hM => ?_)
  refine L_ps c240 (n := 2) (pc1 := 20) (ls1 := [jR v0, jR v1, jR (dp (μ v0 0)), jR (dp (μ v0 1))]) (st1 := [jR v1, jR v0]) rfl ?_
  refine L_getD (c240 20 rfl) hM hv1 (by decide) ?_
  refine L_putD (c240 23 rfl) hM hv0 (dp_rt _) (by decide) (fun M hM => ?_)
  refine L_ps c240 (n := 2) (pc1 := 28) (ls1 := [jR v0, jR v1, jR (dp (μ v0 0)), jR (dp (μ v0 1))]) (st1 := [jR (dp (μ v0 0)), jR v1]) rfl ?_
  refine L_putD (c240 28 rfl) hM hv1 (dp_rt _) (by decide) (fun M hM => ?_)
  refine L_ps c240 (n := 2) (pc1 := 33) (ls1 := [jR v0, jR v1, jR (dp (μ v0 0)), jR (dp (μ v0 1))]) (st1 := [jR (dp (μ v0 1)), jR v1]) rfl ?_
  refine L_putD (c240 33 rfl) hM hv1 (dp_rt _) (by decide) (fun M hM => ?_)
  exact L_end (c240 36 rfl) rfl (hQ _ _ hM h)
theorem k_OB_swapRules_b29 {E : JE2} {v5 : Int} {v6 : Int} {μ : Mem} {M : JM} {P : JO → JM → Prop} {g1 : JV} {g2 : JV} {g3 : JV} {g4 : JV} {W29 : Int → Int → Mem → Prop} {Q : Int → Mem → Prop} {X : Nat → Mem → Prop} (hg2 : jc2 g2 = false) (hg3 : jc2 g3 = false) (hg4 : jc2 g4 = false) (hM : Rl E M μ) (hQ : ∀ (r : Int) (M1 : JM) (μ1 : Mem), Rl E M1 μ1 → Q r μ1 → P (.inl (some (.inl r))) M1) (hX : ∀ (k : Nat) (M1 : JM) (μ1 : Mem), Rl E M1 μ1 → X k μ1 → P (.inr k) M1) (hW29 : ∀ (v5 : Int) (v6 : Int) (g1 : JV) (g2 : JV) (g3 : JV) (g4 : JV) (M1 : JM) (μ1 : Mem), jc2 g2 = false → jc2 g3 = false → jc2 g4 = false → Rl E M1 μ1 → W29 v5 v6 μ1 → JX 239 29 [jR 0, g1, g2, g3, g4, jI v5, jI v6] [] M1 P) (h : d_OB_swapRules_b29 v5 v6 μ W29 Q X) : JX 239 29 [jR 0, g1, g2, g3, g4, jI v5, jI v6] [] M P := by
  unfold d_OB_swapRules_b29 at h
  refine L_ps c239 (n := 2) (pc1 := 32) (ls1 := [jR 0, g1, g2, g3, g4, jI v5, jI v6]) (st1 := [jR 0, jI v6]) rfl ?_
  refine L_getP (d := 5) (c239 32 rfl) hM rt0 rfl ?_
  refine L_getI (c239 35 rfl) hM rt5 rfl ?_
  refine L_nb (p1 := 72) (p2 := 41) (c239 38 rfl) rfl jc_ge h (fun h => ?_) (fun h => ?_)
  · refine L_ps c239 (n := 2) (pc1 := 44) (ls1 := [jR 0, g1, g2, g3, g4, jI v5, jI v6]) (st1 := [jR 0, jI v5]) rfl ?_
    refine L_getP (d := 57) (c239 44 rfl) hM rt0 rfl ?_
    refine L_ps c239 (n := 1) (pc1 := 48) (ls1 := [jR 0, g1, g2, g3, g4, jI v5, jI v6]) (st1 := [jR 0, jR 57, jI v5]) rfl ?_
    refine L_getP (d := 5) (c239 48 rfl) hM rt0 rfl ?_
    refine L_ps c239 (n := 1) (pc1 := 52) (ls1 := [jR 0, g1, g2, g3, g4, jI v5, jI v6]) (st1 := [jR 0, jR 5, jR 57, jI v5]) rfl ?_
    refine L_getP (d := 5) (c239 52 rfl) hM rt0 rfl ?_
    refine L_ps c239 (n := 1) (pc1 := 57) (ls1 := [jR 0, g1, g2, g3, g4, jI v5, jI v6]) (st1 := [jI v6, jR 5, jR 5, jR 57, jI v5]) rfl ?_
    refine L_cpR (c239 57 rfl) (js_v rfl ((Rl_tag hM rt5 (by decide)).trans js61)) hh239 (k_State_term rt5 hM h) (fun r9 M hM hr9 h => ?_) (fun _ _ _ _ f => f.elim)
    refine L_cI (c239 60 rfl) (js_v rfl ((Rl_tag hM rt57 (by decide)).trans js140)) hh239 (k_Rewriter_countRedexes rt57 rt5 hr9 hM h) (fun r11 M μ12 hM h => ?_) (fun _ _ _ _ f => f.elim)
    refine L_ps c239 (n := 1) (pc1 := 64) (ls1 := [jR 0, g1, g2, g3, g4, jI v5, jI v6]) (st1 := [jI (wr (v5 + r11))]) rfl ?_
    refine L_ist (c239 64 rfl) (hg4) (Nat.le_of_ble_eq_true rfl) ?_
    show JX 239 66 [jR 0, g1, g2, g3, g4, jI (wr (v5 + r11)), jI v6] [] M P
    refine L_ps c239 (n := 2) (pc1 := 29) (ls1 := [jR 0, g1, g2, g3, g4, jI (wr (v5 + r11)), jI (wr (v6 + 1))]) (st1 := []) rfl ?_
    exact hW29 _ _ _ _ _ _ _ _ hg2 hg3 hg4 hM h
  · refine L_ps c239 (n := 1) (pc1 := 74) (ls1 := [jR 0, g1, g2, g3, g4, jI v5, jI v6]) (st1 := [jI v5]) rfl ?_
    exact L_retI (c239 74 rfl) (hQ _ _ _ hM h)
theorem k_OB_swapRules_l29 {E : JE2} {v5 : Int} {v6 : Int} {μ : Mem} {M : JM} {P : JO → JM → Prop} {g1 : JV} {g2 : JV} {g3 : JV} {g4 : JV} {Q : Int → Mem → Prop} {X : Nat → Mem → Prop} (hg2 : jc2 g2 = false) (hg3 : jc2 g3 = false) (hg4 : jc2 g4 = false) (hM : Rl E M μ) (hQ : ∀ (r : Int) (M1 : JM) (μ1 : Mem), Rl E M1 μ1 → Q r μ1 → P (.inl (some (.inl r))) M1) (hX : ∀ (k : Nat) (M1 : JM) (μ1 : Mem), Rl E M1 μ1 → X k μ1 → P (.inr k) M1) (h : d_OB_swapRules_l29 v5 v6 μ Q X) : JX 239 29 [jR 0, g1, g2, g3, g4, jI v5, jI v6] [] M P := by
  refine h (fun v5 v6 μ => ∀ (g1 : JV) (g2 : JV) (g3 : JV) (g4 : JV) (M : JM), jc2 g2 = false → jc2 g3 = false → jc2 g4 = false → Rl E M μ → JX 239 29 [jR 0, g1, g2, g3, g4, jI v5, jI v6] [] M P) ?_ _ _ _ _ _ hg2 hg3 hg4 hM
  intro v5 v6 μ h g1 g2 g3 g4 M hg2 hg3 hg4 hM
  exact k_OB_swapRules_b29 hg2 hg3 hg4 hM hQ hX (fun v5 v6 g1 g2 g3 g4 M μ hg2 hg3 hg4 hM h => h g1 g2 g3 g4 M hg2 hg3 hg4 hM) h
theorem k_OB_swapRules {E : JE2} {v1 : Int} {v2 : Int} {μ : Mem} {M : JM} {Q : Int → Mem → Prop} {X : Nat → Mem → Prop} (hM : Rl E M μ) (h : d_OB_swapRules v1 v2 μ Q X) : JX 239 0 (jargs 239 [jR 0, jI v1, jI v2]) [] M (PO E (QI Q) X) := by
  unfold d_OB_swapRules at h
  show JX 239 0 [jR 0, jI v1, jI v2, jU, jU, jU, jU] [] M (PO E (QI Q) X)
  generalize hP : PO E (QI Q) X = P
  have hQ : ∀ (r : Int) (M1 : JM) (μ1 : Mem), Rl E M1 μ1 → Q r μ1 → P (.inl (some (.inl r))) M1 := by rw [← hP]; exact fun r M1 μ1 a b => ⟨μ1, a, r, rfl, b⟩
  have hX : ∀ (k : Nat) (M1 : JM) (μ1 : Mem), Rl E M1 μ1 → X k μ1 → P (.inr k) M1 := by rw [← hP]; exact fun k M1 μ1 a b => ⟨μ1, a, b⟩
  clear hP
  refine L_ps c239 (n := 2) (pc1 := 2) (ls1 := [jR 0, jI v1, jI v2, jU, jU, jU, jU]) (st1 := [jI v1, jR 0]) rfl ?_
  refine L_cR (c239 2 rfl) (js_v rfl ((Rl_tag hM rt0 (by decide)).trans js98)) hh239 (k_OB_requireRule hM h) (fun r1 M μ2 hM hr1 h => ?_) (fun k M μx hM hx => hX _ _ _ hM hx)
  refine L_ps c239 (n := 3) (pc1 := 8) (ls1 := [jR 0, jI v1, jI v2, jR r1, jU, jU, jU]) (st1 := [jI v2, jR 0]) rfl ?_
  refine L_cR (c239 8 rfl) (js_v rfl ((Rl_tag hM rt0 (by decide)).trans js98)) hh239 (k_OB_requireRule hM h) (fun r3 M μ4 hM hr3 h => ?_) (fun k M μx hM hx => hX _ _ _ hM hx)
  refine L_ps c239 (n := 2) (pc1 := 14) (ls1 := [jR 0, jI v1, jI v2, jR r1, jR r3, jU, jU]) (st1 := [jR 0]) rfl ?_
  refine L_cV (c239 14 rfl) (js_v rfl ((Rl_tag hM rt0 (by decide)).trans js224)) hh239 (k_OB_remember hM h) (fun M μ6 hM h => ?_) (fun _ _ _ _ f => f.elim)
  refine L_ps c239 (n := 2) (pc1 := 20) (ls1 := [jR 0, jI v1, jI v2, jR r1, jR r3, jU, jU]) (st1 := [jR r3, jR r1]) rfl ?_
  refine L_cV (c239 20 rfl) (js_v rfl ((Rl_tag hM hr1 (by decide)).trans js240)) hh239 (k_Rule_exchange hr1 hr3 hM h) (fun M μ8 hM h => ?_) (fun _ _ _ _ f => f.elim)
  refine L_ps c239 (n := 4) (pc1 := 29) (ls1 := [jR 0, jI v1, jI v2, jR r1, jR r3, jI 0, jI 0]) (st1 := []) rfl ?_
  exact k_OB_swapRules_l29 rfl rfl rfl hM hQ hX h
theorem k_Lw_swapRules {E : JE2} {v1 : Int} {v2 : Int} {μ : Mem} {M : JM} {Q : Int → Mem → Prop} (hM : Rl E M μ) (h : d_Lw_swapRules v1 v2 μ Q) : JX 238 0 (jargs 238 [jR 0, jI v1, jI v2, jR 795]) [] M (PO E (QI Q) XN) := by
  unfold d_Lw_swapRules at h
  show JX 238 0 [jR 0, jI v1, jI v2, jR 795, jU] [] M (PO E (QI Q) XN)
  generalize hP : PO E (QI Q) XN = P
  have hQ : ∀ (r : Int) (M1 : JM) (μ1 : Mem), Rl E M1 μ1 → Q r μ1 → P (.inl (some (.inl r))) M1 := by rw [← hP]; exact fun r M1 μ1 a b => ⟨μ1, a, r, rfl, b⟩
  clear hP
  refine L_ps c238 (n := 5) (pc1 := 5) (ls1 := [jR 0, jI v1, jI v2, jR 795, jU]) (st1 := [jI v2, jI v1, jR 0, jI 0, jR 795]) rfl ?_
  refine L_cIH (c238 5 rfl) (js_v rfl ((Rl_tag hM rt0 (by decide)).trans js239)) (k_OB_swapRules hM h) (fun r1 M μ2 hM h => ?_) (fun k M μx hM h => ?_)
  · refine L_ps c238 (n := 1) (pc1 := 9) (ls1 := [jR 0, jI v1, jI v2, jR 795, jU]) (st1 := [jX (.long ((Int32.ofInt r1).toInt64)), jI 0, jR 795]) rfl ?_
    refine L_last (c238 9 rfl) hM rt795 ln795 (by decide) (fun M hM => ?_)
    refine L_ps c238 (n := 2) (pc1 := 22) (ls1 := [jR 0, jI v1, jI v2, jR 795, jU]) (st1 := [jI 0]) rfl ?_
    exact L_retI (c238 22 rfl) (hQ _ _ _ hM h)
  · by_cases hk0 : k = 0
    · rw [if_pos hk0] at h
      subst hk0
      refine JH_of (h := 13) (i := 4) (pc1 := 15) (ls1 := [jR 0, jI v1, jI v2, jR 795, jU]) rfl rfl (Nat.le_of_ble_eq_true rfl) rfl rfl ?_
      refine L_ps c238 (n := 1) (pc1 := 16) (ls1 := [jR 0, jI v1, jI v2, jR 795, jU]) (st1 := [jI 1]) rfl ?_
      exact L_retI (c238 16 rfl) (hQ _ _ _ hM h)
    rw [if_neg hk0] at h
    by_cases hk1 : k = 1
    · rw [if_pos hk1] at h
      subst hk1
      refine JH_of (h := 17) (i := 4) (pc1 := 19) (ls1 := [jR 0, jI v1, jI v2, jR 795, jU]) rfl rfl (Nat.le_of_ble_eq_true rfl) rfl rfl ?_
      refine L_ps c238 (n := 1) (pc1 := 20) (ls1 := [jR 0, jI v1, jI v2, jR 795, jU]) (st1 := [jI 2]) rfl ?_
      exact L_retI (c238 20 rfl) (hQ _ _ _ hM h)
    rw [if_neg hk1] at h
    exact h.elim
theorem k_State_dropRule_b2 {E : JE2} {v0 : Nat} {v2 : Int} {μ : Mem} {M : JM} {P : JO → JM → Prop} {g1 : JV} {W2 : Int → Mem → Prop} {Q : Mem → Prop} (hg1 : jc2 g1 = false) (hv0 : rt v0 = 7) (hM : Rl E M μ) (hQ : ∀ (M1 : JM) (μ1 : Mem), Rl E M1 μ1 → Q μ1 → P (.inl none) M1) (hW2 : ∀ (v2 : Int) (g1 : JV) (M1 : JM) (μ1 : Mem), jc2 g1 = false → Rl E M1 μ1 → W2 v2 μ1 → JX 243 2 [jR v0, g1, jI v2] [] M1 P) (h : d_State_dropRule_b2 v0 v2 μ W2 Q) : JX 243 2 [jR v0, g1, jI v2] [] M P := by
  unfold d_State_dropRule_b2 at h
  refine L_ps c243 (n := 4) (pc1 := 6) (ls1 := [jR v0, g1, jI v2]) (st1 := [jR v0, jI (wr (v2 + 1))]) rfl ?_
  refine L_getI (c243 6 rfl) hM hv0 rfl ?_
  refine L_nb (p1 := 33) (p2 := 12) (c243 9 rfl) rfl jc_ge h (fun h => ?_) (fun h => ?_)
  · refine L_ps c243 (n := 2) (pc1 := 14) (ls1 := [jR v0, g1, jI v2]) (st1 := [jI v2, jR v0]) rfl ?_
    refine L_cpR (c243 14 rfl) (js_v rfl ((Rl_tag hM hv0 (by decide)).trans js46)) hh243 (k_State_rule hv0 hM h) (fun r1 M hM hr1 h => ?_) (fun _ _ _ _ f => f.elim)
    refine L_ps c243 (n := 4) (pc1 := 21) (ls1 := [jR v0, g1, jI v2]) (st1 := [jI (wr (v2 + 1)), jR v0, jR r1]) rfl ?_
    refine L_cpR (c243 21 rfl) (js_v rfl ((Rl_tag hM hv0 (by decide)).trans js46)) hh243 (k_State_rule hv0 hM h) (fun r3 M hM hr3 h => ?_) (fun _ _ _ _ f => f.elim)
    refine L_cV (c243 24 rfl) (js_v rfl ((Rl_tag hM hr1 (by decide)).trans js240)) hh243 (k_Rule_exchange hr1 hr3 hM h) (fun M μ6 hM h => ?_) (fun _ _ _ _ f => f.elim)
    refine L_iinc (c243 27 rfl) (hg1) (Nat.le_of_ble_eq_true rfl) rfl ?_
    show JX 243 30 [jR v0, g1, jI (wr (v2 + 1))] [] M P
    refine L_ps c243 (n := 1) (pc1 := 2) (ls1 := [jR v0, g1, jI (wr (v2 + 1))]) (st1 := []) rfl ?_
    exact hW2 _ _ _ _ hg1 hM h
  · refine L_ps c243 (n := 2) (pc1 := 35) (ls1 := [jR v0, g1, jI v2]) (st1 := [jR v0, jR v0]) rfl ?_
    refine L_getI (c243 35 rfl) hM hv0 rfl ?_
    refine L_ps c243 (n := 2) (pc1 := 40) (ls1 := [jR v0, g1, jI v2]) (st1 := [jI (wr ((μ v0 0) - 1)), jR v0]) rfl ?_
    refine L_putI (c243 40 rfl) hM hv0 rfl (fun M hM => ?_)
    exact L_end (c243 43 rfl) rfl (hQ _ _ hM h)
theorem k_State_dropRule_l2 {E : JE2} {v0 : Nat} {v2 : Int} {μ : Mem} {M : JM} {P : JO → JM → Prop} {g1 : JV} {Q : Mem → Prop} (hg1 : jc2 g1 = false) (hv0 : rt v0 = 7) (hM : Rl E M μ) (hQ : ∀ (M1 : JM) (μ1 : Mem), Rl E M1 μ1 → Q μ1 → P (.inl none) M1) (h : d_State_dropRule_l2 v0 v2 μ Q) : JX 243 2 [jR v0, g1, jI v2] [] M P := by
  refine h (fun v2 μ => ∀ (g1 : JV) (M : JM), jc2 g1 = false → Rl E M μ → JX 243 2 [jR v0, g1, jI v2] [] M P) ?_ _ _ hg1 hM
  intro v2 μ h g1 M hg1 hM
  exact k_State_dropRule_b2 hg1 hv0 hM hQ (fun v2 g1 M μ hg1 hM h => h g1 M hg1 hM) h
theorem k_State_dropRule {E : JE2} {v0 : Nat} {v1 : Int} {μ : Mem} {M : JM} {Q : Mem → Prop} (hv0 : rt v0 = 7) (hM : Rl E M μ) (h : d_State_dropRule v0 v1 μ Q) : JX 243 0 (jargs 243 [jR v0, jI v1]) [] M (PO E (QV Q) XN) := by
  unfold d_State_dropRule at h
  show JX 243 0 [jR v0, jI v1, jU] [] M (PO E (QV Q) XN)
  generalize hP : PO E (QV Q) XN = P
  have hQ : ∀ (M1 : JM) (μ1 : Mem), Rl E M1 μ1 → Q μ1 → P (.inl none) M1 := by rw [← hP]; exact fun M1 μ1 a b => ⟨μ1, a, rfl, b⟩
  clear hP
  refine L_ps c243 (n := 2) (pc1 := 2) (ls1 := [jR v0, jI v1, jI v1]) (st1 := []) rfl ?_
  exact k_State_dropRule_l2 rfl hv0 hM hQ h
theorem k_OB_removeRule {E : JE2} {v1 : Int} {μ : Mem} {M : JM} {Q : Int → Mem → Prop} {X : Nat → Mem → Prop} (hM : Rl E M μ) (h : d_OB_removeRule v1 μ Q X) : JX 242 0 (jargs 242 [jR 0, jI v1]) [] M (PO E (QI Q) X) := by
  unfold d_OB_removeRule at h
  show JX 242 0 [jR 0, jI v1] [] M (PO E (QI Q) X)
  generalize hP : PO E (QI Q) X = P
  have hQ : ∀ (r : Int) (M1 : JM) (μ1 : Mem), Rl E M1 μ1 → Q r μ1 → P (.inl (some (.inl r))) M1 := by rw [← hP]; exact fun r M1 μ1 a b => ⟨μ1, a, r, rfl, b⟩
  have hX : ∀ (k : Nat) (M1 : JM) (μ1 : Mem), Rl E M1 μ1 → X k μ1 → P (.inr k) M1 := by rw [← hP]; exact fun k M1 μ1 a b => ⟨μ1, a, b⟩
  clear hP
  refine L_ps c242 (n := 2) (pc1 := 2) (ls1 := [jR 0, jI v1]) (st1 := [jI v1, jR 0]) rfl ?_
  refine L_cR (c242 2 rfl) (js_v rfl ((Rl_tag hM rt0 (by decide)).trans js98)) hh242 (k_OB_requireRule hM h) (fun r1 M μ2 hM hr1 h => ?_) (fun k M μx hM hx => hX _ _ _ hM hx)
  refine L_ps c242 (n := 2) (pc1 := 7) (ls1 := [jR 0, jI v1]) (st1 := [jR 0]) rfl ?_
  refine L_cV (c242 7 rfl) (js_v rfl ((Rl_tag hM rt0 (by decide)).trans js224)) hh242 (k_OB_remember hM h) (fun M μ4 hM h => ?_) (fun _ _ _ _ f => f.elim)
  refine L_ps c242 (n := 1) (pc1 := 11) (ls1 := [jR 0, jI v1]) (st1 := [jR 0]) rfl ?_
  refine L_getP (d := 5) (c242 11 rfl) hM rt0 rfl ?_
  refine L_ps c242 (n := 1) (pc1 := 15) (ls1 := [jR 0, jI v1]) (st1 := [jI v1, jR 5]) rfl ?_
  refine L_cV (c242 15 rfl) (js_v rfl ((Rl_tag hM rt5 (by decide)).trans js243)) hh242 (k_State_dropRule rt5 hM h) (fun M μ6 hM h => ?_) (fun _ _ _ _ f => f.elim)
  refine L_ps c242 (n := 1) (pc1 := 19) (ls1 := [jR 0, jI v1]) (st1 := [jR 0]) rfl ?_
  refine L_getP (d := 5) (c242 19 rfl) hM rt0 rfl ?_
  refine L_getI (c242 22 rfl) hM rt5 rfl ?_
  exact L_retI (c242 25 rfl) (hQ _ _ _ hM h)
theorem k_Lw_removeRule {E : JE2} {v1 : Int} {μ : Mem} {M : JM} {Q : Int → Mem → Prop} (hM : Rl E M μ) (h : d_Lw_removeRule v1 μ Q) : JX 241 0 (jargs 241 [jR 0, jI v1, jR 795]) [] M (PO E (QI Q) XN) := by
  unfold d_Lw_removeRule at h
  show JX 241 0 [jR 0, jI v1, jR 795, jU] [] M (PO E (QI Q) XN)
  generalize hP : PO E (QI Q) XN = P
  have hQ : ∀ (r : Int) (M1 : JM) (μ1 : Mem), Rl E M1 μ1 → Q r μ1 → P (.inl (some (.inl r))) M1 := by rw [← hP]; exact fun r M1 μ1 a b => ⟨μ1, a, r, rfl, b⟩
  clear hP
  refine L_ps c241 (n := 4) (pc1 := 4) (ls1 := [jR 0, jI v1, jR 795, jU]) (st1 := [jI v1, jR 0, jI 0, jR 795]) rfl ?_
  refine L_cIH (c241 4 rfl) (js_v rfl ((Rl_tag hM rt0 (by decide)).trans js242)) (k_OB_removeRule hM h) (fun r1 M μ2 hM h => ?_) (fun k M μx hM h => ?_)
  · refine L_ps c241 (n := 1) (pc1 := 8) (ls1 := [jR 0, jI v1, jR 795, jU]) (st1 := [jX (.long ((Int32.ofInt r1).toInt64)), jI 0, jR 795]) rfl ?_
    refine L_last (c241 8 rfl) hM rt795 ln795 (by decide) (fun M hM => ?_)
    refine L_ps c241 (n := 2) (pc1 := 19) (ls1 := [jR 0, jI v1, jR 795, jU]) (st1 := [jI 0]) rfl ?_
    exact L_retI (c241 19 rfl) (hQ _ _ _ hM h)
  · by_cases hk0 : k = 0
    · rw [if_pos hk0] at h
      subst hk0
      refine JH_of (h := 12) (i := 3) (pc1 := 13) (ls1 := [jR 0, jI v1, jR 795, jU]) rfl rfl (Nat.le_of_ble_eq_true rfl) rfl rfl ?_
      refine L_ps c241 (n := 1) (pc1 := 14) (ls1 := [jR 0, jI v1, jR 795, jU]) (st1 := [jI 1]) rfl ?_
      exact L_retI (c241 14 rfl) (hQ _ _ _ hM h)
    rw [if_neg hk0] at h
    by_cases hk1 : k = 1
    · rw [if_pos hk1] at h
      subst hk1
      refine JH_of (h := 15) (i := 3) (pc1 := 16) (ls1 := [jR 0, jI v1, jR 795, jU]) rfl rfl (Nat.le_of_ble_eq_true rfl) rfl rfl ?_
      refine L_ps c241 (n := 1) (pc1 := 17) (ls1 := [jR 0, jI v1, jR 795, jU]) (st1 := [jI 2]) rfl ?_
      exact L_retI (c241 17 rfl) (hQ _ _ _ hM h)
    rw [if_neg hk1] at h
    exact h.elim
theorem k_OB_reverseRule {E : JE2} {v1 : Int} {μ : Mem} {M : JM} {Q : Int → Mem → Prop} {X : Nat → Mem → Prop} (hM : Rl E M μ) (h : d_OB_reverseRule v1 μ Q X) : JX 245 0 (jargs 245 [jR 0, jI v1]) [] M (PO E (QI Q) X) := by
  unfold d_OB_reverseRule at h
  show JX 245 0 [jR 0, jI v1, jU] [] M (PO E (QI Q) X)
  generalize hP : PO E (QI Q) X = P
  have hQ : ∀ (r : Int) (M1 : JM) (μ1 : Mem), Rl E M1 μ1 → Q r μ1 → P (.inl (some (.inl r))) M1 := by rw [← hP]; exact fun r M1 μ1 a b => ⟨μ1, a, r, rfl, b⟩
  have hX : ∀ (k : Nat) (M1 : JM) (μ1 : Mem), Rl E M1 μ1 → X k μ1 → P (.inr k) M1 := by rw [← hP]; exact fun k M1 μ1 a b => ⟨μ1, a, b⟩
  clear hP
  refine L_ps c245 (n := 2) (pc1 := 2) (ls1 := [jR 0, jI v1, jU]) (st1 := [jI v1, jR 0]) rfl ?_
  refine L_cR (c245 2 rfl) (js_v rfl ((Rl_tag hM rt0 (by decide)).trans js98)) hh245 (k_OB_requireRule hM h) (fun r1 M μ2 hM hr1 h => ?_) (fun k M μx hM hx => hX _ _ _ hM hx)
  refine L_ps c245 (n := 2) (pc1 := 7) (ls1 := [jR 0, jI v1, jR r1]) (st1 := [jR r1]) rfl ?_
  refine L_cpB (c245 7 rfl) (js_v rfl ((Rl_tag hM hr1 (by decide)).trans js66)) hh245 (k_Rule_canTurn hr1 hM h) (fun r3 M hM h => ?_) (fun _ _ _ _ f => f.elim)
  refine L_br (p1 := 21) (p2 := 13) (c245 10 rfl) rfl jc_neb h (fun h => ?_) (fun h => ?_)
  · refine L_ps c245 (n := 1) (pc1 := 22) (ls1 := [jR 0, jI v1, jR r1]) (st1 := [jR 0]) rfl ?_
    refine L_cV (c245 22 rfl) (js_v rfl ((Rl_tag hM rt0 (by decide)).trans js224)) hh245 (k_OB_remember hM h) (fun M μ6 hM h => ?_) (fun _ _ _ _ f => f.elim)
    refine L_ps c245 (n := 1) (pc1 := 26) (ls1 := [jR 0, jI v1, jR r1]) (st1 := [jR r1]) rfl ?_
    refine L_cV (c245 26 rfl) (js_v rfl ((Rl_tag hM hr1 (by decide)).trans js67)) hh245 (k_Rule_turn hr1 hM h) (fun M μ8 hM h => ?_) (fun _ _ _ _ f => f.elim)
    refine L_ps c245 (n := 1) (pc1 := 30) (ls1 := [jR 0, jI v1, jR r1]) (st1 := [jR r1]) rfl ?_
    refine L_getD (c245 30 rfl) hM hr1 (by decide) ?_
    refine L_getI (c245 33 rfl) hM (dp_rt _) rfl ?_
    exact L_retI (c245 36 rfl) (hQ _ _ _ hM h)
  · exact L_throw (k := 2) (c245 13 rfl) (hX _ _ _ (Rl_throw hM) h)
theorem k_Lw_reverseRule {E : JE2} {v1 : Int} {μ : Mem} {M : JM} {Q : Int → Mem → Prop} (hM : Rl E M μ) (h : d_Lw_reverseRule v1 μ Q) : JX 244 0 (jargs 244 [jR 0, jI v1, jR 795]) [] M (PO E (QI Q) XN) := by
  unfold d_Lw_reverseRule at h
  show JX 244 0 [jR 0, jI v1, jR 795, jU] [] M (PO E (QI Q) XN)
  generalize hP : PO E (QI Q) XN = P
  have hQ : ∀ (r : Int) (M1 : JM) (μ1 : Mem), Rl E M1 μ1 → Q r μ1 → P (.inl (some (.inl r))) M1 := by rw [← hP]; exact fun r M1 μ1 a b => ⟨μ1, a, r, rfl, b⟩
  clear hP
  refine L_ps c244 (n := 4) (pc1 := 4) (ls1 := [jR 0, jI v1, jR 795, jU]) (st1 := [jI v1, jR 0, jI 0, jR 795]) rfl ?_
  refine L_cIH (c244 4 rfl) (js_v rfl ((Rl_tag hM rt0 (by decide)).trans js245)) (k_OB_reverseRule hM h) (fun r1 M μ2 hM h => ?_) (fun k M μx hM h => ?_)
  · refine L_ps c244 (n := 1) (pc1 := 8) (ls1 := [jR 0, jI v1, jR 795, jU]) (st1 := [jX (.long ((Int32.ofInt r1).toInt64)), jI 0, jR 795]) rfl ?_
    refine L_last (c244 8 rfl) hM rt795 ln795 (by decide) (fun M hM => ?_)
    refine L_ps c244 (n := 2) (pc1 := 22) (ls1 := [jR 0, jI v1, jR 795, jU]) (st1 := [jI 0]) rfl ?_
    exact L_retI (c244 22 rfl) (hQ _ _ _ hM h)
  · by_cases hk0 : k = 0
    · rw [if_pos hk0] at h
      subst hk0
      refine JH_of (h := 12) (i := 3) (pc1 := 13) (ls1 := [jR 0, jI v1, jR 795, jU]) rfl rfl (Nat.le_of_ble_eq_true rfl) rfl rfl ?_
      refine L_ps c244 (n := 1) (pc1 := 14) (ls1 := [jR 0, jI v1, jR 795, jU]) (st1 := [jI 1]) rfl ?_
      exact L_retI (c244 14 rfl) (hQ _ _ _ hM h)
    rw [if_neg hk0] at h
    by_cases hk1 : k = 1
    · rw [if_pos hk1] at h
      subst hk1
      refine JH_of (h := 15) (i := 3) (pc1 := 16) (ls1 := [jR 0, jI v1, jR 795, jU]) rfl rfl (Nat.le_of_ble_eq_true rfl) rfl rfl ?_
      refine L_ps c244 (n := 1) (pc1 := 17) (ls1 := [jR 0, jI v1, jR 795, jU]) (st1 := [jI 2]) rfl ?_
      exact L_retI (c244 17 rfl) (hQ _ _ _ hM h)
    rw [if_neg hk1] at h
    by_cases hk2 : k = 2
    · rw [if_pos hk2] at h
      subst hk2
      refine JH_of (h := 18) (i := 3) (pc1 := 19) (ls1 := [jR 0, jI v1, jR 795, jU]) rfl rfl (Nat.le_of_ble_eq_true rfl) rfl rfl ?_
      refine L_ps c244 (n := 1) (pc1 := 20) (ls1 := [jR 0, jI v1, jR 795, jU]) (st1 := [jI 3]) rfl ?_
      exact L_retI (c244 20 rfl) (hQ _ _ _ hM h)
    rw [if_neg hk2] at h
    exact h.elim
theorem k_State_dropTerm_b2 {E : JE2} {v0 : Nat} {v2 : Int} {μ : Mem} {M : JM} {P : JO → JM → Prop} {g1 : JV} {W2 : Int → Mem → Prop} {Q : Mem → Prop} (hg1 : jc2 g1 = false) (hv0 : rt v0 = 7) (hM : Rl E M μ) (hQ : ∀ (M1 : JM) (μ1 : Mem), Rl E M1 μ1 → Q μ1 → P (.inl none) M1) (hW2 : ∀ (v2 : Int) (g1 : JV) (M1 : JM) (μ1 : Mem), jc2 g1 = false → Rl E M1 μ1 → W2 v2 μ1 → JX 248 2 [jR v0, g1, jI v2] [] M1 P) (h : d_State_dropTerm_b2 v0 v2 μ W2 Q) : JX 248 2 [jR v0, g1, jI v2] [] M P := by
  unfold d_State_dropTerm_b2 at h
  refine L_ps c248 (n := 4) (pc1 := 6) (ls1 := [jR v0, g1, jI v2]) (st1 := [jR v0, jI (wr (v2 + 1))]) rfl ?_
  refine L_getI (c248 6 rfl) hM hv0 rfl ?_
  refine L_nb (p1 := 33) (p2 := 12) (c248 9 rfl) rfl jc_ge h (fun h => ?_) (fun h => ?_)
  · refine L_ps c248 (n := 2) (pc1 := 14) (ls1 := [jR v0, g1, jI v2]) (st1 := [jI v2, jR v0]) rfl ?_
    refine L_cpR (c248 14 rfl) (js_v rfl ((Rl_tag hM hv0 (by decide)).trans js61)) hh248 (k_State_term hv0 hM h) (fun r1 M hM hr1 h => ?_) (fun _ _ _ _ f => f.elim)
    refine L_ps c248 (n := 4) (pc1 := 21) (ls1 := [jR v0, g1, jI v2]) (st1 := [jI (wr (v2 + 1)), jR v0, jR r1]) rfl ?_
    refine L_cpR (c248 21 rfl) (js_v rfl ((Rl_tag hM hv0 (by decide)).trans js61)) hh248 (k_State_term hv0 hM h) (fun r3 M hM hr3 h => ?_) (fun _ _ _ _ f => f.elim)
    refine L_cV (c248 24 rfl) (js_v rfl ((Rl_tag hM hr1 (by decide)).trans js78)) hh248 (k_Term_copyFrom hr1 hr3 hM h) (fun M μ6 hM h => ?_) (fun _ _ _ _ f => f.elim)
    refine L_iinc (c248 27 rfl) (hg1) (Nat.le_of_ble_eq_true rfl) rfl ?_
    show JX 248 30 [jR v0, g1, jI (wr (v2 + 1))] [] M P
    refine L_ps c248 (n := 1) (pc1 := 2) (ls1 := [jR v0, g1, jI (wr (v2 + 1))]) (st1 := []) rfl ?_
    exact hW2 _ _ _ _ hg1 hM h
  · refine L_ps c248 (n := 2) (pc1 := 35) (ls1 := [jR v0, g1, jI v2]) (st1 := [jR v0, jR v0]) rfl ?_
    refine L_getI (c248 35 rfl) hM hv0 rfl ?_
    refine L_ps c248 (n := 2) (pc1 := 40) (ls1 := [jR v0, g1, jI v2]) (st1 := [jI (wr ((μ v0 1) - 1)), jR v0]) rfl ?_
    refine L_putI (c248 40 rfl) hM hv0 rfl (fun M hM => ?_)
    exact L_end (c248 43 rfl) rfl (hQ _ _ hM h)
theorem k_State_dropTerm_l2 {E : JE2} {v0 : Nat} {v2 : Int} {μ : Mem} {M : JM} {P : JO → JM → Prop} {g1 : JV} {Q : Mem → Prop} (hg1 : jc2 g1 = false) (hv0 : rt v0 = 7) (hM : Rl E M μ) (hQ : ∀ (M1 : JM) (μ1 : Mem), Rl E M1 μ1 → Q μ1 → P (.inl none) M1) (h : d_State_dropTerm_l2 v0 v2 μ Q) : JX 248 2 [jR v0, g1, jI v2] [] M P := by
  refine h (fun v2 μ => ∀ (g1 : JV) (M : JM), jc2 g1 = false → Rl E M μ → JX 248 2 [jR v0, g1, jI v2] [] M P) ?_ _ _ hg1 hM
  intro v2 μ h g1 M hg1 hM
  exact k_State_dropTerm_b2 hg1 hv0 hM hQ (fun v2 g1 M μ hg1 hM h => h g1 M hg1 hM) h
theorem k_State_dropTerm {E : JE2} {v0 : Nat} {v1 : Int} {μ : Mem} {M : JM} {Q : Mem → Prop} (hv0 : rt v0 = 7) (hM : Rl E M μ) (h : d_State_dropTerm v0 v1 μ Q) : JX 248 0 (jargs 248 [jR v0, jI v1]) [] M (PO E (QV Q) XN) := by
  unfold d_State_dropTerm at h
  show JX 248 0 [jR v0, jI v1, jU] [] M (PO E (QV Q) XN)
  generalize hP : PO E (QV Q) XN = P
  have hQ : ∀ (M1 : JM) (μ1 : Mem), Rl E M1 μ1 → Q μ1 → P (.inl none) M1 := by rw [← hP]; exact fun M1 μ1 a b => ⟨μ1, a, rfl, b⟩
  clear hP
  refine L_ps c248 (n := 2) (pc1 := 2) (ls1 := [jR v0, jI v1, jI v1]) (st1 := []) rfl ?_
  exact k_State_dropTerm_l2 rfl hv0 hM hQ h
theorem k_OB_removeTerm {E : JE2} {v1 : Int} {μ : Mem} {M : JM} {Q : Int → Mem → Prop} {X : Nat → Mem → Prop} (hM : Rl E M μ) (h : d_OB_removeTerm v1 μ Q X) : JX 247 0 (jargs 247 [jR 0, jI v1]) [] M (PO E (QI Q) X) := by
  unfold d_OB_removeTerm at h
  show JX 247 0 [jR 0, jI v1] [] M (PO E (QI Q) X)
  generalize hP : PO E (QI Q) X = P
  have hQ : ∀ (r : Int) (M1 : JM) (μ1 : Mem), Rl E M1 μ1 → Q r μ1 → P (.inl (some (.inl r))) M1 := by rw [← hP]; exact fun r M1 μ1 a b => ⟨μ1, a, r, rfl, b⟩
  have hX : ∀ (k : Nat) (M1 : JM) (μ1 : Mem), Rl E M1 μ1 → X k μ1 → P (.inr k) M1 := by rw [← hP]; exact fun k M1 μ1 a b => ⟨μ1, a, b⟩
  clear hP
  refine L_ps c247 (n := 2) (pc1 := 2) (ls1 := [jR 0, jI v1]) (st1 := [jI v1, jR 0]) rfl ?_
  refine L_cR (c247 2 rfl) (js_v rfl ((Rl_tag hM rt0 (by decide)).trans js114)) hh247 (k_OB_requireTerm hM h) (fun r1 M μ2 hM hr1 h => ?_) (fun k M μx hM hx => hX _ _ _ hM hx)
  refine L_ps c247 (n := 2) (pc1 := 7) (ls1 := [jR 0, jI v1]) (st1 := [jR 0]) rfl ?_
  refine L_cV (c247 7 rfl) (js_v rfl ((Rl_tag hM rt0 (by decide)).trans js224)) hh247 (k_OB_remember hM h) (fun M μ4 hM h => ?_) (fun _ _ _ _ f => f.elim)
  refine L_ps c247 (n := 1) (pc1 := 11) (ls1 := [jR 0, jI v1]) (st1 := [jR 0]) rfl ?_
  refine L_getP (d := 5) (c247 11 rfl) hM rt0 rfl ?_
  refine L_ps c247 (n := 1) (pc1 := 15) (ls1 := [jR 0, jI v1]) (st1 := [jI v1, jR 5]) rfl ?_
  refine L_cV (c247 15 rfl) (js_v rfl ((Rl_tag hM rt5 (by decide)).trans js248)) hh247 (k_State_dropTerm rt5 hM h) (fun M μ6 hM h => ?_) (fun _ _ _ _ f => f.elim)
  refine L_ps c247 (n := 1) (pc1 := 19) (ls1 := [jR 0, jI v1]) (st1 := [jR 0]) rfl ?_
  refine L_getP (d := 5) (c247 19 rfl) hM rt0 rfl ?_
  refine L_getI (c247 22 rfl) hM rt5 rfl ?_
  exact L_retI (c247 25 rfl) (hQ _ _ _ hM h)
theorem k_Lw_removeTerm {E : JE2} {v1 : Int} {μ : Mem} {M : JM} {Q : Int → Mem → Prop} (hM : Rl E M μ) (h : d_Lw_removeTerm v1 μ Q) : JX 246 0 (jargs 246 [jR 0, jI v1, jR 795]) [] M (PO E (QI Q) XN) := by
  unfold d_Lw_removeTerm at h
  show JX 246 0 [jR 0, jI v1, jR 795, jU] [] M (PO E (QI Q) XN)
  generalize hP : PO E (QI Q) XN = P
  have hQ : ∀ (r : Int) (M1 : JM) (μ1 : Mem), Rl E M1 μ1 → Q r μ1 → P (.inl (some (.inl r))) M1 := by rw [← hP]; exact fun r M1 μ1 a b => ⟨μ1, a, r, rfl, b⟩
  clear hP
  refine L_ps c246 (n := 4) (pc1 := 4) (ls1 := [jR 0, jI v1, jR 795, jU]) (st1 := [jI v1, jR 0, jI 0, jR 795]) rfl ?_
  refine L_cIH (c246 4 rfl) (js_v rfl ((Rl_tag hM rt0 (by decide)).trans js247)) (k_OB_removeTerm hM h) (fun r1 M μ2 hM h => ?_) (fun k M μx hM h => ?_)
  · refine L_ps c246 (n := 1) (pc1 := 8) (ls1 := [jR 0, jI v1, jR 795, jU]) (st1 := [jX (.long ((Int32.ofInt r1).toInt64)), jI 0, jR 795]) rfl ?_
    refine L_last (c246 8 rfl) hM rt795 ln795 (by decide) (fun M hM => ?_)
    refine L_ps c246 (n := 2) (pc1 := 19) (ls1 := [jR 0, jI v1, jR 795, jU]) (st1 := [jI 0]) rfl ?_
    exact L_retI (c246 19 rfl) (hQ _ _ _ hM h)
  · by_cases hk0 : k = 0
    · rw [if_pos hk0] at h
      subst hk0
      refine JH_of (h := 12) (i := 3) (pc1 := 13) (ls1 := [jR 0, jI v1, jR 795, jU]) rfl rfl (Nat.le_of_ble_eq_true rfl) rfl rfl ?_
      refine L_ps c246 (n := 1) (pc1 := 14) (ls1 := [jR 0, jI v1, jR 795, jU]) (st1 := [jI 1]) rfl ?_
      exact L_retI (c246 14 rfl) (hQ _ _ _ hM h)
    rw [if_neg hk0] at h
    by_cases hk1 : k = 1
    · rw [if_pos hk1] at h
      subst hk1
      refine JH_of (h := 15) (i := 3) (pc1 := 16) (ls1 := [jR 0, jI v1, jR 795, jU]) rfl rfl (Nat.le_of_ble_eq_true rfl) rfl rfl ?_
      refine L_ps c246 (n := 1) (pc1 := 17) (ls1 := [jR 0, jI v1, jR 795, jU]) (st1 := [jI 2]) rfl ?_
      exact L_retI (c246 17 rfl) (hQ _ _ _ hM h)
    rw [if_neg hk1] at h
    exact h.elim
theorem k_History_takeBack_j54 {E : JE2} {t1 : Int} {μ : Mem} {M : JM} {P : JO → JM → Prop} {g0 : JV} {g1 : JV} {g2 : JV} {Q : Mem → Prop} (hg1 : jc2 g1 = false) (hM : Rl E M μ) (hQ : ∀ (M1 : JM) (μ1 : Mem), Rl E M1 μ1 → Q μ1 → P (.inl none) M1) (h : d_History_takeBack_j54 t1 μ Q) : JX 251 54 [g0, g1, g2] [jI t1, jR 247] M P := by
  unfold d_History_takeBack_j54 at h
  refine L_putI (c251 54 rfl) hM rt247 rfl (fun M hM => ?_)
  exact L_end (c251 57 rfl) rfl (hQ _ _ hM h)
theorem k_History_takeBack {E : JE2} {v1 : Nat} {μ : Mem} {M : JM} {Q : Mem → Prop} (hv1 : rt v1 = 7) (hM : Rl E M μ) (h : d_History_takeBack v1 μ Q) : JX 251 0 (jargs 251 [jR 247, jR v1]) [] M (PO E (QV Q) XN) := by
  unfold d_History_takeBack at h
  show JX 251 0 [jR 247, jR v1, jU] [] M (PO E (QV Q) XN)
  generalize hP : PO E (QV Q) XN = P
  have hQ : ∀ (M1 : JM) (μ1 : Mem), Rl E M1 μ1 → Q μ1 → P (.inl none) M1 := by rw [← hP]; exact fun M1 μ1 a b => ⟨μ1, a, rfl, b⟩
  clear hP
  refine L_ps c251 (n := 2) (pc1 := 2) (ls1 := [jR 247, jR v1, jU]) (st1 := [jR 247, jR 247]) rfl ?_
  refine L_getI (c251 2 rfl) hM rt247 rfl ?_
  refine L_cpR (c251 5 rfl) (js_v rfl ((Rl_tag hM rt247 (by decide)).trans js226)) hh251 (k_History_at hM h) (fun r1 M hM hr1 h => ?_) (fun _ _ _ _ f => f.elim)
  refine L_ps c251 (n := 2) (pc1 := 10) (ls1 := [jR 247, jR v1, jR r1]) (st1 := [jR 247]) rfl ?_
  refine L_getI (c251 10 rfl) hM rt247 rfl ?_
  refine L_nb (p1 := 57) (p2 := 16) (c251 13 rfl) rfl jc_le h (fun h => ?_) (fun h => ?_)
  · refine L_ps c251 (n := 4) (pc1 := 22) (ls1 := [jR 247, jR v1, jR r1]) (st1 := [jR r1, jR v1]) rfl ?_
    refine L_cV (c251 22 rfl) (js_v rfl ((Rl_tag hM hv1 (by decide)).trans js82)) hh251 (k_State_copyFrom hv1 hr1 hM h) (fun M μ4 hM h => ?_) (fun _ _ _ _ f => f.elim)
    refine L_ps c251 (n := 2) (pc1 := 27) (ls1 := [jR 247, jR v1, jR r1]) (st1 := [jR 247, jR 247]) rfl ?_
    refine L_getI (c251 27 rfl) hM rt247 rfl ?_
    refine L_ps c251 (n := 2) (pc1 := 32) (ls1 := [jR 247, jR v1, jR r1]) (st1 := [jI (wr ((μ4 247 0) - 1)), jR 247]) rfl ?_
    refine L_putI (c251 32 rfl) hM rt247 rfl (fun M hM => ?_)
    refine L_ps c251 (n := 2) (pc1 := 37) (ls1 := [jR 247, jR v1, jR r1]) (st1 := [jR 247, jR 247]) rfl ?_
    refine L_getI (c251 37 rfl) hM rt247 rfl ?_
    refine L_nb (p1 := 52) (p2 := 43) (c251 40 rfl) rfl jc_le h (fun h => ?_) (fun h => ?_)
    · refine L_ps c251 (n := 1) (pc1 := 44) (ls1 := [jR 247, jR v1, jR r1]) (st1 := [jR 247, jR 247]) rfl ?_
      refine L_getI (c251 44 rfl) hM rt247 rfl ?_
      refine L_ps c251 (n := 3) (pc1 := 54) (ls1 := [jR 247, jR v1, jR r1]) (st1 := [jI (wr (((mup μ4 247 0 (wr ((μ4 247 0) - 1))) 247 1) - 1)), jR 247]) rfl ?_
      exact k_History_takeBack_j54 rfl hM hQ h
    · refine L_ps c251 (n := 1) (pc1 := 54) (ls1 := [jR 247, jR v1, jR r1]) (st1 := [jI 7, jR 247]) rfl ?_
      exact k_History_takeBack_j54 rfl hM hQ h
  · exact L_end (c251 57 rfl) rfl (hQ _ _ hM h)
theorem k_OB_undo {E : JE2} {μ : Mem} {M : JM} {Q : Int → Mem → Prop} {X : Nat → Mem → Prop} (hM : Rl E M μ) (h : d_OB_undo μ Q X) : JX 250 0 (jargs 250 [jR 0]) [] M (PO E (QI Q) X) := by
  unfold d_OB_undo at h
  show JX 250 0 [jR 0] [] M (PO E (QI Q) X)
  generalize hP : PO E (QI Q) X = P
  have hQ : ∀ (r : Int) (M1 : JM) (μ1 : Mem), Rl E M1 μ1 → Q r μ1 → P (.inl (some (.inl r))) M1 := by rw [← hP]; exact fun r M1 μ1 a b => ⟨μ1, a, r, rfl, b⟩
  have hX : ∀ (k : Nat) (M1 : JM) (μ1 : Mem), Rl E M1 μ1 → X k μ1 → P (.inr k) M1 := by rw [← hP]; exact fun k M1 μ1 a b => ⟨μ1, a, b⟩
  clear hP
  refine L_ps c250 (n := 1) (pc1 := 1) (ls1 := [jR 0]) (st1 := [jR 0]) rfl ?_
  refine L_getP (d := 247) (c250 1 rfl) hM rt0 rfl ?_
  refine L_getI (c250 4 rfl) hM rt247 rfl ?_
  refine L_br (p1 := 18) (p2 := 10) (c250 7 rfl) rfl jc_gt h (fun h => ?_) (fun h => ?_)
  · refine L_ps c250 (n := 1) (pc1 := 19) (ls1 := [jR 0]) (st1 := [jR 0]) rfl ?_
    refine L_getP (d := 247) (c250 19 rfl) hM rt0 rfl ?_
    refine L_ps c250 (n := 1) (pc1 := 23) (ls1 := [jR 0]) (st1 := [jR 0, jR 247]) rfl ?_
    refine L_getP (d := 5) (c250 23 rfl) hM rt0 rfl ?_
    refine L_cV (c250 26 rfl) (js_v rfl ((Rl_tag hM rt247 (by decide)).trans js251)) hh250 (k_History_takeBack rt5 hM h) (fun M μ2 hM h => ?_) (fun _ _ _ _ f => f.elim)
    refine L_ps c250 (n := 1) (pc1 := 30) (ls1 := [jR 0]) (st1 := [jR 0]) rfl ?_
    refine L_getP (d := 139) (c250 30 rfl) hM rt0 rfl ?_
    refine L_ps c250 (n := 1) (pc1 := 34) (ls1 := [jR 0]) (st1 := [jI 1, jR 139]) rfl ?_
    refine L_putB (t := 2) (c250 34 rfl) hM rt139 rfl (Or.inr rfl) (fun M hM => ?_)
    refine L_ps c250 (n := 1) (pc1 := 38) (ls1 := [jR 0]) (st1 := [jR 0]) rfl ?_
    refine L_getP (d := 247) (c250 38 rfl) hM rt0 rfl ?_
    refine L_getI (c250 41 rfl) hM rt247 rfl ?_
    exact L_retI (c250 44 rfl) (hQ _ _ _ hM h)
  · exact L_throw (k := 0) (c250 10 rfl) (hX _ _ _ (Rl_throw hM) h)
theorem k_Lw_undo {E : JE2} {μ : Mem} {M : JM} {Q : Int → Mem → Prop} (hM : Rl E M μ) (h : d_Lw_undo μ Q) : JX 249 0 (jargs 249 [jR 0, jR 795]) [] M (PO E (QI Q) XN) := by
  unfold d_Lw_undo at h
  show JX 249 0 [jR 0, jR 795, jU] [] M (PO E (QI Q) XN)
  generalize hP : PO E (QI Q) XN = P
  have hQ : ∀ (r : Int) (M1 : JM) (μ1 : Mem), Rl E M1 μ1 → Q r μ1 → P (.inl (some (.inl r))) M1 := by rw [← hP]; exact fun r M1 μ1 a b => ⟨μ1, a, r, rfl, b⟩
  clear hP
  refine L_ps c249 (n := 3) (pc1 := 3) (ls1 := [jR 0, jR 795, jU]) (st1 := [jR 0, jI 0, jR 795]) rfl ?_
  refine L_cIH (c249 3 rfl) (js_v rfl ((Rl_tag hM rt0 (by decide)).trans js250)) (k_OB_undo hM h) (fun r1 M μ2 hM h => ?_) (fun k M μx hM h => ?_)
  · refine L_ps c249 (n := 1) (pc1 := 7) (ls1 := [jR 0, jR 795, jU]) (st1 := [jX (.long ((Int32.ofInt r1).toInt64)), jI 0, jR 795]) rfl ?_
    refine L_last (c249 7 rfl) hM rt795 ln795 (by decide) (fun M hM => ?_)
    refine L_ps c249 (n := 2) (pc1 := 15) (ls1 := [jR 0, jR 795, jU]) (st1 := [jI 0]) rfl ?_
    exact L_retI (c249 15 rfl) (hQ _ _ _ hM h)
  · by_cases hk0 : k = 0
    · rw [if_pos hk0] at h
      subst hk0
      refine JH_of (h := 11) (i := 2) (pc1 := 12) (ls1 := [jR 0, jR 795, jU]) rfl rfl (Nat.le_of_ble_eq_true rfl) rfl rfl ?_
      refine L_ps c249 (n := 1) (pc1 := 13) (ls1 := [jR 0, jR 795, jU]) (st1 := [jI 1]) rfl ?_
      exact L_retI (c249 13 rfl) (hQ _ _ _ hM h)
    rw [if_neg hk0] at h
    exact h.elim
theorem k_OB_saveState {E : JE2} {v1 : Int} {μ : Mem} {M : JM} {Q : Int → Mem → Prop} {X : Nat → Mem → Prop} (hM : Rl E M μ) (h : d_OB_saveState v1 μ Q X) : JX 253 0 (jargs 253 [jR 0, jI v1]) [] M (PO E (QI Q) X) := by
  unfold d_OB_saveState at h
  show JX 253 0 [jR 0, jI v1] [] M (PO E (QI Q) X)
  generalize hP : PO E (QI Q) X = P
  have hQ : ∀ (r : Int) (M1 : JM) (μ1 : Mem), Rl E M1 μ1 → Q r μ1 → P (.inl (some (.inl r))) M1 := by rw [← hP]; exact fun r M1 μ1 a b => ⟨μ1, a, r, rfl, b⟩
  have hX : ∀ (k : Nat) (M1 : JM) (μ1 : Mem), Rl E M1 μ1 → X k μ1 → P (.inr k) M1 := by rw [← hP]; exact fun k M1 μ1 a b => ⟨μ1, a, b⟩
  clear hP
  refine L_ps c253 (n := 1) (pc1 := 1) (ls1 := [jR 0, jI v1]) (st1 := [jR 0]) rfl ?_
  refine L_cV (c253 1 rfl) (js_v rfl ((Rl_tag hM rt0 (by decide)).trans js86)) hh253 (k_OB_requireSystem hM h) (fun M μ2 hM h => ?_) (fun k M μx hM hx => hX _ _ _ hM hx)
  refine L_ps c253 (n := 3) (pc1 := 7) (ls1 := [jR 0, jI v1]) (st1 := [jI 2, jI v1, jR 0]) rfl ?_
  refine L_cV (c253 7 rfl) (js_v rfl ((Rl_tag hM rt0 (by decide)).trans js89)) hh253 (k_OB_requireIndex hM h) (fun M μ4 hM h => ?_) (fun k M μx hM hx => hX _ _ _ hM hx)
  refine L_ps c253 (n := 1) (pc1 := 11) (ls1 := [jR 0, jI v1]) (st1 := [jI v1]) rfl ?_
  refine L_nb (p1 := 33) (p2 := 14) (c253 11 rfl) rfl jc_ne h (fun h => ?_) (fun h => ?_)
  · refine L_ps c253 (n := 1) (pc1 := 15) (ls1 := [jR 0, jI v1]) (st1 := [jR 0]) rfl ?_
    refine L_getP (d := 665) (c253 15 rfl) hM rt0 rfl ?_
    refine L_ps c253 (n := 1) (pc1 := 19) (ls1 := [jR 0, jI v1]) (st1 := [jR 0, jR 665]) rfl ?_
    refine L_getP (d := 5) (c253 19 rfl) hM rt0 rfl ?_
    refine L_cV (c253 22 rfl) (js_v rfl ((Rl_tag hM rt665 (by decide)).trans js82)) hh253 (k_State_copyFrom rt665 rt5 hM h) (fun M μ6 hM h => ?_) (fun _ _ _ _ f => f.elim)
    refine L_ps c253 (n := 2) (pc1 := 27) (ls1 := [jR 0, jI v1]) (st1 := [jI 1, jR 0]) rfl ?_
    refine L_putB (t := 10) (c253 27 rfl) hM rt0 rfl (Or.inr rfl) (fun M hM => ?_)
    refine L_ps c253 (n := 2) (pc1 := 50) (ls1 := [jR 0, jI v1]) (st1 := [jR 0]) rfl ?_
    refine L_getP (d := 5) (c253 50 rfl) hM rt0 rfl ?_
    refine L_getI (c253 53 rfl) hM rt5 rfl ?_
    exact L_retI (c253 56 rfl) (hQ _ _ _ hM h)
  · refine L_ps c253 (n := 1) (pc1 := 34) (ls1 := [jR 0, jI v1]) (st1 := [jR 0]) rfl ?_
    refine L_getP (d := 717) (c253 34 rfl) hM rt0 rfl ?_
    refine L_ps c253 (n := 1) (pc1 := 38) (ls1 := [jR 0, jI v1]) (st1 := [jR 0, jR 717]) rfl ?_
    refine L_getP (d := 5) (c253 38 rfl) hM rt0 rfl ?_
    refine L_cV (c253 41 rfl) (js_v rfl ((Rl_tag hM rt717 (by decide)).trans js82)) hh253 (k_State_copyFrom rt717 rt5 hM h) (fun M μ8 hM h => ?_) (fun _ _ _ _ f => f.elim)
    refine L_ps c253 (n := 2) (pc1 := 46) (ls1 := [jR 0, jI v1]) (st1 := [jI 1, jR 0]) rfl ?_
    refine L_putB (t := 10) (c253 46 rfl) hM rt0 rfl (Or.inr rfl) (fun M hM => ?_)
    refine L_ps c253 (n := 1) (pc1 := 50) (ls1 := [jR 0, jI v1]) (st1 := [jR 0]) rfl ?_
    refine L_getP (d := 5) (c253 50 rfl) hM rt0 rfl ?_
    refine L_getI (c253 53 rfl) hM rt5 rfl ?_
    exact L_retI (c253 56 rfl) (hQ _ _ _ hM h)
theorem k_Lw_saveState {E : JE2} {v1 : Int} {μ : Mem} {M : JM} {Q : Int → Mem → Prop} (hM : Rl E M μ) (h : d_Lw_saveState v1 μ Q) : JX 252 0 (jargs 252 [jR 0, jI v1, jR 795]) [] M (PO E (QI Q) XN) := by
  unfold d_Lw_saveState at h
  show JX 252 0 [jR 0, jI v1, jR 795, jU] [] M (PO E (QI Q) XN)
  generalize hP : PO E (QI Q) XN = P
  have hQ : ∀ (r : Int) (M1 : JM) (μ1 : Mem), Rl E M1 μ1 → Q r μ1 → P (.inl (some (.inl r))) M1 := by rw [← hP]; exact fun r M1 μ1 a b => ⟨μ1, a, r, rfl, b⟩
  clear hP
  refine L_ps c252 (n := 4) (pc1 := 4) (ls1 := [jR 0, jI v1, jR 795, jU]) (st1 := [jI v1, jR 0, jI 0, jR 795]) rfl ?_
  refine L_cIH (c252 4 rfl) (js_v rfl ((Rl_tag hM rt0 (by decide)).trans js253)) (k_OB_saveState hM h) (fun r1 M μ2 hM h => ?_) (fun k M μx hM h => ?_)
  · refine L_ps c252 (n := 1) (pc1 := 8) (ls1 := [jR 0, jI v1, jR 795, jU]) (st1 := [jX (.long ((Int32.ofInt r1).toInt64)), jI 0, jR 795]) rfl ?_
    refine L_last (c252 8 rfl) hM rt795 ln795 (by decide) (fun M hM => ?_)
    refine L_ps c252 (n := 2) (pc1 := 19) (ls1 := [jR 0, jI v1, jR 795, jU]) (st1 := [jI 0]) rfl ?_
    exact L_retI (c252 19 rfl) (hQ _ _ _ hM h)
  · by_cases hk0 : k = 0
    · rw [if_pos hk0] at h
      subst hk0
      refine JH_of (h := 12) (i := 3) (pc1 := 13) (ls1 := [jR 0, jI v1, jR 795, jU]) rfl rfl (Nat.le_of_ble_eq_true rfl) rfl rfl ?_
      refine L_ps c252 (n := 1) (pc1 := 14) (ls1 := [jR 0, jI v1, jR 795, jU]) (st1 := [jI 1]) rfl ?_
      exact L_retI (c252 14 rfl) (hQ _ _ _ hM h)
    rw [if_neg hk0] at h
    by_cases hk1 : k = 1
    · rw [if_pos hk1] at h
      subst hk1
      refine JH_of (h := 15) (i := 3) (pc1 := 16) (ls1 := [jR 0, jI v1, jR 795, jU]) rfl rfl (Nat.le_of_ble_eq_true rfl) rfl rfl ?_
      refine L_ps c252 (n := 1) (pc1 := 17) (ls1 := [jR 0, jI v1, jR 795, jU]) (st1 := [jI 2]) rfl ?_
      exact L_retI (c252 17 rfl) (hQ _ _ _ hM h)
    rw [if_neg hk1] at h
    exact h.elim
theorem k_OB_restoreState_j50 {E : JE2} {t1 : Nat} {μ : Mem} {M : JM} {P : JO → JM → Prop} {g1 : JV} {g2 : JV} {Q : Int → Mem → Prop} {X : Nat → Mem → Prop} (hg1 : jc2 g1 = false) (ht1 : rt t1 = 7) (hM : Rl E M μ) (hQ : ∀ (r : Int) (M1 : JM) (μ1 : Mem), Rl E M1 μ1 → Q r μ1 → P (.inl (some (.inl r))) M1) (hX : ∀ (k : Nat) (M1 : JM) (μ1 : Mem), Rl E M1 μ1 → X k μ1 → P (.inr k) M1) (h : d_OB_restoreState_j50 t1 μ Q X) : JX 255 50 [jR 0, g1, g2] [jR t1, jR 0] M P := by
  unfold d_OB_restoreState_j50 at h
  refine L_cV (c255 50 rfl) (js_v rfl ((Rl_tag hM rt0 (by decide)).trans js81)) hh255 (k_OB_adopt ht1 hM h) (fun M μ4 hM h => ?_) (fun _ _ _ _ f => f.elim)
  refine L_ps c255 (n := 1) (pc1 := 54) (ls1 := [jR 0, g1, g2]) (st1 := [jR 0]) rfl ?_
  refine L_getP (d := 5) (c255 54 rfl) hM rt0 rfl ?_
  refine L_getI (c255 57 rfl) hM rt5 rfl ?_
  exact L_retI (c255 60 rfl) (hQ _ _ _ hM h)
theorem k_OB_restoreState_j21 {E : JE2} {v1 : Int} {t0 : Int} {μ : Mem} {M : JM} {P : JO → JM → Prop} {g2 : JV} {Q : Int → Mem → Prop} {X : Nat → Mem → Prop} (hM : Rl E M μ) (hQ : ∀ (r : Int) (M1 : JM) (μ1 : Mem), Rl E M1 μ1 → Q r μ1 → P (.inl (some (.inl r))) M1) (hX : ∀ (k : Nat) (M1 : JM) (μ1 : Mem), Rl E M1 μ1 → X k μ1 → P (.inr k) M1) (h : d_OB_restoreState_j21 v1 t0 μ Q X) : JX 255 21 [jR 0, jI v1, g2] [jI t0] M P := by
  unfold d_OB_restoreState_j21 at h
  refine L_ps c255 (n := 2) (pc1 := 23) (ls1 := [jR 0, jI v1, jI t0]) (st1 := [jI t0]) rfl ?_
  refine L_nb (p1 := 34) (p2 := 26) (c255 23 rfl) rfl jc_ne h (fun h => ?_) (fun h => ?_)
  · exact L_throw (k := 0) (c255 26 rfl) (hX _ _ _ (Rl_throw hM) h)
  · refine L_ps c255 (n := 2) (pc1 := 36) (ls1 := [jR 0, jI v1, jI t0]) (st1 := [jI v1, jR 0]) rfl ?_
    refine L_nb (p1 := 46) (p2 := 39) (c255 36 rfl) rfl jc_ne h (fun h => ?_) (fun h => ?_)
    · refine L_ps c255 (n := 1) (pc1 := 40) (ls1 := [jR 0, jI v1, jI t0]) (st1 := [jR 0, jR 0]) rfl ?_
      refine L_getP (d := 665) (c255 40 rfl) hM rt0 rfl ?_
      refine L_ps c255 (n := 1) (pc1 := 50) (ls1 := [jR 0, jI v1, jI t0]) (st1 := [jR 665, jR 0]) rfl ?_
      exact k_OB_restoreState_j50 rfl rt665 hM hQ hX h
    · refine L_ps c255 (n := 1) (pc1 := 47) (ls1 := [jR 0, jI v1, jI t0]) (st1 := [jR 0, jR 0]) rfl ?_
      refine L_getP (d := 717) (c255 47 rfl) hM rt0 rfl ?_
      exact k_OB_restoreState_j50 rfl rt717 hM hQ hX h
theorem k_OB_restoreState {E : JE2} {v1 : Int} {μ : Mem} {M : JM} {Q : Int → Mem → Prop} {X : Nat → Mem → Prop} (hM : Rl E M μ) (h : d_OB_restoreState v1 μ Q X) : JX 255 0 (jargs 255 [jR 0, jI v1]) [] M (PO E (QI Q) X) := by
  unfold d_OB_restoreState at h
  show JX 255 0 [jR 0, jI v1, jU] [] M (PO E (QI Q) X)
  generalize hP : PO E (QI Q) X = P
  have hQ : ∀ (r : Int) (M1 : JM) (μ1 : Mem), Rl E M1 μ1 → Q r μ1 → P (.inl (some (.inl r))) M1 := by rw [← hP]; exact fun r M1 μ1 a b => ⟨μ1, a, r, rfl, b⟩
  have hX : ∀ (k : Nat) (M1 : JM) (μ1 : Mem), Rl E M1 μ1 → X k μ1 → P (.inr k) M1 := by rw [← hP]; exact fun k M1 μ1 a b => ⟨μ1, a, b⟩
  clear hP
  refine L_ps c255 (n := 3) (pc1 := 3) (ls1 := [jR 0, jI v1, jU]) (st1 := [jI 2, jI v1, jR 0]) rfl ?_
  refine L_cV (c255 3 rfl) (js_v rfl ((Rl_tag hM rt0 (by decide)).trans js89)) hh255 (k_OB_requireIndex hM h) (fun M μ2 hM h => ?_) (fun k M μx hM hx => hX _ _ _ hM hx)
  refine L_ps c255 (n := 1) (pc1 := 7) (ls1 := [jR 0, jI v1, jU]) (st1 := [jI v1]) rfl ?_
  refine L_nb (p1 := 17) (p2 := 10) (c255 7 rfl) rfl jc_ne h (fun h => ?_) (fun h => ?_)
  · refine L_ps c255 (n := 1) (pc1 := 11) (ls1 := [jR 0, jI v1, jU]) (st1 := [jR 0]) rfl ?_
    refine L_getI (c255 11 rfl) hM rt0 rfl ?_
    refine L_ps c255 (n := 1) (pc1 := 21) (ls1 := [jR 0, jI v1, jU]) (st1 := [jI (μ2 0 11)]) rfl ?_
    exact k_OB_restoreState_j21 hM hQ hX h
  · refine L_ps c255 (n := 1) (pc1 := 18) (ls1 := [jR 0, jI v1, jU]) (st1 := [jR 0]) rfl ?_
    refine L_getI (c255 18 rfl) hM rt0 rfl ?_
    exact k_OB_restoreState_j21 hM hQ hX h
theorem k_Lw_restoreState {E : JE2} {v1 : Int} {μ : Mem} {M : JM} {Q : Int → Mem → Prop} (hM : Rl E M μ) (h : d_Lw_restoreState v1 μ Q) : JX 254 0 (jargs 254 [jR 0, jI v1, jR 795]) [] M (PO E (QI Q) XN) := by
  unfold d_Lw_restoreState at h
  show JX 254 0 [jR 0, jI v1, jR 795, jU] [] M (PO E (QI Q) XN)
  generalize hP : PO E (QI Q) XN = P
  have hQ : ∀ (r : Int) (M1 : JM) (μ1 : Mem), Rl E M1 μ1 → Q r μ1 → P (.inl (some (.inl r))) M1 := by rw [← hP]; exact fun r M1 μ1 a b => ⟨μ1, a, r, rfl, b⟩
  clear hP
  refine L_ps c254 (n := 4) (pc1 := 4) (ls1 := [jR 0, jI v1, jR 795, jU]) (st1 := [jI v1, jR 0, jI 0, jR 795]) rfl ?_
  refine L_cIH (c254 4 rfl) (js_v rfl ((Rl_tag hM rt0 (by decide)).trans js255)) (k_OB_restoreState hM h) (fun r1 M μ2 hM h => ?_) (fun k M μx hM h => ?_)
  · refine L_ps c254 (n := 1) (pc1 := 8) (ls1 := [jR 0, jI v1, jR 795, jU]) (st1 := [jX (.long ((Int32.ofInt r1).toInt64)), jI 0, jR 795]) rfl ?_
    refine L_last (c254 8 rfl) hM rt795 ln795 (by decide) (fun M hM => ?_)
    refine L_ps c254 (n := 2) (pc1 := 19) (ls1 := [jR 0, jI v1, jR 795, jU]) (st1 := [jI 0]) rfl ?_
    exact L_retI (c254 19 rfl) (hQ _ _ _ hM h)
  · by_cases hk1 : k = 1
    · rw [if_pos hk1] at h
      subst hk1
      refine JH_of (h := 12) (i := 3) (pc1 := 13) (ls1 := [jR 0, jI v1, jR 795, jU]) rfl rfl (Nat.le_of_ble_eq_true rfl) rfl rfl ?_
      refine L_ps c254 (n := 1) (pc1 := 14) (ls1 := [jR 0, jI v1, jR 795, jU]) (st1 := [jI 1]) rfl ?_
      exact L_retI (c254 14 rfl) (hQ _ _ _ hM h)
    rw [if_neg hk1] at h
    by_cases hk0 : k = 0
    · rw [if_pos hk0] at h
      subst hk0
      refine JH_of (h := 15) (i := 3) (pc1 := 16) (ls1 := [jR 0, jI v1, jR 795, jU]) rfl rfl (Nat.le_of_ble_eq_true rfl) rfl rfl ?_
      refine L_ps c254 (n := 1) (pc1 := 17) (ls1 := [jR 0, jI v1, jR 795, jU]) (st1 := [jI 2]) rfl ?_
      exact L_retI (c254 17 rfl) (hQ _ _ _ hM h)
    rw [if_neg hk0] at h
    exact h.elim
theorem k_Md_thrown {E : JE2} {μ : Mem} {M : JM} {Q : Int → Prop} (hM : Rl E M μ) (h : d_Md_thrown μ Q) : JX 257 0 (jargs 257 [jR 772]) [] M (PO E (pQI μ Q) XN) := by
  unfold d_Md_thrown at h
  show JX 257 0 [jR 772] [] M (PO E (pQI μ Q) XN)
  generalize hP : PO E (pQI μ Q) XN = P
  have hQ : ∀ (r : Int) (M1 : JM), Rl E M1 μ → Q r → P (.inl (some (.inl r))) M1 := by rw [← hP]; exact fun r M1 a b => ⟨μ, a, rfl, r, rfl, b⟩
  clear hP
  refine L_ps c257 (n := 1) (pc1 := 1) (ls1 := [jR 772]) (st1 := [jR 772]) rfl ?_
  refine L_getI (c257 1 rfl) hM rt772 rfl ?_
  exact L_retI (c257 4 rfl) (hQ _ _ hM h)
theorem k_Md_four_b2 {E : JE2} {v1 : Int} {v2 : Int} {μ : Mem} {M : JM} {P : JO → JM → Prop} {W2 : Int → Mem → Prop} {Q : Mem → Prop} (hM : Rl E M μ) (hQ : ∀ (M1 : JM) (μ1 : Mem), Rl E M1 μ1 → Q μ1 → P (.inl none) M1) (hW2 : ∀ (v2 : Int) (M1 : JM) (μ1 : Mem), Rl E M1 μ1 → W2 v2 μ1 → JX 259 2 [jR 772, jI v1, jI v2] [] M1 P) (h : d_Md_four_b2 v1 v2 μ W2 Q) : JX 259 2 [jR 772, jI v1, jI v2] [] M P := by
  unfold d_Md_four_b2 at h
  refine L_ps c259 (n := 1) (pc1 := 3) (ls1 := [jR 772, jI v1, jI v2]) (st1 := [jI v2]) rfl ?_
  refine L_br (p1 := 38) (p2 := 6) (c259 3 rfl) rfl jc_lt h (fun h => ?_) (fun h => ?_)
  · exact L_end (c259 38 rfl) rfl (hQ _ _ hM h)
  · refine L_ps c259 (n := 1) (pc1 := 7) (ls1 := [jR 772, jI v1, jI v2]) (st1 := [jR 772]) rfl ?_
    refine L_getP (d := 6) (c259 7 rfl) hM rt772 rfl ?_
    refine L_ps c259 (n := 1) (pc1 := 11) (ls1 := [jR 772, jI v1, jI v2]) (st1 := [jR 772, jR 778]) rfl ?_
    refine L_getI (c259 11 rfl) hM rt772 rfl ?_
    refine L_ps c259 (n := 6) (pc1 := 21) (ls1 := [jR 772, jI v1, jI v2]) (st1 := [jI (jb8 (jshr v1 (wr (8 * v2)))), jI (μ 772 9), jR 778]) rfl ?_
    obtain ⟨hb, h⟩ := h
    refine L_bast (c259 21 rfl) hM rt778 ln778 hb (fun M hM => ?_)
    refine L_ps c259 (n := 2) (pc1 := 24) (ls1 := [jR 772, jI v1, jI v2]) (st1 := [jR 772, jR 772]) rfl ?_
    refine L_getI (c259 24 rfl) hM rt772 rfl ?_
    refine L_ps c259 (n := 2) (pc1 := 29) (ls1 := [jR 772, jI v1, jI v2]) (st1 := [jI (wr (((mup μ 778 (μ 772 9).toNat (jb8 (jb8 (jshr v1 (wr (8 * v2)))))) 772 9) + 1)), jR 772]) rfl ?_
    refine L_putI (c259 29 rfl) hM rt772 rfl (fun M hM => ?_)
    refine L_ps c259 (n := 2) (pc1 := 2) (ls1 := [jR 772, jI v1, jI (wr (v2 + (-1)))]) (st1 := []) rfl ?_
    exact hW2 _ _ _ hM h
theorem k_Md_four_l2 {E : JE2} {v1 : Int} {v2 : Int} {μ : Mem} {M : JM} {P : JO → JM → Prop} {Q : Mem → Prop} (hM : Rl E M μ) (hQ : ∀ (M1 : JM) (μ1 : Mem), Rl E M1 μ1 → Q μ1 → P (.inl none) M1) (h : d_Md_four_l2 v1 v2 μ Q) : JX 259 2 [jR 772, jI v1, jI v2] [] M P := by
  refine h (fun v2 μ => ∀ (M : JM), Rl E M μ → JX 259 2 [jR 772, jI v1, jI v2] [] M P) ?_ _ hM
  intro v2 μ h M hM
  exact k_Md_four_b2 hM hQ (fun v2 M μ hM h => h M hM) h
theorem k_Md_four {E : JE2} {v1 : Int} {μ : Mem} {M : JM} {Q : Mem → Prop} (hM : Rl E M μ) (h : d_Md_four v1 μ Q) : JX 259 0 (jargs 259 [jR 772, jI v1]) [] M (PO E (QV Q) XN) := by
  unfold d_Md_four at h
  show JX 259 0 [jR 772, jI v1, jU] [] M (PO E (QV Q) XN)
  generalize hP : PO E (QV Q) XN = P
  have hQ : ∀ (M1 : JM) (μ1 : Mem), Rl E M1 μ1 → Q μ1 → P (.inl none) M1 := by rw [← hP]; exact fun M1 μ1 a b => ⟨μ1, a, rfl, b⟩
  clear hP
  refine L_ps c259 (n := 2) (pc1 := 2) (ls1 := [jR 772, jI v1, jI 3]) (st1 := []) rfl ?_
  exact k_Md_four_l2 hM hQ h
theorem k_Md_append {E : JE2} {v1 : Int} {v2 : Int} {v3 : Int} {v4 : Int} {v5 : Int} {μ : Mem} {M : JM} {Q : Int → Mem → Prop} (hM : Rl E M μ) (h : d_Md_append v1 v2 v3 v4 v5 μ Q) : JX 258 0 (jargs 258 [jR 772, jI v1, jI v2, jI v3, jI v4, jI v5]) [] M (PO E (QI Q) XN) := by
  unfold d_Md_append at h
  show JX 258 0 [jR 772, jI v1, jI v2, jI v3, jI v4, jI v5] [] M (PO E (QI Q) XN)
  generalize hP : PO E (QI Q) XN = P
  have hQ : ∀ (r : Int) (M1 : JM) (μ1 : Mem), Rl E M1 μ1 → Q r μ1 → P (.inl (some (.inl r))) M1 := by rw [← hP]; exact fun r M1 μ1 a b => ⟨μ1, a, r, rfl, b⟩
  clear hP
  refine L_ps c258 (n := 2) (pc1 := 2) (ls1 := [jR 772, jI v1, jI v2, jI v3, jI v4, jI v5]) (st1 := [jI 0, jR 772]) rfl ?_
  refine L_putI (c258 2 rfl) hM rt772 rfl (fun M hM => ?_)
  refine L_ps c258 (n := 1) (pc1 := 6) (ls1 := [jR 772, jI v1, jI v2, jI v3, jI v4, jI v5]) (st1 := [jR 772]) rfl ?_
  refine L_getI (c258 6 rfl) hM rt772 rfl ?_
  refine L_ps c258 (n := 1) (pc1 := 12) (ls1 := [jR 772, jI v1, jI v2, jI v3, jI v4, jI v5]) (st1 := [jI 480, jI ((mup μ 772 0 0) 772 9)]) rfl ?_
  refine L_nb (p1 := 17) (p2 := 15) (c258 12 rfl) rfl jc_le h (fun h => ?_) (fun h => ?_)
  · refine L_ps c258 (n := 1) (pc1 := 16) (ls1 := [jR 772, jI v1, jI v2, jI v3, jI v4, jI v5]) (st1 := [jI (-1)]) rfl ?_
    exact L_retI (c258 16 rfl) (hQ _ _ _ hM h)
  · refine L_ps c258 (n := 2) (pc1 := 19) (ls1 := [jR 772, jI v1, jI v2, jI v3, jI v4, jI v5]) (st1 := [jI v1, jR 772]) rfl ?_
    refine L_cV (c258 19 rfl) (js_v rfl ((Rl_tag hM rt772 (by decide)).trans js259)) hh258 (k_Md_four hM h) (fun M μ2 hM h => ?_) (fun _ _ _ _ f => f.elim)
    refine L_ps c258 (n := 2) (pc1 := 24) (ls1 := [jR 772, jI v1, jI v2, jI v3, jI v4, jI v5]) (st1 := [jI v2, jR 772]) rfl ?_
    refine L_cV (c258 24 rfl) (js_v rfl ((Rl_tag hM rt772 (by decide)).trans js259)) hh258 (k_Md_four hM h) (fun M μ4 hM h => ?_) (fun _ _ _ _ f => f.elim)
    refine L_ps c258 (n := 2) (pc1 := 29) (ls1 := [jR 772, jI v1, jI v2, jI v3, jI v4, jI v5]) (st1 := [jI v3, jR 772]) rfl ?_
    refine L_cV (c258 29 rfl) (js_v rfl ((Rl_tag hM rt772 (by decide)).trans js259)) hh258 (k_Md_four hM h) (fun M μ6 hM h => ?_) (fun _ _ _ _ f => f.elim)
    refine L_ps c258 (n := 2) (pc1 := 35) (ls1 := [jR 772, jI v1, jI v2, jI v3, jI v4, jI v5]) (st1 := [jI v4, jR 772]) rfl ?_
    refine L_cV (c258 35 rfl) (js_v rfl ((Rl_tag hM rt772 (by decide)).trans js259)) hh258 (k_Md_four hM h) (fun M μ8 hM h => ?_) (fun _ _ _ _ f => f.elim)
    refine L_ps c258 (n := 2) (pc1 := 41) (ls1 := [jR 772, jI v1, jI v2, jI v3, jI v4, jI v5]) (st1 := [jI v5, jR 772]) rfl ?_
    refine L_cV (c258 41 rfl) (js_v rfl ((Rl_tag hM rt772 (by decide)).trans js259)) hh258 (k_Md_four hM h) (fun M μ10 hM h => ?_) (fun _ _ _ _ f => f.elim)
    refine L_ps c258 (n := 1) (pc1 := 45) (ls1 := [jR 772, jI v1, jI v2, jI v3, jI v4, jI v5]) (st1 := [jR 772]) rfl ?_
    refine L_getI (c258 45 rfl) hM rt772 rfl ?_
    exact L_retI (c258 48 rfl) (hQ _ _ _ hM h)
theorem k_Md_told {E : JE2} {v1 : Int} {μ : Mem} {M : JM} {Q : Int → Mem → Prop} (hM : Rl E M μ) (h : d_Md_told v1 μ Q) : JX 261 0 (jargs 261 [jR 772, jI v1]) [] M (PO E (QI Q) XN) := by
  unfold d_Md_told at h
  show JX 261 0 [jR 772, jI v1] [] M (PO E (QI Q) XN)
  generalize hP : PO E (QI Q) XN = P
  have hQ : ∀ (r : Int) (M1 : JM) (μ1 : Mem), Rl E M1 μ1 → Q r μ1 → P (.inl (some (.inl r))) M1 := by rw [← hP]; exact fun r M1 μ1 a b => ⟨μ1, a, r, rfl, b⟩
  clear hP
  refine L_ps c261 (n := 2) (pc1 := 2) (ls1 := [jR 772, jI v1]) (st1 := [jI 0, jR 772]) rfl ?_
  refine L_putI (c261 2 rfl) hM rt772 rfl (fun M hM => ?_)
  refine L_ps c261 (n := 1) (pc1 := 6) (ls1 := [jR 772, jI v1]) (st1 := [jI v1]) rfl ?_
  exact L_retI (c261 6 rfl) (hQ _ _ _ hM h)
theorem k_Md_parseErrorCode {E : JE2} {μ : Mem} {M : JM} {Q : Int → Mem → Prop} (hM : Rl E M μ) (h : d_Md_parseErrorCode μ Q) : JX 260 0 (jargs 260 [jR 772]) [] M (PO E (QI Q) XN) := by
  unfold d_Md_parseErrorCode at h
  show JX 260 0 [jR 772] [] M (PO E (QI Q) XN)
  generalize hP : PO E (QI Q) XN = P
  have hQ : ∀ (r : Int) (M1 : JM) (μ1 : Mem), Rl E M1 μ1 → Q r μ1 → P (.inl (some (.inl r))) M1 := by rw [← hP]; exact fun r M1 μ1 a b => ⟨μ1, a, r, rfl, b⟩
  clear hP
  refine L_ps c260 (n := 2) (pc1 := 2) (ls1 := [jR 772]) (st1 := [jR 772, jR 772]) rfl ?_
  refine L_getI (c260 2 rfl) hM rt772 rfl ?_
  refine L_cI (c260 5 rfl) (js_v rfl ((Rl_tag hM rt772 (by decide)).trans js261)) hh260 (k_Md_told hM h) (fun r1 M μ2 hM h => ?_) (fun _ _ _ _ f => f.elim)
  exact L_retI (c260 8 rfl) (hQ _ _ _ hM h)
