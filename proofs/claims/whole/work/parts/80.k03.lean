/-! that the printed tables do what the texts say (written by wip/gen/dec.py), 3 -/
theorem k_OB_innermostRedex {E : JE2} {v1 : Int} {μ : Mem} {M : JM} {Q : Int → Mem → Prop} {X : Nat → Mem → Prop} (hM : Rl E M μ) (h : d_OB_innermostRedex v1 μ Q X) : JX 142 0 (jargs 142 [jR 0, jI v1]) [] M (PO E (QI Q) X) := by
  unfold d_OB_innermostRedex at h
  show JX 142 0 [jR 0, jI v1] [] M (PO E (QI Q) X)
  generalize hP : PO E (QI Q) X = P
  have hQ : ∀ (r : Int) (M1 : JM) (μ1 : Mem), Rl E M1 μ1 → Q r μ1 → P (.inl (some (.inl r))) M1 := by rw [← hP]; exact fun r M1 μ1 a b => ⟨μ1, a, r, rfl, b⟩
  have hX : ∀ (k : Nat) (M1 : JM) (μ1 : Mem), Rl E M1 μ1 → X k μ1 → P (.inr k) M1 := by rw [← hP]; exact fun k M1 μ1 a b => ⟨μ1, a, b⟩
  clear hP
  refine L_ps c142 (n := 1) (pc1 := 1) (ls1 := [jR 0, jI v1]) (st1 := [jR 0]) rfl ?_
  refine L_getP (d := 57) (c142 1 rfl) hM rt0 rfl ?_
  refine L_ps c142 (n := 1) (pc1 := 5) (ls1 := [jR 0, jI v1]) (st1 := [jR 0, jR 57]) rfl ?_
  refine L_getP (d := 5) (c142 5 rfl) hM rt0 rfl ?_
  refine L_ps c142 (n := 2) (pc1 := 10) (ls1 := [jR 0, jI v1]) (st1 := [jI v1, jR 0, jR 5, jR 57]) rfl ?_
  refine L_cR (c142 10 rfl) (js_v rfl ((Rl_tag hM rt0 (by decide)).trans js114)) hh142 (k_OB_requireTerm hM h) (fun r1 M μ2 hM hr1 h => ?_) (fun k M μx hM hx => hX _ _ _ hM hx)
  refine L_ps c142 (n := 1) (pc1 := 14) (ls1 := [jR 0, jI v1]) (st1 := [jI 1, jR r1, jR 5, jR 57]) rfl ?_
  refine L_cI (c142 14 rfl) (js_v rfl ((Rl_tag hM rt57 (by decide)).trans js70)) hh142 (k_Rewriter_redex rt57 rt5 hr1 hM h) (fun r3 M μ4 hM h => ?_) (fun _ _ _ _ f => f.elim)
  exact L_retI (c142 17 rfl) (hQ _ _ _ hM h)
theorem k_Lw_innermostRedex {E : JE2} {v1 : Int} {μ : Mem} {M : JM} {Q : Int → Mem → Prop} (hM : Rl E M μ) (h : d_Lw_innermostRedex v1 μ Q) : JX 141 0 (jargs 141 [jR 0, jI v1, jR 795]) [] M (PO E (QI Q) XN) := by
  unfold d_Lw_innermostRedex at h
  show JX 141 0 [jR 0, jI v1, jR 795, jU] [] M (PO E (QI Q) XN)
  generalize hP : PO E (QI Q) XN = P
  have hQ : ∀ (r : Int) (M1 : JM) (μ1 : Mem), Rl E M1 μ1 → Q r μ1 → P (.inl (some (.inl r))) M1 := by rw [← hP]; exact fun r M1 μ1 a b => ⟨μ1, a, r, rfl, b⟩
  clear hP
  refine L_ps c141 (n := 4) (pc1 := 4) (ls1 := [jR 0, jI v1, jR 795, jU]) (st1 := [jI v1, jR 0, jI 0, jR 795]) rfl ?_
  refine L_cIH (c141 4 rfl) (js_v rfl ((Rl_tag hM rt0 (by decide)).trans js142)) (k_OB_innermostRedex hM h) (fun r1 M μ2 hM h => ?_) (fun k M μx hM h => ?_)
  · refine L_ps c141 (n := 1) (pc1 := 8) (ls1 := [jR 0, jI v1, jR 795, jU]) (st1 := [jX (.long ((Int32.ofInt r1).toInt64)), jI 0, jR 795]) rfl ?_
    refine L_last (c141 8 rfl) hM rt795 ln795 (by decide) (fun M hM => ?_)
    refine L_ps c141 (n := 2) (pc1 := 19) (ls1 := [jR 0, jI v1, jR 795, jU]) (st1 := [jI 0]) rfl ?_
    exact L_retI (c141 19 rfl) (hQ _ _ _ hM h)
  · by_cases hk0 : k = 0
    · rw [if_pos hk0] at h
      subst hk0
      refine JH_of (h := 12) (i := 3) (pc1 := 13) (ls1 := [jR 0, jI v1, jR 795, jU]) rfl rfl (Nat.le_of_ble_eq_true rfl) rfl rfl ?_
      refine L_ps c141 (n := 1) (pc1 := 14) (ls1 := [jR 0, jI v1, jR 795, jU]) (st1 := [jI 1]) rfl ?_
      exact L_retI (c141 14 rfl) (hQ _ _ _ hM h)
    rw [if_neg hk0] at h
    by_cases hk1 : k = 1
    · rw [if_pos hk1] at h
      subst hk1
      refine JH_of (h := 15) (i := 3) (pc1 := 16) (ls1 := [jR 0, jI v1, jR 795, jU]) rfl rfl (Nat.le_of_ble_eq_true rfl) rfl rfl ?_
      refine L_ps c141 (n := 1) (pc1 := 17) (ls1 := [jR 0, jI v1, jR 795, jU]) (st1 := [jI 2]) rfl ?_
      exact L_retI (c141 17 rfl) (hQ _ _ _ hM h)
    rw [if_neg hk1] at h
    exact h.elim
theorem k_OB_outermostRedex {E : JE2} {v1 : Int} {μ : Mem} {M : JM} {Q : Int → Mem → Prop} {X : Nat → Mem → Prop} (hM : Rl E M μ) (h : d_OB_outermostRedex v1 μ Q X) : JX 144 0 (jargs 144 [jR 0, jI v1]) [] M (PO E (QI Q) X) := by
  unfold d_OB_outermostRedex at h
  show JX 144 0 [jR 0, jI v1] [] M (PO E (QI Q) X)
  generalize hP : PO E (QI Q) X = P
  have hQ : ∀ (r : Int) (M1 : JM) (μ1 : Mem), Rl E M1 μ1 → Q r μ1 → P (.inl (some (.inl r))) M1 := by rw [← hP]; exact fun r M1 μ1 a b => ⟨μ1, a, r, rfl, b⟩
  have hX : ∀ (k : Nat) (M1 : JM) (μ1 : Mem), Rl E M1 μ1 → X k μ1 → P (.inr k) M1 := by rw [← hP]; exact fun k M1 μ1 a b => ⟨μ1, a, b⟩
  clear hP
  refine L_ps c144 (n := 1) (pc1 := 1) (ls1 := [jR 0, jI v1]) (st1 := [jR 0]) rfl ?_
  refine L_getP (d := 57) (c144 1 rfl) hM rt0 rfl ?_
  refine L_ps c144 (n := 1) (pc1 := 5) (ls1 := [jR 0, jI v1]) (st1 := [jR 0, jR 57]) rfl ?_
  refine L_getP (d := 5) (c144 5 rfl) hM rt0 rfl ?_
  refine L_ps c144 (n := 2) (pc1 := 10) (ls1 := [jR 0, jI v1]) (st1 := [jI v1, jR 0, jR 5, jR 57]) rfl ?_
  refine L_cR (c144 10 rfl) (js_v rfl ((Rl_tag hM rt0 (by decide)).trans js114)) hh144 (k_OB_requireTerm hM h) (fun r1 M μ2 hM hr1 h => ?_) (fun k M μx hM hx => hX _ _ _ hM hx)
  refine L_ps c144 (n := 1) (pc1 := 14) (ls1 := [jR 0, jI v1]) (st1 := [jI 0, jR r1, jR 5, jR 57]) rfl ?_
  refine L_cI (c144 14 rfl) (js_v rfl ((Rl_tag hM rt57 (by decide)).trans js70)) hh144 (k_Rewriter_redex rt57 rt5 hr1 hM h) (fun r3 M μ4 hM h => ?_) (fun _ _ _ _ f => f.elim)
  exact L_retI (c144 17 rfl) (hQ _ _ _ hM h)
theorem k_Lw_outermostRedex {E : JE2} {v1 : Int} {μ : Mem} {M : JM} {Q : Int → Mem → Prop} (hM : Rl E M μ) (h : d_Lw_outermostRedex v1 μ Q) : JX 143 0 (jargs 143 [jR 0, jI v1, jR 795]) [] M (PO E (QI Q) XN) := by
  unfold d_Lw_outermostRedex at h
  show JX 143 0 [jR 0, jI v1, jR 795, jU] [] M (PO E (QI Q) XN)
  generalize hP : PO E (QI Q) XN = P
  have hQ : ∀ (r : Int) (M1 : JM) (μ1 : Mem), Rl E M1 μ1 → Q r μ1 → P (.inl (some (.inl r))) M1 := by rw [← hP]; exact fun r M1 μ1 a b => ⟨μ1, a, r, rfl, b⟩
  clear hP
  refine L_ps c143 (n := 4) (pc1 := 4) (ls1 := [jR 0, jI v1, jR 795, jU]) (st1 := [jI v1, jR 0, jI 0, jR 795]) rfl ?_
  refine L_cIH (c143 4 rfl) (js_v rfl ((Rl_tag hM rt0 (by decide)).trans js144)) (k_OB_outermostRedex hM h) (fun r1 M μ2 hM h => ?_) (fun k M μx hM h => ?_)
  · refine L_ps c143 (n := 1) (pc1 := 8) (ls1 := [jR 0, jI v1, jR 795, jU]) (st1 := [jX (.long ((Int32.ofInt r1).toInt64)), jI 0, jR 795]) rfl ?_
    refine L_last (c143 8 rfl) hM rt795 ln795 (by decide) (fun M hM => ?_)
    refine L_ps c143 (n := 2) (pc1 := 19) (ls1 := [jR 0, jI v1, jR 795, jU]) (st1 := [jI 0]) rfl ?_
    exact L_retI (c143 19 rfl) (hQ _ _ _ hM h)
  · by_cases hk0 : k = 0
    · rw [if_pos hk0] at h
      subst hk0
      refine JH_of (h := 12) (i := 3) (pc1 := 13) (ls1 := [jR 0, jI v1, jR 795, jU]) rfl rfl (Nat.le_of_ble_eq_true rfl) rfl rfl ?_
      refine L_ps c143 (n := 1) (pc1 := 14) (ls1 := [jR 0, jI v1, jR 795, jU]) (st1 := [jI 1]) rfl ?_
      exact L_retI (c143 14 rfl) (hQ _ _ _ hM h)
    rw [if_neg hk0] at h
    by_cases hk1 : k = 1
    · rw [if_pos hk1] at h
      subst hk1
      refine JH_of (h := 15) (i := 3) (pc1 := 16) (ls1 := [jR 0, jI v1, jR 795, jU]) rfl rfl (Nat.le_of_ble_eq_true rfl) rfl rfl ?_
      refine L_ps c143 (n := 1) (pc1 := 17) (ls1 := [jR 0, jI v1, jR 795, jU]) (st1 := [jI 2]) rfl ?_
      exact L_retI (c143 17 rfl) (hQ _ _ _ hM h)
    rw [if_neg hk1] at h
    exact h.elim
theorem k_OB_isNormalForm {E : JE2} {v1 : Int} {μ : Mem} {M : JM} {Q : Bool → Mem → Prop} {X : Nat → Mem → Prop} (hM : Rl E M μ) (h : d_OB_isNormalForm v1 μ Q X) : JX 146 0 (jargs 146 [jR 0, jI v1]) [] M (PO E (QB Q) X) := by
  unfold d_OB_isNormalForm at h
  show JX 146 0 [jR 0, jI v1] [] M (PO E (QB Q) X)
  generalize hP : PO E (QB Q) X = P
  have hQ : ∀ (r : Bool) (M1 : JM) (μ1 : Mem), Rl E M1 μ1 → Q r μ1 → P (.inl (some (.inl (b2i r)))) M1 := by rw [← hP]; exact fun r M1 μ1 a b => ⟨μ1, a, r, rfl, b⟩
  have hX : ∀ (k : Nat) (M1 : JM) (μ1 : Mem), Rl E M1 μ1 → X k μ1 → P (.inr k) M1 := by rw [← hP]; exact fun k M1 μ1 a b => ⟨μ1, a, b⟩
  clear hP
  refine L_ps c146 (n := 1) (pc1 := 1) (ls1 := [jR 0, jI v1]) (st1 := [jR 0]) rfl ?_
  refine L_getP (d := 57) (c146 1 rfl) hM rt0 rfl ?_
  refine L_ps c146 (n := 1) (pc1 := 5) (ls1 := [jR 0, jI v1]) (st1 := [jR 0, jR 57]) rfl ?_
  refine L_getP (d := 5) (c146 5 rfl) hM rt0 rfl ?_
  refine L_ps c146 (n := 2) (pc1 := 10) (ls1 := [jR 0, jI v1]) (st1 := [jI v1, jR 0, jR 5, jR 57]) rfl ?_
  refine L_cR (c146 10 rfl) (js_v rfl ((Rl_tag hM rt0 (by decide)).trans js114)) hh146 (k_OB_requireTerm hM h) (fun r1 M μ2 hM hr1 h => ?_) (fun k M μx hM hx => hX _ _ _ hM hx)
  refine L_ps c146 (n := 1) (pc1 := 14) (ls1 := [jR 0, jI v1]) (st1 := [jI 0, jR r1, jR 5, jR 57]) rfl ?_
  refine L_cI (c146 14 rfl) (js_v rfl ((Rl_tag hM rt57 (by decide)).trans js70)) hh146 (k_Rewriter_redex rt57 rt5 hr1 hM h) (fun r3 M μ4 hM h => ?_) (fun _ _ _ _ f => f.elim)
  refine L_ps c146 (n := 1) (pc1 := 18) (ls1 := [jR 0, jI v1]) (st1 := [jI (-1), jI r3]) rfl ?_
  refine L_nb (p1 := 25) (p2 := 21) (c146 18 rfl) rfl jc_ne h (fun h => ?_) (fun h => ?_)
  · refine L_ps c146 (n := 2) (pc1 := 26) (ls1 := [jR 0, jI v1]) (st1 := [jI 1]) rfl ?_
    exact L_retB (c146 26 rfl) (Or.inr rfl) (hQ true _ _ hM h)
  · refine L_ps c146 (n := 1) (pc1 := 26) (ls1 := [jR 0, jI v1]) (st1 := [jI 0]) rfl ?_
    exact L_retB (c146 26 rfl) (Or.inl rfl) (hQ false _ _ hM h)
theorem k_Lw_isNormalForm_j15 {E : JE2} {t1 : Int} {t2 : Int64} {μ : Mem} {M : JM} {P : JO → JM → Prop} {g0 : JV} {g1 : JV} {g2 : JV} {g3 : JV} {Q : Int → Mem → Prop} (hM : Rl E M μ) (hQ : ∀ (r : Int) (M1 : JM) (μ1 : Mem), Rl E M1 μ1 → Q r μ1 → P (.inl (some (.inl r))) M1) (h : d_Lw_isNormalForm_j15 t1 t2 μ Q) : JX 145 15 [g0, g1, g2, g3] [jX (.long t2), jI t1, jR 795] M P := by
  unfold d_Lw_isNormalForm_j15 at h
  obtain ⟨hb, h⟩ := h
  refine L_last (c145 15 rfl) hM rt795 ln795 hb (fun M hM => ?_)
  refine L_ps c145 (n := 2) (pc1 := 26) (ls1 := [g0, g1, g2, g3]) (st1 := [jI 0]) rfl ?_
  exact L_retI (c145 26 rfl) (hQ _ _ _ hM h)
theorem k_Lw_isNormalForm {E : JE2} {v1 : Int} {μ : Mem} {M : JM} {Q : Int → Mem → Prop} (hM : Rl E M μ) (h : d_Lw_isNormalForm v1 μ Q) : JX 145 0 (jargs 145 [jR 0, jI v1, jR 795]) [] M (PO E (QI Q) XN) := by
  unfold d_Lw_isNormalForm at h
  show JX 145 0 [jR 0, jI v1, jR 795, jU] [] M (PO E (QI Q) XN)
  generalize hP : PO E (QI Q) XN = P
  have hQ : ∀ (r : Int) (M1 : JM) (μ1 : Mem), Rl E M1 μ1 → Q r μ1 → P (.inl (some (.inl r))) M1 := by rw [← hP]; exact fun r M1 μ1 a b => ⟨μ1, a, r, rfl, b⟩
  clear hP
  refine L_ps c145 (n := 4) (pc1 := 4) (ls1 := [jR 0, jI v1, jR 795, jU]) (st1 := [jI v1, jR 0, jI 0, jR 795]) rfl ?_
  refine L_cBH (c145 4 rfl) (js_v rfl ((Rl_tag hM rt0 (by decide)).trans js146)) (k_OB_isNormalForm hM h) (fun r1 M μ2 hM h => ?_) (fun k M μx hM h => ?_)
  · refine L_nb (p1 := 14) (p2 := 10) (c145 7 rfl) rfl jc_eqb h (fun h => ?_) (fun h => ?_)
    · refine L_ps c145 (n := 2) (pc1 := 15) (ls1 := [jR 0, jI v1, jR 795, jU]) (st1 := [jX (.long (Int64.ofNat 1)), jI 0, jR 795]) rfl ?_
      exact k_Lw_isNormalForm_j15 hM hQ h
    · refine L_ps c145 (n := 1) (pc1 := 15) (ls1 := [jR 0, jI v1, jR 795, jU]) (st1 := [jX (.long (Int64.ofNat 0)), jI 0, jR 795]) rfl ?_
      exact k_Lw_isNormalForm_j15 hM hQ h
  · by_cases hk0 : k = 0
    · rw [if_pos hk0] at h
      subst hk0
      refine JH_of (h := 19) (i := 3) (pc1 := 20) (ls1 := [jR 0, jI v1, jR 795, jU]) rfl rfl (Nat.le_of_ble_eq_true rfl) rfl rfl ?_
      refine L_ps c145 (n := 1) (pc1 := 21) (ls1 := [jR 0, jI v1, jR 795, jU]) (st1 := [jI 1]) rfl ?_
      exact L_retI (c145 21 rfl) (hQ _ _ _ hM h)
    rw [if_neg hk0] at h
    by_cases hk1 : k = 1
    · rw [if_pos hk1] at h
      subst hk1
      refine JH_of (h := 22) (i := 3) (pc1 := 23) (ls1 := [jR 0, jI v1, jR 795, jU]) rfl rfl (Nat.le_of_ble_eq_true rfl) rfl rfl ?_
      refine L_ps c145 (n := 1) (pc1 := 24) (ls1 := [jR 0, jI v1, jR 795, jU]) (st1 := [jI 2]) rfl ?_
      exact L_retI (c145 24 rfl) (hQ _ _ _ hM h)
    rw [if_neg hk1] at h
    exact h.elim
theorem k_OB_normalShare_j46 {E : JE2} {v1 : Int} {v2 : Int} {μ : Mem} {M : JM} {P : JO → JM → Prop} {W8 : Int → Int → Mem → Prop} {Q : UInt32 → Mem → Prop} {X : Nat → Mem → Prop} (hM : Rl E M μ) (hQ : ∀ (r : UInt32) (M1 : JM) (μ1 : Mem), Rl E M1 μ1 → Q r μ1 → P (.inl (some (.inr (.inr (.float r))))) M1) (hX : ∀ (k : Nat) (M1 : JM) (μ1 : Mem), Rl E M1 μ1 → X k μ1 → P (.inr k) M1) (hW8 : ∀ (v1 : Int) (v2 : Int) (M1 : JM) (μ1 : Mem), Rl E M1 μ1 → W8 v1 v2 μ1 → JX 148 8 [jR 0, jI v1, jI v2] [] M1 P) (h : d_OB_normalShare_j46 v1 v2 μ W8 Q X) : JX 148 46 [jR 0, jI v1, jI v2] [] M P := by
  unfold d_OB_normalShare_j46 at h
  refine L_ps c148 (n := 2) (pc1 := 8) (ls1 := [jR 0, jI v1, jI (wr (v2 + 1))]) (st1 := []) rfl ?_
  exact hW8 _ _ _ _ hM h
theorem k_OB_normalShare_b8 {E : JE2} {v1 : Int} {v2 : Int} {μ : Mem} {M : JM} {P : JO → JM → Prop} {W8 : Int → Int → Mem → Prop} {Q : UInt32 → Mem → Prop} {X : Nat → Mem → Prop} (hM : Rl E M μ) (hQ : ∀ (r : UInt32) (M1 : JM) (μ1 : Mem), Rl E M1 μ1 → Q r μ1 → P (.inl (some (.inr (.inr (.float r))))) M1) (hX : ∀ (k : Nat) (M1 : JM) (μ1 : Mem), Rl E M1 μ1 → X k μ1 → P (.inr k) M1) (hW8 : ∀ (v1 : Int) (v2 : Int) (M1 : JM) (μ1 : Mem), Rl E M1 μ1 → W8 v1 v2 μ1 → JX 148 8 [jR 0, jI v1, jI v2] [] M1 P) (h : d_OB_normalShare_b8 v1 v2 μ W8 Q X) : JX 148 8 [jR 0, jI v1, jI v2] [] M P := by
  unfold d_OB_normalShare_b8 at h
  refine L_ps c148 (n := 2) (pc1 := 10) (ls1 := [jR 0, jI v1, jI v2]) (st1 := [jR 0, jI v2]) rfl ?_
  refine L_getP (d := 5) (c148 10 rfl) hM rt0 rfl ?_
  refine L_getI (c148 13 rfl) hM rt5 rfl ?_
  refine L_nb (p1 := 52) (p2 := 19) (c148 16 rfl) rfl jc_ge h (fun h => ?_) (fun h => ?_)
  · refine L_ps c148 (n := 1) (pc1 := 20) (ls1 := [jR 0, jI v1, jI v2]) (st1 := [jR 0]) rfl ?_
    refine L_getP (d := 57) (c148 20 rfl) hM rt0 rfl ?_
    refine L_ps c148 (n := 1) (pc1 := 24) (ls1 := [jR 0, jI v1, jI v2]) (st1 := [jR 0, jR 57]) rfl ?_
    refine L_getP (d := 5) (c148 24 rfl) hM rt0 rfl ?_
    refine L_ps c148 (n := 1) (pc1 := 28) (ls1 := [jR 0, jI v1, jI v2]) (st1 := [jR 0, jR 5, jR 57]) rfl ?_
    refine L_getP (d := 5) (c148 28 rfl) hM rt0 rfl ?_
    refine L_ps c148 (n := 1) (pc1 := 32) (ls1 := [jR 0, jI v1, jI v2]) (st1 := [jI v2, jR 5, jR 5, jR 57]) rfl ?_
    refine L_cpR (c148 32 rfl) (js_v rfl ((Rl_tag hM rt5 (by decide)).trans js61)) hh148 (k_State_term rt5 hM h) (fun r3 M hM hr3 h => ?_) (fun _ _ _ _ f => f.elim)
    refine L_ps c148 (n := 1) (pc1 := 36) (ls1 := [jR 0, jI v1, jI v2]) (st1 := [jI 0, jR r3, jR 5, jR 57]) rfl ?_
    refine L_cI (c148 36 rfl) (js_v rfl ((Rl_tag hM rt57 (by decide)).trans js70)) hh148 (k_Rewriter_redex rt57 rt5 hr3 hM h) (fun r5 M μ6 hM h => ?_) (fun _ _ _ _ f => f.elim)
    refine L_ps c148 (n := 1) (pc1 := 40) (ls1 := [jR 0, jI v1, jI v2]) (st1 := [jI (-1), jI r5]) rfl ?_
    refine L_nb (p1 := 46) (p2 := 43) (c148 40 rfl) rfl jc_ne h (fun h => ?_) (fun h => ?_)
    · refine L_ps c148 (n := 1) (pc1 := 46) (ls1 := [jR 0, jI (wr (v1 + 1)), jI v2]) (st1 := []) rfl ?_
      exact k_OB_normalShare_j46 hM hQ hX hW8 h
    · exact k_OB_normalShare_j46 hM hQ hX hW8 h
  · refine L_ps c148 (n := 1) (pc1 := 53) (ls1 := [jR 0, jI v1, jI v2]) (st1 := [jR 0]) rfl ?_
    refine L_getP (d := 5) (c148 53 rfl) hM rt0 rfl ?_
    refine L_getI (c148 56 rfl) hM rt5 rfl ?_
    refine L_nb (p1 := 66) (p2 := 62) (c148 59 rfl) rfl jc_ne h (fun h => ?_) (fun h => ?_)
    · refine L_ps c148 (n := 2) (pc1 := 77) (ls1 := [jR 0, jI v1, jI v2]) (st1 := [jX (.float (FP.fconst0))]) rfl ?_
      exact L_end (c148 77 rfl) rfl (hQ _ _ _ hM h)
    · refine L_ps c148 (n := 3) (pc1 := 69) (ls1 := [jR 0, jI v1, jI v2]) (st1 := [jR 0, jX (.float (FP.i2f (Int32.ofInt v1)))]) rfl ?_
      refine L_getP (d := 5) (c148 69 rfl) hM rt0 rfl ?_
      refine L_getI (c148 72 rfl) hM rt5 rfl ?_
      refine L_ps c148 (n := 1) (pc1 := 76) (ls1 := [jR 0, jI v1, jI v2]) (st1 := [jX (.float (FP.i2f (Int32.ofInt (μ 5 1)))), jX (.float (FP.i2f (Int32.ofInt v1)))]) rfl ?_
      obtain ⟨hn, h⟩ := h
      refine L_fdiv (c148 76 rfl) hn ?_
      exact L_end (c148 77 rfl) rfl (hQ _ _ _ hM h)
theorem k_OB_normalShare_l8 {E : JE2} {v1 : Int} {v2 : Int} {μ : Mem} {M : JM} {P : JO → JM → Prop} {Q : UInt32 → Mem → Prop} {X : Nat → Mem → Prop} (hM : Rl E M μ) (hQ : ∀ (r : UInt32) (M1 : JM) (μ1 : Mem), Rl E M1 μ1 → Q r μ1 → P (.inl (some (.inr (.inr (.float r))))) M1) (hX : ∀ (k : Nat) (M1 : JM) (μ1 : Mem), Rl E M1 μ1 → X k μ1 → P (.inr k) M1) (h : d_OB_normalShare_l8 v1 v2 μ Q X) : JX 148 8 [jR 0, jI v1, jI v2] [] M P := by
  refine h (fun v1 v2 μ => ∀ (M : JM), Rl E M μ → JX 148 8 [jR 0, jI v1, jI v2] [] M P) ?_ _ hM
  intro v1 v2 μ h M hM
  exact k_OB_normalShare_b8 hM hQ hX (fun v1 v2 M μ hM h => h M hM) h
theorem k_OB_normalShare {E : JE2} {μ : Mem} {M : JM} {Q : UInt32 → Mem → Prop} {X : Nat → Mem → Prop} (hM : Rl E M μ) (h : d_OB_normalShare μ Q X) : JX 148 0 (jargs 148 [jR 0]) [] M (PO E (QF Q) X) := by
  unfold d_OB_normalShare at h
  show JX 148 0 [jR 0, jU, jU] [] M (PO E (QF Q) X)
  generalize hP : PO E (QF Q) X = P
  have hQ : ∀ (r : UInt32) (M1 : JM) (μ1 : Mem), Rl E M1 μ1 → Q r μ1 → P (.inl (some (.inr (.inr (.float r))))) M1 := by rw [← hP]; exact fun r M1 μ1 a b => ⟨μ1, a, r, rfl, b⟩
  have hX : ∀ (k : Nat) (M1 : JM) (μ1 : Mem), Rl E M1 μ1 → X k μ1 → P (.inr k) M1 := by rw [← hP]; exact fun k M1 μ1 a b => ⟨μ1, a, b⟩
  clear hP
  refine L_ps c148 (n := 1) (pc1 := 1) (ls1 := [jR 0, jU, jU]) (st1 := [jR 0]) rfl ?_
  refine L_cV (c148 1 rfl) (js_v rfl ((Rl_tag hM rt0 (by decide)).trans js86)) hh148 (k_OB_requireSystem hM h) (fun M μ2 hM h => ?_) (fun k M μx hM hx => hX _ _ _ hM hx)
  refine L_ps c148 (n := 4) (pc1 := 8) (ls1 := [jR 0, jI 0, jI 0]) (st1 := []) rfl ?_
  exact k_OB_normalShare_l8 hM hQ hX h
theorem k_Lw_normalShare {E : JE2} {μ : Mem} {M : JM} {Q : Int → Mem → Prop} (hM : Rl E M μ) (h : d_Lw_normalShare μ Q) : JX 147 0 (jargs 147 [jR 0, jR 796]) [] M (PO E (QI Q) XN) := by
  unfold d_Lw_normalShare at h
  show JX 147 0 [jR 0, jR 796, jU] [] M (PO E (QI Q) XN)
  generalize hP : PO E (QI Q) XN = P
  have hQ : ∀ (r : Int) (M1 : JM) (μ1 : Mem), Rl E M1 μ1 → Q r μ1 → P (.inl (some (.inl r))) M1 := by rw [← hP]; exact fun r M1 μ1 a b => ⟨μ1, a, r, rfl, b⟩
  clear hP
  refine L_ps c147 (n := 3) (pc1 := 3) (ls1 := [jR 0, jR 796, jU]) (st1 := [jR 0, jI 0, jR 796]) rfl ?_
  refine L_cFH (c147 3 rfl) (js_v rfl ((Rl_tag hM rt0 (by decide)).trans js148)) (k_OB_normalShare hM h) (fun r1 M μ2 hM h => ?_) (fun k M μx hM h => ?_)
  · obtain ⟨hn, h⟩ := h
    refine L_f2d (c147 6 rfl) hn ?_
    refine L_dast (c147 7 rfl) hM rt796 ln796 (by decide) (fun M hM => ?_)
    refine L_ps c147 (n := 2) (pc1 := 15) (ls1 := [jR 0, jR 796, jU]) (st1 := [jI 0]) rfl ?_
    exact L_retI (c147 15 rfl) (hQ _ _ _ hM h)
  · by_cases hk0 : k = 0
    · rw [if_pos hk0] at h
      subst hk0
      refine JH_of (h := 11) (i := 2) (pc1 := 12) (ls1 := [jR 0, jR 796, jU]) rfl rfl (Nat.le_of_ble_eq_true rfl) rfl rfl ?_
      refine L_ps c147 (n := 1) (pc1 := 13) (ls1 := [jR 0, jR 796, jU]) (st1 := [jI 1]) rfl ?_
      exact L_retI (c147 13 rfl) (hQ _ _ _ hM h)
    rw [if_neg hk0] at h
    exact h.elim
theorem k_Rewriter_reduce_b11 {E : JE2} {v0 : Nat} {v1 : Nat} {v3 : Int} {v4 : Int} {v5 : Int} {μ : Mem} {M : JM} {P : JO → JM → Prop} {g2 : JV} {g6 : JV} {W11 : Int → Mem → Prop} {Q : Int → Mem → Prop} (hv0 : rt v0 = 4) (hv1 : rt v1 = 7) (hM : Rl E M μ) (hQ : ∀ (r : Int) (M1 : JM) (μ1 : Mem), Rl E M1 μ1 → Q r μ1 → P (.inl (some (.inl r))) M1) (hW11 : ∀ (v5 : Int) (g2 : JV) (g6 : JV) (M1 : JM) (μ1 : Mem), Rl E M1 μ1 → W11 v5 μ1 → JX 151 11 [jR v0, jR v1, g2, jI v3, jI v4, jI v5, g6] [] M1 P) (h : d_Rewriter_reduce_b11 v0 v1 v3 v4 v5 μ W11 Q) : JX 151 11 [jR v0, jR v1, g2, jI v3, jI v4, jI v5, g6] [] M P := by
  unfold d_Rewriter_reduce_b11 at h
  refine L_ps c151 (n := 2) (pc1 := 15) (ls1 := [jR v0, jR v1, g2, jI v3, jI v4, jI v5, g6]) (st1 := [jI v4, jI v5]) rfl ?_
  refine L_br (p1 := 79) (p2 := 18) (c151 15 rfl) rfl jc_gt h (fun h => ?_) (fun h => ?_)
  · refine L_ps c151 (n := 1) (pc1 := 80) (ls1 := [jR v0, jR v1, g2, jI v3, jI v4, jI v5, g6]) (st1 := [jI (-1)]) rfl ?_
    exact L_retI (c151 80 rfl) (hQ _ _ _ hM h)
  · refine L_ps c151 (n := 3) (pc1 := 21) (ls1 := [jR v0, jR v1, g2, jI v3, jI v4, jI v5, g6]) (st1 := [jR v0, jR v1, jR v0]) rfl ?_
    refine L_getP (d := 3) (c151 21 rfl) hM hv0 rfl ?_
    refine L_ps c151 (n := 1) (pc1 := 25) (ls1 := [jR v0, jR v1, g2, jI v3, jI v4, jI v5, g6]) (st1 := [jI v3, jR (v0 + 3), jR v1, jR v0]) rfl ?_
    refine L_cI (c151 25 rfl) (js_v rfl ((Rl_tag hM hv0 (by decide)).trans js70)) hh151 (k_Rewriter_redex hv0 hv1 (rp_4_3 hv0) hM h) (fun r3 M μ4 hM h => ?_) (fun _ _ _ _ f => f.elim)
    refine L_ps c151 (n := 3) (pc1 := 33) (ls1 := [jR v0, jR v1, g2, jI v3, jI v4, jI v5, jI r3]) (st1 := [jI (-1), jI r3]) rfl ?_
    refine L_nb (p1 := 39) (p2 := 36) (c151 33 rfl) rfl jc_ne h (fun h => ?_) (fun h => ?_)
    · refine L_ps c151 (n := 1) (pc1 := 38) (ls1 := [jR v0, jR v1, g2, jI v3, jI v4, jI v5, jI r3]) (st1 := [jI v5]) rfl ?_
      exact L_retI (c151 38 rfl) (hQ _ _ _ hM h)
    · refine L_ps c151 (n := 2) (pc1 := 43) (ls1 := [jR v0, jR v1, g2, jI v3, jI v4, jI v5, jI r3]) (st1 := [jI v4, jI v5]) rfl ?_
      refine L_br (p1 := 60) (p2 := 46) (c151 43 rfl) rfl jc_eq h (fun h => ?_) (fun h => ?_)
      · refine L_ps c151 (n := 1) (pc1 := 61) (ls1 := [jR v0, jR v1, g2, jI v3, jI v4, jI v5, jI r3]) (st1 := [jI (-1)]) rfl ?_
        exact L_retI (c151 61 rfl) (hQ _ _ _ hM h)
      · refine L_ps c151 (n := 3) (pc1 := 49) (ls1 := [jR v0, jR v1, g2, jI v3, jI v4, jI v5, jI r3]) (st1 := [jR v0, jR v1, jR v0]) rfl ?_
        refine L_getP (d := 3) (c151 49 rfl) hM hv0 rfl ?_
        refine L_ps c151 (n := 1) (pc1 := 54) (ls1 := [jR v0, jR v1, g2, jI v3, jI v4, jI v5, jI r3]) (st1 := [jI r3, jR (v0 + 3), jR v1, jR v0]) rfl ?_
        refine L_cB (c151 54 rfl) (js_v rfl ((Rl_tag hM hv0 (by decide)).trans js76)) hh151 (k_Rewriter_buildFirst hv0 hv1 (rp_4_3 hv0) hM h) (fun r5 M μ6 hM h => ?_) (fun _ _ _ _ f => f.elim)
        refine L_br (p1 := 62) (p2 := 60) (c151 57 rfl) rfl jc_neb h (fun h => ?_) (fun h => ?_)
        · refine L_ps c151 (n := 1) (pc1 := 63) (ls1 := [jR v0, jR v1, g2, jI v3, jI v4, jI v5, jI r3]) (st1 := [jR v0]) rfl ?_
          refine L_getP (d := 3) (c151 63 rfl) hM hv0 rfl ?_
          refine L_ps c151 (n := 1) (pc1 := 67) (ls1 := [jR v0, jR v1, g2, jI v3, jI v4, jI v5, jI r3]) (st1 := [jR v0, jR (v0 + 3)]) rfl ?_
          refine L_getP (d := 1) (c151 67 rfl) hM hv0 rfl ?_
          refine L_cV (c151 70 rfl) (js_v rfl ((Rl_tag hM (rp_4_3 hv0) (by decide)).trans js78)) hh151 (k_Term_copyFrom (rp_4_3 hv0) (rp_4_1 hv0) hM h) (fun M μ8 hM h => ?_) (fun _ _ _ _ f => f.elim)
          refine L_ps c151 (n := 2) (pc1 := 11) (ls1 := [jR v0, jR v1, g2, jI v3, jI v4, jI (wr (v5 + 1)), jI r3]) (st1 := []) rfl ?_
          exact hW11 _ _ _ _ _ hM h
        · refine L_ps c151 (n := 1) (pc1 := 61) (ls1 := [jR v0, jR v1, g2, jI v3, jI v4, jI v5, jI r3]) (st1 := [jI (-1)]) rfl ?_
          exact L_retI (c151 61 rfl) (hQ _ _ _ hM h)
theorem k_Rewriter_reduce_l11 {E : JE2} {v0 : Nat} {v1 : Nat} {v3 : Int} {v4 : Int} {v5 : Int} {μ : Mem} {M : JM} {P : JO → JM → Prop} {g2 : JV} {g6 : JV} {Q : Int → Mem → Prop} (hv0 : rt v0 = 4) (hv1 : rt v1 = 7) (hM : Rl E M μ) (hQ : ∀ (r : Int) (M1 : JM) (μ1 : Mem), Rl E M1 μ1 → Q r μ1 → P (.inl (some (.inl r))) M1) (h : d_Rewriter_reduce_l11 v0 v1 v3 v4 v5 μ Q) : JX 151 11 [jR v0, jR v1, g2, jI v3, jI v4, jI v5, g6] [] M P := by
  refine h (fun v5 μ => ∀ (g2 : JV) (g6 : JV) (M : JM), Rl E M μ → JX 151 11 [jR v0, jR v1, g2, jI v3, jI v4, jI v5, g6] [] M P) ?_ _ _ _ hM
  intro v5 μ h g2 g6 M hM
  exact k_Rewriter_reduce_b11 hv0 hv1 hM hQ (fun v5 g2 g6 M μ hM h => h g2 g6 M hM) h
theorem k_Rewriter_reduce {E : JE2} {v0 : Nat} {v1 : Nat} {v2 : Nat} {v3 : Int} {v4 : Int} {μ : Mem} {M : JM} {Q : Int → Mem → Prop} (hv0 : rt v0 = 4) (hv1 : rt v1 = 7) (hv2 : rt v2 = 8) (hM : Rl E M μ) (h : d_Rewriter_reduce v0 v1 v2 v3 v4 μ Q) : JX 151 0 (jargs 151 [jR v0, jR v1, jR v2, jI v3, jI v4]) [] M (PO E (QI Q) XN) := by
  unfold d_Rewriter_reduce at h
  show JX 151 0 [jR v0, jR v1, jR v2, jI v3, jI v4, jU, jU] [] M (PO E (QI Q) XN)
  generalize hP : PO E (QI Q) XN = P
  have hQ : ∀ (r : Int) (M1 : JM) (μ1 : Mem), Rl E M1 μ1 → Q r μ1 → P (.inl (some (.inl r))) M1 := by rw [← hP]; exact fun r M1 μ1 a b => ⟨μ1, a, r, rfl, b⟩
  clear hP
  refine L_ps c151 (n := 1) (pc1 := 1) (ls1 := [jR v0, jR v1, jR v2, jI v3, jI v4, jU, jU]) (st1 := [jR v0]) rfl ?_
  refine L_getP (d := 3) (c151 1 rfl) hM hv0 rfl ?_
  refine L_ps c151 (n := 1) (pc1 := 5) (ls1 := [jR v0, jR v1, jR v2, jI v3, jI v4, jU, jU]) (st1 := [jR v2, jR (v0 + 3)]) rfl ?_
  refine L_cV (c151 5 rfl) (js_v rfl ((Rl_tag hM (rp_4_3 hv0) (by decide)).trans js78)) hh151 (k_Term_copyFrom (rp_4_3 hv0) hv2 hM h) (fun M μ2 hM h => ?_) (fun _ _ _ _ f => f.elim)
  refine L_ps c151 (n := 2) (pc1 := 11) (ls1 := [jR v0, jR v1, jR v2, jI v3, jI v4, jI 0, jU]) (st1 := []) rfl ?_
  exact k_Rewriter_reduce_l11 hv0 hv1 hM hQ h
theorem k_OB_stepsInnermost {E : JE2} {v1 : Int} {μ : Mem} {M : JM} {Q : Int → Mem → Prop} {X : Nat → Mem → Prop} (hM : Rl E M μ) (h : d_OB_stepsInnermost v1 μ Q X) : JX 150 0 (jargs 150 [jR 0, jI v1]) [] M (PO E (QI Q) X) := by
  unfold d_OB_stepsInnermost at h
  show JX 150 0 [jR 0, jI v1] [] M (PO E (QI Q) X)
  generalize hP : PO E (QI Q) X = P
  have hQ : ∀ (r : Int) (M1 : JM) (μ1 : Mem), Rl E M1 μ1 → Q r μ1 → P (.inl (some (.inl r))) M1 := by rw [← hP]; exact fun r M1 μ1 a b => ⟨μ1, a, r, rfl, b⟩
  have hX : ∀ (k : Nat) (M1 : JM) (μ1 : Mem), Rl E M1 μ1 → X k μ1 → P (.inr k) M1 := by rw [← hP]; exact fun k M1 μ1 a b => ⟨μ1, a, b⟩
  clear hP
  refine L_ps c150 (n := 1) (pc1 := 1) (ls1 := [jR 0, jI v1]) (st1 := [jR 0]) rfl ?_
  refine L_getP (d := 57) (c150 1 rfl) hM rt0 rfl ?_
  refine L_ps c150 (n := 1) (pc1 := 5) (ls1 := [jR 0, jI v1]) (st1 := [jR 0, jR 57]) rfl ?_
  refine L_getP (d := 5) (c150 5 rfl) hM rt0 rfl ?_
  refine L_ps c150 (n := 2) (pc1 := 10) (ls1 := [jR 0, jI v1]) (st1 := [jI v1, jR 0, jR 5, jR 57]) rfl ?_
  refine L_cR (c150 10 rfl) (js_v rfl ((Rl_tag hM rt0 (by decide)).trans js114)) hh150 (k_OB_requireTerm hM h) (fun r1 M μ2 hM hr1 h => ?_) (fun k M μx hM hx => hX _ _ _ hM hx)
  refine L_ps c150 (n := 2) (pc1 := 17) (ls1 := [jR 0, jI v1]) (st1 := [jI 200, jI 1, jR r1, jR 5, jR 57]) rfl ?_
  refine L_cI (c150 17 rfl) (js_v rfl ((Rl_tag hM rt57 (by decide)).trans js151)) hh150 (k_Rewriter_reduce rt57 rt5 hr1 hM h) (fun r3 M μ4 hM h => ?_) (fun _ _ _ _ f => f.elim)
  exact L_retI (c150 20 rfl) (hQ _ _ _ hM h)
theorem k_Lw_stepsInnermost {E : JE2} {v1 : Int} {μ : Mem} {M : JM} {Q : Int → Mem → Prop} (hM : Rl E M μ) (h : d_Lw_stepsInnermost v1 μ Q) : JX 149 0 (jargs 149 [jR 0, jI v1, jR 795]) [] M (PO E (QI Q) XN) := by
  unfold d_Lw_stepsInnermost at h
  show JX 149 0 [jR 0, jI v1, jR 795, jU] [] M (PO E (QI Q) XN)
  generalize hP : PO E (QI Q) XN = P
  have hQ : ∀ (r : Int) (M1 : JM) (μ1 : Mem), Rl E M1 μ1 → Q r μ1 → P (.inl (some (.inl r))) M1 := by rw [← hP]; exact fun r M1 μ1 a b => ⟨μ1, a, r, rfl, b⟩
  clear hP
  refine L_ps c149 (n := 4) (pc1 := 4) (ls1 := [jR 0, jI v1, jR 795, jU]) (st1 := [jI v1, jR 0, jI 0, jR 795]) rfl ?_
  refine L_cIH (c149 4 rfl) (js_v rfl ((Rl_tag hM rt0 (by decide)).trans js150)) (k_OB_stepsInnermost hM h) (fun r1 M μ2 hM h => ?_) (fun k M μx hM h => ?_)
  · refine L_ps c149 (n := 1) (pc1 := 8) (ls1 := [jR 0, jI v1, jR 795, jU]) (st1 := [jX (.long ((Int32.ofInt r1).toInt64)), jI 0, jR 795]) rfl ?_
    refine L_last (c149 8 rfl) hM rt795 ln795 (by decide) (fun M hM => ?_)
    refine L_ps c149 (n := 2) (pc1 := 19) (ls1 := [jR 0, jI v1, jR 795, jU]) (st1 := [jI 0]) rfl ?_
    exact L_retI (c149 19 rfl) (hQ _ _ _ hM h)
  · by_cases hk0 : k = 0
    · rw [if_pos hk0] at h
      subst hk0
      refine JH_of (h := 12) (i := 3) (pc1 := 13) (ls1 := [jR 0, jI v1, jR 795, jU]) rfl rfl (Nat.le_of_ble_eq_true rfl) rfl rfl ?_
      refine L_ps c149 (n := 1) (pc1 := 14) (ls1 := [jR 0, jI v1, jR 795, jU]) (st1 := [jI 1]) rfl ?_
      exact L_retI (c149 14 rfl) (hQ _ _ _ hM h)
    rw [if_neg hk0] at h
    by_cases hk1 : k = 1
    · rw [if_pos hk1] at h
      subst hk1
      refine JH_of (h := 15) (i := 3) (pc1 := 16) (ls1 := [jR 0, jI v1, jR 795, jU]) rfl rfl (Nat.le_of_ble_eq_true rfl) rfl rfl ?_
      refine L_ps c149 (n := 1) (pc1 := 17) (ls1 := [jR 0, jI v1, jR 795, jU]) (st1 := [jI 2]) rfl ?_
      exact L_retI (c149 17 rfl) (hQ _ _ _ hM h)
    rw [if_neg hk1] at h
    exact h.elim
theorem k_OB_stepsOutermost {E : JE2} {v1 : Int} {μ : Mem} {M : JM} {Q : Int → Mem → Prop} {X : Nat → Mem → Prop} (hM : Rl E M μ) (h : d_OB_stepsOutermost v1 μ Q X) : JX 153 0 (jargs 153 [jR 0, jI v1]) [] M (PO E (QI Q) X) := by
  unfold d_OB_stepsOutermost at h
  show JX 153 0 [jR 0, jI v1] [] M (PO E (QI Q) X)
  generalize hP : PO E (QI Q) X = P
  have hQ : ∀ (r : Int) (M1 : JM) (μ1 : Mem), Rl E M1 μ1 → Q r μ1 → P (.inl (some (.inl r))) M1 := by rw [← hP]; exact fun r M1 μ1 a b => ⟨μ1, a, r, rfl, b⟩
  have hX : ∀ (k : Nat) (M1 : JM) (μ1 : Mem), Rl E M1 μ1 → X k μ1 → P (.inr k) M1 := by rw [← hP]; exact fun k M1 μ1 a b => ⟨μ1, a, b⟩
  clear hP
  refine L_ps c153 (n := 1) (pc1 := 1) (ls1 := [jR 0, jI v1]) (st1 := [jR 0]) rfl ?_
  refine L_getP (d := 57) (c153 1 rfl) hM rt0 rfl ?_
  refine L_ps c153 (n := 1) (pc1 := 5) (ls1 := [jR 0, jI v1]) (st1 := [jR 0, jR 57]) rfl ?_
  refine L_getP (d := 5) (c153 5 rfl) hM rt0 rfl ?_
  refine L_ps c153 (n := 2) (pc1 := 10) (ls1 := [jR 0, jI v1]) (st1 := [jI v1, jR 0, jR 5, jR 57]) rfl ?_
  refine L_cR (c153 10 rfl) (js_v rfl ((Rl_tag hM rt0 (by decide)).trans js114)) hh153 (k_OB_requireTerm hM h) (fun r1 M μ2 hM hr1 h => ?_) (fun k M μx hM hx => hX _ _ _ hM hx)
  refine L_ps c153 (n := 2) (pc1 := 17) (ls1 := [jR 0, jI v1]) (st1 := [jI 200, jI 0, jR r1, jR 5, jR 57]) rfl ?_
  refine L_cI (c153 17 rfl) (js_v rfl ((Rl_tag hM rt57 (by decide)).trans js151)) hh153 (k_Rewriter_reduce rt57 rt5 hr1 hM h) (fun r3 M μ4 hM h => ?_) (fun _ _ _ _ f => f.elim)
  exact L_retI (c153 20 rfl) (hQ _ _ _ hM h)
theorem k_Lw_stepsOutermost {E : JE2} {v1 : Int} {μ : Mem} {M : JM} {Q : Int → Mem → Prop} (hM : Rl E M μ) (h : d_Lw_stepsOutermost v1 μ Q) : JX 152 0 (jargs 152 [jR 0, jI v1, jR 795]) [] M (PO E (QI Q) XN) := by
  unfold d_Lw_stepsOutermost at h
  show JX 152 0 [jR 0, jI v1, jR 795, jU] [] M (PO E (QI Q) XN)
  generalize hP : PO E (QI Q) XN = P
  have hQ : ∀ (r : Int) (M1 : JM) (μ1 : Mem), Rl E M1 μ1 → Q r μ1 → P (.inl (some (.inl r))) M1 := by rw [← hP]; exact fun r M1 μ1 a b => ⟨μ1, a, r, rfl, b⟩
  clear hP
  refine L_ps c152 (n := 4) (pc1 := 4) (ls1 := [jR 0, jI v1, jR 795, jU]) (st1 := [jI v1, jR 0, jI 0, jR 795]) rfl ?_
  refine L_cIH (c152 4 rfl) (js_v rfl ((Rl_tag hM rt0 (by decide)).trans js153)) (k_OB_stepsOutermost hM h) (fun r1 M μ2 hM h => ?_) (fun k M μx hM h => ?_)
  · refine L_ps c152 (n := 1) (pc1 := 8) (ls1 := [jR 0, jI v1, jR 795, jU]) (st1 := [jX (.long ((Int32.ofInt r1).toInt64)), jI 0, jR 795]) rfl ?_
    refine L_last (c152 8 rfl) hM rt795 ln795 (by decide) (fun M hM => ?_)
    refine L_ps c152 (n := 2) (pc1 := 19) (ls1 := [jR 0, jI v1, jR 795, jU]) (st1 := [jI 0]) rfl ?_
    exact L_retI (c152 19 rfl) (hQ _ _ _ hM h)
  · by_cases hk0 : k = 0
    · rw [if_pos hk0] at h
      subst hk0
      refine JH_of (h := 12) (i := 3) (pc1 := 13) (ls1 := [jR 0, jI v1, jR 795, jU]) rfl rfl (Nat.le_of_ble_eq_true rfl) rfl rfl ?_
      refine L_ps c152 (n := 1) (pc1 := 14) (ls1 := [jR 0, jI v1, jR 795, jU]) (st1 := [jI 1]) rfl ?_
      exact L_retI (c152 14 rfl) (hQ _ _ _ hM h)
    rw [if_neg hk0] at h
    by_cases hk1 : k = 1
    · rw [if_pos hk1] at h
      subst hk1
      refine JH_of (h := 15) (i := 3) (pc1 := 16) (ls1 := [jR 0, jI v1, jR 795, jU]) rfl rfl (Nat.le_of_ble_eq_true rfl) rfl rfl ?_
      refine L_ps c152 (n := 1) (pc1 := 17) (ls1 := [jR 0, jI v1, jR 795, jU]) (st1 := [jI 2]) rfl ?_
      exact L_retI (c152 17 rfl) (hQ _ _ _ hM h)
    rw [if_neg hk1] at h
    exact h.elim
theorem k_OB_normalFormSize {E : JE2} {v1 : Int} {μ : Mem} {M : JM} {Q : Int → Mem → Prop} {X : Nat → Mem → Prop} (hM : Rl E M μ) (h : d_OB_normalFormSize v1 μ Q X) : JX 155 0 (jargs 155 [jR 0, jI v1]) [] M (PO E (QI Q) X) := by
  unfold d_OB_normalFormSize at h
  show JX 155 0 [jR 0, jI v1, jU] [] M (PO E (QI Q) X)
  generalize hP : PO E (QI Q) X = P
  have hQ : ∀ (r : Int) (M1 : JM) (μ1 : Mem), Rl E M1 μ1 → Q r μ1 → P (.inl (some (.inl r))) M1 := by rw [← hP]; exact fun r M1 μ1 a b => ⟨μ1, a, r, rfl, b⟩
  have hX : ∀ (k : Nat) (M1 : JM) (μ1 : Mem), Rl E M1 μ1 → X k μ1 → P (.inr k) M1 := by rw [← hP]; exact fun k M1 μ1 a b => ⟨μ1, a, b⟩
  clear hP
  refine L_ps c155 (n := 1) (pc1 := 1) (ls1 := [jR 0, jI v1, jU]) (st1 := [jR 0]) rfl ?_
  refine L_getP (d := 57) (c155 1 rfl) hM rt0 rfl ?_
  refine L_ps c155 (n := 1) (pc1 := 5) (ls1 := [jR 0, jI v1, jU]) (st1 := [jR 0, jR 57]) rfl ?_
  refine L_getP (d := 5) (c155 5 rfl) hM rt0 rfl ?_
  refine L_ps c155 (n := 2) (pc1 := 10) (ls1 := [jR 0, jI v1, jU]) (st1 := [jI v1, jR 0, jR 5, jR 57]) rfl ?_
  refine L_cR (c155 10 rfl) (js_v rfl ((Rl_tag hM rt0 (by decide)).trans js114)) hh155 (k_OB_requireTerm hM h) (fun r1 M μ2 hM hr1 h => ?_) (fun k M μx hM hx => hX _ _ _ hM hx)
  refine L_ps c155 (n := 2) (pc1 := 17) (ls1 := [jR 0, jI v1, jU]) (st1 := [jI 200, jI 1, jR r1, jR 5, jR 57]) rfl ?_
  refine L_cI (c155 17 rfl) (js_v rfl ((Rl_tag hM rt57 (by decide)).trans js151)) hh155 (k_Rewriter_reduce rt57 rt5 hr1 hM h) (fun r3 M μ4 hM h => ?_) (fun _ _ _ _ f => f.elim)
  refine L_ps c155 (n := 3) (pc1 := 23) (ls1 := [jR 0, jI v1, jI r3]) (st1 := [jI (-1), jI r3]) rfl ?_
  refine L_nb (p1 := 30) (p2 := 26) (c155 23 rfl) rfl jc_ne h (fun h => ?_) (fun h => ?_)
  · refine L_ps c155 (n := 2) (pc1 := 40) (ls1 := [jR 0, jI v1, jI r3]) (st1 := [jI (-1)]) rfl ?_
    exact L_retI (c155 40 rfl) (hQ _ _ _ hM h)
  · refine L_ps c155 (n := 1) (pc1 := 31) (ls1 := [jR 0, jI v1, jI r3]) (st1 := [jR 0]) rfl ?_
    refine L_getP (d := 57) (c155 31 rfl) hM rt0 rfl ?_
    refine L_getP (d := 3) (c155 34 rfl) hM rt57 rfl ?_
    refine L_getI (c155 37 rfl) hM rt60 rfl ?_
    exact L_retI (c155 40 rfl) (hQ _ _ _ hM h)
theorem k_Lw_normalFormSize {E : JE2} {v1 : Int} {μ : Mem} {M : JM} {Q : Int → Mem → Prop} (hM : Rl E M μ) (h : d_Lw_normalFormSize v1 μ Q) : JX 154 0 (jargs 154 [jR 0, jI v1, jR 795]) [] M (PO E (QI Q) XN) := by
  unfold d_Lw_normalFormSize at h
  show JX 154 0 [jR 0, jI v1, jR 795, jU] [] M (PO E (QI Q) XN)
  generalize hP : PO E (QI Q) XN = P
  have hQ : ∀ (r : Int) (M1 : JM) (μ1 : Mem), Rl E M1 μ1 → Q r μ1 → P (.inl (some (.inl r))) M1 := by rw [← hP]; exact fun r M1 μ1 a b => ⟨μ1, a, r, rfl, b⟩
  clear hP
  refine L_ps c154 (n := 4) (pc1 := 4) (ls1 := [jR 0, jI v1, jR 795, jU]) (st1 := [jI v1, jR 0, jI 0, jR 795]) rfl ?_
  refine L_cIH (c154 4 rfl) (js_v rfl ((Rl_tag hM rt0 (by decide)).trans js155)) (k_OB_normalFormSize hM h) (fun r1 M μ2 hM h => ?_) (fun k M μx hM h => ?_)
  · refine L_ps c154 (n := 1) (pc1 := 8) (ls1 := [jR 0, jI v1, jR 795, jU]) (st1 := [jX (.long ((Int32.ofInt r1).toInt64)), jI 0, jR 795]) rfl ?_
    refine L_last (c154 8 rfl) hM rt795 ln795 (by decide) (fun M hM => ?_)
    refine L_ps c154 (n := 2) (pc1 := 19) (ls1 := [jR 0, jI v1, jR 795, jU]) (st1 := [jI 0]) rfl ?_
    exact L_retI (c154 19 rfl) (hQ _ _ _ hM h)
  · by_cases hk0 : k = 0
    · rw [if_pos hk0] at h
      subst hk0
      refine JH_of (h := 12) (i := 3) (pc1 := 13) (ls1 := [jR 0, jI v1, jR 795, jU]) rfl rfl (Nat.le_of_ble_eq_true rfl) rfl rfl ?_
      refine L_ps c154 (n := 1) (pc1 := 14) (ls1 := [jR 0, jI v1, jR 795, jU]) (st1 := [jI 1]) rfl ?_
      exact L_retI (c154 14 rfl) (hQ _ _ _ hM h)
    rw [if_neg hk0] at h
    by_cases hk1 : k = 1
    · rw [if_pos hk1] at h
      subst hk1
      refine JH_of (h := 15) (i := 3) (pc1 := 16) (ls1 := [jR 0, jI v1, jR 795, jU]) rfl rfl (Nat.le_of_ble_eq_true rfl) rfl rfl ?_
      refine L_ps c154 (n := 1) (pc1 := 17) (ls1 := [jR 0, jI v1, jR 795, jU]) (st1 := [jI 2]) rfl ?_
      exact L_retI (c154 17 rfl) (hQ _ _ _ hM h)
    rw [if_neg hk1] at h
    exact h.elim
theorem k_Rewriter_meet {E : JE2} {v0 : Nat} {v1 : Nat} {v2 : Nat} {v3 : Nat} {v4 : Int} {μ : Mem} {M : JM} {Q : Bool → Mem → Prop} (hv0 : rt v0 = 4) (hv1 : rt v1 = 7) (hv2 : rt v2 = 8) (hv3 : rt v3 = 8) (hM : Rl E M μ) (h : d_Rewriter_meet v0 v1 v2 v3 v4 μ Q) : JX 158 0 (jargs 158 [jR v0, jR v1, jR v2, jR v3, jI v4]) [] M (PO E (QB Q) XN) := by
  unfold d_Rewriter_meet at h
  show JX 158 0 [jR v0, jR v1, jR v2, jR v3, jI v4] [] M (PO E (QB Q) XN)
  generalize hP : PO E (QB Q) XN = P
  have hQ : ∀ (r : Bool) (M1 : JM) (μ1 : Mem), Rl E M1 μ1 → Q r μ1 → P (.inl (some (.inl (b2i r)))) M1 := by rw [← hP]; exact fun r M1 μ1 a b => ⟨μ1, a, r, rfl, b⟩
  clear hP
  refine L_ps c158 (n := 5) (pc1 := 6) (ls1 := [jR v0, jR v1, jR v2, jR v3, jI v4]) (st1 := [jI v4, jI 1, jR v2, jR v1, jR v0]) rfl ?_
  refine L_cI (c158 6 rfl) (js_v rfl ((Rl_tag hM hv0 (by decide)).trans js151)) hh158 (k_Rewriter_reduce hv0 hv1 hv2 hM h) (fun r1 M μ2 hM h => ?_) (fun _ _ _ _ f => f.elim)
  refine L_ps c158 (n := 1) (pc1 := 10) (ls1 := [jR v0, jR v1, jR v2, jR v3, jI v4]) (st1 := [jI (-1), jI r1]) rfl ?_
  refine L_nb (p1 := 15) (p2 := 13) (c158 10 rfl) rfl jc_ne h (fun h => ?_) (fun h => ?_)
  · refine L_ps c158 (n := 1) (pc1 := 14) (ls1 := [jR v0, jR v1, jR v2, jR v3, jI v4]) (st1 := [jI 0]) rfl ?_
    exact L_retB (c158 14 rfl) (Or.inl rfl) (hQ false _ _ hM h)
  · refine L_ps c158 (n := 1) (pc1 := 16) (ls1 := [jR v0, jR v1, jR v2, jR v3, jI v4]) (st1 := [jR v0]) rfl ?_
    refine L_getP (d := 5) (c158 16 rfl) hM hv0 rfl ?_
    refine L_ps c158 (n := 1) (pc1 := 20) (ls1 := [jR v0, jR v1, jR v2, jR v3, jI v4]) (st1 := [jR v0, jR (v0 + 5)]) rfl ?_
    refine L_getP (d := 3) (c158 20 rfl) hM hv0 rfl ?_
    refine L_cV (c158 23 rfl) (js_v rfl ((Rl_tag hM (rp_4_5 hv0) (by decide)).trans js78)) hh158 (k_Term_copyFrom (rp_4_5 hv0) (rp_4_3 hv0) hM h) (fun M μ4 hM h => ?_) (fun _ _ _ _ f => f.elim)
    refine L_ps c158 (n := 5) (pc1 := 32) (ls1 := [jR v0, jR v1, jR v2, jR v3, jI v4]) (st1 := [jI v4, jI 1, jR v3, jR v1, jR v0]) rfl ?_
    refine L_cI (c158 32 rfl) (js_v rfl ((Rl_tag hM hv0 (by decide)).trans js151)) hh158 (k_Rewriter_reduce hv0 hv1 hv3 hM h) (fun r5 M μ6 hM h => ?_) (fun _ _ _ _ f => f.elim)
    refine L_ps c158 (n := 1) (pc1 := 36) (ls1 := [jR v0, jR v1, jR v2, jR v3, jI v4]) (st1 := [jI (-1), jI r5]) rfl ?_
    refine L_br (p1 := 57) (p2 := 39) (c158 36 rfl) rfl jc_eq h (fun h => ?_) (fun h => ?_)
    · refine L_ps c158 (n := 1) (pc1 := 58) (ls1 := [jR v0, jR v1, jR v2, jR v3, jI v4]) (st1 := [jI 0]) rfl ?_
      exact L_retB (c158 58 rfl) (Or.inl rfl) (hQ false _ _ hM h)
    · refine L_ps c158 (n := 1) (pc1 := 40) (ls1 := [jR v0, jR v1, jR v2, jR v3, jI v4]) (st1 := [jR v0]) rfl ?_
      refine L_getP (d := 5) (c158 40 rfl) hM hv0 rfl ?_
      refine L_ps c158 (n := 1) (pc1 := 44) (ls1 := [jR v0, jR v1, jR v2, jR v3, jI v4]) (st1 := [jR v0, jR (v0 + 5)]) rfl ?_
      refine L_getP (d := 3) (c158 44 rfl) hM hv0 rfl ?_
      refine L_cpB (c158 47 rfl) (js_v rfl ((Rl_tag hM (rp_4_5 hv0) (by decide)).trans js131)) hh158 (k_Term_sameAs (rp_4_5 hv0) (rp_4_3 hv0) hM h) (fun r7 M hM h => ?_) (fun _ _ _ _ f => f.elim)
      refine L_nb (p1 := 57) (p2 := 53) (c158 50 rfl) rfl jc_eqb h (fun h => ?_) (fun h => ?_)
      · refine L_ps c158 (n := 2) (pc1 := 58) (ls1 := [jR v0, jR v1, jR v2, jR v3, jI v4]) (st1 := [jI 1]) rfl ?_
        exact L_retB (c158 58 rfl) (Or.inr rfl) (hQ true _ _ hM h)
      · refine L_ps c158 (n := 1) (pc1 := 58) (ls1 := [jR v0, jR v1, jR v2, jR v3, jI v4]) (st1 := [jI 0]) rfl ?_
        exact L_retB (c158 58 rfl) (Or.inl rfl) (hQ false _ _ hM h)
theorem k_OB_haveSameNormalForm {E : JE2} {v1 : Int} {v2 : Int} {μ : Mem} {M : JM} {Q : Bool → Mem → Prop} {X : Nat → Mem → Prop} (hM : Rl E M μ) (h : d_OB_haveSameNormalForm v1 v2 μ Q X) : JX 157 0 (jargs 157 [jR 0, jI v1, jI v2]) [] M (PO E (QB Q) X) := by
  unfold d_OB_haveSameNormalForm at h
  show JX 157 0 [jR 0, jI v1, jI v2, jU] [] M (PO E (QB Q) X)
  generalize hP : PO E (QB Q) X = P
  have hQ : ∀ (r : Bool) (M1 : JM) (μ1 : Mem), Rl E M1 μ1 → Q r μ1 → P (.inl (some (.inl (b2i r)))) M1 := by rw [← hP]; exact fun r M1 μ1 a b => ⟨μ1, a, r, rfl, b⟩
  have hX : ∀ (k : Nat) (M1 : JM) (μ1 : Mem), Rl E M1 μ1 → X k μ1 → P (.inr k) M1 := by rw [← hP]; exact fun k M1 μ1 a b => ⟨μ1, a, b⟩
  clear hP
  refine L_ps c157 (n := 2) (pc1 := 2) (ls1 := [jR 0, jI v1, jI v2, jU]) (st1 := [jI v1, jR 0]) rfl ?_
  refine L_cR (c157 2 rfl) (js_v rfl ((Rl_tag hM rt0 (by decide)).trans js114)) hh157 (k_OB_requireTerm hM h) (fun r1 M μ2 hM hr1 h => ?_) (fun k M μx hM hx => hX _ _ _ hM hx)
  refine L_ps c157 (n := 2) (pc1 := 7) (ls1 := [jR 0, jI v1, jI v2, jR r1]) (st1 := [jR 0]) rfl ?_
  refine L_getP (d := 57) (c157 7 rfl) hM rt0 rfl ?_
  refine L_ps c157 (n := 1) (pc1 := 11) (ls1 := [jR 0, jI v1, jI v2, jR r1]) (st1 := [jR 0, jR 57]) rfl ?_
  refine L_getP (d := 5) (c157 11 rfl) hM rt0 rfl ?_
  refine L_ps c157 (n := 3) (pc1 := 17) (ls1 := [jR 0, jI v1, jI v2, jR r1]) (st1 := [jI v2, jR 0, jR r1, jR 5, jR 57]) rfl ?_
  refine L_cR (c157 17 rfl) (js_v rfl ((Rl_tag hM rt0 (by decide)).trans js114)) hh157 (k_OB_requireTerm hM h) (fun r3 M μ4 hM hr3 h => ?_) (fun k M μx hM hx => hX _ _ _ hM hx)
  refine L_ps c157 (n := 1) (pc1 := 23) (ls1 := [jR 0, jI v1, jI v2, jR r1]) (st1 := [jI 200, jR r3, jR r1, jR 5, jR 57]) rfl ?_
  refine L_cB (c157 23 rfl) (js_v rfl ((Rl_tag hM rt57 (by decide)).trans js158)) hh157 (k_Rewriter_meet rt57 rt5 hr1 hr3 hM h) (fun r5 M μ6 hM h => ?_) (fun _ _ _ _ f => f.elim)
  exact L_retB (c157 26 rfl) (bz_b _) (hQ _ _ _ hM h)
theorem k_Lw_haveSameNormalForm_j16 {E : JE2} {t1 : Int} {t2 : Int64} {μ : Mem} {M : JM} {P : JO → JM → Prop} {g0 : JV} {g1 : JV} {g2 : JV} {g3 : JV} {g4 : JV} {Q : Int → Mem → Prop} (hM : Rl E M μ) (hQ : ∀ (r : Int) (M1 : JM) (μ1 : Mem), Rl E M1 μ1 → Q r μ1 → P (.inl (some (.inl r))) M1) (h : d_Lw_haveSameNormalForm_j16 t1 t2 μ Q) : JX 156 16 [g0, g1, g2, g3, g4] [jX (.long t2), jI t1, jR 795] M P := by
  unfold d_Lw_haveSameNormalForm_j16 at h
  obtain ⟨hb, h⟩ := h
  refine L_last (c156 16 rfl) hM rt795 ln795 hb (fun M hM => ?_)
  refine L_ps c156 (n := 2) (pc1 := 29) (ls1 := [g0, g1, g2, g3, g4]) (st1 := [jI 0]) rfl ?_
  exact L_retI (c156 29 rfl) (hQ _ _ _ hM h)
theorem k_Lw_haveSameNormalForm {E : JE2} {v1 : Int} {v2 : Int} {μ : Mem} {M : JM} {Q : Int → Mem → Prop} (hM : Rl E M μ) (h : d_Lw_haveSameNormalForm v1 v2 μ Q) : JX 156 0 (jargs 156 [jR 0, jI v1, jI v2, jR 795]) [] M (PO E (QI Q) XN) := by
  unfold d_Lw_haveSameNormalForm at h
  show JX 156 0 [jR 0, jI v1, jI v2, jR 795, jU] [] M (PO E (QI Q) XN)
  generalize hP : PO E (QI Q) XN = P
  have hQ : ∀ (r : Int) (M1 : JM) (μ1 : Mem), Rl E M1 μ1 → Q r μ1 → P (.inl (some (.inl r))) M1 := by rw [← hP]; exact fun r M1 μ1 a b => ⟨μ1, a, r, rfl, b⟩
  clear hP
  refine L_ps c156 (n := 5) (pc1 := 5) (ls1 := [jR 0, jI v1, jI v2, jR 795, jU]) (st1 := [jI v2, jI v1, jR 0, jI 0, jR 795]) rfl ?_
  refine L_cBH (c156 5 rfl) (js_v rfl ((Rl_tag hM rt0 (by decide)).trans js157)) (k_OB_haveSameNormalForm hM h) (fun r1 M μ2 hM h => ?_) (fun k M μx hM h => ?_)
  · refine L_nb (p1 := 15) (p2 := 11) (c156 8 rfl) rfl jc_eqb h (fun h => ?_) (fun h => ?_)
    · refine L_ps c156 (n := 2) (pc1 := 16) (ls1 := [jR 0, jI v1, jI v2, jR 795, jU]) (st1 := [jX (.long (Int64.ofNat 1)), jI 0, jR 795]) rfl ?_
      exact k_Lw_haveSameNormalForm_j16 hM hQ h
    · refine L_ps c156 (n := 1) (pc1 := 16) (ls1 := [jR 0, jI v1, jI v2, jR 795, jU]) (st1 := [jX (.long (Int64.ofNat 0)), jI 0, jR 795]) rfl ?_
      exact k_Lw_haveSameNormalForm_j16 hM hQ h
  · by_cases hk0 : k = 0
    · rw [if_pos hk0] at h
      subst hk0
      refine JH_of (h := 20) (i := 4) (pc1 := 22) (ls1 := [jR 0, jI v1, jI v2, jR 795, jU]) rfl rfl (Nat.le_of_ble_eq_true rfl) rfl rfl ?_
      refine L_ps c156 (n := 1) (pc1 := 23) (ls1 := [jR 0, jI v1, jI v2, jR 795, jU]) (st1 := [jI 1]) rfl ?_
      exact L_retI (c156 23 rfl) (hQ _ _ _ hM h)
    rw [if_neg hk0] at h
    by_cases hk1 : k = 1
    · rw [if_pos hk1] at h
      subst hk1
      refine JH_of (h := 24) (i := 4) (pc1 := 26) (ls1 := [jR 0, jI v1, jI v2, jR 795, jU]) rfl rfl (Nat.le_of_ble_eq_true rfl) rfl rfl ?_
      refine L_ps c156 (n := 1) (pc1 := 27) (ls1 := [jR 0, jI v1, jI v2, jR 795, jU]) (st1 := [jI 2]) rfl ?_
      exact L_retI (c156 27 rfl) (hQ _ _ _ hM h)
    rw [if_neg hk1] at h
    exact h.elim
theorem k_Unifier_clear {E : JE2} {v0 : Nat} {μ : Mem} {M : JM} {Q : Mem → Prop} (hv0 : rt v0 = 9) (hM : Rl E M μ) (h : d_Unifier_clear v0 μ Q) : JX 162 0 (jargs 162 [jR v0]) [] M (PO E (QV Q) XN) := by
  unfold d_Unifier_clear at h
  show JX 162 0 [jR v0] [] M (PO E (QV Q) XN)
  generalize hP : PO E (QV Q) XN = P
  have hQ : ∀ (M1 : JM) (μ1 : Mem), Rl E M1 μ1 → Q μ1 → P (.inl none) M1 := by rw [← hP]; exact fun M1 μ1 a b => ⟨μ1, a, rfl, b⟩
  clear hP
  refine L_ps c162 (n := 2) (pc1 := 2) (ls1 := [jR v0]) (st1 := [jI 0, jR v0]) rfl ?_
  refine L_putI (c162 2 rfl) hM hv0 rfl (fun M hM => ?_)
  refine L_ps c162 (n := 1) (pc1 := 6) (ls1 := [jR v0]) (st1 := [jR v0]) rfl ?_
  refine L_getP (d := 5) (c162 6 rfl) hM hv0 rfl ?_
  refine L_ps c162 (n := 1) (pc1 := 10) (ls1 := [jR v0]) (st1 := [jI (-1), jR (v0 + 5)]) rfl ?_
  refine L_cV (c162 10 rfl) (js_t rfl) hh162 (k_Arrays_fill (rp_9_5 hv0) hM h) (fun M μ2 hM h => ?_) (fun _ _ _ _ f => f.elim)
  exact L_end (c162 13 rfl) rfl (hQ _ _ hM h)
theorem k_Unifier_shareVariable_j41 {E : JE2} {v0 : Nat} {v1 : Int} {v2 : Int} {μ : Mem} {M : JM} {P : JO → JM → Prop} {Q : Mem → Prop} (hv0 : rt v0 = 9) (hM : Rl E M μ) (hQ : ∀ (M1 : JM) (μ1 : Mem), Rl E M1 μ1 → Q μ1 → P (.inl none) M1) (h : d_Unifier_shareVariable_j41 v0 v1 v2 μ Q) : JX 164 41 [jR v0, jI v1, jI v2] [] M P := by
  unfold d_Unifier_shareVariable_j41 at h
  refine L_ps c164 (n := 1) (pc1 := 42) (ls1 := [jR v0, jI v1, jI v2]) (st1 := [jR v0]) rfl ?_
  refine L_getP (d := 2) (c164 42 rfl) hM hv0 rfl ?_
  refine L_ps c164 (n := 2) (pc1 := 47) (ls1 := [jR v0, jI v1, jI v2]) (st1 := [jR v0, jI v1, jR (v0 + 2)]) rfl ?_
  refine L_getP (d := 5) (c164 47 rfl) hM hv0 rfl ?_
  refine L_ps c164 (n := 1) (pc1 := 51) (ls1 := [jR v0, jI v1, jI v2]) (st1 := [jI v2, jR (v0 + 5), jI v1, jR (v0 + 2)]) rfl ?_
  obtain ⟨hb, h⟩ := h
  refine L_iald (c164 51 rfl) hM (rp_9_5 hv0) (lp_9_5 hv0) hb ?_
  obtain ⟨hb, h⟩ := h
  refine L_iast (c164 52 rfl) hM (rp_9_2 hv0) (lp_9_2 hv0) hb (fun M hM => ?_)
  exact L_end (c164 53 rfl) rfl (hQ _ _ hM h)
theorem k_Unifier_shareVariable {E : JE2} {v0 : Nat} {v1 : Int} {v2 : Int} {μ : Mem} {M : JM} {Q : Mem → Prop} (hv0 : rt v0 = 9) (hM : Rl E M μ) (h : d_Unifier_shareVariable v0 v1 v2 μ Q) : JX 164 0 (jargs 164 [jR v0, jI v1, jI v2]) [] M (PO E (QV Q) XN) := by
  unfold d_Unifier_shareVariable at h
  show JX 164 0 [jR v0, jI v1, jI v2] [] M (PO E (QV Q) XN)
  generalize hP : PO E (QV Q) XN = P
  have hQ : ∀ (M1 : JM) (μ1 : Mem), Rl E M1 μ1 → Q μ1 → P (.inl none) M1 := by rw [← hP]; exact fun M1 μ1 a b => ⟨μ1, a, rfl, b⟩
  clear hP
  refine L_ps c164 (n := 1) (pc1 := 1) (ls1 := [jR v0, jI v1, jI v2]) (st1 := [jI v2]) rfl ?_
  refine L_br (p1 := 53) (p2 := 4) (c164 1 rfl) rfl jc_lt h (fun h => ?_) (fun h => ?_)
  · exact L_end (c164 53 rfl) rfl (hQ _ _ hM h)
  · refine L_ps c164 (n := 2) (pc1 := 6) (ls1 := [jR v0, jI v1, jI v2]) (st1 := [jR v0, jI v2]) rfl ?_
    refine L_getP (d := 5) (c164 6 rfl) hM hv0 rfl ?_
    refine L_alen (n := 16) (z := 16) (c164 9 rfl) hM (rp_9_5 hv0) (by decide) (lp_9_5 hv0) (by decide) rfl ?_
    refine L_nb (p1 := 53) (p2 := 13) (c164 10 rfl) rfl jc_ge h (fun h => ?_) (fun h => ?_)
    · refine L_ps c164 (n := 1) (pc1 := 14) (ls1 := [jR v0, jI v1, jI v2]) (st1 := [jI v1]) rfl ?_
      refine L_br (p1 := 53) (p2 := 17) (c164 14 rfl) rfl jc_lt h (fun h => ?_) (fun h => ?_)
      · exact L_end (c164 53 rfl) rfl (hQ _ _ hM h)
      · refine L_ps c164 (n := 2) (pc1 := 21) (ls1 := [jR v0, jI v1, jI v2]) (st1 := [jI 160, jI v1]) rfl ?_
        refine L_nb (p1 := 53) (p2 := 24) (c164 21 rfl) rfl jc_ge h (fun h => ?_) (fun h => ?_)
        · refine L_ps c164 (n := 1) (pc1 := 25) (ls1 := [jR v0, jI v1, jI v2]) (st1 := [jR v0]) rfl ?_
          refine L_getP (d := 5) (c164 25 rfl) hM hv0 rfl ?_
          refine L_ps c164 (n := 1) (pc1 := 29) (ls1 := [jR v0, jI v1, jI v2]) (st1 := [jI v2, jR (v0 + 5)]) rfl ?_
          obtain ⟨hb, h⟩ := h
          refine L_iald (c164 29 rfl) hM (rp_9_5 hv0) (lp_9_5 hv0) hb ?_
          refine L_ps c164 (n := 1) (pc1 := 31) (ls1 := [jR v0, jI v1, jI v2]) (st1 := [jI (-1), jI (μ (v0 + 5) v2.toNat)]) rfl ?_
          refine L_nb (p1 := 41) (p2 := 34) (c164 31 rfl) rfl jc_ne h (fun h => ?_) (fun h => ?_)
          · refine L_ps c164 (n := 1) (pc1 := 35) (ls1 := [jR v0, jI v1, jI v2]) (st1 := [jR v0]) rfl ?_
            refine L_getP (d := 5) (c164 35 rfl) hM hv0 rfl ?_
            refine L_ps c164 (n := 2) (pc1 := 40) (ls1 := [jR v0, jI v1, jI v2]) (st1 := [jI v1, jI v2, jR (v0 + 5)]) rfl ?_
            obtain ⟨hb, h⟩ := h
            refine L_iast (c164 40 rfl) hM (rp_9_5 hv0) (lp_9_5 hv0) hb (fun M hM => ?_)
            exact k_Unifier_shareVariable_j41 hv0 hM hQ h
          · exact k_Unifier_shareVariable_j41 hv0 hM hQ h
        · exact L_end (c164 53 rfl) rfl (hQ _ _ hM h)
    · exact L_end (c164 53 rfl) rfl (hQ _ _ hM h)
theorem k_Unifier_load_j110 {E : JE2} {v0 : Nat} {v1 : Nat} {v2 : Int} {v3 : Int} {v4 : Int} {μ : Mem} {M : JM} {P : JO → JM → Prop} {g5 : JV} {g6 : JV} {W8 : Int → Mem → Prop} {Q : Int → Mem → Prop} (hg5 : jc2 g5 = false) (hv0 : rt v0 = 9) (hv1 : rt v1 = 8) (hM : Rl E M μ) (hQ : ∀ (r : Int) (M1 : JM) (μ1 : Mem), Rl E M1 μ1 → Q r μ1 → P (.inl (some (.inl r))) M1) (hW8 : ∀ (v4 : Int) (g5 : JV) (g6 : JV) (M1 : JM) (μ1 : Mem), jc2 g5 = false → Rl E M1 μ1 → W8 v4 μ1 → JX 163 8 [jR v0, jR v1, jI v2, jI v3, jI v4, g5, g6] [] M1 P) (h : d_Unifier_load_j110 v0 v1 v2 v3 v4 μ W8 Q) : JX 163 110 [jR v0, jR v1, jI v2, jI v3, jI v4, g5, g6] [] M P := by
  unfold d_Unifier_load_j110 at h
  refine L_ps c163 (n := 2) (pc1 := 112) (ls1 := [jR v0, jR v1, jI v2, jI v3, jI v4, g5, g6]) (st1 := [jR v0, jR v0]) rfl ?_
  refine L_getI (c163 112 rfl) hM hv0 rfl ?_
  refine L_ps c163 (n := 2) (pc1 := 117) (ls1 := [jR v0, jR v1, jI v2, jI v3, jI v4, g5, g6]) (st1 := [jI (wr ((μ v0 0) + 1)), jR v0]) rfl ?_
  refine L_putI (c163 117 rfl) hM hv0 rfl (fun M hM => ?_)
  refine L_ps c163 (n := 2) (pc1 := 8) (ls1 := [jR v0, jR v1, jI v2, jI v3, jI (wr (v4 + 1)), g5, g6]) (st1 := []) rfl ?_
  exact hW8 _ _ _ _ _ hg5 hM h
theorem k_Unifier_load_j68 {E : JE2} {v0 : Nat} {v1 : Nat} {v2 : Int} {v3 : Int} {v4 : Int} {v5 : Int} {v6 : Int} {t0 : Nat} {t1 : Int} {t2 : Int} {μ : Mem} {M : JM} {P : JO → JM → Prop} {W8 : Int → Mem → Prop} {Q : Int → Mem → Prop} (hv0 : rt v0 = 9) (hv1 : rt v1 = 8) (ht0 : rt t0 = 100) (hM : Rl E M μ) (hQ : ∀ (r : Int) (M1 : JM) (μ1 : Mem), Rl E M1 μ1 → Q r μ1 → P (.inl (some (.inl r))) M1) (hW8 : ∀ (v4 : Int) (g5 : JV) (g6 : JV) (M1 : JM) (μ1 : Mem), jc2 g5 = false → Rl E M1 μ1 → W8 v4 μ1 → JX 163 8 [jR v0, jR v1, jI v2, jI v3, jI v4, g5, g6] [] M1 P) (h : d_Unifier_load_j68 v0 v1 v2 v3 v4 v5 v6 t0 t1 t2 μ W8 Q) : JX 163 68 [jR v0, jR v1, jI v2, jI v3, jI v4, jI v5, jI v6] [jI t2, jI t1, jR t0] M P := by
  unfold d_Unifier_load_j68 at h
  obtain ⟨hb, h⟩ := h
  refine L_iast (c163 68 rfl) hM ht0 rfl hb (fun M hM => ?_)
  refine L_ps c163 (n := 1) (pc1 := 70) (ls1 := [jR v0, jR v1, jI v2, jI v3, jI v4, jI v5, jI v6]) (st1 := [jR v0]) rfl ?_
  refine L_getP (d := 3) (c163 70 rfl) hM hv0 rfl ?_
  refine L_ps c163 (n := 4) (pc1 := 79) (ls1 := [jR v0, jR v1, jI v2, jI v3, jI v4, jI v5, jI v6]) (st1 := [jI v4, jR v1, jI v3, jI v6, jR (v0 + 3)]) rfl ?_
  refine L_cpI (c163 79 rfl) (js_v rfl ((Rl_tag hM hv1 (by decide)).trans js75)) hh163 (k_Term_end hv1 hM h) (fun r3 M hM h => ?_) (fun _ _ _ _ f => f.elim)
  refine L_ps c163 (n := 1) (pc1 := 83) (ls1 := [jR v0, jR v1, jI v2, jI v3, jI v4, jI v5, jI v6]) (st1 := [jI (wr (v3 + r3)), jI v6, jR (v0 + 3)]) rfl ?_
  obtain ⟨hb, h⟩ := h
  refine L_iast (c163 83 rfl) hM (rp_9_3 hv0) (lp_9_3 hv0) hb (fun M hM => ?_)
  refine L_ps c163 (n := 1) (pc1 := 85) (ls1 := [jR v0, jR v1, jI v2, jI v3, jI v4, jI v5, jI v6]) (st1 := [jR v0]) rfl ?_
  refine L_getP (d := 2) (c163 85 rfl) hM hv0 rfl ?_
  refine L_ps c163 (n := 2) (pc1 := 92) (ls1 := [jR v0, jR v1, jI v2, jI v3, jI v4, jI v5, jI v6]) (st1 := [jI v6, jI v6, jR (v0 + 2)]) rfl ?_
  obtain ⟨hb, h⟩ := h
  refine L_iast (c163 92 rfl) hM (rp_9_2 hv0) (lp_9_2 hv0) hb (fun M hM => ?_)
  refine L_ps c163 (n := 1) (pc1 := 95) (ls1 := [jR v0, jR v1, jI v2, jI v3, jI v4, jI v5, jI v6]) (st1 := [jI v5]) rfl ?_
  refine L_nb (p1 := 110) (p2 := 98) (c163 95 rfl) rfl jc_ge h (fun h => ?_) (fun h => ?_)
  · refine L_ps c163 (n := 7) (pc1 := 107) (ls1 := [jR v0, jR v1, jI v2, jI v3, jI v4, jI v5, jI v6]) (st1 := [jI (wr ((wr (v2 - 1)) - v5)), jI v6, jR v0]) rfl ?_
    refine L_cV (c163 107 rfl) (js_v rfl ((Rl_tag hM hv0 (by decide)).trans js164)) hh163 (k_Unifier_shareVariable hv0 hM h) (fun M μ6 hM h => ?_) (fun _ _ _ _ f => f.elim)
    exact k_Unifier_load_j110 rfl hv0 hv1 hM hQ hW8 h
  · exact k_Unifier_load_j110 rfl hv0 hv1 hM hQ hW8 h
theorem k_Unifier_load_b8 {E : JE2} {v0 : Nat} {v1 : Nat} {v2 : Int} {v3 : Int} {v4 : Int} {μ : Mem} {M : JM} {P : JO → JM → Prop} {g5 : JV} {g6 : JV} {W8 : Int → Mem → Prop} {Q : Int → Mem → Prop} (hg5 : jc2 g5 = false) (hv0 : rt v0 = 9) (hv1 : rt v1 = 8) (hM : Rl E M μ) (hQ : ∀ (r : Int) (M1 : JM) (μ1 : Mem), Rl E M1 μ1 → Q r μ1 → P (.inl (some (.inl r))) M1) (hW8 : ∀ (v4 : Int) (g5 : JV) (g6 : JV) (M1 : JM) (μ1 : Mem), jc2 g5 = false → Rl E M1 μ1 → W8 v4 μ1 → JX 163 8 [jR v0, jR v1, jI v2, jI v3, jI v4, g5, g6] [] M1 P) (h : d_Unifier_load_b8 v0 v1 v2 v3 v4 μ W8 Q) : JX 163 8 [jR v0, jR v1, jI v2, jI v3, jI v4, g5, g6] [] M P := by
  unfold d_Unifier_load_b8 at h
  refine L_ps c163 (n := 2) (pc1 := 11) (ls1 := [jR v0, jR v1, jI v2, jI v3, jI v4, g5, g6]) (st1 := [jR v1, jI v4]) rfl ?_
  refine L_getI (c163 11 rfl) hM hv1 rfl ?_
  refine L_nb (p1 := 126) (p2 := 17) (c163 14 rfl) rfl jc_ge h (fun h => ?_) (fun h => ?_)
  · refine L_ps c163 (n := 1) (pc1 := 18) (ls1 := [jR v0, jR v1, jI v2, jI v3, jI v4, g5, g6]) (st1 := [jR v0]) rfl ?_
    refine L_getI (c163 18 rfl) hM hv0 rfl ?_
    refine L_br (p1 := 126) (p2 := 24) (c163 21 rfl) rfl jc_lt h (fun h => ?_) (fun h => ?_)
    · refine L_ps c163 (n := 1) (pc1 := 127) (ls1 := [jR v0, jR v1, jI v2, jI v3, jI v4, g5, g6]) (st1 := [jI v3]) rfl ?_
      exact L_retI (c163 127 rfl) (hQ _ _ _ hM h)
    · refine L_ps c163 (n := 1) (pc1 := 25) (ls1 := [jR v0, jR v1, jI v2, jI v3, jI v4, g5, g6]) (st1 := [jR v0]) rfl ?_
      refine L_getI (c163 25 rfl) hM hv0 rfl ?_
      refine L_ps c163 (n := 1) (pc1 := 31) (ls1 := [jR v0, jR v1, jI v2, jI v3, jI v4, g5, g6]) (st1 := [jI 160, jI (μ v0 0)]) rfl ?_
      refine L_nb (p1 := 126) (p2 := 34) (c163 31 rfl) rfl jc_ge h (fun h => ?_) (fun h => ?_)
      · refine L_ps c163 (n := 2) (pc1 := 37) (ls1 := [jR v0, jR v1, jI v2, jI v3, jI v4, g5, g6]) (st1 := [jI v4, jR v1]) rfl ?_
        refine L_cpI (c163 37 rfl) (js_v rfl ((Rl_tag hM hv1 (by decide)).trans js53)) hh163 (k_Term_get hv1 hM h) (fun r1 M hM h => ?_) (fun _ _ _ _ f => f.elim)
        refine L_ps c163 (n := 2) (pc1 := 43) (ls1 := [jR v0, jR v1, jI v2, jI v3, jI v4, jI r1, g6]) (st1 := [jR v0]) rfl ?_
        refine L_getI (c163 43 rfl) hM hv0 rfl ?_
        refine L_ps c163 (n := 2) (pc1 := 49) (ls1 := [jR v0, jR v1, jI v2, jI v3, jI v4, jI r1, jI (μ v0 0)]) (st1 := [jR v0]) rfl ?_
        refine L_getP (d := 1) (c163 49 rfl) hM hv0 rfl ?_
        refine L_ps c163 (n := 2) (pc1 := 56) (ls1 := [jR v0, jR v1, jI v2, jI v3, jI v4, jI r1, jI (μ v0 0)]) (st1 := [jI r1, jI (μ v0 0), jR (v0 + 1)]) rfl ?_
        refine L_nb (p1 := 66) (p2 := 59) (c163 56 rfl) rfl jc_ge h (fun h => ?_) (fun h => ?_)
        · refine L_ps c163 (n := 4) (pc1 := 68) (ls1 := [jR v0, jR v1, jI v2, jI v3, jI v4, jI r1, jI (μ v0 0)]) (st1 := [jI (wr (r1 - v2)), jI (μ v0 0), jR (v0 + 1)]) rfl ?_
          exact k_Unifier_load_j68 hv0 hv1 (rp_9_1 hv0) hM hQ hW8 h
        · refine L_ps c163 (n := 1) (pc1 := 68) (ls1 := [jR v0, jR v1, jI v2, jI v3, jI v4, jI r1, jI (μ v0 0)]) (st1 := [jI r1, jI (μ v0 0), jR (v0 + 1)]) rfl ?_
          exact k_Unifier_load_j68 hv0 hv1 (rp_9_1 hv0) hM hQ hW8 h
      · refine L_ps c163 (n := 1) (pc1 := 127) (ls1 := [jR v0, jR v1, jI v2, jI v3, jI v4, g5, g6]) (st1 := [jI v3]) rfl ?_
        exact L_retI (c163 127 rfl) (hQ _ _ _ hM h)
  · refine L_ps c163 (n := 1) (pc1 := 127) (ls1 := [jR v0, jR v1, jI v2, jI v3, jI v4, g5, g6]) (st1 := [jI v3]) rfl ?_
    exact L_retI (c163 127 rfl) (hQ _ _ _ hM h)
theorem k_Unifier_load_l8 {E : JE2} {v0 : Nat} {v1 : Nat} {v2 : Int} {v3 : Int} {v4 : Int} {μ : Mem} {M : JM} {P : JO → JM → Prop} {g5 : JV} {g6 : JV} {Q : Int → Mem → Prop} (hg5 : jc2 g5 = false) (hv0 : rt v0 = 9) (hv1 : rt v1 = 8) (hM : Rl E M μ) (hQ : ∀ (r : Int) (M1 : JM) (μ1 : Mem), Rl E M1 μ1 → Q r μ1 → P (.inl (some (.inl r))) M1) (h : d_Unifier_load_l8 v0 v1 v2 v3 v4 μ Q) : JX 163 8 [jR v0, jR v1, jI v2, jI v3, jI v4, g5, g6] [] M P := by
  refine h (fun v4 μ => ∀ (g5 : JV) (g6 : JV) (M : JM), jc2 g5 = false → Rl E M μ → JX 163 8 [jR v0, jR v1, jI v2, jI v3, jI v4, g5, g6] [] M P) ?_ _ _ _ hg5 hM
  intro v4 μ h g5 g6 M hg5 hM
  exact k_Unifier_load_b8 hg5 hv0 hv1 hM hQ (fun v4 g5 g6 M μ hg5 hM h => h g5 g6 M hg5 hM) h
theorem k_Unifier_load {E : JE2} {v0 : Nat} {v1 : Nat} {v2 : Int} {μ : Mem} {M : JM} {Q : Int → Mem → Prop} (hv0 : rt v0 = 9) (hv1 : rt v1 = 8) (hM : Rl E M μ) (h : d_Unifier_load v0 v1 v2 μ Q) : JX 163 0 (jargs 163 [jR v0, jR v1, jI v2]) [] M (PO E (QI Q) XN) := by
  unfold d_Unifier_load at h
  show JX 163 0 [jR v0, jR v1, jI v2, jU, jU, jU, jU] [] M (PO E (QI Q) XN)
  generalize hP : PO E (QI Q) XN = P
  have hQ : ∀ (r : Int) (M1 : JM) (μ1 : Mem), Rl E M1 μ1 → Q r μ1 → P (.inl (some (.inl r))) M1 := by rw [← hP]; exact fun r M1 μ1 a b => ⟨μ1, a, r, rfl, b⟩
  clear hP
  refine L_ps c163 (n := 1) (pc1 := 1) (ls1 := [jR v0, jR v1, jI v2, jU, jU, jU, jU]) (st1 := [jR v0]) rfl ?_
  refine L_getI (c163 1 rfl) hM hv0 rfl ?_
  refine L_ps c163 (n := 3) (pc1 := 8) (ls1 := [jR v0, jR v1, jI v2, jI (μ v0 0), jI 0, jU, jU]) (st1 := []) rfl ?_
  exact k_Unifier_load_l8 rfl hv0 hv1 hM hQ h
theorem k_Unifier_push {E : JE2} {v0 : Nat} {v1 : Int} {μ : Mem} {M : JM} {Q : Mem → Prop} (hv0 : rt v0 = 9) (hM : Rl E M μ) (h : d_Unifier_push v0 v1 μ Q) : JX 167 0 (jargs 167 [jR v0, jI v1]) [] M (PO E (QV Q) XN) := by
  unfold d_Unifier_push at h
  show JX 167 0 [jR v0, jI v1] [] M (PO E (QV Q) XN)
  generalize hP : PO E (QV Q) XN = P
  have hQ : ∀ (M1 : JM) (μ1 : Mem), Rl E M1 μ1 → Q μ1 → P (.inl none) M1 := by rw [← hP]; exact fun M1 μ1 a b => ⟨μ1, a, rfl, b⟩
  clear hP
  refine L_ps c167 (n := 1) (pc1 := 1) (ls1 := [jR v0, jI v1]) (st1 := [jR v0]) rfl ?_
  refine L_getI (c167 1 rfl) hM hv0 rfl ?_
  refine L_br (p1 := 37) (p2 := 7) (c167 4 rfl) rfl jc_lt h (fun h => ?_) (fun h => ?_)
  · exact L_end (c167 37 rfl) rfl (hQ _ _ hM h)
  · refine L_ps c167 (n := 1) (pc1 := 8) (ls1 := [jR v0, jI v1]) (st1 := [jR v0]) rfl ?_
    refine L_getI (c167 8 rfl) hM hv0 rfl ?_
    refine L_ps c167 (n := 1) (pc1 := 14) (ls1 := [jR v0, jI v1]) (st1 := [jI 962, jI (μ v0 7)]) rfl ?_
    refine L_nb (p1 := 37) (p2 := 17) (c167 14 rfl) rfl jc_ge h (fun h => ?_) (fun h => ?_)
    · refine L_ps c167 (n := 1) (pc1 := 18) (ls1 := [jR v0, jI v1]) (st1 := [jR v0]) rfl ?_
      refine L_getP (d := 6) (c167 18 rfl) hM hv0 rfl ?_
      refine L_ps c167 (n := 1) (pc1 := 22) (ls1 := [jR v0, jI v1]) (st1 := [jR v0, jR (v0 + 6)]) rfl ?_
      refine L_getI (c167 22 rfl) hM hv0 rfl ?_
      refine L_ps c167 (n := 1) (pc1 := 26) (ls1 := [jR v0, jI v1]) (st1 := [jI v1, jI (μ v0 7), jR (v0 + 6)]) rfl ?_
      obtain ⟨hb, h⟩ := h
      refine L_iast (c167 26 rfl) hM (rp_9_6 hv0) (lp_9_6 hv0) hb (fun M hM => ?_)
      refine L_ps c167 (n := 2) (pc1 := 29) (ls1 := [jR v0, jI v1]) (st1 := [jR v0, jR v0]) rfl ?_
      refine L_getI (c167 29 rfl) hM hv0 rfl ?_
      refine L_ps c167 (n := 2) (pc1 := 34) (ls1 := [jR v0, jI v1]) (st1 := [jI (wr (((mup μ (v0 + 6) (μ v0 7).toNat v1) v0 7) + 1)), jR v0]) rfl ?_
      refine L_putI (c167 34 rfl) hM hv0 rfl (fun M hM => ?_)
      exact L_end (c167 37 rfl) rfl (hQ _ _ hM h)
    · exact L_end (c167 37 rfl) rfl (hQ _ _ hM h)
theorem k_Unifier_pop {E : JE2} {v0 : Nat} {μ : Mem} {M : JM} {Q : Int → Mem → Prop} (hv0 : rt v0 = 9) (hM : Rl E M μ) (h : d_Unifier_pop v0 μ Q) : JX 168 0 (jargs 168 [jR v0]) [] M (PO E (QI Q) XN) := by
  unfold d_Unifier_pop at h
  show JX 168 0 [jR v0] [] M (PO E (QI Q) XN)
  generalize hP : PO E (QI Q) XN = P
  have hQ : ∀ (r : Int) (M1 : JM) (μ1 : Mem), Rl E M1 μ1 → Q r μ1 → P (.inl (some (.inl r))) M1 := by rw [← hP]; exact fun r M1 μ1 a b => ⟨μ1, a, r, rfl, b⟩
  clear hP
  refine L_ps c168 (n := 1) (pc1 := 1) (ls1 := [jR v0]) (st1 := [jR v0]) rfl ?_
  refine L_getI (c168 1 rfl) hM hv0 rfl ?_
  refine L_nb (p1 := 17) (p2 := 7) (c168 4 rfl) rfl jc_le h (fun h => ?_) (fun h => ?_)
  · refine L_ps c168 (n := 1) (pc1 := 8) (ls1 := [jR v0]) (st1 := [jR v0]) rfl ?_
    refine L_getI (c168 8 rfl) hM hv0 rfl ?_
    refine L_ps c168 (n := 1) (pc1 := 14) (ls1 := [jR v0]) (st1 := [jI 962, jI (μ v0 7)]) rfl ?_
    refine L_nb (p1 := 19) (p2 := 17) (c168 14 rfl) rfl jc_le h (fun h => ?_) (fun h => ?_)
    · refine L_ps c168 (n := 1) (pc1 := 18) (ls1 := [jR v0]) (st1 := [jI (-1)]) rfl ?_
      exact L_retI (c168 18 rfl) (hQ _ _ _ hM h)
    · refine L_ps c168 (n := 2) (pc1 := 21) (ls1 := [jR v0]) (st1 := [jR v0, jR v0]) rfl ?_
      refine L_getI (c168 21 rfl) hM hv0 rfl ?_
      refine L_ps c168 (n := 2) (pc1 := 26) (ls1 := [jR v0]) (st1 := [jI (wr ((μ v0 7) - 1)), jR v0]) rfl ?_
      refine L_putI (c168 26 rfl) hM hv0 rfl (fun M hM => ?_)
      refine L_ps c168 (n := 1) (pc1 := 30) (ls1 := [jR v0]) (st1 := [jR v0]) rfl ?_
      refine L_getP (d := 6) (c168 30 rfl) hM hv0 rfl ?_
      refine L_ps c168 (n := 1) (pc1 := 34) (ls1 := [jR v0]) (st1 := [jR v0, jR (v0 + 6)]) rfl ?_
      refine L_getI (c168 34 rfl) hM hv0 rfl ?_
      obtain ⟨hb, h⟩ := h
      refine L_iald (c168 37 rfl) hM (rp_9_6 hv0) (lp_9_6 hv0) hb ?_
      exact L_retI (c168 38 rfl) (hQ _ _ _ hM h)
  · refine L_ps c168 (n := 1) (pc1 := 18) (ls1 := [jR v0]) (st1 := [jI (-1)]) rfl ?_
    exact L_retI (c168 18 rfl) (hQ _ _ _ hM h)
theorem k_Unifier_root_b4 {E : JE2} {v0 : Nat} {v2 : Int} {v3 : Int} {μ : Mem} {M : JM} {P : JO → JM → Prop} {g1 : JV} {W4 : Int → Int → Prop} {Q : Int → Prop} (hg1 : jc2 g1 = false) (hv0 : rt v0 = 9) (hM : Rl E M μ) (hQ : ∀ (r : Int) (M1 : JM), Rl E M1 μ → Q r → P (.inl (some (.inl r))) M1) (hW4 : ∀ (v2 : Int) (v3 : Int) (g1 : JV) (M1 : JM), jc2 g1 = false → Rl E M1 μ → W4 v2 v3 → JX 169 4 [jR v0, g1, jI v2, jI v3] [] M1 P) (h : d_Unifier_root_b4 v0 v2 v3 μ W4 Q) : JX 169 4 [jR v0, g1, jI v2, jI v3] [] M P := by
  unfold d_Unifier_root_b4 at h
  refine L_ps c169 (n := 2) (pc1 := 8) (ls1 := [jR v0, g1, jI v2, jI v3]) (st1 := [jI 160, jI v3]) rfl ?_
  refine L_nb (p1 := 47) (p2 := 11) (c169 8 rfl) rfl jc_ge h (fun h => ?_) (fun h => ?_)
  · refine L_ps c169 (n := 1) (pc1 := 12) (ls1 := [jR v0, g1, jI v2, jI v3]) (st1 := [jI v2]) rfl ?_
    refine L_br (p1 := 32) (p2 := 15) (c169 12 rfl) rfl jc_lt h (fun h => ?_) (fun h => ?_)
    · refine L_ps c169 (n := 1) (pc1 := 33) (ls1 := [jR v0, g1, jI v2, jI v3]) (st1 := [jI v2]) rfl ?_
      exact L_retI (c169 33 rfl) (hQ _ _ hM h)
    · refine L_ps c169 (n := 2) (pc1 := 19) (ls1 := [jR v0, g1, jI v2, jI v3]) (st1 := [jI 160, jI v2]) rfl ?_
      refine L_nb (p1 := 32) (p2 := 22) (c169 19 rfl) rfl jc_ge h (fun h => ?_) (fun h => ?_)
      · refine L_ps c169 (n := 1) (pc1 := 23) (ls1 := [jR v0, g1, jI v2, jI v3]) (st1 := [jR v0]) rfl ?_
        refine L_getP (d := 2) (c169 23 rfl) hM hv0 rfl ?_
        refine L_ps c169 (n := 1) (pc1 := 27) (ls1 := [jR v0, g1, jI v2, jI v3]) (st1 := [jI v2, jR (v0 + 2)]) rfl ?_
        obtain ⟨hb, h⟩ := h
        refine L_iald (c169 27 rfl) hM (rp_9_2 hv0) (lp_9_2 hv0) hb ?_
        refine L_ps c169 (n := 1) (pc1 := 29) (ls1 := [jR v0, g1, jI v2, jI v3]) (st1 := [jI v2, jI (μ (v0 + 2) v2.toNat)]) rfl ?_
        refine L_nb (p1 := 34) (p2 := 32) (c169 29 rfl) rfl jc_ne h (fun h => ?_) (fun h => ?_)
        · refine L_ps c169 (n := 1) (pc1 := 33) (ls1 := [jR v0, g1, jI v2, jI v3]) (st1 := [jI v2]) rfl ?_
          exact L_retI (c169 33 rfl) (hQ _ _ hM h)
        · refine L_ps c169 (n := 1) (pc1 := 35) (ls1 := [jR v0, g1, jI v2, jI v3]) (st1 := [jR v0]) rfl ?_
          refine L_getP (d := 2) (c169 35 rfl) hM hv0 rfl ?_
          refine L_ps c169 (n := 1) (pc1 := 39) (ls1 := [jR v0, g1, jI v2, jI v3]) (st1 := [jI v2, jR (v0 + 2)]) rfl ?_
          obtain ⟨hb, h⟩ := h
          refine L_iald (c169 39 rfl) hM (rp_9_2 hv0) (lp_9_2 hv0) hb ?_
          refine L_istn (c169 40 rfl) (hg1) (Nat.le_of_ble_eq_true rfl) ?_
          show JX 169 41 [jR v0, g1, jI (μ (v0 + 2) v2.toNat), jI v3] [] M P
          refine L_ps c169 (n := 2) (pc1 := 4) (ls1 := [jR v0, g1, jI (μ (v0 + 2) v2.toNat), jI (wr (v3 + 1))]) (st1 := []) rfl ?_
          exact hW4 _ _ _ _ hg1 hM h
      · refine L_ps c169 (n := 1) (pc1 := 33) (ls1 := [jR v0, g1, jI v2, jI v3]) (st1 := [jI v2]) rfl ?_
        exact L_retI (c169 33 rfl) (hQ _ _ hM h)
  · refine L_ps c169 (n := 1) (pc1 := 48) (ls1 := [jR v0, g1, jI v2, jI v3]) (st1 := [jI v2]) rfl ?_
    exact L_retI (c169 48 rfl) (hQ _ _ hM h)
theorem k_Unifier_root_l4 {E : JE2} {v0 : Nat} {v2 : Int} {v3 : Int} {μ : Mem} {M : JM} {P : JO → JM → Prop} {g1 : JV} {Q : Int → Prop} (hg1 : jc2 g1 = false) (hv0 : rt v0 = 9) (hM : Rl E M μ) (hQ : ∀ (r : Int) (M1 : JM), Rl E M1 μ → Q r → P (.inl (some (.inl r))) M1) (h : d_Unifier_root_l4 v0 v2 v3 μ Q) : JX 169 4 [jR v0, g1, jI v2, jI v3] [] M P := by
  refine h (fun v2 v3 => ∀ (g1 : JV) (M : JM), jc2 g1 = false → Rl E M μ → JX 169 4 [jR v0, g1, jI v2, jI v3] [] M P) ?_ _ _ hg1 hM
  intro v2 v3 h g1 M hg1 hM
  exact k_Unifier_root_b4 hg1 hv0 hM hQ (fun v2 v3 g1 M hg1 hM h => h g1 M hg1 hM) h
theorem k_Unifier_root {E : JE2} {v0 : Nat} {v1 : Int} {μ : Mem} {M : JM} {Q : Int → Prop} (hv0 : rt v0 = 9) (hM : Rl E M μ) (h : d_Unifier_root v0 v1 μ Q) : JX 169 0 (jargs 169 [jR v0, jI v1]) [] M (PO E (pQI μ Q) XN) := by
  unfold d_Unifier_root at h
  show JX 169 0 [jR v0, jI v1, jU, jU] [] M (PO E (pQI μ Q) XN)
  generalize hP : PO E (pQI μ Q) XN = P
  have hQ : ∀ (r : Int) (M1 : JM), Rl E M1 μ → Q r → P (.inl (some (.inl r))) M1 := by rw [← hP]; exact fun r M1 a b => ⟨μ, a, rfl, r, rfl, b⟩
  clear hP
  refine L_ps c169 (n := 4) (pc1 := 4) (ls1 := [jR v0, jI v1, jI v1, jI 0]) (st1 := []) rfl ?_
  exact k_Unifier_root_l4 rfl hv0 hM hQ h
theorem k_Unifier_label {E : JE2} {v0 : Nat} {v1 : Int} {μ : Mem} {M : JM} {Q : Int → Prop} (hv0 : rt v0 = 9) (hM : Rl E M μ) (h : d_Unifier_label v0 v1 μ Q) : JX 170 0 (jargs 170 [jR v0, jI v1]) [] M (PO E (pQI μ Q) XN) := by
  unfold d_Unifier_label at h
  show JX 170 0 [jR v0, jI v1] [] M (PO E (pQI μ Q) XN)
  generalize hP : PO E (pQI μ Q) XN = P
  have hQ : ∀ (r : Int) (M1 : JM), Rl E M1 μ → Q r → P (.inl (some (.inl r))) M1 := by rw [← hP]; exact fun r M1 a b => ⟨μ, a, rfl, r, rfl, b⟩
  clear hP
  refine L_ps c170 (n := 1) (pc1 := 1) (ls1 := [jR v0, jI v1]) (st1 := [jI v1]) rfl ?_
  refine L_br (p1 := 20) (p2 := 4) (c170 1 rfl) rfl jc_lt h (fun h => ?_) (fun h => ?_)
  · refine L_ps c170 (n := 1) (pc1 := 22) (ls1 := [jR v0, jI v1]) (st1 := [jI (-2147483648)]) rfl ?_
    exact L_retI (c170 22 rfl) (hQ _ _ hM h)
  · refine L_ps c170 (n := 2) (pc1 := 8) (ls1 := [jR v0, jI v1]) (st1 := [jI 160, jI v1]) rfl ?_
    refine L_nb (p1 := 20) (p2 := 11) (c170 8 rfl) rfl jc_ge h (fun h => ?_) (fun h => ?_)
    · refine L_ps c170 (n := 1) (pc1 := 12) (ls1 := [jR v0, jI v1]) (st1 := [jR v0]) rfl ?_
      refine L_getP (d := 1) (c170 12 rfl) hM hv0 rfl ?_
      refine L_ps c170 (n := 1) (pc1 := 16) (ls1 := [jR v0, jI v1]) (st1 := [jI v1, jR (v0 + 1)]) rfl ?_
      obtain ⟨hb, h⟩ := h
      refine L_iald (c170 16 rfl) hM (rp_9_1 hv0) (lp_9_1 hv0) hb ?_
      refine L_ps c170 (n := 1) (pc1 := 22) (ls1 := [jR v0, jI v1]) (st1 := [jI (μ (v0 + 1) v1.toNat)]) rfl ?_
      exact L_retI (c170 22 rfl) (hQ _ _ hM h)
    · refine L_ps c170 (n := 1) (pc1 := 22) (ls1 := [jR v0, jI v1]) (st1 := [jI (-2147483648)]) rfl ?_
      exact L_retI (c170 22 rfl) (hQ _ _ hM h)
theorem k_Unifier_hang {E : JE2} {v0 : Nat} {v1 : Int} {v2 : Int} {μ : Mem} {M : JM} {Q : Mem → Prop} (hv0 : rt v0 = 9) (hM : Rl E M μ) (h : d_Unifier_hang v0 v1 v2 μ Q) : JX 171 0 (jargs 171 [jR v0, jI v1, jI v2]) [] M (PO E (QV Q) XN) := by
  unfold d_Unifier_hang at h
  show JX 171 0 [jR v0, jI v1, jI v2] [] M (PO E (QV Q) XN)
  generalize hP : PO E (QV Q) XN = P
  have hQ : ∀ (M1 : JM) (μ1 : Mem), Rl E M1 μ1 → Q μ1 → P (.inl none) M1 := by rw [← hP]; exact fun M1 μ1 a b => ⟨μ1, a, rfl, b⟩
  clear hP
  refine L_ps c171 (n := 1) (pc1 := 1) (ls1 := [jR v0, jI v1, jI v2]) (st1 := [jI v1]) rfl ?_
  refine L_br (p1 := 18) (p2 := 4) (c171 1 rfl) rfl jc_lt h (fun h => ?_) (fun h => ?_)
  · exact L_end (c171 18 rfl) rfl (hQ _ _ hM h)
  · refine L_ps c171 (n := 2) (pc1 := 8) (ls1 := [jR v0, jI v1, jI v2]) (st1 := [jI 160, jI v1]) rfl ?_
    refine L_nb (p1 := 18) (p2 := 11) (c171 8 rfl) rfl jc_ge h (fun h => ?_) (fun h => ?_)
    · refine L_ps c171 (n := 1) (pc1 := 12) (ls1 := [jR v0, jI v1, jI v2]) (st1 := [jR v0]) rfl ?_
      refine L_getP (d := 2) (c171 12 rfl) hM hv0 rfl ?_
      refine L_ps c171 (n := 2) (pc1 := 17) (ls1 := [jR v0, jI v1, jI v2]) (st1 := [jI v2, jI v1, jR (v0 + 2)]) rfl ?_
      obtain ⟨hb, h⟩ := h
      refine L_iast (c171 17 rfl) hM (rp_9_2 hv0) (lp_9_2 hv0) hb (fun M hM => ?_)
      exact L_end (c171 18 rfl) rfl (hQ _ _ hM h)
    · exact L_end (c171 18 rfl) rfl (hQ _ _ hM h)
theorem k_Unifier_end {E : JE2} {v0 : Nat} {v1 : Int} {μ : Mem} {M : JM} {Q : Int → Prop} (hv0 : rt v0 = 9) (hM : Rl E M μ) (h : d_Unifier_end v0 v1 μ Q) : JX 173 0 (jargs 173 [jR v0, jI v1]) [] M (PO E (pQI μ Q) XN) := by
  unfold d_Unifier_end at h
  show JX 173 0 [jR v0, jI v1] [] M (PO E (pQI μ Q) XN)
  generalize hP : PO E (pQI μ Q) XN = P
  have hQ : ∀ (r : Int) (M1 : JM), Rl E M1 μ → Q r → P (.inl (some (.inl r))) M1 := by rw [← hP]; exact fun r M1 a b => ⟨μ, a, rfl, r, rfl, b⟩
  clear hP
  refine L_ps c173 (n := 1) (pc1 := 1) (ls1 := [jR v0, jI v1]) (st1 := [jI v1]) rfl ?_
  refine L_br (p1 := 20) (p2 := 4) (c173 1 rfl) rfl jc_lt h (fun h => ?_) (fun h => ?_)
  · refine L_ps c173 (n := 1) (pc1 := 23) (ls1 := [jR v0, jI v1]) (st1 := [jI 160]) rfl ?_
    exact L_retI (c173 23 rfl) (hQ _ _ hM h)
  · refine L_ps c173 (n := 2) (pc1 := 8) (ls1 := [jR v0, jI v1]) (st1 := [jI 160, jI v1]) rfl ?_
    refine L_nb (p1 := 20) (p2 := 11) (c173 8 rfl) rfl jc_ge h (fun h => ?_) (fun h => ?_)
    · refine L_ps c173 (n := 1) (pc1 := 12) (ls1 := [jR v0, jI v1]) (st1 := [jR v0]) rfl ?_
      refine L_getP (d := 3) (c173 12 rfl) hM hv0 rfl ?_
      refine L_ps c173 (n := 1) (pc1 := 16) (ls1 := [jR v0, jI v1]) (st1 := [jI v1, jR (v0 + 3)]) rfl ?_
      obtain ⟨hb, h⟩ := h
      refine L_iald (c173 16 rfl) hM (rp_9_3 hv0) (lp_9_3 hv0) hb ?_
      refine L_ps c173 (n := 1) (pc1 := 23) (ls1 := [jR v0, jI v1]) (st1 := [jI (μ (v0 + 3) v1.toNat)]) rfl ?_
      exact L_retI (c173 23 rfl) (hQ _ _ hM h)
    · refine L_ps c173 (n := 1) (pc1 := 23) (ls1 := [jR v0, jI v1]) (st1 := [jI 160]) rfl ?_
      exact L_retI (c173 23 rfl) (hQ _ _ hM h)
theorem k_Unifier_pushArguments_b19 {E : JE2} {v0 : Nat} {v3 : Int} {v4 : Int} {v5 : Int} {μ : Mem} {M : JM} {P : JO → JM → Prop} {g1 : JV} {g2 : JV} {W19 : Int → Int → Int → Mem → Prop} {Q : Mem → Prop} (hg2 : jc2 g2 = false) (hv0 : rt v0 = 9) (hM : Rl E M μ) (hQ : ∀ (M1 : JM) (μ1 : Mem), Rl E M1 μ1 → Q μ1 → P (.inl none) M1) (hW19 : ∀ (v3 : Int) (v4 : Int) (v5 : Int) (g1 : JV) (g2 : JV) (M1 : JM) (μ1 : Mem), jc2 g2 = false → Rl E M1 μ1 → W19 v3 v4 v5 μ1 → JX 172 19 [jR v0, g1, g2, jI v3, jI v4, jI v5] [] M1 P) (h : d_Unifier_pushArguments_b19 v0 v3 v4 v5 μ W19 Q) : JX 172 19 [jR v0, g1, g2, jI v3, jI v4, jI v5] [] M P := by
  unfold d_Unifier_pushArguments_b19 at h
  refine L_ps c172 (n := 1) (pc1 := 21) (ls1 := [jR v0, g1, g2, jI v3, jI v4, jI v5]) (st1 := [jI v5]) rfl ?_
  refine L_nb (p1 := 55) (p2 := 24) (c172 21 rfl) rfl jc_le h (fun h => ?_) (fun h => ?_)
  · refine L_ps c172 (n := 2) (pc1 := 26) (ls1 := [jR v0, g1, g2, jI v3, jI v4, jI v5]) (st1 := [jI v3, jR v0]) rfl ?_
    refine L_cV (c172 26 rfl) (js_v rfl ((Rl_tag hM hv0 (by decide)).trans js167)) hh172 (k_Unifier_push hv0 hM h) (fun M μ6 hM h => ?_) (fun _ _ _ _ f => f.elim)
    refine L_ps c172 (n := 2) (pc1 := 32) (ls1 := [jR v0, g1, g2, jI v3, jI v4, jI v5]) (st1 := [jI v4, jR v0]) rfl ?_
    refine L_cV (c172 32 rfl) (js_v rfl ((Rl_tag hM hv0 (by decide)).trans js167)) hh172 (k_Unifier_push hv0 hM h) (fun M μ8 hM h => ?_) (fun _ _ _ _ f => f.elim)
    refine L_ps c172 (n := 2) (pc1 := 37) (ls1 := [jR v0, g1, g2, jI v3, jI v4, jI v5]) (st1 := [jI v3, jR v0]) rfl ?_
    refine L_cpI (c172 37 rfl) (js_v rfl ((Rl_tag hM hv0 (by decide)).trans js173)) hh172 (k_Unifier_end hv0 hM h) (fun r9 M hM h => ?_) (fun _ _ _ _ f => f.elim)
    refine L_istn (c172 40 rfl) (hg2) (Nat.le_of_ble_eq_true rfl) ?_
    show JX 172 41 [jR v0, g1, g2, jI r9, jI v4, jI v5] [] M P
    refine L_ps c172 (n := 2) (pc1 := 44) (ls1 := [jR v0, g1, g2, jI r9, jI v4, jI v5]) (st1 := [jI v4, jR v0]) rfl ?_
    refine L_cpI (c172 44 rfl) (js_v rfl ((Rl_tag hM hv0 (by decide)).trans js173)) hh172 (k_Unifier_end hv0 hM h) (fun r11 M hM h => ?_) (fun _ _ _ _ f => f.elim)
    refine L_ps c172 (n := 3) (pc1 := 19) (ls1 := [jR v0, g1, g2, jI r9, jI r11, jI (wr (v5 + (-1)))]) (st1 := []) rfl ?_
    exact hW19 _ _ _ _ _ _ _ hg2 hM h
  · exact L_end (c172 55 rfl) rfl (hQ _ _ hM h)
theorem k_Unifier_pushArguments_l19 {E : JE2} {v0 : Nat} {v3 : Int} {v4 : Int} {v5 : Int} {μ : Mem} {M : JM} {P : JO → JM → Prop} {g1 : JV} {g2 : JV} {Q : Mem → Prop} (hg2 : jc2 g2 = false) (hv0 : rt v0 = 9) (hM : Rl E M μ) (hQ : ∀ (M1 : JM) (μ1 : Mem), Rl E M1 μ1 → Q μ1 → P (.inl none) M1) (h : d_Unifier_pushArguments_l19 v0 v3 v4 v5 μ Q) : JX 172 19 [jR v0, g1, g2, jI v3, jI v4, jI v5] [] M P := by
  refine h (fun v3 v4 v5 μ => ∀ (g1 : JV) (g2 : JV) (M : JM), jc2 g2 = false → Rl E M μ → JX 172 19 [jR v0, g1, g2, jI v3, jI v4, jI v5] [] M P) ?_ _ _ _ hg2 hM
  intro v3 v4 v5 μ h g1 g2 M hg2 hM
  exact k_Unifier_pushArguments_b19 hg2 hv0 hM hQ (fun v3 v4 v5 g1 g2 M μ hg2 hM h => h g1 g2 M hg2 hM) h
theorem k_Unifier_pushArguments {E : JE2} {v0 : Nat} {v1 : Int} {v2 : Int} {μ : Mem} {M : JM} {Q : Mem → Prop} (hv0 : rt v0 = 9) (hM : Rl E M μ) (h : d_Unifier_pushArguments v0 v1 v2 μ Q) : JX 172 0 (jargs 172 [jR v0, jI v1, jI v2]) [] M (PO E (QV Q) XN) := by
  unfold d_Unifier_pushArguments at h
  show JX 172 0 [jR v0, jI v1, jI v2, jU, jU, jU] [] M (PO E (QV Q) XN)
  generalize hP : PO E (QV Q) XN = P
  have hQ : ∀ (M1 : JM) (μ1 : Mem), Rl E M1 μ1 → Q μ1 → P (.inl none) M1 := by rw [← hP]; exact fun M1 μ1 a b => ⟨μ1, a, rfl, b⟩
  clear hP
  refine L_ps c172 (n := 10) (pc1 := 11) (ls1 := [jR v0, jI v1, jI v2, jI (wr (v1 + 1)), jI (wr (v2 + 1)), jU]) (st1 := [jI v1, jR v0]) rfl ?_
  refine L_cpI (c172 11 rfl) (js_v rfl ((Rl_tag hM hv0 (by decide)).trans js170)) hh172 (k_Unifier_label hv0 hM h) (fun r1 M hM h => ?_) (fun _ _ _ _ f => f.elim)
  refine L_cpI (c172 14 rfl) (js_t rfl) hh172 (k_Term_arityOf hM h) (fun r3 M hM h => ?_) (fun _ _ _ _ f => f.elim)
  refine L_ps c172 (n := 1) (pc1 := 19) (ls1 := [jR v0, jI v1, jI v2, jI (wr (v1 + 1)), jI (wr (v2 + 1)), jI r3]) (st1 := []) rfl ?_
  exact k_Unifier_pushArguments_l19 rfl hv0 hM hQ h
theorem k_Unifier_merge_j136 {E : JE2} {v0 : Nat} {v3 : Int} {μ : Mem} {M : JM} {P : JO → JM → Prop} {g1 : JV} {g2 : JV} {g4 : JV} {g5 : JV} {g6 : JV} {g7 : JV} {W17 : Int → Mem → Prop} {Q : Bool → Mem → Prop} (hg2 : jc2 g2 = false) (hg4 : jc2 g4 = false) (hg5 : jc2 g5 = false) (hg6 : jc2 g6 = false) (hv0 : rt v0 = 9) (hM : Rl E M μ) (hQ : ∀ (r : Bool) (M1 : JM) (μ1 : Mem), Rl E M1 μ1 → Q r μ1 → P (.inl (some (.inl (b2i r)))) M1) (hW17 : ∀ (v3 : Int) (g1 : JV) (g2 : JV) (g4 : JV) (g5 : JV) (g6 : JV) (g7 : JV) (M1 : JM) (μ1 : Mem), jc2 g2 = false → jc2 g4 = false → jc2 g5 = false → jc2 g6 = false → Rl E M1 μ1 → W17 v3 μ1 → JX 166 17 [jR v0, g1, g2, jI v3, g4, g5, g6, g7] [] M1 P) (h : d_Unifier_merge_j136 v0 v3 μ W17 Q) : JX 166 136 [jR v0, g1, g2, jI v3, g4, g5, g6, g7] [] M P := by
  unfold d_Unifier_merge_j136 at h
  refine L_iinc (c166 136 rfl) (hg2) (Nat.le_of_ble_eq_true rfl) rfl ?_
  show JX 166 139 [jR v0, g1, g2, jI (wr (v3 + 1)), g4, g5, g6, g7] [] M P
  refine L_ps c166 (n := 1) (pc1 := 17) (ls1 := [jR v0, g1, g2, jI (wr (v3 + 1)), g4, g5, g6, g7]) (st1 := []) rfl ?_
  exact hW17 _ _ _ _ _ _ _ _ _ hg2 hg4 hg5 hg6 hM h
theorem k_Unifier_merge_j118 {E : JE2} {v0 : Nat} {v3 : Int} {v4 : Int} {v5 : Int} {v6 : Int} {v7 : Int} {μ : Mem} {M : JM} {P : JO → JM → Prop} {g1 : JV} {g2 : JV} {W17 : Int → Mem → Prop} {Q : Bool → Mem → Prop} (hg2 : jc2 g2 = false) (hv0 : rt v0 = 9) (hM : Rl E M μ) (hQ : ∀ (r : Bool) (M1 : JM) (μ1 : Mem), Rl E M1 μ1 → Q r μ1 → P (.inl (some (.inl (b2i r)))) M1) (hW17 : ∀ (v3 : Int) (g1 : JV) (g2 : JV) (g4 : JV) (g5 : JV) (g6 : JV) (g7 : JV) (M1 : JM) (μ1 : Mem), jc2 g2 = false → jc2 g4 = false → jc2 g5 = false → jc2 g6 = false → Rl E M1 μ1 → W17 v3 μ1 → JX 166 17 [jR v0, g1, g2, jI v3, g4, g5, g6, g7] [] M1 P) (h : d_Unifier_merge_j118 v0 v3 v4 v5 v6 v7 μ W17 Q) : JX 166 118 [jR v0, g1, g2, jI v3, jI v4, jI v5, jI v6, jI v7] [] M P := by
  unfold d_Unifier_merge_j118 at h
  refine L_ps c166 (n := 1) (pc1 := 120) (ls1 := [jR v0, g1, g2, jI v3, jI v4, jI v5, jI v6, jI v7]) (st1 := [jI v6]) rfl ?_
  refine L_br (p1 := 136) (p2 := 123) (c166 120 rfl) rfl jc_lt h (fun h => ?_) (fun h => ?_)
  · exact k_Unifier_merge_j136 hg2 rfl rfl rfl hv0 hM hQ hW17 h
  · refine L_ps c166 (n := 1) (pc1 := 125) (ls1 := [jR v0, g1, g2, jI v3, jI v4, jI v5, jI v6, jI v7]) (st1 := [jI v7]) rfl ?_
    refine L_br (p1 := 136) (p2 := 128) (c166 125 rfl) rfl jc_lt h (fun h => ?_) (fun h => ?_)
    · exact k_Unifier_merge_j136 hg2 rfl rfl rfl hv0 hM hQ hW17 h
    · refine L_ps c166 (n := 3) (pc1 := 133) (ls1 := [jR v0, g1, g2, jI v3, jI v4, jI v5, jI v6, jI v7]) (st1 := [jI v5, jI v4, jR v0]) rfl ?_
      refine L_cV (c166 133 rfl) (js_v rfl ((Rl_tag hM hv0 (by decide)).trans js172)) hh166 (k_Unifier_pushArguments hv0 hM h) (fun M μ20 hM h => ?_) (fun _ _ _ _ f => f.elim)
      exact k_Unifier_merge_j136 hg2 rfl rfl rfl hv0 hM hQ hW17 h
theorem k_Unifier_merge_j94 {E : JE2} {v0 : Nat} {v3 : Int} {v4 : Int} {v5 : Int} {v6 : Int} {v7 : Int} {μ : Mem} {M : JM} {P : JO → JM → Prop} {g1 : JV} {g2 : JV} {W17 : Int → Mem → Prop} {Q : Bool → Mem → Prop} (hg2 : jc2 g2 = false) (hv0 : rt v0 = 9) (hM : Rl E M μ) (hQ : ∀ (r : Bool) (M1 : JM) (μ1 : Mem), Rl E M1 μ1 → Q r μ1 → P (.inl (some (.inl (b2i r)))) M1) (hW17 : ∀ (v3 : Int) (g1 : JV) (g2 : JV) (g4 : JV) (g5 : JV) (g6 : JV) (g7 : JV) (M1 : JM) (μ1 : Mem), jc2 g2 = false → jc2 g4 = false → jc2 g5 = false → jc2 g6 = false → Rl E M1 μ1 → W17 v3 μ1 → JX 166 17 [jR v0, g1, g2, jI v3, g4, g5, g6, g7] [] M1 P) (h : d_Unifier_merge_j94 v0 v3 v4 v5 v6 v7 μ W17 Q) : JX 166 94 [jR v0, g1, g2, jI v3, jI v4, jI v5, jI v6, jI v7] [] M P := by
  unfold d_Unifier_merge_j94 at h
  refine L_ps c166 (n := 1) (pc1 := 96) (ls1 := [jR v0, g1, g2, jI v3, jI v4, jI v5, jI v6, jI v7]) (st1 := [jI v6]) rfl ?_
  refine L_nb (p1 := 110) (p2 := 99) (c166 96 rfl) rfl jc_ge h (fun h => ?_) (fun h => ?_)
  · refine L_ps c166 (n := 3) (pc1 := 104) (ls1 := [jR v0, g1, g2, jI v3, jI v4, jI v5, jI v6, jI v7]) (st1 := [jI v5, jI v4, jR v0]) rfl ?_
    refine L_cV (c166 104 rfl) (js_v rfl ((Rl_tag hM hv0 (by decide)).trans js171)) hh166 (k_Unifier_hang hv0 hM h) (fun M μ18 hM h => ?_) (fun _ _ _ _ f => f.elim)
    refine L_ps c166 (n := 1) (pc1 := 118) (ls1 := [jR v0, g1, g2, jI v3, jI v4, jI v5, jI v6, jI v7]) (st1 := []) rfl ?_
    exact k_Unifier_merge_j118 hg2 hv0 hM hQ hW17 h
  · refine L_ps c166 (n := 3) (pc1 := 115) (ls1 := [jR v0, g1, g2, jI v3, jI v4, jI v5, jI v6, jI v7]) (st1 := [jI v4, jI v5, jR v0]) rfl ?_
    refine L_cV (c166 115 rfl) (js_v rfl ((Rl_tag hM hv0 (by decide)).trans js171)) hh166 (k_Unifier_hang hv0 hM h) (fun M μ22 hM h => ?_) (fun _ _ _ _ f => f.elim)
    exact k_Unifier_merge_j118 hg2 hv0 hM hQ hW17 h
theorem k_Unifier_merge_b17 {E : JE2} {v0 : Nat} {v3 : Int} {μ : Mem} {M : JM} {P : JO → JM → Prop} {g1 : JV} {g2 : JV} {g4 : JV} {g5 : JV} {g6 : JV} {g7 : JV} {W17 : Int → Mem → Prop} {Q : Bool → Mem → Prop} (hg2 : jc2 g2 = false) (hg4 : jc2 g4 = false) (hg5 : jc2 g5 = false) (hg6 : jc2 g6 = false) (hv0 : rt v0 = 9) (hM : Rl E M μ) (hQ : ∀ (r : Bool) (M1 : JM) (μ1 : Mem), Rl E M1 μ1 → Q r μ1 → P (.inl (some (.inl (b2i r)))) M1) (hW17 : ∀ (v3 : Int) (g1 : JV) (g2 : JV) (g4 : JV) (g5 : JV) (g6 : JV) (g7 : JV) (M1 : JM) (μ1 : Mem), jc2 g2 = false → jc2 g4 = false → jc2 g5 = false → jc2 g6 = false → Rl E M1 μ1 → W17 v3 μ1 → JX 166 17 [jR v0, g1, g2, jI v3, g4, g5, g6, g7] [] M1 P) (h : d_Unifier_merge_b17 v0 v3 μ W17 Q) : JX 166 17 [jR v0, g1, g2, jI v3, g4, g5, g6, g7] [] M P := by
  unfold d_Unifier_merge_b17 at h
  refine L_ps c166 (n := 2) (pc1 := 21) (ls1 := [jR v0, g1, g2, jI v3, g4, g5, g6, g7]) (st1 := [jI 962, jI v3]) rfl ?_
  refine L_nb (p1 := 142) (p2 := 24) (c166 21 rfl) rfl jc_ge h (fun h => ?_) (fun h => ?_)
  · refine L_ps c166 (n := 1) (pc1 := 25) (ls1 := [jR v0, g1, g2, jI v3, g4, g5, g6, g7]) (st1 := [jR v0]) rfl ?_
    refine L_getI (c166 25 rfl) hM hv0 rfl ?_
    refine L_ps c166 (n := 1) (pc1 := 29) (ls1 := [jR v0, g1, g2, jI v3, g4, g5, g6, g7]) (st1 := [jI 1, jI (μ v0 7)]) rfl ?_
    refine L_nb (p1 := 142) (p2 := 32) (c166 29 rfl) rfl jc_le h (fun h => ?_) (fun h => ?_)
    · refine L_ps c166 (n := 2) (pc1 := 34) (ls1 := [jR v0, g1, g2, jI v3, g4, g5, g6, g7]) (st1 := [jR v0, jR v0]) rfl ?_
      refine L_cI (c166 34 rfl) (js_v rfl ((Rl_tag hM hv0 (by decide)).trans js168)) hh166 (k_Unifier_pop hv0 hM h) (fun r5 M μ6 hM h => ?_) (fun _ _ _ _ f => f.elim)
      refine L_cpI (c166 37 rfl) (js_v rfl ((Rl_tag hM hv0 (by decide)).trans js169)) hh166 (k_Unifier_root hv0 hM h) (fun r7 M hM h => ?_) (fun _ _ _ _ f => f.elim)
      refine L_ps c166 (n := 3) (pc1 := 44) (ls1 := [jR v0, g1, g2, jI v3, jI r7, g5, g6, g7]) (st1 := [jR v0, jR v0]) rfl ?_
      refine L_cI (c166 44 rfl) (js_v rfl ((Rl_tag hM hv0 (by decide)).trans js168)) hh166 (k_Unifier_pop hv0 hM h) (fun r9 M μ10 hM h => ?_) (fun _ _ _ _ f => f.elim)
      refine L_cpI (c166 47 rfl) (js_v rfl ((Rl_tag hM hv0 (by decide)).trans js169)) hh166 (k_Unifier_root hv0 hM h) (fun r11 M hM h => ?_) (fun _ _ _ _ f => f.elim)
      refine L_ps c166 (n := 3) (pc1 := 56) (ls1 := [jR v0, g1, g2, jI v3, jI r7, jI r11, g6, g7]) (st1 := [jI r11, jI r7]) rfl ?_
      refine L_br (p1 := 136) (p2 := 59) (c166 56 rfl) rfl jc_eq h (fun h => ?_) (fun h => ?_)
      · exact k_Unifier_merge_j136 hg2 rfl rfl hg6 hv0 hM hQ hW17 h
      · refine L_ps c166 (n := 2) (pc1 := 62) (ls1 := [jR v0, g1, g2, jI v3, jI r7, jI r11, g6, g7]) (st1 := [jI r7, jR v0]) rfl ?_
        refine L_cpI (c166 62 rfl) (js_v rfl ((Rl_tag hM hv0 (by decide)).trans js170)) hh166 (k_Unifier_label hv0 hM h) (fun r13 M hM h => ?_) (fun _ _ _ _ f => f.elim)
        refine L_ps c166 (n := 3) (pc1 := 70) (ls1 := [jR v0, g1, g2, jI v3, jI r7, jI r11, jI r13, g7]) (st1 := [jI r11, jR v0]) rfl ?_
        refine L_cpI (c166 70 rfl) (js_v rfl ((Rl_tag hM hv0 (by decide)).trans js170)) hh166 (k_Unifier_label hv0 hM h) (fun r15 M hM h => ?_) (fun _ _ _ _ f => f.elim)
        refine L_ps c166 (n := 2) (pc1 := 77) (ls1 := [jR v0, g1, g2, jI v3, jI r7, jI r11, jI r13, jI r15]) (st1 := [jI r13]) rfl ?_
        refine L_br (p1 := 94) (p2 := 80) (c166 77 rfl) rfl jc_lt h (fun h => ?_) (fun h => ?_)
        · exact k_Unifier_merge_j94 hg2 hv0 hM hQ hW17 h
        · refine L_ps c166 (n := 1) (pc1 := 82) (ls1 := [jR v0, g1, g2, jI v3, jI r7, jI r11, jI r13, jI r15]) (st1 := [jI r15]) rfl ?_
          refine L_br (p1 := 94) (p2 := 85) (c166 82 rfl) rfl jc_lt h (fun h => ?_) (fun h => ?_)
          · exact k_Unifier_merge_j94 hg2 hv0 hM hQ hW17 h
          · refine L_ps c166 (n := 2) (pc1 := 89) (ls1 := [jR v0, g1, g2, jI v3, jI r7, jI r11, jI r13, jI r15]) (st1 := [jI r15, jI r13]) rfl ?_
            refine L_br (p1 := 94) (p2 := 92) (c166 89 rfl) rfl jc_eq h (fun h => ?_) (fun h => ?_)
            · exact k_Unifier_merge_j94 hg2 hv0 hM hQ hW17 h
            · refine L_ps c166 (n := 1) (pc1 := 93) (ls1 := [jR v0, g1, g2, jI v3, jI r7, jI r11, jI r13, jI r15]) (st1 := [jI 0]) rfl ?_
              exact L_retB (c166 93 rfl) (Or.inl rfl) (hQ false _ _ hM h)
    · refine L_ps c166 (n := 1) (pc1 := 143) (ls1 := [jR v0, g1, g2, jI v3, g4, g5, g6, g7]) (st1 := [jI 1]) rfl ?_
      exact L_retB (c166 143 rfl) (Or.inr rfl) (hQ true _ _ hM h)
  · refine L_ps c166 (n := 1) (pc1 := 143) (ls1 := [jR v0, g1, g2, jI v3, g4, g5, g6, g7]) (st1 := [jI 1]) rfl ?_
    exact L_retB (c166 143 rfl) (Or.inr rfl) (hQ true _ _ hM h)
theorem k_Unifier_merge_l17 {E : JE2} {v0 : Nat} {v3 : Int} {μ : Mem} {M : JM} {P : JO → JM → Prop} {g1 : JV} {g2 : JV} {g4 : JV} {g5 : JV} {g6 : JV} {g7 : JV} {Q : Bool → Mem → Prop} (hg2 : jc2 g2 = false) (hg4 : jc2 g4 = false) (hg5 : jc2 g5 = false) (hg6 : jc2 g6 = false) (hv0 : rt v0 = 9) (hM : Rl E M μ) (hQ : ∀ (r : Bool) (M1 : JM) (μ1 : Mem), Rl E M1 μ1 → Q r μ1 → P (.inl (some (.inl (b2i r)))) M1) (h : d_Unifier_merge_l17 v0 v3 μ Q) : JX 166 17 [jR v0, g1, g2, jI v3, g4, g5, g6, g7] [] M P := by
  refine h (fun v3 μ => ∀ (g1 : JV) (g2 : JV) (g4 : JV) (g5 : JV) (g6 : JV) (g7 : JV) (M : JM), jc2 g2 = false → jc2 g4 = false → jc2 g5 = false → jc2 g6 = false → Rl E M μ → JX 166 17 [jR v0, g1, g2, jI v3, g4, g5, g6, g7] [] M P) ?_ _ _ _ _ _ _ _ hg2 hg4 hg5 hg6 hM
  intro v3 μ h g1 g2 g4 g5 g6 g7 M hg2 hg4 hg5 hg6 hM
  exact k_Unifier_merge_b17 hg2 hg4 hg5 hg6 hv0 hM hQ (fun v3 g1 g2 g4 g5 g6 g7 M μ hg2 hg4 hg5 hg6 hM h => h g1 g2 g4 g5 g6 g7 M hg2 hg4 hg5 hg6 hM) h
theorem k_Unifier_merge {E : JE2} {v0 : Nat} {v1 : Int} {v2 : Int} {μ : Mem} {M : JM} {Q : Bool → Mem → Prop} (hv0 : rt v0 = 9) (hM : Rl E M μ) (h : d_Unifier_merge v0 v1 v2 μ Q) : JX 166 0 (jargs 166 [jR v0, jI v1, jI v2]) [] M (PO E (QB Q) XN) := by
  unfold d_Unifier_merge at h
  show JX 166 0 [jR v0, jI v1, jI v2, jU, jU, jU, jU, jU] [] M (PO E (QB Q) XN)
  generalize hP : PO E (QB Q) XN = P
  have hQ : ∀ (r : Bool) (M1 : JM) (μ1 : Mem), Rl E M1 μ1 → Q r μ1 → P (.inl (some (.inl (b2i r)))) M1 := by rw [← hP]; exact fun r M1 μ1 a b => ⟨μ1, a, r, rfl, b⟩
  clear hP
  refine L_ps c166 (n := 2) (pc1 := 2) (ls1 := [jR v0, jI v1, jI v2, jU, jU, jU, jU, jU]) (st1 := [jI 0, jR v0]) rfl ?_
  refine L_putI (c166 2 rfl) hM hv0 rfl (fun M hM => ?_)
  refine L_ps c166 (n := 2) (pc1 := 7) (ls1 := [jR v0, jI v1, jI v2, jU, jU, jU, jU, jU]) (st1 := [jI v1, jR v0]) rfl ?_
  refine L_cV (c166 7 rfl) (js_v rfl ((Rl_tag hM hv0 (by decide)).trans js167)) hh166 (k_Unifier_push hv0 hM h) (fun M μ2 hM h => ?_) (fun _ _ _ _ f => f.elim)
  refine L_ps c166 (n := 2) (pc1 := 12) (ls1 := [jR v0, jI v1, jI v2, jU, jU, jU, jU, jU]) (st1 := [jI v2, jR v0]) rfl ?_
  refine L_cV (c166 12 rfl) (js_v rfl ((Rl_tag hM hv0 (by decide)).trans js167)) hh166 (k_Unifier_push hv0 hM h) (fun M μ4 hM h => ?_) (fun _ _ _ _ f => f.elim)
  refine L_ps c166 (n := 2) (pc1 := 17) (ls1 := [jR v0, jI v1, jI v2, jI 0, jU, jU, jU, jU]) (st1 := []) rfl ?_
  exact k_Unifier_merge_l17 rfl rfl rfl rfl hv0 hM hQ h
theorem k_Unifier_isSettled {E : JE2} {v0 : Nat} {v1 : Int} {μ : Mem} {M : JM} {Q : Bool → Prop} (hv0 : rt v0 = 9) (hM : Rl E M μ) (h : d_Unifier_isSettled v0 v1 μ Q) : JX 175 0 (jargs 175 [jR v0, jI v1]) [] M (PO E (pQB μ Q) XN) := by
  unfold d_Unifier_isSettled at h
  show JX 175 0 [jR v0, jI v1] [] M (PO E (pQB μ Q) XN)
  generalize hP : PO E (pQB μ Q) XN = P
  have hQ : ∀ (r : Bool) (M1 : JM), Rl E M1 μ → Q r → P (.inl (some (.inl (b2i r)))) M1 := by rw [← hP]; exact fun r M1 a b => ⟨μ, a, rfl, r, rfl, b⟩
  clear hP
  refine L_ps c175 (n := 1) (pc1 := 1) (ls1 := [jR v0, jI v1]) (st1 := [jI v1]) rfl ?_
  refine L_br (p1 := 24) (p2 := 4) (c175 1 rfl) rfl jc_lt h (fun h => ?_) (fun h => ?_)
  · refine L_ps c175 (n := 1) (pc1 := 25) (ls1 := [jR v0, jI v1]) (st1 := [jI 0]) rfl ?_
    exact L_retB (c175 25 rfl) (Or.inl rfl) (hQ false _ hM h)
  · refine L_ps c175 (n := 2) (pc1 := 8) (ls1 := [jR v0, jI v1]) (st1 := [jI 160, jI v1]) rfl ?_
    refine L_nb (p1 := 24) (p2 := 11) (c175 8 rfl) rfl jc_ge h (fun h => ?_) (fun h => ?_)
    · refine L_ps c175 (n := 1) (pc1 := 12) (ls1 := [jR v0, jI v1]) (st1 := [jR v0]) rfl ?_
      refine L_getP (d := 4) (c175 12 rfl) hM hv0 rfl ?_
      refine L_ps c175 (n := 1) (pc1 := 16) (ls1 := [jR v0, jI v1]) (st1 := [jI v1, jR (v0 + 4)]) rfl ?_
      obtain ⟨hb, h⟩ := h
      refine L_bald (c175 16 rfl) hM (Or.inr (rp_9_4 hv0)) (lp_9_4 hv0) hb ?_
      refine L_br (p1 := 24) (p2 := 20) (c175 17 rfl) rfl jc_eq h (fun h => ?_) (fun h => ?_)
      · refine L_ps c175 (n := 1) (pc1 := 25) (ls1 := [jR v0, jI v1]) (st1 := [jI 0]) rfl ?_
        exact L_retB (c175 25 rfl) (Or.inl rfl) (hQ false _ hM h)
      · refine L_ps c175 (n := 2) (pc1 := 25) (ls1 := [jR v0, jI v1]) (st1 := [jI 1]) rfl ?_
        exact L_retB (c175 25 rfl) (Or.inr rfl) (hQ true _ hM h)
    · refine L_ps c175 (n := 1) (pc1 := 25) (ls1 := [jR v0, jI v1]) (st1 := [jI 0]) rfl ?_
      exact L_retB (c175 25 rfl) (Or.inl rfl) (hQ false _ hM h)
theorem k_Unifier_settles_b31 {E : JE2} {v0 : Nat} {v3 : Int} {v4 : Int} {μ : Mem} {M : JM} {P : JO → JM → Prop} {g1 : JV} {g2 : JV} {W31 : Int → Int → Prop} {Q : Bool → Prop} (hg1 : jc2 g1 = false) (hg2 : jc2 g2 = false) (hv0 : rt v0 = 9) (hM : Rl E M μ) (hQ : ∀ (r : Bool) (M1 : JM), Rl E M1 μ → Q r → P (.inl (some (.inl (b2i r)))) M1) (hW31 : ∀ (v3 : Int) (v4 : Int) (g1 : JV) (g2 : JV) (M1 : JM), jc2 g1 = false → jc2 g2 = false → Rl E M1 μ → W31 v3 v4 → JX 176 31 [jR v0, g1, g2, jI v3, jI v4] [] M1 P) (h : d_Unifier_settles_b31 v0 v3 v4 μ W31 Q) : JX 176 31 [jR v0, g1, g2, jI v3, jI v4] [] M P := by
  unfold d_Unifier_settles_b31 at h
  refine L_ps c176 (n := 1) (pc1 := 33) (ls1 := [jR v0, g1, g2, jI v3, jI v4]) (st1 := [jI v4]) rfl ?_
  refine L_nb (p1 := 62) (p2 := 36) (c176 33 rfl) rfl jc_le h (fun h => ?_) (fun h => ?_)
  · refine L_ps c176 (n := 3) (pc1 := 39) (ls1 := [jR v0, g1, g2, jI v3, jI v4]) (st1 := [jI v3, jR v0, jR v0]) rfl ?_
    refine L_cpI (c176 39 rfl) (js_v rfl ((Rl_tag hM hv0 (by decide)).trans js169)) hh176 (k_Unifier_root hv0 hM h) (fun r7 M hM h => ?_) (fun _ _ _ _ f => f.elim)
    refine L_cpB (c176 42 rfl) (js_v rfl ((Rl_tag hM hv0 (by decide)).trans js175)) hh176 (k_Unifier_isSettled hv0 hM h) (fun r9 M hM h => ?_) (fun _ _ _ _ f => f.elim)
    refine L_br (p1 := 50) (p2 := 48) (c176 45 rfl) rfl jc_neb h (fun h => ?_) (fun h => ?_)
    · refine L_ps c176 (n := 2) (pc1 := 52) (ls1 := [jR v0, g1, g2, jI v3, jI v4]) (st1 := [jI v3, jR v0]) rfl ?_
      refine L_cpI (c176 52 rfl) (js_v rfl ((Rl_tag hM hv0 (by decide)).trans js173)) hh176 (k_Unifier_end hv0 hM h) (fun r11 M hM h => ?_) (fun _ _ _ _ f => f.elim)
      refine L_istn (c176 55 rfl) (hg2) (Nat.le_of_ble_eq_true rfl) ?_
      show JX 176 56 [jR v0, g1, g2, jI r11, jI v4] [] M P
      refine L_ps c176 (n := 2) (pc1 := 31) (ls1 := [jR v0, g1, g2, jI r11, jI (wr (v4 + (-1)))]) (st1 := []) rfl ?_
      exact hW31 _ _ _ _ _ hg1 hg2 hM h
    · refine L_ps c176 (n := 1) (pc1 := 49) (ls1 := [jR v0, g1, g2, jI v3, jI v4]) (st1 := [jI 0]) rfl ?_
      exact L_retB (c176 49 rfl) (Or.inl rfl) (hQ false _ hM h)
  · refine L_ps c176 (n := 1) (pc1 := 63) (ls1 := [jR v0, g1, g2, jI v3, jI v4]) (st1 := [jI 1]) rfl ?_
    exact L_retB (c176 63 rfl) (Or.inr rfl) (hQ true _ hM h)
theorem k_Unifier_settles_l31 {E : JE2} {v0 : Nat} {v3 : Int} {v4 : Int} {μ : Mem} {M : JM} {P : JO → JM → Prop} {g1 : JV} {g2 : JV} {Q : Bool → Prop} (hg1 : jc2 g1 = false) (hg2 : jc2 g2 = false) (hv0 : rt v0 = 9) (hM : Rl E M μ) (hQ : ∀ (r : Bool) (M1 : JM), Rl E M1 μ → Q r → P (.inl (some (.inl (b2i r)))) M1) (h : d_Unifier_settles_l31 v0 v3 v4 μ Q) : JX 176 31 [jR v0, g1, g2, jI v3, jI v4] [] M P := by
  refine h (fun v3 v4 => ∀ (g1 : JV) (g2 : JV) (M : JM), jc2 g1 = false → jc2 g2 = false → Rl E M μ → JX 176 31 [jR v0, g1, g2, jI v3, jI v4] [] M P) ?_ _ _ _ hg1 hg2 hM
  intro v3 v4 h g1 g2 M hg1 hg2 hM
  exact k_Unifier_settles_b31 hg1 hg2 hv0 hM hQ (fun v3 v4 g1 g2 M hg1 hg2 hM h => h g1 g2 M hg1 hg2 hM) h
theorem k_Unifier_settles {E : JE2} {v0 : Nat} {v1 : Int} {μ : Mem} {M : JM} {Q : Bool → Prop} (hv0 : rt v0 = 9) (hM : Rl E M μ) (h : d_Unifier_settles v0 v1 μ Q) : JX 176 0 (jargs 176 [jR v0, jI v1]) [] M (PO E (pQB μ Q) XN) := by
  unfold d_Unifier_settles at h
  show JX 176 0 [jR v0, jI v1, jU, jU, jU] [] M (PO E (pQB μ Q) XN)
  generalize hP : PO E (pQB μ Q) XN = P
  have hQ : ∀ (r : Bool) (M1 : JM), Rl E M1 μ → Q r → P (.inl (some (.inl (b2i r)))) M1 := by rw [← hP]; exact fun r M1 a b => ⟨μ, a, rfl, r, rfl, b⟩
  clear hP
  refine L_ps c176 (n := 2) (pc1 := 2) (ls1 := [jR v0, jI v1, jU, jU, jU]) (st1 := [jI v1, jR v0]) rfl ?_
  refine L_cpI (c176 2 rfl) (js_v rfl ((Rl_tag hM hv0 (by decide)).trans js169)) hh176 (k_Unifier_root hv0 hM h) (fun r1 M hM h => ?_) (fun _ _ _ _ f => f.elim)
  refine L_ps c176 (n := 3) (pc1 := 8) (ls1 := [jR v0, jI v1, jI r1, jU, jU]) (st1 := [jI v1, jI r1]) rfl ?_
  refine L_br (p1 := 17) (p2 := 11) (c176 8 rfl) rfl jc_eq h (fun h => ?_) (fun h => ?_)
  · refine L_ps c176 (n := 6) (pc1 := 23) (ls1 := [jR v0, jI v1, jI r1, jI (wr (v1 + 1)), jU]) (st1 := [jI v1, jR v0]) rfl ?_
    refine L_cpI (c176 23 rfl) (js_v rfl ((Rl_tag hM hv0 (by decide)).trans js170)) hh176 (k_Unifier_label hv0 hM h) (fun r3 M hM h => ?_) (fun _ _ _ _ f => f.elim)
    refine L_cpI (c176 26 rfl) (js_t rfl) hh176 (k_Term_arityOf hM h) (fun r5 M hM h => ?_) (fun _ _ _ _ f => f.elim)
    refine L_ps c176 (n := 1) (pc1 := 31) (ls1 := [jR v0, jI v1, jI r1, jI (wr (v1 + 1)), jI r5]) (st1 := []) rfl ?_
    exact k_Unifier_settles_l31 rfl rfl hv0 hM hQ h
  · refine L_ps c176 (n := 2) (pc1 := 13) (ls1 := [jR v0, jI v1, jI r1, jU, jU]) (st1 := [jI r1, jR v0]) rfl ?_
    refine L_cpB (c176 13 rfl) (js_v rfl ((Rl_tag hM hv0 (by decide)).trans js175)) hh176 (k_Unifier_isSettled hv0 hM h) (fun r13 M hM h => ?_) (fun _ _ _ _ f => f.elim)
    exact L_retB (c176 16 rfl) (bz_b _) (hQ _ _ hM h)
theorem k_Unifier_settle {E : JE2} {v0 : Nat} {v1 : Int} {μ : Mem} {M : JM} {Q : Mem → Prop} (hv0 : rt v0 = 9) (hM : Rl E M μ) (h : d_Unifier_settle v0 v1 μ Q) : JX 177 0 (jargs 177 [jR v0, jI v1]) [] M (PO E (QV Q) XN) := by
  unfold d_Unifier_settle at h
  show JX 177 0 [jR v0, jI v1] [] M (PO E (QV Q) XN)
  generalize hP : PO E (QV Q) XN = P
  have hQ : ∀ (M1 : JM) (μ1 : Mem), Rl E M1 μ1 → Q μ1 → P (.inl none) M1 := by rw [← hP]; exact fun M1 μ1 a b => ⟨μ1, a, rfl, b⟩
  clear hP
  refine L_ps c177 (n := 1) (pc1 := 1) (ls1 := [jR v0, jI v1]) (st1 := [jI v1]) rfl ?_
  refine L_br (p1 := 18) (p2 := 4) (c177 1 rfl) rfl jc_lt h (fun h => ?_) (fun h => ?_)
  · exact L_end (c177 18 rfl) rfl (hQ _ _ hM h)
  · refine L_ps c177 (n := 2) (pc1 := 8) (ls1 := [jR v0, jI v1]) (st1 := [jI 160, jI v1]) rfl ?_
    refine L_nb (p1 := 18) (p2 := 11) (c177 8 rfl) rfl jc_ge h (fun h => ?_) (fun h => ?_)
    · refine L_ps c177 (n := 1) (pc1 := 12) (ls1 := [jR v0, jI v1]) (st1 := [jR v0]) rfl ?_
      refine L_getP (d := 4) (c177 12 rfl) hM hv0 rfl ?_
      refine L_ps c177 (n := 2) (pc1 := 17) (ls1 := [jR v0, jI v1]) (st1 := [jI 1, jI v1, jR (v0 + 4)]) rfl ?_
      obtain ⟨hb, h⟩ := h
      refine L_zast (c177 17 rfl) hM (rp_9_4 hv0) (lp_9_4 hv0) hb (Or.inr rfl) (fun M hM => ?_)
      exact L_end (c177 18 rfl) rfl (hQ _ _ hM h)
    · exact L_end (c177 18 rfl) rfl (hQ _ _ hM h)
theorem k_Unifier_isFinite_j99 {E : JE2} {v1 : Int} {μ : Mem} {M : JM} {P : JO → JM → Prop} {g0 : JV} {g2 : JV} {g3 : JV} {g4 : JV} {Q : Bool → Mem → Prop} (hg0 : jc2 g0 = false) (hg2 : jc2 g2 = false) (hg3 : jc2 g3 = false) (hM : Rl E M μ) (hQ : ∀ (r : Bool) (M1 : JM) (μ1 : Mem), Rl E M1 μ1 → Q r μ1 → P (.inl (some (.inl (b2i r)))) M1) (h : d_Unifier_isFinite_j99 v1 μ Q) : JX 174 99 [g0, jI v1, g2, g3, g4] [] M P := by
  unfold d_Unifier_isFinite_j99 at h
  refine L_ps c174 (n := 1) (pc1 := 100) (ls1 := [g0, jI v1, g2, g3, g4]) (st1 := [jI v1]) rfl ?_
  refine L_nb (p1 := 107) (p2 := 103) (c174 100 rfl) rfl jc_ne h (fun h => ?_) (fun h => ?_)
  · refine L_ps c174 (n := 2) (pc1 := 108) (ls1 := [g0, jI v1, g2, g3, g4]) (st1 := [jI 1]) rfl ?_
    exact L_retB (c174 108 rfl) (Or.inr rfl) (hQ true _ _ hM h)
  · refine L_ps c174 (n := 1) (pc1 := 108) (ls1 := [g0, jI v1, g2, g3, g4]) (st1 := [jI 0]) rfl ?_
    exact L_retB (c174 108 rfl) (Or.inl rfl) (hQ false _ _ hM h)
theorem k_Unifier_isFinite_j87 {E : JE2} {v0 : Nat} {v1 : Int} {v2 : Int} {v3 : Int} {v4 : Int} {μ : Mem} {M : JM} {P : JO → JM → Prop} {W31 : Int → Int → Int → Mem → Prop} {W53 : Int → Int → Int → Mem → Prop} {Q : Bool → Mem → Prop} (hv0 : rt v0 = 9) (hM : Rl E M μ) (hQ : ∀ (r : Bool) (M1 : JM) (μ1 : Mem), Rl E M1 μ1 → Q r μ1 → P (.inl (some (.inl (b2i r)))) M1) (hW31 : ∀ (v1 : Int) (v2 : Int) (v3 : Int) (g4 : JV) (M1 : JM) (μ1 : Mem), Rl E M1 μ1 → W31 v1 v2 v3 μ1 → JX 174 31 [jR v0, jI v1, jI v2, jI v3, g4] [] M1 P) (hW53 : ∀ (v1 : Int) (v2 : Int) (v4 : Int) (M1 : JM) (μ1 : Mem), Rl E M1 μ1 → W53 v1 v2 v4 μ1 → JX 174 53 [jR v0, jI v1, jI v2, jI v3, jI v4] [] M1 P) (h : d_Unifier_isFinite_j87 v0 v1 v2 v3 v4 μ W31 W53 Q) : JX 174 87 [jR v0, jI v1, jI v2, jI v3, jI v4] [] M P := by
  unfold d_Unifier_isFinite_j87 at h
  refine L_ps c174 (n := 2) (pc1 := 53) (ls1 := [jR v0, jI v1, jI v2, jI v3, jI (wr (v4 + (-1)))]) (st1 := []) rfl ?_
  exact hW53 _ _ _ _ _ hM h
theorem k_Unifier_isFinite_b53 {E : JE2} {v0 : Nat} {v3 : Int} {v1 : Int} {v2 : Int} {v4 : Int} {μ : Mem} {M : JM} {P : JO → JM → Prop} {W31 : Int → Int → Int → Mem → Prop} {W53 : Int → Int → Int → Mem → Prop} {Q : Bool → Mem → Prop} (hv0 : rt v0 = 9) (hM : Rl E M μ) (hQ : ∀ (r : Bool) (M1 : JM) (μ1 : Mem), Rl E M1 μ1 → Q r μ1 → P (.inl (some (.inl (b2i r)))) M1) (hW31 : ∀ (v1 : Int) (v2 : Int) (v3 : Int) (g4 : JV) (M1 : JM) (μ1 : Mem), Rl E M1 μ1 → W31 v1 v2 v3 μ1 → JX 174 31 [jR v0, jI v1, jI v2, jI v3, g4] [] M1 P) (hW53 : ∀ (v1 : Int) (v2 : Int) (v4 : Int) (M1 : JM) (μ1 : Mem), Rl E M1 μ1 → W53 v1 v2 v4 μ1 → JX 174 53 [jR v0, jI v1, jI v2, jI v3, jI v4] [] M1 P) (h : d_Unifier_isFinite_b53 v0 v3 v1 v2 v4 μ W31 W53 Q) : JX 174 53 [jR v0, jI v1, jI v2, jI v3, jI v4] [] M P := by
  unfold d_Unifier_isFinite_b53 at h
  refine L_ps c174 (n := 1) (pc1 := 55) (ls1 := [jR v0, jI v1, jI v2, jI v3, jI v4]) (st1 := [jI v4]) rfl ?_
  refine L_br (p1 := 93) (p2 := 58) (c174 55 rfl) rfl jc_lt h (fun h => ?_) (fun h => ?_)
  · refine L_ps c174 (n := 2) (pc1 := 31) (ls1 := [jR v0, jI v1, jI v2, jI (wr (v3 + 1)), jI v4]) (st1 := []) rfl ?_
    exact hW31 _ _ _ _ _ _ hM h
  · refine L_ps c174 (n := 2) (pc1 := 61) (ls1 := [jR v0, jI v1, jI v2, jI v3, jI v4]) (st1 := [jI v4, jR v0]) rfl ?_
    refine L_cpB (c174 61 rfl) (js_v rfl ((Rl_tag hM hv0 (by decide)).trans js175)) hh174 (k_Unifier_isSettled hv0 hM h) (fun r1 M hM h => ?_) (fun _ _ _ _ f => f.elim)
    refine L_br (p1 := 87) (p2 := 67) (c174 64 rfl) rfl jc_neb h (fun h => ?_) (fun h => ?_)
    · exact k_Unifier_isFinite_j87 hv0 hM hQ hW31 hW53 h
    · refine L_ps c174 (n := 2) (pc1 := 70) (ls1 := [jR v0, jI v1, jI v2, jI v3, jI v4]) (st1 := [jI v4, jR v0]) rfl ?_
      refine L_cpB (c174 70 rfl) (js_v rfl ((Rl_tag hM hv0 (by decide)).trans js176)) hh174 (k_Unifier_settles hv0 hM h) (fun r3 M hM h => ?_) (fun _ _ _ _ f => f.elim)
      refine L_nb (p1 := 87) (p2 := 76) (c174 73 rfl) rfl jc_eqb h (fun h => ?_) (fun h => ?_)
      · refine L_ps c174 (n := 2) (pc1 := 79) (ls1 := [jR v0, jI v1, jI v2, jI v3, jI v4]) (st1 := [jI v4, jR v0]) rfl ?_
        refine L_cV (c174 79 rfl) (js_v rfl ((Rl_tag hM hv0 (by decide)).trans js177)) hh174 (k_Unifier_settle hv0 hM h) (fun M μ6 hM h => ?_) (fun _ _ _ _ f => f.elim)
        refine L_ps c174 (n := 3) (pc1 := 87) (ls1 := [jR v0, jI (wr (v1 + (-1))), jI 1, jI v3, jI v4]) (st1 := []) rfl ?_
        exact k_Unifier_isFinite_j87 hv0 hM hQ hW31 hW53 h
      · exact k_Unifier_isFinite_j87 hv0 hM hQ hW31 hW53 h
theorem k_Unifier_isFinite_l53 {E : JE2} {v0 : Nat} {v3 : Int} {v1 : Int} {v2 : Int} {v4 : Int} {μ : Mem} {M : JM} {P : JO → JM → Prop} {W31 : Int → Int → Int → Mem → Prop} {Q : Bool → Mem → Prop} (hv0 : rt v0 = 9) (hM : Rl E M μ) (hQ : ∀ (r : Bool) (M1 : JM) (μ1 : Mem), Rl E M1 μ1 → Q r μ1 → P (.inl (some (.inl (b2i r)))) M1) (hW31 : ∀ (v1 : Int) (v2 : Int) (v3 : Int) (g4 : JV) (M1 : JM) (μ1 : Mem), Rl E M1 μ1 → W31 v1 v2 v3 μ1 → JX 174 31 [jR v0, jI v1, jI v2, jI v3, g4] [] M1 P) (h : d_Unifier_isFinite_l53 v0 v3 v1 v2 v4 μ W31 Q) : JX 174 53 [jR v0, jI v1, jI v2, jI v3, jI v4] [] M P := by
  refine h (fun v1 v2 v4 μ => ∀ (M : JM), Rl E M μ → JX 174 53 [jR v0, jI v1, jI v2, jI v3, jI v4] [] M P) ?_ _ hM
  intro v1 v2 v4 μ h M hM
  exact k_Unifier_isFinite_b53 hv0 hM hQ hW31 (fun v1 v2 v4 M μ hM h => h M hM) h
theorem k_Unifier_isFinite_b31 {E : JE2} {v0 : Nat} {v1 : Int} {v2 : Int} {v3 : Int} {μ : Mem} {M : JM} {P : JO → JM → Prop} {g4 : JV} {W31 : Int → Int → Int → Mem → Prop} {Q : Bool → Mem → Prop} (hv0 : rt v0 = 9) (hM : Rl E M μ) (hQ : ∀ (r : Bool) (M1 : JM) (μ1 : Mem), Rl E M1 μ1 → Q r μ1 → P (.inl (some (.inl (b2i r)))) M1) (hW31 : ∀ (v1 : Int) (v2 : Int) (v3 : Int) (g4 : JV) (M1 : JM) (μ1 : Mem), Rl E M1 μ1 → W31 v1 v2 v3 μ1 → JX 174 31 [jR v0, jI v1, jI v2, jI v3, g4] [] M1 P) (h : d_Unifier_isFinite_b31 v0 v1 v2 v3 μ W31 Q) : JX 174 31 [jR v0, jI v1, jI v2, jI v3, g4] [] M P := by
  unfold d_Unifier_isFinite_b31 at h
  refine L_ps c174 (n := 2) (pc1 := 33) (ls1 := [jR v0, jI v1, jI v2, jI v3, g4]) (st1 := [jR v0, jI v3]) rfl ?_
  refine L_getI (c174 33 rfl) hM hv0 rfl ?_
  refine L_br (p1 := 99) (p2 := 39) (c174 36 rfl) rfl jc_gt h (fun h => ?_) (fun h => ?_)
  · exact k_Unifier_isFinite_j99 rfl rfl rfl hM hQ h
  · refine L_ps c174 (n := 1) (pc1 := 40) (ls1 := [jR v0, jI v1, jI v2, jI v3, g4]) (st1 := [jI v2]) rfl ?_
    refine L_br (p1 := 99) (p2 := 43) (c174 40 rfl) rfl jc_eq h (fun h => ?_) (fun h => ?_)
    · exact k_Unifier_isFinite_j99 rfl rfl rfl hM hQ h
    · refine L_ps c174 (n := 3) (pc1 := 46) (ls1 := [jR v0, jI v1, jI 0, jI v3, g4]) (st1 := [jR v0]) rfl ?_
      refine L_getI (c174 46 rfl) hM hv0 rfl ?_
      refine L_ps c174 (n := 3) (pc1 := 53) (ls1 := [jR v0, jI v1, jI 0, jI v3, jI (wr ((μ v0 0) - 1))]) (st1 := []) rfl ?_
      exact k_Unifier_isFinite_l53 hv0 hM hQ hW31 h
theorem k_Unifier_isFinite_l31 {E : JE2} {v0 : Nat} {v1 : Int} {v2 : Int} {v3 : Int} {μ : Mem} {M : JM} {P : JO → JM → Prop} {g4 : JV} {Q : Bool → Mem → Prop} (hv0 : rt v0 = 9) (hM : Rl E M μ) (hQ : ∀ (r : Bool) (M1 : JM) (μ1 : Mem), Rl E M1 μ1 → Q r μ1 → P (.inl (some (.inl (b2i r)))) M1) (h : d_Unifier_isFinite_l31 v0 v1 v2 v3 μ Q) : JX 174 31 [jR v0, jI v1, jI v2, jI v3, g4] [] M P := by
  refine h (fun v1 v2 v3 μ => ∀ (g4 : JV) (M : JM), Rl E M μ → JX 174 31 [jR v0, jI v1, jI v2, jI v3, g4] [] M P) ?_ _ _ hM
  intro v1 v2 v3 μ h g4 M hM
  exact k_Unifier_isFinite_b31 hv0 hM hQ (fun v1 v2 v3 g4 M μ hM h => h g4 M hM) h
theorem k_Unifier_isFinite_b2 {E : JE2} {v0 : Nat} {v1 : Int} {μ : Mem} {M : JM} {P : JO → JM → Prop} {g2 : JV} {g3 : JV} {g4 : JV} {W2 : Int → Mem → Prop} {Q : Bool → Mem → Prop} (hg2 : jc2 g2 = false) (hg3 : jc2 g3 = false) (hv0 : rt v0 = 9) (hM : Rl E M μ) (hQ : ∀ (r : Bool) (M1 : JM) (μ1 : Mem), Rl E M1 μ1 → Q r μ1 → P (.inl (some (.inl (b2i r)))) M1) (hW2 : ∀ (v1 : Int) (g2 : JV) (g3 : JV) (g4 : JV) (M1 : JM) (μ1 : Mem), jc2 g2 = false → jc2 g3 = false → Rl E M1 μ1 → W2 v1 μ1 → JX 174 2 [jR v0, jI v1, g2, g3, g4] [] M1 P) (h : d_Unifier_isFinite_b2 v0 v1 μ W2 Q) : JX 174 2 [jR v0, jI v1, g2, g3, g4] [] M P := by
  unfold d_Unifier_isFinite_b2 at h
  refine L_ps c174 (n := 2) (pc1 := 6) (ls1 := [jR v0, jI v1, g2, g3, g4]) (st1 := [jI 160, jI v1]) rfl ?_
  refine L_nb (p1 := 22) (p2 := 9) (c174 6 rfl) rfl jc_ge h (fun h => ?_) (fun h => ?_)
  · refine L_ps c174 (n := 1) (pc1 := 10) (ls1 := [jR v0, jI v1, g2, g3, g4]) (st1 := [jR v0]) rfl ?_
    refine L_getP (d := 4) (c174 10 rfl) hM hv0 rfl ?_
    refine L_ps c174 (n := 2) (pc1 := 15) (ls1 := [jR v0, jI v1, g2, g3, g4]) (st1 := [jI 0, jI v1, jR (v0 + 4)]) rfl ?_
    obtain ⟨hb, h⟩ := h
    refine L_zast (c174 15 rfl) hM (rp_9_4 hv0) (lp_9_4 hv0) hb (Or.inl rfl) (fun M hM => ?_)
    refine L_ps c174 (n := 2) (pc1 := 2) (ls1 := [jR v0, jI (wr (v1 + 1)), g2, g3, g4]) (st1 := []) rfl ?_
    exact hW2 _ _ _ _ _ _ hg2 hg3 hM h
  · refine L_ps c174 (n := 1) (pc1 := 23) (ls1 := [jR v0, jI v1, g2, g3, g4]) (st1 := [jR v0]) rfl ?_
    refine L_getI (c174 23 rfl) hM hv0 rfl ?_
    refine L_ps c174 (n := 5) (pc1 := 31) (ls1 := [jR v0, jI (μ v0 0), jI 1, jI 0, g4]) (st1 := []) rfl ?_
    exact k_Unifier_isFinite_l31 hv0 hM hQ h
theorem k_Unifier_isFinite_l2 {E : JE2} {v0 : Nat} {v1 : Int} {μ : Mem} {M : JM} {P : JO → JM → Prop} {g2 : JV} {g3 : JV} {g4 : JV} {Q : Bool → Mem → Prop} (hg2 : jc2 g2 = false) (hg3 : jc2 g3 = false) (hv0 : rt v0 = 9) (hM : Rl E M μ) (hQ : ∀ (r : Bool) (M1 : JM) (μ1 : Mem), Rl E M1 μ1 → Q r μ1 → P (.inl (some (.inl (b2i r)))) M1) (h : d_Unifier_isFinite_l2 v0 v1 μ Q) : JX 174 2 [jR v0, jI v1, g2, g3, g4] [] M P := by
  refine h (fun v1 μ => ∀ (g2 : JV) (g3 : JV) (g4 : JV) (M : JM), jc2 g2 = false → jc2 g3 = false → Rl E M μ → JX 174 2 [jR v0, jI v1, g2, g3, g4] [] M P) ?_ _ _ _ _ hg2 hg3 hM
  intro v1 μ h g2 g3 g4 M hg2 hg3 hM
  exact k_Unifier_isFinite_b2 hg2 hg3 hv0 hM hQ (fun v1 g2 g3 g4 M μ hg2 hg3 hM h => h g2 g3 g4 M hg2 hg3 hM) h
theorem k_Unifier_isFinite {E : JE2} {v0 : Nat} {μ : Mem} {M : JM} {Q : Bool → Mem → Prop} (hv0 : rt v0 = 9) (hM : Rl E M μ) (h : d_Unifier_isFinite v0 μ Q) : JX 174 0 (jargs 174 [jR v0]) [] M (PO E (QB Q) XN) := by
  unfold d_Unifier_isFinite at h
  show JX 174 0 [jR v0, jU, jU, jU, jU] [] M (PO E (QB Q) XN)
  generalize hP : PO E (QB Q) XN = P
  have hQ : ∀ (r : Bool) (M1 : JM) (μ1 : Mem), Rl E M1 μ1 → Q r μ1 → P (.inl (some (.inl (b2i r)))) M1 := by rw [← hP]; exact fun r M1 μ1 a b => ⟨μ1, a, r, rfl, b⟩
  clear hP
  refine L_ps c174 (n := 2) (pc1 := 2) (ls1 := [jR v0, jI 0, jU, jU, jU]) (st1 := []) rfl ?_
  exact k_Unifier_isFinite_l2 rfl rfl hv0 hM hQ h
theorem k_Unifier_solve {E : JE2} {v0 : Nat} {v1 : Int} {v2 : Int} {μ : Mem} {M : JM} {Q : Bool → Mem → Prop} (hv0 : rt v0 = 9) (hM : Rl E M μ) (h : d_Unifier_solve v0 v1 v2 μ Q) : JX 165 0 (jargs 165 [jR v0, jI v1, jI v2]) [] M (PO E (QB Q) XN) := by
  unfold d_Unifier_solve at h
  show JX 165 0 [jR v0, jI v1, jI v2] [] M (PO E (QB Q) XN)
  generalize hP : PO E (QB Q) XN = P
  have hQ : ∀ (r : Bool) (M1 : JM) (μ1 : Mem), Rl E M1 μ1 → Q r μ1 → P (.inl (some (.inl (b2i r)))) M1 := by rw [← hP]; exact fun r M1 μ1 a b => ⟨μ1, a, r, rfl, b⟩
  clear hP
  refine L_ps c165 (n := 3) (pc1 := 3) (ls1 := [jR v0, jI v1, jI v2]) (st1 := [jI v2, jI v1, jR v0]) rfl ?_
  refine L_cB (c165 3 rfl) (js_v rfl ((Rl_tag hM hv0 (by decide)).trans js166)) hh165 (k_Unifier_merge hv0 hM h) (fun r1 M μ2 hM h => ?_) (fun _ _ _ _ f => f.elim)
  refine L_nb (p1 := 20) (p2 := 9) (c165 6 rfl) rfl jc_eqb h (fun h => ?_) (fun h => ?_)
  · refine L_ps c165 (n := 1) (pc1 := 10) (ls1 := [jR v0, jI v1, jI v2]) (st1 := [jR v0]) rfl ?_
    refine L_cB (c165 10 rfl) (js_v rfl ((Rl_tag hM hv0 (by decide)).trans js174)) hh165 (k_Unifier_isFinite hv0 hM h) (fun r3 M μ4 hM h => ?_) (fun _ _ _ _ f => f.elim)
    refine L_nb (p1 := 20) (p2 := 16) (c165 13 rfl) rfl jc_eqb h (fun h => ?_) (fun h => ?_)
    · refine L_ps c165 (n := 2) (pc1 := 21) (ls1 := [jR v0, jI v1, jI v2]) (st1 := [jI 1]) rfl ?_
      exact L_retB (c165 21 rfl) (Or.inr rfl) (hQ true _ _ hM h)
    · refine L_ps c165 (n := 1) (pc1 := 21) (ls1 := [jR v0, jI v1, jI v2]) (st1 := [jI 0]) rfl ?_
      exact L_retB (c165 21 rfl) (Or.inl rfl) (hQ false _ _ hM h)
  · refine L_ps c165 (n := 1) (pc1 := 21) (ls1 := [jR v0, jI v1, jI v2]) (st1 := [jI 0]) rfl ?_
    exact L_retB (c165 21 rfl) (Or.inl rfl) (hQ false _ _ hM h)
theorem k_Unifier_unites {E : JE2} {v0 : Nat} {v1 : Nat} {v2 : Nat} {μ : Mem} {M : JM} {Q : Bool → Mem → Prop} (hv0 : rt v0 = 9) (hv1 : rt v1 = 8) (hv2 : rt v2 = 8) (hM : Rl E M μ) (h : d_Unifier_unites v0 v1 v2 μ Q) : JX 161 0 (jargs 161 [jR v0, jR v1, jR v2]) [] M (PO E (QB Q) XN) := by
  unfold d_Unifier_unites at h
  show JX 161 0 [jR v0, jR v1, jR v2, jU, jU] [] M (PO E (QB Q) XN)
  generalize hP : PO E (QB Q) XN = P
  have hQ : ∀ (r : Bool) (M1 : JM) (μ1 : Mem), Rl E M1 μ1 → Q r μ1 → P (.inl (some (.inl (b2i r)))) M1 := by rw [← hP]; exact fun r M1 μ1 a b => ⟨μ1, a, r, rfl, b⟩
  clear hP
  refine L_ps c161 (n := 1) (pc1 := 1) (ls1 := [jR v0, jR v1, jR v2, jU, jU]) (st1 := [jR v0]) rfl ?_
  refine L_cV (c161 1 rfl) (js_v rfl ((Rl_tag hM hv0 (by decide)).trans js162)) hh161 (k_Unifier_clear hv0 hM h) (fun M μ2 hM h => ?_) (fun _ _ _ _ f => f.elim)
  refine L_ps c161 (n := 3) (pc1 := 7) (ls1 := [jR v0, jR v1, jR v2, jU, jU]) (st1 := [jI 0, jR v1, jR v0]) rfl ?_
  refine L_cI (c161 7 rfl) (js_v rfl ((Rl_tag hM hv0 (by decide)).trans js163)) hh161 (k_Unifier_load hv0 hv1 hM h) (fun r3 M μ4 hM h => ?_) (fun _ _ _ _ f => f.elim)
  refine L_ps c161 (n := 4) (pc1 := 15) (ls1 := [jR v0, jR v1, jR v2, jI r3, jU]) (st1 := [jI 8, jR v2, jR v0]) rfl ?_
  refine L_cI (c161 15 rfl) (js_v rfl ((Rl_tag hM hv0 (by decide)).trans js163)) hh161 (k_Unifier_load hv0 hv2 hM h) (fun r5 M μ6 hM h => ?_) (fun _ _ _ _ f => f.elim)
  refine L_ps c161 (n := 4) (pc1 := 24) (ls1 := [jR v0, jR v1, jR v2, jI r3, jI r5]) (st1 := [jI r5, jI r3, jR v0]) rfl ?_
  refine L_cB (c161 24 rfl) (js_v rfl ((Rl_tag hM hv0 (by decide)).trans js165)) hh161 (k_Unifier_solve hv0 hM h) (fun r7 M μ8 hM h => ?_) (fun _ _ _ _ f => f.elim)
  exact L_retB (c161 27 rfl) (bz_b _) (hQ _ _ _ hM h)
theorem k_OB_unify {E : JE2} {v1 : Int} {v2 : Int} {μ : Mem} {M : JM} {Q : Bool → Mem → Prop} {X : Nat → Mem → Prop} (hM : Rl E M μ) (h : d_OB_unify v1 v2 μ Q X) : JX 160 0 (jargs 160 [jR 0, jI v1, jI v2]) [] M (PO E (QB Q) X) := by
  unfold d_OB_unify at h
  show JX 160 0 [jR 0, jI v1, jI v2, jU] [] M (PO E (QB Q) X)
  generalize hP : PO E (QB Q) X = P
  have hQ : ∀ (r : Bool) (M1 : JM) (μ1 : Mem), Rl E M1 μ1 → Q r μ1 → P (.inl (some (.inl (b2i r)))) M1 := by rw [← hP]; exact fun r M1 μ1 a b => ⟨μ1, a, r, rfl, b⟩
  have hX : ∀ (k : Nat) (M1 : JM) (μ1 : Mem), Rl E M1 μ1 → X k μ1 → P (.inr k) M1 := by rw [← hP]; exact fun k M1 μ1 a b => ⟨μ1, a, b⟩
  clear hP
  refine L_ps c160 (n := 2) (pc1 := 2) (ls1 := [jR 0, jI v1, jI v2, jU]) (st1 := [jI v1, jR 0]) rfl ?_
  refine L_cR (c160 2 rfl) (js_v rfl ((Rl_tag hM rt0 (by decide)).trans js114)) hh160 (k_OB_requireTerm hM h) (fun r1 M μ2 hM hr1 h => ?_) (fun k M μx hM hx => hX _ _ _ hM hx)
  refine L_ps c160 (n := 2) (pc1 := 7) (ls1 := [jR 0, jI v1, jI v2, jR r1]) (st1 := [jR 0]) rfl ?_
  refine L_getP (d := 65) (c160 7 rfl) hM rt0 rfl ?_
  refine L_ps c160 (n := 3) (pc1 := 13) (ls1 := [jR 0, jI v1, jI v2, jR r1]) (st1 := [jI v2, jR 0, jR r1, jR 65]) rfl ?_
  refine L_cR (c160 13 rfl) (js_v rfl ((Rl_tag hM rt0 (by decide)).trans js114)) hh160 (k_OB_requireTerm hM h) (fun r3 M μ4 hM hr3 h => ?_) (fun k M μx hM hx => hX _ _ _ hM hx)
  refine L_cB (c160 16 rfl) (js_v rfl ((Rl_tag hM rt65 (by decide)).trans js161)) hh160 (k_Unifier_unites rt65 hr1 hr3 hM h) (fun r5 M μ6 hM h => ?_) (fun _ _ _ _ f => f.elim)
  exact L_retB (c160 19 rfl) (bz_b _) (hQ _ _ _ hM h)
theorem k_Lw_unify_j16 {E : JE2} {t1 : Int} {t2 : Int64} {μ : Mem} {M : JM} {P : JO → JM → Prop} {g0 : JV} {g1 : JV} {g2 : JV} {g3 : JV} {g4 : JV} {Q : Int → Mem → Prop} (hM : Rl E M μ) (hQ : ∀ (r : Int) (M1 : JM) (μ1 : Mem), Rl E M1 μ1 → Q r μ1 → P (.inl (some (.inl r))) M1) (h : d_Lw_unify_j16 t1 t2 μ Q) : JX 159 16 [g0, g1, g2, g3, g4] [jX (.long t2), jI t1, jR 795] M P := by
  unfold d_Lw_unify_j16 at h
  obtain ⟨hb, h⟩ := h
  refine L_last (c159 16 rfl) hM rt795 ln795 hb (fun M hM => ?_)
  refine L_ps c159 (n := 2) (pc1 := 29) (ls1 := [g0, g1, g2, g3, g4]) (st1 := [jI 0]) rfl ?_
  exact L_retI (c159 29 rfl) (hQ _ _ _ hM h)
theorem k_Lw_unify {E : JE2} {v1 : Int} {v2 : Int} {μ : Mem} {M : JM} {Q : Int → Mem → Prop} (hM : Rl E M μ) (h : d_Lw_unify v1 v2 μ Q) : JX 159 0 (jargs 159 [jR 0, jI v1, jI v2, jR 795]) [] M (PO E (QI Q) XN) := by
  unfold d_Lw_unify at h
  show JX 159 0 [jR 0, jI v1, jI v2, jR 795, jU] [] M (PO E (QI Q) XN)
  generalize hP : PO E (QI Q) XN = P
  have hQ : ∀ (r : Int) (M1 : JM) (μ1 : Mem), Rl E M1 μ1 → Q r μ1 → P (.inl (some (.inl r))) M1 := by rw [← hP]; exact fun r M1 μ1 a b => ⟨μ1, a, r, rfl, b⟩
  clear hP
  refine L_ps c159 (n := 5) (pc1 := 5) (ls1 := [jR 0, jI v1, jI v2, jR 795, jU]) (st1 := [jI v2, jI v1, jR 0, jI 0, jR 795]) rfl ?_
  refine L_cBH (c159 5 rfl) (js_v rfl ((Rl_tag hM rt0 (by decide)).trans js160)) (k_OB_unify hM h) (fun r1 M μ2 hM h => ?_) (fun k M μx hM h => ?_)
  · refine L_nb (p1 := 15) (p2 := 11) (c159 8 rfl) rfl jc_eqb h (fun h => ?_) (fun h => ?_)
    · refine L_ps c159 (n := 2) (pc1 := 16) (ls1 := [jR 0, jI v1, jI v2, jR 795, jU]) (st1 := [jX (.long (Int64.ofNat 1)), jI 0, jR 795]) rfl ?_
      exact k_Lw_unify_j16 hM hQ h
    · refine L_ps c159 (n := 1) (pc1 := 16) (ls1 := [jR 0, jI v1, jI v2, jR 795, jU]) (st1 := [jX (.long (Int64.ofNat 0)), jI 0, jR 795]) rfl ?_
      exact k_Lw_unify_j16 hM hQ h
  · by_cases hk0 : k = 0
    · rw [if_pos hk0] at h
      subst hk0
      refine JH_of (h := 20) (i := 4) (pc1 := 22) (ls1 := [jR 0, jI v1, jI v2, jR 795, jU]) rfl rfl (Nat.le_of_ble_eq_true rfl) rfl rfl ?_
      refine L_ps c159 (n := 1) (pc1 := 23) (ls1 := [jR 0, jI v1, jI v2, jR 795, jU]) (st1 := [jI 1]) rfl ?_
      exact L_retI (c159 23 rfl) (hQ _ _ _ hM h)
    rw [if_neg hk0] at h
    by_cases hk1 : k = 1
    · rw [if_pos hk1] at h
      subst hk1
      refine JH_of (h := 24) (i := 4) (pc1 := 26) (ls1 := [jR 0, jI v1, jI v2, jR 795, jU]) rfl rfl (Nat.le_of_ble_eq_true rfl) rfl rfl ?_
      refine L_ps c159 (n := 1) (pc1 := 27) (ls1 := [jR 0, jI v1, jI v2, jR 795, jU]) (st1 := [jI 2]) rfl ?_
      exact L_retI (c159 27 rfl) (hQ _ _ _ hM h)
    rw [if_neg hk1] at h
    exact h.elim
theorem k_Unifier_pushReversed_j41 {E : JE2} {v0 : Nat} {v1 : Int} {v2 : Int} {μ : Mem} {M : JM} {P : JO → JM → Prop} {g3 : JV} {Q : Mem → Prop} (hv0 : rt v0 = 9) (hM : Rl E M μ) (hQ : ∀ (M1 : JM) (μ1 : Mem), Rl E M1 μ1 → Q μ1 → P (.inl none) M1) (h : d_Unifier_pushReversed_j41 v0 v1 v2 μ Q) : JX 181 41 [jR v0, jI v1, jI v2, g3] [] M P := by
  unfold d_Unifier_pushReversed_j41 at h
  refine L_ps c181 (n := 1) (pc1 := 42) (ls1 := [jR v0, jI v1, jI v2, g3]) (st1 := [jI v2]) rfl ?_
  refine L_nb (p1 := 52) (p2 := 45) (c181 42 rfl) rfl jc_le h (fun h => ?_) (fun h => ?_)
  · refine L_ps c181 (n := 4) (pc1 := 49) (ls1 := [jR v0, jI v1, jI v2, g3]) (st1 := [jI (wr (v1 + 1)), jR v0]) rfl ?_
    refine L_cV (c181 49 rfl) (js_v rfl ((Rl_tag hM hv0 (by decide)).trans js167)) hh181 (k_Unifier_push hv0 hM h) (fun M μ14 hM h => ?_) (fun _ _ _ _ f => f.elim)
    exact L_end (c181 52 rfl) rfl (hQ _ _ hM h)
  · exact L_end (c181 52 rfl) rfl (hQ _ _ hM h)
theorem k_Unifier_pushReversed_j31 {E : JE2} {v0 : Nat} {v1 : Int} {v2 : Int} {v3 : Int} {μ : Mem} {M : JM} {P : JO → JM → Prop} {Q : Mem → Prop} (hv0 : rt v0 = 9) (hM : Rl E M μ) (hQ : ∀ (M1 : JM) (μ1 : Mem), Rl E M1 μ1 → Q μ1 → P (.inl none) M1) (h : d_Unifier_pushReversed_j31 v0 v1 v2 v3 μ Q) : JX 181 31 [jR v0, jI v1, jI v2, jI v3] [] M P := by
  unfold d_Unifier_pushReversed_j31 at h
  refine L_ps c181 (n := 2) (pc1 := 33) (ls1 := [jR v0, jI v1, jI v2, jI v3]) (st1 := [jI 1, jI v2]) rfl ?_
  refine L_nb (p1 := 41) (p2 := 36) (c181 33 rfl) rfl jc_le h (fun h => ?_) (fun h => ?_)
  · refine L_ps c181 (n := 2) (pc1 := 38) (ls1 := [jR v0, jI v1, jI v2, jI v3]) (st1 := [jI v3, jR v0]) rfl ?_
    refine L_cV (c181 38 rfl) (js_v rfl ((Rl_tag hM hv0 (by decide)).trans js167)) hh181 (k_Unifier_push hv0 hM h) (fun M μ12 hM h => ?_) (fun _ _ _ _ f => f.elim)
    exact k_Unifier_pushReversed_j41 hv0 hM hQ h
  · exact k_Unifier_pushReversed_j41 hv0 hM hQ h
theorem k_Unifier_pushReversed {E : JE2} {v0 : Nat} {v1 : Int} {μ : Mem} {M : JM} {Q : Mem → Prop} (hv0 : rt v0 = 9) (hM : Rl E M μ) (h : d_Unifier_pushReversed v0 v1 μ Q) : JX 181 0 (jargs 181 [jR v0, jI v1]) [] M (PO E (QV Q) XN) := by
  unfold d_Unifier_pushReversed at h
  show JX 181 0 [jR v0, jI v1, jU, jU] [] M (PO E (QV Q) XN)
  generalize hP : PO E (QV Q) XN = P
  have hQ : ∀ (M1 : JM) (μ1 : Mem), Rl E M1 μ1 → Q μ1 → P (.inl none) M1 := by rw [← hP]; exact fun M1 μ1 a b => ⟨μ1, a, rfl, b⟩
  clear hP
  refine L_ps c181 (n := 2) (pc1 := 2) (ls1 := [jR v0, jI v1, jU, jU]) (st1 := [jI v1, jR v0]) rfl ?_
  refine L_cpI (c181 2 rfl) (js_v rfl ((Rl_tag hM hv0 (by decide)).trans js170)) hh181 (k_Unifier_label hv0 hM h) (fun r1 M hM h => ?_) (fun _ _ _ _ f => f.elim)
  refine L_cpI (c181 5 rfl) (js_t rfl) hh181 (k_Term_arityOf hM h) (fun r3 M hM h => ?_) (fun _ _ _ _ f => f.elim)
  refine L_ps c181 (n := 5) (pc1 := 13) (ls1 := [jR v0, jI v1, jI r3, jU]) (st1 := [jI (wr (v1 + 1)), jR v0]) rfl ?_
  refine L_cpI (c181 13 rfl) (js_v rfl ((Rl_tag hM hv0 (by decide)).trans js173)) hh181 (k_Unifier_end hv0 hM h) (fun r5 M hM h => ?_) (fun _ _ _ _ f => f.elim)
  refine L_ps c181 (n := 3) (pc1 := 19) (ls1 := [jR v0, jI v1, jI r3, jI r5]) (st1 := [jI 2, jI r3]) rfl ?_
  refine L_nb (p1 := 31) (p2 := 22) (c181 19 rfl) rfl jc_le h (fun h => ?_) (fun h => ?_)
  · refine L_ps c181 (n := 3) (pc1 := 25) (ls1 := [jR v0, jI v1, jI r3, jI r5]) (st1 := [jI r5, jR v0, jR v0]) rfl ?_
    refine L_cpI (c181 25 rfl) (js_v rfl ((Rl_tag hM hv0 (by decide)).trans js173)) hh181 (k_Unifier_end hv0 hM h) (fun r7 M hM h => ?_) (fun _ _ _ _ f => f.elim)
    refine L_cV (c181 28 rfl) (js_v rfl ((Rl_tag hM hv0 (by decide)).trans js167)) hh181 (k_Unifier_push hv0 hM h) (fun M μ10 hM h => ?_) (fun _ _ _ _ f => f.elim)
    exact k_Unifier_pushReversed_j31 hv0 hM hQ h
  · exact k_Unifier_pushReversed_j31 hv0 hM hQ h
theorem k_Unifier_expand_j62 {E : JE2} {v0 : Nat} {μ : Mem} {M : JM} {P : JO → JM → Prop} {g1 : JV} {g2 : JV} {g3 : JV} {g4 : JV} {Q : Bool → Mem → Prop} (hg2 : jc2 g2 = false) (hg3 : jc2 g3 = false) (hv0 : rt v0 = 9) (hM : Rl E M μ) (hQ : ∀ (r : Bool) (M1 : JM) (μ1 : Mem), Rl E M1 μ1 → Q r μ1 → P (.inl (some (.inl (b2i r)))) M1) (h : d_Unifier_expand_j62 v0 μ Q) : JX 180 62 [jR v0, g1, g2, g3, g4] [] M P := by
  unfold d_Unifier_expand_j62 at h
  refine L_ps c180 (n := 1) (pc1 := 63) (ls1 := [jR v0, g1, g2, g3, g4]) (st1 := [jR v0]) rfl ?_
  refine L_getI (c180 63 rfl) hM hv0 rfl ?_
  refine L_nb (p1 := 73) (p2 := 69) (c180 66 rfl) rfl jc_ne h (fun h => ?_) (fun h => ?_)
  · refine L_ps c180 (n := 2) (pc1 := 74) (ls1 := [jR v0, g1, g2, g3, g4]) (st1 := [jI 1]) rfl ?_
    exact L_retB (c180 74 rfl) (Or.inr rfl) (hQ true _ _ hM h)
  · refine L_ps c180 (n := 1) (pc1 := 74) (ls1 := [jR v0, g1, g2, g3, g4]) (st1 := [jI 0]) rfl ?_
    exact L_retB (c180 74 rfl) (Or.inl rfl) (hQ false _ _ hM h)
theorem k_Unifier_expand_b12 {E : JE2} {v0 : Nat} {v2 : Nat} {v3 : Int} {μ : Mem} {M : JM} {P : JO → JM → Prop} {g1 : JV} {g4 : JV} {W12 : Int → Mem → Prop} {Q : Bool → Mem → Prop} (hv0 : rt v0 = 9) (hv2 : rt v2 = 8) (hM : Rl E M μ) (hQ : ∀ (r : Bool) (M1 : JM) (μ1 : Mem), Rl E M1 μ1 → Q r μ1 → P (.inl (some (.inl (b2i r)))) M1) (hW12 : ∀ (v3 : Int) (g1 : JV) (g4 : JV) (M1 : JM) (μ1 : Mem), Rl E M1 μ1 → W12 v3 μ1 → JX 180 12 [jR v0, g1, jR v2, jI v3, g4] [] M1 P) (h : d_Unifier_expand_b12 v0 v2 v3 μ W12 Q) : JX 180 12 [jR v0, g1, jR v2, jI v3, g4] [] M P := by
  unfold d_Unifier_expand_b12 at h
  refine L_ps c180 (n := 2) (pc1 := 15) (ls1 := [jR v0, g1, jR v2, jI v3, g4]) (st1 := [jI 80, jI v3]) rfl ?_
  refine L_br (p1 := 62) (p2 := 18) (c180 15 rfl) rfl jc_gt h (fun h => ?_) (fun h => ?_)
  · exact k_Unifier_expand_j62 rfl rfl hv0 hM hQ h
  · refine L_ps c180 (n := 1) (pc1 := 19) (ls1 := [jR v0, g1, jR v2, jI v3, g4]) (st1 := [jR v0]) rfl ?_
    refine L_getI (c180 19 rfl) hM hv0 rfl ?_
    refine L_nb (p1 := 62) (p2 := 25) (c180 22 rfl) rfl jc_le h (fun h => ?_) (fun h => ?_)
    · refine L_ps c180 (n := 2) (pc1 := 27) (ls1 := [jR v0, g1, jR v2, jI v3, g4]) (st1 := [jR v0, jR v0]) rfl ?_
      refine L_cI (c180 27 rfl) (js_v rfl ((Rl_tag hM hv0 (by decide)).trans js168)) hh180 (k_Unifier_pop hv0 hM h) (fun r3 M μ4 hM h => ?_) (fun _ _ _ _ f => f.elim)
      refine L_cpI (c180 30 rfl) (js_v rfl ((Rl_tag hM hv0 (by decide)).trans js169)) hh180 (k_Unifier_root hv0 hM h) (fun r5 M hM h => ?_) (fun _ _ _ _ f => f.elim)
      refine L_ps c180 (n := 4) (pc1 := 39) (ls1 := [jR v0, g1, jR v2, jI v3, jI r5]) (st1 := [jI r5, jR v0, jR v2]) rfl ?_
      refine L_cpI (c180 39 rfl) (js_v rfl ((Rl_tag hM hv0 (by decide)).trans js170)) hh180 (k_Unifier_label hv0 hM h) (fun r7 M hM h => ?_) (fun _ _ _ _ f => f.elim)
      refine L_cB (c180 42 rfl) (js_v rfl ((Rl_tag hM hv2 (by decide)).trans js57)) hh180 (k_Term_add hv2 hM h) (fun r9 M μ10 hM h => ?_) (fun _ _ _ _ f => f.elim)
      refine L_br (p1 := 50) (p2 := 48) (c180 45 rfl) rfl jc_neb h (fun h => ?_) (fun h => ?_)
      · refine L_ps c180 (n := 2) (pc1 := 53) (ls1 := [jR v0, g1, jR v2, jI v3, jI r5]) (st1 := [jI r5, jR v0]) rfl ?_
        refine L_cV (c180 53 rfl) (js_v rfl ((Rl_tag hM hv0 (by decide)).trans js181)) hh180 (k_Unifier_pushReversed hv0 hM h) (fun M μ12 hM h => ?_) (fun _ _ _ _ f => f.elim)
        refine L_ps c180 (n := 2) (pc1 := 12) (ls1 := [jR v0, g1, jR v2, jI (wr (v3 + 1)), jI r5]) (st1 := []) rfl ?_
        exact hW12 _ _ _ _ _ hM h
      · refine L_ps c180 (n := 1) (pc1 := 49) (ls1 := [jR v0, g1, jR v2, jI v3, jI r5]) (st1 := [jI 0]) rfl ?_
        exact L_retB (c180 49 rfl) (Or.inl rfl) (hQ false _ _ hM h)
    · exact k_Unifier_expand_j62 rfl rfl hv0 hM hQ h
theorem k_Unifier_expand_l12 {E : JE2} {v0 : Nat} {v2 : Nat} {v3 : Int} {μ : Mem} {M : JM} {P : JO → JM → Prop} {g1 : JV} {g4 : JV} {Q : Bool → Mem → Prop} (hv0 : rt v0 = 9) (hv2 : rt v2 = 8) (hM : Rl E M μ) (hQ : ∀ (r : Bool) (M1 : JM) (μ1 : Mem), Rl E M1 μ1 → Q r μ1 → P (.inl (some (.inl (b2i r)))) M1) (h : d_Unifier_expand_l12 v0 v2 v3 μ Q) : JX 180 12 [jR v0, g1, jR v2, jI v3, g4] [] M P := by
  refine h (fun v3 μ => ∀ (g1 : JV) (g4 : JV) (M : JM), Rl E M μ → JX 180 12 [jR v0, g1, jR v2, jI v3, g4] [] M P) ?_ _ _ _ hM
  intro v3 μ h g1 g4 M hM
  exact k_Unifier_expand_b12 hv0 hv2 hM hQ (fun v3 g1 g4 M μ hM h => h g1 g4 M hM) h
theorem k_Unifier_expand {E : JE2} {v0 : Nat} {v1 : Int} {v2 : Nat} {μ : Mem} {M : JM} {Q : Bool → Mem → Prop} (hv0 : rt v0 = 9) (hv2 : rt v2 = 8) (hM : Rl E M μ) (h : d_Unifier_expand v0 v1 v2 μ Q) : JX 180 0 (jargs 180 [jR v0, jI v1, jR v2]) [] M (PO E (QB Q) XN) := by
  unfold d_Unifier_expand at h
  show JX 180 0 [jR v0, jI v1, jR v2, jU, jU] [] M (PO E (QB Q) XN)
  generalize hP : PO E (QB Q) XN = P
  have hQ : ∀ (r : Bool) (M1 : JM) (μ1 : Mem), Rl E M1 μ1 → Q r μ1 → P (.inl (some (.inl (b2i r)))) M1 := by rw [← hP]; exact fun r M1 μ1 a b => ⟨μ1, a, r, rfl, b⟩
  clear hP
  refine L_ps c180 (n := 2) (pc1 := 2) (ls1 := [jR v0, jI v1, jR v2, jU, jU]) (st1 := [jI 0, jR v0]) rfl ?_
  refine L_putI (c180 2 rfl) hM hv0 rfl (fun M hM => ?_)
  refine L_ps c180 (n := 2) (pc1 := 7) (ls1 := [jR v0, jI v1, jR v2, jU, jU]) (st1 := [jI v1, jR v0]) rfl ?_
  refine L_cV (c180 7 rfl) (js_v rfl ((Rl_tag hM hv0 (by decide)).trans js167)) hh180 (k_Unifier_push hv0 hM h) (fun M μ2 hM h => ?_) (fun _ _ _ _ f => f.elim)
  refine L_ps c180 (n := 2) (pc1 := 12) (ls1 := [jR v0, jI v1, jR v2, jI 0, jU]) (st1 := []) rfl ?_
  exact k_Unifier_expand_l12 hv0 hv2 hM hQ h
theorem k_OB_unifiedSize {E : JE2} {v1 : Int} {v2 : Int} {μ : Mem} {M : JM} {Q : Int → Mem → Prop} {X : Nat → Mem → Prop} (hM : Rl E M μ) (h : d_OB_unifiedSize v1 v2 μ Q X) : JX 179 0 (jargs 179 [jR 0, jI v1, jI v2]) [] M (PO E (QI Q) X) := by
  unfold d_OB_unifiedSize at h
  show JX 179 0 [jR 0, jI v1, jI v2, jU] [] M (PO E (QI Q) X)
  generalize hP : PO E (QI Q) X = P
  have hQ : ∀ (r : Int) (M1 : JM) (μ1 : Mem), Rl E M1 μ1 → Q r μ1 → P (.inl (some (.inl r))) M1 := by rw [← hP]; exact fun r M1 μ1 a b => ⟨μ1, a, r, rfl, b⟩
  have hX : ∀ (k : Nat) (M1 : JM) (μ1 : Mem), Rl E M1 μ1 → X k μ1 → P (.inr k) M1 := by rw [← hP]; exact fun k M1 μ1 a b => ⟨μ1, a, b⟩
  clear hP
  refine L_ps c179 (n := 2) (pc1 := 2) (ls1 := [jR 0, jI v1, jI v2, jU]) (st1 := [jI v1, jR 0]) rfl ?_
  refine L_cR (c179 2 rfl) (js_v rfl ((Rl_tag hM rt0 (by decide)).trans js114)) hh179 (k_OB_requireTerm hM h) (fun r1 M μ2 hM hr1 h => ?_) (fun k M μx hM hx => hX _ _ _ hM hx)
  refine L_ps c179 (n := 2) (pc1 := 7) (ls1 := [jR 0, jI v1, jI v2, jR r1]) (st1 := [jR 0]) rfl ?_
  refine L_getP (d := 65) (c179 7 rfl) hM rt0 rfl ?_
  refine L_ps c179 (n := 3) (pc1 := 13) (ls1 := [jR 0, jI v1, jI v2, jR r1]) (st1 := [jI v2, jR 0, jR r1, jR 65]) rfl ?_
  refine L_cR (c179 13 rfl) (js_v rfl ((Rl_tag hM rt0 (by decide)).trans js114)) hh179 (k_OB_requireTerm hM h) (fun r3 M μ4 hM hr3 h => ?_) (fun k M μx hM hx => hX _ _ _ hM hx)
  refine L_cB (c179 16 rfl) (js_v rfl ((Rl_tag hM rt65 (by decide)).trans js161)) hh179 (k_Unifier_unites rt65 hr1 hr3 hM h) (fun r5 M μ6 hM h => ?_) (fun _ _ _ _ f => f.elim)
  refine L_br (p1 := 24) (p2 := 22) (c179 19 rfl) rfl jc_neb h (fun h => ?_) (fun h => ?_)
  · refine L_ps c179 (n := 1) (pc1 := 25) (ls1 := [jR 0, jI v1, jI v2, jR r1]) (st1 := [jR 0]) rfl ?_
    refine L_getP (d := 769) (c179 25 rfl) hM rt0 rfl ?_
    refine L_cV (c179 28 rfl) (js_v rfl ((Rl_tag hM rt769 (by decide)).trans js48)) hh179 (k_Term_clear rt769 hM h) (fun M μ8 hM h => ?_) (fun _ _ _ _ f => f.elim)
    refine L_ps c179 (n := 1) (pc1 := 32) (ls1 := [jR 0, jI v1, jI v2, jR r1]) (st1 := [jR 0]) rfl ?_
    refine L_getP (d := 65) (c179 32 rfl) hM rt0 rfl ?_
    refine L_ps c179 (n := 2) (pc1 := 37) (ls1 := [jR 0, jI v1, jI v2, jR r1]) (st1 := [jR 0, jI 0, jR 65]) rfl ?_
    refine L_getP (d := 769) (c179 37 rfl) hM rt0 rfl ?_
    refine L_cB (c179 40 rfl) (js_v rfl ((Rl_tag hM rt65 (by decide)).trans js180)) hh179 (k_Unifier_expand rt65 rt769 hM h) (fun r9 M μ10 hM h => ?_) (fun _ _ _ _ f => f.elim)
    refine L_nb (p1 := 56) (p2 := 46) (c179 43 rfl) rfl jc_eqb h (fun h => ?_) (fun h => ?_)
    · refine L_ps c179 (n := 1) (pc1 := 47) (ls1 := [jR 0, jI v1, jI v2, jR r1]) (st1 := [jR 0]) rfl ?_
      refine L_getP (d := 769) (c179 47 rfl) hM rt0 rfl ?_
      refine L_getI (c179 50 rfl) hM rt769 rfl ?_
      refine L_ps c179 (n := 1) (pc1 := 57) (ls1 := [jR 0, jI v1, jI v2, jR r1]) (st1 := [jI (μ10 769 1)]) rfl ?_
      exact L_retI (c179 57 rfl) (hQ _ _ _ hM h)
    · refine L_ps c179 (n := 1) (pc1 := 57) (ls1 := [jR 0, jI v1, jI v2, jR r1]) (st1 := [jI (-1)]) rfl ?_
      exact L_retI (c179 57 rfl) (hQ _ _ _ hM h)
  · refine L_ps c179 (n := 1) (pc1 := 23) (ls1 := [jR 0, jI v1, jI v2, jR r1]) (st1 := [jI (-1)]) rfl ?_
    exact L_retI (c179 23 rfl) (hQ _ _ _ hM h)
