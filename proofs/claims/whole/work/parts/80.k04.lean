/-! that the printed tables do what the texts say (written by wip/gen/dec.py), 4 -/
theorem k_Lw_unifiedSize {E : JE2} {v1 : Int} {v2 : Int} {μ : Mem} {M : JM} {Q : Int → Mem → Prop} (hM : Rl E M μ) (h : d_Lw_unifiedSize v1 v2 μ Q) : JX 178 0 (jargs 178 [jR 0, jI v1, jI v2, jR 795]) [] M (PO E (QI Q) XN) := by
  unfold d_Lw_unifiedSize at h
  show JX 178 0 [jR 0, jI v1, jI v2, jR 795, jU] [] M (PO E (QI Q) XN)
  generalize hP : PO E (QI Q) XN = P
  have hQ : ∀ (r : Int) (M1 : JM) (μ1 : Mem), Rl E M1 μ1 → Q r μ1 → P (.inl (some (.inl r))) M1 := by rw [← hP]; exact fun r M1 μ1 a b => ⟨μ1, a, r, rfl, b⟩
  clear hP
  refine L_ps c178 (n := 5) (pc1 := 5) (ls1 := [jR 0, jI v1, jI v2, jR 795, jU]) (st1 := [jI v2, jI v1, jR 0, jI 0, jR 795]) rfl ?_
  refine L_cIH (c178 5 rfl) (js_v rfl ((Rl_tag hM rt0 (by decide)).trans js179)) (k_OB_unifiedSize hM h) (fun r1 M μ2 hM h => ?_) (fun k M μx hM h => ?_)
  · refine L_ps c178 (n := 1) (pc1 := 9) (ls1 := [jR 0, jI v1, jI v2, jR 795, jU]) (st1 := [jX (.long ((Int32.ofInt r1).toInt64)), jI 0, jR 795]) rfl ?_
    refine L_last (c178 9 rfl) hM rt795 ln795 (by decide) (fun M hM => ?_)
    refine L_ps c178 (n := 2) (pc1 := 22) (ls1 := [jR 0, jI v1, jI v2, jR 795, jU]) (st1 := [jI 0]) rfl ?_
    exact L_retI (c178 22 rfl) (hQ _ _ _ hM h)
  · by_cases hk0 : k = 0
    · rw [if_pos hk0] at h
      subst hk0
      refine JH_of (h := 13) (i := 4) (pc1 := 15) (ls1 := [jR 0, jI v1, jI v2, jR 795, jU]) rfl rfl (Nat.le_of_ble_eq_true rfl) rfl rfl ?_
      refine L_ps c178 (n := 1) (pc1 := 16) (ls1 := [jR 0, jI v1, jI v2, jR 795, jU]) (st1 := [jI 1]) rfl ?_
      exact L_retI (c178 16 rfl) (hQ _ _ _ hM h)
    rw [if_neg hk0] at h
    by_cases hk1 : k = 1
    · rw [if_pos hk1] at h
      subst hk1
      refine JH_of (h := 17) (i := 4) (pc1 := 19) (ls1 := [jR 0, jI v1, jI v2, jR 795, jU]) rfl rfl (Nat.le_of_ble_eq_true rfl) rfl rfl ?_
      refine L_ps c178 (n := 1) (pc1 := 20) (ls1 := [jR 0, jI v1, jI v2, jR 795, jU]) (st1 := [jI 2]) rfl ?_
      exact L_retI (c178 20 rfl) (hQ _ _ _ hM h)
    rw [if_neg hk1] at h
    exact h.elim
theorem k_PairList_has {E : JE2} {v1 : Int} {μ : Mem} {M : JM} {Q : Bool → Prop} (hM : Rl E M μ) (h : d_PairList_has v1 μ Q) : JX 185 0 (jargs 185 [jR 139, jI v1]) [] M (PO E (pQB μ Q) XN) := by
  unfold d_PairList_has at h
  show JX 185 0 [jR 139, jI v1] [] M (PO E (pQB μ Q) XN)
  generalize hP : PO E (pQB μ Q) XN = P
  have hQ : ∀ (r : Bool) (M1 : JM), Rl E M1 μ → Q r → P (.inl (some (.inl (b2i r)))) M1 := by rw [← hP]; exact fun r M1 a b => ⟨μ, a, rfl, r, rfl, b⟩
  clear hP
  refine L_ps c185 (n := 1) (pc1 := 1) (ls1 := [jR 139, jI v1]) (st1 := [jI v1]) rfl ?_
  refine L_br (p1 := 14) (p2 := 4) (c185 1 rfl) rfl jc_lt h (fun h => ?_) (fun h => ?_)
  · refine L_ps c185 (n := 1) (pc1 := 15) (ls1 := [jR 139, jI v1]) (st1 := [jI 0]) rfl ?_
    exact L_retB (c185 15 rfl) (Or.inl rfl) (hQ false _ hM h)
  · refine L_ps c185 (n := 2) (pc1 := 7) (ls1 := [jR 139, jI v1]) (st1 := [jI 20, jI v1]) rfl ?_
    refine L_nb (p1 := 14) (p2 := 10) (c185 7 rfl) rfl jc_ge h (fun h => ?_) (fun h => ?_)
    · refine L_ps c185 (n := 2) (pc1 := 15) (ls1 := [jR 139, jI v1]) (st1 := [jI 1]) rfl ?_
      exact L_retB (c185 15 rfl) (Or.inr rfl) (hQ true _ hM h)
    · refine L_ps c185 (n := 1) (pc1 := 15) (ls1 := [jR 139, jI v1]) (st1 := [jI 0]) rfl ?_
      exact L_retB (c185 15 rfl) (Or.inl rfl) (hQ false _ hM h)
theorem k_PairList_firstTerm_j21 {E : JE2} {t0 : Nat} {μ : Mem} {M : JM} {P : JO → JM → Prop} {g0 : JV} {g1 : JV} {g2 : JV} {Q : Nat → Prop} (hg1 : jc2 g1 = false) (ht0 : rt t0 = 8) (hM : Rl E M μ) (hQ : ∀ (r : Nat) (M1 : JM), Rl E M1 μ → rt r = 8 → Q r → P (.inl (some (.inr (.inl r)))) M1) (h : d_PairList_firstTerm_j21 t0 μ Q) : JX 187 21 [g0, g1, g2] [jR t0] M P := by
  unfold d_PairList_firstTerm_j21 at h
  refine L_astn (c187 21 rfl) (hg1) (Nat.le_of_ble_eq_true rfl) ?_
  show JX 187 22 [g0, g1, jR t0] [] M P
  refine L_ps c187 (n := 3) (pc1 := 34) (ls1 := [g0, g1, jR t0]) (st1 := [jR t0]) rfl ?_
  exact L_end (c187 34 rfl) rfl (hQ _ _ hM ht0 h)
theorem k_PairList_firstTerm {E : JE2} {v1 : Int} {μ : Mem} {M : JM} {Q : Nat → Prop} (hM : Rl E M μ) (h : d_PairList_firstTerm v1 μ Q) : JX 187 0 (jargs 187 [jR 139, jI v1]) [] M (PO E (pQR μ 8 Q) XN) := by
  unfold d_PairList_firstTerm at h
  show JX 187 0 [jR 139, jI v1, jU] [] M (PO E (pQR μ 8 Q) XN)
  generalize hP : PO E (pQR μ 8 Q) XN = P
  have hQ : ∀ (r : Nat) (M1 : JM), Rl E M1 μ → rt r = 8 → Q r → P (.inl (some (.inr (.inl r)))) M1 := by rw [← hP]; exact fun r M1 a c b => ⟨μ, a, rfl, r, rfl, c, b⟩
  clear hP
  refine L_ps c187 (n := 2) (pc1 := 2) (ls1 := [jR 139, jI v1, jU]) (st1 := [jI v1, jR 139]) rfl ?_
  refine L_cpB (c187 2 rfl) (js_v rfl ((Rl_tag hM rt139 (by decide)).trans js185)) hh187 (k_PairList_has hM h) (fun r1 M hM h => ?_) (fun _ _ _ _ f => f.elim)
  refine L_nb (p1 := 17) (p2 := 8) (c187 5 rfl) rfl jc_eqb h (fun h => ?_) (fun h => ?_)
  · refine L_ps c187 (n := 1) (pc1 := 9) (ls1 := [jR 139, jI v1, jU]) (st1 := [jR 139]) rfl ?_
    refine L_getP (d := 20) (c187 9 rfl) hM rt139 rfl ?_
    refine L_ps c187 (n := 1) (pc1 := 13) (ls1 := [jR 139, jI v1, jU]) (st1 := [jI v1, jR 159]) rfl ?_
    obtain ⟨hb, h⟩ := h
    have e3 : rt (159 + (5 + 4 * v1.toNat)) = 8 := re_114 rt159 (by omega)
    refine L_aald (c187 13 rfl) hM rt159 (by decide) ln159 hb rfl ?_
    refine L_ps c187 (n := 1) (pc1 := 21) (ls1 := [jR 139, jI v1, jU]) (st1 := [jR (159 + (5 + 4 * v1.toNat))]) rfl ?_
    exact k_PairList_firstTerm_j21 rfl e3 hM hQ h
  · refine L_ps c187 (n := 1) (pc1 := 18) (ls1 := [jR 139, jI v1, jU]) (st1 := [jR 139]) rfl ?_
    refine L_getP (d := 22) (c187 18 rfl) hM rt139 rfl ?_
    exact k_PairList_firstTerm_j21 rfl rt161 hM hQ h
theorem k_PairList_secondTerm_j21 {E : JE2} {t0 : Nat} {μ : Mem} {M : JM} {P : JO → JM → Prop} {g0 : JV} {g1 : JV} {g2 : JV} {Q : Nat → Prop} (hg1 : jc2 g1 = false) (ht0 : rt t0 = 8) (hM : Rl E M μ) (hQ : ∀ (r : Nat) (M1 : JM), Rl E M1 μ → rt r = 8 → Q r → P (.inl (some (.inr (.inl r)))) M1) (h : d_PairList_secondTerm_j21 t0 μ Q) : JX 188 21 [g0, g1, g2] [jR t0] M P := by
  unfold d_PairList_secondTerm_j21 at h
  refine L_astn (c188 21 rfl) (hg1) (Nat.le_of_ble_eq_true rfl) ?_
  show JX 188 22 [g0, g1, jR t0] [] M P
  refine L_ps c188 (n := 3) (pc1 := 34) (ls1 := [g0, g1, jR t0]) (st1 := [jR t0]) rfl ?_
  exact L_end (c188 34 rfl) rfl (hQ _ _ hM ht0 h)
theorem k_PairList_secondTerm {E : JE2} {v1 : Int} {μ : Mem} {M : JM} {Q : Nat → Prop} (hM : Rl E M μ) (h : d_PairList_secondTerm v1 μ Q) : JX 188 0 (jargs 188 [jR 139, jI v1]) [] M (PO E (pQR μ 8 Q) XN) := by
  unfold d_PairList_secondTerm at h
  show JX 188 0 [jR 139, jI v1, jU] [] M (PO E (pQR μ 8 Q) XN)
  generalize hP : PO E (pQR μ 8 Q) XN = P
  have hQ : ∀ (r : Nat) (M1 : JM), Rl E M1 μ → rt r = 8 → Q r → P (.inl (some (.inr (.inl r)))) M1 := by rw [← hP]; exact fun r M1 a c b => ⟨μ, a, rfl, r, rfl, c, b⟩
  clear hP
  refine L_ps c188 (n := 2) (pc1 := 2) (ls1 := [jR 139, jI v1, jU]) (st1 := [jI v1, jR 139]) rfl ?_
  refine L_cpB (c188 2 rfl) (js_v rfl ((Rl_tag hM rt139 (by decide)).trans js185)) hh188 (k_PairList_has hM h) (fun r1 M hM h => ?_) (fun _ _ _ _ f => f.elim)
  refine L_nb (p1 := 17) (p2 := 8) (c188 5 rfl) rfl jc_eqb h (fun h => ?_) (fun h => ?_)
  · refine L_ps c188 (n := 1) (pc1 := 9) (ls1 := [jR 139, jI v1, jU]) (st1 := [jR 139]) rfl ?_
    refine L_getP (d := 21) (c188 9 rfl) hM rt139 rfl ?_
    refine L_ps c188 (n := 1) (pc1 := 13) (ls1 := [jR 139, jI v1, jU]) (st1 := [jI v1, jR 160]) rfl ?_
    obtain ⟨hb, h⟩ := h
    have e3 : rt (160 + (6 + 4 * v1.toNat)) = 8 := re_115 rt160 (by omega)
    refine L_aald (c188 13 rfl) hM rt160 (by decide) ln160 hb rfl ?_
    refine L_ps c188 (n := 1) (pc1 := 21) (ls1 := [jR 139, jI v1, jU]) (st1 := [jR (160 + (6 + 4 * v1.toNat))]) rfl ?_
    exact k_PairList_secondTerm_j21 rfl e3 hM hQ h
  · refine L_ps c188 (n := 1) (pc1 := 18) (ls1 := [jR 139, jI v1, jU]) (st1 := [jR 139]) rfl ?_
    refine L_getP (d := 22) (c188 18 rfl) hM rt139 rfl ?_
    exact k_PairList_secondTerm_j21 rfl rt161 hM hQ h
theorem k_Term_set {E : JE2} {v0 : Nat} {v1 : Int} {v2 : Int} {μ : Mem} {M : JM} {Q : Mem → Prop} (hv0 : rt v0 = 8) (hM : Rl E M μ) (h : d_Term_set v0 v1 v2 μ Q) : JX 190 0 (jargs 190 [jR v0, jI v1, jI v2]) [] M (PO E (QV Q) XN) := by
  unfold d_Term_set at h
  show JX 190 0 [jR v0, jI v1, jI v2] [] M (PO E (QV Q) XN)
  generalize hP : PO E (QV Q) XN = P
  have hQ : ∀ (M1 : JM) (μ1 : Mem), Rl E M1 μ1 → Q μ1 → P (.inl none) M1 := by rw [← hP]; exact fun M1 μ1 a b => ⟨μ1, a, rfl, b⟩
  clear hP
  refine L_ps c190 (n := 1) (pc1 := 1) (ls1 := [jR v0, jI v1, jI v2]) (st1 := [jI v1]) rfl ?_
  refine L_br (p1 := 28) (p2 := 4) (c190 1 rfl) rfl jc_lt h (fun h => ?_) (fun h => ?_)
  · exact L_end (c190 28 rfl) rfl (hQ _ _ hM h)
  · refine L_ps c190 (n := 2) (pc1 := 6) (ls1 := [jR v0, jI v1, jI v2]) (st1 := [jR v0, jI v1]) rfl ?_
    refine L_getI (c190 6 rfl) hM hv0 rfl ?_
    refine L_nb (p1 := 28) (p2 := 12) (c190 9 rfl) rfl jc_ge h (fun h => ?_) (fun h => ?_)
    · refine L_ps c190 (n := 2) (pc1 := 14) (ls1 := [jR v0, jI v1, jI v2]) (st1 := [jR v0, jI v1]) rfl ?_
      refine L_getP (d := 1) (c190 14 rfl) hM hv0 rfl ?_
      refine L_alen (n := ln (v0 + 1)) (z := (ln (v0 + 1) : Int)) (c190 17 rfl) hM (rp_8_1 hv0) (by decide) rfl (ln_small _) rfl ?_
      refine L_nb (p1 := 28) (p2 := 21) (c190 18 rfl) rfl jc_ge h (fun h => ?_) (fun h => ?_)
      · refine L_ps c190 (n := 1) (pc1 := 22) (ls1 := [jR v0, jI v1, jI v2]) (st1 := [jR v0]) rfl ?_
        refine L_getP (d := 1) (c190 22 rfl) hM hv0 rfl ?_
        refine L_ps c190 (n := 2) (pc1 := 27) (ls1 := [jR v0, jI v1, jI v2]) (st1 := [jI v2, jI v1, jR (v0 + 1)]) rfl ?_
        obtain ⟨hb, h⟩ := h
        refine L_iast (c190 27 rfl) hM (rp_8_1 hv0) rfl hb (fun M hM => ?_)
        exact L_end (c190 28 rfl) rfl (hQ _ _ hM h)
      · exact L_end (c190 28 rfl) rfl (hQ _ _ hM h)
    · exact L_end (c190 28 rfl) rfl (hQ _ _ hM h)
theorem k_PairList_nameVariables_j78 {E : JE2} {v1 : Nat} {v3 : Int} {v4 : Int} {μ : Mem} {M : JM} {P : JO → JM → Prop} {g2 : JV} {g5 : JV} {W5 : Int → Int → Mem → Prop} {Q : Int → Mem → Prop} (hg2 : jc2 g2 = false) (hv1 : rt v1 = 8) (hM : Rl E M μ) (hQ : ∀ (r : Int) (M1 : JM) (μ1 : Mem), Rl E M1 μ1 → Q r μ1 → P (.inl (some (.inl r))) M1) (hW5 : ∀ (v3 : Int) (v4 : Int) (g2 : JV) (g5 : JV) (M1 : JM) (μ1 : Mem), jc2 g2 = false → Rl E M1 μ1 → W5 v3 v4 μ1 → JX 189 5 [jR 139, jR v1, g2, jI v3, jI v4, g5] [] M1 P) (h : d_PairList_nameVariables_j78 v1 v3 v4 μ W5 Q) : JX 189 78 [jR 139, jR v1, g2, jI v3, jI v4, g5] [] M P := by
  unfold d_PairList_nameVariables_j78 at h
  refine L_ps c189 (n := 2) (pc1 := 5) (ls1 := [jR 139, jR v1, g2, jI v3, jI (wr (v4 + 1)), g5]) (st1 := []) rfl ?_
  exact hW5 _ _ _ _ _ _ hg2 hM h
theorem k_PairList_nameVariables_j62 {E : JE2} {v1 : Nat} {v3 : Int} {v4 : Int} {v5 : Int} {μ : Mem} {M : JM} {P : JO → JM → Prop} {g2 : JV} {W5 : Int → Int → Mem → Prop} {Q : Int → Mem → Prop} (hg2 : jc2 g2 = false) (hv1 : rt v1 = 8) (hM : Rl E M μ) (hQ : ∀ (r : Int) (M1 : JM) (μ1 : Mem), Rl E M1 μ1 → Q r μ1 → P (.inl (some (.inl r))) M1) (hW5 : ∀ (v3 : Int) (v4 : Int) (g2 : JV) (g5 : JV) (M1 : JM) (μ1 : Mem), jc2 g2 = false → Rl E M1 μ1 → W5 v3 v4 μ1 → JX 189 5 [jR 139, jR v1, g2, jI v3, jI v4, g5] [] M1 P) (h : d_PairList_nameVariables_j62 v1 v3 v4 v5 μ W5 Q) : JX 189 62 [jR 139, jR v1, g2, jI v3, jI v4, jI v5] [] M P := by
  unfold d_PairList_nameVariables_j62 at h
  refine L_ps c189 (n := 3) (pc1 := 66) (ls1 := [jR 139, jR v1, g2, jI v3, jI v4, jI v5]) (st1 := [jR 139, jI v4, jR v1]) rfl ?_
  refine L_getP (d := 24) (c189 66 rfl) hM rt139 rfl ?_
  refine L_ps c189 (n := 1) (pc1 := 71) (ls1 := [jR 139, jR v1, g2, jI v3, jI v4, jI v5]) (st1 := [jI v5, jR 163, jI v4, jR v1]) rfl ?_
  obtain ⟨hb, h⟩ := h
  refine L_iald (c189 71 rfl) hM rt163 ln163 hb ?_
  refine L_cpI (c189 72 rfl) (js_t rfl) hh189 (k_Term_variableNode hM h) (fun r5 M hM h => ?_) (fun _ _ _ _ f => f.elim)
  refine L_cV (c189 75 rfl) (js_v rfl ((Rl_tag hM hv1 (by decide)).trans js190)) hh189 (k_Term_set hv1 hM h) (fun M μ8 hM h => ?_) (fun _ _ _ _ f => f.elim)
  exact k_PairList_nameVariables_j78 hg2 hv1 hM hQ hW5 h
theorem k_PairList_nameVariables_b5 {E : JE2} {v1 : Nat} {v3 : Int} {v4 : Int} {μ : Mem} {M : JM} {P : JO → JM → Prop} {g2 : JV} {g5 : JV} {W5 : Int → Int → Mem → Prop} {Q : Int → Mem → Prop} (hg2 : jc2 g2 = false) (hv1 : rt v1 = 8) (hM : Rl E M μ) (hQ : ∀ (r : Int) (M1 : JM) (μ1 : Mem), Rl E M1 μ1 → Q r μ1 → P (.inl (some (.inl r))) M1) (hW5 : ∀ (v3 : Int) (v4 : Int) (g2 : JV) (g5 : JV) (M1 : JM) (μ1 : Mem), jc2 g2 = false → Rl E M1 μ1 → W5 v3 v4 μ1 → JX 189 5 [jR 139, jR v1, g2, jI v3, jI v4, g5] [] M1 P) (h : d_PairList_nameVariables_b5 v1 v3 v4 μ W5 Q) : JX 189 5 [jR 139, jR v1, g2, jI v3, jI v4, g5] [] M P := by
  unfold d_PairList_nameVariables_b5 at h
  refine L_ps c189 (n := 2) (pc1 := 8) (ls1 := [jR 139, jR v1, g2, jI v3, jI v4, g5]) (st1 := [jR v1, jI v4]) rfl ?_
  refine L_getI (c189 8 rfl) hM hv1 rfl ?_
  refine L_nb (p1 := 84) (p2 := 14) (c189 11 rfl) rfl jc_ge h (fun h => ?_) (fun h => ?_)
  · refine L_ps c189 (n := 2) (pc1 := 17) (ls1 := [jR 139, jR v1, g2, jI v3, jI v4, g5]) (st1 := [jI v4, jR v1]) rfl ?_
    refine L_cpI (c189 17 rfl) (js_v rfl ((Rl_tag hM hv1 (by decide)).trans js53)) hh189 (k_Term_get hv1 hM h) (fun r1 M hM h => ?_) (fun _ _ _ _ f => f.elim)
    refine L_cpI (c189 20 rfl) (js_t rfl) hh189 (k_Term_variableOf hM h) (fun r3 M hM h => ?_) (fun _ _ _ _ f => f.elim)
    refine L_ps c189 (n := 2) (pc1 := 27) (ls1 := [jR 139, jR v1, g2, jI v3, jI v4, jI r3]) (st1 := [jI r3]) rfl ?_
    refine L_br (p1 := 78) (p2 := 30) (c189 27 rfl) rfl jc_lt h (fun h => ?_) (fun h => ?_)
    · exact k_PairList_nameVariables_j78 hg2 hv1 hM hQ hW5 h
    · refine L_ps c189 (n := 2) (pc1 := 33) (ls1 := [jR 139, jR v1, g2, jI v3, jI v4, jI r3]) (st1 := [jR 139, jI r3]) rfl ?_
      refine L_getP (d := 24) (c189 33 rfl) hM rt139 rfl ?_
      refine L_alen (n := 16) (z := 16) (c189 36 rfl) hM rt163 (by decide) ln163 (by decide) rfl ?_
      refine L_nb (p1 := 78) (p2 := 40) (c189 37 rfl) rfl jc_ge h (fun h => ?_) (fun h => ?_)
      · refine L_ps c189 (n := 1) (pc1 := 41) (ls1 := [jR 139, jR v1, g2, jI v3, jI v4, jI r3]) (st1 := [jR 139]) rfl ?_
        refine L_getP (d := 24) (c189 41 rfl) hM rt139 rfl ?_
        refine L_ps c189 (n := 1) (pc1 := 46) (ls1 := [jR 139, jR v1, g2, jI v3, jI v4, jI r3]) (st1 := [jI r3, jR 163]) rfl ?_
        obtain ⟨hb, h⟩ := h
        refine L_iald (c189 46 rfl) hM rt163 ln163 hb ?_
        refine L_ps c189 (n := 1) (pc1 := 48) (ls1 := [jR 139, jR v1, g2, jI v3, jI v4, jI r3]) (st1 := [jI (-1), jI (μ 163 r3.toNat)]) rfl ?_
        refine L_nb (p1 := 62) (p2 := 51) (c189 48 rfl) rfl jc_ne h (fun h => ?_) (fun h => ?_)
        · refine L_ps c189 (n := 1) (pc1 := 52) (ls1 := [jR 139, jR v1, g2, jI v3, jI v4, jI r3]) (st1 := [jR 139]) rfl ?_
          refine L_getP (d := 24) (c189 52 rfl) hM rt139 rfl ?_
          refine L_ps c189 (n := 2) (pc1 := 58) (ls1 := [jR 139, jR v1, g2, jI v3, jI v4, jI r3]) (st1 := [jI v3, jI r3, jR 163]) rfl ?_
          obtain ⟨hb, h⟩ := h
          refine L_iast (c189 58 rfl) hM rt163 ln163 hb (fun M hM => ?_)
          refine L_iinc (c189 59 rfl) (hg2) (Nat.le_of_ble_eq_true rfl) rfl ?_
          show JX 189 62 [jR 139, jR v1, g2, jI (wr (v3 + 1)), jI v4, jI r3] [] M P
          exact k_PairList_nameVariables_j62 hg2 hv1 hM hQ hW5 h
        · exact k_PairList_nameVariables_j62 hg2 hv1 hM hQ hW5 h
      · exact k_PairList_nameVariables_j78 hg2 hv1 hM hQ hW5 h
  · refine L_ps c189 (n := 1) (pc1 := 85) (ls1 := [jR 139, jR v1, g2, jI v3, jI v4, g5]) (st1 := [jI v3]) rfl ?_
    exact L_retI (c189 85 rfl) (hQ _ _ _ hM h)
theorem k_PairList_nameVariables_l5 {E : JE2} {v1 : Nat} {v3 : Int} {v4 : Int} {μ : Mem} {M : JM} {P : JO → JM → Prop} {g2 : JV} {g5 : JV} {Q : Int → Mem → Prop} (hg2 : jc2 g2 = false) (hv1 : rt v1 = 8) (hM : Rl E M μ) (hQ : ∀ (r : Int) (M1 : JM) (μ1 : Mem), Rl E M1 μ1 → Q r μ1 → P (.inl (some (.inl r))) M1) (h : d_PairList_nameVariables_l5 v1 v3 v4 μ Q) : JX 189 5 [jR 139, jR v1, g2, jI v3, jI v4, g5] [] M P := by
  refine h (fun v3 v4 μ => ∀ (g2 : JV) (g5 : JV) (M : JM), jc2 g2 = false → Rl E M μ → JX 189 5 [jR 139, jR v1, g2, jI v3, jI v4, g5] [] M P) ?_ _ _ _ hg2 hM
  intro v3 v4 μ h g2 g5 M hg2 hM
  exact k_PairList_nameVariables_b5 hg2 hv1 hM hQ (fun v3 v4 g2 g5 M μ hg2 hM h => h g2 g5 M hg2 hM) h
theorem k_PairList_nameVariables {E : JE2} {v1 : Nat} {v2 : Int} {μ : Mem} {M : JM} {Q : Int → Mem → Prop} (hv1 : rt v1 = 8) (hM : Rl E M μ) (h : d_PairList_nameVariables v1 v2 μ Q) : JX 189 0 (jargs 189 [jR 139, jR v1, jI v2]) [] M (PO E (QI Q) XN) := by
  unfold d_PairList_nameVariables at h
  show JX 189 0 [jR 139, jR v1, jI v2, jU, jU, jU] [] M (PO E (QI Q) XN)
  generalize hP : PO E (QI Q) XN = P
  have hQ : ∀ (r : Int) (M1 : JM) (μ1 : Mem), Rl E M1 μ1 → Q r μ1 → P (.inl (some (.inl r))) M1 := by rw [← hP]; exact fun r M1 μ1 a b => ⟨μ1, a, r, rfl, b⟩
  clear hP
  refine L_ps c189 (n := 4) (pc1 := 5) (ls1 := [jR 139, jR v1, jI v2, jI v2, jI 0, jU]) (st1 := []) rfl ?_
  exact k_PairList_nameVariables_l5 rfl hv1 hM hQ h
theorem k_PairList_buildPair_j234 {E : JE2} {v8 : Nat} {v9 : Nat} {v10 : Int} {μ : Mem} {M : JM} {P : JO → JM → Prop} {g1 : JV} {g2 : JV} {g3 : JV} {g4 : JV} {g5 : JV} {g6 : JV} {g7 : JV} {g11 : JV} {g12 : JV} {Q : Bool → Mem → Prop} (hg3 : jc2 g3 = false) (hg4 : jc2 g4 = false) (hg5 : jc2 g5 = false) (hg6 : jc2 g6 = false) (hg7 : jc2 g7 = false) (hg11 : jc2 g11 = false) (hv8 : rt v8 = 8) (hv9 : rt v9 = 8) (hM : Rl E M μ) (hQ : ∀ (r : Bool) (M1 : JM) (μ1 : Mem), Rl E M1 μ1 → Q r μ1 → P (.inl (some (.inl (b2i r)))) M1) (h : d_PairList_buildPair_j234 v8 v9 v10 μ Q) : JX 186 234 [jR 139, g1, g2, g3, g4, g5, g6, g7, jR v8, jR v9, jI v10, g11, g12] [] M P := by
  unfold d_PairList_buildPair_j234 at h
  refine L_ps c186 (n := 1) (pc1 := 235) (ls1 := [jR 139, g1, g2, g3, g4, g5, g6, g7, jR v8, jR v9, jI v10, g11, g12]) (st1 := [jR 139]) rfl ?_
  refine L_getP (d := 24) (c186 235 rfl) hM rt139 rfl ?_
  refine L_ps c186 (n := 1) (pc1 := 239) (ls1 := [jR 139, g1, g2, g3, g4, g5, g6, g7, jR v8, jR v9, jI v10, g11, g12]) (st1 := [jI (-1), jR 163]) rfl ?_
  refine L_cV (c186 239 rfl) (js_t rfl) hh186 (k_Arrays_fill rt163 hM h) (fun M μ24 hM h => ?_) (fun _ _ _ _ f => f.elim)
  refine L_ps c186 (n := 1) (pc1 := 244) (ls1 := [jR 139, g1, g2, g3, g4, g5, g6, g7, jR v8, jR v9, jI v10, g11, g12]) (st1 := [jI v10]) rfl ?_
  refine L_br (p1 := 267) (p2 := 247) (c186 244 rfl) rfl jc_eq h (fun h => ?_) (fun h => ?_)
  · refine L_ps c186 (n := 1) (pc1 := 268) (ls1 := [jR 139, g1, g2, g3, g4, g5, g6, g7, jR v8, jR v9, jI v10, g11, g12]) (st1 := [jI 0]) rfl ?_
    exact L_retB (c186 268 rfl) (Or.inl rfl) (hQ false _ _ hM h)
  · refine L_ps c186 (n := 5) (pc1 := 254) (ls1 := [jR 139, g1, g2, g3, g4, g5, g6, g7, jR v8, jR v9, jI v10, g11, g12]) (st1 := [jI 0, jR v8, jR 139, jR v9, jR 139]) rfl ?_
    refine L_cI (c186 254 rfl) (js_v rfl ((Rl_tag hM rt139 (by decide)).trans js189)) hh186 (k_PairList_nameVariables hv8 hM h) (fun r25 M μ26 hM h => ?_) (fun _ _ _ _ f => f.elim)
    refine L_cI (c186 257 rfl) (js_v rfl ((Rl_tag hM rt139 (by decide)).trans js189)) hh186 (k_PairList_nameVariables hv9 hM h) (fun r27 M μ28 hM h => ?_) (fun _ _ _ _ f => f.elim)
    refine L_br (p1 := 267) (p2 := 263) (c186 260 rfl) rfl jc_lt h (fun h => ?_) (fun h => ?_)
    · refine L_ps c186 (n := 1) (pc1 := 268) (ls1 := [jR 139, g1, g2, g3, g4, g5, g6, g7, jR v8, jR v9, jI v10, g11, g12]) (st1 := [jI 0]) rfl ?_
      exact L_retB (c186 268 rfl) (Or.inl rfl) (hQ false _ _ hM h)
    · refine L_ps c186 (n := 2) (pc1 := 268) (ls1 := [jR 139, g1, g2, g3, g4, g5, g6, g7, jR v8, jR v9, jI v10, g11, g12]) (st1 := [jI 1]) rfl ?_
      exact L_retB (c186 268 rfl) (Or.inr rfl) (hQ true _ _ hM h)
theorem k_PairList_buildPair_j228 {E : JE2} {v1 : Nat} {v3 : Int} {v4 : Int} {v7 : Int} {v8 : Nat} {v9 : Nat} {v10 : Int} {v11 : Int} {μ : Mem} {M : JM} {P : JO → JM → Prop} {g2 : JV} {g5 : JV} {g6 : JV} {g12 : JV} {W129 : Int → Int → Mem → Prop} {Q : Bool → Mem → Prop} (hg5 : jc2 g5 = false) (hg6 : jc2 g6 = false) (hv1 : rt v1 = 5) (hv8 : rt v8 = 8) (hv9 : rt v9 = 8) (hM : Rl E M μ) (hQ : ∀ (r : Bool) (M1 : JM) (μ1 : Mem), Rl E M1 μ1 → Q r μ1 → P (.inl (some (.inl (b2i r)))) M1) (hW129 : ∀ (v10 : Int) (v11 : Int) (g2 : JV) (g5 : JV) (g6 : JV) (g12 : JV) (M1 : JM) (μ1 : Mem), jc2 g5 = false → jc2 g6 = false → Rl E M1 μ1 → W129 v10 v11 μ1 → JX 186 129 [jR 139, jR v1, g2, jI v3, jI v4, g5, g6, jI v7, jR v8, jR v9, jI v10, jI v11, g12] [] M1 P) (h : d_PairList_buildPair_j228 v1 v3 v4 v7 v8 v9 v10 v11 μ W129 Q) : JX 186 228 [jR 139, jR v1, g2, jI v3, jI v4, g5, g6, jI v7, jR v8, jR v9, jI v10, jI v11, g12] [] M P := by
  unfold d_PairList_buildPair_j228 at h
  refine L_ps c186 (n := 2) (pc1 := 129) (ls1 := [jR 139, jR v1, g2, jI v3, jI v4, g5, g6, jI v7, jR v8, jR v9, jI v10, jI (wr (v11 + 1)), g12]) (st1 := []) rfl ?_
  exact hW129 _ _ _ _ _ _ _ _ hg5 hg6 hM h
theorem k_PairList_buildPair_j226 {E : JE2} {v1 : Nat} {v3 : Int} {v4 : Int} {v7 : Int} {v8 : Nat} {v9 : Nat} {v11 : Int} {t0 : Int} {μ : Mem} {M : JM} {P : JO → JM → Prop} {g2 : JV} {g5 : JV} {g6 : JV} {g10 : JV} {g12 : JV} {W129 : Int → Int → Mem → Prop} {Q : Bool → Mem → Prop} (hg5 : jc2 g5 = false) (hg6 : jc2 g6 = false) (hg10 : jc2 g10 = false) (hv1 : rt v1 = 5) (hv8 : rt v8 = 8) (hv9 : rt v9 = 8) (hM : Rl E M μ) (hQ : ∀ (r : Bool) (M1 : JM) (μ1 : Mem), Rl E M1 μ1 → Q r μ1 → P (.inl (some (.inl (b2i r)))) M1) (hW129 : ∀ (v10 : Int) (v11 : Int) (g2 : JV) (g5 : JV) (g6 : JV) (g12 : JV) (M1 : JM) (μ1 : Mem), jc2 g5 = false → jc2 g6 = false → Rl E M1 μ1 → W129 v10 v11 μ1 → JX 186 129 [jR 139, jR v1, g2, jI v3, jI v4, g5, g6, jI v7, jR v8, jR v9, jI v10, jI v11, g12] [] M1 P) (h : d_PairList_buildPair_j226 v1 v3 v4 v7 v8 v9 v11 t0 μ W129 Q) : JX 186 226 [jR 139, jR v1, g2, jI v3, jI v4, g5, g6, jI v7, jR v8, jR v9, g10, jI v11, g12] [jI t0] M P := by
  unfold d_PairList_buildPair_j226 at h
  refine L_ps c186 (n := 1) (pc1 := 228) (ls1 := [jR 139, jR v1, g2, jI v3, jI v4, g5, g6, jI v7, jR v8, jR v9, jI t0, jI v11, g12]) (st1 := []) rfl ?_
  exact k_PairList_buildPair_j228 hg5 hg6 hv1 hv8 hv9 hM hQ hW129 h
theorem k_PairList_buildPair_b129 {E : JE2} {v1 : Nat} {v3 : Int} {v4 : Int} {v7 : Int} {v8 : Nat} {v9 : Nat} {v10 : Int} {v11 : Int} {μ : Mem} {M : JM} {P : JO → JM → Prop} {g2 : JV} {g5 : JV} {g6 : JV} {g12 : JV} {W129 : Int → Int → Mem → Prop} {Q : Bool → Mem → Prop} (hg5 : jc2 g5 = false) (hg6 : jc2 g6 = false) (hv1 : rt v1 = 5) (hv8 : rt v8 = 8) (hv9 : rt v9 = 8) (hM : Rl E M μ) (hQ : ∀ (r : Bool) (M1 : JM) (μ1 : Mem), Rl E M1 μ1 → Q r μ1 → P (.inl (some (.inl (b2i r)))) M1) (hW129 : ∀ (v10 : Int) (v11 : Int) (g2 : JV) (g5 : JV) (g6 : JV) (g12 : JV) (M1 : JM) (μ1 : Mem), jc2 g5 = false → jc2 g6 = false → Rl E M1 μ1 → W129 v10 v11 μ1 → JX 186 129 [jR 139, jR v1, g2, jI v3, jI v4, g5, g6, jI v7, jR v8, jR v9, jI v10, jI v11, g12] [] M1 P) (h : d_PairList_buildPair_b129 v1 v3 v4 v7 v8 v9 v10 v11 μ W129 Q) : JX 186 129 [jR 139, jR v1, g2, jI v3, jI v4, g5, g6, jI v7, jR v8, jR v9, jI v10, jI v11, g12] [] M P := by
  unfold d_PairList_buildPair_b129 at h
  refine L_ps c186 (n := 1) (pc1 := 131) (ls1 := [jR 139, jR v1, g2, jI v3, jI v4, g5, g6, jI v7, jR v8, jR v9, jI v10, jI v11, g12]) (st1 := [jI v10]) rfl ?_
  refine L_br (p1 := 234) (p2 := 134) (c186 131 rfl) rfl jc_eq h (fun h => ?_) (fun h => ?_)
  · exact k_PairList_buildPair_j234 rfl rfl hg5 hg6 rfl rfl hv8 hv9 hM hQ h
  · refine L_ps c186 (n := 2) (pc1 := 137) (ls1 := [jR 139, jR v1, g2, jI v3, jI v4, g5, g6, jI v7, jR v8, jR v9, jI v10, jI v11, g12]) (st1 := [jR v1, jI v11]) rfl ?_
    refine L_getD (c186 137 rfl) hM hv1 (by decide) ?_
    refine L_getI (c186 140 rfl) hM (dp_rt _) rfl ?_
    refine L_nb (p1 := 234) (p2 := 146) (c186 143 rfl) rfl jc_ge h (fun h => ?_) (fun h => ?_)
    · refine L_ps c186 (n := 2) (pc1 := 149) (ls1 := [jR 139, jR v1, g2, jI v3, jI v4, g5, g6, jI v7, jR v8, jR v9, jI v10, jI v11, g12]) (st1 := [jI v3, jI v11]) rfl ?_
      refine L_nb (p1 := 186) (p2 := 152) (c186 149 rfl) rfl jc_ne h (fun h => ?_) (fun h => ?_)
      · refine L_ps c186 (n := 1) (pc1 := 153) (ls1 := [jR 139, jR v1, g2, jI v3, jI v4, g5, g6, jI v7, jR v8, jR v9, jI v10, jI v11, g12]) (st1 := [jR 139]) rfl ?_
        refine L_getP (d := 1) (c186 153 rfl) hM rt139 rfl ?_
        refine L_ps c186 (n := 2) (pc1 := 160) (ls1 := [jR 139, jR v1, g2, jI v3, jI v4, g5, g6, jI v7, jR v8, jR v9, jI v10, jI v11, g12]) (st1 := [jR v9, jI v7, jR 140]) rfl ?_
        refine L_cB (c186 160 rfl) (js_v rfl ((Rl_tag hM rt140 (by decide)).trans js180)) hh186 (k_Unifier_expand rt140 hv9 hM h) (fun r29 M μ30 hM h => ?_) (fun _ _ _ _ f => f.elim)
        refine L_ps c186 (n := 3) (pc1 := 168) (ls1 := [jR 139, jR v1, g2, jI v3, jI v4, g5, g6, jI v7, jR v8, jR v9, jI (b2i r29), jI v11, g12]) (st1 := [jR v1, jI v11]) rfl ?_
        refine L_getD (c186 168 rfl) hM hv1 (by decide) ?_
        refine L_ps c186 (n := 1) (pc1 := 173) (ls1 := [jR 139, jR v1, g2, jI v3, jI v4, g5, g6, jI v7, jR v8, jR v9, jI (b2i r29), jI v11, g12]) (st1 := [jI v11, jR (dp (μ30 v1 0)), jI v11]) rfl ?_
        refine L_cpI (c186 173 rfl) (js_v rfl ((Rl_tag hM (dp_rt _) (by decide)).trans js75)) hh186 (k_Term_end (dp_rt _) hM h) (fun r31 M hM h => ?_) (fun _ _ _ _ f => f.elim)
        refine L_ps c186 (n := 2) (pc1 := 178) (ls1 := [jR 139, jR v1, g2, jI v3, jI v4, g5, g6, jI v7, jR v8, jR v9, jI (b2i r29), jI v11, g12]) (st1 := [jI (wr (r31 - 1)), jI v11]) rfl ?_
        refine L_cpI (c186 178 rfl) (js_t rfl) hh186 (k_Math_max hM h) (fun r33 M hM h => ?_) (fun _ _ _ _ f => f.elim)
        refine L_ps c186 (n := 2) (pc1 := 228) (ls1 := [jR 139, jR v1, g2, jI v3, jI v4, g5, g6, jI v7, jR v8, jR v9, jI (b2i r29), jI r33, g12]) (st1 := []) rfl ?_
        exact k_PairList_buildPair_j228 hg5 hg6 hv1 hv8 hv9 hM hQ hW129 h
      · refine L_ps c186 (n := 1) (pc1 := 187) (ls1 := [jR 139, jR v1, g2, jI v3, jI v4, g5, g6, jI v7, jR v8, jR v9, jI v10, jI v11, g12]) (st1 := [jR v1]) rfl ?_
        refine L_getD (c186 187 rfl) hM hv1 (by decide) ?_
        refine L_ps c186 (n := 1) (pc1 := 192) (ls1 := [jR 139, jR v1, g2, jI v3, jI v4, g5, g6, jI v7, jR v8, jR v9, jI v10, jI v11, g12]) (st1 := [jI v11, jR (dp (μ v1 0))]) rfl ?_
        refine L_cpI (c186 192 rfl) (js_v rfl ((Rl_tag hM (dp_rt _) (by decide)).trans js53)) hh186 (k_Term_get (dp_rt _) hM h) (fun r35 M hM h => ?_) (fun _ _ _ _ f => f.elim)
        refine L_ps c186 (n := 2) (pc1 := 199) (ls1 := [jR 139, jR v1, g2, jI v3, jI v4, g5, g6, jI v7, jR v8, jR v9, jI v10, jI v11, jI r35]) (st1 := [jI r35]) rfl ?_
        refine L_nb (p1 := 219) (p2 := 202) (c186 199 rfl) rfl jc_ge h (fun h => ?_) (fun h => ?_)
        · refine L_ps c186 (n := 1) (pc1 := 203) (ls1 := [jR 139, jR v1, g2, jI v3, jI v4, g5, g6, jI v7, jR v8, jR v9, jI v10, jI v11, jI r35]) (st1 := [jR 139]) rfl ?_
          refine L_getP (d := 1) (c186 203 rfl) hM rt139 rfl ?_
          refine L_ps c186 (n := 4) (pc1 := 213) (ls1 := [jR 139, jR v1, g2, jI v3, jI v4, g5, g6, jI v7, jR v8, jR v9, jI v10, jI v11, jI r35]) (st1 := [jR v9, jI (wr (v4 + v11)), jR 140]) rfl ?_
          refine L_cB (c186 213 rfl) (js_v rfl ((Rl_tag hM rt140 (by decide)).trans js180)) hh186 (k_Unifier_expand rt140 hv9 hM h) (fun r37 M μ38 hM h => ?_) (fun _ _ _ _ f => f.elim)
          refine L_ps c186 (n := 1) (pc1 := 226) (ls1 := [jR 139, jR v1, g2, jI v3, jI v4, g5, g6, jI v7, jR v8, jR v9, jI v10, jI v11, jI r35]) (st1 := [jI (b2i r37)]) rfl ?_
          exact k_PairList_buildPair_j226 hg5 hg6 rfl hv1 hv8 hv9 hM hQ hW129 h
        · refine L_ps c186 (n := 2) (pc1 := 223) (ls1 := [jR 139, jR v1, g2, jI v3, jI v4, g5, g6, jI v7, jR v8, jR v9, jI v10, jI v11, jI r35]) (st1 := [jI r35, jR v9]) rfl ?_
          refine L_cB (c186 223 rfl) (js_v rfl ((Rl_tag hM hv9 (by decide)).trans js57)) hh186 (k_Term_add hv9 hM h) (fun r39 M μ40 hM h => ?_) (fun _ _ _ _ f => f.elim)
          exact k_PairList_buildPair_j226 hg5 hg6 rfl hv1 hv8 hv9 hM hQ hW129 h
    · exact k_PairList_buildPair_j234 rfl rfl hg5 hg6 rfl rfl hv8 hv9 hM hQ h
theorem k_PairList_buildPair_l129 {E : JE2} {v1 : Nat} {v3 : Int} {v4 : Int} {v7 : Int} {v8 : Nat} {v9 : Nat} {v10 : Int} {v11 : Int} {μ : Mem} {M : JM} {P : JO → JM → Prop} {g2 : JV} {g5 : JV} {g6 : JV} {g12 : JV} {Q : Bool → Mem → Prop} (hg5 : jc2 g5 = false) (hg6 : jc2 g6 = false) (hv1 : rt v1 = 5) (hv8 : rt v8 = 8) (hv9 : rt v9 = 8) (hM : Rl E M μ) (hQ : ∀ (r : Bool) (M1 : JM) (μ1 : Mem), Rl E M1 μ1 → Q r μ1 → P (.inl (some (.inl (b2i r)))) M1) (h : d_PairList_buildPair_l129 v1 v3 v4 v7 v8 v9 v10 v11 μ Q) : JX 186 129 [jR 139, jR v1, g2, jI v3, jI v4, g5, g6, jI v7, jR v8, jR v9, jI v10, jI v11, g12] [] M P := by
  refine h (fun v10 v11 μ => ∀ (g2 : JV) (g5 : JV) (g6 : JV) (g12 : JV) (M : JM), jc2 g5 = false → jc2 g6 = false → Rl E M μ → JX 186 129 [jR 139, jR v1, g2, jI v3, jI v4, g5, g6, jI v7, jR v8, jR v9, jI v10, jI v11, g12] [] M P) ?_ _ _ _ _ _ hg5 hg6 hM
  intro v10 v11 μ h g2 g5 g6 g12 M hg5 hg6 hM
  exact k_PairList_buildPair_b129 hg5 hg6 hv1 hv8 hv9 hM hQ (fun v10 v11 g2 g5 g6 g12 M μ hg5 hg6 hM h => h g2 g5 g6 g12 M hg5 hg6 hM) h
theorem k_PairList_buildPair {E : JE2} {v1 : Nat} {v2 : Nat} {v3 : Int} {μ : Mem} {M : JM} {Q : Bool → Mem → Prop} (hv1 : rt v1 = 5) (hv2 : rt v2 = 5) (hM : Rl E M μ) (h : d_PairList_buildPair v1 v2 v3 μ Q) : JX 186 0 (jargs 186 [jR 139, jR v1, jR v2, jI v3]) [] M (PO E (QB Q) XN) := by
  unfold d_PairList_buildPair at h
  show JX 186 0 [jR 139, jR v1, jR v2, jI v3, jU, jU, jU, jU, jU, jU, jU, jU, jU] [] M (PO E (QB Q) XN)
  generalize hP : PO E (QB Q) XN = P
  have hQ : ∀ (r : Bool) (M1 : JM) (μ1 : Mem), Rl E M1 μ1 → Q r μ1 → P (.inl (some (.inl (b2i r)))) M1 := by rw [← hP]; exact fun r M1 μ1 a b => ⟨μ1, a, r, rfl, b⟩
  clear hP
  refine L_ps c186 (n := 1) (pc1 := 1) (ls1 := [jR 139, jR v1, jR v2, jI v3, jU, jU, jU, jU, jU, jU, jU, jU, jU]) (st1 := [jR 139]) rfl ?_
  refine L_getP (d := 1) (c186 1 rfl) hM rt139 rfl ?_
  refine L_cV (c186 4 rfl) (js_v rfl ((Rl_tag hM rt140 (by decide)).trans js162)) hh186 (k_Unifier_clear rt140 hM h) (fun M μ2 hM h => ?_) (fun _ _ _ _ f => f.elim)
  refine L_ps c186 (n := 1) (pc1 := 8) (ls1 := [jR 139, jR v1, jR v2, jI v3, jU, jU, jU, jU, jU, jU, jU, jU, jU]) (st1 := [jR 139]) rfl ?_
  refine L_getP (d := 1) (c186 8 rfl) hM rt139 rfl ?_
  refine L_ps c186 (n := 1) (pc1 := 12) (ls1 := [jR 139, jR v1, jR v2, jI v3, jU, jU, jU, jU, jU, jU, jU, jU, jU]) (st1 := [jR v1, jR 140]) rfl ?_
  refine L_getD (c186 12 rfl) hM hv1 (by decide) ?_
  refine L_ps c186 (n := 1) (pc1 := 16) (ls1 := [jR 139, jR v1, jR v2, jI v3, jU, jU, jU, jU, jU, jU, jU, jU, jU]) (st1 := [jI 0, jR (dp (μ2 v1 0)), jR 140]) rfl ?_
  refine L_cI (c186 16 rfl) (js_v rfl ((Rl_tag hM rt140 (by decide)).trans js163)) hh186 (k_Unifier_load rt140 (dp_rt _) hM h) (fun r3 M μ4 hM h => ?_) (fun _ _ _ _ f => f.elim)
  refine L_ps c186 (n := 2) (pc1 := 22) (ls1 := [jR 139, jR v1, jR v2, jI v3, jI r3, jU, jU, jU, jU, jU, jU, jU, jU]) (st1 := [jR 139]) rfl ?_
  refine L_getP (d := 1) (c186 22 rfl) hM rt139 rfl ?_
  refine L_ps c186 (n := 1) (pc1 := 26) (ls1 := [jR 139, jR v1, jR v2, jI v3, jI r3, jU, jU, jU, jU, jU, jU, jU, jU]) (st1 := [jR v2, jR 140]) rfl ?_
  refine L_getD (c186 26 rfl) hM hv2 (by decide) ?_
  refine L_ps c186 (n := 1) (pc1 := 31) (ls1 := [jR 139, jR v1, jR v2, jI v3, jI r3, jU, jU, jU, jU, jU, jU, jU, jU]) (st1 := [jI 8, jR (dp (μ4 v2 0)), jR 140]) rfl ?_
  refine L_cI (c186 31 rfl) (js_v rfl ((Rl_tag hM rt140 (by decide)).trans js163)) hh186 (k_Unifier_load rt140 (dp_rt _) hM h) (fun r5 M μ6 hM h => ?_) (fun _ _ _ _ f => f.elim)
  refine L_ps c186 (n := 2) (pc1 := 37) (ls1 := [jR 139, jR v1, jR v2, jI v3, jI r3, jI r5, jU, jU, jU, jU, jU, jU, jU]) (st1 := [jR 139]) rfl ?_
  refine L_getP (d := 1) (c186 37 rfl) hM rt139 rfl ?_
  refine L_ps c186 (n := 1) (pc1 := 41) (ls1 := [jR 139, jR v1, jR v2, jI v3, jI r3, jI r5, jU, jU, jU, jU, jU, jU, jU]) (st1 := [jR v1, jR 140]) rfl ?_
  refine L_getD (c186 41 rfl) hM hv1 (by decide) ?_
  refine L_ps c186 (n := 1) (pc1 := 45) (ls1 := [jR 139, jR v1, jR v2, jI v3, jI r3, jI r5, jU, jU, jU, jU, jU, jU, jU]) (st1 := [jI 0, jR (dp (μ6 v1 1)), jR 140]) rfl ?_
  refine L_cI (c186 45 rfl) (js_v rfl ((Rl_tag hM rt140 (by decide)).trans js163)) hh186 (k_Unifier_load rt140 (dp_rt _) hM h) (fun r7 M μ8 hM h => ?_) (fun _ _ _ _ f => f.elim)
  refine L_ps c186 (n := 2) (pc1 := 51) (ls1 := [jR 139, jR v1, jR v2, jI v3, jI r3, jI r5, jI r7, jU, jU, jU, jU, jU, jU]) (st1 := [jR 139]) rfl ?_
  refine L_getP (d := 1) (c186 51 rfl) hM rt139 rfl ?_
  refine L_ps c186 (n := 1) (pc1 := 55) (ls1 := [jR 139, jR v1, jR v2, jI v3, jI r3, jI r5, jI r7, jU, jU, jU, jU, jU, jU]) (st1 := [jR v2, jR 140]) rfl ?_
  refine L_getD (c186 55 rfl) hM hv2 (by decide) ?_
  refine L_ps c186 (n := 1) (pc1 := 60) (ls1 := [jR 139, jR v1, jR v2, jI v3, jI r3, jI r5, jI r7, jU, jU, jU, jU, jU, jU]) (st1 := [jI 8, jR (dp (μ8 v2 1)), jR 140]) rfl ?_
  refine L_cI (c186 60 rfl) (js_v rfl ((Rl_tag hM rt140 (by decide)).trans js163)) hh186 (k_Unifier_load rt140 (dp_rt _) hM h) (fun r9 M μ10 hM h => ?_) (fun _ _ _ _ f => f.elim)
  refine L_ps c186 (n := 2) (pc1 := 66) (ls1 := [jR 139, jR v1, jR v2, jI v3, jI r3, jI r5, jI r7, jI r9, jU, jU, jU, jU, jU]) (st1 := [jR 139]) rfl ?_
  refine L_getP (d := 1) (c186 66 rfl) hM rt139 rfl ?_
  refine L_ps c186 (n := 4) (pc1 := 75) (ls1 := [jR 139, jR v1, jR v2, jI v3, jI r3, jI r5, jI r7, jI r9, jU, jU, jU, jU, jU]) (st1 := [jI r5, jI (wr (r3 + v3)), jR 140]) rfl ?_
  refine L_cB (c186 75 rfl) (js_v rfl ((Rl_tag hM rt140 (by decide)).trans js165)) hh186 (k_Unifier_solve rt140 hM h) (fun r11 M μ12 hM h => ?_) (fun _ _ _ _ f => f.elim)
  refine L_br (p1 := 83) (p2 := 81) (c186 78 rfl) rfl jc_neb h (fun h => ?_) (fun h => ?_)
  · refine L_ps c186 (n := 2) (pc1 := 85) (ls1 := [jR 139, jR v1, jR v2, jI v3, jI r3, jI r5, jI r7, jI r9, jU, jU, jU, jU, jU]) (st1 := [jR 139, jR 139]) rfl ?_
    refine L_getI (c186 85 rfl) hM rt139 rfl ?_
    refine L_cpR (c186 88 rfl) (js_v rfl ((Rl_tag hM rt139 (by decide)).trans js187)) hh186 (k_PairList_firstTerm hM h) (fun r13 M hM hr13 h => ?_) (fun _ _ _ _ f => f.elim)
    refine L_ps c186 (n := 3) (pc1 := 95) (ls1 := [jR 139, jR v1, jR v2, jI v3, jI r3, jI r5, jI r7, jI r9, jR r13, jU, jU, jU, jU]) (st1 := [jR 139, jR 139]) rfl ?_
    refine L_getI (c186 95 rfl) hM rt139 rfl ?_
    refine L_cpR (c186 98 rfl) (js_v rfl ((Rl_tag hM rt139 (by decide)).trans js188)) hh186 (k_PairList_secondTerm hM h) (fun r15 M hM hr15 h => ?_) (fun _ _ _ _ f => f.elim)
    refine L_ps c186 (n := 2) (pc1 := 105) (ls1 := [jR 139, jR v1, jR v2, jI v3, jI r3, jI r5, jI r7, jI r9, jR r13, jR r15, jU, jU, jU]) (st1 := [jR r13]) rfl ?_
    refine L_cV (c186 105 rfl) (js_v rfl ((Rl_tag hM hr13 (by decide)).trans js48)) hh186 (k_Term_clear hr13 hM h) (fun M μ18 hM h => ?_) (fun _ _ _ _ f => f.elim)
    refine L_ps c186 (n := 1) (pc1 := 110) (ls1 := [jR 139, jR v1, jR v2, jI v3, jI r3, jI r5, jI r7, jI r9, jR r13, jR r15, jU, jU, jU]) (st1 := [jR r15]) rfl ?_
    refine L_cV (c186 110 rfl) (js_v rfl ((Rl_tag hM hr15 (by decide)).trans js48)) hh186 (k_Term_clear hr15 hM h) (fun M μ20 hM h => ?_) (fun _ _ _ _ f => f.elim)
    refine L_ps c186 (n := 1) (pc1 := 114) (ls1 := [jR 139, jR v1, jR v2, jI v3, jI r3, jI r5, jI r7, jI r9, jR r13, jR r15, jU, jU, jU]) (st1 := [jR 139]) rfl ?_
    refine L_getP (d := 1) (c186 114 rfl) hM rt139 rfl ?_
    refine L_ps c186 (n := 2) (pc1 := 121) (ls1 := [jR 139, jR v1, jR v2, jI v3, jI r3, jI r5, jI r7, jI r9, jR r13, jR r15, jU, jU, jU]) (st1 := [jR r13, jI r7, jR 140]) rfl ?_
    refine L_cB (c186 121 rfl) (js_v rfl ((Rl_tag hM rt140 (by decide)).trans js180)) hh186 (k_Unifier_expand rt140 hr13 hM h) (fun r21 M μ22 hM h => ?_) (fun _ _ _ _ f => f.elim)
    refine L_ps c186 (n := 3) (pc1 := 129) (ls1 := [jR 139, jR v1, jR v2, jI v3, jI r3, jI r5, jI r7, jI r9, jR r13, jR r15, jI (b2i r21), jI 0, jU]) (st1 := []) rfl ?_
    exact k_PairList_buildPair_l129 rfl rfl hv1 hr13 hr15 hM hQ h
  · refine L_ps c186 (n := 1) (pc1 := 82) (ls1 := [jR 139, jR v1, jR v2, jI v3, jI r3, jI r5, jI r7, jI r9, jU, jU, jU, jU, jU]) (st1 := [jI 0]) rfl ?_
    exact L_retB (c186 82 rfl) (Or.inl rfl) (hQ false _ _ hM h)
theorem k_PairList_keep {E : JE2} {v1 : Int} {v2 : Int} {v3 : Int} {μ : Mem} {M : JM} {Q : Mem → Prop} (hM : Rl E M μ) (h : d_PairList_keep v1 v2 v3 μ Q) : JX 191 0 (jargs 191 [jR 139, jI v1, jI v2, jI v3]) [] M (PO E (QV Q) XN) := by
  unfold d_PairList_keep at h
  show JX 191 0 [jR 139, jI v1, jI v2, jI v3] [] M (PO E (QV Q) XN)
  generalize hP : PO E (QV Q) XN = P
  have hQ : ∀ (M1 : JM) (μ1 : Mem), Rl E M1 μ1 → Q μ1 → P (.inl none) M1 := by rw [← hP]; exact fun M1 μ1 a b => ⟨μ1, a, rfl, b⟩
  clear hP
  refine L_ps c191 (n := 2) (pc1 := 2) (ls1 := [jR 139, jI v1, jI v2, jI v3]) (st1 := [jR 139, jR 139]) rfl ?_
  refine L_getI (c191 2 rfl) hM rt139 rfl ?_
  refine L_cpB (c191 5 rfl) (js_v rfl ((Rl_tag hM rt139 (by decide)).trans js185)) hh191 (k_PairList_has hM h) (fun r1 M hM h => ?_) (fun _ _ _ _ f => f.elim)
  refine L_nb (p1 := 61) (p2 := 11) (c191 8 rfl) rfl jc_eqb h (fun h => ?_) (fun h => ?_)
  · refine L_ps c191 (n := 1) (pc1 := 12) (ls1 := [jR 139, jI v1, jI v2, jI v3]) (st1 := [jR 139]) rfl ?_
    refine L_getP (d := 16) (c191 12 rfl) hM rt139 rfl ?_
    refine L_ps c191 (n := 1) (pc1 := 16) (ls1 := [jR 139, jI v1, jI v2, jI v3]) (st1 := [jR 139, jR 155]) rfl ?_
    refine L_getI (c191 16 rfl) hM rt139 rfl ?_
    refine L_ps c191 (n := 1) (pc1 := 20) (ls1 := [jR 139, jI v1, jI v2, jI v3]) (st1 := [jI v1, jI (μ 139 1), jR 155]) rfl ?_
    obtain ⟨hb, h⟩ := h
    refine L_iast (c191 20 rfl) hM rt155 ln155 hb (fun M hM => ?_)
    refine L_ps c191 (n := 1) (pc1 := 22) (ls1 := [jR 139, jI v1, jI v2, jI v3]) (st1 := [jR 139]) rfl ?_
    refine L_getP (d := 17) (c191 22 rfl) hM rt139 rfl ?_
    refine L_ps c191 (n := 1) (pc1 := 26) (ls1 := [jR 139, jI v1, jI v2, jI v3]) (st1 := [jR 139, jR 156]) rfl ?_
    refine L_getI (c191 26 rfl) hM rt139 rfl ?_
    refine L_ps c191 (n := 1) (pc1 := 30) (ls1 := [jR 139, jI v1, jI v2, jI v3]) (st1 := [jI v2, jI ((mup μ 155 (μ 139 1).toNat v1) 139 1), jR 156]) rfl ?_
    obtain ⟨hb, h⟩ := h
    refine L_iast (c191 30 rfl) hM rt156 ln156 hb (fun M hM => ?_)
    refine L_ps c191 (n := 1) (pc1 := 32) (ls1 := [jR 139, jI v1, jI v2, jI v3]) (st1 := [jR 139]) rfl ?_
    refine L_getP (d := 18) (c191 32 rfl) hM rt139 rfl ?_
    refine L_ps c191 (n := 1) (pc1 := 36) (ls1 := [jR 139, jI v1, jI v2, jI v3]) (st1 := [jR 139, jR 157]) rfl ?_
    refine L_getI (c191 36 rfl) hM rt139 rfl ?_
    refine L_ps c191 (n := 1) (pc1 := 40) (ls1 := [jR 139, jI v1, jI v2, jI v3]) (st1 := [jI v3, jI ((mup (mup μ 155 (μ 139 1).toNat v1) 156 ((mup μ 155 (μ 139 1).toNat v1) 139 1).toNat v2) 139 1), jR 157]) rfl ?_
    obtain ⟨hb, h⟩ := h
    refine L_iast (c191 40 rfl) hM rt157 ln157 hb (fun M hM => ?_)
    refine L_ps c191 (n := 1) (pc1 := 42) (ls1 := [jR 139, jI v1, jI v2, jI v3]) (st1 := [jR 139]) rfl ?_
    refine L_getP (d := 19) (c191 42 rfl) hM rt139 rfl ?_
    refine L_ps c191 (n := 1) (pc1 := 46) (ls1 := [jR 139, jI v1, jI v2, jI v3]) (st1 := [jR 139, jR 158]) rfl ?_
    refine L_getI (c191 46 rfl) hM rt139 rfl ?_
    refine L_ps c191 (n := 1) (pc1 := 50) (ls1 := [jR 139, jI v1, jI v2, jI v3]) (st1 := [jI 0, jI ((mup (mup (mup μ 155 (μ 139 1).toNat v1) 156 ((mup μ 155 (μ 139 1).toNat v1) 139 1).toNat v2) 157 ((mup (mup μ 155 (μ 139 1).toNat v1) 156 ((mup μ 155 (μ 139 1).toNat v1) 139 1).toNat v2) 139 1).toNat v3) 139 1), jR 158]) rfl ?_
    obtain ⟨hb, h⟩ := h
    refine L_iast (c191 50 rfl) hM rt158 ln158 hb (fun M hM => ?_)
    refine L_ps c191 (n := 2) (pc1 := 53) (ls1 := [jR 139, jI v1, jI v2, jI v3]) (st1 := [jR 139, jR 139]) rfl ?_
    refine L_getI (c191 53 rfl) hM rt139 rfl ?_
    refine L_ps c191 (n := 2) (pc1 := 58) (ls1 := [jR 139, jI v1, jI v2, jI v3]) (st1 := [jI (wr (((mup (mup (mup (mup μ 155 (μ 139 1).toNat v1) 156 ((mup μ 155 (μ 139 1).toNat v1) 139 1).toNat v2) 157 ((mup (mup μ 155 (μ 139 1).toNat v1) 156 ((mup μ 155 (μ 139 1).toNat v1) 139 1).toNat v2) 139 1).toNat v3) 158 ((mup (mup (mup μ 155 (μ 139 1).toNat v1) 156 ((mup μ 155 (μ 139 1).toNat v1) 139 1).toNat v2) 157 ((mup (mup μ 155 (μ 139 1).toNat v1) 156 ((mup μ 155 (μ 139 1).toNat v1) 139 1).toNat v2) 139 1).toNat v3) 139 1).toNat 0) 139 1) + 1)), jR 139]) rfl ?_
    refine L_putI (c191 58 rfl) hM rt139 rfl (fun M hM => ?_)
    exact L_end (c191 61 rfl) rfl (hQ _ _ hM h)
  · exact L_end (c191 61 rfl) rfl (hQ _ _ hM h)
theorem k_PairList_refresh_j132 {E : JE2} {v1 : Nat} {v2 : Int} {v3 : Nat} {v4 : Int} {v5 : Nat} {v6 : Int} {μ : Mem} {M : JM} {P : JO → JM → Prop} {W20 : Int → Mem → Prop} {W37 : Int → Mem → Prop} {W67 : Int → Mem → Prop} {Q : Mem → Prop} (hv1 : rt v1 = 7) (hv3 : rt v3 = 5) (hv5 : rt v5 = 5) (hM : Rl E M μ) (hQ : ∀ (M1 : JM) (μ1 : Mem), Rl E M1 μ1 → Q μ1 → P (.inl none) M1) (hW20 : ∀ (v2 : Int) (g3 : JV) (g4 : JV) (g5 : JV) (g6 : JV) (M1 : JM) (μ1 : Mem), jc2 g3 = false → jc2 g4 = false → jc2 g5 = false → Rl E M1 μ1 → W20 v2 μ1 → JX 184 20 [jR 139, jR v1, jI v2, g3, g4, g5, g6] [] M1 P) (hW37 : ∀ (v4 : Int) (g5 : JV) (g6 : JV) (M1 : JM) (μ1 : Mem), jc2 g5 = false → Rl E M1 μ1 → W37 v4 μ1 → JX 184 37 [jR 139, jR v1, jI v2, jR v3, jI v4, g5, g6] [] M1 P) (hW67 : ∀ (v6 : Int) (M1 : JM) (μ1 : Mem), Rl E M1 μ1 → W67 v6 μ1 → JX 184 67 [jR 139, jR v1, jI v2, jR v3, jI v4, jR v5, jI v6] [] M1 P) (h : d_PairList_refresh_j132 v1 v2 v3 v4 v5 v6 μ W20 W37 W67 Q) : JX 184 132 [jR 139, jR v1, jI v2, jR v3, jI v4, jR v5, jI v6] [] M P := by
  unfold d_PairList_refresh_j132 at h
  refine L_ps c184 (n := 2) (pc1 := 67) (ls1 := [jR 139, jR v1, jI v2, jR v3, jI v4, jR v5, jI (wr (v6 + 1))]) (st1 := []) rfl ?_
  exact hW67 _ _ _ hM h
theorem k_PairList_refresh_b67 {E : JE2} {v1 : Nat} {v2 : Int} {v3 : Nat} {v4 : Int} {v5 : Nat} {v6 : Int} {μ : Mem} {M : JM} {P : JO → JM → Prop} {W20 : Int → Mem → Prop} {W37 : Int → Mem → Prop} {W67 : Int → Mem → Prop} {Q : Mem → Prop} (hv1 : rt v1 = 7) (hv3 : rt v3 = 5) (hv5 : rt v5 = 5) (hM : Rl E M μ) (hQ : ∀ (M1 : JM) (μ1 : Mem), Rl E M1 μ1 → Q μ1 → P (.inl none) M1) (hW20 : ∀ (v2 : Int) (g3 : JV) (g4 : JV) (g5 : JV) (g6 : JV) (M1 : JM) (μ1 : Mem), jc2 g3 = false → jc2 g4 = false → jc2 g5 = false → Rl E M1 μ1 → W20 v2 μ1 → JX 184 20 [jR 139, jR v1, jI v2, g3, g4, g5, g6] [] M1 P) (hW37 : ∀ (v4 : Int) (g5 : JV) (g6 : JV) (M1 : JM) (μ1 : Mem), jc2 g5 = false → Rl E M1 μ1 → W37 v4 μ1 → JX 184 37 [jR 139, jR v1, jI v2, jR v3, jI v4, g5, g6] [] M1 P) (hW67 : ∀ (v6 : Int) (M1 : JM) (μ1 : Mem), Rl E M1 μ1 → W67 v6 μ1 → JX 184 67 [jR 139, jR v1, jI v2, jR v3, jI v4, jR v5, jI v6] [] M1 P) (h : d_PairList_refresh_b67 v1 v2 v3 v4 v5 v6 μ W20 W37 W67 Q) : JX 184 67 [jR 139, jR v1, jI v2, jR v3, jI v4, jR v5, jI v6] [] M P := by
  unfold d_PairList_refresh_b67 at h
  refine L_ps c184 (n := 2) (pc1 := 70) (ls1 := [jR 139, jR v1, jI v2, jR v3, jI v4, jR v5, jI v6]) (st1 := [jR v3, jI v6]) rfl ?_
  refine L_getD (c184 70 rfl) hM hv3 (by decide) ?_
  refine L_getI (c184 73 rfl) hM (dp_rt _) rfl ?_
  refine L_nb (p1 := 138) (p2 := 79) (c184 76 rfl) rfl jc_ge h (fun h => ?_) (fun h => ?_)
  · refine L_ps c184 (n := 1) (pc1 := 80) (ls1 := [jR 139, jR v1, jI v2, jR v3, jI v4, jR v5, jI v6]) (st1 := [jR v3]) rfl ?_
    refine L_getD (c184 80 rfl) hM hv3 (by decide) ?_
    refine L_ps c184 (n := 1) (pc1 := 85) (ls1 := [jR 139, jR v1, jI v2, jR v3, jI v4, jR v5, jI v6]) (st1 := [jI v6, jR (dp (μ v3 0))]) rfl ?_
    refine L_cpI (c184 85 rfl) (js_v rfl ((Rl_tag hM (dp_rt _) (by decide)).trans js53)) hh184 (k_Term_get (dp_rt _) hM h) (fun r5 M hM h => ?_) (fun _ _ _ _ f => f.elim)
    refine L_ps c184 (n := 1) (pc1 := 90) (ls1 := [jR 139, jR v1, jI v2, jR v3, jI v4, jR v5, jI v6]) (st1 := [jR v5, jI r5]) rfl ?_
    refine L_getD (c184 90 rfl) hM hv5 (by decide) ?_
    refine L_ps c184 (n := 1) (pc1 := 94) (ls1 := [jR 139, jR v1, jI v2, jR v3, jI v4, jR v5, jI v6]) (st1 := [jI 0, jR (dp (μ v5 0)), jI r5]) rfl ?_
    refine L_cpI (c184 94 rfl) (js_v rfl ((Rl_tag hM (dp_rt _) (by decide)).trans js53)) hh184 (k_Term_get (dp_rt _) hM h) (fun r7 M hM h => ?_) (fun _ _ _ _ f => f.elim)
    refine L_nb (p1 := 132) (p2 := 100) (c184 97 rfl) rfl jc_ne h (fun h => ?_) (fun h => ?_)
    · refine L_ps c184 (n := 2) (pc1 := 102) (ls1 := [jR 139, jR v1, jI v2, jR v3, jI v4, jR v5, jI v6]) (st1 := [jR 139, jR 139]) rfl ?_
      refine L_getI (c184 102 rfl) hM rt139 rfl ?_
      refine L_cpB (c184 105 rfl) (js_v rfl ((Rl_tag hM rt139 (by decide)).trans js185)) hh184 (k_PairList_has hM h) (fun r9 M hM h => ?_) (fun _ _ _ _ f => f.elim)
      refine L_nb (p1 := 132) (p2 := 111) (c184 108 rfl) rfl jc_eqb h (fun h => ?_) (fun h => ?_)
      · refine L_ps c184 (n := 4) (pc1 := 117) (ls1 := [jR 139, jR v1, jI v2, jR v3, jI v4, jR v5, jI v6]) (st1 := [jI v6, jR v5, jR v3, jR 139]) rfl ?_
        refine L_cB (c184 117 rfl) (js_v rfl ((Rl_tag hM rt139 (by decide)).trans js186)) hh184 (k_PairList_buildPair hv3 hv5 hM h) (fun r11 M μ12 hM h => ?_) (fun _ _ _ _ f => f.elim)
        refine L_nb (p1 := 132) (p2 := 123) (c184 120 rfl) rfl jc_eqb h (fun h => ?_) (fun h => ?_)
        · refine L_ps c184 (n := 4) (pc1 := 129) (ls1 := [jR 139, jR v1, jI v2, jR v3, jI v4, jR v5, jI v6]) (st1 := [jI v6, jI v4, jI v2, jR 139]) rfl ?_
          refine L_cV (c184 129 rfl) (js_v rfl ((Rl_tag hM rt139 (by decide)).trans js191)) hh184 (k_PairList_keep hM h) (fun M μ14 hM h => ?_) (fun _ _ _ _ f => f.elim)
          exact k_PairList_refresh_j132 hv1 hv3 hv5 hM hQ hW20 hW37 hW67 h
        · exact k_PairList_refresh_j132 hv1 hv3 hv5 hM hQ hW20 hW37 hW67 h
      · exact k_PairList_refresh_j132 hv1 hv3 hv5 hM hQ hW20 hW37 hW67 h
    · exact k_PairList_refresh_j132 hv1 hv3 hv5 hM hQ hW20 hW37 hW67 h
  · refine L_ps c184 (n := 2) (pc1 := 37) (ls1 := [jR 139, jR v1, jI v2, jR v3, jI (wr (v4 + 1)), jR v5, jI v6]) (st1 := []) rfl ?_
    exact hW37 _ _ _ _ _ rfl hM h
theorem k_PairList_refresh_l67 {E : JE2} {v1 : Nat} {v2 : Int} {v3 : Nat} {v4 : Int} {v5 : Nat} {v6 : Int} {μ : Mem} {M : JM} {P : JO → JM → Prop} {W20 : Int → Mem → Prop} {W37 : Int → Mem → Prop} {Q : Mem → Prop} (hv1 : rt v1 = 7) (hv3 : rt v3 = 5) (hv5 : rt v5 = 5) (hM : Rl E M μ) (hQ : ∀ (M1 : JM) (μ1 : Mem), Rl E M1 μ1 → Q μ1 → P (.inl none) M1) (hW20 : ∀ (v2 : Int) (g3 : JV) (g4 : JV) (g5 : JV) (g6 : JV) (M1 : JM) (μ1 : Mem), jc2 g3 = false → jc2 g4 = false → jc2 g5 = false → Rl E M1 μ1 → W20 v2 μ1 → JX 184 20 [jR 139, jR v1, jI v2, g3, g4, g5, g6] [] M1 P) (hW37 : ∀ (v4 : Int) (g5 : JV) (g6 : JV) (M1 : JM) (μ1 : Mem), jc2 g5 = false → Rl E M1 μ1 → W37 v4 μ1 → JX 184 37 [jR 139, jR v1, jI v2, jR v3, jI v4, g5, g6] [] M1 P) (h : d_PairList_refresh_l67 v1 v2 v3 v4 v5 v6 μ W20 W37 Q) : JX 184 67 [jR 139, jR v1, jI v2, jR v3, jI v4, jR v5, jI v6] [] M P := by
  refine h (fun v6 μ => ∀ (M : JM), Rl E M μ → JX 184 67 [jR 139, jR v1, jI v2, jR v3, jI v4, jR v5, jI v6] [] M P) ?_ _ hM
  intro v6 μ h M hM
  exact k_PairList_refresh_b67 hv1 hv3 hv5 hM hQ hW20 hW37 (fun v6 M μ hM h => h M hM) h
theorem k_PairList_refresh_j65 {E : JE2} {v1 : Nat} {v2 : Int} {v3 : Nat} {v4 : Int} {v5 : Nat} {t0 : Int} {μ : Mem} {M : JM} {P : JO → JM → Prop} {g6 : JV} {W20 : Int → Mem → Prop} {W37 : Int → Mem → Prop} {Q : Mem → Prop} (hv1 : rt v1 = 7) (hv3 : rt v3 = 5) (hv5 : rt v5 = 5) (hM : Rl E M μ) (hQ : ∀ (M1 : JM) (μ1 : Mem), Rl E M1 μ1 → Q μ1 → P (.inl none) M1) (hW20 : ∀ (v2 : Int) (g3 : JV) (g4 : JV) (g5 : JV) (g6 : JV) (M1 : JM) (μ1 : Mem), jc2 g3 = false → jc2 g4 = false → jc2 g5 = false → Rl E M1 μ1 → W20 v2 μ1 → JX 184 20 [jR 139, jR v1, jI v2, g3, g4, g5, g6] [] M1 P) (hW37 : ∀ (v4 : Int) (g5 : JV) (g6 : JV) (M1 : JM) (μ1 : Mem), jc2 g5 = false → Rl E M1 μ1 → W37 v4 μ1 → JX 184 37 [jR 139, jR v1, jI v2, jR v3, jI v4, g5, g6] [] M1 P) (h : d_PairList_refresh_j65 v1 v2 v3 v4 v5 t0 μ W20 W37 Q) : JX 184 65 [jR 139, jR v1, jI v2, jR v3, jI v4, jR v5, g6] [jI t0] M P := by
  unfold d_PairList_refresh_j65 at h
  refine L_ps c184 (n := 1) (pc1 := 67) (ls1 := [jR 139, jR v1, jI v2, jR v3, jI v4, jR v5, jI t0]) (st1 := []) rfl ?_
  exact k_PairList_refresh_l67 hv1 hv3 hv5 hM hQ hW20 hW37 h
theorem k_PairList_refresh_b37 {E : JE2} {v1 : Nat} {v2 : Int} {v3 : Nat} {v4 : Int} {μ : Mem} {M : JM} {P : JO → JM → Prop} {g5 : JV} {g6 : JV} {W20 : Int → Mem → Prop} {W37 : Int → Mem → Prop} {Q : Mem → Prop} (hg5 : jc2 g5 = false) (hv1 : rt v1 = 7) (hv3 : rt v3 = 5) (hM : Rl E M μ) (hQ : ∀ (M1 : JM) (μ1 : Mem), Rl E M1 μ1 → Q μ1 → P (.inl none) M1) (hW20 : ∀ (v2 : Int) (g3 : JV) (g4 : JV) (g5 : JV) (g6 : JV) (M1 : JM) (μ1 : Mem), jc2 g3 = false → jc2 g4 = false → jc2 g5 = false → Rl E M1 μ1 → W20 v2 μ1 → JX 184 20 [jR 139, jR v1, jI v2, g3, g4, g5, g6] [] M1 P) (hW37 : ∀ (v4 : Int) (g5 : JV) (g6 : JV) (M1 : JM) (μ1 : Mem), jc2 g5 = false → Rl E M1 μ1 → W37 v4 μ1 → JX 184 37 [jR 139, jR v1, jI v2, jR v3, jI v4, g5, g6] [] M1 P) (h : d_PairList_refresh_b37 v1 v2 v3 v4 μ W20 W37 Q) : JX 184 37 [jR 139, jR v1, jI v2, jR v3, jI v4, g5, g6] [] M P := by
  unfold d_PairList_refresh_b37 at h
  refine L_ps c184 (n := 2) (pc1 := 40) (ls1 := [jR 139, jR v1, jI v2, jR v3, jI v4, g5, g6]) (st1 := [jR v1, jI v4]) rfl ?_
  refine L_getI (c184 40 rfl) hM hv1 rfl ?_
  refine L_nb (p1 := 144) (p2 := 46) (c184 43 rfl) rfl jc_ge h (fun h => ?_) (fun h => ?_)
  · refine L_ps c184 (n := 2) (pc1 := 49) (ls1 := [jR 139, jR v1, jI v2, jR v3, jI v4, g5, g6]) (st1 := [jI v4, jR v1]) rfl ?_
    refine L_cpR (c184 49 rfl) (js_v rfl ((Rl_tag hM hv1 (by decide)).trans js46)) hh184 (k_State_rule hv1 hM h) (fun r3 M hM hr3 h => ?_) (fun _ _ _ _ f => f.elim)
    refine L_ps c184 (n := 3) (pc1 := 57) (ls1 := [jR 139, jR v1, jI v2, jR v3, jI v4, jR r3, g6]) (st1 := [jI v4, jI v2]) rfl ?_
    refine L_nb (p1 := 64) (p2 := 60) (c184 57 rfl) rfl jc_ne h (fun h => ?_) (fun h => ?_)
    · refine L_ps c184 (n := 2) (pc1 := 65) (ls1 := [jR 139, jR v1, jI v2, jR v3, jI v4, jR r3, g6]) (st1 := [jI 1]) rfl ?_
      exact k_PairList_refresh_j65 hv1 hv3 hr3 hM hQ hW20 hW37 h
    · refine L_ps c184 (n := 1) (pc1 := 65) (ls1 := [jR 139, jR v1, jI v2, jR v3, jI v4, jR r3, g6]) (st1 := [jI 0]) rfl ?_
      exact k_PairList_refresh_j65 hv1 hv3 hr3 hM hQ hW20 hW37 h
  · refine L_ps c184 (n := 2) (pc1 := 20) (ls1 := [jR 139, jR v1, jI (wr (v2 + 1)), jR v3, jI v4, g5, g6]) (st1 := []) rfl ?_
    exact hW20 _ _ _ _ _ _ _ rfl rfl hg5 hM h
theorem k_PairList_refresh_l37 {E : JE2} {v1 : Nat} {v2 : Int} {v3 : Nat} {v4 : Int} {μ : Mem} {M : JM} {P : JO → JM → Prop} {g5 : JV} {g6 : JV} {W20 : Int → Mem → Prop} {Q : Mem → Prop} (hg5 : jc2 g5 = false) (hv1 : rt v1 = 7) (hv3 : rt v3 = 5) (hM : Rl E M μ) (hQ : ∀ (M1 : JM) (μ1 : Mem), Rl E M1 μ1 → Q μ1 → P (.inl none) M1) (hW20 : ∀ (v2 : Int) (g3 : JV) (g4 : JV) (g5 : JV) (g6 : JV) (M1 : JM) (μ1 : Mem), jc2 g3 = false → jc2 g4 = false → jc2 g5 = false → Rl E M1 μ1 → W20 v2 μ1 → JX 184 20 [jR 139, jR v1, jI v2, g3, g4, g5, g6] [] M1 P) (h : d_PairList_refresh_l37 v1 v2 v3 v4 μ W20 Q) : JX 184 37 [jR 139, jR v1, jI v2, jR v3, jI v4, g5, g6] [] M P := by
  refine h (fun v4 μ => ∀ (g5 : JV) (g6 : JV) (M : JM), jc2 g5 = false → Rl E M μ → JX 184 37 [jR 139, jR v1, jI v2, jR v3, jI v4, g5, g6] [] M P) ?_ _ _ _ hg5 hM
  intro v4 μ h g5 g6 M hg5 hM
  exact k_PairList_refresh_b37 hg5 hv1 hv3 hM hQ hW20 (fun v4 g5 g6 M μ hg5 hM h => h g5 g6 M hg5 hM) h
theorem k_PairList_refresh_b20 {E : JE2} {v1 : Nat} {v2 : Int} {μ : Mem} {M : JM} {P : JO → JM → Prop} {g3 : JV} {g4 : JV} {g5 : JV} {g6 : JV} {W20 : Int → Mem → Prop} {Q : Mem → Prop} (hg3 : jc2 g3 = false) (hg4 : jc2 g4 = false) (hg5 : jc2 g5 = false) (hv1 : rt v1 = 7) (hM : Rl E M μ) (hQ : ∀ (M1 : JM) (μ1 : Mem), Rl E M1 μ1 → Q μ1 → P (.inl none) M1) (hW20 : ∀ (v2 : Int) (g3 : JV) (g4 : JV) (g5 : JV) (g6 : JV) (M1 : JM) (μ1 : Mem), jc2 g3 = false → jc2 g4 = false → jc2 g5 = false → Rl E M1 μ1 → W20 v2 μ1 → JX 184 20 [jR 139, jR v1, jI v2, g3, g4, g5, g6] [] M1 P) (h : d_PairList_refresh_b20 v1 v2 μ W20 Q) : JX 184 20 [jR 139, jR v1, jI v2, g3, g4, g5, g6] [] M P := by
  unfold d_PairList_refresh_b20 at h
  refine L_ps c184 (n := 2) (pc1 := 22) (ls1 := [jR 139, jR v1, jI v2, g3, g4, g5, g6]) (st1 := [jR v1, jI v2]) rfl ?_
  refine L_getI (c184 22 rfl) hM hv1 rfl ?_
  refine L_nb (p1 := 150) (p2 := 28) (c184 25 rfl) rfl jc_ge h (fun h => ?_) (fun h => ?_)
  · refine L_ps c184 (n := 2) (pc1 := 30) (ls1 := [jR 139, jR v1, jI v2, g3, g4, g5, g6]) (st1 := [jI v2, jR v1]) rfl ?_
    refine L_cpR (c184 30 rfl) (js_v rfl ((Rl_tag hM hv1 (by decide)).trans js46)) hh184 (k_State_rule hv1 hM h) (fun r1 M hM hr1 h => ?_) (fun _ _ _ _ f => f.elim)
    refine L_ps c184 (n := 3) (pc1 := 37) (ls1 := [jR 139, jR v1, jI v2, jR r1, jI 0, g5, g6]) (st1 := []) rfl ?_
    exact k_PairList_refresh_l37 hg5 hv1 hr1 hM hQ hW20 h
  · exact L_end (c184 150 rfl) rfl (hQ _ _ hM h)
theorem k_PairList_refresh_l20 {E : JE2} {v1 : Nat} {v2 : Int} {μ : Mem} {M : JM} {P : JO → JM → Prop} {g3 : JV} {g4 : JV} {g5 : JV} {g6 : JV} {Q : Mem → Prop} (hg3 : jc2 g3 = false) (hg4 : jc2 g4 = false) (hg5 : jc2 g5 = false) (hv1 : rt v1 = 7) (hM : Rl E M μ) (hQ : ∀ (M1 : JM) (μ1 : Mem), Rl E M1 μ1 → Q μ1 → P (.inl none) M1) (h : d_PairList_refresh_l20 v1 v2 μ Q) : JX 184 20 [jR 139, jR v1, jI v2, g3, g4, g5, g6] [] M P := by
  refine h (fun v2 μ => ∀ (g3 : JV) (g4 : JV) (g5 : JV) (g6 : JV) (M : JM), jc2 g3 = false → jc2 g4 = false → jc2 g5 = false → Rl E M μ → JX 184 20 [jR 139, jR v1, jI v2, g3, g4, g5, g6] [] M P) ?_ _ _ _ _ _ hg3 hg4 hg5 hM
  intro v2 μ h g3 g4 g5 g6 M hg3 hg4 hg5 hM
  exact k_PairList_refresh_b20 hg3 hg4 hg5 hv1 hM hQ (fun v2 g3 g4 g5 g6 M μ hg3 hg4 hg5 hM h => h g3 g4 g5 g6 M hg3 hg4 hg5 hM) h
theorem k_PairList_refresh {E : JE2} {v1 : Nat} {μ : Mem} {M : JM} {Q : Mem → Prop} (hv1 : rt v1 = 7) (hM : Rl E M μ) (h : d_PairList_refresh v1 μ Q) : JX 184 0 (jargs 184 [jR 139, jR v1]) [] M (PO E (QV Q) XN) := by
  unfold d_PairList_refresh at h
  show JX 184 0 [jR 139, jR v1, jU, jU, jU, jU, jU] [] M (PO E (QV Q) XN)
  generalize hP : PO E (QV Q) XN = P
  have hQ : ∀ (M1 : JM) (μ1 : Mem), Rl E M1 μ1 → Q μ1 → P (.inl none) M1 := by rw [← hP]; exact fun M1 μ1 a b => ⟨μ1, a, rfl, b⟩
  clear hP
  refine L_ps c184 (n := 1) (pc1 := 1) (ls1 := [jR 139, jR v1, jU, jU, jU, jU, jU]) (st1 := [jR 139]) rfl ?_
  refine L_getI (c184 1 rfl) hM rt139 rfl ?_
  refine L_nb (p1 := 8) (p2 := 7) (c184 4 rfl) rfl jc_ne h (fun h => ?_) (fun h => ?_)
  · exact L_end (c184 7 rfl) rfl (hQ _ _ hM h)
  · refine L_ps c184 (n := 2) (pc1 := 10) (ls1 := [jR 139, jR v1, jU, jU, jU, jU, jU]) (st1 := [jI 0, jR 139]) rfl ?_
    refine L_putB (t := 2) (c184 10 rfl) hM rt139 rfl (Or.inl rfl) (fun M hM => ?_)
    refine L_ps c184 (n := 2) (pc1 := 15) (ls1 := [jR 139, jR v1, jU, jU, jU, jU, jU]) (st1 := [jI 0, jR 139]) rfl ?_
    refine L_putI (c184 15 rfl) hM rt139 rfl (fun M hM => ?_)
    refine L_ps c184 (n := 2) (pc1 := 20) (ls1 := [jR 139, jR v1, jI 0, jU, jU, jU, jU]) (st1 := []) rfl ?_
    exact k_PairList_refresh_l20 rfl rfl rfl hv1 hM hQ h
theorem k_OB_criticalPairCount {E : JE2} {μ : Mem} {M : JM} {Q : Int → Mem → Prop} {X : Nat → Mem → Prop} (hM : Rl E M μ) (h : d_OB_criticalPairCount μ Q X) : JX 183 0 (jargs 183 [jR 0]) [] M (PO E (QI Q) X) := by
  unfold d_OB_criticalPairCount at h
  show JX 183 0 [jR 0] [] M (PO E (QI Q) X)
  generalize hP : PO E (QI Q) X = P
  have hQ : ∀ (r : Int) (M1 : JM) (μ1 : Mem), Rl E M1 μ1 → Q r μ1 → P (.inl (some (.inl r))) M1 := by rw [← hP]; exact fun r M1 μ1 a b => ⟨μ1, a, r, rfl, b⟩
  have hX : ∀ (k : Nat) (M1 : JM) (μ1 : Mem), Rl E M1 μ1 → X k μ1 → P (.inr k) M1 := by rw [← hP]; exact fun k M1 μ1 a b => ⟨μ1, a, b⟩
  clear hP
  refine L_ps c183 (n := 1) (pc1 := 1) (ls1 := [jR 0]) (st1 := [jR 0]) rfl ?_
  refine L_cV (c183 1 rfl) (js_v rfl ((Rl_tag hM rt0 (by decide)).trans js86)) hh183 (k_OB_requireSystem hM h) (fun M μ2 hM h => ?_) (fun k M μx hM hx => hX _ _ _ hM hx)
  refine L_ps c183 (n := 1) (pc1 := 5) (ls1 := [jR 0]) (st1 := [jR 0]) rfl ?_
  refine L_getP (d := 139) (c183 5 rfl) hM rt0 rfl ?_
  refine L_ps c183 (n := 1) (pc1 := 9) (ls1 := [jR 0]) (st1 := [jR 0, jR 139]) rfl ?_
  refine L_getP (d := 5) (c183 9 rfl) hM rt0 rfl ?_
  refine L_cV (c183 12 rfl) (js_v rfl ((Rl_tag hM rt139 (by decide)).trans js184)) hh183 (k_PairList_refresh rt5 hM h) (fun M μ4 hM h => ?_) (fun _ _ _ _ f => f.elim)
  refine L_ps c183 (n := 1) (pc1 := 16) (ls1 := [jR 0]) (st1 := [jR 0]) rfl ?_
  refine L_getP (d := 139) (c183 16 rfl) hM rt0 rfl ?_
  refine L_getI (c183 19 rfl) hM rt139 rfl ?_
  exact L_retI (c183 22 rfl) (hQ _ _ _ hM h)
theorem k_Lw_criticalPairCount {E : JE2} {μ : Mem} {M : JM} {Q : Int → Mem → Prop} (hM : Rl E M μ) (h : d_Lw_criticalPairCount μ Q) : JX 182 0 (jargs 182 [jR 0, jR 795]) [] M (PO E (QI Q) XN) := by
  unfold d_Lw_criticalPairCount at h
  show JX 182 0 [jR 0, jR 795, jU] [] M (PO E (QI Q) XN)
  generalize hP : PO E (QI Q) XN = P
  have hQ : ∀ (r : Int) (M1 : JM) (μ1 : Mem), Rl E M1 μ1 → Q r μ1 → P (.inl (some (.inl r))) M1 := by rw [← hP]; exact fun r M1 μ1 a b => ⟨μ1, a, r, rfl, b⟩
  clear hP
  refine L_ps c182 (n := 3) (pc1 := 3) (ls1 := [jR 0, jR 795, jU]) (st1 := [jR 0, jI 0, jR 795]) rfl ?_
  refine L_cIH (c182 3 rfl) (js_v rfl ((Rl_tag hM rt0 (by decide)).trans js183)) (k_OB_criticalPairCount hM h) (fun r1 M μ2 hM h => ?_) (fun k M μx hM h => ?_)
  · refine L_ps c182 (n := 1) (pc1 := 7) (ls1 := [jR 0, jR 795, jU]) (st1 := [jX (.long ((Int32.ofInt r1).toInt64)), jI 0, jR 795]) rfl ?_
    refine L_last (c182 7 rfl) hM rt795 ln795 (by decide) (fun M hM => ?_)
    refine L_ps c182 (n := 2) (pc1 := 15) (ls1 := [jR 0, jR 795, jU]) (st1 := [jI 0]) rfl ?_
    exact L_retI (c182 15 rfl) (hQ _ _ _ hM h)
  · by_cases hk0 : k = 0
    · rw [if_pos hk0] at h
      subst hk0
      refine JH_of (h := 11) (i := 2) (pc1 := 12) (ls1 := [jR 0, jR 795, jU]) rfl rfl (Nat.le_of_ble_eq_true rfl) rfl rfl ?_
      refine L_ps c182 (n := 1) (pc1 := 13) (ls1 := [jR 0, jR 795, jU]) (st1 := [jI 1]) rfl ?_
      exact L_retI (c182 13 rfl) (hQ _ _ _ hM h)
    rw [if_neg hk0] at h
    exact h.elim
theorem k_OB_requirePair {E : JE2} {v1 : Int} {μ : Mem} {M : JM} {Q : Mem → Prop} {X : Nat → Mem → Prop} (hM : Rl E M μ) (h : d_OB_requirePair v1 μ Q X) : JX 194 0 (jargs 194 [jR 0, jI v1]) [] M (PO E (QV Q) X) := by
  unfold d_OB_requirePair at h
  show JX 194 0 [jR 0, jI v1] [] M (PO E (QV Q) X)
  generalize hP : PO E (QV Q) X = P
  have hQ : ∀ (M1 : JM) (μ1 : Mem), Rl E M1 μ1 → Q μ1 → P (.inl none) M1 := by rw [← hP]; exact fun M1 μ1 a b => ⟨μ1, a, rfl, b⟩
  have hX : ∀ (k : Nat) (M1 : JM) (μ1 : Mem), Rl E M1 μ1 → X k μ1 → P (.inr k) M1 := by rw [← hP]; exact fun k M1 μ1 a b => ⟨μ1, a, b⟩
  clear hP
  refine L_ps c194 (n := 1) (pc1 := 1) (ls1 := [jR 0, jI v1]) (st1 := [jR 0]) rfl ?_
  refine L_cV (c194 1 rfl) (js_v rfl ((Rl_tag hM rt0 (by decide)).trans js86)) hh194 (k_OB_requireSystem hM h) (fun M μ2 hM h => ?_) (fun k M μx hM hx => hX _ _ _ hM hx)
  refine L_ps c194 (n := 1) (pc1 := 5) (ls1 := [jR 0, jI v1]) (st1 := [jR 0]) rfl ?_
  refine L_getP (d := 139) (c194 5 rfl) hM rt0 rfl ?_
  refine L_ps c194 (n := 1) (pc1 := 9) (ls1 := [jR 0, jI v1]) (st1 := [jR 0, jR 139]) rfl ?_
  refine L_getP (d := 5) (c194 9 rfl) hM rt0 rfl ?_
  refine L_cV (c194 12 rfl) (js_v rfl ((Rl_tag hM rt139 (by decide)).trans js184)) hh194 (k_PairList_refresh rt5 hM h) (fun M μ4 hM h => ?_) (fun _ _ _ _ f => f.elim)
  refine L_ps c194 (n := 3) (pc1 := 18) (ls1 := [jR 0, jI v1]) (st1 := [jR 0, jI v1, jR 0]) rfl ?_
  refine L_getP (d := 139) (c194 18 rfl) hM rt0 rfl ?_
  refine L_getI (c194 21 rfl) hM rt139 rfl ?_
  refine L_cV (c194 24 rfl) (js_v rfl ((Rl_tag hM rt0 (by decide)).trans js89)) hh194 (k_OB_requireIndex hM h) (fun M μ6 hM h => ?_) (fun k M μx hM hx => hX _ _ _ hM hx)
  exact L_end (c194 27 rfl) rfl (hQ _ _ hM h)
theorem k_PairList_outerRule {E : JE2} {v1 : Int} {μ : Mem} {M : JM} {Q : Int → Prop} (hM : Rl E M μ) (h : d_PairList_outerRule v1 μ Q) : JX 195 0 (jargs 195 [jR 139, jI v1]) [] M (PO E (pQI μ Q) XN) := by
  unfold d_PairList_outerRule at h
  show JX 195 0 [jR 139, jI v1] [] M (PO E (pQI μ Q) XN)
  generalize hP : PO E (pQI μ Q) XN = P
  have hQ : ∀ (r : Int) (M1 : JM), Rl E M1 μ → Q r → P (.inl (some (.inl r))) M1 := by rw [← hP]; exact fun r M1 a b => ⟨μ, a, rfl, r, rfl, b⟩
  clear hP
  refine L_ps c195 (n := 2) (pc1 := 2) (ls1 := [jR 139, jI v1]) (st1 := [jI v1, jR 139]) rfl ?_
  refine L_cpB (c195 2 rfl) (js_v rfl ((Rl_tag hM rt139 (by decide)).trans js185)) hh195 (k_PairList_has hM h) (fun r1 M hM h => ?_) (fun _ _ _ _ f => f.elim)
  refine L_nb (p1 := 17) (p2 := 8) (c195 5 rfl) rfl jc_eqb h (fun h => ?_) (fun h => ?_)
  · refine L_ps c195 (n := 1) (pc1 := 9) (ls1 := [jR 139, jI v1]) (st1 := [jR 139]) rfl ?_
    refine L_getP (d := 16) (c195 9 rfl) hM rt139 rfl ?_
    refine L_ps c195 (n := 1) (pc1 := 13) (ls1 := [jR 139, jI v1]) (st1 := [jI v1, jR 155]) rfl ?_
    obtain ⟨hb, h⟩ := h
    refine L_iald (c195 13 rfl) hM rt155 ln155 hb ?_
    refine L_ps c195 (n := 1) (pc1 := 18) (ls1 := [jR 139, jI v1]) (st1 := [jI (μ 155 v1.toNat)]) rfl ?_
    exact L_retI (c195 18 rfl) (hQ _ _ hM h)
  · refine L_ps c195 (n := 1) (pc1 := 18) (ls1 := [jR 139, jI v1]) (st1 := [jI (-1)]) rfl ?_
    exact L_retI (c195 18 rfl) (hQ _ _ hM h)
theorem k_OB_pairOuterRule {E : JE2} {v1 : Int} {μ : Mem} {M : JM} {Q : Int → Mem → Prop} {X : Nat → Mem → Prop} (hM : Rl E M μ) (h : d_OB_pairOuterRule v1 μ Q X) : JX 193 0 (jargs 193 [jR 0, jI v1]) [] M (PO E (QI Q) X) := by
  unfold d_OB_pairOuterRule at h
  show JX 193 0 [jR 0, jI v1] [] M (PO E (QI Q) X)
  generalize hP : PO E (QI Q) X = P
  have hQ : ∀ (r : Int) (M1 : JM) (μ1 : Mem), Rl E M1 μ1 → Q r μ1 → P (.inl (some (.inl r))) M1 := by rw [← hP]; exact fun r M1 μ1 a b => ⟨μ1, a, r, rfl, b⟩
  have hX : ∀ (k : Nat) (M1 : JM) (μ1 : Mem), Rl E M1 μ1 → X k μ1 → P (.inr k) M1 := by rw [← hP]; exact fun k M1 μ1 a b => ⟨μ1, a, b⟩
  clear hP
  refine L_ps c193 (n := 2) (pc1 := 2) (ls1 := [jR 0, jI v1]) (st1 := [jI v1, jR 0]) rfl ?_
  refine L_cV (c193 2 rfl) (js_v rfl ((Rl_tag hM rt0 (by decide)).trans js194)) hh193 (k_OB_requirePair hM h) (fun M μ2 hM h => ?_) (fun k M μx hM hx => hX _ _ _ hM hx)
  refine L_ps c193 (n := 1) (pc1 := 6) (ls1 := [jR 0, jI v1]) (st1 := [jR 0]) rfl ?_
  refine L_getP (d := 139) (c193 6 rfl) hM rt0 rfl ?_
  refine L_ps c193 (n := 1) (pc1 := 10) (ls1 := [jR 0, jI v1]) (st1 := [jI v1, jR 139]) rfl ?_
  refine L_cpI (c193 10 rfl) (js_v rfl ((Rl_tag hM rt139 (by decide)).trans js195)) hh193 (k_PairList_outerRule hM h) (fun r3 M hM h => ?_) (fun _ _ _ _ f => f.elim)
  exact L_retI (c193 13 rfl) (hQ _ _ _ hM h)
theorem k_Lw_pairOuterRule {E : JE2} {v1 : Int} {μ : Mem} {M : JM} {Q : Int → Mem → Prop} (hM : Rl E M μ) (h : d_Lw_pairOuterRule v1 μ Q) : JX 192 0 (jargs 192 [jR 0, jI v1, jR 795]) [] M (PO E (QI Q) XN) := by
  unfold d_Lw_pairOuterRule at h
  show JX 192 0 [jR 0, jI v1, jR 795, jU] [] M (PO E (QI Q) XN)
  generalize hP : PO E (QI Q) XN = P
  have hQ : ∀ (r : Int) (M1 : JM) (μ1 : Mem), Rl E M1 μ1 → Q r μ1 → P (.inl (some (.inl r))) M1 := by rw [← hP]; exact fun r M1 μ1 a b => ⟨μ1, a, r, rfl, b⟩
  clear hP
  refine L_ps c192 (n := 4) (pc1 := 4) (ls1 := [jR 0, jI v1, jR 795, jU]) (st1 := [jI v1, jR 0, jI 0, jR 795]) rfl ?_
  refine L_cIH (c192 4 rfl) (js_v rfl ((Rl_tag hM rt0 (by decide)).trans js193)) (k_OB_pairOuterRule hM h) (fun r1 M μ2 hM h => ?_) (fun k M μx hM h => ?_)
  · refine L_ps c192 (n := 1) (pc1 := 8) (ls1 := [jR 0, jI v1, jR 795, jU]) (st1 := [jX (.long ((Int32.ofInt r1).toInt64)), jI 0, jR 795]) rfl ?_
    refine L_last (c192 8 rfl) hM rt795 ln795 (by decide) (fun M hM => ?_)
    refine L_ps c192 (n := 2) (pc1 := 19) (ls1 := [jR 0, jI v1, jR 795, jU]) (st1 := [jI 0]) rfl ?_
    exact L_retI (c192 19 rfl) (hQ _ _ _ hM h)
  · by_cases hk0 : k = 0
    · rw [if_pos hk0] at h
      subst hk0
      refine JH_of (h := 12) (i := 3) (pc1 := 13) (ls1 := [jR 0, jI v1, jR 795, jU]) rfl rfl (Nat.le_of_ble_eq_true rfl) rfl rfl ?_
      refine L_ps c192 (n := 1) (pc1 := 14) (ls1 := [jR 0, jI v1, jR 795, jU]) (st1 := [jI 1]) rfl ?_
      exact L_retI (c192 14 rfl) (hQ _ _ _ hM h)
    rw [if_neg hk0] at h
    by_cases hk1 : k = 1
    · rw [if_pos hk1] at h
      subst hk1
      refine JH_of (h := 15) (i := 3) (pc1 := 16) (ls1 := [jR 0, jI v1, jR 795, jU]) rfl rfl (Nat.le_of_ble_eq_true rfl) rfl rfl ?_
      refine L_ps c192 (n := 1) (pc1 := 17) (ls1 := [jR 0, jI v1, jR 795, jU]) (st1 := [jI 2]) rfl ?_
      exact L_retI (c192 17 rfl) (hQ _ _ _ hM h)
    rw [if_neg hk1] at h
    exact h.elim
theorem k_PairList_innerRule {E : JE2} {v1 : Int} {μ : Mem} {M : JM} {Q : Int → Prop} (hM : Rl E M μ) (h : d_PairList_innerRule v1 μ Q) : JX 198 0 (jargs 198 [jR 139, jI v1]) [] M (PO E (pQI μ Q) XN) := by
  unfold d_PairList_innerRule at h
  show JX 198 0 [jR 139, jI v1] [] M (PO E (pQI μ Q) XN)
  generalize hP : PO E (pQI μ Q) XN = P
  have hQ : ∀ (r : Int) (M1 : JM), Rl E M1 μ → Q r → P (.inl (some (.inl r))) M1 := by rw [← hP]; exact fun r M1 a b => ⟨μ, a, rfl, r, rfl, b⟩
  clear hP
  refine L_ps c198 (n := 2) (pc1 := 2) (ls1 := [jR 139, jI v1]) (st1 := [jI v1, jR 139]) rfl ?_
  refine L_cpB (c198 2 rfl) (js_v rfl ((Rl_tag hM rt139 (by decide)).trans js185)) hh198 (k_PairList_has hM h) (fun r1 M hM h => ?_) (fun _ _ _ _ f => f.elim)
  refine L_nb (p1 := 17) (p2 := 8) (c198 5 rfl) rfl jc_eqb h (fun h => ?_) (fun h => ?_)
  · refine L_ps c198 (n := 1) (pc1 := 9) (ls1 := [jR 139, jI v1]) (st1 := [jR 139]) rfl ?_
    refine L_getP (d := 17) (c198 9 rfl) hM rt139 rfl ?_
    refine L_ps c198 (n := 1) (pc1 := 13) (ls1 := [jR 139, jI v1]) (st1 := [jI v1, jR 156]) rfl ?_
    obtain ⟨hb, h⟩ := h
    refine L_iald (c198 13 rfl) hM rt156 ln156 hb ?_
    refine L_ps c198 (n := 1) (pc1 := 18) (ls1 := [jR 139, jI v1]) (st1 := [jI (μ 156 v1.toNat)]) rfl ?_
    exact L_retI (c198 18 rfl) (hQ _ _ hM h)
  · refine L_ps c198 (n := 1) (pc1 := 18) (ls1 := [jR 139, jI v1]) (st1 := [jI (-1)]) rfl ?_
    exact L_retI (c198 18 rfl) (hQ _ _ hM h)
theorem k_OB_pairInnerRule {E : JE2} {v1 : Int} {μ : Mem} {M : JM} {Q : Int → Mem → Prop} {X : Nat → Mem → Prop} (hM : Rl E M μ) (h : d_OB_pairInnerRule v1 μ Q X) : JX 197 0 (jargs 197 [jR 0, jI v1]) [] M (PO E (QI Q) X) := by
  unfold d_OB_pairInnerRule at h
  show JX 197 0 [jR 0, jI v1] [] M (PO E (QI Q) X)
  generalize hP : PO E (QI Q) X = P
  have hQ : ∀ (r : Int) (M1 : JM) (μ1 : Mem), Rl E M1 μ1 → Q r μ1 → P (.inl (some (.inl r))) M1 := by rw [← hP]; exact fun r M1 μ1 a b => ⟨μ1, a, r, rfl, b⟩
  have hX : ∀ (k : Nat) (M1 : JM) (μ1 : Mem), Rl E M1 μ1 → X k μ1 → P (.inr k) M1 := by rw [← hP]; exact fun k M1 μ1 a b => ⟨μ1, a, b⟩
  clear hP
  refine L_ps c197 (n := 2) (pc1 := 2) (ls1 := [jR 0, jI v1]) (st1 := [jI v1, jR 0]) rfl ?_
  refine L_cV (c197 2 rfl) (js_v rfl ((Rl_tag hM rt0 (by decide)).trans js194)) hh197 (k_OB_requirePair hM h) (fun M μ2 hM h => ?_) (fun k M μx hM hx => hX _ _ _ hM hx)
  refine L_ps c197 (n := 1) (pc1 := 6) (ls1 := [jR 0, jI v1]) (st1 := [jR 0]) rfl ?_
  refine L_getP (d := 139) (c197 6 rfl) hM rt0 rfl ?_
  refine L_ps c197 (n := 1) (pc1 := 10) (ls1 := [jR 0, jI v1]) (st1 := [jI v1, jR 139]) rfl ?_
  refine L_cpI (c197 10 rfl) (js_v rfl ((Rl_tag hM rt139 (by decide)).trans js198)) hh197 (k_PairList_innerRule hM h) (fun r3 M hM h => ?_) (fun _ _ _ _ f => f.elim)
  exact L_retI (c197 13 rfl) (hQ _ _ _ hM h)
theorem k_Lw_pairInnerRule {E : JE2} {v1 : Int} {μ : Mem} {M : JM} {Q : Int → Mem → Prop} (hM : Rl E M μ) (h : d_Lw_pairInnerRule v1 μ Q) : JX 196 0 (jargs 196 [jR 0, jI v1, jR 795]) [] M (PO E (QI Q) XN) := by
  unfold d_Lw_pairInnerRule at h
  show JX 196 0 [jR 0, jI v1, jR 795, jU] [] M (PO E (QI Q) XN)
  generalize hP : PO E (QI Q) XN = P
  have hQ : ∀ (r : Int) (M1 : JM) (μ1 : Mem), Rl E M1 μ1 → Q r μ1 → P (.inl (some (.inl r))) M1 := by rw [← hP]; exact fun r M1 μ1 a b => ⟨μ1, a, r, rfl, b⟩
  clear hP
  refine L_ps c196 (n := 4) (pc1 := 4) (ls1 := [jR 0, jI v1, jR 795, jU]) (st1 := [jI v1, jR 0, jI 0, jR 795]) rfl ?_
  refine L_cIH (c196 4 rfl) (js_v rfl ((Rl_tag hM rt0 (by decide)).trans js197)) (k_OB_pairInnerRule hM h) (fun r1 M μ2 hM h => ?_) (fun k M μx hM h => ?_)
  · refine L_ps c196 (n := 1) (pc1 := 8) (ls1 := [jR 0, jI v1, jR 795, jU]) (st1 := [jX (.long ((Int32.ofInt r1).toInt64)), jI 0, jR 795]) rfl ?_
    refine L_last (c196 8 rfl) hM rt795 ln795 (by decide) (fun M hM => ?_)
    refine L_ps c196 (n := 2) (pc1 := 19) (ls1 := [jR 0, jI v1, jR 795, jU]) (st1 := [jI 0]) rfl ?_
    exact L_retI (c196 19 rfl) (hQ _ _ _ hM h)
  · by_cases hk0 : k = 0
    · rw [if_pos hk0] at h
      subst hk0
      refine JH_of (h := 12) (i := 3) (pc1 := 13) (ls1 := [jR 0, jI v1, jR 795, jU]) rfl rfl (Nat.le_of_ble_eq_true rfl) rfl rfl ?_
      refine L_ps c196 (n := 1) (pc1 := 14) (ls1 := [jR 0, jI v1, jR 795, jU]) (st1 := [jI 1]) rfl ?_
      exact L_retI (c196 14 rfl) (hQ _ _ _ hM h)
    rw [if_neg hk0] at h
    by_cases hk1 : k = 1
    · rw [if_pos hk1] at h
      subst hk1
      refine JH_of (h := 15) (i := 3) (pc1 := 16) (ls1 := [jR 0, jI v1, jR 795, jU]) rfl rfl (Nat.le_of_ble_eq_true rfl) rfl rfl ?_
      refine L_ps c196 (n := 1) (pc1 := 17) (ls1 := [jR 0, jI v1, jR 795, jU]) (st1 := [jI 2]) rfl ?_
      exact L_retI (c196 17 rfl) (hQ _ _ _ hM h)
    rw [if_neg hk1] at h
    exact h.elim
theorem k_PairList_position {E : JE2} {v1 : Int} {μ : Mem} {M : JM} {Q : Int → Prop} (hM : Rl E M μ) (h : d_PairList_position v1 μ Q) : JX 201 0 (jargs 201 [jR 139, jI v1]) [] M (PO E (pQI μ Q) XN) := by
  unfold d_PairList_position at h
  show JX 201 0 [jR 139, jI v1] [] M (PO E (pQI μ Q) XN)
  generalize hP : PO E (pQI μ Q) XN = P
  have hQ : ∀ (r : Int) (M1 : JM), Rl E M1 μ → Q r → P (.inl (some (.inl r))) M1 := by rw [← hP]; exact fun r M1 a b => ⟨μ, a, rfl, r, rfl, b⟩
  clear hP
  refine L_ps c201 (n := 2) (pc1 := 2) (ls1 := [jR 139, jI v1]) (st1 := [jI v1, jR 139]) rfl ?_
  refine L_cpB (c201 2 rfl) (js_v rfl ((Rl_tag hM rt139 (by decide)).trans js185)) hh201 (k_PairList_has hM h) (fun r1 M hM h => ?_) (fun _ _ _ _ f => f.elim)
  refine L_nb (p1 := 17) (p2 := 8) (c201 5 rfl) rfl jc_eqb h (fun h => ?_) (fun h => ?_)
  · refine L_ps c201 (n := 1) (pc1 := 9) (ls1 := [jR 139, jI v1]) (st1 := [jR 139]) rfl ?_
    refine L_getP (d := 18) (c201 9 rfl) hM rt139 rfl ?_
    refine L_ps c201 (n := 1) (pc1 := 13) (ls1 := [jR 139, jI v1]) (st1 := [jI v1, jR 157]) rfl ?_
    obtain ⟨hb, h⟩ := h
    refine L_iald (c201 13 rfl) hM rt157 ln157 hb ?_
    refine L_ps c201 (n := 1) (pc1 := 18) (ls1 := [jR 139, jI v1]) (st1 := [jI (μ 157 v1.toNat)]) rfl ?_
    exact L_retI (c201 18 rfl) (hQ _ _ hM h)
  · refine L_ps c201 (n := 1) (pc1 := 18) (ls1 := [jR 139, jI v1]) (st1 := [jI (-1)]) rfl ?_
    exact L_retI (c201 18 rfl) (hQ _ _ hM h)
theorem k_OB_pairPosition {E : JE2} {v1 : Int} {μ : Mem} {M : JM} {Q : Int → Mem → Prop} {X : Nat → Mem → Prop} (hM : Rl E M μ) (h : d_OB_pairPosition v1 μ Q X) : JX 200 0 (jargs 200 [jR 0, jI v1]) [] M (PO E (QI Q) X) := by
  unfold d_OB_pairPosition at h
  show JX 200 0 [jR 0, jI v1] [] M (PO E (QI Q) X)
  generalize hP : PO E (QI Q) X = P
  have hQ : ∀ (r : Int) (M1 : JM) (μ1 : Mem), Rl E M1 μ1 → Q r μ1 → P (.inl (some (.inl r))) M1 := by rw [← hP]; exact fun r M1 μ1 a b => ⟨μ1, a, r, rfl, b⟩
  have hX : ∀ (k : Nat) (M1 : JM) (μ1 : Mem), Rl E M1 μ1 → X k μ1 → P (.inr k) M1 := by rw [← hP]; exact fun k M1 μ1 a b => ⟨μ1, a, b⟩
  clear hP
  refine L_ps c200 (n := 2) (pc1 := 2) (ls1 := [jR 0, jI v1]) (st1 := [jI v1, jR 0]) rfl ?_
  refine L_cV (c200 2 rfl) (js_v rfl ((Rl_tag hM rt0 (by decide)).trans js194)) hh200 (k_OB_requirePair hM h) (fun M μ2 hM h => ?_) (fun k M μx hM hx => hX _ _ _ hM hx)
  refine L_ps c200 (n := 1) (pc1 := 6) (ls1 := [jR 0, jI v1]) (st1 := [jR 0]) rfl ?_
  refine L_getP (d := 139) (c200 6 rfl) hM rt0 rfl ?_
  refine L_ps c200 (n := 1) (pc1 := 10) (ls1 := [jR 0, jI v1]) (st1 := [jI v1, jR 139]) rfl ?_
  refine L_cpI (c200 10 rfl) (js_v rfl ((Rl_tag hM rt139 (by decide)).trans js201)) hh200 (k_PairList_position hM h) (fun r3 M hM h => ?_) (fun _ _ _ _ f => f.elim)
  exact L_retI (c200 13 rfl) (hQ _ _ _ hM h)
theorem k_Lw_pairPosition {E : JE2} {v1 : Int} {μ : Mem} {M : JM} {Q : Int → Mem → Prop} (hM : Rl E M μ) (h : d_Lw_pairPosition v1 μ Q) : JX 199 0 (jargs 199 [jR 0, jI v1, jR 795]) [] M (PO E (QI Q) XN) := by
  unfold d_Lw_pairPosition at h
  show JX 199 0 [jR 0, jI v1, jR 795, jU] [] M (PO E (QI Q) XN)
  generalize hP : PO E (QI Q) XN = P
  have hQ : ∀ (r : Int) (M1 : JM) (μ1 : Mem), Rl E M1 μ1 → Q r μ1 → P (.inl (some (.inl r))) M1 := by rw [← hP]; exact fun r M1 μ1 a b => ⟨μ1, a, r, rfl, b⟩
  clear hP
  refine L_ps c199 (n := 4) (pc1 := 4) (ls1 := [jR 0, jI v1, jR 795, jU]) (st1 := [jI v1, jR 0, jI 0, jR 795]) rfl ?_
  refine L_cIH (c199 4 rfl) (js_v rfl ((Rl_tag hM rt0 (by decide)).trans js200)) (k_OB_pairPosition hM h) (fun r1 M μ2 hM h => ?_) (fun k M μx hM h => ?_)
  · refine L_ps c199 (n := 1) (pc1 := 8) (ls1 := [jR 0, jI v1, jR 795, jU]) (st1 := [jX (.long ((Int32.ofInt r1).toInt64)), jI 0, jR 795]) rfl ?_
    refine L_last (c199 8 rfl) hM rt795 ln795 (by decide) (fun M hM => ?_)
    refine L_ps c199 (n := 2) (pc1 := 19) (ls1 := [jR 0, jI v1, jR 795, jU]) (st1 := [jI 0]) rfl ?_
    exact L_retI (c199 19 rfl) (hQ _ _ _ hM h)
  · by_cases hk0 : k = 0
    · rw [if_pos hk0] at h
      subst hk0
      refine JH_of (h := 12) (i := 3) (pc1 := 13) (ls1 := [jR 0, jI v1, jR 795, jU]) rfl rfl (Nat.le_of_ble_eq_true rfl) rfl rfl ?_
      refine L_ps c199 (n := 1) (pc1 := 14) (ls1 := [jR 0, jI v1, jR 795, jU]) (st1 := [jI 1]) rfl ?_
      exact L_retI (c199 14 rfl) (hQ _ _ _ hM h)
    rw [if_neg hk0] at h
    by_cases hk1 : k = 1
    · rw [if_pos hk1] at h
      subst hk1
      refine JH_of (h := 15) (i := 3) (pc1 := 16) (ls1 := [jR 0, jI v1, jR 795, jU]) rfl rfl (Nat.le_of_ble_eq_true rfl) rfl rfl ?_
      refine L_ps c199 (n := 1) (pc1 := 17) (ls1 := [jR 0, jI v1, jR 795, jU]) (st1 := [jI 2]) rfl ?_
      exact L_retI (c199 17 rfl) (hQ _ _ _ hM h)
    rw [if_neg hk1] at h
    exact h.elim
theorem k_PairList_joins_j55 {E : JE2} {v2 : Int} {μ : Mem} {M : JM} {P : JO → JM → Prop} {g1 : JV} {g3 : JV} {Q : Bool → Mem → Prop} (hM : Rl E M μ) (hQ : ∀ (r : Bool) (M1 : JM) (μ1 : Mem), Rl E M1 μ1 → Q r μ1 → P (.inl (some (.inl (b2i r)))) M1) (h : d_PairList_joins_j55 v2 μ Q) : JX 204 55 [jR 139, g1, jI v2, g3] [] M P := by
  unfold d_PairList_joins_j55 at h
  refine L_ps c204 (n := 1) (pc1 := 56) (ls1 := [jR 139, g1, jI v2, g3]) (st1 := [jR 139]) rfl ?_
  refine L_getP (d := 19) (c204 56 rfl) hM rt139 rfl ?_
  refine L_ps c204 (n := 1) (pc1 := 60) (ls1 := [jR 139, g1, jI v2, g3]) (st1 := [jI v2, jR 158]) rfl ?_
  obtain ⟨hb, h⟩ := h
  refine L_iald (c204 60 rfl) hM rt158 ln158 hb ?_
  refine L_ps c204 (n := 1) (pc1 := 62) (ls1 := [jR 139, g1, jI v2, g3]) (st1 := [jI 1, jI (μ 158 v2.toNat)]) rfl ?_
  refine L_nb (p1 := 69) (p2 := 65) (c204 62 rfl) rfl jc_ne h (fun h => ?_) (fun h => ?_)
  · refine L_ps c204 (n := 2) (pc1 := 70) (ls1 := [jR 139, g1, jI v2, g3]) (st1 := [jI 1]) rfl ?_
    exact L_retB (c204 70 rfl) (Or.inr rfl) (hQ true _ _ hM h)
  · refine L_ps c204 (n := 1) (pc1 := 70) (ls1 := [jR 139, g1, jI v2, g3]) (st1 := [jI 0]) rfl ?_
    exact L_retB (c204 70 rfl) (Or.inl rfl) (hQ false _ _ hM h)
theorem k_PairList_joins_j54 {E : JE2} {v2 : Int} {t1 : Int} {t2 : Int} {μ : Mem} {M : JM} {P : JO → JM → Prop} {g1 : JV} {g3 : JV} {Q : Bool → Mem → Prop} (hM : Rl E M μ) (hQ : ∀ (r : Bool) (M1 : JM) (μ1 : Mem), Rl E M1 μ1 → Q r μ1 → P (.inl (some (.inl (b2i r)))) M1) (h : d_PairList_joins_j54 v2 t1 t2 μ Q) : JX 204 54 [jR 139, g1, jI v2, g3] [jI t2, jI t1, jR 158] M P := by
  unfold d_PairList_joins_j54 at h
  obtain ⟨hb, h⟩ := h
  refine L_iast (c204 54 rfl) hM rt158 ln158 hb (fun M hM => ?_)
  exact k_PairList_joins_j55 hM hQ h
theorem k_PairList_joins {E : JE2} {v1 : Nat} {v2 : Int} {μ : Mem} {M : JM} {Q : Bool → Mem → Prop} (hv1 : rt v1 = 7) (hM : Rl E M μ) (h : d_PairList_joins v1 v2 μ Q) : JX 204 0 (jargs 204 [jR 139, jR v1, jI v2]) [] M (PO E (QB Q) XN) := by
  unfold d_PairList_joins at h
  show JX 204 0 [jR 139, jR v1, jI v2, jU] [] M (PO E (QB Q) XN)
  generalize hP : PO E (QB Q) XN = P
  have hQ : ∀ (r : Bool) (M1 : JM) (μ1 : Mem), Rl E M1 μ1 → Q r μ1 → P (.inl (some (.inl (b2i r)))) M1 := by rw [← hP]; exact fun r M1 μ1 a b => ⟨μ1, a, r, rfl, b⟩
  clear hP
  refine L_ps c204 (n := 2) (pc1 := 2) (ls1 := [jR 139, jR v1, jI v2, jU]) (st1 := [jI v2, jR 139]) rfl ?_
  refine L_cpB (c204 2 rfl) (js_v rfl ((Rl_tag hM rt139 (by decide)).trans js185)) hh204 (k_PairList_has hM h) (fun r1 M hM h => ?_) (fun _ _ _ _ f => f.elim)
  refine L_br (p1 := 10) (p2 := 8) (c204 5 rfl) rfl jc_neb h (fun h => ?_) (fun h => ?_)
  · refine L_ps c204 (n := 1) (pc1 := 11) (ls1 := [jR 139, jR v1, jI v2, jU]) (st1 := [jR 139]) rfl ?_
    refine L_getP (d := 19) (c204 11 rfl) hM rt139 rfl ?_
    refine L_ps c204 (n := 1) (pc1 := 15) (ls1 := [jR 139, jR v1, jI v2, jU]) (st1 := [jI v2, jR 158]) rfl ?_
    obtain ⟨hb, h⟩ := h
    refine L_iald (c204 15 rfl) hM rt158 ln158 hb ?_
    refine L_nb (p1 := 55) (p2 := 19) (c204 16 rfl) rfl jc_ne h (fun h => ?_) (fun h => ?_)
    · refine L_ps c204 (n := 1) (pc1 := 20) (ls1 := [jR 139, jR v1, jI v2, jU]) (st1 := [jR 139]) rfl ?_
      refine L_getP (d := 8) (c204 20 rfl) hM rt139 rfl ?_
      refine L_ps c204 (n := 3) (pc1 := 26) (ls1 := [jR 139, jR v1, jI v2, jU]) (st1 := [jI v2, jR 139, jR v1, jR 147]) rfl ?_
      refine L_cpR (c204 26 rfl) (js_v rfl ((Rl_tag hM rt139 (by decide)).trans js187)) hh204 (k_PairList_firstTerm hM h) (fun r3 M hM hr3 h => ?_) (fun _ _ _ _ f => f.elim)
      refine L_ps c204 (n := 2) (pc1 := 31) (ls1 := [jR 139, jR v1, jI v2, jU]) (st1 := [jI v2, jR 139, jR r3, jR v1, jR 147]) rfl ?_
      refine L_cpR (c204 31 rfl) (js_v rfl ((Rl_tag hM rt139 (by decide)).trans js188)) hh204 (k_PairList_secondTerm hM h) (fun r5 M hM hr5 h => ?_) (fun _ _ _ _ f => f.elim)
      refine L_ps c204 (n := 1) (pc1 := 36) (ls1 := [jR 139, jR v1, jI v2, jU]) (st1 := [jI 50, jR r5, jR r3, jR v1, jR 147]) rfl ?_
      refine L_cB (c204 36 rfl) (js_v rfl ((Rl_tag hM rt147 (by decide)).trans js158)) hh204 (k_Rewriter_meet rt147 hv1 hr3 hr5 hM h) (fun r7 M μ8 hM h => ?_) (fun _ _ _ _ f => f.elim)
      refine L_ps c204 (n := 2) (pc1 := 41) (ls1 := [jR 139, jR v1, jI v2, jI (b2i r7)]) (st1 := [jR 139]) rfl ?_
      refine L_getP (d := 19) (c204 41 rfl) hM rt139 rfl ?_
      refine L_ps c204 (n := 2) (pc1 := 46) (ls1 := [jR 139, jR v1, jI v2, jI (b2i r7)]) (st1 := [jI (b2i r7), jI v2, jR 158]) rfl ?_
      refine L_nb (p1 := 53) (p2 := 49) (c204 46 rfl) rfl jc_eqb h (fun h => ?_) (fun h => ?_)
      · refine L_ps c204 (n := 2) (pc1 := 54) (ls1 := [jR 139, jR v1, jI v2, jI (b2i r7)]) (st1 := [jI 1, jI v2, jR 158]) rfl ?_
        exact k_PairList_joins_j54 hM hQ h
      · refine L_ps c204 (n := 1) (pc1 := 54) (ls1 := [jR 139, jR v1, jI v2, jI (b2i r7)]) (st1 := [jI 2, jI v2, jR 158]) rfl ?_
        exact k_PairList_joins_j54 hM hQ h
    · exact k_PairList_joins_j55 hM hQ h
  · refine L_ps c204 (n := 1) (pc1 := 9) (ls1 := [jR 139, jR v1, jI v2, jU]) (st1 := [jI 0]) rfl ?_
    exact L_retB (c204 9 rfl) (Or.inl rfl) (hQ false _ _ hM h)
theorem k_OB_pairJoins {E : JE2} {v1 : Int} {μ : Mem} {M : JM} {Q : Bool → Mem → Prop} {X : Nat → Mem → Prop} (hM : Rl E M μ) (h : d_OB_pairJoins v1 μ Q X) : JX 203 0 (jargs 203 [jR 0, jI v1]) [] M (PO E (QB Q) X) := by
  unfold d_OB_pairJoins at h
  show JX 203 0 [jR 0, jI v1] [] M (PO E (QB Q) X)
  generalize hP : PO E (QB Q) X = P
  have hQ : ∀ (r : Bool) (M1 : JM) (μ1 : Mem), Rl E M1 μ1 → Q r μ1 → P (.inl (some (.inl (b2i r)))) M1 := by rw [← hP]; exact fun r M1 μ1 a b => ⟨μ1, a, r, rfl, b⟩
  have hX : ∀ (k : Nat) (M1 : JM) (μ1 : Mem), Rl E M1 μ1 → X k μ1 → P (.inr k) M1 := by rw [← hP]; exact fun k M1 μ1 a b => ⟨μ1, a, b⟩
  clear hP
  refine L_ps c203 (n := 2) (pc1 := 2) (ls1 := [jR 0, jI v1]) (st1 := [jI v1, jR 0]) rfl ?_
  refine L_cV (c203 2 rfl) (js_v rfl ((Rl_tag hM rt0 (by decide)).trans js194)) hh203 (k_OB_requirePair hM h) (fun M μ2 hM h => ?_) (fun k M μx hM hx => hX _ _ _ hM hx)
  refine L_ps c203 (n := 1) (pc1 := 6) (ls1 := [jR 0, jI v1]) (st1 := [jR 0]) rfl ?_
  refine L_getP (d := 139) (c203 6 rfl) hM rt0 rfl ?_
  refine L_ps c203 (n := 1) (pc1 := 10) (ls1 := [jR 0, jI v1]) (st1 := [jR 0, jR 139]) rfl ?_
  refine L_getP (d := 5) (c203 10 rfl) hM rt0 rfl ?_
  refine L_ps c203 (n := 1) (pc1 := 14) (ls1 := [jR 0, jI v1]) (st1 := [jI v1, jR 5, jR 139]) rfl ?_
  refine L_cB (c203 14 rfl) (js_v rfl ((Rl_tag hM rt139 (by decide)).trans js204)) hh203 (k_PairList_joins rt5 hM h) (fun r3 M μ4 hM h => ?_) (fun _ _ _ _ f => f.elim)
  exact L_retB (c203 17 rfl) (bz_b _) (hQ _ _ _ hM h)
theorem k_Lw_pairJoins_j15 {E : JE2} {t1 : Int} {t2 : Int64} {μ : Mem} {M : JM} {P : JO → JM → Prop} {g0 : JV} {g1 : JV} {g2 : JV} {g3 : JV} {Q : Int → Mem → Prop} (hM : Rl E M μ) (hQ : ∀ (r : Int) (M1 : JM) (μ1 : Mem), Rl E M1 μ1 → Q r μ1 → P (.inl (some (.inl r))) M1) (h : d_Lw_pairJoins_j15 t1 t2 μ Q) : JX 202 15 [g0, g1, g2, g3] [jX (.long t2), jI t1, jR 795] M P := by
  unfold d_Lw_pairJoins_j15 at h
  obtain ⟨hb, h⟩ := h
  refine L_last (c202 15 rfl) hM rt795 ln795 hb (fun M hM => ?_)
  refine L_ps c202 (n := 2) (pc1 := 26) (ls1 := [g0, g1, g2, g3]) (st1 := [jI 0]) rfl ?_
  exact L_retI (c202 26 rfl) (hQ _ _ _ hM h)
theorem k_Lw_pairJoins {E : JE2} {v1 : Int} {μ : Mem} {M : JM} {Q : Int → Mem → Prop} (hM : Rl E M μ) (h : d_Lw_pairJoins v1 μ Q) : JX 202 0 (jargs 202 [jR 0, jI v1, jR 795]) [] M (PO E (QI Q) XN) := by
  unfold d_Lw_pairJoins at h
  show JX 202 0 [jR 0, jI v1, jR 795, jU] [] M (PO E (QI Q) XN)
  generalize hP : PO E (QI Q) XN = P
  have hQ : ∀ (r : Int) (M1 : JM) (μ1 : Mem), Rl E M1 μ1 → Q r μ1 → P (.inl (some (.inl r))) M1 := by rw [← hP]; exact fun r M1 μ1 a b => ⟨μ1, a, r, rfl, b⟩
  clear hP
  refine L_ps c202 (n := 4) (pc1 := 4) (ls1 := [jR 0, jI v1, jR 795, jU]) (st1 := [jI v1, jR 0, jI 0, jR 795]) rfl ?_
  refine L_cBH (c202 4 rfl) (js_v rfl ((Rl_tag hM rt0 (by decide)).trans js203)) (k_OB_pairJoins hM h) (fun r1 M μ2 hM h => ?_) (fun k M μx hM h => ?_)
  · refine L_nb (p1 := 14) (p2 := 10) (c202 7 rfl) rfl jc_eqb h (fun h => ?_) (fun h => ?_)
    · refine L_ps c202 (n := 2) (pc1 := 15) (ls1 := [jR 0, jI v1, jR 795, jU]) (st1 := [jX (.long (Int64.ofNat 1)), jI 0, jR 795]) rfl ?_
      exact k_Lw_pairJoins_j15 hM hQ h
    · refine L_ps c202 (n := 1) (pc1 := 15) (ls1 := [jR 0, jI v1, jR 795, jU]) (st1 := [jX (.long (Int64.ofNat 0)), jI 0, jR 795]) rfl ?_
      exact k_Lw_pairJoins_j15 hM hQ h
  · by_cases hk0 : k = 0
    · rw [if_pos hk0] at h
      subst hk0
      refine JH_of (h := 19) (i := 3) (pc1 := 20) (ls1 := [jR 0, jI v1, jR 795, jU]) rfl rfl (Nat.le_of_ble_eq_true rfl) rfl rfl ?_
      refine L_ps c202 (n := 1) (pc1 := 21) (ls1 := [jR 0, jI v1, jR 795, jU]) (st1 := [jI 1]) rfl ?_
      exact L_retI (c202 21 rfl) (hQ _ _ _ hM h)
    rw [if_neg hk0] at h
    by_cases hk1 : k = 1
    · rw [if_pos hk1] at h
      subst hk1
      refine JH_of (h := 22) (i := 3) (pc1 := 23) (ls1 := [jR 0, jI v1, jR 795, jU]) rfl rfl (Nat.le_of_ble_eq_true rfl) rfl rfl ?_
      refine L_ps c202 (n := 1) (pc1 := 24) (ls1 := [jR 0, jI v1, jR 795, jU]) (st1 := [jI 2]) rfl ?_
      exact L_retI (c202 24 rfl) (hQ _ _ _ hM h)
    rw [if_neg hk1] at h
    exact h.elim
theorem k_OB_unjoinedPairs_j48 {E : JE2} {v1 : Int} {v2 : Int} {μ : Mem} {M : JM} {P : JO → JM → Prop} {W19 : Int → Int → Mem → Prop} {Q : Int → Mem → Prop} {X : Nat → Mem → Prop} (hM : Rl E M μ) (hQ : ∀ (r : Int) (M1 : JM) (μ1 : Mem), Rl E M1 μ1 → Q r μ1 → P (.inl (some (.inl r))) M1) (hX : ∀ (k : Nat) (M1 : JM) (μ1 : Mem), Rl E M1 μ1 → X k μ1 → P (.inr k) M1) (hW19 : ∀ (v1 : Int) (v2 : Int) (M1 : JM) (μ1 : Mem), Rl E M1 μ1 → W19 v1 v2 μ1 → JX 206 19 [jR 0, jI v1, jI v2] [] M1 P) (h : d_OB_unjoinedPairs_j48 v1 v2 μ W19 Q X) : JX 206 48 [jR 0, jI v1, jI v2] [] M P := by
  unfold d_OB_unjoinedPairs_j48 at h
  refine L_ps c206 (n := 2) (pc1 := 19) (ls1 := [jR 0, jI v1, jI (wr (v2 + 1))]) (st1 := []) rfl ?_
  exact hW19 _ _ _ _ hM h
theorem k_OB_unjoinedPairs_b19 {E : JE2} {v1 : Int} {v2 : Int} {μ : Mem} {M : JM} {P : JO → JM → Prop} {W19 : Int → Int → Mem → Prop} {Q : Int → Mem → Prop} {X : Nat → Mem → Prop} (hM : Rl E M μ) (hQ : ∀ (r : Int) (M1 : JM) (μ1 : Mem), Rl E M1 μ1 → Q r μ1 → P (.inl (some (.inl r))) M1) (hX : ∀ (k : Nat) (M1 : JM) (μ1 : Mem), Rl E M1 μ1 → X k μ1 → P (.inr k) M1) (hW19 : ∀ (v1 : Int) (v2 : Int) (M1 : JM) (μ1 : Mem), Rl E M1 μ1 → W19 v1 v2 μ1 → JX 206 19 [jR 0, jI v1, jI v2] [] M1 P) (h : d_OB_unjoinedPairs_b19 v1 v2 μ W19 Q X) : JX 206 19 [jR 0, jI v1, jI v2] [] M P := by
  unfold d_OB_unjoinedPairs_b19 at h
  refine L_ps c206 (n := 2) (pc1 := 21) (ls1 := [jR 0, jI v1, jI v2]) (st1 := [jR 0, jI v2]) rfl ?_
  refine L_getP (d := 139) (c206 21 rfl) hM rt0 rfl ?_
  refine L_getI (c206 24 rfl) hM rt139 rfl ?_
  refine L_nb (p1 := 54) (p2 := 30) (c206 27 rfl) rfl jc_ge h (fun h => ?_) (fun h => ?_)
  · refine L_ps c206 (n := 1) (pc1 := 31) (ls1 := [jR 0, jI v1, jI v2]) (st1 := [jR 0]) rfl ?_
    refine L_getP (d := 139) (c206 31 rfl) hM rt0 rfl ?_
    refine L_ps c206 (n := 1) (pc1 := 35) (ls1 := [jR 0, jI v1, jI v2]) (st1 := [jR 0, jR 139]) rfl ?_
    refine L_getP (d := 5) (c206 35 rfl) hM rt0 rfl ?_
    refine L_ps c206 (n := 1) (pc1 := 39) (ls1 := [jR 0, jI v1, jI v2]) (st1 := [jI v2, jR 5, jR 139]) rfl ?_
    refine L_cB (c206 39 rfl) (js_v rfl ((Rl_tag hM rt139 (by decide)).trans js204)) hh206 (k_PairList_joins rt5 hM h) (fun r5 M μ6 hM h => ?_) (fun _ _ _ _ f => f.elim)
    refine L_br (p1 := 48) (p2 := 45) (c206 42 rfl) rfl jc_neb h (fun h => ?_) (fun h => ?_)
    · exact k_OB_unjoinedPairs_j48 hM hQ hX hW19 h
    · refine L_ps c206 (n := 1) (pc1 := 48) (ls1 := [jR 0, jI (wr (v1 + 1)), jI v2]) (st1 := []) rfl ?_
      exact k_OB_unjoinedPairs_j48 hM hQ hX hW19 h
  · refine L_ps c206 (n := 1) (pc1 := 55) (ls1 := [jR 0, jI v1, jI v2]) (st1 := [jI v1]) rfl ?_
    exact L_retI (c206 55 rfl) (hQ _ _ _ hM h)
theorem k_OB_unjoinedPairs_l19 {E : JE2} {v1 : Int} {v2 : Int} {μ : Mem} {M : JM} {P : JO → JM → Prop} {Q : Int → Mem → Prop} {X : Nat → Mem → Prop} (hM : Rl E M μ) (hQ : ∀ (r : Int) (M1 : JM) (μ1 : Mem), Rl E M1 μ1 → Q r μ1 → P (.inl (some (.inl r))) M1) (hX : ∀ (k : Nat) (M1 : JM) (μ1 : Mem), Rl E M1 μ1 → X k μ1 → P (.inr k) M1) (h : d_OB_unjoinedPairs_l19 v1 v2 μ Q X) : JX 206 19 [jR 0, jI v1, jI v2] [] M P := by
  refine h (fun v1 v2 μ => ∀ (M : JM), Rl E M μ → JX 206 19 [jR 0, jI v1, jI v2] [] M P) ?_ _ hM
  intro v1 v2 μ h M hM
  exact k_OB_unjoinedPairs_b19 hM hQ hX (fun v1 v2 M μ hM h => h M hM) h
theorem k_OB_unjoinedPairs {E : JE2} {μ : Mem} {M : JM} {Q : Int → Mem → Prop} {X : Nat → Mem → Prop} (hM : Rl E M μ) (h : d_OB_unjoinedPairs μ Q X) : JX 206 0 (jargs 206 [jR 0]) [] M (PO E (QI Q) X) := by
  unfold d_OB_unjoinedPairs at h
  show JX 206 0 [jR 0, jU, jU] [] M (PO E (QI Q) X)
  generalize hP : PO E (QI Q) X = P
  have hQ : ∀ (r : Int) (M1 : JM) (μ1 : Mem), Rl E M1 μ1 → Q r μ1 → P (.inl (some (.inl r))) M1 := by rw [← hP]; exact fun r M1 μ1 a b => ⟨μ1, a, r, rfl, b⟩
  have hX : ∀ (k : Nat) (M1 : JM) (μ1 : Mem), Rl E M1 μ1 → X k μ1 → P (.inr k) M1 := by rw [← hP]; exact fun k M1 μ1 a b => ⟨μ1, a, b⟩
  clear hP
  refine L_ps c206 (n := 1) (pc1 := 1) (ls1 := [jR 0, jU, jU]) (st1 := [jR 0]) rfl ?_
  refine L_cV (c206 1 rfl) (js_v rfl ((Rl_tag hM rt0 (by decide)).trans js86)) hh206 (k_OB_requireSystem hM h) (fun M μ2 hM h => ?_) (fun k M μx hM hx => hX _ _ _ hM hx)
  refine L_ps c206 (n := 1) (pc1 := 5) (ls1 := [jR 0, jU, jU]) (st1 := [jR 0]) rfl ?_
  refine L_getP (d := 139) (c206 5 rfl) hM rt0 rfl ?_
  refine L_ps c206 (n := 1) (pc1 := 9) (ls1 := [jR 0, jU, jU]) (st1 := [jR 0, jR 139]) rfl ?_
  refine L_getP (d := 5) (c206 9 rfl) hM rt0 rfl ?_
  refine L_cV (c206 12 rfl) (js_v rfl ((Rl_tag hM rt139 (by decide)).trans js184)) hh206 (k_PairList_refresh rt5 hM h) (fun M μ4 hM h => ?_) (fun _ _ _ _ f => f.elim)
  refine L_ps c206 (n := 4) (pc1 := 19) (ls1 := [jR 0, jI 0, jI 0]) (st1 := []) rfl ?_
  exact k_OB_unjoinedPairs_l19 hM hQ hX h
theorem k_Lw_unjoinedPairs {E : JE2} {μ : Mem} {M : JM} {Q : Int → Mem → Prop} (hM : Rl E M μ) (h : d_Lw_unjoinedPairs μ Q) : JX 205 0 (jargs 205 [jR 0, jR 795]) [] M (PO E (QI Q) XN) := by
  unfold d_Lw_unjoinedPairs at h
  show JX 205 0 [jR 0, jR 795, jU] [] M (PO E (QI Q) XN)
  generalize hP : PO E (QI Q) XN = P
  have hQ : ∀ (r : Int) (M1 : JM) (μ1 : Mem), Rl E M1 μ1 → Q r μ1 → P (.inl (some (.inl r))) M1 := by rw [← hP]; exact fun r M1 μ1 a b => ⟨μ1, a, r, rfl, b⟩
  clear hP
  refine L_ps c205 (n := 3) (pc1 := 3) (ls1 := [jR 0, jR 795, jU]) (st1 := [jR 0, jI 0, jR 795]) rfl ?_
  refine L_cIH (c205 3 rfl) (js_v rfl ((Rl_tag hM rt0 (by decide)).trans js206)) (k_OB_unjoinedPairs hM h) (fun r1 M μ2 hM h => ?_) (fun k M μx hM h => ?_)
  · refine L_ps c205 (n := 1) (pc1 := 7) (ls1 := [jR 0, jR 795, jU]) (st1 := [jX (.long ((Int32.ofInt r1).toInt64)), jI 0, jR 795]) rfl ?_
    refine L_last (c205 7 rfl) hM rt795 ln795 (by decide) (fun M hM => ?_)
    refine L_ps c205 (n := 2) (pc1 := 15) (ls1 := [jR 0, jR 795, jU]) (st1 := [jI 0]) rfl ?_
    exact L_retI (c205 15 rfl) (hQ _ _ _ hM h)
  · by_cases hk0 : k = 0
    · rw [if_pos hk0] at h
      subst hk0
      refine JH_of (h := 11) (i := 2) (pc1 := 12) (ls1 := [jR 0, jR 795, jU]) rfl rfl (Nat.le_of_ble_eq_true rfl) rfl rfl ?_
      refine L_ps c205 (n := 1) (pc1 := 13) (ls1 := [jR 0, jR 795, jU]) (st1 := [jI 1]) rfl ?_
      exact L_retI (c205 13 rfl) (hQ _ _ _ hM h)
    rw [if_neg hk0] at h
    exact h.elim
theorem k_Output_addByte {E : JE2} {v1 : Int} {μ : Mem} {M : JM} {Q : Mem → Prop} (hM : Rl E M μ) (h : d_Output_addByte v1 μ Q) : JX 211 0 (jargs 211 [jR 244, jI v1]) [] M (PO E (QV Q) XN) := by
  unfold d_Output_addByte at h
  show JX 211 0 [jR 244, jI v1] [] M (PO E (QV Q) XN)
  generalize hP : PO E (QV Q) XN = P
  have hQ : ∀ (M1 : JM) (μ1 : Mem), Rl E M1 μ1 → Q μ1 → P (.inl none) M1 := by rw [← hP]; exact fun M1 μ1 a b => ⟨μ1, a, rfl, b⟩
  clear hP
  refine L_ps c211 (n := 1) (pc1 := 1) (ls1 := [jR 244, jI v1]) (st1 := [jR 244]) rfl ?_
  refine L_getI (c211 1 rfl) hM rt244 rfl ?_
  refine L_br (p1 := 39) (p2 := 7) (c211 4 rfl) rfl jc_lt h (fun h => ?_) (fun h => ?_)
  · exact L_end (c211 39 rfl) rfl (hQ _ _ hM h)
  · refine L_ps c211 (n := 1) (pc1 := 8) (ls1 := [jR 244, jI v1]) (st1 := [jR 244]) rfl ?_
    refine L_getI (c211 8 rfl) hM rt244 rfl ?_
    refine L_ps c211 (n := 1) (pc1 := 12) (ls1 := [jR 244, jI v1]) (st1 := [jR 244, jI (μ 244 0)]) rfl ?_
    refine L_getP (d := 1) (c211 12 rfl) hM rt244 rfl ?_
    refine L_alen (n := 1600) (z := 1600) (c211 15 rfl) hM rt245 (by decide) ln245 (by decide) rfl ?_
    refine L_nb (p1 := 39) (p2 := 19) (c211 16 rfl) rfl jc_ge h (fun h => ?_) (fun h => ?_)
    · refine L_ps c211 (n := 1) (pc1 := 20) (ls1 := [jR 244, jI v1]) (st1 := [jR 244]) rfl ?_
      refine L_getP (d := 1) (c211 20 rfl) hM rt244 rfl ?_
      refine L_ps c211 (n := 1) (pc1 := 24) (ls1 := [jR 244, jI v1]) (st1 := [jR 244, jR 245]) rfl ?_
      refine L_getI (c211 24 rfl) hM rt244 rfl ?_
      refine L_ps c211 (n := 1) (pc1 := 28) (ls1 := [jR 244, jI v1]) (st1 := [jI v1, jI (μ 244 0), jR 245]) rfl ?_
      obtain ⟨hb, h⟩ := h
      refine L_iast (c211 28 rfl) hM rt245 ln245 hb (fun M hM => ?_)
      refine L_ps c211 (n := 2) (pc1 := 31) (ls1 := [jR 244, jI v1]) (st1 := [jR 244, jR 244]) rfl ?_
      refine L_getI (c211 31 rfl) hM rt244 rfl ?_
      refine L_ps c211 (n := 2) (pc1 := 36) (ls1 := [jR 244, jI v1]) (st1 := [jI (wr (((mup μ 245 (μ 244 0).toNat v1) 244 0) + 1)), jR 244]) rfl ?_
      refine L_putI (c211 36 rfl) hM rt244 rfl (fun M hM => ?_)
      exact L_end (c211 39 rfl) rfl (hQ _ _ hM h)
    · exact L_end (c211 39 rfl) rfl (hQ _ _ hM h)
theorem k_Output_addName_b24 {E : JE2} {v2 : Nat} {v3 : Int} {v4 : Int} {μ : Mem} {M : JM} {P : JO → JM → Prop} {g1 : JV} {W24 : Int → Mem → Prop} {Q : Mem → Prop} (hv2 : rt v2 = 6) (hM : Rl E M μ) (hQ : ∀ (M1 : JM) (μ1 : Mem), Rl E M1 μ1 → Q μ1 → P (.inl none) M1) (hW24 : ∀ (v4 : Int) (g1 : JV) (M1 : JM) (μ1 : Mem), Rl E M1 μ1 → W24 v4 μ1 → JX 210 24 [jR 244, g1, jR v2, jI v3, jI v4] [] M1 P) (h : d_Output_addName_b24 v2 v3 v4 μ W24 Q) : JX 210 24 [jR 244, g1, jR v2, jI v3, jI v4] [] M P := by
  unfold d_Output_addName_b24 at h
  refine L_ps c210 (n := 3) (pc1 := 28) (ls1 := [jR 244, g1, jR v2, jI v3, jI v4]) (st1 := [jI v3, jR v2, jI v4]) rfl ?_
  refine L_cpI (c210 28 rfl) (js_v rfl ((Rl_tag hM hv2 (by decide)).trans js38)) hh210 (k_Signature_nameLength hv2 hM h) (fun r7 M hM h => ?_) (fun _ _ _ _ f => f.elim)
  refine L_nb (p1 := 51) (p2 := 34) (c210 31 rfl) rfl jc_ge h (fun h => ?_) (fun h => ?_)
  · refine L_ps c210 (n := 4) (pc1 := 39) (ls1 := [jR 244, g1, jR v2, jI v3, jI v4]) (st1 := [jI v4, jI v3, jR v2, jR 244]) rfl ?_
    refine L_cpI (c210 39 rfl) (js_v rfl ((Rl_tag hM hv2 (by decide)).trans js39)) hh210 (k_Signature_letter hv2 hM h) (fun r9 M hM h => ?_) (fun _ _ _ _ f => f.elim)
    refine L_cV (c210 42 rfl) (js_v rfl ((Rl_tag hM rt244 (by decide)).trans js211)) hh210 (k_Output_addByte hM h) (fun M μ12 hM h => ?_) (fun _ _ _ _ f => f.elim)
    refine L_ps c210 (n := 2) (pc1 := 24) (ls1 := [jR 244, g1, jR v2, jI v3, jI (wr (v4 + 1))]) (st1 := []) rfl ?_
    exact hW24 _ _ _ _ hM h
  · exact L_end (c210 51 rfl) rfl (hQ _ _ hM h)
theorem k_Output_addName_l24 {E : JE2} {v2 : Nat} {v3 : Int} {v4 : Int} {μ : Mem} {M : JM} {P : JO → JM → Prop} {g1 : JV} {Q : Mem → Prop} (hv2 : rt v2 = 6) (hM : Rl E M μ) (hQ : ∀ (M1 : JM) (μ1 : Mem), Rl E M1 μ1 → Q μ1 → P (.inl none) M1) (h : d_Output_addName_l24 v2 v3 v4 μ Q) : JX 210 24 [jR 244, g1, jR v2, jI v3, jI v4] [] M P := by
  refine h (fun v4 μ => ∀ (g1 : JV) (M : JM), Rl E M μ → JX 210 24 [jR 244, g1, jR v2, jI v3, jI v4] [] M P) ?_ _ _ hM
  intro v4 μ h g1 M hM
  exact k_Output_addName_b24 hv2 hM hQ (fun v4 g1 M μ hM h => h g1 M hM) h
theorem k_Output_addName {E : JE2} {v1 : Int} {v2 : Nat} {μ : Mem} {M : JM} {Q : Mem → Prop} (hv2 : rt v2 = 6) (hM : Rl E M μ) (h : d_Output_addName v1 v2 μ Q) : JX 210 0 (jargs 210 [jR 244, jI v1, jR v2]) [] M (PO E (QV Q) XN) := by
  unfold d_Output_addName at h
  show JX 210 0 [jR 244, jI v1, jR v2, jU, jU] [] M (PO E (QV Q) XN)
  generalize hP : PO E (QV Q) XN = P
  have hQ : ∀ (M1 : JM) (μ1 : Mem), Rl E M1 μ1 → Q μ1 → P (.inl none) M1 := by rw [← hP]; exact fun M1 μ1 a b => ⟨μ1, a, rfl, b⟩
  clear hP
  refine L_ps c210 (n := 1) (pc1 := 1) (ls1 := [jR 244, jI v1, jR v2, jU, jU]) (st1 := [jI v1]) rfl ?_
  refine L_nb (p1 := 16) (p2 := 4) (c210 1 rfl) rfl jc_ge h (fun h => ?_) (fun h => ?_)
  · refine L_ps c210 (n := 3) (pc1 := 8) (ls1 := [jR 244, jI v1, jR v2, jU, jU]) (st1 := [jI v1, jI 65, jR 244]) rfl ?_
    refine L_cpI (c210 8 rfl) (js_t rfl) hh210 (k_Term_variableOf hM h) (fun r1 M hM h => ?_) (fun _ _ _ _ f => f.elim)
    refine L_ps c210 (n := 1) (pc1 := 12) (ls1 := [jR 244, jI v1, jR v2, jU, jU]) (st1 := [jI (wr (65 + r1)), jR 244]) rfl ?_
    refine L_cV (c210 12 rfl) (js_v rfl ((Rl_tag hM rt244 (by decide)).trans js211)) hh210 (k_Output_addByte hM h) (fun M μ4 hM h => ?_) (fun _ _ _ _ f => f.elim)
    exact L_end (c210 15 rfl) rfl (hQ _ _ hM h)
  · refine L_ps c210 (n := 1) (pc1 := 17) (ls1 := [jR 244, jI v1, jR v2, jU, jU]) (st1 := [jI v1]) rfl ?_
    refine L_cpI (c210 17 rfl) (js_t rfl) hh210 (k_Term_symbolOf hM h) (fun r5 M hM h => ?_) (fun _ _ _ _ f => f.elim)
    refine L_ps c210 (n := 3) (pc1 := 24) (ls1 := [jR 244, jI v1, jR v2, jI r5, jI 0]) (st1 := []) rfl ?_
    exact k_Output_addName_l24 hv2 hM hQ h
theorem k_Output_closeBrackets_b4 {E : JE2} {v2 : Int} {μ : Mem} {M : JM} {P : JO → JM → Prop} {g1 : JV} {W4 : Int → Mem → Prop} {Q : Int → Mem → Prop} (hg1 : jc2 g1 = false) (hM : Rl E M μ) (hQ : ∀ (r : Int) (M1 : JM) (μ1 : Mem), Rl E M1 μ1 → Q r μ1 → P (.inl (some (.inl r))) M1) (hW4 : ∀ (v2 : Int) (g1 : JV) (M1 : JM) (μ1 : Mem), jc2 g1 = false → Rl E M1 μ1 → W4 v2 μ1 → JX 212 4 [jR 244, g1, jI v2] [] M1 P) (h : d_Output_closeBrackets_b4 v2 μ W4 Q) : JX 212 4 [jR 244, g1, jI v2] [] M P := by
  unfold d_Output_closeBrackets_b4 at h
  refine L_ps c212 (n := 1) (pc1 := 5) (ls1 := [jR 244, g1, jI v2]) (st1 := [jI v2]) rfl ?_
  refine L_br (p1 := 58) (p2 := 8) (c212 5 rfl) rfl jc_lt h (fun h => ?_) (fun h => ?_)
  · refine L_ps c212 (n := 1) (pc1 := 59) (ls1 := [jR 244, g1, jI v2]) (st1 := [jI 0]) rfl ?_
    exact L_retI (c212 59 rfl) (hQ _ _ _ hM h)
  · refine L_ps c212 (n := 2) (pc1 := 10) (ls1 := [jR 244, g1, jI v2]) (st1 := [jR 244, jI v2]) rfl ?_
    refine L_getP (d := 2) (c212 10 rfl) hM rt244 rfl ?_
    refine L_alen (n := 80) (z := 80) (c212 13 rfl) hM rt246 (by decide) ln246 (by decide) rfl ?_
    refine L_nb (p1 := 58) (p2 := 17) (c212 14 rfl) rfl jc_ge h (fun h => ?_) (fun h => ?_)
    · refine L_ps c212 (n := 1) (pc1 := 18) (ls1 := [jR 244, g1, jI v2]) (st1 := [jR 244]) rfl ?_
      refine L_getP (d := 2) (c212 18 rfl) hM rt244 rfl ?_
      refine L_ps c212 (n := 2) (pc1 := 23) (ls1 := [jR 244, g1, jI v2]) (st1 := [jI v2, jR 246, jI v2, jR 246]) rfl ?_
      obtain ⟨hb, h⟩ := h
      refine L_iald (c212 23 rfl) hM rt246 ln246 hb ?_
      refine L_ps c212 (n := 2) (pc1 := 26) (ls1 := [jR 244, g1, jI v2]) (st1 := [jI (wr ((μ 246 v2.toNat) - 1)), jI v2, jR 246]) rfl ?_
      obtain ⟨hb, h⟩ := h
      refine L_iast (c212 26 rfl) hM rt246 ln246 hb (fun M hM => ?_)
      refine L_ps c212 (n := 1) (pc1 := 28) (ls1 := [jR 244, g1, jI v2]) (st1 := [jR 244]) rfl ?_
      refine L_getP (d := 2) (c212 28 rfl) hM rt244 rfl ?_
      refine L_ps c212 (n := 1) (pc1 := 32) (ls1 := [jR 244, g1, jI v2]) (st1 := [jI v2, jR 246]) rfl ?_
      obtain ⟨hb, h⟩ := h
      refine L_iald (c212 32 rfl) hM rt246 ln246 hb ?_
      refine L_nb (p1 := 46) (p2 := 36) (c212 33 rfl) rfl jc_le h (fun h => ?_) (fun h => ?_)
      · refine L_ps c212 (n := 2) (pc1 := 39) (ls1 := [jR 244, g1, jI v2]) (st1 := [jI 44, jR 244]) rfl ?_
        refine L_cV (c212 39 rfl) (js_v rfl ((Rl_tag hM rt244 (by decide)).trans js211)) hh212 (k_Output_addByte hM h) (fun M μ2 hM h => ?_) (fun _ _ _ _ f => f.elim)
        refine L_ps c212 (n := 3) (pc1 := 45) (ls1 := [jR 244, g1, jI v2]) (st1 := [jI (wr (v2 + 1))]) rfl ?_
        exact L_retI (c212 45 rfl) (hQ _ _ _ hM h)
      · refine L_ps c212 (n := 2) (pc1 := 49) (ls1 := [jR 244, g1, jI v2]) (st1 := [jI 41, jR 244]) rfl ?_
        refine L_cV (c212 49 rfl) (js_v rfl ((Rl_tag hM rt244 (by decide)).trans js211)) hh212 (k_Output_addByte hM h) (fun M μ4 hM h => ?_) (fun _ _ _ _ f => f.elim)
        refine L_iinc (c212 52 rfl) (hg1) (Nat.le_of_ble_eq_true rfl) rfl ?_
        show JX 212 55 [jR 244, g1, jI (wr (v2 + (-1)))] [] M P
        refine L_ps c212 (n := 1) (pc1 := 4) (ls1 := [jR 244, g1, jI (wr (v2 + (-1)))]) (st1 := []) rfl ?_
        exact hW4 _ _ _ _ hg1 hM h
    · refine L_ps c212 (n := 1) (pc1 := 59) (ls1 := [jR 244, g1, jI v2]) (st1 := [jI 0]) rfl ?_
      exact L_retI (c212 59 rfl) (hQ _ _ _ hM h)
theorem k_Output_closeBrackets_l4 {E : JE2} {v2 : Int} {μ : Mem} {M : JM} {P : JO → JM → Prop} {g1 : JV} {Q : Int → Mem → Prop} (hg1 : jc2 g1 = false) (hM : Rl E M μ) (hQ : ∀ (r : Int) (M1 : JM) (μ1 : Mem), Rl E M1 μ1 → Q r μ1 → P (.inl (some (.inl r))) M1) (h : d_Output_closeBrackets_l4 v2 μ Q) : JX 212 4 [jR 244, g1, jI v2] [] M P := by
  refine h (fun v2 μ => ∀ (g1 : JV) (M : JM), jc2 g1 = false → Rl E M μ → JX 212 4 [jR 244, g1, jI v2] [] M P) ?_ _ _ hg1 hM
  intro v2 μ h g1 M hg1 hM
  exact k_Output_closeBrackets_b4 hg1 hM hQ (fun v2 g1 M μ hg1 hM h => h g1 M hg1 hM) h
theorem k_Output_closeBrackets {E : JE2} {v1 : Int} {μ : Mem} {M : JM} {Q : Int → Mem → Prop} (hM : Rl E M μ) (h : d_Output_closeBrackets v1 μ Q) : JX 212 0 (jargs 212 [jR 244, jI v1]) [] M (PO E (QI Q) XN) := by
  unfold d_Output_closeBrackets at h
  show JX 212 0 [jR 244, jI v1, jU] [] M (PO E (QI Q) XN)
  generalize hP : PO E (QI Q) XN = P
  have hQ : ∀ (r : Int) (M1 : JM) (μ1 : Mem), Rl E M1 μ1 → Q r μ1 → P (.inl (some (.inl r))) M1 := by rw [← hP]; exact fun r M1 μ1 a b => ⟨μ1, a, r, rfl, b⟩
  clear hP
  refine L_ps c212 (n := 4) (pc1 := 4) (ls1 := [jR 244, jI v1, jI (wr (v1 - 1))]) (st1 := []) rfl ?_
  exact k_Output_closeBrackets_l4 rfl hM hQ h
theorem k_Output_addTerm_j79 {E : JE2} {v1 : Nat} {v2 : Nat} {v3 : Int} {v4 : Int} {μ : Mem} {M : JM} {P : JO → JM → Prop} {g5 : JV} {W5 : Int → Int → Mem → Prop} {Q : Mem → Prop} (hv1 : rt v1 = 8) (hv2 : rt v2 = 6) (hM : Rl E M μ) (hQ : ∀ (M1 : JM) (μ1 : Mem), Rl E M1 μ1 → Q μ1 → P (.inl none) M1) (hW5 : ∀ (v3 : Int) (v4 : Int) (g5 : JV) (M1 : JM) (μ1 : Mem), Rl E M1 μ1 → W5 v3 v4 μ1 → JX 209 5 [jR 244, jR v1, jR v2, jI v3, jI v4, g5] [] M1 P) (h : d_Output_addTerm_j79 v1 v2 v3 v4 μ W5 Q) : JX 209 79 [jR 244, jR v1, jR v2, jI v3, jI v4, g5] [] M P := by
  unfold d_Output_addTerm_j79 at h
  refine L_ps c209 (n := 2) (pc1 := 5) (ls1 := [jR 244, jR v1, jR v2, jI v3, jI (wr (v4 + 1)), g5]) (st1 := []) rfl ?_
  exact hW5 _ _ _ _ _ hM h
theorem k_Output_addTerm_b5 {E : JE2} {v1 : Nat} {v2 : Nat} {v3 : Int} {v4 : Int} {μ : Mem} {M : JM} {P : JO → JM → Prop} {g5 : JV} {W5 : Int → Int → Mem → Prop} {Q : Mem → Prop} (hv1 : rt v1 = 8) (hv2 : rt v2 = 6) (hM : Rl E M μ) (hQ : ∀ (M1 : JM) (μ1 : Mem), Rl E M1 μ1 → Q μ1 → P (.inl none) M1) (hW5 : ∀ (v3 : Int) (v4 : Int) (g5 : JV) (M1 : JM) (μ1 : Mem), Rl E M1 μ1 → W5 v3 v4 μ1 → JX 209 5 [jR 244, jR v1, jR v2, jI v3, jI v4, g5] [] M1 P) (h : d_Output_addTerm_b5 v1 v2 v3 v4 μ W5 Q) : JX 209 5 [jR 244, jR v1, jR v2, jI v3, jI v4, g5] [] M P := by
  unfold d_Output_addTerm_b5 at h
  refine L_ps c209 (n := 2) (pc1 := 8) (ls1 := [jR 244, jR v1, jR v2, jI v3, jI v4, g5]) (st1 := [jR v1, jI v4]) rfl ?_
  refine L_getI (c209 8 rfl) hM hv1 rfl ?_
  refine L_nb (p1 := 85) (p2 := 14) (c209 11 rfl) rfl jc_ge h (fun h => ?_) (fun h => ?_)
  · refine L_ps c209 (n := 2) (pc1 := 17) (ls1 := [jR 244, jR v1, jR v2, jI v3, jI v4, g5]) (st1 := [jI v4, jR v1]) rfl ?_
    refine L_cpI (c209 17 rfl) (js_v rfl ((Rl_tag hM hv1 (by decide)).trans js53)) hh209 (k_Term_get hv1 hM h) (fun r1 M hM h => ?_) (fun _ _ _ _ f => f.elim)
    refine L_ps c209 (n := 4) (pc1 := 26) (ls1 := [jR 244, jR v1, jR v2, jI v3, jI v4, jI r1]) (st1 := [jR v2, jI r1, jR 244]) rfl ?_
    refine L_cV (c209 26 rfl) (js_v rfl ((Rl_tag hM rt244 (by decide)).trans js210)) hh209 (k_Output_addName hv2 hM h) (fun M μ4 hM h => ?_) (fun _ _ _ _ f => f.elim)
    refine L_ps c209 (n := 1) (pc1 := 31) (ls1 := [jR 244, jR v1, jR v2, jI v3, jI v4, jI r1]) (st1 := [jI r1]) rfl ?_
    refine L_cpI (c209 31 rfl) (js_t rfl) hh209 (k_Term_arityOf hM h) (fun r5 M hM h => ?_) (fun _ _ _ _ f => f.elim)
    refine L_nb (p1 := 46) (p2 := 37) (c209 34 rfl) rfl jc_ne h (fun h => ?_) (fun h => ?_)
    · refine L_ps c209 (n := 2) (pc1 := 39) (ls1 := [jR 244, jR v1, jR v2, jI v3, jI v4, jI r1]) (st1 := [jI v3, jR 244]) rfl ?_
      refine L_cI (c209 39 rfl) (js_v rfl ((Rl_tag hM rt244 (by decide)).trans js212)) hh209 (k_Output_closeBrackets hM h) (fun r7 M μ8 hM h => ?_) (fun _ _ _ _ f => f.elim)
      refine L_ps c209 (n := 2) (pc1 := 79) (ls1 := [jR 244, jR v1, jR v2, jI r7, jI v4, jI r1]) (st1 := []) rfl ?_
      exact k_Output_addTerm_j79 hv1 hv2 hM hQ hW5 h
    · refine L_ps c209 (n := 1) (pc1 := 47) (ls1 := [jR 244, jR v1, jR v2, jI v3, jI v4, jI r1]) (st1 := [jI v3]) rfl ?_
      refine L_br (p1 := 79) (p2 := 50) (c209 47 rfl) rfl jc_lt h (fun h => ?_) (fun h => ?_)
      · exact k_Output_addTerm_j79 hv1 hv2 hM hQ hW5 h
      · refine L_ps c209 (n := 2) (pc1 := 52) (ls1 := [jR 244, jR v1, jR v2, jI v3, jI v4, jI r1]) (st1 := [jR 244, jI v3]) rfl ?_
        refine L_getP (d := 2) (c209 52 rfl) hM rt244 rfl ?_
        refine L_alen (n := 80) (z := 80) (c209 55 rfl) hM rt246 (by decide) ln246 (by decide) rfl ?_
        refine L_nb (p1 := 79) (p2 := 59) (c209 56 rfl) rfl jc_ge h (fun h => ?_) (fun h => ?_)
        · refine L_ps c209 (n := 2) (pc1 := 62) (ls1 := [jR 244, jR v1, jR v2, jI v3, jI v4, jI r1]) (st1 := [jI 40, jR 244]) rfl ?_
          refine L_cV (c209 62 rfl) (js_v rfl ((Rl_tag hM rt244 (by decide)).trans js211)) hh209 (k_Output_addByte hM h) (fun M μ10 hM h => ?_) (fun _ _ _ _ f => f.elim)
          refine L_ps c209 (n := 1) (pc1 := 66) (ls1 := [jR 244, jR v1, jR v2, jI v3, jI v4, jI r1]) (st1 := [jR 244]) rfl ?_
          refine L_getP (d := 2) (c209 66 rfl) hM rt244 rfl ?_
          refine L_ps c209 (n := 2) (pc1 := 72) (ls1 := [jR 244, jR v1, jR v2, jI v3, jI v4, jI r1]) (st1 := [jI r1, jI v3, jR 246]) rfl ?_
          refine L_cpI (c209 72 rfl) (js_t rfl) hh209 (k_Term_arityOf hM h) (fun r11 M hM h => ?_) (fun _ _ _ _ f => f.elim)
          obtain ⟨hb, h⟩ := h
          refine L_iast (c209 75 rfl) hM rt246 ln246 hb (fun M hM => ?_)
          refine L_ps c209 (n := 1) (pc1 := 79) (ls1 := [jR 244, jR v1, jR v2, jI (wr (v3 + 1)), jI v4, jI r1]) (st1 := []) rfl ?_
          exact k_Output_addTerm_j79 hv1 hv2 hM hQ hW5 h
        · exact k_Output_addTerm_j79 hv1 hv2 hM hQ hW5 h
  · exact L_end (c209 85 rfl) rfl (hQ _ _ hM h)
theorem k_Output_addTerm_l5 {E : JE2} {v1 : Nat} {v2 : Nat} {v3 : Int} {v4 : Int} {μ : Mem} {M : JM} {P : JO → JM → Prop} {g5 : JV} {Q : Mem → Prop} (hv1 : rt v1 = 8) (hv2 : rt v2 = 6) (hM : Rl E M μ) (hQ : ∀ (M1 : JM) (μ1 : Mem), Rl E M1 μ1 → Q μ1 → P (.inl none) M1) (h : d_Output_addTerm_l5 v1 v2 v3 v4 μ Q) : JX 209 5 [jR 244, jR v1, jR v2, jI v3, jI v4, g5] [] M P := by
  refine h (fun v3 v4 μ => ∀ (g5 : JV) (M : JM), Rl E M μ → JX 209 5 [jR 244, jR v1, jR v2, jI v3, jI v4, g5] [] M P) ?_ _ _ hM
  intro v3 v4 μ h g5 M hM
  exact k_Output_addTerm_b5 hv1 hv2 hM hQ (fun v3 v4 g5 M μ hM h => h g5 M hM) h
theorem k_Output_addTerm {E : JE2} {v1 : Nat} {v2 : Nat} {μ : Mem} {M : JM} {Q : Mem → Prop} (hv1 : rt v1 = 8) (hv2 : rt v2 = 6) (hM : Rl E M μ) (h : d_Output_addTerm v1 v2 μ Q) : JX 209 0 (jargs 209 [jR 244, jR v1, jR v2]) [] M (PO E (QV Q) XN) := by
  unfold d_Output_addTerm at h
  show JX 209 0 [jR 244, jR v1, jR v2, jU, jU, jU] [] M (PO E (QV Q) XN)
  generalize hP : PO E (QV Q) XN = P
  have hQ : ∀ (M1 : JM) (μ1 : Mem), Rl E M1 μ1 → Q μ1 → P (.inl none) M1 := by rw [← hP]; exact fun M1 μ1 a b => ⟨μ1, a, rfl, b⟩
  clear hP
  refine L_ps c209 (n := 4) (pc1 := 5) (ls1 := [jR 244, jR v1, jR v2, jI 0, jI 0, jU]) (st1 := []) rfl ?_
  exact k_Output_addTerm_l5 hv1 hv2 hM hQ h
theorem k_OB_writeTerm {E : JE2} {v1 : Int} {μ : Mem} {M : JM} {Q : Int → Mem → Prop} {X : Nat → Mem → Prop} (hM : Rl E M μ) (h : d_OB_writeTerm v1 μ Q X) : JX 208 0 (jargs 208 [jR 0, jI v1]) [] M (PO E (QI Q) X) := by
  unfold d_OB_writeTerm at h
  show JX 208 0 [jR 0, jI v1, jU] [] M (PO E (QI Q) X)
  generalize hP : PO E (QI Q) X = P
  have hQ : ∀ (r : Int) (M1 : JM) (μ1 : Mem), Rl E M1 μ1 → Q r μ1 → P (.inl (some (.inl r))) M1 := by rw [← hP]; exact fun r M1 μ1 a b => ⟨μ1, a, r, rfl, b⟩
  have hX : ∀ (k : Nat) (M1 : JM) (μ1 : Mem), Rl E M1 μ1 → X k μ1 → P (.inr k) M1 := by rw [← hP]; exact fun k M1 μ1 a b => ⟨μ1, a, b⟩
  clear hP
  refine L_ps c208 (n := 2) (pc1 := 2) (ls1 := [jR 0, jI v1, jU]) (st1 := [jI v1, jR 0]) rfl ?_
  refine L_cR (c208 2 rfl) (js_v rfl ((Rl_tag hM rt0 (by decide)).trans js114)) hh208 (k_OB_requireTerm hM h) (fun r1 M μ2 hM hr1 h => ?_) (fun k M μx hM hx => hX _ _ _ hM hx)
  refine L_ps c208 (n := 2) (pc1 := 7) (ls1 := [jR 0, jI v1, jR r1]) (st1 := [jR 0]) rfl ?_
  refine L_getP (d := 244) (c208 7 rfl) hM rt0 rfl ?_
  refine L_ps c208 (n := 1) (pc1 := 11) (ls1 := [jR 0, jI v1, jR r1]) (st1 := [jI 0, jR 244]) rfl ?_
  refine L_putI (c208 11 rfl) hM rt244 rfl (fun M hM => ?_)
  refine L_ps c208 (n := 1) (pc1 := 15) (ls1 := [jR 0, jI v1, jR r1]) (st1 := [jR 0]) rfl ?_
  refine L_getP (d := 244) (c208 15 rfl) hM rt0 rfl ?_
  refine L_ps c208 (n := 2) (pc1 := 20) (ls1 := [jR 0, jI v1, jR r1]) (st1 := [jR 0, jR r1, jR 244]) rfl ?_
  refine L_getP (d := 1) (c208 20 rfl) hM rt0 rfl ?_
  refine L_cV (c208 23 rfl) (js_v rfl ((Rl_tag hM rt244 (by decide)).trans js209)) hh208 (k_Output_addTerm hr1 rt1 hM h) (fun M μ4 hM h => ?_) (fun _ _ _ _ f => f.elim)
  refine L_ps c208 (n := 1) (pc1 := 27) (ls1 := [jR 0, jI v1, jR r1]) (st1 := [jR 0]) rfl ?_
  refine L_getP (d := 244) (c208 27 rfl) hM rt0 rfl ?_
  refine L_getI (c208 30 rfl) hM rt244 rfl ?_
  exact L_retI (c208 33 rfl) (hQ _ _ _ hM h)
theorem k_Lw_writeTerm {E : JE2} {v1 : Int} {μ : Mem} {M : JM} {Q : Int → Mem → Prop} (hM : Rl E M μ) (h : d_Lw_writeTerm v1 μ Q) : JX 207 0 (jargs 207 [jR 0, jI v1, jR 795]) [] M (PO E (QI Q) XN) := by
  unfold d_Lw_writeTerm at h
  show JX 207 0 [jR 0, jI v1, jR 795, jU] [] M (PO E (QI Q) XN)
  generalize hP : PO E (QI Q) XN = P
  have hQ : ∀ (r : Int) (M1 : JM) (μ1 : Mem), Rl E M1 μ1 → Q r μ1 → P (.inl (some (.inl r))) M1 := by rw [← hP]; exact fun r M1 μ1 a b => ⟨μ1, a, r, rfl, b⟩
  clear hP
  refine L_ps c207 (n := 4) (pc1 := 4) (ls1 := [jR 0, jI v1, jR 795, jU]) (st1 := [jI v1, jR 0, jI 0, jR 795]) rfl ?_
  refine L_cIH (c207 4 rfl) (js_v rfl ((Rl_tag hM rt0 (by decide)).trans js208)) (k_OB_writeTerm hM h) (fun r1 M μ2 hM h => ?_) (fun k M μx hM h => ?_)
  · refine L_ps c207 (n := 1) (pc1 := 8) (ls1 := [jR 0, jI v1, jR 795, jU]) (st1 := [jX (.long ((Int32.ofInt r1).toInt64)), jI 0, jR 795]) rfl ?_
    refine L_last (c207 8 rfl) hM rt795 ln795 (by decide) (fun M hM => ?_)
    refine L_ps c207 (n := 2) (pc1 := 19) (ls1 := [jR 0, jI v1, jR 795, jU]) (st1 := [jI 0]) rfl ?_
    exact L_retI (c207 19 rfl) (hQ _ _ _ hM h)
  · by_cases hk0 : k = 0
    · rw [if_pos hk0] at h
      subst hk0
      refine JH_of (h := 12) (i := 3) (pc1 := 13) (ls1 := [jR 0, jI v1, jR 795, jU]) rfl rfl (Nat.le_of_ble_eq_true rfl) rfl rfl ?_
      refine L_ps c207 (n := 1) (pc1 := 14) (ls1 := [jR 0, jI v1, jR 795, jU]) (st1 := [jI 1]) rfl ?_
      exact L_retI (c207 14 rfl) (hQ _ _ _ hM h)
    rw [if_neg hk0] at h
    by_cases hk1 : k = 1
    · rw [if_pos hk1] at h
      subst hk1
      refine JH_of (h := 15) (i := 3) (pc1 := 16) (ls1 := [jR 0, jI v1, jR 795, jU]) rfl rfl (Nat.le_of_ble_eq_true rfl) rfl rfl ?_
      refine L_ps c207 (n := 1) (pc1 := 17) (ls1 := [jR 0, jI v1, jR 795, jU]) (st1 := [jI 2]) rfl ?_
      exact L_retI (c207 17 rfl) (hQ _ _ _ hM h)
    rw [if_neg hk1] at h
    exact h.elim
theorem k_OB_writeRule {E : JE2} {v1 : Int} {μ : Mem} {M : JM} {Q : Int → Mem → Prop} {X : Nat → Mem → Prop} (hM : Rl E M μ) (h : d_OB_writeRule v1 μ Q X) : JX 214 0 (jargs 214 [jR 0, jI v1]) [] M (PO E (QI Q) X) := by
  unfold d_OB_writeRule at h
  show JX 214 0 [jR 0, jI v1, jU] [] M (PO E (QI Q) X)
  generalize hP : PO E (QI Q) X = P
  have hQ : ∀ (r : Int) (M1 : JM) (μ1 : Mem), Rl E M1 μ1 → Q r μ1 → P (.inl (some (.inl r))) M1 := by rw [← hP]; exact fun r M1 μ1 a b => ⟨μ1, a, r, rfl, b⟩
  have hX : ∀ (k : Nat) (M1 : JM) (μ1 : Mem), Rl E M1 μ1 → X k μ1 → P (.inr k) M1 := by rw [← hP]; exact fun k M1 μ1 a b => ⟨μ1, a, b⟩
  clear hP
  refine L_ps c214 (n := 2) (pc1 := 2) (ls1 := [jR 0, jI v1, jU]) (st1 := [jI v1, jR 0]) rfl ?_
  refine L_cR (c214 2 rfl) (js_v rfl ((Rl_tag hM rt0 (by decide)).trans js98)) hh214 (k_OB_requireRule hM h) (fun r1 M μ2 hM hr1 h => ?_) (fun k M μx hM hx => hX _ _ _ hM hx)
  refine L_ps c214 (n := 2) (pc1 := 7) (ls1 := [jR 0, jI v1, jR r1]) (st1 := [jR 0]) rfl ?_
  refine L_getP (d := 244) (c214 7 rfl) hM rt0 rfl ?_
  refine L_ps c214 (n := 1) (pc1 := 11) (ls1 := [jR 0, jI v1, jR r1]) (st1 := [jI 0, jR 244]) rfl ?_
  refine L_putI (c214 11 rfl) hM rt244 rfl (fun M hM => ?_)
  refine L_ps c214 (n := 1) (pc1 := 15) (ls1 := [jR 0, jI v1, jR r1]) (st1 := [jR 0]) rfl ?_
  refine L_getP (d := 244) (c214 15 rfl) hM rt0 rfl ?_
  refine L_ps c214 (n := 1) (pc1 := 19) (ls1 := [jR 0, jI v1, jR r1]) (st1 := [jR r1, jR 244]) rfl ?_
  refine L_getD (c214 19 rfl) hM hr1 (by decide) ?_
  refine L_ps c214 (n := 1) (pc1 := 23) (ls1 := [jR 0, jI v1, jR r1]) (st1 := [jR 0, jR (dp ((mup μ2 244 0 0) r1 0)), jR 244]) rfl ?_
  refine L_getP (d := 1) (c214 23 rfl) hM rt0 rfl ?_
  refine L_cV (c214 26 rfl) (js_v rfl ((Rl_tag hM rt244 (by decide)).trans js209)) hh214 (k_Output_addTerm (dp_rt _) rt1 hM h) (fun M μ4 hM h => ?_) (fun _ _ _ _ f => f.elim)
  refine L_ps c214 (n := 1) (pc1 := 30) (ls1 := [jR 0, jI v1, jR r1]) (st1 := [jR 0]) rfl ?_
  refine L_getP (d := 244) (c214 30 rfl) hM rt0 rfl ?_
  refine L_ps c214 (n := 1) (pc1 := 35) (ls1 := [jR 0, jI v1, jR r1]) (st1 := [jI 61, jR 244]) rfl ?_
  refine L_cV (c214 35 rfl) (js_v rfl ((Rl_tag hM rt244 (by decide)).trans js211)) hh214 (k_Output_addByte hM h) (fun M μ6 hM h => ?_) (fun _ _ _ _ f => f.elim)
  refine L_ps c214 (n := 1) (pc1 := 39) (ls1 := [jR 0, jI v1, jR r1]) (st1 := [jR 0]) rfl ?_
  refine L_getP (d := 244) (c214 39 rfl) hM rt0 rfl ?_
  refine L_ps c214 (n := 1) (pc1 := 43) (ls1 := [jR 0, jI v1, jR r1]) (st1 := [jR r1, jR 244]) rfl ?_
  refine L_getD (c214 43 rfl) hM hr1 (by decide) ?_
  refine L_ps c214 (n := 1) (pc1 := 47) (ls1 := [jR 0, jI v1, jR r1]) (st1 := [jR 0, jR (dp (μ6 r1 1)), jR 244]) rfl ?_
  refine L_getP (d := 1) (c214 47 rfl) hM rt0 rfl ?_
  refine L_cV (c214 50 rfl) (js_v rfl ((Rl_tag hM rt244 (by decide)).trans js209)) hh214 (k_Output_addTerm (dp_rt _) rt1 hM h) (fun M μ8 hM h => ?_) (fun _ _ _ _ f => f.elim)
  refine L_ps c214 (n := 1) (pc1 := 54) (ls1 := [jR 0, jI v1, jR r1]) (st1 := [jR 0]) rfl ?_
  refine L_getP (d := 244) (c214 54 rfl) hM rt0 rfl ?_
  refine L_getI (c214 57 rfl) hM rt244 rfl ?_
  exact L_retI (c214 60 rfl) (hQ _ _ _ hM h)
theorem k_Lw_writeRule {E : JE2} {v1 : Int} {μ : Mem} {M : JM} {Q : Int → Mem → Prop} (hM : Rl E M μ) (h : d_Lw_writeRule v1 μ Q) : JX 213 0 (jargs 213 [jR 0, jI v1, jR 795]) [] M (PO E (QI Q) XN) := by
  unfold d_Lw_writeRule at h
  show JX 213 0 [jR 0, jI v1, jR 795, jU] [] M (PO E (QI Q) XN)
  generalize hP : PO E (QI Q) XN = P
  have hQ : ∀ (r : Int) (M1 : JM) (μ1 : Mem), Rl E M1 μ1 → Q r μ1 → P (.inl (some (.inl r))) M1 := by rw [← hP]; exact fun r M1 μ1 a b => ⟨μ1, a, r, rfl, b⟩
  clear hP
  refine L_ps c213 (n := 4) (pc1 := 4) (ls1 := [jR 0, jI v1, jR 795, jU]) (st1 := [jI v1, jR 0, jI 0, jR 795]) rfl ?_
  refine L_cIH (c213 4 rfl) (js_v rfl ((Rl_tag hM rt0 (by decide)).trans js214)) (k_OB_writeRule hM h) (fun r1 M μ2 hM h => ?_) (fun k M μx hM h => ?_)
  · refine L_ps c213 (n := 1) (pc1 := 8) (ls1 := [jR 0, jI v1, jR 795, jU]) (st1 := [jX (.long ((Int32.ofInt r1).toInt64)), jI 0, jR 795]) rfl ?_
    refine L_last (c213 8 rfl) hM rt795 ln795 (by decide) (fun M hM => ?_)
    refine L_ps c213 (n := 2) (pc1 := 19) (ls1 := [jR 0, jI v1, jR 795, jU]) (st1 := [jI 0]) rfl ?_
    exact L_retI (c213 19 rfl) (hQ _ _ _ hM h)
  · by_cases hk0 : k = 0
    · rw [if_pos hk0] at h
      subst hk0
      refine JH_of (h := 12) (i := 3) (pc1 := 13) (ls1 := [jR 0, jI v1, jR 795, jU]) rfl rfl (Nat.le_of_ble_eq_true rfl) rfl rfl ?_
      refine L_ps c213 (n := 1) (pc1 := 14) (ls1 := [jR 0, jI v1, jR 795, jU]) (st1 := [jI 1]) rfl ?_
      exact L_retI (c213 14 rfl) (hQ _ _ _ hM h)
    rw [if_neg hk0] at h
    by_cases hk1 : k = 1
    · rw [if_pos hk1] at h
      subst hk1
      refine JH_of (h := 15) (i := 3) (pc1 := 16) (ls1 := [jR 0, jI v1, jR 795, jU]) rfl rfl (Nat.le_of_ble_eq_true rfl) rfl rfl ?_
      refine L_ps c213 (n := 1) (pc1 := 17) (ls1 := [jR 0, jI v1, jR 795, jU]) (st1 := [jI 2]) rfl ?_
      exact L_retI (c213 17 rfl) (hQ _ _ _ hM h)
    rw [if_neg hk1] at h
    exact h.elim
theorem k_OB_writeNormalForm {E : JE2} {v1 : Int} {μ : Mem} {M : JM} {Q : Int → Mem → Prop} {X : Nat → Mem → Prop} (hM : Rl E M μ) (h : d_OB_writeNormalForm v1 μ Q X) : JX 216 0 (jargs 216 [jR 0, jI v1]) [] M (PO E (QI Q) X) := by
  unfold d_OB_writeNormalForm at h
  show JX 216 0 [jR 0, jI v1, jU] [] M (PO E (QI Q) X)
  generalize hP : PO E (QI Q) X = P
  have hQ : ∀ (r : Int) (M1 : JM) (μ1 : Mem), Rl E M1 μ1 → Q r μ1 → P (.inl (some (.inl r))) M1 := by rw [← hP]; exact fun r M1 μ1 a b => ⟨μ1, a, r, rfl, b⟩
  have hX : ∀ (k : Nat) (M1 : JM) (μ1 : Mem), Rl E M1 μ1 → X k μ1 → P (.inr k) M1 := by rw [← hP]; exact fun k M1 μ1 a b => ⟨μ1, a, b⟩
  clear hP
  refine L_ps c216 (n := 1) (pc1 := 1) (ls1 := [jR 0, jI v1, jU]) (st1 := [jR 0]) rfl ?_
  refine L_getP (d := 57) (c216 1 rfl) hM rt0 rfl ?_
  refine L_ps c216 (n := 1) (pc1 := 5) (ls1 := [jR 0, jI v1, jU]) (st1 := [jR 0, jR 57]) rfl ?_
  refine L_getP (d := 5) (c216 5 rfl) hM rt0 rfl ?_
  refine L_ps c216 (n := 2) (pc1 := 10) (ls1 := [jR 0, jI v1, jU]) (st1 := [jI v1, jR 0, jR 5, jR 57]) rfl ?_
  refine L_cR (c216 10 rfl) (js_v rfl ((Rl_tag hM rt0 (by decide)).trans js114)) hh216 (k_OB_requireTerm hM h) (fun r1 M μ2 hM hr1 h => ?_) (fun k M μx hM hx => hX _ _ _ hM hx)
  refine L_ps c216 (n := 2) (pc1 := 17) (ls1 := [jR 0, jI v1, jU]) (st1 := [jI 200, jI 1, jR r1, jR 5, jR 57]) rfl ?_
  refine L_cI (c216 17 rfl) (js_v rfl ((Rl_tag hM rt57 (by decide)).trans js151)) hh216 (k_Rewriter_reduce rt57 rt5 hr1 hM h) (fun r3 M μ4 hM h => ?_) (fun _ _ _ _ f => f.elim)
  refine L_ps c216 (n := 2) (pc1 := 22) (ls1 := [jR 0, jI v1, jI r3]) (st1 := [jR 0]) rfl ?_
  refine L_getP (d := 244) (c216 22 rfl) hM rt0 rfl ?_
  refine L_ps c216 (n := 1) (pc1 := 26) (ls1 := [jR 0, jI v1, jI r3]) (st1 := [jI 0, jR 244]) rfl ?_
  refine L_putI (c216 26 rfl) hM rt244 rfl (fun M hM => ?_)
  refine L_ps c216 (n := 2) (pc1 := 31) (ls1 := [jR 0, jI v1, jI r3]) (st1 := [jI (-1), jI r3]) rfl ?_
  refine L_nb (p1 := 46) (p2 := 34) (c216 31 rfl) rfl jc_ne h (fun h => ?_) (fun h => ?_)
  · refine L_ps c216 (n := 1) (pc1 := 35) (ls1 := [jR 0, jI v1, jI r3]) (st1 := [jR 0]) rfl ?_
    refine L_getP (d := 244) (c216 35 rfl) hM rt0 rfl ?_
    refine L_ps c216 (n := 1) (pc1 := 40) (ls1 := [jR 0, jI v1, jI r3]) (st1 := [jI 63, jR 244]) rfl ?_
    refine L_cV (c216 40 rfl) (js_v rfl ((Rl_tag hM rt244 (by decide)).trans js211)) hh216 (k_Output_addByte hM h) (fun M μ6 hM h => ?_) (fun _ _ _ _ f => f.elim)
    refine L_ps c216 (n := 2) (pc1 := 65) (ls1 := [jR 0, jI v1, jI r3]) (st1 := [jR 0]) rfl ?_
    refine L_getP (d := 244) (c216 65 rfl) hM rt0 rfl ?_
    refine L_getI (c216 68 rfl) hM rt244 rfl ?_
    exact L_retI (c216 71 rfl) (hQ _ _ _ hM h)
  · refine L_ps c216 (n := 1) (pc1 := 47) (ls1 := [jR 0, jI v1, jI r3]) (st1 := [jR 0]) rfl ?_
    refine L_getP (d := 244) (c216 47 rfl) hM rt0 rfl ?_
    refine L_ps c216 (n := 1) (pc1 := 51) (ls1 := [jR 0, jI v1, jI r3]) (st1 := [jR 0, jR 244]) rfl ?_
    refine L_getP (d := 57) (c216 51 rfl) hM rt0 rfl ?_
    refine L_getP (d := 3) (c216 54 rfl) hM rt57 rfl ?_
    refine L_ps c216 (n := 1) (pc1 := 58) (ls1 := [jR 0, jI v1, jI r3]) (st1 := [jR 0, jR 60, jR 244]) rfl ?_
    refine L_getP (d := 1) (c216 58 rfl) hM rt0 rfl ?_
    refine L_cV (c216 61 rfl) (js_v rfl ((Rl_tag hM rt244 (by decide)).trans js209)) hh216 (k_Output_addTerm rt60 rt1 hM h) (fun M μ8 hM h => ?_) (fun _ _ _ _ f => f.elim)
    refine L_ps c216 (n := 1) (pc1 := 65) (ls1 := [jR 0, jI v1, jI r3]) (st1 := [jR 0]) rfl ?_
    refine L_getP (d := 244) (c216 65 rfl) hM rt0 rfl ?_
    refine L_getI (c216 68 rfl) hM rt244 rfl ?_
    exact L_retI (c216 71 rfl) (hQ _ _ _ hM h)
theorem k_Lw_writeNormalForm {E : JE2} {v1 : Int} {μ : Mem} {M : JM} {Q : Int → Mem → Prop} (hM : Rl E M μ) (h : d_Lw_writeNormalForm v1 μ Q) : JX 215 0 (jargs 215 [jR 0, jI v1, jR 795]) [] M (PO E (QI Q) XN) := by
  unfold d_Lw_writeNormalForm at h
  show JX 215 0 [jR 0, jI v1, jR 795, jU] [] M (PO E (QI Q) XN)
  generalize hP : PO E (QI Q) XN = P
  have hQ : ∀ (r : Int) (M1 : JM) (μ1 : Mem), Rl E M1 μ1 → Q r μ1 → P (.inl (some (.inl r))) M1 := by rw [← hP]; exact fun r M1 μ1 a b => ⟨μ1, a, r, rfl, b⟩
  clear hP
  refine L_ps c215 (n := 4) (pc1 := 4) (ls1 := [jR 0, jI v1, jR 795, jU]) (st1 := [jI v1, jR 0, jI 0, jR 795]) rfl ?_
  refine L_cIH (c215 4 rfl) (js_v rfl ((Rl_tag hM rt0 (by decide)).trans js216)) (k_OB_writeNormalForm hM h) (fun r1 M μ2 hM h => ?_) (fun k M μx hM h => ?_)
  · refine L_ps c215 (n := 1) (pc1 := 8) (ls1 := [jR 0, jI v1, jR 795, jU]) (st1 := [jX (.long ((Int32.ofInt r1).toInt64)), jI 0, jR 795]) rfl ?_
    refine L_last (c215 8 rfl) hM rt795 ln795 (by decide) (fun M hM => ?_)
    refine L_ps c215 (n := 2) (pc1 := 19) (ls1 := [jR 0, jI v1, jR 795, jU]) (st1 := [jI 0]) rfl ?_
    exact L_retI (c215 19 rfl) (hQ _ _ _ hM h)
  · by_cases hk0 : k = 0
    · rw [if_pos hk0] at h
      subst hk0
      refine JH_of (h := 12) (i := 3) (pc1 := 13) (ls1 := [jR 0, jI v1, jR 795, jU]) rfl rfl (Nat.le_of_ble_eq_true rfl) rfl rfl ?_
      refine L_ps c215 (n := 1) (pc1 := 14) (ls1 := [jR 0, jI v1, jR 795, jU]) (st1 := [jI 1]) rfl ?_
      exact L_retI (c215 14 rfl) (hQ _ _ _ hM h)
    rw [if_neg hk0] at h
    by_cases hk1 : k = 1
    · rw [if_pos hk1] at h
      subst hk1
      refine JH_of (h := 15) (i := 3) (pc1 := 16) (ls1 := [jR 0, jI v1, jR 795, jU]) rfl rfl (Nat.le_of_ble_eq_true rfl) rfl rfl ?_
      refine L_ps c215 (n := 1) (pc1 := 17) (ls1 := [jR 0, jI v1, jR 795, jU]) (st1 := [jI 2]) rfl ?_
      exact L_retI (c215 17 rfl) (hQ _ _ _ hM h)
    rw [if_neg hk1] at h
    exact h.elim
theorem k_OB_writePair {E : JE2} {v1 : Int} {μ : Mem} {M : JM} {Q : Int → Mem → Prop} {X : Nat → Mem → Prop} (hM : Rl E M μ) (h : d_OB_writePair v1 μ Q X) : JX 218 0 (jargs 218 [jR 0, jI v1]) [] M (PO E (QI Q) X) := by
  unfold d_OB_writePair at h
  show JX 218 0 [jR 0, jI v1] [] M (PO E (QI Q) X)
  generalize hP : PO E (QI Q) X = P
  have hQ : ∀ (r : Int) (M1 : JM) (μ1 : Mem), Rl E M1 μ1 → Q r μ1 → P (.inl (some (.inl r))) M1 := by rw [← hP]; exact fun r M1 μ1 a b => ⟨μ1, a, r, rfl, b⟩
  have hX : ∀ (k : Nat) (M1 : JM) (μ1 : Mem), Rl E M1 μ1 → X k μ1 → P (.inr k) M1 := by rw [← hP]; exact fun k M1 μ1 a b => ⟨μ1, a, b⟩
  clear hP
  refine L_ps c218 (n := 2) (pc1 := 2) (ls1 := [jR 0, jI v1]) (st1 := [jI v1, jR 0]) rfl ?_
  refine L_cV (c218 2 rfl) (js_v rfl ((Rl_tag hM rt0 (by decide)).trans js194)) hh218 (k_OB_requirePair hM h) (fun M μ2 hM h => ?_) (fun k M μx hM hx => hX _ _ _ hM hx)
  refine L_ps c218 (n := 1) (pc1 := 6) (ls1 := [jR 0, jI v1]) (st1 := [jR 0]) rfl ?_
  refine L_getP (d := 244) (c218 6 rfl) hM rt0 rfl ?_
  refine L_ps c218 (n := 1) (pc1 := 10) (ls1 := [jR 0, jI v1]) (st1 := [jI 0, jR 244]) rfl ?_
  refine L_putI (c218 10 rfl) hM rt244 rfl (fun M hM => ?_)
  refine L_ps c218 (n := 1) (pc1 := 14) (ls1 := [jR 0, jI v1]) (st1 := [jR 0]) rfl ?_
  refine L_getP (d := 244) (c218 14 rfl) hM rt0 rfl ?_
  refine L_ps c218 (n := 1) (pc1 := 18) (ls1 := [jR 0, jI v1]) (st1 := [jR 0, jR 244]) rfl ?_
  refine L_getP (d := 139) (c218 18 rfl) hM rt0 rfl ?_
  refine L_ps c218 (n := 1) (pc1 := 22) (ls1 := [jR 0, jI v1]) (st1 := [jI v1, jR 139, jR 244]) rfl ?_
  refine L_cpR (c218 22 rfl) (js_v rfl ((Rl_tag hM rt139 (by decide)).trans js187)) hh218 (k_PairList_firstTerm hM h) (fun r3 M hM hr3 h => ?_) (fun _ _ _ _ f => f.elim)
  refine L_ps c218 (n := 1) (pc1 := 26) (ls1 := [jR 0, jI v1]) (st1 := [jR 0, jR r3, jR 244]) rfl ?_
  refine L_getP (d := 1) (c218 26 rfl) hM rt0 rfl ?_
  refine L_cV (c218 29 rfl) (js_v rfl ((Rl_tag hM rt244 (by decide)).trans js209)) hh218 (k_Output_addTerm hr3 rt1 hM h) (fun M μ6 hM h => ?_) (fun _ _ _ _ f => f.elim)
  refine L_ps c218 (n := 1) (pc1 := 33) (ls1 := [jR 0, jI v1]) (st1 := [jR 0]) rfl ?_
  refine L_getP (d := 244) (c218 33 rfl) hM rt0 rfl ?_
  refine L_ps c218 (n := 1) (pc1 := 38) (ls1 := [jR 0, jI v1]) (st1 := [jI 60, jR 244]) rfl ?_
  refine L_cV (c218 38 rfl) (js_v rfl ((Rl_tag hM rt244 (by decide)).trans js211)) hh218 (k_Output_addByte hM h) (fun M μ8 hM h => ?_) (fun _ _ _ _ f => f.elim)
  refine L_ps c218 (n := 1) (pc1 := 42) (ls1 := [jR 0, jI v1]) (st1 := [jR 0]) rfl ?_
  refine L_getP (d := 244) (c218 42 rfl) hM rt0 rfl ?_
  refine L_ps c218 (n := 1) (pc1 := 47) (ls1 := [jR 0, jI v1]) (st1 := [jI 62, jR 244]) rfl ?_
  refine L_cV (c218 47 rfl) (js_v rfl ((Rl_tag hM rt244 (by decide)).trans js211)) hh218 (k_Output_addByte hM h) (fun M μ10 hM h => ?_) (fun _ _ _ _ f => f.elim)
  refine L_ps c218 (n := 1) (pc1 := 51) (ls1 := [jR 0, jI v1]) (st1 := [jR 0]) rfl ?_
  refine L_getP (d := 244) (c218 51 rfl) hM rt0 rfl ?_
  refine L_ps c218 (n := 1) (pc1 := 55) (ls1 := [jR 0, jI v1]) (st1 := [jR 0, jR 244]) rfl ?_
  refine L_getP (d := 139) (c218 55 rfl) hM rt0 rfl ?_
  refine L_ps c218 (n := 1) (pc1 := 59) (ls1 := [jR 0, jI v1]) (st1 := [jI v1, jR 139, jR 244]) rfl ?_
  refine L_cpR (c218 59 rfl) (js_v rfl ((Rl_tag hM rt139 (by decide)).trans js188)) hh218 (k_PairList_secondTerm hM h) (fun r11 M hM hr11 h => ?_) (fun _ _ _ _ f => f.elim)
  refine L_ps c218 (n := 1) (pc1 := 63) (ls1 := [jR 0, jI v1]) (st1 := [jR 0, jR r11, jR 244]) rfl ?_
  refine L_getP (d := 1) (c218 63 rfl) hM rt0 rfl ?_
  refine L_cV (c218 66 rfl) (js_v rfl ((Rl_tag hM rt244 (by decide)).trans js209)) hh218 (k_Output_addTerm hr11 rt1 hM h) (fun M μ14 hM h => ?_) (fun _ _ _ _ f => f.elim)
  refine L_ps c218 (n := 1) (pc1 := 70) (ls1 := [jR 0, jI v1]) (st1 := [jR 0]) rfl ?_
  refine L_getP (d := 244) (c218 70 rfl) hM rt0 rfl ?_
  refine L_getI (c218 73 rfl) hM rt244 rfl ?_
  exact L_retI (c218 76 rfl) (hQ _ _ _ hM h)
theorem k_Lw_writePair {E : JE2} {v1 : Int} {μ : Mem} {M : JM} {Q : Int → Mem → Prop} (hM : Rl E M μ) (h : d_Lw_writePair v1 μ Q) : JX 217 0 (jargs 217 [jR 0, jI v1, jR 795]) [] M (PO E (QI Q) XN) := by
  unfold d_Lw_writePair at h
  show JX 217 0 [jR 0, jI v1, jR 795, jU] [] M (PO E (QI Q) XN)
  generalize hP : PO E (QI Q) XN = P
  have hQ : ∀ (r : Int) (M1 : JM) (μ1 : Mem), Rl E M1 μ1 → Q r μ1 → P (.inl (some (.inl r))) M1 := by rw [← hP]; exact fun r M1 μ1 a b => ⟨μ1, a, r, rfl, b⟩
  clear hP
  refine L_ps c217 (n := 4) (pc1 := 4) (ls1 := [jR 0, jI v1, jR 795, jU]) (st1 := [jI v1, jR 0, jI 0, jR 795]) rfl ?_
  refine L_cIH (c217 4 rfl) (js_v rfl ((Rl_tag hM rt0 (by decide)).trans js218)) (k_OB_writePair hM h) (fun r1 M μ2 hM h => ?_) (fun k M μx hM h => ?_)
  · refine L_ps c217 (n := 1) (pc1 := 8) (ls1 := [jR 0, jI v1, jR 795, jU]) (st1 := [jX (.long ((Int32.ofInt r1).toInt64)), jI 0, jR 795]) rfl ?_
    refine L_last (c217 8 rfl) hM rt795 ln795 (by decide) (fun M hM => ?_)
    refine L_ps c217 (n := 2) (pc1 := 19) (ls1 := [jR 0, jI v1, jR 795, jU]) (st1 := [jI 0]) rfl ?_
    exact L_retI (c217 19 rfl) (hQ _ _ _ hM h)
  · by_cases hk0 : k = 0
    · rw [if_pos hk0] at h
      subst hk0
      refine JH_of (h := 12) (i := 3) (pc1 := 13) (ls1 := [jR 0, jI v1, jR 795, jU]) rfl rfl (Nat.le_of_ble_eq_true rfl) rfl rfl ?_
      refine L_ps c217 (n := 1) (pc1 := 14) (ls1 := [jR 0, jI v1, jR 795, jU]) (st1 := [jI 1]) rfl ?_
      exact L_retI (c217 14 rfl) (hQ _ _ _ hM h)
    rw [if_neg hk0] at h
    by_cases hk1 : k = 1
    · rw [if_pos hk1] at h
      subst hk1
      refine JH_of (h := 15) (i := 3) (pc1 := 16) (ls1 := [jR 0, jI v1, jR 795, jU]) rfl rfl (Nat.le_of_ble_eq_true rfl) rfl rfl ?_
      refine L_ps c217 (n := 1) (pc1 := 17) (ls1 := [jR 0, jI v1, jR 795, jU]) (st1 := [jI 2]) rfl ?_
      exact L_retI (c217 17 rfl) (hQ _ _ _ hM h)
    rw [if_neg hk1] at h
    exact h.elim
theorem k_Output_byteAt {E : JE2} {v1 : Int} {μ : Mem} {M : JM} {Q : Int → Prop} (hM : Rl E M μ) (h : d_Output_byteAt v1 μ Q) : JX 221 0 (jargs 221 [jR 244, jI v1]) [] M (PO E (pQI μ Q) XN) := by
  unfold d_Output_byteAt at h
  show JX 221 0 [jR 244, jI v1] [] M (PO E (pQI μ Q) XN)
  generalize hP : PO E (pQI μ Q) XN = P
  have hQ : ∀ (r : Int) (M1 : JM), Rl E M1 μ → Q r → P (.inl (some (.inl r))) M1 := by rw [← hP]; exact fun r M1 a b => ⟨μ, a, rfl, r, rfl, b⟩
  clear hP
  refine L_ps c221 (n := 1) (pc1 := 1) (ls1 := [jR 244, jI v1]) (st1 := [jI v1]) rfl ?_
  refine L_br (p1 := 30) (p2 := 4) (c221 1 rfl) rfl jc_lt h (fun h => ?_) (fun h => ?_)
  · refine L_ps c221 (n := 1) (pc1 := 31) (ls1 := [jR 244, jI v1]) (st1 := [jI (-1)]) rfl ?_
    exact L_retI (c221 31 rfl) (hQ _ _ hM h)
  · refine L_ps c221 (n := 2) (pc1 := 6) (ls1 := [jR 244, jI v1]) (st1 := [jR 244, jI v1]) rfl ?_
    refine L_getI (c221 6 rfl) hM rt244 rfl ?_
    refine L_nb (p1 := 30) (p2 := 12) (c221 9 rfl) rfl jc_ge h (fun h => ?_) (fun h => ?_)
    · refine L_ps c221 (n := 2) (pc1 := 14) (ls1 := [jR 244, jI v1]) (st1 := [jR 244, jI v1]) rfl ?_
      refine L_getP (d := 1) (c221 14 rfl) hM rt244 rfl ?_
      refine L_alen (n := 1600) (z := 1600) (c221 17 rfl) hM rt245 (by decide) ln245 (by decide) rfl ?_
      refine L_nb (p1 := 30) (p2 := 21) (c221 18 rfl) rfl jc_ge h (fun h => ?_) (fun h => ?_)
      · refine L_ps c221 (n := 1) (pc1 := 22) (ls1 := [jR 244, jI v1]) (st1 := [jR 244]) rfl ?_
        refine L_getP (d := 1) (c221 22 rfl) hM rt244 rfl ?_
        refine L_ps c221 (n := 1) (pc1 := 26) (ls1 := [jR 244, jI v1]) (st1 := [jI v1, jR 245]) rfl ?_
        obtain ⟨hb, h⟩ := h
        refine L_iald (c221 26 rfl) hM rt245 ln245 hb ?_
        refine L_ps c221 (n := 1) (pc1 := 31) (ls1 := [jR 244, jI v1]) (st1 := [jI (μ 245 v1.toNat)]) rfl ?_
        exact L_retI (c221 31 rfl) (hQ _ _ hM h)
      · refine L_ps c221 (n := 1) (pc1 := 31) (ls1 := [jR 244, jI v1]) (st1 := [jI (-1)]) rfl ?_
        exact L_retI (c221 31 rfl) (hQ _ _ hM h)
    · refine L_ps c221 (n := 1) (pc1 := 31) (ls1 := [jR 244, jI v1]) (st1 := [jI (-1)]) rfl ?_
      exact L_retI (c221 31 rfl) (hQ _ _ hM h)
theorem k_OB_outputByte {E : JE2} {v1 : Int} {μ : Mem} {M : JM} {Q : Int → Mem → Prop} {X : Nat → Mem → Prop} (hM : Rl E M μ) (h : d_OB_outputByte v1 μ Q X) : JX 220 0 (jargs 220 [jR 0, jI v1]) [] M (PO E (QI Q) X) := by
  unfold d_OB_outputByte at h
  show JX 220 0 [jR 0, jI v1] [] M (PO E (QI Q) X)
  generalize hP : PO E (QI Q) X = P
  have hQ : ∀ (r : Int) (M1 : JM) (μ1 : Mem), Rl E M1 μ1 → Q r μ1 → P (.inl (some (.inl r))) M1 := by rw [← hP]; exact fun r M1 μ1 a b => ⟨μ1, a, r, rfl, b⟩
  have hX : ∀ (k : Nat) (M1 : JM) (μ1 : Mem), Rl E M1 μ1 → X k μ1 → P (.inr k) M1 := by rw [← hP]; exact fun k M1 μ1 a b => ⟨μ1, a, b⟩
  clear hP
  refine L_ps c220 (n := 3) (pc1 := 3) (ls1 := [jR 0, jI v1]) (st1 := [jR 0, jI v1, jR 0]) rfl ?_
  refine L_getP (d := 244) (c220 3 rfl) hM rt0 rfl ?_
  refine L_getI (c220 6 rfl) hM rt244 rfl ?_
  refine L_cV (c220 9 rfl) (js_v rfl ((Rl_tag hM rt0 (by decide)).trans js89)) hh220 (k_OB_requireIndex hM h) (fun M μ2 hM h => ?_) (fun k M μx hM hx => hX _ _ _ hM hx)
  refine L_ps c220 (n := 1) (pc1 := 13) (ls1 := [jR 0, jI v1]) (st1 := [jR 0]) rfl ?_
  refine L_getP (d := 244) (c220 13 rfl) hM rt0 rfl ?_
  refine L_ps c220 (n := 1) (pc1 := 17) (ls1 := [jR 0, jI v1]) (st1 := [jI v1, jR 244]) rfl ?_
  refine L_cpI (c220 17 rfl) (js_v rfl ((Rl_tag hM rt244 (by decide)).trans js221)) hh220 (k_Output_byteAt hM h) (fun r3 M hM h => ?_) (fun _ _ _ _ f => f.elim)
  exact L_retI (c220 20 rfl) (hQ _ _ _ hM h)
