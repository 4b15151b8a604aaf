/-! that the printed tables do what the texts say (written by wip/gen/dec.py), 2 -/
theorem k_OB_isLeftLinear_b8 {E : JE2} {v2 : Nat} {v3 : Int} {μ : Mem} {M : JM} {P : JO → JM → Prop} {g0 : JV} {g1 : JV} {W8 : Int → Prop} {Q : Bool → Mem → Prop} {X : Nat → Mem → Prop} (hg1 : jc2 g1 = false) (hv2 : rt v2 = 5) (hM : Rl E M μ) (hQ : ∀ (r : Bool) (M1 : JM) (μ1 : Mem), Rl E M1 μ1 → Q r μ1 → P (.inl (some (.inl (b2i r)))) M1) (hX : ∀ (k : Nat) (M1 : JM) (μ1 : Mem), Rl E M1 μ1 → X k μ1 → P (.inr k) M1) (hW8 : ∀ (v3 : Int) (g0 : JV) (g1 : JV) (M1 : JM), jc2 g1 = false → Rl E M1 μ → W8 v3 → JX 102 8 [g0, g1, jR v2, jI v3] [] M1 P) (h : d_OB_isLeftLinear_b8 v2 v3 μ W8 Q X) : JX 102 8 [g0, g1, jR v2, jI v3] [] M P := by
  unfold d_OB_isLeftLinear_b8 at h
  refine L_ps c102 (n := 2) (pc1 := 11) (ls1 := [g0, g1, jR v2, jI v3]) (st1 := [jI 8, jI v3]) rfl ?_
  refine L_nb (p1 := 37) (p2 := 14) (c102 11 rfl) rfl jc_ge h (fun h => ?_) (fun h => ?_)
  · refine L_ps c102 (n := 1) (pc1 := 15) (ls1 := [g0, g1, jR v2, jI v3]) (st1 := [jR v2]) rfl ?_
    refine L_getD (c102 15 rfl) hM hv2 (by decide) ?_
    refine L_ps c102 (n := 1) (pc1 := 19) (ls1 := [g0, g1, jR v2, jI v3]) (st1 := [jI v3, jR (dp (μ v2 0))]) rfl ?_
    refine L_cpI (c102 19 rfl) (js_t rfl) hh102 (k_Term_variableNode hM h) (fun r3 M hM h => ?_) (fun _ _ _ _ f => f.elim)
    refine L_cpI (c102 22 rfl) (js_v rfl ((Rl_tag hM (dp_rt _) (by decide)).trans js52)) hh102 (k_Term_count (dp_rt _) hM h) (fun r5 M hM h => ?_) (fun _ _ _ _ f => f.elim)
    refine L_ps c102 (n := 1) (pc1 := 26) (ls1 := [g0, g1, jR v2, jI v3]) (st1 := [jI 1, jI r5]) rfl ?_
    refine L_nb (p1 := 31) (p2 := 29) (c102 26 rfl) rfl jc_le h (fun h => ?_) (fun h => ?_)
    · refine L_ps c102 (n := 1) (pc1 := 30) (ls1 := [g0, g1, jR v2, jI v3]) (st1 := [jI 0]) rfl ?_
      exact L_retB (c102 30 rfl) (Or.inl rfl) (hQ false _ _ hM h)
    · refine L_ps c102 (n := 2) (pc1 := 8) (ls1 := [g0, g1, jR v2, jI (wr (v3 + 1))]) (st1 := []) rfl ?_
      exact hW8 _ _ _ _ hg1 hM h
  · refine L_ps c102 (n := 1) (pc1 := 38) (ls1 := [g0, g1, jR v2, jI v3]) (st1 := [jI 1]) rfl ?_
    exact L_retB (c102 38 rfl) (Or.inr rfl) (hQ true _ _ hM h)
theorem k_OB_isLeftLinear_l8 {E : JE2} {v2 : Nat} {v3 : Int} {μ : Mem} {M : JM} {P : JO → JM → Prop} {g0 : JV} {g1 : JV} {Q : Bool → Mem → Prop} {X : Nat → Mem → Prop} (hg1 : jc2 g1 = false) (hv2 : rt v2 = 5) (hM : Rl E M μ) (hQ : ∀ (r : Bool) (M1 : JM) (μ1 : Mem), Rl E M1 μ1 → Q r μ1 → P (.inl (some (.inl (b2i r)))) M1) (hX : ∀ (k : Nat) (M1 : JM) (μ1 : Mem), Rl E M1 μ1 → X k μ1 → P (.inr k) M1) (h : d_OB_isLeftLinear_l8 v2 v3 μ Q X) : JX 102 8 [g0, g1, jR v2, jI v3] [] M P := by
  refine h (fun v3 => ∀ (g0 : JV) (g1 : JV) (M : JM), jc2 g1 = false → Rl E M μ → JX 102 8 [g0, g1, jR v2, jI v3] [] M P) ?_ _ _ _ hg1 hM
  intro v3 h g0 g1 M hg1 hM
  exact k_OB_isLeftLinear_b8 hg1 hv2 hM hQ hX (fun v3 g0 g1 M hg1 hM h => h g0 g1 M hg1 hM) h
theorem k_OB_isLeftLinear {E : JE2} {v1 : Int} {μ : Mem} {M : JM} {Q : Bool → Mem → Prop} {X : Nat → Mem → Prop} (hM : Rl E M μ) (h : d_OB_isLeftLinear v1 μ Q X) : JX 102 0 (jargs 102 [jR 0, jI v1]) [] M (PO E (QB Q) X) := by
  unfold d_OB_isLeftLinear at h
  show JX 102 0 [jR 0, jI v1, jU, jU] [] M (PO E (QB Q) X)
  generalize hP : PO E (QB Q) X = P
  have hQ : ∀ (r : Bool) (M1 : JM) (μ1 : Mem), Rl E M1 μ1 → Q r μ1 → P (.inl (some (.inl (b2i r)))) M1 := by rw [← hP]; exact fun r M1 μ1 a b => ⟨μ1, a, r, rfl, b⟩
  have hX : ∀ (k : Nat) (M1 : JM) (μ1 : Mem), Rl E M1 μ1 → X k μ1 → P (.inr k) M1 := by rw [← hP]; exact fun k M1 μ1 a b => ⟨μ1, a, b⟩
  clear hP
  refine L_ps c102 (n := 2) (pc1 := 2) (ls1 := [jR 0, jI v1, jU, jU]) (st1 := [jI v1, jR 0]) rfl ?_
  refine L_cR (c102 2 rfl) (js_v rfl ((Rl_tag hM rt0 (by decide)).trans js98)) hh102 (k_OB_requireRule hM h) (fun r1 M μ2 hM hr1 h => ?_) (fun k M μx hM hx => hX _ _ _ hM hx)
  refine L_ps c102 (n := 3) (pc1 := 8) (ls1 := [jR 0, jI v1, jR r1, jI 0]) (st1 := []) rfl ?_
  exact k_OB_isLeftLinear_l8 rfl hr1 hM hQ hX h
theorem k_Lw_isLeftLinear_j15 {E : JE2} {t1 : Int} {t2 : Int64} {μ : Mem} {M : JM} {P : JO → JM → Prop} {g0 : JV} {g1 : JV} {g2 : JV} {g3 : JV} {Q : Int → Mem → Prop} (hM : Rl E M μ) (hQ : ∀ (r : Int) (M1 : JM) (μ1 : Mem), Rl E M1 μ1 → Q r μ1 → P (.inl (some (.inl r))) M1) (h : d_Lw_isLeftLinear_j15 t1 t2 μ Q) : JX 101 15 [g0, g1, g2, g3] [jX (.long t2), jI t1, jR 795] M P := by
  unfold d_Lw_isLeftLinear_j15 at h
  obtain ⟨hb, h⟩ := h
  refine L_last (c101 15 rfl) hM rt795 ln795 hb (fun M hM => ?_)
  refine L_ps c101 (n := 2) (pc1 := 26) (ls1 := [g0, g1, g2, g3]) (st1 := [jI 0]) rfl ?_
  exact L_retI (c101 26 rfl) (hQ _ _ _ hM h)
theorem k_Lw_isLeftLinear {E : JE2} {v1 : Int} {μ : Mem} {M : JM} {Q : Int → Mem → Prop} (hM : Rl E M μ) (h : d_Lw_isLeftLinear v1 μ Q) : JX 101 0 (jargs 101 [jR 0, jI v1, jR 795]) [] M (PO E (QI Q) XN) := by
  unfold d_Lw_isLeftLinear at h
  show JX 101 0 [jR 0, jI v1, jR 795, jU] [] M (PO E (QI Q) XN)
  generalize hP : PO E (QI Q) XN = P
  have hQ : ∀ (r : Int) (M1 : JM) (μ1 : Mem), Rl E M1 μ1 → Q r μ1 → P (.inl (some (.inl r))) M1 := by rw [← hP]; exact fun r M1 μ1 a b => ⟨μ1, a, r, rfl, b⟩
  clear hP
  refine L_ps c101 (n := 4) (pc1 := 4) (ls1 := [jR 0, jI v1, jR 795, jU]) (st1 := [jI v1, jR 0, jI 0, jR 795]) rfl ?_
  refine L_cBH (c101 4 rfl) (js_v rfl ((Rl_tag hM rt0 (by decide)).trans js102)) (k_OB_isLeftLinear hM h) (fun r1 M μ2 hM h => ?_) (fun k M μx hM h => ?_)
  · refine L_nb (p1 := 14) (p2 := 10) (c101 7 rfl) rfl jc_eqb h (fun h => ?_) (fun h => ?_)
    · refine L_ps c101 (n := 2) (pc1 := 15) (ls1 := [jR 0, jI v1, jR 795, jU]) (st1 := [jX (.long (Int64.ofNat 1)), jI 0, jR 795]) rfl ?_
      exact k_Lw_isLeftLinear_j15 hM hQ h
    · refine L_ps c101 (n := 1) (pc1 := 15) (ls1 := [jR 0, jI v1, jR 795, jU]) (st1 := [jX (.long (Int64.ofNat 0)), jI 0, jR 795]) rfl ?_
      exact k_Lw_isLeftLinear_j15 hM hQ h
  · by_cases hk0 : k = 0
    · rw [if_pos hk0] at h
      subst hk0
      refine JH_of (h := 19) (i := 3) (pc1 := 20) (ls1 := [jR 0, jI v1, jR 795, jU]) rfl rfl (Nat.le_of_ble_eq_true rfl) rfl rfl ?_
      refine L_ps c101 (n := 1) (pc1 := 21) (ls1 := [jR 0, jI v1, jR 795, jU]) (st1 := [jI 1]) rfl ?_
      exact L_retI (c101 21 rfl) (hQ _ _ _ hM h)
    rw [if_neg hk0] at h
    by_cases hk1 : k = 1
    · rw [if_pos hk1] at h
      subst hk1
      refine JH_of (h := 22) (i := 3) (pc1 := 23) (ls1 := [jR 0, jI v1, jR 795, jU]) rfl rfl (Nat.le_of_ble_eq_true rfl) rfl rfl ?_
      refine L_ps c101 (n := 1) (pc1 := 24) (ls1 := [jR 0, jI v1, jR 795, jU]) (st1 := [jI 2]) rfl ?_
      exact L_retI (c101 24 rfl) (hQ _ _ _ hM h)
    rw [if_neg hk1] at h
    exact h.elim
theorem k_OB_isCollapsing {E : JE2} {v1 : Int} {μ : Mem} {M : JM} {Q : Bool → Mem → Prop} {X : Nat → Mem → Prop} (hM : Rl E M μ) (h : d_OB_isCollapsing v1 μ Q X) : JX 104 0 (jargs 104 [jR 0, jI v1]) [] M (PO E (QB Q) X) := by
  unfold d_OB_isCollapsing at h
  show JX 104 0 [jR 0, jI v1] [] M (PO E (QB Q) X)
  generalize hP : PO E (QB Q) X = P
  have hQ : ∀ (r : Bool) (M1 : JM) (μ1 : Mem), Rl E M1 μ1 → Q r μ1 → P (.inl (some (.inl (b2i r)))) M1 := by rw [← hP]; exact fun r M1 μ1 a b => ⟨μ1, a, r, rfl, b⟩
  have hX : ∀ (k : Nat) (M1 : JM) (μ1 : Mem), Rl E M1 μ1 → X k μ1 → P (.inr k) M1 := by rw [← hP]; exact fun k M1 μ1 a b => ⟨μ1, a, b⟩
  clear hP
  refine L_ps c104 (n := 2) (pc1 := 2) (ls1 := [jR 0, jI v1]) (st1 := [jI v1, jR 0]) rfl ?_
  refine L_cR (c104 2 rfl) (js_v rfl ((Rl_tag hM rt0 (by decide)).trans js98)) hh104 (k_OB_requireRule hM h) (fun r1 M μ2 hM hr1 h => ?_) (fun k M μx hM hx => hX _ _ _ hM hx)
  refine L_getD (c104 5 rfl) hM hr1 (by decide) ?_
  refine L_ps c104 (n := 1) (pc1 := 9) (ls1 := [jR 0, jI v1]) (st1 := [jI 0, jR (dp (μ2 r1 1))]) rfl ?_
  refine L_cpI (c104 9 rfl) (js_v rfl ((Rl_tag hM (dp_rt _) (by decide)).trans js53)) hh104 (k_Term_get (dp_rt _) hM h) (fun r3 M hM h => ?_) (fun _ _ _ _ f => f.elim)
  refine L_nb (p1 := 19) (p2 := 15) (c104 12 rfl) rfl jc_ge h (fun h => ?_) (fun h => ?_)
  · refine L_ps c104 (n := 2) (pc1 := 20) (ls1 := [jR 0, jI v1]) (st1 := [jI 1]) rfl ?_
    exact L_retB (c104 20 rfl) (Or.inr rfl) (hQ true _ _ hM h)
  · refine L_ps c104 (n := 1) (pc1 := 20) (ls1 := [jR 0, jI v1]) (st1 := [jI 0]) rfl ?_
    exact L_retB (c104 20 rfl) (Or.inl rfl) (hQ false _ _ hM h)
theorem k_Lw_isCollapsing_j15 {E : JE2} {t1 : Int} {t2 : Int64} {μ : Mem} {M : JM} {P : JO → JM → Prop} {g0 : JV} {g1 : JV} {g2 : JV} {g3 : JV} {Q : Int → Mem → Prop} (hM : Rl E M μ) (hQ : ∀ (r : Int) (M1 : JM) (μ1 : Mem), Rl E M1 μ1 → Q r μ1 → P (.inl (some (.inl r))) M1) (h : d_Lw_isCollapsing_j15 t1 t2 μ Q) : JX 103 15 [g0, g1, g2, g3] [jX (.long t2), jI t1, jR 795] M P := by
  unfold d_Lw_isCollapsing_j15 at h
  obtain ⟨hb, h⟩ := h
  refine L_last (c103 15 rfl) hM rt795 ln795 hb (fun M hM => ?_)
  refine L_ps c103 (n := 2) (pc1 := 26) (ls1 := [g0, g1, g2, g3]) (st1 := [jI 0]) rfl ?_
  exact L_retI (c103 26 rfl) (hQ _ _ _ hM h)
theorem k_Lw_isCollapsing {E : JE2} {v1 : Int} {μ : Mem} {M : JM} {Q : Int → Mem → Prop} (hM : Rl E M μ) (h : d_Lw_isCollapsing v1 μ Q) : JX 103 0 (jargs 103 [jR 0, jI v1, jR 795]) [] M (PO E (QI Q) XN) := by
  unfold d_Lw_isCollapsing at h
  show JX 103 0 [jR 0, jI v1, jR 795, jU] [] M (PO E (QI Q) XN)
  generalize hP : PO E (QI Q) XN = P
  have hQ : ∀ (r : Int) (M1 : JM) (μ1 : Mem), Rl E M1 μ1 → Q r μ1 → P (.inl (some (.inl r))) M1 := by rw [← hP]; exact fun r M1 μ1 a b => ⟨μ1, a, r, rfl, b⟩
  clear hP
  refine L_ps c103 (n := 4) (pc1 := 4) (ls1 := [jR 0, jI v1, jR 795, jU]) (st1 := [jI v1, jR 0, jI 0, jR 795]) rfl ?_
  refine L_cBH (c103 4 rfl) (js_v rfl ((Rl_tag hM rt0 (by decide)).trans js104)) (k_OB_isCollapsing hM h) (fun r1 M μ2 hM h => ?_) (fun k M μx hM h => ?_)
  · refine L_nb (p1 := 14) (p2 := 10) (c103 7 rfl) rfl jc_eqb h (fun h => ?_) (fun h => ?_)
    · refine L_ps c103 (n := 2) (pc1 := 15) (ls1 := [jR 0, jI v1, jR 795, jU]) (st1 := [jX (.long (Int64.ofNat 1)), jI 0, jR 795]) rfl ?_
      exact k_Lw_isCollapsing_j15 hM hQ h
    · refine L_ps c103 (n := 1) (pc1 := 15) (ls1 := [jR 0, jI v1, jR 795, jU]) (st1 := [jX (.long (Int64.ofNat 0)), jI 0, jR 795]) rfl ?_
      exact k_Lw_isCollapsing_j15 hM hQ h
  · by_cases hk0 : k = 0
    · rw [if_pos hk0] at h
      subst hk0
      refine JH_of (h := 19) (i := 3) (pc1 := 20) (ls1 := [jR 0, jI v1, jR 795, jU]) rfl rfl (Nat.le_of_ble_eq_true rfl) rfl rfl ?_
      refine L_ps c103 (n := 1) (pc1 := 21) (ls1 := [jR 0, jI v1, jR 795, jU]) (st1 := [jI 1]) rfl ?_
      exact L_retI (c103 21 rfl) (hQ _ _ _ hM h)
    rw [if_neg hk0] at h
    by_cases hk1 : k = 1
    · rw [if_pos hk1] at h
      subst hk1
      refine JH_of (h := 22) (i := 3) (pc1 := 23) (ls1 := [jR 0, jI v1, jR 795, jU]) rfl rfl (Nat.le_of_ble_eq_true rfl) rfl rfl ?_
      refine L_ps c103 (n := 1) (pc1 := 24) (ls1 := [jR 0, jI v1, jR 795, jU]) (st1 := [jI 2]) rfl ?_
      exact L_retI (c103 24 rfl) (hQ _ _ _ hM h)
    rw [if_neg hk1] at h
    exact h.elim
theorem k_Rule_duplicates_b2 {E : JE2} {v0 : Nat} {v1 : Int} {μ : Mem} {M : JM} {P : JO → JM → Prop} {g2 : JV} {W2 : Int → Prop} {Q : Bool → Prop} (hv0 : rt v0 = 5) (hM : Rl E M μ) (hQ : ∀ (r : Bool) (M1 : JM), Rl E M1 μ → Q r → P (.inl (some (.inl (b2i r)))) M1) (hW2 : ∀ (v1 : Int) (g2 : JV) (M1 : JM), Rl E M1 μ → W2 v1 → JX 107 2 [jR v0, jI v1, g2] [] M1 P) (h : d_Rule_duplicates_b2 v0 v1 μ W2 Q) : JX 107 2 [jR v0, jI v1, g2] [] M P := by
  unfold d_Rule_duplicates_b2 at h
  refine L_ps c107 (n := 2) (pc1 := 5) (ls1 := [jR v0, jI v1, g2]) (st1 := [jI 8, jI v1]) rfl ?_
  refine L_nb (p1 := 40) (p2 := 8) (c107 5 rfl) rfl jc_ge h (fun h => ?_) (fun h => ?_)
  · refine L_ps c107 (n := 1) (pc1 := 9) (ls1 := [jR v0, jI v1, g2]) (st1 := [jI v1]) rfl ?_
    refine L_cpI (c107 9 rfl) (js_t rfl) hh107 (k_Term_variableNode hM h) (fun r1 M hM h => ?_) (fun _ _ _ _ f => f.elim)
    refine L_ps c107 (n := 2) (pc1 := 14) (ls1 := [jR v0, jI v1, jI r1]) (st1 := [jR v0]) rfl ?_
    refine L_getD (c107 14 rfl) hM hv0 (by decide) ?_
    refine L_ps c107 (n := 1) (pc1 := 18) (ls1 := [jR v0, jI v1, jI r1]) (st1 := [jI r1, jR (dp (μ v0 1))]) rfl ?_
    refine L_cpI (c107 18 rfl) (js_v rfl ((Rl_tag hM (dp_rt _) (by decide)).trans js52)) hh107 (k_Term_count (dp_rt _) hM h) (fun r3 M hM h => ?_) (fun _ _ _ _ f => f.elim)
    refine L_ps c107 (n := 1) (pc1 := 22) (ls1 := [jR v0, jI v1, jI r1]) (st1 := [jR v0, jI r3]) rfl ?_
    refine L_getD (c107 22 rfl) hM hv0 (by decide) ?_
    refine L_ps c107 (n := 1) (pc1 := 26) (ls1 := [jR v0, jI v1, jI r1]) (st1 := [jI r1, jR (dp (μ v0 0)), jI r3]) rfl ?_
    refine L_cpI (c107 26 rfl) (js_v rfl ((Rl_tag hM (dp_rt _) (by decide)).trans js52)) hh107 (k_Term_count (dp_rt _) hM h) (fun r5 M hM h => ?_) (fun _ _ _ _ f => f.elim)
    refine L_nb (p1 := 34) (p2 := 32) (c107 29 rfl) rfl jc_le h (fun h => ?_) (fun h => ?_)
    · refine L_ps c107 (n := 1) (pc1 := 33) (ls1 := [jR v0, jI v1, jI r1]) (st1 := [jI 1]) rfl ?_
      exact L_retB (c107 33 rfl) (Or.inr rfl) (hQ true _ hM h)
    · refine L_ps c107 (n := 2) (pc1 := 2) (ls1 := [jR v0, jI (wr (v1 + 1)), jI r1]) (st1 := []) rfl ?_
      exact hW2 _ _ _ hM h
  · refine L_ps c107 (n := 1) (pc1 := 41) (ls1 := [jR v0, jI v1, g2]) (st1 := [jI 0]) rfl ?_
    exact L_retB (c107 41 rfl) (Or.inl rfl) (hQ false _ hM h)
theorem k_Rule_duplicates_l2 {E : JE2} {v0 : Nat} {v1 : Int} {μ : Mem} {M : JM} {P : JO → JM → Prop} {g2 : JV} {Q : Bool → Prop} (hv0 : rt v0 = 5) (hM : Rl E M μ) (hQ : ∀ (r : Bool) (M1 : JM), Rl E M1 μ → Q r → P (.inl (some (.inl (b2i r)))) M1) (h : d_Rule_duplicates_l2 v0 v1 μ Q) : JX 107 2 [jR v0, jI v1, g2] [] M P := by
  refine h (fun v1 => ∀ (g2 : JV) (M : JM), Rl E M μ → JX 107 2 [jR v0, jI v1, g2] [] M P) ?_ _ _ hM
  intro v1 h g2 M hM
  exact k_Rule_duplicates_b2 hv0 hM hQ (fun v1 g2 M hM h => h g2 M hM) h
theorem k_Rule_duplicates {E : JE2} {v0 : Nat} {μ : Mem} {M : JM} {Q : Bool → Prop} (hv0 : rt v0 = 5) (hM : Rl E M μ) (h : d_Rule_duplicates v0 μ Q) : JX 107 0 (jargs 107 [jR v0]) [] M (PO E (pQB μ Q) XN) := by
  unfold d_Rule_duplicates at h
  show JX 107 0 [jR v0, jU, jU] [] M (PO E (pQB μ Q) XN)
  generalize hP : PO E (pQB μ Q) XN = P
  have hQ : ∀ (r : Bool) (M1 : JM), Rl E M1 μ → Q r → P (.inl (some (.inl (b2i r)))) M1 := by rw [← hP]; exact fun r M1 a b => ⟨μ, a, rfl, r, rfl, b⟩
  clear hP
  refine L_ps c107 (n := 2) (pc1 := 2) (ls1 := [jR v0, jI 0, jU]) (st1 := []) rfl ?_
  exact k_Rule_duplicates_l2 hv0 hM hQ h
theorem k_OB_isDuplicating {E : JE2} {v1 : Int} {μ : Mem} {M : JM} {Q : Bool → Mem → Prop} {X : Nat → Mem → Prop} (hM : Rl E M μ) (h : d_OB_isDuplicating v1 μ Q X) : JX 106 0 (jargs 106 [jR 0, jI v1]) [] M (PO E (QB Q) X) := by
  unfold d_OB_isDuplicating at h
  show JX 106 0 [jR 0, jI v1] [] M (PO E (QB Q) X)
  generalize hP : PO E (QB Q) X = P
  have hQ : ∀ (r : Bool) (M1 : JM) (μ1 : Mem), Rl E M1 μ1 → Q r μ1 → P (.inl (some (.inl (b2i r)))) M1 := by rw [← hP]; exact fun r M1 μ1 a b => ⟨μ1, a, r, rfl, b⟩
  have hX : ∀ (k : Nat) (M1 : JM) (μ1 : Mem), Rl E M1 μ1 → X k μ1 → P (.inr k) M1 := by rw [← hP]; exact fun k M1 μ1 a b => ⟨μ1, a, b⟩
  clear hP
  refine L_ps c106 (n := 2) (pc1 := 2) (ls1 := [jR 0, jI v1]) (st1 := [jI v1, jR 0]) rfl ?_
  refine L_cR (c106 2 rfl) (js_v rfl ((Rl_tag hM rt0 (by decide)).trans js98)) hh106 (k_OB_requireRule hM h) (fun r1 M μ2 hM hr1 h => ?_) (fun k M μx hM hx => hX _ _ _ hM hx)
  refine L_cpB (c106 5 rfl) (js_v rfl ((Rl_tag hM hr1 (by decide)).trans js107)) hh106 (k_Rule_duplicates hr1 hM h) (fun r3 M hM h => ?_) (fun _ _ _ _ f => f.elim)
  exact L_retB (c106 8 rfl) (bz_b _) (hQ _ _ _ hM h)
theorem k_Lw_isDuplicating_j15 {E : JE2} {t1 : Int} {t2 : Int64} {μ : Mem} {M : JM} {P : JO → JM → Prop} {g0 : JV} {g1 : JV} {g2 : JV} {g3 : JV} {Q : Int → Mem → Prop} (hM : Rl E M μ) (hQ : ∀ (r : Int) (M1 : JM) (μ1 : Mem), Rl E M1 μ1 → Q r μ1 → P (.inl (some (.inl r))) M1) (h : d_Lw_isDuplicating_j15 t1 t2 μ Q) : JX 105 15 [g0, g1, g2, g3] [jX (.long t2), jI t1, jR 795] M P := by
  unfold d_Lw_isDuplicating_j15 at h
  obtain ⟨hb, h⟩ := h
  refine L_last (c105 15 rfl) hM rt795 ln795 hb (fun M hM => ?_)
  refine L_ps c105 (n := 2) (pc1 := 26) (ls1 := [g0, g1, g2, g3]) (st1 := [jI 0]) rfl ?_
  exact L_retI (c105 26 rfl) (hQ _ _ _ hM h)
theorem k_Lw_isDuplicating {E : JE2} {v1 : Int} {μ : Mem} {M : JM} {Q : Int → Mem → Prop} (hM : Rl E M μ) (h : d_Lw_isDuplicating v1 μ Q) : JX 105 0 (jargs 105 [jR 0, jI v1, jR 795]) [] M (PO E (QI Q) XN) := by
  unfold d_Lw_isDuplicating at h
  show JX 105 0 [jR 0, jI v1, jR 795, jU] [] M (PO E (QI Q) XN)
  generalize hP : PO E (QI Q) XN = P
  have hQ : ∀ (r : Int) (M1 : JM) (μ1 : Mem), Rl E M1 μ1 → Q r μ1 → P (.inl (some (.inl r))) M1 := by rw [← hP]; exact fun r M1 μ1 a b => ⟨μ1, a, r, rfl, b⟩
  clear hP
  refine L_ps c105 (n := 4) (pc1 := 4) (ls1 := [jR 0, jI v1, jR 795, jU]) (st1 := [jI v1, jR 0, jI 0, jR 795]) rfl ?_
  refine L_cBH (c105 4 rfl) (js_v rfl ((Rl_tag hM rt0 (by decide)).trans js106)) (k_OB_isDuplicating hM h) (fun r1 M μ2 hM h => ?_) (fun k M μx hM h => ?_)
  · refine L_nb (p1 := 14) (p2 := 10) (c105 7 rfl) rfl jc_eqb h (fun h => ?_) (fun h => ?_)
    · refine L_ps c105 (n := 2) (pc1 := 15) (ls1 := [jR 0, jI v1, jR 795, jU]) (st1 := [jX (.long (Int64.ofNat 1)), jI 0, jR 795]) rfl ?_
      exact k_Lw_isDuplicating_j15 hM hQ h
    · refine L_ps c105 (n := 1) (pc1 := 15) (ls1 := [jR 0, jI v1, jR 795, jU]) (st1 := [jX (.long (Int64.ofNat 0)), jI 0, jR 795]) rfl ?_
      exact k_Lw_isDuplicating_j15 hM hQ h
  · by_cases hk0 : k = 0
    · rw [if_pos hk0] at h
      subst hk0
      refine JH_of (h := 19) (i := 3) (pc1 := 20) (ls1 := [jR 0, jI v1, jR 795, jU]) rfl rfl (Nat.le_of_ble_eq_true rfl) rfl rfl ?_
      refine L_ps c105 (n := 1) (pc1 := 21) (ls1 := [jR 0, jI v1, jR 795, jU]) (st1 := [jI 1]) rfl ?_
      exact L_retI (c105 21 rfl) (hQ _ _ _ hM h)
    rw [if_neg hk0] at h
    by_cases hk1 : k = 1
    · rw [if_pos hk1] at h
      subst hk1
      refine JH_of (h := 22) (i := 3) (pc1 := 23) (ls1 := [jR 0, jI v1, jR 795, jU]) rfl rfl (Nat.le_of_ble_eq_true rfl) rfl rfl ?_
      refine L_ps c105 (n := 1) (pc1 := 24) (ls1 := [jR 0, jI v1, jR 795, jU]) (st1 := [jI 2]) rfl ?_
      exact L_retI (c105 24 rfl) (hQ _ _ _ hM h)
    rw [if_neg hk1] at h
    exact h.elim
theorem k_OB_decreasesSize {E : JE2} {v1 : Int} {μ : Mem} {M : JM} {Q : Bool → Mem → Prop} {X : Nat → Mem → Prop} (hM : Rl E M μ) (h : d_OB_decreasesSize v1 μ Q X) : JX 109 0 (jargs 109 [jR 0, jI v1]) [] M (PO E (QB Q) X) := by
  unfold d_OB_decreasesSize at h
  show JX 109 0 [jR 0, jI v1, jU] [] M (PO E (QB Q) X)
  generalize hP : PO E (QB Q) X = P
  have hQ : ∀ (r : Bool) (M1 : JM) (μ1 : Mem), Rl E M1 μ1 → Q r μ1 → P (.inl (some (.inl (b2i r)))) M1 := by rw [← hP]; exact fun r M1 μ1 a b => ⟨μ1, a, r, rfl, b⟩
  have hX : ∀ (k : Nat) (M1 : JM) (μ1 : Mem), Rl E M1 μ1 → X k μ1 → P (.inr k) M1 := by rw [← hP]; exact fun k M1 μ1 a b => ⟨μ1, a, b⟩
  clear hP
  refine L_ps c109 (n := 2) (pc1 := 2) (ls1 := [jR 0, jI v1, jU]) (st1 := [jI v1, jR 0]) rfl ?_
  refine L_cR (c109 2 rfl) (js_v rfl ((Rl_tag hM rt0 (by decide)).trans js98)) hh109 (k_OB_requireRule hM h) (fun r1 M μ2 hM hr1 h => ?_) (fun k M μx hM hx => hX _ _ _ hM hx)
  refine L_ps c109 (n := 2) (pc1 := 7) (ls1 := [jR 0, jI v1, jR r1]) (st1 := [jR r1]) rfl ?_
  refine L_getD (c109 7 rfl) hM hr1 (by decide) ?_
  refine L_getI (c109 10 rfl) hM (dp_rt _) rfl ?_
  refine L_ps c109 (n := 1) (pc1 := 14) (ls1 := [jR 0, jI v1, jR r1]) (st1 := [jR r1, jI (μ2 (dp (μ2 r1 1)) 1)]) rfl ?_
  refine L_getD (c109 14 rfl) hM hr1 (by decide) ?_
  refine L_getI (c109 17 rfl) hM (dp_rt _) rfl ?_
  refine L_nb (p1 := 34) (p2 := 23) (c109 20 rfl) rfl jc_ge h (fun h => ?_) (fun h => ?_)
  · refine L_ps c109 (n := 1) (pc1 := 24) (ls1 := [jR 0, jI v1, jR r1]) (st1 := [jR r1]) rfl ?_
    refine L_cpB (c109 24 rfl) (js_v rfl ((Rl_tag hM hr1 (by decide)).trans js107)) hh109 (k_Rule_duplicates hr1 hM h) (fun r3 M hM h => ?_) (fun _ _ _ _ f => f.elim)
    refine L_br (p1 := 34) (p2 := 30) (c109 27 rfl) rfl jc_neb h (fun h => ?_) (fun h => ?_)
    · refine L_ps c109 (n := 1) (pc1 := 35) (ls1 := [jR 0, jI v1, jR r1]) (st1 := [jI 0]) rfl ?_
      exact L_retB (c109 35 rfl) (Or.inl rfl) (hQ false _ _ hM h)
    · refine L_ps c109 (n := 2) (pc1 := 35) (ls1 := [jR 0, jI v1, jR r1]) (st1 := [jI 1]) rfl ?_
      exact L_retB (c109 35 rfl) (Or.inr rfl) (hQ true _ _ hM h)
  · refine L_ps c109 (n := 1) (pc1 := 35) (ls1 := [jR 0, jI v1, jR r1]) (st1 := [jI 0]) rfl ?_
    exact L_retB (c109 35 rfl) (Or.inl rfl) (hQ false _ _ hM h)
theorem k_Lw_decreasesSize_j15 {E : JE2} {t1 : Int} {t2 : Int64} {μ : Mem} {M : JM} {P : JO → JM → Prop} {g0 : JV} {g1 : JV} {g2 : JV} {g3 : JV} {Q : Int → Mem → Prop} (hM : Rl E M μ) (hQ : ∀ (r : Int) (M1 : JM) (μ1 : Mem), Rl E M1 μ1 → Q r μ1 → P (.inl (some (.inl r))) M1) (h : d_Lw_decreasesSize_j15 t1 t2 μ Q) : JX 108 15 [g0, g1, g2, g3] [jX (.long t2), jI t1, jR 795] M P := by
  unfold d_Lw_decreasesSize_j15 at h
  obtain ⟨hb, h⟩ := h
  refine L_last (c108 15 rfl) hM rt795 ln795 hb (fun M hM => ?_)
  refine L_ps c108 (n := 2) (pc1 := 26) (ls1 := [g0, g1, g2, g3]) (st1 := [jI 0]) rfl ?_
  exact L_retI (c108 26 rfl) (hQ _ _ _ hM h)
theorem k_Lw_decreasesSize {E : JE2} {v1 : Int} {μ : Mem} {M : JM} {Q : Int → Mem → Prop} (hM : Rl E M μ) (h : d_Lw_decreasesSize v1 μ Q) : JX 108 0 (jargs 108 [jR 0, jI v1, jR 795]) [] M (PO E (QI Q) XN) := by
  unfold d_Lw_decreasesSize at h
  show JX 108 0 [jR 0, jI v1, jR 795, jU] [] M (PO E (QI Q) XN)
  generalize hP : PO E (QI Q) XN = P
  have hQ : ∀ (r : Int) (M1 : JM) (μ1 : Mem), Rl E M1 μ1 → Q r μ1 → P (.inl (some (.inl r))) M1 := by rw [← hP]; exact fun r M1 μ1 a b => ⟨μ1, a, r, rfl, b⟩
  clear hP
  refine L_ps c108 (n := 4) (pc1 := 4) (ls1 := [jR 0, jI v1, jR 795, jU]) (st1 := [jI v1, jR 0, jI 0, jR 795]) rfl ?_
  refine L_cBH (c108 4 rfl) (js_v rfl ((Rl_tag hM rt0 (by decide)).trans js109)) (k_OB_decreasesSize hM h) (fun r1 M μ2 hM h => ?_) (fun k M μx hM h => ?_)
  · refine L_nb (p1 := 14) (p2 := 10) (c108 7 rfl) rfl jc_eqb h (fun h => ?_) (fun h => ?_)
    · refine L_ps c108 (n := 2) (pc1 := 15) (ls1 := [jR 0, jI v1, jR 795, jU]) (st1 := [jX (.long (Int64.ofNat 1)), jI 0, jR 795]) rfl ?_
      exact k_Lw_decreasesSize_j15 hM hQ h
    · refine L_ps c108 (n := 1) (pc1 := 15) (ls1 := [jR 0, jI v1, jR 795, jU]) (st1 := [jX (.long (Int64.ofNat 0)), jI 0, jR 795]) rfl ?_
      exact k_Lw_decreasesSize_j15 hM hQ h
  · by_cases hk0 : k = 0
    · rw [if_pos hk0] at h
      subst hk0
      refine JH_of (h := 19) (i := 3) (pc1 := 20) (ls1 := [jR 0, jI v1, jR 795, jU]) rfl rfl (Nat.le_of_ble_eq_true rfl) rfl rfl ?_
      refine L_ps c108 (n := 1) (pc1 := 21) (ls1 := [jR 0, jI v1, jR 795, jU]) (st1 := [jI 1]) rfl ?_
      exact L_retI (c108 21 rfl) (hQ _ _ _ hM h)
    rw [if_neg hk0] at h
    by_cases hk1 : k = 1
    · rw [if_pos hk1] at h
      subst hk1
      refine JH_of (h := 22) (i := 3) (pc1 := 23) (ls1 := [jR 0, jI v1, jR 795, jU]) rfl rfl (Nat.le_of_ble_eq_true rfl) rfl rfl ?_
      refine L_ps c108 (n := 1) (pc1 := 24) (ls1 := [jR 0, jI v1, jR 795, jU]) (st1 := [jI 2]) rfl ?_
      exact L_retI (c108 24 rfl) (hQ _ _ _ hM h)
    rw [if_neg hk1] at h
    exact h.elim
theorem k_OB_termCount {E : JE2} {μ : Mem} {M : JM} {Q : Int → Mem → Prop} {X : Nat → Mem → Prop} (hM : Rl E M μ) (h : d_OB_termCount μ Q X) : JX 111 0 (jargs 111 [jR 0]) [] M (PO E (QI Q) X) := by
  unfold d_OB_termCount at h
  show JX 111 0 [jR 0] [] M (PO E (QI Q) X)
  generalize hP : PO E (QI Q) X = P
  have hQ : ∀ (r : Int) (M1 : JM) (μ1 : Mem), Rl E M1 μ1 → Q r μ1 → P (.inl (some (.inl r))) M1 := by rw [← hP]; exact fun r M1 μ1 a b => ⟨μ1, a, r, rfl, b⟩
  have hX : ∀ (k : Nat) (M1 : JM) (μ1 : Mem), Rl E M1 μ1 → X k μ1 → P (.inr k) M1 := by rw [← hP]; exact fun k M1 μ1 a b => ⟨μ1, a, b⟩
  clear hP
  refine L_ps c111 (n := 1) (pc1 := 1) (ls1 := [jR 0]) (st1 := [jR 0]) rfl ?_
  refine L_cV (c111 1 rfl) (js_v rfl ((Rl_tag hM rt0 (by decide)).trans js86)) hh111 (k_OB_requireSystem hM h) (fun M μ2 hM h => ?_) (fun k M μx hM hx => hX _ _ _ hM hx)
  refine L_ps c111 (n := 1) (pc1 := 5) (ls1 := [jR 0]) (st1 := [jR 0]) rfl ?_
  refine L_getP (d := 5) (c111 5 rfl) hM rt0 rfl ?_
  refine L_getI (c111 8 rfl) hM rt5 rfl ?_
  exact L_retI (c111 11 rfl) (hQ _ _ _ hM h)
theorem k_Lw_termCount {E : JE2} {μ : Mem} {M : JM} {Q : Int → Mem → Prop} (hM : Rl E M μ) (h : d_Lw_termCount μ Q) : JX 110 0 (jargs 110 [jR 0, jR 795]) [] M (PO E (QI Q) XN) := by
  unfold d_Lw_termCount at h
  show JX 110 0 [jR 0, jR 795, jU] [] M (PO E (QI Q) XN)
  generalize hP : PO E (QI Q) XN = P
  have hQ : ∀ (r : Int) (M1 : JM) (μ1 : Mem), Rl E M1 μ1 → Q r μ1 → P (.inl (some (.inl r))) M1 := by rw [← hP]; exact fun r M1 μ1 a b => ⟨μ1, a, r, rfl, b⟩
  clear hP
  refine L_ps c110 (n := 3) (pc1 := 3) (ls1 := [jR 0, jR 795, jU]) (st1 := [jR 0, jI 0, jR 795]) rfl ?_
  refine L_cIH (c110 3 rfl) (js_v rfl ((Rl_tag hM rt0 (by decide)).trans js111)) (k_OB_termCount hM h) (fun r1 M μ2 hM h => ?_) (fun k M μx hM h => ?_)
  · refine L_ps c110 (n := 1) (pc1 := 7) (ls1 := [jR 0, jR 795, jU]) (st1 := [jX (.long ((Int32.ofInt r1).toInt64)), jI 0, jR 795]) rfl ?_
    refine L_last (c110 7 rfl) hM rt795 ln795 (by decide) (fun M hM => ?_)
    refine L_ps c110 (n := 2) (pc1 := 15) (ls1 := [jR 0, jR 795, jU]) (st1 := [jI 0]) rfl ?_
    exact L_retI (c110 15 rfl) (hQ _ _ _ hM h)
  · by_cases hk0 : k = 0
    · rw [if_pos hk0] at h
      subst hk0
      refine JH_of (h := 11) (i := 2) (pc1 := 12) (ls1 := [jR 0, jR 795, jU]) rfl rfl (Nat.le_of_ble_eq_true rfl) rfl rfl ?_
      refine L_ps c110 (n := 1) (pc1 := 13) (ls1 := [jR 0, jR 795, jU]) (st1 := [jI 1]) rfl ?_
      exact L_retI (c110 13 rfl) (hQ _ _ _ hM h)
    rw [if_neg hk0] at h
    exact h.elim
theorem k_OB_requireTerm {E : JE2} {v1 : Int} {μ : Mem} {M : JM} {Q : Nat → Mem → Prop} {X : Nat → Mem → Prop} (hM : Rl E M μ) (h : d_OB_requireTerm v1 μ Q X) : JX 114 0 (jargs 114 [jR 0, jI v1]) [] M (PO E (QR 8 Q) X) := by
  unfold d_OB_requireTerm at h
  show JX 114 0 [jR 0, jI v1] [] M (PO E (QR 8 Q) X)
  generalize hP : PO E (QR 8 Q) X = P
  have hQ : ∀ (r : Nat) (M1 : JM) (μ1 : Mem), Rl E M1 μ1 → rt r = 8 → Q r μ1 → P (.inl (some (.inr (.inl r)))) M1 := by rw [← hP]; exact fun r M1 μ1 a c b => ⟨μ1, a, r, rfl, c, b⟩
  have hX : ∀ (k : Nat) (M1 : JM) (μ1 : Mem), Rl E M1 μ1 → X k μ1 → P (.inr k) M1 := by rw [← hP]; exact fun k M1 μ1 a b => ⟨μ1, a, b⟩
  clear hP
  refine L_ps c114 (n := 1) (pc1 := 1) (ls1 := [jR 0, jI v1]) (st1 := [jR 0]) rfl ?_
  refine L_cV (c114 1 rfl) (js_v rfl ((Rl_tag hM rt0 (by decide)).trans js86)) hh114 (k_OB_requireSystem hM h) (fun M μ2 hM h => ?_) (fun k M μx hM hx => hX _ _ _ hM hx)
  refine L_ps c114 (n := 3) (pc1 := 7) (ls1 := [jR 0, jI v1]) (st1 := [jR 0, jI v1, jR 0]) rfl ?_
  refine L_getP (d := 5) (c114 7 rfl) hM rt0 rfl ?_
  refine L_getI (c114 10 rfl) hM rt5 rfl ?_
  refine L_cV (c114 13 rfl) (js_v rfl ((Rl_tag hM rt0 (by decide)).trans js89)) hh114 (k_OB_requireIndex hM h) (fun M μ4 hM h => ?_) (fun k M μx hM hx => hX _ _ _ hM hx)
  refine L_ps c114 (n := 1) (pc1 := 17) (ls1 := [jR 0, jI v1]) (st1 := [jR 0]) rfl ?_
  refine L_getP (d := 5) (c114 17 rfl) hM rt0 rfl ?_
  refine L_ps c114 (n := 1) (pc1 := 21) (ls1 := [jR 0, jI v1]) (st1 := [jI v1, jR 5]) rfl ?_
  refine L_cpR (c114 21 rfl) (js_v rfl ((Rl_tag hM rt5 (by decide)).trans js61)) hh114 (k_State_term rt5 hM h) (fun r5 M hM hr5 h => ?_) (fun _ _ _ _ f => f.elim)
  exact L_end (c114 24 rfl) rfl (hQ _ _ _ hM hr5 h)
theorem k_OB_termSize {E : JE2} {v1 : Int} {μ : Mem} {M : JM} {Q : Int → Mem → Prop} {X : Nat → Mem → Prop} (hM : Rl E M μ) (h : d_OB_termSize v1 μ Q X) : JX 113 0 (jargs 113 [jR 0, jI v1]) [] M (PO E (QI Q) X) := by
  unfold d_OB_termSize at h
  show JX 113 0 [jR 0, jI v1] [] M (PO E (QI Q) X)
  generalize hP : PO E (QI Q) X = P
  have hQ : ∀ (r : Int) (M1 : JM) (μ1 : Mem), Rl E M1 μ1 → Q r μ1 → P (.inl (some (.inl r))) M1 := by rw [← hP]; exact fun r M1 μ1 a b => ⟨μ1, a, r, rfl, b⟩
  have hX : ∀ (k : Nat) (M1 : JM) (μ1 : Mem), Rl E M1 μ1 → X k μ1 → P (.inr k) M1 := by rw [← hP]; exact fun k M1 μ1 a b => ⟨μ1, a, b⟩
  clear hP
  refine L_ps c113 (n := 2) (pc1 := 2) (ls1 := [jR 0, jI v1]) (st1 := [jI v1, jR 0]) rfl ?_
  refine L_cR (c113 2 rfl) (js_v rfl ((Rl_tag hM rt0 (by decide)).trans js114)) hh113 (k_OB_requireTerm hM h) (fun r1 M μ2 hM hr1 h => ?_) (fun k M μx hM hx => hX _ _ _ hM hx)
  refine L_getI (c113 5 rfl) hM hr1 rfl ?_
  exact L_retI (c113 8 rfl) (hQ _ _ _ hM h)
theorem k_Lw_termSize {E : JE2} {v1 : Int} {μ : Mem} {M : JM} {Q : Int → Mem → Prop} (hM : Rl E M μ) (h : d_Lw_termSize v1 μ Q) : JX 112 0 (jargs 112 [jR 0, jI v1, jR 795]) [] M (PO E (QI Q) XN) := by
  unfold d_Lw_termSize at h
  show JX 112 0 [jR 0, jI v1, jR 795, jU] [] M (PO E (QI Q) XN)
  generalize hP : PO E (QI Q) XN = P
  have hQ : ∀ (r : Int) (M1 : JM) (μ1 : Mem), Rl E M1 μ1 → Q r μ1 → P (.inl (some (.inl r))) M1 := by rw [← hP]; exact fun r M1 μ1 a b => ⟨μ1, a, r, rfl, b⟩
  clear hP
  refine L_ps c112 (n := 4) (pc1 := 4) (ls1 := [jR 0, jI v1, jR 795, jU]) (st1 := [jI v1, jR 0, jI 0, jR 795]) rfl ?_
  refine L_cIH (c112 4 rfl) (js_v rfl ((Rl_tag hM rt0 (by decide)).trans js113)) (k_OB_termSize hM h) (fun r1 M μ2 hM h => ?_) (fun k M μx hM h => ?_)
  · refine L_ps c112 (n := 1) (pc1 := 8) (ls1 := [jR 0, jI v1, jR 795, jU]) (st1 := [jX (.long ((Int32.ofInt r1).toInt64)), jI 0, jR 795]) rfl ?_
    refine L_last (c112 8 rfl) hM rt795 ln795 (by decide) (fun M hM => ?_)
    refine L_ps c112 (n := 2) (pc1 := 19) (ls1 := [jR 0, jI v1, jR 795, jU]) (st1 := [jI 0]) rfl ?_
    exact L_retI (c112 19 rfl) (hQ _ _ _ hM h)
  · by_cases hk0 : k = 0
    · rw [if_pos hk0] at h
      subst hk0
      refine JH_of (h := 12) (i := 3) (pc1 := 13) (ls1 := [jR 0, jI v1, jR 795, jU]) rfl rfl (Nat.le_of_ble_eq_true rfl) rfl rfl ?_
      refine L_ps c112 (n := 1) (pc1 := 14) (ls1 := [jR 0, jI v1, jR 795, jU]) (st1 := [jI 1]) rfl ?_
      exact L_retI (c112 14 rfl) (hQ _ _ _ hM h)
    rw [if_neg hk0] at h
    by_cases hk1 : k = 1
    · rw [if_pos hk1] at h
      subst hk1
      refine JH_of (h := 15) (i := 3) (pc1 := 16) (ls1 := [jR 0, jI v1, jR 795, jU]) rfl rfl (Nat.le_of_ble_eq_true rfl) rfl rfl ?_
      refine L_ps c112 (n := 1) (pc1 := 17) (ls1 := [jR 0, jI v1, jR 795, jU]) (st1 := [jI 2]) rfl ?_
      exact L_retI (c112 17 rfl) (hQ _ _ _ hM h)
    rw [if_neg hk1] at h
    exact h.elim
theorem k_OB_depthOf_j62 {E : JE2} {v1 : Nat} {v2 : Int} {v3 : Int} {v4 : Int} {v5 : Int} {μ : Mem} {M : JM} {P : JO → JM → Prop} {W12 : Int → Int → Int → Mem → Prop} {W30 : Int → Int → Int → Prop} {Q : Int → Mem → Prop} (hv1 : rt v1 = 8) (hM : Rl E M μ) (hQ : ∀ (r : Int) (M1 : JM) (μ1 : Mem), Rl E M1 μ1 → Q r μ1 → P (.inl (some (.inl r))) M1) (hW12 : ∀ (v2 : Int) (v3 : Int) (v4 : Int) (g5 : JV) (M1 : JM) (μ1 : Mem), Rl E M1 μ1 → W12 v2 v3 v4 μ1 → JX 117 12 [jR 0, jR v1, jI v2, jI v3, jI v4, g5] [] M1 P) (hW30 : ∀ (v2 : Int) (v3 : Int) (v5 : Int) (M1 : JM), Rl E M1 μ → W30 v2 v3 v5 → JX 117 30 [jR 0, jR v1, jI v2, jI v3, jI v4, jI v5] [] M1 P) (h : d_OB_depthOf_j62 v1 v2 v3 v4 v5 μ W12 W30 Q) : JX 117 62 [jR 0, jR v1, jI v2, jI v3, jI v4, jI v5] [] M P := by
  unfold d_OB_depthOf_j62 at h
  refine L_ps c117 (n := 2) (pc1 := 30) (ls1 := [jR 0, jR v1, jI v2, jI v3, jI v4, jI (wr (v5 + (-1)))]) (st1 := []) rfl ?_
  exact hW30 _ _ _ _ hM h
theorem k_OB_depthOf_j91 {E : JE2} {v1 : Nat} {v2 : Int} {v3 : Int} {v4 : Int} {μ : Mem} {M : JM} {P : JO → JM → Prop} {g5 : JV} {W12 : Int → Int → Int → Mem → Prop} {Q : Int → Mem → Prop} (hv1 : rt v1 = 8) (hM : Rl E M μ) (hQ : ∀ (r : Int) (M1 : JM) (μ1 : Mem), Rl E M1 μ1 → Q r μ1 → P (.inl (some (.inl r))) M1) (hW12 : ∀ (v2 : Int) (v3 : Int) (v4 : Int) (g5 : JV) (M1 : JM) (μ1 : Mem), Rl E M1 μ1 → W12 v2 v3 v4 μ1 → JX 117 12 [jR 0, jR v1, jI v2, jI v3, jI v4, g5] [] M1 P) (h : d_OB_depthOf_j91 v1 v2 v3 v4 μ W12 Q) : JX 117 91 [jR 0, jR v1, jI v2, jI v3, jI v4, g5] [] M P := by
  unfold d_OB_depthOf_j91 at h
  refine L_ps c117 (n := 3) (pc1 := 12) (ls1 := [jR 0, jR v1, jI (wr (v2 + 1)), jI v3, jI (wr (v4 + (-1))), g5]) (st1 := []) rfl ?_
  exact hW12 _ _ _ _ _ _ hM h
theorem k_OB_depthOf_b30 {E : JE2} {v1 : Nat} {v4 : Int} {v2 : Int} {v3 : Int} {v5 : Int} {μ : Mem} {M : JM} {P : JO → JM → Prop} {W12 : Int → Int → Int → Mem → Prop} {W30 : Int → Int → Int → Prop} {Q : Int → Mem → Prop} (hv1 : rt v1 = 8) (hM : Rl E M μ) (hQ : ∀ (r : Int) (M1 : JM) (μ1 : Mem), Rl E M1 μ1 → Q r μ1 → P (.inl (some (.inl r))) M1) (hW12 : ∀ (v2 : Int) (v3 : Int) (v4 : Int) (g5 : JV) (M1 : JM) (μ1 : Mem), Rl E M1 μ1 → W12 v2 v3 v4 μ1 → JX 117 12 [jR 0, jR v1, jI v2, jI v3, jI v4, g5] [] M1 P) (hW30 : ∀ (v2 : Int) (v3 : Int) (v5 : Int) (M1 : JM), Rl E M1 μ → W30 v2 v3 v5 → JX 117 30 [jR 0, jR v1, jI v2, jI v3, jI v4, jI v5] [] M1 P) (h : d_OB_depthOf_b30 v1 v4 v2 v3 v5 μ W12 W30 Q) : JX 117 30 [jR 0, jR v1, jI v2, jI v3, jI v4, jI v5] [] M P := by
  unfold d_OB_depthOf_b30 at h
  refine L_ps c117 (n := 1) (pc1 := 32) (ls1 := [jR 0, jR v1, jI v2, jI v3, jI v4, jI v5]) (st1 := [jI v5]) rfl ?_
  refine L_nb (p1 := 68) (p2 := 35) (c117 32 rfl) rfl jc_le h (fun h => ?_) (fun h => ?_)
  · refine L_ps c117 (n := 2) (pc1 := 39) (ls1 := [jR 0, jR v1, jI (wr (v2 + (-1))), jI v3, jI v4, jI v5]) (st1 := [jI (wr (v2 + (-1)))]) rfl ?_
    refine L_br (p1 := 62) (p2 := 42) (c117 39 rfl) rfl jc_lt h (fun h => ?_) (fun h => ?_)
    · exact k_OB_depthOf_j62 hv1 hM hQ hW12 hW30 h
    · refine L_ps c117 (n := 2) (pc1 := 44) (ls1 := [jR 0, jR v1, jI (wr (v2 + (-1))), jI v3, jI v4, jI v5]) (st1 := [jR 0, jI (wr (v2 + (-1)))]) rfl ?_
      refine L_getP (d := 771) (c117 44 rfl) hM rt0 rfl ?_
      refine L_alen (n := 80) (z := 80) (c117 47 rfl) hM rt771 (by decide) ln771 (by decide) rfl ?_
      refine L_nb (p1 := 62) (p2 := 51) (c117 48 rfl) rfl jc_ge h (fun h => ?_) (fun h => ?_)
      · refine L_ps c117 (n := 2) (pc1 := 53) (ls1 := [jR 0, jR v1, jI (wr (v2 + (-1))), jI v3, jI v4, jI v5]) (st1 := [jR 0, jI v3]) rfl ?_
        refine L_getP (d := 771) (c117 53 rfl) hM rt0 rfl ?_
        refine L_ps c117 (n := 1) (pc1 := 57) (ls1 := [jR 0, jR v1, jI (wr (v2 + (-1))), jI v3, jI v4, jI v5]) (st1 := [jI (wr (v2 + (-1))), jR 771, jI v3]) rfl ?_
        obtain ⟨hb, h⟩ := h
        refine L_iald (c117 57 rfl) hM rt771 ln771 hb ?_
        refine L_cpI (c117 58 rfl) (js_t rfl) hh117 (k_Math_max hM h) (fun r5 M hM h => ?_) (fun _ _ _ _ f => f.elim)
        refine L_ps c117 (n := 1) (pc1 := 62) (ls1 := [jR 0, jR v1, jI (wr (v2 + (-1))), jI r5, jI v4, jI v5]) (st1 := []) rfl ?_
        exact k_OB_depthOf_j62 hv1 hM hQ hW12 hW30 h
      · exact k_OB_depthOf_j62 hv1 hM hQ hW12 hW30 h
  · refine L_ps c117 (n := 2) (pc1 := 72) (ls1 := [jR 0, jR v1, jI v2, jI (wr (v3 + 1)), jI v4, jI v5]) (st1 := [jI v2]) rfl ?_
    refine L_br (p1 := 91) (p2 := 75) (c117 72 rfl) rfl jc_lt h (fun h => ?_) (fun h => ?_)
    · exact k_OB_depthOf_j91 hv1 hM hQ hW12 h
    · refine L_ps c117 (n := 2) (pc1 := 77) (ls1 := [jR 0, jR v1, jI v2, jI (wr (v3 + 1)), jI v4, jI v5]) (st1 := [jR 0, jI v2]) rfl ?_
      refine L_getP (d := 771) (c117 77 rfl) hM rt0 rfl ?_
      refine L_alen (n := 80) (z := 80) (c117 80 rfl) hM rt771 (by decide) ln771 (by decide) rfl ?_
      refine L_nb (p1 := 91) (p2 := 84) (c117 81 rfl) rfl jc_ge h (fun h => ?_) (fun h => ?_)
      · refine L_ps c117 (n := 1) (pc1 := 85) (ls1 := [jR 0, jR v1, jI v2, jI (wr (v3 + 1)), jI v4, jI v5]) (st1 := [jR 0]) rfl ?_
        refine L_getP (d := 771) (c117 85 rfl) hM rt0 rfl ?_
        refine L_ps c117 (n := 2) (pc1 := 90) (ls1 := [jR 0, jR v1, jI v2, jI (wr (v3 + 1)), jI v4, jI v5]) (st1 := [jI (wr (v3 + 1)), jI v2, jR 771]) rfl ?_
        obtain ⟨hb, h⟩ := h
        refine L_iast (c117 90 rfl) hM rt771 ln771 hb (fun M hM => ?_)
        exact k_OB_depthOf_j91 hv1 hM hQ hW12 h
      · exact k_OB_depthOf_j91 hv1 hM hQ hW12 h
theorem k_OB_depthOf_l30 {E : JE2} {v1 : Nat} {v4 : Int} {v2 : Int} {v3 : Int} {v5 : Int} {μ : Mem} {M : JM} {P : JO → JM → Prop} {W12 : Int → Int → Int → Mem → Prop} {Q : Int → Mem → Prop} (hv1 : rt v1 = 8) (hM : Rl E M μ) (hQ : ∀ (r : Int) (M1 : JM) (μ1 : Mem), Rl E M1 μ1 → Q r μ1 → P (.inl (some (.inl r))) M1) (hW12 : ∀ (v2 : Int) (v3 : Int) (v4 : Int) (g5 : JV) (M1 : JM) (μ1 : Mem), Rl E M1 μ1 → W12 v2 v3 v4 μ1 → JX 117 12 [jR 0, jR v1, jI v2, jI v3, jI v4, g5] [] M1 P) (h : d_OB_depthOf_l30 v1 v4 v2 v3 v5 μ W12 Q) : JX 117 30 [jR 0, jR v1, jI v2, jI v3, jI v4, jI v5] [] M P := by
  refine h (fun v2 v3 v5 => ∀ (M : JM), Rl E M μ → JX 117 30 [jR 0, jR v1, jI v2, jI v3, jI v4, jI v5] [] M P) ?_ _ hM
  intro v2 v3 v5 h M hM
  exact k_OB_depthOf_b30 hv1 hM hQ hW12 (fun v2 v3 v5 M hM h => h M hM) h
theorem k_OB_depthOf_b12 {E : JE2} {v1 : Nat} {v2 : Int} {v3 : Int} {v4 : Int} {μ : Mem} {M : JM} {P : JO → JM → Prop} {g5 : JV} {W12 : Int → Int → Int → Mem → Prop} {Q : Int → Mem → Prop} (hv1 : rt v1 = 8) (hM : Rl E M μ) (hQ : ∀ (r : Int) (M1 : JM) (μ1 : Mem), Rl E M1 μ1 → Q r μ1 → P (.inl (some (.inl r))) M1) (hW12 : ∀ (v2 : Int) (v3 : Int) (v4 : Int) (g5 : JV) (M1 : JM) (μ1 : Mem), Rl E M1 μ1 → W12 v2 v3 v4 μ1 → JX 117 12 [jR 0, jR v1, jI v2, jI v3, jI v4, g5] [] M1 P) (h : d_OB_depthOf_b12 v1 v2 v3 v4 μ W12 Q) : JX 117 12 [jR 0, jR v1, jI v2, jI v3, jI v4, g5] [] M P := by
  unfold d_OB_depthOf_b12 at h
  refine L_ps c117 (n := 1) (pc1 := 14) (ls1 := [jR 0, jR v1, jI v2, jI v3, jI v4, g5]) (st1 := [jI v4]) rfl ?_
  refine L_br (p1 := 100) (p2 := 17) (c117 14 rfl) rfl jc_lt h (fun h => ?_) (fun h => ?_)
  · refine L_ps c117 (n := 1) (pc1 := 101) (ls1 := [jR 0, jR v1, jI v2, jI v3, jI v4, g5]) (st1 := [jI v3]) rfl ?_
    exact L_retI (c117 101 rfl) (hQ _ _ _ hM h)
  · refine L_ps c117 (n := 4) (pc1 := 22) (ls1 := [jR 0, jR v1, jI v2, jI 0, jI v4, g5]) (st1 := [jI v4, jR v1]) rfl ?_
    refine L_cpI (c117 22 rfl) (js_v rfl ((Rl_tag hM hv1 (by decide)).trans js53)) hh117 (k_Term_get hv1 hM h) (fun r1 M hM h => ?_) (fun _ _ _ _ f => f.elim)
    refine L_cpI (c117 25 rfl) (js_t rfl) hh117 (k_Term_arityOf hM h) (fun r3 M hM h => ?_) (fun _ _ _ _ f => f.elim)
    refine L_ps c117 (n := 1) (pc1 := 30) (ls1 := [jR 0, jR v1, jI v2, jI 0, jI v4, jI r3]) (st1 := []) rfl ?_
    exact k_OB_depthOf_l30 hv1 hM hQ hW12 h
theorem k_OB_depthOf_l12 {E : JE2} {v1 : Nat} {v2 : Int} {v3 : Int} {v4 : Int} {μ : Mem} {M : JM} {P : JO → JM → Prop} {g5 : JV} {Q : Int → Mem → Prop} (hv1 : rt v1 = 8) (hM : Rl E M μ) (hQ : ∀ (r : Int) (M1 : JM) (μ1 : Mem), Rl E M1 μ1 → Q r μ1 → P (.inl (some (.inl r))) M1) (h : d_OB_depthOf_l12 v1 v2 v3 v4 μ Q) : JX 117 12 [jR 0, jR v1, jI v2, jI v3, jI v4, g5] [] M P := by
  refine h (fun v2 v3 v4 μ => ∀ (g5 : JV) (M : JM), Rl E M μ → JX 117 12 [jR 0, jR v1, jI v2, jI v3, jI v4, g5] [] M P) ?_ _ _ hM
  intro v2 v3 v4 μ h g5 M hM
  exact k_OB_depthOf_b12 hv1 hM hQ (fun v2 v3 v4 g5 M μ hM h => h g5 M hM) h
theorem k_OB_depthOf {E : JE2} {v1 : Nat} {μ : Mem} {M : JM} {Q : Int → Mem → Prop} (hv1 : rt v1 = 8) (hM : Rl E M μ) (h : d_OB_depthOf v1 μ Q) : JX 117 0 (jargs 117 [jR 0, jR v1]) [] M (PO E (QI Q) XN) := by
  unfold d_OB_depthOf at h
  show JX 117 0 [jR 0, jR v1, jU, jU, jU, jU] [] M (PO E (QI Q) XN)
  generalize hP : PO E (QI Q) XN = P
  have hQ : ∀ (r : Int) (M1 : JM) (μ1 : Mem), Rl E M1 μ1 → Q r μ1 → P (.inl (some (.inl r))) M1 := by rw [← hP]; exact fun r M1 μ1 a b => ⟨μ1, a, r, rfl, b⟩
  clear hP
  refine L_ps c117 (n := 5) (pc1 := 5) (ls1 := [jR 0, jR v1, jI 0, jI 0, jU, jU]) (st1 := [jR v1]) rfl ?_
  refine L_getI (c117 5 rfl) hM hv1 rfl ?_
  refine L_ps c117 (n := 3) (pc1 := 12) (ls1 := [jR 0, jR v1, jI 0, jI 0, jI (wr ((μ v1 1) - 1)), jU]) (st1 := []) rfl ?_
  exact k_OB_depthOf_l12 hv1 hM hQ h
theorem k_OB_termDepth {E : JE2} {v1 : Int} {μ : Mem} {M : JM} {Q : Int → Mem → Prop} {X : Nat → Mem → Prop} (hM : Rl E M μ) (h : d_OB_termDepth v1 μ Q X) : JX 116 0 (jargs 116 [jR 0, jI v1]) [] M (PO E (QI Q) X) := by
  unfold d_OB_termDepth at h
  show JX 116 0 [jR 0, jI v1] [] M (PO E (QI Q) X)
  generalize hP : PO E (QI Q) X = P
  have hQ : ∀ (r : Int) (M1 : JM) (μ1 : Mem), Rl E M1 μ1 → Q r μ1 → P (.inl (some (.inl r))) M1 := by rw [← hP]; exact fun r M1 μ1 a b => ⟨μ1, a, r, rfl, b⟩
  have hX : ∀ (k : Nat) (M1 : JM) (μ1 : Mem), Rl E M1 μ1 → X k μ1 → P (.inr k) M1 := by rw [← hP]; exact fun k M1 μ1 a b => ⟨μ1, a, b⟩
  clear hP
  refine L_ps c116 (n := 3) (pc1 := 3) (ls1 := [jR 0, jI v1]) (st1 := [jI v1, jR 0, jR 0]) rfl ?_
  refine L_cR (c116 3 rfl) (js_v rfl ((Rl_tag hM rt0 (by decide)).trans js114)) hh116 (k_OB_requireTerm hM h) (fun r1 M μ2 hM hr1 h => ?_) (fun k M μx hM hx => hX _ _ _ hM hx)
  refine L_cI (c116 6 rfl) (js_v rfl ((Rl_tag hM rt0 (by decide)).trans js117)) hh116 (k_OB_depthOf hr1 hM h) (fun r3 M μ4 hM h => ?_) (fun _ _ _ _ f => f.elim)
  exact L_retI (c116 9 rfl) (hQ _ _ _ hM h)
theorem k_Lw_termDepth {E : JE2} {v1 : Int} {μ : Mem} {M : JM} {Q : Int → Mem → Prop} (hM : Rl E M μ) (h : d_Lw_termDepth v1 μ Q) : JX 115 0 (jargs 115 [jR 0, jI v1, jR 795]) [] M (PO E (QI Q) XN) := by
  unfold d_Lw_termDepth at h
  show JX 115 0 [jR 0, jI v1, jR 795, jU] [] M (PO E (QI Q) XN)
  generalize hP : PO E (QI Q) XN = P
  have hQ : ∀ (r : Int) (M1 : JM) (μ1 : Mem), Rl E M1 μ1 → Q r μ1 → P (.inl (some (.inl r))) M1 := by rw [← hP]; exact fun r M1 μ1 a b => ⟨μ1, a, r, rfl, b⟩
  clear hP
  refine L_ps c115 (n := 4) (pc1 := 4) (ls1 := [jR 0, jI v1, jR 795, jU]) (st1 := [jI v1, jR 0, jI 0, jR 795]) rfl ?_
  refine L_cIH (c115 4 rfl) (js_v rfl ((Rl_tag hM rt0 (by decide)).trans js116)) (k_OB_termDepth hM h) (fun r1 M μ2 hM h => ?_) (fun k M μx hM h => ?_)
  · refine L_ps c115 (n := 1) (pc1 := 8) (ls1 := [jR 0, jI v1, jR 795, jU]) (st1 := [jX (.long ((Int32.ofInt r1).toInt64)), jI 0, jR 795]) rfl ?_
    refine L_last (c115 8 rfl) hM rt795 ln795 (by decide) (fun M hM => ?_)
    refine L_ps c115 (n := 2) (pc1 := 19) (ls1 := [jR 0, jI v1, jR 795, jU]) (st1 := [jI 0]) rfl ?_
    exact L_retI (c115 19 rfl) (hQ _ _ _ hM h)
  · by_cases hk0 : k = 0
    · rw [if_pos hk0] at h
      subst hk0
      refine JH_of (h := 12) (i := 3) (pc1 := 13) (ls1 := [jR 0, jI v1, jR 795, jU]) rfl rfl (Nat.le_of_ble_eq_true rfl) rfl rfl ?_
      refine L_ps c115 (n := 1) (pc1 := 14) (ls1 := [jR 0, jI v1, jR 795, jU]) (st1 := [jI 1]) rfl ?_
      exact L_retI (c115 14 rfl) (hQ _ _ _ hM h)
    rw [if_neg hk0] at h
    by_cases hk1 : k = 1
    · rw [if_pos hk1] at h
      subst hk1
      refine JH_of (h := 15) (i := 3) (pc1 := 16) (ls1 := [jR 0, jI v1, jR 795, jU]) rfl rfl (Nat.le_of_ble_eq_true rfl) rfl rfl ?_
      refine L_ps c115 (n := 1) (pc1 := 17) (ls1 := [jR 0, jI v1, jR 795, jU]) (st1 := [jI 2]) rfl ?_
      exact L_retI (c115 17 rfl) (hQ _ _ _ hM h)
    rw [if_neg hk1] at h
    exact h.elim
theorem k_OB_requireNode {E : JE2} {v1 : Int} {v2 : Int} {μ : Mem} {M : JM} {Q : Nat → Mem → Prop} {X : Nat → Mem → Prop} (hM : Rl E M μ) (h : d_OB_requireNode v1 v2 μ Q X) : JX 120 0 (jargs 120 [jR 0, jI v1, jI v2]) [] M (PO E (QR 8 Q) X) := by
  unfold d_OB_requireNode at h
  show JX 120 0 [jR 0, jI v1, jI v2, jU] [] M (PO E (QR 8 Q) X)
  generalize hP : PO E (QR 8 Q) X = P
  have hQ : ∀ (r : Nat) (M1 : JM) (μ1 : Mem), Rl E M1 μ1 → rt r = 8 → Q r μ1 → P (.inl (some (.inr (.inl r)))) M1 := by rw [← hP]; exact fun r M1 μ1 a c b => ⟨μ1, a, r, rfl, c, b⟩
  have hX : ∀ (k : Nat) (M1 : JM) (μ1 : Mem), Rl E M1 μ1 → X k μ1 → P (.inr k) M1 := by rw [← hP]; exact fun k M1 μ1 a b => ⟨μ1, a, b⟩
  clear hP
  refine L_ps c120 (n := 2) (pc1 := 2) (ls1 := [jR 0, jI v1, jI v2, jU]) (st1 := [jI v1, jR 0]) rfl ?_
  refine L_cR (c120 2 rfl) (js_v rfl ((Rl_tag hM rt0 (by decide)).trans js114)) hh120 (k_OB_requireTerm hM h) (fun r1 M μ2 hM hr1 h => ?_) (fun k M μx hM hx => hX _ _ _ hM hx)
  refine L_ps c120 (n := 4) (pc1 := 9) (ls1 := [jR 0, jI v1, jI v2, jR r1]) (st1 := [jR r1, jI v2, jR 0]) rfl ?_
  refine L_getI (c120 9 rfl) hM hr1 rfl ?_
  refine L_cV (c120 12 rfl) (js_v rfl ((Rl_tag hM rt0 (by decide)).trans js89)) hh120 (k_OB_requireIndex hM h) (fun M μ4 hM h => ?_) (fun k M μx hM hx => hX _ _ _ hM hx)
  refine L_ps c120 (n := 1) (pc1 := 16) (ls1 := [jR 0, jI v1, jI v2, jR r1]) (st1 := [jR r1]) rfl ?_
  exact L_end (c120 16 rfl) rfl (hQ _ _ _ hM hr1 h)
theorem k_Term_symbolOf {E : JE2} {v0 : Int} {μ : Mem} {M : JM} {Q : Int → Prop} (hM : Rl E M μ) (h : d_Term_symbolOf v0 μ Q) : JX 121 0 (jargs 121 [jI v0]) [] M (PO E (pQI μ Q) XN) := by
  unfold d_Term_symbolOf at h
  show JX 121 0 [jI v0] [] M (PO E (pQI μ Q) XN)
  generalize hP : PO E (pQI μ Q) XN = P
  have hQ : ∀ (r : Int) (M1 : JM), Rl E M1 μ → Q r → P (.inl (some (.inl r))) M1 := by rw [← hP]; exact fun r M1 a b => ⟨μ, a, rfl, r, rfl, b⟩
  clear hP
  refine L_ps c121 (n := 1) (pc1 := 1) (ls1 := [jI v0]) (st1 := [jI v0]) rfl ?_
  refine L_nb (p1 := 8) (p2 := 4) (c121 1 rfl) rfl jc_ge h (fun h => ?_) (fun h => ?_)
  · refine L_ps c121 (n := 2) (pc1 := 11) (ls1 := [jI v0]) (st1 := [jI (-1)]) rfl ?_
    exact L_retI (c121 11 rfl) (hQ _ _ hM h)
  · refine L_ps c121 (n := 3) (pc1 := 11) (ls1 := [jI v0]) (st1 := [jI (jshr v0 2)]) rfl ?_
    exact L_retI (c121 11 rfl) (hQ _ _ hM h)
theorem k_OB_symbolAt {E : JE2} {v1 : Int} {v2 : Int} {μ : Mem} {M : JM} {Q : Int → Mem → Prop} {X : Nat → Mem → Prop} (hM : Rl E M μ) (h : d_OB_symbolAt v1 v2 μ Q X) : JX 119 0 (jargs 119 [jR 0, jI v1, jI v2]) [] M (PO E (QI Q) X) := by
  unfold d_OB_symbolAt at h
  show JX 119 0 [jR 0, jI v1, jI v2] [] M (PO E (QI Q) X)
  generalize hP : PO E (QI Q) X = P
  have hQ : ∀ (r : Int) (M1 : JM) (μ1 : Mem), Rl E M1 μ1 → Q r μ1 → P (.inl (some (.inl r))) M1 := by rw [← hP]; exact fun r M1 μ1 a b => ⟨μ1, a, r, rfl, b⟩
  have hX : ∀ (k : Nat) (M1 : JM) (μ1 : Mem), Rl E M1 μ1 → X k μ1 → P (.inr k) M1 := by rw [← hP]; exact fun k M1 μ1 a b => ⟨μ1, a, b⟩
  clear hP
  refine L_ps c119 (n := 3) (pc1 := 3) (ls1 := [jR 0, jI v1, jI v2]) (st1 := [jI v2, jI v1, jR 0]) rfl ?_
  refine L_cR (c119 3 rfl) (js_v rfl ((Rl_tag hM rt0 (by decide)).trans js120)) hh119 (k_OB_requireNode hM h) (fun r1 M μ2 hM hr1 h => ?_) (fun k M μx hM hx => hX _ _ _ hM hx)
  refine L_ps c119 (n := 1) (pc1 := 7) (ls1 := [jR 0, jI v1, jI v2]) (st1 := [jI v2, jR r1]) rfl ?_
  refine L_cpI (c119 7 rfl) (js_v rfl ((Rl_tag hM hr1 (by decide)).trans js53)) hh119 (k_Term_get hr1 hM h) (fun r3 M hM h => ?_) (fun _ _ _ _ f => f.elim)
  refine L_cpI (c119 10 rfl) (js_t rfl) hh119 (k_Term_symbolOf hM h) (fun r5 M hM h => ?_) (fun _ _ _ _ f => f.elim)
  exact L_retI (c119 13 rfl) (hQ _ _ _ hM h)
theorem k_Lw_symbolAt {E : JE2} {v1 : Int} {v2 : Int} {μ : Mem} {M : JM} {Q : Int → Mem → Prop} (hM : Rl E M μ) (h : d_Lw_symbolAt v1 v2 μ Q) : JX 118 0 (jargs 118 [jR 0, jI v1, jI v2, jR 795]) [] M (PO E (QI Q) XN) := by
  unfold d_Lw_symbolAt at h
  show JX 118 0 [jR 0, jI v1, jI v2, jR 795, jU] [] M (PO E (QI Q) XN)
  generalize hP : PO E (QI Q) XN = P
  have hQ : ∀ (r : Int) (M1 : JM) (μ1 : Mem), Rl E M1 μ1 → Q r μ1 → P (.inl (some (.inl r))) M1 := by rw [← hP]; exact fun r M1 μ1 a b => ⟨μ1, a, r, rfl, b⟩
  clear hP
  refine L_ps c118 (n := 5) (pc1 := 5) (ls1 := [jR 0, jI v1, jI v2, jR 795, jU]) (st1 := [jI v2, jI v1, jR 0, jI 0, jR 795]) rfl ?_
  refine L_cIH (c118 5 rfl) (js_v rfl ((Rl_tag hM rt0 (by decide)).trans js119)) (k_OB_symbolAt hM h) (fun r1 M μ2 hM h => ?_) (fun k M μx hM h => ?_)
  · refine L_ps c118 (n := 1) (pc1 := 9) (ls1 := [jR 0, jI v1, jI v2, jR 795, jU]) (st1 := [jX (.long ((Int32.ofInt r1).toInt64)), jI 0, jR 795]) rfl ?_
    refine L_last (c118 9 rfl) hM rt795 ln795 (by decide) (fun M hM => ?_)
    refine L_ps c118 (n := 2) (pc1 := 22) (ls1 := [jR 0, jI v1, jI v2, jR 795, jU]) (st1 := [jI 0]) rfl ?_
    exact L_retI (c118 22 rfl) (hQ _ _ _ hM h)
  · by_cases hk0 : k = 0
    · rw [if_pos hk0] at h
      subst hk0
      refine JH_of (h := 13) (i := 4) (pc1 := 15) (ls1 := [jR 0, jI v1, jI v2, jR 795, jU]) rfl rfl (Nat.le_of_ble_eq_true rfl) rfl rfl ?_
      refine L_ps c118 (n := 1) (pc1 := 16) (ls1 := [jR 0, jI v1, jI v2, jR 795, jU]) (st1 := [jI 1]) rfl ?_
      exact L_retI (c118 16 rfl) (hQ _ _ _ hM h)
    rw [if_neg hk0] at h
    by_cases hk1 : k = 1
    · rw [if_pos hk1] at h
      subst hk1
      refine JH_of (h := 17) (i := 4) (pc1 := 19) (ls1 := [jR 0, jI v1, jI v2, jR 795, jU]) rfl rfl (Nat.le_of_ble_eq_true rfl) rfl rfl ?_
      refine L_ps c118 (n := 1) (pc1 := 20) (ls1 := [jR 0, jI v1, jI v2, jR 795, jU]) (st1 := [jI 2]) rfl ?_
      exact L_retI (c118 20 rfl) (hQ _ _ _ hM h)
    rw [if_neg hk1] at h
    exact h.elim
theorem k_Term_variableOf {E : JE2} {v0 : Int} {μ : Mem} {M : JM} {Q : Int → Prop} (hM : Rl E M μ) (h : d_Term_variableOf v0 μ Q) : JX 124 0 (jargs 124 [jI v0]) [] M (PO E (pQI μ Q) XN) := by
  unfold d_Term_variableOf at h
  show JX 124 0 [jI v0] [] M (PO E (pQI μ Q) XN)
  generalize hP : PO E (pQI μ Q) XN = P
  have hQ : ∀ (r : Int) (M1 : JM), Rl E M1 μ → Q r → P (.inl (some (.inl r))) M1 := by rw [← hP]; exact fun r M1 a b => ⟨μ, a, rfl, r, rfl, b⟩
  clear hP
  refine L_ps c124 (n := 1) (pc1 := 1) (ls1 := [jI v0]) (st1 := [jI v0]) rfl ?_
  refine L_nb (p1 := 10) (p2 := 4) (c124 1 rfl) rfl jc_ge h (fun h => ?_) (fun h => ?_)
  · refine L_ps c124 (n := 4) (pc1 := 11) (ls1 := [jI v0]) (st1 := [jI (wr ((-1) - v0))]) rfl ?_
    exact L_retI (c124 11 rfl) (hQ _ _ hM h)
  · refine L_ps c124 (n := 1) (pc1 := 11) (ls1 := [jI v0]) (st1 := [jI (-1)]) rfl ?_
    exact L_retI (c124 11 rfl) (hQ _ _ hM h)
theorem k_OB_variableAt {E : JE2} {v1 : Int} {v2 : Int} {μ : Mem} {M : JM} {Q : Int → Mem → Prop} {X : Nat → Mem → Prop} (hM : Rl E M μ) (h : d_OB_variableAt v1 v2 μ Q X) : JX 123 0 (jargs 123 [jR 0, jI v1, jI v2]) [] M (PO E (QI Q) X) := by
  unfold d_OB_variableAt at h
  show JX 123 0 [jR 0, jI v1, jI v2] [] M (PO E (QI Q) X)
  generalize hP : PO E (QI Q) X = P
  have hQ : ∀ (r : Int) (M1 : JM) (μ1 : Mem), Rl E M1 μ1 → Q r μ1 → P (.inl (some (.inl r))) M1 := by rw [← hP]; exact fun r M1 μ1 a b => ⟨μ1, a, r, rfl, b⟩
  have hX : ∀ (k : Nat) (M1 : JM) (μ1 : Mem), Rl E M1 μ1 → X k μ1 → P (.inr k) M1 := by rw [← hP]; exact fun k M1 μ1 a b => ⟨μ1, a, b⟩
  clear hP
  refine L_ps c123 (n := 3) (pc1 := 3) (ls1 := [jR 0, jI v1, jI v2]) (st1 := [jI v2, jI v1, jR 0]) rfl ?_
  refine L_cR (c123 3 rfl) (js_v rfl ((Rl_tag hM rt0 (by decide)).trans js120)) hh123 (k_OB_requireNode hM h) (fun r1 M μ2 hM hr1 h => ?_) (fun k M μx hM hx => hX _ _ _ hM hx)
  refine L_ps c123 (n := 1) (pc1 := 7) (ls1 := [jR 0, jI v1, jI v2]) (st1 := [jI v2, jR r1]) rfl ?_
  refine L_cpI (c123 7 rfl) (js_v rfl ((Rl_tag hM hr1 (by decide)).trans js53)) hh123 (k_Term_get hr1 hM h) (fun r3 M hM h => ?_) (fun _ _ _ _ f => f.elim)
  refine L_cpI (c123 10 rfl) (js_t rfl) hh123 (k_Term_variableOf hM h) (fun r5 M hM h => ?_) (fun _ _ _ _ f => f.elim)
  exact L_retI (c123 13 rfl) (hQ _ _ _ hM h)
theorem k_Lw_variableAt {E : JE2} {v1 : Int} {v2 : Int} {μ : Mem} {M : JM} {Q : Int → Mem → Prop} (hM : Rl E M μ) (h : d_Lw_variableAt v1 v2 μ Q) : JX 122 0 (jargs 122 [jR 0, jI v1, jI v2, jR 795]) [] M (PO E (QI Q) XN) := by
  unfold d_Lw_variableAt at h
  show JX 122 0 [jR 0, jI v1, jI v2, jR 795, jU] [] M (PO E (QI Q) XN)
  generalize hP : PO E (QI Q) XN = P
  have hQ : ∀ (r : Int) (M1 : JM) (μ1 : Mem), Rl E M1 μ1 → Q r μ1 → P (.inl (some (.inl r))) M1 := by rw [← hP]; exact fun r M1 μ1 a b => ⟨μ1, a, r, rfl, b⟩
  clear hP
  refine L_ps c122 (n := 5) (pc1 := 5) (ls1 := [jR 0, jI v1, jI v2, jR 795, jU]) (st1 := [jI v2, jI v1, jR 0, jI 0, jR 795]) rfl ?_
  refine L_cIH (c122 5 rfl) (js_v rfl ((Rl_tag hM rt0 (by decide)).trans js123)) (k_OB_variableAt hM h) (fun r1 M μ2 hM h => ?_) (fun k M μx hM h => ?_)
  · refine L_ps c122 (n := 1) (pc1 := 9) (ls1 := [jR 0, jI v1, jI v2, jR 795, jU]) (st1 := [jX (.long ((Int32.ofInt r1).toInt64)), jI 0, jR 795]) rfl ?_
    refine L_last (c122 9 rfl) hM rt795 ln795 (by decide) (fun M hM => ?_)
    refine L_ps c122 (n := 2) (pc1 := 22) (ls1 := [jR 0, jI v1, jI v2, jR 795, jU]) (st1 := [jI 0]) rfl ?_
    exact L_retI (c122 22 rfl) (hQ _ _ _ hM h)
  · by_cases hk0 : k = 0
    · rw [if_pos hk0] at h
      subst hk0
      refine JH_of (h := 13) (i := 4) (pc1 := 15) (ls1 := [jR 0, jI v1, jI v2, jR 795, jU]) rfl rfl (Nat.le_of_ble_eq_true rfl) rfl rfl ?_
      refine L_ps c122 (n := 1) (pc1 := 16) (ls1 := [jR 0, jI v1, jI v2, jR 795, jU]) (st1 := [jI 1]) rfl ?_
      exact L_retI (c122 16 rfl) (hQ _ _ _ hM h)
    rw [if_neg hk0] at h
    by_cases hk1 : k = 1
    · rw [if_pos hk1] at h
      subst hk1
      refine JH_of (h := 17) (i := 4) (pc1 := 19) (ls1 := [jR 0, jI v1, jI v2, jR 795, jU]) rfl rfl (Nat.le_of_ble_eq_true rfl) rfl rfl ?_
      refine L_ps c122 (n := 1) (pc1 := 20) (ls1 := [jR 0, jI v1, jI v2, jR 795, jU]) (st1 := [jI 2]) rfl ?_
      exact L_retI (c122 20 rfl) (hQ _ _ _ hM h)
    rw [if_neg hk1] at h
    exact h.elim
theorem k_OB_subtermSize {E : JE2} {v1 : Int} {v2 : Int} {μ : Mem} {M : JM} {Q : Int → Mem → Prop} {X : Nat → Mem → Prop} (hM : Rl E M μ) (h : d_OB_subtermSize v1 v2 μ Q X) : JX 126 0 (jargs 126 [jR 0, jI v1, jI v2]) [] M (PO E (QI Q) X) := by
  unfold d_OB_subtermSize at h
  show JX 126 0 [jR 0, jI v1, jI v2] [] M (PO E (QI Q) X)
  generalize hP : PO E (QI Q) X = P
  have hQ : ∀ (r : Int) (M1 : JM) (μ1 : Mem), Rl E M1 μ1 → Q r μ1 → P (.inl (some (.inl r))) M1 := by rw [← hP]; exact fun r M1 μ1 a b => ⟨μ1, a, r, rfl, b⟩
  have hX : ∀ (k : Nat) (M1 : JM) (μ1 : Mem), Rl E M1 μ1 → X k μ1 → P (.inr k) M1 := by rw [← hP]; exact fun k M1 μ1 a b => ⟨μ1, a, b⟩
  clear hP
  refine L_ps c126 (n := 3) (pc1 := 3) (ls1 := [jR 0, jI v1, jI v2]) (st1 := [jI v2, jI v1, jR 0]) rfl ?_
  refine L_cR (c126 3 rfl) (js_v rfl ((Rl_tag hM rt0 (by decide)).trans js120)) hh126 (k_OB_requireNode hM h) (fun r1 M μ2 hM hr1 h => ?_) (fun k M μx hM hx => hX _ _ _ hM hx)
  refine L_ps c126 (n := 1) (pc1 := 7) (ls1 := [jR 0, jI v1, jI v2]) (st1 := [jI v2, jR r1]) rfl ?_
  refine L_cpI (c126 7 rfl) (js_v rfl ((Rl_tag hM hr1 (by decide)).trans js75)) hh126 (k_Term_end hr1 hM h) (fun r3 M hM h => ?_) (fun _ _ _ _ f => f.elim)
  refine L_ps c126 (n := 2) (pc1 := 12) (ls1 := [jR 0, jI v1, jI v2]) (st1 := [jI (wr (r3 - v2))]) rfl ?_
  exact L_retI (c126 12 rfl) (hQ _ _ _ hM h)
theorem k_Lw_subtermSize {E : JE2} {v1 : Int} {v2 : Int} {μ : Mem} {M : JM} {Q : Int → Mem → Prop} (hM : Rl E M μ) (h : d_Lw_subtermSize v1 v2 μ Q) : JX 125 0 (jargs 125 [jR 0, jI v1, jI v2, jR 795]) [] M (PO E (QI Q) XN) := by
  unfold d_Lw_subtermSize at h
  show JX 125 0 [jR 0, jI v1, jI v2, jR 795, jU] [] M (PO E (QI Q) XN)
  generalize hP : PO E (QI Q) XN = P
  have hQ : ∀ (r : Int) (M1 : JM) (μ1 : Mem), Rl E M1 μ1 → Q r μ1 → P (.inl (some (.inl r))) M1 := by rw [← hP]; exact fun r M1 μ1 a b => ⟨μ1, a, r, rfl, b⟩
  clear hP
  refine L_ps c125 (n := 5) (pc1 := 5) (ls1 := [jR 0, jI v1, jI v2, jR 795, jU]) (st1 := [jI v2, jI v1, jR 0, jI 0, jR 795]) rfl ?_
  refine L_cIH (c125 5 rfl) (js_v rfl ((Rl_tag hM rt0 (by decide)).trans js126)) (k_OB_subtermSize hM h) (fun r1 M μ2 hM h => ?_) (fun k M μx hM h => ?_)
  · refine L_ps c125 (n := 1) (pc1 := 9) (ls1 := [jR 0, jI v1, jI v2, jR 795, jU]) (st1 := [jX (.long ((Int32.ofInt r1).toInt64)), jI 0, jR 795]) rfl ?_
    refine L_last (c125 9 rfl) hM rt795 ln795 (by decide) (fun M hM => ?_)
    refine L_ps c125 (n := 2) (pc1 := 22) (ls1 := [jR 0, jI v1, jI v2, jR 795, jU]) (st1 := [jI 0]) rfl ?_
    exact L_retI (c125 22 rfl) (hQ _ _ _ hM h)
  · by_cases hk0 : k = 0
    · rw [if_pos hk0] at h
      subst hk0
      refine JH_of (h := 13) (i := 4) (pc1 := 15) (ls1 := [jR 0, jI v1, jI v2, jR 795, jU]) rfl rfl (Nat.le_of_ble_eq_true rfl) rfl rfl ?_
      refine L_ps c125 (n := 1) (pc1 := 16) (ls1 := [jR 0, jI v1, jI v2, jR 795, jU]) (st1 := [jI 1]) rfl ?_
      exact L_retI (c125 16 rfl) (hQ _ _ _ hM h)
    rw [if_neg hk0] at h
    by_cases hk1 : k = 1
    · rw [if_pos hk1] at h
      subst hk1
      refine JH_of (h := 17) (i := 4) (pc1 := 19) (ls1 := [jR 0, jI v1, jI v2, jR 795, jU]) rfl rfl (Nat.le_of_ble_eq_true rfl) rfl rfl ?_
      refine L_ps c125 (n := 1) (pc1 := 20) (ls1 := [jR 0, jI v1, jI v2, jR 795, jU]) (st1 := [jI 2]) rfl ?_
      exact L_retI (c125 20 rfl) (hQ _ _ _ hM h)
    rw [if_neg hk1] at h
    exact h.elim
theorem k_OB_isGround_b8 {E : JE2} {v2 : Nat} {v3 : Int} {μ : Mem} {M : JM} {P : JO → JM → Prop} {g0 : JV} {g1 : JV} {W8 : Int → Prop} {Q : Bool → Mem → Prop} {X : Nat → Mem → Prop} (hg1 : jc2 g1 = false) (hv2 : rt v2 = 8) (hM : Rl E M μ) (hQ : ∀ (r : Bool) (M1 : JM) (μ1 : Mem), Rl E M1 μ1 → Q r μ1 → P (.inl (some (.inl (b2i r)))) M1) (hX : ∀ (k : Nat) (M1 : JM) (μ1 : Mem), Rl E M1 μ1 → X k μ1 → P (.inr k) M1) (hW8 : ∀ (v3 : Int) (g0 : JV) (g1 : JV) (M1 : JM), jc2 g1 = false → Rl E M1 μ → W8 v3 → JX 128 8 [g0, g1, jR v2, jI v3] [] M1 P) (h : d_OB_isGround_b8 v2 v3 μ W8 Q X) : JX 128 8 [g0, g1, jR v2, jI v3] [] M P := by
  unfold d_OB_isGround_b8 at h
  refine L_ps c128 (n := 2) (pc1 := 10) (ls1 := [g0, g1, jR v2, jI v3]) (st1 := [jR v2, jI v3]) rfl ?_
  refine L_getI (c128 10 rfl) hM hv2 rfl ?_
  refine L_nb (p1 := 32) (p2 := 16) (c128 13 rfl) rfl jc_ge h (fun h => ?_) (fun h => ?_)
  · refine L_ps c128 (n := 2) (pc1 := 18) (ls1 := [g0, g1, jR v2, jI v3]) (st1 := [jI v3, jR v2]) rfl ?_
    refine L_cpI (c128 18 rfl) (js_v rfl ((Rl_tag hM hv2 (by decide)).trans js53)) hh128 (k_Term_get hv2 hM h) (fun r3 M hM h => ?_) (fun _ _ _ _ f => f.elim)
    refine L_nb (p1 := 26) (p2 := 24) (c128 21 rfl) rfl jc_ge h (fun h => ?_) (fun h => ?_)
    · refine L_ps c128 (n := 1) (pc1 := 25) (ls1 := [g0, g1, jR v2, jI v3]) (st1 := [jI 0]) rfl ?_
      exact L_retB (c128 25 rfl) (Or.inl rfl) (hQ false _ _ hM h)
    · refine L_ps c128 (n := 2) (pc1 := 8) (ls1 := [g0, g1, jR v2, jI (wr (v3 + 1))]) (st1 := []) rfl ?_
      exact hW8 _ _ _ _ hg1 hM h
  · refine L_ps c128 (n := 1) (pc1 := 33) (ls1 := [g0, g1, jR v2, jI v3]) (st1 := [jI 1]) rfl ?_
    exact L_retB (c128 33 rfl) (Or.inr rfl) (hQ true _ _ hM h)
theorem k_OB_isGround_l8 {E : JE2} {v2 : Nat} {v3 : Int} {μ : Mem} {M : JM} {P : JO → JM → Prop} {g0 : JV} {g1 : JV} {Q : Bool → Mem → Prop} {X : Nat → Mem → Prop} (hg1 : jc2 g1 = false) (hv2 : rt v2 = 8) (hM : Rl E M μ) (hQ : ∀ (r : Bool) (M1 : JM) (μ1 : Mem), Rl E M1 μ1 → Q r μ1 → P (.inl (some (.inl (b2i r)))) M1) (hX : ∀ (k : Nat) (M1 : JM) (μ1 : Mem), Rl E M1 μ1 → X k μ1 → P (.inr k) M1) (h : d_OB_isGround_l8 v2 v3 μ Q X) : JX 128 8 [g0, g1, jR v2, jI v3] [] M P := by
  refine h (fun v3 => ∀ (g0 : JV) (g1 : JV) (M : JM), jc2 g1 = false → Rl E M μ → JX 128 8 [g0, g1, jR v2, jI v3] [] M P) ?_ _ _ _ hg1 hM
  intro v3 h g0 g1 M hg1 hM
  exact k_OB_isGround_b8 hg1 hv2 hM hQ hX (fun v3 g0 g1 M hg1 hM h => h g0 g1 M hg1 hM) h
theorem k_OB_isGround {E : JE2} {v1 : Int} {μ : Mem} {M : JM} {Q : Bool → Mem → Prop} {X : Nat → Mem → Prop} (hM : Rl E M μ) (h : d_OB_isGround v1 μ Q X) : JX 128 0 (jargs 128 [jR 0, jI v1]) [] M (PO E (QB Q) X) := by
  unfold d_OB_isGround at h
  show JX 128 0 [jR 0, jI v1, jU, jU] [] M (PO E (QB Q) X)
  generalize hP : PO E (QB Q) X = P
  have hQ : ∀ (r : Bool) (M1 : JM) (μ1 : Mem), Rl E M1 μ1 → Q r μ1 → P (.inl (some (.inl (b2i r)))) M1 := by rw [← hP]; exact fun r M1 μ1 a b => ⟨μ1, a, r, rfl, b⟩
  have hX : ∀ (k : Nat) (M1 : JM) (μ1 : Mem), Rl E M1 μ1 → X k μ1 → P (.inr k) M1 := by rw [← hP]; exact fun k M1 μ1 a b => ⟨μ1, a, b⟩
  clear hP
  refine L_ps c128 (n := 2) (pc1 := 2) (ls1 := [jR 0, jI v1, jU, jU]) (st1 := [jI v1, jR 0]) rfl ?_
  refine L_cR (c128 2 rfl) (js_v rfl ((Rl_tag hM rt0 (by decide)).trans js114)) hh128 (k_OB_requireTerm hM h) (fun r1 M μ2 hM hr1 h => ?_) (fun k M μx hM hx => hX _ _ _ hM hx)
  refine L_ps c128 (n := 3) (pc1 := 8) (ls1 := [jR 0, jI v1, jR r1, jI 0]) (st1 := []) rfl ?_
  exact k_OB_isGround_l8 rfl hr1 hM hQ hX h
theorem k_Lw_isGround_j15 {E : JE2} {t1 : Int} {t2 : Int64} {μ : Mem} {M : JM} {P : JO → JM → Prop} {g0 : JV} {g1 : JV} {g2 : JV} {g3 : JV} {Q : Int → Mem → Prop} (hM : Rl E M μ) (hQ : ∀ (r : Int) (M1 : JM) (μ1 : Mem), Rl E M1 μ1 → Q r μ1 → P (.inl (some (.inl r))) M1) (h : d_Lw_isGround_j15 t1 t2 μ Q) : JX 127 15 [g0, g1, g2, g3] [jX (.long t2), jI t1, jR 795] M P := by
  unfold d_Lw_isGround_j15 at h
  obtain ⟨hb, h⟩ := h
  refine L_last (c127 15 rfl) hM rt795 ln795 hb (fun M hM => ?_)
  refine L_ps c127 (n := 2) (pc1 := 26) (ls1 := [g0, g1, g2, g3]) (st1 := [jI 0]) rfl ?_
  exact L_retI (c127 26 rfl) (hQ _ _ _ hM h)
theorem k_Lw_isGround {E : JE2} {v1 : Int} {μ : Mem} {M : JM} {Q : Int → Mem → Prop} (hM : Rl E M μ) (h : d_Lw_isGround v1 μ Q) : JX 127 0 (jargs 127 [jR 0, jI v1, jR 795]) [] M (PO E (QI Q) XN) := by
  unfold d_Lw_isGround at h
  show JX 127 0 [jR 0, jI v1, jR 795, jU] [] M (PO E (QI Q) XN)
  generalize hP : PO E (QI Q) XN = P
  have hQ : ∀ (r : Int) (M1 : JM) (μ1 : Mem), Rl E M1 μ1 → Q r μ1 → P (.inl (some (.inl r))) M1 := by rw [← hP]; exact fun r M1 μ1 a b => ⟨μ1, a, r, rfl, b⟩
  clear hP
  refine L_ps c127 (n := 4) (pc1 := 4) (ls1 := [jR 0, jI v1, jR 795, jU]) (st1 := [jI v1, jR 0, jI 0, jR 795]) rfl ?_
  refine L_cBH (c127 4 rfl) (js_v rfl ((Rl_tag hM rt0 (by decide)).trans js128)) (k_OB_isGround hM h) (fun r1 M μ2 hM h => ?_) (fun k M μx hM h => ?_)
  · refine L_nb (p1 := 14) (p2 := 10) (c127 7 rfl) rfl jc_eqb h (fun h => ?_) (fun h => ?_)
    · refine L_ps c127 (n := 2) (pc1 := 15) (ls1 := [jR 0, jI v1, jR 795, jU]) (st1 := [jX (.long (Int64.ofNat 1)), jI 0, jR 795]) rfl ?_
      exact k_Lw_isGround_j15 hM hQ h
    · refine L_ps c127 (n := 1) (pc1 := 15) (ls1 := [jR 0, jI v1, jR 795, jU]) (st1 := [jX (.long (Int64.ofNat 0)), jI 0, jR 795]) rfl ?_
      exact k_Lw_isGround_j15 hM hQ h
  · by_cases hk0 : k = 0
    · rw [if_pos hk0] at h
      subst hk0
      refine JH_of (h := 19) (i := 3) (pc1 := 20) (ls1 := [jR 0, jI v1, jR 795, jU]) rfl rfl (Nat.le_of_ble_eq_true rfl) rfl rfl ?_
      refine L_ps c127 (n := 1) (pc1 := 21) (ls1 := [jR 0, jI v1, jR 795, jU]) (st1 := [jI 1]) rfl ?_
      exact L_retI (c127 21 rfl) (hQ _ _ _ hM h)
    rw [if_neg hk0] at h
    by_cases hk1 : k = 1
    · rw [if_pos hk1] at h
      subst hk1
      refine JH_of (h := 22) (i := 3) (pc1 := 23) (ls1 := [jR 0, jI v1, jR 795, jU]) rfl rfl (Nat.le_of_ble_eq_true rfl) rfl rfl ?_
      refine L_ps c127 (n := 1) (pc1 := 24) (ls1 := [jR 0, jI v1, jR 795, jU]) (st1 := [jI 2]) rfl ?_
      exact L_retI (c127 24 rfl) (hQ _ _ _ hM h)
    rw [if_neg hk1] at h
    exact h.elim
theorem k_Term_sameAs_b15 {E : JE2} {v0 : Nat} {v1 : Nat} {v2 : Int} {μ : Mem} {M : JM} {P : JO → JM → Prop} {W15 : Int → Prop} {Q : Bool → Prop} (hv0 : rt v0 = 8) (hv1 : rt v1 = 8) (hM : Rl E M μ) (hQ : ∀ (r : Bool) (M1 : JM), Rl E M1 μ → Q r → P (.inl (some (.inl (b2i r)))) M1) (hW15 : ∀ (v2 : Int) (M1 : JM), Rl E M1 μ → W15 v2 → JX 131 15 [jR v0, jR v1, jI v2] [] M1 P) (h : d_Term_sameAs_b15 v0 v1 v2 μ W15 Q) : JX 131 15 [jR v0, jR v1, jI v2] [] M P := by
  unfold d_Term_sameAs_b15 at h
  refine L_ps c131 (n := 2) (pc1 := 17) (ls1 := [jR v0, jR v1, jI v2]) (st1 := [jR v0, jI v2]) rfl ?_
  refine L_getI (c131 17 rfl) hM hv0 rfl ?_
  refine L_nb (p1 := 44) (p2 := 23) (c131 20 rfl) rfl jc_ge h (fun h => ?_) (fun h => ?_)
  · refine L_ps c131 (n := 2) (pc1 := 25) (ls1 := [jR v0, jR v1, jI v2]) (st1 := [jI v2, jR v0]) rfl ?_
    refine L_cpI (c131 25 rfl) (js_v rfl ((Rl_tag hM hv0 (by decide)).trans js53)) hh131 (k_Term_get hv0 hM h) (fun r1 M hM h => ?_) (fun _ _ _ _ f => f.elim)
    refine L_ps c131 (n := 2) (pc1 := 30) (ls1 := [jR v0, jR v1, jI v2]) (st1 := [jI v2, jR v1, jI r1]) rfl ?_
    refine L_cpI (c131 30 rfl) (js_v rfl ((Rl_tag hM hv1 (by decide)).trans js53)) hh131 (k_Term_get hv1 hM h) (fun r3 M hM h => ?_) (fun _ _ _ _ f => f.elim)
    refine L_br (p1 := 38) (p2 := 36) (c131 33 rfl) rfl jc_eq h (fun h => ?_) (fun h => ?_)
    · refine L_ps c131 (n := 2) (pc1 := 15) (ls1 := [jR v0, jR v1, jI (wr (v2 + 1))]) (st1 := []) rfl ?_
      exact hW15 _ _ hM h
    · refine L_ps c131 (n := 1) (pc1 := 37) (ls1 := [jR v0, jR v1, jI v2]) (st1 := [jI 0]) rfl ?_
      exact L_retB (c131 37 rfl) (Or.inl rfl) (hQ false _ hM h)
  · refine L_ps c131 (n := 1) (pc1 := 45) (ls1 := [jR v0, jR v1, jI v2]) (st1 := [jI 1]) rfl ?_
    exact L_retB (c131 45 rfl) (Or.inr rfl) (hQ true _ hM h)
theorem k_Term_sameAs_l15 {E : JE2} {v0 : Nat} {v1 : Nat} {v2 : Int} {μ : Mem} {M : JM} {P : JO → JM → Prop} {Q : Bool → Prop} (hv0 : rt v0 = 8) (hv1 : rt v1 = 8) (hM : Rl E M μ) (hQ : ∀ (r : Bool) (M1 : JM), Rl E M1 μ → Q r → P (.inl (some (.inl (b2i r)))) M1) (h : d_Term_sameAs_l15 v0 v1 v2 μ Q) : JX 131 15 [jR v0, jR v1, jI v2] [] M P := by
  refine h (fun v2 => ∀ (M : JM), Rl E M μ → JX 131 15 [jR v0, jR v1, jI v2] [] M P) ?_ _ hM
  intro v2 h M hM
  exact k_Term_sameAs_b15 hv0 hv1 hM hQ (fun v2 M hM h => h M hM) h
theorem k_Term_sameAs {E : JE2} {v0 : Nat} {v1 : Nat} {μ : Mem} {M : JM} {Q : Bool → Prop} (hv0 : rt v0 = 8) (hv1 : rt v1 = 8) (hM : Rl E M μ) (h : d_Term_sameAs v0 v1 μ Q) : JX 131 0 (jargs 131 [jR v0, jR v1]) [] M (PO E (pQB μ Q) XN) := by
  unfold d_Term_sameAs at h
  show JX 131 0 [jR v0, jR v1, jU] [] M (PO E (pQB μ Q) XN)
  generalize hP : PO E (pQB μ Q) XN = P
  have hQ : ∀ (r : Bool) (M1 : JM), Rl E M1 μ → Q r → P (.inl (some (.inl (b2i r)))) M1 := by rw [← hP]; exact fun r M1 a b => ⟨μ, a, rfl, r, rfl, b⟩
  clear hP
  refine L_ps c131 (n := 1) (pc1 := 1) (ls1 := [jR v0, jR v1, jU]) (st1 := [jR v0]) rfl ?_
  refine L_getI (c131 1 rfl) hM hv0 rfl ?_
  refine L_ps c131 (n := 1) (pc1 := 5) (ls1 := [jR v0, jR v1, jU]) (st1 := [jR v1, jI (μ v0 1)]) rfl ?_
  refine L_getI (c131 5 rfl) hM hv1 rfl ?_
  refine L_br (p1 := 13) (p2 := 11) (c131 8 rfl) rfl jc_eq h (fun h => ?_) (fun h => ?_)
  · refine L_ps c131 (n := 2) (pc1 := 15) (ls1 := [jR v0, jR v1, jI 0]) (st1 := []) rfl ?_
    exact k_Term_sameAs_l15 hv0 hv1 hM hQ h
  · refine L_ps c131 (n := 1) (pc1 := 12) (ls1 := [jR v0, jR v1, jU]) (st1 := [jI 0]) rfl ?_
    exact L_retB (c131 12 rfl) (Or.inl rfl) (hQ false _ hM h)
theorem k_OB_areEqual {E : JE2} {v1 : Int} {v2 : Int} {μ : Mem} {M : JM} {Q : Bool → Mem → Prop} {X : Nat → Mem → Prop} (hM : Rl E M μ) (h : d_OB_areEqual v1 v2 μ Q X) : JX 130 0 (jargs 130 [jR 0, jI v1, jI v2]) [] M (PO E (QB Q) X) := by
  unfold d_OB_areEqual at h
  show JX 130 0 [jR 0, jI v1, jI v2] [] M (PO E (QB Q) X)
  generalize hP : PO E (QB Q) X = P
  have hQ : ∀ (r : Bool) (M1 : JM) (μ1 : Mem), Rl E M1 μ1 → Q r μ1 → P (.inl (some (.inl (b2i r)))) M1 := by rw [← hP]; exact fun r M1 μ1 a b => ⟨μ1, a, r, rfl, b⟩
  have hX : ∀ (k : Nat) (M1 : JM) (μ1 : Mem), Rl E M1 μ1 → X k μ1 → P (.inr k) M1 := by rw [← hP]; exact fun k M1 μ1 a b => ⟨μ1, a, b⟩
  clear hP
  refine L_ps c130 (n := 2) (pc1 := 2) (ls1 := [jR 0, jI v1, jI v2]) (st1 := [jI v1, jR 0]) rfl ?_
  refine L_cR (c130 2 rfl) (js_v rfl ((Rl_tag hM rt0 (by decide)).trans js114)) hh130 (k_OB_requireTerm hM h) (fun r1 M μ2 hM hr1 h => ?_) (fun k M μx hM hx => hX _ _ _ hM hx)
  refine L_ps c130 (n := 2) (pc1 := 7) (ls1 := [jR 0, jI v1, jI v2]) (st1 := [jI v2, jR 0, jR r1]) rfl ?_
  refine L_cR (c130 7 rfl) (js_v rfl ((Rl_tag hM rt0 (by decide)).trans js114)) hh130 (k_OB_requireTerm hM h) (fun r3 M μ4 hM hr3 h => ?_) (fun k M μx hM hx => hX _ _ _ hM hx)
  refine L_cpB (c130 10 rfl) (js_v rfl ((Rl_tag hM hr1 (by decide)).trans js131)) hh130 (k_Term_sameAs hr1 hr3 hM h) (fun r5 M hM h => ?_) (fun _ _ _ _ f => f.elim)
  exact L_retB (c130 13 rfl) (bz_b _) (hQ _ _ _ hM h)
theorem k_Lw_areEqual_j16 {E : JE2} {t1 : Int} {t2 : Int64} {μ : Mem} {M : JM} {P : JO → JM → Prop} {g0 : JV} {g1 : JV} {g2 : JV} {g3 : JV} {g4 : JV} {Q : Int → Mem → Prop} (hM : Rl E M μ) (hQ : ∀ (r : Int) (M1 : JM) (μ1 : Mem), Rl E M1 μ1 → Q r μ1 → P (.inl (some (.inl r))) M1) (h : d_Lw_areEqual_j16 t1 t2 μ Q) : JX 129 16 [g0, g1, g2, g3, g4] [jX (.long t2), jI t1, jR 795] M P := by
  unfold d_Lw_areEqual_j16 at h
  obtain ⟨hb, h⟩ := h
  refine L_last (c129 16 rfl) hM rt795 ln795 hb (fun M hM => ?_)
  refine L_ps c129 (n := 2) (pc1 := 29) (ls1 := [g0, g1, g2, g3, g4]) (st1 := [jI 0]) rfl ?_
  exact L_retI (c129 29 rfl) (hQ _ _ _ hM h)
theorem k_Lw_areEqual {E : JE2} {v1 : Int} {v2 : Int} {μ : Mem} {M : JM} {Q : Int → Mem → Prop} (hM : Rl E M μ) (h : d_Lw_areEqual v1 v2 μ Q) : JX 129 0 (jargs 129 [jR 0, jI v1, jI v2, jR 795]) [] M (PO E (QI Q) XN) := by
  unfold d_Lw_areEqual at h
  show JX 129 0 [jR 0, jI v1, jI v2, jR 795, jU] [] M (PO E (QI Q) XN)
  generalize hP : PO E (QI Q) XN = P
  have hQ : ∀ (r : Int) (M1 : JM) (μ1 : Mem), Rl E M1 μ1 → Q r μ1 → P (.inl (some (.inl r))) M1 := by rw [← hP]; exact fun r M1 μ1 a b => ⟨μ1, a, r, rfl, b⟩
  clear hP
  refine L_ps c129 (n := 5) (pc1 := 5) (ls1 := [jR 0, jI v1, jI v2, jR 795, jU]) (st1 := [jI v2, jI v1, jR 0, jI 0, jR 795]) rfl ?_
  refine L_cBH (c129 5 rfl) (js_v rfl ((Rl_tag hM rt0 (by decide)).trans js130)) (k_OB_areEqual hM h) (fun r1 M μ2 hM h => ?_) (fun k M μx hM h => ?_)
  · refine L_nb (p1 := 15) (p2 := 11) (c129 8 rfl) rfl jc_eqb h (fun h => ?_) (fun h => ?_)
    · refine L_ps c129 (n := 2) (pc1 := 16) (ls1 := [jR 0, jI v1, jI v2, jR 795, jU]) (st1 := [jX (.long (Int64.ofNat 1)), jI 0, jR 795]) rfl ?_
      exact k_Lw_areEqual_j16 hM hQ h
    · refine L_ps c129 (n := 1) (pc1 := 16) (ls1 := [jR 0, jI v1, jI v2, jR 795, jU]) (st1 := [jX (.long (Int64.ofNat 0)), jI 0, jR 795]) rfl ?_
      exact k_Lw_areEqual_j16 hM hQ h
  · by_cases hk0 : k = 0
    · rw [if_pos hk0] at h
      subst hk0
      refine JH_of (h := 20) (i := 4) (pc1 := 22) (ls1 := [jR 0, jI v1, jI v2, jR 795, jU]) rfl rfl (Nat.le_of_ble_eq_true rfl) rfl rfl ?_
      refine L_ps c129 (n := 1) (pc1 := 23) (ls1 := [jR 0, jI v1, jI v2, jR 795, jU]) (st1 := [jI 1]) rfl ?_
      exact L_retI (c129 23 rfl) (hQ _ _ _ hM h)
    rw [if_neg hk0] at h
    by_cases hk1 : k = 1
    · rw [if_pos hk1] at h
      subst hk1
      refine JH_of (h := 24) (i := 4) (pc1 := 26) (ls1 := [jR 0, jI v1, jI v2, jR 795, jU]) rfl rfl (Nat.le_of_ble_eq_true rfl) rfl rfl ?_
      refine L_ps c129 (n := 1) (pc1 := 27) (ls1 := [jR 0, jI v1, jI v2, jR 795, jU]) (st1 := [jI 2]) rfl ?_
      exact L_retI (c129 27 rfl) (hQ _ _ _ hM h)
    rw [if_neg hk1] at h
    exact h.elim
theorem k_OB_averageSize_b8 {E : JE2} {v1 : Int} {v2 : Int} {μ : Mem} {M : JM} {P : JO → JM → Prop} {W8 : Int → Int → Prop} {Q : UInt64 → Mem → Prop} {X : Nat → Mem → Prop} (hM : Rl E M μ) (hQ : ∀ (r : UInt64) (M1 : JM) (μ1 : Mem), Rl E M1 μ1 → Q r μ1 → P (.inl (some (.inr (.inr (.double r))))) M1) (hX : ∀ (k : Nat) (M1 : JM) (μ1 : Mem), Rl E M1 μ1 → X k μ1 → P (.inr k) M1) (hW8 : ∀ (v1 : Int) (v2 : Int) (M1 : JM), Rl E M1 μ → W8 v1 v2 → JX 133 8 [jR 0, jI v1, jI v2] [] M1 P) (h : d_OB_averageSize_b8 v1 v2 μ W8 Q X) : JX 133 8 [jR 0, jI v1, jI v2] [] M P := by
  unfold d_OB_averageSize_b8 at h
  refine L_ps c133 (n := 2) (pc1 := 10) (ls1 := [jR 0, jI v1, jI v2]) (st1 := [jR 0, jI v2]) rfl ?_
  refine L_getP (d := 5) (c133 10 rfl) hM rt0 rfl ?_
  refine L_getI (c133 13 rfl) hM rt5 rfl ?_
  refine L_nb (p1 := 39) (p2 := 19) (c133 16 rfl) rfl jc_ge h (fun h => ?_) (fun h => ?_)
  · refine L_ps c133 (n := 2) (pc1 := 21) (ls1 := [jR 0, jI v1, jI v2]) (st1 := [jR 0, jI v1]) rfl ?_
    refine L_getP (d := 5) (c133 21 rfl) hM rt0 rfl ?_
    refine L_ps c133 (n := 1) (pc1 := 25) (ls1 := [jR 0, jI v1, jI v2]) (st1 := [jI v2, jR 5, jI v1]) rfl ?_
    refine L_cpR (c133 25 rfl) (js_v rfl ((Rl_tag hM rt5 (by decide)).trans js61)) hh133 (k_State_term rt5 hM h) (fun r3 M hM hr3 h => ?_) (fun _ _ _ _ f => f.elim)
    refine L_getI (c133 28 rfl) hM hr3 rfl ?_
    refine L_ps c133 (n := 4) (pc1 := 8) (ls1 := [jR 0, jI (wr (v1 + (μ r3 1))), jI (wr (v2 + 1))]) (st1 := []) rfl ?_
    exact hW8 _ _ _ hM h
  · refine L_ps c133 (n := 1) (pc1 := 40) (ls1 := [jR 0, jI v1, jI v2]) (st1 := [jR 0]) rfl ?_
    refine L_getP (d := 5) (c133 40 rfl) hM rt0 rfl ?_
    refine L_getI (c133 43 rfl) hM rt5 rfl ?_
    refine L_nb (p1 := 53) (p2 := 49) (c133 46 rfl) rfl jc_ne h (fun h => ?_) (fun h => ?_)
    · refine L_ps c133 (n := 2) (pc1 := 64) (ls1 := [jR 0, jI v1, jI v2]) (st1 := [jX (.double (FP.dconst0))]) rfl ?_
      exact L_end (c133 64 rfl) rfl (hQ _ _ _ hM h)
    · refine L_ps c133 (n := 3) (pc1 := 56) (ls1 := [jR 0, jI v1, jI v2]) (st1 := [jR 0, jX (.double (FP.i2d (Int32.ofInt v1)))]) rfl ?_
      refine L_getP (d := 5) (c133 56 rfl) hM rt0 rfl ?_
      refine L_getI (c133 59 rfl) hM rt5 rfl ?_
      refine L_ps c133 (n := 1) (pc1 := 63) (ls1 := [jR 0, jI v1, jI v2]) (st1 := [jX (.double (FP.i2d (Int32.ofInt (μ 5 1)))), jX (.double (FP.i2d (Int32.ofInt v1)))]) rfl ?_
      obtain ⟨hn, h⟩ := h
      refine L_ddiv (c133 63 rfl) hn ?_
      exact L_end (c133 64 rfl) rfl (hQ _ _ _ hM h)
theorem k_OB_averageSize_l8 {E : JE2} {v1 : Int} {v2 : Int} {μ : Mem} {M : JM} {P : JO → JM → Prop} {Q : UInt64 → Mem → Prop} {X : Nat → Mem → Prop} (hM : Rl E M μ) (hQ : ∀ (r : UInt64) (M1 : JM) (μ1 : Mem), Rl E M1 μ1 → Q r μ1 → P (.inl (some (.inr (.inr (.double r))))) M1) (hX : ∀ (k : Nat) (M1 : JM) (μ1 : Mem), Rl E M1 μ1 → X k μ1 → P (.inr k) M1) (h : d_OB_averageSize_l8 v1 v2 μ Q X) : JX 133 8 [jR 0, jI v1, jI v2] [] M P := by
  refine h (fun v1 v2 => ∀ (M : JM), Rl E M μ → JX 133 8 [jR 0, jI v1, jI v2] [] M P) ?_ _ hM
  intro v1 v2 h M hM
  exact k_OB_averageSize_b8 hM hQ hX (fun v1 v2 M hM h => h M hM) h
theorem k_OB_averageSize {E : JE2} {μ : Mem} {M : JM} {Q : UInt64 → Mem → Prop} {X : Nat → Mem → Prop} (hM : Rl E M μ) (h : d_OB_averageSize μ Q X) : JX 133 0 (jargs 133 [jR 0]) [] M (PO E (QD Q) X) := by
  unfold d_OB_averageSize at h
  show JX 133 0 [jR 0, jU, jU] [] M (PO E (QD Q) X)
  generalize hP : PO E (QD Q) X = P
  have hQ : ∀ (r : UInt64) (M1 : JM) (μ1 : Mem), Rl E M1 μ1 → Q r μ1 → P (.inl (some (.inr (.inr (.double r))))) M1 := by rw [← hP]; exact fun r M1 μ1 a b => ⟨μ1, a, r, rfl, b⟩
  have hX : ∀ (k : Nat) (M1 : JM) (μ1 : Mem), Rl E M1 μ1 → X k μ1 → P (.inr k) M1 := by rw [← hP]; exact fun k M1 μ1 a b => ⟨μ1, a, b⟩
  clear hP
  refine L_ps c133 (n := 1) (pc1 := 1) (ls1 := [jR 0, jU, jU]) (st1 := [jR 0]) rfl ?_
  refine L_cV (c133 1 rfl) (js_v rfl ((Rl_tag hM rt0 (by decide)).trans js86)) hh133 (k_OB_requireSystem hM h) (fun M μ2 hM h => ?_) (fun k M μx hM hx => hX _ _ _ hM hx)
  refine L_ps c133 (n := 4) (pc1 := 8) (ls1 := [jR 0, jI 0, jI 0]) (st1 := []) rfl ?_
  exact k_OB_averageSize_l8 hM hQ hX h
theorem k_Lw_averageSize {E : JE2} {μ : Mem} {M : JM} {Q : Int → Mem → Prop} (hM : Rl E M μ) (h : d_Lw_averageSize μ Q) : JX 132 0 (jargs 132 [jR 0, jR 796]) [] M (PO E (QI Q) XN) := by
  unfold d_Lw_averageSize at h
  show JX 132 0 [jR 0, jR 796, jU] [] M (PO E (QI Q) XN)
  generalize hP : PO E (QI Q) XN = P
  have hQ : ∀ (r : Int) (M1 : JM) (μ1 : Mem), Rl E M1 μ1 → Q r μ1 → P (.inl (some (.inl r))) M1 := by rw [← hP]; exact fun r M1 μ1 a b => ⟨μ1, a, r, rfl, b⟩
  clear hP
  refine L_ps c132 (n := 3) (pc1 := 3) (ls1 := [jR 0, jR 796, jU]) (st1 := [jR 0, jI 0, jR 796]) rfl ?_
  refine L_cDH (c132 3 rfl) (js_v rfl ((Rl_tag hM rt0 (by decide)).trans js133)) (k_OB_averageSize hM h) (fun r1 M μ2 hM h => ?_) (fun k M μx hM h => ?_)
  · refine L_dast (c132 6 rfl) hM rt796 ln796 (by decide) (fun M hM => ?_)
    refine L_ps c132 (n := 2) (pc1 := 14) (ls1 := [jR 0, jR 796, jU]) (st1 := [jI 0]) rfl ?_
    exact L_retI (c132 14 rfl) (hQ _ _ _ hM h)
  · by_cases hk0 : k = 0
    · rw [if_pos hk0] at h
      subst hk0
      refine JH_of (h := 10) (i := 2) (pc1 := 11) (ls1 := [jR 0, jR 796, jU]) rfl rfl (Nat.le_of_ble_eq_true rfl) rfl rfl ?_
      refine L_ps c132 (n := 1) (pc1 := 12) (ls1 := [jR 0, jR 796, jU]) (st1 := [jI 1]) rfl ?_
      exact L_retI (c132 12 rfl) (hQ _ _ _ hM h)
    rw [if_neg hk0] at h
    exact h.elim
theorem k_OB_matches {E : JE2} {v1 : Int} {v2 : Int} {v3 : Int} {μ : Mem} {M : JM} {Q : Bool → Mem → Prop} {X : Nat → Mem → Prop} (hM : Rl E M μ) (h : d_OB_matches v1 v2 v3 μ Q X) : JX 135 0 (jargs 135 [jR 0, jI v1, jI v2, jI v3]) [] M (PO E (QB Q) X) := by
  unfold d_OB_matches at h
  show JX 135 0 [jR 0, jI v1, jI v2, jI v3, jU] [] M (PO E (QB Q) X)
  generalize hP : PO E (QB Q) X = P
  have hQ : ∀ (r : Bool) (M1 : JM) (μ1 : Mem), Rl E M1 μ1 → Q r μ1 → P (.inl (some (.inl (b2i r)))) M1 := by rw [← hP]; exact fun r M1 μ1 a b => ⟨μ1, a, r, rfl, b⟩
  have hX : ∀ (k : Nat) (M1 : JM) (μ1 : Mem), Rl E M1 μ1 → X k μ1 → P (.inr k) M1 := by rw [← hP]; exact fun k M1 μ1 a b => ⟨μ1, a, b⟩
  clear hP
  refine L_ps c135 (n := 2) (pc1 := 2) (ls1 := [jR 0, jI v1, jI v2, jI v3, jU]) (st1 := [jI v1, jR 0]) rfl ?_
  refine L_cR (c135 2 rfl) (js_v rfl ((Rl_tag hM rt0 (by decide)).trans js98)) hh135 (k_OB_requireRule hM h) (fun r1 M μ2 hM hr1 h => ?_) (fun k M μx hM hx => hX _ _ _ hM hx)
  refine L_ps c135 (n := 2) (pc1 := 8) (ls1 := [jR 0, jI v1, jI v2, jI v3, jR r1]) (st1 := [jR 0]) rfl ?_
  refine L_getP (d := 57) (c135 8 rfl) hM rt0 rfl ?_
  refine L_ps c135 (n := 4) (pc1 := 16) (ls1 := [jR 0, jI v1, jI v2, jI v3, jR r1]) (st1 := [jI v3, jI v2, jR 0, jR r1, jR 57]) rfl ?_
  refine L_cR (c135 16 rfl) (js_v rfl ((Rl_tag hM rt0 (by decide)).trans js120)) hh135 (k_OB_requireNode hM h) (fun r3 M μ4 hM hr3 h => ?_) (fun k M μx hM hx => hX _ _ _ hM hx)
  refine L_ps c135 (n := 1) (pc1 := 20) (ls1 := [jR 0, jI v1, jI v2, jI v3, jR r1]) (st1 := [jI v3, jR r3, jR r1, jR 57]) rfl ?_
  refine L_cB (c135 20 rfl) (js_v rfl ((Rl_tag hM rt57 (by decide)).trans js72)) hh135 (k_Rewriter_match rt57 hr1 hr3 hM h) (fun r5 M μ6 hM h => ?_) (fun _ _ _ _ f => f.elim)
  exact L_retB (c135 23 rfl) (bz_b _) (hQ _ _ _ hM h)
theorem k_Lw_matches_j18 {E : JE2} {t1 : Int} {t2 : Int64} {μ : Mem} {M : JM} {P : JO → JM → Prop} {g0 : JV} {g1 : JV} {g2 : JV} {g3 : JV} {g4 : JV} {g5 : JV} {Q : Int → Mem → Prop} (hM : Rl E M μ) (hQ : ∀ (r : Int) (M1 : JM) (μ1 : Mem), Rl E M1 μ1 → Q r μ1 → P (.inl (some (.inl r))) M1) (h : d_Lw_matches_j18 t1 t2 μ Q) : JX 134 18 [g0, g1, g2, g3, g4, g5] [jX (.long t2), jI t1, jR 795] M P := by
  unfold d_Lw_matches_j18 at h
  obtain ⟨hb, h⟩ := h
  refine L_last (c134 18 rfl) hM rt795 ln795 hb (fun M hM => ?_)
  refine L_ps c134 (n := 2) (pc1 := 31) (ls1 := [g0, g1, g2, g3, g4, g5]) (st1 := [jI 0]) rfl ?_
  exact L_retI (c134 31 rfl) (hQ _ _ _ hM h)
theorem k_Lw_matches {E : JE2} {v1 : Int} {v2 : Int} {v3 : Int} {μ : Mem} {M : JM} {Q : Int → Mem → Prop} (hM : Rl E M μ) (h : d_Lw_matches v1 v2 v3 μ Q) : JX 134 0 (jargs 134 [jR 0, jI v1, jI v2, jI v3, jR 795]) [] M (PO E (QI Q) XN) := by
  unfold d_Lw_matches at h
  show JX 134 0 [jR 0, jI v1, jI v2, jI v3, jR 795, jU] [] M (PO E (QI Q) XN)
  generalize hP : PO E (QI Q) XN = P
  have hQ : ∀ (r : Int) (M1 : JM) (μ1 : Mem), Rl E M1 μ1 → Q r μ1 → P (.inl (some (.inl r))) M1 := by rw [← hP]; exact fun r M1 μ1 a b => ⟨μ1, a, r, rfl, b⟩
  clear hP
  refine L_ps c134 (n := 6) (pc1 := 7) (ls1 := [jR 0, jI v1, jI v2, jI v3, jR 795, jU]) (st1 := [jI v3, jI v2, jI v1, jR 0, jI 0, jR 795]) rfl ?_
  refine L_cBH (c134 7 rfl) (js_v rfl ((Rl_tag hM rt0 (by decide)).trans js135)) (k_OB_matches hM h) (fun r1 M μ2 hM h => ?_) (fun k M μx hM h => ?_)
  · refine L_nb (p1 := 17) (p2 := 13) (c134 10 rfl) rfl jc_eqb h (fun h => ?_) (fun h => ?_)
    · refine L_ps c134 (n := 2) (pc1 := 18) (ls1 := [jR 0, jI v1, jI v2, jI v3, jR 795, jU]) (st1 := [jX (.long (Int64.ofNat 1)), jI 0, jR 795]) rfl ?_
      exact k_Lw_matches_j18 hM hQ h
    · refine L_ps c134 (n := 1) (pc1 := 18) (ls1 := [jR 0, jI v1, jI v2, jI v3, jR 795, jU]) (st1 := [jX (.long (Int64.ofNat 0)), jI 0, jR 795]) rfl ?_
      exact k_Lw_matches_j18 hM hQ h
  · by_cases hk0 : k = 0
    · rw [if_pos hk0] at h
      subst hk0
      refine JH_of (h := 22) (i := 5) (pc1 := 24) (ls1 := [jR 0, jI v1, jI v2, jI v3, jR 795, jU]) rfl rfl (Nat.le_of_ble_eq_true rfl) rfl rfl ?_
      refine L_ps c134 (n := 1) (pc1 := 25) (ls1 := [jR 0, jI v1, jI v2, jI v3, jR 795, jU]) (st1 := [jI 1]) rfl ?_
      exact L_retI (c134 25 rfl) (hQ _ _ _ hM h)
    rw [if_neg hk0] at h
    by_cases hk1 : k = 1
    · rw [if_pos hk1] at h
      subst hk1
      refine JH_of (h := 26) (i := 5) (pc1 := 28) (ls1 := [jR 0, jI v1, jI v2, jI v3, jR 795, jU]) rfl rfl (Nat.le_of_ble_eq_true rfl) rfl rfl ?_
      refine L_ps c134 (n := 1) (pc1 := 29) (ls1 := [jR 0, jI v1, jI v2, jI v3, jR 795, jU]) (st1 := [jI 2]) rfl ?_
      exact L_retI (c134 29 rfl) (hQ _ _ _ hM h)
    rw [if_neg hk1] at h
    exact h.elim
theorem k_OB_ruleAt {E : JE2} {v1 : Int} {v2 : Int} {μ : Mem} {M : JM} {Q : Int → Mem → Prop} {X : Nat → Mem → Prop} (hM : Rl E M μ) (h : d_OB_ruleAt v1 v2 μ Q X) : JX 137 0 (jargs 137 [jR 0, jI v1, jI v2]) [] M (PO E (QI Q) X) := by
  unfold d_OB_ruleAt at h
  show JX 137 0 [jR 0, jI v1, jI v2] [] M (PO E (QI Q) X)
  generalize hP : PO E (QI Q) X = P
  have hQ : ∀ (r : Int) (M1 : JM) (μ1 : Mem), Rl E M1 μ1 → Q r μ1 → P (.inl (some (.inl r))) M1 := by rw [← hP]; exact fun r M1 μ1 a b => ⟨μ1, a, r, rfl, b⟩
  have hX : ∀ (k : Nat) (M1 : JM) (μ1 : Mem), Rl E M1 μ1 → X k μ1 → P (.inr k) M1 := by rw [← hP]; exact fun k M1 μ1 a b => ⟨μ1, a, b⟩
  clear hP
  refine L_ps c137 (n := 1) (pc1 := 1) (ls1 := [jR 0, jI v1, jI v2]) (st1 := [jR 0]) rfl ?_
  refine L_getP (d := 57) (c137 1 rfl) hM rt0 rfl ?_
  refine L_ps c137 (n := 1) (pc1 := 5) (ls1 := [jR 0, jI v1, jI v2]) (st1 := [jR 0, jR 57]) rfl ?_
  refine L_getP (d := 5) (c137 5 rfl) hM rt0 rfl ?_
  refine L_ps c137 (n := 3) (pc1 := 11) (ls1 := [jR 0, jI v1, jI v2]) (st1 := [jI v2, jI v1, jR 0, jR 5, jR 57]) rfl ?_
  refine L_cR (c137 11 rfl) (js_v rfl ((Rl_tag hM rt0 (by decide)).trans js120)) hh137 (k_OB_requireNode hM h) (fun r1 M μ2 hM hr1 h => ?_) (fun k M μx hM hx => hX _ _ _ hM hx)
  refine L_ps c137 (n := 1) (pc1 := 15) (ls1 := [jR 0, jI v1, jI v2]) (st1 := [jI v2, jR r1, jR 5, jR 57]) rfl ?_
  refine L_cI (c137 15 rfl) (js_v rfl ((Rl_tag hM rt57 (by decide)).trans js71)) hh137 (k_Rewriter_firstRule rt57 rt5 hr1 hM h) (fun r3 M μ4 hM h => ?_) (fun _ _ _ _ f => f.elim)
  exact L_retI (c137 18 rfl) (hQ _ _ _ hM h)
theorem k_Lw_ruleAt {E : JE2} {v1 : Int} {v2 : Int} {μ : Mem} {M : JM} {Q : Int → Mem → Prop} (hM : Rl E M μ) (h : d_Lw_ruleAt v1 v2 μ Q) : JX 136 0 (jargs 136 [jR 0, jI v1, jI v2, jR 795]) [] M (PO E (QI Q) XN) := by
  unfold d_Lw_ruleAt at h
  show JX 136 0 [jR 0, jI v1, jI v2, jR 795, jU] [] M (PO E (QI Q) XN)
  generalize hP : PO E (QI Q) XN = P
  have hQ : ∀ (r : Int) (M1 : JM) (μ1 : Mem), Rl E M1 μ1 → Q r μ1 → P (.inl (some (.inl r))) M1 := by rw [← hP]; exact fun r M1 μ1 a b => ⟨μ1, a, r, rfl, b⟩
  clear hP
  refine L_ps c136 (n := 5) (pc1 := 5) (ls1 := [jR 0, jI v1, jI v2, jR 795, jU]) (st1 := [jI v2, jI v1, jR 0, jI 0, jR 795]) rfl ?_
  refine L_cIH (c136 5 rfl) (js_v rfl ((Rl_tag hM rt0 (by decide)).trans js137)) (k_OB_ruleAt hM h) (fun r1 M μ2 hM h => ?_) (fun k M μx hM h => ?_)
  · refine L_ps c136 (n := 1) (pc1 := 9) (ls1 := [jR 0, jI v1, jI v2, jR 795, jU]) (st1 := [jX (.long ((Int32.ofInt r1).toInt64)), jI 0, jR 795]) rfl ?_
    refine L_last (c136 9 rfl) hM rt795 ln795 (by decide) (fun M hM => ?_)
    refine L_ps c136 (n := 2) (pc1 := 22) (ls1 := [jR 0, jI v1, jI v2, jR 795, jU]) (st1 := [jI 0]) rfl ?_
    exact L_retI (c136 22 rfl) (hQ _ _ _ hM h)
  · by_cases hk0 : k = 0
    · rw [if_pos hk0] at h
      subst hk0
      refine JH_of (h := 13) (i := 4) (pc1 := 15) (ls1 := [jR 0, jI v1, jI v2, jR 795, jU]) rfl rfl (Nat.le_of_ble_eq_true rfl) rfl rfl ?_
      refine L_ps c136 (n := 1) (pc1 := 16) (ls1 := [jR 0, jI v1, jI v2, jR 795, jU]) (st1 := [jI 1]) rfl ?_
      exact L_retI (c136 16 rfl) (hQ _ _ _ hM h)
    rw [if_neg hk0] at h
    by_cases hk1 : k = 1
    · rw [if_pos hk1] at h
      subst hk1
      refine JH_of (h := 17) (i := 4) (pc1 := 19) (ls1 := [jR 0, jI v1, jI v2, jR 795, jU]) rfl rfl (Nat.le_of_ble_eq_true rfl) rfl rfl ?_
      refine L_ps c136 (n := 1) (pc1 := 20) (ls1 := [jR 0, jI v1, jI v2, jR 795, jU]) (st1 := [jI 2]) rfl ?_
      exact L_retI (c136 20 rfl) (hQ _ _ _ hM h)
    rw [if_neg hk1] at h
    exact h.elim
theorem k_Rewriter_countRedexes_j29 {E : JE2} {v0 : Nat} {v1 : Nat} {v2 : Nat} {v3 : Int} {v4 : Int} {μ : Mem} {M : JM} {P : JO → JM → Prop} {W5 : Int → Int → Mem → Prop} {Q : Int → Mem → Prop} (hv0 : rt v0 = 4) (hv1 : rt v1 = 7) (hv2 : rt v2 = 8) (hM : Rl E M μ) (hQ : ∀ (r : Int) (M1 : JM) (μ1 : Mem), Rl E M1 μ1 → Q r μ1 → P (.inl (some (.inl r))) M1) (hW5 : ∀ (v3 : Int) (v4 : Int) (M1 : JM) (μ1 : Mem), Rl E M1 μ1 → W5 v3 v4 μ1 → JX 140 5 [jR v0, jR v1, jR v2, jI v3, jI v4] [] M1 P) (h : d_Rewriter_countRedexes_j29 v0 v1 v2 v3 v4 μ W5 Q) : JX 140 29 [jR v0, jR v1, jR v2, jI v3, jI v4] [] M P := by
  unfold d_Rewriter_countRedexes_j29 at h
  refine L_ps c140 (n := 2) (pc1 := 5) (ls1 := [jR v0, jR v1, jR v2, jI v3, jI (wr (v4 + 1))]) (st1 := []) rfl ?_
  exact hW5 _ _ _ _ hM h
theorem k_Rewriter_countRedexes_b5 {E : JE2} {v0 : Nat} {v1 : Nat} {v2 : Nat} {v3 : Int} {v4 : Int} {μ : Mem} {M : JM} {P : JO → JM → Prop} {W5 : Int → Int → Mem → Prop} {Q : Int → Mem → Prop} (hv0 : rt v0 = 4) (hv1 : rt v1 = 7) (hv2 : rt v2 = 8) (hM : Rl E M μ) (hQ : ∀ (r : Int) (M1 : JM) (μ1 : Mem), Rl E M1 μ1 → Q r μ1 → P (.inl (some (.inl r))) M1) (hW5 : ∀ (v3 : Int) (v4 : Int) (M1 : JM) (μ1 : Mem), Rl E M1 μ1 → W5 v3 v4 μ1 → JX 140 5 [jR v0, jR v1, jR v2, jI v3, jI v4] [] M1 P) (h : d_Rewriter_countRedexes_b5 v0 v1 v2 v3 v4 μ W5 Q) : JX 140 5 [jR v0, jR v1, jR v2, jI v3, jI v4] [] M P := by
  unfold d_Rewriter_countRedexes_b5 at h
  refine L_ps c140 (n := 2) (pc1 := 8) (ls1 := [jR v0, jR v1, jR v2, jI v3, jI v4]) (st1 := [jR v2, jI v4]) rfl ?_
  refine L_getI (c140 8 rfl) hM hv2 rfl ?_
  refine L_nb (p1 := 35) (p2 := 14) (c140 11 rfl) rfl jc_ge h (fun h => ?_) (fun h => ?_)
  · refine L_ps c140 (n := 4) (pc1 := 19) (ls1 := [jR v0, jR v1, jR v2, jI v3, jI v4]) (st1 := [jI v4, jR v2, jR v1, jR v0]) rfl ?_
    refine L_cI (c140 19 rfl) (js_v rfl ((Rl_tag hM hv0 (by decide)).trans js71)) hh140 (k_Rewriter_firstRule hv0 hv1 hv2 hM h) (fun r1 M μ2 hM h => ?_) (fun _ _ _ _ f => f.elim)
    refine L_ps c140 (n := 1) (pc1 := 23) (ls1 := [jR v0, jR v1, jR v2, jI v3, jI v4]) (st1 := [jI (-1), jI r1]) rfl ?_
    refine L_br (p1 := 29) (p2 := 26) (c140 23 rfl) rfl jc_eq h (fun h => ?_) (fun h => ?_)
    · exact k_Rewriter_countRedexes_j29 hv0 hv1 hv2 hM hQ hW5 h
    · refine L_ps c140 (n := 1) (pc1 := 29) (ls1 := [jR v0, jR v1, jR v2, jI (wr (v3 + 1)), jI v4]) (st1 := []) rfl ?_
      exact k_Rewriter_countRedexes_j29 hv0 hv1 hv2 hM hQ hW5 h
  · refine L_ps c140 (n := 1) (pc1 := 36) (ls1 := [jR v0, jR v1, jR v2, jI v3, jI v4]) (st1 := [jI v3]) rfl ?_
    exact L_retI (c140 36 rfl) (hQ _ _ _ hM h)
theorem k_Rewriter_countRedexes_l5 {E : JE2} {v0 : Nat} {v1 : Nat} {v2 : Nat} {v3 : Int} {v4 : Int} {μ : Mem} {M : JM} {P : JO → JM → Prop} {Q : Int → Mem → Prop} (hv0 : rt v0 = 4) (hv1 : rt v1 = 7) (hv2 : rt v2 = 8) (hM : Rl E M μ) (hQ : ∀ (r : Int) (M1 : JM) (μ1 : Mem), Rl E M1 μ1 → Q r μ1 → P (.inl (some (.inl r))) M1) (h : d_Rewriter_countRedexes_l5 v0 v1 v2 v3 v4 μ Q) : JX 140 5 [jR v0, jR v1, jR v2, jI v3, jI v4] [] M P := by
  refine h (fun v3 v4 μ => ∀ (M : JM), Rl E M μ → JX 140 5 [jR v0, jR v1, jR v2, jI v3, jI v4] [] M P) ?_ _ hM
  intro v3 v4 μ h M hM
  exact k_Rewriter_countRedexes_b5 hv0 hv1 hv2 hM hQ (fun v3 v4 M μ hM h => h M hM) h
theorem k_Rewriter_countRedexes {E : JE2} {v0 : Nat} {v1 : Nat} {v2 : Nat} {μ : Mem} {M : JM} {Q : Int → Mem → Prop} (hv0 : rt v0 = 4) (hv1 : rt v1 = 7) (hv2 : rt v2 = 8) (hM : Rl E M μ) (h : d_Rewriter_countRedexes v0 v1 v2 μ Q) : JX 140 0 (jargs 140 [jR v0, jR v1, jR v2]) [] M (PO E (QI Q) XN) := by
  unfold d_Rewriter_countRedexes at h
  show JX 140 0 [jR v0, jR v1, jR v2, jU, jU] [] M (PO E (QI Q) XN)
  generalize hP : PO E (QI Q) XN = P
  have hQ : ∀ (r : Int) (M1 : JM) (μ1 : Mem), Rl E M1 μ1 → Q r μ1 → P (.inl (some (.inl r))) M1 := by rw [← hP]; exact fun r M1 μ1 a b => ⟨μ1, a, r, rfl, b⟩
  clear hP
  refine L_ps c140 (n := 4) (pc1 := 5) (ls1 := [jR v0, jR v1, jR v2, jI 0, jI 0]) (st1 := []) rfl ?_
  exact k_Rewriter_countRedexes_l5 hv0 hv1 hv2 hM hQ h
theorem k_OB_redexCount {E : JE2} {v1 : Int} {μ : Mem} {M : JM} {Q : Int → Mem → Prop} {X : Nat → Mem → Prop} (hM : Rl E M μ) (h : d_OB_redexCount v1 μ Q X) : JX 139 0 (jargs 139 [jR 0, jI v1]) [] M (PO E (QI Q) X) := by
  unfold d_OB_redexCount at h
  show JX 139 0 [jR 0, jI v1] [] M (PO E (QI Q) X)
  generalize hP : PO E (QI Q) X = P
  have hQ : ∀ (r : Int) (M1 : JM) (μ1 : Mem), Rl E M1 μ1 → Q r μ1 → P (.inl (some (.inl r))) M1 := by rw [← hP]; exact fun r M1 μ1 a b => ⟨μ1, a, r, rfl, b⟩
  have hX : ∀ (k : Nat) (M1 : JM) (μ1 : Mem), Rl E M1 μ1 → X k μ1 → P (.inr k) M1 := by rw [← hP]; exact fun k M1 μ1 a b => ⟨μ1, a, b⟩
  clear hP
  refine L_ps c139 (n := 1) (pc1 := 1) (ls1 := [jR 0, jI v1]) (st1 := [jR 0]) rfl ?_
  refine L_getP (d := 57) (c139 1 rfl) hM rt0 rfl ?_
  refine L_ps c139 (n := 1) (pc1 := 5) (ls1 := [jR 0, jI v1]) (st1 := [jR 0, jR 57]) rfl ?_
  refine L_getP (d := 5) (c139 5 rfl) hM rt0 rfl ?_
  refine L_ps c139 (n := 2) (pc1 := 10) (ls1 := [jR 0, jI v1]) (st1 := [jI v1, jR 0, jR 5, jR 57]) rfl ?_
  refine L_cR (c139 10 rfl) (js_v rfl ((Rl_tag hM rt0 (by decide)).trans js114)) hh139 (k_OB_requireTerm hM h) (fun r1 M μ2 hM hr1 h => ?_) (fun k M μx hM hx => hX _ _ _ hM hx)
  refine L_cI (c139 13 rfl) (js_v rfl ((Rl_tag hM rt57 (by decide)).trans js140)) hh139 (k_Rewriter_countRedexes rt57 rt5 hr1 hM h) (fun r3 M μ4 hM h => ?_) (fun _ _ _ _ f => f.elim)
  exact L_retI (c139 16 rfl) (hQ _ _ _ hM h)
theorem k_Lw_redexCount {E : JE2} {v1 : Int} {μ : Mem} {M : JM} {Q : Int → Mem → Prop} (hM : Rl E M μ) (h : d_Lw_redexCount v1 μ Q) : JX 138 0 (jargs 138 [jR 0, jI v1, jR 795]) [] M (PO E (QI Q) XN) := by
  unfold d_Lw_redexCount at h
  show JX 138 0 [jR 0, jI v1, jR 795, jU] [] M (PO E (QI Q) XN)
  generalize hP : PO E (QI Q) XN = P
  have hQ : ∀ (r : Int) (M1 : JM) (μ1 : Mem), Rl E M1 μ1 → Q r μ1 → P (.inl (some (.inl r))) M1 := by rw [← hP]; exact fun r M1 μ1 a b => ⟨μ1, a, r, rfl, b⟩
  clear hP
  refine L_ps c138 (n := 4) (pc1 := 4) (ls1 := [jR 0, jI v1, jR 795, jU]) (st1 := [jI v1, jR 0, jI 0, jR 795]) rfl ?_
  refine L_cIH (c138 4 rfl) (js_v rfl ((Rl_tag hM rt0 (by decide)).trans js139)) (k_OB_redexCount hM h) (fun r1 M μ2 hM h => ?_) (fun k M μx hM h => ?_)
  · refine L_ps c138 (n := 1) (pc1 := 8) (ls1 := [jR 0, jI v1, jR 795, jU]) (st1 := [jX (.long ((Int32.ofInt r1).toInt64)), jI 0, jR 795]) rfl ?_
    refine L_last (c138 8 rfl) hM rt795 ln795 (by decide) (fun M hM => ?_)
    refine L_ps c138 (n := 2) (pc1 := 19) (ls1 := [jR 0, jI v1, jR 795, jU]) (st1 := [jI 0]) rfl ?_
    exact L_retI (c138 19 rfl) (hQ _ _ _ hM h)
  · by_cases hk0 : k = 0
    · rw [if_pos hk0] at h
      subst hk0
      refine JH_of (h := 12) (i := 3) (pc1 := 13) (ls1 := [jR 0, jI v1, jR 795, jU]) rfl rfl (Nat.le_of_ble_eq_true rfl) rfl rfl ?_
      refine L_ps c138 (n := 1) (pc1 := 14) (ls1 := [jR 0, jI v1, jR 795, jU]) (st1 := [jI 1]) rfl ?_
      exact L_retI (c138 14 rfl) (hQ _ _ _ hM h)
    rw [if_neg hk0] at h
    by_cases hk1 : k = 1
    · rw [if_pos hk1] at h
      subst hk1
      refine JH_of (h := 15) (i := 3) (pc1 := 16) (ls1 := [jR 0, jI v1, jR 795, jU]) rfl rfl (Nat.le_of_ble_eq_true rfl) rfl rfl ?_
      refine L_ps c138 (n := 1) (pc1 := 17) (ls1 := [jR 0, jI v1, jR 795, jU]) (st1 := [jI 2]) rfl ?_
      exact L_retI (c138 17 rfl) (hQ _ _ _ hM h)
    rw [if_neg hk1] at h
    exact h.elim
