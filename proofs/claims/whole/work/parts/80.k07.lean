/-! that the printed tables do what the texts say (written by wip/gen/dec.py), 7 -/
theorem k_Md_areSame_b3 {E : JE2} {v1 : Int} {v2 : Int} {v3 : Int} {v4 : Int} {μ : Mem} {M : JM} {P : JO → JM → Prop} {W3 : Int → Prop} {Q : Bool → Prop} (hM : Rl E M μ) (hQ : ∀ (r : Bool) (M1 : JM), Rl E M1 μ → Q r → P (.inl (some (.inl (b2i r)))) M1) (hW3 : ∀ (v4 : Int) (M1 : JM), Rl E M1 μ → W3 v4 → JX 313 3 [jR 772, jI v1, jI v2, jI v3, jI v4] [] M1 P) (h : d_Md_areSame_b3 v1 v2 v3 v4 μ W3 Q) : JX 313 3 [jR 772, jI v1, jI v2, jI v3, jI v4] [] M P := by
  unfold d_Md_areSame_b3 at h
  refine L_ps c313 (n := 2) (pc1 := 6) (ls1 := [jR 772, jI v1, jI v2, jI v3, jI v4]) (st1 := [jI v3, jI v4]) rfl ?_
  refine L_nb (p1 := 38) (p2 := 9) (c313 6 rfl) rfl jc_ge h (fun h => ?_) (fun h => ?_)
  · refine L_ps c313 (n := 1) (pc1 := 10) (ls1 := [jR 772, jI v1, jI v2, jI v3, jI v4]) (st1 := [jR 772]) rfl ?_
    refine L_getP (d := 8) (c313 10 rfl) hM rt772 rfl ?_
    refine L_ps c313 (n := 3) (pc1 := 17) (ls1 := [jR 772, jI v1, jI v2, jI v3, jI v4]) (st1 := [jI (wr (v1 + v4)), jR 780]) rfl ?_
    obtain ⟨hb, h⟩ := h
    refine L_iald (c313 17 rfl) hM rt780 ln780 hb ?_
    refine L_ps c313 (n := 1) (pc1 := 19) (ls1 := [jR 772, jI v1, jI v2, jI v3, jI v4]) (st1 := [jR 772, jI (μ 780 (wr (v1 + v4)).toNat)]) rfl ?_
    refine L_getP (d := 8) (c313 19 rfl) hM rt772 rfl ?_
    refine L_ps c313 (n := 3) (pc1 := 26) (ls1 := [jR 772, jI v1, jI v2, jI v3, jI v4]) (st1 := [jI (wr (v2 + v4)), jR 780, jI (μ 780 (wr (v1 + v4)).toNat)]) rfl ?_
    obtain ⟨hb, h⟩ := h
    refine L_iald (c313 26 rfl) hM rt780 ln780 hb ?_
    refine L_br (p1 := 32) (p2 := 30) (c313 27 rfl) rfl jc_eq h (fun h => ?_) (fun h => ?_)
    · refine L_ps c313 (n := 2) (pc1 := 3) (ls1 := [jR 772, jI v1, jI v2, jI v3, jI (wr (v4 + 1))]) (st1 := []) rfl ?_
      exact hW3 _ _ hM h
    · refine L_ps c313 (n := 1) (pc1 := 31) (ls1 := [jR 772, jI v1, jI v2, jI v3, jI v4]) (st1 := [jI 0]) rfl ?_
      exact L_retB (c313 31 rfl) (Or.inl rfl) (hQ false _ hM h)
  · refine L_ps c313 (n := 1) (pc1 := 39) (ls1 := [jR 772, jI v1, jI v2, jI v3, jI v4]) (st1 := [jI 1]) rfl ?_
    exact L_retB (c313 39 rfl) (Or.inr rfl) (hQ true _ hM h)
theorem k_Md_areSame_l3 {E : JE2} {v1 : Int} {v2 : Int} {v3 : Int} {v4 : Int} {μ : Mem} {M : JM} {P : JO → JM → Prop} {Q : Bool → Prop} (hM : Rl E M μ) (hQ : ∀ (r : Bool) (M1 : JM), Rl E M1 μ → Q r → P (.inl (some (.inl (b2i r)))) M1) (h : d_Md_areSame_l3 v1 v2 v3 v4 μ Q) : JX 313 3 [jR 772, jI v1, jI v2, jI v3, jI v4] [] M P := by
  refine h (fun v4 => ∀ (M : JM), Rl E M μ → JX 313 3 [jR 772, jI v1, jI v2, jI v3, jI v4] [] M P) ?_ _ hM
  intro v4 h M hM
  exact k_Md_areSame_b3 hM hQ (fun v4 M hM h => h M hM) h
theorem k_Md_areSame {E : JE2} {v1 : Int} {v2 : Int} {v3 : Int} {μ : Mem} {M : JM} {Q : Bool → Prop} (hM : Rl E M μ) (h : d_Md_areSame v1 v2 v3 μ Q) : JX 313 0 (jargs 313 [jR 772, jI v1, jI v2, jI v3]) [] M (PO E (pQB μ Q) XN) := by
  unfold d_Md_areSame at h
  show JX 313 0 [jR 772, jI v1, jI v2, jI v3, jU] [] M (PO E (pQB μ Q) XN)
  generalize hP : PO E (pQB μ Q) XN = P
  have hQ : ∀ (r : Bool) (M1 : JM), Rl E M1 μ → Q r → P (.inl (some (.inl (b2i r)))) M1 := by rw [← hP]; exact fun r M1 a b => ⟨μ, a, rfl, r, rfl, b⟩
  clear hP
  refine L_ps c313 (n := 2) (pc1 := 3) (ls1 := [jR 772, jI v1, jI v2, jI v3, jI 0]) (st1 := []) rfl ?_
  exact k_Md_areSame_l3 hM hQ h
theorem k_Md_binds {E : JE2} {v1 : Int} {v2 : Int} {μ : Mem} {M : JM} {Q : Bool → Mem → Prop} (hM : Rl E M μ) (h : d_Md_binds v1 v2 μ Q) : JX 310 0 (jargs 310 [jR 772, jI v1, jI v2]) [] M (PO E (QB Q) XN) := by
  unfold d_Md_binds at h
  show JX 310 0 [jR 772, jI v1, jI v2, jU] [] M (PO E (QB Q) XN)
  generalize hP : PO E (QB Q) XN = P
  have hQ : ∀ (r : Bool) (M1 : JM) (μ1 : Mem), Rl E M1 μ1 → Q r μ1 → P (.inl (some (.inl (b2i r)))) M1 := by rw [← hP]; exact fun r M1 μ1 a b => ⟨μ1, a, r, rfl, b⟩
  clear hP
  refine L_ps c310 (n := 1) (pc1 := 1) (ls1 := [jR 772, jI v1, jI v2, jU]) (st1 := [jR 772]) rfl ?_
  refine L_getP (d := 11) (c310 1 rfl) hM rt772 rfl ?_
  refine L_ps c310 (n := 1) (pc1 := 5) (ls1 := [jR 772, jI v1, jI v2, jU]) (st1 := [jI v1, jR 783]) rfl ?_
  obtain ⟨hb, h⟩ := h
  refine L_iald (c310 5 rfl) hM rt783 ln783 hb ?_
  refine L_ps c310 (n := 1) (pc1 := 7) (ls1 := [jR 772, jI v1, jI v2, jU]) (st1 := [jI (-1), jI (μ 783 v1.toNat)]) rfl ?_
  refine L_nb (p1 := 19) (p2 := 10) (c310 7 rfl) rfl jc_ne h (fun h => ?_) (fun h => ?_)
  · refine L_ps c310 (n := 1) (pc1 := 11) (ls1 := [jR 772, jI v1, jI v2, jU]) (st1 := [jR 772]) rfl ?_
    refine L_getP (d := 11) (c310 11 rfl) hM rt772 rfl ?_
    refine L_ps c310 (n := 2) (pc1 := 16) (ls1 := [jR 772, jI v1, jI v2, jU]) (st1 := [jI v2, jI v1, jR 783]) rfl ?_
    obtain ⟨hb, h⟩ := h
    refine L_iast (c310 16 rfl) hM rt783 ln783 hb (fun M hM => ?_)
    refine L_ps c310 (n := 1) (pc1 := 18) (ls1 := [jR 772, jI v1, jI v2, jU]) (st1 := [jI 1]) rfl ?_
    exact L_retB (c310 18 rfl) (Or.inr rfl) (hQ true _ _ hM h)
  · refine L_ps c310 (n := 2) (pc1 := 21) (ls1 := [jR 772, jI v1, jI v2, jU]) (st1 := [jR 772, jR 772]) rfl ?_
    refine L_getP (d := 8) (c310 21 rfl) hM rt772 rfl ?_
    refine L_ps c310 (n := 1) (pc1 := 25) (ls1 := [jR 772, jI v1, jI v2, jU]) (st1 := [jI v2, jR 780, jR 772]) rfl ?_
    refine L_cpI (c310 25 rfl) (js_v rfl ((Rl_tag hM rt772 (by decide)).trans js311)) hh310 (k_Md_behind rt780 hM h) (fun r1 M hM h => ?_) (fun _ _ _ _ f => f.elim)
    refine L_ps c310 (n := 5) (pc1 := 33) (ls1 := [jR 772, jI v1, jI v2, jI (wr (r1 - v2))]) (st1 := [jR 772, jR 772]) rfl ?_
    refine L_getP (d := 8) (c310 33 rfl) hM rt772 rfl ?_
    refine L_ps c310 (n := 1) (pc1 := 37) (ls1 := [jR 772, jI v1, jI v2, jI (wr (r1 - v2))]) (st1 := [jR 772, jR 780, jR 772]) rfl ?_
    refine L_getP (d := 11) (c310 37 rfl) hM rt772 rfl ?_
    refine L_ps c310 (n := 1) (pc1 := 41) (ls1 := [jR 772, jI v1, jI v2, jI (wr (r1 - v2))]) (st1 := [jI v1, jR 783, jR 780, jR 772]) rfl ?_
    obtain ⟨hb, h⟩ := h
    refine L_iald (c310 41 rfl) hM rt783 ln783 hb ?_
    refine L_cpI (c310 42 rfl) (js_v rfl ((Rl_tag hM rt772 (by decide)).trans js311)) hh310 (k_Md_behind rt780 hM h) (fun r3 M hM h => ?_) (fun _ _ _ _ f => f.elim)
    refine L_ps c310 (n := 1) (pc1 := 46) (ls1 := [jR 772, jI v1, jI v2, jI (wr (r1 - v2))]) (st1 := [jR 772, jI r3]) rfl ?_
    refine L_getP (d := 11) (c310 46 rfl) hM rt772 rfl ?_
    refine L_ps c310 (n := 1) (pc1 := 50) (ls1 := [jR 772, jI v1, jI v2, jI (wr (r1 - v2))]) (st1 := [jI v1, jR 783, jI r3]) rfl ?_
    obtain ⟨hb, h⟩ := h
    refine L_iald (c310 50 rfl) hM rt783 ln783 hb ?_
    refine L_ps c310 (n := 2) (pc1 := 53) (ls1 := [jR 772, jI v1, jI v2, jI (wr (r1 - v2))]) (st1 := [jI (wr (r1 - v2)), jI (wr (r3 - (μ 783 v1.toNat)))]) rfl ?_
    refine L_nb (p1 := 75) (p2 := 56) (c310 53 rfl) rfl jc_ne h (fun h => ?_) (fun h => ?_)
    · refine L_ps c310 (n := 2) (pc1 := 58) (ls1 := [jR 772, jI v1, jI v2, jI (wr (r1 - v2))]) (st1 := [jR 772, jR 772]) rfl ?_
      refine L_getP (d := 11) (c310 58 rfl) hM rt772 rfl ?_
      refine L_ps c310 (n := 1) (pc1 := 62) (ls1 := [jR 772, jI v1, jI v2, jI (wr (r1 - v2))]) (st1 := [jI v1, jR 783, jR 772]) rfl ?_
      obtain ⟨hb, h⟩ := h
      refine L_iald (c310 62 rfl) hM rt783 ln783 hb ?_
      refine L_ps c310 (n := 2) (pc1 := 65) (ls1 := [jR 772, jI v1, jI v2, jI (wr (r1 - v2))]) (st1 := [jI (wr (r1 - v2)), jI v2, jI (μ 783 v1.toNat), jR 772]) rfl ?_
      refine L_cpB (c310 65 rfl) (js_v rfl ((Rl_tag hM rt772 (by decide)).trans js313)) hh310 (k_Md_areSame hM h) (fun r5 M hM h => ?_) (fun _ _ _ _ f => f.elim)
      refine L_nb (p1 := 75) (p2 := 71) (c310 68 rfl) rfl jc_eqb h (fun h => ?_) (fun h => ?_)
      · refine L_ps c310 (n := 2) (pc1 := 76) (ls1 := [jR 772, jI v1, jI v2, jI (wr (r1 - v2))]) (st1 := [jI 1]) rfl ?_
        exact L_retB (c310 76 rfl) (Or.inr rfl) (hQ true _ _ hM h)
      · refine L_ps c310 (n := 1) (pc1 := 76) (ls1 := [jR 772, jI v1, jI v2, jI (wr (r1 - v2))]) (st1 := [jI 0]) rfl ?_
        exact L_retB (c310 76 rfl) (Or.inl rfl) (hQ false _ _ hM h)
    · refine L_ps c310 (n := 1) (pc1 := 76) (ls1 := [jR 772, jI v1, jI v2, jI (wr (r1 - v2))]) (st1 := [jI 0]) rfl ?_
      exact L_retB (c310 76 rfl) (Or.inl rfl) (hQ false _ _ hM h)
theorem k_Md_matchesAt_j99 {E : JE2} {v1 : Int} {v3 : Int} {v4 : Int} {μ : Mem} {M : JM} {P : JO → JM → Prop} {g2 : JV} {g5 : JV} {W26 : Int → Int → Mem → Prop} {Q : Bool → Mem → Prop} (hg2 : jc2 g2 = false) (hM : Rl E M μ) (hQ : ∀ (r : Bool) (M1 : JM) (μ1 : Mem), Rl E M1 μ1 → Q r μ1 → P (.inl (some (.inl (b2i r)))) M1) (hW26 : ∀ (v3 : Int) (v4 : Int) (g2 : JV) (g5 : JV) (M1 : JM) (μ1 : Mem), jc2 g2 = false → Rl E M1 μ1 → W26 v3 v4 μ1 → JX 309 26 [jR 772, jI v1, g2, jI v3, jI v4, g5] [] M1 P) (h : d_Md_matchesAt_j99 v1 v3 v4 μ W26 Q) : JX 309 99 [jR 772, jI v1, g2, jI v3, jI v4, g5] [] M P := by
  unfold d_Md_matchesAt_j99 at h
  refine L_ps c309 (n := 2) (pc1 := 26) (ls1 := [jR 772, jI v1, g2, jI v3, jI (wr (v4 + 1)), g5]) (st1 := []) rfl ?_
  exact hW26 _ _ _ _ _ _ hg2 hM h
theorem k_Md_matchesAt_b26 {E : JE2} {v1 : Int} {v3 : Int} {v4 : Int} {μ : Mem} {M : JM} {P : JO → JM → Prop} {g2 : JV} {g5 : JV} {W26 : Int → Int → Mem → Prop} {Q : Bool → Mem → Prop} (hg2 : jc2 g2 = false) (hM : Rl E M μ) (hQ : ∀ (r : Bool) (M1 : JM) (μ1 : Mem), Rl E M1 μ1 → Q r μ1 → P (.inl (some (.inl (b2i r)))) M1) (hW26 : ∀ (v3 : Int) (v4 : Int) (g2 : JV) (g5 : JV) (M1 : JM) (μ1 : Mem), jc2 g2 = false → Rl E M1 μ1 → W26 v3 v4 μ1 → JX 309 26 [jR 772, jI v1, g2, jI v3, jI v4, g5] [] M1 P) (h : d_Md_matchesAt_b26 v1 v3 v4 μ W26 Q) : JX 309 26 [jR 772, jI v1, g2, jI v3, jI v4, g5] [] M P := by
  unfold d_Md_matchesAt_b26 at h
  refine L_ps c309 (n := 4) (pc1 := 31) (ls1 := [jR 772, jI v1, g2, jI v3, jI v4, g5]) (st1 := [jI 0, jI v1, jR 772, jI v4]) rfl ?_
  refine L_cpI (c309 31 rfl) (js_v rfl ((Rl_tag hM rt772 (by decide)).trans js298)) hh309 (k_Md_ofRule hM h) (fun r1 M hM h => ?_) (fun _ _ _ _ f => f.elim)
  refine L_nb (p1 := 105) (p2 := 37) (c309 34 rfl) rfl jc_ge h (fun h => ?_) (fun h => ?_)
  · refine L_ps c309 (n := 5) (pc1 := 43) (ls1 := [jR 772, jI v1, g2, jI v3, jI v4, g5]) (st1 := [jI (wr (2 + v4)), jI v1, jR 772]) rfl ?_
    refine L_cpI (c309 43 rfl) (js_v rfl ((Rl_tag hM rt772 (by decide)).trans js298)) hh309 (k_Md_ofRule hM h) (fun r3 M hM h => ?_) (fun _ _ _ _ f => f.elim)
    refine L_ps c309 (n := 3) (pc1 := 52) (ls1 := [jR 772, jI v1, g2, jI v3, jI v4, jI r3]) (st1 := [jI 100, jI r3]) rfl ?_
    refine L_nb (p1 := 74) (p2 := 55) (c309 52 rfl) rfl jc_ge h (fun h => ?_) (fun h => ?_)
    · refine L_ps c309 (n := 1) (pc1 := 56) (ls1 := [jR 772, jI v1, g2, jI v3, jI v4, jI r3]) (st1 := [jR 772]) rfl ?_
      refine L_getP (d := 8) (c309 56 rfl) hM rt772 rfl ?_
      refine L_ps c309 (n := 1) (pc1 := 60) (ls1 := [jR 772, jI v1, g2, jI v3, jI v4, jI r3]) (st1 := [jI v3, jR 780]) rfl ?_
      obtain ⟨hb, h⟩ := h
      refine L_iald (c309 60 rfl) hM rt780 ln780 hb ?_
      refine L_ps c309 (n := 1) (pc1 := 63) (ls1 := [jR 772, jI v1, g2, jI v3, jI v4, jI r3]) (st1 := [jI r3, jI (μ 780 v3.toNat)]) rfl ?_
      refine L_br (p1 := 68) (p2 := 66) (c309 63 rfl) rfl jc_eq h (fun h => ?_) (fun h => ?_)
      · refine L_iinc (c309 68 rfl) (hg2) (Nat.le_of_ble_eq_true rfl) rfl ?_
        show JX 309 71 [jR 772, jI v1, g2, jI (wr (v3 + 1)), jI v4, jI r3] [] M P
        refine L_ps c309 (n := 1) (pc1 := 99) (ls1 := [jR 772, jI v1, g2, jI (wr (v3 + 1)), jI v4, jI r3]) (st1 := []) rfl ?_
        exact k_Md_matchesAt_j99 hg2 hM hQ hW26 h
      · refine L_ps c309 (n := 1) (pc1 := 67) (ls1 := [jR 772, jI v1, g2, jI v3, jI v4, jI r3]) (st1 := [jI 0]) rfl ?_
        exact L_retB (c309 67 rfl) (Or.inl rfl) (hQ false _ _ hM h)
    · refine L_ps c309 (n := 5) (pc1 := 81) (ls1 := [jR 772, jI v1, g2, jI v3, jI v4, jI r3]) (st1 := [jI v3, jI (wr (r3 - 100)), jR 772]) rfl ?_
      refine L_cB (c309 81 rfl) (js_v rfl ((Rl_tag hM rt772 (by decide)).trans js310)) hh309 (k_Md_binds hM h) (fun r5 M μ6 hM h => ?_) (fun _ _ _ _ f => f.elim)
      refine L_br (p1 := 89) (p2 := 87) (c309 84 rfl) rfl jc_neb h (fun h => ?_) (fun h => ?_)
      · refine L_ps c309 (n := 2) (pc1 := 91) (ls1 := [jR 772, jI v1, g2, jI v3, jI v4, jI r3]) (st1 := [jR 772, jR 772]) rfl ?_
        refine L_getP (d := 8) (c309 91 rfl) hM rt772 rfl ?_
        refine L_ps c309 (n := 1) (pc1 := 95) (ls1 := [jR 772, jI v1, g2, jI v3, jI v4, jI r3]) (st1 := [jI v3, jR 780, jR 772]) rfl ?_
        refine L_cpI (c309 95 rfl) (js_v rfl ((Rl_tag hM rt772 (by decide)).trans js311)) hh309 (k_Md_behind rt780 hM h) (fun r7 M hM h => ?_) (fun _ _ _ _ f => f.elim)
        refine L_istn (c309 98 rfl) (hg2) (Nat.le_of_ble_eq_true rfl) ?_
        show JX 309 99 [jR 772, jI v1, g2, jI r7, jI v4, jI r3] [] M P
        exact k_Md_matchesAt_j99 hg2 hM hQ hW26 h
      · refine L_ps c309 (n := 1) (pc1 := 88) (ls1 := [jR 772, jI v1, g2, jI v3, jI v4, jI r3]) (st1 := [jI 0]) rfl ?_
        exact L_retB (c309 88 rfl) (Or.inl rfl) (hQ false _ _ hM h)
  · refine L_ps c309 (n := 1) (pc1 := 106) (ls1 := [jR 772, jI v1, g2, jI v3, jI v4, g5]) (st1 := [jI 1]) rfl ?_
    exact L_retB (c309 106 rfl) (Or.inr rfl) (hQ true _ _ hM h)
theorem k_Md_matchesAt_l26 {E : JE2} {v1 : Int} {v3 : Int} {v4 : Int} {μ : Mem} {M : JM} {P : JO → JM → Prop} {g2 : JV} {g5 : JV} {Q : Bool → Mem → Prop} (hg2 : jc2 g2 = false) (hM : Rl E M μ) (hQ : ∀ (r : Bool) (M1 : JM) (μ1 : Mem), Rl E M1 μ1 → Q r μ1 → P (.inl (some (.inl (b2i r)))) M1) (h : d_Md_matchesAt_l26 v1 v3 v4 μ Q) : JX 309 26 [jR 772, jI v1, g2, jI v3, jI v4, g5] [] M P := by
  refine h (fun v3 v4 μ => ∀ (g2 : JV) (g5 : JV) (M : JM), jc2 g2 = false → Rl E M μ → JX 309 26 [jR 772, jI v1, g2, jI v3, jI v4, g5] [] M P) ?_ _ _ _ hg2 hM
  intro v3 v4 μ h g2 g5 M hg2 hM
  exact k_Md_matchesAt_b26 hg2 hM hQ (fun v3 v4 g2 g5 M μ hg2 hM h => h g2 g5 M hg2 hM) h
theorem k_Md_matchesAt_b2 {E : JE2} {v1 : Int} {v2 : Int} {v3 : Int} {μ : Mem} {M : JM} {P : JO → JM → Prop} {g4 : JV} {g5 : JV} {W2 : Int → Mem → Prop} {Q : Bool → Mem → Prop} (hg4 : jc2 g4 = false) (hM : Rl E M μ) (hQ : ∀ (r : Bool) (M1 : JM) (μ1 : Mem), Rl E M1 μ1 → Q r μ1 → P (.inl (some (.inl (b2i r)))) M1) (hW2 : ∀ (v3 : Int) (g4 : JV) (g5 : JV) (M1 : JM) (μ1 : Mem), jc2 g4 = false → Rl E M1 μ1 → W2 v3 μ1 → JX 309 2 [jR 772, jI v1, jI v2, jI v3, g4, g5] [] M1 P) (h : d_Md_matchesAt_b2 v1 v2 v3 μ W2 Q) : JX 309 2 [jR 772, jI v1, jI v2, jI v3, g4, g5] [] M P := by
  unfold d_Md_matchesAt_b2 at h
  refine L_ps c309 (n := 2) (pc1 := 5) (ls1 := [jR 772, jI v1, jI v2, jI v3, g4, g5]) (st1 := [jI 8, jI v3]) rfl ?_
  refine L_nb (p1 := 21) (p2 := 8) (c309 5 rfl) rfl jc_ge h (fun h => ?_) (fun h => ?_)
  · refine L_ps c309 (n := 1) (pc1 := 9) (ls1 := [jR 772, jI v1, jI v2, jI v3, g4, g5]) (st1 := [jR 772]) rfl ?_
    refine L_getP (d := 11) (c309 9 rfl) hM rt772 rfl ?_
    refine L_ps c309 (n := 2) (pc1 := 14) (ls1 := [jR 772, jI v1, jI v2, jI v3, g4, g5]) (st1 := [jI (-1), jI v3, jR 783]) rfl ?_
    obtain ⟨hb, h⟩ := h
    refine L_iast (c309 14 rfl) hM rt783 ln783 hb (fun M hM => ?_)
    refine L_ps c309 (n := 2) (pc1 := 2) (ls1 := [jR 772, jI v1, jI v2, jI (wr (v3 + 1)), g4, g5]) (st1 := []) rfl ?_
    exact hW2 _ _ _ _ _ hg4 hM h
  · refine L_ps c309 (n := 4) (pc1 := 26) (ls1 := [jR 772, jI v1, jI v2, jI v2, jI 0, g5]) (st1 := []) rfl ?_
    exact k_Md_matchesAt_l26 rfl hM hQ h
theorem k_Md_matchesAt_l2 {E : JE2} {v1 : Int} {v2 : Int} {v3 : Int} {μ : Mem} {M : JM} {P : JO → JM → Prop} {g4 : JV} {g5 : JV} {Q : Bool → Mem → Prop} (hg4 : jc2 g4 = false) (hM : Rl E M μ) (hQ : ∀ (r : Bool) (M1 : JM) (μ1 : Mem), Rl E M1 μ1 → Q r μ1 → P (.inl (some (.inl (b2i r)))) M1) (h : d_Md_matchesAt_l2 v1 v2 v3 μ Q) : JX 309 2 [jR 772, jI v1, jI v2, jI v3, g4, g5] [] M P := by
  refine h (fun v3 μ => ∀ (g4 : JV) (g5 : JV) (M : JM), jc2 g4 = false → Rl E M μ → JX 309 2 [jR 772, jI v1, jI v2, jI v3, g4, g5] [] M P) ?_ _ _ _ hg4 hM
  intro v3 μ h g4 g5 M hg4 hM
  exact k_Md_matchesAt_b2 hg4 hM hQ (fun v3 g4 g5 M μ hg4 hM h => h g4 g5 M hg4 hM) h
theorem k_Md_matchesAt {E : JE2} {v1 : Int} {v2 : Int} {μ : Mem} {M : JM} {Q : Bool → Mem → Prop} (hM : Rl E M μ) (h : d_Md_matchesAt v1 v2 μ Q) : JX 309 0 (jargs 309 [jR 772, jI v1, jI v2]) [] M (PO E (QB Q) XN) := by
  unfold d_Md_matchesAt at h
  show JX 309 0 [jR 772, jI v1, jI v2, jU, jU, jU] [] M (PO E (QB Q) XN)
  generalize hP : PO E (QB Q) XN = P
  have hQ : ∀ (r : Bool) (M1 : JM) (μ1 : Mem), Rl E M1 μ1 → Q r μ1 → P (.inl (some (.inl (b2i r)))) M1 := by rw [← hP]; exact fun r M1 μ1 a b => ⟨μ1, a, r, rfl, b⟩
  clear hP
  refine L_ps c309 (n := 2) (pc1 := 2) (ls1 := [jR 772, jI v1, jI v2, jI 0, jU, jU]) (st1 := []) rfl ?_
  exact k_Md_matchesAt_l2 rfl hM hQ h
theorem k_Md_firstRule_b2 {E : JE2} {v1 : Int} {v2 : Int} {μ : Mem} {M : JM} {P : JO → JM → Prop} {W2 : Int → Mem → Prop} {Q : Int → Mem → Prop} (hM : Rl E M μ) (hQ : ∀ (r : Int) (M1 : JM) (μ1 : Mem), Rl E M1 μ1 → Q r μ1 → P (.inl (some (.inl r))) M1) (hW2 : ∀ (v2 : Int) (M1 : JM) (μ1 : Mem), Rl E M1 μ1 → W2 v2 μ1 → JX 308 2 [jR 772, jI v1, jI v2] [] M1 P) (h : d_Md_firstRule_b2 v1 v2 μ W2 Q) : JX 308 2 [jR 772, jI v1, jI v2] [] M P := by
  unfold d_Md_firstRule_b2 at h
  refine L_ps c308 (n := 2) (pc1 := 4) (ls1 := [jR 772, jI v1, jI v2]) (st1 := [jR 772, jI v2]) rfl ?_
  refine L_getP (d := 1) (c308 4 rfl) hM rt772 rfl ?_
  refine L_ps c308 (n := 1) (pc1 := 8) (ls1 := [jR 772, jI v1, jI v2]) (st1 := [jI 1, jR 773, jI v2]) rfl ?_
  refine L_iald (c308 8 rfl) hM rt773 ln773 (by decide) ?_
  refine L_nb (p1 := 29) (p2 := 12) (c308 9 rfl) rfl jc_ge h (fun h => ?_) (fun h => ?_)
  · refine L_ps c308 (n := 3) (pc1 := 15) (ls1 := [jR 772, jI v1, jI v2]) (st1 := [jI v1, jI v2, jR 772]) rfl ?_
    refine L_cB (c308 15 rfl) (js_v rfl ((Rl_tag hM rt772 (by decide)).trans js309)) hh308 (k_Md_matchesAt hM h) (fun r1 M μ2 hM h => ?_) (fun _ _ _ _ f => f.elim)
    refine L_nb (p1 := 23) (p2 := 21) (c308 18 rfl) rfl jc_eqb h (fun h => ?_) (fun h => ?_)
    · refine L_ps c308 (n := 1) (pc1 := 22) (ls1 := [jR 772, jI v1, jI v2]) (st1 := [jI v2]) rfl ?_
      exact L_retI (c308 22 rfl) (hQ _ _ _ hM h)
    · refine L_ps c308 (n := 2) (pc1 := 2) (ls1 := [jR 772, jI v1, jI (wr (v2 + 1))]) (st1 := []) rfl ?_
      exact hW2 _ _ _ hM h
  · refine L_ps c308 (n := 1) (pc1 := 30) (ls1 := [jR 772, jI v1, jI v2]) (st1 := [jI (-1)]) rfl ?_
    exact L_retI (c308 30 rfl) (hQ _ _ _ hM h)
theorem k_Md_firstRule_l2 {E : JE2} {v1 : Int} {v2 : Int} {μ : Mem} {M : JM} {P : JO → JM → Prop} {Q : Int → Mem → Prop} (hM : Rl E M μ) (hQ : ∀ (r : Int) (M1 : JM) (μ1 : Mem), Rl E M1 μ1 → Q r μ1 → P (.inl (some (.inl r))) M1) (h : d_Md_firstRule_l2 v1 v2 μ Q) : JX 308 2 [jR 772, jI v1, jI v2] [] M P := by
  refine h (fun v2 μ => ∀ (M : JM), Rl E M μ → JX 308 2 [jR 772, jI v1, jI v2] [] M P) ?_ _ hM
  intro v2 μ h M hM
  exact k_Md_firstRule_b2 hM hQ (fun v2 M μ hM h => h M hM) h
theorem k_Md_firstRule {E : JE2} {v1 : Int} {μ : Mem} {M : JM} {Q : Int → Mem → Prop} (hM : Rl E M μ) (h : d_Md_firstRule v1 μ Q) : JX 308 0 (jargs 308 [jR 772, jI v1]) [] M (PO E (QI Q) XN) := by
  unfold d_Md_firstRule at h
  show JX 308 0 [jR 772, jI v1, jU] [] M (PO E (QI Q) XN)
  generalize hP : PO E (QI Q) XN = P
  have hQ : ∀ (r : Int) (M1 : JM) (μ1 : Mem), Rl E M1 μ1 → Q r μ1 → P (.inl (some (.inl r))) M1 := by rw [← hP]; exact fun r M1 μ1 a b => ⟨μ1, a, r, rfl, b⟩
  clear hP
  refine L_ps c308 (n := 2) (pc1 := 2) (ls1 := [jR 772, jI v1, jI 0]) (st1 := []) rfl ?_
  exact k_Md_firstRule_l2 hM hQ h
theorem k_Md_outermost_b2 {E : JE2} {v1 : Int} {μ : Mem} {M : JM} {P : JO → JM → Prop} {W2 : Int → Mem → Prop} {Q : Int → Mem → Prop} (hM : Rl E M μ) (hQ : ∀ (r : Int) (M1 : JM) (μ1 : Mem), Rl E M1 μ1 → Q r μ1 → P (.inl (some (.inl r))) M1) (hW2 : ∀ (v1 : Int) (M1 : JM) (μ1 : Mem), Rl E M1 μ1 → W2 v1 μ1 → JX 307 2 [jR 772, jI v1] [] M1 P) (h : d_Md_outermost_b2 v1 μ W2 Q) : JX 307 2 [jR 772, jI v1] [] M P := by
  unfold d_Md_outermost_b2 at h
  refine L_ps c307 (n := 2) (pc1 := 4) (ls1 := [jR 772, jI v1]) (st1 := [jR 772, jI v1]) rfl ?_
  refine L_getI (c307 4 rfl) hM rt772 rfl ?_
  refine L_nb (p1 := 27) (p2 := 10) (c307 7 rfl) rfl jc_ge h (fun h => ?_) (fun h => ?_)
  · refine L_ps c307 (n := 2) (pc1 := 12) (ls1 := [jR 772, jI v1]) (st1 := [jI v1, jR 772]) rfl ?_
    refine L_cI (c307 12 rfl) (js_v rfl ((Rl_tag hM rt772 (by decide)).trans js308)) hh307 (k_Md_firstRule hM h) (fun r1 M μ2 hM h => ?_) (fun _ _ _ _ f => f.elim)
    refine L_ps c307 (n := 1) (pc1 := 16) (ls1 := [jR 772, jI v1]) (st1 := [jI (-1), jI r1]) rfl ?_
    refine L_br (p1 := 21) (p2 := 19) (c307 16 rfl) rfl jc_eq h (fun h => ?_) (fun h => ?_)
    · refine L_ps c307 (n := 2) (pc1 := 2) (ls1 := [jR 772, jI (wr (v1 + 1))]) (st1 := []) rfl ?_
      exact hW2 _ _ _ hM h
    · refine L_ps c307 (n := 1) (pc1 := 20) (ls1 := [jR 772, jI v1]) (st1 := [jI v1]) rfl ?_
      exact L_retI (c307 20 rfl) (hQ _ _ _ hM h)
  · refine L_ps c307 (n := 1) (pc1 := 28) (ls1 := [jR 772, jI v1]) (st1 := [jI (-1)]) rfl ?_
    exact L_retI (c307 28 rfl) (hQ _ _ _ hM h)
theorem k_Md_outermost_l2 {E : JE2} {v1 : Int} {μ : Mem} {M : JM} {P : JO → JM → Prop} {Q : Int → Mem → Prop} (hM : Rl E M μ) (hQ : ∀ (r : Int) (M1 : JM) (μ1 : Mem), Rl E M1 μ1 → Q r μ1 → P (.inl (some (.inl r))) M1) (h : d_Md_outermost_l2 v1 μ Q) : JX 307 2 [jR 772, jI v1] [] M P := by
  refine h (fun v1 μ => ∀ (M : JM), Rl E M μ → JX 307 2 [jR 772, jI v1] [] M P) ?_ _ hM
  intro v1 μ h M hM
  exact k_Md_outermost_b2 hM hQ (fun v1 M μ hM h => h M hM) h
theorem k_Md_outermost {E : JE2} {μ : Mem} {M : JM} {Q : Int → Mem → Prop} (hM : Rl E M μ) (h : d_Md_outermost μ Q) : JX 307 0 (jargs 307 [jR 772]) [] M (PO E (QI Q) XN) := by
  unfold d_Md_outermost at h
  show JX 307 0 [jR 772, jU] [] M (PO E (QI Q) XN)
  generalize hP : PO E (QI Q) XN = P
  have hQ : ∀ (r : Int) (M1 : JM) (μ1 : Mem), Rl E M1 μ1 → Q r μ1 → P (.inl (some (.inl r))) M1 := by rw [← hP]; exact fun r M1 μ1 a b => ⟨μ1, a, r, rfl, b⟩
  clear hP
  refine L_ps c307 (n := 2) (pc1 := 2) (ls1 := [jR 772, jI 0]) (st1 := []) rfl ?_
  exact k_Md_outermost_l2 hM hQ h
theorem k_Md_innermost_j40 {E : JE2} {v1 : Int} {v2 : Int} {μ : Mem} {M : JM} {P : JO → JM → Prop} {W16 : Int → Int → Mem → Prop} {Q : Int → Mem → Prop} (hM : Rl E M μ) (hQ : ∀ (r : Int) (M1 : JM) (μ1 : Mem), Rl E M1 μ1 → Q r μ1 → P (.inl (some (.inl r))) M1) (hW16 : ∀ (v1 : Int) (v2 : Int) (M1 : JM) (μ1 : Mem), Rl E M1 μ1 → W16 v1 v2 μ1 → JX 306 16 [jR 772, jI v1, jI v2] [] M1 P) (h : d_Md_innermost_j40 v1 v2 μ W16 Q) : JX 306 40 [jR 772, jI v1, jI v2] [] M P := by
  unfold d_Md_innermost_j40 at h
  refine L_ps c306 (n := 2) (pc1 := 16) (ls1 := [jR 772, jI v1, jI (wr (v2 + 1))]) (st1 := []) rfl ?_
  exact hW16 _ _ _ _ hM h
theorem k_Md_innermost_b16 {E : JE2} {v1 : Int} {v2 : Int} {μ : Mem} {M : JM} {P : JO → JM → Prop} {W16 : Int → Int → Mem → Prop} {Q : Int → Mem → Prop} (hM : Rl E M μ) (hQ : ∀ (r : Int) (M1 : JM) (μ1 : Mem), Rl E M1 μ1 → Q r μ1 → P (.inl (some (.inl r))) M1) (hW16 : ∀ (v1 : Int) (v2 : Int) (M1 : JM) (μ1 : Mem), Rl E M1 μ1 → W16 v1 v2 μ1 → JX 306 16 [jR 772, jI v1, jI v2] [] M1 P) (h : d_Md_innermost_b16 v1 v2 μ W16 Q) : JX 306 16 [jR 772, jI v1, jI v2] [] M P := by
  unfold d_Md_innermost_b16 at h
  refine L_ps c306 (n := 3) (pc1 := 19) (ls1 := [jR 772, jI v1, jI v2]) (st1 := [jR 772, jR 772, jI v2]) rfl ?_
  refine L_getP (d := 8) (c306 19 rfl) hM rt772 rfl ?_
  refine L_ps c306 (n := 1) (pc1 := 23) (ls1 := [jR 772, jI v1, jI v2]) (st1 := [jI v1, jR 780, jR 772, jI v2]) rfl ?_
  refine L_cpI (c306 23 rfl) (js_v rfl ((Rl_tag hM rt772 (by decide)).trans js311)) hh306 (k_Md_behind rt780 hM h) (fun r3 M hM h => ?_) (fun _ _ _ _ f => f.elim)
  refine L_nb (p1 := 46) (p2 := 29) (c306 26 rfl) rfl jc_ge h (fun h => ?_) (fun h => ?_)
  · refine L_ps c306 (n := 2) (pc1 := 31) (ls1 := [jR 772, jI v1, jI v2]) (st1 := [jI v2, jR 772]) rfl ?_
    refine L_cI (c306 31 rfl) (js_v rfl ((Rl_tag hM rt772 (by decide)).trans js308)) hh306 (k_Md_firstRule hM h) (fun r5 M μ6 hM h => ?_) (fun _ _ _ _ f => f.elim)
    refine L_ps c306 (n := 1) (pc1 := 35) (ls1 := [jR 772, jI v1, jI v2]) (st1 := [jI (-1), jI r5]) rfl ?_
    refine L_br (p1 := 40) (p2 := 38) (c306 35 rfl) rfl jc_eq h (fun h => ?_) (fun h => ?_)
    · exact k_Md_innermost_j40 hM hQ hW16 h
    · refine L_ps c306 (n := 2) (pc1 := 40) (ls1 := [jR 772, jI v2, jI v2]) (st1 := []) rfl ?_
      exact k_Md_innermost_j40 hM hQ hW16 h
  · refine L_ps c306 (n := 1) (pc1 := 47) (ls1 := [jR 772, jI v1, jI v2]) (st1 := [jI v1]) rfl ?_
    exact L_retI (c306 47 rfl) (hQ _ _ _ hM h)
theorem k_Md_innermost_l16 {E : JE2} {v1 : Int} {v2 : Int} {μ : Mem} {M : JM} {P : JO → JM → Prop} {Q : Int → Mem → Prop} (hM : Rl E M μ) (hQ : ∀ (r : Int) (M1 : JM) (μ1 : Mem), Rl E M1 μ1 → Q r μ1 → P (.inl (some (.inl r))) M1) (h : d_Md_innermost_l16 v1 v2 μ Q) : JX 306 16 [jR 772, jI v1, jI v2] [] M P := by
  refine h (fun v1 v2 μ => ∀ (M : JM), Rl E M μ → JX 306 16 [jR 772, jI v1, jI v2] [] M P) ?_ _ hM
  intro v1 v2 μ h M hM
  exact k_Md_innermost_b16 hM hQ (fun v1 v2 M μ hM h => h M hM) h
theorem k_Md_innermost {E : JE2} {μ : Mem} {M : JM} {Q : Int → Mem → Prop} (hM : Rl E M μ) (h : d_Md_innermost μ Q) : JX 306 0 (jargs 306 [jR 772]) [] M (PO E (QI Q) XN) := by
  unfold d_Md_innermost at h
  show JX 306 0 [jR 772, jU, jU] [] M (PO E (QI Q) XN)
  generalize hP : PO E (QI Q) XN = P
  have hQ : ∀ (r : Int) (M1 : JM) (μ1 : Mem), Rl E M1 μ1 → Q r μ1 → P (.inl (some (.inl r))) M1 := by rw [← hP]; exact fun r M1 μ1 a b => ⟨μ1, a, r, rfl, b⟩
  clear hP
  refine L_ps c306 (n := 1) (pc1 := 1) (ls1 := [jR 772, jU, jU]) (st1 := [jR 772]) rfl ?_
  refine L_cI (c306 1 rfl) (js_v rfl ((Rl_tag hM rt772 (by decide)).trans js307)) hh306 (k_Md_outermost hM h) (fun r1 M μ2 hM h => ?_) (fun _ _ _ _ f => f.elim)
  refine L_ps c306 (n := 3) (pc1 := 7) (ls1 := [jR 772, jI r1, jU]) (st1 := [jI (-1), jI r1]) rfl ?_
  refine L_nb (p1 := 12) (p2 := 10) (c306 7 rfl) rfl jc_ne h (fun h => ?_) (fun h => ?_)
  · refine L_ps c306 (n := 1) (pc1 := 11) (ls1 := [jR 772, jI r1, jU]) (st1 := [jI (-1)]) rfl ?_
    exact L_retI (c306 11 rfl) (hQ _ _ _ hM h)
  · refine L_ps c306 (n := 4) (pc1 := 16) (ls1 := [jR 772, jI r1, jI (wr (r1 + 1))]) (st1 := []) rfl ?_
    exact k_Md_innermost_l16 hM hQ h
theorem k_Md_redex {E : JE2} {v1 : Int} {μ : Mem} {M : JM} {Q : Int → Mem → Prop} (hM : Rl E M μ) (h : d_Md_redex v1 μ Q) : JX 305 0 (jargs 305 [jR 772, jI v1]) [] M (PO E (QI Q) XN) := by
  unfold d_Md_redex at h
  show JX 305 0 [jR 772, jI v1] [] M (PO E (QI Q) XN)
  generalize hP : PO E (QI Q) XN = P
  have hQ : ∀ (r : Int) (M1 : JM) (μ1 : Mem), Rl E M1 μ1 → Q r μ1 → P (.inl (some (.inl r))) M1 := by rw [← hP]; exact fun r M1 μ1 a b => ⟨μ1, a, r, rfl, b⟩
  clear hP
  refine L_ps c305 (n := 1) (pc1 := 1) (ls1 := [jR 772, jI v1]) (st1 := [jI v1]) rfl ?_
  refine L_br (p1 := 11) (p2 := 4) (c305 1 rfl) rfl jc_eq h (fun h => ?_) (fun h => ?_)
  · refine L_ps c305 (n := 1) (pc1 := 12) (ls1 := [jR 772, jI v1]) (st1 := [jR 772]) rfl ?_
    refine L_cI (c305 12 rfl) (js_v rfl ((Rl_tag hM rt772 (by decide)).trans js307)) hh305 (k_Md_outermost hM h) (fun r1 M μ2 hM h => ?_) (fun _ _ _ _ f => f.elim)
    exact L_retI (c305 15 rfl) (hQ _ _ _ hM h)
  · refine L_ps c305 (n := 1) (pc1 := 5) (ls1 := [jR 772, jI v1]) (st1 := [jR 772]) rfl ?_
    refine L_cI (c305 5 rfl) (js_v rfl ((Rl_tag hM rt772 (by decide)).trans js306)) hh305 (k_Md_innermost hM h) (fun r3 M μ4 hM h => ?_) (fun _ _ _ _ f => f.elim)
    refine L_ps c305 (n := 1) (pc1 := 15) (ls1 := [jR 772, jI v1]) (st1 := [jI r3]) rfl ?_
    exact L_retI (c305 15 rfl) (hQ _ _ _ hM h)
theorem k_Md_builds_j19 {E : JE2} {μ : Mem} {M : JM} {P : JO → JM → Prop} {g1 : JV} {Q : Mem → Prop} (hM : Rl E M μ) (hQ : ∀ (M1 : JM) (μ1 : Mem), Rl E M1 μ1 → Q μ1 → P (.inl none) M1) (h : d_Md_builds_j19 μ Q) : JX 317 19 [jR 772, g1] [] M P := by
  unfold d_Md_builds_j19 at h
  refine L_ps c317 (n := 2) (pc1 := 21) (ls1 := [jR 772, g1]) (st1 := [jR 772, jR 772]) rfl ?_
  refine L_getI (c317 21 rfl) hM rt772 rfl ?_
  refine L_ps c317 (n := 2) (pc1 := 26) (ls1 := [jR 772, g1]) (st1 := [jI (wr ((μ 772 26) + 1)), jR 772]) rfl ?_
  refine L_putI (c317 26 rfl) hM rt772 rfl (fun M hM => ?_)
  exact L_end (c317 29 rfl) rfl (hQ _ _ hM h)
theorem k_Md_builds {E : JE2} {v1 : Int} {μ : Mem} {M : JM} {Q : Mem → Prop} (hM : Rl E M μ) (h : d_Md_builds v1 μ Q) : JX 317 0 (jargs 317 [jR 772, jI v1]) [] M (PO E (QV Q) XN) := by
  unfold d_Md_builds at h
  show JX 317 0 [jR 772, jI v1] [] M (PO E (QV Q) XN)
  generalize hP : PO E (QV Q) XN = P
  have hQ : ∀ (M1 : JM) (μ1 : Mem), Rl E M1 μ1 → Q μ1 → P (.inl none) M1 := by rw [← hP]; exact fun M1 μ1 a b => ⟨μ1, a, rfl, b⟩
  clear hP
  refine L_ps c317 (n := 1) (pc1 := 1) (ls1 := [jR 772, jI v1]) (st1 := [jR 772]) rfl ?_
  refine L_getI (c317 1 rfl) hM rt772 rfl ?_
  refine L_ps c317 (n := 1) (pc1 := 6) (ls1 := [jR 772, jI v1]) (st1 := [jI 80, jI (μ 772 26)]) rfl ?_
  refine L_nb (p1 := 19) (p2 := 9) (c317 6 rfl) rfl jc_ge h (fun h => ?_) (fun h => ?_)
  · refine L_ps c317 (n := 1) (pc1 := 10) (ls1 := [jR 772, jI v1]) (st1 := [jR 772]) rfl ?_
    refine L_getP (d := 9) (c317 10 rfl) hM rt772 rfl ?_
    refine L_ps c317 (n := 1) (pc1 := 14) (ls1 := [jR 772, jI v1]) (st1 := [jR 772, jR 781]) rfl ?_
    refine L_getI (c317 14 rfl) hM rt772 rfl ?_
    refine L_ps c317 (n := 1) (pc1 := 18) (ls1 := [jR 772, jI v1]) (st1 := [jI v1, jI (μ 772 26), jR 781]) rfl ?_
    obtain ⟨hb, h⟩ := h
    refine L_iast (c317 18 rfl) hM rt781 ln781 hb (fun M hM => ?_)
    exact k_Md_builds_j19 hM hQ h
  · exact k_Md_builds_j19 hM hQ h
theorem k_Md_buildsFrom_b3 {E : JE2} {v1 : Nat} {v3 : Int} {v4 : Int} {μ : Mem} {M : JM} {P : JO → JM → Prop} {g2 : JV} {W3 : Int → Mem → Prop} {Q : Mem → Prop} (hv1 : rt v1 = 100) (hM : Rl E M μ) (hQ : ∀ (M1 : JM) (μ1 : Mem), Rl E M1 μ1 → Q μ1 → P (.inl none) M1) (hW3 : ∀ (v4 : Int) (g2 : JV) (M1 : JM) (μ1 : Mem), Rl E M1 μ1 → W3 v4 μ1 → JX 316 3 [jR 772, jR v1, g2, jI v3, jI v4] [] M1 P) (h : d_Md_buildsFrom_b3 v1 v3 v4 μ W3 Q) : JX 316 3 [jR 772, jR v1, g2, jI v3, jI v4] [] M P := by
  unfold d_Md_buildsFrom_b3 at h
  refine L_ps c316 (n := 2) (pc1 := 6) (ls1 := [jR 772, jR v1, g2, jI v3, jI v4]) (st1 := [jI v3, jI v4]) rfl ?_
  refine L_nb (p1 := 23) (p2 := 9) (c316 6 rfl) rfl jc_ge h (fun h => ?_) (fun h => ?_)
  · refine L_ps c316 (n := 3) (pc1 := 13) (ls1 := [jR 772, jR v1, g2, jI v3, jI v4]) (st1 := [jI v4, jR v1, jR 772]) rfl ?_
    obtain ⟨hb, h⟩ := h
    refine L_iald (c316 13 rfl) hM hv1 rfl hb ?_
    refine L_cV (c316 14 rfl) (js_v rfl ((Rl_tag hM rt772 (by decide)).trans js317)) hh316 (k_Md_builds hM h) (fun M μ2 hM h => ?_) (fun _ _ _ _ f => f.elim)
    refine L_ps c316 (n := 2) (pc1 := 3) (ls1 := [jR 772, jR v1, g2, jI v3, jI (wr (v4 + 1))]) (st1 := []) rfl ?_
    exact hW3 _ _ _ _ hM h
  · exact L_end (c316 23 rfl) rfl (hQ _ _ hM h)
theorem k_Md_buildsFrom_l3 {E : JE2} {v1 : Nat} {v3 : Int} {v4 : Int} {μ : Mem} {M : JM} {P : JO → JM → Prop} {g2 : JV} {Q : Mem → Prop} (hv1 : rt v1 = 100) (hM : Rl E M μ) (hQ : ∀ (M1 : JM) (μ1 : Mem), Rl E M1 μ1 → Q μ1 → P (.inl none) M1) (h : d_Md_buildsFrom_l3 v1 v3 v4 μ Q) : JX 316 3 [jR 772, jR v1, g2, jI v3, jI v4] [] M P := by
  refine h (fun v4 μ => ∀ (g2 : JV) (M : JM), Rl E M μ → JX 316 3 [jR 772, jR v1, g2, jI v3, jI v4] [] M P) ?_ _ _ hM
  intro v4 μ h g2 M hM
  exact k_Md_buildsFrom_b3 hv1 hM hQ (fun v4 g2 M μ hM h => h g2 M hM) h
theorem k_Md_buildsFrom {E : JE2} {v1 : Nat} {v2 : Int} {v3 : Int} {μ : Mem} {M : JM} {Q : Mem → Prop} (hv1 : rt v1 = 100) (hM : Rl E M μ) (h : d_Md_buildsFrom v1 v2 v3 μ Q) : JX 316 0 (jargs 316 [jR 772, jR v1, jI v2, jI v3]) [] M (PO E (QV Q) XN) := by
  unfold d_Md_buildsFrom at h
  show JX 316 0 [jR 772, jR v1, jI v2, jI v3, jU] [] M (PO E (QV Q) XN)
  generalize hP : PO E (QV Q) XN = P
  have hQ : ∀ (M1 : JM) (μ1 : Mem), Rl E M1 μ1 → Q μ1 → P (.inl none) M1 := by rw [← hP]; exact fun M1 μ1 a b => ⟨μ1, a, rfl, b⟩
  clear hP
  refine L_ps c316 (n := 2) (pc1 := 3) (ls1 := [jR 772, jR v1, jI v2, jI v3, jI v2]) (st1 := []) rfl ?_
  exact k_Md_buildsFrom_l3 hv1 hM hQ h
theorem k_Md_takesBuilt {E : JE2} {μ : Mem} {M : JM} {Q : Bool → Mem → Prop} (hM : Rl E M μ) (h : d_Md_takesBuilt μ Q) : JX 318 0 (jargs 318 [jR 772]) [] M (PO E (QB Q) XN) := by
  unfold d_Md_takesBuilt at h
  show JX 318 0 [jR 772] [] M (PO E (QB Q) XN)
  generalize hP : PO E (QB Q) XN = P
  have hQ : ∀ (r : Bool) (M1 : JM) (μ1 : Mem), Rl E M1 μ1 → Q r μ1 → P (.inl (some (.inl (b2i r)))) M1 := by rw [← hP]; exact fun r M1 μ1 a b => ⟨μ1, a, r, rfl, b⟩
  clear hP
  refine L_ps c318 (n := 1) (pc1 := 1) (ls1 := [jR 772]) (st1 := [jR 772]) rfl ?_
  refine L_getI (c318 1 rfl) hM rt772 rfl ?_
  refine L_ps c318 (n := 1) (pc1 := 6) (ls1 := [jR 772]) (st1 := [jI 80, jI (μ 772 26)]) rfl ?_
  refine L_nb (p1 := 11) (p2 := 9) (c318 6 rfl) rfl jc_le h (fun h => ?_) (fun h => ?_)
  · refine L_ps c318 (n := 1) (pc1 := 10) (ls1 := [jR 772]) (st1 := [jI 0]) rfl ?_
    exact L_retB (c318 10 rfl) (Or.inl rfl) (hQ false _ _ hM h)
  · refine L_ps c318 (n := 2) (pc1 := 13) (ls1 := [jR 772]) (st1 := [jR 772, jR 772]) rfl ?_
    refine L_getI (c318 13 rfl) hM rt772 rfl ?_
    refine L_putI (c318 16 rfl) hM rt772 rfl (fun M hM => ?_)
    refine L_ps c318 (n := 1) (pc1 := 20) (ls1 := [jR 772]) (st1 := [jR 772]) rfl ?_
    refine L_getP (d := 9) (c318 20 rfl) hM rt772 rfl ?_
    refine L_ps c318 (n := 2) (pc1 := 25) (ls1 := [jR 772]) (st1 := [jR 772, jI 0, jR 781]) rfl ?_
    refine L_getP (d := 8) (c318 25 rfl) hM rt772 rfl ?_
    refine L_ps c318 (n := 2) (pc1 := 30) (ls1 := [jR 772]) (st1 := [jR 772, jI 0, jR 780, jI 0, jR 781]) rfl ?_
    refine L_getI (c318 30 rfl) hM rt772 rfl ?_
    refine L_cV (c318 33 rfl) (js_t rfl) hh318 (k_Md_lays rt781 rt780 hM h) (fun M μ2 hM h => ?_) (fun _ _ _ _ f => f.elim)
    refine L_ps c318 (n := 1) (pc1 := 37) (ls1 := [jR 772]) (st1 := [jI 1]) rfl ?_
    exact L_retB (c318 37 rfl) (Or.inr rfl) (hQ true _ _ hM h)
theorem k_Md_rewritesAt_j90 {E : JE2} {v1 : Int} {v2 : Int} {v3 : Int} {μ : Mem} {M : JM} {P : JO → JM → Prop} {g4 : JV} {W17 : Int → Mem → Prop} {Q : Bool → Mem → Prop} (hM : Rl E M μ) (hQ : ∀ (r : Bool) (M1 : JM) (μ1 : Mem), Rl E M1 μ1 → Q r μ1 → P (.inl (some (.inl (b2i r)))) M1) (hW17 : ∀ (v3 : Int) (g4 : JV) (M1 : JM) (μ1 : Mem), Rl E M1 μ1 → W17 v3 μ1 → JX 315 17 [jR 772, jI v1, jI v2, jI v3, g4] [] M1 P) (h : d_Md_rewritesAt_j90 v1 v2 v3 μ W17 Q) : JX 315 90 [jR 772, jI v1, jI v2, jI v3, g4] [] M P := by
  unfold d_Md_rewritesAt_j90 at h
  refine L_ps c315 (n := 2) (pc1 := 17) (ls1 := [jR 772, jI v1, jI v2, jI (wr (v3 + 1)), g4]) (st1 := []) rfl ?_
  exact hW17 _ _ _ _ hM h
theorem k_Md_rewritesAt_b17 {E : JE2} {v1 : Int} {v2 : Int} {v3 : Int} {μ : Mem} {M : JM} {P : JO → JM → Prop} {g4 : JV} {W17 : Int → Mem → Prop} {Q : Bool → Mem → Prop} (hM : Rl E M μ) (hQ : ∀ (r : Bool) (M1 : JM) (μ1 : Mem), Rl E M1 μ1 → Q r μ1 → P (.inl (some (.inl (b2i r)))) M1) (hW17 : ∀ (v3 : Int) (g4 : JV) (M1 : JM) (μ1 : Mem), Rl E M1 μ1 → W17 v3 μ1 → JX 315 17 [jR 772, jI v1, jI v2, jI v3, g4] [] M1 P) (h : d_Md_rewritesAt_b17 v1 v2 v3 μ W17 Q) : JX 315 17 [jR 772, jI v1, jI v2, jI v3, g4] [] M P := by
  unfold d_Md_rewritesAt_b17 at h
  refine L_ps c315 (n := 4) (pc1 := 21) (ls1 := [jR 772, jI v1, jI v2, jI v3, g4]) (st1 := [jI 1, jI v1, jR 772, jI v3]) rfl ?_
  refine L_cpI (c315 21 rfl) (js_v rfl ((Rl_tag hM rt772 (by decide)).trans js298)) hh315 (k_Md_ofRule hM h) (fun r3 M hM h => ?_) (fun _ _ _ _ f => f.elim)
  refine L_nb (p1 := 96) (p2 := 27) (c315 24 rfl) rfl jc_ge h (fun h => ?_) (fun h => ?_)
  · refine L_ps c315 (n := 5) (pc1 := 33) (ls1 := [jR 772, jI v1, jI v2, jI v3, g4]) (st1 := [jI (wr (14 + v3)), jI v1, jR 772]) rfl ?_
    refine L_cpI (c315 33 rfl) (js_v rfl ((Rl_tag hM rt772 (by decide)).trans js298)) hh315 (k_Md_ofRule hM h) (fun r5 M hM h => ?_) (fun _ _ _ _ f => f.elim)
    refine L_ps c315 (n := 3) (pc1 := 42) (ls1 := [jR 772, jI v1, jI v2, jI v3, jI r5]) (st1 := [jI 100, jI r5]) rfl ?_
    refine L_nb (p1 := 54) (p2 := 45) (c315 42 rfl) rfl jc_ge h (fun h => ?_) (fun h => ?_)
    · refine L_ps c315 (n := 2) (pc1 := 48) (ls1 := [jR 772, jI v1, jI v2, jI v3, jI r5]) (st1 := [jI r5, jR 772]) rfl ?_
      refine L_cV (c315 48 rfl) (js_v rfl ((Rl_tag hM rt772 (by decide)).trans js317)) hh315 (k_Md_builds hM h) (fun M μ8 hM h => ?_) (fun _ _ _ _ f => f.elim)
      refine L_ps c315 (n := 1) (pc1 := 90) (ls1 := [jR 772, jI v1, jI v2, jI v3, jI r5]) (st1 := []) rfl ?_
      exact k_Md_rewritesAt_j90 hM hQ hW17 h
    · refine L_ps c315 (n := 2) (pc1 := 56) (ls1 := [jR 772, jI v1, jI v2, jI v3, jI r5]) (st1 := [jR 772, jR 772]) rfl ?_
      refine L_getP (d := 8) (c315 56 rfl) hM rt772 rfl ?_
      refine L_ps c315 (n := 1) (pc1 := 60) (ls1 := [jR 772, jI v1, jI v2, jI v3, jI r5]) (st1 := [jR 772, jR 780, jR 772]) rfl ?_
      refine L_getP (d := 11) (c315 60 rfl) hM rt772 rfl ?_
      refine L_ps c315 (n := 3) (pc1 := 68) (ls1 := [jR 772, jI v1, jI v2, jI v3, jI r5]) (st1 := [jI (wr (r5 - 100)), jR 783, jR 780, jR 772]) rfl ?_
      obtain ⟨hb, h⟩ := h
      refine L_iald (c315 68 rfl) hM rt783 ln783 hb ?_
      refine L_ps c315 (n := 2) (pc1 := 71) (ls1 := [jR 772, jI v1, jI v2, jI v3, jI r5]) (st1 := [jR 772, jR 772, jI (μ 783 (wr (r5 - 100)).toNat), jR 780, jR 772]) rfl ?_
      refine L_getP (d := 8) (c315 71 rfl) hM rt772 rfl ?_
      refine L_ps c315 (n := 1) (pc1 := 75) (ls1 := [jR 772, jI v1, jI v2, jI v3, jI r5]) (st1 := [jR 772, jR 780, jR 772, jI (μ 783 (wr (r5 - 100)).toNat), jR 780, jR 772]) rfl ?_
      refine L_getP (d := 11) (c315 75 rfl) hM rt772 rfl ?_
      refine L_ps c315 (n := 3) (pc1 := 83) (ls1 := [jR 772, jI v1, jI v2, jI v3, jI r5]) (st1 := [jI (wr (r5 - 100)), jR 783, jR 780, jR 772, jI (μ 783 (wr (r5 - 100)).toNat), jR 780, jR 772]) rfl ?_
      obtain ⟨hb, h⟩ := h
      refine L_iald (c315 83 rfl) hM rt783 ln783 hb ?_
      refine L_cpI (c315 84 rfl) (js_v rfl ((Rl_tag hM rt772 (by decide)).trans js311)) hh315 (k_Md_behind rt780 hM h) (fun r9 M hM h => ?_) (fun _ _ _ _ f => f.elim)
      refine L_cV (c315 87 rfl) (js_v rfl ((Rl_tag hM rt772 (by decide)).trans js316)) hh315 (k_Md_buildsFrom rt780 hM h) (fun M μ12 hM h => ?_) (fun _ _ _ _ f => f.elim)
      exact k_Md_rewritesAt_j90 hM hQ hW17 h
  · refine L_ps c315 (n := 2) (pc1 := 98) (ls1 := [jR 772, jI v1, jI v2, jI v3, g4]) (st1 := [jR 772, jR 772]) rfl ?_
    refine L_getP (d := 8) (c315 98 rfl) hM rt772 rfl ?_
    refine L_ps c315 (n := 2) (pc1 := 103) (ls1 := [jR 772, jI v1, jI v2, jI v3, g4]) (st1 := [jR 772, jR 772, jR 780, jR 772]) rfl ?_
    refine L_getP (d := 8) (c315 103 rfl) hM rt772 rfl ?_
    refine L_ps c315 (n := 1) (pc1 := 107) (ls1 := [jR 772, jI v1, jI v2, jI v3, g4]) (st1 := [jI v2, jR 780, jR 772, jR 780, jR 772]) rfl ?_
    refine L_cpI (c315 107 rfl) (js_v rfl ((Rl_tag hM rt772 (by decide)).trans js311)) hh315 (k_Md_behind rt780 hM h) (fun r13 M hM h => ?_) (fun _ _ _ _ f => f.elim)
    refine L_ps c315 (n := 1) (pc1 := 111) (ls1 := [jR 772, jI v1, jI v2, jI v3, g4]) (st1 := [jR 772, jI r13, jR 780, jR 772]) rfl ?_
    refine L_getI (c315 111 rfl) hM rt772 rfl ?_
    refine L_cV (c315 114 rfl) (js_v rfl ((Rl_tag hM rt772 (by decide)).trans js316)) hh315 (k_Md_buildsFrom rt780 hM h) (fun M μ16 hM h => ?_) (fun _ _ _ _ f => f.elim)
    refine L_ps c315 (n := 1) (pc1 := 118) (ls1 := [jR 772, jI v1, jI v2, jI v3, g4]) (st1 := [jR 772]) rfl ?_
    refine L_cB (c315 118 rfl) (js_v rfl ((Rl_tag hM rt772 (by decide)).trans js318)) hh315 (k_Md_takesBuilt hM h) (fun r17 M μ18 hM h => ?_) (fun _ _ _ _ f => f.elim)
    exact L_retB (c315 121 rfl) (bz_b _) (hQ _ _ _ hM h)
theorem k_Md_rewritesAt_l17 {E : JE2} {v1 : Int} {v2 : Int} {v3 : Int} {μ : Mem} {M : JM} {P : JO → JM → Prop} {g4 : JV} {Q : Bool → Mem → Prop} (hM : Rl E M μ) (hQ : ∀ (r : Bool) (M1 : JM) (μ1 : Mem), Rl E M1 μ1 → Q r μ1 → P (.inl (some (.inl (b2i r)))) M1) (h : d_Md_rewritesAt_l17 v1 v2 v3 μ Q) : JX 315 17 [jR 772, jI v1, jI v2, jI v3, g4] [] M P := by
  refine h (fun v3 μ => ∀ (g4 : JV) (M : JM), Rl E M μ → JX 315 17 [jR 772, jI v1, jI v2, jI v3, g4] [] M P) ?_ _ _ hM
  intro v3 μ h g4 M hM
  exact k_Md_rewritesAt_b17 hM hQ (fun v3 g4 M μ hM h => h g4 M hM) h
theorem k_Md_rewritesAt {E : JE2} {v1 : Int} {v2 : Int} {μ : Mem} {M : JM} {Q : Bool → Mem → Prop} (hM : Rl E M μ) (h : d_Md_rewritesAt v1 v2 μ Q) : JX 315 0 (jargs 315 [jR 772, jI v1, jI v2]) [] M (PO E (QB Q) XN) := by
  unfold d_Md_rewritesAt at h
  show JX 315 0 [jR 772, jI v1, jI v2, jU, jU] [] M (PO E (QB Q) XN)
  generalize hP : PO E (QB Q) XN = P
  have hQ : ∀ (r : Bool) (M1 : JM) (μ1 : Mem), Rl E M1 μ1 → Q r μ1 → P (.inl (some (.inl (b2i r)))) M1 := by rw [← hP]; exact fun r M1 μ1 a b => ⟨μ1, a, r, rfl, b⟩
  clear hP
  refine L_ps c315 (n := 2) (pc1 := 2) (ls1 := [jR 772, jI v1, jI v2, jU, jU]) (st1 := [jI 0, jR 772]) rfl ?_
  refine L_putI (c315 2 rfl) hM rt772 rfl (fun M hM => ?_)
  refine L_ps c315 (n := 2) (pc1 := 7) (ls1 := [jR 772, jI v1, jI v2, jU, jU]) (st1 := [jR 772, jR 772]) rfl ?_
  refine L_getP (d := 8) (c315 7 rfl) hM rt772 rfl ?_
  refine L_ps c315 (n := 2) (pc1 := 12) (ls1 := [jR 772, jI v1, jI v2, jU, jU]) (st1 := [jI v2, jI 0, jR 780, jR 772]) rfl ?_
  refine L_cV (c315 12 rfl) (js_v rfl ((Rl_tag hM rt772 (by decide)).trans js316)) hh315 (k_Md_buildsFrom rt780 hM h) (fun M μ2 hM h => ?_) (fun _ _ _ _ f => f.elim)
  refine L_ps c315 (n := 2) (pc1 := 17) (ls1 := [jR 772, jI v1, jI v2, jI 0, jU]) (st1 := []) rfl ?_
  exact k_Md_rewritesAt_l17 hM hQ h
theorem k_Md_stepsAt {E : JE2} {v1 : Int} {μ : Mem} {M : JM} {Q : Bool → Mem → Prop} (hM : Rl E M μ) (h : d_Md_stepsAt v1 μ Q) : JX 314 0 (jargs 314 [jR 772, jI v1]) [] M (PO E (QB Q) XN) := by
  unfold d_Md_stepsAt at h
  show JX 314 0 [jR 772, jI v1, jU] [] M (PO E (QB Q) XN)
  generalize hP : PO E (QB Q) XN = P
  have hQ : ∀ (r : Bool) (M1 : JM) (μ1 : Mem), Rl E M1 μ1 → Q r μ1 → P (.inl (some (.inl (b2i r)))) M1 := by rw [← hP]; exact fun r M1 μ1 a b => ⟨μ1, a, r, rfl, b⟩
  clear hP
  refine L_ps c314 (n := 2) (pc1 := 2) (ls1 := [jR 772, jI v1, jU]) (st1 := [jI v1, jR 772]) rfl ?_
  refine L_cI (c314 2 rfl) (js_v rfl ((Rl_tag hM rt772 (by decide)).trans js308)) hh314 (k_Md_firstRule hM h) (fun r1 M μ2 hM h => ?_) (fun _ _ _ _ f => f.elim)
  refine L_ps c314 (n := 4) (pc1 := 9) (ls1 := [jR 772, jI v1, jI r1]) (st1 := [jI v1, jI r1, jR 772]) rfl ?_
  refine L_cB (c314 9 rfl) (js_v rfl ((Rl_tag hM rt772 (by decide)).trans js315)) hh314 (k_Md_rewritesAt hM h) (fun r3 M μ4 hM h => ?_) (fun _ _ _ _ f => f.elim)
  exact L_retB (c314 12 rfl) (bz_b _) (hQ _ _ _ hM h)
theorem k_Md_canStep {E : JE2} {v1 : Int} {v2 : Int} {μ : Mem} {M : JM} {Q : Bool → Mem → Prop} (hM : Rl E M μ) (h : d_Md_canStep v1 v2 μ Q) : JX 304 0 (jargs 304 [jR 772, jI v1, jI v2]) [] M (PO E (QB Q) XN) := by
  unfold d_Md_canStep at h
  show JX 304 0 [jR 772, jI v1, jI v2, jU] [] M (PO E (QB Q) XN)
  generalize hP : PO E (QB Q) XN = P
  have hQ : ∀ (r : Bool) (M1 : JM) (μ1 : Mem), Rl E M1 μ1 → Q r μ1 → P (.inl (some (.inl (b2i r)))) M1 := by rw [← hP]; exact fun r M1 μ1 a b => ⟨μ1, a, r, rfl, b⟩
  clear hP
  refine L_ps c304 (n := 2) (pc1 := 2) (ls1 := [jR 772, jI v1, jI v2, jU]) (st1 := [jI v1, jR 772]) rfl ?_
  refine L_cV (c304 2 rfl) (js_v rfl ((Rl_tag hM rt772 (by decide)).trans js293)) hh304 (k_Md_lends hM h) (fun M μ2 hM h => ?_) (fun _ _ _ _ f => f.elim)
  refine L_ps c304 (n := 2) (pc1 := 7) (ls1 := [jR 772, jI v1, jI v2, jU]) (st1 := [jI v2, jR 772]) rfl ?_
  refine L_cI (c304 7 rfl) (js_v rfl ((Rl_tag hM rt772 (by decide)).trans js305)) hh304 (k_Md_redex hM h) (fun r3 M μ4 hM h => ?_) (fun _ _ _ _ f => f.elim)
  refine L_ps c304 (n := 3) (pc1 := 13) (ls1 := [jR 772, jI v1, jI v2, jI r3]) (st1 := [jI (-1), jI r3]) rfl ?_
  refine L_br (p1 := 28) (p2 := 16) (c304 13 rfl) rfl jc_eq h (fun h => ?_) (fun h => ?_)
  · refine L_ps c304 (n := 1) (pc1 := 29) (ls1 := [jR 772, jI v1, jI v2, jI r3]) (st1 := [jI 0]) rfl ?_
    exact L_retB (c304 29 rfl) (Or.inl rfl) (hQ false _ _ hM h)
  · refine L_ps c304 (n := 2) (pc1 := 18) (ls1 := [jR 772, jI v1, jI v2, jI r3]) (st1 := [jI r3, jR 772]) rfl ?_
    refine L_cB (c304 18 rfl) (js_v rfl ((Rl_tag hM rt772 (by decide)).trans js314)) hh304 (k_Md_stepsAt hM h) (fun r5 M μ6 hM h => ?_) (fun _ _ _ _ f => f.elim)
    refine L_nb (p1 := 28) (p2 := 24) (c304 21 rfl) rfl jc_eqb h (fun h => ?_) (fun h => ?_)
    · refine L_ps c304 (n := 2) (pc1 := 29) (ls1 := [jR 772, jI v1, jI v2, jI r3]) (st1 := [jI 1]) rfl ?_
      exact L_retB (c304 29 rfl) (Or.inr rfl) (hQ true _ _ hM h)
    · refine L_ps c304 (n := 1) (pc1 := 29) (ls1 := [jR 772, jI v1, jI v2, jI r3]) (st1 := [jI 0]) rfl ?_
      exact L_retB (c304 29 rfl) (Or.inl rfl) (hQ false _ _ hM h)
theorem k_Md_readsStep_j50 {E : JE2} {μ : Mem} {M : JM} {P : JO → JM → Prop} {g1 : JV} {Q : Mem → Prop} (hM : Rl E M μ) (hQ : ∀ (M1 : JM) (μ1 : Mem), Rl E M1 μ1 → Q μ1 → P (.inl none) M1) (h : d_Md_readsStep_j50 μ Q) : JX 303 50 [jR 772, g1] [] M P := by
  unfold d_Md_readsStep_j50 at h
  refine L_ps c303 (n := 1) (pc1 := 51) (ls1 := [jR 772, g1]) (st1 := [jR 772]) rfl ?_
  refine L_cV (c303 51 rfl) (js_v rfl ((Rl_tag hM rt772 (by decide)).trans js269)) hh303 (k_Md_goes hM h) (fun M μ10 hM h => ?_) (fun _ _ _ _ f => f.elim)
  exact L_end (c303 54 rfl) rfl (hQ _ _ hM h)
theorem k_Md_readsStep_j38 {E : JE2} {v1 : Int} {μ : Mem} {M : JM} {P : JO → JM → Prop} {Q : Mem → Prop} (hM : Rl E M μ) (hQ : ∀ (M1 : JM) (μ1 : Mem), Rl E M1 μ1 → Q μ1 → P (.inl none) M1) (h : d_Md_readsStep_j38 v1 μ Q) : JX 303 38 [jR 772, jI v1] [] M P := by
  unfold d_Md_readsStep_j38 at h
  refine L_ps c303 (n := 1) (pc1 := 39) (ls1 := [jR 772, jI v1]) (st1 := [jR 772]) rfl ?_
  refine L_getI (c303 39 rfl) hM rt772 rfl ?_
  refine L_nb (p1 := 50) (p2 := 45) (c303 42 rfl) rfl jc_ne h (fun h => ?_) (fun h => ?_)
  · refine L_ps c303 (n := 2) (pc1 := 47) (ls1 := [jR 772, jI v1]) (st1 := [jI v1, jR 772]) rfl ?_
    refine L_cV (c303 47 rfl) (js_v rfl ((Rl_tag hM rt772 (by decide)).trans js295)) hh303 (k_Md_stores hM h) (fun M μ8 hM h => ?_) (fun _ _ _ _ f => f.elim)
    exact k_Md_readsStep_j50 hM hQ h
  · exact k_Md_readsStep_j50 hM hQ h
theorem k_Md_readsStep {E : JE2} {μ : Mem} {M : JM} {Q : Mem → Prop} (hM : Rl E M μ) (h : d_Md_readsStep μ Q) : JX 303 0 (jargs 303 [jR 772]) [] M (PO E (QV Q) XN) := by
  unfold d_Md_readsStep at h
  show JX 303 0 [jR 772, jU] [] M (PO E (QV Q) XN)
  generalize hP : PO E (QV Q) XN = P
  have hQ : ∀ (M1 : JM) (μ1 : Mem), Rl E M1 μ1 → Q μ1 → P (.inl none) M1 := by rw [← hP]; exact fun M1 μ1 a b => ⟨μ1, a, rfl, b⟩
  clear hP
  refine L_ps c303 (n := 1) (pc1 := 1) (ls1 := [jR 772, jU]) (st1 := [jR 772]) rfl ?_
  refine L_cV (c303 1 rfl) (js_v rfl ((Rl_tag hM rt772 (by decide)).trans js269)) hh303 (k_Md_goes hM h) (fun M μ2 hM h => ?_) (fun _ _ _ _ f => f.elim)
  refine L_ps c303 (n := 2) (pc1 := 6) (ls1 := [jR 772, jU]) (st1 := [jR 772, jR 772]) rfl ?_
  refine L_getP (d := 1) (c303 6 rfl) hM rt772 rfl ?_
  refine L_ps c303 (n := 1) (pc1 := 10) (ls1 := [jR 772, jU]) (st1 := [jI 2, jR 773, jR 772]) rfl ?_
  refine L_iald (c303 10 rfl) hM rt773 ln773 (by decide) ?_
  refine L_ps c303 (n := 2) (pc1 := 13) (ls1 := [jR 772, jU]) (st1 := [jI (wr ((μ2 773 2) - 1)), jR 772]) rfl ?_
  refine L_cI (c303 13 rfl) (js_v rfl ((Rl_tag hM rt772 (by decide)).trans js280)) hh303 (k_Md_digitHere hM h) (fun r3 M μ4 hM h => ?_) (fun _ _ _ _ f => f.elim)
  refine L_ps c303 (n := 2) (pc1 := 18) (ls1 := [jR 772, jI r3]) (st1 := [jR 772]) rfl ?_
  refine L_getI (c303 18 rfl) hM rt772 rfl ?_
  refine L_nb (p1 := 38) (p2 := 24) (c303 21 rfl) rfl jc_ne h (fun h => ?_) (fun h => ?_)
  · refine L_ps c303 (n := 3) (pc1 := 27) (ls1 := [jR 772, jI r3]) (st1 := [jI 1, jI r3, jR 772]) rfl ?_
    refine L_cB (c303 27 rfl) (js_v rfl ((Rl_tag hM rt772 (by decide)).trans js304)) hh303 (k_Md_canStep hM h) (fun r5 M μ6 hM h => ?_) (fun _ _ _ _ f => f.elim)
    refine L_br (p1 := 38) (p2 := 33) (c303 30 rfl) rfl jc_neb h (fun h => ?_) (fun h => ?_)
    · exact k_Md_readsStep_j38 hM hQ h
    · refine L_ps c303 (n := 2) (pc1 := 35) (ls1 := [jR 772, jI r3]) (st1 := [jI 4, jR 772]) rfl ?_
      refine L_cV (c303 35 rfl) (js_v rfl ((Rl_tag hM rt772 (by decide)).trans js274)) hh303 (k_Md_faults hM h) (fun M μ12 hM h => ?_) (fun _ _ _ _ f => f.elim)
      exact k_Md_readsStep_j38 hM hQ h
  · exact k_Md_readsStep_j38 hM hQ h
theorem k_Md_readsItem {E : JE2} {μ : Mem} {M : JM} {Q : Mem → Prop} (hM : Rl E M μ) (h : d_Md_readsItem μ Q) : JX 275 0 (jargs 275 [jR 772]) [] M (PO E (QV Q) XN) := by
  unfold d_Md_readsItem at h
  show JX 275 0 [jR 772] [] M (PO E (QV Q) XN)
  generalize hP : PO E (QV Q) XN = P
  have hQ : ∀ (M1 : JM) (μ1 : Mem), Rl E M1 μ1 → Q μ1 → P (.inl none) M1 := by rw [← hP]; exact fun M1 μ1 a b => ⟨μ1, a, rfl, b⟩
  clear hP
  refine L_ps c275 (n := 2) (pc1 := 3) (ls1 := [jR 772]) (st1 := [jR (2000000 + 1), jR 772]) rfl ?_
  refine L_cpB (c275 3 rfl) (js_v rfl ((Rl_tag hM rt772 (by decide)).trans js272)) hh275 (k_Md_isWord (by decide) hM h) (fun r1 M hM h => ?_) (fun _ _ _ _ f => f.elim)
  refine L_nb (p1 := 16) (p2 := 9) (c275 6 rfl) rfl jc_eqb h (fun h => ?_) (fun h => ?_)
  · refine L_ps c275 (n := 1) (pc1 := 10) (ls1 := [jR 772]) (st1 := [jR 772]) rfl ?_
    refine L_cV (c275 10 rfl) (js_v rfl ((Rl_tag hM rt772 (by decide)).trans js276)) hh275 (k_Md_readsSymbol hM h) (fun M μ4 hM h => ?_) (fun _ _ _ _ f => f.elim)
    refine L_ps c275 (n := 1) (pc1 := 101) (ls1 := [jR 772]) (st1 := []) rfl ?_
    exact L_end (c275 101 rfl) rfl (hQ _ _ hM h)
  · refine L_ps c275 (n := 2) (pc1 := 19) (ls1 := [jR 772]) (st1 := [jR (2000000 + 2), jR 772]) rfl ?_
    refine L_cpB (c275 19 rfl) (js_v rfl ((Rl_tag hM rt772 (by decide)).trans js272)) hh275 (k_Md_isWord (by decide) hM h) (fun r5 M hM h => ?_) (fun _ _ _ _ f => f.elim)
    refine L_nb (p1 := 32) (p2 := 25) (c275 22 rfl) rfl jc_eqb h (fun h => ?_) (fun h => ?_)
    · refine L_ps c275 (n := 1) (pc1 := 26) (ls1 := [jR 772]) (st1 := [jR 772]) rfl ?_
      refine L_cV (c275 26 rfl) (js_v rfl ((Rl_tag hM rt772 (by decide)).trans js281)) hh275 (k_Md_readsRule hM h) (fun M μ8 hM h => ?_) (fun _ _ _ _ f => f.elim)
      refine L_ps c275 (n := 1) (pc1 := 101) (ls1 := [jR 772]) (st1 := []) rfl ?_
      exact L_end (c275 101 rfl) rfl (hQ _ _ hM h)
    · refine L_ps c275 (n := 2) (pc1 := 35) (ls1 := [jR 772]) (st1 := [jR (2000000 + 3), jR 772]) rfl ?_
      refine L_cpB (c275 35 rfl) (js_v rfl ((Rl_tag hM rt772 (by decide)).trans js272)) hh275 (k_Md_isWord (by decide) hM h) (fun r9 M hM h => ?_) (fun _ _ _ _ f => f.elim)
      refine L_nb (p1 := 48) (p2 := 41) (c275 38 rfl) rfl jc_eqb h (fun h => ?_) (fun h => ?_)
      · refine L_ps c275 (n := 1) (pc1 := 42) (ls1 := [jR 772]) (st1 := [jR 772]) rfl ?_
        refine L_cV (c275 42 rfl) (js_v rfl ((Rl_tag hM rt772 (by decide)).trans js291)) hh275 (k_Md_readsNewTerm hM h) (fun M μ12 hM h => ?_) (fun _ _ _ _ f => f.elim)
        refine L_ps c275 (n := 1) (pc1 := 101) (ls1 := [jR 772]) (st1 := []) rfl ?_
        exact L_end (c275 101 rfl) rfl (hQ _ _ hM h)
      · refine L_ps c275 (n := 2) (pc1 := 51) (ls1 := [jR 772]) (st1 := [jR (2000000 + 4), jR 772]) rfl ?_
        refine L_cpB (c275 51 rfl) (js_v rfl ((Rl_tag hM rt772 (by decide)).trans js272)) hh275 (k_Md_isWord (by decide) hM h) (fun r13 M hM h => ?_) (fun _ _ _ _ f => f.elim)
        refine L_nb (p1 := 64) (p2 := 57) (c275 54 rfl) rfl jc_eqb h (fun h => ?_) (fun h => ?_)
        · refine L_ps c275 (n := 1) (pc1 := 58) (ls1 := [jR 772]) (st1 := [jR 772]) rfl ?_
          refine L_cV (c275 58 rfl) (js_v rfl ((Rl_tag hM rt772 (by decide)).trans js292)) hh275 (k_Md_readsCopy hM h) (fun M μ16 hM h => ?_) (fun _ _ _ _ f => f.elim)
          refine L_ps c275 (n := 1) (pc1 := 101) (ls1 := [jR 772]) (st1 := []) rfl ?_
          exact L_end (c275 101 rfl) rfl (hQ _ _ hM h)
        · refine L_ps c275 (n := 2) (pc1 := 67) (ls1 := [jR 772]) (st1 := [jR (2000000 + 5), jR 772]) rfl ?_
          refine L_cpB (c275 67 rfl) (js_v rfl ((Rl_tag hM rt772 (by decide)).trans js272)) hh275 (k_Md_isWord (by decide) hM h) (fun r17 M hM h => ?_) (fun _ _ _ _ f => f.elim)
          refine L_nb (p1 := 80) (p2 := 73) (c275 70 rfl) rfl jc_eqb h (fun h => ?_) (fun h => ?_)
          · refine L_ps c275 (n := 1) (pc1 := 74) (ls1 := [jR 772]) (st1 := [jR 772]) rfl ?_
            refine L_cV (c275 74 rfl) (js_v rfl ((Rl_tag hM rt772 (by decide)).trans js296)) hh275 (k_Md_readsFlip hM h) (fun M μ20 hM h => ?_) (fun _ _ _ _ f => f.elim)
            refine L_ps c275 (n := 1) (pc1 := 101) (ls1 := [jR 772]) (st1 := []) rfl ?_
            exact L_end (c275 101 rfl) rfl (hQ _ _ hM h)
          · refine L_ps c275 (n := 2) (pc1 := 83) (ls1 := [jR 772]) (st1 := [jR (2000000 + 6), jR 772]) rfl ?_
            refine L_cpB (c275 83 rfl) (js_v rfl ((Rl_tag hM rt772 (by decide)).trans js272)) hh275 (k_Md_isWord (by decide) hM h) (fun r21 M hM h => ?_) (fun _ _ _ _ f => f.elim)
            refine L_nb (p1 := 96) (p2 := 89) (c275 86 rfl) rfl jc_eqb h (fun h => ?_) (fun h => ?_)
            · refine L_ps c275 (n := 1) (pc1 := 90) (ls1 := [jR 772]) (st1 := [jR 772]) rfl ?_
              refine L_cV (c275 90 rfl) (js_v rfl ((Rl_tag hM rt772 (by decide)).trans js303)) hh275 (k_Md_readsStep hM h) (fun M μ24 hM h => ?_) (fun _ _ _ _ f => f.elim)
              refine L_ps c275 (n := 1) (pc1 := 101) (ls1 := [jR 772]) (st1 := []) rfl ?_
              exact L_end (c275 101 rfl) rfl (hQ _ _ hM h)
            · refine L_ps c275 (n := 2) (pc1 := 98) (ls1 := [jR 772]) (st1 := [jI 1, jR 772]) rfl ?_
              refine L_cV (c275 98 rfl) (js_v rfl ((Rl_tag hM rt772 (by decide)).trans js274)) hh275 (k_Md_faults hM h) (fun M μ26 hM h => ?_) (fun _ _ _ _ f => f.elim)
              exact L_end (c275 101 rfl) rfl (hQ _ _ hM h)
theorem k_Md_readsText_b23 {E : JE2} {μ : Mem} {M : JM} {P : JO → JM → Prop} {W23 : Mem → Prop} {Q : Mem → Prop} (hM : Rl E M μ) (hQ : ∀ (M1 : JM) (μ1 : Mem), Rl E M1 μ1 → Q μ1 → P (.inl none) M1) (hW23 : ∀ (M1 : JM) (μ1 : Mem), Rl E M1 μ1 → W23 μ1 → JX 268 23 [jR 772] [] M1 P) (h : d_Md_readsText_b23 μ W23 Q) : JX 268 23 [jR 772] [] M P := by
  unfold d_Md_readsText_b23 at h
  refine L_ps c268 (n := 2) (pc1 := 25) (ls1 := [jR 772]) (st1 := [jI 5, jR 772]) rfl ?_
  refine L_cpB (c268 25 rfl) (js_v rfl ((Rl_tag hM rt772 (by decide)).trans js273)) hh268 (k_Md_is hM h) (fun r7 M hM h => ?_) (fun _ _ _ _ f => f.elim)
  refine L_nb (p1 := 42) (p2 := 31) (c268 28 rfl) rfl jc_eqb h (fun h => ?_) (fun h => ?_)
  · refine L_ps c268 (n := 1) (pc1 := 32) (ls1 := [jR 772]) (st1 := [jR 772]) rfl ?_
    refine L_cV (c268 32 rfl) (js_v rfl ((Rl_tag hM rt772 (by decide)).trans js269)) hh268 (k_Md_goes hM h) (fun M μ10 hM h => ?_) (fun _ _ _ _ f => f.elim)
    refine L_ps c268 (n := 1) (pc1 := 36) (ls1 := [jR 772]) (st1 := [jR 772]) rfl ?_
    refine L_cV (c268 36 rfl) (js_v rfl ((Rl_tag hM rt772 (by decide)).trans js275)) hh268 (k_Md_readsItem hM h) (fun M μ12 hM h => ?_) (fun _ _ _ _ f => f.elim)
    refine L_ps c268 (n := 1) (pc1 := 23) (ls1 := [jR 772]) (st1 := []) rfl ?_
    exact hW23 _ _ hM h
  · refine L_ps c268 (n := 2) (pc1 := 44) (ls1 := [jR 772]) (st1 := [jI 1, jR 772]) rfl ?_
    refine L_cpB (c268 44 rfl) (js_v rfl ((Rl_tag hM rt772 (by decide)).trans js273)) hh268 (k_Md_is hM h) (fun r13 M hM h => ?_) (fun _ _ _ _ f => f.elim)
    refine L_br (p1 := 55) (p2 := 50) (c268 47 rfl) rfl jc_neb h (fun h => ?_) (fun h => ?_)
    · exact L_end (c268 55 rfl) rfl (hQ _ _ hM h)
    · refine L_ps c268 (n := 2) (pc1 := 52) (ls1 := [jR 772]) (st1 := [jI 1, jR 772]) rfl ?_
      refine L_cV (c268 52 rfl) (js_v rfl ((Rl_tag hM rt772 (by decide)).trans js274)) hh268 (k_Md_faults hM h) (fun M μ16 hM h => ?_) (fun _ _ _ _ f => f.elim)
      exact L_end (c268 55 rfl) rfl (hQ _ _ hM h)
theorem k_Md_readsText_l23 {E : JE2} {μ : Mem} {M : JM} {P : JO → JM → Prop} {Q : Mem → Prop} (hM : Rl E M μ) (hQ : ∀ (M1 : JM) (μ1 : Mem), Rl E M1 μ1 → Q μ1 → P (.inl none) M1) (h : d_Md_readsText_l23 μ Q) : JX 268 23 [jR 772] [] M P := by
  refine h (fun μ => ∀ (M : JM), Rl E M μ → JX 268 23 [jR 772] [] M P) ?_ _ hM
  intro μ h M hM
  exact k_Md_readsText_b23 hM hQ (fun M μ hM h => h M hM) h
theorem k_Md_readsText_j19 {E : JE2} {μ : Mem} {M : JM} {P : JO → JM → Prop} {Q : Mem → Prop} (hM : Rl E M μ) (hQ : ∀ (M1 : JM) (μ1 : Mem), Rl E M1 μ1 → Q μ1 → P (.inl none) M1) (h : d_Md_readsText_j19 μ Q) : JX 268 19 [jR 772] [] M P := by
  unfold d_Md_readsText_j19 at h
  refine L_ps c268 (n := 1) (pc1 := 20) (ls1 := [jR 772]) (st1 := [jR 772]) rfl ?_
  refine L_cV (c268 20 rfl) (js_v rfl ((Rl_tag hM rt772 (by decide)).trans js269)) hh268 (k_Md_goes hM h) (fun M μ6 hM h => ?_) (fun _ _ _ _ f => f.elim)
  exact k_Md_readsText_l23 hM hQ h
theorem k_Md_readsText {E : JE2} {μ : Mem} {M : JM} {Q : Mem → Prop} (hM : Rl E M μ) (h : d_Md_readsText μ Q) : JX 268 0 (jargs 268 [jR 772]) [] M (PO E (QV Q) XN) := by
  unfold d_Md_readsText at h
  show JX 268 0 [jR 772] [] M (PO E (QV Q) XN)
  generalize hP : PO E (QV Q) XN = P
  have hQ : ∀ (M1 : JM) (μ1 : Mem), Rl E M1 μ1 → Q μ1 → P (.inl none) M1 := by rw [← hP]; exact fun M1 μ1 a b => ⟨μ1, a, rfl, b⟩
  clear hP
  refine L_ps c268 (n := 1) (pc1 := 1) (ls1 := [jR 772]) (st1 := [jR 772]) rfl ?_
  refine L_cV (c268 1 rfl) (js_v rfl ((Rl_tag hM rt772 (by decide)).trans js269)) hh268 (k_Md_goes hM h) (fun M μ2 hM h => ?_) (fun _ _ _ _ f => f.elim)
  refine L_ps c268 (n := 2) (pc1 := 8) (ls1 := [jR 772]) (st1 := [jR (2000000 + 0), jR 772]) rfl ?_
  refine L_cpB (c268 8 rfl) (js_v rfl ((Rl_tag hM rt772 (by decide)).trans js272)) hh268 (k_Md_isWord (by decide) hM h) (fun r3 M hM h => ?_) (fun _ _ _ _ f => f.elim)
  refine L_br (p1 := 19) (p2 := 14) (c268 11 rfl) rfl jc_neb h (fun h => ?_) (fun h => ?_)
  · exact k_Md_readsText_j19 hM hQ h
  · refine L_ps c268 (n := 2) (pc1 := 16) (ls1 := [jR 772]) (st1 := [jI 1, jR 772]) rfl ?_
    refine L_cV (c268 16 rfl) (js_v rfl ((Rl_tag hM rt772 (by decide)).trans js274)) hh268 (k_Md_faults hM h) (fun M μ18 hM h => ?_) (fun _ _ _ _ f => f.elim)
    exact k_Md_readsText_j19 hM hQ h
theorem k_Md_parseSystem_b63 {E : JE2} {v2 : Int} {μ : Mem} {M : JM} {P : JO → JM → Prop} {g1 : JV} {W63 : Int → Mem → Prop} {Q : Int → Mem → Prop} (hg1 : jc2 g1 = false) (hM : Rl E M μ) (hQ : ∀ (r : Int) (M1 : JM) (μ1 : Mem), Rl E M1 μ1 → Q r μ1 → P (.inl (some (.inl r))) M1) (hW63 : ∀ (v2 : Int) (g1 : JV) (M1 : JM) (μ1 : Mem), jc2 g1 = false → Rl E M1 μ1 → W63 v2 μ1 → JX 264 63 [jR 772, g1, jI v2] [] M1 P) (h : d_Md_parseSystem_b63 v2 μ W63 Q) : JX 264 63 [jR 772, g1, jI v2] [] M P := by
  unfold d_Md_parseSystem_b63 at h
  refine L_ps c264 (n := 2) (pc1 := 67) (ls1 := [jR 772, g1, jI v2]) (st1 := [jI 709, jI v2]) rfl ?_
  refine L_nb (p1 := 83) (p2 := 70) (c264 67 rfl) rfl jc_ge h (fun h => ?_) (fun h => ?_)
  · refine L_ps c264 (n := 1) (pc1 := 71) (ls1 := [jR 772, g1, jI v2]) (st1 := [jR 772]) rfl ?_
    refine L_getP (d := 1) (c264 71 rfl) hM rt772 rfl ?_
    refine L_ps c264 (n := 2) (pc1 := 76) (ls1 := [jR 772, g1, jI v2]) (st1 := [jI 0, jI v2, jR 773]) rfl ?_
    obtain ⟨hb, h⟩ := h
    refine L_iast (c264 76 rfl) hM rt773 ln773 hb (fun M hM => ?_)
    refine L_iinc (c264 77 rfl) (hg1) (Nat.le_of_ble_eq_true rfl) rfl ?_
    show JX 264 80 [jR 772, g1, jI (wr (v2 + 1))] [] M P
    refine L_ps c264 (n := 1) (pc1 := 63) (ls1 := [jR 772, g1, jI (wr (v2 + 1))]) (st1 := []) rfl ?_
    exact hW63 _ _ _ _ hg1 hM h
  · refine L_ps c264 (n := 1) (pc1 := 84) (ls1 := [jR 772, g1, jI v2]) (st1 := [jR 772]) rfl ?_
    refine L_cV (c264 84 rfl) (js_v rfl ((Rl_tag hM rt772 (by decide)).trans js268)) hh264 (k_Md_readsText hM h) (fun M μ8 hM h => ?_) (fun _ _ _ _ f => f.elim)
    refine L_ps c264 (n := 1) (pc1 := 88) (ls1 := [jR 772, g1, jI v2]) (st1 := [jR 772]) rfl ?_
    refine L_getI (c264 88 rfl) hM rt772 rfl ?_
    refine L_nb (p1 := 117) (p2 := 94) (c264 91 rfl) rfl jc_le h (fun h => ?_) (fun h => ?_)
    · refine L_ps c264 (n := 2) (pc1 := 96) (ls1 := [jR 772, g1, jI v2]) (st1 := [jI 2, jR 772]) rfl ?_
      refine L_putI (c264 96 rfl) hM rt772 rfl (fun M hM => ?_)
      refine L_ps c264 (n := 1) (pc1 := 100) (ls1 := [jR 772, g1, jI v2]) (st1 := [jR 772]) rfl ?_
      refine L_getP (d := 2) (c264 100 rfl) hM rt772 rfl ?_
      refine L_ps c264 (n := 2) (pc1 := 105) (ls1 := [jR 772, g1, jI v2]) (st1 := [jR 772, jI 0, jR 774]) rfl ?_
      refine L_getP (d := 1) (c264 105 rfl) hM rt772 rfl ?_
      refine L_ps c264 (n := 2) (pc1 := 112) (ls1 := [jR 772, g1, jI v2]) (st1 := [jI 709, jI 0, jR 773, jI 0, jR 774]) rfl ?_
      refine L_cV (c264 112 rfl) (js_t rfl) hh264 (k_Md_lays rt774 rt773 hM h) (fun M μ10 hM h => ?_) (fun _ _ _ _ f => f.elim)
      refine L_ps c264 (n := 1) (pc1 := 116) (ls1 := [jR 772, g1, jI v2]) (st1 := [jI 0]) rfl ?_
      exact L_retI (c264 116 rfl) (hQ _ _ _ hM h)
    · refine L_ps c264 (n := 2) (pc1 := 119) (ls1 := [jR 772, g1, jI v2]) (st1 := [jI 1, jR 772]) rfl ?_
      refine L_putB (t := 11) (c264 119 rfl) hM rt772 rfl (Or.inr rfl) (fun M hM => ?_)
      refine L_ps c264 (n := 2) (pc1 := 124) (ls1 := [jR 772, g1, jI v2]) (st1 := [jI 0, jR 772]) rfl ?_
      refine L_putI (c264 124 rfl) hM rt772 rfl (fun M hM => ?_)
      refine L_ps c264 (n := 1) (pc1 := 128) (ls1 := [jR 772, g1, jI v2]) (st1 := [jR 772]) rfl ?_
      refine L_getP (d := 5) (c264 128 rfl) hM rt772 rfl ?_
      refine L_ps c264 (n := 2) (pc1 := 133) (ls1 := [jR 772, g1, jI v2]) (st1 := [jI 0, jI 0, jR 777]) rfl ?_
      refine L_zast (c264 133 rfl) hM rt777 ln777 (by decide) (Or.inl rfl) (fun M hM => ?_)
      refine L_ps c264 (n := 1) (pc1 := 135) (ls1 := [jR 772, g1, jI v2]) (st1 := [jR 772]) rfl ?_
      refine L_getP (d := 5) (c264 135 rfl) hM rt772 rfl ?_
      refine L_ps c264 (n := 2) (pc1 := 140) (ls1 := [jR 772, g1, jI v2]) (st1 := [jI 0, jI 1, jR 777]) rfl ?_
      refine L_zast (c264 140 rfl) hM rt777 ln777 (by decide) (Or.inl rfl) (fun M hM => ?_)
      refine L_ps c264 (n := 1) (pc1 := 142) (ls1 := [jR 772, g1, jI v2]) (st1 := [jR 772]) rfl ?_
      refine L_getP (d := 1) (c264 142 rfl) hM rt772 rfl ?_
      refine L_ps c264 (n := 1) (pc1 := 146) (ls1 := [jR 772, g1, jI v2]) (st1 := [jI 1, jR 773]) rfl ?_
      refine L_iald (c264 146 rfl) hM rt773 ln773 (by decide) ?_
      exact L_retI (c264 147 rfl) (hQ _ _ _ hM h)
theorem k_Md_parseSystem_l63 {E : JE2} {v2 : Int} {μ : Mem} {M : JM} {P : JO → JM → Prop} {g1 : JV} {Q : Int → Mem → Prop} (hg1 : jc2 g1 = false) (hM : Rl E M μ) (hQ : ∀ (r : Int) (M1 : JM) (μ1 : Mem), Rl E M1 μ1 → Q r μ1 → P (.inl (some (.inl r))) M1) (h : d_Md_parseSystem_l63 v2 μ Q) : JX 264 63 [jR 772, g1, jI v2] [] M P := by
  refine h (fun v2 μ => ∀ (g1 : JV) (M : JM), jc2 g1 = false → Rl E M μ → JX 264 63 [jR 772, g1, jI v2] [] M P) ?_ _ _ hg1 hM
  intro v2 μ h g1 M hg1 hM
  exact k_Md_parseSystem_b63 hg1 hM hQ (fun v2 g1 M μ hg1 hM h => h g1 M hg1 hM) h
theorem k_Md_parseSystem {E : JE2} {v1 : Int} {μ : Mem} {M : JM} {Q : Int → Mem → Prop} (hM : Rl E M μ) (h : d_Md_parseSystem v1 μ Q) : JX 264 0 (jargs 264 [jR 772, jI v1]) [] M (PO E (QI Q) XN) := by
  unfold d_Md_parseSystem at h
  show JX 264 0 [jR 772, jI v1, jU] [] M (PO E (QI Q) XN)
  generalize hP : PO E (QI Q) XN = P
  have hQ : ∀ (r : Int) (M1 : JM) (μ1 : Mem), Rl E M1 μ1 → Q r μ1 → P (.inl (some (.inl r))) M1 := by rw [← hP]; exact fun r M1 μ1 a b => ⟨μ1, a, r, rfl, b⟩
  clear hP
  refine L_ps c264 (n := 4) (pc1 := 4) (ls1 := [jR 772, jI v1, jU]) (st1 := [jR 772, jI 0, jI v1, jR 772]) rfl ?_
  refine L_getI (c264 4 rfl) hM rt772 rfl ?_
  refine L_cpB (c264 7 rfl) (js_t rfl) hh264 (k_Md_in hM h) (fun r1 M hM h => ?_) (fun _ _ _ _ f => f.elim)
  refine L_ps c264 (n := 2) (pc1 := 12) (ls1 := [jR 772, jI v1, jU]) (st1 := [jI 1, jI 1, jI (b2i r1), jR 772]) rfl ?_
  refine L_cB (c264 12 rfl) (js_v rfl ((Rl_tag hM rt772 (by decide)).trans js266)) hh264 (k_Md_may hM h) (fun r3 M μ4 hM h => ?_) (fun _ _ _ _ f => f.elim)
  refine L_br (p1 := 20) (p2 := 18) (c264 15 rfl) rfl jc_neb h (fun h => ?_) (fun h => ?_)
  · refine L_ps c264 (n := 2) (pc1 := 22) (ls1 := [jR 772, jI v1, jU]) (st1 := [jI v1, jR 772]) rfl ?_
    refine L_putI (c264 22 rfl) hM rt772 rfl (fun M hM => ?_)
    refine L_ps c264 (n := 2) (pc1 := 27) (ls1 := [jR 772, jI v1, jU]) (st1 := [jI 0, jR 772]) rfl ?_
    refine L_putI (c264 27 rfl) hM rt772 rfl (fun M hM => ?_)
    refine L_ps c264 (n := 2) (pc1 := 32) (ls1 := [jR 772, jI v1, jU]) (st1 := [jI 0, jR 772]) rfl ?_
    refine L_putI (c264 32 rfl) hM rt772 rfl (fun M hM => ?_)
    refine L_ps c264 (n := 2) (pc1 := 37) (ls1 := [jR 772, jI v1, jU]) (st1 := [jI 0, jR 772]) rfl ?_
    refine L_putI (c264 37 rfl) hM rt772 rfl (fun M hM => ?_)
    refine L_ps c264 (n := 2) (pc1 := 42) (ls1 := [jR 772, jI v1, jU]) (st1 := [jI (-1), jR 772]) rfl ?_
    refine L_putI (c264 42 rfl) hM rt772 rfl (fun M hM => ?_)
    refine L_ps c264 (n := 1) (pc1 := 46) (ls1 := [jR 772, jI v1, jU]) (st1 := [jR 772]) rfl ?_
    refine L_getP (d := 1) (c264 46 rfl) hM rt772 rfl ?_
    refine L_ps c264 (n := 2) (pc1 := 51) (ls1 := [jR 772, jI v1, jU]) (st1 := [jR 772, jI 0, jR 773]) rfl ?_
    refine L_getP (d := 2) (c264 51 rfl) hM rt772 rfl ?_
    refine L_ps c264 (n := 2) (pc1 := 58) (ls1 := [jR 772, jI v1, jU]) (st1 := [jI 709, jI 0, jR 774, jI 0, jR 773]) rfl ?_
    refine L_cV (c264 58 rfl) (js_t rfl) hh264 (k_Md_lays rt773 rt774 hM h) (fun M μ6 hM h => ?_) (fun _ _ _ _ f => f.elim)
    refine L_ps c264 (n := 2) (pc1 := 63) (ls1 := [jR 772, jI v1, jI 0]) (st1 := []) rfl ?_
    exact k_Md_parseSystem_l63 rfl hM hQ h
  · refine L_ps c264 (n := 1) (pc1 := 19) (ls1 := [jR 772, jI v1, jU]) (st1 := [jI 0]) rfl ?_
    exact L_retI (c264 19 rfl) (hQ _ _ _ hM h)
theorem k_Md_mayLook {E : JE2} {μ : Mem} {M : JM} {Q : Bool → Mem → Prop} (hM : Rl E M μ) (h : d_Md_mayLook μ Q) : JX 321 0 (jargs 321 [jR 772]) [] M (PO E (QB Q) XN) := by
  unfold d_Md_mayLook at h
  show JX 321 0 [jR 772] [] M (PO E (QB Q) XN)
  generalize hP : PO E (QB Q) XN = P
  have hQ : ∀ (r : Bool) (M1 : JM) (μ1 : Mem), Rl E M1 μ1 → Q r μ1 → P (.inl (some (.inl (b2i r)))) M1 := by rw [← hP]; exact fun r M1 μ1 a b => ⟨μ1, a, r, rfl, b⟩
  clear hP
  refine L_ps c321 (n := 2) (pc1 := 2) (ls1 := [jR 772]) (st1 := [jR 772, jR 772]) rfl ?_
  refine L_getI (c321 2 rfl) hM rt772 rfl ?_
  refine L_ps c321 (n := 2) (pc1 := 7) (ls1 := [jR 772]) (st1 := [jI 1, jI 1, jI (μ 772 6), jR 772]) rfl ?_
  refine L_cB (c321 7 rfl) (js_v rfl ((Rl_tag hM rt772 (by decide)).trans js266)) hh321 (k_Md_may hM h) (fun r1 M μ2 hM h => ?_) (fun _ _ _ _ f => f.elim)
  exact L_retB (c321 10 rfl) (bz_b _) (hQ _ _ _ hM h)
theorem k_Md_look {E : JE2} {v1 : Int} {μ : Mem} {M : JM} {Q : Int → Mem → Prop} (hM : Rl E M μ) (h : d_Md_look v1 μ Q) : JX 320 0 (jargs 320 [jR 772, jI v1]) [] M (PO E (QI Q) XN) := by
  unfold d_Md_look at h
  show JX 320 0 [jR 772, jI v1] [] M (PO E (QI Q) XN)
  generalize hP : PO E (QI Q) XN = P
  have hQ : ∀ (r : Int) (M1 : JM) (μ1 : Mem), Rl E M1 μ1 → Q r μ1 → P (.inl (some (.inl r))) M1 := by rw [← hP]; exact fun r M1 μ1 a b => ⟨μ1, a, r, rfl, b⟩
  clear hP
  refine L_ps c320 (n := 1) (pc1 := 1) (ls1 := [jR 772, jI v1]) (st1 := [jR 772]) rfl ?_
  refine L_cB (c320 1 rfl) (js_v rfl ((Rl_tag hM rt772 (by decide)).trans js321)) hh320 (k_Md_mayLook hM h) (fun r1 M μ2 hM h => ?_) (fun _ _ _ _ f => f.elim)
  refine L_nb (p1 := 16) (p2 := 7) (c320 4 rfl) rfl jc_eqb h (fun h => ?_) (fun h => ?_)
  · refine L_ps c320 (n := 1) (pc1 := 8) (ls1 := [jR 772, jI v1]) (st1 := [jR 772]) rfl ?_
    refine L_getP (d := 1) (c320 8 rfl) hM rt772 rfl ?_
    refine L_ps c320 (n := 1) (pc1 := 12) (ls1 := [jR 772, jI v1]) (st1 := [jI v1, jR 773]) rfl ?_
    obtain ⟨hb, h⟩ := h
    refine L_iald (c320 12 rfl) hM rt773 ln773 hb ?_
    refine L_ps c320 (n := 1) (pc1 := 17) (ls1 := [jR 772, jI v1]) (st1 := [jI (μ2 773 v1.toNat)]) rfl ?_
    exact L_retI (c320 17 rfl) (hQ _ _ _ hM h)
  · refine L_ps c320 (n := 1) (pc1 := 17) (ls1 := [jR 772, jI v1]) (st1 := [jI 0]) rfl ?_
    exact L_retI (c320 17 rfl) (hQ _ _ _ hM h)
theorem k_Md_symbolCount {E : JE2} {μ : Mem} {M : JM} {Q : Int → Mem → Prop} (hM : Rl E M μ) (h : d_Md_symbolCount μ Q) : JX 319 0 (jargs 319 [jR 772]) [] M (PO E (QI Q) XN) := by
  unfold d_Md_symbolCount at h
  show JX 319 0 [jR 772] [] M (PO E (QI Q) XN)
  generalize hP : PO E (QI Q) XN = P
  have hQ : ∀ (r : Int) (M1 : JM) (μ1 : Mem), Rl E M1 μ1 → Q r μ1 → P (.inl (some (.inl r))) M1 := by rw [← hP]; exact fun r M1 μ1 a b => ⟨μ1, a, r, rfl, b⟩
  clear hP
  refine L_ps c319 (n := 2) (pc1 := 2) (ls1 := [jR 772]) (st1 := [jI 0, jR 772]) rfl ?_
  refine L_cI (c319 2 rfl) (js_v rfl ((Rl_tag hM rt772 (by decide)).trans js320)) hh319 (k_Md_look hM h) (fun r1 M μ2 hM h => ?_) (fun _ _ _ _ f => f.elim)
  exact L_retI (c319 5 rfl) (hQ _ _ _ hM h)
theorem k_Md_isSymbol {E : JE2} {v1 : Int} {μ : Mem} {M : JM} {Q : Bool → Prop} (hM : Rl E M μ) (h : d_Md_isSymbol v1 μ Q) : JX 324 0 (jargs 324 [jR 772, jI v1]) [] M (PO E (pQB μ Q) XN) := by
  unfold d_Md_isSymbol at h
  show JX 324 0 [jR 772, jI v1] [] M (PO E (pQB μ Q) XN)
  generalize hP : PO E (pQB μ Q) XN = P
  have hQ : ∀ (r : Bool) (M1 : JM), Rl E M1 μ → Q r → P (.inl (some (.inl (b2i r)))) M1 := by rw [← hP]; exact fun r M1 a b => ⟨μ, a, rfl, r, rfl, b⟩
  clear hP
  refine L_ps c324 (n := 1) (pc1 := 1) (ls1 := [jR 772, jI v1]) (st1 := [jR 772]) rfl ?_
  refine L_getI (c324 1 rfl) hM rt772 rfl ?_
  refine L_br (p1 := 27) (p2 := 7) (c324 4 rfl) rfl jc_eq h (fun h => ?_) (fun h => ?_)
  · refine L_ps c324 (n := 1) (pc1 := 28) (ls1 := [jR 772, jI v1]) (st1 := [jI 0]) rfl ?_
    exact L_retB (c324 28 rfl) (Or.inl rfl) (hQ false _ hM h)
  · refine L_ps c324 (n := 3) (pc1 := 10) (ls1 := [jR 772, jI v1]) (st1 := [jR 772, jI 0, jI v1]) rfl ?_
    refine L_getP (d := 1) (c324 10 rfl) hM rt772 rfl ?_
    refine L_ps c324 (n := 1) (pc1 := 14) (ls1 := [jR 772, jI v1]) (st1 := [jI 0, jR 773, jI 0, jI v1]) rfl ?_
    refine L_iald (c324 14 rfl) hM rt773 ln773 (by decide) ?_
    refine L_ps c324 (n := 2) (pc1 := 17) (ls1 := [jR 772, jI v1]) (st1 := [jI (wr ((μ 773 0) - 1)), jI 0, jI v1]) rfl ?_
    refine L_cpB (c324 17 rfl) (js_t rfl) hh324 (k_Md_in hM h) (fun r1 M hM h => ?_) (fun _ _ _ _ f => f.elim)
    refine L_nb (p1 := 27) (p2 := 23) (c324 20 rfl) rfl jc_eqb h (fun h => ?_) (fun h => ?_)
    · refine L_ps c324 (n := 2) (pc1 := 28) (ls1 := [jR 772, jI v1]) (st1 := [jI 1]) rfl ?_
      exact L_retB (c324 28 rfl) (Or.inr rfl) (hQ true _ hM h)
    · refine L_ps c324 (n := 1) (pc1 := 28) (ls1 := [jR 772, jI v1]) (st1 := [jI 0]) rfl ?_
      exact L_retB (c324 28 rfl) (Or.inl rfl) (hQ false _ hM h)
theorem k_Md_mayTwo {E : JE2} {v1 : Int} {v2 : Int} {μ : Mem} {M : JM} {Q : Bool → Mem → Prop} (hM : Rl E M μ) (h : d_Md_mayTwo v1 v2 μ Q) : JX 325 0 (jargs 325 [jR 772, jI v1, jI v2]) [] M (PO E (QB Q) XN) := by
  unfold d_Md_mayTwo at h
  show JX 325 0 [jR 772, jI v1, jI v2] [] M (PO E (QB Q) XN)
  generalize hP : PO E (QB Q) XN = P
  have hQ : ∀ (r : Bool) (M1 : JM) (μ1 : Mem), Rl E M1 μ1 → Q r μ1 → P (.inl (some (.inl (b2i r)))) M1 := by rw [← hP]; exact fun r M1 μ1 a b => ⟨μ1, a, r, rfl, b⟩
  clear hP
  refine L_ps c325 (n := 4) (pc1 := 4) (ls1 := [jR 772, jI v1, jI v2]) (st1 := [jI 1, jI v2, jI v1, jR 772]) rfl ?_
  refine L_cB (c325 4 rfl) (js_v rfl ((Rl_tag hM rt772 (by decide)).trans js266)) hh325 (k_Md_may hM h) (fun r1 M μ2 hM h => ?_) (fun _ _ _ _ f => f.elim)
  exact L_retB (c325 7 rfl) (bz_b _) (hQ _ _ _ hM h)
theorem k_Md_maySymbol {E : JE2} {v1 : Int} {μ : Mem} {M : JM} {Q : Bool → Mem → Prop} (hM : Rl E M μ) (h : d_Md_maySymbol v1 μ Q) : JX 323 0 (jargs 323 [jR 772, jI v1]) [] M (PO E (QB Q) XN) := by
  unfold d_Md_maySymbol at h
  show JX 323 0 [jR 772, jI v1] [] M (PO E (QB Q) XN)
  generalize hP : PO E (QB Q) XN = P
  have hQ : ∀ (r : Bool) (M1 : JM) (μ1 : Mem), Rl E M1 μ1 → Q r μ1 → P (.inl (some (.inl (b2i r)))) M1 := by rw [← hP]; exact fun r M1 μ1 a b => ⟨μ1, a, r, rfl, b⟩
  clear hP
  refine L_ps c323 (n := 2) (pc1 := 2) (ls1 := [jR 772, jI v1]) (st1 := [jR 772, jR 772]) rfl ?_
  refine L_getI (c323 2 rfl) hM rt772 rfl ?_
  refine L_ps c323 (n := 2) (pc1 := 7) (ls1 := [jR 772, jI v1]) (st1 := [jI v1, jR 772, jI (μ 772 6), jR 772]) rfl ?_
  refine L_cpB (c323 7 rfl) (js_v rfl ((Rl_tag hM rt772 (by decide)).trans js324)) hh323 (k_Md_isSymbol hM h) (fun r1 M hM h => ?_) (fun _ _ _ _ f => f.elim)
  refine L_cB (c323 10 rfl) (js_v rfl ((Rl_tag hM rt772 (by decide)).trans js325)) hh323 (k_Md_mayTwo hM h) (fun r3 M μ4 hM h => ?_) (fun _ _ _ _ f => f.elim)
  exact L_retB (c323 13 rfl) (bz_b _) (hQ _ _ _ hM h)
theorem k_Md_symbolArity {E : JE2} {v1 : Int} {μ : Mem} {M : JM} {Q : Int → Mem → Prop} (hM : Rl E M μ) (h : d_Md_symbolArity v1 μ Q) : JX 322 0 (jargs 322 [jR 772, jI v1]) [] M (PO E (QI Q) XN) := by
  unfold d_Md_symbolArity at h
  show JX 322 0 [jR 772, jI v1] [] M (PO E (QI Q) XN)
  generalize hP : PO E (QI Q) XN = P
  have hQ : ∀ (r : Int) (M1 : JM) (μ1 : Mem), Rl E M1 μ1 → Q r μ1 → P (.inl (some (.inl r))) M1 := by rw [← hP]; exact fun r M1 μ1 a b => ⟨μ1, a, r, rfl, b⟩
  clear hP
  refine L_ps c322 (n := 2) (pc1 := 2) (ls1 := [jR 772, jI v1]) (st1 := [jI v1, jR 772]) rfl ?_
  refine L_cB (c322 2 rfl) (js_v rfl ((Rl_tag hM rt772 (by decide)).trans js323)) hh322 (k_Md_maySymbol hM h) (fun r1 M μ2 hM h => ?_) (fun _ _ _ _ f => f.elim)
  refine L_nb (p1 := 17) (p2 := 8) (c322 5 rfl) rfl jc_eqb h (fun h => ?_) (fun h => ?_)
  · refine L_ps c322 (n := 3) (pc1 := 11) (ls1 := [jR 772, jI v1]) (st1 := [jI 0, jI v1, jR 772]) rfl ?_
    refine L_cpI (c322 11 rfl) (js_v rfl ((Rl_tag hM rt772 (by decide)).trans js279)) hh322 (k_Md_ofSymbol hM h) (fun r3 M hM h => ?_) (fun _ _ _ _ f => f.elim)
    refine L_ps c322 (n := 1) (pc1 := 18) (ls1 := [jR 772, jI v1]) (st1 := [jI r3]) rfl ?_
    exact L_retI (c322 18 rfl) (hQ _ _ _ hM h)
  · refine L_ps c322 (n := 1) (pc1 := 18) (ls1 := [jR 772, jI v1]) (st1 := [jI 0]) rfl ?_
    exact L_retI (c322 18 rfl) (hQ _ _ _ hM h)
theorem k_Md_symbolLetter {E : JE2} {v1 : Int} {v2 : Int} {μ : Mem} {M : JM} {Q : Int → Mem → Prop} (hM : Rl E M μ) (h : d_Md_symbolLetter v1 v2 μ Q) : JX 326 0 (jargs 326 [jR 772, jI v1, jI v2]) [] M (PO E (QI Q) XN) := by
  unfold d_Md_symbolLetter at h
  show JX 326 0 [jR 772, jI v1, jI v2] [] M (PO E (QI Q) XN)
  generalize hP : PO E (QI Q) XN = P
  have hQ : ∀ (r : Int) (M1 : JM) (μ1 : Mem), Rl E M1 μ1 → Q r μ1 → P (.inl (some (.inl r))) M1 := by rw [← hP]; exact fun r M1 μ1 a b => ⟨μ1, a, r, rfl, b⟩
  clear hP
  refine L_ps c326 (n := 2) (pc1 := 2) (ls1 := [jR 772, jI v1, jI v2]) (st1 := [jI v1, jR 772]) rfl ?_
  refine L_cB (c326 2 rfl) (js_v rfl ((Rl_tag hM rt772 (by decide)).trans js323)) hh326 (k_Md_maySymbol hM h) (fun r1 M μ2 hM h => ?_) (fun _ _ _ _ f => f.elim)
  refine L_br (p1 := 10) (p2 := 8) (c326 5 rfl) rfl jc_neb h (fun h => ?_) (fun h => ?_)
  · refine L_ps c326 (n := 5) (pc1 := 15) (ls1 := [jR 772, jI v1, jI v2]) (st1 := [jI 1, jI v1, jR 772, jI 0, jI v2]) rfl ?_
    refine L_cpI (c326 15 rfl) (js_v rfl ((Rl_tag hM rt772 (by decide)).trans js279)) hh326 (k_Md_ofSymbol hM h) (fun r3 M hM h => ?_) (fun _ _ _ _ f => f.elim)
    refine L_ps c326 (n := 2) (pc1 := 20) (ls1 := [jR 772, jI v1, jI v2]) (st1 := [jI (wr (r3 - 1)), jI 0, jI v2]) rfl ?_
    refine L_cpB (c326 20 rfl) (js_t rfl) hh326 (k_Md_in hM h) (fun r5 M hM h => ?_) (fun _ _ _ _ f => f.elim)
    refine L_nb (p1 := 37) (p2 := 26) (c326 23 rfl) rfl jc_eqb h (fun h => ?_) (fun h => ?_)
    · refine L_ps c326 (n := 5) (pc1 := 31) (ls1 := [jR 772, jI v1, jI v2]) (st1 := [jI (wr (2 + v2)), jI v1, jR 772]) rfl ?_
      refine L_cpI (c326 31 rfl) (js_v rfl ((Rl_tag hM rt772 (by decide)).trans js279)) hh326 (k_Md_ofSymbol hM h) (fun r7 M hM h => ?_) (fun _ _ _ _ f => f.elim)
      refine L_ps c326 (n := 1) (pc1 := 38) (ls1 := [jR 772, jI v1, jI v2]) (st1 := [jI r7]) rfl ?_
      exact L_retI (c326 38 rfl) (hQ _ _ _ hM h)
    · refine L_ps c326 (n := 1) (pc1 := 38) (ls1 := [jR 772, jI v1, jI v2]) (st1 := [jI (-1)]) rfl ?_
      exact L_retI (c326 38 rfl) (hQ _ _ _ hM h)
  · refine L_ps c326 (n := 1) (pc1 := 9) (ls1 := [jR 772, jI v1, jI v2]) (st1 := [jI 0]) rfl ?_
    exact L_retI (c326 9 rfl) (hQ _ _ _ hM h)
theorem k_Md_symbolUses_b14 {E : JE2} {v1 : Int} {v2 : Int} {v3 : Int} {μ : Mem} {M : JM} {P : JO → JM → Prop} {W14 : Int → Int → Prop} {Q : Int → Mem → Prop} (hM : Rl E M μ) (hQ : ∀ (r : Int) (M1 : JM) (μ1 : Mem), Rl E M1 μ1 → Q r μ1 → P (.inl (some (.inl r))) M1) (hW14 : ∀ (v2 : Int) (v3 : Int) (M1 : JM), Rl E M1 μ → W14 v2 v3 → JX 327 14 [jR 772, jI v1, jI v2, jI v3] [] M1 P) (h : d_Md_symbolUses_b14 v1 v2 v3 μ W14 Q) : JX 327 14 [jR 772, jI v1, jI v2, jI v3] [] M P := by
  unfold d_Md_symbolUses_b14 at h
  refine L_ps c327 (n := 2) (pc1 := 16) (ls1 := [jR 772, jI v1, jI v2, jI v3]) (st1 := [jR 772, jI v3]) rfl ?_
  refine L_getP (d := 1) (c327 16 rfl) hM rt772 rfl ?_
  refine L_ps c327 (n := 1) (pc1 := 20) (ls1 := [jR 772, jI v1, jI v2, jI v3]) (st1 := [jI 1, jR 773, jI v3]) rfl ?_
  refine L_iald (c327 20 rfl) hM rt773 ln773 (by decide) ?_
  refine L_nb (p1 := 48) (p2 := 24) (c327 21 rfl) rfl jc_ge h (fun h => ?_) (fun h => ?_)
  · refine L_ps c327 (n := 5) (pc1 := 29) (ls1 := [jR 772, jI v1, jI v2, jI v3]) (st1 := [jI v1, jI 1, jI v3, jR 772, jI v2]) rfl ?_
    refine L_cpI (c327 29 rfl) (js_v rfl ((Rl_tag hM rt772 (by decide)).trans js299)) hh327 (k_Md_occurrences hM h) (fun r3 M hM h => ?_) (fun _ _ _ _ f => f.elim)
    refine L_ps c327 (n := 4) (pc1 := 36) (ls1 := [jR 772, jI v1, jI v2, jI v3]) (st1 := [jI v1, jI 0, jI v3, jR 772, jI r3, jI v2]) rfl ?_
    refine L_cpI (c327 36 rfl) (js_v rfl ((Rl_tag hM rt772 (by decide)).trans js299)) hh327 (k_Md_occurrences hM h) (fun r5 M hM h => ?_) (fun _ _ _ _ f => f.elim)
    refine L_ps c327 (n := 5) (pc1 := 14) (ls1 := [jR 772, jI v1, jI (wr (v2 + (wr (r3 + r5)))), jI (wr (v3 + 1))]) (st1 := []) rfl ?_
    exact hW14 _ _ _ hM h
  · refine L_ps c327 (n := 1) (pc1 := 49) (ls1 := [jR 772, jI v1, jI v2, jI v3]) (st1 := [jI v2]) rfl ?_
    exact L_retI (c327 49 rfl) (hQ _ _ _ hM h)
theorem k_Md_symbolUses_l14 {E : JE2} {v1 : Int} {v2 : Int} {v3 : Int} {μ : Mem} {M : JM} {P : JO → JM → Prop} {Q : Int → Mem → Prop} (hM : Rl E M μ) (hQ : ∀ (r : Int) (M1 : JM) (μ1 : Mem), Rl E M1 μ1 → Q r μ1 → P (.inl (some (.inl r))) M1) (h : d_Md_symbolUses_l14 v1 v2 v3 μ Q) : JX 327 14 [jR 772, jI v1, jI v2, jI v3] [] M P := by
  refine h (fun v2 v3 => ∀ (M : JM), Rl E M μ → JX 327 14 [jR 772, jI v1, jI v2, jI v3] [] M P) ?_ _ hM
  intro v2 v3 h M hM
  exact k_Md_symbolUses_b14 hM hQ (fun v2 v3 M hM h => h M hM) h
theorem k_Md_symbolUses {E : JE2} {v1 : Int} {μ : Mem} {M : JM} {Q : Int → Mem → Prop} (hM : Rl E M μ) (h : d_Md_symbolUses v1 μ Q) : JX 327 0 (jargs 327 [jR 772, jI v1]) [] M (PO E (QI Q) XN) := by
  unfold d_Md_symbolUses at h
  show JX 327 0 [jR 772, jI v1, jU, jU] [] M (PO E (QI Q) XN)
  generalize hP : PO E (QI Q) XN = P
  have hQ : ∀ (r : Int) (M1 : JM) (μ1 : Mem), Rl E M1 μ1 → Q r μ1 → P (.inl (some (.inl r))) M1 := by rw [← hP]; exact fun r M1 μ1 a b => ⟨μ1, a, r, rfl, b⟩
  clear hP
  refine L_ps c327 (n := 2) (pc1 := 2) (ls1 := [jR 772, jI v1, jU, jU]) (st1 := [jI v1, jR 772]) rfl ?_
  refine L_cB (c327 2 rfl) (js_v rfl ((Rl_tag hM rt772 (by decide)).trans js323)) hh327 (k_Md_maySymbol hM h) (fun r1 M μ2 hM h => ?_) (fun _ _ _ _ f => f.elim)
  refine L_br (p1 := 10) (p2 := 8) (c327 5 rfl) rfl jc_neb h (fun h => ?_) (fun h => ?_)
  · refine L_ps c327 (n := 4) (pc1 := 14) (ls1 := [jR 772, jI v1, jI 0, jI 0]) (st1 := []) rfl ?_
    exact k_Md_symbolUses_l14 hM hQ h
  · refine L_ps c327 (n := 1) (pc1 := 9) (ls1 := [jR 772, jI v1, jU, jU]) (st1 := [jI 0]) rfl ?_
    exact L_retI (c327 9 rfl) (hQ _ _ _ hM h)
theorem k_Md_ruleCount {E : JE2} {μ : Mem} {M : JM} {Q : Int → Mem → Prop} (hM : Rl E M μ) (h : d_Md_ruleCount μ Q) : JX 328 0 (jargs 328 [jR 772]) [] M (PO E (QI Q) XN) := by
  unfold d_Md_ruleCount at h
  show JX 328 0 [jR 772] [] M (PO E (QI Q) XN)
  generalize hP : PO E (QI Q) XN = P
  have hQ : ∀ (r : Int) (M1 : JM) (μ1 : Mem), Rl E M1 μ1 → Q r μ1 → P (.inl (some (.inl r))) M1 := by rw [← hP]; exact fun r M1 μ1 a b => ⟨μ1, a, r, rfl, b⟩
  clear hP
  refine L_ps c328 (n := 2) (pc1 := 2) (ls1 := [jR 772]) (st1 := [jI 1, jR 772]) rfl ?_
  refine L_cI (c328 2 rfl) (js_v rfl ((Rl_tag hM rt772 (by decide)).trans js320)) hh328 (k_Md_look hM h) (fun r1 M μ2 hM h => ?_) (fun _ _ _ _ f => f.elim)
  exact L_retI (c328 5 rfl) (hQ _ _ _ hM h)
theorem k_Md_isRule {E : JE2} {v1 : Int} {μ : Mem} {M : JM} {Q : Bool → Prop} (hM : Rl E M μ) (h : d_Md_isRule v1 μ Q) : JX 331 0 (jargs 331 [jR 772, jI v1]) [] M (PO E (pQB μ Q) XN) := by
  unfold d_Md_isRule at h
  show JX 331 0 [jR 772, jI v1] [] M (PO E (pQB μ Q) XN)
  generalize hP : PO E (pQB μ Q) XN = P
  have hQ : ∀ (r : Bool) (M1 : JM), Rl E M1 μ → Q r → P (.inl (some (.inl (b2i r)))) M1 := by rw [← hP]; exact fun r M1 a b => ⟨μ, a, rfl, r, rfl, b⟩
  clear hP
  refine L_ps c331 (n := 1) (pc1 := 1) (ls1 := [jR 772, jI v1]) (st1 := [jR 772]) rfl ?_
  refine L_getI (c331 1 rfl) hM rt772 rfl ?_
  refine L_br (p1 := 27) (p2 := 7) (c331 4 rfl) rfl jc_eq h (fun h => ?_) (fun h => ?_)
  · refine L_ps c331 (n := 1) (pc1 := 28) (ls1 := [jR 772, jI v1]) (st1 := [jI 0]) rfl ?_
    exact L_retB (c331 28 rfl) (Or.inl rfl) (hQ false _ hM h)
  · refine L_ps c331 (n := 3) (pc1 := 10) (ls1 := [jR 772, jI v1]) (st1 := [jR 772, jI 0, jI v1]) rfl ?_
    refine L_getP (d := 1) (c331 10 rfl) hM rt772 rfl ?_
    refine L_ps c331 (n := 1) (pc1 := 14) (ls1 := [jR 772, jI v1]) (st1 := [jI 1, jR 773, jI 0, jI v1]) rfl ?_
    refine L_iald (c331 14 rfl) hM rt773 ln773 (by decide) ?_
    refine L_ps c331 (n := 2) (pc1 := 17) (ls1 := [jR 772, jI v1]) (st1 := [jI (wr ((μ 773 1) - 1)), jI 0, jI v1]) rfl ?_
    refine L_cpB (c331 17 rfl) (js_t rfl) hh331 (k_Md_in hM h) (fun r1 M hM h => ?_) (fun _ _ _ _ f => f.elim)
    refine L_nb (p1 := 27) (p2 := 23) (c331 20 rfl) rfl jc_eqb h (fun h => ?_) (fun h => ?_)
    · refine L_ps c331 (n := 2) (pc1 := 28) (ls1 := [jR 772, jI v1]) (st1 := [jI 1]) rfl ?_
      exact L_retB (c331 28 rfl) (Or.inr rfl) (hQ true _ hM h)
    · refine L_ps c331 (n := 1) (pc1 := 28) (ls1 := [jR 772, jI v1]) (st1 := [jI 0]) rfl ?_
      exact L_retB (c331 28 rfl) (Or.inl rfl) (hQ false _ hM h)
theorem k_Md_mayRule {E : JE2} {v1 : Int} {μ : Mem} {M : JM} {Q : Bool → Mem → Prop} (hM : Rl E M μ) (h : d_Md_mayRule v1 μ Q) : JX 330 0 (jargs 330 [jR 772, jI v1]) [] M (PO E (QB Q) XN) := by
  unfold d_Md_mayRule at h
  show JX 330 0 [jR 772, jI v1] [] M (PO E (QB Q) XN)
  generalize hP : PO E (QB Q) XN = P
  have hQ : ∀ (r : Bool) (M1 : JM) (μ1 : Mem), Rl E M1 μ1 → Q r μ1 → P (.inl (some (.inl (b2i r)))) M1 := by rw [← hP]; exact fun r M1 μ1 a b => ⟨μ1, a, r, rfl, b⟩
  clear hP
  refine L_ps c330 (n := 2) (pc1 := 2) (ls1 := [jR 772, jI v1]) (st1 := [jR 772, jR 772]) rfl ?_
  refine L_getI (c330 2 rfl) hM rt772 rfl ?_
  refine L_ps c330 (n := 2) (pc1 := 7) (ls1 := [jR 772, jI v1]) (st1 := [jI v1, jR 772, jI (μ 772 6), jR 772]) rfl ?_
  refine L_cpB (c330 7 rfl) (js_v rfl ((Rl_tag hM rt772 (by decide)).trans js331)) hh330 (k_Md_isRule hM h) (fun r1 M hM h => ?_) (fun _ _ _ _ f => f.elim)
  refine L_cB (c330 10 rfl) (js_v rfl ((Rl_tag hM rt772 (by decide)).trans js325)) hh330 (k_Md_mayTwo hM h) (fun r3 M μ4 hM h => ?_) (fun _ _ _ _ f => f.elim)
  exact L_retB (c330 13 rfl) (bz_b _) (hQ _ _ _ hM h)
theorem k_Md_leftSize {E : JE2} {v1 : Int} {μ : Mem} {M : JM} {Q : Int → Mem → Prop} (hM : Rl E M μ) (h : d_Md_leftSize v1 μ Q) : JX 329 0 (jargs 329 [jR 772, jI v1]) [] M (PO E (QI Q) XN) := by
  unfold d_Md_leftSize at h
  show JX 329 0 [jR 772, jI v1] [] M (PO E (QI Q) XN)
  generalize hP : PO E (QI Q) XN = P
  have hQ : ∀ (r : Int) (M1 : JM) (μ1 : Mem), Rl E M1 μ1 → Q r μ1 → P (.inl (some (.inl r))) M1 := by rw [← hP]; exact fun r M1 μ1 a b => ⟨μ1, a, r, rfl, b⟩
  clear hP
  refine L_ps c329 (n := 2) (pc1 := 2) (ls1 := [jR 772, jI v1]) (st1 := [jI v1, jR 772]) rfl ?_
  refine L_cB (c329 2 rfl) (js_v rfl ((Rl_tag hM rt772 (by decide)).trans js330)) hh329 (k_Md_mayRule hM h) (fun r1 M μ2 hM h => ?_) (fun _ _ _ _ f => f.elim)
  refine L_nb (p1 := 17) (p2 := 8) (c329 5 rfl) rfl jc_eqb h (fun h => ?_) (fun h => ?_)
  · refine L_ps c329 (n := 3) (pc1 := 11) (ls1 := [jR 772, jI v1]) (st1 := [jI 0, jI v1, jR 772]) rfl ?_
    refine L_cpI (c329 11 rfl) (js_v rfl ((Rl_tag hM rt772 (by decide)).trans js298)) hh329 (k_Md_ofRule hM h) (fun r3 M hM h => ?_) (fun _ _ _ _ f => f.elim)
    refine L_ps c329 (n := 1) (pc1 := 18) (ls1 := [jR 772, jI v1]) (st1 := [jI r3]) rfl ?_
    exact L_retI (c329 18 rfl) (hQ _ _ _ hM h)
  · refine L_ps c329 (n := 1) (pc1 := 18) (ls1 := [jR 772, jI v1]) (st1 := [jI 0]) rfl ?_
    exact L_retI (c329 18 rfl) (hQ _ _ _ hM h)
theorem k_Md_rightSize {E : JE2} {v1 : Int} {μ : Mem} {M : JM} {Q : Int → Mem → Prop} (hM : Rl E M μ) (h : d_Md_rightSize v1 μ Q) : JX 332 0 (jargs 332 [jR 772, jI v1]) [] M (PO E (QI Q) XN) := by
  unfold d_Md_rightSize at h
  show JX 332 0 [jR 772, jI v1] [] M (PO E (QI Q) XN)
  generalize hP : PO E (QI Q) XN = P
  have hQ : ∀ (r : Int) (M1 : JM) (μ1 : Mem), Rl E M1 μ1 → Q r μ1 → P (.inl (some (.inl r))) M1 := by rw [← hP]; exact fun r M1 μ1 a b => ⟨μ1, a, r, rfl, b⟩
  clear hP
  refine L_ps c332 (n := 2) (pc1 := 2) (ls1 := [jR 772, jI v1]) (st1 := [jI v1, jR 772]) rfl ?_
  refine L_cB (c332 2 rfl) (js_v rfl ((Rl_tag hM rt772 (by decide)).trans js330)) hh332 (k_Md_mayRule hM h) (fun r1 M μ2 hM h => ?_) (fun _ _ _ _ f => f.elim)
  refine L_nb (p1 := 17) (p2 := 8) (c332 5 rfl) rfl jc_eqb h (fun h => ?_) (fun h => ?_)
  · refine L_ps c332 (n := 3) (pc1 := 11) (ls1 := [jR 772, jI v1]) (st1 := [jI 1, jI v1, jR 772]) rfl ?_
    refine L_cpI (c332 11 rfl) (js_v rfl ((Rl_tag hM rt772 (by decide)).trans js298)) hh332 (k_Md_ofRule hM h) (fun r3 M hM h => ?_) (fun _ _ _ _ f => f.elim)
    refine L_ps c332 (n := 1) (pc1 := 18) (ls1 := [jR 772, jI v1]) (st1 := [jI r3]) rfl ?_
    exact L_retI (c332 18 rfl) (hQ _ _ _ hM h)
  · refine L_ps c332 (n := 1) (pc1 := 18) (ls1 := [jR 772, jI v1]) (st1 := [jI 0]) rfl ?_
    exact L_retI (c332 18 rfl) (hQ _ _ _ hM h)
theorem k_Md_isLeftLinear_b12 {E : JE2} {v1 : Int} {v2 : Int} {μ : Mem} {M : JM} {P : JO → JM → Prop} {W12 : Int → Prop} {Q : Bool → Mem → Prop} (hM : Rl E M μ) (hQ : ∀ (r : Bool) (M1 : JM) (μ1 : Mem), Rl E M1 μ1 → Q r μ1 → P (.inl (some (.inl (b2i r)))) M1) (hW12 : ∀ (v2 : Int) (M1 : JM), Rl E M1 μ → W12 v2 → JX 333 12 [jR 772, jI v1, jI v2] [] M1 P) (h : d_Md_isLeftLinear_b12 v1 v2 μ W12 Q) : JX 333 12 [jR 772, jI v1, jI v2] [] M P := by
  unfold d_Md_isLeftLinear_b12 at h
  refine L_ps c333 (n := 2) (pc1 := 15) (ls1 := [jR 772, jI v1, jI v2]) (st1 := [jI 8, jI v2]) rfl ?_
  refine L_nb (p1 := 40) (p2 := 18) (c333 15 rfl) rfl jc_ge h (fun h => ?_) (fun h => ?_)
  · refine L_ps c333 (n := 6) (pc1 := 25) (ls1 := [jR 772, jI v1, jI v2]) (st1 := [jI (wr (100 + v2)), jI 1, jI v1, jR 772]) rfl ?_
    refine L_cpI (c333 25 rfl) (js_v rfl ((Rl_tag hM rt772 (by decide)).trans js299)) hh333 (k_Md_occurrences hM h) (fun r3 M hM h => ?_) (fun _ _ _ _ f => f.elim)
    refine L_ps c333 (n := 1) (pc1 := 29) (ls1 := [jR 772, jI v1, jI v2]) (st1 := [jI 1, jI r3]) rfl ?_
    refine L_nb (p1 := 34) (p2 := 32) (c333 29 rfl) rfl jc_le h (fun h => ?_) (fun h => ?_)
    · refine L_ps c333 (n := 1) (pc1 := 33) (ls1 := [jR 772, jI v1, jI v2]) (st1 := [jI 0]) rfl ?_
      exact L_retB (c333 33 rfl) (Or.inl rfl) (hQ false _ _ hM h)
    · refine L_ps c333 (n := 2) (pc1 := 12) (ls1 := [jR 772, jI v1, jI (wr (v2 + 1))]) (st1 := []) rfl ?_
      exact hW12 _ _ hM h
  · refine L_ps c333 (n := 1) (pc1 := 41) (ls1 := [jR 772, jI v1, jI v2]) (st1 := [jI 1]) rfl ?_
    exact L_retB (c333 41 rfl) (Or.inr rfl) (hQ true _ _ hM h)
theorem k_Md_isLeftLinear_l12 {E : JE2} {v1 : Int} {v2 : Int} {μ : Mem} {M : JM} {P : JO → JM → Prop} {Q : Bool → Mem → Prop} (hM : Rl E M μ) (hQ : ∀ (r : Bool) (M1 : JM) (μ1 : Mem), Rl E M1 μ1 → Q r μ1 → P (.inl (some (.inl (b2i r)))) M1) (h : d_Md_isLeftLinear_l12 v1 v2 μ Q) : JX 333 12 [jR 772, jI v1, jI v2] [] M P := by
  refine h (fun v2 => ∀ (M : JM), Rl E M μ → JX 333 12 [jR 772, jI v1, jI v2] [] M P) ?_ _ hM
  intro v2 h M hM
  exact k_Md_isLeftLinear_b12 hM hQ (fun v2 M hM h => h M hM) h
theorem k_Md_isLeftLinear {E : JE2} {v1 : Int} {μ : Mem} {M : JM} {Q : Bool → Mem → Prop} (hM : Rl E M μ) (h : d_Md_isLeftLinear v1 μ Q) : JX 333 0 (jargs 333 [jR 772, jI v1]) [] M (PO E (QB Q) XN) := by
  unfold d_Md_isLeftLinear at h
  show JX 333 0 [jR 772, jI v1, jU] [] M (PO E (QB Q) XN)
  generalize hP : PO E (QB Q) XN = P
  have hQ : ∀ (r : Bool) (M1 : JM) (μ1 : Mem), Rl E M1 μ1 → Q r μ1 → P (.inl (some (.inl (b2i r)))) M1 := by rw [← hP]; exact fun r M1 μ1 a b => ⟨μ1, a, r, rfl, b⟩
  clear hP
  refine L_ps c333 (n := 2) (pc1 := 2) (ls1 := [jR 772, jI v1, jU]) (st1 := [jI v1, jR 772]) rfl ?_
  refine L_cB (c333 2 rfl) (js_v rfl ((Rl_tag hM rt772 (by decide)).trans js330)) hh333 (k_Md_mayRule hM h) (fun r1 M μ2 hM h => ?_) (fun _ _ _ _ f => f.elim)
  refine L_br (p1 := 10) (p2 := 8) (c333 5 rfl) rfl jc_neb h (fun h => ?_) (fun h => ?_)
  · refine L_ps c333 (n := 2) (pc1 := 12) (ls1 := [jR 772, jI v1, jI 0]) (st1 := []) rfl ?_
    exact k_Md_isLeftLinear_l12 hM hQ h
  · refine L_ps c333 (n := 1) (pc1 := 9) (ls1 := [jR 772, jI v1, jU]) (st1 := [jI 0]) rfl ?_
    exact L_retB (c333 9 rfl) (Or.inl rfl) (hQ false _ _ hM h)
theorem k_Md_isCollapsing {E : JE2} {v1 : Int} {μ : Mem} {M : JM} {Q : Bool → Mem → Prop} (hM : Rl E M μ) (h : d_Md_isCollapsing v1 μ Q) : JX 334 0 (jargs 334 [jR 772, jI v1]) [] M (PO E (QB Q) XN) := by
  unfold d_Md_isCollapsing at h
  show JX 334 0 [jR 772, jI v1] [] M (PO E (QB Q) XN)
  generalize hP : PO E (QB Q) XN = P
  have hQ : ∀ (r : Bool) (M1 : JM) (μ1 : Mem), Rl E M1 μ1 → Q r μ1 → P (.inl (some (.inl (b2i r)))) M1 := by rw [← hP]; exact fun r M1 μ1 a b => ⟨μ1, a, r, rfl, b⟩
  clear hP
  refine L_ps c334 (n := 2) (pc1 := 2) (ls1 := [jR 772, jI v1]) (st1 := [jI v1, jR 772]) rfl ?_
  refine L_cB (c334 2 rfl) (js_v rfl ((Rl_tag hM rt772 (by decide)).trans js330)) hh334 (k_Md_mayRule hM h) (fun r1 M μ2 hM h => ?_) (fun _ _ _ _ f => f.elim)
  refine L_nb (p1 := 24) (p2 := 8) (c334 5 rfl) rfl jc_eqb h (fun h => ?_) (fun h => ?_)
  · refine L_ps c334 (n := 3) (pc1 := 12) (ls1 := [jR 772, jI v1]) (st1 := [jI 14, jI v1, jR 772]) rfl ?_
    refine L_cpI (c334 12 rfl) (js_v rfl ((Rl_tag hM rt772 (by decide)).trans js298)) hh334 (k_Md_ofRule hM h) (fun r3 M hM h => ?_) (fun _ _ _ _ f => f.elim)
    refine L_ps c334 (n := 1) (pc1 := 17) (ls1 := [jR 772, jI v1]) (st1 := [jI 100, jI r3]) rfl ?_
    refine L_br (p1 := 24) (p2 := 20) (c334 17 rfl) rfl jc_lt h (fun h => ?_) (fun h => ?_)
    · refine L_ps c334 (n := 1) (pc1 := 25) (ls1 := [jR 772, jI v1]) (st1 := [jI 0]) rfl ?_
      exact L_retB (c334 25 rfl) (Or.inl rfl) (hQ false _ _ hM h)
    · refine L_ps c334 (n := 2) (pc1 := 25) (ls1 := [jR 772, jI v1]) (st1 := [jI 1]) rfl ?_
      exact L_retB (c334 25 rfl) (Or.inr rfl) (hQ true _ _ hM h)
  · refine L_ps c334 (n := 1) (pc1 := 25) (ls1 := [jR 772, jI v1]) (st1 := [jI 0]) rfl ?_
    exact L_retB (c334 25 rfl) (Or.inl rfl) (hQ false _ _ hM h)
theorem k_Md_duplicates_b2 {E : JE2} {v1 : Int} {v2 : Int} {μ : Mem} {M : JM} {P : JO → JM → Prop} {W2 : Int → Prop} {Q : Bool → Prop} (hM : Rl E M μ) (hQ : ∀ (r : Bool) (M1 : JM), Rl E M1 μ → Q r → P (.inl (some (.inl (b2i r)))) M1) (hW2 : ∀ (v2 : Int) (M1 : JM), Rl E M1 μ → W2 v2 → JX 336 2 [jR 772, jI v1, jI v2] [] M1 P) (h : d_Md_duplicates_b2 v1 v2 μ W2 Q) : JX 336 2 [jR 772, jI v1, jI v2] [] M P := by
  unfold d_Md_duplicates_b2 at h
  refine L_ps c336 (n := 2) (pc1 := 5) (ls1 := [jR 772, jI v1, jI v2]) (st1 := [jI 8, jI v2]) rfl ?_
  refine L_nb (p1 := 39) (p2 := 8) (c336 5 rfl) rfl jc_ge h (fun h => ?_) (fun h => ?_)
  · refine L_ps c336 (n := 6) (pc1 := 15) (ls1 := [jR 772, jI v1, jI v2]) (st1 := [jI (wr (100 + v2)), jI 0, jI v1, jR 772]) rfl ?_
    refine L_cpI (c336 15 rfl) (js_v rfl ((Rl_tag hM rt772 (by decide)).trans js299)) hh336 (k_Md_occurrences hM h) (fun r1 M hM h => ?_) (fun _ _ _ _ f => f.elim)
    refine L_ps c336 (n := 6) (pc1 := 25) (ls1 := [jR 772, jI v1, jI v2]) (st1 := [jI (wr (100 + v2)), jI 1, jI v1, jR 772, jI r1]) rfl ?_
    refine L_cpI (c336 25 rfl) (js_v rfl ((Rl_tag hM rt772 (by decide)).trans js299)) hh336 (k_Md_occurrences hM h) (fun r3 M hM h => ?_) (fun _ _ _ _ f => f.elim)
    refine L_nb (p1 := 33) (p2 := 31) (c336 28 rfl) rfl jc_le h (fun h => ?_) (fun h => ?_)
    · refine L_ps c336 (n := 1) (pc1 := 32) (ls1 := [jR 772, jI v1, jI v2]) (st1 := [jI 1]) rfl ?_
      exact L_retB (c336 32 rfl) (Or.inr rfl) (hQ true _ hM h)
    · refine L_ps c336 (n := 2) (pc1 := 2) (ls1 := [jR 772, jI v1, jI (wr (v2 + 1))]) (st1 := []) rfl ?_
      exact hW2 _ _ hM h
  · refine L_ps c336 (n := 1) (pc1 := 40) (ls1 := [jR 772, jI v1, jI v2]) (st1 := [jI 0]) rfl ?_
    exact L_retB (c336 40 rfl) (Or.inl rfl) (hQ false _ hM h)
theorem k_Md_duplicates_l2 {E : JE2} {v1 : Int} {v2 : Int} {μ : Mem} {M : JM} {P : JO → JM → Prop} {Q : Bool → Prop} (hM : Rl E M μ) (hQ : ∀ (r : Bool) (M1 : JM), Rl E M1 μ → Q r → P (.inl (some (.inl (b2i r)))) M1) (h : d_Md_duplicates_l2 v1 v2 μ Q) : JX 336 2 [jR 772, jI v1, jI v2] [] M P := by
  refine h (fun v2 => ∀ (M : JM), Rl E M μ → JX 336 2 [jR 772, jI v1, jI v2] [] M P) ?_ _ hM
  intro v2 h M hM
  exact k_Md_duplicates_b2 hM hQ (fun v2 M hM h => h M hM) h
theorem k_Md_duplicates {E : JE2} {v1 : Int} {μ : Mem} {M : JM} {Q : Bool → Prop} (hM : Rl E M μ) (h : d_Md_duplicates v1 μ Q) : JX 336 0 (jargs 336 [jR 772, jI v1]) [] M (PO E (pQB μ Q) XN) := by
  unfold d_Md_duplicates at h
  show JX 336 0 [jR 772, jI v1, jU] [] M (PO E (pQB μ Q) XN)
  generalize hP : PO E (pQB μ Q) XN = P
  have hQ : ∀ (r : Bool) (M1 : JM), Rl E M1 μ → Q r → P (.inl (some (.inl (b2i r)))) M1 := by rw [← hP]; exact fun r M1 a b => ⟨μ, a, rfl, r, rfl, b⟩
  clear hP
  refine L_ps c336 (n := 2) (pc1 := 2) (ls1 := [jR 772, jI v1, jI 0]) (st1 := []) rfl ?_
  exact k_Md_duplicates_l2 hM hQ h
theorem k_Md_isDuplicating {E : JE2} {v1 : Int} {μ : Mem} {M : JM} {Q : Bool → Mem → Prop} (hM : Rl E M μ) (h : d_Md_isDuplicating v1 μ Q) : JX 335 0 (jargs 335 [jR 772, jI v1]) [] M (PO E (QB Q) XN) := by
  unfold d_Md_isDuplicating at h
  show JX 335 0 [jR 772, jI v1] [] M (PO E (QB Q) XN)
  generalize hP : PO E (QB Q) XN = P
  have hQ : ∀ (r : Bool) (M1 : JM) (μ1 : Mem), Rl E M1 μ1 → Q r μ1 → P (.inl (some (.inl (b2i r)))) M1 := by rw [← hP]; exact fun r M1 μ1 a b => ⟨μ1, a, r, rfl, b⟩
  clear hP
  refine L_ps c335 (n := 2) (pc1 := 2) (ls1 := [jR 772, jI v1]) (st1 := [jI v1, jR 772]) rfl ?_
  refine L_cB (c335 2 rfl) (js_v rfl ((Rl_tag hM rt772 (by decide)).trans js330)) hh335 (k_Md_mayRule hM h) (fun r1 M μ2 hM h => ?_) (fun _ _ _ _ f => f.elim)
  refine L_nb (p1 := 20) (p2 := 8) (c335 5 rfl) rfl jc_eqb h (fun h => ?_) (fun h => ?_)
  · refine L_ps c335 (n := 2) (pc1 := 10) (ls1 := [jR 772, jI v1]) (st1 := [jI v1, jR 772]) rfl ?_
    refine L_cpB (c335 10 rfl) (js_v rfl ((Rl_tag hM rt772 (by decide)).trans js336)) hh335 (k_Md_duplicates hM h) (fun r3 M hM h => ?_) (fun _ _ _ _ f => f.elim)
    refine L_nb (p1 := 20) (p2 := 16) (c335 13 rfl) rfl jc_eqb h (fun h => ?_) (fun h => ?_)
    · refine L_ps c335 (n := 2) (pc1 := 21) (ls1 := [jR 772, jI v1]) (st1 := [jI 1]) rfl ?_
      exact L_retB (c335 21 rfl) (Or.inr rfl) (hQ true _ _ hM h)
    · refine L_ps c335 (n := 1) (pc1 := 21) (ls1 := [jR 772, jI v1]) (st1 := [jI 0]) rfl ?_
      exact L_retB (c335 21 rfl) (Or.inl rfl) (hQ false _ _ hM h)
  · refine L_ps c335 (n := 1) (pc1 := 21) (ls1 := [jR 772, jI v1]) (st1 := [jI 0]) rfl ?_
    exact L_retB (c335 21 rfl) (Or.inl rfl) (hQ false _ _ hM h)
theorem k_Md_decreasesSize {E : JE2} {v1 : Int} {μ : Mem} {M : JM} {Q : Bool → Mem → Prop} (hM : Rl E M μ) (h : d_Md_decreasesSize v1 μ Q) : JX 337 0 (jargs 337 [jR 772, jI v1]) [] M (PO E (QB Q) XN) := by
  unfold d_Md_decreasesSize at h
  show JX 337 0 [jR 772, jI v1] [] M (PO E (QB Q) XN)
  generalize hP : PO E (QB Q) XN = P
  have hQ : ∀ (r : Bool) (M1 : JM) (μ1 : Mem), Rl E M1 μ1 → Q r μ1 → P (.inl (some (.inl (b2i r)))) M1 := by rw [← hP]; exact fun r M1 μ1 a b => ⟨μ1, a, r, rfl, b⟩
  clear hP
  refine L_ps c337 (n := 2) (pc1 := 2) (ls1 := [jR 772, jI v1]) (st1 := [jI v1, jR 772]) rfl ?_
  refine L_cB (c337 2 rfl) (js_v rfl ((Rl_tag hM rt772 (by decide)).trans js330)) hh337 (k_Md_mayRule hM h) (fun r1 M μ2 hM h => ?_) (fun _ _ _ _ f => f.elim)
  refine L_nb (p1 := 35) (p2 := 8) (c337 5 rfl) rfl jc_eqb h (fun h => ?_) (fun h => ?_)
  · refine L_ps c337 (n := 3) (pc1 := 11) (ls1 := [jR 772, jI v1]) (st1 := [jI 1, jI v1, jR 772]) rfl ?_
    refine L_cpI (c337 11 rfl) (js_v rfl ((Rl_tag hM rt772 (by decide)).trans js298)) hh337 (k_Md_ofRule hM h) (fun r3 M hM h => ?_) (fun _ _ _ _ f => f.elim)
    refine L_ps c337 (n := 3) (pc1 := 17) (ls1 := [jR 772, jI v1]) (st1 := [jI 0, jI v1, jR 772, jI r3]) rfl ?_
    refine L_cpI (c337 17 rfl) (js_v rfl ((Rl_tag hM rt772 (by decide)).trans js298)) hh337 (k_Md_ofRule hM h) (fun r5 M hM h => ?_) (fun _ _ _ _ f => f.elim)
    refine L_nb (p1 := 35) (p2 := 23) (c337 20 rfl) rfl jc_ge h (fun h => ?_) (fun h => ?_)
    · refine L_ps c337 (n := 2) (pc1 := 25) (ls1 := [jR 772, jI v1]) (st1 := [jI v1, jR 772]) rfl ?_
      refine L_cpB (c337 25 rfl) (js_v rfl ((Rl_tag hM rt772 (by decide)).trans js336)) hh337 (k_Md_duplicates hM h) (fun r7 M hM h => ?_) (fun _ _ _ _ f => f.elim)
      refine L_br (p1 := 35) (p2 := 31) (c337 28 rfl) rfl jc_neb h (fun h => ?_) (fun h => ?_)
      · refine L_ps c337 (n := 1) (pc1 := 36) (ls1 := [jR 772, jI v1]) (st1 := [jI 0]) rfl ?_
        exact L_retB (c337 36 rfl) (Or.inl rfl) (hQ false _ _ hM h)
      · refine L_ps c337 (n := 2) (pc1 := 36) (ls1 := [jR 772, jI v1]) (st1 := [jI 1]) rfl ?_
        exact L_retB (c337 36 rfl) (Or.inr rfl) (hQ true _ _ hM h)
    · refine L_ps c337 (n := 1) (pc1 := 36) (ls1 := [jR 772, jI v1]) (st1 := [jI 0]) rfl ?_
      exact L_retB (c337 36 rfl) (Or.inl rfl) (hQ false _ _ hM h)
  · refine L_ps c337 (n := 1) (pc1 := 36) (ls1 := [jR 772, jI v1]) (st1 := [jI 0]) rfl ?_
    exact L_retB (c337 36 rfl) (Or.inl rfl) (hQ false _ _ hM h)
theorem k_Md_termCount {E : JE2} {μ : Mem} {M : JM} {Q : Int → Mem → Prop} (hM : Rl E M μ) (h : d_Md_termCount μ Q) : JX 338 0 (jargs 338 [jR 772]) [] M (PO E (QI Q) XN) := by
  unfold d_Md_termCount at h
  show JX 338 0 [jR 772] [] M (PO E (QI Q) XN)
  generalize hP : PO E (QI Q) XN = P
  have hQ : ∀ (r : Int) (M1 : JM) (μ1 : Mem), Rl E M1 μ1 → Q r μ1 → P (.inl (some (.inl r))) M1 := by rw [← hP]; exact fun r M1 μ1 a b => ⟨μ1, a, r, rfl, b⟩
  clear hP
  refine L_ps c338 (n := 2) (pc1 := 2) (ls1 := [jR 772]) (st1 := [jI 2, jR 772]) rfl ?_
  refine L_cI (c338 2 rfl) (js_v rfl ((Rl_tag hM rt772 (by decide)).trans js320)) hh338 (k_Md_look hM h) (fun r1 M μ2 hM h => ?_) (fun _ _ _ _ f => f.elim)
  exact L_retI (c338 5 rfl) (hQ _ _ _ hM h)
theorem k_Md_isTerm {E : JE2} {v1 : Int} {μ : Mem} {M : JM} {Q : Bool → Prop} (hM : Rl E M μ) (h : d_Md_isTerm v1 μ Q) : JX 341 0 (jargs 341 [jR 772, jI v1]) [] M (PO E (pQB μ Q) XN) := by
  unfold d_Md_isTerm at h
  show JX 341 0 [jR 772, jI v1] [] M (PO E (pQB μ Q) XN)
  generalize hP : PO E (pQB μ Q) XN = P
  have hQ : ∀ (r : Bool) (M1 : JM), Rl E M1 μ → Q r → P (.inl (some (.inl (b2i r)))) M1 := by rw [← hP]; exact fun r M1 a b => ⟨μ, a, rfl, r, rfl, b⟩
  clear hP
  refine L_ps c341 (n := 1) (pc1 := 1) (ls1 := [jR 772, jI v1]) (st1 := [jR 772]) rfl ?_
  refine L_getI (c341 1 rfl) hM rt772 rfl ?_
  refine L_br (p1 := 27) (p2 := 7) (c341 4 rfl) rfl jc_eq h (fun h => ?_) (fun h => ?_)
  · refine L_ps c341 (n := 1) (pc1 := 28) (ls1 := [jR 772, jI v1]) (st1 := [jI 0]) rfl ?_
    exact L_retB (c341 28 rfl) (Or.inl rfl) (hQ false _ hM h)
  · refine L_ps c341 (n := 3) (pc1 := 10) (ls1 := [jR 772, jI v1]) (st1 := [jR 772, jI 0, jI v1]) rfl ?_
    refine L_getP (d := 1) (c341 10 rfl) hM rt772 rfl ?_
    refine L_ps c341 (n := 1) (pc1 := 14) (ls1 := [jR 772, jI v1]) (st1 := [jI 2, jR 773, jI 0, jI v1]) rfl ?_
    refine L_iald (c341 14 rfl) hM rt773 ln773 (by decide) ?_
    refine L_ps c341 (n := 2) (pc1 := 17) (ls1 := [jR 772, jI v1]) (st1 := [jI (wr ((μ 773 2) - 1)), jI 0, jI v1]) rfl ?_
    refine L_cpB (c341 17 rfl) (js_t rfl) hh341 (k_Md_in hM h) (fun r1 M hM h => ?_) (fun _ _ _ _ f => f.elim)
    refine L_nb (p1 := 27) (p2 := 23) (c341 20 rfl) rfl jc_eqb h (fun h => ?_) (fun h => ?_)
    · refine L_ps c341 (n := 2) (pc1 := 28) (ls1 := [jR 772, jI v1]) (st1 := [jI 1]) rfl ?_
      exact L_retB (c341 28 rfl) (Or.inr rfl) (hQ true _ hM h)
    · refine L_ps c341 (n := 1) (pc1 := 28) (ls1 := [jR 772, jI v1]) (st1 := [jI 0]) rfl ?_
      exact L_retB (c341 28 rfl) (Or.inl rfl) (hQ false _ hM h)
theorem k_Md_mayTerm {E : JE2} {v1 : Int} {μ : Mem} {M : JM} {Q : Bool → Mem → Prop} (hM : Rl E M μ) (h : d_Md_mayTerm v1 μ Q) : JX 340 0 (jargs 340 [jR 772, jI v1]) [] M (PO E (QB Q) XN) := by
  unfold d_Md_mayTerm at h
  show JX 340 0 [jR 772, jI v1] [] M (PO E (QB Q) XN)
  generalize hP : PO E (QB Q) XN = P
  have hQ : ∀ (r : Bool) (M1 : JM) (μ1 : Mem), Rl E M1 μ1 → Q r μ1 → P (.inl (some (.inl (b2i r)))) M1 := by rw [← hP]; exact fun r M1 μ1 a b => ⟨μ1, a, r, rfl, b⟩
  clear hP
  refine L_ps c340 (n := 2) (pc1 := 2) (ls1 := [jR 772, jI v1]) (st1 := [jR 772, jR 772]) rfl ?_
  refine L_getI (c340 2 rfl) hM rt772 rfl ?_
  refine L_ps c340 (n := 2) (pc1 := 7) (ls1 := [jR 772, jI v1]) (st1 := [jI v1, jR 772, jI (μ 772 6), jR 772]) rfl ?_
  refine L_cpB (c340 7 rfl) (js_v rfl ((Rl_tag hM rt772 (by decide)).trans js341)) hh340 (k_Md_isTerm hM h) (fun r1 M hM h => ?_) (fun _ _ _ _ f => f.elim)
  refine L_cB (c340 10 rfl) (js_v rfl ((Rl_tag hM rt772 (by decide)).trans js325)) hh340 (k_Md_mayTwo hM h) (fun r3 M μ4 hM h => ?_) (fun _ _ _ _ f => f.elim)
  exact L_retB (c340 13 rfl) (bz_b _) (hQ _ _ _ hM h)
theorem k_Md_termSize {E : JE2} {v1 : Int} {μ : Mem} {M : JM} {Q : Int → Mem → Prop} (hM : Rl E M μ) (h : d_Md_termSize v1 μ Q) : JX 339 0 (jargs 339 [jR 772, jI v1]) [] M (PO E (QI Q) XN) := by
  unfold d_Md_termSize at h
  show JX 339 0 [jR 772, jI v1] [] M (PO E (QI Q) XN)
  generalize hP : PO E (QI Q) XN = P
  have hQ : ∀ (r : Int) (M1 : JM) (μ1 : Mem), Rl E M1 μ1 → Q r μ1 → P (.inl (some (.inl r))) M1 := by rw [← hP]; exact fun r M1 μ1 a b => ⟨μ1, a, r, rfl, b⟩
  clear hP
  refine L_ps c339 (n := 2) (pc1 := 2) (ls1 := [jR 772, jI v1]) (st1 := [jI v1, jR 772]) rfl ?_
  refine L_cB (c339 2 rfl) (js_v rfl ((Rl_tag hM rt772 (by decide)).trans js340)) hh339 (k_Md_mayTerm hM h) (fun r1 M μ2 hM h => ?_) (fun _ _ _ _ f => f.elim)
  refine L_nb (p1 := 16) (p2 := 8) (c339 5 rfl) rfl jc_eqb h (fun h => ?_) (fun h => ?_)
  · refine L_ps c339 (n := 2) (pc1 := 10) (ls1 := [jR 772, jI v1]) (st1 := [jI v1, jR 772]) rfl ?_
    refine L_cpI (c339 10 rfl) (js_v rfl ((Rl_tag hM rt772 (by decide)).trans js294)) hh339 (k_Md_sizeOf hM h) (fun r3 M hM h => ?_) (fun _ _ _ _ f => f.elim)
    refine L_ps c339 (n := 1) (pc1 := 17) (ls1 := [jR 772, jI v1]) (st1 := [jI r3]) rfl ?_
    exact L_retI (c339 17 rfl) (hQ _ _ _ hM h)
  · refine L_ps c339 (n := 1) (pc1 := 17) (ls1 := [jR 772, jI v1]) (st1 := [jI 0]) rfl ?_
    exact L_retI (c339 17 rfl) (hQ _ _ _ hM h)
