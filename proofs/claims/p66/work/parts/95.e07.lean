/-! that the printed tables do what the texts say, 7 -/
theorem k_Lw_isWhole_j60 {v1 : Int} {v2 : Int} {t0 : Int} {t1 : Int} {s : LSt} {M : JM} {P : JO → JM → Prop} {Q : Int → LSt → Prop} (hM : R2 s M) (hQ : ∀ (r : Int) (M1 : JM) (s1 : LSt), R2 s1 M1 → Q r s1 → P (.inl (some (.inl r))) M1) (h : d_Lw_isWhole_j60 v1 v2 t0 t1 s Q) : JX 258 60 [jR 0, jI v1, jI v2] [jI t1, jI t0] M P := by
  unfold d_Lw_isWhole_j60 at h
  refine L_br (p1 := 65) (p2 := 63) (c258 60 rfl) rfl jc_eq h (fun h => ?_) (fun h => ?_)
  · refine L_ps c258 (n := 3) (pc1 := 68) (ls1 := [jR 0, jI v1, jI v2]) (st1 := [jI v2, jI v1, jR 0]) rfl ?_
    refine E_oB (c258 68 rfl) (js_v rfl ((R2_ob hM).trans jt259)) rfl hM (fun Q X h => k_OB_unify hM.1 h) h (fun r13 M s14 hM h => ?_)
    refine L_ps c258 (n := 3) (pc1 := 74) (ls1 := [jR 0, jI v1, jI v2]) (st1 := [jI v1, jI v2, jR 0, jI (b2i r13)]) rfl ?_
    refine E_oB (c258 74 rfl) (js_v rfl ((R2_ob hM).trans jt259)) rfl hM (fun Q X h => k_OB_unify hM.1 h) h (fun r15 M s16 hM h => ?_)
    refine L_nb (p1 := 113) (p2 := 80) (c258 77 rfl) rfl jc_ne h (fun h => ?_) (fun h => ?_)
    · refine L_ps c258 (n := 3) (pc1 := 83) (ls1 := [jR 0, jI v1, jI v2]) (st1 := [jI v2, jI v1, jR 0]) rfl ?_
      refine E_oI (c258 83 rfl) (js_v rfl ((R2_ob hM).trans jt261)) rfl hM (fun Q X h => k_OB_unifiedSize hM.1 h) h (fun r17 M s18 hM h => ?_)
      refine L_ps c258 (n := 3) (pc1 := 89) (ls1 := [jR 0, jI v1, jI v2]) (st1 := [jI v1, jI v2, jR 0, jI r17]) rfl ?_
      refine E_oI (c258 89 rfl) (js_v rfl ((R2_ob hM).trans jt261)) rfl hM (fun Q X h => k_OB_unifiedSize hM.1 h) h (fun r19 M s20 hM h => ?_)
      refine L_nb (p1 := 113) (p2 := 95) (c258 92 rfl) rfl jc_ne h (fun h => ?_) (fun h => ?_)
      · refine L_ps c258 (n := 3) (pc1 := 98) (ls1 := [jR 0, jI v1, jI v2]) (st1 := [jI v1, jI v1, jR 0]) rfl ?_
        refine E_oB (c258 98 rfl) (js_v rfl ((R2_ob hM).trans jt259)) rfl hM (fun Q X h => k_OB_unify hM.1 h) h (fun r21 M s22 hM h => ?_)
        refine L_nb (p1 := 113) (p2 := 104) (c258 101 rfl) rfl jc_eqb h (fun h => ?_) (fun h => ?_)
        · refine L_ps c258 (n := 3) (pc1 := 107) (ls1 := [jR 0, jI v1, jI v2]) (st1 := [jI v1, jI v1, jR 0]) rfl ?_
          refine E_oB (c258 107 rfl) (js_v rfl ((R2_ob hM).trans jt262)) rfl hM (fun Q X h => k_OB_areEqual hM.1 h) h (fun r23 M s24 hM h => ?_)
          refine L_br (p1 := 115) (p2 := 113) (c258 110 rfl) rfl jc_neb h (fun h => ?_) (fun h => ?_)
          · refine L_ps c258 (n := 3) (pc1 := 118) (ls1 := [jR 0, jI v1, jI v2]) (st1 := [jI v2, jI v1, jR 0]) rfl ?_
            refine E_oB (c258 118 rfl) (js_v rfl ((R2_ob hM).trans jt262)) rfl hM (fun Q X h => k_OB_areEqual hM.1 h) h (fun r25 M s26 hM h => ?_)
            refine L_nb (p1 := 137) (p2 := 124) (c258 121 rfl) rfl jc_eqb h (fun h => ?_) (fun h => ?_)
            · refine L_ps c258 (n := 2) (pc1 := 126) (ls1 := [jR 0, jI v1, jI v2]) (st1 := [jI v1, jR 0]) rfl ?_
              refine E_oI (c258 126 rfl) (js_v rfl ((R2_ob hM).trans jt93)) rfl hM (fun Q X h => k_OB_stepsInnermost hM.1 h) h (fun r27 M s28 hM h => ?_)
              refine L_ps c258 (n := 2) (pc1 := 131) (ls1 := [jR 0, jI v1, jI v2]) (st1 := [jI v2, jR 0, jI r27]) rfl ?_
              refine E_oI (c258 131 rfl) (js_v rfl ((R2_ob hM).trans jt93)) rfl hM (fun Q X h => k_OB_stepsInnermost hM.1 h) h (fun r29 M s30 hM h => ?_)
              refine L_nb (p1 := 141) (p2 := 137) (c258 134 rfl) rfl jc_ne h (fun h => ?_) (fun h => ?_)
              · refine L_ps c258 (n := 2) (pc1 := 142) (ls1 := [jR 0, jI v1, jI v2]) (st1 := [jI 1]) rfl ?_
                exact E_retZ (c258 142 rfl) (Or.inr rfl) (hQ _ _ _ hM h)
              · refine L_ps c258 (n := 1) (pc1 := 142) (ls1 := [jR 0, jI v1, jI v2]) (st1 := [jI 0]) rfl ?_
                exact E_retZ (c258 142 rfl) (Or.inl rfl) (hQ _ _ _ hM h)
            · refine L_ps c258 (n := 2) (pc1 := 142) (ls1 := [jR 0, jI v1, jI v2]) (st1 := [jI 1]) rfl ?_
              exact E_retZ (c258 142 rfl) (Or.inr rfl) (hQ _ _ _ hM h)
          · refine L_ps c258 (n := 1) (pc1 := 114) (ls1 := [jR 0, jI v1, jI v2]) (st1 := [jI 0]) rfl ?_
            exact E_retZ (c258 114 rfl) (Or.inl rfl) (hQ _ _ _ hM h)
        · refine L_ps c258 (n := 1) (pc1 := 114) (ls1 := [jR 0, jI v1, jI v2]) (st1 := [jI 0]) rfl ?_
          exact E_retZ (c258 114 rfl) (Or.inl rfl) (hQ _ _ _ hM h)
      · refine L_ps c258 (n := 1) (pc1 := 114) (ls1 := [jR 0, jI v1, jI v2]) (st1 := [jI 0]) rfl ?_
        exact E_retZ (c258 114 rfl) (Or.inl rfl) (hQ _ _ _ hM h)
    · refine L_ps c258 (n := 1) (pc1 := 114) (ls1 := [jR 0, jI v1, jI v2]) (st1 := [jI 0]) rfl ?_
      exact E_retZ (c258 114 rfl) (Or.inl rfl) (hQ _ _ _ hM h)
  · refine L_ps c258 (n := 1) (pc1 := 64) (ls1 := [jR 0, jI v1, jI v2]) (st1 := [jI 0]) rfl ?_
    exact E_retZ (c258 64 rfl) (Or.inl rfl) (hQ _ _ _ hM h)
theorem k_Lw_isWhole_j39 {v1 : Int} {v2 : Int} {t0 : Int} {t1 : Int} {s : LSt} {M : JM} {P : JO → JM → Prop} {Q : Int → LSt → Prop} (hM : R2 s M) (hQ : ∀ (r : Int) (M1 : JM) (s1 : LSt), R2 s1 M1 → Q r s1 → P (.inl (some (.inl r))) M1) (h : d_Lw_isWhole_j39 v1 v2 t0 t1 s Q) : JX 258 39 [jR 0, jI v1, jI v2] [jI t1, jI t0] M P := by
  unfold d_Lw_isWhole_j39 at h
  refine L_nb (p1 := 63) (p2 := 42) (c258 39 rfl) rfl jc_ne h (fun h => ?_) (fun h => ?_)
  · refine L_ps c258 (n := 2) (pc1 := 44) (ls1 := [jR 0, jI v1, jI v2]) (st1 := [jI v1, jR 0]) rfl ?_
    refine E_oB (c258 44 rfl) (js_v rfl ((R2_ob hM).trans jt92)) rfl hM (fun Q X h => k_OB_isNormalForm hM.1 h) h (fun r9 M s10 hM h => ?_)
    refine L_ps c258 (n := 2) (pc1 := 49) (ls1 := [jR 0, jI v1, jI v2]) (st1 := [jI v1, jR 0, jI (b2i r9)]) rfl ?_
    refine E_oI (c258 49 rfl) (js_v rfl ((R2_ob hM).trans jt91)) rfl hM (fun Q X h => k_OB_outermostRedex hM.1 h) h (fun r11 M s12 hM h => ?_)
    refine L_nb (p1 := 59) (p2 := 55) (c258 52 rfl) rfl jc_ge h (fun h => ?_) (fun h => ?_)
    · refine L_ps c258 (n := 2) (pc1 := 60) (ls1 := [jR 0, jI v1, jI v2]) (st1 := [jI 1, jI (b2i r9)]) rfl ?_
      exact k_Lw_isWhole_j60 hM hQ h
    · refine L_ps c258 (n := 1) (pc1 := 60) (ls1 := [jR 0, jI v1, jI v2]) (st1 := [jI 0, jI (b2i r9)]) rfl ?_
      exact k_Lw_isWhole_j60 hM hQ h
  · refine L_ps c258 (n := 1) (pc1 := 64) (ls1 := [jR 0, jI v1, jI v2]) (st1 := [jI 0]) rfl ?_
    exact E_retZ (c258 64 rfl) (Or.inl rfl) (hQ _ _ _ hM h)
theorem k_Lw_isWhole_j18 {v1 : Int} {v2 : Int} {t0 : Int} {t1 : Int} {s : LSt} {M : JM} {P : JO → JM → Prop} {Q : Int → LSt → Prop} (hM : R2 s M) (hQ : ∀ (r : Int) (M1 : JM) (s1 : LSt), R2 s1 M1 → Q r s1 → P (.inl (some (.inl r))) M1) (h : d_Lw_isWhole_j18 v1 v2 t0 t1 s Q) : JX 258 18 [jR 0, jI v1, jI v2] [jI t1, jI t0] M P := by
  unfold d_Lw_isWhole_j18 at h
  refine L_nb (p1 := 63) (p2 := 21) (c258 18 rfl) rfl jc_ne h (fun h => ?_) (fun h => ?_)
  · refine L_ps c258 (n := 2) (pc1 := 23) (ls1 := [jR 0, jI v1, jI v2]) (st1 := [jI v1, jR 0]) rfl ?_
    refine E_oB (c258 23 rfl) (js_v rfl ((R2_ob hM).trans jt92)) rfl hM (fun Q X h => k_OB_isNormalForm hM.1 h) h (fun r5 M s6 hM h => ?_)
    refine L_ps c258 (n := 2) (pc1 := 28) (ls1 := [jR 0, jI v1, jI v2]) (st1 := [jI v1, jR 0, jI (b2i r5)]) rfl ?_
    refine E_oI (c258 28 rfl) (js_v rfl ((R2_ob hM).trans jt90)) rfl hM (fun Q X h => k_OB_innermostRedex hM.1 h) h (fun r7 M s8 hM h => ?_)
    refine L_nb (p1 := 38) (p2 := 34) (c258 31 rfl) rfl jc_ge h (fun h => ?_) (fun h => ?_)
    · refine L_ps c258 (n := 2) (pc1 := 39) (ls1 := [jR 0, jI v1, jI v2]) (st1 := [jI 1, jI (b2i r5)]) rfl ?_
      exact k_Lw_isWhole_j39 hM hQ h
    · refine L_ps c258 (n := 1) (pc1 := 39) (ls1 := [jR 0, jI v1, jI v2]) (st1 := [jI 0, jI (b2i r5)]) rfl ?_
      exact k_Lw_isWhole_j39 hM hQ h
  · refine L_ps c258 (n := 1) (pc1 := 64) (ls1 := [jR 0, jI v1, jI v2]) (st1 := [jI 0]) rfl ?_
    exact E_retZ (c258 64 rfl) (Or.inl rfl) (hQ _ _ _ hM h)
theorem k_Lw_isWhole {v1 : Int} {v2 : Int} {s : LSt} {M : JM} {Q : Int → LSt → Prop} (hM : R2 s M) (h : d_Lw_isWhole v1 v2 s Q) : JX 258 0 (jargs 258 [jR 0, jI v1, jI v2]) [] M (P2 (QI2 Q)) := by
  unfold d_Lw_isWhole at h
  show JX 258 0 [jR 0, jI v1, jI v2] [] M (P2 (QI2 Q))
  generalize hP : P2 (QI2 Q) = P
  have hQ : ∀ (r : Int) (M1 : JM) (s1 : LSt), R2 s1 M1 → Q r s1 → P (.inl (some (.inl r))) M1 := by rw [← hP]; exact fun r M1 s1 a b => ⟨s1, a, r, rfl, b⟩
  clear hP
  refine L_ps c258 (n := 2) (pc1 := 2) (ls1 := [jR 0, jI v1, jI v2]) (st1 := [jI v1, jR 0]) rfl ?_
  refine E_oB (c258 2 rfl) (js_v rfl ((R2_ob hM).trans jt92)) rfl hM (fun Q X h => k_OB_isNormalForm hM.1 h) h (fun r1 M s2 hM h => ?_)
  refine L_ps c258 (n := 2) (pc1 := 7) (ls1 := [jR 0, jI v1, jI v2]) (st1 := [jI v1, jR 0, jI (b2i r1)]) rfl ?_
  refine E_oI (c258 7 rfl) (js_v rfl ((R2_ob hM).trans jt88)) rfl hM (fun Q X h => k_OB_redexCount hM.1 h) h (fun r3 M s4 hM h => ?_)
  refine L_nb (p1 := 17) (p2 := 13) (c258 10 rfl) rfl jc_ne h (fun h => ?_) (fun h => ?_)
  · refine L_ps c258 (n := 2) (pc1 := 18) (ls1 := [jR 0, jI v1, jI v2]) (st1 := [jI 1, jI (b2i r1)]) rfl ?_
    exact k_Lw_isWhole_j18 hM hQ h
  · refine L_ps c258 (n := 1) (pc1 := 18) (ls1 := [jR 0, jI v1, jI v2]) (st1 := [jI 0, jI (b2i r1)]) rfl ?_
    exact k_Lw_isWhole_j18 hM hQ h
theorem k_Lw_sees_b33 {v1 : JV} {v2 : Int} {v3 : Int} {s : LSt} {M : JM} {P : JO → JM → Prop} {g4 : JV} {W23 : Int → LSt → Prop} {W33 : Int → LSt → Prop} {Q : LSt → Prop} (hv1 : jnl v1 = true) (hM : R2 s M) (hQ : ∀ (M1 : JM) (s1 : LSt), R2 s1 M1 → Q s1 → P (.inl none) M1) (hW23 : ∀ (v2 : Int) (g3 : JV) (g4 : JV) (M1 : JM) (s1 : LSt), jc2 g3 = false → R2 s1 M1 → W23 v2 s1 → JX 263 23 [jR 0, v1, jI v2, g3, g4] [] M1 P) (hW33 : ∀ (v3 : Int) (g4 : JV) (M1 : JM) (s1 : LSt), R2 s1 M1 → W33 v3 s1 → JX 263 33 [jR 0, v1, jI v2, jI v3, g4] [] M1 P) (h : d_Lw_sees_b33 v1 v2 v3 s W23 W33 Q) : JX 263 33 [jR 0, v1, jI v2, jI v3, g4] [] M P := by
  unfold d_Lw_sees_b33 at h
  refine L_ps c263 (n := 3) (pc1 := 36) (ls1 := [jR 0, v1, jI v2, jI v3, g4]) (st1 := [jI v2, jR 0, jI v3]) rfl ?_
  refine E_oI (c263 36 rfl) (js_v rfl ((R2_ob hM).trans jt80)) rfl hM (fun Q X h => k_OB_termSize hM.1 h) h (fun r11 M s12 hM h => ?_)
  refine L_nb (p1 := 90) (p2 := 42) (c263 39 rfl) rfl jc_ge h (fun h => ?_) (fun h => ?_)
  · refine E_aldn (c263 42 rfl) rfl hv1 ?_
    show JX 263 43 [jR 0, v1, jI v2, jI v3, g4] [v1] M P
    refine L_ps c263 (n := 4) (pc1 := 50) (ls1 := [jR 0, v1, jI v2, jI v3, g4]) (st1 := [jX (.long (Int64.ofNat 31)), jI (wr (10 + v2)), v1]) rfl ?_
    refine E_aldn (c263 50 rfl) rfl hv1 ?_
    show JX 263 51 [jR 0, v1, jI v2, jI v3, g4] [v1, jX (.long (Int64.ofNat 31)), jI (wr (10 + v2)), v1] M P
    refine L_ps c263 (n := 3) (pc1 := 55) (ls1 := [jR 0, v1, jI v2, jI v3, g4]) (st1 := [jI (wr (10 + v2)), v1, jX (.long (Int64.ofNat 31)), jI (wr (10 + v2)), v1]) rfl ?_
    obtain ⟨i13, e, g⟩ := cR_of h
    clear h
    subst e
    have h := g
    clear g
    refine E_rJ (c263 55 rfl) hM h (fun y14 h => ?_)
    refine L_ps c263 (n := 5) (pc1 := 63) (ls1 := [jR 0, jR i13, jI v2, jI v3, g4]) (st1 := [jI v3, jI v2, jR 0, jX (.long (Int64.ofNat 8)), jX (.long ((Int64.ofNat 31) * y14)), jI (wr (10 + v2)), jR i13]) rfl ?_
    refine E_oI (c263 63 rfl) (js_v rfl ((R2_ob hM).trans jt264)) rfl hM (fun Q X h => k_OB_symbolAt hM.1 h) h (fun r15 M s16 hM h => ?_)
    refine L_ps c263 (n := 8) (pc1 := 74) (ls1 := [jR 0, jR i13, jI v2, jI v3, g4]) (st1 := [jI v3, jI v2, jR 0, jX (.long (((Int64.ofNat 31) * y14) + ((Int64.ofNat 8) * ((Int32.ofInt (wr (r15 + 1))).toInt64)))), jI (wr (10 + v2)), jR i13]) rfl ?_
    refine E_oI (c263 74 rfl) (js_v rfl ((R2_ob hM).trans jt266)) rfl hM (fun Q X h => k_OB_variableAt hM.1 h) h (fun r17 M s18 hM h => ?_)
    refine L_ps c263 (n := 4) (pc1 := 83) (ls1 := [jR 0, jR i13, jI v2, jI v3, g4]) (st1 := [jX (.long (((((Int64.ofNat 31) * y14) + ((Int64.ofNat 8) * ((Int32.ofInt (wr (r15 + 1))).toInt64))) + ((Int32.ofInt r17).toInt64)) + (Int64.ofNat 2))), jI (wr (10 + v2)), jR i13]) rfl ?_
    refine E_wJ (c263 83 rfl) hM h (fun M s19 hM h => ?_)
    refine L_ps c263 (n := 2) (pc1 := 33) (ls1 := [jR 0, jR i13, jI v2, jI (wr (v3 + 1)), g4]) (st1 := []) rfl ?_
    exact hW33 _ _ _ _ hM h
  · refine L_iinc (c263 90 rfl) (jnl_c2 hv1) (Nat.le_of_ble_eq_true rfl) rfl ?_
    show JX 263 93 [jR 0, v1, jI (wr (v2 + 1)), jI v3, g4] [] M P
    refine L_ps c263 (n := 1) (pc1 := 23) (ls1 := [jR 0, v1, jI (wr (v2 + 1)), jI v3, g4]) (st1 := []) rfl ?_
    exact hW23 _ _ _ _ _ rfl hM h
theorem k_Lw_sees_l33 {v1 : JV} {v2 : Int} {v3 : Int} {s : LSt} {M : JM} {P : JO → JM → Prop} {g4 : JV} {W23 : Int → LSt → Prop} {Q : LSt → Prop} (hv1 : jnl v1 = true) (hM : R2 s M) (hQ : ∀ (M1 : JM) (s1 : LSt), R2 s1 M1 → Q s1 → P (.inl none) M1) (hW23 : ∀ (v2 : Int) (g3 : JV) (g4 : JV) (M1 : JM) (s1 : LSt), jc2 g3 = false → R2 s1 M1 → W23 v2 s1 → JX 263 23 [jR 0, v1, jI v2, g3, g4] [] M1 P) (h : d_Lw_sees_l33 v1 v2 v3 s W23 Q) : JX 263 33 [jR 0, v1, jI v2, jI v3, g4] [] M P := by
  refine h (fun v3 s => ∀ (g4 : JV) (M : JM), R2 s M → JX 263 33 [jR 0, v1, jI v2, jI v3, g4] [] M P) ?_ _ _ hM
  intro v3 s h g4 M hM
  exact k_Lw_sees_b33 hv1 hM hQ hW23 (fun v3 g4 M s hM h => h g4 M hM) h
theorem k_Lw_sees_b115 {v1 : JV} {v2 : Int} {v3 : Int} {v4 : Int} {s : LSt} {M : JM} {P : JO → JM → Prop} {W98 : Int → LSt → Prop} {W115 : Int → LSt → Prop} {Q : LSt → Prop} (hv1 : jnl v1 = true) (hM : R2 s M) (hQ : ∀ (M1 : JM) (s1 : LSt), R2 s1 M1 → Q s1 → P (.inl none) M1) (hW98 : ∀ (v2 : Int) (g3 : JV) (g4 : JV) (M1 : JM) (s1 : LSt), jc2 g3 = false → R2 s1 M1 → W98 v2 s1 → JX 263 98 [jR 0, v1, jI v2, g3, g4] [] M1 P) (hW115 : ∀ (v4 : Int) (M1 : JM) (s1 : LSt), R2 s1 M1 → W115 v4 s1 → JX 263 115 [jR 0, v1, jI v2, jI v3, jI v4] [] M1 P) (h : d_Lw_sees_b115 v1 v2 v3 v4 s W98 W115 Q) : JX 263 115 [jR 0, v1, jI v2, jI v3, jI v4] [] M P := by
  unfold d_Lw_sees_b115 at h
  refine L_ps c263 (n := 2) (pc1 := 118) (ls1 := [jR 0, v1, jI v2, jI v3, jI v4]) (st1 := [jI v3, jI v4]) rfl ?_
  refine L_nb (p1 := 151) (p2 := 121) (c263 118 rfl) rfl jc_ge h (fun h => ?_) (fun h => ?_)
  · refine E_aldn (c263 121 rfl) rfl hv1 ?_
    show JX 263 122 [jR 0, v1, jI v2, jI v3, jI v4] [v1] M P
    refine L_ps c263 (n := 4) (pc1 := 129) (ls1 := [jR 0, v1, jI v2, jI v3, jI v4]) (st1 := [jX (.long (Int64.ofNat 31)), jI (wr (20 + v2)), v1]) rfl ?_
    refine E_aldn (c263 129 rfl) rfl hv1 ?_
    show JX 263 130 [jR 0, v1, jI v2, jI v3, jI v4] [v1, jX (.long (Int64.ofNat 31)), jI (wr (20 + v2)), v1] M P
    refine L_ps c263 (n := 3) (pc1 := 134) (ls1 := [jR 0, v1, jI v2, jI v3, jI v4]) (st1 := [jI (wr (20 + v2)), v1, jX (.long (Int64.ofNat 31)), jI (wr (20 + v2)), v1]) rfl ?_
    obtain ⟨i24, e, g⟩ := cR_of h
    clear h
    subst e
    have h := g
    clear g
    refine E_rJ (c263 134 rfl) hM h (fun y25 h => ?_)
    refine L_ps c263 (n := 3) (pc1 := 139) (ls1 := [jR 0, jR i24, jI v2, jI v3, jI v4]) (st1 := [jI v4, jR 0, jX (.long ((Int64.ofNat 31) * y25)), jI (wr (20 + v2)), jR i24]) rfl ?_
    refine E_oI (c263 139 rfl) (js_v rfl ((R2_ob hM).trans jt272)) rfl hM (fun Q X h => k_OB_outputByte hM.1 h) h (fun r26 M s27 hM h => ?_)
    refine L_ps c263 (n := 2) (pc1 := 144) (ls1 := [jR 0, jR i24, jI v2, jI v3, jI v4]) (st1 := [jX (.long (((Int64.ofNat 31) * y25) + ((Int32.ofInt r26).toInt64))), jI (wr (20 + v2)), jR i24]) rfl ?_
    refine E_wJ (c263 144 rfl) hM h (fun M s28 hM h => ?_)
    refine L_ps c263 (n := 2) (pc1 := 115) (ls1 := [jR 0, jR i24, jI v2, jI v3, jI (wr (v4 + 1))]) (st1 := []) rfl ?_
    exact hW115 _ _ _ hM h
  · refine L_iinc (c263 151 rfl) (jnl_c2 hv1) (Nat.le_of_ble_eq_true rfl) rfl ?_
    show JX 263 154 [jR 0, v1, jI (wr (v2 + 1)), jI v3, jI v4] [] M P
    refine L_ps c263 (n := 1) (pc1 := 98) (ls1 := [jR 0, v1, jI (wr (v2 + 1)), jI v3, jI v4]) (st1 := []) rfl ?_
    exact hW98 _ _ _ _ _ rfl hM h
theorem k_Lw_sees_l115 {v1 : JV} {v2 : Int} {v3 : Int} {v4 : Int} {s : LSt} {M : JM} {P : JO → JM → Prop} {W98 : Int → LSt → Prop} {Q : LSt → Prop} (hv1 : jnl v1 = true) (hM : R2 s M) (hQ : ∀ (M1 : JM) (s1 : LSt), R2 s1 M1 → Q s1 → P (.inl none) M1) (hW98 : ∀ (v2 : Int) (g3 : JV) (g4 : JV) (M1 : JM) (s1 : LSt), jc2 g3 = false → R2 s1 M1 → W98 v2 s1 → JX 263 98 [jR 0, v1, jI v2, g3, g4] [] M1 P) (h : d_Lw_sees_l115 v1 v2 v3 v4 s W98 Q) : JX 263 115 [jR 0, v1, jI v2, jI v3, jI v4] [] M P := by
  refine h (fun v4 s => ∀ (M : JM), R2 s M → JX 263 115 [jR 0, v1, jI v2, jI v3, jI v4] [] M P) ?_ _ hM
  intro v4 s h M hM
  exact k_Lw_sees_b115 hv1 hM hQ hW98 (fun v4 M s hM h => h M hM) h
theorem k_Lw_sees_b98 {v1 : JV} {v2 : Int} {s : LSt} {M : JM} {P : JO → JM → Prop} {g3 : JV} {g4 : JV} {W98 : Int → LSt → Prop} {Q : LSt → Prop} (hg3 : jc2 g3 = false) (hv1 : jnl v1 = true) (hM : R2 s M) (hQ : ∀ (M1 : JM) (s1 : LSt), R2 s1 M1 → Q s1 → P (.inl none) M1) (hW98 : ∀ (v2 : Int) (g3 : JV) (g4 : JV) (M1 : JM) (s1 : LSt), jc2 g3 = false → R2 s1 M1 → W98 v2 s1 → JX 263 98 [jR 0, v1, jI v2, g3, g4] [] M1 P) (h : d_Lw_sees_b98 v1 v2 s W98 Q) : JX 263 98 [jR 0, v1, jI v2, g3, g4] [] M P := by
  unfold d_Lw_sees_b98 at h
  refine L_ps c263 (n := 2) (pc1 := 100) (ls1 := [jR 0, v1, jI v2, g3, g4]) (st1 := [jR 0, jI v2]) rfl ?_
  refine E_oI (c263 100 rfl) (js_v rfl ((R2_ob hM).trans jt77)) rfl hM (fun Q X h => k_OB_ruleCount hM.1 h) h (fun r20 M s21 hM h => ?_)
  refine L_nb (p1 := 157) (p2 := 106) (c263 103 rfl) rfl jc_ge h (fun h => ?_) (fun h => ?_)
  · refine L_ps c263 (n := 2) (pc1 := 108) (ls1 := [jR 0, v1, jI v2, g3, g4]) (st1 := [jI v2, jR 0]) rfl ?_
    refine E_oI (c263 108 rfl) (js_v rfl ((R2_ob hM).trans jt267)) rfl hM (fun Q X h => k_OB_writeRule hM.1 h) h (fun r22 M s23 hM h => ?_)
    refine L_ps c263 (n := 3) (pc1 := 115) (ls1 := [jR 0, v1, jI v2, jI r22, jI 0]) (st1 := []) rfl ?_
    exact k_Lw_sees_l115 hv1 hM hQ hW98 h
  · exact L_end (c263 157 rfl) rfl (hQ _ _ hM h)
theorem k_Lw_sees_l98 {v1 : JV} {v2 : Int} {s : LSt} {M : JM} {P : JO → JM → Prop} {g3 : JV} {g4 : JV} {Q : LSt → Prop} (hg3 : jc2 g3 = false) (hv1 : jnl v1 = true) (hM : R2 s M) (hQ : ∀ (M1 : JM) (s1 : LSt), R2 s1 M1 → Q s1 → P (.inl none) M1) (h : d_Lw_sees_l98 v1 v2 s Q) : JX 263 98 [jR 0, v1, jI v2, g3, g4] [] M P := by
  refine h (fun v2 s => ∀ (g3 : JV) (g4 : JV) (M : JM), jc2 g3 = false → R2 s M → JX 263 98 [jR 0, v1, jI v2, g3, g4] [] M P) ?_ _ _ _ hg3 hM
  intro v2 s h g3 g4 M hg3 hM
  exact k_Lw_sees_b98 hg3 hv1 hM hQ (fun v2 g3 g4 M s hg3 hM h => h g3 g4 M hg3 hM) h
theorem k_Lw_sees_b23 {v1 : JV} {v2 : Int} {s : LSt} {M : JM} {P : JO → JM → Prop} {g3 : JV} {g4 : JV} {W23 : Int → LSt → Prop} {Q : LSt → Prop} (hg3 : jc2 g3 = false) (hv1 : jnl v1 = true) (hM : R2 s M) (hQ : ∀ (M1 : JM) (s1 : LSt), R2 s1 M1 → Q s1 → P (.inl none) M1) (hW23 : ∀ (v2 : Int) (g3 : JV) (g4 : JV) (M1 : JM) (s1 : LSt), jc2 g3 = false → R2 s1 M1 → W23 v2 s1 → JX 263 23 [jR 0, v1, jI v2, g3, g4] [] M1 P) (h : d_Lw_sees_b23 v1 v2 s W23 Q) : JX 263 23 [jR 0, v1, jI v2, g3, g4] [] M P := by
  unfold d_Lw_sees_b23 at h
  refine L_ps c263 (n := 2) (pc1 := 25) (ls1 := [jR 0, v1, jI v2, g3, g4]) (st1 := [jR 0, jI v2]) rfl ?_
  refine E_oI (c263 25 rfl) (js_v rfl ((R2_ob hM).trans jt79)) rfl hM (fun Q X h => k_OB_termCount hM.1 h) h (fun r9 M s10 hM h => ?_)
  refine L_nb (p1 := 96) (p2 := 31) (c263 28 rfl) rfl jc_ge h (fun h => ?_) (fun h => ?_)
  · refine L_ps c263 (n := 2) (pc1 := 33) (ls1 := [jR 0, v1, jI v2, jI 0, g4]) (st1 := []) rfl ?_
    exact k_Lw_sees_l33 hv1 hM hQ hW23 h
  · refine L_ps c263 (n := 1) (pc1 := 97) (ls1 := [jR 0, v1, jI v2, g3, g4]) (st1 := [jI 0]) rfl ?_
    refine L_istn (c263 97 rfl) (jnl_c2 hv1) (Nat.le_of_ble_eq_true rfl) ?_
    show JX 263 98 [jR 0, v1, jI 0, g3, g4] [] M P
    exact k_Lw_sees_l98 hg3 hv1 hM hQ h
theorem k_Lw_sees_l23 {v1 : JV} {v2 : Int} {s : LSt} {M : JM} {P : JO → JM → Prop} {g3 : JV} {g4 : JV} {Q : LSt → Prop} (hg3 : jc2 g3 = false) (hv1 : jnl v1 = true) (hM : R2 s M) (hQ : ∀ (M1 : JM) (s1 : LSt), R2 s1 M1 → Q s1 → P (.inl none) M1) (h : d_Lw_sees_l23 v1 v2 s Q) : JX 263 23 [jR 0, v1, jI v2, g3, g4] [] M P := by
  refine h (fun v2 s => ∀ (g3 : JV) (g4 : JV) (M : JM), jc2 g3 = false → R2 s M → JX 263 23 [jR 0, v1, jI v2, g3, g4] [] M P) ?_ _ _ _ hg3 hM
  intro v2 s h g3 g4 M hg3 hM
  exact k_Lw_sees_b23 hg3 hv1 hM hQ (fun v2 g3 g4 M s hg3 hM h => h g3 g4 M hg3 hM) h
theorem k_Lw_sees {v1 : JV} {s : LSt} {M : JM} {Q : LSt → Prop} (hv1 : jnl v1 = true) (hM : R2 s M) (h : d_Lw_sees v1 s Q) : JX 263 0 (jargs 263 [jR 0, v1]) [] M (P2 (QN2 Q)) := by
  unfold d_Lw_sees at h
  show JX 263 0 [jR 0, v1, jU, jU, jU] [] M (P2 (QN2 Q))
  generalize hP : P2 (QN2 Q) = P
  have hQ : ∀ (M1 : JM) (s1 : LSt), R2 s1 M1 → Q s1 → P (.inl none) M1 := by rw [← hP]; exact fun M1 s1 a b => ⟨s1, a, rfl, b⟩
  clear hP
  refine E_aldn (c263 0 rfl) rfl hv1 ?_
  show JX 263 1 [jR 0, v1, jU, jU, jU] [v1] M P
  refine L_ps c263 (n := 1) (pc1 := 2) (ls1 := [jR 0, v1, jU, jU, jU]) (st1 := [jX (.long (Int64.ofNat 0)), v1]) rfl ?_
  obtain ⟨i1, e, g⟩ := cR_of h
  clear h
  subst e
  have h := g
  clear g
  refine E_aF (c263 2 rfl) hM h (fun M s2 hM h => ?_)
  refine L_ps c263 (n := 3) (pc1 := 8) (ls1 := [jR 0, jR i1, jU, jU, jU]) (st1 := [jR 0, jI 0, jR i1]) rfl ?_
  refine E_oI (c263 8 rfl) (js_v rfl ((R2_ob hM).trans jt77)) rfl hM (fun Q X h => k_OB_ruleCount hM.1 h) h (fun r3 M s4 hM h => ?_)
  refine L_ps c263 (n := 1) (pc1 := 12) (ls1 := [jR 0, jR i1, jU, jU, jU]) (st1 := [jX (.long ((Int32.ofInt r3).toInt64)), jI 0, jR i1]) rfl ?_
  refine E_wJ (c263 12 rfl) hM h (fun M s5 hM h => ?_)
  refine L_ps c263 (n := 3) (pc1 := 16) (ls1 := [jR 0, jR i1, jU, jU, jU]) (st1 := [jR 0, jI 1, jR i1]) rfl ?_
  refine E_oI (c263 16 rfl) (js_v rfl ((R2_ob hM).trans jt79)) rfl hM (fun Q X h => k_OB_termCount hM.1 h) h (fun r6 M s7 hM h => ?_)
  refine L_ps c263 (n := 1) (pc1 := 20) (ls1 := [jR 0, jR i1, jU, jU, jU]) (st1 := [jX (.long ((Int32.ofInt r6).toInt64)), jI 1, jR i1]) rfl ?_
  refine E_wJ (c263 20 rfl) hM h (fun M s8 hM h => ?_)
  refine L_ps c263 (n := 2) (pc1 := 23) (ls1 := [jR 0, jR i1, jI 0, jU, jU]) (st1 := []) rfl ?_
  exact k_Lw_sees_l23 rfl rfl hM hQ h
set_option maxRecDepth 100000 in
set_option maxHeartbeats 4000000 in
theorem k_Lw_law_j702 {v5 : JV} {v6 : JV} {v7 : Int} {s : LSt} {M : JM} {P : JO → JM → Prop} {g2 : JV} {g3 : JV} {g4 : JV} {g8 : JV} {g9 : JV} {g10 : JV} {g11 : JV} {g12 : JV} {g13 : JV} {g14 : JV} {g15 : JV} {W68 : Int → LSt → Prop} {Q : Int → LSt → Prop} (hg2 : jc2 g2 = false) (hg3 : jc2 g3 = false) (hg4 : jc2 g4 = false) (hg8 : jc2 g8 = false) (hg9 : jc2 g9 = false) (hg10 : jc2 g10 = false) (hg11 : jc2 g11 = false) (hg12 : jc2 g12 = false) (hg13 : jc2 g13 = false) (hg14 : jc2 g14 = false) (hv5 : jnl v5 = true) (hv6 : jnl v6 = true) (hM : R2 s M) (hQ : ∀ (r : Int) (M1 : JM) (s1 : LSt), R2 s1 M1 → Q r s1 → P (.inl (some (.inl r))) M1) (hW68 : ∀ (v7 : Int) (g2 : JV) (g3 : JV) (g4 : JV) (g8 : JV) (g9 : JV) (g10 : JV) (g11 : JV) (g12 : JV) (g13 : JV) (g14 : JV) (g15 : JV) (M1 : JM) (s1 : LSt), jc2 g2 = false → jc2 g3 = false → jc2 g4 = false → jc2 g8 = false → jc2 g9 = false → jc2 g10 = false → jc2 g11 = false → jc2 g12 = false → jc2 g13 = false → jc2 g14 = false → R2 s1 M1 → W68 v7 s1 → JX 274 68 [jR 1000000, jR 0, g2, g3, g4, v5, v6, jI v7, g8, g9, g10, g11, g12, g13, g14, g15] [] M1 P) (h : d_Lw_law_j702 v5 v6 v7 s W68 Q) : JX 274 702 [jR 1000000, jR 0, g2, g3, g4, v5, v6, jI v7, g8, g9, g10, g11, g12, g13, g14, g15] [] M P := by
  unfold d_Lw_law_j702 at h
  refine L_iinc (c274 702 rfl) (jnl_c2 hv6) (Nat.le_of_ble_eq_true rfl) rfl ?_
  show JX 274 705 [jR 1000000, jR 0, g2, g3, g4, v5, v6, jI (wr (v7 + 1)), g8, g9, g10, g11, g12, g13, g14, g15] [] M P
  refine L_ps c274 (n := 1) (pc1 := 68) (ls1 := [jR 1000000, jR 0, g2, g3, g4, v5, v6, jI (wr (v7 + 1)), g8, g9, g10, g11, g12, g13, g14, g15]) (st1 := []) rfl ?_
  exact hW68 _ _ _ _ _ _ _ _ _ _ _ _ _ _ hg2 hg3 hg4 hg8 hg9 hg10 hg11 hg12 hg13 hg14 hM h
set_option maxRecDepth 100000 in
set_option maxHeartbeats 4000000 in
theorem k_Lw_law_j650 {v5 : JV} {v6 : JV} {v7 : Int} {v8 : Int} {v9 : Int} {s : LSt} {M : JM} {P : JO → JM → Prop} {g2 : JV} {g3 : JV} {g4 : JV} {g10 : JV} {g11 : JV} {g12 : JV} {g13 : JV} {g14 : JV} {g15 : JV} {W68 : Int → LSt → Prop} {Q : Int → LSt → Prop} (hg2 : jc2 g2 = false) (hg3 : jc2 g3 = false) (hg4 : jc2 g4 = false) (hg10 : jc2 g10 = false) (hg11 : jc2 g11 = false) (hg12 : jc2 g12 = false) (hg13 : jc2 g13 = false) (hg14 : jc2 g14 = false) (hv5 : jnl v5 = true) (hv6 : jnl v6 = true) (hM : R2 s M) (hQ : ∀ (r : Int) (M1 : JM) (s1 : LSt), R2 s1 M1 → Q r s1 → P (.inl (some (.inl r))) M1) (hW68 : ∀ (v7 : Int) (g2 : JV) (g3 : JV) (g4 : JV) (g8 : JV) (g9 : JV) (g10 : JV) (g11 : JV) (g12 : JV) (g13 : JV) (g14 : JV) (g15 : JV) (M1 : JM) (s1 : LSt), jc2 g2 = false → jc2 g3 = false → jc2 g4 = false → jc2 g8 = false → jc2 g9 = false → jc2 g10 = false → jc2 g11 = false → jc2 g12 = false → jc2 g13 = false → jc2 g14 = false → R2 s1 M1 → W68 v7 s1 → JX 274 68 [jR 1000000, jR 0, g2, g3, g4, v5, v6, jI v7, g8, g9, g10, g11, g12, g13, g14, g15] [] M1 P) (h : d_Lw_law_j650 v5 v6 v7 v8 v9 s W68 Q) : JX 274 650 [jR 1000000, jR 0, g2, g3, g4, v5, v6, jI v7, jI v8, jI v9, g10, g11, g12, g13, g14, g15] [] M P := by
  unfold d_Lw_law_j650 at h
  refine L_ps c274 (n := 5) (pc1 := 657) (ls1 := [jR 1000000, jR 0, g2, g3, g4, v5, v6, jI v7, jI v8, jI v9, g10, g11, g12, g13, g14, g15]) (st1 := [jI (jand (jushr v8 25) 3)]) rfl ?_
  refine L_nb (p1 := 702) (p2 := 660) (c274 657 rfl) rfl jc_ne h (fun h => ?_) (fun h => ?_)
  · refine L_ps c274 (n := 2) (pc1 := 663) (ls1 := [jR 1000000, jR 0, g2, g3, g4, v5, v6, jI v7, jI v8, jI v9, g10, g11, g12, g13, g14, g15]) (st1 := [jI v9, jR 0]) rfl ?_
    refine E_oI (c274 663 rfl) (js_v rfl ((R2_ob hM).trans jt146)) rfl hM (fun Q X h => k_OB_restoreState hM.1 h) h (fun r42 M s43 hM h => ?_)
    refine L_ps c274 (n := 1) (pc1 := 667) (ls1 := [jR 1000000, jR 0, g2, g3, g4, v5, v6, jI v7, jI v8, jI v9, g10, g11, g12, g13, g14, g15]) (st1 := [jX (.long ((Int32.ofInt r42).toInt64))]) rfl ?_
    refine E_ald (c274 667 rfl) rfl hv5 ?_
    show JX 274 669 [jR 1000000, jR 0, g2, g3, g4, v5, v6, jI v7, jI v8, jI v9, g10, g11, g12, g13, g14, g15] [v5, jX (.long ((Int32.ofInt r42).toInt64))] M P
    refine L_ps c274 (n := 1) (pc1 := 670) (ls1 := [jR 1000000, jR 0, g2, g3, g4, v5, v6, jI v7, jI v8, jI v9, g10, g11, g12, g13, g14, g15]) (st1 := [jI 1, v5, jX (.long ((Int32.ofInt r42).toInt64))]) rfl ?_
    obtain ⟨i44, e, g⟩ := cR_of h
    clear h
    subst e
    have h := g
    clear g
    refine E_rJ (c274 670 rfl) hM h (fun y45 h => ?_)
    refine L_ps c274 (n := 1) (pc1 := 672) (ls1 := [jR 1000000, jR 0, g2, g3, g4, jR i44, v6, jI v7, jI v8, jI v9, g10, g11, g12, g13, g14, g15]) (st1 := [jI ((lg_cmp ((Int32.ofInt r42).toInt64) y45).toInt)]) rfl ?_
    refine L_nb (p1 := 682) (p2 := 675) (c274 672 rfl) rfl jc_ne h (fun h => ?_) (fun h => ?_)
    · refine L_ps c274 (n := 1) (pc1 := 676) (ls1 := [jR 1000000, jR 0, g2, g3, g4, jR i44, v6, jI v7, jI v8, jI v9, g10, g11, g12, g13, g14, g15]) (st1 := [jR 0]) rfl ?_
      refine E_opI (c274 676 rfl) (js_v rfl ((R2_ob hM).trans jt144)) rfl hM (fun Q X h => PO_w (k_OB_undoCount hM.1 h)) h (fun r46 M hM h => ?_)
      refine L_br (p1 := 684) (p2 := 682) (c274 679 rfl) rfl jc_eq h (fun h => ?_) (fun h => ?_)
      · refine L_ps c274 (n := 1) (pc1 := 685) (ls1 := [jR 1000000, jR 0, g2, g3, g4, jR i44, v6, jI v7, jI v8, jI v9, g10, g11, g12, g13, g14, g15]) (st1 := [jR 0]) rfl ?_
        refine E_ald (c274 685 rfl) rfl hv6 ?_
        show JX 274 687 [jR 1000000, jR 0, g2, g3, g4, jR i44, v6, jI v7, jI v8, jI v9, g10, g11, g12, g13, g14, g15] [v6, jR 0] M P
        refine E_cN (pc1 := 690) (c274 687 rfl) (js_t (show ssplit 2 [v6, jR 0] = some ([jR 0, v6], []) from ss_v (A := [v6, jR 0]) (B := []) rfl (al_c (jnl_c2 hv6) (al_c rfl al_n)) (Nat.le_of_ble_eq_true rfl))) rfl (k_Lw_sees hv6 hM h) (fun M s47 hM h => ?_)
        refine L_ps c274 (n := 1) (pc1 := 692) (ls1 := [jR 1000000, jR 0, g2, g3, g4, jR i44, v6, jI v7, jI v8, jI v9, g10, g11, g12, g13, g14, g15]) (st1 := [jR i44]) rfl ?_
        refine E_ald (c274 692 rfl) rfl hv6 ?_
        show JX 274 694 [jR 1000000, jR 0, g2, g3, g4, jR i44, v6, jI v7, jI v8, jI v9, g10, g11, g12, g13, g14, g15] [v6, jR i44] M P
        obtain ⟨i49, e, g⟩ := cR_of h
        clear h
        subst e
        have h := g
        clear g
        refine E_aS (c274 694 rfl) hM h (fun h => ?_)
        rw [if_neg (by decide)] at h
        refine L_ps c274 (n := 1) (pc1 := 702) (ls1 := [jR 1000000, jR 0, g2, g3, g4, jR i44, jR i49, jI v7, jI v8, jI v9, g10, g11, g12, g13, g14, g15]) (st1 := []) rfl ?_
        exact k_Lw_law_j702 hg2 hg3 hg4 rfl rfl hg10 hg11 hg12 hg13 hg14 rfl rfl hM hQ hW68 h
      · refine L_ps c274 (n := 1) (pc1 := 683) (ls1 := [jR 1000000, jR 0, g2, g3, g4, jR i44, v6, jI v7, jI v8, jI v9, g10, g11, g12, g13, g14, g15]) (st1 := [jI 0]) rfl ?_
        exact E_retZ (c274 683 rfl) (Or.inl rfl) (hQ _ _ _ hM h)
    · refine L_ps c274 (n := 1) (pc1 := 683) (ls1 := [jR 1000000, jR 0, g2, g3, g4, jR i44, v6, jI v7, jI v8, jI v9, g10, g11, g12, g13, g14, g15]) (st1 := [jI 0]) rfl ?_
      exact E_retZ (c274 683 rfl) (Or.inl rfl) (hQ _ _ _ hM h)
  · exact k_Lw_law_j702 hg2 hg3 hg4 rfl rfl hg10 hg11 hg12 hg13 hg14 hv5 hv6 hM hQ hW68 h
set_option maxRecDepth 100000 in
set_option maxHeartbeats 4000000 in
theorem k_Lw_law_j250 {v5 : JV} {v6 : JV} {v7 : Int} {v8 : Int} {v9 : Int} {s : LSt} {M : JM} {P : JO → JM → Prop} {g2 : JV} {g3 : JV} {g4 : JV} {g10 : JV} {g11 : JV} {g12 : JV} {g13 : JV} {g14 : JV} {g15 : JV} {W68 : Int → LSt → Prop} {Q : Int → LSt → Prop} (hg2 : jc2 g2 = false) (hg3 : jc2 g3 = false) (hg4 : jc2 g4 = false) (hg10 : jc2 g10 = false) (hg11 : jc2 g11 = false) (hg12 : jc2 g12 = false) (hg13 : jc2 g13 = false) (hg14 : jc2 g14 = false) (hv5 : jnl v5 = true) (hv6 : jnl v6 = true) (hM : R2 s M) (hQ : ∀ (r : Int) (M1 : JM) (s1 : LSt), R2 s1 M1 → Q r s1 → P (.inl (some (.inl r))) M1) (hW68 : ∀ (v7 : Int) (g2 : JV) (g3 : JV) (g4 : JV) (g8 : JV) (g9 : JV) (g10 : JV) (g11 : JV) (g12 : JV) (g13 : JV) (g14 : JV) (g15 : JV) (M1 : JM) (s1 : LSt), jc2 g2 = false → jc2 g3 = false → jc2 g4 = false → jc2 g8 = false → jc2 g9 = false → jc2 g10 = false → jc2 g11 = false → jc2 g12 = false → jc2 g13 = false → jc2 g14 = false → R2 s1 M1 → W68 v7 s1 → JX 274 68 [jR 1000000, jR 0, g2, g3, g4, v5, v6, jI v7, g8, g9, g10, g11, g12, g13, g14, g15] [] M1 P) (h : d_Lw_law_j250 v5 v6 v7 v8 v9 s W68 Q) : JX 274 250 [jR 1000000, jR 0, g2, g3, g4, v5, v6, jI v7, jI v8, jI v9, g10, g11, g12, g13, g14, g15] [] M P := by
  unfold d_Lw_law_j250 at h
  refine L_ps c274 (n := 1) (pc1 := 650) (ls1 := [jR 1000000, jR 0, g2, g3, g4, v5, v6, jI v7, jI v8, jI v9, g10, g11, g12, g13, g14, g15]) (st1 := []) rfl ?_
  exact k_Lw_law_j650 hg2 hg3 hg4 hg10 hg11 hg12 hg13 hg14 hv5 hv6 hM hQ hW68 h
set_option maxRecDepth 100000 in
set_option maxHeartbeats 4000000 in
theorem k_Lw_law_j331 {v5 : JV} {v6 : JV} {v7 : Int} {v8 : Int} {v9 : Int} {s : LSt} {M : JM} {P : JO → JM → Prop} {g2 : JV} {g3 : JV} {g4 : JV} {g10 : JV} {g11 : JV} {g12 : JV} {g13 : JV} {g14 : JV} {g15 : JV} {W68 : Int → LSt → Prop} {Q : Int → LSt → Prop} (hg2 : jc2 g2 = false) (hg3 : jc2 g3 = false) (hg4 : jc2 g4 = false) (hg10 : jc2 g10 = false) (hg11 : jc2 g11 = false) (hg12 : jc2 g12 = false) (hg13 : jc2 g13 = false) (hg14 : jc2 g14 = false) (hv5 : jnl v5 = true) (hv6 : jnl v6 = true) (hM : R2 s M) (hQ : ∀ (r : Int) (M1 : JM) (s1 : LSt), R2 s1 M1 → Q r s1 → P (.inl (some (.inl r))) M1) (hW68 : ∀ (v7 : Int) (g2 : JV) (g3 : JV) (g4 : JV) (g8 : JV) (g9 : JV) (g10 : JV) (g11 : JV) (g12 : JV) (g13 : JV) (g14 : JV) (g15 : JV) (M1 : JM) (s1 : LSt), jc2 g2 = false → jc2 g3 = false → jc2 g4 = false → jc2 g8 = false → jc2 g9 = false → jc2 g10 = false → jc2 g11 = false → jc2 g12 = false → jc2 g13 = false → jc2 g14 = false → R2 s1 M1 → W68 v7 s1 → JX 274 68 [jR 1000000, jR 0, g2, g3, g4, v5, v6, jI v7, g8, g9, g10, g11, g12, g13, g14, g15] [] M1 P) (h : d_Lw_law_j331 v5 v6 v7 v8 v9 s W68 Q) : JX 274 331 [jR 1000000, jR 0, g2, g3, g4, v5, v6, jI v7, jI v8, jI v9, g10, g11, g12, g13, g14, g15] [] M P := by
  unfold d_Lw_law_j331 at h
  refine L_ps c274 (n := 1) (pc1 := 650) (ls1 := [jR 1000000, jR 0, g2, g3, g4, v5, v6, jI v7, jI v8, jI v9, g10, g11, g12, g13, g14, g15]) (st1 := []) rfl ?_
  exact k_Lw_law_j650 hg2 hg3 hg4 hg10 hg11 hg12 hg13 hg14 hv5 hv6 hM hQ hW68 h
set_option maxRecDepth 100000 in
set_option maxHeartbeats 4000000 in
theorem k_Lw_law_j308 {v5 : JV} {v6 : JV} {v7 : Int} {v8 : Int} {v9 : Int} {v10 : Int} {v14 : Int} {s : LSt} {M : JM} {P : JO → JM → Prop} {g2 : JV} {g3 : JV} {g4 : JV} {g11 : JV} {g12 : JV} {g13 : JV} {g15 : JV} {W68 : Int → LSt → Prop} {Q : Int → LSt → Prop} (hg2 : jc2 g2 = false) (hg3 : jc2 g3 = false) (hg4 : jc2 g4 = false) (hg11 : jc2 g11 = false) (hg12 : jc2 g12 = false) (hg13 : jc2 g13 = false) (hv5 : jnl v5 = true) (hv6 : jnl v6 = true) (hM : R2 s M) (hQ : ∀ (r : Int) (M1 : JM) (s1 : LSt), R2 s1 M1 → Q r s1 → P (.inl (some (.inl r))) M1) (hW68 : ∀ (v7 : Int) (g2 : JV) (g3 : JV) (g4 : JV) (g8 : JV) (g9 : JV) (g10 : JV) (g11 : JV) (g12 : JV) (g13 : JV) (g14 : JV) (g15 : JV) (M1 : JM) (s1 : LSt), jc2 g2 = false → jc2 g3 = false → jc2 g4 = false → jc2 g8 = false → jc2 g9 = false → jc2 g10 = false → jc2 g11 = false → jc2 g12 = false → jc2 g13 = false → jc2 g14 = false → R2 s1 M1 → W68 v7 s1 → JX 274 68 [jR 1000000, jR 0, g2, g3, g4, v5, v6, jI v7, g8, g9, g10, g11, g12, g13, g14, g15] [] M1 P) (h : d_Lw_law_j308 v5 v6 v7 v8 v9 v10 v14 s W68 Q) : JX 274 308 [jR 1000000, jR 0, g2, g3, g4, v5, v6, jI v7, jI v8, jI v9, jI v10, g11, g12, g13, jI v14, g15] [] M P := by
  unfold d_Lw_law_j308 at h
  refine L_ps c274 (n := 1) (pc1 := 310) (ls1 := [jR 1000000, jR 0, g2, g3, g4, v5, v6, jI v7, jI v8, jI v9, jI v10, g11, g12, g13, jI v14, g15]) (st1 := [jI v14]) rfl ?_
  refine L_br (p1 := 331) (p2 := 313) (c274 310 rfl) rfl jc_lt h (fun h => ?_) (fun h => ?_)
  · exact k_Lw_law_j331 hg2 hg3 hg4 rfl hg11 hg12 hg13 rfl hv5 hv6 hM hQ hW68 h
  · refine L_ps c274 (n := 2) (pc1 := 317) (ls1 := [jR 1000000, jR 0, g2, g3, g4, v5, v6, jI v7, jI v8, jI v9, jI v10, g11, g12, g13, jI v14, g15]) (st1 := [jI 12, jI v14]) rfl ?_
    refine L_nb (p1 := 331) (p2 := 320) (c274 317 rfl) rfl jc_ge h (fun h => ?_) (fun h => ?_)
    · refine L_ps c274 (n := 2) (pc1 := 323) (ls1 := [jR 1000000, jR 0, g2, g3, g4, v5, v6, jI v7, jI v8, jI v9, jI v10, g11, g12, g13, jI v14, g15]) (st1 := [jI v10, jR 0]) rfl ?_
      refine E_oB (c274 323 rfl) (js_v rfl ((R2_ob hM).trans jt92)) rfl hM (fun Q X h => k_OB_isNormalForm hM.1 h) h (fun r64 M s65 hM h => ?_)
      refine L_br (p1 := 331) (p2 := 329) (c274 326 rfl) rfl jc_neb h (fun h => ?_) (fun h => ?_)
      · exact k_Lw_law_j331 hg2 hg3 hg4 rfl hg11 hg12 hg13 rfl hv5 hv6 hM hQ hW68 h
      · refine L_ps c274 (n := 1) (pc1 := 330) (ls1 := [jR 1000000, jR 0, g2, g3, g4, v5, v6, jI v7, jI v8, jI v9, jI v10, g11, g12, g13, jI v14, g15]) (st1 := [jI 0]) rfl ?_
        exact E_retZ (c274 330 rfl) (Or.inl rfl) (hQ _ _ _ hM h)
    · exact k_Lw_law_j331 hg2 hg3 hg4 rfl hg11 hg12 hg13 rfl hv5 hv6 hM hQ hW68 h
set_option maxRecDepth 100000 in
set_option maxHeartbeats 4000000 in
theorem k_Lw_law_b271 {v5 : JV} {v6 : JV} {v7 : Int} {v8 : Int} {v9 : Int} {v10 : Int} {v14 : Int} {v15 : Int} {s : LSt} {M : JM} {P : JO → JM → Prop} {g2 : JV} {g3 : JV} {g4 : JV} {g11 : JV} {g12 : JV} {g13 : JV} {W68 : Int → LSt → Prop} {W271 : Int → LSt → Prop} {Q : Int → LSt → Prop} (hg2 : jc2 g2 = false) (hg3 : jc2 g3 = false) (hg4 : jc2 g4 = false) (hg11 : jc2 g11 = false) (hg12 : jc2 g12 = false) (hg13 : jc2 g13 = false) (hv5 : jnl v5 = true) (hv6 : jnl v6 = true) (hM : R2 s M) (hQ : ∀ (r : Int) (M1 : JM) (s1 : LSt), R2 s1 M1 → Q r s1 → P (.inl (some (.inl r))) M1) (hW68 : ∀ (v7 : Int) (g2 : JV) (g3 : JV) (g4 : JV) (g8 : JV) (g9 : JV) (g10 : JV) (g11 : JV) (g12 : JV) (g13 : JV) (g14 : JV) (g15 : JV) (M1 : JM) (s1 : LSt), jc2 g2 = false → jc2 g3 = false → jc2 g4 = false → jc2 g8 = false → jc2 g9 = false → jc2 g10 = false → jc2 g11 = false → jc2 g12 = false → jc2 g13 = false → jc2 g14 = false → R2 s1 M1 → W68 v7 s1 → JX 274 68 [jR 1000000, jR 0, g2, g3, g4, v5, v6, jI v7, g8, g9, g10, g11, g12, g13, g14, g15] [] M1 P) (hW271 : ∀ (v15 : Int) (g2 : JV) (g3 : JV) (g4 : JV) (g11 : JV) (g12 : JV) (g13 : JV) (M1 : JM) (s1 : LSt), jc2 g2 = false → jc2 g3 = false → jc2 g4 = false → jc2 g11 = false → jc2 g12 = false → jc2 g13 = false → R2 s1 M1 → W271 v15 s1 → JX 274 271 [jR 1000000, jR 0, g2, g3, g4, v5, v6, jI v7, jI v8, jI v9, jI v10, g11, g12, g13, jI v14, jI v15] [] M1 P) (h : d_Lw_law_b271 v5 v6 v7 v8 v9 v10 v14 v15 s W68 W271 Q) : JX 274 271 [jR 1000000, jR 0, g2, g3, g4, v5, v6, jI v7, jI v8, jI v9, jI v10, g11, g12, g13, jI v14, jI v15] [] M P := by
  unfold d_Lw_law_b271 at h
  refine L_ps c274 (n := 2) (pc1 := 275) (ls1 := [jR 1000000, jR 0, g2, g3, g4, v5, v6, jI v7, jI v8, jI v9, jI v10, g11, g12, g13, jI v14, jI v15]) (st1 := [jI v14, jI v15]) rfl ?_
  refine L_nb (p1 := 308) (p2 := 278) (c274 275 rfl) rfl jc_ge h (fun h => ?_) (fun h => ?_)
  · refine L_ps c274 (n := 2) (pc1 := 282) (ls1 := [jR 1000000, jR 0, g2, g3, g4, v5, v6, jI v7, jI v8, jI v9, jI v10, g11, g12, g13, jI v14, jI v15]) (st1 := [jI 12, jI v14]) rfl ?_
    refine L_nb (p1 := 308) (p2 := 285) (c274 282 rfl) rfl jc_ge h (fun h => ?_) (fun h => ?_)
    · refine L_ps c274 (n := 2) (pc1 := 288) (ls1 := [jR 1000000, jR 0, g2, g3, g4, v5, v6, jI v7, jI v8, jI v9, jI v10, g11, g12, g13, jI v14, jI v15]) (st1 := [jI v10, jR 0]) rfl ?_
      refine E_oI (c274 288 rfl) (js_v rfl ((R2_ob hM).trans jt90)) rfl hM (fun Q X h => k_OB_innermostRedex hM.1 h) h (fun r60 M s61 hM h => ?_)
      refine L_ps c274 (n := 2) (pc1 := 294) (ls1 := [jR 1000000, jR 0, g2, g3, g4, v5, v6, jI v7, jI v8, jI v9, jI v10, g11, g12, g13, jI v14, jI v15]) (st1 := [jI v10, jR 0, jI r60]) rfl ?_
      refine E_oI (c274 294 rfl) (js_v rfl ((R2_ob hM).trans jt129)) rfl hM (fun Q X h => k_OB_stepInnermost hM.1 h) h (fun r62 M s63 hM h => ?_)
      refine L_br (p1 := 302) (p2 := 300) (c274 297 rfl) rfl jc_eq h (fun h => ?_) (fun h => ?_)
      · refine L_ps c274 (n := 2) (pc1 := 271) (ls1 := [jR 1000000, jR 0, g2, g3, g4, v5, v6, jI v7, jI v8, jI v9, jI v10, g11, g12, g13, jI v14, jI (wr (v15 + 1))]) (st1 := []) rfl ?_
        exact hW271 _ _ _ _ _ _ _ _ _ hg2 hg3 hg4 hg11 hg12 hg13 hM h
      · refine L_ps c274 (n := 1) (pc1 := 301) (ls1 := [jR 1000000, jR 0, g2, g3, g4, v5, v6, jI v7, jI v8, jI v9, jI v10, g11, g12, g13, jI v14, jI v15]) (st1 := [jI 0]) rfl ?_
        exact E_retZ (c274 301 rfl) (Or.inl rfl) (hQ _ _ _ hM h)
    · exact k_Lw_law_j308 hg2 hg3 hg4 hg11 hg12 hg13 hv5 hv6 hM hQ hW68 h
  · exact k_Lw_law_j308 hg2 hg3 hg4 hg11 hg12 hg13 hv5 hv6 hM hQ hW68 h
set_option maxRecDepth 100000 in
set_option maxHeartbeats 4000000 in
theorem k_Lw_law_l271 {v5 : JV} {v6 : JV} {v7 : Int} {v8 : Int} {v9 : Int} {v10 : Int} {v14 : Int} {v15 : Int} {s : LSt} {M : JM} {P : JO → JM → Prop} {g2 : JV} {g3 : JV} {g4 : JV} {g11 : JV} {g12 : JV} {g13 : JV} {W68 : Int → LSt → Prop} {Q : Int → LSt → Prop} (hg2 : jc2 g2 = false) (hg3 : jc2 g3 = false) (hg4 : jc2 g4 = false) (hg11 : jc2 g11 = false) (hg12 : jc2 g12 = false) (hg13 : jc2 g13 = false) (hv5 : jnl v5 = true) (hv6 : jnl v6 = true) (hM : R2 s M) (hQ : ∀ (r : Int) (M1 : JM) (s1 : LSt), R2 s1 M1 → Q r s1 → P (.inl (some (.inl r))) M1) (hW68 : ∀ (v7 : Int) (g2 : JV) (g3 : JV) (g4 : JV) (g8 : JV) (g9 : JV) (g10 : JV) (g11 : JV) (g12 : JV) (g13 : JV) (g14 : JV) (g15 : JV) (M1 : JM) (s1 : LSt), jc2 g2 = false → jc2 g3 = false → jc2 g4 = false → jc2 g8 = false → jc2 g9 = false → jc2 g10 = false → jc2 g11 = false → jc2 g12 = false → jc2 g13 = false → jc2 g14 = false → R2 s1 M1 → W68 v7 s1 → JX 274 68 [jR 1000000, jR 0, g2, g3, g4, v5, v6, jI v7, g8, g9, g10, g11, g12, g13, g14, g15] [] M1 P) (h : d_Lw_law_l271 v5 v6 v7 v8 v9 v10 v14 v15 s W68 Q) : JX 274 271 [jR 1000000, jR 0, g2, g3, g4, v5, v6, jI v7, jI v8, jI v9, jI v10, g11, g12, g13, jI v14, jI v15] [] M P := by
  refine h (fun v15 s => ∀ (g2 : JV) (g3 : JV) (g4 : JV) (g11 : JV) (g12 : JV) (g13 : JV) (M : JM), jc2 g2 = false → jc2 g3 = false → jc2 g4 = false → jc2 g11 = false → jc2 g12 = false → jc2 g13 = false → R2 s M → JX 274 271 [jR 1000000, jR 0, g2, g3, g4, v5, v6, jI v7, jI v8, jI v9, jI v10, g11, g12, g13, jI v14, jI v15] [] M P) ?_ _ _ _ _ _ _ _ hg2 hg3 hg4 hg11 hg12 hg13 hM
  intro v15 s h g2 g3 g4 g11 g12 g13 M hg2 hg3 hg4 hg11 hg12 hg13 hM
  exact k_Lw_law_b271 hg2 hg3 hg4 hg11 hg12 hg13 hv5 hv6 hM hQ hW68 (fun v15 g2 g3 g4 g11 g12 g13 M s hg2 hg3 hg4 hg11 hg12 hg13 hM h => h g2 g3 g4 g11 g12 g13 M hg2 hg3 hg4 hg11 hg12 hg13 hM) h
set_option maxRecDepth 100000 in
set_option maxHeartbeats 4000000 in
theorem k_Lw_law_j388 {v5 : JV} {v6 : JV} {v7 : Int} {v8 : Int} {v9 : Int} {s : LSt} {M : JM} {P : JO → JM → Prop} {g2 : JV} {g3 : JV} {g4 : JV} {g10 : JV} {g11 : JV} {g12 : JV} {g13 : JV} {g14 : JV} {g15 : JV} {W68 : Int → LSt → Prop} {Q : Int → LSt → Prop} (hg2 : jc2 g2 = false) (hg3 : jc2 g3 = false) (hg4 : jc2 g4 = false) (hg10 : jc2 g10 = false) (hg11 : jc2 g11 = false) (hg12 : jc2 g12 = false) (hg13 : jc2 g13 = false) (hg14 : jc2 g14 = false) (hv5 : jnl v5 = true) (hv6 : jnl v6 = true) (hM : R2 s M) (hQ : ∀ (r : Int) (M1 : JM) (s1 : LSt), R2 s1 M1 → Q r s1 → P (.inl (some (.inl r))) M1) (hW68 : ∀ (v7 : Int) (g2 : JV) (g3 : JV) (g4 : JV) (g8 : JV) (g9 : JV) (g10 : JV) (g11 : JV) (g12 : JV) (g13 : JV) (g14 : JV) (g15 : JV) (M1 : JM) (s1 : LSt), jc2 g2 = false → jc2 g3 = false → jc2 g4 = false → jc2 g8 = false → jc2 g9 = false → jc2 g10 = false → jc2 g11 = false → jc2 g12 = false → jc2 g13 = false → jc2 g14 = false → R2 s1 M1 → W68 v7 s1 → JX 274 68 [jR 1000000, jR 0, g2, g3, g4, v5, v6, jI v7, g8, g9, g10, g11, g12, g13, g14, g15] [] M1 P) (h : d_Lw_law_j388 v5 v6 v7 v8 v9 s W68 Q) : JX 274 388 [jR 1000000, jR 0, g2, g3, g4, v5, v6, jI v7, jI v8, jI v9, g10, g11, g12, g13, g14, g15] [] M P := by
  unfold d_Lw_law_j388 at h
  refine L_ps c274 (n := 1) (pc1 := 650) (ls1 := [jR 1000000, jR 0, g2, g3, g4, v5, v6, jI v7, jI v8, jI v9, g10, g11, g12, g13, g14, g15]) (st1 := []) rfl ?_
  exact k_Lw_law_j650 hg2 hg3 hg4 hg10 hg11 hg12 hg13 hg14 hv5 hv6 hM hQ hW68 h
set_option maxRecDepth 100000 in
set_option maxHeartbeats 4000000 in
theorem k_Lw_law_j501 {v5 : JV} {v6 : JV} {v7 : Int} {v8 : Int} {v9 : Int} {s : LSt} {M : JM} {P : JO → JM → Prop} {g2 : JV} {g3 : JV} {g4 : JV} {g10 : JV} {g11 : JV} {g12 : JV} {g13 : JV} {g14 : JV} {g15 : JV} {W68 : Int → LSt → Prop} {Q : Int → LSt → Prop} (hg2 : jc2 g2 = false) (hg3 : jc2 g3 = false) (hg4 : jc2 g4 = false) (hg10 : jc2 g10 = false) (hg11 : jc2 g11 = false) (hg12 : jc2 g12 = false) (hg13 : jc2 g13 = false) (hg14 : jc2 g14 = false) (hv5 : jnl v5 = true) (hv6 : jnl v6 = true) (hM : R2 s M) (hQ : ∀ (r : Int) (M1 : JM) (s1 : LSt), R2 s1 M1 → Q r s1 → P (.inl (some (.inl r))) M1) (hW68 : ∀ (v7 : Int) (g2 : JV) (g3 : JV) (g4 : JV) (g8 : JV) (g9 : JV) (g10 : JV) (g11 : JV) (g12 : JV) (g13 : JV) (g14 : JV) (g15 : JV) (M1 : JM) (s1 : LSt), jc2 g2 = false → jc2 g3 = false → jc2 g4 = false → jc2 g8 = false → jc2 g9 = false → jc2 g10 = false → jc2 g11 = false → jc2 g12 = false → jc2 g13 = false → jc2 g14 = false → R2 s1 M1 → W68 v7 s1 → JX 274 68 [jR 1000000, jR 0, g2, g3, g4, v5, v6, jI v7, g8, g9, g10, g11, g12, g13, g14, g15] [] M1 P) (h : d_Lw_law_j501 v5 v6 v7 v8 v9 s W68 Q) : JX 274 501 [jR 1000000, jR 0, g2, g3, g4, v5, v6, jI v7, jI v8, jI v9, g10, g11, g12, g13, g14, g15] [] M P := by
  unfold d_Lw_law_j501 at h
  refine L_ps c274 (n := 1) (pc1 := 650) (ls1 := [jR 1000000, jR 0, g2, g3, g4, v5, v6, jI v7, jI v8, jI v9, g10, g11, g12, g13, g14, g15]) (st1 := []) rfl ?_
  exact k_Lw_law_j650 hg2 hg3 hg4 hg10 hg11 hg12 hg13 hg14 hv5 hv6 hM hQ hW68 h
set_option maxRecDepth 100000 in
set_option maxHeartbeats 4000000 in
theorem k_Lw_law_j554 {v5 : JV} {v6 : JV} {v7 : Int} {v8 : Int} {v9 : Int} {t0 : Int} {t1 : Int} {s : LSt} {M : JM} {P : JO → JM → Prop} {g2 : JV} {g3 : JV} {g4 : JV} {g10 : JV} {g11 : JV} {g12 : JV} {g13 : JV} {g14 : JV} {g15 : JV} {W68 : Int → LSt → Prop} {Q : Int → LSt → Prop} (hg2 : jc2 g2 = false) (hg3 : jc2 g3 = false) (hg4 : jc2 g4 = false) (hg10 : jc2 g10 = false) (hg11 : jc2 g11 = false) (hg12 : jc2 g12 = false) (hg13 : jc2 g13 = false) (hg14 : jc2 g14 = false) (hv5 : jnl v5 = true) (hv6 : jnl v6 = true) (hM : R2 s M) (hQ : ∀ (r : Int) (M1 : JM) (s1 : LSt), R2 s1 M1 → Q r s1 → P (.inl (some (.inl r))) M1) (hW68 : ∀ (v7 : Int) (g2 : JV) (g3 : JV) (g4 : JV) (g8 : JV) (g9 : JV) (g10 : JV) (g11 : JV) (g12 : JV) (g13 : JV) (g14 : JV) (g15 : JV) (M1 : JM) (s1 : LSt), jc2 g2 = false → jc2 g3 = false → jc2 g4 = false → jc2 g8 = false → jc2 g9 = false → jc2 g10 = false → jc2 g11 = false → jc2 g12 = false → jc2 g13 = false → jc2 g14 = false → R2 s1 M1 → W68 v7 s1 → JX 274 68 [jR 1000000, jR 0, g2, g3, g4, v5, v6, jI v7, g8, g9, g10, g11, g12, g13, g14, g15] [] M1 P) (h : d_Lw_law_j554 v5 v6 v7 v8 v9 t0 t1 s W68 Q) : JX 274 554 [jR 1000000, jR 0, g2, g3, g4, v5, v6, jI v7, jI v8, jI v9, g10, g11, g12, g13, g14, g15] [jI t1, jI t0] M P := by
  unfold d_Lw_law_j554 at h
  refine L_br (p1 := 559) (p2 := 557) (c274 554 rfl) rfl jc_eq h (fun h => ?_) (fun h => ?_)
  · refine L_ps c274 (n := 1) (pc1 := 650) (ls1 := [jR 1000000, jR 0, g2, g3, g4, v5, v6, jI v7, jI v8, jI v9, g10, g11, g12, g13, g14, g15]) (st1 := []) rfl ?_
    exact k_Lw_law_j650 hg2 hg3 hg4 hg10 hg11 hg12 hg13 hg14 hv5 hv6 hM hQ hW68 h
  · refine L_ps c274 (n := 1) (pc1 := 558) (ls1 := [jR 1000000, jR 0, g2, g3, g4, v5, v6, jI v7, jI v8, jI v9, g10, g11, g12, g13, g14, g15]) (st1 := [jI 0]) rfl ?_
    exact E_retZ (c274 558 rfl) (Or.inl rfl) (hQ _ _ _ hM h)
set_option maxRecDepth 100000 in
set_option maxHeartbeats 4000000 in
theorem k_Lw_law_j553 {v5 : JV} {v6 : JV} {v7 : Int} {v8 : Int} {v9 : Int} {t0 : Int} {s : LSt} {M : JM} {P : JO → JM → Prop} {g2 : JV} {g3 : JV} {g4 : JV} {g10 : JV} {g11 : JV} {g12 : JV} {g13 : JV} {g14 : JV} {g15 : JV} {W68 : Int → LSt → Prop} {Q : Int → LSt → Prop} (hg2 : jc2 g2 = false) (hg3 : jc2 g3 = false) (hg4 : jc2 g4 = false) (hg10 : jc2 g10 = false) (hg11 : jc2 g11 = false) (hg12 : jc2 g12 = false) (hg13 : jc2 g13 = false) (hg14 : jc2 g14 = false) (hv5 : jnl v5 = true) (hv6 : jnl v6 = true) (hM : R2 s M) (hQ : ∀ (r : Int) (M1 : JM) (s1 : LSt), R2 s1 M1 → Q r s1 → P (.inl (some (.inl r))) M1) (hW68 : ∀ (v7 : Int) (g2 : JV) (g3 : JV) (g4 : JV) (g8 : JV) (g9 : JV) (g10 : JV) (g11 : JV) (g12 : JV) (g13 : JV) (g14 : JV) (g15 : JV) (M1 : JM) (s1 : LSt), jc2 g2 = false → jc2 g3 = false → jc2 g4 = false → jc2 g8 = false → jc2 g9 = false → jc2 g10 = false → jc2 g11 = false → jc2 g12 = false → jc2 g13 = false → jc2 g14 = false → R2 s1 M1 → W68 v7 s1 → JX 274 68 [jR 1000000, jR 0, g2, g3, g4, v5, v6, jI v7, g8, g9, g10, g11, g12, g13, g14, g15] [] M1 P) (h : d_Lw_law_j553 v5 v6 v7 v8 v9 t0 s W68 Q) : JX 274 553 [jR 1000000, jR 0, g2, g3, g4, v5, v6, jI v7, jI v8, jI v9, g10, g11, g12, g13, g14, g15] [jI t0] M P := by
  unfold d_Lw_law_j553 at h
  refine L_ps c274 (n := 1) (pc1 := 554) (ls1 := [jR 1000000, jR 0, g2, g3, g4, v5, v6, jI v7, jI v8, jI v9, g10, g11, g12, g13, g14, g15]) (st1 := [jI 0, jI t0]) rfl ?_
  exact k_Lw_law_j554 hg2 hg3 hg4 hg10 hg11 hg12 hg13 hg14 hv5 hv6 hM hQ hW68 h
set_option maxRecDepth 100000 in
set_option maxHeartbeats 4000000 in
theorem k_Lw_law_j531 {v5 : JV} {v6 : JV} {v7 : Int} {v8 : Int} {v9 : Int} {v10 : Int} {v12 : Int} {v14 : Int} {t0 : Int} {s : LSt} {M : JM} {P : JO → JM → Prop} {g2 : JV} {g3 : JV} {g4 : JV} {g11 : JV} {g13 : JV} {g15 : JV} {W68 : Int → LSt → Prop} {Q : Int → LSt → Prop} (hg2 : jc2 g2 = false) (hg3 : jc2 g3 = false) (hg4 : jc2 g4 = false) (hg11 : jc2 g11 = false) (hg13 : jc2 g13 = false) (hv5 : jnl v5 = true) (hv6 : jnl v6 = true) (hM : R2 s M) (hQ : ∀ (r : Int) (M1 : JM) (s1 : LSt), R2 s1 M1 → Q r s1 → P (.inl (some (.inl r))) M1) (hW68 : ∀ (v7 : Int) (g2 : JV) (g3 : JV) (g4 : JV) (g8 : JV) (g9 : JV) (g10 : JV) (g11 : JV) (g12 : JV) (g13 : JV) (g14 : JV) (g15 : JV) (M1 : JM) (s1 : LSt), jc2 g2 = false → jc2 g3 = false → jc2 g4 = false → jc2 g8 = false → jc2 g9 = false → jc2 g10 = false → jc2 g11 = false → jc2 g12 = false → jc2 g13 = false → jc2 g14 = false → R2 s1 M1 → W68 v7 s1 → JX 274 68 [jR 1000000, jR 0, g2, g3, g4, v5, v6, jI v7, g8, g9, g10, g11, g12, g13, g14, g15] [] M1 P) (h : d_Lw_law_j531 v5 v6 v7 v8 v9 v10 v12 v14 t0 s W68 Q) : JX 274 531 [jR 1000000, jR 0, g2, g3, g4, v5, v6, jI v7, jI v8, jI v9, jI v10, g11, jI v12, g13, jI v14, g15] [jI t0] M P := by
  unfold d_Lw_law_j531 at h
  refine L_ps c274 (n := 1) (pc1 := 533) (ls1 := [jR 1000000, jR 0, g2, g3, g4, v5, v6, jI v7, jI v8, jI v9, jI v10, g11, jI v12, g13, jI v14, g15]) (st1 := [jI v14, jI t0]) rfl ?_
  refine L_br (p1 := 553) (p2 := 536) (c274 533 rfl) rfl jc_lt h (fun h => ?_) (fun h => ?_)
  · exact k_Lw_law_j553 hg2 hg3 hg4 rfl hg11 rfl hg13 rfl hv5 hv6 hM hQ hW68 h
  · refine L_ps c274 (n := 4) (pc1 := 543) (ls1 := [jR 1000000, jR 0, g2, g3, g4, v5, v6, jI v7, jI v8, jI v9, jI v10, g11, jI v12, g13, jI v14, g15]) (st1 := [jI v12, jI v10, jI v14, jR 0, jI t0]) rfl ?_
    refine E_oB (c274 543 rfl) (js_v rfl ((R2_ob hM).trans jt85)) rfl hM (fun Q X h => k_OB_matches hM.1 h) h (fun r94 M s95 hM h => ?_)
    refine L_nb (p1 := 553) (p2 := 549) (c274 546 rfl) rfl jc_eqb h (fun h => ?_) (fun h => ?_)
    · refine L_ps c274 (n := 2) (pc1 := 554) (ls1 := [jR 1000000, jR 0, g2, g3, g4, v5, v6, jI v7, jI v8, jI v9, jI v10, g11, jI v12, g13, jI v14, g15]) (st1 := [jI 1, jI t0]) rfl ?_
      exact k_Lw_law_j554 hg2 hg3 hg4 rfl hg11 rfl hg13 rfl hv5 hv6 hM hQ hW68 h
    · exact k_Lw_law_j553 hg2 hg3 hg4 rfl hg11 rfl hg13 rfl hv5 hv6 hM hQ hW68 h
set_option maxRecDepth 100000 in
set_option maxHeartbeats 4000000 in
theorem k_Lw_law_j605 {v5 : JV} {v6 : JV} {v7 : Int} {v8 : Int} {v9 : Int} {s : LSt} {M : JM} {P : JO → JM → Prop} {g2 : JV} {g3 : JV} {g4 : JV} {g10 : JV} {g11 : JV} {g12 : JV} {g13 : JV} {g14 : JV} {g15 : JV} {W68 : Int → LSt → Prop} {Q : Int → LSt → Prop} (hg2 : jc2 g2 = false) (hg3 : jc2 g3 = false) (hg4 : jc2 g4 = false) (hg10 : jc2 g10 = false) (hg11 : jc2 g11 = false) (hg12 : jc2 g12 = false) (hg13 : jc2 g13 = false) (hg14 : jc2 g14 = false) (hv5 : jnl v5 = true) (hv6 : jnl v6 = true) (hM : R2 s M) (hQ : ∀ (r : Int) (M1 : JM) (s1 : LSt), R2 s1 M1 → Q r s1 → P (.inl (some (.inl r))) M1) (hW68 : ∀ (v7 : Int) (g2 : JV) (g3 : JV) (g4 : JV) (g8 : JV) (g9 : JV) (g10 : JV) (g11 : JV) (g12 : JV) (g13 : JV) (g14 : JV) (g15 : JV) (M1 : JM) (s1 : LSt), jc2 g2 = false → jc2 g3 = false → jc2 g4 = false → jc2 g8 = false → jc2 g9 = false → jc2 g10 = false → jc2 g11 = false → jc2 g12 = false → jc2 g13 = false → jc2 g14 = false → R2 s1 M1 → W68 v7 s1 → JX 274 68 [jR 1000000, jR 0, g2, g3, g4, v5, v6, jI v7, g8, g9, g10, g11, g12, g13, g14, g15] [] M1 P) (h : d_Lw_law_j605 v5 v6 v7 v8 v9 s W68 Q) : JX 274 605 [jR 1000000, jR 0, g2, g3, g4, v5, v6, jI v7, jI v8, jI v9, g10, g11, g12, g13, g14, g15] [] M P := by
  unfold d_Lw_law_j605 at h
  refine L_ps c274 (n := 1) (pc1 := 650) (ls1 := [jR 1000000, jR 0, g2, g3, g4, v5, v6, jI v7, jI v8, jI v9, g10, g11, g12, g13, g14, g15]) (st1 := []) rfl ?_
  exact k_Lw_law_j650 hg2 hg3 hg4 hg10 hg11 hg12 hg13 hg14 hv5 hv6 hM hQ hW68 h
set_option maxRecDepth 100000 in
set_option maxHeartbeats 4000000 in
theorem k_Lw_law_b68 {v5 : JV} {v6 : JV} {v7 : Int} {s : LSt} {M : JM} {P : JO → JM → Prop} {g2 : JV} {g3 : JV} {g4 : JV} {g8 : JV} {g9 : JV} {g10 : JV} {g11 : JV} {g12 : JV} {g13 : JV} {g14 : JV} {g15 : JV} {W68 : Int → LSt → Prop} {Q : Int → LSt → Prop} (hg2 : jc2 g2 = false) (hg3 : jc2 g3 = false) (hg4 : jc2 g4 = false) (hg8 : jc2 g8 = false) (hg9 : jc2 g9 = false) (hg10 : jc2 g10 = false) (hg11 : jc2 g11 = false) (hg12 : jc2 g12 = false) (hg13 : jc2 g13 = false) (hg14 : jc2 g14 = false) (hv5 : jnl v5 = true) (hv6 : jnl v6 = true) (hM : R2 s M) (hQ : ∀ (r : Int) (M1 : JM) (s1 : LSt), R2 s1 M1 → Q r s1 → P (.inl (some (.inl r))) M1) (hW68 : ∀ (v7 : Int) (g2 : JV) (g3 : JV) (g4 : JV) (g8 : JV) (g9 : JV) (g10 : JV) (g11 : JV) (g12 : JV) (g13 : JV) (g14 : JV) (g15 : JV) (M1 : JM) (s1 : LSt), jc2 g2 = false → jc2 g3 = false → jc2 g4 = false → jc2 g8 = false → jc2 g9 = false → jc2 g10 = false → jc2 g11 = false → jc2 g12 = false → jc2 g13 = false → jc2 g14 = false → R2 s1 M1 → W68 v7 s1 → JX 274 68 [jR 1000000, jR 0, g2, g3, g4, v5, v6, jI v7, g8, g9, g10, g11, g12, g13, g14, g15] [] M1 P) (h : d_Lw_law_b68 v5 v6 v7 s W68 Q) : JX 274 68 [jR 1000000, jR 0, g2, g3, g4, v5, v6, jI v7, g8, g9, g10, g11, g12, g13, g14, g15] [] M P := by
  unfold d_Lw_law_b68 at h
  refine L_ps c274 (n := 2) (pc1 := 72) (ls1 := [jR 1000000, jR 0, g2, g3, g4, v5, v6, jI v7, g8, g9, g10, g11, g12, g13, g14, g15]) (st1 := [jI 14, jI v7]) rfl ?_
  refine L_nb (p1 := 708) (p2 := 75) (c274 72 rfl) rfl jc_ge h (fun h => ?_) (fun h => ?_)
  · refine L_ps c274 (n := 4) (pc1 := 81) (ls1 := [jR 1000000, jR 0, g2, g3, g4, v5, v6, jI v7, g8, g9, g10, g11, g12, g13, g14, g15]) (st1 := [jI (wr (11 + v7)), jR 1000000]) rfl ?_
    refine E_cI (pc1 := 84) (c274 81 rfl) (js_t rfl) rfl (k_Lw_cell rfl hM h) (fun r23 M s22 hM h => ?_)
    refine L_ps c274 (n := 11) (pc1 := 100) (ls1 := [jR 1000000, jR 0, g2, g3, g4, v5, v6, jI v7, jI r23, jI (jand r23 1), g10, g11, g12, g13, g14, g15]) (st1 := [jR 0, jI (jand (jushr r23 5) 7)]) rfl ?_
    refine E_oI (c274 100 rfl) (js_v rfl ((R2_ob hM).trans jt79)) rfl hM (fun Q X h => k_OB_termCount hM.1 h) h (fun r24 M s25 hM h => ?_)
    obtain ⟨hz, h⟩ := h
    refine E_rem (c274 103 rfl) hz ?_
    refine L_ps c274 (n := 7) (pc1 := 115) (ls1 := [jR 1000000, jR 0, g2, g3, g4, v5, v6, jI v7, jI r23, jI (jand r23 1), jI (jrem (jand (jushr r23 5) 7) r24), g11, g12, g13, g14, g15]) (st1 := [jR 0, jI (jand (jushr r23 8) 7)]) rfl ?_
    refine E_oI (c274 115 rfl) (js_v rfl ((R2_ob hM).trans jt79)) rfl hM (fun Q X h => k_OB_termCount hM.1 h) h (fun r26 M s27 hM h => ?_)
    obtain ⟨hz, h⟩ := h
    refine E_rem (c274 118 rfl) hz ?_
    refine L_ps c274 (n := 8) (pc1 := 132) (ls1 := [jR 1000000, jR 0, g2, g3, g4, v5, v6, jI v7, jI r23, jI (jand r23 1), jI (jrem (jand (jushr r23 5) 7) r24), jI (jrem (jand (jushr r23 8) 7) r26), g12, g13, g14, g15]) (st1 := [jI (jrem (jand (jushr r23 5) 7) r24), jR 0, jI (jand (jushr r23 11) 15)]) rfl ?_
    refine E_oI (c274 132 rfl) (js_v rfl ((R2_ob hM).trans jt80)) rfl hM (fun Q X h => k_OB_termSize hM.1 h) h (fun r28 M s29 hM h => ?_)
    obtain ⟨hz, h⟩ := h
    refine E_rem (c274 135 rfl) hz ?_
    refine L_ps c274 (n := 2) (pc1 := 139) (ls1 := [jR 1000000, jR 0, g2, g3, g4, v5, v6, jI v7, jI r23, jI (jand r23 1), jI (jrem (jand (jushr r23 5) 7) r24), jI (jrem (jand (jushr r23 8) 7) r26), jI (jrem (jand (jushr r23 11) 15) r28), g13, g14, g15]) (st1 := [jR 0]) rfl ?_
    refine E_ald (c274 139 rfl) rfl hv5 ?_
    show JX 274 141 [jR 1000000, jR 0, g2, g3, g4, v5, v6, jI v7, jI r23, jI (jand r23 1), jI (jrem (jand (jushr r23 5) 7) r24), jI (jrem (jand (jushr r23 8) 7) r26), jI (jrem (jand (jushr r23 11) 15) r28), g13, g14, g15] [v5, jR 0] M P
    refine E_cN (pc1 := 144) (c274 141 rfl) (js_t (show ssplit 2 [v5, jR 0] = some ([jR 0, v5], []) from ss_v (A := [v5, jR 0]) (B := []) rfl (al_c (jnl_c2 hv5) (al_c rfl al_n)) (Nat.le_of_ble_eq_true rfl))) rfl (k_Lw_sees hv5 hM h) (fun M s30 hM h => ?_)
    refine L_ps c274 (n := 2) (pc1 := 147) (ls1 := [jR 1000000, jR 0, g2, g3, g4, v5, v6, jI v7, jI r23, jI (jand r23 1), jI (jrem (jand (jushr r23 5) 7) r24), jI (jrem (jand (jushr r23 8) 7) r26), jI (jrem (jand (jushr r23 11) 15) r28), g13, g14, g15]) (st1 := [jI (jand r23 1), jR 0]) rfl ?_
    refine E_oI (c274 147 rfl) (js_v rfl ((R2_ob hM).trans jt145)) rfl hM (fun Q X h => k_OB_saveState hM.1 h) h (fun r32 M s33 hM h => ?_)
    refine L_ps c274 (n := 1) (pc1 := 151) (ls1 := [jR 1000000, jR 0, g2, g3, g4, v5, v6, jI v7, jI r23, jI (jand r23 1), jI (jrem (jand (jushr r23 5) 7) r24), jI (jrem (jand (jushr r23 8) 7) r26), jI (jrem (jand (jushr r23 11) 15) r28), g13, g14, g15]) (st1 := [jX (.long ((Int32.ofInt r32).toInt64))]) rfl ?_
    refine E_ald (c274 151 rfl) rfl hv5 ?_
    show JX 274 153 [jR 1000000, jR 0, g2, g3, g4, v5, v6, jI v7, jI r23, jI (jand r23 1), jI (jrem (jand (jushr r23 5) 7) r24), jI (jrem (jand (jushr r23 8) 7) r26), jI (jrem (jand (jushr r23 11) 15) r28), g13, g14, g15] [v5, jX (.long ((Int32.ofInt r32).toInt64))] M P
    refine L_ps c274 (n := 1) (pc1 := 154) (ls1 := [jR 1000000, jR 0, g2, g3, g4, v5, v6, jI v7, jI r23, jI (jand r23 1), jI (jrem (jand (jushr r23 5) 7) r24), jI (jrem (jand (jushr r23 8) 7) r26), jI (jrem (jand (jushr r23 11) 15) r28), g13, g14, g15]) (st1 := [jI 1, v5, jX (.long ((Int32.ofInt r32).toInt64))]) rfl ?_
    obtain ⟨i34, e, g⟩ := cR_of h
    clear h
    subst e
    have h := g
    clear g
    refine E_rJ (c274 154 rfl) hM h (fun y35 h => ?_)
    refine L_ps c274 (n := 1) (pc1 := 156) (ls1 := [jR 1000000, jR 0, g2, g3, g4, jR i34, v6, jI v7, jI r23, jI (jand r23 1), jI (jrem (jand (jushr r23 5) 7) r24), jI (jrem (jand (jushr r23 8) 7) r26), jI (jrem (jand (jushr r23 11) 15) r28), g13, g14, g15]) (st1 := [jI ((lg_cmp ((Int32.ofInt r32).toInt64) y35).toInt)]) rfl ?_
    refine L_nb (p1 := 170) (p2 := 159) (c274 156 rfl) rfl jc_ne h (fun h => ?_) (fun h => ?_)
    · refine L_ps c274 (n := 3) (pc1 := 164) (ls1 := [jR 1000000, jR 0, g2, g3, g4, jR i34, v6, jI v7, jI r23, jI (jand r23 1), jI (jrem (jand (jushr r23 5) 7) r24), jI (jrem (jand (jushr r23 8) 7) r26), jI (jrem (jand (jushr r23 11) 15) r28), g13, g14, g15]) (st1 := [jI (jrem (jand (jushr r23 8) 7) r26), jI (jrem (jand (jushr r23 5) 7) r24), jR 0]) rfl ?_
      refine E_cI (pc1 := 167) (c274 164 rfl) (js_t rfl) rfl (k_Lw_isWhole hM h) (fun r37 M s36 hM h => ?_)
      refine L_nb (p1 := 172) (p2 := 170) (c274 167 rfl) rfl jc_ne h (fun h => ?_) (fun h => ?_)
      · refine L_ps c274 (n := 1) (pc1 := 171) (ls1 := [jR 1000000, jR 0, g2, g3, g4, jR i34, v6, jI v7, jI r23, jI (jand r23 1), jI (jrem (jand (jushr r23 5) 7) r24), jI (jrem (jand (jushr r23 8) 7) r26), jI (jrem (jand (jushr r23 11) 15) r28), g13, g14, g15]) (st1 := [jI 0]) rfl ?_
        exact E_retZ (c274 171 rfl) (Or.inl rfl) (hQ _ _ _ hM h)
      · refine L_ps c274 (n := 8) (pc1 := 184) (ls1 := [jR 1000000, jR 0, g2, g3, g4, jR i34, v6, jI v7, jI r23, jI (jand r23 1), jI (jrem (jand (jushr r23 5) 7) r24), jI (jrem (jand (jushr r23 8) 7) r26), jI (jrem (jand (jushr r23 11) 15) r28), jI (jand (jushr r23 1) 15), g14, g15]) (st1 := [jI 4, jI (jand (jushr r23 1) 15)]) rfl ?_
        refine L_nb (p1 := 253) (p2 := 187) (c274 184 rfl) rfl jc_ge h (fun h => ?_) (fun h => ?_)
        · refine L_ps c274 (n := 2) (pc1 := 190) (ls1 := [jR 1000000, jR 0, g2, g3, g4, jR i34, v6, jI v7, jI r23, jI (jand r23 1), jI (jrem (jand (jushr r23 5) 7) r24), jI (jrem (jand (jushr r23 8) 7) r26), jI (jrem (jand (jushr r23 11) 15) r28), jI (jand (jushr r23 1) 15), g14, g15]) (st1 := [jI (jrem (jand (jushr r23 5) 7) r24), jR 0]) rfl ?_
          refine E_oI (c274 190 rfl) (js_v rfl ((R2_ob hM).trans jt93)) rfl hM (fun Q X h => k_OB_stepsInnermost hM.1 h) h (fun r38 M s39 hM h => ?_)
          refine L_ps c274 (n := 3) (pc1 := 198) (ls1 := [jR 1000000, jR 0, g2, g3, g4, jR i34, v6, jI v7, jI r23, jI (jand r23 1), jI (jrem (jand (jushr r23 5) 7) r24), jI (jrem (jand (jushr r23 8) 7) r26), jI (jrem (jand (jushr r23 11) 15) r28), jI (jand (jushr r23 1) 15), jI r38, g15]) (st1 := [jI (jrem (jand (jushr r23 5) 7) r24), jR 0]) rfl ?_
          refine E_oI (c274 198 rfl) (js_v rfl ((R2_ob hM).trans jt96)) rfl hM (fun Q X h => k_OB_normalFormSize hM.1 h) h (fun r40 M s41 hM h => ?_)
          refine L_ps c274 (n := 2) (pc1 := 205) (ls1 := [jR 1000000, jR 0, g2, g3, g4, jR i34, v6, jI v7, jI r23, jI (jand r23 1), jI (jrem (jand (jushr r23 5) 7) r24), jI (jrem (jand (jushr r23 8) 7) r26), jI (jrem (jand (jushr r23 11) 15) r28), jI (jand (jushr r23 1) 15), jI r38, jI r40]) (st1 := [jI r38]) rfl ?_
          refine L_br (p1 := 250) (p2 := 208) (c274 205 rfl) rfl jc_lt h (fun h => ?_) (fun h => ?_)
          · exact k_Lw_law_j250 hg2 hg3 hg4 rfl rfl rfl rfl rfl rfl hv6 hM hQ hW68 h
          · refine L_ps c274 (n := 2) (pc1 := 211) (ls1 := [jR 1000000, jR 0, g2, g3, g4, jR i34, v6, jI v7, jI r23, jI (jand r23 1), jI (jrem (jand (jushr r23 5) 7) r24), jI (jrem (jand (jushr r23 8) 7) r26), jI (jrem (jand (jushr r23 11) 15) r28), jI (jand (jushr r23 1) 15), jI r38, jI r40]) (st1 := [jI (jrem (jand (jushr r23 5) 7) r24), jR 0]) rfl ?_
            refine E_oI (c274 211 rfl) (js_v rfl ((R2_ob hM).trans jt135)) rfl hM (fun Q X h => k_OB_normalize hM.1 h) h (fun r50 M s51 hM h => ?_)
            refine L_ps c274 (n := 1) (pc1 := 216) (ls1 := [jR 1000000, jR 0, g2, g3, g4, jR i34, v6, jI v7, jI r23, jI (jand r23 1), jI (jrem (jand (jushr r23 5) 7) r24), jI (jrem (jand (jushr r23 8) 7) r26), jI (jrem (jand (jushr r23 11) 15) r28), jI (jand (jushr r23 1) 15), jI r38, jI r40]) (st1 := [jI r38, jI r50]) rfl ?_
            refine L_nb (p1 := 248) (p2 := 219) (c274 216 rfl) rfl jc_ne h (fun h => ?_) (fun h => ?_)
            · refine L_ps c274 (n := 2) (pc1 := 222) (ls1 := [jR 1000000, jR 0, g2, g3, g4, jR i34, v6, jI v7, jI r23, jI (jand r23 1), jI (jrem (jand (jushr r23 5) 7) r24), jI (jrem (jand (jushr r23 8) 7) r26), jI (jrem (jand (jushr r23 11) 15) r28), jI (jand (jushr r23 1) 15), jI r38, jI r40]) (st1 := [jI (jrem (jand (jushr r23 5) 7) r24), jR 0]) rfl ?_
              refine E_oI (c274 222 rfl) (js_v rfl ((R2_ob hM).trans jt80)) rfl hM (fun Q X h => k_OB_termSize hM.1 h) h (fun r52 M s53 hM h => ?_)
              refine L_ps c274 (n := 1) (pc1 := 227) (ls1 := [jR 1000000, jR 0, g2, g3, g4, jR i34, v6, jI v7, jI r23, jI (jand r23 1), jI (jrem (jand (jushr r23 5) 7) r24), jI (jrem (jand (jushr r23 8) 7) r26), jI (jrem (jand (jushr r23 11) 15) r28), jI (jand (jushr r23 1) 15), jI r38, jI r40]) (st1 := [jI r40, jI r52]) rfl ?_
              refine L_nb (p1 := 248) (p2 := 230) (c274 227 rfl) rfl jc_ne h (fun h => ?_) (fun h => ?_)
              · refine L_ps c274 (n := 2) (pc1 := 233) (ls1 := [jR 1000000, jR 0, g2, g3, g4, jR i34, v6, jI v7, jI r23, jI (jand r23 1), jI (jrem (jand (jushr r23 5) 7) r24), jI (jrem (jand (jushr r23 8) 7) r26), jI (jrem (jand (jushr r23 11) 15) r28), jI (jand (jushr r23 1) 15), jI r38, jI r40]) (st1 := [jI (jrem (jand (jushr r23 5) 7) r24), jR 0]) rfl ?_
                refine E_oB (c274 233 rfl) (js_v rfl ((R2_ob hM).trans jt92)) rfl hM (fun Q X h => k_OB_isNormalForm hM.1 h) h (fun r54 M s55 hM h => ?_)
                refine L_nb (p1 := 248) (p2 := 239) (c274 236 rfl) rfl jc_eqb h (fun h => ?_) (fun h => ?_)
                · refine L_ps c274 (n := 2) (pc1 := 242) (ls1 := [jR 1000000, jR 0, g2, g3, g4, jR i34, v6, jI v7, jI r23, jI (jand r23 1), jI (jrem (jand (jushr r23 5) 7) r24), jI (jrem (jand (jushr r23 8) 7) r26), jI (jrem (jand (jushr r23 11) 15) r28), jI (jand (jushr r23 1) 15), jI r38, jI r40]) (st1 := [jI (jrem (jand (jushr r23 5) 7) r24), jR 0]) rfl ?_
                  refine E_oI (c274 242 rfl) (js_v rfl ((R2_ob hM).trans jt88)) rfl hM (fun Q X h => k_OB_redexCount hM.1 h) h (fun r56 M s57 hM h => ?_)
                  refine L_br (p1 := 250) (p2 := 248) (c274 245 rfl) rfl jc_eq h (fun h => ?_) (fun h => ?_)
                  · exact k_Lw_law_j250 hg2 hg3 hg4 rfl rfl rfl rfl rfl rfl hv6 hM hQ hW68 h
                  · refine L_ps c274 (n := 1) (pc1 := 249) (ls1 := [jR 1000000, jR 0, g2, g3, g4, jR i34, v6, jI v7, jI r23, jI (jand r23 1), jI (jrem (jand (jushr r23 5) 7) r24), jI (jrem (jand (jushr r23 8) 7) r26), jI (jrem (jand (jushr r23 11) 15) r28), jI (jand (jushr r23 1) 15), jI r38, jI r40]) (st1 := [jI 0]) rfl ?_
                    exact E_retZ (c274 249 rfl) (Or.inl rfl) (hQ _ _ _ hM h)
                · refine L_ps c274 (n := 1) (pc1 := 249) (ls1 := [jR 1000000, jR 0, g2, g3, g4, jR i34, v6, jI v7, jI r23, jI (jand r23 1), jI (jrem (jand (jushr r23 5) 7) r24), jI (jrem (jand (jushr r23 8) 7) r26), jI (jrem (jand (jushr r23 11) 15) r28), jI (jand (jushr r23 1) 15), jI r38, jI r40]) (st1 := [jI 0]) rfl ?_
                  exact E_retZ (c274 249 rfl) (Or.inl rfl) (hQ _ _ _ hM h)
              · refine L_ps c274 (n := 1) (pc1 := 249) (ls1 := [jR 1000000, jR 0, g2, g3, g4, jR i34, v6, jI v7, jI r23, jI (jand r23 1), jI (jrem (jand (jushr r23 5) 7) r24), jI (jrem (jand (jushr r23 8) 7) r26), jI (jrem (jand (jushr r23 11) 15) r28), jI (jand (jushr r23 1) 15), jI r38, jI r40]) (st1 := [jI 0]) rfl ?_
                exact E_retZ (c274 249 rfl) (Or.inl rfl) (hQ _ _ _ hM h)
            · refine L_ps c274 (n := 1) (pc1 := 249) (ls1 := [jR 1000000, jR 0, g2, g3, g4, jR i34, v6, jI v7, jI r23, jI (jand r23 1), jI (jrem (jand (jushr r23 5) 7) r24), jI (jrem (jand (jushr r23 8) 7) r26), jI (jrem (jand (jushr r23 11) 15) r28), jI (jand (jushr r23 1) 15), jI r38, jI r40]) (st1 := [jI 0]) rfl ?_
              exact E_retZ (c274 249 rfl) (Or.inl rfl) (hQ _ _ _ hM h)
        · refine L_ps c274 (n := 2) (pc1 := 257) (ls1 := [jR 1000000, jR 0, g2, g3, g4, jR i34, v6, jI v7, jI r23, jI (jand r23 1), jI (jrem (jand (jushr r23 5) 7) r24), jI (jrem (jand (jushr r23 8) 7) r26), jI (jrem (jand (jushr r23 11) 15) r28), jI (jand (jushr r23 1) 15), g14, g15]) (st1 := [jI 7, jI (jand (jushr r23 1) 15)]) rfl ?_
          refine L_nb (p1 := 334) (p2 := 260) (c274 257 rfl) rfl jc_ge h (fun h => ?_) (fun h => ?_)
          · refine L_ps c274 (n := 2) (pc1 := 263) (ls1 := [jR 1000000, jR 0, g2, g3, g4, jR i34, v6, jI v7, jI r23, jI (jand r23 1), jI (jrem (jand (jushr r23 5) 7) r24), jI (jrem (jand (jushr r23 8) 7) r26), jI (jrem (jand (jushr r23 11) 15) r28), jI (jand (jushr r23 1) 15), g14, g15]) (st1 := [jI (jrem (jand (jushr r23 5) 7) r24), jR 0]) rfl ?_
            refine E_oI (c274 263 rfl) (js_v rfl ((R2_ob hM).trans jt93)) rfl hM (fun Q X h => k_OB_stepsInnermost hM.1 h) h (fun r58 M s59 hM h => ?_)
            refine L_ps c274 (n := 3) (pc1 := 271) (ls1 := [jR 1000000, jR 0, g2, g3, g4, jR i34, v6, jI v7, jI r23, jI (jand r23 1), jI (jrem (jand (jushr r23 5) 7) r24), jI (jrem (jand (jushr r23 8) 7) r26), jI (jrem (jand (jushr r23 11) 15) r28), jI (jand (jushr r23 1) 15), jI r58, jI 0]) (st1 := []) rfl ?_
            exact k_Lw_law_l271 hg2 hg3 hg4 rfl rfl rfl rfl hv6 hM hQ hW68 h
          · refine L_ps c274 (n := 2) (pc1 := 338) (ls1 := [jR 1000000, jR 0, g2, g3, g4, jR i34, v6, jI v7, jI r23, jI (jand r23 1), jI (jrem (jand (jushr r23 5) 7) r24), jI (jrem (jand (jushr r23 8) 7) r26), jI (jrem (jand (jushr r23 11) 15) r28), jI (jand (jushr r23 1) 15), g14, g15]) (st1 := [jI 9, jI (jand (jushr r23 1) 15)]) rfl ?_
            refine L_nb (p1 := 391) (p2 := 341) (c274 338 rfl) rfl jc_ge h (fun h => ?_) (fun h => ?_)
            · refine L_ps c274 (n := 2) (pc1 := 344) (ls1 := [jR 1000000, jR 0, g2, g3, g4, jR i34, v6, jI v7, jI r23, jI (jand r23 1), jI (jrem (jand (jushr r23 5) 7) r24), jI (jrem (jand (jushr r23 8) 7) r26), jI (jrem (jand (jushr r23 11) 15) r28), jI (jand (jushr r23 1) 15), g14, g15]) (st1 := [jI (jrem (jand (jushr r23 5) 7) r24), jR 0]) rfl ?_
              refine E_oI (c274 344 rfl) (js_v rfl ((R2_ob hM).trans jt95)) rfl hM (fun Q X h => k_OB_stepsOutermost hM.1 h) h (fun r66 M s67 hM h => ?_)
              refine L_ps c274 (n := 3) (pc1 := 352) (ls1 := [jR 1000000, jR 0, g2, g3, g4, jR i34, v6, jI v7, jI r23, jI (jand r23 1), jI (jrem (jand (jushr r23 5) 7) r24), jI (jrem (jand (jushr r23 8) 7) r26), jI (jrem (jand (jushr r23 11) 15) r28), jI (jand (jushr r23 1) 15), jI r66, g15]) (st1 := [jI (jrem (jand (jushr r23 5) 7) r24), jR 0]) rfl ?_
              refine E_oI (c274 352 rfl) (js_v rfl ((R2_ob hM).trans jt91)) rfl hM (fun Q X h => k_OB_outermostRedex hM.1 h) h (fun r68 M s69 hM h => ?_)
              refine L_ps c274 (n := 2) (pc1 := 359) (ls1 := [jR 1000000, jR 0, g2, g3, g4, jR i34, v6, jI v7, jI r23, jI (jand r23 1), jI (jrem (jand (jushr r23 5) 7) r24), jI (jrem (jand (jushr r23 8) 7) r26), jI (jrem (jand (jushr r23 11) 15) r28), jI (jand (jushr r23 1) 15), jI r66, jI r68]) (st1 := [jI r66]) rfl ?_
              refine L_nb (p1 := 388) (p2 := 362) (c274 359 rfl) rfl jc_le h (fun h => ?_) (fun h => ?_)
              · refine L_ps c274 (n := 2) (pc1 := 365) (ls1 := [jR 1000000, jR 0, g2, g3, g4, jR i34, v6, jI v7, jI r23, jI (jand r23 1), jI (jrem (jand (jushr r23 5) 7) r24), jI (jrem (jand (jushr r23 8) 7) r26), jI (jrem (jand (jushr r23 11) 15) r28), jI (jand (jushr r23 1) 15), jI r66, jI r68]) (st1 := [jI (jrem (jand (jushr r23 5) 7) r24), jR 0]) rfl ?_
                refine E_oI (c274 365 rfl) (js_v rfl ((R2_ob hM).trans jt134)) rfl hM (fun Q X h => k_OB_stepOutermost hM.1 h) h (fun r70 M s71 hM h => ?_)
                refine L_ps c274 (n := 1) (pc1 := 370) (ls1 := [jR 1000000, jR 0, g2, g3, g4, jR i34, v6, jI v7, jI r23, jI (jand r23 1), jI (jrem (jand (jushr r23 5) 7) r24), jI (jrem (jand (jushr r23 8) 7) r26), jI (jrem (jand (jushr r23 11) 15) r28), jI (jand (jushr r23 1) 15), jI r66, jI r68]) (st1 := [jI r68, jI r70]) rfl ?_
                refine L_nb (p1 := 386) (p2 := 373) (c274 370 rfl) rfl jc_ne h (fun h => ?_) (fun h => ?_)
                · refine L_ps c274 (n := 2) (pc1 := 376) (ls1 := [jR 1000000, jR 0, g2, g3, g4, jR i34, v6, jI v7, jI r23, jI (jand r23 1), jI (jrem (jand (jushr r23 5) 7) r24), jI (jrem (jand (jushr r23 8) 7) r26), jI (jrem (jand (jushr r23 11) 15) r28), jI (jand (jushr r23 1) 15), jI r66, jI r68]) (st1 := [jI (jrem (jand (jushr r23 5) 7) r24), jR 0]) rfl ?_
                  refine E_oI (c274 376 rfl) (js_v rfl ((R2_ob hM).trans jt95)) rfl hM (fun Q X h => k_OB_stepsOutermost hM.1 h) h (fun r72 M s73 hM h => ?_)
                  refine L_ps c274 (n := 3) (pc1 := 383) (ls1 := [jR 1000000, jR 0, g2, g3, g4, jR i34, v6, jI v7, jI r23, jI (jand r23 1), jI (jrem (jand (jushr r23 5) 7) r24), jI (jrem (jand (jushr r23 8) 7) r26), jI (jrem (jand (jushr r23 11) 15) r28), jI (jand (jushr r23 1) 15), jI r66, jI r68]) (st1 := [jI (wr (r66 - 1)), jI r72]) rfl ?_
                  refine L_br (p1 := 388) (p2 := 386) (c274 383 rfl) rfl jc_eq h (fun h => ?_) (fun h => ?_)
                  · exact k_Lw_law_j388 hg2 hg3 hg4 rfl rfl rfl rfl rfl rfl hv6 hM hQ hW68 h
                  · refine L_ps c274 (n := 1) (pc1 := 387) (ls1 := [jR 1000000, jR 0, g2, g3, g4, jR i34, v6, jI v7, jI r23, jI (jand r23 1), jI (jrem (jand (jushr r23 5) 7) r24), jI (jrem (jand (jushr r23 8) 7) r26), jI (jrem (jand (jushr r23 11) 15) r28), jI (jand (jushr r23 1) 15), jI r66, jI r68]) (st1 := [jI 0]) rfl ?_
                    exact E_retZ (c274 387 rfl) (Or.inl rfl) (hQ _ _ _ hM h)
                · refine L_ps c274 (n := 1) (pc1 := 387) (ls1 := [jR 1000000, jR 0, g2, g3, g4, jR i34, v6, jI v7, jI r23, jI (jand r23 1), jI (jrem (jand (jushr r23 5) 7) r24), jI (jrem (jand (jushr r23 8) 7) r26), jI (jrem (jand (jushr r23 11) 15) r28), jI (jand (jushr r23 1) 15), jI r66, jI r68]) (st1 := [jI 0]) rfl ?_
                  exact E_retZ (c274 387 rfl) (Or.inl rfl) (hQ _ _ _ hM h)
              · exact k_Lw_law_j388 hg2 hg3 hg4 rfl rfl rfl rfl rfl rfl hv6 hM hQ hW68 h
            · refine L_ps c274 (n := 2) (pc1 := 395) (ls1 := [jR 1000000, jR 0, g2, g3, g4, jR i34, v6, jI v7, jI r23, jI (jand r23 1), jI (jrem (jand (jushr r23 5) 7) r24), jI (jrem (jand (jushr r23 8) 7) r26), jI (jrem (jand (jushr r23 11) 15) r28), jI (jand (jushr r23 1) 15), g14, g15]) (st1 := [jI 11, jI (jand (jushr r23 1) 15)]) rfl ?_
              refine L_nb (p1 := 446) (p2 := 398) (c274 395 rfl) rfl jc_ge h (fun h => ?_) (fun h => ?_)
              · refine L_ps c274 (n := 1) (pc1 := 399) (ls1 := [jR 1000000, jR 0, g2, g3, g4, jR i34, v6, jI v7, jI r23, jI (jand r23 1), jI (jrem (jand (jushr r23 5) 7) r24), jI (jrem (jand (jushr r23 8) 7) r26), jI (jrem (jand (jushr r23 11) 15) r28), jI (jand (jushr r23 1) 15), g14, g15]) (st1 := [jR 0]) rfl ?_
                refine E_oI (c274 399 rfl) (js_v rfl ((R2_ob hM).trans jt79)) rfl hM (fun Q X h => k_OB_termCount hM.1 h) h (fun r74 M s75 hM h => ?_)
                refine L_ps c274 (n := 1) (pc1 := 404) (ls1 := [jR 1000000, jR 0, g2, g3, g4, jR i34, v6, jI v7, jI r23, jI (jand r23 1), jI (jrem (jand (jushr r23 5) 7) r24), jI (jrem (jand (jushr r23 8) 7) r26), jI (jrem (jand (jushr r23 11) 15) r28), jI (jand (jushr r23 1) 15), g14, g15]) (st1 := [jI 6, jI r74]) rfl ?_
                refine L_nb (p1 := 650) (p2 := 407) (c274 404 rfl) rfl jc_ge h (fun h => ?_) (fun h => ?_)
                · refine L_ps c274 (n := 3) (pc1 := 412) (ls1 := [jR 1000000, jR 0, g2, g3, g4, jR i34, v6, jI v7, jI r23, jI (jand r23 1), jI (jrem (jand (jushr r23 5) 7) r24), jI (jrem (jand (jushr r23 8) 7) r26), jI (jrem (jand (jushr r23 11) 15) r28), jI (jand (jushr r23 1) 15), g14, g15]) (st1 := [jI (jrem (jand (jushr r23 11) 15) r28), jI (jrem (jand (jushr r23 5) 7) r24), jR 0]) rfl ?_
                  refine E_oI (c274 412 rfl) (js_v rfl ((R2_ob hM).trans jt136)) rfl hM (fun Q X h => k_OB_copySubterm hM.1 h) h (fun r76 M s77 hM h => ?_)
                  refine L_ps c274 (n := 3) (pc1 := 419) (ls1 := [jR 1000000, jR 0, g2, g3, g4, jR i34, v6, jI v7, jI r23, jI (jand r23 1), jI (jrem (jand (jushr r23 5) 7) r24), jI (jrem (jand (jushr r23 8) 7) r26), jI (jrem (jand (jushr r23 11) 15) r28), jI (jand (jushr r23 1) 15), g14, g15]) (st1 := [jI 1, jR i34, jX (.long ((Int32.ofInt r76).toInt64))]) rfl ?_
                  refine E_rJ (c274 419 rfl) hM h (fun y78 h => ?_)
                  refine L_ps c274 (n := 1) (pc1 := 421) (ls1 := [jR 1000000, jR 0, g2, g3, g4, jR i34, v6, jI v7, jI r23, jI (jand r23 1), jI (jrem (jand (jushr r23 5) 7) r24), jI (jrem (jand (jushr r23 8) 7) r26), jI (jrem (jand (jushr r23 11) 15) r28), jI (jand (jushr r23 1) 15), g14, g15]) (st1 := [jI ((lg_cmp ((Int32.ofInt r76).toInt64) y78).toInt)]) rfl ?_
                  refine L_nb (p1 := 444) (p2 := 424) (c274 421 rfl) rfl jc_ne h (fun h => ?_) (fun h => ?_)
                  · refine L_ps c274 (n := 3) (pc1 := 428) (ls1 := [jR 1000000, jR 0, g2, g3, g4, jR i34, v6, jI v7, jI r23, jI (jand r23 1), jI (jrem (jand (jushr r23 5) 7) r24), jI (jrem (jand (jushr r23 8) 7) r26), jI (jrem (jand (jushr r23 11) 15) r28), jI (jand (jushr r23 1) 15), g14, g15]) (st1 := [jI 1, jR i34, jR 0]) rfl ?_
                    refine E_rJ (c274 428 rfl) hM h (fun y79 h => ?_)
                    refine L_ps c274 (n := 1) (pc1 := 430) (ls1 := [jR 1000000, jR 0, g2, g3, g4, jR i34, v6, jI v7, jI r23, jI (jand r23 1), jI (jrem (jand (jushr r23 5) 7) r24), jI (jrem (jand (jushr r23 8) 7) r26), jI (jrem (jand (jushr r23 11) 15) r28), jI (jand (jushr r23 1) 15), g14, g15]) (st1 := [jI (y79.toInt32.toInt), jR 0]) rfl ?_
                    refine E_oI (c274 430 rfl) (js_v rfl ((R2_ob hM).trans jt80)) rfl hM (fun Q X h => k_OB_termSize hM.1 h) h (fun r80 M s81 hM h => ?_)
                    refine L_ps c274 (n := 3) (pc1 := 438) (ls1 := [jR 1000000, jR 0, g2, g3, g4, jR i34, v6, jI v7, jI r23, jI (jand r23 1), jI (jrem (jand (jushr r23 5) 7) r24), jI (jrem (jand (jushr r23 8) 7) r26), jI (jrem (jand (jushr r23 11) 15) r28), jI (jand (jushr r23 1) 15), g14, g15]) (st1 := [jI (jrem (jand (jushr r23 11) 15) r28), jI (jrem (jand (jushr r23 5) 7) r24), jR 0, jI r80]) rfl ?_
                    refine E_oI (c274 438 rfl) (js_v rfl ((R2_ob hM).trans jt83)) rfl hM (fun Q X h => k_OB_subtermSize hM.1 h) h (fun r82 M s83 hM h => ?_)
                    refine L_br (p1 := 650) (p2 := 444) (c274 441 rfl) rfl jc_eq h (fun h => ?_) (fun h => ?_)
                    · exact k_Lw_law_j650 hg2 hg3 hg4 rfl rfl rfl rfl hg14 rfl hv6 hM hQ hW68 h
                    · refine L_ps c274 (n := 1) (pc1 := 445) (ls1 := [jR 1000000, jR 0, g2, g3, g4, jR i34, v6, jI v7, jI r23, jI (jand r23 1), jI (jrem (jand (jushr r23 5) 7) r24), jI (jrem (jand (jushr r23 8) 7) r26), jI (jrem (jand (jushr r23 11) 15) r28), jI (jand (jushr r23 1) 15), g14, g15]) (st1 := [jI 0]) rfl ?_
                      exact E_retZ (c274 445 rfl) (Or.inl rfl) (hQ _ _ _ hM h)
                  · refine L_ps c274 (n := 1) (pc1 := 445) (ls1 := [jR 1000000, jR 0, g2, g3, g4, jR i34, v6, jI v7, jI r23, jI (jand r23 1), jI (jrem (jand (jushr r23 5) 7) r24), jI (jrem (jand (jushr r23 8) 7) r26), jI (jrem (jand (jushr r23 11) 15) r28), jI (jand (jushr r23 1) 15), g14, g15]) (st1 := [jI 0]) rfl ?_
                    exact E_retZ (c274 445 rfl) (Or.inl rfl) (hQ _ _ _ hM h)
                · exact k_Lw_law_j650 hg2 hg3 hg4 rfl rfl rfl rfl hg14 rfl hv6 hM hQ hW68 h
              · refine L_ps c274 (n := 2) (pc1 := 450) (ls1 := [jR 1000000, jR 0, g2, g3, g4, jR i34, v6, jI v7, jI r23, jI (jand r23 1), jI (jrem (jand (jushr r23 5) 7) r24), jI (jrem (jand (jushr r23 8) 7) r26), jI (jrem (jand (jushr r23 11) 15) r28), jI (jand (jushr r23 1) 15), g14, g15]) (st1 := [jI 11, jI (jand (jushr r23 1) 15)]) rfl ?_
                refine L_nb (p1 := 504) (p2 := 453) (c274 450 rfl) rfl jc_ne h (fun h => ?_) (fun h => ?_)
                · refine L_ps c274 (n := 2) (pc1 := 456) (ls1 := [jR 1000000, jR 0, g2, g3, g4, jR i34, v6, jI v7, jI r23, jI (jand r23 1), jI (jrem (jand (jushr r23 5) 7) r24), jI (jrem (jand (jushr r23 8) 7) r26), jI (jrem (jand (jushr r23 11) 15) r28), jI (jand (jushr r23 1) 15), g14, g15]) (st1 := [jI (jrem (jand (jushr r23 5) 7) r24), jR 0]) rfl ?_
                  refine E_oI (c274 456 rfl) (js_v rfl ((R2_ob hM).trans jt80)) rfl hM (fun Q X h => k_OB_termSize hM.1 h) h (fun r84 M s85 hM h => ?_)
                  refine L_ps c274 (n := 3) (pc1 := 464) (ls1 := [jR 1000000, jR 0, g2, g3, g4, jR i34, v6, jI v7, jI r23, jI (jand r23 1), jI (jrem (jand (jushr r23 5) 7) r24), jI (jrem (jand (jushr r23 8) 7) r26), jI (jrem (jand (jushr r23 11) 15) r28), jI (jand (jushr r23 1) 15), g14, g15]) (st1 := [jI (jrem (jand (jushr r23 11) 15) r28), jI (jrem (jand (jushr r23 5) 7) r24), jR 0, jI r84]) rfl ?_
                  refine E_oI (c274 464 rfl) (js_v rfl ((R2_ob hM).trans jt83)) rfl hM (fun Q X h => k_OB_subtermSize hM.1 h) h (fun r86 M s87 hM h => ?_)
                  refine L_ps c274 (n := 3) (pc1 := 471) (ls1 := [jR 1000000, jR 0, g2, g3, g4, jR i34, v6, jI v7, jI r23, jI (jand r23 1), jI (jrem (jand (jushr r23 5) 7) r24), jI (jrem (jand (jushr r23 8) 7) r26), jI (jrem (jand (jushr r23 11) 15) r28), jI (jand (jushr r23 1) 15), g14, g15]) (st1 := [jI (jrem (jand (jushr r23 8) 7) r26), jR 0, jI (wr (r84 - r86))]) rfl ?_
                  refine E_oI (c274 471 rfl) (js_v rfl ((R2_ob hM).trans jt80)) rfl hM (fun Q X h => k_OB_termSize hM.1 h) h (fun r88 M s89 hM h => ?_)
                  refine L_ps c274 (n := 4) (pc1 := 481) (ls1 := [jR 1000000, jR 0, g2, g3, g4, jR i34, v6, jI v7, jI r23, jI (jand r23 1), jI (jrem (jand (jushr r23 5) 7) r24), jI (jrem (jand (jushr r23 8) 7) r26), jI (jrem (jand (jushr r23 11) 15) r28), jI (jand (jushr r23 1) 15), jI (wr ((wr (r84 - r86)) + r88)), g15]) (st1 := [jI 80, jI (wr ((wr (r84 - r86)) + r88))]) rfl ?_
                  refine L_br (p1 := 501) (p2 := 484) (c274 481 rfl) rfl jc_gt h (fun h => ?_) (fun h => ?_)
                  · exact k_Lw_law_j501 hg2 hg3 hg4 rfl rfl rfl rfl rfl rfl hv6 hM hQ hW68 h
                  · refine L_ps c274 (n := 4) (pc1 := 491) (ls1 := [jR 1000000, jR 0, g2, g3, g4, jR i34, v6, jI v7, jI r23, jI (jand r23 1), jI (jrem (jand (jushr r23 5) 7) r24), jI (jrem (jand (jushr r23 8) 7) r26), jI (jrem (jand (jushr r23 11) 15) r28), jI (jand (jushr r23 1) 15), jI (wr ((wr (r84 - r86)) + r88)), g15]) (st1 := [jI (jrem (jand (jushr r23 8) 7) r26), jI (jrem (jand (jushr r23 11) 15) r28), jI (jrem (jand (jushr r23 5) 7) r24), jR 0]) rfl ?_
                    refine E_oI (c274 491 rfl) (js_v rfl ((R2_ob hM).trans jt137)) rfl hM (fun Q X h => k_OB_replaceSubterm hM.1 h) h (fun r90 M s91 hM h => ?_)
                    refine L_ps c274 (n := 1) (pc1 := 496) (ls1 := [jR 1000000, jR 0, g2, g3, g4, jR i34, v6, jI v7, jI r23, jI (jand r23 1), jI (jrem (jand (jushr r23 5) 7) r24), jI (jrem (jand (jushr r23 8) 7) r26), jI (jrem (jand (jushr r23 11) 15) r28), jI (jand (jushr r23 1) 15), jI (wr ((wr (r84 - r86)) + r88)), g15]) (st1 := [jI (wr ((wr (r84 - r86)) + r88)), jI r90]) rfl ?_
                    refine L_br (p1 := 501) (p2 := 499) (c274 496 rfl) rfl jc_eq h (fun h => ?_) (fun h => ?_)
                    · exact k_Lw_law_j501 hg2 hg3 hg4 rfl rfl rfl rfl rfl rfl hv6 hM hQ hW68 h
                    · refine L_ps c274 (n := 1) (pc1 := 500) (ls1 := [jR 1000000, jR 0, g2, g3, g4, jR i34, v6, jI v7, jI r23, jI (jand r23 1), jI (jrem (jand (jushr r23 5) 7) r24), jI (jrem (jand (jushr r23 8) 7) r26), jI (jrem (jand (jushr r23 11) 15) r28), jI (jand (jushr r23 1) 15), jI (wr ((wr (r84 - r86)) + r88)), g15]) (st1 := [jI 0]) rfl ?_
                      exact E_retZ (c274 500 rfl) (Or.inl rfl) (hQ _ _ _ hM h)
                · refine L_ps c274 (n := 2) (pc1 := 508) (ls1 := [jR 1000000, jR 0, g2, g3, g4, jR i34, v6, jI v7, jI r23, jI (jand r23 1), jI (jrem (jand (jushr r23 5) 7) r24), jI (jrem (jand (jushr r23 8) 7) r26), jI (jrem (jand (jushr r23 11) 15) r28), jI (jand (jushr r23 1) 15), g14, g15]) (st1 := [jI 12, jI (jand (jushr r23 1) 15)]) rfl ?_
                  refine L_nb (p1 := 562) (p2 := 511) (c274 508 rfl) rfl jc_ne h (fun h => ?_) (fun h => ?_)
                  · refine L_ps c274 (n := 3) (pc1 := 516) (ls1 := [jR 1000000, jR 0, g2, g3, g4, jR i34, v6, jI v7, jI r23, jI (jand r23 1), jI (jrem (jand (jushr r23 5) 7) r24), jI (jrem (jand (jushr r23 8) 7) r26), jI (jrem (jand (jushr r23 11) 15) r28), jI (jand (jushr r23 1) 15), g14, g15]) (st1 := [jI (jrem (jand (jushr r23 11) 15) r28), jI (jrem (jand (jushr r23 5) 7) r24), jR 0]) rfl ?_
                    refine E_oI (c274 516 rfl) (js_v rfl ((R2_ob hM).trans jt87)) rfl hM (fun Q X h => k_OB_ruleAt hM.1 h) h (fun r92 M s93 hM h => ?_)
                    refine L_ps c274 (n := 2) (pc1 := 523) (ls1 := [jR 1000000, jR 0, g2, g3, g4, jR i34, v6, jI v7, jI r23, jI (jand r23 1), jI (jrem (jand (jushr r23 5) 7) r24), jI (jrem (jand (jushr r23 8) 7) r26), jI (jrem (jand (jushr r23 11) 15) r28), jI (jand (jushr r23 1) 15), jI r92, g15]) (st1 := [jI r92]) rfl ?_
                    refine L_br (p1 := 530) (p2 := 526) (c274 523 rfl) rfl jc_lt h (fun h => ?_) (fun h => ?_)
                    · refine L_ps c274 (n := 1) (pc1 := 531) (ls1 := [jR 1000000, jR 0, g2, g3, g4, jR i34, v6, jI v7, jI r23, jI (jand r23 1), jI (jrem (jand (jushr r23 5) 7) r24), jI (jrem (jand (jushr r23 8) 7) r26), jI (jrem (jand (jushr r23 11) 15) r28), jI (jand (jushr r23 1) 15), jI r92, g15]) (st1 := [jI 0]) rfl ?_
                      exact k_Lw_law_j531 hg2 hg3 hg4 rfl rfl rfl hv6 hM hQ hW68 h
                    · refine L_ps c274 (n := 2) (pc1 := 531) (ls1 := [jR 1000000, jR 0, g2, g3, g4, jR i34, v6, jI v7, jI r23, jI (jand r23 1), jI (jrem (jand (jushr r23 5) 7) r24), jI (jrem (jand (jushr r23 8) 7) r26), jI (jrem (jand (jushr r23 11) 15) r28), jI (jand (jushr r23 1) 15), jI r92, g15]) (st1 := [jI 1]) rfl ?_
                      exact k_Lw_law_j531 hg2 hg3 hg4 rfl rfl rfl hv6 hM hQ hW68 h
                  · refine L_ps c274 (n := 2) (pc1 := 566) (ls1 := [jR 1000000, jR 0, g2, g3, g4, jR i34, v6, jI v7, jI r23, jI (jand r23 1), jI (jrem (jand (jushr r23 5) 7) r24), jI (jrem (jand (jushr r23 8) 7) r26), jI (jrem (jand (jushr r23 11) 15) r28), jI (jand (jushr r23 1) 15), g14, g15]) (st1 := [jI 13, jI (jand (jushr r23 1) 15)]) rfl ?_
                    refine L_nb (p1 := 608) (p2 := 569) (c274 566 rfl) rfl jc_ne h (fun h => ?_) (fun h => ?_)
                    · refine L_ps c274 (n := 1) (pc1 := 570) (ls1 := [jR 1000000, jR 0, g2, g3, g4, jR i34, v6, jI v7, jI r23, jI (jand r23 1), jI (jrem (jand (jushr r23 5) 7) r24), jI (jrem (jand (jushr r23 8) 7) r26), jI (jrem (jand (jushr r23 11) 15) r28), jI (jand (jushr r23 1) 15), g14, g15]) (st1 := [jR 0]) rfl ?_
                      refine E_oI (c274 570 rfl) (js_v rfl ((R2_ob hM).trans jt77)) rfl hM (fun Q X h => k_OB_ruleCount hM.1 h) h (fun r96 M s97 hM h => ?_)
                      refine L_ps c274 (n := 6) (pc1 := 581) (ls1 := [jR 1000000, jR 0, g2, g3, g4, jR i34, v6, jI v7, jI r23, jI (jand r23 1), jI (jrem (jand (jushr r23 5) 7) r24), jI (jrem (jand (jushr r23 8) 7) r26), jI (jrem (jand (jushr r23 11) 15) r28), jI (jand (jushr r23 1) 15), jI (wr (r96 - 1)), g15]) (st1 := [jI (wr (r96 - 1)), jI 0, jR 0]) rfl ?_
                      refine E_oI (c274 581 rfl) (js_v rfl ((R2_ob hM).trans jt138)) rfl hM (fun Q X h => k_OB_swapRules hM.1 h) h (fun r98 M s99 hM h => ?_)
                      refine L_br (p1 := 603) (p2 := 587) (c274 584 rfl) rfl jc_lt h (fun h => ?_) (fun h => ?_)
                      · refine L_ps c274 (n := 1) (pc1 := 604) (ls1 := [jR 1000000, jR 0, g2, g3, g4, jR i34, v6, jI v7, jI r23, jI (jand r23 1), jI (jrem (jand (jushr r23 5) 7) r24), jI (jrem (jand (jushr r23 8) 7) r26), jI (jrem (jand (jushr r23 11) 15) r28), jI (jand (jushr r23 1) 15), jI (wr (r96 - 1)), g15]) (st1 := [jI 0]) rfl ?_
                        exact E_retZ (c274 604 rfl) (Or.inl rfl) (hQ _ _ _ hM h)
                      · refine L_ps c274 (n := 1) (pc1 := 588) (ls1 := [jR 1000000, jR 0, g2, g3, g4, jR i34, v6, jI v7, jI r23, jI (jand r23 1), jI (jrem (jand (jushr r23 5) 7) r24), jI (jrem (jand (jushr r23 8) 7) r26), jI (jrem (jand (jushr r23 11) 15) r28), jI (jand (jushr r23 1) 15), jI (wr (r96 - 1)), g15]) (st1 := [jR 0]) rfl ?_
                        refine E_oI (c274 588 rfl) (js_v rfl ((R2_ob hM).trans jt142)) rfl hM (fun Q X h => k_OB_undo hM.1 h) h (fun r100 M s101 hM h => ?_)
                        refine L_br (p1 := 605) (p2 := 594) (c274 591 rfl) rfl jc_eq h (fun h => ?_) (fun h => ?_)
                        · exact k_Lw_law_j605 hg2 hg3 hg4 rfl rfl rfl rfl rfl rfl hv6 hM hQ hW68 h
                        · refine L_ps c274 (n := 1) (pc1 := 595) (ls1 := [jR 1000000, jR 0, g2, g3, g4, jR i34, v6, jI v7, jI r23, jI (jand r23 1), jI (jrem (jand (jushr r23 5) 7) r24), jI (jrem (jand (jushr r23 8) 7) r26), jI (jrem (jand (jushr r23 11) 15) r28), jI (jand (jushr r23 1) 15), jI (wr (r96 - 1)), g15]) (st1 := [jR 0]) rfl ?_
                          refine E_opI (c274 595 rfl) (js_v rfl ((R2_ob hM).trans jt144)) rfl hM (fun Q X h => PO_w (k_OB_undoCount hM.1 h)) h (fun r102 M hM h => ?_)
                          refine L_ps c274 (n := 1) (pc1 := 600) (ls1 := [jR 1000000, jR 0, g2, g3, g4, jR i34, v6, jI v7, jI r23, jI (jand r23 1), jI (jrem (jand (jushr r23 5) 7) r24), jI (jrem (jand (jushr r23 8) 7) r26), jI (jrem (jand (jushr r23 11) 15) r28), jI (jand (jushr r23 1) 15), jI (wr (r96 - 1)), g15]) (st1 := [jI 7, jI r102]) rfl ?_
                          refine L_nb (p1 := 605) (p2 := 603) (c274 600 rfl) rfl jc_le h (fun h => ?_) (fun h => ?_)
                          · refine L_ps c274 (n := 1) (pc1 := 604) (ls1 := [jR 1000000, jR 0, g2, g3, g4, jR i34, v6, jI v7, jI r23, jI (jand r23 1), jI (jrem (jand (jushr r23 5) 7) r24), jI (jrem (jand (jushr r23 8) 7) r26), jI (jrem (jand (jushr r23 11) 15) r28), jI (jand (jushr r23 1) 15), jI (wr (r96 - 1)), g15]) (st1 := [jI 0]) rfl ?_
                            exact E_retZ (c274 604 rfl) (Or.inl rfl) (hQ _ _ _ hM h)
                          · exact k_Lw_law_j605 hg2 hg3 hg4 rfl rfl rfl rfl rfl rfl hv6 hM hQ hW68 h
                    · refine L_ps c274 (n := 1) (pc1 := 609) (ls1 := [jR 1000000, jR 0, g2, g3, g4, jR i34, v6, jI v7, jI r23, jI (jand r23 1), jI (jrem (jand (jushr r23 5) 7) r24), jI (jrem (jand (jushr r23 8) 7) r26), jI (jrem (jand (jushr r23 11) 15) r28), jI (jand (jushr r23 1) 15), g14, g15]) (st1 := [jR 0]) rfl ?_
                      refine E_oI (c274 609 rfl) (js_v rfl ((R2_ob hM).trans jt79)) rfl hM (fun Q X h => k_OB_termCount hM.1 h) h (fun r103 M s104 hM h => ?_)
                      refine L_ps c274 (n := 1) (pc1 := 613) (ls1 := [jR 1000000, jR 0, g2, g3, g4, jR i34, v6, jI v7, jI r23, jI (jand r23 1), jI (jrem (jand (jushr r23 5) 7) r24), jI (jrem (jand (jushr r23 8) 7) r26), jI (jrem (jand (jushr r23 11) 15) r28), jI (jand (jushr r23 1) 15), g14, g15]) (st1 := [jI 2, jI r103]) rfl ?_
                      refine L_nb (p1 := 650) (p2 := 616) (c274 613 rfl) rfl jc_le h (fun h => ?_) (fun h => ?_)
                      · refine L_ps c274 (n := 2) (pc1 := 619) (ls1 := [jR 1000000, jR 0, g2, g3, g4, jR i34, v6, jI v7, jI r23, jI (jand r23 1), jI (jrem (jand (jushr r23 5) 7) r24), jI (jrem (jand (jushr r23 8) 7) r26), jI (jrem (jand (jushr r23 11) 15) r28), jI (jand (jushr r23 1) 15), g14, g15]) (st1 := [jI (jrem (jand (jushr r23 5) 7) r24), jR 0]) rfl ?_
                        refine E_oI (c274 619 rfl) (js_v rfl ((R2_ob hM).trans jt140)) rfl hM (fun Q X h => k_OB_removeTerm hM.1 h) h (fun r105 M s106 hM h => ?_)
                        refine L_ps c274 (n := 3) (pc1 := 626) (ls1 := [jR 1000000, jR 0, g2, g3, g4, jR i34, v6, jI v7, jI r23, jI (jand r23 1), jI (jrem (jand (jushr r23 5) 7) r24), jI (jrem (jand (jushr r23 8) 7) r26), jI (jrem (jand (jushr r23 11) 15) r28), jI (jand (jushr r23 1) 15), g14, g15]) (st1 := [jI 1, jR i34, jX (.long ((Int32.ofInt r105).toInt64))]) rfl ?_
                        refine E_rJ (c274 626 rfl) hM h (fun y107 h => ?_)
                        refine L_ps c274 (n := 3) (pc1 := 630) (ls1 := [jR 1000000, jR 0, g2, g3, g4, jR i34, v6, jI v7, jI r23, jI (jand r23 1), jI (jrem (jand (jushr r23 5) 7) r24), jI (jrem (jand (jushr r23 8) 7) r26), jI (jrem (jand (jushr r23 11) 15) r28), jI (jand (jushr r23 1) 15), g14, g15]) (st1 := [jI ((lg_cmp ((Int32.ofInt r105).toInt64) (y107 - (Int64.ofNat 1))).toInt)]) rfl ?_
                        refine L_nb (p1 := 648) (p2 := 633) (c274 630 rfl) rfl jc_ne h (fun h => ?_) (fun h => ?_)
                        · refine L_ps c274 (n := 1) (pc1 := 634) (ls1 := [jR 1000000, jR 0, g2, g3, g4, jR i34, v6, jI v7, jI r23, jI (jand r23 1), jI (jrem (jand (jushr r23 5) 7) r24), jI (jrem (jand (jushr r23 8) 7) r26), jI (jrem (jand (jushr r23 11) 15) r28), jI (jand (jushr r23 1) 15), g14, g15]) (st1 := [jR 0]) rfl ?_
                          refine E_oI (c274 634 rfl) (js_v rfl ((R2_ob hM).trans jt79)) rfl hM (fun Q X h => k_OB_termCount hM.1 h) h (fun r108 M s109 hM h => ?_)
                          refine L_ps c274 (n := 3) (pc1 := 641) (ls1 := [jR 1000000, jR 0, g2, g3, g4, jR i34, v6, jI v7, jI r23, jI (jand r23 1), jI (jrem (jand (jushr r23 5) 7) r24), jI (jrem (jand (jushr r23 8) 7) r26), jI (jrem (jand (jushr r23 11) 15) r28), jI (jand (jushr r23 1) 15), g14, g15]) (st1 := [jI 1, jR i34, jX (.long ((Int32.ofInt r108).toInt64))]) rfl ?_
                          refine E_rJ (c274 641 rfl) hM h (fun y110 h => ?_)
                          refine L_ps c274 (n := 3) (pc1 := 645) (ls1 := [jR 1000000, jR 0, g2, g3, g4, jR i34, v6, jI v7, jI r23, jI (jand r23 1), jI (jrem (jand (jushr r23 5) 7) r24), jI (jrem (jand (jushr r23 8) 7) r26), jI (jrem (jand (jushr r23 11) 15) r28), jI (jand (jushr r23 1) 15), g14, g15]) (st1 := [jI ((lg_cmp ((Int32.ofInt r108).toInt64) (y110 - (Int64.ofNat 1))).toInt)]) rfl ?_
                          refine L_br (p1 := 650) (p2 := 648) (c274 645 rfl) rfl jc_eq h (fun h => ?_) (fun h => ?_)
                          · exact k_Lw_law_j650 hg2 hg3 hg4 rfl rfl rfl rfl hg14 rfl hv6 hM hQ hW68 h
                          · refine L_ps c274 (n := 1) (pc1 := 649) (ls1 := [jR 1000000, jR 0, g2, g3, g4, jR i34, v6, jI v7, jI r23, jI (jand r23 1), jI (jrem (jand (jushr r23 5) 7) r24), jI (jrem (jand (jushr r23 8) 7) r26), jI (jrem (jand (jushr r23 11) 15) r28), jI (jand (jushr r23 1) 15), g14, g15]) (st1 := [jI 0]) rfl ?_
                            exact E_retZ (c274 649 rfl) (Or.inl rfl) (hQ _ _ _ hM h)
                        · refine L_ps c274 (n := 1) (pc1 := 649) (ls1 := [jR 1000000, jR 0, g2, g3, g4, jR i34, v6, jI v7, jI r23, jI (jand r23 1), jI (jrem (jand (jushr r23 5) 7) r24), jI (jrem (jand (jushr r23 8) 7) r26), jI (jrem (jand (jushr r23 11) 15) r28), jI (jand (jushr r23 1) 15), g14, g15]) (st1 := [jI 0]) rfl ?_
                          exact E_retZ (c274 649 rfl) (Or.inl rfl) (hQ _ _ _ hM h)
                      · exact k_Lw_law_j650 hg2 hg3 hg4 rfl rfl rfl rfl hg14 rfl hv6 hM hQ hW68 h
    · refine L_ps c274 (n := 1) (pc1 := 171) (ls1 := [jR 1000000, jR 0, g2, g3, g4, jR i34, v6, jI v7, jI r23, jI (jand r23 1), jI (jrem (jand (jushr r23 5) 7) r24), jI (jrem (jand (jushr r23 8) 7) r26), jI (jrem (jand (jushr r23 11) 15) r28), g13, g14, g15]) (st1 := [jI 0]) rfl ?_
      exact E_retZ (c274 171 rfl) (Or.inl rfl) (hQ _ _ _ hM h)
  · refine L_ps c274 (n := 1) (pc1 := 709) (ls1 := [jR 1000000, jR 0, g2, g3, g4, v5, v6, jI v7, g8, g9, g10, g11, g12, g13, g14, g15]) (st1 := [jR 0]) rfl ?_
    refine E_oI (c274 709 rfl) (js_v rfl ((R2_ob hM).trans jt125)) rfl hM (fun Q X h => k_OB_unjoinedPairs hM.1 h) h (fun r111 M s112 hM h => ?_)
    refine L_ps c274 (n := 1) (pc1 := 713) (ls1 := [jR 1000000, jR 0, g2, g3, g4, v5, v6, jI v7, g8, g9, g10, g11, g12, g13, g14, g15]) (st1 := [jR 0, jI r111]) rfl ?_
    refine E_oI (c274 713 rfl) (js_v rfl ((R2_ob hM).trans jt97)) rfl hM (fun Q X h => k_OB_criticalPairCount hM.1 h) h (fun r113 M s114 hM h => ?_)
    refine L_br (p1 := 723) (p2 := 719) (c274 716 rfl) rfl jc_gt h (fun h => ?_) (fun h => ?_)
    · refine L_ps c274 (n := 1) (pc1 := 724) (ls1 := [jR 1000000, jR 0, g2, g3, g4, v5, v6, jI v7, g8, g9, g10, g11, g12, g13, g14, g15]) (st1 := [jI 0]) rfl ?_
      exact E_retZ (c274 724 rfl) (Or.inl rfl) (hQ _ _ _ hM h)
    · refine L_ps c274 (n := 2) (pc1 := 724) (ls1 := [jR 1000000, jR 0, g2, g3, g4, v5, v6, jI v7, g8, g9, g10, g11, g12, g13, g14, g15]) (st1 := [jI 1]) rfl ?_
      exact E_retZ (c274 724 rfl) (Or.inr rfl) (hQ _ _ _ hM h)
set_option maxRecDepth 100000 in
set_option maxHeartbeats 4000000 in
theorem k_Lw_law_l68 {v5 : JV} {v6 : JV} {v7 : Int} {s : LSt} {M : JM} {P : JO → JM → Prop} {g2 : JV} {g3 : JV} {g4 : JV} {g8 : JV} {g9 : JV} {g10 : JV} {g11 : JV} {g12 : JV} {g13 : JV} {g14 : JV} {g15 : JV} {Q : Int → LSt → Prop} (hg2 : jc2 g2 = false) (hg3 : jc2 g3 = false) (hg4 : jc2 g4 = false) (hg8 : jc2 g8 = false) (hg9 : jc2 g9 = false) (hg10 : jc2 g10 = false) (hg11 : jc2 g11 = false) (hg12 : jc2 g12 = false) (hg13 : jc2 g13 = false) (hg14 : jc2 g14 = false) (hv5 : jnl v5 = true) (hv6 : jnl v6 = true) (hM : R2 s M) (hQ : ∀ (r : Int) (M1 : JM) (s1 : LSt), R2 s1 M1 → Q r s1 → P (.inl (some (.inl r))) M1) (h : d_Lw_law_l68 v5 v6 v7 s Q) : JX 274 68 [jR 1000000, jR 0, g2, g3, g4, v5, v6, jI v7, g8, g9, g10, g11, g12, g13, g14, g15] [] M P := by
  refine h (fun v7 s => ∀ (g2 : JV) (g3 : JV) (g4 : JV) (g8 : JV) (g9 : JV) (g10 : JV) (g11 : JV) (g12 : JV) (g13 : JV) (g14 : JV) (g15 : JV) (M : JM), jc2 g2 = false → jc2 g3 = false → jc2 g4 = false → jc2 g8 = false → jc2 g9 = false → jc2 g10 = false → jc2 g11 = false → jc2 g12 = false → jc2 g13 = false → jc2 g14 = false → R2 s M → JX 274 68 [jR 1000000, jR 0, g2, g3, g4, v5, v6, jI v7, g8, g9, g10, g11, g12, g13, g14, g15] [] M P) ?_ _ _ _ _ _ _ _ _ _ _ _ _ hg2 hg3 hg4 hg8 hg9 hg10 hg11 hg12 hg13 hg14 hM
  intro v7 s h g2 g3 g4 g8 g9 g10 g11 g12 g13 g14 g15 M hg2 hg3 hg4 hg8 hg9 hg10 hg11 hg12 hg13 hg14 hM
  exact k_Lw_law_b68 hg2 hg3 hg4 hg8 hg9 hg10 hg11 hg12 hg13 hg14 hv5 hv6 hM hQ (fun v7 g2 g3 g4 g8 g9 g10 g11 g12 g13 g14 g15 M s hg2 hg3 hg4 hg8 hg9 hg10 hg11 hg12 hg13 hg14 hM h => h g2 g3 g4 g8 g9 g10 g11 g12 g13 g14 g15 M hg2 hg3 hg4 hg8 hg9 hg10 hg11 hg12 hg13 hg14 hM) h
set_option maxRecDepth 100000 in
set_option maxHeartbeats 4000000 in
theorem k_Lw_law {s : LSt} {M : JM} {Q : Int → LSt → Prop} (hM : R2 s M) (h : d_Lw_law s Q) : JX 274 8 [jR 1000000, jR 0, jU, jU, jU, jU, jU, jU, jU, jU, jU, jU, jU, jU, jU, jU] [] M (P2 (QI2 Q)) := by
  unfold d_Lw_law at h
  show JX 274 8 [jR 1000000, jR 0, jU, jU, jU, jU, jU, jU, jU, jU, jU, jU, jU, jU, jU, jU] [] M (P2 (QI2 Q))
  generalize hP : P2 (QI2 Q) = P
  have hQ : ∀ (r : Int) (M1 : JM) (s1 : LSt), R2 s1 M1 → Q r s1 → P (.inl (some (.inl r))) M1 := by rw [← hP]; exact fun r M1 s1 a b => ⟨s1, a, r, rfl, b⟩
  clear hP
  refine L_ps c274 (n := 1) (pc1 := 10) (ls1 := [jR 1000000, jR 0, jU, jU, jU, jU, jU, jU, jU, jU, jU, jU, jU, jU, jU, jU]) (st1 := [jI 7]) rfl ?_
  refine E_nA (c274 10 rfl) hM h (fun i1 M s2 hM h => ?_)
  refine L_ps c274 (n := 2) (pc1 := 14) (ls1 := [jR 1000000, jR 0, jR i1, jU, jU, jU, jU, jU, jU, jU, jU, jU, jU, jU, jU, jU]) (st1 := [jR 1000000]) rfl ?_
  refine E_cV (pc1 := 17) (c274 14 rfl) (js_t rfl) rfl (k_Lw_sys rfl hM h) (fun x4 M s3 hM hx4 h => ?_)
  refine E_astn (ls1 := [jR 1000000, jR 0, jR i1, x4, jU, jU, jU, jU, jU, jU, jU, jU, jU, jU, jU, jU]) (c274 17 rfl) rfl (Nat.le_of_ble_eq_true rfl) hx4 rfl ?_
  refine E_aldn (c274 18 rfl) rfl hx4 ?_
  show JX 274 19 [jR 1000000, jR 0, jR i1, x4, jU, jU, jU, jU, jU, jU, jU, jU, jU, jU, jU, jU] [x4] M P
  refine L_ps c274 (n := 2) (pc1 := 22) (ls1 := [jR 1000000, jR 0, jR i1, x4, jU, jU, jU, jU, jU, jU, jU, jU, jU, jU, jU, jU]) (st1 := [jI 10, jR 1000000, x4]) rfl ?_
  refine E_cI (pc1 := 25) (c274 22 rfl) (js_t (show ssplit 2 [jI 10, jR 1000000, x4] = some ([jR 1000000, jI 10], [x4]) from ss_v (A := [jI 10, jR 1000000]) (B := [x4]) rfl (al_c rfl (al_c rfl al_n)) (Nat.le_of_ble_eq_true rfl))) rfl (k_Lw_cell rfl hM h) (fun r6 M s5 hM h => ?_)
  refine E_cV (pc1 := 28) (c274 25 rfl) (js_t (show ssplit 2 [jI r6, x4] = some ([x4, jI r6], []) from ss_v (A := [jI r6, x4]) (B := []) rfl (al_c rfl (al_c (jnl_c2 hx4) al_n)) (Nat.le_of_ble_eq_true rfl))) rfl (k_Lw_text hx4 hM h) (fun x8 M s7 hM hx8 h => ?_)
  refine E_ast (ls1 := [jR 1000000, jR 0, jR i1, x4, x8, jU, jU, jU, jU, jU, jU, jU, jU, jU, jU, jU]) (c274 28 rfl) (jnl_c2 hx4) (Nat.le_of_ble_eq_true rfl) hx8 rfl ?_
  refine L_ps c274 (n := 3) (pc1 := 33) (ls1 := [jR 1000000, jR 0, jR i1, x4, x8, jU, jU, jU, jU, jU, jU, jU, jU, jU, jU, jU]) (st1 := [jR i1, jR 0, jR 0]) rfl ?_
  refine E_ald (c274 33 rfl) rfl hx8 ?_
  show JX 274 35 [jR 1000000, jR 0, jR i1, x4, x8, jU, jU, jU, jU, jU, jU, jU, jU, jU, jU, jU] [x8, jR i1, jR 0, jR 0] M P
  refine E_cI (pc1 := 38) (c274 35 rfl) (js_t (show ssplit 3 [x8, jR i1, jR 0, jR 0] = some ([jR 0, jR i1, x8], [jR 0]) from ss_v (A := [x8, jR i1, jR 0]) (B := [jR 0]) rfl (al_c (jnl_c2 hx8) (al_c rfl (al_c rfl al_n))) (Nat.le_of_ble_eq_true rfl))) rfl (k_Lw_told rfl hx8 hM h) (fun r10 M s9 hM h => ?_)
  refine E_oI (c274 38 rfl) (js_v rfl ((R2_ob hM).trans jt13)) rfl hM (fun Q X h => k_OB_parseSystem hM.1 h) h (fun r11 M s12 hM h => ?_)
  refine E_aldn (c274 41 rfl) rfl hx4 ?_
  show JX 274 42 [jR 1000000, jR 0, jR i1, x4, x8, jU, jU, jU, jU, jU, jU, jU, jU, jU, jU, jU] [x4, jI r11] M P
  obtain ⟨i13, e, g⟩ := cR_of h
  clear h
  subst e
  have h := g
  clear g
  refine E_fV (c274 42 rfl) hM (by decide) h (fun x14 hx14 h => ?_)
  obtain ⟨i15, e, g⟩ := cR_of h
  clear h
  subst e
  have h := g
  clear g
  obtain ⟨ht, h⟩ := h
  refine E_cI (pc1 := 48) (c274 45 rfl) (js_v rfl ((rcv_tag hM ht).trans jt187)) rfl (k_AL_size rfl hM h) (fun r17 M s16 hM h => ?_)
  refine L_br (p1 := 53) (p2 := 51) (c274 48 rfl) rfl jc_eq h (fun h => ?_) (fun h => ?_)
  · refine L_ps c274 (n := 1) (pc1 := 55) (ls1 := [jR 1000000, jR 0, jR i1, jR i13, x8, jU, jU, jU, jU, jU, jU, jU, jU, jU, jU, jU]) (st1 := [jI 60]) rfl ?_
    refine E_nA (c274 55 rfl) hM h (fun i18 M s19 hM h => ?_)
    refine L_ast (c274 57 rfl) (jnl_c2 hx8) (Nat.le_of_ble_eq_true rfl) ?_
    show JX 274 59 [jR 1000000, jR 0, jR i1, jR i13, x8, jR i18, jU, jU, jU, jU, jU, jU, jU, jU, jU, jU] [] M P
    refine L_ps c274 (n := 1) (pc1 := 61) (ls1 := [jR 1000000, jR 0, jR i1, jR i13, x8, jR i18, jU, jU, jU, jU, jU, jU, jU, jU, jU, jU]) (st1 := [jI 60]) rfl ?_
    refine E_nA (c274 61 rfl) hM h (fun i20 M s21 hM h => ?_)
    refine L_ps c274 (n := 3) (pc1 := 68) (ls1 := [jR 1000000, jR 0, jR i1, jR i13, x8, jR i18, jR i20, jI 0, jU, jU, jU, jU, jU, jU, jU, jU]) (st1 := []) rfl ?_
    exact k_Lw_law_l68 rfl rfl (jnl_c2 hx8) rfl rfl rfl rfl rfl rfl rfl rfl rfl hM hQ h
  · refine L_ps c274 (n := 1) (pc1 := 52) (ls1 := [jR 1000000, jR 0, jR i1, jR i13, x8, jU, jU, jU, jU, jU, jU, jU, jU, jU, jU, jU]) (st1 := [jI 0]) rfl ?_
    exact E_retZ (c274 52 rfl) (Or.inl rfl) (hQ _ _ _ hM h)
