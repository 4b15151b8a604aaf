/-! that the printed tables do what the texts say, 4 -/
theorem k_Arrays_fillO_b5 {v0 : JV} {v1 : JV} {v3 : Int} {v2 : Int} {s : LSt} {M : JM} {P : JO → JM → Prop} {W5 : Int → LSt → Prop} {Q : LSt → Prop} (hv0 : jnl v0 = true) (hv1 : jnl v1 = true) (hM : R2 s M) (hQ : ∀ (M1 : JM) (s1 : LSt), R2 s1 M1 → Q s1 → P (.inl none) M1) (hW5 : ∀ (v2 : Int) (M1 : JM) (s1 : LSt), R2 s1 M1 → W5 v2 s1 → JX 214 5 [v0, v1, jI v2, jI v3] [] M1 P) (h : d_Arrays_fillO_b5 v0 v1 v3 v2 s W5 Q) : JX 214 5 [v0, v1, jI v2, jI v3] [] M P := by
  unfold d_Arrays_fillO_b5 at h
  refine L_ps c214 (n := 2) (pc1 := 7) (ls1 := [v0, v1, jI v2, jI v3]) (st1 := [jI v3, jI v2]) rfl ?_
  refine L_nb (p1 := 20) (p2 := 10) (c214 7 rfl) rfl jc_ge h (fun h => ?_) (fun h => ?_)
  · refine E_aldn (c214 10 rfl) rfl hv0 ?_
    show JX 214 11 [v0, v1, jI v2, jI v3] [v0] M P
    refine L_ps c214 (n := 1) (pc1 := 12) (ls1 := [v0, v1, jI v2, jI v3]) (st1 := [jI v2, v0]) rfl ?_
    refine E_aldn (c214 12 rfl) rfl hv1 ?_
    show JX 214 13 [v0, v1, jI v2, jI v3] [v1, jI v2, v0] M P
    obtain ⟨i3, e, g⟩ := cR_of h
    clear h
    subst e
    have h := g
    clear g
    refine E_wV (c214 13 rfl) hM h (fun M s4 hM h => ?_)
    refine L_iinc (c214 14 rfl) (jnl_c2 hv1) (Nat.le_of_ble_eq_true rfl) rfl ?_
    show JX 214 17 [jR i3, v1, jI (wr (v2 + 1)), jI v3] [] M P
    refine L_ps c214 (n := 1) (pc1 := 5) (ls1 := [jR i3, v1, jI (wr (v2 + 1)), jI v3]) (st1 := []) rfl ?_
    exact hW5 _ _ _ hM h
  · exact L_end (c214 20 rfl) rfl (hQ _ _ hM h)
theorem k_Arrays_fillO_l5 {v0 : JV} {v1 : JV} {v3 : Int} {v2 : Int} {s : LSt} {M : JM} {P : JO → JM → Prop} {Q : LSt → Prop} (hv0 : jnl v0 = true) (hv1 : jnl v1 = true) (hM : R2 s M) (hQ : ∀ (M1 : JM) (s1 : LSt), R2 s1 M1 → Q s1 → P (.inl none) M1) (h : d_Arrays_fillO_l5 v0 v1 v3 v2 s Q) : JX 214 5 [v0, v1, jI v2, jI v3] [] M P := by
  refine h (fun v2 s => ∀ (M : JM), R2 s M → JX 214 5 [v0, v1, jI v2, jI v3] [] M P) ?_ _ hM
  intro v2 s h M hM
  exact k_Arrays_fillO_b5 hv0 hv1 hM hQ (fun v2 M s hM h => h M hM) h
theorem k_Arrays_fillO {v0 : JV} {v1 : JV} {s : LSt} {M : JM} {Q : LSt → Prop} (hv0 : jnl v0 = true) (hv1 : jnl v1 = true) (hM : R2 s M) (h : d_Arrays_fillO v0 v1 s Q) : JX 214 0 (jargs 214 [v0, v1]) [] M (P2 (QN2 Q)) := by
  unfold d_Arrays_fillO at h
  show JX 214 0 [v0, v1, jU, jU] [] M (P2 (QN2 Q))
  generalize hP : P2 (QN2 Q) = P
  have hQ : ∀ (M1 : JM) (s1 : LSt), R2 s1 M1 → Q s1 → P (.inl none) M1 := by rw [← hP]; exact fun M1 s1 a b => ⟨s1, a, rfl, b⟩
  clear hP
  refine L_ps c214 (n := 1) (pc1 := 1) (ls1 := [v0, v1, jU, jU]) (st1 := [jI 0]) rfl ?_
  refine L_istn (c214 1 rfl) (jnl_c2 hv1) (Nat.le_of_ble_eq_true rfl) ?_
  show JX 214 2 [v0, v1, jI 0, jU] [] M P
  refine E_aldn (c214 2 rfl) rfl hv0 ?_
  show JX 214 3 [v0, v1, jI 0, jU] [v0] M P
  obtain ⟨i1, e, g⟩ := cR_of h
  clear h
  subst e
  have h := g
  clear g
  refine E_aL (c214 3 rfl) hM h (fun z2 h => ?_)
  refine L_ps c214 (n := 1) (pc1 := 5) (ls1 := [jR i1, v1, jI 0, jI z2]) (st1 := []) rfl ?_
  exact k_Arrays_fillO_l5 rfl hv1 hM hQ h
theorem k_Lw_same0_j8 {v0 : JV} {v1 : JV} {s : LSt} {M : JM} {P : JO → JM → Prop} {Q : Int → LSt → Prop} (hv0 : jnl v0 = true) (hv1 : jnl v1 = true) (hM : R2 s M) (hQ : ∀ (r : Int) (M1 : JM) (s1 : LSt), R2 s1 M1 → Q r s1 → P (.inl (some (.inl r))) M1) (h : d_Lw_same_j8 (d_Lw_same 0) v0 v1 s Q) : JX 220 8 [v0, v1] [] M P := by
  unfold d_Lw_same_j8 at h
  refine E_aldn (c220 8 rfl) rfl hv0 ?_
  show JX 220 9 [v0, v1] [v0] M P
  refine E_aldn (c220 9 rfl) rfl hv1 ?_
  show JX 220 10 [v0, v1] [v1, v0] M P
  refine E_cNE (c220 10 rfl) hv1 hv0 (cE_c h) (fun h => ?_) (fun h => ?_)
  · refine L_ps c220 (n := 2) (pc1 := 18) (ls1 := [v0, v1]) (st1 := [jI 1]) rfl ?_
    exact E_retZ (c220 18 rfl) (Or.inr rfl) (hQ _ _ _ hM h)
  · refine L_ps c220 (n := 1) (pc1 := 18) (ls1 := [v0, v1]) (st1 := [jI 0]) rfl ?_
    exact E_retZ (c220 18 rfl) (Or.inl rfl) (hQ _ _ _ hM h)
theorem k_Lw_same0 {v0 : JV} {v1 : JV} {s : LSt} {M : JM} {Q : Int → LSt → Prop} (hv0 : jnl v0 = true) (hv1 : jnl v1 = true) (hM : R2 s M) (h : d_Lw_same 1 v0 v1 s Q) : JX 220 0 (jargs 220 [v0, v1]) [] M (P2 (QI2 Q)) := by
  have h : d_Lw_same_F (d_Lw_same 0) v0 v1 s Q := h
  unfold d_Lw_same_F at h
  show JX 220 0 [v0, v1] [] M (P2 (QI2 Q))
  generalize hP : P2 (QI2 Q) = P
  have hQ : ∀ (r : Int) (M1 : JM) (s1 : LSt), R2 s1 M1 → Q r s1 → P (.inl (some (.inl r))) M1 := by rw [← hP]; exact fun r M1 s1 a b => ⟨s1, a, r, rfl, b⟩
  clear hP
  refine E_aldn (c220 0 rfl) rfl hv0 ?_
  show JX 220 1 [v0, v1] [v0] M P
  refine E_ifn (c220 1 rfl) h (fun e g => ?_) (fun i1 e g => ?_)
  · clear h
    subst e
    have h := g
    clear g
    exact k_Lw_same0_j8 rfl hv1 hM hQ h
  · clear h
    subst e
    have h := g
    clear g
    refine E_aldn (c220 4 rfl) rfl hv1 ?_
    show JX 220 5 [jR i1, v1] [v1] M P
    refine E_ifnn (c220 5 rfl) h (fun e g => ?_) (fun i2 e g => ?_)
    · clear h
      subst e
      have h := g
      clear g
      exact k_Lw_same0_j8 rfl rfl hM hQ h
    · clear h
      subst e
      have h := g
      clear g
      refine L_ps c220 (n := 1) (pc1 := 20) (ls1 := [jR i1, jR i2]) (st1 := [jR i1]) rfl ?_
      refine E_fI (c220 20 rfl) hM (by decide) h (fun z3 h => ?_)
      refine L_ps c220 (n := 1) (pc1 := 24) (ls1 := [jR i1, jR i2]) (st1 := [jR i2, jI z3]) rfl ?_
      refine E_fI (c220 24 rfl) hM (by decide) h (fun z4 h => ?_)
      refine L_nb (p1 := 62) (p2 := 30) (c220 27 rfl) rfl jc_ne h (fun h => ?_) (fun h => ?_)
      · refine L_ps c220 (n := 1) (pc1 := 31) (ls1 := [jR i1, jR i2]) (st1 := [jR i1]) rfl ?_
        refine E_fV (c220 31 rfl) hM (by decide) h (fun x5 hx5 h => ?_)
        refine L_ps c220 (n := 1) (pc1 := 35) (ls1 := [jR i1, jR i2]) (st1 := [jR i2, x5]) rfl ?_
        refine E_fV (c220 35 rfl) hM (by decide) h (fun x6 hx6 h => ?_)
        exact False.elim h
      · refine L_ps c220 (n := 1) (pc1 := 63) (ls1 := [jR i1, jR i2]) (st1 := [jI 0]) rfl ?_
        exact E_retZ (c220 63 rfl) (Or.inl rfl) (hQ _ _ _ hM h)
theorem k_Lw_same1_j8 {v0 : JV} {v1 : JV} {s : LSt} {M : JM} {P : JO → JM → Prop} {Q : Int → LSt → Prop} (hv0 : jnl v0 = true) (hv1 : jnl v1 = true) (hM : R2 s M) (hQ : ∀ (r : Int) (M1 : JM) (s1 : LSt), R2 s1 M1 → Q r s1 → P (.inl (some (.inl r))) M1) (h : d_Lw_same_j8 (d_Lw_same 1) v0 v1 s Q) : JX 221 8 [v0, v1] [] M P := by
  unfold d_Lw_same_j8 at h
  refine E_aldn (c221 8 rfl) rfl hv0 ?_
  show JX 221 9 [v0, v1] [v0] M P
  refine E_aldn (c221 9 rfl) rfl hv1 ?_
  show JX 221 10 [v0, v1] [v1, v0] M P
  refine E_cNE (c221 10 rfl) hv1 hv0 (cE_c h) (fun h => ?_) (fun h => ?_)
  · refine L_ps c221 (n := 2) (pc1 := 18) (ls1 := [v0, v1]) (st1 := [jI 1]) rfl ?_
    exact E_retZ (c221 18 rfl) (Or.inr rfl) (hQ _ _ _ hM h)
  · refine L_ps c221 (n := 1) (pc1 := 18) (ls1 := [v0, v1]) (st1 := [jI 0]) rfl ?_
    exact E_retZ (c221 18 rfl) (Or.inl rfl) (hQ _ _ _ hM h)
theorem k_Lw_same1 {v0 : JV} {v1 : JV} {s : LSt} {M : JM} {Q : Int → LSt → Prop} (hv0 : jnl v0 = true) (hv1 : jnl v1 = true) (hM : R2 s M) (h : d_Lw_same 2 v0 v1 s Q) : JX 221 0 (jargs 221 [v0, v1]) [] M (P2 (QI2 Q)) := by
  have h : d_Lw_same_F (d_Lw_same 1) v0 v1 s Q := h
  unfold d_Lw_same_F at h
  show JX 221 0 [v0, v1] [] M (P2 (QI2 Q))
  generalize hP : P2 (QI2 Q) = P
  have hQ : ∀ (r : Int) (M1 : JM) (s1 : LSt), R2 s1 M1 → Q r s1 → P (.inl (some (.inl r))) M1 := by rw [← hP]; exact fun r M1 s1 a b => ⟨s1, a, r, rfl, b⟩
  clear hP
  refine E_aldn (c221 0 rfl) rfl hv0 ?_
  show JX 221 1 [v0, v1] [v0] M P
  refine E_ifn (c221 1 rfl) h (fun e g => ?_) (fun i1 e g => ?_)
  · clear h
    subst e
    have h := g
    clear g
    exact k_Lw_same1_j8 rfl hv1 hM hQ h
  · clear h
    subst e
    have h := g
    clear g
    refine E_aldn (c221 4 rfl) rfl hv1 ?_
    show JX 221 5 [jR i1, v1] [v1] M P
    refine E_ifnn (c221 5 rfl) h (fun e g => ?_) (fun i2 e g => ?_)
    · clear h
      subst e
      have h := g
      clear g
      exact k_Lw_same1_j8 rfl rfl hM hQ h
    · clear h
      subst e
      have h := g
      clear g
      refine L_ps c221 (n := 1) (pc1 := 20) (ls1 := [jR i1, jR i2]) (st1 := [jR i1]) rfl ?_
      refine E_fI (c221 20 rfl) hM (by decide) h (fun z3 h => ?_)
      refine L_ps c221 (n := 1) (pc1 := 24) (ls1 := [jR i1, jR i2]) (st1 := [jR i2, jI z3]) rfl ?_
      refine E_fI (c221 24 rfl) hM (by decide) h (fun z4 h => ?_)
      refine L_nb (p1 := 62) (p2 := 30) (c221 27 rfl) rfl jc_ne h (fun h => ?_) (fun h => ?_)
      · refine L_ps c221 (n := 1) (pc1 := 31) (ls1 := [jR i1, jR i2]) (st1 := [jR i1]) rfl ?_
        refine E_fV (c221 31 rfl) hM (by decide) h (fun x5 hx5 h => ?_)
        refine L_ps c221 (n := 1) (pc1 := 35) (ls1 := [jR i1, jR i2]) (st1 := [jR i2, x5]) rfl ?_
        refine E_fV (c221 35 rfl) hM (by decide) h (fun x6 hx6 h => ?_)
        refine E_cI (pc1 := 41) (c221 38 rfl) (js_t (show ssplit 2 [x6, x5] = some ([x5, x6], []) from ss_v (A := [x6, x5]) (B := []) rfl (al_c (jnl_c2 hx6) (al_c (jnl_c2 hx5) al_n)) (Nat.le_of_ble_eq_true rfl))) rfl (k_Lw_same0 hx5 hx6 hM h) (fun r8 M s7 hM h => ?_)
        refine L_br (p1 := 62) (p2 := 44) (c221 41 rfl) rfl jc_eq h (fun h => ?_) (fun h => ?_)
        · refine L_ps c221 (n := 1) (pc1 := 63) (ls1 := [jR i1, jR i2]) (st1 := [jI 0]) rfl ?_
          exact E_retZ (c221 63 rfl) (Or.inl rfl) (hQ _ _ _ hM h)
        · refine L_ps c221 (n := 1) (pc1 := 45) (ls1 := [jR i1, jR i2]) (st1 := [jR i1]) rfl ?_
          refine E_fV (c221 45 rfl) hM (by decide) h (fun x9 hx9 h => ?_)
          refine L_ps c221 (n := 1) (pc1 := 49) (ls1 := [jR i1, jR i2]) (st1 := [jR i2, x9]) rfl ?_
          refine E_fV (c221 49 rfl) hM (by decide) h (fun x10 hx10 h => ?_)
          refine E_cI (pc1 := 55) (c221 52 rfl) (js_t (show ssplit 2 [x10, x9] = some ([x9, x10], []) from ss_v (A := [x10, x9]) (B := []) rfl (al_c (jnl_c2 hx10) (al_c (jnl_c2 hx9) al_n)) (Nat.le_of_ble_eq_true rfl))) rfl (k_Lw_same0 hx9 hx10 hM h) (fun r12 M s11 hM h => ?_)
          refine L_br (p1 := 62) (p2 := 58) (c221 55 rfl) rfl jc_eq h (fun h => ?_) (fun h => ?_)
          · refine L_ps c221 (n := 1) (pc1 := 63) (ls1 := [jR i1, jR i2]) (st1 := [jI 0]) rfl ?_
            exact E_retZ (c221 63 rfl) (Or.inl rfl) (hQ _ _ _ hM h)
          · refine L_ps c221 (n := 2) (pc1 := 63) (ls1 := [jR i1, jR i2]) (st1 := [jI 1]) rfl ?_
            exact E_retZ (c221 63 rfl) (Or.inr rfl) (hQ _ _ _ hM h)
      · refine L_ps c221 (n := 1) (pc1 := 63) (ls1 := [jR i1, jR i2]) (st1 := [jI 0]) rfl ?_
        exact E_retZ (c221 63 rfl) (Or.inl rfl) (hQ _ _ _ hM h)
theorem k_Lw_same2_j8 {v0 : JV} {v1 : JV} {s : LSt} {M : JM} {P : JO → JM → Prop} {Q : Int → LSt → Prop} (hv0 : jnl v0 = true) (hv1 : jnl v1 = true) (hM : R2 s M) (hQ : ∀ (r : Int) (M1 : JM) (s1 : LSt), R2 s1 M1 → Q r s1 → P (.inl (some (.inl r))) M1) (h : d_Lw_same_j8 (d_Lw_same 2) v0 v1 s Q) : JX 222 8 [v0, v1] [] M P := by
  unfold d_Lw_same_j8 at h
  refine E_aldn (c222 8 rfl) rfl hv0 ?_
  show JX 222 9 [v0, v1] [v0] M P
  refine E_aldn (c222 9 rfl) rfl hv1 ?_
  show JX 222 10 [v0, v1] [v1, v0] M P
  refine E_cNE (c222 10 rfl) hv1 hv0 (cE_c h) (fun h => ?_) (fun h => ?_)
  · refine L_ps c222 (n := 2) (pc1 := 18) (ls1 := [v0, v1]) (st1 := [jI 1]) rfl ?_
    exact E_retZ (c222 18 rfl) (Or.inr rfl) (hQ _ _ _ hM h)
  · refine L_ps c222 (n := 1) (pc1 := 18) (ls1 := [v0, v1]) (st1 := [jI 0]) rfl ?_
    exact E_retZ (c222 18 rfl) (Or.inl rfl) (hQ _ _ _ hM h)
theorem k_Lw_same2 {v0 : JV} {v1 : JV} {s : LSt} {M : JM} {Q : Int → LSt → Prop} (hv0 : jnl v0 = true) (hv1 : jnl v1 = true) (hM : R2 s M) (h : d_Lw_same 3 v0 v1 s Q) : JX 222 0 (jargs 222 [v0, v1]) [] M (P2 (QI2 Q)) := by
  have h : d_Lw_same_F (d_Lw_same 2) v0 v1 s Q := h
  unfold d_Lw_same_F at h
  show JX 222 0 [v0, v1] [] M (P2 (QI2 Q))
  generalize hP : P2 (QI2 Q) = P
  have hQ : ∀ (r : Int) (M1 : JM) (s1 : LSt), R2 s1 M1 → Q r s1 → P (.inl (some (.inl r))) M1 := by rw [← hP]; exact fun r M1 s1 a b => ⟨s1, a, r, rfl, b⟩
  clear hP
  refine E_aldn (c222 0 rfl) rfl hv0 ?_
  show JX 222 1 [v0, v1] [v0] M P
  refine E_ifn (c222 1 rfl) h (fun e g => ?_) (fun i1 e g => ?_)
  · clear h
    subst e
    have h := g
    clear g
    exact k_Lw_same2_j8 rfl hv1 hM hQ h
  · clear h
    subst e
    have h := g
    clear g
    refine E_aldn (c222 4 rfl) rfl hv1 ?_
    show JX 222 5 [jR i1, v1] [v1] M P
    refine E_ifnn (c222 5 rfl) h (fun e g => ?_) (fun i2 e g => ?_)
    · clear h
      subst e
      have h := g
      clear g
      exact k_Lw_same2_j8 rfl rfl hM hQ h
    · clear h
      subst e
      have h := g
      clear g
      refine L_ps c222 (n := 1) (pc1 := 20) (ls1 := [jR i1, jR i2]) (st1 := [jR i1]) rfl ?_
      refine E_fI (c222 20 rfl) hM (by decide) h (fun z3 h => ?_)
      refine L_ps c222 (n := 1) (pc1 := 24) (ls1 := [jR i1, jR i2]) (st1 := [jR i2, jI z3]) rfl ?_
      refine E_fI (c222 24 rfl) hM (by decide) h (fun z4 h => ?_)
      refine L_nb (p1 := 62) (p2 := 30) (c222 27 rfl) rfl jc_ne h (fun h => ?_) (fun h => ?_)
      · refine L_ps c222 (n := 1) (pc1 := 31) (ls1 := [jR i1, jR i2]) (st1 := [jR i1]) rfl ?_
        refine E_fV (c222 31 rfl) hM (by decide) h (fun x5 hx5 h => ?_)
        refine L_ps c222 (n := 1) (pc1 := 35) (ls1 := [jR i1, jR i2]) (st1 := [jR i2, x5]) rfl ?_
        refine E_fV (c222 35 rfl) hM (by decide) h (fun x6 hx6 h => ?_)
        refine E_cI (pc1 := 41) (c222 38 rfl) (js_t (show ssplit 2 [x6, x5] = some ([x5, x6], []) from ss_v (A := [x6, x5]) (B := []) rfl (al_c (jnl_c2 hx6) (al_c (jnl_c2 hx5) al_n)) (Nat.le_of_ble_eq_true rfl))) rfl (k_Lw_same1 hx5 hx6 hM h) (fun r8 M s7 hM h => ?_)
        refine L_br (p1 := 62) (p2 := 44) (c222 41 rfl) rfl jc_eq h (fun h => ?_) (fun h => ?_)
        · refine L_ps c222 (n := 1) (pc1 := 63) (ls1 := [jR i1, jR i2]) (st1 := [jI 0]) rfl ?_
          exact E_retZ (c222 63 rfl) (Or.inl rfl) (hQ _ _ _ hM h)
        · refine L_ps c222 (n := 1) (pc1 := 45) (ls1 := [jR i1, jR i2]) (st1 := [jR i1]) rfl ?_
          refine E_fV (c222 45 rfl) hM (by decide) h (fun x9 hx9 h => ?_)
          refine L_ps c222 (n := 1) (pc1 := 49) (ls1 := [jR i1, jR i2]) (st1 := [jR i2, x9]) rfl ?_
          refine E_fV (c222 49 rfl) hM (by decide) h (fun x10 hx10 h => ?_)
          refine E_cI (pc1 := 55) (c222 52 rfl) (js_t (show ssplit 2 [x10, x9] = some ([x9, x10], []) from ss_v (A := [x10, x9]) (B := []) rfl (al_c (jnl_c2 hx10) (al_c (jnl_c2 hx9) al_n)) (Nat.le_of_ble_eq_true rfl))) rfl (k_Lw_same1 hx9 hx10 hM h) (fun r12 M s11 hM h => ?_)
          refine L_br (p1 := 62) (p2 := 58) (c222 55 rfl) rfl jc_eq h (fun h => ?_) (fun h => ?_)
          · refine L_ps c222 (n := 1) (pc1 := 63) (ls1 := [jR i1, jR i2]) (st1 := [jI 0]) rfl ?_
            exact E_retZ (c222 63 rfl) (Or.inl rfl) (hQ _ _ _ hM h)
          · refine L_ps c222 (n := 2) (pc1 := 63) (ls1 := [jR i1, jR i2]) (st1 := [jI 1]) rfl ?_
            exact E_retZ (c222 63 rfl) (Or.inr rfl) (hQ _ _ _ hM h)
      · refine L_ps c222 (n := 1) (pc1 := 63) (ls1 := [jR i1, jR i2]) (st1 := [jI 0]) rfl ?_
        exact E_retZ (c222 63 rfl) (Or.inl rfl) (hQ _ _ _ hM h)
theorem k_Lw_same3_j8 {v0 : JV} {v1 : JV} {s : LSt} {M : JM} {P : JO → JM → Prop} {Q : Int → LSt → Prop} (hv0 : jnl v0 = true) (hv1 : jnl v1 = true) (hM : R2 s M) (hQ : ∀ (r : Int) (M1 : JM) (s1 : LSt), R2 s1 M1 → Q r s1 → P (.inl (some (.inl r))) M1) (h : d_Lw_same_j8 (d_Lw_same 3) v0 v1 s Q) : JX 223 8 [v0, v1] [] M P := by
  unfold d_Lw_same_j8 at h
  refine E_aldn (c223 8 rfl) rfl hv0 ?_
  show JX 223 9 [v0, v1] [v0] M P
  refine E_aldn (c223 9 rfl) rfl hv1 ?_
  show JX 223 10 [v0, v1] [v1, v0] M P
  refine E_cNE (c223 10 rfl) hv1 hv0 (cE_c h) (fun h => ?_) (fun h => ?_)
  · refine L_ps c223 (n := 2) (pc1 := 18) (ls1 := [v0, v1]) (st1 := [jI 1]) rfl ?_
    exact E_retZ (c223 18 rfl) (Or.inr rfl) (hQ _ _ _ hM h)
  · refine L_ps c223 (n := 1) (pc1 := 18) (ls1 := [v0, v1]) (st1 := [jI 0]) rfl ?_
    exact E_retZ (c223 18 rfl) (Or.inl rfl) (hQ _ _ _ hM h)
theorem k_Lw_same3 {v0 : JV} {v1 : JV} {s : LSt} {M : JM} {Q : Int → LSt → Prop} (hv0 : jnl v0 = true) (hv1 : jnl v1 = true) (hM : R2 s M) (h : d_Lw_same 4 v0 v1 s Q) : JX 223 0 (jargs 223 [v0, v1]) [] M (P2 (QI2 Q)) := by
  have h : d_Lw_same_F (d_Lw_same 3) v0 v1 s Q := h
  unfold d_Lw_same_F at h
  show JX 223 0 [v0, v1] [] M (P2 (QI2 Q))
  generalize hP : P2 (QI2 Q) = P
  have hQ : ∀ (r : Int) (M1 : JM) (s1 : LSt), R2 s1 M1 → Q r s1 → P (.inl (some (.inl r))) M1 := by rw [← hP]; exact fun r M1 s1 a b => ⟨s1, a, r, rfl, b⟩
  clear hP
  refine E_aldn (c223 0 rfl) rfl hv0 ?_
  show JX 223 1 [v0, v1] [v0] M P
  refine E_ifn (c223 1 rfl) h (fun e g => ?_) (fun i1 e g => ?_)
  · clear h
    subst e
    have h := g
    clear g
    exact k_Lw_same3_j8 rfl hv1 hM hQ h
  · clear h
    subst e
    have h := g
    clear g
    refine E_aldn (c223 4 rfl) rfl hv1 ?_
    show JX 223 5 [jR i1, v1] [v1] M P
    refine E_ifnn (c223 5 rfl) h (fun e g => ?_) (fun i2 e g => ?_)
    · clear h
      subst e
      have h := g
      clear g
      exact k_Lw_same3_j8 rfl rfl hM hQ h
    · clear h
      subst e
      have h := g
      clear g
      refine L_ps c223 (n := 1) (pc1 := 20) (ls1 := [jR i1, jR i2]) (st1 := [jR i1]) rfl ?_
      refine E_fI (c223 20 rfl) hM (by decide) h (fun z3 h => ?_)
      refine L_ps c223 (n := 1) (pc1 := 24) (ls1 := [jR i1, jR i2]) (st1 := [jR i2, jI z3]) rfl ?_
      refine E_fI (c223 24 rfl) hM (by decide) h (fun z4 h => ?_)
      refine L_nb (p1 := 62) (p2 := 30) (c223 27 rfl) rfl jc_ne h (fun h => ?_) (fun h => ?_)
      · refine L_ps c223 (n := 1) (pc1 := 31) (ls1 := [jR i1, jR i2]) (st1 := [jR i1]) rfl ?_
        refine E_fV (c223 31 rfl) hM (by decide) h (fun x5 hx5 h => ?_)
        refine L_ps c223 (n := 1) (pc1 := 35) (ls1 := [jR i1, jR i2]) (st1 := [jR i2, x5]) rfl ?_
        refine E_fV (c223 35 rfl) hM (by decide) h (fun x6 hx6 h => ?_)
        refine E_cI (pc1 := 41) (c223 38 rfl) (js_t (show ssplit 2 [x6, x5] = some ([x5, x6], []) from ss_v (A := [x6, x5]) (B := []) rfl (al_c (jnl_c2 hx6) (al_c (jnl_c2 hx5) al_n)) (Nat.le_of_ble_eq_true rfl))) rfl (k_Lw_same2 hx5 hx6 hM h) (fun r8 M s7 hM h => ?_)
        refine L_br (p1 := 62) (p2 := 44) (c223 41 rfl) rfl jc_eq h (fun h => ?_) (fun h => ?_)
        · refine L_ps c223 (n := 1) (pc1 := 63) (ls1 := [jR i1, jR i2]) (st1 := [jI 0]) rfl ?_
          exact E_retZ (c223 63 rfl) (Or.inl rfl) (hQ _ _ _ hM h)
        · refine L_ps c223 (n := 1) (pc1 := 45) (ls1 := [jR i1, jR i2]) (st1 := [jR i1]) rfl ?_
          refine E_fV (c223 45 rfl) hM (by decide) h (fun x9 hx9 h => ?_)
          refine L_ps c223 (n := 1) (pc1 := 49) (ls1 := [jR i1, jR i2]) (st1 := [jR i2, x9]) rfl ?_
          refine E_fV (c223 49 rfl) hM (by decide) h (fun x10 hx10 h => ?_)
          refine E_cI (pc1 := 55) (c223 52 rfl) (js_t (show ssplit 2 [x10, x9] = some ([x9, x10], []) from ss_v (A := [x10, x9]) (B := []) rfl (al_c (jnl_c2 hx10) (al_c (jnl_c2 hx9) al_n)) (Nat.le_of_ble_eq_true rfl))) rfl (k_Lw_same2 hx9 hx10 hM h) (fun r12 M s11 hM h => ?_)
          refine L_br (p1 := 62) (p2 := 58) (c223 55 rfl) rfl jc_eq h (fun h => ?_) (fun h => ?_)
          · refine L_ps c223 (n := 1) (pc1 := 63) (ls1 := [jR i1, jR i2]) (st1 := [jI 0]) rfl ?_
            exact E_retZ (c223 63 rfl) (Or.inl rfl) (hQ _ _ _ hM h)
          · refine L_ps c223 (n := 2) (pc1 := 63) (ls1 := [jR i1, jR i2]) (st1 := [jI 1]) rfl ?_
            exact E_retZ (c223 63 rfl) (Or.inr rfl) (hQ _ _ _ hM h)
      · refine L_ps c223 (n := 1) (pc1 := 63) (ls1 := [jR i1, jR i2]) (st1 := [jI 0]) rfl ?_
        exact E_retZ (c223 63 rfl) (Or.inl rfl) (hQ _ _ _ hM h)
theorem k_Lw_same4_j8 {v0 : JV} {v1 : JV} {s : LSt} {M : JM} {P : JO → JM → Prop} {Q : Int → LSt → Prop} (hv0 : jnl v0 = true) (hv1 : jnl v1 = true) (hM : R2 s M) (hQ : ∀ (r : Int) (M1 : JM) (s1 : LSt), R2 s1 M1 → Q r s1 → P (.inl (some (.inl r))) M1) (h : d_Lw_same_j8 (d_Lw_same 4) v0 v1 s Q) : JX 224 8 [v0, v1] [] M P := by
  unfold d_Lw_same_j8 at h
  refine E_aldn (c224 8 rfl) rfl hv0 ?_
  show JX 224 9 [v0, v1] [v0] M P
  refine E_aldn (c224 9 rfl) rfl hv1 ?_
  show JX 224 10 [v0, v1] [v1, v0] M P
  refine E_cNE (c224 10 rfl) hv1 hv0 (cE_c h) (fun h => ?_) (fun h => ?_)
  · refine L_ps c224 (n := 2) (pc1 := 18) (ls1 := [v0, v1]) (st1 := [jI 1]) rfl ?_
    exact E_retZ (c224 18 rfl) (Or.inr rfl) (hQ _ _ _ hM h)
  · refine L_ps c224 (n := 1) (pc1 := 18) (ls1 := [v0, v1]) (st1 := [jI 0]) rfl ?_
    exact E_retZ (c224 18 rfl) (Or.inl rfl) (hQ _ _ _ hM h)
theorem k_Lw_same4 {v0 : JV} {v1 : JV} {s : LSt} {M : JM} {Q : Int → LSt → Prop} (hv0 : jnl v0 = true) (hv1 : jnl v1 = true) (hM : R2 s M) (h : d_Lw_same 5 v0 v1 s Q) : JX 224 0 (jargs 224 [v0, v1]) [] M (P2 (QI2 Q)) := by
  have h : d_Lw_same_F (d_Lw_same 4) v0 v1 s Q := h
  unfold d_Lw_same_F at h
  show JX 224 0 [v0, v1] [] M (P2 (QI2 Q))
  generalize hP : P2 (QI2 Q) = P
  have hQ : ∀ (r : Int) (M1 : JM) (s1 : LSt), R2 s1 M1 → Q r s1 → P (.inl (some (.inl r))) M1 := by rw [← hP]; exact fun r M1 s1 a b => ⟨s1, a, r, rfl, b⟩
  clear hP
  refine E_aldn (c224 0 rfl) rfl hv0 ?_
  show JX 224 1 [v0, v1] [v0] M P
  refine E_ifn (c224 1 rfl) h (fun e g => ?_) (fun i1 e g => ?_)
  · clear h
    subst e
    have h := g
    clear g
    exact k_Lw_same4_j8 rfl hv1 hM hQ h
  · clear h
    subst e
    have h := g
    clear g
    refine E_aldn (c224 4 rfl) rfl hv1 ?_
    show JX 224 5 [jR i1, v1] [v1] M P
    refine E_ifnn (c224 5 rfl) h (fun e g => ?_) (fun i2 e g => ?_)
    · clear h
      subst e
      have h := g
      clear g
      exact k_Lw_same4_j8 rfl rfl hM hQ h
    · clear h
      subst e
      have h := g
      clear g
      refine L_ps c224 (n := 1) (pc1 := 20) (ls1 := [jR i1, jR i2]) (st1 := [jR i1]) rfl ?_
      refine E_fI (c224 20 rfl) hM (by decide) h (fun z3 h => ?_)
      refine L_ps c224 (n := 1) (pc1 := 24) (ls1 := [jR i1, jR i2]) (st1 := [jR i2, jI z3]) rfl ?_
      refine E_fI (c224 24 rfl) hM (by decide) h (fun z4 h => ?_)
      refine L_nb (p1 := 62) (p2 := 30) (c224 27 rfl) rfl jc_ne h (fun h => ?_) (fun h => ?_)
      · refine L_ps c224 (n := 1) (pc1 := 31) (ls1 := [jR i1, jR i2]) (st1 := [jR i1]) rfl ?_
        refine E_fV (c224 31 rfl) hM (by decide) h (fun x5 hx5 h => ?_)
        refine L_ps c224 (n := 1) (pc1 := 35) (ls1 := [jR i1, jR i2]) (st1 := [jR i2, x5]) rfl ?_
        refine E_fV (c224 35 rfl) hM (by decide) h (fun x6 hx6 h => ?_)
        refine E_cI (pc1 := 41) (c224 38 rfl) (js_t (show ssplit 2 [x6, x5] = some ([x5, x6], []) from ss_v (A := [x6, x5]) (B := []) rfl (al_c (jnl_c2 hx6) (al_c (jnl_c2 hx5) al_n)) (Nat.le_of_ble_eq_true rfl))) rfl (k_Lw_same3 hx5 hx6 hM h) (fun r8 M s7 hM h => ?_)
        refine L_br (p1 := 62) (p2 := 44) (c224 41 rfl) rfl jc_eq h (fun h => ?_) (fun h => ?_)
        · refine L_ps c224 (n := 1) (pc1 := 63) (ls1 := [jR i1, jR i2]) (st1 := [jI 0]) rfl ?_
          exact E_retZ (c224 63 rfl) (Or.inl rfl) (hQ _ _ _ hM h)
        · refine L_ps c224 (n := 1) (pc1 := 45) (ls1 := [jR i1, jR i2]) (st1 := [jR i1]) rfl ?_
          refine E_fV (c224 45 rfl) hM (by decide) h (fun x9 hx9 h => ?_)
          refine L_ps c224 (n := 1) (pc1 := 49) (ls1 := [jR i1, jR i2]) (st1 := [jR i2, x9]) rfl ?_
          refine E_fV (c224 49 rfl) hM (by decide) h (fun x10 hx10 h => ?_)
          refine E_cI (pc1 := 55) (c224 52 rfl) (js_t (show ssplit 2 [x10, x9] = some ([x9, x10], []) from ss_v (A := [x10, x9]) (B := []) rfl (al_c (jnl_c2 hx10) (al_c (jnl_c2 hx9) al_n)) (Nat.le_of_ble_eq_true rfl))) rfl (k_Lw_same3 hx9 hx10 hM h) (fun r12 M s11 hM h => ?_)
          refine L_br (p1 := 62) (p2 := 58) (c224 55 rfl) rfl jc_eq h (fun h => ?_) (fun h => ?_)
          · refine L_ps c224 (n := 1) (pc1 := 63) (ls1 := [jR i1, jR i2]) (st1 := [jI 0]) rfl ?_
            exact E_retZ (c224 63 rfl) (Or.inl rfl) (hQ _ _ _ hM h)
          · refine L_ps c224 (n := 2) (pc1 := 63) (ls1 := [jR i1, jR i2]) (st1 := [jI 1]) rfl ?_
            exact E_retZ (c224 63 rfl) (Or.inr rfl) (hQ _ _ _ hM h)
      · refine L_ps c224 (n := 1) (pc1 := 63) (ls1 := [jR i1, jR i2]) (st1 := [jI 0]) rfl ?_
        exact E_retZ (c224 63 rfl) (Or.inl rfl) (hQ _ _ _ hM h)
theorem k_Lw_match0_j37 {v0 : JV} {v1 : JV} {v2 : JV} {s : LSt} {M : JM} {P : JO → JM → Prop} {Q : Int → LSt → Prop} (hv0 : jnl v0 = true) (hv1 : jnl v1 = true) (hv2 : jnl v2 = true) (hM : R2 s M) (hQ : ∀ (r : Int) (M1 : JM) (s1 : LSt), R2 s1 M1 → Q r s1 → P (.inl (some (.inl r))) M1) (h : d_Lw_match_j37 (d_Lw_match 0) v0 v1 v2 s Q) : JX 215 37 [v0, v1, v2] [] M P := by
  unfold d_Lw_match_j37 at h
  refine E_aldn (c215 37 rfl) rfl hv2 ?_
  show JX 215 38 [v0, v1, v2] [v2] M P
  refine E_aldn (c215 38 rfl) rfl hv0 ?_
  show JX 215 39 [v0, v1, v2] [v0, v2] M P
  obtain ⟨i20, e, g⟩ := cR_of h
  clear h
  subst e
  have h := g
  clear g
  refine E_fI (c215 39 rfl) hM (by decide) h (fun z21 h => ?_)
  refine L_ps c215 (n := 2) (pc1 := 45) (ls1 := [jR i20, v1, v2]) (st1 := [jI (wr (z21 - 100)), v2]) rfl ?_
  obtain ⟨i22, e, g⟩ := cR_of h
  clear h
  subst e
  have h := g
  clear g
  refine E_rV (c215 45 rfl) hM h (fun x23 hx23 h => ?_)
  refine E_aldn (c215 46 rfl) rfl hv1 ?_
  show JX 215 47 [jR i20, v1, jR i22] [v1, x23] M P
  refine E_cI (pc1 := 50) (c215 47 rfl) (js_t (show ssplit 2 [v1, x23] = some ([x23, v1], []) from ss_v (A := [v1, x23]) (B := []) rfl (al_c (jnl_c2 hv1) (al_c (jnl_c2 hx23) al_n)) (Nat.le_of_ble_eq_true rfl))) rfl (k_Lw_same4 hx23 hv1 hM h) (fun r25 M s24 hM h => ?_)
  obtain ⟨hz, h⟩ := h
  exact E_retZ (c215 50 rfl) hz (hQ _ _ _ hM h)
theorem k_Lw_match0 {v0 : JV} {v1 : JV} {v2 : JV} {s : LSt} {M : JM} {Q : Int → LSt → Prop} (hv0 : jnl v0 = true) (hv1 : jnl v1 = true) (hv2 : jnl v2 = true) (hM : R2 s M) (h : d_Lw_match 1 v0 v1 v2 s Q) : JX 215 0 (jargs 215 [v0, v1, v2]) [] M (P2 (QI2 Q)) := by
  have h : d_Lw_match_F (d_Lw_match 0) v0 v1 v2 s Q := h
  unfold d_Lw_match_F at h
  show JX 215 0 [v0, v1, v2] [] M (P2 (QI2 Q))
  generalize hP : P2 (QI2 Q) = P
  have hQ : ∀ (r : Int) (M1 : JM) (s1 : LSt), R2 s1 M1 → Q r s1 → P (.inl (some (.inl r))) M1 := by rw [← hP]; exact fun r M1 s1 a b => ⟨s1, a, r, rfl, b⟩
  clear hP
  refine E_aldn (c215 0 rfl) rfl hv0 ?_
  show JX 215 1 [v0, v1, v2] [v0] M P
  refine E_ifnn (c215 1 rfl) h (fun e g => ?_) (fun i1 e g => ?_)
  · clear h
    subst e
    have h := g
    clear g
    refine L_ps c215 (n := 1) (pc1 := 5) (ls1 := [jX .null, v1, v2]) (st1 := [jI 1]) rfl ?_
    exact E_retZ (c215 5 rfl) (Or.inr rfl) (hQ _ _ _ hM h)
  · clear h
    subst e
    have h := g
    clear g
    refine L_ps c215 (n := 1) (pc1 := 7) (ls1 := [jR i1, v1, v2]) (st1 := [jR i1]) rfl ?_
    refine E_fI (c215 7 rfl) hM (by decide) h (fun z2 h => ?_)
    refine L_ps c215 (n := 1) (pc1 := 12) (ls1 := [jR i1, v1, v2]) (st1 := [jI 100, jI z2]) rfl ?_
    refine L_br (p1 := 51) (p2 := 15) (c215 12 rfl) rfl jc_lt h (fun h => ?_) (fun h => ?_)
    · refine L_ps c215 (n := 1) (pc1 := 52) (ls1 := [jR i1, v1, v2]) (st1 := [jR i1]) rfl ?_
      refine E_fI (c215 52 rfl) hM (by decide) h (fun z3 h => ?_)
      refine E_aldn (c215 55 rfl) rfl hv1 ?_
      show JX 215 56 [jR i1, v1, v2] [v1, jI z3] M P
      obtain ⟨i4, e, g⟩ := cR_of h
      clear h
      subst e
      have h := g
      clear g
      refine E_fI (c215 56 rfl) hM (by decide) h (fun z5 h => ?_)
      refine L_nb (p1 := 96) (p2 := 62) (c215 59 rfl) rfl jc_ne h (fun h => ?_) (fun h => ?_)
      · refine L_ps c215 (n := 1) (pc1 := 63) (ls1 := [jR i1, jR i4, v2]) (st1 := [jR i1]) rfl ?_
        refine E_fV (c215 63 rfl) hM (by decide) h (fun x6 hx6 h => ?_)
        refine L_ps c215 (n := 1) (pc1 := 67) (ls1 := [jR i1, jR i4, v2]) (st1 := [jR i4, x6]) rfl ?_
        refine E_fV (c215 67 rfl) hM (by decide) h (fun x7 hx7 h => ?_)
        refine E_aldn (c215 70 rfl) rfl hv2 ?_
        show JX 215 71 [jR i1, jR i4, v2] [v2, x7, x6] M P
        exact False.elim h
      · refine L_ps c215 (n := 1) (pc1 := 97) (ls1 := [jR i1, jR i4, v2]) (st1 := [jI 0]) rfl ?_
        exact E_retZ (c215 97 rfl) (Or.inl rfl) (hQ _ _ _ hM h)
    · refine E_aldn (c215 15 rfl) rfl hv2 ?_
      show JX 215 16 [jR i1, v1, v2] [v2] M P
      refine L_ps c215 (n := 1) (pc1 := 17) (ls1 := [jR i1, v1, v2]) (st1 := [jR i1, v2]) rfl ?_
      refine E_fI (c215 17 rfl) hM (by decide) h (fun z14 h => ?_)
      refine L_ps c215 (n := 2) (pc1 := 23) (ls1 := [jR i1, v1, v2]) (st1 := [jI (wr (z14 - 100)), v2]) rfl ?_
      obtain ⟨i15, e, g⟩ := cR_of h
      clear h
      subst e
      have h := g
      clear g
      refine E_rV (c215 23 rfl) hM h (fun x16 hx16 h => ?_)
      refine E_ifnn (c215 24 rfl) h (fun e g => ?_) (fun i17 e g => ?_)
      · clear h
        subst e
        have h := g
        clear g
        refine L_ps c215 (n := 2) (pc1 := 29) (ls1 := [jR i1, v1, jR i15]) (st1 := [jR i1, jR i15]) rfl ?_
        refine E_fI (c215 29 rfl) hM (by decide) h (fun z18 h => ?_)
        refine L_ps c215 (n := 2) (pc1 := 35) (ls1 := [jR i1, v1, jR i15]) (st1 := [jI (wr (z18 - 100)), jR i15]) rfl ?_
        refine E_aldn (c215 35 rfl) rfl hv1 ?_
        show JX 215 36 [jR i1, v1, jR i15] [v1, jI (wr (z18 - 100)), jR i15] M P
        refine E_wV (c215 36 rfl) hM h (fun M s19 hM h => ?_)
        exact k_Lw_match0_j37 rfl hv1 rfl hM hQ h
      · clear h
        subst e
        have h := g
        clear g
        exact k_Lw_match0_j37 rfl hv1 rfl hM hQ h
theorem k_Lw_match1_j37 {v0 : JV} {v1 : JV} {v2 : JV} {s : LSt} {M : JM} {P : JO → JM → Prop} {Q : Int → LSt → Prop} (hv0 : jnl v0 = true) (hv1 : jnl v1 = true) (hv2 : jnl v2 = true) (hM : R2 s M) (hQ : ∀ (r : Int) (M1 : JM) (s1 : LSt), R2 s1 M1 → Q r s1 → P (.inl (some (.inl r))) M1) (h : d_Lw_match_j37 (d_Lw_match 1) v0 v1 v2 s Q) : JX 216 37 [v0, v1, v2] [] M P := by
  unfold d_Lw_match_j37 at h
  refine E_aldn (c216 37 rfl) rfl hv2 ?_
  show JX 216 38 [v0, v1, v2] [v2] M P
  refine E_aldn (c216 38 rfl) rfl hv0 ?_
  show JX 216 39 [v0, v1, v2] [v0, v2] M P
  obtain ⟨i20, e, g⟩ := cR_of h
  clear h
  subst e
  have h := g
  clear g
  refine E_fI (c216 39 rfl) hM (by decide) h (fun z21 h => ?_)
  refine L_ps c216 (n := 2) (pc1 := 45) (ls1 := [jR i20, v1, v2]) (st1 := [jI (wr (z21 - 100)), v2]) rfl ?_
  obtain ⟨i22, e, g⟩ := cR_of h
  clear h
  subst e
  have h := g
  clear g
  refine E_rV (c216 45 rfl) hM h (fun x23 hx23 h => ?_)
  refine E_aldn (c216 46 rfl) rfl hv1 ?_
  show JX 216 47 [jR i20, v1, jR i22] [v1, x23] M P
  refine E_cI (pc1 := 50) (c216 47 rfl) (js_t (show ssplit 2 [v1, x23] = some ([x23, v1], []) from ss_v (A := [v1, x23]) (B := []) rfl (al_c (jnl_c2 hv1) (al_c (jnl_c2 hx23) al_n)) (Nat.le_of_ble_eq_true rfl))) rfl (k_Lw_same4 hx23 hv1 hM h) (fun r25 M s24 hM h => ?_)
  obtain ⟨hz, h⟩ := h
  exact E_retZ (c216 50 rfl) hz (hQ _ _ _ hM h)
theorem k_Lw_match1 {v0 : JV} {v1 : JV} {v2 : JV} {s : LSt} {M : JM} {Q : Int → LSt → Prop} (hv0 : jnl v0 = true) (hv1 : jnl v1 = true) (hv2 : jnl v2 = true) (hM : R2 s M) (h : d_Lw_match 2 v0 v1 v2 s Q) : JX 216 0 (jargs 216 [v0, v1, v2]) [] M (P2 (QI2 Q)) := by
  have h : d_Lw_match_F (d_Lw_match 1) v0 v1 v2 s Q := h
  unfold d_Lw_match_F at h
  show JX 216 0 [v0, v1, v2] [] M (P2 (QI2 Q))
  generalize hP : P2 (QI2 Q) = P
  have hQ : ∀ (r : Int) (M1 : JM) (s1 : LSt), R2 s1 M1 → Q r s1 → P (.inl (some (.inl r))) M1 := by rw [← hP]; exact fun r M1 s1 a b => ⟨s1, a, r, rfl, b⟩
  clear hP
  refine E_aldn (c216 0 rfl) rfl hv0 ?_
  show JX 216 1 [v0, v1, v2] [v0] M P
  refine E_ifnn (c216 1 rfl) h (fun e g => ?_) (fun i1 e g => ?_)
  · clear h
    subst e
    have h := g
    clear g
    refine L_ps c216 (n := 1) (pc1 := 5) (ls1 := [jX .null, v1, v2]) (st1 := [jI 1]) rfl ?_
    exact E_retZ (c216 5 rfl) (Or.inr rfl) (hQ _ _ _ hM h)
  · clear h
    subst e
    have h := g
    clear g
    refine L_ps c216 (n := 1) (pc1 := 7) (ls1 := [jR i1, v1, v2]) (st1 := [jR i1]) rfl ?_
    refine E_fI (c216 7 rfl) hM (by decide) h (fun z2 h => ?_)
    refine L_ps c216 (n := 1) (pc1 := 12) (ls1 := [jR i1, v1, v2]) (st1 := [jI 100, jI z2]) rfl ?_
    refine L_br (p1 := 51) (p2 := 15) (c216 12 rfl) rfl jc_lt h (fun h => ?_) (fun h => ?_)
    · refine L_ps c216 (n := 1) (pc1 := 52) (ls1 := [jR i1, v1, v2]) (st1 := [jR i1]) rfl ?_
      refine E_fI (c216 52 rfl) hM (by decide) h (fun z3 h => ?_)
      refine E_aldn (c216 55 rfl) rfl hv1 ?_
      show JX 216 56 [jR i1, v1, v2] [v1, jI z3] M P
      obtain ⟨i4, e, g⟩ := cR_of h
      clear h
      subst e
      have h := g
      clear g
      refine E_fI (c216 56 rfl) hM (by decide) h (fun z5 h => ?_)
      refine L_nb (p1 := 96) (p2 := 62) (c216 59 rfl) rfl jc_ne h (fun h => ?_) (fun h => ?_)
      · refine L_ps c216 (n := 1) (pc1 := 63) (ls1 := [jR i1, jR i4, v2]) (st1 := [jR i1]) rfl ?_
        refine E_fV (c216 63 rfl) hM (by decide) h (fun x6 hx6 h => ?_)
        refine L_ps c216 (n := 1) (pc1 := 67) (ls1 := [jR i1, jR i4, v2]) (st1 := [jR i4, x6]) rfl ?_
        refine E_fV (c216 67 rfl) hM (by decide) h (fun x7 hx7 h => ?_)
        refine E_aldn (c216 70 rfl) rfl hv2 ?_
        show JX 216 71 [jR i1, jR i4, v2] [v2, x7, x6] M P
        refine E_cI (pc1 := 74) (c216 71 rfl) (js_t (show ssplit 3 [v2, x7, x6] = some ([x6, x7, v2], []) from ss_v (A := [v2, x7, x6]) (B := []) rfl (al_c (jnl_c2 hv2) (al_c (jnl_c2 hx7) (al_c (jnl_c2 hx6) al_n))) (Nat.le_of_ble_eq_true rfl))) rfl (k_Lw_match0 hx6 hx7 hv2 hM h) (fun r9 M s8 hM h => ?_)
        refine L_br (p1 := 96) (p2 := 77) (c216 74 rfl) rfl jc_eq h (fun h => ?_) (fun h => ?_)
        · refine L_ps c216 (n := 1) (pc1 := 97) (ls1 := [jR i1, jR i4, v2]) (st1 := [jI 0]) rfl ?_
          exact E_retZ (c216 97 rfl) (Or.inl rfl) (hQ _ _ _ hM h)
        · refine L_ps c216 (n := 1) (pc1 := 78) (ls1 := [jR i1, jR i4, v2]) (st1 := [jR i1]) rfl ?_
          refine E_fV (c216 78 rfl) hM (by decide) h (fun x10 hx10 h => ?_)
          refine L_ps c216 (n := 1) (pc1 := 82) (ls1 := [jR i1, jR i4, v2]) (st1 := [jR i4, x10]) rfl ?_
          refine E_fV (c216 82 rfl) hM (by decide) h (fun x11 hx11 h => ?_)
          refine E_aldn (c216 85 rfl) rfl hv2 ?_
          show JX 216 86 [jR i1, jR i4, v2] [v2, x11, x10] M P
          refine E_cI (pc1 := 89) (c216 86 rfl) (js_t (show ssplit 3 [v2, x11, x10] = some ([x10, x11, v2], []) from ss_v (A := [v2, x11, x10]) (B := []) rfl (al_c (jnl_c2 hv2) (al_c (jnl_c2 hx11) (al_c (jnl_c2 hx10) al_n))) (Nat.le_of_ble_eq_true rfl))) rfl (k_Lw_match0 hx10 hx11 hv2 hM h) (fun r13 M s12 hM h => ?_)
          refine L_br (p1 := 96) (p2 := 92) (c216 89 rfl) rfl jc_eq h (fun h => ?_) (fun h => ?_)
          · refine L_ps c216 (n := 1) (pc1 := 97) (ls1 := [jR i1, jR i4, v2]) (st1 := [jI 0]) rfl ?_
            exact E_retZ (c216 97 rfl) (Or.inl rfl) (hQ _ _ _ hM h)
          · refine L_ps c216 (n := 2) (pc1 := 97) (ls1 := [jR i1, jR i4, v2]) (st1 := [jI 1]) rfl ?_
            exact E_retZ (c216 97 rfl) (Or.inr rfl) (hQ _ _ _ hM h)
      · refine L_ps c216 (n := 1) (pc1 := 97) (ls1 := [jR i1, jR i4, v2]) (st1 := [jI 0]) rfl ?_
        exact E_retZ (c216 97 rfl) (Or.inl rfl) (hQ _ _ _ hM h)
    · refine E_aldn (c216 15 rfl) rfl hv2 ?_
      show JX 216 16 [jR i1, v1, v2] [v2] M P
      refine L_ps c216 (n := 1) (pc1 := 17) (ls1 := [jR i1, v1, v2]) (st1 := [jR i1, v2]) rfl ?_
      refine E_fI (c216 17 rfl) hM (by decide) h (fun z14 h => ?_)
      refine L_ps c216 (n := 2) (pc1 := 23) (ls1 := [jR i1, v1, v2]) (st1 := [jI (wr (z14 - 100)), v2]) rfl ?_
      obtain ⟨i15, e, g⟩ := cR_of h
      clear h
      subst e
      have h := g
      clear g
      refine E_rV (c216 23 rfl) hM h (fun x16 hx16 h => ?_)
      refine E_ifnn (c216 24 rfl) h (fun e g => ?_) (fun i17 e g => ?_)
      · clear h
        subst e
        have h := g
        clear g
        refine L_ps c216 (n := 2) (pc1 := 29) (ls1 := [jR i1, v1, jR i15]) (st1 := [jR i1, jR i15]) rfl ?_
        refine E_fI (c216 29 rfl) hM (by decide) h (fun z18 h => ?_)
        refine L_ps c216 (n := 2) (pc1 := 35) (ls1 := [jR i1, v1, jR i15]) (st1 := [jI (wr (z18 - 100)), jR i15]) rfl ?_
        refine E_aldn (c216 35 rfl) rfl hv1 ?_
        show JX 216 36 [jR i1, v1, jR i15] [v1, jI (wr (z18 - 100)), jR i15] M P
        refine E_wV (c216 36 rfl) hM h (fun M s19 hM h => ?_)
        exact k_Lw_match1_j37 rfl hv1 rfl hM hQ h
      · clear h
        subst e
        have h := g
        clear g
        exact k_Lw_match1_j37 rfl hv1 rfl hM hQ h
theorem k_Lw_match2_j37 {v0 : JV} {v1 : JV} {v2 : JV} {s : LSt} {M : JM} {P : JO → JM → Prop} {Q : Int → LSt → Prop} (hv0 : jnl v0 = true) (hv1 : jnl v1 = true) (hv2 : jnl v2 = true) (hM : R2 s M) (hQ : ∀ (r : Int) (M1 : JM) (s1 : LSt), R2 s1 M1 → Q r s1 → P (.inl (some (.inl r))) M1) (h : d_Lw_match_j37 (d_Lw_match 2) v0 v1 v2 s Q) : JX 217 37 [v0, v1, v2] [] M P := by
  unfold d_Lw_match_j37 at h
  refine E_aldn (c217 37 rfl) rfl hv2 ?_
  show JX 217 38 [v0, v1, v2] [v2] M P
  refine E_aldn (c217 38 rfl) rfl hv0 ?_
  show JX 217 39 [v0, v1, v2] [v0, v2] M P
  obtain ⟨i20, e, g⟩ := cR_of h
  clear h
  subst e
  have h := g
  clear g
  refine E_fI (c217 39 rfl) hM (by decide) h (fun z21 h => ?_)
  refine L_ps c217 (n := 2) (pc1 := 45) (ls1 := [jR i20, v1, v2]) (st1 := [jI (wr (z21 - 100)), v2]) rfl ?_
  obtain ⟨i22, e, g⟩ := cR_of h
  clear h
  subst e
  have h := g
  clear g
  refine E_rV (c217 45 rfl) hM h (fun x23 hx23 h => ?_)
  refine E_aldn (c217 46 rfl) rfl hv1 ?_
  show JX 217 47 [jR i20, v1, jR i22] [v1, x23] M P
  refine E_cI (pc1 := 50) (c217 47 rfl) (js_t (show ssplit 2 [v1, x23] = some ([x23, v1], []) from ss_v (A := [v1, x23]) (B := []) rfl (al_c (jnl_c2 hv1) (al_c (jnl_c2 hx23) al_n)) (Nat.le_of_ble_eq_true rfl))) rfl (k_Lw_same4 hx23 hv1 hM h) (fun r25 M s24 hM h => ?_)
  obtain ⟨hz, h⟩ := h
  exact E_retZ (c217 50 rfl) hz (hQ _ _ _ hM h)
theorem k_Lw_match2 {v0 : JV} {v1 : JV} {v2 : JV} {s : LSt} {M : JM} {Q : Int → LSt → Prop} (hv0 : jnl v0 = true) (hv1 : jnl v1 = true) (hv2 : jnl v2 = true) (hM : R2 s M) (h : d_Lw_match 3 v0 v1 v2 s Q) : JX 217 0 (jargs 217 [v0, v1, v2]) [] M (P2 (QI2 Q)) := by
  have h : d_Lw_match_F (d_Lw_match 2) v0 v1 v2 s Q := h
  unfold d_Lw_match_F at h
  show JX 217 0 [v0, v1, v2] [] M (P2 (QI2 Q))
  generalize hP : P2 (QI2 Q) = P
  have hQ : ∀ (r : Int) (M1 : JM) (s1 : LSt), R2 s1 M1 → Q r s1 → P (.inl (some (.inl r))) M1 := by rw [← hP]; exact fun r M1 s1 a b => ⟨s1, a, r, rfl, b⟩
  clear hP
  refine E_aldn (c217 0 rfl) rfl hv0 ?_
  show JX 217 1 [v0, v1, v2] [v0] M P
  refine E_ifnn (c217 1 rfl) h (fun e g => ?_) (fun i1 e g => ?_)
  · clear h
    subst e
    have h := g
    clear g
    refine L_ps c217 (n := 1) (pc1 := 5) (ls1 := [jX .null, v1, v2]) (st1 := [jI 1]) rfl ?_
    exact E_retZ (c217 5 rfl) (Or.inr rfl) (hQ _ _ _ hM h)
  · clear h
    subst e
    have h := g
    clear g
    refine L_ps c217 (n := 1) (pc1 := 7) (ls1 := [jR i1, v1, v2]) (st1 := [jR i1]) rfl ?_
    refine E_fI (c217 7 rfl) hM (by decide) h (fun z2 h => ?_)
    refine L_ps c217 (n := 1) (pc1 := 12) (ls1 := [jR i1, v1, v2]) (st1 := [jI 100, jI z2]) rfl ?_
    refine L_br (p1 := 51) (p2 := 15) (c217 12 rfl) rfl jc_lt h (fun h => ?_) (fun h => ?_)
    · refine L_ps c217 (n := 1) (pc1 := 52) (ls1 := [jR i1, v1, v2]) (st1 := [jR i1]) rfl ?_
      refine E_fI (c217 52 rfl) hM (by decide) h (fun z3 h => ?_)
      refine E_aldn (c217 55 rfl) rfl hv1 ?_
      show JX 217 56 [jR i1, v1, v2] [v1, jI z3] M P
      obtain ⟨i4, e, g⟩ := cR_of h
      clear h
      subst e
      have h := g
      clear g
      refine E_fI (c217 56 rfl) hM (by decide) h (fun z5 h => ?_)
      refine L_nb (p1 := 96) (p2 := 62) (c217 59 rfl) rfl jc_ne h (fun h => ?_) (fun h => ?_)
      · refine L_ps c217 (n := 1) (pc1 := 63) (ls1 := [jR i1, jR i4, v2]) (st1 := [jR i1]) rfl ?_
        refine E_fV (c217 63 rfl) hM (by decide) h (fun x6 hx6 h => ?_)
        refine L_ps c217 (n := 1) (pc1 := 67) (ls1 := [jR i1, jR i4, v2]) (st1 := [jR i4, x6]) rfl ?_
        refine E_fV (c217 67 rfl) hM (by decide) h (fun x7 hx7 h => ?_)
        refine E_aldn (c217 70 rfl) rfl hv2 ?_
        show JX 217 71 [jR i1, jR i4, v2] [v2, x7, x6] M P
        refine E_cI (pc1 := 74) (c217 71 rfl) (js_t (show ssplit 3 [v2, x7, x6] = some ([x6, x7, v2], []) from ss_v (A := [v2, x7, x6]) (B := []) rfl (al_c (jnl_c2 hv2) (al_c (jnl_c2 hx7) (al_c (jnl_c2 hx6) al_n))) (Nat.le_of_ble_eq_true rfl))) rfl (k_Lw_match1 hx6 hx7 hv2 hM h) (fun r9 M s8 hM h => ?_)
        refine L_br (p1 := 96) (p2 := 77) (c217 74 rfl) rfl jc_eq h (fun h => ?_) (fun h => ?_)
        · refine L_ps c217 (n := 1) (pc1 := 97) (ls1 := [jR i1, jR i4, v2]) (st1 := [jI 0]) rfl ?_
          exact E_retZ (c217 97 rfl) (Or.inl rfl) (hQ _ _ _ hM h)
        · refine L_ps c217 (n := 1) (pc1 := 78) (ls1 := [jR i1, jR i4, v2]) (st1 := [jR i1]) rfl ?_
          refine E_fV (c217 78 rfl) hM (by decide) h (fun x10 hx10 h => ?_)
          refine L_ps c217 (n := 1) (pc1 := 82) (ls1 := [jR i1, jR i4, v2]) (st1 := [jR i4, x10]) rfl ?_
          refine E_fV (c217 82 rfl) hM (by decide) h (fun x11 hx11 h => ?_)
          refine E_aldn (c217 85 rfl) rfl hv2 ?_
          show JX 217 86 [jR i1, jR i4, v2] [v2, x11, x10] M P
          refine E_cI (pc1 := 89) (c217 86 rfl) (js_t (show ssplit 3 [v2, x11, x10] = some ([x10, x11, v2], []) from ss_v (A := [v2, x11, x10]) (B := []) rfl (al_c (jnl_c2 hv2) (al_c (jnl_c2 hx11) (al_c (jnl_c2 hx10) al_n))) (Nat.le_of_ble_eq_true rfl))) rfl (k_Lw_match1 hx10 hx11 hv2 hM h) (fun r13 M s12 hM h => ?_)
          refine L_br (p1 := 96) (p2 := 92) (c217 89 rfl) rfl jc_eq h (fun h => ?_) (fun h => ?_)
          · refine L_ps c217 (n := 1) (pc1 := 97) (ls1 := [jR i1, jR i4, v2]) (st1 := [jI 0]) rfl ?_
            exact E_retZ (c217 97 rfl) (Or.inl rfl) (hQ _ _ _ hM h)
          · refine L_ps c217 (n := 2) (pc1 := 97) (ls1 := [jR i1, jR i4, v2]) (st1 := [jI 1]) rfl ?_
            exact E_retZ (c217 97 rfl) (Or.inr rfl) (hQ _ _ _ hM h)
      · refine L_ps c217 (n := 1) (pc1 := 97) (ls1 := [jR i1, jR i4, v2]) (st1 := [jI 0]) rfl ?_
        exact E_retZ (c217 97 rfl) (Or.inl rfl) (hQ _ _ _ hM h)
    · refine E_aldn (c217 15 rfl) rfl hv2 ?_
      show JX 217 16 [jR i1, v1, v2] [v2] M P
      refine L_ps c217 (n := 1) (pc1 := 17) (ls1 := [jR i1, v1, v2]) (st1 := [jR i1, v2]) rfl ?_
      refine E_fI (c217 17 rfl) hM (by decide) h (fun z14 h => ?_)
      refine L_ps c217 (n := 2) (pc1 := 23) (ls1 := [jR i1, v1, v2]) (st1 := [jI (wr (z14 - 100)), v2]) rfl ?_
      obtain ⟨i15, e, g⟩ := cR_of h
      clear h
      subst e
      have h := g
      clear g
      refine E_rV (c217 23 rfl) hM h (fun x16 hx16 h => ?_)
      refine E_ifnn (c217 24 rfl) h (fun e g => ?_) (fun i17 e g => ?_)
      · clear h
        subst e
        have h := g
        clear g
        refine L_ps c217 (n := 2) (pc1 := 29) (ls1 := [jR i1, v1, jR i15]) (st1 := [jR i1, jR i15]) rfl ?_
        refine E_fI (c217 29 rfl) hM (by decide) h (fun z18 h => ?_)
        refine L_ps c217 (n := 2) (pc1 := 35) (ls1 := [jR i1, v1, jR i15]) (st1 := [jI (wr (z18 - 100)), jR i15]) rfl ?_
        refine E_aldn (c217 35 rfl) rfl hv1 ?_
        show JX 217 36 [jR i1, v1, jR i15] [v1, jI (wr (z18 - 100)), jR i15] M P
        refine E_wV (c217 36 rfl) hM h (fun M s19 hM h => ?_)
        exact k_Lw_match2_j37 rfl hv1 rfl hM hQ h
      · clear h
        subst e
        have h := g
        clear g
        exact k_Lw_match2_j37 rfl hv1 rfl hM hQ h
theorem k_Lw_match3_j37 {v0 : JV} {v1 : JV} {v2 : JV} {s : LSt} {M : JM} {P : JO → JM → Prop} {Q : Int → LSt → Prop} (hv0 : jnl v0 = true) (hv1 : jnl v1 = true) (hv2 : jnl v2 = true) (hM : R2 s M) (hQ : ∀ (r : Int) (M1 : JM) (s1 : LSt), R2 s1 M1 → Q r s1 → P (.inl (some (.inl r))) M1) (h : d_Lw_match_j37 (d_Lw_match 3) v0 v1 v2 s Q) : JX 218 37 [v0, v1, v2] [] M P := by
  unfold d_Lw_match_j37 at h
  refine E_aldn (c218 37 rfl) rfl hv2 ?_
  show JX 218 38 [v0, v1, v2] [v2] M P
  refine E_aldn (c218 38 rfl) rfl hv0 ?_
  show JX 218 39 [v0, v1, v2] [v0, v2] M P
  obtain ⟨i20, e, g⟩ := cR_of h
  clear h
  subst e
  have h := g
  clear g
  refine E_fI (c218 39 rfl) hM (by decide) h (fun z21 h => ?_)
  refine L_ps c218 (n := 2) (pc1 := 45) (ls1 := [jR i20, v1, v2]) (st1 := [jI (wr (z21 - 100)), v2]) rfl ?_
  obtain ⟨i22, e, g⟩ := cR_of h
  clear h
  subst e
  have h := g
  clear g
  refine E_rV (c218 45 rfl) hM h (fun x23 hx23 h => ?_)
  refine E_aldn (c218 46 rfl) rfl hv1 ?_
  show JX 218 47 [jR i20, v1, jR i22] [v1, x23] M P
  refine E_cI (pc1 := 50) (c218 47 rfl) (js_t (show ssplit 2 [v1, x23] = some ([x23, v1], []) from ss_v (A := [v1, x23]) (B := []) rfl (al_c (jnl_c2 hv1) (al_c (jnl_c2 hx23) al_n)) (Nat.le_of_ble_eq_true rfl))) rfl (k_Lw_same4 hx23 hv1 hM h) (fun r25 M s24 hM h => ?_)
  obtain ⟨hz, h⟩ := h
  exact E_retZ (c218 50 rfl) hz (hQ _ _ _ hM h)
theorem k_Lw_match3 {v0 : JV} {v1 : JV} {v2 : JV} {s : LSt} {M : JM} {Q : Int → LSt → Prop} (hv0 : jnl v0 = true) (hv1 : jnl v1 = true) (hv2 : jnl v2 = true) (hM : R2 s M) (h : d_Lw_match 4 v0 v1 v2 s Q) : JX 218 0 (jargs 218 [v0, v1, v2]) [] M (P2 (QI2 Q)) := by
  have h : d_Lw_match_F (d_Lw_match 3) v0 v1 v2 s Q := h
  unfold d_Lw_match_F at h
  show JX 218 0 [v0, v1, v2] [] M (P2 (QI2 Q))
  generalize hP : P2 (QI2 Q) = P
  have hQ : ∀ (r : Int) (M1 : JM) (s1 : LSt), R2 s1 M1 → Q r s1 → P (.inl (some (.inl r))) M1 := by rw [← hP]; exact fun r M1 s1 a b => ⟨s1, a, r, rfl, b⟩
  clear hP
  refine E_aldn (c218 0 rfl) rfl hv0 ?_
  show JX 218 1 [v0, v1, v2] [v0] M P
  refine E_ifnn (c218 1 rfl) h (fun e g => ?_) (fun i1 e g => ?_)
  · clear h
    subst e
    have h := g
    clear g
    refine L_ps c218 (n := 1) (pc1 := 5) (ls1 := [jX .null, v1, v2]) (st1 := [jI 1]) rfl ?_
    exact E_retZ (c218 5 rfl) (Or.inr rfl) (hQ _ _ _ hM h)
  · clear h
    subst e
    have h := g
    clear g
    refine L_ps c218 (n := 1) (pc1 := 7) (ls1 := [jR i1, v1, v2]) (st1 := [jR i1]) rfl ?_
    refine E_fI (c218 7 rfl) hM (by decide) h (fun z2 h => ?_)
    refine L_ps c218 (n := 1) (pc1 := 12) (ls1 := [jR i1, v1, v2]) (st1 := [jI 100, jI z2]) rfl ?_
    refine L_br (p1 := 51) (p2 := 15) (c218 12 rfl) rfl jc_lt h (fun h => ?_) (fun h => ?_)
    · refine L_ps c218 (n := 1) (pc1 := 52) (ls1 := [jR i1, v1, v2]) (st1 := [jR i1]) rfl ?_
      refine E_fI (c218 52 rfl) hM (by decide) h (fun z3 h => ?_)
      refine E_aldn (c218 55 rfl) rfl hv1 ?_
      show JX 218 56 [jR i1, v1, v2] [v1, jI z3] M P
      obtain ⟨i4, e, g⟩ := cR_of h
      clear h
      subst e
      have h := g
      clear g
      refine E_fI (c218 56 rfl) hM (by decide) h (fun z5 h => ?_)
      refine L_nb (p1 := 96) (p2 := 62) (c218 59 rfl) rfl jc_ne h (fun h => ?_) (fun h => ?_)
      · refine L_ps c218 (n := 1) (pc1 := 63) (ls1 := [jR i1, jR i4, v2]) (st1 := [jR i1]) rfl ?_
        refine E_fV (c218 63 rfl) hM (by decide) h (fun x6 hx6 h => ?_)
        refine L_ps c218 (n := 1) (pc1 := 67) (ls1 := [jR i1, jR i4, v2]) (st1 := [jR i4, x6]) rfl ?_
        refine E_fV (c218 67 rfl) hM (by decide) h (fun x7 hx7 h => ?_)
        refine E_aldn (c218 70 rfl) rfl hv2 ?_
        show JX 218 71 [jR i1, jR i4, v2] [v2, x7, x6] M P
        refine E_cI (pc1 := 74) (c218 71 rfl) (js_t (show ssplit 3 [v2, x7, x6] = some ([x6, x7, v2], []) from ss_v (A := [v2, x7, x6]) (B := []) rfl (al_c (jnl_c2 hv2) (al_c (jnl_c2 hx7) (al_c (jnl_c2 hx6) al_n))) (Nat.le_of_ble_eq_true rfl))) rfl (k_Lw_match2 hx6 hx7 hv2 hM h) (fun r9 M s8 hM h => ?_)
        refine L_br (p1 := 96) (p2 := 77) (c218 74 rfl) rfl jc_eq h (fun h => ?_) (fun h => ?_)
        · refine L_ps c218 (n := 1) (pc1 := 97) (ls1 := [jR i1, jR i4, v2]) (st1 := [jI 0]) rfl ?_
          exact E_retZ (c218 97 rfl) (Or.inl rfl) (hQ _ _ _ hM h)
        · refine L_ps c218 (n := 1) (pc1 := 78) (ls1 := [jR i1, jR i4, v2]) (st1 := [jR i1]) rfl ?_
          refine E_fV (c218 78 rfl) hM (by decide) h (fun x10 hx10 h => ?_)
          refine L_ps c218 (n := 1) (pc1 := 82) (ls1 := [jR i1, jR i4, v2]) (st1 := [jR i4, x10]) rfl ?_
          refine E_fV (c218 82 rfl) hM (by decide) h (fun x11 hx11 h => ?_)
          refine E_aldn (c218 85 rfl) rfl hv2 ?_
          show JX 218 86 [jR i1, jR i4, v2] [v2, x11, x10] M P
          refine E_cI (pc1 := 89) (c218 86 rfl) (js_t (show ssplit 3 [v2, x11, x10] = some ([x10, x11, v2], []) from ss_v (A := [v2, x11, x10]) (B := []) rfl (al_c (jnl_c2 hv2) (al_c (jnl_c2 hx11) (al_c (jnl_c2 hx10) al_n))) (Nat.le_of_ble_eq_true rfl))) rfl (k_Lw_match2 hx10 hx11 hv2 hM h) (fun r13 M s12 hM h => ?_)
          refine L_br (p1 := 96) (p2 := 92) (c218 89 rfl) rfl jc_eq h (fun h => ?_) (fun h => ?_)
          · refine L_ps c218 (n := 1) (pc1 := 97) (ls1 := [jR i1, jR i4, v2]) (st1 := [jI 0]) rfl ?_
            exact E_retZ (c218 97 rfl) (Or.inl rfl) (hQ _ _ _ hM h)
          · refine L_ps c218 (n := 2) (pc1 := 97) (ls1 := [jR i1, jR i4, v2]) (st1 := [jI 1]) rfl ?_
            exact E_retZ (c218 97 rfl) (Or.inr rfl) (hQ _ _ _ hM h)
      · refine L_ps c218 (n := 1) (pc1 := 97) (ls1 := [jR i1, jR i4, v2]) (st1 := [jI 0]) rfl ?_
        exact E_retZ (c218 97 rfl) (Or.inl rfl) (hQ _ _ _ hM h)
    · refine E_aldn (c218 15 rfl) rfl hv2 ?_
      show JX 218 16 [jR i1, v1, v2] [v2] M P
      refine L_ps c218 (n := 1) (pc1 := 17) (ls1 := [jR i1, v1, v2]) (st1 := [jR i1, v2]) rfl ?_
      refine E_fI (c218 17 rfl) hM (by decide) h (fun z14 h => ?_)
      refine L_ps c218 (n := 2) (pc1 := 23) (ls1 := [jR i1, v1, v2]) (st1 := [jI (wr (z14 - 100)), v2]) rfl ?_
      obtain ⟨i15, e, g⟩ := cR_of h
      clear h
      subst e
      have h := g
      clear g
      refine E_rV (c218 23 rfl) hM h (fun x16 hx16 h => ?_)
      refine E_ifnn (c218 24 rfl) h (fun e g => ?_) (fun i17 e g => ?_)
      · clear h
        subst e
        have h := g
        clear g
        refine L_ps c218 (n := 2) (pc1 := 29) (ls1 := [jR i1, v1, jR i15]) (st1 := [jR i1, jR i15]) rfl ?_
        refine E_fI (c218 29 rfl) hM (by decide) h (fun z18 h => ?_)
        refine L_ps c218 (n := 2) (pc1 := 35) (ls1 := [jR i1, v1, jR i15]) (st1 := [jI (wr (z18 - 100)), jR i15]) rfl ?_
        refine E_aldn (c218 35 rfl) rfl hv1 ?_
        show JX 218 36 [jR i1, v1, jR i15] [v1, jI (wr (z18 - 100)), jR i15] M P
        refine E_wV (c218 36 rfl) hM h (fun M s19 hM h => ?_)
        exact k_Lw_match3_j37 rfl hv1 rfl hM hQ h
      · clear h
        subst e
        have h := g
        clear g
        exact k_Lw_match3_j37 rfl hv1 rfl hM hQ h
theorem k_Lw_match4_j37 {v0 : JV} {v1 : JV} {v2 : JV} {s : LSt} {M : JM} {P : JO → JM → Prop} {Q : Int → LSt → Prop} (hv0 : jnl v0 = true) (hv1 : jnl v1 = true) (hv2 : jnl v2 = true) (hM : R2 s M) (hQ : ∀ (r : Int) (M1 : JM) (s1 : LSt), R2 s1 M1 → Q r s1 → P (.inl (some (.inl r))) M1) (h : d_Lw_match_j37 (d_Lw_match 4) v0 v1 v2 s Q) : JX 219 37 [v0, v1, v2] [] M P := by
  unfold d_Lw_match_j37 at h
  refine E_aldn (c219 37 rfl) rfl hv2 ?_
  show JX 219 38 [v0, v1, v2] [v2] M P
  refine E_aldn (c219 38 rfl) rfl hv0 ?_
  show JX 219 39 [v0, v1, v2] [v0, v2] M P
  obtain ⟨i20, e, g⟩ := cR_of h
  clear h
  subst e
  have h := g
  clear g
  refine E_fI (c219 39 rfl) hM (by decide) h (fun z21 h => ?_)
  refine L_ps c219 (n := 2) (pc1 := 45) (ls1 := [jR i20, v1, v2]) (st1 := [jI (wr (z21 - 100)), v2]) rfl ?_
  obtain ⟨i22, e, g⟩ := cR_of h
  clear h
  subst e
  have h := g
  clear g
  refine E_rV (c219 45 rfl) hM h (fun x23 hx23 h => ?_)
  refine E_aldn (c219 46 rfl) rfl hv1 ?_
  show JX 219 47 [jR i20, v1, jR i22] [v1, x23] M P
  refine E_cI (pc1 := 50) (c219 47 rfl) (js_t (show ssplit 2 [v1, x23] = some ([x23, v1], []) from ss_v (A := [v1, x23]) (B := []) rfl (al_c (jnl_c2 hv1) (al_c (jnl_c2 hx23) al_n)) (Nat.le_of_ble_eq_true rfl))) rfl (k_Lw_same4 hx23 hv1 hM h) (fun r25 M s24 hM h => ?_)
  obtain ⟨hz, h⟩ := h
  exact E_retZ (c219 50 rfl) hz (hQ _ _ _ hM h)
theorem k_Lw_match4 {v0 : JV} {v1 : JV} {v2 : JV} {s : LSt} {M : JM} {Q : Int → LSt → Prop} (hv0 : jnl v0 = true) (hv1 : jnl v1 = true) (hv2 : jnl v2 = true) (hM : R2 s M) (h : d_Lw_match 5 v0 v1 v2 s Q) : JX 219 0 (jargs 219 [v0, v1, v2]) [] M (P2 (QI2 Q)) := by
  have h : d_Lw_match_F (d_Lw_match 4) v0 v1 v2 s Q := h
  unfold d_Lw_match_F at h
  show JX 219 0 [v0, v1, v2] [] M (P2 (QI2 Q))
  generalize hP : P2 (QI2 Q) = P
  have hQ : ∀ (r : Int) (M1 : JM) (s1 : LSt), R2 s1 M1 → Q r s1 → P (.inl (some (.inl r))) M1 := by rw [← hP]; exact fun r M1 s1 a b => ⟨s1, a, r, rfl, b⟩
  clear hP
  refine E_aldn (c219 0 rfl) rfl hv0 ?_
  show JX 219 1 [v0, v1, v2] [v0] M P
  refine E_ifnn (c219 1 rfl) h (fun e g => ?_) (fun i1 e g => ?_)
  · clear h
    subst e
    have h := g
    clear g
    refine L_ps c219 (n := 1) (pc1 := 5) (ls1 := [jX .null, v1, v2]) (st1 := [jI 1]) rfl ?_
    exact E_retZ (c219 5 rfl) (Or.inr rfl) (hQ _ _ _ hM h)
  · clear h
    subst e
    have h := g
    clear g
    refine L_ps c219 (n := 1) (pc1 := 7) (ls1 := [jR i1, v1, v2]) (st1 := [jR i1]) rfl ?_
    refine E_fI (c219 7 rfl) hM (by decide) h (fun z2 h => ?_)
    refine L_ps c219 (n := 1) (pc1 := 12) (ls1 := [jR i1, v1, v2]) (st1 := [jI 100, jI z2]) rfl ?_
    refine L_br (p1 := 51) (p2 := 15) (c219 12 rfl) rfl jc_lt h (fun h => ?_) (fun h => ?_)
    · refine L_ps c219 (n := 1) (pc1 := 52) (ls1 := [jR i1, v1, v2]) (st1 := [jR i1]) rfl ?_
      refine E_fI (c219 52 rfl) hM (by decide) h (fun z3 h => ?_)
      refine E_aldn (c219 55 rfl) rfl hv1 ?_
      show JX 219 56 [jR i1, v1, v2] [v1, jI z3] M P
      obtain ⟨i4, e, g⟩ := cR_of h
      clear h
      subst e
      have h := g
      clear g
      refine E_fI (c219 56 rfl) hM (by decide) h (fun z5 h => ?_)
      refine L_nb (p1 := 96) (p2 := 62) (c219 59 rfl) rfl jc_ne h (fun h => ?_) (fun h => ?_)
      · refine L_ps c219 (n := 1) (pc1 := 63) (ls1 := [jR i1, jR i4, v2]) (st1 := [jR i1]) rfl ?_
        refine E_fV (c219 63 rfl) hM (by decide) h (fun x6 hx6 h => ?_)
        refine L_ps c219 (n := 1) (pc1 := 67) (ls1 := [jR i1, jR i4, v2]) (st1 := [jR i4, x6]) rfl ?_
        refine E_fV (c219 67 rfl) hM (by decide) h (fun x7 hx7 h => ?_)
        refine E_aldn (c219 70 rfl) rfl hv2 ?_
        show JX 219 71 [jR i1, jR i4, v2] [v2, x7, x6] M P
        refine E_cI (pc1 := 74) (c219 71 rfl) (js_t (show ssplit 3 [v2, x7, x6] = some ([x6, x7, v2], []) from ss_v (A := [v2, x7, x6]) (B := []) rfl (al_c (jnl_c2 hv2) (al_c (jnl_c2 hx7) (al_c (jnl_c2 hx6) al_n))) (Nat.le_of_ble_eq_true rfl))) rfl (k_Lw_match3 hx6 hx7 hv2 hM h) (fun r9 M s8 hM h => ?_)
        refine L_br (p1 := 96) (p2 := 77) (c219 74 rfl) rfl jc_eq h (fun h => ?_) (fun h => ?_)
        · refine L_ps c219 (n := 1) (pc1 := 97) (ls1 := [jR i1, jR i4, v2]) (st1 := [jI 0]) rfl ?_
          exact E_retZ (c219 97 rfl) (Or.inl rfl) (hQ _ _ _ hM h)
        · refine L_ps c219 (n := 1) (pc1 := 78) (ls1 := [jR i1, jR i4, v2]) (st1 := [jR i1]) rfl ?_
          refine E_fV (c219 78 rfl) hM (by decide) h (fun x10 hx10 h => ?_)
          refine L_ps c219 (n := 1) (pc1 := 82) (ls1 := [jR i1, jR i4, v2]) (st1 := [jR i4, x10]) rfl ?_
          refine E_fV (c219 82 rfl) hM (by decide) h (fun x11 hx11 h => ?_)
          refine E_aldn (c219 85 rfl) rfl hv2 ?_
          show JX 219 86 [jR i1, jR i4, v2] [v2, x11, x10] M P
          refine E_cI (pc1 := 89) (c219 86 rfl) (js_t (show ssplit 3 [v2, x11, x10] = some ([x10, x11, v2], []) from ss_v (A := [v2, x11, x10]) (B := []) rfl (al_c (jnl_c2 hv2) (al_c (jnl_c2 hx11) (al_c (jnl_c2 hx10) al_n))) (Nat.le_of_ble_eq_true rfl))) rfl (k_Lw_match3 hx10 hx11 hv2 hM h) (fun r13 M s12 hM h => ?_)
          refine L_br (p1 := 96) (p2 := 92) (c219 89 rfl) rfl jc_eq h (fun h => ?_) (fun h => ?_)
          · refine L_ps c219 (n := 1) (pc1 := 97) (ls1 := [jR i1, jR i4, v2]) (st1 := [jI 0]) rfl ?_
            exact E_retZ (c219 97 rfl) (Or.inl rfl) (hQ _ _ _ hM h)
          · refine L_ps c219 (n := 2) (pc1 := 97) (ls1 := [jR i1, jR i4, v2]) (st1 := [jI 1]) rfl ?_
            exact E_retZ (c219 97 rfl) (Or.inr rfl) (hQ _ _ _ hM h)
      · refine L_ps c219 (n := 1) (pc1 := 97) (ls1 := [jR i1, jR i4, v2]) (st1 := [jI 0]) rfl ?_
        exact E_retZ (c219 97 rfl) (Or.inl rfl) (hQ _ _ _ hM h)
    · refine E_aldn (c219 15 rfl) rfl hv2 ?_
      show JX 219 16 [jR i1, v1, v2] [v2] M P
      refine L_ps c219 (n := 1) (pc1 := 17) (ls1 := [jR i1, v1, v2]) (st1 := [jR i1, v2]) rfl ?_
      refine E_fI (c219 17 rfl) hM (by decide) h (fun z14 h => ?_)
      refine L_ps c219 (n := 2) (pc1 := 23) (ls1 := [jR i1, v1, v2]) (st1 := [jI (wr (z14 - 100)), v2]) rfl ?_
      obtain ⟨i15, e, g⟩ := cR_of h
      clear h
      subst e
      have h := g
      clear g
      refine E_rV (c219 23 rfl) hM h (fun x16 hx16 h => ?_)
      refine E_ifnn (c219 24 rfl) h (fun e g => ?_) (fun i17 e g => ?_)
      · clear h
        subst e
        have h := g
        clear g
        refine L_ps c219 (n := 2) (pc1 := 29) (ls1 := [jR i1, v1, jR i15]) (st1 := [jR i1, jR i15]) rfl ?_
        refine E_fI (c219 29 rfl) hM (by decide) h (fun z18 h => ?_)
        refine L_ps c219 (n := 2) (pc1 := 35) (ls1 := [jR i1, v1, jR i15]) (st1 := [jI (wr (z18 - 100)), jR i15]) rfl ?_
        refine E_aldn (c219 35 rfl) rfl hv1 ?_
        show JX 219 36 [jR i1, v1, jR i15] [v1, jI (wr (z18 - 100)), jR i15] M P
        refine E_wV (c219 36 rfl) hM h (fun M s19 hM h => ?_)
        exact k_Lw_match4_j37 rfl hv1 rfl hM hQ h
      · clear h
        subst e
        have h := g
        clear g
        exact k_Lw_match4_j37 rfl hv1 rfl hM hQ h
theorem k_Sys_matches {v0 : JV} {v1 : Int} {v2 : JV} {s : LSt} {M : JM} {Q : Int → LSt → Prop} (hv0 : jnl v0 = true) (hv2 : jnl v2 = true) (hM : R2 s M) (h : d_Sys_matches v0 v1 v2 s Q) : JX 213 0 (jargs 213 [v0, jI v1, v2]) [] M (P2 (QI2 Q)) := by
  unfold d_Sys_matches at h
  show JX 213 0 [v0, jI v1, v2] [] M (P2 (QI2 Q))
  generalize hP : P2 (QI2 Q) = P
  have hQ : ∀ (r : Int) (M1 : JM) (s1 : LSt), R2 s1 M1 → Q r s1 → P (.inl (some (.inl r))) M1 := by rw [← hP]; exact fun r M1 s1 a b => ⟨s1, a, r, rfl, b⟩
  clear hP
  refine E_aldn (c213 0 rfl) rfl hv0 ?_
  show JX 213 1 [v0, jI v1, v2] [v0] M P
  obtain ⟨i1, e, g⟩ := cR_of h
  clear h
  subst e
  have h := g
  clear g
  refine E_fV (c213 1 rfl) hM (by decide) h (fun x2 hx2 h => ?_)
  refine L_ps c213 (n := 1) (pc1 := 5) (ls1 := [jR i1, jI v1, v2]) (st1 := [jX .null, x2]) rfl ?_
  refine E_cN (pc1 := 8) (c213 5 rfl) (js_t (show ssplit 2 [jX .null, x2] = some ([x2, jX .null], []) from ss_v (A := [jX .null, x2]) (B := []) rfl (al_c rfl (al_c (jnl_c2 hx2) al_n)) (Nat.le_of_ble_eq_true rfl))) rfl (k_Arrays_fillO hx2 rfl hM h) (fun M s3 hM h => ?_)
  refine L_ps c213 (n := 1) (pc1 := 9) (ls1 := [jR i1, jI v1, v2]) (st1 := [jR i1]) rfl ?_
  refine E_fV (c213 9 rfl) hM (by decide) h (fun x5 hx5 h => ?_)
  refine L_ps c213 (n := 1) (pc1 := 13) (ls1 := [jR i1, jI v1, v2]) (st1 := [jI v1, x5]) rfl ?_
  obtain ⟨i6, e, g⟩ := cR_of h
  clear h
  subst e
  have h := g
  clear g
  obtain ⟨ht, h⟩ := h
  refine E_cV (pc1 := 16) (c213 13 rfl) (js_v rfl ((rcv_tag hM ht).trans jt188)) rfl (k_AL_get rfl hM h) (fun x8 M s7 hM hx8 h => ?_)
  refine E_cT (c213 16 rfl) hM h (fun h => ?_)
  refine L_ps c213 (n := 1) (pc1 := 20) (ls1 := [jR i1, jI v1, v2]) (st1 := [jI 0, x8]) rfl ?_
  obtain ⟨i9, e, g⟩ := cR_of h
  clear h
  subst e
  have h := g
  clear g
  refine E_rV (c213 20 rfl) hM h (fun x10 hx10 h => ?_)
  refine E_aldn (c213 21 rfl) rfl hv2 ?_
  show JX 213 22 [jR i1, jI v1, v2] [v2, x10] M P
  refine L_ps c213 (n := 1) (pc1 := 23) (ls1 := [jR i1, jI v1, v2]) (st1 := [jR i1, v2, x10]) rfl ?_
  refine E_fV (c213 23 rfl) hM (by decide) h (fun x11 hx11 h => ?_)
  refine E_cI (pc1 := 29) (c213 26 rfl) (js_t (show ssplit 3 [x11, v2, x10] = some ([x10, v2, x11], []) from ss_v (A := [x11, v2, x10]) (B := []) rfl (al_c (jnl_c2 hx11) (al_c (jnl_c2 hv2) (al_c (jnl_c2 hx10) al_n))) (Nat.le_of_ble_eq_true rfl))) rfl (k_Lw_match4 hx10 hv2 hx11 hM h) (fun r13 M s12 hM h => ?_)
  obtain ⟨hz, h⟩ := h
  exact E_retZ (c213 29 rfl) hz (hQ _ _ _ hM h)
theorem k_Sys_rule_b2 {v0 : JV} {v1 : JV} {v2 : Int} {s : LSt} {M : JM} {P : JO → JM → Prop} {W2 : Int → LSt → Prop} {Q : Int → LSt → Prop} (hv0 : jnl v0 = true) (hv1 : jnl v1 = true) (hM : R2 s M) (hQ : ∀ (r : Int) (M1 : JM) (s1 : LSt), R2 s1 M1 → Q r s1 → P (.inl (some (.inl r))) M1) (hW2 : ∀ (v2 : Int) (M1 : JM) (s1 : LSt), R2 s1 M1 → W2 v2 s1 → JX 212 2 [v0, v1, jI v2] [] M1 P) (h : d_Sys_rule_b2 v0 v1 v2 s W2 Q) : JX 212 2 [v0, v1, jI v2] [] M P := by
  unfold d_Sys_rule_b2 at h
  refine L_ps c212 (n := 1) (pc1 := 3) (ls1 := [v0, v1, jI v2]) (st1 := [jI v2]) rfl ?_
  refine E_aldn (c212 3 rfl) rfl hv0 ?_
  show JX 212 4 [v0, v1, jI v2] [v0, jI v2] M P
  obtain ⟨i1, e, g⟩ := cR_of h
  clear h
  subst e
  have h := g
  clear g
  refine E_fV (c212 4 rfl) hM (by decide) h (fun x2 hx2 h => ?_)
  obtain ⟨i3, e, g⟩ := cR_of h
  clear h
  subst e
  have h := g
  clear g
  obtain ⟨ht, h⟩ := h
  refine E_cI (pc1 := 10) (c212 7 rfl) (js_v rfl ((rcv_tag hM ht).trans jt187)) rfl (k_AL_size rfl hM h) (fun r5 M s4 hM h => ?_)
  refine L_nb (p1 := 30) (p2 := 13) (c212 10 rfl) rfl jc_ge h (fun h => ?_) (fun h => ?_)
  · refine L_ps c212 (n := 2) (pc1 := 15) (ls1 := [jR i1, v1, jI v2]) (st1 := [jI v2, jR i1]) rfl ?_
    refine E_aldn (c212 15 rfl) rfl hv1 ?_
    show JX 212 16 [jR i1, v1, jI v2] [v1, jI v2, jR i1] M P
    obtain ⟨ht, h⟩ := h
    refine E_cI (pc1 := 19) (c212 16 rfl) (js_v (show vsplit 2 [v1, jI v2, jR i1] = some (i1, [jR i1, jI v2, v1], []) from vs_v (A := [v1, jI v2]) (B := []) rfl (al_c (jnl_c2 hv1) (al_c rfl al_n)) (Nat.le_of_ble_eq_true rfl)) ((rcv_tag hM ht).trans jt213)) rfl (k_Sys_matches rfl hv1 hM h) (fun r7 M s6 hM h => ?_)
    refine L_br (p1 := 24) (p2 := 22) (c212 19 rfl) rfl jc_eq h (fun h => ?_) (fun h => ?_)
    · refine L_iinc (c212 24 rfl) (jnl_c2 hv1) (Nat.le_of_ble_eq_true rfl) rfl ?_
      show JX 212 27 [jR i1, v1, jI (wr (v2 + 1))] [] M P
      refine L_ps c212 (n := 1) (pc1 := 2) (ls1 := [jR i1, v1, jI (wr (v2 + 1))]) (st1 := []) rfl ?_
      exact hW2 _ _ _ hM h
    · refine L_ps c212 (n := 1) (pc1 := 23) (ls1 := [jR i1, v1, jI v2]) (st1 := [jI v2]) rfl ?_
      exact L_retI (c212 23 rfl) (hQ _ _ _ hM h)
  · refine L_ps c212 (n := 1) (pc1 := 31) (ls1 := [jR i1, v1, jI v2]) (st1 := [jI (-1)]) rfl ?_
    exact L_retI (c212 31 rfl) (hQ _ _ _ hM h)
theorem k_Sys_rule_l2 {v0 : JV} {v1 : JV} {v2 : Int} {s : LSt} {M : JM} {P : JO → JM → Prop} {Q : Int → LSt → Prop} (hv0 : jnl v0 = true) (hv1 : jnl v1 = true) (hM : R2 s M) (hQ : ∀ (r : Int) (M1 : JM) (s1 : LSt), R2 s1 M1 → Q r s1 → P (.inl (some (.inl r))) M1) (h : d_Sys_rule_l2 v0 v1 v2 s Q) : JX 212 2 [v0, v1, jI v2] [] M P := by
  refine h (fun v2 s => ∀ (M : JM), R2 s M → JX 212 2 [v0, v1, jI v2] [] M P) ?_ _ hM
  intro v2 s h M hM
  exact k_Sys_rule_b2 hv0 hv1 hM hQ (fun v2 M s hM h => h M hM) h
theorem k_Sys_rule {v0 : JV} {v1 : JV} {s : LSt} {M : JM} {Q : Int → LSt → Prop} (hv0 : jnl v0 = true) (hv1 : jnl v1 = true) (hM : R2 s M) (h : d_Sys_rule v0 v1 s Q) : JX 212 0 (jargs 212 [v0, v1]) [] M (P2 (QI2 Q)) := by
  unfold d_Sys_rule at h
  show JX 212 0 [v0, v1, jU] [] M (P2 (QI2 Q))
  generalize hP : P2 (QI2 Q) = P
  have hQ : ∀ (r : Int) (M1 : JM) (s1 : LSt), R2 s1 M1 → Q r s1 → P (.inl (some (.inl r))) M1 := by rw [← hP]; exact fun r M1 s1 a b => ⟨s1, a, r, rfl, b⟩
  clear hP
  refine L_ps c212 (n := 1) (pc1 := 1) (ls1 := [v0, v1, jU]) (st1 := [jI 0]) rfl ?_
  refine L_istn (c212 1 rfl) (jnl_c2 hv1) (Nat.le_of_ble_eq_true rfl) ?_
  show JX 212 2 [v0, v1, jI 0] [] M P
  exact k_Sys_rule_l2 hv0 hv1 hM hQ h
