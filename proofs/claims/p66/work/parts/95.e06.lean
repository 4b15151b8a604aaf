/-! that the printed tables do what the texts say, 6 -/
theorem k_Lw_put3 {v0 : JV} {v1 : Int} {v2 : JV} {s : LSt} {M : JM} {Q : JV → LSt → Prop} (hv0 : jnl v0 = true) (hv2 : jnl v2 = true) (hM : R2 s M) (h : d_Lw_put 4 v0 v1 v2 s Q) : JX 240 0 (jargs 240 [v0, jI v1, v2]) [] M (P2 (QV2 Q)) := by
  have h : d_Lw_put_F (d_Lw_put 3) v0 v1 v2 s Q := h
  unfold d_Lw_put_F at h
  show JX 240 0 [v0, jI v1, v2, jU] [] M (P2 (QV2 Q))
  generalize hP : P2 (QV2 Q) = P
  have hQ : ∀ (r : JV) (M1 : JM) (s1 : LSt), R2 s1 M1 → jnl r = true → Q r s1 → P (.inl (some r)) M1 := by rw [← hP]; exact fun r M1 s1 a c b => ⟨s1, a, r, rfl, c, b⟩
  clear hP
  refine L_ps c240 (n := 1) (pc1 := 1) (ls1 := [v0, jI v1, v2, jU]) (st1 := [jI v1]) rfl ?_
  refine L_nb (p1 := 6) (p2 := 4) (c240 1 rfl) rfl jc_ne h (fun h => ?_) (fun h => ?_)
  · refine E_aldn (c240 4 rfl) rfl hv2 ?_
    show JX 240 5 [v0, jI v1, v2, jU] [v2] M P
    exact E_retV (c240 5 rfl) hv2 (hQ _ _ _ hM hv2 h)
  · refine E_aldn (c240 6 rfl) rfl hv0 ?_
    show JX 240 7 [v0, jI v1, v2, jU] [v0] M P
    obtain ⟨i1, e, g⟩ := cR_of h
    clear h
    subst e
    have h := g
    clear g
    refine E_fV (c240 7 rfl) hM (by decide) h (fun x2 hx2 h => ?_)
    refine E_cI (pc1 := 13) (c240 10 rfl) (js_t (show ssplit 1 [x2] = some ([x2], []) from ss_v (A := [x2]) (B := []) rfl (al_c (jnl_c2 hx2) al_n) (Nat.le_of_ble_eq_true rfl))) rfl (k_Lw_size7 hx2 hM h) (fun r4 M s3 hM h => ?_)
    refine L_istn (c240 13 rfl) (jnl_c2 hv2) (Nat.le_of_ble_eq_true rfl) ?_
    show JX 240 14 [jR i1, jI v1, v2, jI r4] [] M P
    refine L_ps c240 (n := 2) (pc1 := 16) (ls1 := [jR i1, jI v1, v2, jI r4]) (st1 := [jI r4, jI v1]) rfl ?_
    refine L_br (p1 := 48) (p2 := 19) (c240 16 rfl) rfl jc_gt h (fun h => ?_) (fun h => ?_)
    · refine E_nC (c240 48 rfl) hM (by decide) h (fun i5 M s6 hM h => ?_)
      refine L_ps c240 (n := 2) (pc1 := 53) (ls1 := [jR i1, jI v1, v2, jI r4]) (st1 := [jR i1, jR i5, jR i5]) rfl ?_
      refine E_fI (c240 53 rfl) hM (by decide) h (fun z7 h => ?_)
      refine L_ps c240 (n := 1) (pc1 := 57) (ls1 := [jR i1, jI v1, v2, jI r4]) (st1 := [jR i1, jI z7, jR i5, jR i5]) rfl ?_
      refine E_fV (c240 57 rfl) hM (by decide) h (fun x8 hx8 h => ?_)
      refine L_ps c240 (n := 1) (pc1 := 61) (ls1 := [jR i1, jI v1, v2, jI r4]) (st1 := [jR i1, x8, jI z7, jR i5, jR i5]) rfl ?_
      refine E_fV (c240 61 rfl) hM (by decide) h (fun x9 hx9 h => ?_)
      refine L_ps c240 (n := 5) (pc1 := 69) (ls1 := [jR i1, jI v1, v2, jI r4]) (st1 := [jI (wr ((wr (v1 - 1)) - r4)), x9, x8, jI z7, jR i5, jR i5]) rfl ?_
      refine E_aldn (c240 69 rfl) rfl hv2 ?_
      show JX 240 70 [jR i1, jI v1, v2, jI r4] [v2, jI (wr ((wr (v1 - 1)) - r4)), x9, x8, jI z7, jR i5, jR i5] M P
      refine E_cV (pc1 := 73) (c240 70 rfl) (js_t (show ssplit 3 [v2, jI (wr ((wr (v1 - 1)) - r4)), x9, x8, jI z7, jR i5, jR i5] = some ([x9, jI (wr ((wr (v1 - 1)) - r4)), v2], [x8, jI z7, jR i5, jR i5]) from ss_v (A := [v2, jI (wr ((wr (v1 - 1)) - r4)), x9]) (B := [x8, jI z7, jR i5, jR i5]) rfl (al_c (jnl_c2 hv2) (al_c rfl (al_c (jnl_c2 hx9) al_n))) (Nat.le_of_ble_eq_true rfl))) rfl (k_Lw_put2 hx9 hv2 hM h) (fun x11 M s10 hM hx11 h => ?_)
      refine E_cN (pc1 := 76) (c240 73 rfl) (js_s (show vsplit (3 % 100) [x11, x8, jI z7, jR i5, jR i5] = some (i5, [jR i5, jI z7, x8, x11], [jR i5]) from vs_v (A := [x11, x8, jI z7]) (B := [jR i5]) rfl (al_c (jnl_c2 hx11) (al_c (jnl_c2 hx8) (al_c rfl al_n))) (Nat.le_of_ble_eq_true rfl))) rfl (k_Node_init rfl hx8 hx11 hM h) (fun M s12 hM h => ?_)
      exact E_retV (c240 76 rfl) rfl (hQ _ _ _ hM rfl h)
    · refine E_nC (c240 19 rfl) hM (by decide) h (fun i14 M s15 hM h => ?_)
      refine L_ps c240 (n := 2) (pc1 := 24) (ls1 := [jR i1, jI v1, v2, jI r4]) (st1 := [jR i1, jR i14, jR i14]) rfl ?_
      refine E_fI (c240 24 rfl) hM (by decide) h (fun z16 h => ?_)
      refine L_ps c240 (n := 1) (pc1 := 28) (ls1 := [jR i1, jI v1, v2, jI r4]) (st1 := [jR i1, jI z16, jR i14, jR i14]) rfl ?_
      refine E_fV (c240 28 rfl) hM (by decide) h (fun x17 hx17 h => ?_)
      refine L_ps c240 (n := 3) (pc1 := 34) (ls1 := [jR i1, jI v1, v2, jI r4]) (st1 := [jI (wr (v1 - 1)), x17, jI z16, jR i14, jR i14]) rfl ?_
      refine E_aldn (c240 34 rfl) rfl hv2 ?_
      show JX 240 35 [jR i1, jI v1, v2, jI r4] [v2, jI (wr (v1 - 1)), x17, jI z16, jR i14, jR i14] M P
      refine E_cV (pc1 := 38) (c240 35 rfl) (js_t (show ssplit 3 [v2, jI (wr (v1 - 1)), x17, jI z16, jR i14, jR i14] = some ([x17, jI (wr (v1 - 1)), v2], [jI z16, jR i14, jR i14]) from ss_v (A := [v2, jI (wr (v1 - 1)), x17]) (B := [jI z16, jR i14, jR i14]) rfl (al_c (jnl_c2 hv2) (al_c rfl (al_c (jnl_c2 hx17) al_n))) (Nat.le_of_ble_eq_true rfl))) rfl (k_Lw_put2 hx17 hv2 hM h) (fun x19 M s18 hM hx19 h => ?_)
      refine L_ps c240 (n := 1) (pc1 := 39) (ls1 := [jR i1, jI v1, v2, jI r4]) (st1 := [jR i1, x19, jI z16, jR i14, jR i14]) rfl ?_
      refine E_fV (c240 39 rfl) hM (by decide) h (fun x20 hx20 h => ?_)
      refine E_cN (pc1 := 45) (c240 42 rfl) (js_s (show vsplit (3 % 100) [x20, x19, jI z16, jR i14, jR i14] = some (i14, [jR i14, jI z16, x19, x20], [jR i14]) from vs_v (A := [x20, x19, jI z16]) (B := [jR i14]) rfl (al_c (jnl_c2 hx20) (al_c (jnl_c2 hx19) (al_c rfl al_n))) (Nat.le_of_ble_eq_true rfl))) rfl (k_Node_init rfl hx19 hx20 hM h) (fun M s21 hM h => ?_)
      refine L_ps c240 (n := 1) (pc1 := 76) (ls1 := [jR i1, jI v1, v2, jI r4]) (st1 := [jR i14]) rfl ?_
      exact E_retV (c240 76 rfl) rfl (hQ _ _ _ hM rfl h)
theorem k_Lw_put4 {v0 : JV} {v1 : Int} {v2 : JV} {s : LSt} {M : JM} {Q : JV → LSt → Prop} (hv0 : jnl v0 = true) (hv2 : jnl v2 = true) (hM : R2 s M) (h : d_Lw_put 5 v0 v1 v2 s Q) : JX 241 0 (jargs 241 [v0, jI v1, v2]) [] M (P2 (QV2 Q)) := by
  have h : d_Lw_put_F (d_Lw_put 4) v0 v1 v2 s Q := h
  unfold d_Lw_put_F at h
  show JX 241 0 [v0, jI v1, v2, jU] [] M (P2 (QV2 Q))
  generalize hP : P2 (QV2 Q) = P
  have hQ : ∀ (r : JV) (M1 : JM) (s1 : LSt), R2 s1 M1 → jnl r = true → Q r s1 → P (.inl (some r)) M1 := by rw [← hP]; exact fun r M1 s1 a c b => ⟨s1, a, r, rfl, c, b⟩
  clear hP
  refine L_ps c241 (n := 1) (pc1 := 1) (ls1 := [v0, jI v1, v2, jU]) (st1 := [jI v1]) rfl ?_
  refine L_nb (p1 := 6) (p2 := 4) (c241 1 rfl) rfl jc_ne h (fun h => ?_) (fun h => ?_)
  · refine E_aldn (c241 4 rfl) rfl hv2 ?_
    show JX 241 5 [v0, jI v1, v2, jU] [v2] M P
    exact E_retV (c241 5 rfl) hv2 (hQ _ _ _ hM hv2 h)
  · refine E_aldn (c241 6 rfl) rfl hv0 ?_
    show JX 241 7 [v0, jI v1, v2, jU] [v0] M P
    obtain ⟨i1, e, g⟩ := cR_of h
    clear h
    subst e
    have h := g
    clear g
    refine E_fV (c241 7 rfl) hM (by decide) h (fun x2 hx2 h => ?_)
    refine E_cI (pc1 := 13) (c241 10 rfl) (js_t (show ssplit 1 [x2] = some ([x2], []) from ss_v (A := [x2]) (B := []) rfl (al_c (jnl_c2 hx2) al_n) (Nat.le_of_ble_eq_true rfl))) rfl (k_Lw_size7 hx2 hM h) (fun r4 M s3 hM h => ?_)
    refine L_istn (c241 13 rfl) (jnl_c2 hv2) (Nat.le_of_ble_eq_true rfl) ?_
    show JX 241 14 [jR i1, jI v1, v2, jI r4] [] M P
    refine L_ps c241 (n := 2) (pc1 := 16) (ls1 := [jR i1, jI v1, v2, jI r4]) (st1 := [jI r4, jI v1]) rfl ?_
    refine L_br (p1 := 48) (p2 := 19) (c241 16 rfl) rfl jc_gt h (fun h => ?_) (fun h => ?_)
    · refine E_nC (c241 48 rfl) hM (by decide) h (fun i5 M s6 hM h => ?_)
      refine L_ps c241 (n := 2) (pc1 := 53) (ls1 := [jR i1, jI v1, v2, jI r4]) (st1 := [jR i1, jR i5, jR i5]) rfl ?_
      refine E_fI (c241 53 rfl) hM (by decide) h (fun z7 h => ?_)
      refine L_ps c241 (n := 1) (pc1 := 57) (ls1 := [jR i1, jI v1, v2, jI r4]) (st1 := [jR i1, jI z7, jR i5, jR i5]) rfl ?_
      refine E_fV (c241 57 rfl) hM (by decide) h (fun x8 hx8 h => ?_)
      refine L_ps c241 (n := 1) (pc1 := 61) (ls1 := [jR i1, jI v1, v2, jI r4]) (st1 := [jR i1, x8, jI z7, jR i5, jR i5]) rfl ?_
      refine E_fV (c241 61 rfl) hM (by decide) h (fun x9 hx9 h => ?_)
      refine L_ps c241 (n := 5) (pc1 := 69) (ls1 := [jR i1, jI v1, v2, jI r4]) (st1 := [jI (wr ((wr (v1 - 1)) - r4)), x9, x8, jI z7, jR i5, jR i5]) rfl ?_
      refine E_aldn (c241 69 rfl) rfl hv2 ?_
      show JX 241 70 [jR i1, jI v1, v2, jI r4] [v2, jI (wr ((wr (v1 - 1)) - r4)), x9, x8, jI z7, jR i5, jR i5] M P
      refine E_cV (pc1 := 73) (c241 70 rfl) (js_t (show ssplit 3 [v2, jI (wr ((wr (v1 - 1)) - r4)), x9, x8, jI z7, jR i5, jR i5] = some ([x9, jI (wr ((wr (v1 - 1)) - r4)), v2], [x8, jI z7, jR i5, jR i5]) from ss_v (A := [v2, jI (wr ((wr (v1 - 1)) - r4)), x9]) (B := [x8, jI z7, jR i5, jR i5]) rfl (al_c (jnl_c2 hv2) (al_c rfl (al_c (jnl_c2 hx9) al_n))) (Nat.le_of_ble_eq_true rfl))) rfl (k_Lw_put3 hx9 hv2 hM h) (fun x11 M s10 hM hx11 h => ?_)
      refine E_cN (pc1 := 76) (c241 73 rfl) (js_s (show vsplit (3 % 100) [x11, x8, jI z7, jR i5, jR i5] = some (i5, [jR i5, jI z7, x8, x11], [jR i5]) from vs_v (A := [x11, x8, jI z7]) (B := [jR i5]) rfl (al_c (jnl_c2 hx11) (al_c (jnl_c2 hx8) (al_c rfl al_n))) (Nat.le_of_ble_eq_true rfl))) rfl (k_Node_init rfl hx8 hx11 hM h) (fun M s12 hM h => ?_)
      exact E_retV (c241 76 rfl) rfl (hQ _ _ _ hM rfl h)
    · refine E_nC (c241 19 rfl) hM (by decide) h (fun i14 M s15 hM h => ?_)
      refine L_ps c241 (n := 2) (pc1 := 24) (ls1 := [jR i1, jI v1, v2, jI r4]) (st1 := [jR i1, jR i14, jR i14]) rfl ?_
      refine E_fI (c241 24 rfl) hM (by decide) h (fun z16 h => ?_)
      refine L_ps c241 (n := 1) (pc1 := 28) (ls1 := [jR i1, jI v1, v2, jI r4]) (st1 := [jR i1, jI z16, jR i14, jR i14]) rfl ?_
      refine E_fV (c241 28 rfl) hM (by decide) h (fun x17 hx17 h => ?_)
      refine L_ps c241 (n := 3) (pc1 := 34) (ls1 := [jR i1, jI v1, v2, jI r4]) (st1 := [jI (wr (v1 - 1)), x17, jI z16, jR i14, jR i14]) rfl ?_
      refine E_aldn (c241 34 rfl) rfl hv2 ?_
      show JX 241 35 [jR i1, jI v1, v2, jI r4] [v2, jI (wr (v1 - 1)), x17, jI z16, jR i14, jR i14] M P
      refine E_cV (pc1 := 38) (c241 35 rfl) (js_t (show ssplit 3 [v2, jI (wr (v1 - 1)), x17, jI z16, jR i14, jR i14] = some ([x17, jI (wr (v1 - 1)), v2], [jI z16, jR i14, jR i14]) from ss_v (A := [v2, jI (wr (v1 - 1)), x17]) (B := [jI z16, jR i14, jR i14]) rfl (al_c (jnl_c2 hv2) (al_c rfl (al_c (jnl_c2 hx17) al_n))) (Nat.le_of_ble_eq_true rfl))) rfl (k_Lw_put3 hx17 hv2 hM h) (fun x19 M s18 hM hx19 h => ?_)
      refine L_ps c241 (n := 1) (pc1 := 39) (ls1 := [jR i1, jI v1, v2, jI r4]) (st1 := [jR i1, x19, jI z16, jR i14, jR i14]) rfl ?_
      refine E_fV (c241 39 rfl) hM (by decide) h (fun x20 hx20 h => ?_)
      refine E_cN (pc1 := 45) (c241 42 rfl) (js_s (show vsplit (3 % 100) [x20, x19, jI z16, jR i14, jR i14] = some (i14, [jR i14, jI z16, x19, x20], [jR i14]) from vs_v (A := [x20, x19, jI z16]) (B := [jR i14]) rfl (al_c (jnl_c2 hx20) (al_c (jnl_c2 hx19) (al_c rfl al_n))) (Nat.le_of_ble_eq_true rfl))) rfl (k_Node_init rfl hx19 hx20 hM h) (fun M s21 hM h => ?_)
      refine L_ps c241 (n := 1) (pc1 := 76) (ls1 := [jR i1, jI v1, v2, jI r4]) (st1 := [jR i14]) rfl ?_
      exact E_retV (c241 76 rfl) rfl (hQ _ _ _ hM rfl h)
theorem k_Sys_rewrite {v0 : JV} {v1 : Int} {v2 : JV} {v3 : Int} {s : LSt} {M : JM} {Q : JV → LSt → Prop} (hv0 : jnl v0 = true) (hv2 : jnl v2 = true) (hM : R2 s M) (h : d_Sys_rewrite v0 v1 v2 v3 s Q) : JX 231 0 (jargs 231 [v0, jI v1, v2, jI v3]) [] M (P2 (QV2 Q)) := by
  unfold d_Sys_rewrite at h
  show JX 231 0 [v0, jI v1, v2, jI v3, jU] [] M (P2 (QV2 Q))
  generalize hP : P2 (QV2 Q) = P
  have hQ : ∀ (r : JV) (M1 : JM) (s1 : LSt), R2 s1 M1 → jnl r = true → Q r s1 → P (.inl (some r)) M1 := by rw [← hP]; exact fun r M1 s1 a c b => ⟨s1, a, r, rfl, c, b⟩
  clear hP
  refine L_ps c231 (n := 1) (pc1 := 1) (ls1 := [v0, jI v1, v2, jI v3, jU]) (st1 := [jI v1]) rfl ?_
  refine L_br (p1 := 17) (p2 := 4) (c231 1 rfl) rfl jc_lt h (fun h => ?_) (fun h => ?_)
  · refine L_ps c231 (n := 1) (pc1 := 18) (ls1 := [v0, jI v1, v2, jI v3, jU]) (st1 := [jX .null]) rfl ?_
    exact E_retV (c231 18 rfl) rfl (hQ _ _ _ hM rfl h)
  · refine E_aldn (c231 4 rfl) rfl hv0 ?_
    show JX 231 5 [v0, jI v1, v2, jI v3, jU] [v0] M P
    refine L_ps c231 (n := 1) (pc1 := 6) (ls1 := [v0, jI v1, v2, jI v3, jU]) (st1 := [jI v1, v0]) rfl ?_
    refine E_aldn (c231 6 rfl) rfl hv2 ?_
    show JX 231 7 [v0, jI v1, v2, jI v3, jU] [v2, jI v1, v0] M P
    refine L_ps c231 (n := 1) (pc1 := 8) (ls1 := [v0, jI v1, v2, jI v3, jU]) (st1 := [jI v3, v2, jI v1, v0]) rfl ?_
    refine E_cV (pc1 := 11) (c231 8 rfl) (js_t (show ssplit 2 [jI v3, v2, jI v1, v0] = some ([v2, jI v3], [jI v1, v0]) from ss_v (A := [jI v3, v2]) (B := [jI v1, v0]) rfl (al_c rfl (al_c (jnl_c2 hv2) al_n)) (Nat.le_of_ble_eq_true rfl))) rfl (k_Lw_at4 hv2 hM h) (fun x2 M s1 hM hx2 h => ?_)
    obtain ⟨i3, e, g⟩ := cR_of h
    clear h
    subst e
    have h := g
    clear g
    obtain ⟨ht, h⟩ := h
    refine E_cI (pc1 := 14) (c231 11 rfl) (js_v (show vsplit 2 [x2, jI v1, jR i3] = some (i3, [jR i3, jI v1, x2], []) from vs_v (A := [x2, jI v1]) (B := []) rfl (al_c (jnl_c2 hx2) (al_c rfl al_n)) (Nat.le_of_ble_eq_true rfl)) ((rcv_tag hM ht).trans jt213)) rfl (k_Sys_matches rfl hx2 hM h) (fun r5 M s4 hM h => ?_)
    refine L_nb (p1 := 19) (p2 := 17) (c231 14 rfl) rfl jc_ne h (fun h => ?_) (fun h => ?_)
    · refine L_ps c231 (n := 1) (pc1 := 18) (ls1 := [jR i3, jI v1, v2, jI v3, jU]) (st1 := [jX .null]) rfl ?_
      exact E_retV (c231 18 rfl) rfl (hQ _ _ _ hM rfl h)
    · refine E_aldn (c231 19 rfl) rfl hv2 ?_
      show JX 231 20 [jR i3, jI v1, v2, jI v3, jU] [v2] M P
      refine L_ps c231 (n := 2) (pc1 := 22) (ls1 := [jR i3, jI v1, v2, jI v3, jU]) (st1 := [jR i3, jI v3, v2]) rfl ?_
      refine E_fV (c231 22 rfl) hM (by decide) h (fun x6 hx6 h => ?_)
      refine L_ps c231 (n := 1) (pc1 := 26) (ls1 := [jR i3, jI v1, v2, jI v3, jU]) (st1 := [jI v1, x6, jI v3, v2]) rfl ?_
      obtain ⟨i7, e, g⟩ := cR_of h
      clear h
      subst e
      have h := g
      clear g
      obtain ⟨ht, h⟩ := h
      refine E_cV (pc1 := 29) (c231 26 rfl) (js_v (show vsplit 1 [jI v1, jR i7, jI v3, v2] = some (i7, [jR i7, jI v1], [jI v3, v2]) from vs_v (A := [jI v1]) (B := [jI v3, v2]) rfl (al_c rfl al_n) (Nat.le_of_ble_eq_true rfl)) ((rcv_tag hM ht).trans jt188)) rfl (k_AL_get rfl hM h) (fun x9 M s8 hM hx9 h => ?_)
      refine E_cT (c231 29 rfl) hM h (fun h => ?_)
      refine L_ps c231 (n := 1) (pc1 := 33) (ls1 := [jR i3, jI v1, v2, jI v3, jU]) (st1 := [jI 1, x9, jI v3, v2]) rfl ?_
      obtain ⟨i10, e, g⟩ := cR_of h
      clear h
      subst e
      have h := g
      clear g
      refine E_rV (c231 33 rfl) hM h (fun x11 hx11 h => ?_)
      refine L_ps c231 (n := 1) (pc1 := 35) (ls1 := [jR i3, jI v1, v2, jI v3, jU]) (st1 := [jR i3, x11, jI v3, v2]) rfl ?_
      refine E_fV (c231 35 rfl) hM (by decide) h (fun x12 hx12 h => ?_)
      refine E_cV (pc1 := 41) (c231 38 rfl) (js_t (show ssplit 2 [x12, x11, jI v3, v2] = some ([x11, x12], [jI v3, v2]) from ss_v (A := [x12, x11]) (B := [jI v3, v2]) rfl (al_c (jnl_c2 hx12) (al_c (jnl_c2 hx11) al_n)) (Nat.le_of_ble_eq_true rfl))) rfl (k_Lw_fill4 hx11 hx12 hM h) (fun x14 M s13 hM hx14 h => ?_)
      refine E_cV (pc1 := 44) (c231 41 rfl) (js_t (show ssplit 3 [x14, jI v3, v2] = some ([v2, jI v3, x14], []) from ss_v (A := [x14, jI v3, v2]) (B := []) rfl (al_c (jnl_c2 hx14) (al_c rfl (al_c (jnl_c2 hv2) al_n))) (Nat.le_of_ble_eq_true rfl))) rfl (k_Lw_put4 hv2 hx14 hM h) (fun x16 M s15 hM hx16 h => ?_)
      refine E_ast (ls1 := [jR i3, jI v1, v2, jI v3, x16]) (c231 44 rfl) rfl (Nat.le_of_ble_eq_true rfl) hx16 rfl ?_
      refine E_ald (c231 46 rfl) rfl hx16 ?_
      show JX 231 48 [jR i3, jI v1, v2, jI v3, x16] [x16] M P
      refine E_cI (pc1 := 51) (c231 48 rfl) (js_t (show ssplit 1 [x16] = some ([x16], []) from ss_v (A := [x16]) (B := []) rfl (al_c (jnl_c2 hx16) al_n) (Nat.le_of_ble_eq_true rfl))) rfl (k_Lw_size7 hx16 hM h) (fun r18 M s17 hM h => ?_)
      refine L_ps c231 (n := 1) (pc1 := 53) (ls1 := [jR i3, jI v1, v2, jI v3, x16]) (st1 := [jI 80, jI r18]) rfl ?_
      refine L_nb (p1 := 60) (p2 := 56) (c231 53 rfl) rfl jc_le h (fun h => ?_) (fun h => ?_)
      · refine L_ps c231 (n := 2) (pc1 := 62) (ls1 := [jR i3, jI v1, v2, jI v3, x16]) (st1 := [jX .null]) rfl ?_
        exact E_retV (c231 62 rfl) rfl (hQ _ _ _ hM rfl h)
      · refine E_ald (c231 60 rfl) rfl hx16 ?_
        show JX 231 62 [jR i3, jI v1, v2, jI v3, x16] [x16] M P
        exact E_retV (c231 62 rfl) hx16 (hQ _ _ _ hM hx16 h)
theorem k_Sys_step {v0 : JV} {v1 : JV} {v2 : Int} {s : LSt} {M : JM} {Q : JV → LSt → Prop} (hv0 : jnl v0 = true) (hv1 : jnl v1 = true) (hM : R2 s M) (h : d_Sys_step v0 v1 v2 s Q) : JX 225 0 (jargs 225 [v0, v1, jI v2]) [] M (P2 (QV2 Q)) := by
  unfold d_Sys_step at h
  show JX 225 0 [v0, v1, jI v2] [] M (P2 (QV2 Q))
  generalize hP : P2 (QV2 Q) = P
  have hQ : ∀ (r : JV) (M1 : JM) (s1 : LSt), R2 s1 M1 → jnl r = true → Q r s1 → P (.inl (some r)) M1 := by rw [← hP]; exact fun r M1 s1 a c b => ⟨s1, a, r, rfl, c, b⟩
  clear hP
  refine L_ps c225 (n := 1) (pc1 := 1) (ls1 := [v0, v1, jI v2]) (st1 := [jI v2]) rfl ?_
  refine L_nb (p1 := 8) (p2 := 4) (c225 1 rfl) rfl jc_ge h (fun h => ?_) (fun h => ?_)
  · refine L_ps c225 (n := 2) (pc1 := 23) (ls1 := [v0, v1, jI v2]) (st1 := [jX .null]) rfl ?_
    exact E_retV (c225 23 rfl) rfl (hQ _ _ _ hM rfl h)
  · refine E_aldn (c225 8 rfl) rfl hv0 ?_
    show JX 225 9 [v0, v1, jI v2] [v0] M P
    refine E_aldn (c225 9 rfl) rfl hv0 ?_
    show JX 225 10 [v0, v1, jI v2] [v0, v0] M P
    refine E_aldn (c225 10 rfl) rfl hv1 ?_
    show JX 225 11 [v0, v1, jI v2] [v1, v0, v0] M P
    refine L_ps c225 (n := 1) (pc1 := 12) (ls1 := [v0, v1, jI v2]) (st1 := [jI v2, v1, v0, v0]) rfl ?_
    refine E_cV (pc1 := 15) (c225 12 rfl) (js_t (show ssplit 2 [jI v2, v1, v0, v0] = some ([v1, jI v2], [v0, v0]) from ss_v (A := [jI v2, v1]) (B := [v0, v0]) rfl (al_c rfl (al_c (jnl_c2 hv1) al_n)) (Nat.le_of_ble_eq_true rfl))) rfl (k_Lw_at4 hv1 hM h) (fun x2 M s1 hM hx2 h => ?_)
    obtain ⟨i3, e, g⟩ := cR_of h
    clear h
    subst e
    have h := g
    clear g
    obtain ⟨ht, h⟩ := h
    refine E_cI (pc1 := 18) (c225 15 rfl) (js_v (show vsplit 1 [x2, jR i3, jR i3] = some (i3, [jR i3, x2], [jR i3]) from vs_v (A := [x2]) (B := [jR i3]) rfl (al_c (jnl_c2 hx2) al_n) (Nat.le_of_ble_eq_true rfl)) ((rcv_tag hM ht).trans jt212)) rfl (k_Sys_rule rfl hx2 hM h) (fun r5 M s4 hM h => ?_)
    refine E_aldn (c225 18 rfl) rfl hv1 ?_
    show JX 225 19 [jR i3, v1, jI v2] [v1, jI r5, jR i3] M P
    refine L_ps c225 (n := 1) (pc1 := 20) (ls1 := [jR i3, v1, jI v2]) (st1 := [jI v2, v1, jI r5, jR i3]) rfl ?_
    obtain ⟨ht, h⟩ := h
    refine E_cV (pc1 := 23) (c225 20 rfl) (js_v (show vsplit 3 [jI v2, v1, jI r5, jR i3] = some (i3, [jR i3, jI r5, v1, jI v2], []) from vs_v (A := [jI v2, v1, jI r5]) (B := []) rfl (al_c rfl (al_c (jnl_c2 hv1) (al_c rfl al_n))) (Nat.le_of_ble_eq_true rfl)) ((rcv_tag hM ht).trans jt231)) rfl (k_Sys_rewrite rfl hv1 hM h) (fun x7 M s6 hM hx7 h => ?_)
    exact E_retV (c225 23 rfl) hx7 (hQ _ _ _ hM hx7 h)
theorem k_AL_set {v0 : JV} {v1 : Int} {v2 : JV} {s : LSt} {M : JM} {Q : JV → LSt → Prop} (hv0 : jnl v0 = true) (hv2 : jnl v2 = true) (hM : R2 s M) (h : d_AL_set v0 v1 v2 s Q) : JX 242 0 (jargs 242 [v0, jI v1, v2]) [] M (P2 (QV2 Q)) := by
  unfold d_AL_set at h
  show JX 242 0 [v0, jI v1, v2, jU] [] M (P2 (QV2 Q))
  generalize hP : P2 (QV2 Q) = P
  have hQ : ∀ (r : JV) (M1 : JM) (s1 : LSt), R2 s1 M1 → jnl r = true → Q r s1 → P (.inl (some r)) M1 := by rw [← hP]; exact fun r M1 s1 a c b => ⟨s1, a, r, rfl, c, b⟩
  clear hP
  refine L_ps c242 (n := 1) (pc1 := 1) (ls1 := [v0, jI v1, v2, jU]) (st1 := [jI v1]) rfl ?_
  refine E_aldn (c242 1 rfl) rfl hv0 ?_
  show JX 242 2 [v0, jI v1, v2, jU] [v0, jI v1] M P
  obtain ⟨i1, e, g⟩ := cR_of h
  clear h
  subst e
  have h := g
  clear g
  refine E_fI (c242 2 rfl) hM (by decide) h (fun z2 h => ?_)
  refine E_cI (pc1 := 8) (c242 5 rfl) (js_t rfl) rfl (k_Objects_checkIndex hM h) (fun r4 M s3 hM h => ?_)
  refine L_ps c242 (n := 3) (pc1 := 11) (ls1 := [jR i1, jI v1, v2, jU]) (st1 := [jI v1, jR i1]) rfl ?_
  obtain ⟨ht, h⟩ := h
  refine E_cV (pc1 := 14) (c242 11 rfl) (js_v rfl ((rcv_tag hM ht).trans jt190)) rfl (k_AL_elementData rfl hM h) (fun x6 M s5 hM hx6 h => ?_)
  refine E_astn (ls1 := [jR i1, jI v1, v2, x6]) (c242 14 rfl) (jnl_c2 hv2) (Nat.le_of_ble_eq_true rfl) hx6 rfl ?_
  refine L_ps c242 (n := 1) (pc1 := 16) (ls1 := [jR i1, jI v1, v2, x6]) (st1 := [jR i1]) rfl ?_
  refine E_fV (c242 16 rfl) hM (by decide) h (fun x7 hx7 h => ?_)
  refine L_ps c242 (n := 1) (pc1 := 20) (ls1 := [jR i1, jI v1, v2, x6]) (st1 := [jI v1, x7]) rfl ?_
  refine E_aldn (c242 20 rfl) rfl hv2 ?_
  show JX 242 21 [jR i1, jI v1, v2, x6] [v2, jI v1, x7] M P
  obtain ⟨i8, e, g⟩ := cR_of h
  clear h
  subst e
  have h := g
  clear g
  refine E_wV (c242 21 rfl) hM h (fun M s9 hM h => ?_)
  refine E_aldn (c242 22 rfl) rfl hx6 ?_
  show JX 242 23 [jR i1, jI v1, v2, x6] [x6] M P
  exact E_retV (c242 23 rfl) hx6 (hQ _ _ _ hM hx6 h)
theorem k_ASB_getValue {v0 : JV} {s : LSt} {M : JM} {Q : JV → LSt → Prop} (hv0 : jnl v0 = true) (hM : R2 s M) (h : d_ASB_getValue v0 s Q) : JX 246 0 (jargs 246 [v0]) [] M (P2 (QV2 Q)) := by
  unfold d_ASB_getValue at h
  show JX 246 0 [v0] [] M (P2 (QV2 Q))
  generalize hP : P2 (QV2 Q) = P
  have hQ : ∀ (r : JV) (M1 : JM) (s1 : LSt), R2 s1 M1 → jnl r = true → Q r s1 → P (.inl (some r)) M1 := by rw [← hP]; exact fun r M1 s1 a c b => ⟨s1, a, r, rfl, c, b⟩
  clear hP
  refine E_aldn (c246 0 rfl) rfl hv0 ?_
  show JX 246 1 [v0] [v0] M P
  obtain ⟨i1, e, g⟩ := cR_of h
  clear h
  subst e
  have h := g
  clear g
  refine E_fV (c246 1 rfl) hM (by decide) h (fun x2 hx2 h => ?_)
  exact E_retV (c246 4 rfl) hx2 (hQ _ _ _ hM hx2 h)
theorem k_ASB_length {v0 : JV} {s : LSt} {M : JM} {Q : Int → LSt → Prop} (hv0 : jnl v0 = true) (hM : R2 s M) (h : d_ASB_length v0 s Q) : JX 248 0 (jargs 248 [v0]) [] M (P2 (QI2 Q)) := by
  unfold d_ASB_length at h
  show JX 248 0 [v0] [] M (P2 (QI2 Q))
  generalize hP : P2 (QI2 Q) = P
  have hQ : ∀ (r : Int) (M1 : JM) (s1 : LSt), R2 s1 M1 → Q r s1 → P (.inl (some (.inl r))) M1 := by rw [← hP]; exact fun r M1 s1 a b => ⟨s1, a, r, rfl, b⟩
  clear hP
  refine E_aldn (c248 0 rfl) rfl hv0 ?_
  show JX 248 1 [v0] [v0] M P
  obtain ⟨i1, e, g⟩ := cR_of h
  clear h
  subst e
  have h := g
  clear g
  refine E_fI (c248 1 rfl) hM (by decide) h (fun z2 h => ?_)
  exact L_retI (c248 4 rfl) (hQ _ _ _ hM h)
theorem k_SB_length {v0 : JV} {s : LSt} {M : JM} {Q : Int → LSt → Prop} (hv0 : jnl v0 = true) (hM : R2 s M) (h : d_SB_length v0 s Q) : JX 247 0 (jargs 247 [v0]) [] M (P2 (QI2 Q)) := by
  unfold d_SB_length at h
  show JX 247 0 [v0] [] M (P2 (QI2 Q))
  generalize hP : P2 (QI2 Q) = P
  have hQ : ∀ (r : Int) (M1 : JM) (s1 : LSt), R2 s1 M1 → Q r s1 → P (.inl (some (.inl r))) M1 := by rw [← hP]; exact fun r M1 s1 a b => ⟨s1, a, r, rfl, b⟩
  clear hP
  refine E_aldn (c247 0 rfl) rfl hv0 ?_
  show JX 247 1 [v0] [v0] M P
  obtain ⟨i1, e, g⟩ := cR_of h
  clear h
  subst e
  have h := g
  clear g
  obtain ⟨ht, h⟩ := h
  refine E_cI (pc1 := 4) (c247 1 rfl) (js_u rfl ((rcv_tag hM ht).trans jt248)) rfl (k_ASB_length rfl hM h) (fun r3 M s2 hM h => ?_)
  exact L_retI (c247 4 rfl) (hQ _ _ _ hM h)
theorem k_Arrays_checkLength {v0 : Int} {v1 : Int} {s : LSt} {M : JM} {Q : LSt → Prop} (hM : R2 s M) (h : d_Arrays_checkLength v0 v1 s Q) : JX 251 0 (jargs 251 [jI v0, jI v1]) [] M (P2 (QN2 Q)) := by
  unfold d_Arrays_checkLength at h
  show JX 251 0 [jI v0, jI v1] [] M (P2 (QN2 Q))
  generalize hP : P2 (QN2 Q) = P
  have hQ : ∀ (M1 : JM) (s1 : LSt), R2 s1 M1 → Q s1 → P (.inl none) M1 := by rw [← hP]; exact fun M1 s1 a b => ⟨s1, a, rfl, b⟩
  clear hP
  refine L_ps c251 (n := 2) (pc1 := 2) (ls1 := [jI v0, jI v1]) (st1 := [jI v0, jI v1]) rfl ?_
  refine L_nb (p1 := 37) (p2 := 5) (c251 2 rfl) rfl jc_ge h (fun h => ?_) (fun h => ?_)
  · exact h.elim
  · exact L_end (c251 37 rfl) rfl (hQ _ _ hM h)
theorem k_Arrays_copyOfRangeByte {v0 : JV} {v1 : Int} {v2 : Int} {s : LSt} {M : JM} {Q : JV → LSt → Prop} (hv0 : jnl v0 = true) (hM : R2 s M) (h : d_Arrays_copyOfRangeByte v0 v1 v2 s Q) : JX 250 0 (jargs 250 [v0, jI v1, jI v2]) [] M (P2 (QV2 Q)) := by
  unfold d_Arrays_copyOfRangeByte at h
  show JX 250 0 [v0, jI v1, jI v2, jU, jU] [] M (P2 (QV2 Q))
  generalize hP : P2 (QV2 Q) = P
  have hQ : ∀ (r : JV) (M1 : JM) (s1 : LSt), R2 s1 M1 → jnl r = true → Q r s1 → P (.inl (some r)) M1 := by rw [← hP]; exact fun r M1 s1 a c b => ⟨s1, a, r, rfl, c, b⟩
  clear hP
  refine L_ps c250 (n := 2) (pc1 := 2) (ls1 := [v0, jI v1, jI v2, jU, jU]) (st1 := [jI v2, jI v1]) rfl ?_
  refine E_cN (pc1 := 5) (c250 2 rfl) (js_t rfl) rfl (k_Arrays_checkLength hM h) (fun M s1 hM h => ?_)
  refine L_ps c250 (n := 5) (pc1 := 10) (ls1 := [v0, jI v1, jI v2, jI (wr (v2 - v1)), jU]) (st1 := [jI (wr (v2 - v1))]) rfl ?_
  refine E_nA (c250 10 rfl) hM h (fun i3 M s4 hM h => ?_)
  refine L_ps c250 (n := 1) (pc1 := 14) (ls1 := [v0, jI v1, jI v2, jI (wr (v2 - v1)), jR i3]) (st1 := []) rfl ?_
  refine E_aldn (c250 14 rfl) rfl hv0 ?_
  show JX 250 15 [v0, jI v1, jI v2, jI (wr (v2 - v1)), jR i3] [v0] M P
  refine L_ps c250 (n := 3) (pc1 := 19) (ls1 := [v0, jI v1, jI v2, jI (wr (v2 - v1)), jR i3]) (st1 := [jI 0, jR i3, jI v1, v0]) rfl ?_
  refine E_aldn (c250 19 rfl) rfl hv0 ?_
  show JX 250 20 [v0, jI v1, jI v2, jI (wr (v2 - v1)), jR i3] [v0, jI 0, jR i3, jI v1, v0] M P
  obtain ⟨i5, e, g⟩ := cR_of h
  clear h
  subst e
  have h := g
  clear g
  refine E_aL (c250 20 rfl) hM h (fun z6 h => ?_)
  refine L_ps c250 (n := 3) (pc1 := 24) (ls1 := [jR i5, jI v1, jI v2, jI (wr (v2 - v1)), jR i3]) (st1 := [jI (wr (v2 - v1)), jI (wr (z6 - v1)), jI 0, jR i3, jI v1, jR i5]) rfl ?_
  refine E_cI (pc1 := 27) (c250 24 rfl) (js_t rfl) rfl (k_YMath_min hM h) (fun r8 M s7 hM h => ?_)
  refine E_aC (c250 27 rfl) hM (by decide) rfl h (fun M s9 hM h => ?_)
  refine L_ps c250 (n := 1) (pc1 := 32) (ls1 := [jR i5, jI v1, jI v2, jI (wr (v2 - v1)), jR i3]) (st1 := [jR i3]) rfl ?_
  exact E_retV (c250 32 rfl) rfl (hQ _ _ _ hM rfl h)
theorem k_Arrays_copyOfRange_j10 {v0 : JV} {v1 : Int} {v2 : Int} {s : LSt} {M : JM} {P : JO → JM → Prop} {Q : JV → LSt → Prop} (hv0 : jnl v0 = true) (hM : R2 s M) (hQ : ∀ (r : JV) (M1 : JM) (s1 : LSt), R2 s1 M1 → jnl r = true → Q r s1 → P (.inl (some r)) M1) (h : d_Arrays_copyOfRange_j10 v0 v1 v2 s Q) : JX 249 10 [v0, jI v1, jI v2] [] M P := by
  unfold d_Arrays_copyOfRange_j10 at h
  refine E_aldn (c249 10 rfl) rfl hv0 ?_
  show JX 249 11 [v0, jI v1, jI v2] [v0] M P
  refine L_ps c249 (n := 2) (pc1 := 13) (ls1 := [v0, jI v1, jI v2]) (st1 := [jI v2, jI v1, v0]) rfl ?_
  refine E_cV (pc1 := 16) (c249 13 rfl) (js_t (show ssplit 3 [jI v2, jI v1, v0] = some ([v0, jI v1, jI v2], []) from ss_v (A := [jI v2, jI v1, v0]) (B := []) rfl (al_c rfl (al_c rfl (al_c (jnl_c2 hv0) al_n))) (Nat.le_of_ble_eq_true rfl))) rfl (k_Arrays_copyOfRangeByte hv0 hM h) (fun x6 M s5 hM hx6 h => ?_)
  exact E_retV (c249 16 rfl) hx6 (hQ _ _ _ hM hx6 h)
theorem k_Arrays_copyOfRange {v0 : JV} {v1 : Int} {v2 : Int} {s : LSt} {M : JM} {Q : JV → LSt → Prop} (hv0 : jnl v0 = true) (hM : R2 s M) (h : d_Arrays_copyOfRange v0 v1 v2 s Q) : JX 249 0 (jargs 249 [v0, jI v1, jI v2]) [] M (P2 (QV2 Q)) := by
  unfold d_Arrays_copyOfRange at h
  show JX 249 0 [v0, jI v1, jI v2] [] M (P2 (QV2 Q))
  generalize hP : P2 (QV2 Q) = P
  have hQ : ∀ (r : JV) (M1 : JM) (s1 : LSt), R2 s1 M1 → jnl r = true → Q r s1 → P (.inl (some r)) M1 := by rw [← hP]; exact fun r M1 s1 a c b => ⟨s1, a, r, rfl, c, b⟩
  clear hP
  refine L_ps c249 (n := 1) (pc1 := 1) (ls1 := [v0, jI v1, jI v2]) (st1 := [jI v1]) rfl ?_
  refine L_nb (p1 := 10) (p2 := 4) (c249 1 rfl) rfl jc_ne h (fun h => ?_) (fun h => ?_)
  · refine L_ps c249 (n := 1) (pc1 := 5) (ls1 := [v0, jI v1, jI v2]) (st1 := [jI v2]) rfl ?_
    refine E_aldn (c249 5 rfl) rfl hv0 ?_
    show JX 249 6 [v0, jI v1, jI v2] [v0, jI v2] M P
    obtain ⟨i1, e, g⟩ := cR_of h
    clear h
    subst e
    have h := g
    clear g
    refine E_aL (c249 6 rfl) hM h (fun z2 h => ?_)
    refine L_br (p1 := 17) (p2 := 10) (c249 7 rfl) rfl jc_eq h (fun h => ?_) (fun h => ?_)
    · refine L_ps c249 (n := 1) (pc1 := 18) (ls1 := [jR i1, jI v1, jI v2]) (st1 := [jR i1]) rfl ?_
      refine E_aK (c249 18 rfl) hM (by decide) rfl h (fun i3 M s4 hM h => ?_)
      refine E_cT (c249 21 rfl) hM h (fun h => ?_)
      exact E_retV (c249 24 rfl) rfl (hQ _ _ _ hM rfl h)
    · exact k_Arrays_copyOfRange_j10 rfl hM hQ h
  · exact k_Arrays_copyOfRange_j10 hv0 hM hQ h
theorem k_String_init2_j79 {v0 : JV} {v3 : JV} {v4 : Int} {s : LSt} {M : JM} {P : JO → JM → Prop} {g1 : JV} {g2 : JV} {Q : LSt → Prop} (hg2 : jc2 g2 = false) (hv0 : jnl v0 = true) (hv3 : jnl v3 = true) (hM : R2 s M) (hQ : ∀ (M1 : JM) (s1 : LSt), R2 s1 M1 → Q s1 → P (.inl none) M1) (h : d_String_init2_j79 v0 v3 v4 s Q) : JX 245 79 [v0, g1, g2, v3, jI v4] [] M P := by
  unfold d_String_init2_j79 at h
  refine E_aldn (c245 79 rfl) rfl hv0 ?_
  show JX 245 80 [v0, g1, g2, v3, jI v4] [v0] M P
  refine L_ps c245 (n := 1) (pc1 := 81) (ls1 := [v0, g1, g2, v3, jI v4]) (st1 := [jI 1, v0]) rfl ?_
  obtain ⟨i11, e, g⟩ := cR_of h
  clear h
  subst e
  have h := g
  clear g
  refine E_pF (c := 15) (f := 3) (c245 81 rfl) hM (by decide) h (fun M s12 hM h _ => ?_)
  refine L_ps c245 (n := 1) (pc1 := 85) (ls1 := [jR i11, g1, g2, v3, jI v4]) (st1 := [jR i11]) rfl ?_
  refine E_aldn (c245 85 rfl) rfl hv3 ?_
  show JX 245 86 [jR i11, g1, g2, v3, jI v4] [v3, jR i11] M P
  refine L_ps c245 (n := 4) (pc1 := 91) (ls1 := [jR i11, g1, g2, v3, jI v4]) (st1 := [jI (jshl v4 1), jI 0, v3, jR i11]) rfl ?_
  refine E_cV (pc1 := 94) (c245 91 rfl) (js_t (show ssplit 3 [jI (jshl v4 1), jI 0, v3, jR i11] = some ([v3, jI 0, jI (jshl v4 1)], [jR i11]) from ss_v (A := [jI (jshl v4 1), jI 0, v3]) (B := [jR i11]) rfl (al_c rfl (al_c rfl (al_c (jnl_c2 hv3) al_n))) (Nat.le_of_ble_eq_true rfl))) rfl (k_Arrays_copyOfRange hv3 hM h) (fun x14 M s13 hM hx14 h => ?_)
  refine E_pF (c := 15) (f := 2) (c245 94 rfl) hM (by decide) h (fun M s15 hM h _ => ?_)
  exact L_end (c245 97 rfl) rfl (hQ _ _ hM h)
theorem k_String_init2 {v0 : JV} {v1 : JV} {v2 : JV} {s : LSt} {M : JM} {Q : LSt → Prop} (hv0 : jnl v0 = true) (hv1 : jnl v1 = true) (hv2 : jnl v2 = true) (hM : R2 s M) (h : d_String_init2 v0 v1 v2 s Q) : JX 245 0 (jargs 245 [v0, v1, v2]) [] M (P2 (QN2 Q)) := by
  unfold d_String_init2 at h
  show JX 245 0 [v0, v1, v2, jU, jU] [] M (P2 (QN2 Q))
  generalize hP : P2 (QN2 Q) = P
  have hQ : ∀ (M1 : JM) (s1 : LSt), R2 s1 M1 → Q s1 → P (.inl none) M1 := by rw [← hP]; exact fun M1 s1 a b => ⟨s1, a, rfl, b⟩
  clear hP
  refine E_aldn (c245 0 rfl) rfl hv0 ?_
  show JX 245 1 [v0, v1, v2, jU, jU] [v0] M P
  obtain ⟨i1, e, g⟩ := cR_of h
  clear h
  subst e
  have h := g
  clear g
  refine E_cN (pc1 := 4) (c245 1 rfl) (js_s rfl) rfl (k_Object_init rfl hM h) (fun M s2 hM h => ?_)
  refine E_aldn (c245 4 rfl) rfl hv1 ?_
  show JX 245 5 [jR i1, v1, v2, jU, jU] [v1] M P
  obtain ⟨i4, e, g⟩ := cR_of h
  clear h
  subst e
  have h := g
  clear g
  obtain ⟨ht, h⟩ := h
  refine E_cV (pc1 := 8) (c245 5 rfl) (js_v rfl ((rcv_tag hM ht).trans jt246)) rfl (k_ASB_getValue rfl hM h) (fun x6 M s5 hM hx6 h => ?_)
  refine E_astn (ls1 := [jR i1, jR i4, v2, x6, jU]) (c245 8 rfl) (jnl_c2 hv2) (Nat.le_of_ble_eq_true rfl) hx6 rfl ?_
  refine L_ps c245 (n := 1) (pc1 := 10) (ls1 := [jR i1, jR i4, v2, x6, jU]) (st1 := [jR i4]) rfl ?_
  obtain ⟨ht, h⟩ := h
  refine E_cI (pc1 := 13) (c245 10 rfl) (js_v rfl ((rcv_tag hM ht).trans jt247)) rfl (k_SB_length rfl hM h) (fun r8 M s7 hM h => ?_)
  refine L_ist (c245 13 rfl) (jnl_c2 hx6) (Nat.le_of_ble_eq_true rfl) ?_
  show JX 245 15 [jR i1, jR i4, v2, x6, jI r8] [] M P
  refine L_ps c245 (n := 1) (pc1 := 16) (ls1 := [jR i1, jR i4, v2, x6, jI r8]) (st1 := [jR i4]) rfl ?_
  obtain ⟨ht, h⟩ := h
  refine E_cI (pc1 := 19) (c245 16 rfl) (js_v rfl ((rcv_tag hM ht).trans jt183)) rfl (k_ASB_isLatin1 rfl hM h) (fun r10 M s9 hM h => ?_)
  refine L_br (p1 := 41) (p2 := 22) (c245 19 rfl) rfl jc_eq h (fun h => ?_) (fun h => ?_)
  · refine L_ps c245 (n := 1) (pc1 := 44) (ls1 := [jR i1, jR i4, v2, x6, jI r8]) (st1 := [jI 1]) rfl ?_
    rw [if_neg (by decide)] at h
    refine L_ps c245 (n := 1) (pc1 := 47) (ls1 := [jR i1, jR i4, v2, x6, jI r8]) (st1 := []) rfl ?_
    refine L_ps c245 (n := 1) (pc1 := 48) (ls1 := [jR i1, jR i4, v2, x6, jI r8]) (st1 := [jR i4]) rfl ?_
    refine E_fI (c245 48 rfl) hM (by decide) h (fun z16 h => ?_)
    refine L_br (p1 := 79) (p2 := 54) (c245 51 rfl) rfl jc_eq h (fun h => ?_) (fun h => ?_)
    · exact k_String_init2_j79 (jnl_c2 hv2) rfl hx6 hM hQ h
    · refine L_ps c245 (n := 1) (pc1 := 55) (ls1 := [jR i1, jR i4, v2, x6, jI r8]) (st1 := [jR i1]) rfl ?_
      refine E_aldn (c245 55 rfl) rfl hx6 ?_
      show JX 245 56 [jR i1, jR i4, v2, x6, jI r8] [x6, jR i1] M P
      refine L_ps c245 (n := 2) (pc1 := 59) (ls1 := [jR i1, jR i4, v2, x6, jI r8]) (st1 := [jI r8, jI 0, x6, jR i1]) rfl ?_
      exact h.elim
  · refine L_ps c245 (n := 2) (pc1 := 24) (ls1 := [jR i1, jR i4, v2, x6, jI r8]) (st1 := [jI 0, jR i1]) rfl ?_
    refine E_pF (c := 15) (f := 3) (c245 24 rfl) hM (by decide) h (fun M s17 hM h _ => ?_)
    refine L_ps c245 (n := 1) (pc1 := 28) (ls1 := [jR i1, jR i4, v2, x6, jI r8]) (st1 := [jR i1]) rfl ?_
    refine E_aldn (c245 28 rfl) rfl hx6 ?_
    show JX 245 29 [jR i1, jR i4, v2, x6, jI r8] [x6, jR i1] M P
    refine L_ps c245 (n := 2) (pc1 := 32) (ls1 := [jR i1, jR i4, v2, x6, jI r8]) (st1 := [jI r8, jI 0, x6, jR i1]) rfl ?_
    refine E_cV (pc1 := 35) (c245 32 rfl) (js_t (show ssplit 3 [jI r8, jI 0, x6, jR i1] = some ([x6, jI 0, jI r8], [jR i1]) from ss_v (A := [jI r8, jI 0, x6]) (B := [jR i1]) rfl (al_c rfl (al_c rfl (al_c (jnl_c2 hx6) al_n))) (Nat.le_of_ble_eq_true rfl))) rfl (k_Arrays_copyOfRange hx6 hM h) (fun x19 M s18 hM hx19 h => ?_)
    refine E_pF (c := 15) (f := 2) (c245 35 rfl) hM (by decide) h (fun M s20 hM h _ => ?_)
    refine L_ps c245 (n := 1) (pc1 := 97) (ls1 := [jR i1, jR i4, v2, x6, jI r8]) (st1 := []) rfl ?_
    exact L_end (c245 97 rfl) rfl (hQ _ _ hM h)
theorem k_String_init {v0 : JV} {v1 : JV} {s : LSt} {M : JM} {Q : LSt → Prop} (hv0 : jnl v0 = true) (hv1 : jnl v1 = true) (hM : R2 s M) (h : d_String_init v0 v1 s Q) : JX 244 0 (jargs 244 [v0, v1]) [] M (P2 (QN2 Q)) := by
  unfold d_String_init at h
  show JX 244 0 [v0, v1] [] M (P2 (QN2 Q))
  generalize hP : P2 (QN2 Q) = P
  have hQ : ∀ (M1 : JM) (s1 : LSt), R2 s1 M1 → Q s1 → P (.inl none) M1 := by rw [← hP]; exact fun M1 s1 a b => ⟨s1, a, rfl, b⟩
  clear hP
  refine E_aldn (c244 0 rfl) rfl hv0 ?_
  show JX 244 1 [v0, v1] [v0] M P
  refine E_aldn (c244 1 rfl) rfl hv1 ?_
  show JX 244 2 [v0, v1] [v1, v0] M P
  refine L_ps c244 (n := 1) (pc1 := 3) (ls1 := [v0, v1]) (st1 := [jX .null, v1, v0]) rfl ?_
  obtain ⟨i1, e, g⟩ := cR_of h
  clear h
  subst e
  have h := g
  clear g
  refine E_cN (pc1 := 6) (c244 3 rfl) (js_s (show vsplit (2 % 100) [jX .null, v1, jR i1] = some (i1, [jR i1, v1, jX .null], []) from vs_v (A := [jX .null, v1]) (B := []) rfl (al_c rfl (al_c (jnl_c2 hv1) al_n)) (Nat.le_of_ble_eq_true rfl))) rfl (k_String_init2 rfl hv1 rfl hM h) (fun M s2 hM h => ?_)
  exact L_end (c244 6 rfl) rfl (hQ _ _ hM h)
theorem k_SB_toString {v0 : JV} {s : LSt} {M : JM} {Q : JV → LSt → Prop} (hv0 : jnl v0 = true) (hM : R2 s M) (h : d_SB_toString v0 s Q) : JX 243 0 (jargs 243 [v0]) [] M (P2 (QV2 Q)) := by
  unfold d_SB_toString at h
  show JX 243 0 [v0] [] M (P2 (QV2 Q))
  generalize hP : P2 (QV2 Q) = P
  have hQ : ∀ (r : JV) (M1 : JM) (s1 : LSt), R2 s1 M1 → jnl r = true → Q r s1 → P (.inl (some r)) M1 := by rw [← hP]; exact fun r M1 s1 a c b => ⟨s1, a, r, rfl, c, b⟩
  clear hP
  refine E_nC (c243 0 rfl) hM (by decide) h (fun i1 M s2 hM h => ?_)
  refine L_ps c243 (n := 1) (pc1 := 4) (ls1 := [v0]) (st1 := [jR i1, jR i1]) rfl ?_
  refine E_aldn (c243 4 rfl) rfl hv0 ?_
  show JX 243 5 [v0] [v0, jR i1, jR i1] M P
  refine E_cN (pc1 := 8) (c243 5 rfl) (js_s (show vsplit (1 % 100) [v0, jR i1, jR i1] = some (i1, [jR i1, v0], [jR i1]) from vs_v (A := [v0]) (B := [jR i1]) rfl (al_c (jnl_c2 hv0) al_n) (Nat.le_of_ble_eq_true rfl))) rfl (k_String_init rfl hv0 hM h) (fun M s3 hM h => ?_)
  exact E_retV (c243 8 rfl) rfl (hQ _ _ _ hM rfl h)
theorem k_Lw_text_j206 {v2 : JV} {s : LSt} {M : JM} {P : JO → JM → Prop} {g0 : JV} {g1 : JV} {g3 : JV} {g4 : JV} {Q : JV → LSt → Prop} (hg1 : jc2 g1 = false) (hg3 : jc2 g3 = false) (hv2 : jnl v2 = true) (hM : R2 s M) (hQ : ∀ (r : JV) (M1 : JM) (s1 : LSt), R2 s1 M1 → jnl r = true → Q r s1 → P (.inl (some r)) M1) (h : d_Lw_text_j206 v2 s Q) : JX 174 206 [g0, g1, v2, g3, g4] [] M P := by
  unfold d_Lw_text_j206 at h
  refine E_aldn (c174 206 rfl) rfl hv2 ?_
  show JX 174 207 [g0, g1, v2, g3, g4] [v2] M P
  obtain ⟨i69, e, g⟩ := cR_of h
  clear h
  subst e
  have h := g
  clear g
  obtain ⟨ht, h⟩ := h
  refine E_cV (pc1 := 210) (c174 207 rfl) (js_v rfl ((rcv_tag hM ht).trans jt243)) rfl (k_SB_toString rfl hM h) (fun x71 M s70 hM hx71 h => ?_)
  exact E_retV (c174 210 rfl) hx71 (hQ _ _ _ hM hx71 h)
theorem k_Lw_text_b79 {v0 : JV} {v1 : Int} {v2 : JV} {v3 : Int} {s : LSt} {M : JM} {P : JO → JM → Prop} {g4 : JV} {W79 : Int → LSt → Prop} {Q : JV → LSt → Prop} (hv0 : jnl v0 = true) (hv2 : jnl v2 = true) (hM : R2 s M) (hQ : ∀ (r : JV) (M1 : JM) (s1 : LSt), R2 s1 M1 → jnl r = true → Q r s1 → P (.inl (some r)) M1) (hW79 : ∀ (v3 : Int) (g4 : JV) (M1 : JM) (s1 : LSt), R2 s1 M1 → W79 v3 s1 → JX 174 79 [v0, jI v1, v2, jI v3, g4] [] M1 P) (h : d_Lw_text_b79 v0 v1 v2 v3 s W79 Q) : JX 174 79 [v0, jI v1, v2, jI v3, g4] [] M P := by
  unfold d_Lw_text_b79 at h
  refine L_ps c174 (n := 1) (pc1 := 80) (ls1 := [v0, jI v1, v2, jI v3, g4]) (st1 := [jI v3]) rfl ?_
  refine E_aldn (c174 80 rfl) rfl hv0 ?_
  show JX 174 81 [v0, jI v1, v2, jI v3, g4] [v0, jI v3] M P
  obtain ⟨i31, e, g⟩ := cR_of h
  clear h
  subst e
  have h := g
  clear g
  refine E_fV (c174 81 rfl) hM (by decide) h (fun x32 hx32 h => ?_)
  obtain ⟨i33, e, g⟩ := cR_of h
  clear h
  subst e
  have h := g
  clear g
  obtain ⟨ht, h⟩ := h
  refine E_cI (pc1 := 87) (c174 84 rfl) (js_v rfl ((rcv_tag hM ht).trans jt187)) rfl (k_AL_size rfl hM h) (fun r35 M s34 hM h => ?_)
  refine L_nb (p1 := 118) (p2 := 90) (c174 87 rfl) rfl jc_ge h (fun h => ?_) (fun h => ?_)
  · refine E_aldn (c174 90 rfl) rfl hv2 ?_
    show JX 174 91 [jR i31, jI v1, v2, jI v3, g4] [v2] M P
    refine L_ps c174 (n := 1) (pc1 := 93) (ls1 := [jR i31, jI v1, v2, jI v3, g4]) (st1 := [jR 2000011, v2]) rfl ?_
    obtain ⟨i36, e, g⟩ := cR_of h
    clear h
    subst e
    have h := g
    clear g
    obtain ⟨ht, h⟩ := h
    refine E_cV (pc1 := 96) (c174 93 rfl) (js_v rfl ((rcv_tag hM ht).trans jt178)) rfl (k_SB_append rfl rfl hM h) (fun x38 M s37 hM hx38 h => ?_)
    refine E_pop (c174 96 rfl) hx38 ?_
    refine L_ps c174 (n := 1) (pc1 := 98) (ls1 := [jR i31, jI v1, jR i36, jI v3, g4]) (st1 := [jR i31]) rfl ?_
    refine E_fV (c174 98 rfl) hM (by decide) h (fun x39 hx39 h => ?_)
    refine L_ps c174 (n := 1) (pc1 := 102) (ls1 := [jR i31, jI v1, jR i36, jI v3, g4]) (st1 := [jI v3, x39]) rfl ?_
    obtain ⟨i40, e, g⟩ := cR_of h
    clear h
    subst e
    have h := g
    clear g
    obtain ⟨ht, h⟩ := h
    refine E_cV (pc1 := 105) (c174 102 rfl) (js_v rfl ((rcv_tag hM ht).trans jt188)) rfl (k_AL_get rfl hM h) (fun x42 M s41 hM hx42 h => ?_)
    refine E_cT (c174 105 rfl) hM h (fun h => ?_)
    refine L_ps c174 (n := 1) (pc1 := 109) (ls1 := [jR i31, jI v1, jR i36, jI v3, g4]) (st1 := [jR i36, x42]) rfl ?_
    refine E_cN (pc1 := 112) (c174 109 rfl) (js_t (show ssplit 2 [jR i36, x42] = some ([x42, jR i36], []) from ss_v (A := [jR i36, x42]) (B := []) rfl (al_c rfl (al_c (jnl_c2 hx42) al_n)) (Nat.le_of_ble_eq_true rfl))) rfl (k_Lw_write4 hx42 rfl hM h) (fun M s43 hM h => ?_)
    refine L_ps c174 (n := 2) (pc1 := 79) (ls1 := [jR i31, jI v1, jR i36, jI (wr (v3 + 1)), g4]) (st1 := []) rfl ?_
    exact hW79 _ _ _ _ hM h
  · refine E_aldn (c174 118 rfl) rfl hv2 ?_
    show JX 174 119 [jR i31, jI v1, v2, jI v3, g4] [v2] M P
    refine L_ps c174 (n := 1) (pc1 := 121) (ls1 := [jR i31, jI v1, v2, jI v3, g4]) (st1 := [jR 2000012, v2]) rfl ?_
    obtain ⟨i45, e, g⟩ := cR_of h
    clear h
    subst e
    have h := g
    clear g
    obtain ⟨ht, h⟩ := h
    refine E_cV (pc1 := 124) (c174 121 rfl) (js_v rfl ((rcv_tag hM ht).trans jt178)) rfl (k_SB_append rfl rfl hM h) (fun x47 M s46 hM hx47 h => ?_)
    refine E_pop (c174 124 rfl) hx47 ?_
    refine L_ps c174 (n := 1) (pc1 := 126) (ls1 := [jR i31, jI v1, jR i45, jI v3, g4]) (st1 := [jR i31]) rfl ?_
    refine E_fV (c174 126 rfl) hM (by decide) h (fun x48 hx48 h => ?_)
    refine L_ps c174 (n := 1) (pc1 := 130) (ls1 := [jR i31, jI v1, jR i45, jI v3, g4]) (st1 := [jR i31, x48]) rfl ?_
    refine E_fV (c174 130 rfl) hM (by decide) h (fun x49 hx49 h => ?_)
    refine L_ps c174 (n := 1) (pc1 := 134) (ls1 := [jR i31, jI v1, jR i45, jI v3, g4]) (st1 := [jI 1, x49, x48]) rfl ?_
    obtain ⟨i50, e, g⟩ := cR_of h
    clear h
    subst e
    have h := g
    clear g
    obtain ⟨ht, h⟩ := h
    refine E_cV (pc1 := 137) (c174 134 rfl) (js_v (show vsplit 1 [jI 1, jR i50, x48] = some (i50, [jR i50, jI 1], [x48]) from vs_v (A := [jI 1]) (B := [x48]) rfl (al_c rfl al_n) (Nat.le_of_ble_eq_true rfl)) ((rcv_tag hM ht).trans jt188)) rfl (k_AL_get rfl hM h) (fun x52 M s51 hM hx52 h => ?_)
    refine E_cT (c174 137 rfl) hM h (fun h => ?_)
    obtain ⟨i53, e, g⟩ := cR_of h
    clear h
    subst e
    have h := g
    clear g
    obtain ⟨ht, h⟩ := h
    refine E_cI (pc1 := 143) (c174 140 rfl) (js_v (show vsplit 1 [x52, jR i53] = some (i53, [jR i53, x52], []) from vs_v (A := [x52]) (B := []) rfl (al_c (jnl_c2 hx52) al_n) (Nat.le_of_ble_eq_true rfl)) ((rcv_tag hM ht).trans jt169)) rfl (k_AL_add rfl hx52 hM h) (fun r55 M s54 hM h => ?_)
    refine L_ps c174 (n := 3) (pc1 := 146) (ls1 := [jR i31, jI v1, jR i45, jI v3, g4]) (st1 := [jR i31, jR i31]) rfl ?_
    refine E_fV (c174 146 rfl) hM (by decide) h (fun x56 hx56 h => ?_)
    refine L_ps c174 (n := 1) (pc1 := 150) (ls1 := [jR i31, jI v1, jR i45, jI v3, g4]) (st1 := [jI 0, x56, jR i31]) rfl ?_
    obtain ⟨i57, e, g⟩ := cR_of h
    clear h
    subst e
    have h := g
    clear g
    obtain ⟨ht, h⟩ := h
    refine E_cV (pc1 := 153) (c174 150 rfl) (js_v rfl ((rcv_tag hM ht).trans jt188)) rfl (k_AL_get rfl hM h) (fun x59 M s58 hM hx59 h => ?_)
    refine E_cT (c174 153 rfl) hM h (fun h => ?_)
    refine L_ps c174 (n := 2) (pc1 := 158) (ls1 := [jR i31, jI v1, jR i45, jI v3, g4]) (st1 := [jR i31, jR i31, x59, jR i31]) rfl ?_
    refine E_fV (c174 158 rfl) hM (by decide) h (fun x60 hx60 h => ?_)
    refine L_ps c174 (n := 1) (pc1 := 162) (ls1 := [jR i31, jI v1, jR i45, jI v3, g4]) (st1 := [jI 0, x60, jR i31, x59, jR i31]) rfl ?_
    obtain ⟨i61, e, g⟩ := cR_of h
    clear h
    subst e
    have h := g
    clear g
    obtain ⟨ht, h⟩ := h
    refine E_cV (pc1 := 165) (c174 162 rfl) (js_v (show vsplit 1 [jI 0, jR i61, jR i31, x59, jR i31] = some (i61, [jR i61, jI 0], [jR i31, x59, jR i31]) from vs_v (A := [jI 0]) (B := [jR i31, x59, jR i31]) rfl (al_c rfl al_n) (Nat.le_of_ble_eq_true rfl)) ((rcv_tag hM ht).trans jt188)) rfl (k_AL_get rfl hM h) (fun x63 M s62 hM hx63 h => ?_)
    refine E_cT (c174 165 rfl) hM h (fun h => ?_)
    obtain ⟨ht, h⟩ := h
    refine E_cI (pc1 := 171) (c174 168 rfl) (js_v (show vsplit 1 [x63, jR i31, x59, jR i31] = some (i31, [jR i31, x63], [x59, jR i31]) from vs_v (A := [x63]) (B := [x59, jR i31]) rfl (al_c (jnl_c2 hx63) al_n) (Nat.le_of_ble_eq_true rfl)) ((rcv_tag hM ht).trans jt203)) rfl (k_Sys_inner4 rfl hx63 hM h) (fun r65 M s64 hM h => ?_)
    obtain ⟨ht, h⟩ := h
    refine E_cV (pc1 := 174) (c174 171 rfl) (js_v (show vsplit 2 [jI r65, x59, jR i31] = some (i31, [jR i31, x59, jI r65], []) from vs_v (A := [jI r65, x59]) (B := []) rfl (al_c rfl (al_c (jnl_c2 hx59) al_n)) (Nat.le_of_ble_eq_true rfl)) ((rcv_tag hM ht).trans jt225)) rfl (k_Sys_step rfl hx59 hM h) (fun x67 M s66 hM hx67 h => ?_)
    refine E_astn (ls1 := [jR i31, jI v1, jR i45, x67, g4]) (c174 174 rfl) rfl (Nat.le_of_ble_eq_true rfl) hx67 rfl ?_
    refine L_ps c174 (n := 3) (pc1 := 178) (ls1 := [jR i31, jI v1, jR i45, x67, g4]) (st1 := [jI (jand v1 1)]) rfl ?_
    refine L_nb (p1 := 206) (p2 := 181) (c174 178 rfl) rfl jc_ne h (fun h => ?_) (fun h => ?_)
    · refine E_aldn (c174 181 rfl) rfl hx67 ?_
      show JX 174 182 [jR i31, jI v1, jR i45, x67, g4] [x67] M P
      refine E_ifn (c174 182 rfl) h (fun e g => ?_) (fun i68 e g => ?_)
      · clear h
        subst e
        have h := g
        clear g
        exact k_Lw_text_j206 rfl rfl rfl hM hQ h
      · clear h
        subst e
        have h := g
        clear g
        refine L_ps c174 (n := 2) (pc1 := 188) (ls1 := [jR i31, jI v1, jR i45, jR i68, g4]) (st1 := [jR 2000013, jR i45]) rfl ?_
        obtain ⟨ht, h⟩ := h
        refine E_cV (pc1 := 191) (c174 188 rfl) (js_v rfl ((rcv_tag hM ht).trans jt178)) rfl (k_SB_append rfl rfl hM h) (fun x73 M s72 hM hx73 h => ?_)
        refine E_pop (c174 191 rfl) hx73 ?_
        refine L_ps c174 (n := 1) (pc1 := 193) (ls1 := [jR i31, jI v1, jR i45, jR i68, g4]) (st1 := [jR i31]) rfl ?_
        refine E_fV (c174 193 rfl) hM (by decide) h (fun x74 hx74 h => ?_)
        refine L_ps c174 (n := 2) (pc1 := 198) (ls1 := [jR i31, jI v1, jR i45, jR i68, g4]) (st1 := [jR i68, jI 0, x74]) rfl ?_
        obtain ⟨i75, e, g⟩ := cR_of h
        clear h
        subst e
        have h := g
        clear g
        obtain ⟨ht, h⟩ := h
        refine E_cV (pc1 := 201) (c174 198 rfl) (js_v rfl ((rcv_tag hM ht).trans jt242)) rfl (k_AL_set rfl rfl hM h) (fun x77 M s76 hM hx77 h => ?_)
        refine E_cT (c174 201 rfl) hM h (fun h => ?_)
        refine E_ast (ls1 := [jR i31, jI v1, jR i45, jR i68, x77]) (c174 204 rfl) rfl (Nat.le_of_ble_eq_true rfl) hx77 rfl ?_
        exact k_Lw_text_j206 rfl rfl rfl hM hQ h
    · exact k_Lw_text_j206 rfl (jnl_c2 hx67) rfl hM hQ h
theorem k_Lw_text_l79 {v0 : JV} {v1 : Int} {v2 : JV} {v3 : Int} {s : LSt} {M : JM} {P : JO → JM → Prop} {g4 : JV} {Q : JV → LSt → Prop} (hv0 : jnl v0 = true) (hv2 : jnl v2 = true) (hM : R2 s M) (hQ : ∀ (r : JV) (M1 : JM) (s1 : LSt), R2 s1 M1 → jnl r = true → Q r s1 → P (.inl (some r)) M1) (h : d_Lw_text_l79 v0 v1 v2 v3 s Q) : JX 174 79 [v0, jI v1, v2, jI v3, g4] [] M P := by
  refine h (fun v3 s => ∀ (g4 : JV) (M : JM), R2 s M → JX 174 79 [v0, jI v1, v2, jI v3, g4] [] M P) ?_ _ _ hM
  intro v3 s h g4 M hM
  exact k_Lw_text_b79 hv0 hv2 hM hQ (fun v3 g4 M s hM h => h g4 M hM) h
theorem k_Lw_text_b12 {v0 : JV} {v1 : Int} {v2 : JV} {v3 : Int} {s : LSt} {M : JM} {P : JO → JM → Prop} {g4 : JV} {W12 : Int → LSt → Prop} {Q : JV → LSt → Prop} (hv0 : jnl v0 = true) (hv2 : jnl v2 = true) (hM : R2 s M) (hQ : ∀ (r : JV) (M1 : JM) (s1 : LSt), R2 s1 M1 → jnl r = true → Q r s1 → P (.inl (some r)) M1) (hW12 : ∀ (v3 : Int) (g4 : JV) (M1 : JM) (s1 : LSt), R2 s1 M1 → W12 v3 s1 → JX 174 12 [v0, jI v1, v2, jI v3, g4] [] M1 P) (h : d_Lw_text_b12 v0 v1 v2 v3 s W12 Q) : JX 174 12 [v0, jI v1, v2, jI v3, g4] [] M P := by
  unfold d_Lw_text_b12 at h
  refine L_ps c174 (n := 1) (pc1 := 13) (ls1 := [v0, jI v1, v2, jI v3, g4]) (st1 := [jI v3]) rfl ?_
  refine E_aldn (c174 13 rfl) rfl hv0 ?_
  show JX 174 14 [v0, jI v1, v2, jI v3, g4] [v0, jI v3] M P
  obtain ⟨i5, e, g⟩ := cR_of h
  clear h
  subst e
  have h := g
  clear g
  refine E_fV (c174 14 rfl) hM (by decide) h (fun x6 hx6 h => ?_)
  obtain ⟨i7, e, g⟩ := cR_of h
  clear h
  subst e
  have h := g
  clear g
  obtain ⟨ht, h⟩ := h
  refine E_cI (pc1 := 20) (c174 17 rfl) (js_v rfl ((rcv_tag hM ht).trans jt187)) rfl (k_AL_size rfl hM h) (fun r9 M s8 hM h => ?_)
  refine L_nb (p1 := 77) (p2 := 23) (c174 20 rfl) rfl jc_ge h (fun h => ?_) (fun h => ?_)
  · refine E_aldn (c174 23 rfl) rfl hv2 ?_
    show JX 174 24 [jR i5, jI v1, v2, jI v3, g4] [v2] M P
    refine L_ps c174 (n := 1) (pc1 := 26) (ls1 := [jR i5, jI v1, v2, jI v3, g4]) (st1 := [jR 2000008, v2]) rfl ?_
    obtain ⟨i10, e, g⟩ := cR_of h
    clear h
    subst e
    have h := g
    clear g
    obtain ⟨ht, h⟩ := h
    refine E_cV (pc1 := 29) (c174 26 rfl) (js_v rfl ((rcv_tag hM ht).trans jt178)) rfl (k_SB_append rfl rfl hM h) (fun x12 M s11 hM hx12 h => ?_)
    refine E_pop (c174 29 rfl) hx12 ?_
    refine L_ps c174 (n := 1) (pc1 := 31) (ls1 := [jR i5, jI v1, jR i10, jI v3, g4]) (st1 := [jR i5]) rfl ?_
    refine E_fV (c174 31 rfl) hM (by decide) h (fun x13 hx13 h => ?_)
    refine L_ps c174 (n := 1) (pc1 := 35) (ls1 := [jR i5, jI v1, jR i10, jI v3, g4]) (st1 := [jI v3, x13]) rfl ?_
    obtain ⟨i14, e, g⟩ := cR_of h
    clear h
    subst e
    have h := g
    clear g
    obtain ⟨ht, h⟩ := h
    refine E_cV (pc1 := 38) (c174 35 rfl) (js_v rfl ((rcv_tag hM ht).trans jt188)) rfl (k_AL_get rfl hM h) (fun x16 M s15 hM hx16 h => ?_)
    refine E_cT (c174 38 rfl) hM h (fun h => ?_)
    refine L_ps c174 (n := 1) (pc1 := 42) (ls1 := [jR i5, jI v1, jR i10, jI v3, g4]) (st1 := [jI 0, x16]) rfl ?_
    obtain ⟨i17, e, g⟩ := cR_of h
    clear h
    subst e
    have h := g
    clear g
    refine E_rV (c174 42 rfl) hM h (fun x18 hx18 h => ?_)
    refine L_ps c174 (n := 1) (pc1 := 44) (ls1 := [jR i5, jI v1, jR i10, jI v3, g4]) (st1 := [jR i10, x18]) rfl ?_
    refine E_cN (pc1 := 47) (c174 44 rfl) (js_t (show ssplit 2 [jR i10, x18] = some ([x18, jR i10], []) from ss_v (A := [jR i10, x18]) (B := []) rfl (al_c rfl (al_c (jnl_c2 hx18) al_n)) (Nat.le_of_ble_eq_true rfl))) rfl (k_Lw_write4 hx18 rfl hM h) (fun M s19 hM h => ?_)
    refine L_ps c174 (n := 2) (pc1 := 50) (ls1 := [jR i5, jI v1, jR i10, jI v3, g4]) (st1 := [jR 2000010, jR i10]) rfl ?_
    obtain ⟨ht, h⟩ := h
    refine E_cV (pc1 := 53) (c174 50 rfl) (js_v rfl ((rcv_tag hM ht).trans jt178)) rfl (k_SB_append rfl rfl hM h) (fun x22 M s21 hM hx22 h => ?_)
    refine E_pop (c174 53 rfl) hx22 ?_
    refine L_ps c174 (n := 1) (pc1 := 55) (ls1 := [jR i5, jI v1, jR i10, jI v3, g4]) (st1 := [jR i5]) rfl ?_
    refine E_fV (c174 55 rfl) hM (by decide) h (fun x23 hx23 h => ?_)
    refine L_ps c174 (n := 1) (pc1 := 59) (ls1 := [jR i5, jI v1, jR i10, jI v3, g4]) (st1 := [jI v3, x23]) rfl ?_
    obtain ⟨i24, e, g⟩ := cR_of h
    clear h
    subst e
    have h := g
    clear g
    obtain ⟨ht, h⟩ := h
    refine E_cV (pc1 := 62) (c174 59 rfl) (js_v rfl ((rcv_tag hM ht).trans jt188)) rfl (k_AL_get rfl hM h) (fun x26 M s25 hM hx26 h => ?_)
    refine E_cT (c174 62 rfl) hM h (fun h => ?_)
    refine L_ps c174 (n := 1) (pc1 := 66) (ls1 := [jR i5, jI v1, jR i10, jI v3, g4]) (st1 := [jI 1, x26]) rfl ?_
    obtain ⟨i27, e, g⟩ := cR_of h
    clear h
    subst e
    have h := g
    clear g
    refine E_rV (c174 66 rfl) hM h (fun x28 hx28 h => ?_)
    refine L_ps c174 (n := 1) (pc1 := 68) (ls1 := [jR i5, jI v1, jR i10, jI v3, g4]) (st1 := [jR i10, x28]) rfl ?_
    refine E_cN (pc1 := 71) (c174 68 rfl) (js_t (show ssplit 2 [jR i10, x28] = some ([x28, jR i10], []) from ss_v (A := [jR i10, x28]) (B := []) rfl (al_c rfl (al_c (jnl_c2 hx28) al_n)) (Nat.le_of_ble_eq_true rfl))) rfl (k_Lw_write4 hx28 rfl hM h) (fun M s29 hM h => ?_)
    refine L_ps c174 (n := 2) (pc1 := 12) (ls1 := [jR i5, jI v1, jR i10, jI (wr (v3 + 1)), g4]) (st1 := []) rfl ?_
    exact hW12 _ _ _ _ hM h
  · refine L_ps c174 (n := 1) (pc1 := 78) (ls1 := [jR i5, jI v1, v2, jI v3, g4]) (st1 := [jI 0]) rfl ?_
    refine L_istn (c174 78 rfl) (jnl_c2 hv2) (Nat.le_of_ble_eq_true rfl) ?_
    show JX 174 79 [jR i5, jI v1, v2, jI 0, g4] [] M P
    exact k_Lw_text_l79 rfl hv2 hM hQ h
theorem k_Lw_text_l12 {v0 : JV} {v1 : Int} {v2 : JV} {v3 : Int} {s : LSt} {M : JM} {P : JO → JM → Prop} {g4 : JV} {Q : JV → LSt → Prop} (hv0 : jnl v0 = true) (hv2 : jnl v2 = true) (hM : R2 s M) (hQ : ∀ (r : JV) (M1 : JM) (s1 : LSt), R2 s1 M1 → jnl r = true → Q r s1 → P (.inl (some r)) M1) (h : d_Lw_text_l12 v0 v1 v2 v3 s Q) : JX 174 12 [v0, jI v1, v2, jI v3, g4] [] M P := by
  refine h (fun v3 s => ∀ (g4 : JV) (M : JM), R2 s M → JX 174 12 [v0, jI v1, v2, jI v3, g4] [] M P) ?_ _ _ hM
  intro v3 s h g4 M hM
  exact k_Lw_text_b12 hv0 hv2 hM hQ (fun v3 g4 M s hM h => h g4 M hM) h
theorem k_Lw_text {v0 : JV} {v1 : Int} {s : LSt} {M : JM} {Q : JV → LSt → Prop} (hv0 : jnl v0 = true) (hM : R2 s M) (h : d_Lw_text v0 v1 s Q) : JX 174 0 (jargs 174 [v0, jI v1]) [] M (P2 (QV2 Q)) := by
  unfold d_Lw_text at h
  show JX 174 0 [v0, jI v1, jU, jU, jU] [] M (P2 (QV2 Q))
  generalize hP : P2 (QV2 Q) = P
  have hQ : ∀ (r : JV) (M1 : JM) (s1 : LSt), R2 s1 M1 → jnl r = true → Q r s1 → P (.inl (some r)) M1 := by rw [← hP]; exact fun r M1 s1 a c b => ⟨s1, a, r, rfl, c, b⟩
  clear hP
  refine E_nC (c174 0 rfl) hM (by decide) h (fun i1 M s2 hM h => ?_)
  refine L_ps c174 (n := 2) (pc1 := 6) (ls1 := [v0, jI v1, jU, jU, jU]) (st1 := [jR 2000007, jR i1, jR i1]) rfl ?_
  refine E_cN (pc1 := 9) (c174 6 rfl) (js_s rfl) rfl (k_SB_init rfl rfl hM h) (fun M s3 hM h => ?_)
  refine L_ps c174 (n := 3) (pc1 := 12) (ls1 := [v0, jI v1, jR i1, jI 0, jU]) (st1 := []) rfl ?_
  exact k_Lw_text_l12 hv0 rfl hM hQ h
theorem k_Lw_flush {v1 : JV} {s : LSt} {M : JM} {Q : LSt → Prop} (hv1 : jnl v1 = true) (hM : R2 s M) (h : d_Lw_flush v1 s Q) : JX 254 0 (jargs 254 [jR 0, v1]) [] M (P2 (QN2 Q)) := by
  unfold d_Lw_flush at h
  show JX 254 0 [jR 0, v1, jU] [] M (P2 (QN2 Q))
  generalize hP : P2 (QN2 Q) = P
  have hQ : ∀ (M1 : JM) (s1 : LSt), R2 s1 M1 → Q s1 → P (.inl none) M1 := by rw [← hP]; exact fun M1 s1 a b => ⟨s1, a, rfl, b⟩
  clear hP
  refine L_ps c254 (n := 1) (pc1 := 1) (ls1 := [jR 0, v1, jU]) (st1 := [jR 0]) rfl ?_
  refine E_aldn (c254 1 rfl) rfl hv1 ?_
  show JX 254 2 [jR 0, v1, jU] [v1, jR 0] M P
  refine L_ps c254 (n := 1) (pc1 := 3) (ls1 := [jR 0, v1, jU]) (st1 := [jI 0, v1, jR 0]) rfl ?_
  obtain ⟨i1, e, g⟩ := cR_of h
  clear h
  subst e
  have h := g
  clear g
  refine E_rI (c254 3 rfl) hM h (fun z2 h => ?_)
  refine L_ps c254 (n := 2) (pc1 := 6) (ls1 := [jR 0, jR i1, jU]) (st1 := [jI 1, jR i1, jI z2, jR 0]) rfl ?_
  refine E_rI (c254 6 rfl) hM h (fun z3 h => ?_)
  refine L_ps c254 (n := 2) (pc1 := 9) (ls1 := [jR 0, jR i1, jU]) (st1 := [jI 2, jR i1, jI z3, jI z2, jR 0]) rfl ?_
  refine E_rI (c254 9 rfl) hM h (fun z4 h => ?_)
  refine L_ps c254 (n := 2) (pc1 := 12) (ls1 := [jR 0, jR i1, jU]) (st1 := [jI 3, jR i1, jI z4, jI z3, jI z2, jR 0]) rfl ?_
  refine E_rI (c254 12 rfl) hM h (fun z5 h => ?_)
  refine L_ps c254 (n := 2) (pc1 := 15) (ls1 := [jR 0, jR i1, jU]) (st1 := [jI 4, jR i1, jI z5, jI z4, jI z3, jI z2, jR 0]) rfl ?_
  refine E_rI (c254 15 rfl) hM h (fun z6 h => ?_)
  refine E_oI (c254 16 rfl) (js_v rfl ((R2_ob hM).trans jt255)) rfl hM (fun Q X h => PO_w (k_OB_append hM.1 h)) h (fun r7 M s8 hM h => ?_)
  refine L_ps c254 (n := 4) (pc1 := 23) (ls1 := [jR 0, jR i1, jI r7]) (st1 := [jI 0, jI 5, jR i1]) rfl ?_
  refine E_wI (c254 23 rfl) hM h (fun M s9 hM h => ?_)
  exact L_end (c254 24 rfl) rfl (hQ _ _ hM h)
theorem k_Lw_putc {v1 : JV} {v2 : Int} {s : LSt} {M : JM} {Q : LSt → Prop} (hv1 : jnl v1 = true) (hM : R2 s M) (h : d_Lw_putc v1 v2 s Q) : JX 253 0 (jargs 253 [jR 0, v1, jI v2]) [] M (P2 (QN2 Q)) := by
  unfold d_Lw_putc at h
  show JX 253 0 [jR 0, v1, jI v2, jU] [] M (P2 (QN2 Q))
  generalize hP : P2 (QN2 Q) = P
  have hQ : ∀ (M1 : JM) (s1 : LSt), R2 s1 M1 → Q s1 → P (.inl none) M1 := by rw [← hP]; exact fun M1 s1 a b => ⟨s1, a, rfl, b⟩
  clear hP
  refine E_aldn (c253 0 rfl) rfl hv1 ?_
  show JX 253 1 [jR 0, v1, jI v2, jU] [v1] M P
  refine L_ps c253 (n := 1) (pc1 := 2) (ls1 := [jR 0, v1, jI v2, jU]) (st1 := [jI 5, v1]) rfl ?_
  obtain ⟨i1, e, g⟩ := cR_of h
  clear h
  subst e
  have h := g
  clear g
  refine E_rI (c253 2 rfl) hM h (fun z2 h => ?_)
  refine L_ps c253 (n := 4) (pc1 := 7) (ls1 := [jR 0, jR i1, jI v2, jI z2]) (st1 := [jI 4, jI z2, jR i1]) rfl ?_
  refine E_div (c253 7 rfl) (by decide) ?_
  refine L_ps c253 (n := 3) (pc1 := 11) (ls1 := [jR 0, jR i1, jI v2, jI z2]) (st1 := [jI 4, jI z2, jR i1, jI (jdiv z2 4), jR i1]) rfl ?_
  refine E_div (c253 11 rfl) (by decide) ?_
  refine E_rI (c253 12 rfl) hM h (fun z3 h => ?_)
  refine L_ps c253 (n := 4) (pc1 := 18) (ls1 := [jR 0, jR i1, jI v2, jI z2]) (st1 := [jI (jor (jshl z3 8) v2), jI (jdiv z2 4), jR i1]) rfl ?_
  refine E_wI (c253 18 rfl) hM h (fun M s4 hM h => ?_)
  refine L_ps c253 (n := 3) (pc1 := 22) (ls1 := [jR 0, jR i1, jI v2, jI z2]) (st1 := [jI 5, jR i1, jI 5, jR i1]) rfl ?_
  refine E_rI (c253 22 rfl) hM h (fun z5 h => ?_)
  refine L_ps c253 (n := 2) (pc1 := 25) (ls1 := [jR 0, jR i1, jI v2, jI z2]) (st1 := [jI (wr (z5 + 1)), jI 5, jR i1]) rfl ?_
  refine E_wI (c253 25 rfl) hM h (fun M s6 hM h => ?_)
  refine L_ps c253 (n := 3) (pc1 := 30) (ls1 := [jR 0, jR i1, jI v2, jI z2]) (st1 := [jI 6, jR i1, jI 6, jR i1]) rfl ?_
  refine E_rI (c253 30 rfl) hM h (fun z7 h => ?_)
  refine L_ps c253 (n := 2) (pc1 := 33) (ls1 := [jR 0, jR i1, jI v2, jI z2]) (st1 := [jI (wr (z7 + 1)), jI 6, jR i1]) rfl ?_
  refine E_wI (c253 33 rfl) hM h (fun M s8 hM h => ?_)
  refine L_ps c253 (n := 2) (pc1 := 36) (ls1 := [jR 0, jR i1, jI v2, jI z2]) (st1 := [jI 5, jR i1]) rfl ?_
  refine E_rI (c253 36 rfl) hM h (fun z9 h => ?_)
  refine L_ps c253 (n := 1) (pc1 := 39) (ls1 := [jR 0, jR i1, jI v2, jI z2]) (st1 := [jI 20, jI z9]) rfl ?_
  refine L_nb (p1 := 47) (p2 := 42) (c253 39 rfl) rfl jc_ne h (fun h => ?_) (fun h => ?_)
  · refine L_ps c253 (n := 2) (pc1 := 44) (ls1 := [jR 0, jR i1, jI v2, jI z2]) (st1 := [jR i1, jR 0]) rfl ?_
    refine E_cN (pc1 := 47) (c253 44 rfl) (js_t rfl) rfl (k_Lw_flush rfl hM h) (fun M s10 hM h => ?_)
    exact L_end (c253 47 rfl) rfl (hQ _ _ hM h)
  · exact L_end (c253 47 rfl) rfl (hQ _ _ hM h)
theorem k_Lw_said_b5 {v1 : JV} {v2 : Int} {s : LSt} {M : JM} {P : JO → JM → Prop} {W5 : LSt → Prop} {Q : Int → LSt → Prop} (hv1 : jnl v1 = true) (hM : R2 s M) (hQ : ∀ (r : Int) (M1 : JM) (s1 : LSt), R2 s1 M1 → Q r s1 → P (.inl (some (.inl r))) M1) (hW5 : ∀ (M1 : JM) (s1 : LSt), R2 s1 M1 → W5 s1 → JX 257 5 [jR 0, v1, jI v2] [] M1 P) (h : d_Lw_said_b5 v1 v2 s W5 Q) : JX 257 5 [jR 0, v1, jI v2] [] M P := by
  unfold d_Lw_said_b5 at h
  refine E_aldn (c257 5 rfl) rfl hv1 ?_
  show JX 257 6 [jR 0, v1, jI v2] [v1] M P
  refine L_ps c257 (n := 1) (pc1 := 7) (ls1 := [jR 0, v1, jI v2]) (st1 := [jI 5, v1]) rfl ?_
  obtain ⟨i3, e, g⟩ := cR_of h
  clear h
  subst e
  have h := g
  clear g
  refine E_rI (c257 7 rfl) hM h (fun z4 h => ?_)
  refine L_nb (p1 := 21) (p2 := 11) (c257 8 rfl) rfl jc_le h (fun h => ?_) (fun h => ?_)
  · refine L_ps c257 (n := 3) (pc1 := 15) (ls1 := [jR 0, jR i3, jI v2]) (st1 := [jI 32, jR i3, jR 0]) rfl ?_
    refine E_cN (pc1 := 18) (c257 15 rfl) (js_t rfl) rfl (k_Lw_putc rfl hM h) (fun M s5 hM h => ?_)
    refine L_ps c257 (n := 1) (pc1 := 5) (ls1 := [jR 0, jR i3, jI v2]) (st1 := []) rfl ?_
    exact hW5 _ _ hM h
  · refine L_ps c257 (n := 3) (pc1 := 25) (ls1 := [jR 0, jR i3, jI v2]) (st1 := [jI 0, jI 6, jR i3]) rfl ?_
    refine E_wI (c257 25 rfl) hM h (fun M s7 hM h => ?_)
    refine L_ps c257 (n := 1) (pc1 := 27) (ls1 := [jR 0, jR i3, jI v2]) (st1 := [jI v2]) rfl ?_
    exact L_retI (c257 27 rfl) (hQ _ _ _ hM h)
theorem k_Lw_said_l5 {v1 : JV} {v2 : Int} {s : LSt} {M : JM} {P : JO → JM → Prop} {Q : Int → LSt → Prop} (hv1 : jnl v1 = true) (hM : R2 s M) (hQ : ∀ (r : Int) (M1 : JM) (s1 : LSt), R2 s1 M1 → Q r s1 → P (.inl (some (.inl r))) M1) (h : d_Lw_said_l5 v1 v2 s Q) : JX 257 5 [jR 0, v1, jI v2] [] M P := by
  refine h (fun s => ∀ (M : JM), R2 s M → JX 257 5 [jR 0, v1, jI v2] [] M P) ?_ _ hM
  intro s h M hM
  exact k_Lw_said_b5 hv1 hM hQ (fun M s hM h => h M hM) h
theorem k_Lw_said {v1 : JV} {s : LSt} {M : JM} {Q : Int → LSt → Prop} (hv1 : jnl v1 = true) (hM : R2 s M) (h : d_Lw_said v1 s Q) : JX 257 0 (jargs 257 [jR 0, v1]) [] M (P2 (QI2 Q)) := by
  unfold d_Lw_said at h
  show JX 257 0 [jR 0, v1, jU] [] M (P2 (QI2 Q))
  generalize hP : P2 (QI2 Q) = P
  have hQ : ∀ (r : Int) (M1 : JM) (s1 : LSt), R2 s1 M1 → Q r s1 → P (.inl (some (.inl r))) M1 := by rw [← hP]; exact fun r M1 s1 a b => ⟨s1, a, r, rfl, b⟩
  clear hP
  refine E_aldn (c257 0 rfl) rfl hv1 ?_
  show JX 257 1 [jR 0, v1, jU] [v1] M P
  refine L_ps c257 (n := 1) (pc1 := 3) (ls1 := [jR 0, v1, jU]) (st1 := [jI 6, v1]) rfl ?_
  obtain ⟨i1, e, g⟩ := cR_of h
  clear h
  subst e
  have h := g
  clear g
  refine E_rI (c257 3 rfl) hM h (fun z2 h => ?_)
  refine L_ps c257 (n := 1) (pc1 := 5) (ls1 := [jR 0, jR i1, jI z2]) (st1 := []) rfl ?_
  exact k_Lw_said_l5 rfl hM hQ h
theorem k_Lw_told_b2 {v1 : JV} {v2 : JV} {v3 : Int} {s : LSt} {M : JM} {P : JO → JM → Prop} {W2 : Int → LSt → Prop} {Q : Int → LSt → Prop} (hv1 : jnl v1 = true) (hv2 : jnl v2 = true) (hM : R2 s M) (hQ : ∀ (r : Int) (M1 : JM) (s1 : LSt), R2 s1 M1 → Q r s1 → P (.inl (some (.inl r))) M1) (hW2 : ∀ (v3 : Int) (M1 : JM) (s1 : LSt), R2 s1 M1 → W2 v3 s1 → JX 252 2 [jR 0, v1, v2, jI v3] [] M1 P) (h : d_Lw_told_b2 v1 v2 v3 s W2 Q) : JX 252 2 [jR 0, v1, v2, jI v3] [] M P := by
  unfold d_Lw_told_b2 at h
  refine L_ps c252 (n := 1) (pc1 := 3) (ls1 := [jR 0, v1, v2, jI v3]) (st1 := [jI v3]) rfl ?_
  refine E_aldn (c252 3 rfl) rfl hv2 ?_
  show JX 252 4 [jR 0, v1, v2, jI v3] [v2, jI v3] M P
  obtain ⟨i1, e, g⟩ := cR_of h
  clear h
  subst e
  have h := g
  clear g
  obtain ⟨ht, h⟩ := h
  refine E_cI (pc1 := 9) (c252 4 rfl) (js_f rfl ((rcv_tag hM ht).trans jt20)) rfl (k_YString_length rfl hM h) (fun r3 M s2 hM h => ?_)
  refine L_nb (p1 := 30) (p2 := 12) (c252 9 rfl) rfl jc_ge h (fun h => ?_) (fun h => ?_)
  · refine L_ps c252 (n := 1) (pc1 := 13) (ls1 := [jR 0, v1, jR i1, jI v3]) (st1 := [jR 0]) rfl ?_
    refine E_aldn (c252 13 rfl) rfl hv1 ?_
    show JX 252 14 [jR 0, v1, jR i1, jI v3] [v1, jR 0] M P
    refine L_ps c252 (n := 2) (pc1 := 16) (ls1 := [jR 0, v1, jR i1, jI v3]) (st1 := [jI v3, jR i1, v1, jR 0]) rfl ?_
    obtain ⟨ht, h⟩ := h
    refine E_cI (pc1 := 21) (c252 16 rfl) (js_f (show vsplit 1 [jI v3, jR i1, v1, jR 0] = some (i1, [jR i1, jI v3], [v1, jR 0]) from vs_v (A := [jI v3]) (B := [v1, jR 0]) rfl (al_c rfl al_n) (Nat.le_of_ble_eq_true rfl)) ((rcv_tag hM ht).trans jt22)) rfl (k_YString_charAt rfl hM h) (fun r5 M s4 hM h => ?_)
    refine E_cN (pc1 := 24) (c252 21 rfl) (js_t (show ssplit 3 [jI r5, v1, jR 0] = some ([jR 0, v1, jI r5], []) from ss_v (A := [jI r5, v1, jR 0]) (B := []) rfl (al_c rfl (al_c (jnl_c2 hv1) (al_c rfl al_n))) (Nat.le_of_ble_eq_true rfl))) rfl (k_Lw_putc hv1 hM h) (fun M s6 hM h => ?_)
    refine L_ps c252 (n := 2) (pc1 := 2) (ls1 := [jR 0, v1, jR i1, jI (wr (v3 + 1))]) (st1 := []) rfl ?_
    exact hW2 _ _ _ hM h
  · refine L_ps c252 (n := 1) (pc1 := 31) (ls1 := [jR 0, v1, jR i1, jI v3]) (st1 := [jR 0]) rfl ?_
    refine E_aldn (c252 31 rfl) rfl hv1 ?_
    show JX 252 32 [jR 0, v1, jR i1, jI v3] [v1, jR 0] M P
    refine E_cI (pc1 := 35) (c252 32 rfl) (js_t (show ssplit 2 [v1, jR 0] = some ([jR 0, v1], []) from ss_v (A := [v1, jR 0]) (B := []) rfl (al_c (jnl_c2 hv1) (al_c rfl al_n)) (Nat.le_of_ble_eq_true rfl))) rfl (k_Lw_said hv1 hM h) (fun r9 M s8 hM h => ?_)
    exact L_retI (c252 35 rfl) (hQ _ _ _ hM h)
theorem k_Lw_told_l2 {v1 : JV} {v2 : JV} {v3 : Int} {s : LSt} {M : JM} {P : JO → JM → Prop} {Q : Int → LSt → Prop} (hv1 : jnl v1 = true) (hv2 : jnl v2 = true) (hM : R2 s M) (hQ : ∀ (r : Int) (M1 : JM) (s1 : LSt), R2 s1 M1 → Q r s1 → P (.inl (some (.inl r))) M1) (h : d_Lw_told_l2 v1 v2 v3 s Q) : JX 252 2 [jR 0, v1, v2, jI v3] [] M P := by
  refine h (fun v3 s => ∀ (M : JM), R2 s M → JX 252 2 [jR 0, v1, v2, jI v3] [] M P) ?_ _ hM
  intro v3 s h M hM
  exact k_Lw_told_b2 hv1 hv2 hM hQ (fun v3 M s hM h => h M hM) h
theorem k_Lw_told {v1 : JV} {v2 : JV} {s : LSt} {M : JM} {Q : Int → LSt → Prop} (hv1 : jnl v1 = true) (hv2 : jnl v2 = true) (hM : R2 s M) (h : d_Lw_told v1 v2 s Q) : JX 252 0 (jargs 252 [jR 0, v1, v2]) [] M (P2 (QI2 Q)) := by
  unfold d_Lw_told at h
  show JX 252 0 [jR 0, v1, v2, jU] [] M (P2 (QI2 Q))
  generalize hP : P2 (QI2 Q) = P
  have hQ : ∀ (r : Int) (M1 : JM) (s1 : LSt), R2 s1 M1 → Q r s1 → P (.inl (some (.inl r))) M1 := by rw [← hP]; exact fun r M1 s1 a b => ⟨s1, a, r, rfl, b⟩
  clear hP
  refine L_ps c252 (n := 1) (pc1 := 1) (ls1 := [jR 0, v1, v2, jU]) (st1 := [jI 0]) rfl ?_
  refine L_istn (c252 1 rfl) (jnl_c2 hv2) (Nat.le_of_ble_eq_true rfl) ?_
  show JX 252 2 [jR 0, v1, v2, jI 0] [] M P
  exact k_Lw_told_l2 hv1 hv2 hM hQ h
