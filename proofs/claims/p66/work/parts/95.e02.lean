/-! that the printed tables do what the texts say, 2 -/
theorem k_Lw_closed0_j37 {v0 : JV} {v1 : JV} {s : LSt} {M : JM} {P : JO → JM → Prop} {Q : JV → LSt → Prop} (hv0 : jnl v0 = true) (hv1 : jnl v1 = true) (hM : R2 s M) (hQ : ∀ (r : JV) (M1 : JM) (s1 : LSt), R2 s1 M1 → jnl r = true → Q r s1 → P (.inl (some r)) M1) (h : d_Lw_closed_j37 (d_Lw_closed 0) v0 v1 s Q) : JX 159 37 [v0, v1] [] M P := by
  unfold d_Lw_closed_j37 at h
  refine E_nC (c159 37 rfl) hM (by decide) h (fun i3 M s4 hM h => ?_)
  refine L_ps c159 (n := 1) (pc1 := 41) (ls1 := [v0, v1]) (st1 := [jR i3, jR i3]) rfl ?_
  refine E_aldn (c159 41 rfl) rfl hv0 ?_
  show JX 159 42 [v0, v1] [v0, jR i3, jR i3] M P
  obtain ⟨i5, e, g⟩ := cR_of h
  clear h
  subst e
  have h := g
  clear g
  refine E_fI (c159 42 rfl) hM (by decide) h (fun z6 h => ?_)
  refine L_ps c159 (n := 1) (pc1 := 46) (ls1 := [jR i5, v1]) (st1 := [jR i5, jI z6, jR i3, jR i3]) rfl ?_
  refine E_fV (c159 46 rfl) hM (by decide) h (fun x7 hx7 h => ?_)
  refine E_aldn (c159 49 rfl) rfl hv1 ?_
  show JX 159 50 [jR i5, v1] [v1, x7, jI z6, jR i3, jR i3] M P
  exact False.elim h
theorem k_Lw_closed0 {v0 : JV} {v1 : JV} {s : LSt} {M : JM} {Q : JV → LSt → Prop} (hv0 : jnl v0 = true) (hv1 : jnl v1 = true) (hM : R2 s M) (h : d_Lw_closed 1 v0 v1 s Q) : JX 159 0 (jargs 159 [v0, v1]) [] M (P2 (QV2 Q)) := by
  have h : d_Lw_closed_F (d_Lw_closed 0) v0 v1 s Q := h
  unfold d_Lw_closed_F at h
  show JX 159 0 [v0, v1] [] M (P2 (QV2 Q))
  generalize hP : P2 (QV2 Q) = P
  have hQ : ∀ (r : JV) (M1 : JM) (s1 : LSt), R2 s1 M1 → jnl r = true → Q r s1 → P (.inl (some r)) M1 := by rw [← hP]; exact fun r M1 s1 a c b => ⟨s1, a, r, rfl, c, b⟩
  clear hP
  refine E_aldn (c159 0 rfl) rfl hv0 ?_
  show JX 159 1 [v0, v1] [v0] M P
  refine E_ifnn (c159 1 rfl) h (fun e g => ?_) (fun i1 e g => ?_)
  · clear h
    subst e
    have h := g
    clear g
    refine L_ps c159 (n := 1) (pc1 := 5) (ls1 := [jX .null, v1]) (st1 := [jX .null]) rfl ?_
    exact E_retV (c159 5 rfl) rfl (hQ _ _ _ hM rfl h)
  · clear h
    subst e
    have h := g
    clear g
    refine L_ps c159 (n := 1) (pc1 := 7) (ls1 := [jR i1, v1]) (st1 := [jR i1]) rfl ?_
    refine E_fI (c159 7 rfl) hM (by decide) h (fun z2 h => ?_)
    refine L_ps c159 (n := 1) (pc1 := 12) (ls1 := [jR i1, v1]) (st1 := [jI 100, jI z2]) rfl ?_
    refine L_br (p1 := 37) (p2 := 15) (c159 12 rfl) rfl jc_lt h (fun h => ?_) (fun h => ?_)
    · exact k_Lw_closed0_j37 rfl hv1 hM hQ h
    · refine E_aldn (c159 15 rfl) rfl hv1 ?_
      show JX 159 16 [jR i1, v1] [v1] M P
      refine L_ps c159 (n := 1) (pc1 := 17) (ls1 := [jR i1, v1]) (st1 := [jR i1, v1]) rfl ?_
      refine E_fI (c159 17 rfl) hM (by decide) h (fun z15 h => ?_)
      refine E_cI (pc1 := 23) (c159 20 rfl) (js_t (show ssplit 2 [jI z15, v1] = some ([v1, jI z15], []) from ss_v (A := [jI z15, v1]) (B := []) rfl (al_c rfl (al_c (jnl_c2 hv1) al_n)) (Nat.le_of_ble_eq_true rfl))) rfl (k_Lw_uses4 hv1 hM h) (fun r17 M s16 hM h => ?_)
      refine L_nb (p1 := 37) (p2 := 26) (c159 23 rfl) rfl jc_ne h (fun h => ?_) (fun h => ?_)
      · refine E_nC (c159 26 rfl) hM (by decide) h (fun i18 M s19 hM h => ?_)
        refine L_ps c159 (n := 4) (pc1 := 33) (ls1 := [jR i1, v1]) (st1 := [jX .null, jX .null, jI 2, jR i18, jR i18]) rfl ?_
        refine E_cN (pc1 := 36) (c159 33 rfl) (js_s rfl) rfl (k_Node_init rfl rfl rfl hM h) (fun M s20 hM h => ?_)
        exact E_retV (c159 36 rfl) rfl (hQ _ _ _ hM rfl h)
      · exact k_Lw_closed0_j37 rfl hv1 hM hQ h
theorem k_Lw_closed1_j37 {v0 : JV} {v1 : JV} {s : LSt} {M : JM} {P : JO → JM → Prop} {Q : JV → LSt → Prop} (hv0 : jnl v0 = true) (hv1 : jnl v1 = true) (hM : R2 s M) (hQ : ∀ (r : JV) (M1 : JM) (s1 : LSt), R2 s1 M1 → jnl r = true → Q r s1 → P (.inl (some r)) M1) (h : d_Lw_closed_j37 (d_Lw_closed 1) v0 v1 s Q) : JX 160 37 [v0, v1] [] M P := by
  unfold d_Lw_closed_j37 at h
  refine E_nC (c160 37 rfl) hM (by decide) h (fun i3 M s4 hM h => ?_)
  refine L_ps c160 (n := 1) (pc1 := 41) (ls1 := [v0, v1]) (st1 := [jR i3, jR i3]) rfl ?_
  refine E_aldn (c160 41 rfl) rfl hv0 ?_
  show JX 160 42 [v0, v1] [v0, jR i3, jR i3] M P
  obtain ⟨i5, e, g⟩ := cR_of h
  clear h
  subst e
  have h := g
  clear g
  refine E_fI (c160 42 rfl) hM (by decide) h (fun z6 h => ?_)
  refine L_ps c160 (n := 1) (pc1 := 46) (ls1 := [jR i5, v1]) (st1 := [jR i5, jI z6, jR i3, jR i3]) rfl ?_
  refine E_fV (c160 46 rfl) hM (by decide) h (fun x7 hx7 h => ?_)
  refine E_aldn (c160 49 rfl) rfl hv1 ?_
  show JX 160 50 [jR i5, v1] [v1, x7, jI z6, jR i3, jR i3] M P
  refine E_cV (pc1 := 53) (c160 50 rfl) (js_t (show ssplit 2 [v1, x7, jI z6, jR i3, jR i3] = some ([x7, v1], [jI z6, jR i3, jR i3]) from ss_v (A := [v1, x7]) (B := [jI z6, jR i3, jR i3]) rfl (al_c (jnl_c2 hv1) (al_c (jnl_c2 hx7) al_n)) (Nat.le_of_ble_eq_true rfl))) rfl (k_Lw_closed0 hx7 hv1 hM h) (fun x9 M s8 hM hx9 h => ?_)
  refine L_ps c160 (n := 1) (pc1 := 54) (ls1 := [jR i5, v1]) (st1 := [jR i5, x9, jI z6, jR i3, jR i3]) rfl ?_
  refine E_fV (c160 54 rfl) hM (by decide) h (fun x10 hx10 h => ?_)
  refine E_aldn (c160 57 rfl) rfl hv1 ?_
  show JX 160 58 [jR i5, v1] [v1, x10, x9, jI z6, jR i3, jR i3] M P
  refine E_cV (pc1 := 61) (c160 58 rfl) (js_t (show ssplit 2 [v1, x10, x9, jI z6, jR i3, jR i3] = some ([x10, v1], [x9, jI z6, jR i3, jR i3]) from ss_v (A := [v1, x10]) (B := [x9, jI z6, jR i3, jR i3]) rfl (al_c (jnl_c2 hv1) (al_c (jnl_c2 hx10) al_n)) (Nat.le_of_ble_eq_true rfl))) rfl (k_Lw_closed0 hx10 hv1 hM h) (fun x12 M s11 hM hx12 h => ?_)
  refine E_cN (pc1 := 64) (c160 61 rfl) (js_s (show vsplit (3 % 100) [x12, x9, jI z6, jR i3, jR i3] = some (i3, [jR i3, jI z6, x9, x12], [jR i3]) from vs_v (A := [x12, x9, jI z6]) (B := [jR i3]) rfl (al_c (jnl_c2 hx12) (al_c (jnl_c2 hx9) (al_c rfl al_n))) (Nat.le_of_ble_eq_true rfl))) rfl (k_Node_init rfl hx9 hx12 hM h) (fun M s13 hM h => ?_)
  exact E_retV (c160 64 rfl) rfl (hQ _ _ _ hM rfl h)
theorem k_Lw_closed1 {v0 : JV} {v1 : JV} {s : LSt} {M : JM} {Q : JV → LSt → Prop} (hv0 : jnl v0 = true) (hv1 : jnl v1 = true) (hM : R2 s M) (h : d_Lw_closed 2 v0 v1 s Q) : JX 160 0 (jargs 160 [v0, v1]) [] M (P2 (QV2 Q)) := by
  have h : d_Lw_closed_F (d_Lw_closed 1) v0 v1 s Q := h
  unfold d_Lw_closed_F at h
  show JX 160 0 [v0, v1] [] M (P2 (QV2 Q))
  generalize hP : P2 (QV2 Q) = P
  have hQ : ∀ (r : JV) (M1 : JM) (s1 : LSt), R2 s1 M1 → jnl r = true → Q r s1 → P (.inl (some r)) M1 := by rw [← hP]; exact fun r M1 s1 a c b => ⟨s1, a, r, rfl, c, b⟩
  clear hP
  refine E_aldn (c160 0 rfl) rfl hv0 ?_
  show JX 160 1 [v0, v1] [v0] M P
  refine E_ifnn (c160 1 rfl) h (fun e g => ?_) (fun i1 e g => ?_)
  · clear h
    subst e
    have h := g
    clear g
    refine L_ps c160 (n := 1) (pc1 := 5) (ls1 := [jX .null, v1]) (st1 := [jX .null]) rfl ?_
    exact E_retV (c160 5 rfl) rfl (hQ _ _ _ hM rfl h)
  · clear h
    subst e
    have h := g
    clear g
    refine L_ps c160 (n := 1) (pc1 := 7) (ls1 := [jR i1, v1]) (st1 := [jR i1]) rfl ?_
    refine E_fI (c160 7 rfl) hM (by decide) h (fun z2 h => ?_)
    refine L_ps c160 (n := 1) (pc1 := 12) (ls1 := [jR i1, v1]) (st1 := [jI 100, jI z2]) rfl ?_
    refine L_br (p1 := 37) (p2 := 15) (c160 12 rfl) rfl jc_lt h (fun h => ?_) (fun h => ?_)
    · exact k_Lw_closed1_j37 rfl hv1 hM hQ h
    · refine E_aldn (c160 15 rfl) rfl hv1 ?_
      show JX 160 16 [jR i1, v1] [v1] M P
      refine L_ps c160 (n := 1) (pc1 := 17) (ls1 := [jR i1, v1]) (st1 := [jR i1, v1]) rfl ?_
      refine E_fI (c160 17 rfl) hM (by decide) h (fun z15 h => ?_)
      refine E_cI (pc1 := 23) (c160 20 rfl) (js_t (show ssplit 2 [jI z15, v1] = some ([v1, jI z15], []) from ss_v (A := [jI z15, v1]) (B := []) rfl (al_c rfl (al_c (jnl_c2 hv1) al_n)) (Nat.le_of_ble_eq_true rfl))) rfl (k_Lw_uses4 hv1 hM h) (fun r17 M s16 hM h => ?_)
      refine L_nb (p1 := 37) (p2 := 26) (c160 23 rfl) rfl jc_ne h (fun h => ?_) (fun h => ?_)
      · refine E_nC (c160 26 rfl) hM (by decide) h (fun i18 M s19 hM h => ?_)
        refine L_ps c160 (n := 4) (pc1 := 33) (ls1 := [jR i1, v1]) (st1 := [jX .null, jX .null, jI 2, jR i18, jR i18]) rfl ?_
        refine E_cN (pc1 := 36) (c160 33 rfl) (js_s rfl) rfl (k_Node_init rfl rfl rfl hM h) (fun M s20 hM h => ?_)
        exact E_retV (c160 36 rfl) rfl (hQ _ _ _ hM rfl h)
      · exact k_Lw_closed1_j37 rfl hv1 hM hQ h
theorem k_Lw_closed2_j37 {v0 : JV} {v1 : JV} {s : LSt} {M : JM} {P : JO → JM → Prop} {Q : JV → LSt → Prop} (hv0 : jnl v0 = true) (hv1 : jnl v1 = true) (hM : R2 s M) (hQ : ∀ (r : JV) (M1 : JM) (s1 : LSt), R2 s1 M1 → jnl r = true → Q r s1 → P (.inl (some r)) M1) (h : d_Lw_closed_j37 (d_Lw_closed 2) v0 v1 s Q) : JX 161 37 [v0, v1] [] M P := by
  unfold d_Lw_closed_j37 at h
  refine E_nC (c161 37 rfl) hM (by decide) h (fun i3 M s4 hM h => ?_)
  refine L_ps c161 (n := 1) (pc1 := 41) (ls1 := [v0, v1]) (st1 := [jR i3, jR i3]) rfl ?_
  refine E_aldn (c161 41 rfl) rfl hv0 ?_
  show JX 161 42 [v0, v1] [v0, jR i3, jR i3] M P
  obtain ⟨i5, e, g⟩ := cR_of h
  clear h
  subst e
  have h := g
  clear g
  refine E_fI (c161 42 rfl) hM (by decide) h (fun z6 h => ?_)
  refine L_ps c161 (n := 1) (pc1 := 46) (ls1 := [jR i5, v1]) (st1 := [jR i5, jI z6, jR i3, jR i3]) rfl ?_
  refine E_fV (c161 46 rfl) hM (by decide) h (fun x7 hx7 h => ?_)
  refine E_aldn (c161 49 rfl) rfl hv1 ?_
  show JX 161 50 [jR i5, v1] [v1, x7, jI z6, jR i3, jR i3] M P
  refine E_cV (pc1 := 53) (c161 50 rfl) (js_t (show ssplit 2 [v1, x7, jI z6, jR i3, jR i3] = some ([x7, v1], [jI z6, jR i3, jR i3]) from ss_v (A := [v1, x7]) (B := [jI z6, jR i3, jR i3]) rfl (al_c (jnl_c2 hv1) (al_c (jnl_c2 hx7) al_n)) (Nat.le_of_ble_eq_true rfl))) rfl (k_Lw_closed1 hx7 hv1 hM h) (fun x9 M s8 hM hx9 h => ?_)
  refine L_ps c161 (n := 1) (pc1 := 54) (ls1 := [jR i5, v1]) (st1 := [jR i5, x9, jI z6, jR i3, jR i3]) rfl ?_
  refine E_fV (c161 54 rfl) hM (by decide) h (fun x10 hx10 h => ?_)
  refine E_aldn (c161 57 rfl) rfl hv1 ?_
  show JX 161 58 [jR i5, v1] [v1, x10, x9, jI z6, jR i3, jR i3] M P
  refine E_cV (pc1 := 61) (c161 58 rfl) (js_t (show ssplit 2 [v1, x10, x9, jI z6, jR i3, jR i3] = some ([x10, v1], [x9, jI z6, jR i3, jR i3]) from ss_v (A := [v1, x10]) (B := [x9, jI z6, jR i3, jR i3]) rfl (al_c (jnl_c2 hv1) (al_c (jnl_c2 hx10) al_n)) (Nat.le_of_ble_eq_true rfl))) rfl (k_Lw_closed1 hx10 hv1 hM h) (fun x12 M s11 hM hx12 h => ?_)
  refine E_cN (pc1 := 64) (c161 61 rfl) (js_s (show vsplit (3 % 100) [x12, x9, jI z6, jR i3, jR i3] = some (i3, [jR i3, jI z6, x9, x12], [jR i3]) from vs_v (A := [x12, x9, jI z6]) (B := [jR i3]) rfl (al_c (jnl_c2 hx12) (al_c (jnl_c2 hx9) (al_c rfl al_n))) (Nat.le_of_ble_eq_true rfl))) rfl (k_Node_init rfl hx9 hx12 hM h) (fun M s13 hM h => ?_)
  exact E_retV (c161 64 rfl) rfl (hQ _ _ _ hM rfl h)
theorem k_Lw_closed2 {v0 : JV} {v1 : JV} {s : LSt} {M : JM} {Q : JV → LSt → Prop} (hv0 : jnl v0 = true) (hv1 : jnl v1 = true) (hM : R2 s M) (h : d_Lw_closed 3 v0 v1 s Q) : JX 161 0 (jargs 161 [v0, v1]) [] M (P2 (QV2 Q)) := by
  have h : d_Lw_closed_F (d_Lw_closed 2) v0 v1 s Q := h
  unfold d_Lw_closed_F at h
  show JX 161 0 [v0, v1] [] M (P2 (QV2 Q))
  generalize hP : P2 (QV2 Q) = P
  have hQ : ∀ (r : JV) (M1 : JM) (s1 : LSt), R2 s1 M1 → jnl r = true → Q r s1 → P (.inl (some r)) M1 := by rw [← hP]; exact fun r M1 s1 a c b => ⟨s1, a, r, rfl, c, b⟩
  clear hP
  refine E_aldn (c161 0 rfl) rfl hv0 ?_
  show JX 161 1 [v0, v1] [v0] M P
  refine E_ifnn (c161 1 rfl) h (fun e g => ?_) (fun i1 e g => ?_)
  · clear h
    subst e
    have h := g
    clear g
    refine L_ps c161 (n := 1) (pc1 := 5) (ls1 := [jX .null, v1]) (st1 := [jX .null]) rfl ?_
    exact E_retV (c161 5 rfl) rfl (hQ _ _ _ hM rfl h)
  · clear h
    subst e
    have h := g
    clear g
    refine L_ps c161 (n := 1) (pc1 := 7) (ls1 := [jR i1, v1]) (st1 := [jR i1]) rfl ?_
    refine E_fI (c161 7 rfl) hM (by decide) h (fun z2 h => ?_)
    refine L_ps c161 (n := 1) (pc1 := 12) (ls1 := [jR i1, v1]) (st1 := [jI 100, jI z2]) rfl ?_
    refine L_br (p1 := 37) (p2 := 15) (c161 12 rfl) rfl jc_lt h (fun h => ?_) (fun h => ?_)
    · exact k_Lw_closed2_j37 rfl hv1 hM hQ h
    · refine E_aldn (c161 15 rfl) rfl hv1 ?_
      show JX 161 16 [jR i1, v1] [v1] M P
      refine L_ps c161 (n := 1) (pc1 := 17) (ls1 := [jR i1, v1]) (st1 := [jR i1, v1]) rfl ?_
      refine E_fI (c161 17 rfl) hM (by decide) h (fun z15 h => ?_)
      refine E_cI (pc1 := 23) (c161 20 rfl) (js_t (show ssplit 2 [jI z15, v1] = some ([v1, jI z15], []) from ss_v (A := [jI z15, v1]) (B := []) rfl (al_c rfl (al_c (jnl_c2 hv1) al_n)) (Nat.le_of_ble_eq_true rfl))) rfl (k_Lw_uses4 hv1 hM h) (fun r17 M s16 hM h => ?_)
      refine L_nb (p1 := 37) (p2 := 26) (c161 23 rfl) rfl jc_ne h (fun h => ?_) (fun h => ?_)
      · refine E_nC (c161 26 rfl) hM (by decide) h (fun i18 M s19 hM h => ?_)
        refine L_ps c161 (n := 4) (pc1 := 33) (ls1 := [jR i1, v1]) (st1 := [jX .null, jX .null, jI 2, jR i18, jR i18]) rfl ?_
        refine E_cN (pc1 := 36) (c161 33 rfl) (js_s rfl) rfl (k_Node_init rfl rfl rfl hM h) (fun M s20 hM h => ?_)
        exact E_retV (c161 36 rfl) rfl (hQ _ _ _ hM rfl h)
      · exact k_Lw_closed2_j37 rfl hv1 hM hQ h
theorem k_Lw_closed3_j37 {v0 : JV} {v1 : JV} {s : LSt} {M : JM} {P : JO → JM → Prop} {Q : JV → LSt → Prop} (hv0 : jnl v0 = true) (hv1 : jnl v1 = true) (hM : R2 s M) (hQ : ∀ (r : JV) (M1 : JM) (s1 : LSt), R2 s1 M1 → jnl r = true → Q r s1 → P (.inl (some r)) M1) (h : d_Lw_closed_j37 (d_Lw_closed 3) v0 v1 s Q) : JX 162 37 [v0, v1] [] M P := by
  unfold d_Lw_closed_j37 at h
  refine E_nC (c162 37 rfl) hM (by decide) h (fun i3 M s4 hM h => ?_)
  refine L_ps c162 (n := 1) (pc1 := 41) (ls1 := [v0, v1]) (st1 := [jR i3, jR i3]) rfl ?_
  refine E_aldn (c162 41 rfl) rfl hv0 ?_
  show JX 162 42 [v0, v1] [v0, jR i3, jR i3] M P
  obtain ⟨i5, e, g⟩ := cR_of h
  clear h
  subst e
  have h := g
  clear g
  refine E_fI (c162 42 rfl) hM (by decide) h (fun z6 h => ?_)
  refine L_ps c162 (n := 1) (pc1 := 46) (ls1 := [jR i5, v1]) (st1 := [jR i5, jI z6, jR i3, jR i3]) rfl ?_
  refine E_fV (c162 46 rfl) hM (by decide) h (fun x7 hx7 h => ?_)
  refine E_aldn (c162 49 rfl) rfl hv1 ?_
  show JX 162 50 [jR i5, v1] [v1, x7, jI z6, jR i3, jR i3] M P
  refine E_cV (pc1 := 53) (c162 50 rfl) (js_t (show ssplit 2 [v1, x7, jI z6, jR i3, jR i3] = some ([x7, v1], [jI z6, jR i3, jR i3]) from ss_v (A := [v1, x7]) (B := [jI z6, jR i3, jR i3]) rfl (al_c (jnl_c2 hv1) (al_c (jnl_c2 hx7) al_n)) (Nat.le_of_ble_eq_true rfl))) rfl (k_Lw_closed2 hx7 hv1 hM h) (fun x9 M s8 hM hx9 h => ?_)
  refine L_ps c162 (n := 1) (pc1 := 54) (ls1 := [jR i5, v1]) (st1 := [jR i5, x9, jI z6, jR i3, jR i3]) rfl ?_
  refine E_fV (c162 54 rfl) hM (by decide) h (fun x10 hx10 h => ?_)
  refine E_aldn (c162 57 rfl) rfl hv1 ?_
  show JX 162 58 [jR i5, v1] [v1, x10, x9, jI z6, jR i3, jR i3] M P
  refine E_cV (pc1 := 61) (c162 58 rfl) (js_t (show ssplit 2 [v1, x10, x9, jI z6, jR i3, jR i3] = some ([x10, v1], [x9, jI z6, jR i3, jR i3]) from ss_v (A := [v1, x10]) (B := [x9, jI z6, jR i3, jR i3]) rfl (al_c (jnl_c2 hv1) (al_c (jnl_c2 hx10) al_n)) (Nat.le_of_ble_eq_true rfl))) rfl (k_Lw_closed2 hx10 hv1 hM h) (fun x12 M s11 hM hx12 h => ?_)
  refine E_cN (pc1 := 64) (c162 61 rfl) (js_s (show vsplit (3 % 100) [x12, x9, jI z6, jR i3, jR i3] = some (i3, [jR i3, jI z6, x9, x12], [jR i3]) from vs_v (A := [x12, x9, jI z6]) (B := [jR i3]) rfl (al_c (jnl_c2 hx12) (al_c (jnl_c2 hx9) (al_c rfl al_n))) (Nat.le_of_ble_eq_true rfl))) rfl (k_Node_init rfl hx9 hx12 hM h) (fun M s13 hM h => ?_)
  exact E_retV (c162 64 rfl) rfl (hQ _ _ _ hM rfl h)
theorem k_Lw_closed3 {v0 : JV} {v1 : JV} {s : LSt} {M : JM} {Q : JV → LSt → Prop} (hv0 : jnl v0 = true) (hv1 : jnl v1 = true) (hM : R2 s M) (h : d_Lw_closed 4 v0 v1 s Q) : JX 162 0 (jargs 162 [v0, v1]) [] M (P2 (QV2 Q)) := by
  have h : d_Lw_closed_F (d_Lw_closed 3) v0 v1 s Q := h
  unfold d_Lw_closed_F at h
  show JX 162 0 [v0, v1] [] M (P2 (QV2 Q))
  generalize hP : P2 (QV2 Q) = P
  have hQ : ∀ (r : JV) (M1 : JM) (s1 : LSt), R2 s1 M1 → jnl r = true → Q r s1 → P (.inl (some r)) M1 := by rw [← hP]; exact fun r M1 s1 a c b => ⟨s1, a, r, rfl, c, b⟩
  clear hP
  refine E_aldn (c162 0 rfl) rfl hv0 ?_
  show JX 162 1 [v0, v1] [v0] M P
  refine E_ifnn (c162 1 rfl) h (fun e g => ?_) (fun i1 e g => ?_)
  · clear h
    subst e
    have h := g
    clear g
    refine L_ps c162 (n := 1) (pc1 := 5) (ls1 := [jX .null, v1]) (st1 := [jX .null]) rfl ?_
    exact E_retV (c162 5 rfl) rfl (hQ _ _ _ hM rfl h)
  · clear h
    subst e
    have h := g
    clear g
    refine L_ps c162 (n := 1) (pc1 := 7) (ls1 := [jR i1, v1]) (st1 := [jR i1]) rfl ?_
    refine E_fI (c162 7 rfl) hM (by decide) h (fun z2 h => ?_)
    refine L_ps c162 (n := 1) (pc1 := 12) (ls1 := [jR i1, v1]) (st1 := [jI 100, jI z2]) rfl ?_
    refine L_br (p1 := 37) (p2 := 15) (c162 12 rfl) rfl jc_lt h (fun h => ?_) (fun h => ?_)
    · exact k_Lw_closed3_j37 rfl hv1 hM hQ h
    · refine E_aldn (c162 15 rfl) rfl hv1 ?_
      show JX 162 16 [jR i1, v1] [v1] M P
      refine L_ps c162 (n := 1) (pc1 := 17) (ls1 := [jR i1, v1]) (st1 := [jR i1, v1]) rfl ?_
      refine E_fI (c162 17 rfl) hM (by decide) h (fun z15 h => ?_)
      refine E_cI (pc1 := 23) (c162 20 rfl) (js_t (show ssplit 2 [jI z15, v1] = some ([v1, jI z15], []) from ss_v (A := [jI z15, v1]) (B := []) rfl (al_c rfl (al_c (jnl_c2 hv1) al_n)) (Nat.le_of_ble_eq_true rfl))) rfl (k_Lw_uses4 hv1 hM h) (fun r17 M s16 hM h => ?_)
      refine L_nb (p1 := 37) (p2 := 26) (c162 23 rfl) rfl jc_ne h (fun h => ?_) (fun h => ?_)
      · refine E_nC (c162 26 rfl) hM (by decide) h (fun i18 M s19 hM h => ?_)
        refine L_ps c162 (n := 4) (pc1 := 33) (ls1 := [jR i1, v1]) (st1 := [jX .null, jX .null, jI 2, jR i18, jR i18]) rfl ?_
        refine E_cN (pc1 := 36) (c162 33 rfl) (js_s rfl) rfl (k_Node_init rfl rfl rfl hM h) (fun M s20 hM h => ?_)
        exact E_retV (c162 36 rfl) rfl (hQ _ _ _ hM rfl h)
      · exact k_Lw_closed3_j37 rfl hv1 hM hQ h
theorem k_Lw_closed4_j37 {v0 : JV} {v1 : JV} {s : LSt} {M : JM} {P : JO → JM → Prop} {Q : JV → LSt → Prop} (hv0 : jnl v0 = true) (hv1 : jnl v1 = true) (hM : R2 s M) (hQ : ∀ (r : JV) (M1 : JM) (s1 : LSt), R2 s1 M1 → jnl r = true → Q r s1 → P (.inl (some r)) M1) (h : d_Lw_closed_j37 (d_Lw_closed 4) v0 v1 s Q) : JX 163 37 [v0, v1] [] M P := by
  unfold d_Lw_closed_j37 at h
  refine E_nC (c163 37 rfl) hM (by decide) h (fun i3 M s4 hM h => ?_)
  refine L_ps c163 (n := 1) (pc1 := 41) (ls1 := [v0, v1]) (st1 := [jR i3, jR i3]) rfl ?_
  refine E_aldn (c163 41 rfl) rfl hv0 ?_
  show JX 163 42 [v0, v1] [v0, jR i3, jR i3] M P
  obtain ⟨i5, e, g⟩ := cR_of h
  clear h
  subst e
  have h := g
  clear g
  refine E_fI (c163 42 rfl) hM (by decide) h (fun z6 h => ?_)
  refine L_ps c163 (n := 1) (pc1 := 46) (ls1 := [jR i5, v1]) (st1 := [jR i5, jI z6, jR i3, jR i3]) rfl ?_
  refine E_fV (c163 46 rfl) hM (by decide) h (fun x7 hx7 h => ?_)
  refine E_aldn (c163 49 rfl) rfl hv1 ?_
  show JX 163 50 [jR i5, v1] [v1, x7, jI z6, jR i3, jR i3] M P
  refine E_cV (pc1 := 53) (c163 50 rfl) (js_t (show ssplit 2 [v1, x7, jI z6, jR i3, jR i3] = some ([x7, v1], [jI z6, jR i3, jR i3]) from ss_v (A := [v1, x7]) (B := [jI z6, jR i3, jR i3]) rfl (al_c (jnl_c2 hv1) (al_c (jnl_c2 hx7) al_n)) (Nat.le_of_ble_eq_true rfl))) rfl (k_Lw_closed3 hx7 hv1 hM h) (fun x9 M s8 hM hx9 h => ?_)
  refine L_ps c163 (n := 1) (pc1 := 54) (ls1 := [jR i5, v1]) (st1 := [jR i5, x9, jI z6, jR i3, jR i3]) rfl ?_
  refine E_fV (c163 54 rfl) hM (by decide) h (fun x10 hx10 h => ?_)
  refine E_aldn (c163 57 rfl) rfl hv1 ?_
  show JX 163 58 [jR i5, v1] [v1, x10, x9, jI z6, jR i3, jR i3] M P
  refine E_cV (pc1 := 61) (c163 58 rfl) (js_t (show ssplit 2 [v1, x10, x9, jI z6, jR i3, jR i3] = some ([x10, v1], [x9, jI z6, jR i3, jR i3]) from ss_v (A := [v1, x10]) (B := [x9, jI z6, jR i3, jR i3]) rfl (al_c (jnl_c2 hv1) (al_c (jnl_c2 hx10) al_n)) (Nat.le_of_ble_eq_true rfl))) rfl (k_Lw_closed3 hx10 hv1 hM h) (fun x12 M s11 hM hx12 h => ?_)
  refine E_cN (pc1 := 64) (c163 61 rfl) (js_s (show vsplit (3 % 100) [x12, x9, jI z6, jR i3, jR i3] = some (i3, [jR i3, jI z6, x9, x12], [jR i3]) from vs_v (A := [x12, x9, jI z6]) (B := [jR i3]) rfl (al_c (jnl_c2 hx12) (al_c (jnl_c2 hx9) (al_c rfl al_n))) (Nat.le_of_ble_eq_true rfl))) rfl (k_Node_init rfl hx9 hx12 hM h) (fun M s13 hM h => ?_)
  exact E_retV (c163 64 rfl) rfl (hQ _ _ _ hM rfl h)
theorem k_Lw_closed4 {v0 : JV} {v1 : JV} {s : LSt} {M : JM} {Q : JV → LSt → Prop} (hv0 : jnl v0 = true) (hv1 : jnl v1 = true) (hM : R2 s M) (h : d_Lw_closed 5 v0 v1 s Q) : JX 163 0 (jargs 163 [v0, v1]) [] M (P2 (QV2 Q)) := by
  have h : d_Lw_closed_F (d_Lw_closed 4) v0 v1 s Q := h
  unfold d_Lw_closed_F at h
  show JX 163 0 [v0, v1] [] M (P2 (QV2 Q))
  generalize hP : P2 (QV2 Q) = P
  have hQ : ∀ (r : JV) (M1 : JM) (s1 : LSt), R2 s1 M1 → jnl r = true → Q r s1 → P (.inl (some r)) M1 := by rw [← hP]; exact fun r M1 s1 a c b => ⟨s1, a, r, rfl, c, b⟩
  clear hP
  refine E_aldn (c163 0 rfl) rfl hv0 ?_
  show JX 163 1 [v0, v1] [v0] M P
  refine E_ifnn (c163 1 rfl) h (fun e g => ?_) (fun i1 e g => ?_)
  · clear h
    subst e
    have h := g
    clear g
    refine L_ps c163 (n := 1) (pc1 := 5) (ls1 := [jX .null, v1]) (st1 := [jX .null]) rfl ?_
    exact E_retV (c163 5 rfl) rfl (hQ _ _ _ hM rfl h)
  · clear h
    subst e
    have h := g
    clear g
    refine L_ps c163 (n := 1) (pc1 := 7) (ls1 := [jR i1, v1]) (st1 := [jR i1]) rfl ?_
    refine E_fI (c163 7 rfl) hM (by decide) h (fun z2 h => ?_)
    refine L_ps c163 (n := 1) (pc1 := 12) (ls1 := [jR i1, v1]) (st1 := [jI 100, jI z2]) rfl ?_
    refine L_br (p1 := 37) (p2 := 15) (c163 12 rfl) rfl jc_lt h (fun h => ?_) (fun h => ?_)
    · exact k_Lw_closed4_j37 rfl hv1 hM hQ h
    · refine E_aldn (c163 15 rfl) rfl hv1 ?_
      show JX 163 16 [jR i1, v1] [v1] M P
      refine L_ps c163 (n := 1) (pc1 := 17) (ls1 := [jR i1, v1]) (st1 := [jR i1, v1]) rfl ?_
      refine E_fI (c163 17 rfl) hM (by decide) h (fun z15 h => ?_)
      refine E_cI (pc1 := 23) (c163 20 rfl) (js_t (show ssplit 2 [jI z15, v1] = some ([v1, jI z15], []) from ss_v (A := [jI z15, v1]) (B := []) rfl (al_c rfl (al_c (jnl_c2 hv1) al_n)) (Nat.le_of_ble_eq_true rfl))) rfl (k_Lw_uses4 hv1 hM h) (fun r17 M s16 hM h => ?_)
      refine L_nb (p1 := 37) (p2 := 26) (c163 23 rfl) rfl jc_ne h (fun h => ?_) (fun h => ?_)
      · refine E_nC (c163 26 rfl) hM (by decide) h (fun i18 M s19 hM h => ?_)
        refine L_ps c163 (n := 4) (pc1 := 33) (ls1 := [jR i1, v1]) (st1 := [jX .null, jX .null, jI 2, jR i18, jR i18]) rfl ?_
        refine E_cN (pc1 := 36) (c163 33 rfl) (js_s rfl) rfl (k_Node_init rfl rfl rfl hM h) (fun M s20 hM h => ?_)
        exact E_retV (c163 36 rfl) rfl (hQ _ _ _ hM rfl h)
      · exact k_Lw_closed4_j37 rfl hv1 hM hQ h
theorem k_ArraysSupport_newLength_j21 {v0 : Int} {v1 : Int} {s : LSt} {M : JM} {P : JO → JM → Prop} {g2 : JV} {g3 : JV} {Q : Int → LSt → Prop} (hg2 : jc2 g2 = false) (hM : R2 s M) (hQ : ∀ (r : Int) (M1 : JM) (s1 : LSt), R2 s1 M1 → Q r s1 → P (.inl (some (.inl r))) M1) (h : d_ArraysSupport_newLength_j21 v0 v1 s Q) : JX 173 21 [jI v0, jI v1, g2, g3] [] M P := by
  unfold d_ArraysSupport_newLength_j21 at h
  refine L_ps c173 (n := 2) (pc1 := 23) (ls1 := [jI v0, jI v1, g2, g3]) (st1 := [jI v1, jI v0]) rfl ?_
  exact h.elim
theorem k_ArraysSupport_newLength {v0 : Int} {v1 : Int} {v2 : Int} {s : LSt} {M : JM} {Q : Int → LSt → Prop} (hM : R2 s M) (h : d_ArraysSupport_newLength v0 v1 v2 s Q) : JX 173 0 (jargs 173 [jI v0, jI v1, jI v2]) [] M (P2 (QI2 Q)) := by
  unfold d_ArraysSupport_newLength at h
  show JX 173 0 [jI v0, jI v1, jI v2, jU] [] M (P2 (QI2 Q))
  generalize hP : P2 (QI2 Q) = P
  have hQ : ∀ (r : Int) (M1 : JM) (s1 : LSt), R2 s1 M1 → Q r s1 → P (.inl (some (.inl r))) M1 := by rw [← hP]; exact fun r M1 s1 a b => ⟨s1, a, r, rfl, b⟩
  clear hP
  refine L_ps c173 (n := 3) (pc1 := 3) (ls1 := [jI v0, jI v1, jI v2, jU]) (st1 := [jI v2, jI v1, jI v0]) rfl ?_
  refine E_cI (pc1 := 6) (c173 3 rfl) (js_t rfl) rfl (k_YMath_max hM h) (fun r2 M s1 hM h => ?_)
  refine L_ps c173 (n := 4) (pc1 := 10) (ls1 := [jI v0, jI v1, jI v2, jI (wr (v0 + r2))]) (st1 := [jI (wr (v0 + r2)), jI 0]) rfl ?_
  refine L_nb (p1 := 21) (p2 := 13) (c173 10 rfl) rfl jc_ge h (fun h => ?_) (fun h => ?_)
  · refine L_ps c173 (n := 2) (pc1 := 16) (ls1 := [jI v0, jI v1, jI v2, jI (wr (v0 + r2))]) (st1 := [jI 2147483639, jI (wr (v0 + r2))]) rfl ?_
    refine L_br (p1 := 21) (p2 := 19) (c173 16 rfl) rfl jc_gt h (fun h => ?_) (fun h => ?_)
    · exact k_ArraysSupport_newLength_j21 rfl hM hQ h
    · refine L_ps c173 (n := 1) (pc1 := 20) (ls1 := [jI v0, jI v1, jI v2, jI (wr (v0 + r2))]) (st1 := [jI (wr (v0 + r2))]) rfl ?_
      exact L_retI (c173 20 rfl) (hQ _ _ _ hM h)
  · exact k_ArraysSupport_newLength_j21 rfl hM hQ h
theorem k_AL_growTo_j20 {v0 : JV} {v1 : Int} {v2 : Int} {s : LSt} {M : JM} {P : JO → JM → Prop} {g3 : JV} {Q : JV → LSt → Prop} (hv0 : jnl v0 = true) (hM : R2 s M) (hQ : ∀ (r : JV) (M1 : JM) (s1 : LSt), R2 s1 M1 → jnl r = true → Q r s1 → P (.inl (some r)) M1) (h : d_AL_growTo_j20 v0 v1 v2 s Q) : JX 172 20 [v0, jI v1, jI v2, g3] [] M P := by
  unfold d_AL_growTo_j20 at h
  refine L_ps c172 (n := 7) (pc1 := 27) (ls1 := [v0, jI v1, jI v2, g3]) (st1 := [jI (jshr v2 1), jI (wr (v1 - v2)), jI v2]) rfl ?_
  refine E_cI (pc1 := 30) (c172 27 rfl) (js_t rfl) rfl (k_ArraysSupport_newLength hM h) (fun r6 M s5 hM h => ?_)
  refine L_ps c172 (n := 1) (pc1 := 31) (ls1 := [v0, jI v1, jI v2, jI r6]) (st1 := []) rfl ?_
  refine E_aldn (c172 31 rfl) rfl hv0 ?_
  show JX 172 32 [v0, jI v1, jI v2, jI r6] [v0] M P
  refine E_aldn (c172 32 rfl) rfl hv0 ?_
  show JX 172 33 [v0, jI v1, jI v2, jI r6] [v0, v0] M P
  obtain ⟨i7, e, g⟩ := cR_of h
  clear h
  subst e
  have h := g
  clear g
  refine E_fV (c172 33 rfl) hM (by decide) h (fun x8 hx8 h => ?_)
  refine L_ps c172 (n := 1) (pc1 := 37) (ls1 := [jR i7, jI v1, jI v2, jI r6]) (st1 := [jI r6, x8, jR i7]) rfl ?_
  exact h.elim
theorem k_AL_growTo {v0 : JV} {v1 : Int} {s : LSt} {M : JM} {Q : JV → LSt → Prop} (hv0 : jnl v0 = true) (hM : R2 s M) (h : d_AL_growTo v0 v1 s Q) : JX 172 0 (jargs 172 [v0, jI v1]) [] M (P2 (QV2 Q)) := by
  unfold d_AL_growTo at h
  show JX 172 0 [v0, jI v1, jU, jU] [] M (P2 (QV2 Q))
  generalize hP : P2 (QV2 Q) = P
  have hQ : ∀ (r : JV) (M1 : JM) (s1 : LSt), R2 s1 M1 → jnl r = true → Q r s1 → P (.inl (some r)) M1 := by rw [← hP]; exact fun r M1 s1 a c b => ⟨s1, a, r, rfl, c, b⟩
  clear hP
  refine E_aldn (c172 0 rfl) rfl hv0 ?_
  show JX 172 1 [v0, jI v1, jU, jU] [v0] M P
  obtain ⟨i1, e, g⟩ := cR_of h
  clear h
  subst e
  have h := g
  clear g
  refine E_fV (c172 1 rfl) hM (by decide) h (fun x2 hx2 h => ?_)
  obtain ⟨i3, e, g⟩ := cR_of h
  clear h
  subst e
  have h := g
  clear g
  refine E_aL (c172 4 rfl) hM h (fun z4 h => ?_)
  refine L_ps c172 (n := 2) (pc1 := 7) (ls1 := [jR i1, jI v1, jI z4, jU]) (st1 := [jI z4]) rfl ?_
  refine L_br (p1 := 20) (p2 := 10) (c172 7 rfl) rfl jc_gt h (fun h => ?_) (fun h => ?_)
  · exact k_AL_growTo_j20 rfl hM hQ h
  · refine L_ps c172 (n := 1) (pc1 := 11) (ls1 := [jR i1, jI v1, jI z4, jU]) (st1 := [jR i1]) rfl ?_
    refine E_fV (c172 11 rfl) hM (by decide) h (fun x9 hx9 h => ?_)
    refine L_ps c172 (n := 1) (pc1 := 17) (ls1 := [jR i1, jI v1, jI z4, jU]) (st1 := [jR 1000001, x9]) rfl ?_
    refine E_cE (c172 17 rfl) rfl hx9 (cE_c h) (fun h => ?_) (fun h => ?_)
    · refine L_ps c172 (n := 3) (pc1 := 49) (ls1 := [jR i1, jI v1, jI z4, jU]) (st1 := [jI v1, jI 10, jR i1]) rfl ?_
      refine E_cI (pc1 := 52) (c172 49 rfl) (js_t rfl) rfl (k_YMath_max hM h) (fun r11 M s10 hM h => ?_)
      refine E_nN (c172 52 rfl) hM h (fun i12 M s13 hM h => ?_)
      refine L_ps c172 (n := 1) (pc1 := 56) (ls1 := [jR i1, jI v1, jI z4, jU]) (st1 := [jR i12, jR i1, jR i12]) rfl ?_
      refine E_pF (c := 13) (f := 2) (c172 56 rfl) hM (by decide) h (fun M s14 hM h _ => ?_)
      exact E_retV (c172 59 rfl) rfl (hQ _ _ _ hM rfl h)
    · exact k_AL_growTo_j20 rfl hM hQ h
theorem k_AL_grow {v0 : JV} {s : LSt} {M : JM} {Q : JV → LSt → Prop} (hv0 : jnl v0 = true) (hM : R2 s M) (h : d_AL_grow v0 s Q) : JX 171 0 (jargs 171 [v0]) [] M (P2 (QV2 Q)) := by
  unfold d_AL_grow at h
  show JX 171 0 [v0] [] M (P2 (QV2 Q))
  generalize hP : P2 (QV2 Q) = P
  have hQ : ∀ (r : JV) (M1 : JM) (s1 : LSt), R2 s1 M1 → jnl r = true → Q r s1 → P (.inl (some r)) M1 := by rw [← hP]; exact fun r M1 s1 a c b => ⟨s1, a, r, rfl, c, b⟩
  clear hP
  refine E_aldn (c171 0 rfl) rfl hv0 ?_
  show JX 171 1 [v0] [v0] M P
  refine E_aldn (c171 1 rfl) rfl hv0 ?_
  show JX 171 2 [v0] [v0, v0] M P
  obtain ⟨i1, e, g⟩ := cR_of h
  clear h
  subst e
  have h := g
  clear g
  refine E_fI (c171 2 rfl) hM (by decide) h (fun z2 h => ?_)
  refine L_ps c171 (n := 2) (pc1 := 7) (ls1 := [jR i1]) (st1 := [jI (wr (z2 + 1)), jR i1]) rfl ?_
  obtain ⟨ht, h⟩ := h
  refine E_cV (pc1 := 10) (c171 7 rfl) (js_v rfl ((rcv_tag hM ht).trans jt172)) rfl (k_AL_growTo rfl hM h) (fun x4 M s3 hM hx4 h => ?_)
  exact E_retV (c171 10 rfl) hx4 (hQ _ _ _ hM hx4 h)
theorem k_AL_add3_j11 {v0 : JV} {v1 : JV} {v2 : JV} {v3 : Int} {s : LSt} {M : JM} {P : JO → JM → Prop} {Q : LSt → Prop} (hv0 : jnl v0 = true) (hv1 : jnl v1 = true) (hv2 : jnl v2 = true) (hM : R2 s M) (hQ : ∀ (M1 : JM) (s1 : LSt), R2 s1 M1 → Q s1 → P (.inl none) M1) (h : d_AL_add3_j11 v0 v1 v2 v3 s Q) : JX 170 11 [v0, v1, v2, jI v3] [] M P := by
  unfold d_AL_add3_j11 at h
  refine E_aldn (c170 11 rfl) rfl hv2 ?_
  show JX 170 12 [v0, v1, v2, jI v3] [v2] M P
  refine L_ps c170 (n := 1) (pc1 := 13) (ls1 := [v0, v1, v2, jI v3]) (st1 := [jI v3, v2]) rfl ?_
  refine E_aldn (c170 13 rfl) rfl hv1 ?_
  show JX 170 14 [v0, v1, v2, jI v3] [v1, jI v3, v2] M P
  obtain ⟨i6, e, g⟩ := cR_of h
  clear h
  subst e
  have h := g
  clear g
  refine E_wV (c170 14 rfl) hM h (fun M s7 hM h => ?_)
  refine E_aldn (c170 15 rfl) rfl hv0 ?_
  show JX 170 16 [v0, v1, jR i6, jI v3] [v0] M P
  refine L_ps c170 (n := 3) (pc1 := 19) (ls1 := [v0, v1, jR i6, jI v3]) (st1 := [jI (wr (v3 + 1)), v0]) rfl ?_
  obtain ⟨i8, e, g⟩ := cR_of h
  clear h
  subst e
  have h := g
  clear g
  refine E_pF (c := 13) (f := 0) (c170 19 rfl) hM (by decide) h (fun M s9 hM h _ => ?_)
  exact L_end (c170 22 rfl) rfl (hQ _ _ hM h)
theorem k_AL_add3 {v0 : JV} {v1 : JV} {v2 : JV} {v3 : Int} {s : LSt} {M : JM} {Q : LSt → Prop} (hv0 : jnl v0 = true) (hv1 : jnl v1 = true) (hv2 : jnl v2 = true) (hM : R2 s M) (h : d_AL_add3 v0 v1 v2 v3 s Q) : JX 170 0 (jargs 170 [v0, v1, v2, jI v3]) [] M (P2 (QN2 Q)) := by
  unfold d_AL_add3 at h
  show JX 170 0 [v0, v1, v2, jI v3] [] M (P2 (QN2 Q))
  generalize hP : P2 (QN2 Q) = P
  have hQ : ∀ (M1 : JM) (s1 : LSt), R2 s1 M1 → Q s1 → P (.inl none) M1 := by rw [← hP]; exact fun M1 s1 a b => ⟨s1, a, rfl, b⟩
  clear hP
  refine L_ps c170 (n := 1) (pc1 := 1) (ls1 := [v0, v1, v2, jI v3]) (st1 := [jI v3]) rfl ?_
  refine E_aldn (c170 1 rfl) rfl hv2 ?_
  show JX 170 2 [v0, v1, v2, jI v3] [v2, jI v3] M P
  obtain ⟨i1, e, g⟩ := cR_of h
  clear h
  subst e
  have h := g
  clear g
  refine E_aL (c170 2 rfl) hM h (fun z2 h => ?_)
  refine L_nb (p1 := 11) (p2 := 6) (c170 3 rfl) rfl jc_ne h (fun h => ?_) (fun h => ?_)
  · refine E_aldn (c170 6 rfl) rfl hv0 ?_
    show JX 170 7 [v0, v1, jR i1, jI v3] [v0] M P
    obtain ⟨i3, e, g⟩ := cR_of h
    clear h
    subst e
    have h := g
    clear g
    obtain ⟨ht, h⟩ := h
    refine E_cV (pc1 := 10) (c170 7 rfl) (js_v rfl ((rcv_tag hM ht).trans jt171)) rfl (k_AL_grow rfl hM h) (fun x5 M s4 hM hx5 h => ?_)
    refine E_astn (ls1 := [jR i3, v1, x5, jI v3]) (c170 10 rfl) (jnl_c2 hv1) (Nat.le_of_ble_eq_true rfl) hx5 rfl ?_
    exact k_AL_add3_j11 rfl hv1 hx5 hM hQ h
  · exact k_AL_add3_j11 hv0 hv1 rfl hM hQ h
theorem k_AL_add {v0 : JV} {v1 : JV} {s : LSt} {M : JM} {Q : Int → LSt → Prop} (hv0 : jnl v0 = true) (hv1 : jnl v1 = true) (hM : R2 s M) (h : d_AL_add v0 v1 s Q) : JX 169 0 (jargs 169 [v0, v1]) [] M (P2 (QI2 Q)) := by
  unfold d_AL_add at h
  show JX 169 0 [v0, v1] [] M (P2 (QI2 Q))
  generalize hP : P2 (QI2 Q) = P
  have hQ : ∀ (r : Int) (M1 : JM) (s1 : LSt), R2 s1 M1 → Q r s1 → P (.inl (some (.inl r))) M1 := by rw [← hP]; exact fun r M1 s1 a b => ⟨s1, a, r, rfl, b⟩
  clear hP
  refine E_aldn (c169 0 rfl) rfl hv0 ?_
  show JX 169 1 [v0, v1] [v0] M P
  refine E_dup (c169 1 rfl) hv0 ?_
  obtain ⟨i1, e, g⟩ := cR_of h
  clear h
  subst e
  have h := g
  clear g
  refine E_fI (c169 2 rfl) hM (by decide) h (fun z2 h => ?_)
  refine L_ps c169 (n := 2) (pc1 := 7) (ls1 := [jR i1, v1]) (st1 := [jI (wr (z2 + 1)), jR i1]) rfl ?_
  refine E_pF (c := 13) (f := 0) (c169 7 rfl) hM (by decide) h (fun M s3 hM h _ => ?_)
  refine L_ps c169 (n := 1) (pc1 := 11) (ls1 := [jR i1, v1]) (st1 := [jR i1]) rfl ?_
  refine E_aldn (c169 11 rfl) rfl hv1 ?_
  show JX 169 12 [jR i1, v1] [v1, jR i1] M P
  refine L_ps c169 (n := 1) (pc1 := 13) (ls1 := [jR i1, v1]) (st1 := [jR i1, v1, jR i1]) rfl ?_
  refine E_fV (c169 13 rfl) hM (by decide) h (fun x4 hx4 h => ?_)
  refine L_ps c169 (n := 1) (pc1 := 17) (ls1 := [jR i1, v1]) (st1 := [jR i1, x4, v1, jR i1]) rfl ?_
  refine E_fI (c169 17 rfl) hM (by decide) h (fun z5 h => ?_)
  obtain ⟨ht, h⟩ := h
  refine E_cN (pc1 := 23) (c169 20 rfl) (js_v (show vsplit 3 [jI z5, x4, v1, jR i1] = some (i1, [jR i1, v1, x4, jI z5], []) from vs_v (A := [jI z5, x4, v1]) (B := []) rfl (al_c rfl (al_c (jnl_c2 hx4) (al_c (jnl_c2 hv1) al_n))) (Nat.le_of_ble_eq_true rfl)) ((rcv_tag hM ht).trans jt170)) rfl (k_AL_add3 rfl hv1 hx4 hM h) (fun M s6 hM h => ?_)
  refine L_ps c169 (n := 1) (pc1 := 24) (ls1 := [jR i1, v1]) (st1 := [jI 1]) rfl ?_
  exact E_retZ (c169 24 rfl) (Or.inr rfl) (hQ _ _ _ hM h)
theorem k_Lw_sys_b119 {v0 : JV} {v1 : JV} {v2 : Int} {v3 : Int} {s : LSt} {M : JM} {P : JO → JM → Prop} {g4 : JV} {W119 : Int → LSt → Prop} {Q : JV → LSt → Prop} (hv0 : jnl v0 = true) (hv1 : jnl v1 = true) (hM : R2 s M) (hQ : ∀ (r : JV) (M1 : JM) (s1 : LSt), R2 s1 M1 → jnl r = true → Q r s1 → P (.inl (some r)) M1) (hW119 : ∀ (v3 : Int) (g4 : JV) (M1 : JM) (s1 : LSt), R2 s1 M1 → W119 v3 s1 → JX 148 119 [v0, v1, jI v2, jI v3, g4] [] M1 P) (h : d_Lw_sys_b119 v0 v1 v2 v3 s W119 Q) : JX 148 119 [v0, v1, jI v2, jI v3, g4] [] M P := by
  unfold d_Lw_sys_b119 at h
  refine L_ps c148 (n := 8) (pc1 := 127) (ls1 := [v0, v1, jI v2, jI v3, g4]) (st1 := [jI (wr (1 + (jand (jushr v2 2) 1))), jI v3]) rfl ?_
  refine L_br (p1 := 164) (p2 := 130) (c148 127 rfl) rfl jc_gt h (fun h => ?_) (fun h => ?_)
  · refine E_aldn (c148 164 rfl) rfl hv1 ?_
    show JX 148 165 [v0, v1, jI v2, jI v3, g4] [v1] M P
    exact E_retV (c148 165 rfl) hv1 (hQ _ _ _ hM hv1 h)
  · refine E_aldn (c148 130 rfl) rfl hv1 ?_
    show JX 148 131 [v0, v1, jI v2, jI v3, g4] [v1] M P
    obtain ⟨i7, e, g⟩ := cR_of h
    clear h
    subst e
    have h := g
    clear g
    refine E_fV (c148 131 rfl) hM (by decide) h (fun x8 hx8 h => ?_)
    refine L_ps c148 (n := 1) (pc1 := 135) (ls1 := [v0, jR i7, jI v2, jI v3, g4]) (st1 := [jI 1, x8]) rfl ?_
    refine E_nA (c148 135 rfl) hM h (fun i9 M s10 hM h => ?_)
    refine L_ps c148 (n := 2) (pc1 := 139) (ls1 := [v0, jR i7, jI v2, jI v3, g4]) (st1 := [jI 0, jR i9, jR i9, x8]) rfl ?_
    refine E_aldn (c148 139 rfl) rfl hv0 ?_
    show JX 148 140 [v0, jR i7, jI v2, jI v3, g4] [v0, jI 0, jR i9, jR i9, x8] M P
    refine L_ps c148 (n := 3) (pc1 := 144) (ls1 := [v0, jR i7, jI v2, jI v3, g4]) (st1 := [jI (wr (7 + v3)), v0, jI 0, jR i9, jR i9, x8]) rfl ?_
    refine E_cI (pc1 := 147) (c148 144 rfl) (js_t (show ssplit 2 [jI (wr (7 + v3)), v0, jI 0, jR i9, jR i9, x8] = some ([v0, jI (wr (7 + v3))], [jI 0, jR i9, jR i9, x8]) from ss_v (A := [jI (wr (7 + v3)), v0]) (B := [jI 0, jR i9, jR i9, x8]) rfl (al_c rfl (al_c (jnl_c2 hv0) al_n)) (Nat.le_of_ble_eq_true rfl))) rfl (k_Lw_cell hv0 hM h) (fun r12 M s11 hM h => ?_)
    refine L_ps c148 (n := 2) (pc1 := 149) (ls1 := [v0, jR i7, jI v2, jI v3, g4]) (st1 := [jI (jor r12 4), jI 0, jR i9, jR i9, x8]) rfl ?_
    refine E_wI (c148 149 rfl) hM h (fun M s13 hM h => ?_)
    refine L_ps c148 (n := 1) (pc1 := 151) (ls1 := [v0, jR i7, jI v2, jI v3, g4]) (st1 := [jI 3, jR i9, x8]) rfl ?_
    refine E_cV (pc1 := 154) (c148 151 rfl) (js_t (show ssplit 2 [jI 3, jR i9, x8] = some ([jR i9, jI 3], [x8]) from ss_v (A := [jI 3, jR i9]) (B := [x8]) rfl (al_c rfl (al_c rfl al_n)) (Nat.le_of_ble_eq_true rfl))) rfl (k_Lw_tree4 rfl hM h) (fun x15 M s14 hM hx15 h => ?_)
    obtain ⟨i16, e, g⟩ := cR_of h
    clear h
    subst e
    have h := g
    clear g
    obtain ⟨ht, h⟩ := h
    refine E_cI (pc1 := 157) (c148 154 rfl) (js_v (show vsplit 1 [x15, jR i16] = some (i16, [jR i16, x15], []) from vs_v (A := [x15]) (B := []) rfl (al_c (jnl_c2 hx15) al_n) (Nat.le_of_ble_eq_true rfl)) ((rcv_tag hM ht).trans jt169)) rfl (k_AL_add rfl hx15 hM h) (fun r18 M s17 hM h => ?_)
    refine L_ps c148 (n := 3) (pc1 := 119) (ls1 := [v0, jR i7, jI v2, jI (wr (v3 + 1)), g4]) (st1 := []) rfl ?_
    exact hW119 _ _ _ _ hM h
theorem k_Lw_sys_l119 {v0 : JV} {v1 : JV} {v2 : Int} {v3 : Int} {s : LSt} {M : JM} {P : JO → JM → Prop} {g4 : JV} {Q : JV → LSt → Prop} (hv0 : jnl v0 = true) (hv1 : jnl v1 = true) (hM : R2 s M) (hQ : ∀ (r : JV) (M1 : JM) (s1 : LSt), R2 s1 M1 → jnl r = true → Q r s1 → P (.inl (some r)) M1) (h : d_Lw_sys_l119 v0 v1 v2 v3 s Q) : JX 148 119 [v0, v1, jI v2, jI v3, g4] [] M P := by
  refine h (fun v3 s => ∀ (g4 : JV) (M : JM), R2 s M → JX 148 119 [v0, v1, jI v2, jI v3, g4] [] M P) ?_ _ _ hM
  intro v3 s h g4 M hM
  exact k_Lw_sys_b119 hv0 hv1 hM hQ (fun v3 g4 M s hM h => h g4 M hM) h
theorem k_Lw_sys_j69 {v0 : JV} {v1 : JV} {v2 : Int} {v3 : Int} {v4 : JV} {s : LSt} {M : JM} {P : JO → JM → Prop} {W16 : Int → LSt → Prop} {Q : JV → LSt → Prop} (hv0 : jnl v0 = true) (hv1 : jnl v1 = true) (hv4 : jnl v4 = true) (hM : R2 s M) (hQ : ∀ (r : JV) (M1 : JM) (s1 : LSt), R2 s1 M1 → jnl r = true → Q r s1 → P (.inl (some r)) M1) (hW16 : ∀ (v3 : Int) (g4 : JV) (M1 : JM) (s1 : LSt), R2 s1 M1 → W16 v3 s1 → JX 148 16 [v0, v1, jI v2, jI v3, g4] [] M1 P) (h : d_Lw_sys_j69 v0 v1 v2 v3 v4 s W16 Q) : JX 148 69 [v0, v1, jI v2, jI v3, v4] [] M P := by
  unfold d_Lw_sys_j69 at h
  refine E_aldn (c148 69 rfl) rfl hv1 ?_
  show JX 148 70 [v0, v1, jI v2, jI v3, v4] [v1] M P
  obtain ⟨i28, e, g⟩ := cR_of h
  clear h
  subst e
  have h := g
  clear g
  refine E_fV (c148 70 rfl) hM (by decide) h (fun x29 hx29 h => ?_)
  refine L_ps c148 (n := 1) (pc1 := 74) (ls1 := [v0, jR i28, jI v2, jI v3, v4]) (st1 := [jI 2, x29]) rfl ?_
  refine E_nN (c148 74 rfl) hM h (fun i30 M s31 hM h => ?_)
  refine L_ps c148 (n := 2) (pc1 := 79) (ls1 := [v0, jR i28, jI v2, jI v3, v4]) (st1 := [jI 0, jR i30, jR i30, x29]) rfl ?_
  refine E_ald (c148 79 rfl) rfl hv4 ?_
  show JX 148 81 [v0, jR i28, jI v2, jI v3, v4] [v4, jI 0, jR i30, jR i30, x29] M P
  refine E_wV (c148 81 rfl) hM h (fun M s32 hM h => ?_)
  refine L_ps c148 (n := 3) (pc1 := 85) (ls1 := [v0, jR i28, jI v2, jI v3, v4]) (st1 := [jI 1, jI 1, jR i30, jR i30, x29]) rfl ?_
  refine E_nA (c148 85 rfl) hM h (fun i33 M s34 hM h => ?_)
  refine L_ps c148 (n := 2) (pc1 := 89) (ls1 := [v0, jR i28, jI v2, jI v3, v4]) (st1 := [jI 0, jR i33, jR i33, jI 1, jR i30, jR i30, x29]) rfl ?_
  refine E_aldn (c148 89 rfl) rfl hv0 ?_
  show JX 148 90 [v0, jR i28, jI v2, jI v3, v4] [v0, jI 0, jR i33, jR i33, jI 1, jR i30, jR i30, x29] M P
  refine L_ps c148 (n := 3) (pc1 := 93) (ls1 := [v0, jR i28, jI v2, jI v3, v4]) (st1 := [jI (wr (4 + v3)), v0, jI 0, jR i33, jR i33, jI 1, jR i30, jR i30, x29]) rfl ?_
  refine E_cI (pc1 := 96) (c148 93 rfl) (js_t (show ssplit 2 [jI (wr (4 + v3)), v0, jI 0, jR i33, jR i33, jI 1, jR i30, jR i30, x29] = some ([v0, jI (wr (4 + v3))], [jI 0, jR i33, jR i33, jI 1, jR i30, jR i30, x29]) from ss_w (A := [jI (wr (4 + v3)), v0]) (B := [jI 0, jR i33, jR i33, jI 1, jR i30, jR i30, x29]) rfl (al_c rfl (al_c (jnl_c2 hv0) al_n)) (al_c rfl (al_c rfl (al_c rfl (al_c rfl (al_c rfl (al_c rfl (al_c (jnl_c2 hx29) al_n))))))) (Nat.le_of_ble_eq_true rfl))) rfl (k_Lw_cell hv0 hM h) (fun r36 M s35 hM h => ?_)
  refine E_wI (c148 96 rfl) hM h (fun M s37 hM h => ?_)
  refine L_ps c148 (n := 1) (pc1 := 98) (ls1 := [v0, jR i28, jI v2, jI v3, v4]) (st1 := [jI 2, jR i33, jI 1, jR i30, jR i30, x29]) rfl ?_
  refine E_cV (pc1 := 101) (c148 98 rfl) (js_t (show ssplit 2 [jI 2, jR i33, jI 1, jR i30, jR i30, x29] = some ([jR i33, jI 2], [jI 1, jR i30, jR i30, x29]) from ss_v (A := [jI 2, jR i33]) (B := [jI 1, jR i30, jR i30, x29]) rfl (al_c rfl (al_c rfl al_n)) (Nat.le_of_ble_eq_true rfl))) rfl (k_Lw_tree4 rfl hM h) (fun x39 M s38 hM hx39 h => ?_)
  refine E_ald (c148 101 rfl) rfl hv4 ?_
  show JX 148 103 [v0, jR i28, jI v2, jI v3, v4] [v4, x39, jI 1, jR i30, jR i30, x29] M P
  refine E_cV (pc1 := 106) (c148 103 rfl) (js_t (show ssplit 2 [v4, x39, jI 1, jR i30, jR i30, x29] = some ([x39, v4], [jI 1, jR i30, jR i30, x29]) from ss_v (A := [v4, x39]) (B := [jI 1, jR i30, jR i30, x29]) rfl (al_c (jnl_c2 hv4) (al_c (jnl_c2 hx39) al_n)) (Nat.le_of_ble_eq_true rfl))) rfl (k_Lw_closed4 hx39 hv4 hM h) (fun x41 M s40 hM hx41 h => ?_)
  refine E_wV (c148 106 rfl) hM h (fun M s42 hM h => ?_)
  obtain ⟨i43, e, g⟩ := cR_of h
  clear h
  subst e
  have h := g
  clear g
  obtain ⟨ht, h⟩ := h
  refine E_cI (pc1 := 110) (c148 107 rfl) (js_v rfl ((rcv_tag hM ht).trans jt169)) rfl (k_AL_add rfl rfl hM h) (fun r45 M s44 hM h => ?_)
  refine L_ps c148 (n := 3) (pc1 := 16) (ls1 := [v0, jR i28, jI v2, jI (wr (v3 + 1)), v4]) (st1 := []) rfl ?_
  exact hW16 _ _ _ _ hM h
theorem k_Lw_sys_b16 {v0 : JV} {v1 : JV} {v2 : Int} {v3 : Int} {s : LSt} {M : JM} {P : JO → JM → Prop} {g4 : JV} {W16 : Int → LSt → Prop} {Q : JV → LSt → Prop} (hv0 : jnl v0 = true) (hv1 : jnl v1 = true) (hM : R2 s M) (hQ : ∀ (r : JV) (M1 : JM) (s1 : LSt), R2 s1 M1 → jnl r = true → Q r s1 → P (.inl (some r)) M1) (hW16 : ∀ (v3 : Int) (g4 : JV) (M1 : JM) (s1 : LSt), R2 s1 M1 → W16 v3 s1 → JX 148 16 [v0, v1, jI v2, jI v3, g4] [] M1 P) (h : d_Lw_sys_b16 v0 v1 v2 v3 s W16 Q) : JX 148 16 [v0, v1, jI v2, jI v3, g4] [] M P := by
  unfold d_Lw_sys_b16 at h
  refine L_ps c148 (n := 5) (pc1 := 21) (ls1 := [v0, v1, jI v2, jI v3, g4]) (st1 := [jI 3, jI (jand v2 3), jI v3]) rfl ?_
  refine E_rem (c148 21 rfl) (by decide) ?_
  refine L_br (p1 := 117) (p2 := 25) (c148 22 rfl) rfl jc_gt h (fun h => ?_) (fun h => ?_)
  · refine L_ps c148 (n := 2) (pc1 := 119) (ls1 := [v0, v1, jI v2, jI 0, g4]) (st1 := []) rfl ?_
    exact k_Lw_sys_l119 hv0 hv1 hM hQ h
  · refine L_ps c148 (n := 1) (pc1 := 26) (ls1 := [v0, v1, jI v2, jI v3, g4]) (st1 := [jI 1]) rfl ?_
    refine E_nA (c148 26 rfl) hM h (fun i19 M s20 hM h => ?_)
    refine L_ps c148 (n := 2) (pc1 := 30) (ls1 := [v0, v1, jI v2, jI v3, g4]) (st1 := [jI 0, jR i19, jR i19]) rfl ?_
    refine E_aldn (c148 30 rfl) rfl hv0 ?_
    show JX 148 31 [v0, v1, jI v2, jI v3, g4] [v0, jI 0, jR i19, jR i19] M P
    refine L_ps c148 (n := 3) (pc1 := 34) (ls1 := [v0, v1, jI v2, jI v3, g4]) (st1 := [jI (wr (1 + v3)), v0, jI 0, jR i19, jR i19]) rfl ?_
    refine E_cI (pc1 := 37) (c148 34 rfl) (js_t (show ssplit 2 [jI (wr (1 + v3)), v0, jI 0, jR i19, jR i19] = some ([v0, jI (wr (1 + v3))], [jI 0, jR i19, jR i19]) from ss_v (A := [jI (wr (1 + v3)), v0]) (B := [jI 0, jR i19, jR i19]) rfl (al_c rfl (al_c (jnl_c2 hv0) al_n)) (Nat.le_of_ble_eq_true rfl))) rfl (k_Lw_cell hv0 hM h) (fun r22 M s21 hM h => ?_)
    refine L_ps c148 (n := 2) (pc1 := 39) (ls1 := [v0, v1, jI v2, jI v3, g4]) (st1 := [jI (jor r22 4), jI 0, jR i19, jR i19]) rfl ?_
    refine E_wI (c148 39 rfl) hM h (fun M s23 hM h => ?_)
    refine L_ps c148 (n := 1) (pc1 := 41) (ls1 := [v0, v1, jI v2, jI v3, g4]) (st1 := [jI 2, jR i19]) rfl ?_
    refine E_cV (pc1 := 44) (c148 41 rfl) (js_t rfl) rfl (k_Lw_tree4 rfl hM h) (fun x25 M s24 hM hx25 h => ?_)
    refine E_ast (ls1 := [v0, v1, jI v2, jI v3, x25]) (c148 44 rfl) rfl (Nat.le_of_ble_eq_true rfl) hx25 rfl ?_
    refine E_ald (c148 46 rfl) rfl hx25 ?_
    show JX 148 48 [v0, v1, jI v2, jI v3, x25] [x25] M P
    obtain ⟨i26, e, g⟩ := cR_of h
    clear h
    subst e
    have h := g
    clear g
    refine E_fI (c148 48 rfl) hM (by decide) h (fun z27 h => ?_)
    refine L_ps c148 (n := 1) (pc1 := 53) (ls1 := [v0, v1, jI v2, jI v3, jR i26]) (st1 := [jI 100, jI z27]) rfl ?_
    refine L_br (p1 := 69) (p2 := 56) (c148 53 rfl) rfl jc_lt h (fun h => ?_) (fun h => ?_)
    · exact k_Lw_sys_j69 hv0 hv1 rfl hM hQ hW16 h
    · refine E_nC (c148 56 rfl) hM (by decide) h (fun i46 M s47 hM h => ?_)
      refine L_ps c148 (n := 4) (pc1 := 64) (ls1 := [v0, v1, jI v2, jI v3, jR i26]) (st1 := [jX .null, jR i26, jI 1, jR i46, jR i46]) rfl ?_
      refine E_cN (pc1 := 67) (c148 64 rfl) (js_s rfl) rfl (k_Node_init rfl rfl rfl hM h) (fun M s48 hM h => ?_)
      refine L_ps c148 (n := 1) (pc1 := 69) (ls1 := [v0, v1, jI v2, jI v3, jR i46]) (st1 := []) rfl ?_
      exact k_Lw_sys_j69 hv0 hv1 rfl hM hQ hW16 h
theorem k_Lw_sys_l16 {v0 : JV} {v1 : JV} {v2 : Int} {v3 : Int} {s : LSt} {M : JM} {P : JO → JM → Prop} {g4 : JV} {Q : JV → LSt → Prop} (hv0 : jnl v0 = true) (hv1 : jnl v1 = true) (hM : R2 s M) (hQ : ∀ (r : JV) (M1 : JM) (s1 : LSt), R2 s1 M1 → jnl r = true → Q r s1 → P (.inl (some r)) M1) (h : d_Lw_sys_l16 v0 v1 v2 v3 s Q) : JX 148 16 [v0, v1, jI v2, jI v3, g4] [] M P := by
  refine h (fun v3 s => ∀ (g4 : JV) (M : JM), R2 s M → JX 148 16 [v0, v1, jI v2, jI v3, g4] [] M P) ?_ _ _ hM
  intro v3 s h g4 M hM
  exact k_Lw_sys_b16 hv0 hv1 hM hQ (fun v3 g4 M s hM h => h g4 M hM) h
theorem k_Lw_sys {v0 : JV} {s : LSt} {M : JM} {Q : JV → LSt → Prop} (hv0 : jnl v0 = true) (hM : R2 s M) (h : d_Lw_sys v0 s Q) : JX 148 0 (jargs 148 [v0]) [] M (P2 (QV2 Q)) := by
  unfold d_Lw_sys at h
  show JX 148 0 [v0, jU, jU, jU, jU] [] M (P2 (QV2 Q))
  generalize hP : P2 (QV2 Q) = P
  have hQ : ∀ (r : JV) (M1 : JM) (s1 : LSt), R2 s1 M1 → jnl r = true → Q r s1 → P (.inl (some r)) M1 := by rw [← hP]; exact fun r M1 s1 a c b => ⟨s1, a, r, rfl, c, b⟩
  clear hP
  refine E_nC (c148 0 rfl) hM (by decide) h (fun i1 M s2 hM h => ?_)
  refine L_ps c148 (n := 1) (pc1 := 4) (ls1 := [v0, jU, jU, jU, jU]) (st1 := [jR i1, jR i1]) rfl ?_
  refine E_cN (pc1 := 7) (c148 4 rfl) (js_s rfl) rfl (k_Sys_init rfl hM h) (fun M s3 hM h => ?_)
  refine L_astn (c148 7 rfl) (jnl_c2 hv0) (Nat.le_of_ble_eq_true rfl) ?_
  show JX 148 8 [v0, jR i1, jU, jU, jU] [] M P
  refine E_aldn (c148 8 rfl) rfl hv0 ?_
  show JX 148 9 [v0, jR i1, jU, jU, jU] [v0] M P
  refine L_ps c148 (n := 1) (pc1 := 10) (ls1 := [v0, jR i1, jU, jU, jU]) (st1 := [jI 0, v0]) rfl ?_
  refine E_cI (pc1 := 13) (c148 10 rfl) (js_t (show ssplit 2 [jI 0, v0] = some ([v0, jI 0], []) from ss_v (A := [jI 0, v0]) (B := []) rfl (al_c rfl (al_c (jnl_c2 hv0) al_n)) (Nat.le_of_ble_eq_true rfl))) rfl (k_Lw_cell hv0 hM h) (fun r6 M s5 hM h => ?_)
  refine L_ps c148 (n := 3) (pc1 := 16) (ls1 := [v0, jR i1, jI r6, jI 0, jU]) (st1 := []) rfl ?_
  exact k_Lw_sys_l16 hv0 rfl hM hQ h
theorem k_ASB_newCapacity {v0 : JV} {v1 : Int} {s : LSt} {M : JM} {Q : Int → LSt → Prop} (hv0 : jnl v0 = true) (hM : R2 s M) (h : d_ASB_newCapacity v0 v1 s Q) : JX 181 0 (jargs 181 [v0, jI v1]) [] M (P2 (QI2 Q)) := by
  unfold d_ASB_newCapacity at h
  show JX 181 0 [v0, jI v1, jU, jU, jU, jU] [] M (P2 (QI2 Q))
  generalize hP : P2 (QI2 Q) = P
  have hQ : ∀ (r : Int) (M1 : JM) (s1 : LSt), R2 s1 M1 → Q r s1 → P (.inl (some (.inl r))) M1 := by rw [← hP]; exact fun r M1 s1 a b => ⟨s1, a, r, rfl, b⟩
  clear hP
  refine E_aldn (c181 0 rfl) rfl hv0 ?_
  show JX 181 1 [v0, jI v1, jU, jU, jU, jU] [v0] M P
  obtain ⟨i1, e, g⟩ := cR_of h
  clear h
  subst e
  have h := g
  clear g
  refine E_fV (c181 1 rfl) hM (by decide) h (fun x2 hx2 h => ?_)
  obtain ⟨i3, e, g⟩ := cR_of h
  clear h
  subst e
  have h := g
  clear g
  refine E_aL (c181 4 rfl) hM h (fun z4 h => ?_)
  refine L_ps c181 (n := 3) (pc1 := 8) (ls1 := [jR i1, jI v1, jI z4, jU, jU, jU]) (st1 := [jR i1, jI v1]) rfl ?_
  refine E_fI (c181 8 rfl) hM (by decide) h (fun z5 h => ?_)
  refine L_ps c181 (n := 11) (pc1 := 24) (ls1 := [jR i1, jI v1, jI z4, jI (jshl v1 z5), jI (wr ((jshl v1 z5) - z4)), jU]) (st1 := [jR i1, jI 2, jI z4, jI (wr ((jshl v1 z5) - z4)), jI z4]) rfl ?_
  refine E_fI (c181 24 rfl) hM (by decide) h (fun z6 h => ?_)
  refine L_ps c181 (n := 2) (pc1 := 29) (ls1 := [jR i1, jI v1, jI z4, jI (jshl v1 z5), jI (wr ((jshl v1 z5) - z4)), jU]) (st1 := [jI (wr (z4 + (jshl 2 z6))), jI (wr ((jshl v1 z5) - z4)), jI z4]) rfl ?_
  refine E_cI (pc1 := 32) (c181 29 rfl) (js_t rfl) rfl (k_ArraysSupport_newLength hM h) (fun r8 M s7 hM h => ?_)
  refine L_ps c181 (n := 3) (pc1 := 38) (ls1 := [jR i1, jI v1, jI z4, jI (jshl v1 z5), jI (wr ((jshl v1 z5) - z4)), jI r8]) (st1 := [jI 2147483647, jI r8]) rfl ?_
  refine L_nb (p1 := 51) (p2 := 41) (c181 38 rfl) rfl jc_ne h (fun h => ?_) (fun h => ?_)
  · exact h.elim
  · refine L_ps c181 (n := 2) (pc1 := 54) (ls1 := [jR i1, jI v1, jI z4, jI (jshl v1 z5), jI (wr ((jshl v1 z5) - z4)), jI r8]) (st1 := [jR i1, jI r8]) rfl ?_
    refine E_fI (c181 54 rfl) hM (by decide) h (fun z9 h => ?_)
    refine L_ps c181 (n := 1) (pc1 := 58) (ls1 := [jR i1, jI v1, jI z4, jI (jshl v1 z5), jI (wr ((jshl v1 z5) - z4)), jI r8]) (st1 := [jI (jshr r8 z9)]) rfl ?_
    exact L_retI (c181 58 rfl) (hQ _ _ _ hM h)
theorem k_Arrays_copyOf {v0 : JV} {v1 : Int} {s : LSt} {M : JM} {Q : JV → LSt → Prop} (hv0 : jnl v0 = true) (hM : R2 s M) (h : d_Arrays_copyOf v0 v1 s Q) : JX 182 0 (jargs 182 [v0, jI v1]) [] M (P2 (QV2 Q)) := by
  unfold d_Arrays_copyOf at h
  show JX 182 0 [v0, jI v1, jU] [] M (P2 (QV2 Q))
  generalize hP : P2 (QV2 Q) = P
  have hQ : ∀ (r : JV) (M1 : JM) (s1 : LSt), R2 s1 M1 → jnl r = true → Q r s1 → P (.inl (some r)) M1 := by rw [← hP]; exact fun r M1 s1 a c b => ⟨s1, a, r, rfl, c, b⟩
  clear hP
  refine L_ps c182 (n := 1) (pc1 := 1) (ls1 := [v0, jI v1, jU]) (st1 := [jI v1]) rfl ?_
  refine E_aldn (c182 1 rfl) rfl hv0 ?_
  show JX 182 2 [v0, jI v1, jU] [v0, jI v1] M P
  obtain ⟨i1, e, g⟩ := cR_of h
  clear h
  subst e
  have h := g
  clear g
  refine E_aL (c182 2 rfl) hM h (fun z2 h => ?_)
  refine L_nb (p1 := 14) (p2 := 6) (c182 3 rfl) rfl jc_ne h (fun h => ?_) (fun h => ?_)
  · refine L_ps c182 (n := 1) (pc1 := 7) (ls1 := [jR i1, jI v1, jU]) (st1 := [jR i1]) rfl ?_
    refine E_aK (c182 7 rfl) hM (by decide) rfl h (fun i3 M s4 hM h => ?_)
    refine E_cT (c182 10 rfl) hM h (fun h => ?_)
    exact E_retV (c182 13 rfl) rfl (hQ _ _ _ hM rfl h)
  · refine L_ps c182 (n := 1) (pc1 := 15) (ls1 := [jR i1, jI v1, jU]) (st1 := [jI v1]) rfl ?_
    refine E_nA (c182 15 rfl) hM h (fun i5 M s6 hM h => ?_)
    refine L_ps c182 (n := 6) (pc1 := 23) (ls1 := [jR i1, jI v1, jR i5]) (st1 := [jR i1, jI 0, jR i5, jI 0, jR i1]) rfl ?_
    refine E_aL (c182 23 rfl) hM h (fun z7 h => ?_)
    refine L_ps c182 (n := 1) (pc1 := 25) (ls1 := [jR i1, jI v1, jR i5]) (st1 := [jI v1, jI z7, jI 0, jR i5, jI 0, jR i1]) rfl ?_
    refine E_cI (pc1 := 28) (c182 25 rfl) (js_t rfl) rfl (k_YMath_min hM h) (fun r9 M s8 hM h => ?_)
    refine E_aC (c182 28 rfl) hM (by decide) rfl h (fun M s10 hM h => ?_)
    refine L_ps c182 (n := 1) (pc1 := 32) (ls1 := [jR i1, jI v1, jR i5]) (st1 := [jR i5]) rfl ?_
    exact E_retV (c182 32 rfl) rfl (hQ _ _ _ hM rfl h)
theorem k_ASB_ensureCapacityInternal {v0 : JV} {v1 : Int} {s : LSt} {M : JM} {Q : LSt → Prop} (hv0 : jnl v0 = true) (hM : R2 s M) (h : d_ASB_ensureCapacityInternal v0 v1 s Q) : JX 180 0 (jargs 180 [v0, jI v1]) [] M (P2 (QN2 Q)) := by
  unfold d_ASB_ensureCapacityInternal at h
  show JX 180 0 [v0, jI v1, jU] [] M (P2 (QN2 Q))
  generalize hP : P2 (QN2 Q) = P
  have hQ : ∀ (M1 : JM) (s1 : LSt), R2 s1 M1 → Q s1 → P (.inl none) M1 := by rw [← hP]; exact fun M1 s1 a b => ⟨s1, a, rfl, b⟩
  clear hP
  refine E_aldn (c180 0 rfl) rfl hv0 ?_
  show JX 180 1 [v0, jI v1, jU] [v0] M P
  obtain ⟨i1, e, g⟩ := cR_of h
  clear h
  subst e
  have h := g
  clear g
  refine E_fV (c180 1 rfl) hM (by decide) h (fun x2 hx2 h => ?_)
  obtain ⟨i3, e, g⟩ := cR_of h
  clear h
  subst e
  have h := g
  clear g
  refine E_aL (c180 4 rfl) hM h (fun z4 h => ?_)
  refine L_ps c180 (n := 1) (pc1 := 6) (ls1 := [jR i1, jI v1, jU]) (st1 := [jR i1, jI z4]) rfl ?_
  refine E_fI (c180 6 rfl) hM (by decide) h (fun z5 h => ?_)
  refine L_ps c180 (n := 5) (pc1 := 14) (ls1 := [jR i1, jI v1, jI (jshr z4 z5)]) (st1 := [jI (wr (v1 - (jshr z4 z5)))]) rfl ?_
  refine L_nb (p1 := 38) (p2 := 17) (c180 14 rfl) rfl jc_le h (fun h => ?_) (fun h => ?_)
  · refine L_ps c180 (n := 2) (pc1 := 19) (ls1 := [jR i1, jI v1, jI (jshr z4 z5)]) (st1 := [jR i1, jR i1]) rfl ?_
    refine E_fV (c180 19 rfl) hM (by decide) h (fun x6 hx6 h => ?_)
    refine L_ps c180 (n := 2) (pc1 := 24) (ls1 := [jR i1, jI v1, jI (jshr z4 z5)]) (st1 := [jI v1, jR i1, x6, jR i1]) rfl ?_
    obtain ⟨ht, h⟩ := h
    refine E_cI (pc1 := 27) (c180 24 rfl) (js_v (show vsplit 1 [jI v1, jR i1, x6, jR i1] = some (i1, [jR i1, jI v1], [x6, jR i1]) from vs_v (A := [jI v1]) (B := [x6, jR i1]) rfl (al_c rfl al_n) (Nat.le_of_ble_eq_true rfl)) ((rcv_tag hM ht).trans jt181)) rfl (k_ASB_newCapacity rfl hM h) (fun r8 M s7 hM h => ?_)
    refine L_ps c180 (n := 1) (pc1 := 28) (ls1 := [jR i1, jI v1, jI (jshr z4 z5)]) (st1 := [jR i1, jI r8, x6, jR i1]) rfl ?_
    refine E_fI (c180 28 rfl) hM (by decide) h (fun z9 h => ?_)
    refine L_ps c180 (n := 1) (pc1 := 32) (ls1 := [jR i1, jI v1, jI (jshr z4 z5)]) (st1 := [jI (jshl r8 z9), x6, jR i1]) rfl ?_
    refine E_cV (pc1 := 35) (c180 32 rfl) (js_t (show ssplit 2 [jI (jshl r8 z9), x6, jR i1] = some ([x6, jI (jshl r8 z9)], [jR i1]) from ss_v (A := [jI (jshl r8 z9), x6]) (B := [jR i1]) rfl (al_c rfl (al_c (jnl_c2 hx6) al_n)) (Nat.le_of_ble_eq_true rfl))) rfl (k_Arrays_copyOf hx6 hM h) (fun x11 M s10 hM hx11 h => ?_)
    refine E_pF (c := 14) (f := 2) (c180 35 rfl) hM (by decide) h (fun M s12 hM h _ => ?_)
    exact L_end (c180 38 rfl) rfl (hQ _ _ hM h)
  · exact L_end (c180 38 rfl) rfl (hQ _ _ hM h)
theorem k_ASB_inflateIfNeededFor {v0 : JV} {v1 : JV} {s : LSt} {M : JM} {Q : LSt → Prop} (hv0 : jnl v0 = true) (hv1 : jnl v1 = true) (hM : R2 s M) (h : d_ASB_inflateIfNeededFor v0 v1 s Q) : JX 185 0 (jargs 185 [v0, v1]) [] M (P2 (QN2 Q)) := by
  unfold d_ASB_inflateIfNeededFor at h
  show JX 185 0 [v0, v1] [] M (P2 (QN2 Q))
  generalize hP : P2 (QN2 Q) = P
  have hQ : ∀ (M1 : JM) (s1 : LSt), R2 s1 M1 → Q s1 → P (.inl none) M1 := by rw [← hP]; exact fun M1 s1 a b => ⟨s1, a, rfl, b⟩
  clear hP
  refine L_ps c185 (n := 1) (pc1 := 3) (ls1 := [v0, v1]) (st1 := [jI 1]) rfl ?_
  rw [if_neg (by decide)] at h
  refine L_ps c185 (n := 1) (pc1 := 6) (ls1 := [v0, v1]) (st1 := []) rfl ?_
  refine E_aldn (c185 6 rfl) rfl hv0 ?_
  show JX 185 7 [v0, v1] [v0] M P
  obtain ⟨i1, e, g⟩ := cR_of h
  clear h
  subst e
  have h := g
  clear g
  refine E_fI (c185 7 rfl) hM (by decide) h (fun z2 h => ?_)
  refine E_aldn (c185 10 rfl) rfl hv1 ?_
  show JX 185 11 [jR i1, v1] [v1, jI z2] M P
  obtain ⟨i3, e, g⟩ := cR_of h
  clear h
  subst e
  have h := g
  clear g
  obtain ⟨ht, h⟩ := h
  refine E_cI (pc1 := 14) (c185 11 rfl) (js_v rfl ((rcv_tag hM ht).trans jt21)) rfl (k_String_coder rfl hM h) (fun r5 M s4 hM h => ?_)
  refine L_br (p1 := 21) (p2 := 17) (c185 14 rfl) rfl jc_eq h (fun h => ?_) (fun h => ?_)
  · exact L_end (c185 21 rfl) rfl (hQ _ _ hM h)
  · refine L_ps c185 (n := 1) (pc1 := 18) (ls1 := [jR i1, jR i3]) (st1 := [jR i1]) rfl ?_
    exact h.elim
theorem k_String_getBytes {v0 : JV} {v1 : JV} {v2 : Int} {v3 : Int} {s : LSt} {M : JM} {Q : LSt → Prop} (hv0 : jnl v0 = true) (hv1 : jnl v1 = true) (hM : R2 s M) (h : d_String_getBytes v0 v1 v2 v3 s Q) : JX 186 0 (jargs 186 [v0, v1, jI v2, jI v3]) [] M (P2 (QN2 Q)) := by
  unfold d_String_getBytes at h
  show JX 186 0 [v0, v1, jI v2, jI v3] [] M (P2 (QN2 Q))
  generalize hP : P2 (QN2 Q) = P
  have hQ : ∀ (M1 : JM) (s1 : LSt), R2 s1 M1 → Q s1 → P (.inl none) M1 := by rw [← hP]; exact fun M1 s1 a b => ⟨s1, a, rfl, b⟩
  clear hP
  refine E_aldn (c186 0 rfl) rfl hv0 ?_
  show JX 186 1 [v0, v1, jI v2, jI v3] [v0] M P
  obtain ⟨i1, e, g⟩ := cR_of h
  clear h
  subst e
  have h := g
  clear g
  obtain ⟨ht, h⟩ := h
  refine E_cI (pc1 := 4) (c186 1 rfl) (js_v rfl ((rcv_tag hM ht).trans jt21)) rfl (k_String_coder rfl hM h) (fun r3 M s2 hM h => ?_)
  refine L_ps c186 (n := 1) (pc1 := 5) (ls1 := [jR i1, v1, jI v2, jI v3]) (st1 := [jI v3, jI r3]) rfl ?_
  refine L_nb (p1 := 28) (p2 := 8) (c186 5 rfl) rfl jc_ne h (fun h => ?_) (fun h => ?_)
  · refine L_ps c186 (n := 1) (pc1 := 9) (ls1 := [jR i1, v1, jI v2, jI v3]) (st1 := [jR i1]) rfl ?_
    refine E_fSv (c186 9 rfl) hM h (fun x4 hx4 h => ?_)
    refine L_ps c186 (n := 1) (pc1 := 13) (ls1 := [jR i1, v1, jI v2, jI v3]) (st1 := [jI 0, x4]) rfl ?_
    refine E_aldn (c186 13 rfl) rfl hv1 ?_
    show JX 186 14 [jR i1, v1, jI v2, jI v3] [v1, jI 0, x4] M P
    refine L_ps c186 (n := 4) (pc1 := 18) (ls1 := [jR i1, v1, jI v2, jI v3]) (st1 := [jR i1, jI (jshl v2 v3), v1, jI 0, x4]) rfl ?_
    refine E_fSv (c186 18 rfl) hM h (fun x5 hx5 h => ?_)
    obtain ⟨i6, e, g⟩ := cR_of h
    clear h
    subst e
    have h := g
    clear g
    refine E_aL (c186 21 rfl) hM h (fun z7 h => ?_)
    obtain ⟨i8, e, g⟩ := cR_of h
    clear h
    subst e
    have h := g
    clear g
    obtain ⟨i9, e, g⟩ := cR_of h
    clear h
    subst e
    have h := g
    clear g
    refine E_aC (c186 22 rfl) hM (by decide) rfl h (fun M s10 hM h => ?_)
    refine L_ps c186 (n := 1) (pc1 := 43) (ls1 := [jR i1, jR i8, jI v2, jI v3]) (st1 := []) rfl ?_
    exact L_end (c186 43 rfl) rfl (hQ _ _ hM h)
  · refine L_ps c186 (n := 1) (pc1 := 29) (ls1 := [jR i1, v1, jI v2, jI v3]) (st1 := [jR i1]) rfl ?_
    refine E_fSv (c186 29 rfl) hM h (fun x11 hx11 h => ?_)
    refine L_ps c186 (n := 1) (pc1 := 33) (ls1 := [jR i1, v1, jI v2, jI v3]) (st1 := [jI 0, x11]) rfl ?_
    refine E_aldn (c186 33 rfl) rfl hv1 ?_
    show JX 186 34 [jR i1, v1, jI v2, jI v3] [v1, jI 0, x11] M P
    refine L_ps c186 (n := 2) (pc1 := 36) (ls1 := [jR i1, v1, jI v2, jI v3]) (st1 := [jR i1, jI v2, v1, jI 0, x11]) rfl ?_
    refine E_fSv (c186 36 rfl) hM h (fun x12 hx12 h => ?_)
    obtain ⟨i13, e, g⟩ := cR_of h
    clear h
    subst e
    have h := g
    clear g
    refine E_aL (c186 39 rfl) hM h (fun z14 h => ?_)
    exact h.elim
theorem k_ASB_putStringAt {v0 : JV} {v1 : Int} {v2 : JV} {s : LSt} {M : JM} {Q : LSt → Prop} (hv0 : jnl v0 = true) (hv2 : jnl v2 = true) (hM : R2 s M) (h : d_ASB_putStringAt v0 v1 v2 s Q) : JX 184 0 (jargs 184 [v0, jI v1, v2]) [] M (P2 (QN2 Q)) := by
  unfold d_ASB_putStringAt at h
  show JX 184 0 [v0, jI v1, v2] [] M (P2 (QN2 Q))
  generalize hP : P2 (QN2 Q) = P
  have hQ : ∀ (M1 : JM) (s1 : LSt), R2 s1 M1 → Q s1 → P (.inl none) M1 := by rw [← hP]; exact fun M1 s1 a b => ⟨s1, a, rfl, b⟩
  clear hP
  refine E_aldn (c184 0 rfl) rfl hv0 ?_
  show JX 184 1 [v0, jI v1, v2] [v0] M P
  refine E_aldn (c184 1 rfl) rfl hv2 ?_
  show JX 184 2 [v0, jI v1, v2] [v2, v0] M P
  obtain ⟨i1, e, g⟩ := cR_of h
  clear h
  subst e
  have h := g
  clear g
  obtain ⟨ht, h⟩ := h
  refine E_cN (pc1 := 5) (c184 2 rfl) (js_v (show vsplit 1 [v2, jR i1] = some (i1, [jR i1, v2], []) from vs_v (A := [v2]) (B := []) rfl (al_c (jnl_c2 hv2) al_n) (Nat.le_of_ble_eq_true rfl)) ((rcv_tag hM ht).trans jt185)) rfl (k_ASB_inflateIfNeededFor rfl hv2 hM h) (fun M s2 hM h => ?_)
  refine E_aldn (c184 5 rfl) rfl hv2 ?_
  show JX 184 6 [jR i1, jI v1, v2] [v2] M P
  refine L_ps c184 (n := 1) (pc1 := 7) (ls1 := [jR i1, jI v1, v2]) (st1 := [jR i1, v2]) rfl ?_
  refine E_fV (c184 7 rfl) hM (by decide) h (fun x4 hx4 h => ?_)
  refine L_ps c184 (n := 2) (pc1 := 12) (ls1 := [jR i1, jI v1, v2]) (st1 := [jR i1, jI v1, x4, v2]) rfl ?_
  refine E_fI (c184 12 rfl) hM (by decide) h (fun z5 h => ?_)
  obtain ⟨i6, e, g⟩ := cR_of h
  clear h
  subst e
  have h := g
  clear g
  obtain ⟨ht, h⟩ := h
  refine E_cN (pc1 := 18) (c184 15 rfl) (js_v (show vsplit 3 [jI z5, jI v1, x4, jR i6] = some (i6, [jR i6, x4, jI v1, jI z5], []) from vs_v (A := [jI z5, jI v1, x4]) (B := []) rfl (al_c rfl (al_c rfl (al_c (jnl_c2 hx4) al_n))) (Nat.le_of_ble_eq_true rfl)) ((rcv_tag hM ht).trans jt186)) rfl (k_String_getBytes rfl hx4 hM h) (fun M s7 hM h => ?_)
  exact L_end (c184 18 rfl) rfl (hQ _ _ hM h)
theorem k_ASB_append {v0 : JV} {v1 : JV} {s : LSt} {M : JM} {Q : JV → LSt → Prop} (hv0 : jnl v0 = true) (hv1 : jnl v1 = true) (hM : R2 s M) (h : d_ASB_append v0 v1 s Q) : JX 179 0 (jargs 179 [v0, v1]) [] M (P2 (QV2 Q)) := by
  unfold d_ASB_append at h
  show JX 179 0 [v0, v1, jU] [] M (P2 (QV2 Q))
  generalize hP : P2 (QV2 Q) = P
  have hQ : ∀ (r : JV) (M1 : JM) (s1 : LSt), R2 s1 M1 → jnl r = true → Q r s1 → P (.inl (some r)) M1 := by rw [← hP]; exact fun r M1 s1 a c b => ⟨s1, a, r, rfl, c, b⟩
  clear hP
  refine E_aldn (c179 0 rfl) rfl hv1 ?_
  show JX 179 1 [v0, v1, jU] [v1] M P
  refine E_ifnn (c179 1 rfl) h (fun e g => ?_) (fun i1 e g => ?_)
  · clear h
    subst e
    have h := g
    clear g
    refine E_aldn (c179 4 rfl) rfl hv0 ?_
    show JX 179 5 [v0, jX .null, jU] [v0] M P
    exact h.elim
  · clear h
    subst e
    have h := g
    clear g
    refine L_ps c179 (n := 1) (pc1 := 10) (ls1 := [v0, jR i1, jU]) (st1 := [jR i1]) rfl ?_
    obtain ⟨ht, h⟩ := h
    refine E_cI (pc1 := 13) (c179 10 rfl) (js_v rfl ((rcv_tag hM ht).trans jt20)) rfl (k_YString_length rfl hM h) (fun r3 M s2 hM h => ?_)
    refine L_ps c179 (n := 1) (pc1 := 14) (ls1 := [v0, jR i1, jI r3]) (st1 := []) rfl ?_
    refine E_aldn (c179 14 rfl) rfl hv0 ?_
    show JX 179 15 [v0, jR i1, jI r3] [v0] M P
    refine E_aldn (c179 15 rfl) rfl hv0 ?_
    show JX 179 16 [v0, jR i1, jI r3] [v0, v0] M P
    obtain ⟨i4, e, g⟩ := cR_of h
    clear h
    subst e
    have h := g
    clear g
    refine E_fI (c179 16 rfl) hM (by decide) h (fun z5 h => ?_)
    refine L_ps c179 (n := 2) (pc1 := 21) (ls1 := [jR i4, jR i1, jI r3]) (st1 := [jI (wr (z5 + r3)), jR i4]) rfl ?_
    obtain ⟨ht, h⟩ := h
    refine E_cN (pc1 := 24) (c179 21 rfl) (js_v rfl ((rcv_tag hM ht).trans jt180)) rfl (k_ASB_ensureCapacityInternal rfl hM h) (fun M s6 hM h => ?_)
    refine L_ps c179 (n := 2) (pc1 := 26) (ls1 := [jR i4, jR i1, jI r3]) (st1 := [jR i4, jR i4]) rfl ?_
    refine E_fI (c179 26 rfl) hM (by decide) h (fun z8 h => ?_)
    refine L_ps c179 (n := 1) (pc1 := 30) (ls1 := [jR i4, jR i1, jI r3]) (st1 := [jR i1, jI z8, jR i4]) rfl ?_
    obtain ⟨ht, h⟩ := h
    refine E_cN (pc1 := 33) (c179 30 rfl) (js_v rfl ((rcv_tag hM ht).trans jt184)) rfl (k_ASB_putStringAt rfl rfl hM h) (fun M s9 hM h => ?_)
    refine L_ps c179 (n := 2) (pc1 := 35) (ls1 := [jR i4, jR i1, jI r3]) (st1 := [jR i4, jR i4]) rfl ?_
    refine E_fI (c179 35 rfl) hM (by decide) h (fun z11 h => ?_)
    refine L_ps c179 (n := 2) (pc1 := 40) (ls1 := [jR i4, jR i1, jI r3]) (st1 := [jI (wr (z11 + r3)), jR i4]) rfl ?_
    refine E_pF (c := 14) (f := 0) (c179 40 rfl) hM (by decide) h (fun M s12 hM h _ => ?_)
    refine L_ps c179 (n := 1) (pc1 := 44) (ls1 := [jR i4, jR i1, jI r3]) (st1 := [jR i4]) rfl ?_
    exact E_retV (c179 44 rfl) rfl (hQ _ _ _ hM rfl h)
