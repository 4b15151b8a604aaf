/-! that the printed tables do what the texts say, 5 -/
theorem k_Sys_inner0 {v0 : JV} {v1 : JV} {s : LSt} {M : JM} {Q : Int → LSt → Prop} (hv0 : jnl v0 = true) (hv1 : jnl v1 = true) (hM : R2 s M) (h : d_Sys_inner 1 v0 v1 s Q) : JX 199 0 (jargs 199 [v0, v1]) [] M (P2 (QI2 Q)) := by
  have h : d_Sys_inner_F (d_Sys_inner 0) v0 v1 s Q := h
  unfold d_Sys_inner_F at h
  show JX 199 0 [v0, v1, jU] [] M (P2 (QI2 Q))
  generalize hP : P2 (QI2 Q) = P
  have hQ : ∀ (r : Int) (M1 : JM) (s1 : LSt), R2 s1 M1 → Q r s1 → P (.inl (some (.inl r))) M1 := by rw [← hP]; exact fun r M1 s1 a b => ⟨s1, a, r, rfl, b⟩
  clear hP
  refine E_aldn (c199 0 rfl) rfl hv1 ?_
  show JX 199 1 [v0, v1, jU] [v1] M P
  refine E_ifnn (c199 1 rfl) h (fun e g => ?_) (fun i1 e g => ?_)
  · clear h
    subst e
    have h := g
    clear g
    refine L_ps c199 (n := 1) (pc1 := 5) (ls1 := [v0, jX .null, jU]) (st1 := [jI (-1)]) rfl ?_
    exact L_retI (c199 5 rfl) (hQ _ _ _ hM h)
  · clear h
    subst e
    have h := g
    clear g
    refine E_aldn (c199 6 rfl) rfl hv0 ?_
    show JX 199 7 [v0, jR i1, jU] [v0] M P
    refine L_ps c199 (n := 1) (pc1 := 8) (ls1 := [v0, jR i1, jU]) (st1 := [jR i1, v0]) rfl ?_
    refine E_fV (c199 8 rfl) hM (by decide) h (fun x2 hx2 h => ?_)
    obtain ⟨i3, e, g⟩ := cR_of h
    clear h
    subst e
    have h := g
    clear g
    obtain ⟨ht, h⟩ := h
    exact False.elim h
theorem k_Sys_inner1 {v0 : JV} {v1 : JV} {s : LSt} {M : JM} {Q : Int → LSt → Prop} (hv0 : jnl v0 = true) (hv1 : jnl v1 = true) (hM : R2 s M) (h : d_Sys_inner 2 v0 v1 s Q) : JX 200 0 (jargs 200 [v0, v1]) [] M (P2 (QI2 Q)) := by
  have h : d_Sys_inner_F (d_Sys_inner 1) v0 v1 s Q := h
  unfold d_Sys_inner_F at h
  show JX 200 0 [v0, v1, jU] [] M (P2 (QI2 Q))
  generalize hP : P2 (QI2 Q) = P
  have hQ : ∀ (r : Int) (M1 : JM) (s1 : LSt), R2 s1 M1 → Q r s1 → P (.inl (some (.inl r))) M1 := by rw [← hP]; exact fun r M1 s1 a b => ⟨s1, a, r, rfl, b⟩
  clear hP
  refine E_aldn (c200 0 rfl) rfl hv1 ?_
  show JX 200 1 [v0, v1, jU] [v1] M P
  refine E_ifnn (c200 1 rfl) h (fun e g => ?_) (fun i1 e g => ?_)
  · clear h
    subst e
    have h := g
    clear g
    refine L_ps c200 (n := 1) (pc1 := 5) (ls1 := [v0, jX .null, jU]) (st1 := [jI (-1)]) rfl ?_
    exact L_retI (c200 5 rfl) (hQ _ _ _ hM h)
  · clear h
    subst e
    have h := g
    clear g
    refine E_aldn (c200 6 rfl) rfl hv0 ?_
    show JX 200 7 [v0, jR i1, jU] [v0] M P
    refine L_ps c200 (n := 1) (pc1 := 8) (ls1 := [v0, jR i1, jU]) (st1 := [jR i1, v0]) rfl ?_
    refine E_fV (c200 8 rfl) hM (by decide) h (fun x2 hx2 h => ?_)
    obtain ⟨i3, e, g⟩ := cR_of h
    clear h
    subst e
    have h := g
    clear g
    obtain ⟨ht, h⟩ := h
    refine E_cI (pc1 := 14) (c200 11 rfl) (js_v (show vsplit 1 [x2, jR i3] = some (i3, [jR i3, x2], []) from vs_v (A := [x2]) (B := []) rfl (al_c (jnl_c2 hx2) al_n) (Nat.le_of_ble_eq_true rfl)) ((rcv_tag hM ht).trans jt199)) rfl (k_Sys_inner0 rfl hx2 hM h) (fun r5 M s4 hM h => ?_)
    refine L_ps c200 (n := 2) (pc1 := 16) (ls1 := [jR i3, jR i1, jI r5]) (st1 := [jI r5]) rfl ?_
    refine L_br (p1 := 23) (p2 := 19) (c200 16 rfl) rfl jc_lt h (fun h => ?_) (fun h => ?_)
    · refine L_ps c200 (n := 2) (pc1 := 25) (ls1 := [jR i3, jR i1, jI r5]) (st1 := [jR i1, jR i3]) rfl ?_
      refine E_fV (c200 25 rfl) hM (by decide) h (fun x6 hx6 h => ?_)
      obtain ⟨ht, h⟩ := h
      refine E_cI (pc1 := 31) (c200 28 rfl) (js_v (show vsplit 1 [x6, jR i3] = some (i3, [jR i3, x6], []) from vs_v (A := [x6]) (B := []) rfl (al_c (jnl_c2 hx6) al_n) (Nat.le_of_ble_eq_true rfl)) ((rcv_tag hM ht).trans jt199)) rfl (k_Sys_inner0 rfl hx6 hM h) (fun r8 M s7 hM h => ?_)
      refine L_ps c200 (n := 2) (pc1 := 33) (ls1 := [jR i3, jR i1, jI r8]) (st1 := [jI r8]) rfl ?_
      refine L_br (p1 := 48) (p2 := 36) (c200 33 rfl) rfl jc_lt h (fun h => ?_) (fun h => ?_)
      · refine L_ps c200 (n := 2) (pc1 := 50) (ls1 := [jR i3, jR i1, jI r8]) (st1 := [jR i1, jR i3]) rfl ?_
        obtain ⟨ht, h⟩ := h
        refine E_cI (pc1 := 53) (c200 50 rfl) (js_v rfl ((rcv_tag hM ht).trans jt212)) rfl (k_Sys_rule rfl rfl hM h) (fun r10 M s9 hM h => ?_)
        refine L_br (p1 := 60) (p2 := 56) (c200 53 rfl) rfl jc_lt h (fun h => ?_) (fun h => ?_)
        · refine L_ps c200 (n := 1) (pc1 := 61) (ls1 := [jR i3, jR i1, jI r8]) (st1 := [jI (-1)]) rfl ?_
          exact L_retI (c200 61 rfl) (hQ _ _ _ hM h)
        · refine L_ps c200 (n := 2) (pc1 := 61) (ls1 := [jR i3, jR i1, jI r8]) (st1 := [jI 0]) rfl ?_
          exact L_retI (c200 61 rfl) (hQ _ _ _ hM h)
      · refine L_ps c200 (n := 2) (pc1 := 38) (ls1 := [jR i3, jR i1, jI r8]) (st1 := [jR i1, jI 1]) rfl ?_
        refine E_fV (c200 38 rfl) hM (by decide) h (fun x11 hx11 h => ?_)
        refine E_cI (pc1 := 44) (c200 41 rfl) (js_t (show ssplit 1 [x11, jI 1] = some ([x11], [jI 1]) from ss_v (A := [x11]) (B := [jI 1]) rfl (al_c (jnl_c2 hx11) al_n) (Nat.le_of_ble_eq_true rfl))) rfl (k_Lw_size7 hx11 hM h) (fun r13 M s12 hM h => ?_)
        refine L_ps c200 (n := 3) (pc1 := 47) (ls1 := [jR i3, jR i1, jI r8]) (st1 := [jI (wr ((wr (1 + r13)) + r8))]) rfl ?_
        exact L_retI (c200 47 rfl) (hQ _ _ _ hM h)
    · refine L_ps c200 (n := 3) (pc1 := 22) (ls1 := [jR i3, jR i1, jI r5]) (st1 := [jI (wr (1 + r5))]) rfl ?_
      exact L_retI (c200 22 rfl) (hQ _ _ _ hM h)
theorem k_Sys_inner2 {v0 : JV} {v1 : JV} {s : LSt} {M : JM} {Q : Int → LSt → Prop} (hv0 : jnl v0 = true) (hv1 : jnl v1 = true) (hM : R2 s M) (h : d_Sys_inner 3 v0 v1 s Q) : JX 201 0 (jargs 201 [v0, v1]) [] M (P2 (QI2 Q)) := by
  have h : d_Sys_inner_F (d_Sys_inner 2) v0 v1 s Q := h
  unfold d_Sys_inner_F at h
  show JX 201 0 [v0, v1, jU] [] M (P2 (QI2 Q))
  generalize hP : P2 (QI2 Q) = P
  have hQ : ∀ (r : Int) (M1 : JM) (s1 : LSt), R2 s1 M1 → Q r s1 → P (.inl (some (.inl r))) M1 := by rw [← hP]; exact fun r M1 s1 a b => ⟨s1, a, r, rfl, b⟩
  clear hP
  refine E_aldn (c201 0 rfl) rfl hv1 ?_
  show JX 201 1 [v0, v1, jU] [v1] M P
  refine E_ifnn (c201 1 rfl) h (fun e g => ?_) (fun i1 e g => ?_)
  · clear h
    subst e
    have h := g
    clear g
    refine L_ps c201 (n := 1) (pc1 := 5) (ls1 := [v0, jX .null, jU]) (st1 := [jI (-1)]) rfl ?_
    exact L_retI (c201 5 rfl) (hQ _ _ _ hM h)
  · clear h
    subst e
    have h := g
    clear g
    refine E_aldn (c201 6 rfl) rfl hv0 ?_
    show JX 201 7 [v0, jR i1, jU] [v0] M P
    refine L_ps c201 (n := 1) (pc1 := 8) (ls1 := [v0, jR i1, jU]) (st1 := [jR i1, v0]) rfl ?_
    refine E_fV (c201 8 rfl) hM (by decide) h (fun x2 hx2 h => ?_)
    obtain ⟨i3, e, g⟩ := cR_of h
    clear h
    subst e
    have h := g
    clear g
    obtain ⟨ht, h⟩ := h
    refine E_cI (pc1 := 14) (c201 11 rfl) (js_v (show vsplit 1 [x2, jR i3] = some (i3, [jR i3, x2], []) from vs_v (A := [x2]) (B := []) rfl (al_c (jnl_c2 hx2) al_n) (Nat.le_of_ble_eq_true rfl)) ((rcv_tag hM ht).trans jt200)) rfl (k_Sys_inner1 rfl hx2 hM h) (fun r5 M s4 hM h => ?_)
    refine L_ps c201 (n := 2) (pc1 := 16) (ls1 := [jR i3, jR i1, jI r5]) (st1 := [jI r5]) rfl ?_
    refine L_br (p1 := 23) (p2 := 19) (c201 16 rfl) rfl jc_lt h (fun h => ?_) (fun h => ?_)
    · refine L_ps c201 (n := 2) (pc1 := 25) (ls1 := [jR i3, jR i1, jI r5]) (st1 := [jR i1, jR i3]) rfl ?_
      refine E_fV (c201 25 rfl) hM (by decide) h (fun x6 hx6 h => ?_)
      obtain ⟨ht, h⟩ := h
      refine E_cI (pc1 := 31) (c201 28 rfl) (js_v (show vsplit 1 [x6, jR i3] = some (i3, [jR i3, x6], []) from vs_v (A := [x6]) (B := []) rfl (al_c (jnl_c2 hx6) al_n) (Nat.le_of_ble_eq_true rfl)) ((rcv_tag hM ht).trans jt200)) rfl (k_Sys_inner1 rfl hx6 hM h) (fun r8 M s7 hM h => ?_)
      refine L_ps c201 (n := 2) (pc1 := 33) (ls1 := [jR i3, jR i1, jI r8]) (st1 := [jI r8]) rfl ?_
      refine L_br (p1 := 48) (p2 := 36) (c201 33 rfl) rfl jc_lt h (fun h => ?_) (fun h => ?_)
      · refine L_ps c201 (n := 2) (pc1 := 50) (ls1 := [jR i3, jR i1, jI r8]) (st1 := [jR i1, jR i3]) rfl ?_
        obtain ⟨ht, h⟩ := h
        refine E_cI (pc1 := 53) (c201 50 rfl) (js_v rfl ((rcv_tag hM ht).trans jt212)) rfl (k_Sys_rule rfl rfl hM h) (fun r10 M s9 hM h => ?_)
        refine L_br (p1 := 60) (p2 := 56) (c201 53 rfl) rfl jc_lt h (fun h => ?_) (fun h => ?_)
        · refine L_ps c201 (n := 1) (pc1 := 61) (ls1 := [jR i3, jR i1, jI r8]) (st1 := [jI (-1)]) rfl ?_
          exact L_retI (c201 61 rfl) (hQ _ _ _ hM h)
        · refine L_ps c201 (n := 2) (pc1 := 61) (ls1 := [jR i3, jR i1, jI r8]) (st1 := [jI 0]) rfl ?_
          exact L_retI (c201 61 rfl) (hQ _ _ _ hM h)
      · refine L_ps c201 (n := 2) (pc1 := 38) (ls1 := [jR i3, jR i1, jI r8]) (st1 := [jR i1, jI 1]) rfl ?_
        refine E_fV (c201 38 rfl) hM (by decide) h (fun x11 hx11 h => ?_)
        refine E_cI (pc1 := 44) (c201 41 rfl) (js_t (show ssplit 1 [x11, jI 1] = some ([x11], [jI 1]) from ss_v (A := [x11]) (B := [jI 1]) rfl (al_c (jnl_c2 hx11) al_n) (Nat.le_of_ble_eq_true rfl))) rfl (k_Lw_size7 hx11 hM h) (fun r13 M s12 hM h => ?_)
        refine L_ps c201 (n := 3) (pc1 := 47) (ls1 := [jR i3, jR i1, jI r8]) (st1 := [jI (wr ((wr (1 + r13)) + r8))]) rfl ?_
        exact L_retI (c201 47 rfl) (hQ _ _ _ hM h)
    · refine L_ps c201 (n := 3) (pc1 := 22) (ls1 := [jR i3, jR i1, jI r5]) (st1 := [jI (wr (1 + r5))]) rfl ?_
      exact L_retI (c201 22 rfl) (hQ _ _ _ hM h)
theorem k_Sys_inner3 {v0 : JV} {v1 : JV} {s : LSt} {M : JM} {Q : Int → LSt → Prop} (hv0 : jnl v0 = true) (hv1 : jnl v1 = true) (hM : R2 s M) (h : d_Sys_inner 4 v0 v1 s Q) : JX 202 0 (jargs 202 [v0, v1]) [] M (P2 (QI2 Q)) := by
  have h : d_Sys_inner_F (d_Sys_inner 3) v0 v1 s Q := h
  unfold d_Sys_inner_F at h
  show JX 202 0 [v0, v1, jU] [] M (P2 (QI2 Q))
  generalize hP : P2 (QI2 Q) = P
  have hQ : ∀ (r : Int) (M1 : JM) (s1 : LSt), R2 s1 M1 → Q r s1 → P (.inl (some (.inl r))) M1 := by rw [← hP]; exact fun r M1 s1 a b => ⟨s1, a, r, rfl, b⟩
  clear hP
  refine E_aldn (c202 0 rfl) rfl hv1 ?_
  show JX 202 1 [v0, v1, jU] [v1] M P
  refine E_ifnn (c202 1 rfl) h (fun e g => ?_) (fun i1 e g => ?_)
  · clear h
    subst e
    have h := g
    clear g
    refine L_ps c202 (n := 1) (pc1 := 5) (ls1 := [v0, jX .null, jU]) (st1 := [jI (-1)]) rfl ?_
    exact L_retI (c202 5 rfl) (hQ _ _ _ hM h)
  · clear h
    subst e
    have h := g
    clear g
    refine E_aldn (c202 6 rfl) rfl hv0 ?_
    show JX 202 7 [v0, jR i1, jU] [v0] M P
    refine L_ps c202 (n := 1) (pc1 := 8) (ls1 := [v0, jR i1, jU]) (st1 := [jR i1, v0]) rfl ?_
    refine E_fV (c202 8 rfl) hM (by decide) h (fun x2 hx2 h => ?_)
    obtain ⟨i3, e, g⟩ := cR_of h
    clear h
    subst e
    have h := g
    clear g
    obtain ⟨ht, h⟩ := h
    refine E_cI (pc1 := 14) (c202 11 rfl) (js_v (show vsplit 1 [x2, jR i3] = some (i3, [jR i3, x2], []) from vs_v (A := [x2]) (B := []) rfl (al_c (jnl_c2 hx2) al_n) (Nat.le_of_ble_eq_true rfl)) ((rcv_tag hM ht).trans jt201)) rfl (k_Sys_inner2 rfl hx2 hM h) (fun r5 M s4 hM h => ?_)
    refine L_ps c202 (n := 2) (pc1 := 16) (ls1 := [jR i3, jR i1, jI r5]) (st1 := [jI r5]) rfl ?_
    refine L_br (p1 := 23) (p2 := 19) (c202 16 rfl) rfl jc_lt h (fun h => ?_) (fun h => ?_)
    · refine L_ps c202 (n := 2) (pc1 := 25) (ls1 := [jR i3, jR i1, jI r5]) (st1 := [jR i1, jR i3]) rfl ?_
      refine E_fV (c202 25 rfl) hM (by decide) h (fun x6 hx6 h => ?_)
      obtain ⟨ht, h⟩ := h
      refine E_cI (pc1 := 31) (c202 28 rfl) (js_v (show vsplit 1 [x6, jR i3] = some (i3, [jR i3, x6], []) from vs_v (A := [x6]) (B := []) rfl (al_c (jnl_c2 hx6) al_n) (Nat.le_of_ble_eq_true rfl)) ((rcv_tag hM ht).trans jt201)) rfl (k_Sys_inner2 rfl hx6 hM h) (fun r8 M s7 hM h => ?_)
      refine L_ps c202 (n := 2) (pc1 := 33) (ls1 := [jR i3, jR i1, jI r8]) (st1 := [jI r8]) rfl ?_
      refine L_br (p1 := 48) (p2 := 36) (c202 33 rfl) rfl jc_lt h (fun h => ?_) (fun h => ?_)
      · refine L_ps c202 (n := 2) (pc1 := 50) (ls1 := [jR i3, jR i1, jI r8]) (st1 := [jR i1, jR i3]) rfl ?_
        obtain ⟨ht, h⟩ := h
        refine E_cI (pc1 := 53) (c202 50 rfl) (js_v rfl ((rcv_tag hM ht).trans jt212)) rfl (k_Sys_rule rfl rfl hM h) (fun r10 M s9 hM h => ?_)
        refine L_br (p1 := 60) (p2 := 56) (c202 53 rfl) rfl jc_lt h (fun h => ?_) (fun h => ?_)
        · refine L_ps c202 (n := 1) (pc1 := 61) (ls1 := [jR i3, jR i1, jI r8]) (st1 := [jI (-1)]) rfl ?_
          exact L_retI (c202 61 rfl) (hQ _ _ _ hM h)
        · refine L_ps c202 (n := 2) (pc1 := 61) (ls1 := [jR i3, jR i1, jI r8]) (st1 := [jI 0]) rfl ?_
          exact L_retI (c202 61 rfl) (hQ _ _ _ hM h)
      · refine L_ps c202 (n := 2) (pc1 := 38) (ls1 := [jR i3, jR i1, jI r8]) (st1 := [jR i1, jI 1]) rfl ?_
        refine E_fV (c202 38 rfl) hM (by decide) h (fun x11 hx11 h => ?_)
        refine E_cI (pc1 := 44) (c202 41 rfl) (js_t (show ssplit 1 [x11, jI 1] = some ([x11], [jI 1]) from ss_v (A := [x11]) (B := [jI 1]) rfl (al_c (jnl_c2 hx11) al_n) (Nat.le_of_ble_eq_true rfl))) rfl (k_Lw_size7 hx11 hM h) (fun r13 M s12 hM h => ?_)
        refine L_ps c202 (n := 3) (pc1 := 47) (ls1 := [jR i3, jR i1, jI r8]) (st1 := [jI (wr ((wr (1 + r13)) + r8))]) rfl ?_
        exact L_retI (c202 47 rfl) (hQ _ _ _ hM h)
    · refine L_ps c202 (n := 3) (pc1 := 22) (ls1 := [jR i3, jR i1, jI r5]) (st1 := [jI (wr (1 + r5))]) rfl ?_
      exact L_retI (c202 22 rfl) (hQ _ _ _ hM h)
theorem k_Sys_inner4 {v0 : JV} {v1 : JV} {s : LSt} {M : JM} {Q : Int → LSt → Prop} (hv0 : jnl v0 = true) (hv1 : jnl v1 = true) (hM : R2 s M) (h : d_Sys_inner 5 v0 v1 s Q) : JX 203 0 (jargs 203 [v0, v1]) [] M (P2 (QI2 Q)) := by
  have h : d_Sys_inner_F (d_Sys_inner 4) v0 v1 s Q := h
  unfold d_Sys_inner_F at h
  show JX 203 0 [v0, v1, jU] [] M (P2 (QI2 Q))
  generalize hP : P2 (QI2 Q) = P
  have hQ : ∀ (r : Int) (M1 : JM) (s1 : LSt), R2 s1 M1 → Q r s1 → P (.inl (some (.inl r))) M1 := by rw [← hP]; exact fun r M1 s1 a b => ⟨s1, a, r, rfl, b⟩
  clear hP
  refine E_aldn (c203 0 rfl) rfl hv1 ?_
  show JX 203 1 [v0, v1, jU] [v1] M P
  refine E_ifnn (c203 1 rfl) h (fun e g => ?_) (fun i1 e g => ?_)
  · clear h
    subst e
    have h := g
    clear g
    refine L_ps c203 (n := 1) (pc1 := 5) (ls1 := [v0, jX .null, jU]) (st1 := [jI (-1)]) rfl ?_
    exact L_retI (c203 5 rfl) (hQ _ _ _ hM h)
  · clear h
    subst e
    have h := g
    clear g
    refine E_aldn (c203 6 rfl) rfl hv0 ?_
    show JX 203 7 [v0, jR i1, jU] [v0] M P
    refine L_ps c203 (n := 1) (pc1 := 8) (ls1 := [v0, jR i1, jU]) (st1 := [jR i1, v0]) rfl ?_
    refine E_fV (c203 8 rfl) hM (by decide) h (fun x2 hx2 h => ?_)
    obtain ⟨i3, e, g⟩ := cR_of h
    clear h
    subst e
    have h := g
    clear g
    obtain ⟨ht, h⟩ := h
    refine E_cI (pc1 := 14) (c203 11 rfl) (js_v (show vsplit 1 [x2, jR i3] = some (i3, [jR i3, x2], []) from vs_v (A := [x2]) (B := []) rfl (al_c (jnl_c2 hx2) al_n) (Nat.le_of_ble_eq_true rfl)) ((rcv_tag hM ht).trans jt202)) rfl (k_Sys_inner3 rfl hx2 hM h) (fun r5 M s4 hM h => ?_)
    refine L_ps c203 (n := 2) (pc1 := 16) (ls1 := [jR i3, jR i1, jI r5]) (st1 := [jI r5]) rfl ?_
    refine L_br (p1 := 23) (p2 := 19) (c203 16 rfl) rfl jc_lt h (fun h => ?_) (fun h => ?_)
    · refine L_ps c203 (n := 2) (pc1 := 25) (ls1 := [jR i3, jR i1, jI r5]) (st1 := [jR i1, jR i3]) rfl ?_
      refine E_fV (c203 25 rfl) hM (by decide) h (fun x6 hx6 h => ?_)
      obtain ⟨ht, h⟩ := h
      refine E_cI (pc1 := 31) (c203 28 rfl) (js_v (show vsplit 1 [x6, jR i3] = some (i3, [jR i3, x6], []) from vs_v (A := [x6]) (B := []) rfl (al_c (jnl_c2 hx6) al_n) (Nat.le_of_ble_eq_true rfl)) ((rcv_tag hM ht).trans jt202)) rfl (k_Sys_inner3 rfl hx6 hM h) (fun r8 M s7 hM h => ?_)
      refine L_ps c203 (n := 2) (pc1 := 33) (ls1 := [jR i3, jR i1, jI r8]) (st1 := [jI r8]) rfl ?_
      refine L_br (p1 := 48) (p2 := 36) (c203 33 rfl) rfl jc_lt h (fun h => ?_) (fun h => ?_)
      · refine L_ps c203 (n := 2) (pc1 := 50) (ls1 := [jR i3, jR i1, jI r8]) (st1 := [jR i1, jR i3]) rfl ?_
        obtain ⟨ht, h⟩ := h
        refine E_cI (pc1 := 53) (c203 50 rfl) (js_v rfl ((rcv_tag hM ht).trans jt212)) rfl (k_Sys_rule rfl rfl hM h) (fun r10 M s9 hM h => ?_)
        refine L_br (p1 := 60) (p2 := 56) (c203 53 rfl) rfl jc_lt h (fun h => ?_) (fun h => ?_)
        · refine L_ps c203 (n := 1) (pc1 := 61) (ls1 := [jR i3, jR i1, jI r8]) (st1 := [jI (-1)]) rfl ?_
          exact L_retI (c203 61 rfl) (hQ _ _ _ hM h)
        · refine L_ps c203 (n := 2) (pc1 := 61) (ls1 := [jR i3, jR i1, jI r8]) (st1 := [jI 0]) rfl ?_
          exact L_retI (c203 61 rfl) (hQ _ _ _ hM h)
      · refine L_ps c203 (n := 2) (pc1 := 38) (ls1 := [jR i3, jR i1, jI r8]) (st1 := [jR i1, jI 1]) rfl ?_
        refine E_fV (c203 38 rfl) hM (by decide) h (fun x11 hx11 h => ?_)
        refine E_cI (pc1 := 44) (c203 41 rfl) (js_t (show ssplit 1 [x11, jI 1] = some ([x11], [jI 1]) from ss_v (A := [x11]) (B := [jI 1]) rfl (al_c (jnl_c2 hx11) al_n) (Nat.le_of_ble_eq_true rfl))) rfl (k_Lw_size7 hx11 hM h) (fun r13 M s12 hM h => ?_)
        refine L_ps c203 (n := 3) (pc1 := 47) (ls1 := [jR i3, jR i1, jI r8]) (st1 := [jI (wr ((wr (1 + r13)) + r8))]) rfl ?_
        exact L_retI (c203 47 rfl) (hQ _ _ _ hM h)
    · refine L_ps c203 (n := 3) (pc1 := 22) (ls1 := [jR i3, jR i1, jI r5]) (st1 := [jI (wr (1 + r5))]) rfl ?_
      exact L_retI (c203 22 rfl) (hQ _ _ _ hM h)
theorem k_Lw_at0 {v0 : JV} {v1 : Int} {s : LSt} {M : JM} {Q : JV → LSt → Prop} (hv0 : jnl v0 = true) (hM : R2 s M) (h : d_Lw_at 1 v0 v1 s Q) : JX 226 0 (jargs 226 [v0, jI v1]) [] M (P2 (QV2 Q)) := by
  have h : d_Lw_at_F (d_Lw_at 0) v0 v1 s Q := h
  unfold d_Lw_at_F at h
  show JX 226 0 [v0, jI v1, jU] [] M (P2 (QV2 Q))
  generalize hP : P2 (QV2 Q) = P
  have hQ : ∀ (r : JV) (M1 : JM) (s1 : LSt), R2 s1 M1 → jnl r = true → Q r s1 → P (.inl (some r)) M1 := by rw [← hP]; exact fun r M1 s1 a c b => ⟨s1, a, r, rfl, c, b⟩
  clear hP
  refine L_ps c226 (n := 1) (pc1 := 1) (ls1 := [v0, jI v1, jU]) (st1 := [jI v1]) rfl ?_
  refine L_nb (p1 := 6) (p2 := 4) (c226 1 rfl) rfl jc_ne h (fun h => ?_) (fun h => ?_)
  · refine E_aldn (c226 4 rfl) rfl hv0 ?_
    show JX 226 5 [v0, jI v1, jU] [v0] M P
    exact E_retV (c226 5 rfl) hv0 (hQ _ _ _ hM hv0 h)
  · refine E_aldn (c226 6 rfl) rfl hv0 ?_
    show JX 226 7 [v0, jI v1, jU] [v0] M P
    obtain ⟨i1, e, g⟩ := cR_of h
    clear h
    subst e
    have h := g
    clear g
    refine E_fV (c226 7 rfl) hM (by decide) h (fun x2 hx2 h => ?_)
    refine E_cI (pc1 := 13) (c226 10 rfl) (js_t (show ssplit 1 [x2] = some ([x2], []) from ss_v (A := [x2]) (B := []) rfl (al_c (jnl_c2 hx2) al_n) (Nat.le_of_ble_eq_true rfl))) rfl (k_Lw_size7 hx2 hM h) (fun r4 M s3 hM h => ?_)
    refine L_ps c226 (n := 3) (pc1 := 16) (ls1 := [jR i1, jI v1, jI r4]) (st1 := [jI r4, jI v1]) rfl ?_
    refine L_br (p1 := 32) (p2 := 19) (c226 16 rfl) rfl jc_gt h (fun h => ?_) (fun h => ?_)
    · refine L_ps c226 (n := 1) (pc1 := 33) (ls1 := [jR i1, jI v1, jI r4]) (st1 := [jR i1]) rfl ?_
      refine E_fV (c226 33 rfl) hM (by decide) h (fun x5 hx5 h => ?_)
      refine L_ps c226 (n := 5) (pc1 := 41) (ls1 := [jR i1, jI v1, jI r4]) (st1 := [jI (wr ((wr (v1 - 1)) - r4)), x5]) rfl ?_
      exact False.elim h
    · refine L_ps c226 (n := 1) (pc1 := 20) (ls1 := [jR i1, jI v1, jI r4]) (st1 := [jR i1]) rfl ?_
      refine E_fV (c226 20 rfl) hM (by decide) h (fun x8 hx8 h => ?_)
      refine L_ps c226 (n := 3) (pc1 := 26) (ls1 := [jR i1, jI v1, jI r4]) (st1 := [jI (wr (v1 - 1)), x8]) rfl ?_
      exact False.elim h
theorem k_Lw_at1 {v0 : JV} {v1 : Int} {s : LSt} {M : JM} {Q : JV → LSt → Prop} (hv0 : jnl v0 = true) (hM : R2 s M) (h : d_Lw_at 2 v0 v1 s Q) : JX 227 0 (jargs 227 [v0, jI v1]) [] M (P2 (QV2 Q)) := by
  have h : d_Lw_at_F (d_Lw_at 1) v0 v1 s Q := h
  unfold d_Lw_at_F at h
  show JX 227 0 [v0, jI v1, jU] [] M (P2 (QV2 Q))
  generalize hP : P2 (QV2 Q) = P
  have hQ : ∀ (r : JV) (M1 : JM) (s1 : LSt), R2 s1 M1 → jnl r = true → Q r s1 → P (.inl (some r)) M1 := by rw [← hP]; exact fun r M1 s1 a c b => ⟨s1, a, r, rfl, c, b⟩
  clear hP
  refine L_ps c227 (n := 1) (pc1 := 1) (ls1 := [v0, jI v1, jU]) (st1 := [jI v1]) rfl ?_
  refine L_nb (p1 := 6) (p2 := 4) (c227 1 rfl) rfl jc_ne h (fun h => ?_) (fun h => ?_)
  · refine E_aldn (c227 4 rfl) rfl hv0 ?_
    show JX 227 5 [v0, jI v1, jU] [v0] M P
    exact E_retV (c227 5 rfl) hv0 (hQ _ _ _ hM hv0 h)
  · refine E_aldn (c227 6 rfl) rfl hv0 ?_
    show JX 227 7 [v0, jI v1, jU] [v0] M P
    obtain ⟨i1, e, g⟩ := cR_of h
    clear h
    subst e
    have h := g
    clear g
    refine E_fV (c227 7 rfl) hM (by decide) h (fun x2 hx2 h => ?_)
    refine E_cI (pc1 := 13) (c227 10 rfl) (js_t (show ssplit 1 [x2] = some ([x2], []) from ss_v (A := [x2]) (B := []) rfl (al_c (jnl_c2 hx2) al_n) (Nat.le_of_ble_eq_true rfl))) rfl (k_Lw_size7 hx2 hM h) (fun r4 M s3 hM h => ?_)
    refine L_ps c227 (n := 3) (pc1 := 16) (ls1 := [jR i1, jI v1, jI r4]) (st1 := [jI r4, jI v1]) rfl ?_
    refine L_br (p1 := 32) (p2 := 19) (c227 16 rfl) rfl jc_gt h (fun h => ?_) (fun h => ?_)
    · refine L_ps c227 (n := 1) (pc1 := 33) (ls1 := [jR i1, jI v1, jI r4]) (st1 := [jR i1]) rfl ?_
      refine E_fV (c227 33 rfl) hM (by decide) h (fun x5 hx5 h => ?_)
      refine L_ps c227 (n := 5) (pc1 := 41) (ls1 := [jR i1, jI v1, jI r4]) (st1 := [jI (wr ((wr (v1 - 1)) - r4)), x5]) rfl ?_
      refine E_cV (pc1 := 44) (c227 41 rfl) (js_t (show ssplit 2 [jI (wr ((wr (v1 - 1)) - r4)), x5] = some ([x5, jI (wr ((wr (v1 - 1)) - r4))], []) from ss_v (A := [jI (wr ((wr (v1 - 1)) - r4)), x5]) (B := []) rfl (al_c rfl (al_c (jnl_c2 hx5) al_n)) (Nat.le_of_ble_eq_true rfl))) rfl (k_Lw_at0 hx5 hM h) (fun x7 M s6 hM hx7 h => ?_)
      exact E_retV (c227 44 rfl) hx7 (hQ _ _ _ hM hx7 h)
    · refine L_ps c227 (n := 1) (pc1 := 20) (ls1 := [jR i1, jI v1, jI r4]) (st1 := [jR i1]) rfl ?_
      refine E_fV (c227 20 rfl) hM (by decide) h (fun x8 hx8 h => ?_)
      refine L_ps c227 (n := 3) (pc1 := 26) (ls1 := [jR i1, jI v1, jI r4]) (st1 := [jI (wr (v1 - 1)), x8]) rfl ?_
      refine E_cV (pc1 := 29) (c227 26 rfl) (js_t (show ssplit 2 [jI (wr (v1 - 1)), x8] = some ([x8, jI (wr (v1 - 1))], []) from ss_v (A := [jI (wr (v1 - 1)), x8]) (B := []) rfl (al_c rfl (al_c (jnl_c2 hx8) al_n)) (Nat.le_of_ble_eq_true rfl))) rfl (k_Lw_at0 hx8 hM h) (fun x10 M s9 hM hx10 h => ?_)
      refine L_ps c227 (n := 1) (pc1 := 44) (ls1 := [jR i1, jI v1, jI r4]) (st1 := [x10]) rfl ?_
      exact E_retV (c227 44 rfl) hx10 (hQ _ _ _ hM hx10 h)
theorem k_Lw_at2 {v0 : JV} {v1 : Int} {s : LSt} {M : JM} {Q : JV → LSt → Prop} (hv0 : jnl v0 = true) (hM : R2 s M) (h : d_Lw_at 3 v0 v1 s Q) : JX 228 0 (jargs 228 [v0, jI v1]) [] M (P2 (QV2 Q)) := by
  have h : d_Lw_at_F (d_Lw_at 2) v0 v1 s Q := h
  unfold d_Lw_at_F at h
  show JX 228 0 [v0, jI v1, jU] [] M (P2 (QV2 Q))
  generalize hP : P2 (QV2 Q) = P
  have hQ : ∀ (r : JV) (M1 : JM) (s1 : LSt), R2 s1 M1 → jnl r = true → Q r s1 → P (.inl (some r)) M1 := by rw [← hP]; exact fun r M1 s1 a c b => ⟨s1, a, r, rfl, c, b⟩
  clear hP
  refine L_ps c228 (n := 1) (pc1 := 1) (ls1 := [v0, jI v1, jU]) (st1 := [jI v1]) rfl ?_
  refine L_nb (p1 := 6) (p2 := 4) (c228 1 rfl) rfl jc_ne h (fun h => ?_) (fun h => ?_)
  · refine E_aldn (c228 4 rfl) rfl hv0 ?_
    show JX 228 5 [v0, jI v1, jU] [v0] M P
    exact E_retV (c228 5 rfl) hv0 (hQ _ _ _ hM hv0 h)
  · refine E_aldn (c228 6 rfl) rfl hv0 ?_
    show JX 228 7 [v0, jI v1, jU] [v0] M P
    obtain ⟨i1, e, g⟩ := cR_of h
    clear h
    subst e
    have h := g
    clear g
    refine E_fV (c228 7 rfl) hM (by decide) h (fun x2 hx2 h => ?_)
    refine E_cI (pc1 := 13) (c228 10 rfl) (js_t (show ssplit 1 [x2] = some ([x2], []) from ss_v (A := [x2]) (B := []) rfl (al_c (jnl_c2 hx2) al_n) (Nat.le_of_ble_eq_true rfl))) rfl (k_Lw_size7 hx2 hM h) (fun r4 M s3 hM h => ?_)
    refine L_ps c228 (n := 3) (pc1 := 16) (ls1 := [jR i1, jI v1, jI r4]) (st1 := [jI r4, jI v1]) rfl ?_
    refine L_br (p1 := 32) (p2 := 19) (c228 16 rfl) rfl jc_gt h (fun h => ?_) (fun h => ?_)
    · refine L_ps c228 (n := 1) (pc1 := 33) (ls1 := [jR i1, jI v1, jI r4]) (st1 := [jR i1]) rfl ?_
      refine E_fV (c228 33 rfl) hM (by decide) h (fun x5 hx5 h => ?_)
      refine L_ps c228 (n := 5) (pc1 := 41) (ls1 := [jR i1, jI v1, jI r4]) (st1 := [jI (wr ((wr (v1 - 1)) - r4)), x5]) rfl ?_
      refine E_cV (pc1 := 44) (c228 41 rfl) (js_t (show ssplit 2 [jI (wr ((wr (v1 - 1)) - r4)), x5] = some ([x5, jI (wr ((wr (v1 - 1)) - r4))], []) from ss_v (A := [jI (wr ((wr (v1 - 1)) - r4)), x5]) (B := []) rfl (al_c rfl (al_c (jnl_c2 hx5) al_n)) (Nat.le_of_ble_eq_true rfl))) rfl (k_Lw_at1 hx5 hM h) (fun x7 M s6 hM hx7 h => ?_)
      exact E_retV (c228 44 rfl) hx7 (hQ _ _ _ hM hx7 h)
    · refine L_ps c228 (n := 1) (pc1 := 20) (ls1 := [jR i1, jI v1, jI r4]) (st1 := [jR i1]) rfl ?_
      refine E_fV (c228 20 rfl) hM (by decide) h (fun x8 hx8 h => ?_)
      refine L_ps c228 (n := 3) (pc1 := 26) (ls1 := [jR i1, jI v1, jI r4]) (st1 := [jI (wr (v1 - 1)), x8]) rfl ?_
      refine E_cV (pc1 := 29) (c228 26 rfl) (js_t (show ssplit 2 [jI (wr (v1 - 1)), x8] = some ([x8, jI (wr (v1 - 1))], []) from ss_v (A := [jI (wr (v1 - 1)), x8]) (B := []) rfl (al_c rfl (al_c (jnl_c2 hx8) al_n)) (Nat.le_of_ble_eq_true rfl))) rfl (k_Lw_at1 hx8 hM h) (fun x10 M s9 hM hx10 h => ?_)
      refine L_ps c228 (n := 1) (pc1 := 44) (ls1 := [jR i1, jI v1, jI r4]) (st1 := [x10]) rfl ?_
      exact E_retV (c228 44 rfl) hx10 (hQ _ _ _ hM hx10 h)
theorem k_Lw_at3 {v0 : JV} {v1 : Int} {s : LSt} {M : JM} {Q : JV → LSt → Prop} (hv0 : jnl v0 = true) (hM : R2 s M) (h : d_Lw_at 4 v0 v1 s Q) : JX 229 0 (jargs 229 [v0, jI v1]) [] M (P2 (QV2 Q)) := by
  have h : d_Lw_at_F (d_Lw_at 3) v0 v1 s Q := h
  unfold d_Lw_at_F at h
  show JX 229 0 [v0, jI v1, jU] [] M (P2 (QV2 Q))
  generalize hP : P2 (QV2 Q) = P
  have hQ : ∀ (r : JV) (M1 : JM) (s1 : LSt), R2 s1 M1 → jnl r = true → Q r s1 → P (.inl (some r)) M1 := by rw [← hP]; exact fun r M1 s1 a c b => ⟨s1, a, r, rfl, c, b⟩
  clear hP
  refine L_ps c229 (n := 1) (pc1 := 1) (ls1 := [v0, jI v1, jU]) (st1 := [jI v1]) rfl ?_
  refine L_nb (p1 := 6) (p2 := 4) (c229 1 rfl) rfl jc_ne h (fun h => ?_) (fun h => ?_)
  · refine E_aldn (c229 4 rfl) rfl hv0 ?_
    show JX 229 5 [v0, jI v1, jU] [v0] M P
    exact E_retV (c229 5 rfl) hv0 (hQ _ _ _ hM hv0 h)
  · refine E_aldn (c229 6 rfl) rfl hv0 ?_
    show JX 229 7 [v0, jI v1, jU] [v0] M P
    obtain ⟨i1, e, g⟩ := cR_of h
    clear h
    subst e
    have h := g
    clear g
    refine E_fV (c229 7 rfl) hM (by decide) h (fun x2 hx2 h => ?_)
    refine E_cI (pc1 := 13) (c229 10 rfl) (js_t (show ssplit 1 [x2] = some ([x2], []) from ss_v (A := [x2]) (B := []) rfl (al_c (jnl_c2 hx2) al_n) (Nat.le_of_ble_eq_true rfl))) rfl (k_Lw_size7 hx2 hM h) (fun r4 M s3 hM h => ?_)
    refine L_ps c229 (n := 3) (pc1 := 16) (ls1 := [jR i1, jI v1, jI r4]) (st1 := [jI r4, jI v1]) rfl ?_
    refine L_br (p1 := 32) (p2 := 19) (c229 16 rfl) rfl jc_gt h (fun h => ?_) (fun h => ?_)
    · refine L_ps c229 (n := 1) (pc1 := 33) (ls1 := [jR i1, jI v1, jI r4]) (st1 := [jR i1]) rfl ?_
      refine E_fV (c229 33 rfl) hM (by decide) h (fun x5 hx5 h => ?_)
      refine L_ps c229 (n := 5) (pc1 := 41) (ls1 := [jR i1, jI v1, jI r4]) (st1 := [jI (wr ((wr (v1 - 1)) - r4)), x5]) rfl ?_
      refine E_cV (pc1 := 44) (c229 41 rfl) (js_t (show ssplit 2 [jI (wr ((wr (v1 - 1)) - r4)), x5] = some ([x5, jI (wr ((wr (v1 - 1)) - r4))], []) from ss_v (A := [jI (wr ((wr (v1 - 1)) - r4)), x5]) (B := []) rfl (al_c rfl (al_c (jnl_c2 hx5) al_n)) (Nat.le_of_ble_eq_true rfl))) rfl (k_Lw_at2 hx5 hM h) (fun x7 M s6 hM hx7 h => ?_)
      exact E_retV (c229 44 rfl) hx7 (hQ _ _ _ hM hx7 h)
    · refine L_ps c229 (n := 1) (pc1 := 20) (ls1 := [jR i1, jI v1, jI r4]) (st1 := [jR i1]) rfl ?_
      refine E_fV (c229 20 rfl) hM (by decide) h (fun x8 hx8 h => ?_)
      refine L_ps c229 (n := 3) (pc1 := 26) (ls1 := [jR i1, jI v1, jI r4]) (st1 := [jI (wr (v1 - 1)), x8]) rfl ?_
      refine E_cV (pc1 := 29) (c229 26 rfl) (js_t (show ssplit 2 [jI (wr (v1 - 1)), x8] = some ([x8, jI (wr (v1 - 1))], []) from ss_v (A := [jI (wr (v1 - 1)), x8]) (B := []) rfl (al_c rfl (al_c (jnl_c2 hx8) al_n)) (Nat.le_of_ble_eq_true rfl))) rfl (k_Lw_at2 hx8 hM h) (fun x10 M s9 hM hx10 h => ?_)
      refine L_ps c229 (n := 1) (pc1 := 44) (ls1 := [jR i1, jI v1, jI r4]) (st1 := [x10]) rfl ?_
      exact E_retV (c229 44 rfl) hx10 (hQ _ _ _ hM hx10 h)
theorem k_Lw_at4 {v0 : JV} {v1 : Int} {s : LSt} {M : JM} {Q : JV → LSt → Prop} (hv0 : jnl v0 = true) (hM : R2 s M) (h : d_Lw_at 5 v0 v1 s Q) : JX 230 0 (jargs 230 [v0, jI v1]) [] M (P2 (QV2 Q)) := by
  have h : d_Lw_at_F (d_Lw_at 4) v0 v1 s Q := h
  unfold d_Lw_at_F at h
  show JX 230 0 [v0, jI v1, jU] [] M (P2 (QV2 Q))
  generalize hP : P2 (QV2 Q) = P
  have hQ : ∀ (r : JV) (M1 : JM) (s1 : LSt), R2 s1 M1 → jnl r = true → Q r s1 → P (.inl (some r)) M1 := by rw [← hP]; exact fun r M1 s1 a c b => ⟨s1, a, r, rfl, c, b⟩
  clear hP
  refine L_ps c230 (n := 1) (pc1 := 1) (ls1 := [v0, jI v1, jU]) (st1 := [jI v1]) rfl ?_
  refine L_nb (p1 := 6) (p2 := 4) (c230 1 rfl) rfl jc_ne h (fun h => ?_) (fun h => ?_)
  · refine E_aldn (c230 4 rfl) rfl hv0 ?_
    show JX 230 5 [v0, jI v1, jU] [v0] M P
    exact E_retV (c230 5 rfl) hv0 (hQ _ _ _ hM hv0 h)
  · refine E_aldn (c230 6 rfl) rfl hv0 ?_
    show JX 230 7 [v0, jI v1, jU] [v0] M P
    obtain ⟨i1, e, g⟩ := cR_of h
    clear h
    subst e
    have h := g
    clear g
    refine E_fV (c230 7 rfl) hM (by decide) h (fun x2 hx2 h => ?_)
    refine E_cI (pc1 := 13) (c230 10 rfl) (js_t (show ssplit 1 [x2] = some ([x2], []) from ss_v (A := [x2]) (B := []) rfl (al_c (jnl_c2 hx2) al_n) (Nat.le_of_ble_eq_true rfl))) rfl (k_Lw_size7 hx2 hM h) (fun r4 M s3 hM h => ?_)
    refine L_ps c230 (n := 3) (pc1 := 16) (ls1 := [jR i1, jI v1, jI r4]) (st1 := [jI r4, jI v1]) rfl ?_
    refine L_br (p1 := 32) (p2 := 19) (c230 16 rfl) rfl jc_gt h (fun h => ?_) (fun h => ?_)
    · refine L_ps c230 (n := 1) (pc1 := 33) (ls1 := [jR i1, jI v1, jI r4]) (st1 := [jR i1]) rfl ?_
      refine E_fV (c230 33 rfl) hM (by decide) h (fun x5 hx5 h => ?_)
      refine L_ps c230 (n := 5) (pc1 := 41) (ls1 := [jR i1, jI v1, jI r4]) (st1 := [jI (wr ((wr (v1 - 1)) - r4)), x5]) rfl ?_
      refine E_cV (pc1 := 44) (c230 41 rfl) (js_t (show ssplit 2 [jI (wr ((wr (v1 - 1)) - r4)), x5] = some ([x5, jI (wr ((wr (v1 - 1)) - r4))], []) from ss_v (A := [jI (wr ((wr (v1 - 1)) - r4)), x5]) (B := []) rfl (al_c rfl (al_c (jnl_c2 hx5) al_n)) (Nat.le_of_ble_eq_true rfl))) rfl (k_Lw_at3 hx5 hM h) (fun x7 M s6 hM hx7 h => ?_)
      exact E_retV (c230 44 rfl) hx7 (hQ _ _ _ hM hx7 h)
    · refine L_ps c230 (n := 1) (pc1 := 20) (ls1 := [jR i1, jI v1, jI r4]) (st1 := [jR i1]) rfl ?_
      refine E_fV (c230 20 rfl) hM (by decide) h (fun x8 hx8 h => ?_)
      refine L_ps c230 (n := 3) (pc1 := 26) (ls1 := [jR i1, jI v1, jI r4]) (st1 := [jI (wr (v1 - 1)), x8]) rfl ?_
      refine E_cV (pc1 := 29) (c230 26 rfl) (js_t (show ssplit 2 [jI (wr (v1 - 1)), x8] = some ([x8, jI (wr (v1 - 1))], []) from ss_v (A := [jI (wr (v1 - 1)), x8]) (B := []) rfl (al_c rfl (al_c (jnl_c2 hx8) al_n)) (Nat.le_of_ble_eq_true rfl))) rfl (k_Lw_at3 hx8 hM h) (fun x10 M s9 hM hx10 h => ?_)
      refine L_ps c230 (n := 1) (pc1 := 44) (ls1 := [jR i1, jI v1, jI r4]) (st1 := [x10]) rfl ?_
      exact E_retV (c230 44 rfl) hx10 (hQ _ _ _ hM hx10 h)
theorem k_Lw_fill0 {v0 : JV} {v1 : JV} {s : LSt} {M : JM} {Q : JV → LSt → Prop} (hv0 : jnl v0 = true) (hv1 : jnl v1 = true) (hM : R2 s M) (h : d_Lw_fill 1 v0 v1 s Q) : JX 232 0 (jargs 232 [v0, v1]) [] M (P2 (QV2 Q)) := by
  have h : d_Lw_fill_F (d_Lw_fill 0) v0 v1 s Q := h
  unfold d_Lw_fill_F at h
  show JX 232 0 [v0, v1] [] M (P2 (QV2 Q))
  generalize hP : P2 (QV2 Q) = P
  have hQ : ∀ (r : JV) (M1 : JM) (s1 : LSt), R2 s1 M1 → jnl r = true → Q r s1 → P (.inl (some r)) M1 := by rw [← hP]; exact fun r M1 s1 a c b => ⟨s1, a, r, rfl, c, b⟩
  clear hP
  refine E_aldn (c232 0 rfl) rfl hv0 ?_
  show JX 232 1 [v0, v1] [v0] M P
  refine E_ifnn (c232 1 rfl) h (fun e g => ?_) (fun i1 e g => ?_)
  · clear h
    subst e
    have h := g
    clear g
    refine L_ps c232 (n := 1) (pc1 := 5) (ls1 := [jX .null, v1]) (st1 := [jX .null]) rfl ?_
    exact E_retV (c232 5 rfl) rfl (hQ _ _ _ hM rfl h)
  · clear h
    subst e
    have h := g
    clear g
    refine L_ps c232 (n := 1) (pc1 := 7) (ls1 := [jR i1, v1]) (st1 := [jR i1]) rfl ?_
    refine E_fI (c232 7 rfl) hM (by decide) h (fun z2 h => ?_)
    refine L_ps c232 (n := 1) (pc1 := 12) (ls1 := [jR i1, v1]) (st1 := [jI 100, jI z2]) rfl ?_
    refine L_br (p1 := 27) (p2 := 15) (c232 12 rfl) rfl jc_lt h (fun h => ?_) (fun h => ?_)
    · refine E_nC (c232 27 rfl) hM (by decide) h (fun i3 M s4 hM h => ?_)
      refine L_ps c232 (n := 2) (pc1 := 32) (ls1 := [jR i1, v1]) (st1 := [jR i1, jR i3, jR i3]) rfl ?_
      refine E_fI (c232 32 rfl) hM (by decide) h (fun z5 h => ?_)
      refine L_ps c232 (n := 1) (pc1 := 36) (ls1 := [jR i1, v1]) (st1 := [jR i1, jI z5, jR i3, jR i3]) rfl ?_
      refine E_fV (c232 36 rfl) hM (by decide) h (fun x6 hx6 h => ?_)
      refine E_aldn (c232 39 rfl) rfl hv1 ?_
      show JX 232 40 [jR i1, v1] [v1, x6, jI z5, jR i3, jR i3] M P
      exact False.elim h
    · refine E_aldn (c232 15 rfl) rfl hv1 ?_
      show JX 232 16 [jR i1, v1] [v1] M P
      refine L_ps c232 (n := 1) (pc1 := 17) (ls1 := [jR i1, v1]) (st1 := [jR i1, v1]) rfl ?_
      refine E_fI (c232 17 rfl) hM (by decide) h (fun z14 h => ?_)
      refine L_ps c232 (n := 2) (pc1 := 23) (ls1 := [jR i1, v1]) (st1 := [jI (wr (z14 - 100)), v1]) rfl ?_
      obtain ⟨i15, e, g⟩ := cR_of h
      clear h
      subst e
      have h := g
      clear g
      refine E_rV (c232 23 rfl) hM h (fun x16 hx16 h => ?_)
      refine L_ps c232 (n := 1) (pc1 := 54) (ls1 := [jR i1, jR i15]) (st1 := [x16]) rfl ?_
      exact E_retV (c232 54 rfl) hx16 (hQ _ _ _ hM hx16 h)
theorem k_Lw_fill1 {v0 : JV} {v1 : JV} {s : LSt} {M : JM} {Q : JV → LSt → Prop} (hv0 : jnl v0 = true) (hv1 : jnl v1 = true) (hM : R2 s M) (h : d_Lw_fill 2 v0 v1 s Q) : JX 233 0 (jargs 233 [v0, v1]) [] M (P2 (QV2 Q)) := by
  have h : d_Lw_fill_F (d_Lw_fill 1) v0 v1 s Q := h
  unfold d_Lw_fill_F at h
  show JX 233 0 [v0, v1] [] M (P2 (QV2 Q))
  generalize hP : P2 (QV2 Q) = P
  have hQ : ∀ (r : JV) (M1 : JM) (s1 : LSt), R2 s1 M1 → jnl r = true → Q r s1 → P (.inl (some r)) M1 := by rw [← hP]; exact fun r M1 s1 a c b => ⟨s1, a, r, rfl, c, b⟩
  clear hP
  refine E_aldn (c233 0 rfl) rfl hv0 ?_
  show JX 233 1 [v0, v1] [v0] M P
  refine E_ifnn (c233 1 rfl) h (fun e g => ?_) (fun i1 e g => ?_)
  · clear h
    subst e
    have h := g
    clear g
    refine L_ps c233 (n := 1) (pc1 := 5) (ls1 := [jX .null, v1]) (st1 := [jX .null]) rfl ?_
    exact E_retV (c233 5 rfl) rfl (hQ _ _ _ hM rfl h)
  · clear h
    subst e
    have h := g
    clear g
    refine L_ps c233 (n := 1) (pc1 := 7) (ls1 := [jR i1, v1]) (st1 := [jR i1]) rfl ?_
    refine E_fI (c233 7 rfl) hM (by decide) h (fun z2 h => ?_)
    refine L_ps c233 (n := 1) (pc1 := 12) (ls1 := [jR i1, v1]) (st1 := [jI 100, jI z2]) rfl ?_
    refine L_br (p1 := 27) (p2 := 15) (c233 12 rfl) rfl jc_lt h (fun h => ?_) (fun h => ?_)
    · refine E_nC (c233 27 rfl) hM (by decide) h (fun i3 M s4 hM h => ?_)
      refine L_ps c233 (n := 2) (pc1 := 32) (ls1 := [jR i1, v1]) (st1 := [jR i1, jR i3, jR i3]) rfl ?_
      refine E_fI (c233 32 rfl) hM (by decide) h (fun z5 h => ?_)
      refine L_ps c233 (n := 1) (pc1 := 36) (ls1 := [jR i1, v1]) (st1 := [jR i1, jI z5, jR i3, jR i3]) rfl ?_
      refine E_fV (c233 36 rfl) hM (by decide) h (fun x6 hx6 h => ?_)
      refine E_aldn (c233 39 rfl) rfl hv1 ?_
      show JX 233 40 [jR i1, v1] [v1, x6, jI z5, jR i3, jR i3] M P
      refine E_cV (pc1 := 43) (c233 40 rfl) (js_t (show ssplit 2 [v1, x6, jI z5, jR i3, jR i3] = some ([x6, v1], [jI z5, jR i3, jR i3]) from ss_v (A := [v1, x6]) (B := [jI z5, jR i3, jR i3]) rfl (al_c (jnl_c2 hv1) (al_c (jnl_c2 hx6) al_n)) (Nat.le_of_ble_eq_true rfl))) rfl (k_Lw_fill0 hx6 hv1 hM h) (fun x8 M s7 hM hx8 h => ?_)
      refine L_ps c233 (n := 1) (pc1 := 44) (ls1 := [jR i1, v1]) (st1 := [jR i1, x8, jI z5, jR i3, jR i3]) rfl ?_
      refine E_fV (c233 44 rfl) hM (by decide) h (fun x9 hx9 h => ?_)
      refine E_aldn (c233 47 rfl) rfl hv1 ?_
      show JX 233 48 [jR i1, v1] [v1, x9, x8, jI z5, jR i3, jR i3] M P
      refine E_cV (pc1 := 51) (c233 48 rfl) (js_t (show ssplit 2 [v1, x9, x8, jI z5, jR i3, jR i3] = some ([x9, v1], [x8, jI z5, jR i3, jR i3]) from ss_v (A := [v1, x9]) (B := [x8, jI z5, jR i3, jR i3]) rfl (al_c (jnl_c2 hv1) (al_c (jnl_c2 hx9) al_n)) (Nat.le_of_ble_eq_true rfl))) rfl (k_Lw_fill0 hx9 hv1 hM h) (fun x11 M s10 hM hx11 h => ?_)
      refine E_cN (pc1 := 54) (c233 51 rfl) (js_s (show vsplit (3 % 100) [x11, x8, jI z5, jR i3, jR i3] = some (i3, [jR i3, jI z5, x8, x11], [jR i3]) from vs_v (A := [x11, x8, jI z5]) (B := [jR i3]) rfl (al_c (jnl_c2 hx11) (al_c (jnl_c2 hx8) (al_c rfl al_n))) (Nat.le_of_ble_eq_true rfl))) rfl (k_Node_init rfl hx8 hx11 hM h) (fun M s12 hM h => ?_)
      exact E_retV (c233 54 rfl) rfl (hQ _ _ _ hM rfl h)
    · refine E_aldn (c233 15 rfl) rfl hv1 ?_
      show JX 233 16 [jR i1, v1] [v1] M P
      refine L_ps c233 (n := 1) (pc1 := 17) (ls1 := [jR i1, v1]) (st1 := [jR i1, v1]) rfl ?_
      refine E_fI (c233 17 rfl) hM (by decide) h (fun z14 h => ?_)
      refine L_ps c233 (n := 2) (pc1 := 23) (ls1 := [jR i1, v1]) (st1 := [jI (wr (z14 - 100)), v1]) rfl ?_
      obtain ⟨i15, e, g⟩ := cR_of h
      clear h
      subst e
      have h := g
      clear g
      refine E_rV (c233 23 rfl) hM h (fun x16 hx16 h => ?_)
      refine L_ps c233 (n := 1) (pc1 := 54) (ls1 := [jR i1, jR i15]) (st1 := [x16]) rfl ?_
      exact E_retV (c233 54 rfl) hx16 (hQ _ _ _ hM hx16 h)
theorem k_Lw_fill2 {v0 : JV} {v1 : JV} {s : LSt} {M : JM} {Q : JV → LSt → Prop} (hv0 : jnl v0 = true) (hv1 : jnl v1 = true) (hM : R2 s M) (h : d_Lw_fill 3 v0 v1 s Q) : JX 234 0 (jargs 234 [v0, v1]) [] M (P2 (QV2 Q)) := by
  have h : d_Lw_fill_F (d_Lw_fill 2) v0 v1 s Q := h
  unfold d_Lw_fill_F at h
  show JX 234 0 [v0, v1] [] M (P2 (QV2 Q))
  generalize hP : P2 (QV2 Q) = P
  have hQ : ∀ (r : JV) (M1 : JM) (s1 : LSt), R2 s1 M1 → jnl r = true → Q r s1 → P (.inl (some r)) M1 := by rw [← hP]; exact fun r M1 s1 a c b => ⟨s1, a, r, rfl, c, b⟩
  clear hP
  refine E_aldn (c234 0 rfl) rfl hv0 ?_
  show JX 234 1 [v0, v1] [v0] M P
  refine E_ifnn (c234 1 rfl) h (fun e g => ?_) (fun i1 e g => ?_)
  · clear h
    subst e
    have h := g
    clear g
    refine L_ps c234 (n := 1) (pc1 := 5) (ls1 := [jX .null, v1]) (st1 := [jX .null]) rfl ?_
    exact E_retV (c234 5 rfl) rfl (hQ _ _ _ hM rfl h)
  · clear h
    subst e
    have h := g
    clear g
    refine L_ps c234 (n := 1) (pc1 := 7) (ls1 := [jR i1, v1]) (st1 := [jR i1]) rfl ?_
    refine E_fI (c234 7 rfl) hM (by decide) h (fun z2 h => ?_)
    refine L_ps c234 (n := 1) (pc1 := 12) (ls1 := [jR i1, v1]) (st1 := [jI 100, jI z2]) rfl ?_
    refine L_br (p1 := 27) (p2 := 15) (c234 12 rfl) rfl jc_lt h (fun h => ?_) (fun h => ?_)
    · refine E_nC (c234 27 rfl) hM (by decide) h (fun i3 M s4 hM h => ?_)
      refine L_ps c234 (n := 2) (pc1 := 32) (ls1 := [jR i1, v1]) (st1 := [jR i1, jR i3, jR i3]) rfl ?_
      refine E_fI (c234 32 rfl) hM (by decide) h (fun z5 h => ?_)
      refine L_ps c234 (n := 1) (pc1 := 36) (ls1 := [jR i1, v1]) (st1 := [jR i1, jI z5, jR i3, jR i3]) rfl ?_
      refine E_fV (c234 36 rfl) hM (by decide) h (fun x6 hx6 h => ?_)
      refine E_aldn (c234 39 rfl) rfl hv1 ?_
      show JX 234 40 [jR i1, v1] [v1, x6, jI z5, jR i3, jR i3] M P
      refine E_cV (pc1 := 43) (c234 40 rfl) (js_t (show ssplit 2 [v1, x6, jI z5, jR i3, jR i3] = some ([x6, v1], [jI z5, jR i3, jR i3]) from ss_v (A := [v1, x6]) (B := [jI z5, jR i3, jR i3]) rfl (al_c (jnl_c2 hv1) (al_c (jnl_c2 hx6) al_n)) (Nat.le_of_ble_eq_true rfl))) rfl (k_Lw_fill1 hx6 hv1 hM h) (fun x8 M s7 hM hx8 h => ?_)
      refine L_ps c234 (n := 1) (pc1 := 44) (ls1 := [jR i1, v1]) (st1 := [jR i1, x8, jI z5, jR i3, jR i3]) rfl ?_
      refine E_fV (c234 44 rfl) hM (by decide) h (fun x9 hx9 h => ?_)
      refine E_aldn (c234 47 rfl) rfl hv1 ?_
      show JX 234 48 [jR i1, v1] [v1, x9, x8, jI z5, jR i3, jR i3] M P
      refine E_cV (pc1 := 51) (c234 48 rfl) (js_t (show ssplit 2 [v1, x9, x8, jI z5, jR i3, jR i3] = some ([x9, v1], [x8, jI z5, jR i3, jR i3]) from ss_v (A := [v1, x9]) (B := [x8, jI z5, jR i3, jR i3]) rfl (al_c (jnl_c2 hv1) (al_c (jnl_c2 hx9) al_n)) (Nat.le_of_ble_eq_true rfl))) rfl (k_Lw_fill1 hx9 hv1 hM h) (fun x11 M s10 hM hx11 h => ?_)
      refine E_cN (pc1 := 54) (c234 51 rfl) (js_s (show vsplit (3 % 100) [x11, x8, jI z5, jR i3, jR i3] = some (i3, [jR i3, jI z5, x8, x11], [jR i3]) from vs_v (A := [x11, x8, jI z5]) (B := [jR i3]) rfl (al_c (jnl_c2 hx11) (al_c (jnl_c2 hx8) (al_c rfl al_n))) (Nat.le_of_ble_eq_true rfl))) rfl (k_Node_init rfl hx8 hx11 hM h) (fun M s12 hM h => ?_)
      exact E_retV (c234 54 rfl) rfl (hQ _ _ _ hM rfl h)
    · refine E_aldn (c234 15 rfl) rfl hv1 ?_
      show JX 234 16 [jR i1, v1] [v1] M P
      refine L_ps c234 (n := 1) (pc1 := 17) (ls1 := [jR i1, v1]) (st1 := [jR i1, v1]) rfl ?_
      refine E_fI (c234 17 rfl) hM (by decide) h (fun z14 h => ?_)
      refine L_ps c234 (n := 2) (pc1 := 23) (ls1 := [jR i1, v1]) (st1 := [jI (wr (z14 - 100)), v1]) rfl ?_
      obtain ⟨i15, e, g⟩ := cR_of h
      clear h
      subst e
      have h := g
      clear g
      refine E_rV (c234 23 rfl) hM h (fun x16 hx16 h => ?_)
      refine L_ps c234 (n := 1) (pc1 := 54) (ls1 := [jR i1, jR i15]) (st1 := [x16]) rfl ?_
      exact E_retV (c234 54 rfl) hx16 (hQ _ _ _ hM hx16 h)
theorem k_Lw_fill3 {v0 : JV} {v1 : JV} {s : LSt} {M : JM} {Q : JV → LSt → Prop} (hv0 : jnl v0 = true) (hv1 : jnl v1 = true) (hM : R2 s M) (h : d_Lw_fill 4 v0 v1 s Q) : JX 235 0 (jargs 235 [v0, v1]) [] M (P2 (QV2 Q)) := by
  have h : d_Lw_fill_F (d_Lw_fill 3) v0 v1 s Q := h
  unfold d_Lw_fill_F at h
  show JX 235 0 [v0, v1] [] M (P2 (QV2 Q))
  generalize hP : P2 (QV2 Q) = P
  have hQ : ∀ (r : JV) (M1 : JM) (s1 : LSt), R2 s1 M1 → jnl r = true → Q r s1 → P (.inl (some r)) M1 := by rw [← hP]; exact fun r M1 s1 a c b => ⟨s1, a, r, rfl, c, b⟩
  clear hP
  refine E_aldn (c235 0 rfl) rfl hv0 ?_
  show JX 235 1 [v0, v1] [v0] M P
  refine E_ifnn (c235 1 rfl) h (fun e g => ?_) (fun i1 e g => ?_)
  · clear h
    subst e
    have h := g
    clear g
    refine L_ps c235 (n := 1) (pc1 := 5) (ls1 := [jX .null, v1]) (st1 := [jX .null]) rfl ?_
    exact E_retV (c235 5 rfl) rfl (hQ _ _ _ hM rfl h)
  · clear h
    subst e
    have h := g
    clear g
    refine L_ps c235 (n := 1) (pc1 := 7) (ls1 := [jR i1, v1]) (st1 := [jR i1]) rfl ?_
    refine E_fI (c235 7 rfl) hM (by decide) h (fun z2 h => ?_)
    refine L_ps c235 (n := 1) (pc1 := 12) (ls1 := [jR i1, v1]) (st1 := [jI 100, jI z2]) rfl ?_
    refine L_br (p1 := 27) (p2 := 15) (c235 12 rfl) rfl jc_lt h (fun h => ?_) (fun h => ?_)
    · refine E_nC (c235 27 rfl) hM (by decide) h (fun i3 M s4 hM h => ?_)
      refine L_ps c235 (n := 2) (pc1 := 32) (ls1 := [jR i1, v1]) (st1 := [jR i1, jR i3, jR i3]) rfl ?_
      refine E_fI (c235 32 rfl) hM (by decide) h (fun z5 h => ?_)
      refine L_ps c235 (n := 1) (pc1 := 36) (ls1 := [jR i1, v1]) (st1 := [jR i1, jI z5, jR i3, jR i3]) rfl ?_
      refine E_fV (c235 36 rfl) hM (by decide) h (fun x6 hx6 h => ?_)
      refine E_aldn (c235 39 rfl) rfl hv1 ?_
      show JX 235 40 [jR i1, v1] [v1, x6, jI z5, jR i3, jR i3] M P
      refine E_cV (pc1 := 43) (c235 40 rfl) (js_t (show ssplit 2 [v1, x6, jI z5, jR i3, jR i3] = some ([x6, v1], [jI z5, jR i3, jR i3]) from ss_v (A := [v1, x6]) (B := [jI z5, jR i3, jR i3]) rfl (al_c (jnl_c2 hv1) (al_c (jnl_c2 hx6) al_n)) (Nat.le_of_ble_eq_true rfl))) rfl (k_Lw_fill2 hx6 hv1 hM h) (fun x8 M s7 hM hx8 h => ?_)
      refine L_ps c235 (n := 1) (pc1 := 44) (ls1 := [jR i1, v1]) (st1 := [jR i1, x8, jI z5, jR i3, jR i3]) rfl ?_
      refine E_fV (c235 44 rfl) hM (by decide) h (fun x9 hx9 h => ?_)
      refine E_aldn (c235 47 rfl) rfl hv1 ?_
      show JX 235 48 [jR i1, v1] [v1, x9, x8, jI z5, jR i3, jR i3] M P
      refine E_cV (pc1 := 51) (c235 48 rfl) (js_t (show ssplit 2 [v1, x9, x8, jI z5, jR i3, jR i3] = some ([x9, v1], [x8, jI z5, jR i3, jR i3]) from ss_v (A := [v1, x9]) (B := [x8, jI z5, jR i3, jR i3]) rfl (al_c (jnl_c2 hv1) (al_c (jnl_c2 hx9) al_n)) (Nat.le_of_ble_eq_true rfl))) rfl (k_Lw_fill2 hx9 hv1 hM h) (fun x11 M s10 hM hx11 h => ?_)
      refine E_cN (pc1 := 54) (c235 51 rfl) (js_s (show vsplit (3 % 100) [x11, x8, jI z5, jR i3, jR i3] = some (i3, [jR i3, jI z5, x8, x11], [jR i3]) from vs_v (A := [x11, x8, jI z5]) (B := [jR i3]) rfl (al_c (jnl_c2 hx11) (al_c (jnl_c2 hx8) (al_c rfl al_n))) (Nat.le_of_ble_eq_true rfl))) rfl (k_Node_init rfl hx8 hx11 hM h) (fun M s12 hM h => ?_)
      exact E_retV (c235 54 rfl) rfl (hQ _ _ _ hM rfl h)
    · refine E_aldn (c235 15 rfl) rfl hv1 ?_
      show JX 235 16 [jR i1, v1] [v1] M P
      refine L_ps c235 (n := 1) (pc1 := 17) (ls1 := [jR i1, v1]) (st1 := [jR i1, v1]) rfl ?_
      refine E_fI (c235 17 rfl) hM (by decide) h (fun z14 h => ?_)
      refine L_ps c235 (n := 2) (pc1 := 23) (ls1 := [jR i1, v1]) (st1 := [jI (wr (z14 - 100)), v1]) rfl ?_
      obtain ⟨i15, e, g⟩ := cR_of h
      clear h
      subst e
      have h := g
      clear g
      refine E_rV (c235 23 rfl) hM h (fun x16 hx16 h => ?_)
      refine L_ps c235 (n := 1) (pc1 := 54) (ls1 := [jR i1, jR i15]) (st1 := [x16]) rfl ?_
      exact E_retV (c235 54 rfl) hx16 (hQ _ _ _ hM hx16 h)
theorem k_Lw_fill4 {v0 : JV} {v1 : JV} {s : LSt} {M : JM} {Q : JV → LSt → Prop} (hv0 : jnl v0 = true) (hv1 : jnl v1 = true) (hM : R2 s M) (h : d_Lw_fill 5 v0 v1 s Q) : JX 236 0 (jargs 236 [v0, v1]) [] M (P2 (QV2 Q)) := by
  have h : d_Lw_fill_F (d_Lw_fill 4) v0 v1 s Q := h
  unfold d_Lw_fill_F at h
  show JX 236 0 [v0, v1] [] M (P2 (QV2 Q))
  generalize hP : P2 (QV2 Q) = P
  have hQ : ∀ (r : JV) (M1 : JM) (s1 : LSt), R2 s1 M1 → jnl r = true → Q r s1 → P (.inl (some r)) M1 := by rw [← hP]; exact fun r M1 s1 a c b => ⟨s1, a, r, rfl, c, b⟩
  clear hP
  refine E_aldn (c236 0 rfl) rfl hv0 ?_
  show JX 236 1 [v0, v1] [v0] M P
  refine E_ifnn (c236 1 rfl) h (fun e g => ?_) (fun i1 e g => ?_)
  · clear h
    subst e
    have h := g
    clear g
    refine L_ps c236 (n := 1) (pc1 := 5) (ls1 := [jX .null, v1]) (st1 := [jX .null]) rfl ?_
    exact E_retV (c236 5 rfl) rfl (hQ _ _ _ hM rfl h)
  · clear h
    subst e
    have h := g
    clear g
    refine L_ps c236 (n := 1) (pc1 := 7) (ls1 := [jR i1, v1]) (st1 := [jR i1]) rfl ?_
    refine E_fI (c236 7 rfl) hM (by decide) h (fun z2 h => ?_)
    refine L_ps c236 (n := 1) (pc1 := 12) (ls1 := [jR i1, v1]) (st1 := [jI 100, jI z2]) rfl ?_
    refine L_br (p1 := 27) (p2 := 15) (c236 12 rfl) rfl jc_lt h (fun h => ?_) (fun h => ?_)
    · refine E_nC (c236 27 rfl) hM (by decide) h (fun i3 M s4 hM h => ?_)
      refine L_ps c236 (n := 2) (pc1 := 32) (ls1 := [jR i1, v1]) (st1 := [jR i1, jR i3, jR i3]) rfl ?_
      refine E_fI (c236 32 rfl) hM (by decide) h (fun z5 h => ?_)
      refine L_ps c236 (n := 1) (pc1 := 36) (ls1 := [jR i1, v1]) (st1 := [jR i1, jI z5, jR i3, jR i3]) rfl ?_
      refine E_fV (c236 36 rfl) hM (by decide) h (fun x6 hx6 h => ?_)
      refine E_aldn (c236 39 rfl) rfl hv1 ?_
      show JX 236 40 [jR i1, v1] [v1, x6, jI z5, jR i3, jR i3] M P
      refine E_cV (pc1 := 43) (c236 40 rfl) (js_t (show ssplit 2 [v1, x6, jI z5, jR i3, jR i3] = some ([x6, v1], [jI z5, jR i3, jR i3]) from ss_v (A := [v1, x6]) (B := [jI z5, jR i3, jR i3]) rfl (al_c (jnl_c2 hv1) (al_c (jnl_c2 hx6) al_n)) (Nat.le_of_ble_eq_true rfl))) rfl (k_Lw_fill3 hx6 hv1 hM h) (fun x8 M s7 hM hx8 h => ?_)
      refine L_ps c236 (n := 1) (pc1 := 44) (ls1 := [jR i1, v1]) (st1 := [jR i1, x8, jI z5, jR i3, jR i3]) rfl ?_
      refine E_fV (c236 44 rfl) hM (by decide) h (fun x9 hx9 h => ?_)
      refine E_aldn (c236 47 rfl) rfl hv1 ?_
      show JX 236 48 [jR i1, v1] [v1, x9, x8, jI z5, jR i3, jR i3] M P
      refine E_cV (pc1 := 51) (c236 48 rfl) (js_t (show ssplit 2 [v1, x9, x8, jI z5, jR i3, jR i3] = some ([x9, v1], [x8, jI z5, jR i3, jR i3]) from ss_v (A := [v1, x9]) (B := [x8, jI z5, jR i3, jR i3]) rfl (al_c (jnl_c2 hv1) (al_c (jnl_c2 hx9) al_n)) (Nat.le_of_ble_eq_true rfl))) rfl (k_Lw_fill3 hx9 hv1 hM h) (fun x11 M s10 hM hx11 h => ?_)
      refine E_cN (pc1 := 54) (c236 51 rfl) (js_s (show vsplit (3 % 100) [x11, x8, jI z5, jR i3, jR i3] = some (i3, [jR i3, jI z5, x8, x11], [jR i3]) from vs_v (A := [x11, x8, jI z5]) (B := [jR i3]) rfl (al_c (jnl_c2 hx11) (al_c (jnl_c2 hx8) (al_c rfl al_n))) (Nat.le_of_ble_eq_true rfl))) rfl (k_Node_init rfl hx8 hx11 hM h) (fun M s12 hM h => ?_)
      exact E_retV (c236 54 rfl) rfl (hQ _ _ _ hM rfl h)
    · refine E_aldn (c236 15 rfl) rfl hv1 ?_
      show JX 236 16 [jR i1, v1] [v1] M P
      refine L_ps c236 (n := 1) (pc1 := 17) (ls1 := [jR i1, v1]) (st1 := [jR i1, v1]) rfl ?_
      refine E_fI (c236 17 rfl) hM (by decide) h (fun z14 h => ?_)
      refine L_ps c236 (n := 2) (pc1 := 23) (ls1 := [jR i1, v1]) (st1 := [jI (wr (z14 - 100)), v1]) rfl ?_
      obtain ⟨i15, e, g⟩ := cR_of h
      clear h
      subst e
      have h := g
      clear g
      refine E_rV (c236 23 rfl) hM h (fun x16 hx16 h => ?_)
      refine L_ps c236 (n := 1) (pc1 := 54) (ls1 := [jR i1, jR i15]) (st1 := [x16]) rfl ?_
      exact E_retV (c236 54 rfl) hx16 (hQ _ _ _ hM hx16 h)
theorem k_Lw_put0 {v0 : JV} {v1 : Int} {v2 : JV} {s : LSt} {M : JM} {Q : JV → LSt → Prop} (hv0 : jnl v0 = true) (hv2 : jnl v2 = true) (hM : R2 s M) (h : d_Lw_put 1 v0 v1 v2 s Q) : JX 237 0 (jargs 237 [v0, jI v1, v2]) [] M (P2 (QV2 Q)) := by
  have h : d_Lw_put_F (d_Lw_put 0) v0 v1 v2 s Q := h
  unfold d_Lw_put_F at h
  show JX 237 0 [v0, jI v1, v2, jU] [] M (P2 (QV2 Q))
  generalize hP : P2 (QV2 Q) = P
  have hQ : ∀ (r : JV) (M1 : JM) (s1 : LSt), R2 s1 M1 → jnl r = true → Q r s1 → P (.inl (some r)) M1 := by rw [← hP]; exact fun r M1 s1 a c b => ⟨s1, a, r, rfl, c, b⟩
  clear hP
  refine L_ps c237 (n := 1) (pc1 := 1) (ls1 := [v0, jI v1, v2, jU]) (st1 := [jI v1]) rfl ?_
  refine L_nb (p1 := 6) (p2 := 4) (c237 1 rfl) rfl jc_ne h (fun h => ?_) (fun h => ?_)
  · refine E_aldn (c237 4 rfl) rfl hv2 ?_
    show JX 237 5 [v0, jI v1, v2, jU] [v2] M P
    exact E_retV (c237 5 rfl) hv2 (hQ _ _ _ hM hv2 h)
  · refine E_aldn (c237 6 rfl) rfl hv0 ?_
    show JX 237 7 [v0, jI v1, v2, jU] [v0] M P
    obtain ⟨i1, e, g⟩ := cR_of h
    clear h
    subst e
    have h := g
    clear g
    refine E_fV (c237 7 rfl) hM (by decide) h (fun x2 hx2 h => ?_)
    refine E_cI (pc1 := 13) (c237 10 rfl) (js_t (show ssplit 1 [x2] = some ([x2], []) from ss_v (A := [x2]) (B := []) rfl (al_c (jnl_c2 hx2) al_n) (Nat.le_of_ble_eq_true rfl))) rfl (k_Lw_size7 hx2 hM h) (fun r4 M s3 hM h => ?_)
    refine L_istn (c237 13 rfl) (jnl_c2 hv2) (Nat.le_of_ble_eq_true rfl) ?_
    show JX 237 14 [jR i1, jI v1, v2, jI r4] [] M P
    refine L_ps c237 (n := 2) (pc1 := 16) (ls1 := [jR i1, jI v1, v2, jI r4]) (st1 := [jI r4, jI v1]) rfl ?_
    refine L_br (p1 := 48) (p2 := 19) (c237 16 rfl) rfl jc_gt h (fun h => ?_) (fun h => ?_)
    · refine E_nC (c237 48 rfl) hM (by decide) h (fun i5 M s6 hM h => ?_)
      refine L_ps c237 (n := 2) (pc1 := 53) (ls1 := [jR i1, jI v1, v2, jI r4]) (st1 := [jR i1, jR i5, jR i5]) rfl ?_
      refine E_fI (c237 53 rfl) hM (by decide) h (fun z7 h => ?_)
      refine L_ps c237 (n := 1) (pc1 := 57) (ls1 := [jR i1, jI v1, v2, jI r4]) (st1 := [jR i1, jI z7, jR i5, jR i5]) rfl ?_
      refine E_fV (c237 57 rfl) hM (by decide) h (fun x8 hx8 h => ?_)
      refine L_ps c237 (n := 1) (pc1 := 61) (ls1 := [jR i1, jI v1, v2, jI r4]) (st1 := [jR i1, x8, jI z7, jR i5, jR i5]) rfl ?_
      refine E_fV (c237 61 rfl) hM (by decide) h (fun x9 hx9 h => ?_)
      refine L_ps c237 (n := 5) (pc1 := 69) (ls1 := [jR i1, jI v1, v2, jI r4]) (st1 := [jI (wr ((wr (v1 - 1)) - r4)), x9, x8, jI z7, jR i5, jR i5]) rfl ?_
      refine E_aldn (c237 69 rfl) rfl hv2 ?_
      show JX 237 70 [jR i1, jI v1, v2, jI r4] [v2, jI (wr ((wr (v1 - 1)) - r4)), x9, x8, jI z7, jR i5, jR i5] M P
      exact False.elim h
    · refine E_nC (c237 19 rfl) hM (by decide) h (fun i14 M s15 hM h => ?_)
      refine L_ps c237 (n := 2) (pc1 := 24) (ls1 := [jR i1, jI v1, v2, jI r4]) (st1 := [jR i1, jR i14, jR i14]) rfl ?_
      refine E_fI (c237 24 rfl) hM (by decide) h (fun z16 h => ?_)
      refine L_ps c237 (n := 1) (pc1 := 28) (ls1 := [jR i1, jI v1, v2, jI r4]) (st1 := [jR i1, jI z16, jR i14, jR i14]) rfl ?_
      refine E_fV (c237 28 rfl) hM (by decide) h (fun x17 hx17 h => ?_)
      refine L_ps c237 (n := 3) (pc1 := 34) (ls1 := [jR i1, jI v1, v2, jI r4]) (st1 := [jI (wr (v1 - 1)), x17, jI z16, jR i14, jR i14]) rfl ?_
      refine E_aldn (c237 34 rfl) rfl hv2 ?_
      show JX 237 35 [jR i1, jI v1, v2, jI r4] [v2, jI (wr (v1 - 1)), x17, jI z16, jR i14, jR i14] M P
      exact False.elim h
theorem k_Lw_put1 {v0 : JV} {v1 : Int} {v2 : JV} {s : LSt} {M : JM} {Q : JV → LSt → Prop} (hv0 : jnl v0 = true) (hv2 : jnl v2 = true) (hM : R2 s M) (h : d_Lw_put 2 v0 v1 v2 s Q) : JX 238 0 (jargs 238 [v0, jI v1, v2]) [] M (P2 (QV2 Q)) := by
  have h : d_Lw_put_F (d_Lw_put 1) v0 v1 v2 s Q := h
  unfold d_Lw_put_F at h
  show JX 238 0 [v0, jI v1, v2, jU] [] M (P2 (QV2 Q))
  generalize hP : P2 (QV2 Q) = P
  have hQ : ∀ (r : JV) (M1 : JM) (s1 : LSt), R2 s1 M1 → jnl r = true → Q r s1 → P (.inl (some r)) M1 := by rw [← hP]; exact fun r M1 s1 a c b => ⟨s1, a, r, rfl, c, b⟩
  clear hP
  refine L_ps c238 (n := 1) (pc1 := 1) (ls1 := [v0, jI v1, v2, jU]) (st1 := [jI v1]) rfl ?_
  refine L_nb (p1 := 6) (p2 := 4) (c238 1 rfl) rfl jc_ne h (fun h => ?_) (fun h => ?_)
  · refine E_aldn (c238 4 rfl) rfl hv2 ?_
    show JX 238 5 [v0, jI v1, v2, jU] [v2] M P
    exact E_retV (c238 5 rfl) hv2 (hQ _ _ _ hM hv2 h)
  · refine E_aldn (c238 6 rfl) rfl hv0 ?_
    show JX 238 7 [v0, jI v1, v2, jU] [v0] M P
    obtain ⟨i1, e, g⟩ := cR_of h
    clear h
    subst e
    have h := g
    clear g
    refine E_fV (c238 7 rfl) hM (by decide) h (fun x2 hx2 h => ?_)
    refine E_cI (pc1 := 13) (c238 10 rfl) (js_t (show ssplit 1 [x2] = some ([x2], []) from ss_v (A := [x2]) (B := []) rfl (al_c (jnl_c2 hx2) al_n) (Nat.le_of_ble_eq_true rfl))) rfl (k_Lw_size7 hx2 hM h) (fun r4 M s3 hM h => ?_)
    refine L_istn (c238 13 rfl) (jnl_c2 hv2) (Nat.le_of_ble_eq_true rfl) ?_
    show JX 238 14 [jR i1, jI v1, v2, jI r4] [] M P
    refine L_ps c238 (n := 2) (pc1 := 16) (ls1 := [jR i1, jI v1, v2, jI r4]) (st1 := [jI r4, jI v1]) rfl ?_
    refine L_br (p1 := 48) (p2 := 19) (c238 16 rfl) rfl jc_gt h (fun h => ?_) (fun h => ?_)
    · refine E_nC (c238 48 rfl) hM (by decide) h (fun i5 M s6 hM h => ?_)
      refine L_ps c238 (n := 2) (pc1 := 53) (ls1 := [jR i1, jI v1, v2, jI r4]) (st1 := [jR i1, jR i5, jR i5]) rfl ?_
      refine E_fI (c238 53 rfl) hM (by decide) h (fun z7 h => ?_)
      refine L_ps c238 (n := 1) (pc1 := 57) (ls1 := [jR i1, jI v1, v2, jI r4]) (st1 := [jR i1, jI z7, jR i5, jR i5]) rfl ?_
      refine E_fV (c238 57 rfl) hM (by decide) h (fun x8 hx8 h => ?_)
      refine L_ps c238 (n := 1) (pc1 := 61) (ls1 := [jR i1, jI v1, v2, jI r4]) (st1 := [jR i1, x8, jI z7, jR i5, jR i5]) rfl ?_
      refine E_fV (c238 61 rfl) hM (by decide) h (fun x9 hx9 h => ?_)
      refine L_ps c238 (n := 5) (pc1 := 69) (ls1 := [jR i1, jI v1, v2, jI r4]) (st1 := [jI (wr ((wr (v1 - 1)) - r4)), x9, x8, jI z7, jR i5, jR i5]) rfl ?_
      refine E_aldn (c238 69 rfl) rfl hv2 ?_
      show JX 238 70 [jR i1, jI v1, v2, jI r4] [v2, jI (wr ((wr (v1 - 1)) - r4)), x9, x8, jI z7, jR i5, jR i5] M P
      refine E_cV (pc1 := 73) (c238 70 rfl) (js_t (show ssplit 3 [v2, jI (wr ((wr (v1 - 1)) - r4)), x9, x8, jI z7, jR i5, jR i5] = some ([x9, jI (wr ((wr (v1 - 1)) - r4)), v2], [x8, jI z7, jR i5, jR i5]) from ss_v (A := [v2, jI (wr ((wr (v1 - 1)) - r4)), x9]) (B := [x8, jI z7, jR i5, jR i5]) rfl (al_c (jnl_c2 hv2) (al_c rfl (al_c (jnl_c2 hx9) al_n))) (Nat.le_of_ble_eq_true rfl))) rfl (k_Lw_put0 hx9 hv2 hM h) (fun x11 M s10 hM hx11 h => ?_)
      refine E_cN (pc1 := 76) (c238 73 rfl) (js_s (show vsplit (3 % 100) [x11, x8, jI z7, jR i5, jR i5] = some (i5, [jR i5, jI z7, x8, x11], [jR i5]) from vs_v (A := [x11, x8, jI z7]) (B := [jR i5]) rfl (al_c (jnl_c2 hx11) (al_c (jnl_c2 hx8) (al_c rfl al_n))) (Nat.le_of_ble_eq_true rfl))) rfl (k_Node_init rfl hx8 hx11 hM h) (fun M s12 hM h => ?_)
      exact E_retV (c238 76 rfl) rfl (hQ _ _ _ hM rfl h)
    · refine E_nC (c238 19 rfl) hM (by decide) h (fun i14 M s15 hM h => ?_)
      refine L_ps c238 (n := 2) (pc1 := 24) (ls1 := [jR i1, jI v1, v2, jI r4]) (st1 := [jR i1, jR i14, jR i14]) rfl ?_
      refine E_fI (c238 24 rfl) hM (by decide) h (fun z16 h => ?_)
      refine L_ps c238 (n := 1) (pc1 := 28) (ls1 := [jR i1, jI v1, v2, jI r4]) (st1 := [jR i1, jI z16, jR i14, jR i14]) rfl ?_
      refine E_fV (c238 28 rfl) hM (by decide) h (fun x17 hx17 h => ?_)
      refine L_ps c238 (n := 3) (pc1 := 34) (ls1 := [jR i1, jI v1, v2, jI r4]) (st1 := [jI (wr (v1 - 1)), x17, jI z16, jR i14, jR i14]) rfl ?_
      refine E_aldn (c238 34 rfl) rfl hv2 ?_
      show JX 238 35 [jR i1, jI v1, v2, jI r4] [v2, jI (wr (v1 - 1)), x17, jI z16, jR i14, jR i14] M P
      refine E_cV (pc1 := 38) (c238 35 rfl) (js_t (show ssplit 3 [v2, jI (wr (v1 - 1)), x17, jI z16, jR i14, jR i14] = some ([x17, jI (wr (v1 - 1)), v2], [jI z16, jR i14, jR i14]) from ss_v (A := [v2, jI (wr (v1 - 1)), x17]) (B := [jI z16, jR i14, jR i14]) rfl (al_c (jnl_c2 hv2) (al_c rfl (al_c (jnl_c2 hx17) al_n))) (Nat.le_of_ble_eq_true rfl))) rfl (k_Lw_put0 hx17 hv2 hM h) (fun x19 M s18 hM hx19 h => ?_)
      refine L_ps c238 (n := 1) (pc1 := 39) (ls1 := [jR i1, jI v1, v2, jI r4]) (st1 := [jR i1, x19, jI z16, jR i14, jR i14]) rfl ?_
      refine E_fV (c238 39 rfl) hM (by decide) h (fun x20 hx20 h => ?_)
      refine E_cN (pc1 := 45) (c238 42 rfl) (js_s (show vsplit (3 % 100) [x20, x19, jI z16, jR i14, jR i14] = some (i14, [jR i14, jI z16, x19, x20], [jR i14]) from vs_v (A := [x20, x19, jI z16]) (B := [jR i14]) rfl (al_c (jnl_c2 hx20) (al_c (jnl_c2 hx19) (al_c rfl al_n))) (Nat.le_of_ble_eq_true rfl))) rfl (k_Node_init rfl hx19 hx20 hM h) (fun M s21 hM h => ?_)
      refine L_ps c238 (n := 1) (pc1 := 76) (ls1 := [jR i1, jI v1, v2, jI r4]) (st1 := [jR i14]) rfl ?_
      exact E_retV (c238 76 rfl) rfl (hQ _ _ _ hM rfl h)
theorem k_Lw_put2 {v0 : JV} {v1 : Int} {v2 : JV} {s : LSt} {M : JM} {Q : JV → LSt → Prop} (hv0 : jnl v0 = true) (hv2 : jnl v2 = true) (hM : R2 s M) (h : d_Lw_put 3 v0 v1 v2 s Q) : JX 239 0 (jargs 239 [v0, jI v1, v2]) [] M (P2 (QV2 Q)) := by
  have h : d_Lw_put_F (d_Lw_put 2) v0 v1 v2 s Q := h
  unfold d_Lw_put_F at h
  show JX 239 0 [v0, jI v1, v2, jU] [] M (P2 (QV2 Q))
  generalize hP : P2 (QV2 Q) = P
  have hQ : ∀ (r : JV) (M1 : JM) (s1 : LSt), R2 s1 M1 → jnl r = true → Q r s1 → P (.inl (some r)) M1 := by rw [← hP]; exact fun r M1 s1 a c b => ⟨s1, a, r, rfl, c, b⟩
  clear hP
  refine L_ps c239 (n := 1) (pc1 := 1) (ls1 := [v0, jI v1, v2, jU]) (st1 := [jI v1]) rfl ?_
  refine L_nb (p1 := 6) (p2 := 4) (c239 1 rfl) rfl jc_ne h (fun h => ?_) (fun h => ?_)
  · refine E_aldn (c239 4 rfl) rfl hv2 ?_
    show JX 239 5 [v0, jI v1, v2, jU] [v2] M P
    exact E_retV (c239 5 rfl) hv2 (hQ _ _ _ hM hv2 h)
  · refine E_aldn (c239 6 rfl) rfl hv0 ?_
    show JX 239 7 [v0, jI v1, v2, jU] [v0] M P
    obtain ⟨i1, e, g⟩ := cR_of h
    clear h
    subst e
    have h := g
    clear g
    refine E_fV (c239 7 rfl) hM (by decide) h (fun x2 hx2 h => ?_)
    refine E_cI (pc1 := 13) (c239 10 rfl) (js_t (show ssplit 1 [x2] = some ([x2], []) from ss_v (A := [x2]) (B := []) rfl (al_c (jnl_c2 hx2) al_n) (Nat.le_of_ble_eq_true rfl))) rfl (k_Lw_size7 hx2 hM h) (fun r4 M s3 hM h => ?_)
    refine L_istn (c239 13 rfl) (jnl_c2 hv2) (Nat.le_of_ble_eq_true rfl) ?_
    show JX 239 14 [jR i1, jI v1, v2, jI r4] [] M P
    refine L_ps c239 (n := 2) (pc1 := 16) (ls1 := [jR i1, jI v1, v2, jI r4]) (st1 := [jI r4, jI v1]) rfl ?_
    refine L_br (p1 := 48) (p2 := 19) (c239 16 rfl) rfl jc_gt h (fun h => ?_) (fun h => ?_)
    · refine E_nC (c239 48 rfl) hM (by decide) h (fun i5 M s6 hM h => ?_)
      refine L_ps c239 (n := 2) (pc1 := 53) (ls1 := [jR i1, jI v1, v2, jI r4]) (st1 := [jR i1, jR i5, jR i5]) rfl ?_
      refine E_fI (c239 53 rfl) hM (by decide) h (fun z7 h => ?_)
      refine L_ps c239 (n := 1) (pc1 := 57) (ls1 := [jR i1, jI v1, v2, jI r4]) (st1 := [jR i1, jI z7, jR i5, jR i5]) rfl ?_
      refine E_fV (c239 57 rfl) hM (by decide) h (fun x8 hx8 h => ?_)
      refine L_ps c239 (n := 1) (pc1 := 61) (ls1 := [jR i1, jI v1, v2, jI r4]) (st1 := [jR i1, x8, jI z7, jR i5, jR i5]) rfl ?_
      refine E_fV (c239 61 rfl) hM (by decide) h (fun x9 hx9 h => ?_)
      refine L_ps c239 (n := 5) (pc1 := 69) (ls1 := [jR i1, jI v1, v2, jI r4]) (st1 := [jI (wr ((wr (v1 - 1)) - r4)), x9, x8, jI z7, jR i5, jR i5]) rfl ?_
      refine E_aldn (c239 69 rfl) rfl hv2 ?_
      show JX 239 70 [jR i1, jI v1, v2, jI r4] [v2, jI (wr ((wr (v1 - 1)) - r4)), x9, x8, jI z7, jR i5, jR i5] M P
      refine E_cV (pc1 := 73) (c239 70 rfl) (js_t (show ssplit 3 [v2, jI (wr ((wr (v1 - 1)) - r4)), x9, x8, jI z7, jR i5, jR i5] = some ([x9, jI (wr ((wr (v1 - 1)) - r4)), v2], [x8, jI z7, jR i5, jR i5]) from ss_v (A := [v2, jI (wr ((wr (v1 - 1)) - r4)), x9]) (B := [x8, jI z7, jR i5, jR i5]) rfl (al_c (jnl_c2 hv2) (al_c rfl (al_c (jnl_c2 hx9) al_n))) (Nat.le_of_ble_eq_true rfl))) rfl (k_Lw_put1 hx9 hv2 hM h) (fun x11 M s10 hM hx11 h => ?_)
      refine E_cN (pc1 := 76) (c239 73 rfl) (js_s (show vsplit (3 % 100) [x11, x8, jI z7, jR i5, jR i5] = some (i5, [jR i5, jI z7, x8, x11], [jR i5]) from vs_v (A := [x11, x8, jI z7]) (B := [jR i5]) rfl (al_c (jnl_c2 hx11) (al_c (jnl_c2 hx8) (al_c rfl al_n))) (Nat.le_of_ble_eq_true rfl))) rfl (k_Node_init rfl hx8 hx11 hM h) (fun M s12 hM h => ?_)
      exact E_retV (c239 76 rfl) rfl (hQ _ _ _ hM rfl h)
    · refine E_nC (c239 19 rfl) hM (by decide) h (fun i14 M s15 hM h => ?_)
      refine L_ps c239 (n := 2) (pc1 := 24) (ls1 := [jR i1, jI v1, v2, jI r4]) (st1 := [jR i1, jR i14, jR i14]) rfl ?_
      refine E_fI (c239 24 rfl) hM (by decide) h (fun z16 h => ?_)
      refine L_ps c239 (n := 1) (pc1 := 28) (ls1 := [jR i1, jI v1, v2, jI r4]) (st1 := [jR i1, jI z16, jR i14, jR i14]) rfl ?_
      refine E_fV (c239 28 rfl) hM (by decide) h (fun x17 hx17 h => ?_)
      refine L_ps c239 (n := 3) (pc1 := 34) (ls1 := [jR i1, jI v1, v2, jI r4]) (st1 := [jI (wr (v1 - 1)), x17, jI z16, jR i14, jR i14]) rfl ?_
      refine E_aldn (c239 34 rfl) rfl hv2 ?_
      show JX 239 35 [jR i1, jI v1, v2, jI r4] [v2, jI (wr (v1 - 1)), x17, jI z16, jR i14, jR i14] M P
      refine E_cV (pc1 := 38) (c239 35 rfl) (js_t (show ssplit 3 [v2, jI (wr (v1 - 1)), x17, jI z16, jR i14, jR i14] = some ([x17, jI (wr (v1 - 1)), v2], [jI z16, jR i14, jR i14]) from ss_v (A := [v2, jI (wr (v1 - 1)), x17]) (B := [jI z16, jR i14, jR i14]) rfl (al_c (jnl_c2 hv2) (al_c rfl (al_c (jnl_c2 hx17) al_n))) (Nat.le_of_ble_eq_true rfl))) rfl (k_Lw_put1 hx17 hv2 hM h) (fun x19 M s18 hM hx19 h => ?_)
      refine L_ps c239 (n := 1) (pc1 := 39) (ls1 := [jR i1, jI v1, v2, jI r4]) (st1 := [jR i1, x19, jI z16, jR i14, jR i14]) rfl ?_
      refine E_fV (c239 39 rfl) hM (by decide) h (fun x20 hx20 h => ?_)
      refine E_cN (pc1 := 45) (c239 42 rfl) (js_s (show vsplit (3 % 100) [x20, x19, jI z16, jR i14, jR i14] = some (i14, [jR i14, jI z16, x19, x20], [jR i14]) from vs_v (A := [x20, x19, jI z16]) (B := [jR i14]) rfl (al_c (jnl_c2 hx20) (al_c (jnl_c2 hx19) (al_c rfl al_n))) (Nat.le_of_ble_eq_true rfl))) rfl (k_Node_init rfl hx19 hx20 hM h) (fun M s21 hM h => ?_)
      refine L_ps c239 (n := 1) (pc1 := 76) (ls1 := [jR i1, jI v1, v2, jI r4]) (st1 := [jR i14]) rfl ?_
      exact E_retV (c239 76 rfl) rfl (hQ _ _ _ hM rfl h)
