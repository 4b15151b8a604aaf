/-! that the printed tables do what the texts say, 3 -/
theorem k_SB_append {v0 : JV} {v1 : JV} {s : LSt} {M : JM} {Q : JV → LSt → Prop} (hv0 : jnl v0 = true) (hv1 : jnl v1 = true) (hM : R2 s M) (h : d_SB_append v0 v1 s Q) : JX 178 0 (jargs 178 [v0, v1]) [] M (P2 (QV2 Q)) := by
  unfold d_SB_append at h
  show JX 178 0 [v0, v1] [] M (P2 (QV2 Q))
  generalize hP : P2 (QV2 Q) = P
  have hQ : ∀ (r : JV) (M1 : JM) (s1 : LSt), R2 s1 M1 → jnl r = true → Q r s1 → P (.inl (some r)) M1 := by rw [← hP]; exact fun r M1 s1 a c b => ⟨s1, a, r, rfl, c, b⟩
  clear hP
  refine E_aldn (c178 0 rfl) rfl hv0 ?_
  show JX 178 1 [v0, v1] [v0] M P
  refine E_aldn (c178 1 rfl) rfl hv1 ?_
  show JX 178 2 [v0, v1] [v1, v0] M P
  obtain ⟨i1, e, g⟩ := cR_of h
  clear h
  subst e
  have h := g
  clear g
  obtain ⟨ht, h⟩ := h
  refine E_cV (pc1 := 5) (c178 2 rfl) (js_u (show vsplit (1 % 100) [v1, jR i1] = some (i1, [jR i1, v1], []) from vs_v (A := [v1]) (B := []) rfl (al_c (jnl_c2 hv1) al_n) (Nat.le_of_ble_eq_true rfl)) ((rcv_tag hM ht).trans jt179)) rfl (k_ASB_append rfl hv1 hM h) (fun x3 M s2 hM hx3 h => ?_)
  refine E_pop (c178 5 rfl) hx3 ?_
  refine L_ps c178 (n := 1) (pc1 := 7) (ls1 := [jR i1, v1]) (st1 := [jR i1]) rfl ?_
  exact E_retV (c178 7 rfl) rfl (hQ _ _ _ hM rfl h)
theorem k_SB_bridge {v0 : JV} {v1 : JV} {s : LSt} {M : JM} {Q : JV → LSt → Prop} (hv0 : jnl v0 = true) (hv1 : jnl v1 = true) (hM : R2 s M) (h : d_SB_bridge v0 v1 s Q) : JX 177 0 (jargs 177 [v0, v1]) [] M (P2 (QV2 Q)) := by
  unfold d_SB_bridge at h
  show JX 177 0 [v0, v1] [] M (P2 (QV2 Q))
  generalize hP : P2 (QV2 Q) = P
  have hQ : ∀ (r : JV) (M1 : JM) (s1 : LSt), R2 s1 M1 → jnl r = true → Q r s1 → P (.inl (some r)) M1 := by rw [← hP]; exact fun r M1 s1 a c b => ⟨s1, a, r, rfl, c, b⟩
  clear hP
  refine E_aldn (c177 0 rfl) rfl hv0 ?_
  show JX 177 1 [v0, v1] [v0] M P
  refine E_aldn (c177 1 rfl) rfl hv1 ?_
  show JX 177 2 [v0, v1] [v1, v0] M P
  obtain ⟨i1, e, g⟩ := cR_of h
  clear h
  subst e
  have h := g
  clear g
  obtain ⟨ht, h⟩ := h
  refine E_cV (pc1 := 5) (c177 2 rfl) (js_v (show vsplit 1 [v1, jR i1] = some (i1, [jR i1, v1], []) from vs_v (A := [v1]) (B := []) rfl (al_c (jnl_c2 hv1) al_n) (Nat.le_of_ble_eq_true rfl)) ((rcv_tag hM ht).trans jt178)) rfl (k_SB_append rfl hv1 hM h) (fun x3 M s2 hM hx3 h => ?_)
  exact E_retV (c177 5 rfl) hx3 (hQ _ _ _ hM hx3 h)
theorem k_ASB_init_j24 {v0 : JV} {v1 : JV} {t0 : Int} {s : LSt} {M : JM} {P : JO → JM → Prop} {g2 : JV} {g3 : JV} {g4 : JV} {Q : LSt → Prop} (hg2 : jc2 g2 = false) (hg3 : jc2 g3 = false) (hv0 : jnl v0 = true) (hv1 : jnl v1 = true) (hM : R2 s M) (hQ : ∀ (M1 : JM) (s1 : LSt), R2 s1 M1 → Q s1 → P (.inl none) M1) (h : d_ASB_init_j24 v0 v1 t0 s Q) : JX 176 24 [v0, v1, g2, g3, g4] [jI t0] M P := by
  unfold d_ASB_init_j24 at h
  refine L_istn (c176 24 rfl) (hg2) (Nat.le_of_ble_eq_true rfl) ?_
  show JX 176 25 [v0, v1, g2, jI t0, g4] [] M P
  refine E_aldn (c176 25 rfl) rfl hv1 ?_
  show JX 176 26 [v0, v1, g2, jI t0, g4] [v1] M P
  obtain ⟨i7, e, g⟩ := cR_of h
  clear h
  subst e
  have h := g
  clear g
  obtain ⟨ht, h⟩ := h
  refine E_cI (pc1 := 29) (c176 26 rfl) (js_v rfl ((rcv_tag hM ht).trans jt21)) rfl (k_String_coder rfl hM h) (fun r9 M s8 hM h => ?_)
  refine L_ps c176 (n := 1) (pc1 := 31) (ls1 := [v0, jR i7, g2, jI t0, jI r9]) (st1 := []) rfl ?_
  refine E_aldn (c176 31 rfl) rfl hv0 ?_
  show JX 176 32 [v0, jR i7, g2, jI t0, jI r9] [v0] M P
  refine L_ps c176 (n := 1) (pc1 := 34) (ls1 := [v0, jR i7, g2, jI t0, jI r9]) (st1 := [jI r9, v0]) rfl ?_
  obtain ⟨i10, e, g⟩ := cR_of h
  clear h
  subst e
  have h := g
  clear g
  refine E_pF (c := 14) (f := 3) (c176 34 rfl) hM (by decide) h (fun M s11 hM h _ => ?_)
  refine L_ps c176 (n := 2) (pc1 := 40) (ls1 := [jR i10, jR i7, g2, jI t0, jI r9]) (st1 := [jI r9, jR i10]) rfl ?_
  refine L_nb (p1 := 49) (p2 := 43) (c176 40 rfl) rfl jc_ne h (fun h => ?_) (fun h => ?_)
  · refine L_ps c176 (n := 1) (pc1 := 44) (ls1 := [jR i10, jR i7, g2, jI t0, jI r9]) (st1 := [jI t0, jR i10]) rfl ?_
    refine E_nA (c176 44 rfl) hM h (fun i12 M s13 hM h => ?_)
    refine L_ps c176 (n := 1) (pc1 := 53) (ls1 := [jR i10, jR i7, g2, jI t0, jI r9]) (st1 := [jR i12, jR i10]) rfl ?_
    refine E_pF (c := 14) (f := 2) (c176 53 rfl) hM (by decide) h (fun M s14 hM h _ => ?_)
    refine L_ps c176 (n := 2) (pc1 := 58) (ls1 := [jR i10, jR i7, g2, jI t0, jI r9]) (st1 := [jR i7, jR i10]) rfl ?_
    obtain ⟨ht, h⟩ := h
    refine E_cV (pc1 := 61) (c176 58 rfl) (js_v rfl ((rcv_tag hM ht).trans jt177)) rfl (k_SB_bridge rfl rfl hM h) (fun x16 M s15 hM hx16 h => ?_)
    refine E_pop (c176 61 rfl) hx16 ?_
    exact L_end (c176 62 rfl) rfl (hQ _ _ hM h)
  · refine L_ps c176 (n := 1) (pc1 := 50) (ls1 := [jR i10, jR i7, g2, jI t0, jI r9]) (st1 := [jI t0, jR i10]) rfl ?_
    exact h.elim
theorem k_ASB_init {v0 : JV} {v1 : JV} {s : LSt} {M : JM} {Q : LSt → Prop} (hv0 : jnl v0 = true) (hv1 : jnl v1 = true) (hM : R2 s M) (h : d_ASB_init v0 v1 s Q) : JX 176 0 (jargs 176 [v0, v1]) [] M (P2 (QN2 Q)) := by
  unfold d_ASB_init at h
  show JX 176 0 [v0, v1, jU, jU, jU] [] M (P2 (QN2 Q))
  generalize hP : P2 (QN2 Q) = P
  have hQ : ∀ (M1 : JM) (s1 : LSt), R2 s1 M1 → Q s1 → P (.inl none) M1 := by rw [← hP]; exact fun M1 s1 a b => ⟨s1, a, rfl, b⟩
  clear hP
  refine E_aldn (c176 0 rfl) rfl hv0 ?_
  show JX 176 1 [v0, v1, jU, jU, jU] [v0] M P
  obtain ⟨i1, e, g⟩ := cR_of h
  clear h
  subst e
  have h := g
  clear g
  refine E_cN (pc1 := 4) (c176 1 rfl) (js_s rfl) rfl (k_Object_init rfl hM h) (fun M s2 hM h => ?_)
  refine E_aldn (c176 4 rfl) rfl hv1 ?_
  show JX 176 5 [jR i1, v1, jU, jU, jU] [v1] M P
  obtain ⟨i4, e, g⟩ := cR_of h
  clear h
  subst e
  have h := g
  clear g
  obtain ⟨ht, h⟩ := h
  refine E_cI (pc1 := 8) (c176 5 rfl) (js_v rfl ((rcv_tag hM ht).trans jt20)) rfl (k_YString_length rfl hM h) (fun r6 M s5 hM h => ?_)
  refine L_ps c176 (n := 3) (pc1 := 12) (ls1 := [jR i1, jR i4, jI r6, jU, jU]) (st1 := [jI 2147483631, jI r6]) rfl ?_
  refine L_nb (p1 := 22) (p2 := 15) (c176 12 rfl) rfl jc_ge h (fun h => ?_) (fun h => ?_)
  · refine L_ps c176 (n := 4) (pc1 := 24) (ls1 := [jR i1, jR i4, jI r6, jU, jU]) (st1 := [jI (wr (r6 + 16))]) rfl ?_
    exact k_ASB_init_j24 rfl rfl rfl rfl hM hQ h
  · refine L_ps c176 (n := 1) (pc1 := 24) (ls1 := [jR i1, jR i4, jI r6, jU, jU]) (st1 := [jI 2147483647]) rfl ?_
    exact k_ASB_init_j24 rfl rfl rfl rfl hM hQ h
theorem k_SB_init {v0 : JV} {v1 : JV} {s : LSt} {M : JM} {Q : LSt → Prop} (hv0 : jnl v0 = true) (hv1 : jnl v1 = true) (hM : R2 s M) (h : d_SB_init v0 v1 s Q) : JX 175 0 (jargs 175 [v0, v1]) [] M (P2 (QN2 Q)) := by
  unfold d_SB_init at h
  show JX 175 0 [v0, v1] [] M (P2 (QN2 Q))
  generalize hP : P2 (QN2 Q) = P
  have hQ : ∀ (M1 : JM) (s1 : LSt), R2 s1 M1 → Q s1 → P (.inl none) M1 := by rw [← hP]; exact fun M1 s1 a b => ⟨s1, a, rfl, b⟩
  clear hP
  refine E_aldn (c175 0 rfl) rfl hv0 ?_
  show JX 175 1 [v0, v1] [v0] M P
  refine E_aldn (c175 1 rfl) rfl hv1 ?_
  show JX 175 2 [v0, v1] [v1, v0] M P
  obtain ⟨i1, e, g⟩ := cR_of h
  clear h
  subst e
  have h := g
  clear g
  refine E_cN (pc1 := 5) (c175 2 rfl) (js_s (show vsplit (1 % 100) [v1, jR i1] = some (i1, [jR i1, v1], []) from vs_v (A := [v1]) (B := []) rfl (al_c (jnl_c2 hv1) al_n) (Nat.le_of_ble_eq_true rfl))) rfl (k_ASB_init rfl hv1 hM h) (fun M s2 hM h => ?_)
  exact L_end (c175 5 rfl) rfl (hQ _ _ hM h)
theorem k_AL_size {v0 : JV} {s : LSt} {M : JM} {Q : Int → LSt → Prop} (hv0 : jnl v0 = true) (hM : R2 s M) (h : d_AL_size v0 s Q) : JX 187 0 (jargs 187 [v0]) [] M (P2 (QI2 Q)) := by
  unfold d_AL_size at h
  show JX 187 0 [v0] [] M (P2 (QI2 Q))
  generalize hP : P2 (QI2 Q) = P
  have hQ : ∀ (r : Int) (M1 : JM) (s1 : LSt), R2 s1 M1 → Q r s1 → P (.inl (some (.inl r))) M1 := by rw [← hP]; exact fun r M1 s1 a b => ⟨s1, a, r, rfl, b⟩
  clear hP
  refine E_aldn (c187 0 rfl) rfl hv0 ?_
  show JX 187 1 [v0] [v0] M P
  obtain ⟨i1, e, g⟩ := cR_of h
  clear h
  subst e
  have h := g
  clear g
  refine E_fI (c187 1 rfl) hM (by decide) h (fun z2 h => ?_)
  exact L_retI (c187 4 rfl) (hQ _ _ _ hM h)
theorem k_Objects_checkIndex {v0 : Int} {v1 : Int} {s : LSt} {M : JM} {Q : Int → LSt → Prop} (hM : R2 s M) (h : d_Objects_checkIndex v0 v1 s Q) : JX 189 0 (jargs 189 [jI v0, jI v1]) [] M (P2 (QI2 Q)) := by
  unfold d_Objects_checkIndex at h
  show JX 189 0 [jI v0, jI v1] [] M (P2 (QI2 Q))
  generalize hP : P2 (QI2 Q) = P
  have hQ : ∀ (r : Int) (M1 : JM) (s1 : LSt), R2 s1 M1 → Q r s1 → P (.inl (some (.inl r))) M1 := by rw [← hP]; exact fun r M1 s1 a b => ⟨s1, a, r, rfl, b⟩
  clear hP
  refine L_ps c189 (n := 3) (pc1 := 3) (ls1 := [jI v0, jI v1]) (st1 := [jX .null, jI v1, jI v0]) rfl ?_
  refine E_cI (pc1 := 6) (c189 3 rfl) (js_t rfl) rfl (k_Preconditions_checkIndex rfl hM h) (fun r2 M s1 hM h => ?_)
  exact L_retI (c189 6 rfl) (hQ _ _ _ hM h)
theorem k_AL_elementData {v0 : JV} {v1 : Int} {s : LSt} {M : JM} {Q : JV → LSt → Prop} (hv0 : jnl v0 = true) (hM : R2 s M) (h : d_AL_elementData v0 v1 s Q) : JX 190 0 (jargs 190 [v0, jI v1]) [] M (P2 (QV2 Q)) := by
  unfold d_AL_elementData at h
  show JX 190 0 [v0, jI v1] [] M (P2 (QV2 Q))
  generalize hP : P2 (QV2 Q) = P
  have hQ : ∀ (r : JV) (M1 : JM) (s1 : LSt), R2 s1 M1 → jnl r = true → Q r s1 → P (.inl (some r)) M1 := by rw [← hP]; exact fun r M1 s1 a c b => ⟨s1, a, r, rfl, c, b⟩
  clear hP
  refine E_aldn (c190 0 rfl) rfl hv0 ?_
  show JX 190 1 [v0, jI v1] [v0] M P
  obtain ⟨i1, e, g⟩ := cR_of h
  clear h
  subst e
  have h := g
  clear g
  refine E_fV (c190 1 rfl) hM (by decide) h (fun x2 hx2 h => ?_)
  refine L_ps c190 (n := 1) (pc1 := 5) (ls1 := [jR i1, jI v1]) (st1 := [jI v1, x2]) rfl ?_
  obtain ⟨i3, e, g⟩ := cR_of h
  clear h
  subst e
  have h := g
  clear g
  refine E_rV (c190 5 rfl) hM h (fun x4 hx4 h => ?_)
  exact E_retV (c190 6 rfl) hx4 (hQ _ _ _ hM hx4 h)
theorem k_AL_get {v0 : JV} {v1 : Int} {s : LSt} {M : JM} {Q : JV → LSt → Prop} (hv0 : jnl v0 = true) (hM : R2 s M) (h : d_AL_get v0 v1 s Q) : JX 188 0 (jargs 188 [v0, jI v1]) [] M (P2 (QV2 Q)) := by
  unfold d_AL_get at h
  show JX 188 0 [v0, jI v1] [] M (P2 (QV2 Q))
  generalize hP : P2 (QV2 Q) = P
  have hQ : ∀ (r : JV) (M1 : JM) (s1 : LSt), R2 s1 M1 → jnl r = true → Q r s1 → P (.inl (some r)) M1 := by rw [← hP]; exact fun r M1 s1 a c b => ⟨s1, a, r, rfl, c, b⟩
  clear hP
  refine L_ps c188 (n := 1) (pc1 := 1) (ls1 := [v0, jI v1]) (st1 := [jI v1]) rfl ?_
  refine E_aldn (c188 1 rfl) rfl hv0 ?_
  show JX 188 2 [v0, jI v1] [v0, jI v1] M P
  obtain ⟨i1, e, g⟩ := cR_of h
  clear h
  subst e
  have h := g
  clear g
  refine E_fI (c188 2 rfl) hM (by decide) h (fun z2 h => ?_)
  refine E_cI (pc1 := 8) (c188 5 rfl) (js_t rfl) rfl (k_Objects_checkIndex hM h) (fun r4 M s3 hM h => ?_)
  refine L_ps c188 (n := 3) (pc1 := 11) (ls1 := [jR i1, jI v1]) (st1 := [jI v1, jR i1]) rfl ?_
  obtain ⟨ht, h⟩ := h
  refine E_cV (pc1 := 14) (c188 11 rfl) (js_v rfl ((rcv_tag hM ht).trans jt190)) rfl (k_AL_elementData rfl hM h) (fun x6 M s5 hM hx6 h => ?_)
  exact E_retV (c188 14 rfl) hx6 (hQ _ _ _ hM hx6 h)
theorem k_ASB_isLatin1 {v0 : JV} {s : LSt} {M : JM} {Q : Int → LSt → Prop} (hv0 : jnl v0 = true) (hM : R2 s M) (h : d_ASB_isLatin1 v0 s Q) : JX 183 0 (jargs 183 [v0]) [] M (P2 (QI2 Q)) := by
  unfold d_ASB_isLatin1 at h
  show JX 183 0 [v0] [] M (P2 (QI2 Q))
  generalize hP : P2 (QI2 Q) = P
  have hQ : ∀ (r : Int) (M1 : JM) (s1 : LSt), R2 s1 M1 → Q r s1 → P (.inl (some (.inl r))) M1 := by rw [← hP]; exact fun r M1 s1 a b => ⟨s1, a, r, rfl, b⟩
  clear hP
  refine L_ps c183 (n := 1) (pc1 := 3) (ls1 := [v0]) (st1 := [jI 1]) rfl ?_
  rw [if_neg (by decide)] at h
  refine L_ps c183 (n := 1) (pc1 := 6) (ls1 := [v0]) (st1 := []) rfl ?_
  refine E_aldn (c183 6 rfl) rfl hv0 ?_
  show JX 183 7 [v0] [v0] M P
  obtain ⟨i1, e, g⟩ := cR_of h
  clear h
  subst e
  have h := g
  clear g
  refine E_fI (c183 7 rfl) hM (by decide) h (fun z2 h => ?_)
  refine L_nb (p1 := 17) (p2 := 13) (c183 10 rfl) rfl jc_ne h (fun h => ?_) (fun h => ?_)
  · refine L_ps c183 (n := 2) (pc1 := 18) (ls1 := [jR i1]) (st1 := [jI 1]) rfl ?_
    exact E_retZ (c183 18 rfl) (Or.inr rfl) (hQ _ _ _ hM h)
  · refine L_ps c183 (n := 1) (pc1 := 18) (ls1 := [jR i1]) (st1 := [jI 0]) rfl ?_
    exact E_retZ (c183 18 rfl) (Or.inl rfl) (hQ _ _ _ hM h)
theorem k_StringLatin1_canEncode {v0 : Int} {s : LSt} {M : JM} {Q : Int → LSt → Prop} (hM : R2 s M) (h : d_StringLatin1_canEncode v0 s Q) : JX 198 0 (jargs 198 [jI v0]) [] M (P2 (QI2 Q)) := by
  unfold d_StringLatin1_canEncode at h
  show JX 198 0 [jI v0] [] M (P2 (QI2 Q))
  generalize hP : P2 (QI2 Q) = P
  have hQ : ∀ (r : Int) (M1 : JM) (s1 : LSt), R2 s1 M1 → Q r s1 → P (.inl (some (.inl r))) M1 := by rw [← hP]; exact fun r M1 s1 a b => ⟨s1, a, r, rfl, b⟩
  clear hP
  refine L_ps c198 (n := 2) (pc1 := 4) (ls1 := [jI v0]) (st1 := [jI 255, jI v0]) rfl ?_
  refine L_br (p1 := 11) (p2 := 7) (c198 4 rfl) rfl jc_gt h (fun h => ?_) (fun h => ?_)
  · refine L_ps c198 (n := 1) (pc1 := 12) (ls1 := [jI v0]) (st1 := [jI 0]) rfl ?_
    exact E_retZ (c198 12 rfl) (Or.inl rfl) (hQ _ _ _ hM h)
  · refine L_ps c198 (n := 2) (pc1 := 12) (ls1 := [jI v0]) (st1 := [jI 1]) rfl ?_
    exact E_retZ (c198 12 rfl) (Or.inr rfl) (hQ _ _ _ hM h)
theorem k_ASB_appendC_j45 {v0 : JV} {v1 : Int} {s : LSt} {M : JM} {P : JO → JM → Prop} {Q : JV → LSt → Prop} (hv0 : jnl v0 = true) (hM : R2 s M) (hQ : ∀ (r : JV) (M1 : JM) (s1 : LSt), R2 s1 M1 → jnl r = true → Q r s1 → P (.inl (some r)) M1) (h : d_ASB_appendC_j45 v0 v1 s Q) : JX 197 45 [v0, jI v1] [] M P := by
  unfold d_ASB_appendC_j45 at h
  refine E_aldn (c197 45 rfl) rfl hv0 ?_
  show JX 197 46 [v0, jI v1] [v0] M P
  obtain ⟨i7, e, g⟩ := cR_of h
  clear h
  subst e
  have h := g
  clear g
  obtain ⟨ht, h⟩ := h
  refine E_cI (pc1 := 49) (c197 46 rfl) (js_v rfl ((rcv_tag hM ht).trans jt183)) rfl (k_ASB_isLatin1 rfl hM h) (fun r9 M s8 hM h => ?_)
  refine L_br (p1 := 56) (p2 := 52) (c197 49 rfl) rfl jc_eq h (fun h => ?_) (fun h => ?_)
  · refine L_ps c197 (n := 1) (pc1 := 57) (ls1 := [jR i7, jI v1]) (st1 := [jR i7]) rfl ?_
    refine E_fV (c197 57 rfl) hM (by decide) h (fun x10 hx10 h => ?_)
    refine L_ps c197 (n := 2) (pc1 := 62) (ls1 := [jR i7, jI v1]) (st1 := [jR i7, jR i7, x10]) rfl ?_
    refine E_fI (c197 62 rfl) hM (by decide) h (fun z11 h => ?_)
    refine L_ps c197 (n := 3) (pc1 := 68) (ls1 := [jR i7, jI v1]) (st1 := [jI (wr (z11 + 1)), jR i7, jI z11, x10]) rfl ?_
    refine E_pF (c := 14) (f := 0) (c197 68 rfl) hM (by decide) h (fun M s12 hM h _ => ?_)
    refine L_ps c197 (n := 1) (pc1 := 72) (ls1 := [jR i7, jI v1]) (st1 := [jI v1, jI z11, x10]) rfl ?_
    exact h.elim
  · refine L_ps c197 (n := 1) (pc1 := 53) (ls1 := [jR i7, jI v1]) (st1 := [jR i7]) rfl ?_
    exact h.elim
theorem k_ASB_appendC {v0 : JV} {v1 : Int} {s : LSt} {M : JM} {Q : JV → LSt → Prop} (hv0 : jnl v0 = true) (hM : R2 s M) (h : d_ASB_appendC v0 v1 s Q) : JX 197 0 (jargs 197 [v0, jI v1]) [] M (P2 (QV2 Q)) := by
  unfold d_ASB_appendC at h
  show JX 197 0 [v0, jI v1] [] M (P2 (QV2 Q))
  generalize hP : P2 (QV2 Q) = P
  have hQ : ∀ (r : JV) (M1 : JM) (s1 : LSt), R2 s1 M1 → jnl r = true → Q r s1 → P (.inl (some r)) M1 := by rw [← hP]; exact fun r M1 s1 a c b => ⟨s1, a, r, rfl, c, b⟩
  clear hP
  refine E_aldn (c197 0 rfl) rfl hv0 ?_
  show JX 197 1 [v0, jI v1] [v0] M P
  refine E_aldn (c197 1 rfl) rfl hv0 ?_
  show JX 197 2 [v0, jI v1] [v0, v0] M P
  obtain ⟨i1, e, g⟩ := cR_of h
  clear h
  subst e
  have h := g
  clear g
  refine E_fI (c197 2 rfl) hM (by decide) h (fun z2 h => ?_)
  refine L_ps c197 (n := 2) (pc1 := 7) (ls1 := [jR i1, jI v1]) (st1 := [jI (wr (z2 + 1)), jR i1]) rfl ?_
  obtain ⟨ht, h⟩ := h
  refine E_cN (pc1 := 10) (c197 7 rfl) (js_v rfl ((rcv_tag hM ht).trans jt180)) rfl (k_ASB_ensureCapacityInternal rfl hM h) (fun M s3 hM h => ?_)
  refine L_ps c197 (n := 1) (pc1 := 11) (ls1 := [jR i1, jI v1]) (st1 := [jR i1]) rfl ?_
  obtain ⟨ht, h⟩ := h
  refine E_cI (pc1 := 14) (c197 11 rfl) (js_v rfl ((rcv_tag hM ht).trans jt183)) rfl (k_ASB_isLatin1 rfl hM h) (fun r6 M s5 hM h => ?_)
  refine L_br (p1 := 45) (p2 := 17) (c197 14 rfl) rfl jc_eq h (fun h => ?_) (fun h => ?_)
  · exact k_ASB_appendC_j45 rfl hM hQ h
  · refine L_ps c197 (n := 1) (pc1 := 18) (ls1 := [jR i1, jI v1]) (st1 := [jI v1]) rfl ?_
    refine E_cI (pc1 := 21) (c197 18 rfl) (js_t rfl) rfl (k_StringLatin1_canEncode hM h) (fun r14 M s13 hM h => ?_)
    refine L_br (p1 := 45) (p2 := 24) (c197 21 rfl) rfl jc_eq h (fun h => ?_) (fun h => ?_)
    · exact k_ASB_appendC_j45 rfl hM hQ h
    · refine L_ps c197 (n := 1) (pc1 := 25) (ls1 := [jR i1, jI v1]) (st1 := [jR i1]) rfl ?_
      refine E_fV (c197 25 rfl) hM (by decide) h (fun x15 hx15 h => ?_)
      refine L_ps c197 (n := 2) (pc1 := 30) (ls1 := [jR i1, jI v1]) (st1 := [jR i1, jR i1, x15]) rfl ?_
      refine E_fI (c197 30 rfl) hM (by decide) h (fun z16 h => ?_)
      refine L_ps c197 (n := 3) (pc1 := 36) (ls1 := [jR i1, jI v1]) (st1 := [jI (wr (z16 + 1)), jR i1, jI z16, x15]) rfl ?_
      refine E_pF (c := 14) (f := 0) (c197 36 rfl) hM (by decide) h (fun M s17 hM h _ => ?_)
      refine L_ps c197 (n := 2) (pc1 := 41) (ls1 := [jR i1, jI v1]) (st1 := [jI (jb8 v1), jI z16, x15]) rfl ?_
      obtain ⟨i18, e, g⟩ := cR_of h
      clear h
      subst e
      have h := g
      clear g
      refine E_wB (c197 41 rfl) hM h (fun M s19 hM h => ?_)
      refine L_ps c197 (n := 2) (pc1 := 76) (ls1 := [jR i1, jI v1]) (st1 := [jR i1]) rfl ?_
      exact E_retV (c197 76 rfl) rfl (hQ _ _ _ hM rfl h)
theorem k_SB_appendC {v0 : JV} {v1 : Int} {s : LSt} {M : JM} {Q : JV → LSt → Prop} (hv0 : jnl v0 = true) (hM : R2 s M) (h : d_SB_appendC v0 v1 s Q) : JX 196 0 (jargs 196 [v0, jI v1]) [] M (P2 (QV2 Q)) := by
  unfold d_SB_appendC at h
  show JX 196 0 [v0, jI v1] [] M (P2 (QV2 Q))
  generalize hP : P2 (QV2 Q) = P
  have hQ : ∀ (r : JV) (M1 : JM) (s1 : LSt), R2 s1 M1 → jnl r = true → Q r s1 → P (.inl (some r)) M1 := by rw [← hP]; exact fun r M1 s1 a c b => ⟨s1, a, r, rfl, c, b⟩
  clear hP
  refine E_aldn (c196 0 rfl) rfl hv0 ?_
  show JX 196 1 [v0, jI v1] [v0] M P
  refine L_ps c196 (n := 1) (pc1 := 2) (ls1 := [v0, jI v1]) (st1 := [jI v1, v0]) rfl ?_
  obtain ⟨i1, e, g⟩ := cR_of h
  clear h
  subst e
  have h := g
  clear g
  obtain ⟨ht, h⟩ := h
  refine E_cV (pc1 := 5) (c196 2 rfl) (js_u rfl ((rcv_tag hM ht).trans jt197)) rfl (k_ASB_appendC rfl hM h) (fun x3 M s2 hM hx3 h => ?_)
  refine E_pop (c196 5 rfl) hx3 ?_
  refine L_ps c196 (n := 1) (pc1 := 7) (ls1 := [jR i1, jI v1]) (st1 := [jR i1]) rfl ?_
  exact E_retV (c196 7 rfl) rfl (hQ _ _ _ hM rfl h)
theorem k_Lw_write0_j85 {v1 : JV} {s : LSt} {M : JM} {P : JO → JM → Prop} {g0 : JV} {Q : LSt → Prop} (hv1 : jnl v1 = true) (hM : R2 s M) (hQ : ∀ (M1 : JM) (s1 : LSt), R2 s1 M1 → Q s1 → P (.inl none) M1) (h : d_Lw_write_j85 (d_Lw_write 0) v1 s Q) : JX 191 85 [g0, v1] [] M P := by
  unfold d_Lw_write_j85 at h
  refine E_aldn (c191 85 rfl) rfl hv1 ?_
  show JX 191 86 [g0, v1] [v1] M P
  refine L_ps c191 (n := 1) (pc1 := 88) (ls1 := [g0, v1]) (st1 := [jI 41, v1]) rfl ?_
  obtain ⟨i18, e, g⟩ := cR_of h
  clear h
  subst e
  have h := g
  clear g
  obtain ⟨ht, h⟩ := h
  refine E_cV (pc1 := 91) (c191 88 rfl) (js_v rfl ((rcv_tag hM ht).trans jt196)) rfl (k_SB_appendC rfl hM h) (fun x20 M s19 hM hx20 h => ?_)
  refine E_pop (c191 91 rfl) hx20 ?_
  exact L_end (c191 92 rfl) rfl (hQ _ _ hM h)
theorem k_Lw_write0 {v0 : JV} {v1 : JV} {s : LSt} {M : JM} {Q : LSt → Prop} (hv0 : jnl v0 = true) (hv1 : jnl v1 = true) (hM : R2 s M) (h : d_Lw_write 1 v0 v1 s Q) : JX 191 0 (jargs 191 [v0, v1]) [] M (P2 (QN2 Q)) := by
  have h : d_Lw_write_F (d_Lw_write 0) v0 v1 s Q := h
  unfold d_Lw_write_F at h
  show JX 191 0 [v0, v1] [] M (P2 (QN2 Q))
  generalize hP : P2 (QN2 Q) = P
  have hQ : ∀ (M1 : JM) (s1 : LSt), R2 s1 M1 → Q s1 → P (.inl none) M1 := by rw [← hP]; exact fun M1 s1 a b => ⟨s1, a, rfl, b⟩
  clear hP
  refine E_aldn (c191 0 rfl) rfl hv0 ?_
  show JX 191 1 [v0, v1] [v0] M P
  obtain ⟨i1, e, g⟩ := cR_of h
  clear h
  subst e
  have h := g
  clear g
  refine E_fI (c191 1 rfl) hM (by decide) h (fun z2 h => ?_)
  refine L_ps c191 (n := 1) (pc1 := 6) (ls1 := [jR i1, v1]) (st1 := [jI 100, jI z2]) rfl ?_
  refine L_br (p1 := 26) (p2 := 9) (c191 6 rfl) rfl jc_lt h (fun h => ?_) (fun h => ?_)
  · refine E_aldn (c191 26 rfl) rfl hv1 ?_
    show JX 191 27 [jR i1, v1] [v1] M P
    refine L_ps c191 (n := 2) (pc1 := 30) (ls1 := [jR i1, v1]) (st1 := [jR i1, jR 2000009, v1]) rfl ?_
    refine E_fI (c191 30 rfl) hM (by decide) h (fun z3 h => ?_)
    obtain ⟨ht, h⟩ := h
    refine E_cI (pc1 := 36) (c191 33 rfl) (js_v (show vsplit 1 [jI z3, jR 2000009, v1] = some (2000009, [jR 2000009, jI z3], [v1]) from vs_v (A := [jI z3]) (B := [v1]) rfl (al_c rfl al_n) (Nat.le_of_ble_eq_true rfl)) ((rcv_tag hM ht).trans jt22)) rfl (k_YString_charAt rfl hM h) (fun r5 M s4 hM h => ?_)
    obtain ⟨i6, e, g⟩ := cR_of h
    clear h
    subst e
    have h := g
    clear g
    obtain ⟨ht, h⟩ := h
    refine E_cV (pc1 := 39) (c191 36 rfl) (js_v rfl ((rcv_tag hM ht).trans jt196)) rfl (k_SB_appendC rfl hM h) (fun x8 M s7 hM hx8 h => ?_)
    refine E_pop (c191 39 rfl) hx8 ?_
    refine L_ps c191 (n := 1) (pc1 := 41) (ls1 := [jR i1, jR i6]) (st1 := [jR i1]) rfl ?_
    refine E_fV (c191 41 rfl) hM (by decide) h (fun x9 hx9 h => ?_)
    refine E_ifnn (c191 44 rfl) h (fun e g => ?_) (fun i10 e g => ?_)
    · clear h
      subst e
      have h := g
      clear g
      exact L_end (c191 47 rfl) rfl (hQ _ _ hM h)
    · clear h
      subst e
      have h := g
      clear g
      refine L_ps c191 (n := 2) (pc1 := 51) (ls1 := [jR i1, jR i6]) (st1 := [jI 40, jR i6]) rfl ?_
      obtain ⟨ht, h⟩ := h
      refine E_cV (pc1 := 54) (c191 51 rfl) (js_v rfl ((rcv_tag hM ht).trans jt196)) rfl (k_SB_appendC rfl hM h) (fun x12 M s11 hM hx12 h => ?_)
      refine E_pop (c191 54 rfl) hx12 ?_
      refine L_ps c191 (n := 1) (pc1 := 56) (ls1 := [jR i1, jR i6]) (st1 := [jR i1]) rfl ?_
      refine E_fV (c191 56 rfl) hM (by decide) h (fun x13 hx13 h => ?_)
      refine L_ps c191 (n := 1) (pc1 := 60) (ls1 := [jR i1, jR i6]) (st1 := [jR i6, x13]) rfl ?_
      exact False.elim h
  · refine E_aldn (c191 9 rfl) rfl hv1 ?_
    show JX 191 10 [jR i1, v1] [v1] M P
    refine L_ps c191 (n := 2) (pc1 := 13) (ls1 := [jR i1, v1]) (st1 := [jR i1, jI 65, v1]) rfl ?_
    refine E_fI (c191 13 rfl) hM (by decide) h (fun z26 h => ?_)
    refine L_ps c191 (n := 4) (pc1 := 21) (ls1 := [jR i1, v1]) (st1 := [jI (jc16 (wr ((wr (65 + z26)) - 100))), v1]) rfl ?_
    obtain ⟨i27, e, g⟩ := cR_of h
    clear h
    subst e
    have h := g
    clear g
    obtain ⟨ht, h⟩ := h
    refine E_cV (pc1 := 24) (c191 21 rfl) (js_v rfl ((rcv_tag hM ht).trans jt196)) rfl (k_SB_appendC rfl hM h) (fun x29 M s28 hM hx29 h => ?_)
    refine E_pop (c191 24 rfl) hx29 ?_
    exact L_end (c191 25 rfl) rfl (hQ _ _ hM h)
theorem k_Lw_write1_j85 {v1 : JV} {s : LSt} {M : JM} {P : JO → JM → Prop} {g0 : JV} {Q : LSt → Prop} (hv1 : jnl v1 = true) (hM : R2 s M) (hQ : ∀ (M1 : JM) (s1 : LSt), R2 s1 M1 → Q s1 → P (.inl none) M1) (h : d_Lw_write_j85 (d_Lw_write 1) v1 s Q) : JX 192 85 [g0, v1] [] M P := by
  unfold d_Lw_write_j85 at h
  refine E_aldn (c192 85 rfl) rfl hv1 ?_
  show JX 192 86 [g0, v1] [v1] M P
  refine L_ps c192 (n := 1) (pc1 := 88) (ls1 := [g0, v1]) (st1 := [jI 41, v1]) rfl ?_
  obtain ⟨i18, e, g⟩ := cR_of h
  clear h
  subst e
  have h := g
  clear g
  obtain ⟨ht, h⟩ := h
  refine E_cV (pc1 := 91) (c192 88 rfl) (js_v rfl ((rcv_tag hM ht).trans jt196)) rfl (k_SB_appendC rfl hM h) (fun x20 M s19 hM hx20 h => ?_)
  refine E_pop (c192 91 rfl) hx20 ?_
  exact L_end (c192 92 rfl) rfl (hQ _ _ hM h)
theorem k_Lw_write1 {v0 : JV} {v1 : JV} {s : LSt} {M : JM} {Q : LSt → Prop} (hv0 : jnl v0 = true) (hv1 : jnl v1 = true) (hM : R2 s M) (h : d_Lw_write 2 v0 v1 s Q) : JX 192 0 (jargs 192 [v0, v1]) [] M (P2 (QN2 Q)) := by
  have h : d_Lw_write_F (d_Lw_write 1) v0 v1 s Q := h
  unfold d_Lw_write_F at h
  show JX 192 0 [v0, v1] [] M (P2 (QN2 Q))
  generalize hP : P2 (QN2 Q) = P
  have hQ : ∀ (M1 : JM) (s1 : LSt), R2 s1 M1 → Q s1 → P (.inl none) M1 := by rw [← hP]; exact fun M1 s1 a b => ⟨s1, a, rfl, b⟩
  clear hP
  refine E_aldn (c192 0 rfl) rfl hv0 ?_
  show JX 192 1 [v0, v1] [v0] M P
  obtain ⟨i1, e, g⟩ := cR_of h
  clear h
  subst e
  have h := g
  clear g
  refine E_fI (c192 1 rfl) hM (by decide) h (fun z2 h => ?_)
  refine L_ps c192 (n := 1) (pc1 := 6) (ls1 := [jR i1, v1]) (st1 := [jI 100, jI z2]) rfl ?_
  refine L_br (p1 := 26) (p2 := 9) (c192 6 rfl) rfl jc_lt h (fun h => ?_) (fun h => ?_)
  · refine E_aldn (c192 26 rfl) rfl hv1 ?_
    show JX 192 27 [jR i1, v1] [v1] M P
    refine L_ps c192 (n := 2) (pc1 := 30) (ls1 := [jR i1, v1]) (st1 := [jR i1, jR 2000009, v1]) rfl ?_
    refine E_fI (c192 30 rfl) hM (by decide) h (fun z3 h => ?_)
    obtain ⟨ht, h⟩ := h
    refine E_cI (pc1 := 36) (c192 33 rfl) (js_v (show vsplit 1 [jI z3, jR 2000009, v1] = some (2000009, [jR 2000009, jI z3], [v1]) from vs_v (A := [jI z3]) (B := [v1]) rfl (al_c rfl al_n) (Nat.le_of_ble_eq_true rfl)) ((rcv_tag hM ht).trans jt22)) rfl (k_YString_charAt rfl hM h) (fun r5 M s4 hM h => ?_)
    obtain ⟨i6, e, g⟩ := cR_of h
    clear h
    subst e
    have h := g
    clear g
    obtain ⟨ht, h⟩ := h
    refine E_cV (pc1 := 39) (c192 36 rfl) (js_v rfl ((rcv_tag hM ht).trans jt196)) rfl (k_SB_appendC rfl hM h) (fun x8 M s7 hM hx8 h => ?_)
    refine E_pop (c192 39 rfl) hx8 ?_
    refine L_ps c192 (n := 1) (pc1 := 41) (ls1 := [jR i1, jR i6]) (st1 := [jR i1]) rfl ?_
    refine E_fV (c192 41 rfl) hM (by decide) h (fun x9 hx9 h => ?_)
    refine E_ifnn (c192 44 rfl) h (fun e g => ?_) (fun i10 e g => ?_)
    · clear h
      subst e
      have h := g
      clear g
      exact L_end (c192 47 rfl) rfl (hQ _ _ hM h)
    · clear h
      subst e
      have h := g
      clear g
      refine L_ps c192 (n := 2) (pc1 := 51) (ls1 := [jR i1, jR i6]) (st1 := [jI 40, jR i6]) rfl ?_
      obtain ⟨ht, h⟩ := h
      refine E_cV (pc1 := 54) (c192 51 rfl) (js_v rfl ((rcv_tag hM ht).trans jt196)) rfl (k_SB_appendC rfl hM h) (fun x12 M s11 hM hx12 h => ?_)
      refine E_pop (c192 54 rfl) hx12 ?_
      refine L_ps c192 (n := 1) (pc1 := 56) (ls1 := [jR i1, jR i6]) (st1 := [jR i1]) rfl ?_
      refine E_fV (c192 56 rfl) hM (by decide) h (fun x13 hx13 h => ?_)
      refine L_ps c192 (n := 1) (pc1 := 60) (ls1 := [jR i1, jR i6]) (st1 := [jR i6, x13]) rfl ?_
      refine E_cN (pc1 := 63) (c192 60 rfl) (js_t (show ssplit 2 [jR i6, x13] = some ([x13, jR i6], []) from ss_v (A := [jR i6, x13]) (B := []) rfl (al_c rfl (al_c (jnl_c2 hx13) al_n)) (Nat.le_of_ble_eq_true rfl))) rfl (k_Lw_write0 hx13 rfl hM h) (fun M s14 hM h => ?_)
      refine L_ps c192 (n := 1) (pc1 := 64) (ls1 := [jR i1, jR i6]) (st1 := [jR i1]) rfl ?_
      refine E_fV (c192 64 rfl) hM (by decide) h (fun x16 hx16 h => ?_)
      refine E_ifn (c192 67 rfl) h (fun e g => ?_) (fun i17 e g => ?_)
      · clear h
        subst e
        have h := g
        clear g
        exact k_Lw_write1_j85 rfl hM hQ h
      · clear h
        subst e
        have h := g
        clear g
        refine L_ps c192 (n := 2) (pc1 := 73) (ls1 := [jR i1, jR i6]) (st1 := [jI 44, jR i6]) rfl ?_
        obtain ⟨ht, h⟩ := h
        refine E_cV (pc1 := 76) (c192 73 rfl) (js_v rfl ((rcv_tag hM ht).trans jt196)) rfl (k_SB_appendC rfl hM h) (fun x22 M s21 hM hx22 h => ?_)
        refine E_pop (c192 76 rfl) hx22 ?_
        refine L_ps c192 (n := 1) (pc1 := 78) (ls1 := [jR i1, jR i6]) (st1 := [jR i1]) rfl ?_
        refine E_fV (c192 78 rfl) hM (by decide) h (fun x23 hx23 h => ?_)
        refine L_ps c192 (n := 1) (pc1 := 82) (ls1 := [jR i1, jR i6]) (st1 := [jR i6, x23]) rfl ?_
        refine E_cN (pc1 := 85) (c192 82 rfl) (js_t (show ssplit 2 [jR i6, x23] = some ([x23, jR i6], []) from ss_v (A := [jR i6, x23]) (B := []) rfl (al_c rfl (al_c (jnl_c2 hx23) al_n)) (Nat.le_of_ble_eq_true rfl))) rfl (k_Lw_write0 hx23 rfl hM h) (fun M s24 hM h => ?_)
        exact k_Lw_write1_j85 rfl hM hQ h
  · refine E_aldn (c192 9 rfl) rfl hv1 ?_
    show JX 192 10 [jR i1, v1] [v1] M P
    refine L_ps c192 (n := 2) (pc1 := 13) (ls1 := [jR i1, v1]) (st1 := [jR i1, jI 65, v1]) rfl ?_
    refine E_fI (c192 13 rfl) hM (by decide) h (fun z26 h => ?_)
    refine L_ps c192 (n := 4) (pc1 := 21) (ls1 := [jR i1, v1]) (st1 := [jI (jc16 (wr ((wr (65 + z26)) - 100))), v1]) rfl ?_
    obtain ⟨i27, e, g⟩ := cR_of h
    clear h
    subst e
    have h := g
    clear g
    obtain ⟨ht, h⟩ := h
    refine E_cV (pc1 := 24) (c192 21 rfl) (js_v rfl ((rcv_tag hM ht).trans jt196)) rfl (k_SB_appendC rfl hM h) (fun x29 M s28 hM hx29 h => ?_)
    refine E_pop (c192 24 rfl) hx29 ?_
    exact L_end (c192 25 rfl) rfl (hQ _ _ hM h)
theorem k_Lw_write2_j85 {v1 : JV} {s : LSt} {M : JM} {P : JO → JM → Prop} {g0 : JV} {Q : LSt → Prop} (hv1 : jnl v1 = true) (hM : R2 s M) (hQ : ∀ (M1 : JM) (s1 : LSt), R2 s1 M1 → Q s1 → P (.inl none) M1) (h : d_Lw_write_j85 (d_Lw_write 2) v1 s Q) : JX 193 85 [g0, v1] [] M P := by
  unfold d_Lw_write_j85 at h
  refine E_aldn (c193 85 rfl) rfl hv1 ?_
  show JX 193 86 [g0, v1] [v1] M P
  refine L_ps c193 (n := 1) (pc1 := 88) (ls1 := [g0, v1]) (st1 := [jI 41, v1]) rfl ?_
  obtain ⟨i18, e, g⟩ := cR_of h
  clear h
  subst e
  have h := g
  clear g
  obtain ⟨ht, h⟩ := h
  refine E_cV (pc1 := 91) (c193 88 rfl) (js_v rfl ((rcv_tag hM ht).trans jt196)) rfl (k_SB_appendC rfl hM h) (fun x20 M s19 hM hx20 h => ?_)
  refine E_pop (c193 91 rfl) hx20 ?_
  exact L_end (c193 92 rfl) rfl (hQ _ _ hM h)
theorem k_Lw_write2 {v0 : JV} {v1 : JV} {s : LSt} {M : JM} {Q : LSt → Prop} (hv0 : jnl v0 = true) (hv1 : jnl v1 = true) (hM : R2 s M) (h : d_Lw_write 3 v0 v1 s Q) : JX 193 0 (jargs 193 [v0, v1]) [] M (P2 (QN2 Q)) := by
  have h : d_Lw_write_F (d_Lw_write 2) v0 v1 s Q := h
  unfold d_Lw_write_F at h
  show JX 193 0 [v0, v1] [] M (P2 (QN2 Q))
  generalize hP : P2 (QN2 Q) = P
  have hQ : ∀ (M1 : JM) (s1 : LSt), R2 s1 M1 → Q s1 → P (.inl none) M1 := by rw [← hP]; exact fun M1 s1 a b => ⟨s1, a, rfl, b⟩
  clear hP
  refine E_aldn (c193 0 rfl) rfl hv0 ?_
  show JX 193 1 [v0, v1] [v0] M P
  obtain ⟨i1, e, g⟩ := cR_of h
  clear h
  subst e
  have h := g
  clear g
  refine E_fI (c193 1 rfl) hM (by decide) h (fun z2 h => ?_)
  refine L_ps c193 (n := 1) (pc1 := 6) (ls1 := [jR i1, v1]) (st1 := [jI 100, jI z2]) rfl ?_
  refine L_br (p1 := 26) (p2 := 9) (c193 6 rfl) rfl jc_lt h (fun h => ?_) (fun h => ?_)
  · refine E_aldn (c193 26 rfl) rfl hv1 ?_
    show JX 193 27 [jR i1, v1] [v1] M P
    refine L_ps c193 (n := 2) (pc1 := 30) (ls1 := [jR i1, v1]) (st1 := [jR i1, jR 2000009, v1]) rfl ?_
    refine E_fI (c193 30 rfl) hM (by decide) h (fun z3 h => ?_)
    obtain ⟨ht, h⟩ := h
    refine E_cI (pc1 := 36) (c193 33 rfl) (js_v (show vsplit 1 [jI z3, jR 2000009, v1] = some (2000009, [jR 2000009, jI z3], [v1]) from vs_v (A := [jI z3]) (B := [v1]) rfl (al_c rfl al_n) (Nat.le_of_ble_eq_true rfl)) ((rcv_tag hM ht).trans jt22)) rfl (k_YString_charAt rfl hM h) (fun r5 M s4 hM h => ?_)
    obtain ⟨i6, e, g⟩ := cR_of h
    clear h
    subst e
    have h := g
    clear g
    obtain ⟨ht, h⟩ := h
    refine E_cV (pc1 := 39) (c193 36 rfl) (js_v rfl ((rcv_tag hM ht).trans jt196)) rfl (k_SB_appendC rfl hM h) (fun x8 M s7 hM hx8 h => ?_)
    refine E_pop (c193 39 rfl) hx8 ?_
    refine L_ps c193 (n := 1) (pc1 := 41) (ls1 := [jR i1, jR i6]) (st1 := [jR i1]) rfl ?_
    refine E_fV (c193 41 rfl) hM (by decide) h (fun x9 hx9 h => ?_)
    refine E_ifnn (c193 44 rfl) h (fun e g => ?_) (fun i10 e g => ?_)
    · clear h
      subst e
      have h := g
      clear g
      exact L_end (c193 47 rfl) rfl (hQ _ _ hM h)
    · clear h
      subst e
      have h := g
      clear g
      refine L_ps c193 (n := 2) (pc1 := 51) (ls1 := [jR i1, jR i6]) (st1 := [jI 40, jR i6]) rfl ?_
      obtain ⟨ht, h⟩ := h
      refine E_cV (pc1 := 54) (c193 51 rfl) (js_v rfl ((rcv_tag hM ht).trans jt196)) rfl (k_SB_appendC rfl hM h) (fun x12 M s11 hM hx12 h => ?_)
      refine E_pop (c193 54 rfl) hx12 ?_
      refine L_ps c193 (n := 1) (pc1 := 56) (ls1 := [jR i1, jR i6]) (st1 := [jR i1]) rfl ?_
      refine E_fV (c193 56 rfl) hM (by decide) h (fun x13 hx13 h => ?_)
      refine L_ps c193 (n := 1) (pc1 := 60) (ls1 := [jR i1, jR i6]) (st1 := [jR i6, x13]) rfl ?_
      refine E_cN (pc1 := 63) (c193 60 rfl) (js_t (show ssplit 2 [jR i6, x13] = some ([x13, jR i6], []) from ss_v (A := [jR i6, x13]) (B := []) rfl (al_c rfl (al_c (jnl_c2 hx13) al_n)) (Nat.le_of_ble_eq_true rfl))) rfl (k_Lw_write1 hx13 rfl hM h) (fun M s14 hM h => ?_)
      refine L_ps c193 (n := 1) (pc1 := 64) (ls1 := [jR i1, jR i6]) (st1 := [jR i1]) rfl ?_
      refine E_fV (c193 64 rfl) hM (by decide) h (fun x16 hx16 h => ?_)
      refine E_ifn (c193 67 rfl) h (fun e g => ?_) (fun i17 e g => ?_)
      · clear h
        subst e
        have h := g
        clear g
        exact k_Lw_write2_j85 rfl hM hQ h
      · clear h
        subst e
        have h := g
        clear g
        refine L_ps c193 (n := 2) (pc1 := 73) (ls1 := [jR i1, jR i6]) (st1 := [jI 44, jR i6]) rfl ?_
        obtain ⟨ht, h⟩ := h
        refine E_cV (pc1 := 76) (c193 73 rfl) (js_v rfl ((rcv_tag hM ht).trans jt196)) rfl (k_SB_appendC rfl hM h) (fun x22 M s21 hM hx22 h => ?_)
        refine E_pop (c193 76 rfl) hx22 ?_
        refine L_ps c193 (n := 1) (pc1 := 78) (ls1 := [jR i1, jR i6]) (st1 := [jR i1]) rfl ?_
        refine E_fV (c193 78 rfl) hM (by decide) h (fun x23 hx23 h => ?_)
        refine L_ps c193 (n := 1) (pc1 := 82) (ls1 := [jR i1, jR i6]) (st1 := [jR i6, x23]) rfl ?_
        refine E_cN (pc1 := 85) (c193 82 rfl) (js_t (show ssplit 2 [jR i6, x23] = some ([x23, jR i6], []) from ss_v (A := [jR i6, x23]) (B := []) rfl (al_c rfl (al_c (jnl_c2 hx23) al_n)) (Nat.le_of_ble_eq_true rfl))) rfl (k_Lw_write1 hx23 rfl hM h) (fun M s24 hM h => ?_)
        exact k_Lw_write2_j85 rfl hM hQ h
  · refine E_aldn (c193 9 rfl) rfl hv1 ?_
    show JX 193 10 [jR i1, v1] [v1] M P
    refine L_ps c193 (n := 2) (pc1 := 13) (ls1 := [jR i1, v1]) (st1 := [jR i1, jI 65, v1]) rfl ?_
    refine E_fI (c193 13 rfl) hM (by decide) h (fun z26 h => ?_)
    refine L_ps c193 (n := 4) (pc1 := 21) (ls1 := [jR i1, v1]) (st1 := [jI (jc16 (wr ((wr (65 + z26)) - 100))), v1]) rfl ?_
    obtain ⟨i27, e, g⟩ := cR_of h
    clear h
    subst e
    have h := g
    clear g
    obtain ⟨ht, h⟩ := h
    refine E_cV (pc1 := 24) (c193 21 rfl) (js_v rfl ((rcv_tag hM ht).trans jt196)) rfl (k_SB_appendC rfl hM h) (fun x29 M s28 hM hx29 h => ?_)
    refine E_pop (c193 24 rfl) hx29 ?_
    exact L_end (c193 25 rfl) rfl (hQ _ _ hM h)
theorem k_Lw_write3_j85 {v1 : JV} {s : LSt} {M : JM} {P : JO → JM → Prop} {g0 : JV} {Q : LSt → Prop} (hv1 : jnl v1 = true) (hM : R2 s M) (hQ : ∀ (M1 : JM) (s1 : LSt), R2 s1 M1 → Q s1 → P (.inl none) M1) (h : d_Lw_write_j85 (d_Lw_write 3) v1 s Q) : JX 194 85 [g0, v1] [] M P := by
  unfold d_Lw_write_j85 at h
  refine E_aldn (c194 85 rfl) rfl hv1 ?_
  show JX 194 86 [g0, v1] [v1] M P
  refine L_ps c194 (n := 1) (pc1 := 88) (ls1 := [g0, v1]) (st1 := [jI 41, v1]) rfl ?_
  obtain ⟨i18, e, g⟩ := cR_of h
  clear h
  subst e
  have h := g
  clear g
  obtain ⟨ht, h⟩ := h
  refine E_cV (pc1 := 91) (c194 88 rfl) (js_v rfl ((rcv_tag hM ht).trans jt196)) rfl (k_SB_appendC rfl hM h) (fun x20 M s19 hM hx20 h => ?_)
  refine E_pop (c194 91 rfl) hx20 ?_
  exact L_end (c194 92 rfl) rfl (hQ _ _ hM h)
theorem k_Lw_write3 {v0 : JV} {v1 : JV} {s : LSt} {M : JM} {Q : LSt → Prop} (hv0 : jnl v0 = true) (hv1 : jnl v1 = true) (hM : R2 s M) (h : d_Lw_write 4 v0 v1 s Q) : JX 194 0 (jargs 194 [v0, v1]) [] M (P2 (QN2 Q)) := by
  have h : d_Lw_write_F (d_Lw_write 3) v0 v1 s Q := h
  unfold d_Lw_write_F at h
  show JX 194 0 [v0, v1] [] M (P2 (QN2 Q))
  generalize hP : P2 (QN2 Q) = P
  have hQ : ∀ (M1 : JM) (s1 : LSt), R2 s1 M1 → Q s1 → P (.inl none) M1 := by rw [← hP]; exact fun M1 s1 a b => ⟨s1, a, rfl, b⟩
  clear hP
  refine E_aldn (c194 0 rfl) rfl hv0 ?_
  show JX 194 1 [v0, v1] [v0] M P
  obtain ⟨i1, e, g⟩ := cR_of h
  clear h
  subst e
  have h := g
  clear g
  refine E_fI (c194 1 rfl) hM (by decide) h (fun z2 h => ?_)
  refine L_ps c194 (n := 1) (pc1 := 6) (ls1 := [jR i1, v1]) (st1 := [jI 100, jI z2]) rfl ?_
  refine L_br (p1 := 26) (p2 := 9) (c194 6 rfl) rfl jc_lt h (fun h => ?_) (fun h => ?_)
  · refine E_aldn (c194 26 rfl) rfl hv1 ?_
    show JX 194 27 [jR i1, v1] [v1] M P
    refine L_ps c194 (n := 2) (pc1 := 30) (ls1 := [jR i1, v1]) (st1 := [jR i1, jR 2000009, v1]) rfl ?_
    refine E_fI (c194 30 rfl) hM (by decide) h (fun z3 h => ?_)
    obtain ⟨ht, h⟩ := h
    refine E_cI (pc1 := 36) (c194 33 rfl) (js_v (show vsplit 1 [jI z3, jR 2000009, v1] = some (2000009, [jR 2000009, jI z3], [v1]) from vs_v (A := [jI z3]) (B := [v1]) rfl (al_c rfl al_n) (Nat.le_of_ble_eq_true rfl)) ((rcv_tag hM ht).trans jt22)) rfl (k_YString_charAt rfl hM h) (fun r5 M s4 hM h => ?_)
    obtain ⟨i6, e, g⟩ := cR_of h
    clear h
    subst e
    have h := g
    clear g
    obtain ⟨ht, h⟩ := h
    refine E_cV (pc1 := 39) (c194 36 rfl) (js_v rfl ((rcv_tag hM ht).trans jt196)) rfl (k_SB_appendC rfl hM h) (fun x8 M s7 hM hx8 h => ?_)
    refine E_pop (c194 39 rfl) hx8 ?_
    refine L_ps c194 (n := 1) (pc1 := 41) (ls1 := [jR i1, jR i6]) (st1 := [jR i1]) rfl ?_
    refine E_fV (c194 41 rfl) hM (by decide) h (fun x9 hx9 h => ?_)
    refine E_ifnn (c194 44 rfl) h (fun e g => ?_) (fun i10 e g => ?_)
    · clear h
      subst e
      have h := g
      clear g
      exact L_end (c194 47 rfl) rfl (hQ _ _ hM h)
    · clear h
      subst e
      have h := g
      clear g
      refine L_ps c194 (n := 2) (pc1 := 51) (ls1 := [jR i1, jR i6]) (st1 := [jI 40, jR i6]) rfl ?_
      obtain ⟨ht, h⟩ := h
      refine E_cV (pc1 := 54) (c194 51 rfl) (js_v rfl ((rcv_tag hM ht).trans jt196)) rfl (k_SB_appendC rfl hM h) (fun x12 M s11 hM hx12 h => ?_)
      refine E_pop (c194 54 rfl) hx12 ?_
      refine L_ps c194 (n := 1) (pc1 := 56) (ls1 := [jR i1, jR i6]) (st1 := [jR i1]) rfl ?_
      refine E_fV (c194 56 rfl) hM (by decide) h (fun x13 hx13 h => ?_)
      refine L_ps c194 (n := 1) (pc1 := 60) (ls1 := [jR i1, jR i6]) (st1 := [jR i6, x13]) rfl ?_
      refine E_cN (pc1 := 63) (c194 60 rfl) (js_t (show ssplit 2 [jR i6, x13] = some ([x13, jR i6], []) from ss_v (A := [jR i6, x13]) (B := []) rfl (al_c rfl (al_c (jnl_c2 hx13) al_n)) (Nat.le_of_ble_eq_true rfl))) rfl (k_Lw_write2 hx13 rfl hM h) (fun M s14 hM h => ?_)
      refine L_ps c194 (n := 1) (pc1 := 64) (ls1 := [jR i1, jR i6]) (st1 := [jR i1]) rfl ?_
      refine E_fV (c194 64 rfl) hM (by decide) h (fun x16 hx16 h => ?_)
      refine E_ifn (c194 67 rfl) h (fun e g => ?_) (fun i17 e g => ?_)
      · clear h
        subst e
        have h := g
        clear g
        exact k_Lw_write3_j85 rfl hM hQ h
      · clear h
        subst e
        have h := g
        clear g
        refine L_ps c194 (n := 2) (pc1 := 73) (ls1 := [jR i1, jR i6]) (st1 := [jI 44, jR i6]) rfl ?_
        obtain ⟨ht, h⟩ := h
        refine E_cV (pc1 := 76) (c194 73 rfl) (js_v rfl ((rcv_tag hM ht).trans jt196)) rfl (k_SB_appendC rfl hM h) (fun x22 M s21 hM hx22 h => ?_)
        refine E_pop (c194 76 rfl) hx22 ?_
        refine L_ps c194 (n := 1) (pc1 := 78) (ls1 := [jR i1, jR i6]) (st1 := [jR i1]) rfl ?_
        refine E_fV (c194 78 rfl) hM (by decide) h (fun x23 hx23 h => ?_)
        refine L_ps c194 (n := 1) (pc1 := 82) (ls1 := [jR i1, jR i6]) (st1 := [jR i6, x23]) rfl ?_
        refine E_cN (pc1 := 85) (c194 82 rfl) (js_t (show ssplit 2 [jR i6, x23] = some ([x23, jR i6], []) from ss_v (A := [jR i6, x23]) (B := []) rfl (al_c rfl (al_c (jnl_c2 hx23) al_n)) (Nat.le_of_ble_eq_true rfl))) rfl (k_Lw_write2 hx23 rfl hM h) (fun M s24 hM h => ?_)
        exact k_Lw_write3_j85 rfl hM hQ h
  · refine E_aldn (c194 9 rfl) rfl hv1 ?_
    show JX 194 10 [jR i1, v1] [v1] M P
    refine L_ps c194 (n := 2) (pc1 := 13) (ls1 := [jR i1, v1]) (st1 := [jR i1, jI 65, v1]) rfl ?_
    refine E_fI (c194 13 rfl) hM (by decide) h (fun z26 h => ?_)
    refine L_ps c194 (n := 4) (pc1 := 21) (ls1 := [jR i1, v1]) (st1 := [jI (jc16 (wr ((wr (65 + z26)) - 100))), v1]) rfl ?_
    obtain ⟨i27, e, g⟩ := cR_of h
    clear h
    subst e
    have h := g
    clear g
    obtain ⟨ht, h⟩ := h
    refine E_cV (pc1 := 24) (c194 21 rfl) (js_v rfl ((rcv_tag hM ht).trans jt196)) rfl (k_SB_appendC rfl hM h) (fun x29 M s28 hM hx29 h => ?_)
    refine E_pop (c194 24 rfl) hx29 ?_
    exact L_end (c194 25 rfl) rfl (hQ _ _ hM h)
theorem k_Lw_write4_j85 {v1 : JV} {s : LSt} {M : JM} {P : JO → JM → Prop} {g0 : JV} {Q : LSt → Prop} (hv1 : jnl v1 = true) (hM : R2 s M) (hQ : ∀ (M1 : JM) (s1 : LSt), R2 s1 M1 → Q s1 → P (.inl none) M1) (h : d_Lw_write_j85 (d_Lw_write 4) v1 s Q) : JX 195 85 [g0, v1] [] M P := by
  unfold d_Lw_write_j85 at h
  refine E_aldn (c195 85 rfl) rfl hv1 ?_
  show JX 195 86 [g0, v1] [v1] M P
  refine L_ps c195 (n := 1) (pc1 := 88) (ls1 := [g0, v1]) (st1 := [jI 41, v1]) rfl ?_
  obtain ⟨i18, e, g⟩ := cR_of h
  clear h
  subst e
  have h := g
  clear g
  obtain ⟨ht, h⟩ := h
  refine E_cV (pc1 := 91) (c195 88 rfl) (js_v rfl ((rcv_tag hM ht).trans jt196)) rfl (k_SB_appendC rfl hM h) (fun x20 M s19 hM hx20 h => ?_)
  refine E_pop (c195 91 rfl) hx20 ?_
  exact L_end (c195 92 rfl) rfl (hQ _ _ hM h)
theorem k_Lw_write4 {v0 : JV} {v1 : JV} {s : LSt} {M : JM} {Q : LSt → Prop} (hv0 : jnl v0 = true) (hv1 : jnl v1 = true) (hM : R2 s M) (h : d_Lw_write 5 v0 v1 s Q) : JX 195 0 (jargs 195 [v0, v1]) [] M (P2 (QN2 Q)) := by
  have h : d_Lw_write_F (d_Lw_write 4) v0 v1 s Q := h
  unfold d_Lw_write_F at h
  show JX 195 0 [v0, v1] [] M (P2 (QN2 Q))
  generalize hP : P2 (QN2 Q) = P
  have hQ : ∀ (M1 : JM) (s1 : LSt), R2 s1 M1 → Q s1 → P (.inl none) M1 := by rw [← hP]; exact fun M1 s1 a b => ⟨s1, a, rfl, b⟩
  clear hP
  refine E_aldn (c195 0 rfl) rfl hv0 ?_
  show JX 195 1 [v0, v1] [v0] M P
  obtain ⟨i1, e, g⟩ := cR_of h
  clear h
  subst e
  have h := g
  clear g
  refine E_fI (c195 1 rfl) hM (by decide) h (fun z2 h => ?_)
  refine L_ps c195 (n := 1) (pc1 := 6) (ls1 := [jR i1, v1]) (st1 := [jI 100, jI z2]) rfl ?_
  refine L_br (p1 := 26) (p2 := 9) (c195 6 rfl) rfl jc_lt h (fun h => ?_) (fun h => ?_)
  · refine E_aldn (c195 26 rfl) rfl hv1 ?_
    show JX 195 27 [jR i1, v1] [v1] M P
    refine L_ps c195 (n := 2) (pc1 := 30) (ls1 := [jR i1, v1]) (st1 := [jR i1, jR 2000009, v1]) rfl ?_
    refine E_fI (c195 30 rfl) hM (by decide) h (fun z3 h => ?_)
    obtain ⟨ht, h⟩ := h
    refine E_cI (pc1 := 36) (c195 33 rfl) (js_v (show vsplit 1 [jI z3, jR 2000009, v1] = some (2000009, [jR 2000009, jI z3], [v1]) from vs_v (A := [jI z3]) (B := [v1]) rfl (al_c rfl al_n) (Nat.le_of_ble_eq_true rfl)) ((rcv_tag hM ht).trans jt22)) rfl (k_YString_charAt rfl hM h) (fun r5 M s4 hM h => ?_)
    obtain ⟨i6, e, g⟩ := cR_of h
    clear h
    subst e
    have h := g
    clear g
    obtain ⟨ht, h⟩ := h
    refine E_cV (pc1 := 39) (c195 36 rfl) (js_v rfl ((rcv_tag hM ht).trans jt196)) rfl (k_SB_appendC rfl hM h) (fun x8 M s7 hM hx8 h => ?_)
    refine E_pop (c195 39 rfl) hx8 ?_
    refine L_ps c195 (n := 1) (pc1 := 41) (ls1 := [jR i1, jR i6]) (st1 := [jR i1]) rfl ?_
    refine E_fV (c195 41 rfl) hM (by decide) h (fun x9 hx9 h => ?_)
    refine E_ifnn (c195 44 rfl) h (fun e g => ?_) (fun i10 e g => ?_)
    · clear h
      subst e
      have h := g
      clear g
      exact L_end (c195 47 rfl) rfl (hQ _ _ hM h)
    · clear h
      subst e
      have h := g
      clear g
      refine L_ps c195 (n := 2) (pc1 := 51) (ls1 := [jR i1, jR i6]) (st1 := [jI 40, jR i6]) rfl ?_
      obtain ⟨ht, h⟩ := h
      refine E_cV (pc1 := 54) (c195 51 rfl) (js_v rfl ((rcv_tag hM ht).trans jt196)) rfl (k_SB_appendC rfl hM h) (fun x12 M s11 hM hx12 h => ?_)
      refine E_pop (c195 54 rfl) hx12 ?_
      refine L_ps c195 (n := 1) (pc1 := 56) (ls1 := [jR i1, jR i6]) (st1 := [jR i1]) rfl ?_
      refine E_fV (c195 56 rfl) hM (by decide) h (fun x13 hx13 h => ?_)
      refine L_ps c195 (n := 1) (pc1 := 60) (ls1 := [jR i1, jR i6]) (st1 := [jR i6, x13]) rfl ?_
      refine E_cN (pc1 := 63) (c195 60 rfl) (js_t (show ssplit 2 [jR i6, x13] = some ([x13, jR i6], []) from ss_v (A := [jR i6, x13]) (B := []) rfl (al_c rfl (al_c (jnl_c2 hx13) al_n)) (Nat.le_of_ble_eq_true rfl))) rfl (k_Lw_write3 hx13 rfl hM h) (fun M s14 hM h => ?_)
      refine L_ps c195 (n := 1) (pc1 := 64) (ls1 := [jR i1, jR i6]) (st1 := [jR i1]) rfl ?_
      refine E_fV (c195 64 rfl) hM (by decide) h (fun x16 hx16 h => ?_)
      refine E_ifn (c195 67 rfl) h (fun e g => ?_) (fun i17 e g => ?_)
      · clear h
        subst e
        have h := g
        clear g
        exact k_Lw_write4_j85 rfl hM hQ h
      · clear h
        subst e
        have h := g
        clear g
        refine L_ps c195 (n := 2) (pc1 := 73) (ls1 := [jR i1, jR i6]) (st1 := [jI 44, jR i6]) rfl ?_
        obtain ⟨ht, h⟩ := h
        refine E_cV (pc1 := 76) (c195 73 rfl) (js_v rfl ((rcv_tag hM ht).trans jt196)) rfl (k_SB_appendC rfl hM h) (fun x22 M s21 hM hx22 h => ?_)
        refine E_pop (c195 76 rfl) hx22 ?_
        refine L_ps c195 (n := 1) (pc1 := 78) (ls1 := [jR i1, jR i6]) (st1 := [jR i1]) rfl ?_
        refine E_fV (c195 78 rfl) hM (by decide) h (fun x23 hx23 h => ?_)
        refine L_ps c195 (n := 1) (pc1 := 82) (ls1 := [jR i1, jR i6]) (st1 := [jR i6, x23]) rfl ?_
        refine E_cN (pc1 := 85) (c195 82 rfl) (js_t (show ssplit 2 [jR i6, x23] = some ([x23, jR i6], []) from ss_v (A := [jR i6, x23]) (B := []) rfl (al_c rfl (al_c (jnl_c2 hx23) al_n)) (Nat.le_of_ble_eq_true rfl))) rfl (k_Lw_write3 hx23 rfl hM h) (fun M s24 hM h => ?_)
        exact k_Lw_write4_j85 rfl hM hQ h
  · refine E_aldn (c195 9 rfl) rfl hv1 ?_
    show JX 195 10 [jR i1, v1] [v1] M P
    refine L_ps c195 (n := 2) (pc1 := 13) (ls1 := [jR i1, v1]) (st1 := [jR i1, jI 65, v1]) rfl ?_
    refine E_fI (c195 13 rfl) hM (by decide) h (fun z26 h => ?_)
    refine L_ps c195 (n := 4) (pc1 := 21) (ls1 := [jR i1, v1]) (st1 := [jI (jc16 (wr ((wr (65 + z26)) - 100))), v1]) rfl ?_
    obtain ⟨i27, e, g⟩ := cR_of h
    clear h
    subst e
    have h := g
    clear g
    obtain ⟨ht, h⟩ := h
    refine E_cV (pc1 := 24) (c195 21 rfl) (js_v rfl ((rcv_tag hM ht).trans jt196)) rfl (k_SB_appendC rfl hM h) (fun x29 M s28 hM hx29 h => ?_)
    refine E_pop (c195 24 rfl) hx29 ?_
    exact L_end (c195 25 rfl) rfl (hQ _ _ hM h)
theorem k_Lw_size0 {v0 : JV} {s : LSt} {M : JM} {Q : Int → LSt → Prop} (hv0 : jnl v0 = true) (hM : R2 s M) (h : d_Lw_size 1 v0 s Q) : JX 204 0 (jargs 204 [v0]) [] M (P2 (QI2 Q)) := by
  have h : d_Lw_size_F (d_Lw_size 0) v0 s Q := h
  unfold d_Lw_size_F at h
  show JX 204 0 [v0] [] M (P2 (QI2 Q))
  generalize hP : P2 (QI2 Q) = P
  have hQ : ∀ (r : Int) (M1 : JM) (s1 : LSt), R2 s1 M1 → Q r s1 → P (.inl (some (.inl r))) M1 := by rw [← hP]; exact fun r M1 s1 a b => ⟨s1, a, r, rfl, b⟩
  clear hP
  refine E_aldn (c204 0 rfl) rfl hv0 ?_
  show JX 204 1 [v0] [v0] M P
  refine E_ifnn (c204 1 rfl) h (fun e g => ?_) (fun i1 e g => ?_)
  · clear h
    subst e
    have h := g
    clear g
    refine L_ps c204 (n := 2) (pc1 := 25) (ls1 := [jX .null]) (st1 := [jI 0]) rfl ?_
    exact L_retI (c204 25 rfl) (hQ _ _ _ hM h)
  · clear h
    subst e
    have h := g
    clear g
    refine L_ps c204 (n := 2) (pc1 := 10) (ls1 := [jR i1]) (st1 := [jR i1, jI 1]) rfl ?_
    refine E_fV (c204 10 rfl) hM (by decide) h (fun x2 hx2 h => ?_)
    exact False.elim h
theorem k_Lw_size1 {v0 : JV} {s : LSt} {M : JM} {Q : Int → LSt → Prop} (hv0 : jnl v0 = true) (hM : R2 s M) (h : d_Lw_size 2 v0 s Q) : JX 205 0 (jargs 205 [v0]) [] M (P2 (QI2 Q)) := by
  have h : d_Lw_size_F (d_Lw_size 1) v0 s Q := h
  unfold d_Lw_size_F at h
  show JX 205 0 [v0] [] M (P2 (QI2 Q))
  generalize hP : P2 (QI2 Q) = P
  have hQ : ∀ (r : Int) (M1 : JM) (s1 : LSt), R2 s1 M1 → Q r s1 → P (.inl (some (.inl r))) M1 := by rw [← hP]; exact fun r M1 s1 a b => ⟨s1, a, r, rfl, b⟩
  clear hP
  refine E_aldn (c205 0 rfl) rfl hv0 ?_
  show JX 205 1 [v0] [v0] M P
  refine E_ifnn (c205 1 rfl) h (fun e g => ?_) (fun i1 e g => ?_)
  · clear h
    subst e
    have h := g
    clear g
    refine L_ps c205 (n := 2) (pc1 := 25) (ls1 := [jX .null]) (st1 := [jI 0]) rfl ?_
    exact L_retI (c205 25 rfl) (hQ _ _ _ hM h)
  · clear h
    subst e
    have h := g
    clear g
    refine L_ps c205 (n := 2) (pc1 := 10) (ls1 := [jR i1]) (st1 := [jR i1, jI 1]) rfl ?_
    refine E_fV (c205 10 rfl) hM (by decide) h (fun x2 hx2 h => ?_)
    refine E_cI (pc1 := 16) (c205 13 rfl) (js_t (show ssplit 1 [x2, jI 1] = some ([x2], [jI 1]) from ss_v (A := [x2]) (B := [jI 1]) rfl (al_c (jnl_c2 hx2) al_n) (Nat.le_of_ble_eq_true rfl))) rfl (k_Lw_size0 hx2 hM h) (fun r4 M s3 hM h => ?_)
    refine L_ps c205 (n := 2) (pc1 := 18) (ls1 := [jR i1]) (st1 := [jR i1, jI (wr (1 + r4))]) rfl ?_
    refine E_fV (c205 18 rfl) hM (by decide) h (fun x5 hx5 h => ?_)
    refine E_cI (pc1 := 24) (c205 21 rfl) (js_t (show ssplit 1 [x5, jI (wr (1 + r4))] = some ([x5], [jI (wr (1 + r4))]) from ss_v (A := [x5]) (B := [jI (wr (1 + r4))]) rfl (al_c (jnl_c2 hx5) al_n) (Nat.le_of_ble_eq_true rfl))) rfl (k_Lw_size0 hx5 hM h) (fun r7 M s6 hM h => ?_)
    refine L_ps c205 (n := 1) (pc1 := 25) (ls1 := [jR i1]) (st1 := [jI (wr ((wr (1 + r4)) + r7))]) rfl ?_
    exact L_retI (c205 25 rfl) (hQ _ _ _ hM h)
theorem k_Lw_size2 {v0 : JV} {s : LSt} {M : JM} {Q : Int → LSt → Prop} (hv0 : jnl v0 = true) (hM : R2 s M) (h : d_Lw_size 3 v0 s Q) : JX 206 0 (jargs 206 [v0]) [] M (P2 (QI2 Q)) := by
  have h : d_Lw_size_F (d_Lw_size 2) v0 s Q := h
  unfold d_Lw_size_F at h
  show JX 206 0 [v0] [] M (P2 (QI2 Q))
  generalize hP : P2 (QI2 Q) = P
  have hQ : ∀ (r : Int) (M1 : JM) (s1 : LSt), R2 s1 M1 → Q r s1 → P (.inl (some (.inl r))) M1 := by rw [← hP]; exact fun r M1 s1 a b => ⟨s1, a, r, rfl, b⟩
  clear hP
  refine E_aldn (c206 0 rfl) rfl hv0 ?_
  show JX 206 1 [v0] [v0] M P
  refine E_ifnn (c206 1 rfl) h (fun e g => ?_) (fun i1 e g => ?_)
  · clear h
    subst e
    have h := g
    clear g
    refine L_ps c206 (n := 2) (pc1 := 25) (ls1 := [jX .null]) (st1 := [jI 0]) rfl ?_
    exact L_retI (c206 25 rfl) (hQ _ _ _ hM h)
  · clear h
    subst e
    have h := g
    clear g
    refine L_ps c206 (n := 2) (pc1 := 10) (ls1 := [jR i1]) (st1 := [jR i1, jI 1]) rfl ?_
    refine E_fV (c206 10 rfl) hM (by decide) h (fun x2 hx2 h => ?_)
    refine E_cI (pc1 := 16) (c206 13 rfl) (js_t (show ssplit 1 [x2, jI 1] = some ([x2], [jI 1]) from ss_v (A := [x2]) (B := [jI 1]) rfl (al_c (jnl_c2 hx2) al_n) (Nat.le_of_ble_eq_true rfl))) rfl (k_Lw_size1 hx2 hM h) (fun r4 M s3 hM h => ?_)
    refine L_ps c206 (n := 2) (pc1 := 18) (ls1 := [jR i1]) (st1 := [jR i1, jI (wr (1 + r4))]) rfl ?_
    refine E_fV (c206 18 rfl) hM (by decide) h (fun x5 hx5 h => ?_)
    refine E_cI (pc1 := 24) (c206 21 rfl) (js_t (show ssplit 1 [x5, jI (wr (1 + r4))] = some ([x5], [jI (wr (1 + r4))]) from ss_v (A := [x5]) (B := [jI (wr (1 + r4))]) rfl (al_c (jnl_c2 hx5) al_n) (Nat.le_of_ble_eq_true rfl))) rfl (k_Lw_size1 hx5 hM h) (fun r7 M s6 hM h => ?_)
    refine L_ps c206 (n := 1) (pc1 := 25) (ls1 := [jR i1]) (st1 := [jI (wr ((wr (1 + r4)) + r7))]) rfl ?_
    exact L_retI (c206 25 rfl) (hQ _ _ _ hM h)
theorem k_Lw_size3 {v0 : JV} {s : LSt} {M : JM} {Q : Int → LSt → Prop} (hv0 : jnl v0 = true) (hM : R2 s M) (h : d_Lw_size 4 v0 s Q) : JX 207 0 (jargs 207 [v0]) [] M (P2 (QI2 Q)) := by
  have h : d_Lw_size_F (d_Lw_size 3) v0 s Q := h
  unfold d_Lw_size_F at h
  show JX 207 0 [v0] [] M (P2 (QI2 Q))
  generalize hP : P2 (QI2 Q) = P
  have hQ : ∀ (r : Int) (M1 : JM) (s1 : LSt), R2 s1 M1 → Q r s1 → P (.inl (some (.inl r))) M1 := by rw [← hP]; exact fun r M1 s1 a b => ⟨s1, a, r, rfl, b⟩
  clear hP
  refine E_aldn (c207 0 rfl) rfl hv0 ?_
  show JX 207 1 [v0] [v0] M P
  refine E_ifnn (c207 1 rfl) h (fun e g => ?_) (fun i1 e g => ?_)
  · clear h
    subst e
    have h := g
    clear g
    refine L_ps c207 (n := 2) (pc1 := 25) (ls1 := [jX .null]) (st1 := [jI 0]) rfl ?_
    exact L_retI (c207 25 rfl) (hQ _ _ _ hM h)
  · clear h
    subst e
    have h := g
    clear g
    refine L_ps c207 (n := 2) (pc1 := 10) (ls1 := [jR i1]) (st1 := [jR i1, jI 1]) rfl ?_
    refine E_fV (c207 10 rfl) hM (by decide) h (fun x2 hx2 h => ?_)
    refine E_cI (pc1 := 16) (c207 13 rfl) (js_t (show ssplit 1 [x2, jI 1] = some ([x2], [jI 1]) from ss_v (A := [x2]) (B := [jI 1]) rfl (al_c (jnl_c2 hx2) al_n) (Nat.le_of_ble_eq_true rfl))) rfl (k_Lw_size2 hx2 hM h) (fun r4 M s3 hM h => ?_)
    refine L_ps c207 (n := 2) (pc1 := 18) (ls1 := [jR i1]) (st1 := [jR i1, jI (wr (1 + r4))]) rfl ?_
    refine E_fV (c207 18 rfl) hM (by decide) h (fun x5 hx5 h => ?_)
    refine E_cI (pc1 := 24) (c207 21 rfl) (js_t (show ssplit 1 [x5, jI (wr (1 + r4))] = some ([x5], [jI (wr (1 + r4))]) from ss_v (A := [x5]) (B := [jI (wr (1 + r4))]) rfl (al_c (jnl_c2 hx5) al_n) (Nat.le_of_ble_eq_true rfl))) rfl (k_Lw_size2 hx5 hM h) (fun r7 M s6 hM h => ?_)
    refine L_ps c207 (n := 1) (pc1 := 25) (ls1 := [jR i1]) (st1 := [jI (wr ((wr (1 + r4)) + r7))]) rfl ?_
    exact L_retI (c207 25 rfl) (hQ _ _ _ hM h)
theorem k_Lw_size4 {v0 : JV} {s : LSt} {M : JM} {Q : Int → LSt → Prop} (hv0 : jnl v0 = true) (hM : R2 s M) (h : d_Lw_size 5 v0 s Q) : JX 208 0 (jargs 208 [v0]) [] M (P2 (QI2 Q)) := by
  have h : d_Lw_size_F (d_Lw_size 4) v0 s Q := h
  unfold d_Lw_size_F at h
  show JX 208 0 [v0] [] M (P2 (QI2 Q))
  generalize hP : P2 (QI2 Q) = P
  have hQ : ∀ (r : Int) (M1 : JM) (s1 : LSt), R2 s1 M1 → Q r s1 → P (.inl (some (.inl r))) M1 := by rw [← hP]; exact fun r M1 s1 a b => ⟨s1, a, r, rfl, b⟩
  clear hP
  refine E_aldn (c208 0 rfl) rfl hv0 ?_
  show JX 208 1 [v0] [v0] M P
  refine E_ifnn (c208 1 rfl) h (fun e g => ?_) (fun i1 e g => ?_)
  · clear h
    subst e
    have h := g
    clear g
    refine L_ps c208 (n := 2) (pc1 := 25) (ls1 := [jX .null]) (st1 := [jI 0]) rfl ?_
    exact L_retI (c208 25 rfl) (hQ _ _ _ hM h)
  · clear h
    subst e
    have h := g
    clear g
    refine L_ps c208 (n := 2) (pc1 := 10) (ls1 := [jR i1]) (st1 := [jR i1, jI 1]) rfl ?_
    refine E_fV (c208 10 rfl) hM (by decide) h (fun x2 hx2 h => ?_)
    refine E_cI (pc1 := 16) (c208 13 rfl) (js_t (show ssplit 1 [x2, jI 1] = some ([x2], [jI 1]) from ss_v (A := [x2]) (B := [jI 1]) rfl (al_c (jnl_c2 hx2) al_n) (Nat.le_of_ble_eq_true rfl))) rfl (k_Lw_size3 hx2 hM h) (fun r4 M s3 hM h => ?_)
    refine L_ps c208 (n := 2) (pc1 := 18) (ls1 := [jR i1]) (st1 := [jR i1, jI (wr (1 + r4))]) rfl ?_
    refine E_fV (c208 18 rfl) hM (by decide) h (fun x5 hx5 h => ?_)
    refine E_cI (pc1 := 24) (c208 21 rfl) (js_t (show ssplit 1 [x5, jI (wr (1 + r4))] = some ([x5], [jI (wr (1 + r4))]) from ss_v (A := [x5]) (B := [jI (wr (1 + r4))]) rfl (al_c (jnl_c2 hx5) al_n) (Nat.le_of_ble_eq_true rfl))) rfl (k_Lw_size3 hx5 hM h) (fun r7 M s6 hM h => ?_)
    refine L_ps c208 (n := 1) (pc1 := 25) (ls1 := [jR i1]) (st1 := [jI (wr ((wr (1 + r4)) + r7))]) rfl ?_
    exact L_retI (c208 25 rfl) (hQ _ _ _ hM h)
theorem k_Lw_size5 {v0 : JV} {s : LSt} {M : JM} {Q : Int → LSt → Prop} (hv0 : jnl v0 = true) (hM : R2 s M) (h : d_Lw_size 6 v0 s Q) : JX 209 0 (jargs 209 [v0]) [] M (P2 (QI2 Q)) := by
  have h : d_Lw_size_F (d_Lw_size 5) v0 s Q := h
  unfold d_Lw_size_F at h
  show JX 209 0 [v0] [] M (P2 (QI2 Q))
  generalize hP : P2 (QI2 Q) = P
  have hQ : ∀ (r : Int) (M1 : JM) (s1 : LSt), R2 s1 M1 → Q r s1 → P (.inl (some (.inl r))) M1 := by rw [← hP]; exact fun r M1 s1 a b => ⟨s1, a, r, rfl, b⟩
  clear hP
  refine E_aldn (c209 0 rfl) rfl hv0 ?_
  show JX 209 1 [v0] [v0] M P
  refine E_ifnn (c209 1 rfl) h (fun e g => ?_) (fun i1 e g => ?_)
  · clear h
    subst e
    have h := g
    clear g
    refine L_ps c209 (n := 2) (pc1 := 25) (ls1 := [jX .null]) (st1 := [jI 0]) rfl ?_
    exact L_retI (c209 25 rfl) (hQ _ _ _ hM h)
  · clear h
    subst e
    have h := g
    clear g
    refine L_ps c209 (n := 2) (pc1 := 10) (ls1 := [jR i1]) (st1 := [jR i1, jI 1]) rfl ?_
    refine E_fV (c209 10 rfl) hM (by decide) h (fun x2 hx2 h => ?_)
    refine E_cI (pc1 := 16) (c209 13 rfl) (js_t (show ssplit 1 [x2, jI 1] = some ([x2], [jI 1]) from ss_v (A := [x2]) (B := [jI 1]) rfl (al_c (jnl_c2 hx2) al_n) (Nat.le_of_ble_eq_true rfl))) rfl (k_Lw_size4 hx2 hM h) (fun r4 M s3 hM h => ?_)
    refine L_ps c209 (n := 2) (pc1 := 18) (ls1 := [jR i1]) (st1 := [jR i1, jI (wr (1 + r4))]) rfl ?_
    refine E_fV (c209 18 rfl) hM (by decide) h (fun x5 hx5 h => ?_)
    refine E_cI (pc1 := 24) (c209 21 rfl) (js_t (show ssplit 1 [x5, jI (wr (1 + r4))] = some ([x5], [jI (wr (1 + r4))]) from ss_v (A := [x5]) (B := [jI (wr (1 + r4))]) rfl (al_c (jnl_c2 hx5) al_n) (Nat.le_of_ble_eq_true rfl))) rfl (k_Lw_size4 hx5 hM h) (fun r7 M s6 hM h => ?_)
    refine L_ps c209 (n := 1) (pc1 := 25) (ls1 := [jR i1]) (st1 := [jI (wr ((wr (1 + r4)) + r7))]) rfl ?_
    exact L_retI (c209 25 rfl) (hQ _ _ _ hM h)
theorem k_Lw_size6 {v0 : JV} {s : LSt} {M : JM} {Q : Int → LSt → Prop} (hv0 : jnl v0 = true) (hM : R2 s M) (h : d_Lw_size 7 v0 s Q) : JX 210 0 (jargs 210 [v0]) [] M (P2 (QI2 Q)) := by
  have h : d_Lw_size_F (d_Lw_size 6) v0 s Q := h
  unfold d_Lw_size_F at h
  show JX 210 0 [v0] [] M (P2 (QI2 Q))
  generalize hP : P2 (QI2 Q) = P
  have hQ : ∀ (r : Int) (M1 : JM) (s1 : LSt), R2 s1 M1 → Q r s1 → P (.inl (some (.inl r))) M1 := by rw [← hP]; exact fun r M1 s1 a b => ⟨s1, a, r, rfl, b⟩
  clear hP
  refine E_aldn (c210 0 rfl) rfl hv0 ?_
  show JX 210 1 [v0] [v0] M P
  refine E_ifnn (c210 1 rfl) h (fun e g => ?_) (fun i1 e g => ?_)
  · clear h
    subst e
    have h := g
    clear g
    refine L_ps c210 (n := 2) (pc1 := 25) (ls1 := [jX .null]) (st1 := [jI 0]) rfl ?_
    exact L_retI (c210 25 rfl) (hQ _ _ _ hM h)
  · clear h
    subst e
    have h := g
    clear g
    refine L_ps c210 (n := 2) (pc1 := 10) (ls1 := [jR i1]) (st1 := [jR i1, jI 1]) rfl ?_
    refine E_fV (c210 10 rfl) hM (by decide) h (fun x2 hx2 h => ?_)
    refine E_cI (pc1 := 16) (c210 13 rfl) (js_t (show ssplit 1 [x2, jI 1] = some ([x2], [jI 1]) from ss_v (A := [x2]) (B := [jI 1]) rfl (al_c (jnl_c2 hx2) al_n) (Nat.le_of_ble_eq_true rfl))) rfl (k_Lw_size5 hx2 hM h) (fun r4 M s3 hM h => ?_)
    refine L_ps c210 (n := 2) (pc1 := 18) (ls1 := [jR i1]) (st1 := [jR i1, jI (wr (1 + r4))]) rfl ?_
    refine E_fV (c210 18 rfl) hM (by decide) h (fun x5 hx5 h => ?_)
    refine E_cI (pc1 := 24) (c210 21 rfl) (js_t (show ssplit 1 [x5, jI (wr (1 + r4))] = some ([x5], [jI (wr (1 + r4))]) from ss_v (A := [x5]) (B := [jI (wr (1 + r4))]) rfl (al_c (jnl_c2 hx5) al_n) (Nat.le_of_ble_eq_true rfl))) rfl (k_Lw_size5 hx5 hM h) (fun r7 M s6 hM h => ?_)
    refine L_ps c210 (n := 1) (pc1 := 25) (ls1 := [jR i1]) (st1 := [jI (wr ((wr (1 + r4)) + r7))]) rfl ?_
    exact L_retI (c210 25 rfl) (hQ _ _ _ hM h)
theorem k_Lw_size7 {v0 : JV} {s : LSt} {M : JM} {Q : Int → LSt → Prop} (hv0 : jnl v0 = true) (hM : R2 s M) (h : d_Lw_size 8 v0 s Q) : JX 211 0 (jargs 211 [v0]) [] M (P2 (QI2 Q)) := by
  have h : d_Lw_size_F (d_Lw_size 7) v0 s Q := h
  unfold d_Lw_size_F at h
  show JX 211 0 [v0] [] M (P2 (QI2 Q))
  generalize hP : P2 (QI2 Q) = P
  have hQ : ∀ (r : Int) (M1 : JM) (s1 : LSt), R2 s1 M1 → Q r s1 → P (.inl (some (.inl r))) M1 := by rw [← hP]; exact fun r M1 s1 a b => ⟨s1, a, r, rfl, b⟩
  clear hP
  refine E_aldn (c211 0 rfl) rfl hv0 ?_
  show JX 211 1 [v0] [v0] M P
  refine E_ifnn (c211 1 rfl) h (fun e g => ?_) (fun i1 e g => ?_)
  · clear h
    subst e
    have h := g
    clear g
    refine L_ps c211 (n := 2) (pc1 := 25) (ls1 := [jX .null]) (st1 := [jI 0]) rfl ?_
    exact L_retI (c211 25 rfl) (hQ _ _ _ hM h)
  · clear h
    subst e
    have h := g
    clear g
    refine L_ps c211 (n := 2) (pc1 := 10) (ls1 := [jR i1]) (st1 := [jR i1, jI 1]) rfl ?_
    refine E_fV (c211 10 rfl) hM (by decide) h (fun x2 hx2 h => ?_)
    refine E_cI (pc1 := 16) (c211 13 rfl) (js_t (show ssplit 1 [x2, jI 1] = some ([x2], [jI 1]) from ss_v (A := [x2]) (B := [jI 1]) rfl (al_c (jnl_c2 hx2) al_n) (Nat.le_of_ble_eq_true rfl))) rfl (k_Lw_size6 hx2 hM h) (fun r4 M s3 hM h => ?_)
    refine L_ps c211 (n := 2) (pc1 := 18) (ls1 := [jR i1]) (st1 := [jR i1, jI (wr (1 + r4))]) rfl ?_
    refine E_fV (c211 18 rfl) hM (by decide) h (fun x5 hx5 h => ?_)
    refine E_cI (pc1 := 24) (c211 21 rfl) (js_t (show ssplit 1 [x5, jI (wr (1 + r4))] = some ([x5], [jI (wr (1 + r4))]) from ss_v (A := [x5]) (B := [jI (wr (1 + r4))]) rfl (al_c (jnl_c2 hx5) al_n) (Nat.le_of_ble_eq_true rfl))) rfl (k_Lw_size6 hx5 hM h) (fun r7 M s6 hM h => ?_)
    refine L_ps c211 (n := 1) (pc1 := 25) (ls1 := [jR i1]) (st1 := [jI (wr ((wr (1 + r4)) + r7))]) rfl ?_
    exact L_retI (c211 25 rfl) (hQ _ _ _ hM h)
