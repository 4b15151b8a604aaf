/-! that the printed tables do what the texts say, 1 -/
theorem k_String_coder {v0 : JV} {s : LSt} {M : JM} {Q : Int → LSt → Prop} (hv0 : jnl v0 = true) (hM : R2 s M) (h : d_String_coder v0 s Q) : JX 21 0 (jargs 21 [v0]) [] M (P2 (QI2 Q)) := by
  unfold d_String_coder at h
  show JX 21 0 [v0] [] M (P2 (QI2 Q))
  generalize hP : P2 (QI2 Q) = P
  have hQ : ∀ (r : Int) (M1 : JM) (s1 : LSt), R2 s1 M1 → Q r s1 → P (.inl (some (.inl r))) M1 := by rw [← hP]; exact fun r M1 s1 a b => ⟨s1, a, r, rfl, b⟩
  clear hP
  refine L_ps c21 (n := 1) (pc1 := 3) (ls1 := [v0]) (st1 := [jI 1]) rfl ?_
  rw [if_neg (by decide)] at h
  refine L_ps c21 (n := 1) (pc1 := 6) (ls1 := [v0]) (st1 := []) rfl ?_
  refine E_aldn (c21 6 rfl) rfl hv0 ?_
  show JX 21 7 [v0] [v0] M P
  obtain ⟨i1, e, g⟩ := cR_of h
  clear h
  subst e
  have h := g
  clear g
  refine E_fSc (c21 7 rfl) hM h (fun z2 h => ?_)
  refine L_ps c21 (n := 1) (pc1 := 14) (ls1 := [jR i1]) (st1 := [jI z2]) rfl ?_
  obtain ⟨hz, h⟩ := h
  exact E_retB (c21 14 rfl) hz (hQ _ _ _ hM h)
theorem k_YString_length {v0 : JV} {s : LSt} {M : JM} {Q : Int → LSt → Prop} (hv0 : jnl v0 = true) (hM : R2 s M) (h : d_YString_length v0 s Q) : JX 20 0 (jargs 20 [v0]) [] M (P2 (QI2 Q)) := by
  unfold d_YString_length at h
  show JX 20 0 [v0] [] M (P2 (QI2 Q))
  generalize hP : P2 (QI2 Q) = P
  have hQ : ∀ (r : Int) (M1 : JM) (s1 : LSt), R2 s1 M1 → Q r s1 → P (.inl (some (.inl r))) M1 := by rw [← hP]; exact fun r M1 s1 a b => ⟨s1, a, r, rfl, b⟩
  clear hP
  refine E_aldn (c20 0 rfl) rfl hv0 ?_
  show JX 20 1 [v0] [v0] M P
  obtain ⟨i1, e, g⟩ := cR_of h
  clear h
  subst e
  have h := g
  clear g
  refine E_fSv (c20 1 rfl) hM h (fun x2 hx2 h => ?_)
  obtain ⟨i3, e, g⟩ := cR_of h
  clear h
  subst e
  have h := g
  clear g
  refine E_aL (c20 4 rfl) hM h (fun z4 h => ?_)
  refine L_ps c20 (n := 1) (pc1 := 6) (ls1 := [jR i1]) (st1 := [jR i1, jI z4]) rfl ?_
  obtain ⟨ht, h⟩ := h
  refine E_cI (pc1 := 9) (c20 6 rfl) (js_v rfl ((rcv_tag hM ht).trans jt21)) rfl (k_String_coder rfl hM h) (fun r6 M s5 hM h => ?_)
  refine L_ps c20 (n := 1) (pc1 := 10) (ls1 := [jR i1]) (st1 := [jI (jshr z4 r6)]) rfl ?_
  exact L_retI (c20 10 rfl) (hQ _ _ _ hM h)
theorem k_String_isLatin1 {v0 : JV} {s : LSt} {M : JM} {Q : Int → LSt → Prop} (hv0 : jnl v0 = true) (hM : R2 s M) (h : d_String_isLatin1 v0 s Q) : JX 23 0 (jargs 23 [v0]) [] M (P2 (QI2 Q)) := by
  unfold d_String_isLatin1 at h
  show JX 23 0 [v0] [] M (P2 (QI2 Q))
  generalize hP : P2 (QI2 Q) = P
  have hQ : ∀ (r : Int) (M1 : JM) (s1 : LSt), R2 s1 M1 → Q r s1 → P (.inl (some (.inl r))) M1 := by rw [← hP]; exact fun r M1 s1 a b => ⟨s1, a, r, rfl, b⟩
  clear hP
  refine L_ps c23 (n := 1) (pc1 := 3) (ls1 := [v0]) (st1 := [jI 1]) rfl ?_
  rw [if_neg (by decide)] at h
  refine L_ps c23 (n := 1) (pc1 := 6) (ls1 := [v0]) (st1 := []) rfl ?_
  refine E_aldn (c23 6 rfl) rfl hv0 ?_
  show JX 23 7 [v0] [v0] M P
  obtain ⟨i1, e, g⟩ := cR_of h
  clear h
  subst e
  have h := g
  clear g
  refine E_fSc (c23 7 rfl) hM h (fun z2 h => ?_)
  refine L_nb (p1 := 17) (p2 := 13) (c23 10 rfl) rfl jc_ne h (fun h => ?_) (fun h => ?_)
  · refine L_ps c23 (n := 2) (pc1 := 18) (ls1 := [jR i1]) (st1 := [jI 1]) rfl ?_
    exact E_retZ (c23 18 rfl) (Or.inr rfl) (hQ _ _ _ hM h)
  · refine L_ps c23 (n := 1) (pc1 := 18) (ls1 := [jR i1]) (st1 := [jI 0]) rfl ?_
    exact E_retZ (c23 18 rfl) (Or.inl rfl) (hQ _ _ _ hM h)
theorem k_StringLatin1_charAt {v0 : JV} {v1 : Int} {s : LSt} {M : JM} {Q : Int → LSt → Prop} (hv0 : jnl v0 = true) (hM : R2 s M) (h : d_StringLatin1_charAt v0 v1 s Q) : JX 24 0 (jargs 24 [v0, jI v1]) [] M (P2 (QI2 Q)) := by
  unfold d_StringLatin1_charAt at h
  show JX 24 0 [v0, jI v1] [] M (P2 (QI2 Q))
  generalize hP : P2 (QI2 Q) = P
  have hQ : ∀ (r : Int) (M1 : JM) (s1 : LSt), R2 s1 M1 → Q r s1 → P (.inl (some (.inl r))) M1 := by rw [← hP]; exact fun r M1 s1 a b => ⟨s1, a, r, rfl, b⟩
  clear hP
  refine L_ps c24 (n := 1) (pc1 := 1) (ls1 := [v0, jI v1]) (st1 := [jI v1]) rfl ?_
  refine E_aldn (c24 1 rfl) rfl hv0 ?_
  show JX 24 2 [v0, jI v1] [v0, jI v1] M P
  obtain ⟨i1, e, g⟩ := cR_of h
  clear h
  subst e
  have h := g
  clear g
  refine E_aL (c24 2 rfl) hM h (fun z2 h => ?_)
  refine E_cN (pc1 := 6) (c24 3 rfl) (js_t rfl) rfl (k_String_checkIndex hM h) (fun M s3 hM h => ?_)
  refine L_ps c24 (n := 2) (pc1 := 8) (ls1 := [jR i1, jI v1]) (st1 := [jI v1, jR i1]) rfl ?_
  refine E_rB (c24 8 rfl) hM h (fun z5 h => ?_)
  refine L_ps c24 (n := 3) (pc1 := 14) (ls1 := [jR i1, jI v1]) (st1 := [jI (jc16 (jand z5 255))]) rfl ?_
  obtain ⟨hz, h⟩ := h
  exact E_retC (c24 14 rfl) hz (hQ _ _ _ hM h)
theorem k_YString_charAt {v0 : JV} {v1 : Int} {s : LSt} {M : JM} {Q : Int → LSt → Prop} (hv0 : jnl v0 = true) (hM : R2 s M) (h : d_YString_charAt v0 v1 s Q) : JX 22 0 (jargs 22 [v0, jI v1]) [] M (P2 (QI2 Q)) := by
  unfold d_YString_charAt at h
  show JX 22 0 [v0, jI v1] [] M (P2 (QI2 Q))
  generalize hP : P2 (QI2 Q) = P
  have hQ : ∀ (r : Int) (M1 : JM) (s1 : LSt), R2 s1 M1 → Q r s1 → P (.inl (some (.inl r))) M1 := by rw [← hP]; exact fun r M1 s1 a b => ⟨s1, a, r, rfl, b⟩
  clear hP
  refine E_aldn (c22 0 rfl) rfl hv0 ?_
  show JX 22 1 [v0, jI v1] [v0] M P
  obtain ⟨i1, e, g⟩ := cR_of h
  clear h
  subst e
  have h := g
  clear g
  obtain ⟨ht, h⟩ := h
  refine E_cI (pc1 := 4) (c22 1 rfl) (js_v rfl ((rcv_tag hM ht).trans jt23)) rfl (k_String_isLatin1 rfl hM h) (fun r3 M s2 hM h => ?_)
  refine L_br (p1 := 16) (p2 := 7) (c22 4 rfl) rfl jc_eq h (fun h => ?_) (fun h => ?_)
  · refine L_ps c22 (n := 1) (pc1 := 17) (ls1 := [jR i1, jI v1]) (st1 := [jR i1]) rfl ?_
    refine E_fSv (c22 17 rfl) hM h (fun x4 hx4 h => ?_)
    refine L_ps c22 (n := 1) (pc1 := 21) (ls1 := [jR i1, jI v1]) (st1 := [jI v1, x4]) rfl ?_
    exact h.elim
  · refine L_ps c22 (n := 1) (pc1 := 8) (ls1 := [jR i1, jI v1]) (st1 := [jR i1]) rfl ?_
    refine E_fSv (c22 8 rfl) hM h (fun x5 hx5 h => ?_)
    refine L_ps c22 (n := 1) (pc1 := 12) (ls1 := [jR i1, jI v1]) (st1 := [jI v1, x5]) rfl ?_
    refine E_cI (pc1 := 15) (c22 12 rfl) (js_t (show ssplit 2 [jI v1, x5] = some ([x5, jI v1], []) from ss_v (A := [jI v1, x5]) (B := []) rfl (al_c rfl (al_c (jnl_c2 hx5) al_n)) (Nat.le_of_ble_eq_true rfl))) rfl (k_StringLatin1_charAt hx5 hM h) (fun r7 M s6 hM h => ?_)
    obtain ⟨hz, h⟩ := h
    exact E_retC (c22 15 rfl) hz (hQ _ _ _ hM h)
theorem k_Preconditions_checkIndex_j9 {v0 : Int} {v1 : Int} {v2 : JV} {s : LSt} {M : JM} {P : JO → JM → Prop} {Q : Int → LSt → Prop} (hv2 : jnl v2 = true) (hM : R2 s M) (hQ : ∀ (r : Int) (M1 : JM) (s1 : LSt), R2 s1 M1 → Q r s1 → P (.inl (some (.inl r))) M1) (h : d_Preconditions_checkIndex_j9 v0 v1 v2 s Q) : JX 26 9 [jI v0, jI v1, v2] [] M P := by
  unfold d_Preconditions_checkIndex_j9 at h
  refine E_aldn (c26 9 rfl) rfl hv2 ?_
  show JX 26 10 [jI v0, jI v1, v2] [v2] M P
  refine L_ps c26 (n := 2) (pc1 := 12) (ls1 := [jI v0, jI v1, v2]) (st1 := [jI v1, jI v0, v2]) rfl ?_
  exact h.elim
theorem k_Preconditions_checkIndex {v0 : Int} {v1 : Int} {v2 : JV} {s : LSt} {M : JM} {Q : Int → LSt → Prop} (hv2 : jnl v2 = true) (hM : R2 s M) (h : d_Preconditions_checkIndex v0 v1 v2 s Q) : JX 26 0 (jargs 26 [jI v0, jI v1, v2]) [] M (P2 (QI2 Q)) := by
  unfold d_Preconditions_checkIndex at h
  show JX 26 0 [jI v0, jI v1, v2] [] M (P2 (QI2 Q))
  generalize hP : P2 (QI2 Q) = P
  have hQ : ∀ (r : Int) (M1 : JM) (s1 : LSt), R2 s1 M1 → Q r s1 → P (.inl (some (.inl r))) M1 := by rw [← hP]; exact fun r M1 s1 a b => ⟨s1, a, r, rfl, b⟩
  clear hP
  refine L_ps c26 (n := 1) (pc1 := 1) (ls1 := [jI v0, jI v1, v2]) (st1 := [jI v0]) rfl ?_
  refine L_br (p1 := 9) (p2 := 4) (c26 1 rfl) rfl jc_lt h (fun h => ?_) (fun h => ?_)
  · exact k_Preconditions_checkIndex_j9 hv2 hM hQ h
  · refine L_ps c26 (n := 2) (pc1 := 6) (ls1 := [jI v0, jI v1, v2]) (st1 := [jI v1, jI v0]) rfl ?_
    refine L_br (p1 := 16) (p2 := 9) (c26 6 rfl) rfl jc_lt h (fun h => ?_) (fun h => ?_)
    · refine L_ps c26 (n := 1) (pc1 := 17) (ls1 := [jI v0, jI v1, v2]) (st1 := [jI v0]) rfl ?_
      exact L_retI (c26 17 rfl) (hQ _ _ _ hM h)
    · exact k_Preconditions_checkIndex_j9 hv2 hM hQ h
theorem k_Lw_cell {v0 : JV} {v1 : Int} {s : LSt} {M : JM} {Q : Int → LSt → Prop} (hv0 : jnl v0 = true) (hM : R2 s M) (h : d_Lw_cell v0 v1 s Q) : JX 147 0 (jargs 147 [v0, jI v1]) [] M (P2 (QI2 Q)) := by
  unfold d_Lw_cell at h
  show JX 147 0 [v0, jI v1] [] M (P2 (QI2 Q))
  generalize hP : P2 (QI2 Q) = P
  have hQ : ∀ (r : Int) (M1 : JM) (s1 : LSt), R2 s1 M1 → Q r s1 → P (.inl (some (.inl r))) M1 := by rw [← hP]; exact fun r M1 s1 a b => ⟨s1, a, r, rfl, b⟩
  clear hP
  refine L_ps c147 (n := 1) (pc1 := 1) (ls1 := [v0, jI v1]) (st1 := [jI v1]) rfl ?_
  refine E_aldn (c147 1 rfl) rfl hv0 ?_
  show JX 147 2 [v0, jI v1] [v0, jI v1] M P
  obtain ⟨i1, e, g⟩ := cR_of h
  clear h
  subst e
  have h := g
  clear g
  refine E_aL (c147 2 rfl) hM h (fun z2 h => ?_)
  refine L_nb (p1 := 12) (p2 := 6) (c147 3 rfl) rfl jc_ge h (fun h => ?_) (fun h => ?_)
  · refine L_ps c147 (n := 2) (pc1 := 8) (ls1 := [jR i1, jI v1]) (st1 := [jI v1, jR i1]) rfl ?_
    refine E_rI (c147 8 rfl) hM h (fun z3 h => ?_)
    refine L_ps c147 (n := 1) (pc1 := 13) (ls1 := [jR i1, jI v1]) (st1 := [jI z3]) rfl ?_
    exact L_retI (c147 13 rfl) (hQ _ _ _ hM h)
  · refine L_ps c147 (n := 1) (pc1 := 13) (ls1 := [jR i1, jI v1]) (st1 := [jI 0]) rfl ?_
    exact L_retI (c147 13 rfl) (hQ _ _ _ hM h)
theorem k_AbstractCollection_init {v0 : JV} {s : LSt} {M : JM} {Q : LSt → Prop} (hv0 : jnl v0 = true) (hM : R2 s M) (h : d_AbstractCollection_init v0 s Q) : JX 152 0 (jargs 152 [v0]) [] M (P2 (QN2 Q)) := by
  unfold d_AbstractCollection_init at h
  show JX 152 0 [v0] [] M (P2 (QN2 Q))
  generalize hP : P2 (QN2 Q) = P
  have hQ : ∀ (M1 : JM) (s1 : LSt), R2 s1 M1 → Q s1 → P (.inl none) M1 := by rw [← hP]; exact fun M1 s1 a b => ⟨s1, a, rfl, b⟩
  clear hP
  refine E_aldn (c152 0 rfl) rfl hv0 ?_
  show JX 152 1 [v0] [v0] M P
  obtain ⟨i1, e, g⟩ := cR_of h
  clear h
  subst e
  have h := g
  clear g
  refine E_cN (pc1 := 4) (c152 1 rfl) (js_s rfl) rfl (k_Object_init rfl hM h) (fun M s2 hM h => ?_)
  exact L_end (c152 4 rfl) rfl (hQ _ _ hM h)
theorem k_AbstractList_init {v0 : JV} {s : LSt} {M : JM} {Q : LSt → Prop} (hv0 : jnl v0 = true) (hM : R2 s M) (h : d_AbstractList_init v0 s Q) : JX 151 0 (jargs 151 [v0]) [] M (P2 (QN2 Q)) := by
  unfold d_AbstractList_init at h
  show JX 151 0 [v0] [] M (P2 (QN2 Q))
  generalize hP : P2 (QN2 Q) = P
  have hQ : ∀ (M1 : JM) (s1 : LSt), R2 s1 M1 → Q s1 → P (.inl none) M1 := by rw [← hP]; exact fun M1 s1 a b => ⟨s1, a, rfl, b⟩
  clear hP
  refine E_aldn (c151 0 rfl) rfl hv0 ?_
  show JX 151 1 [v0] [v0] M P
  obtain ⟨i1, e, g⟩ := cR_of h
  clear h
  subst e
  have h := g
  clear g
  refine E_cN (pc1 := 4) (c151 1 rfl) (js_s rfl) rfl (k_AbstractCollection_init rfl hM h) (fun M s2 hM h => ?_)
  refine L_ps c151 (n := 2) (pc1 := 6) (ls1 := [jR i1]) (st1 := [jI 0, jR i1]) rfl ?_
  refine E_pF (c := 13) (f := 0) (c151 6 rfl) hM (by decide) h (fun M s4 hM h _ => ?_)
  exact L_end (c151 9 rfl) rfl (hQ _ _ hM h)
theorem k_AL_init {v0 : JV} {s : LSt} {M : JM} {Q : LSt → Prop} (hv0 : jnl v0 = true) (hM : R2 s M) (h : d_AL_init v0 s Q) : JX 150 0 (jargs 150 [v0]) [] M (P2 (QN2 Q)) := by
  unfold d_AL_init at h
  show JX 150 0 [v0] [] M (P2 (QN2 Q))
  generalize hP : P2 (QN2 Q) = P
  have hQ : ∀ (M1 : JM) (s1 : LSt), R2 s1 M1 → Q s1 → P (.inl none) M1 := by rw [← hP]; exact fun M1 s1 a b => ⟨s1, a, rfl, b⟩
  clear hP
  refine E_aldn (c150 0 rfl) rfl hv0 ?_
  show JX 150 1 [v0] [v0] M P
  obtain ⟨i1, e, g⟩ := cR_of h
  clear h
  subst e
  have h := g
  clear g
  refine E_cN (pc1 := 4) (c150 1 rfl) (js_s rfl) rfl (k_AbstractList_init rfl hM h) (fun M s2 hM h => ?_)
  refine L_ps c150 (n := 2) (pc1 := 8) (ls1 := [jR i1]) (st1 := [jR 1000001, jR i1]) rfl ?_
  refine E_pF (c := 13) (f := 2) (c150 8 rfl) hM (by decide) h (fun M s4 hM h _ => ?_)
  exact L_end (c150 11 rfl) rfl (hQ _ _ hM h)
theorem k_Sys_init {v0 : JV} {s : LSt} {M : JM} {Q : LSt → Prop} (hv0 : jnl v0 = true) (hM : R2 s M) (h : d_Sys_init v0 s Q) : JX 149 0 (jargs 149 [v0]) [] M (P2 (QN2 Q)) := by
  unfold d_Sys_init at h
  show JX 149 0 [v0] [] M (P2 (QN2 Q))
  generalize hP : P2 (QN2 Q) = P
  have hQ : ∀ (M1 : JM) (s1 : LSt), R2 s1 M1 → Q s1 → P (.inl none) M1 := by rw [← hP]; exact fun M1 s1 a b => ⟨s1, a, rfl, b⟩
  clear hP
  refine E_aldn (c149 0 rfl) rfl hv0 ?_
  show JX 149 1 [v0] [v0] M P
  obtain ⟨i1, e, g⟩ := cR_of h
  clear h
  subst e
  have h := g
  clear g
  refine E_cN (pc1 := 4) (c149 1 rfl) (js_s rfl) rfl (k_Object_init rfl hM h) (fun M s2 hM h => ?_)
  refine L_ps c149 (n := 1) (pc1 := 5) (ls1 := [jR i1]) (st1 := [jR i1]) rfl ?_
  refine E_nC (c149 5 rfl) hM (by decide) h (fun i4 M s5 hM h => ?_)
  refine L_ps c149 (n := 1) (pc1 := 9) (ls1 := [jR i1]) (st1 := [jR i4, jR i4, jR i1]) rfl ?_
  refine E_cN (pc1 := 12) (c149 9 rfl) (js_s rfl) rfl (k_AL_init rfl hM h) (fun M s6 hM h => ?_)
  refine E_pF (c := 12) (f := 2) (c149 12 rfl) hM (by decide) h (fun M s8 hM h _ => ?_)
  refine L_ps c149 (n := 1) (pc1 := 16) (ls1 := [jR i1]) (st1 := [jR i1]) rfl ?_
  refine E_nC (c149 16 rfl) hM (by decide) h (fun i9 M s10 hM h => ?_)
  refine L_ps c149 (n := 1) (pc1 := 20) (ls1 := [jR i1]) (st1 := [jR i9, jR i9, jR i1]) rfl ?_
  refine E_cN (pc1 := 23) (c149 20 rfl) (js_s rfl) rfl (k_AL_init rfl hM h) (fun M s11 hM h => ?_)
  refine E_pF (c := 12) (f := 2) (c149 23 rfl) hM (by decide) h (fun M s13 hM h _ => ?_)
  refine L_ps c149 (n := 2) (pc1 := 29) (ls1 := [jR i1]) (st1 := [jI 16, jR i1]) rfl ?_
  refine E_nN (c149 29 rfl) hM h (fun i14 M s15 hM h => ?_)
  refine E_pF (c := 12) (f := 2) (c149 32 rfl) hM (by decide) h (fun M s16 hM h _ => ?_)
  refine L_ps c149 (n := 2) (pc1 := 38) (ls1 := [jR i1]) (st1 := [jI 16, jR i1]) rfl ?_
  refine E_nN (c149 38 rfl) hM h (fun i17 M s18 hM h => ?_)
  refine E_pF (c := 12) (f := 2) (c149 41 rfl) hM (by decide) h (fun M s19 hM h _ => ?_)
  exact L_end (c149 44 rfl) rfl (hQ _ _ hM h)
theorem k_Node_init {v0 : JV} {v1 : Int} {v2 : JV} {v3 : JV} {s : LSt} {M : JM} {Q : LSt → Prop} (hv0 : jnl v0 = true) (hv2 : jnl v2 = true) (hv3 : jnl v3 = true) (hM : R2 s M) (h : d_Node_init v0 v1 v2 v3 s Q) : JX 158 0 (jargs 158 [v0, jI v1, v2, v3]) [] M (P2 (QN2 Q)) := by
  unfold d_Node_init at h
  show JX 158 0 [v0, jI v1, v2, v3] [] M (P2 (QN2 Q))
  generalize hP : P2 (QN2 Q) = P
  have hQ : ∀ (M1 : JM) (s1 : LSt), R2 s1 M1 → Q s1 → P (.inl none) M1 := by rw [← hP]; exact fun M1 s1 a b => ⟨s1, a, rfl, b⟩
  clear hP
  refine E_aldn (c158 0 rfl) rfl hv0 ?_
  show JX 158 1 [v0, jI v1, v2, v3] [v0] M P
  obtain ⟨i1, e, g⟩ := cR_of h
  clear h
  subst e
  have h := g
  clear g
  refine E_cN (pc1 := 4) (c158 1 rfl) (js_s rfl) rfl (k_Object_init rfl hM h) (fun M s2 hM h => ?_)
  refine L_ps c158 (n := 2) (pc1 := 6) (ls1 := [jR i1, jI v1, v2, v3]) (st1 := [jI v1, jR i1]) rfl ?_
  refine E_pF (c := 11) (f := 0) (c158 6 rfl) hM (by decide) h (fun M s4 hM h _ => ?_)
  refine L_ps c158 (n := 1) (pc1 := 10) (ls1 := [jR i1, jI v1, v2, v3]) (st1 := [jR i1]) rfl ?_
  refine E_aldn (c158 10 rfl) rfl hv2 ?_
  show JX 158 11 [jR i1, jI v1, v2, v3] [v2, jR i1] M P
  refine E_pF (c := 11) (f := 2) (c158 11 rfl) hM (by decide) h (fun M s5 hM h _ => ?_)
  refine L_ps c158 (n := 1) (pc1 := 15) (ls1 := [jR i1, jI v1, v2, v3]) (st1 := [jR i1]) rfl ?_
  refine E_aldn (c158 15 rfl) rfl hv3 ?_
  show JX 158 16 [jR i1, jI v1, v2, v3] [v3, jR i1] M P
  refine E_pF (c := 11) (f := 2) (c158 16 rfl) hM (by decide) h (fun M s6 hM h _ => ?_)
  exact L_end (c158 19 rfl) rfl (hQ _ _ hM h)
theorem k_Lw_tree0_j74 {v2 : Int} {s : LSt} {M : JM} {P : JO → JM → Prop} {g0 : JV} {g1 : JV} {g3 : JV} {Q : JV → LSt → Prop} (hg1 : jc2 g1 = false) (hM : R2 s M) (hQ : ∀ (r : JV) (M1 : JM) (s1 : LSt), R2 s1 M1 → jnl r = true → Q r s1 → P (.inl (some r)) M1) (h : d_Lw_tree_j74 (d_Lw_tree 0) v2 s Q) : JX 153 74 [g0, g1, jI v2, g3] [] M P := by
  unfold d_Lw_tree_j74 at h
  refine L_ps c153 (n := 2) (pc1 := 76) (ls1 := [g0, g1, jI v2, g3]) (st1 := [jI 2, jI v2]) rfl ?_
  refine L_nb (p1 := 94) (p2 := 79) (c153 76 rfl) rfl jc_ge h (fun h => ?_) (fun h => ?_)
  · refine E_nC (c153 79 rfl) hM (by decide) h (fun i19 M s20 hM h => ?_)
    refine L_ps c153 (n := 6) (pc1 := 88) (ls1 := [g0, g1, jI v2, g3]) (st1 := [jX .null, jX .null, jI (wr (2 + v2)), jR i19, jR i19]) rfl ?_
    refine E_cN (pc1 := 91) (c153 88 rfl) (js_s rfl) rfl (k_Node_init rfl rfl rfl hM h) (fun M s21 hM h => ?_)
    refine L_ps c153 (n := 1) (pc1 := 109) (ls1 := [g0, g1, jI v2, g3]) (st1 := [jR i19]) rfl ?_
    exact E_retV (c153 109 rfl) rfl (hQ _ _ _ hM rfl h)
  · refine E_nC (c153 94 rfl) hM (by decide) h (fun i23 M s24 hM h => ?_)
    refine L_ps c153 (n := 8) (pc1 := 106) (ls1 := [g0, g1, jI v2, g3]) (st1 := [jX .null, jX .null, jI (wr (100 + (jand v2 1))), jR i23, jR i23]) rfl ?_
    refine E_cN (pc1 := 109) (c153 106 rfl) (js_s rfl) rfl (k_Node_init rfl rfl rfl hM h) (fun M s25 hM h => ?_)
    exact E_retV (c153 109 rfl) rfl (hQ _ _ _ hM rfl h)
theorem k_Lw_tree0_j40 {v0 : JV} {v1 : Int} {v2 : Int} {s : LSt} {M : JM} {P : JO → JM → Prop} {g3 : JV} {Q : JV → LSt → Prop} (hv0 : jnl v0 = true) (hM : R2 s M) (hQ : ∀ (r : JV) (M1 : JM) (s1 : LSt), R2 s1 M1 → jnl r = true → Q r s1 → P (.inl (some r)) M1) (h : d_Lw_tree_j40 (d_Lw_tree 0) v0 v1 v2 s Q) : JX 153 40 [v0, jI v1, jI v2, g3] [] M P := by
  unfold d_Lw_tree_j40 at h
  refine L_ps c153 (n := 1) (pc1 := 41) (ls1 := [v0, jI v1, jI v2, g3]) (st1 := [jI v1]) rfl ?_
  refine L_nb (p1 := 74) (p2 := 44) (c153 41 rfl) rfl jc_le h (fun h => ?_) (fun h => ?_)
  · refine L_ps c153 (n := 2) (pc1 := 46) (ls1 := [v0, jI v1, jI v2, g3]) (st1 := [jI 2, jI v2]) rfl ?_
    refine L_nb (p1 := 74) (p2 := 49) (c153 46 rfl) rfl jc_le h (fun h => ?_) (fun h => ?_)
    · refine E_aldn (c153 49 rfl) rfl hv0 ?_
      show JX 153 50 [v0, jI v1, jI v2, g3] [v0] M P
      refine L_ps c153 (n := 3) (pc1 := 53) (ls1 := [v0, jI v1, jI v2, g3]) (st1 := [jI (wr (v1 - 1)), v0]) rfl ?_
      exact False.elim h
    · exact k_Lw_tree0_j74 rfl hM hQ h
  · exact k_Lw_tree0_j74 rfl hM hQ h
theorem k_Lw_tree0 {v0 : JV} {v1 : Int} {s : LSt} {M : JM} {Q : JV → LSt → Prop} (hv0 : jnl v0 = true) (hM : R2 s M) (h : d_Lw_tree 1 v0 v1 s Q) : JX 153 0 (jargs 153 [v0, jI v1]) [] M (P2 (QV2 Q)) := by
  have h : d_Lw_tree_F (d_Lw_tree 0) v0 v1 s Q := h
  unfold d_Lw_tree_F at h
  show JX 153 0 [v0, jI v1, jU, jU] [] M (P2 (QV2 Q))
  generalize hP : P2 (QV2 Q) = P
  have hQ : ∀ (r : JV) (M1 : JM) (s1 : LSt), R2 s1 M1 → jnl r = true → Q r s1 → P (.inl (some r)) M1 := by rw [← hP]; exact fun r M1 s1 a c b => ⟨s1, a, r, rfl, c, b⟩
  clear hP
  refine E_aldn (c153 0 rfl) rfl hv0 ?_
  show JX 153 1 [v0, jI v1, jU, jU] [v0] M P
  refine L_ps c153 (n := 1) (pc1 := 2) (ls1 := [v0, jI v1, jU, jU]) (st1 := [jI 0, v0]) rfl ?_
  obtain ⟨i1, e, g⟩ := cR_of h
  clear h
  subst e
  have h := g
  clear g
  refine E_rI (c153 2 rfl) hM h (fun z2 h => ?_)
  refine L_ps c153 (n := 6) (pc1 := 10) (ls1 := [jR i1, jI v1, jI (jand z2 7), jU]) (st1 := [jI 0, jR i1, jI 0, jR i1]) rfl ?_
  refine E_rI (c153 10 rfl) hM h (fun z3 h => ?_)
  refine L_ps c153 (n := 2) (pc1 := 13) (ls1 := [jR i1, jI v1, jI (jand z2 7), jU]) (st1 := [jI (jushr z3 3), jI 0, jR i1]) rfl ?_
  refine E_wI (c153 13 rfl) hM h (fun M s4 hM h => ?_)
  refine L_ps c153 (n := 1) (pc1 := 15) (ls1 := [jR i1, jI v1, jI (jand z2 7), jU]) (st1 := [jI v1]) rfl ?_
  refine L_nb (p1 := 40) (p2 := 18) (c153 15 rfl) rfl jc_le h (fun h => ?_) (fun h => ?_)
  · refine L_ps c153 (n := 2) (pc1 := 20) (ls1 := [jR i1, jI v1, jI (jand z2 7), jU]) (st1 := [jI 5, jI (jand z2 7)]) rfl ?_
    refine L_nb (p1 := 40) (p2 := 23) (c153 20 rfl) rfl jc_le h (fun h => ?_) (fun h => ?_)
    · refine E_nC (c153 23 rfl) hM (by decide) h (fun i5 M s6 hM h => ?_)
      refine L_ps c153 (n := 6) (pc1 := 32) (ls1 := [jR i1, jI v1, jI (jand z2 7), jU]) (st1 := [jI (wr (v1 - 1)), jR i1, jI 1, jR i5, jR i5]) rfl ?_
      exact False.elim h
    · exact k_Lw_tree0_j40 rfl hM hQ h
  · exact k_Lw_tree0_j40 rfl hM hQ h
theorem k_Lw_tree1_j74 {v2 : Int} {s : LSt} {M : JM} {P : JO → JM → Prop} {g0 : JV} {g1 : JV} {g3 : JV} {Q : JV → LSt → Prop} (hg1 : jc2 g1 = false) (hM : R2 s M) (hQ : ∀ (r : JV) (M1 : JM) (s1 : LSt), R2 s1 M1 → jnl r = true → Q r s1 → P (.inl (some r)) M1) (h : d_Lw_tree_j74 (d_Lw_tree 1) v2 s Q) : JX 154 74 [g0, g1, jI v2, g3] [] M P := by
  unfold d_Lw_tree_j74 at h
  refine L_ps c154 (n := 2) (pc1 := 76) (ls1 := [g0, g1, jI v2, g3]) (st1 := [jI 2, jI v2]) rfl ?_
  refine L_nb (p1 := 94) (p2 := 79) (c154 76 rfl) rfl jc_ge h (fun h => ?_) (fun h => ?_)
  · refine E_nC (c154 79 rfl) hM (by decide) h (fun i19 M s20 hM h => ?_)
    refine L_ps c154 (n := 6) (pc1 := 88) (ls1 := [g0, g1, jI v2, g3]) (st1 := [jX .null, jX .null, jI (wr (2 + v2)), jR i19, jR i19]) rfl ?_
    refine E_cN (pc1 := 91) (c154 88 rfl) (js_s rfl) rfl (k_Node_init rfl rfl rfl hM h) (fun M s21 hM h => ?_)
    refine L_ps c154 (n := 1) (pc1 := 109) (ls1 := [g0, g1, jI v2, g3]) (st1 := [jR i19]) rfl ?_
    exact E_retV (c154 109 rfl) rfl (hQ _ _ _ hM rfl h)
  · refine E_nC (c154 94 rfl) hM (by decide) h (fun i23 M s24 hM h => ?_)
    refine L_ps c154 (n := 8) (pc1 := 106) (ls1 := [g0, g1, jI v2, g3]) (st1 := [jX .null, jX .null, jI (wr (100 + (jand v2 1))), jR i23, jR i23]) rfl ?_
    refine E_cN (pc1 := 109) (c154 106 rfl) (js_s rfl) rfl (k_Node_init rfl rfl rfl hM h) (fun M s25 hM h => ?_)
    exact E_retV (c154 109 rfl) rfl (hQ _ _ _ hM rfl h)
theorem k_Lw_tree1_j40 {v0 : JV} {v1 : Int} {v2 : Int} {s : LSt} {M : JM} {P : JO → JM → Prop} {g3 : JV} {Q : JV → LSt → Prop} (hv0 : jnl v0 = true) (hM : R2 s M) (hQ : ∀ (r : JV) (M1 : JM) (s1 : LSt), R2 s1 M1 → jnl r = true → Q r s1 → P (.inl (some r)) M1) (h : d_Lw_tree_j40 (d_Lw_tree 1) v0 v1 v2 s Q) : JX 154 40 [v0, jI v1, jI v2, g3] [] M P := by
  unfold d_Lw_tree_j40 at h
  refine L_ps c154 (n := 1) (pc1 := 41) (ls1 := [v0, jI v1, jI v2, g3]) (st1 := [jI v1]) rfl ?_
  refine L_nb (p1 := 74) (p2 := 44) (c154 41 rfl) rfl jc_le h (fun h => ?_) (fun h => ?_)
  · refine L_ps c154 (n := 2) (pc1 := 46) (ls1 := [v0, jI v1, jI v2, g3]) (st1 := [jI 2, jI v2]) rfl ?_
    refine L_nb (p1 := 74) (p2 := 49) (c154 46 rfl) rfl jc_le h (fun h => ?_) (fun h => ?_)
    · refine E_aldn (c154 49 rfl) rfl hv0 ?_
      show JX 154 50 [v0, jI v1, jI v2, g3] [v0] M P
      refine L_ps c154 (n := 3) (pc1 := 53) (ls1 := [v0, jI v1, jI v2, g3]) (st1 := [jI (wr (v1 - 1)), v0]) rfl ?_
      refine E_cV (pc1 := 56) (c154 53 rfl) (js_t (show ssplit 2 [jI (wr (v1 - 1)), v0] = some ([v0, jI (wr (v1 - 1))], []) from ss_v (A := [jI (wr (v1 - 1)), v0]) (B := []) rfl (al_c rfl (al_c (jnl_c2 hv0) al_n)) (Nat.le_of_ble_eq_true rfl))) rfl (k_Lw_tree0 hv0 hM h) (fun x12 M s11 hM hx12 h => ?_)
      refine E_astn (ls1 := [v0, jI v1, jI v2, x12]) (c154 56 rfl) rfl (Nat.le_of_ble_eq_true rfl) hx12 rfl ?_
      refine E_nC (c154 57 rfl) hM (by decide) h (fun i13 M s14 hM h => ?_)
      refine L_ps c154 (n := 2) (pc1 := 62) (ls1 := [v0, jI v1, jI v2, x12]) (st1 := [jI 0, jR i13, jR i13]) rfl ?_
      refine E_aldn (c154 62 rfl) rfl hx12 ?_
      show JX 154 63 [v0, jI v1, jI v2, x12] [x12, jI 0, jR i13, jR i13] M P
      refine E_aldn (c154 63 rfl) rfl hv0 ?_
      show JX 154 64 [v0, jI v1, jI v2, x12] [v0, x12, jI 0, jR i13, jR i13] M P
      refine L_ps c154 (n := 3) (pc1 := 67) (ls1 := [v0, jI v1, jI v2, x12]) (st1 := [jI (wr (v1 - 1)), v0, x12, jI 0, jR i13, jR i13]) rfl ?_
      refine E_cV (pc1 := 70) (c154 67 rfl) (js_t (show ssplit 2 [jI (wr (v1 - 1)), v0, x12, jI 0, jR i13, jR i13] = some ([v0, jI (wr (v1 - 1))], [x12, jI 0, jR i13, jR i13]) from ss_v (A := [jI (wr (v1 - 1)), v0]) (B := [x12, jI 0, jR i13, jR i13]) rfl (al_c rfl (al_c (jnl_c2 hv0) al_n)) (Nat.le_of_ble_eq_true rfl))) rfl (k_Lw_tree0 hv0 hM h) (fun x16 M s15 hM hx16 h => ?_)
      refine E_cN (pc1 := 73) (c154 70 rfl) (js_s (show vsplit (3 % 100) [x16, x12, jI 0, jR i13, jR i13] = some (i13, [jR i13, jI 0, x12, x16], [jR i13]) from vs_v (A := [x16, x12, jI 0]) (B := [jR i13]) rfl (al_c (jnl_c2 hx16) (al_c (jnl_c2 hx12) (al_c rfl al_n))) (Nat.le_of_ble_eq_true rfl))) rfl (k_Node_init rfl hx12 hx16 hM h) (fun M s17 hM h => ?_)
      exact E_retV (c154 73 rfl) rfl (hQ _ _ _ hM rfl h)
    · exact k_Lw_tree1_j74 rfl hM hQ h
  · exact k_Lw_tree1_j74 rfl hM hQ h
theorem k_Lw_tree1 {v0 : JV} {v1 : Int} {s : LSt} {M : JM} {Q : JV → LSt → Prop} (hv0 : jnl v0 = true) (hM : R2 s M) (h : d_Lw_tree 2 v0 v1 s Q) : JX 154 0 (jargs 154 [v0, jI v1]) [] M (P2 (QV2 Q)) := by
  have h : d_Lw_tree_F (d_Lw_tree 1) v0 v1 s Q := h
  unfold d_Lw_tree_F at h
  show JX 154 0 [v0, jI v1, jU, jU] [] M (P2 (QV2 Q))
  generalize hP : P2 (QV2 Q) = P
  have hQ : ∀ (r : JV) (M1 : JM) (s1 : LSt), R2 s1 M1 → jnl r = true → Q r s1 → P (.inl (some r)) M1 := by rw [← hP]; exact fun r M1 s1 a c b => ⟨s1, a, r, rfl, c, b⟩
  clear hP
  refine E_aldn (c154 0 rfl) rfl hv0 ?_
  show JX 154 1 [v0, jI v1, jU, jU] [v0] M P
  refine L_ps c154 (n := 1) (pc1 := 2) (ls1 := [v0, jI v1, jU, jU]) (st1 := [jI 0, v0]) rfl ?_
  obtain ⟨i1, e, g⟩ := cR_of h
  clear h
  subst e
  have h := g
  clear g
  refine E_rI (c154 2 rfl) hM h (fun z2 h => ?_)
  refine L_ps c154 (n := 6) (pc1 := 10) (ls1 := [jR i1, jI v1, jI (jand z2 7), jU]) (st1 := [jI 0, jR i1, jI 0, jR i1]) rfl ?_
  refine E_rI (c154 10 rfl) hM h (fun z3 h => ?_)
  refine L_ps c154 (n := 2) (pc1 := 13) (ls1 := [jR i1, jI v1, jI (jand z2 7), jU]) (st1 := [jI (jushr z3 3), jI 0, jR i1]) rfl ?_
  refine E_wI (c154 13 rfl) hM h (fun M s4 hM h => ?_)
  refine L_ps c154 (n := 1) (pc1 := 15) (ls1 := [jR i1, jI v1, jI (jand z2 7), jU]) (st1 := [jI v1]) rfl ?_
  refine L_nb (p1 := 40) (p2 := 18) (c154 15 rfl) rfl jc_le h (fun h => ?_) (fun h => ?_)
  · refine L_ps c154 (n := 2) (pc1 := 20) (ls1 := [jR i1, jI v1, jI (jand z2 7), jU]) (st1 := [jI 5, jI (jand z2 7)]) rfl ?_
    refine L_nb (p1 := 40) (p2 := 23) (c154 20 rfl) rfl jc_le h (fun h => ?_) (fun h => ?_)
    · refine E_nC (c154 23 rfl) hM (by decide) h (fun i5 M s6 hM h => ?_)
      refine L_ps c154 (n := 6) (pc1 := 32) (ls1 := [jR i1, jI v1, jI (jand z2 7), jU]) (st1 := [jI (wr (v1 - 1)), jR i1, jI 1, jR i5, jR i5]) rfl ?_
      refine E_cV (pc1 := 35) (c154 32 rfl) (js_t rfl) rfl (k_Lw_tree0 rfl hM h) (fun x8 M s7 hM hx8 h => ?_)
      refine L_ps c154 (n := 1) (pc1 := 36) (ls1 := [jR i1, jI v1, jI (jand z2 7), jU]) (st1 := [jX .null, x8, jI 1, jR i5, jR i5]) rfl ?_
      refine E_cN (pc1 := 39) (c154 36 rfl) (js_s (show vsplit (3 % 100) [jX .null, x8, jI 1, jR i5, jR i5] = some (i5, [jR i5, jI 1, x8, jX .null], [jR i5]) from vs_v (A := [jX .null, x8, jI 1]) (B := [jR i5]) rfl (al_c rfl (al_c (jnl_c2 hx8) (al_c rfl al_n))) (Nat.le_of_ble_eq_true rfl))) rfl (k_Node_init rfl hx8 rfl hM h) (fun M s9 hM h => ?_)
      exact E_retV (c154 39 rfl) rfl (hQ _ _ _ hM rfl h)
    · exact k_Lw_tree1_j40 rfl hM hQ h
  · exact k_Lw_tree1_j40 rfl hM hQ h
theorem k_Lw_tree2_j74 {v2 : Int} {s : LSt} {M : JM} {P : JO → JM → Prop} {g0 : JV} {g1 : JV} {g3 : JV} {Q : JV → LSt → Prop} (hg1 : jc2 g1 = false) (hM : R2 s M) (hQ : ∀ (r : JV) (M1 : JM) (s1 : LSt), R2 s1 M1 → jnl r = true → Q r s1 → P (.inl (some r)) M1) (h : d_Lw_tree_j74 (d_Lw_tree 2) v2 s Q) : JX 155 74 [g0, g1, jI v2, g3] [] M P := by
  unfold d_Lw_tree_j74 at h
  refine L_ps c155 (n := 2) (pc1 := 76) (ls1 := [g0, g1, jI v2, g3]) (st1 := [jI 2, jI v2]) rfl ?_
  refine L_nb (p1 := 94) (p2 := 79) (c155 76 rfl) rfl jc_ge h (fun h => ?_) (fun h => ?_)
  · refine E_nC (c155 79 rfl) hM (by decide) h (fun i19 M s20 hM h => ?_)
    refine L_ps c155 (n := 6) (pc1 := 88) (ls1 := [g0, g1, jI v2, g3]) (st1 := [jX .null, jX .null, jI (wr (2 + v2)), jR i19, jR i19]) rfl ?_
    refine E_cN (pc1 := 91) (c155 88 rfl) (js_s rfl) rfl (k_Node_init rfl rfl rfl hM h) (fun M s21 hM h => ?_)
    refine L_ps c155 (n := 1) (pc1 := 109) (ls1 := [g0, g1, jI v2, g3]) (st1 := [jR i19]) rfl ?_
    exact E_retV (c155 109 rfl) rfl (hQ _ _ _ hM rfl h)
  · refine E_nC (c155 94 rfl) hM (by decide) h (fun i23 M s24 hM h => ?_)
    refine L_ps c155 (n := 8) (pc1 := 106) (ls1 := [g0, g1, jI v2, g3]) (st1 := [jX .null, jX .null, jI (wr (100 + (jand v2 1))), jR i23, jR i23]) rfl ?_
    refine E_cN (pc1 := 109) (c155 106 rfl) (js_s rfl) rfl (k_Node_init rfl rfl rfl hM h) (fun M s25 hM h => ?_)
    exact E_retV (c155 109 rfl) rfl (hQ _ _ _ hM rfl h)
theorem k_Lw_tree2_j40 {v0 : JV} {v1 : Int} {v2 : Int} {s : LSt} {M : JM} {P : JO → JM → Prop} {g3 : JV} {Q : JV → LSt → Prop} (hv0 : jnl v0 = true) (hM : R2 s M) (hQ : ∀ (r : JV) (M1 : JM) (s1 : LSt), R2 s1 M1 → jnl r = true → Q r s1 → P (.inl (some r)) M1) (h : d_Lw_tree_j40 (d_Lw_tree 2) v0 v1 v2 s Q) : JX 155 40 [v0, jI v1, jI v2, g3] [] M P := by
  unfold d_Lw_tree_j40 at h
  refine L_ps c155 (n := 1) (pc1 := 41) (ls1 := [v0, jI v1, jI v2, g3]) (st1 := [jI v1]) rfl ?_
  refine L_nb (p1 := 74) (p2 := 44) (c155 41 rfl) rfl jc_le h (fun h => ?_) (fun h => ?_)
  · refine L_ps c155 (n := 2) (pc1 := 46) (ls1 := [v0, jI v1, jI v2, g3]) (st1 := [jI 2, jI v2]) rfl ?_
    refine L_nb (p1 := 74) (p2 := 49) (c155 46 rfl) rfl jc_le h (fun h => ?_) (fun h => ?_)
    · refine E_aldn (c155 49 rfl) rfl hv0 ?_
      show JX 155 50 [v0, jI v1, jI v2, g3] [v0] M P
      refine L_ps c155 (n := 3) (pc1 := 53) (ls1 := [v0, jI v1, jI v2, g3]) (st1 := [jI (wr (v1 - 1)), v0]) rfl ?_
      refine E_cV (pc1 := 56) (c155 53 rfl) (js_t (show ssplit 2 [jI (wr (v1 - 1)), v0] = some ([v0, jI (wr (v1 - 1))], []) from ss_v (A := [jI (wr (v1 - 1)), v0]) (B := []) rfl (al_c rfl (al_c (jnl_c2 hv0) al_n)) (Nat.le_of_ble_eq_true rfl))) rfl (k_Lw_tree1 hv0 hM h) (fun x12 M s11 hM hx12 h => ?_)
      refine E_astn (ls1 := [v0, jI v1, jI v2, x12]) (c155 56 rfl) rfl (Nat.le_of_ble_eq_true rfl) hx12 rfl ?_
      refine E_nC (c155 57 rfl) hM (by decide) h (fun i13 M s14 hM h => ?_)
      refine L_ps c155 (n := 2) (pc1 := 62) (ls1 := [v0, jI v1, jI v2, x12]) (st1 := [jI 0, jR i13, jR i13]) rfl ?_
      refine E_aldn (c155 62 rfl) rfl hx12 ?_
      show JX 155 63 [v0, jI v1, jI v2, x12] [x12, jI 0, jR i13, jR i13] M P
      refine E_aldn (c155 63 rfl) rfl hv0 ?_
      show JX 155 64 [v0, jI v1, jI v2, x12] [v0, x12, jI 0, jR i13, jR i13] M P
      refine L_ps c155 (n := 3) (pc1 := 67) (ls1 := [v0, jI v1, jI v2, x12]) (st1 := [jI (wr (v1 - 1)), v0, x12, jI 0, jR i13, jR i13]) rfl ?_
      refine E_cV (pc1 := 70) (c155 67 rfl) (js_t (show ssplit 2 [jI (wr (v1 - 1)), v0, x12, jI 0, jR i13, jR i13] = some ([v0, jI (wr (v1 - 1))], [x12, jI 0, jR i13, jR i13]) from ss_v (A := [jI (wr (v1 - 1)), v0]) (B := [x12, jI 0, jR i13, jR i13]) rfl (al_c rfl (al_c (jnl_c2 hv0) al_n)) (Nat.le_of_ble_eq_true rfl))) rfl (k_Lw_tree1 hv0 hM h) (fun x16 M s15 hM hx16 h => ?_)
      refine E_cN (pc1 := 73) (c155 70 rfl) (js_s (show vsplit (3 % 100) [x16, x12, jI 0, jR i13, jR i13] = some (i13, [jR i13, jI 0, x12, x16], [jR i13]) from vs_v (A := [x16, x12, jI 0]) (B := [jR i13]) rfl (al_c (jnl_c2 hx16) (al_c (jnl_c2 hx12) (al_c rfl al_n))) (Nat.le_of_ble_eq_true rfl))) rfl (k_Node_init rfl hx12 hx16 hM h) (fun M s17 hM h => ?_)
      exact E_retV (c155 73 rfl) rfl (hQ _ _ _ hM rfl h)
    · exact k_Lw_tree2_j74 rfl hM hQ h
  · exact k_Lw_tree2_j74 rfl hM hQ h
theorem k_Lw_tree2 {v0 : JV} {v1 : Int} {s : LSt} {M : JM} {Q : JV → LSt → Prop} (hv0 : jnl v0 = true) (hM : R2 s M) (h : d_Lw_tree 3 v0 v1 s Q) : JX 155 0 (jargs 155 [v0, jI v1]) [] M (P2 (QV2 Q)) := by
  have h : d_Lw_tree_F (d_Lw_tree 2) v0 v1 s Q := h
  unfold d_Lw_tree_F at h
  show JX 155 0 [v0, jI v1, jU, jU] [] M (P2 (QV2 Q))
  generalize hP : P2 (QV2 Q) = P
  have hQ : ∀ (r : JV) (M1 : JM) (s1 : LSt), R2 s1 M1 → jnl r = true → Q r s1 → P (.inl (some r)) M1 := by rw [← hP]; exact fun r M1 s1 a c b => ⟨s1, a, r, rfl, c, b⟩
  clear hP
  refine E_aldn (c155 0 rfl) rfl hv0 ?_
  show JX 155 1 [v0, jI v1, jU, jU] [v0] M P
  refine L_ps c155 (n := 1) (pc1 := 2) (ls1 := [v0, jI v1, jU, jU]) (st1 := [jI 0, v0]) rfl ?_
  obtain ⟨i1, e, g⟩ := cR_of h
  clear h
  subst e
  have h := g
  clear g
  refine E_rI (c155 2 rfl) hM h (fun z2 h => ?_)
  refine L_ps c155 (n := 6) (pc1 := 10) (ls1 := [jR i1, jI v1, jI (jand z2 7), jU]) (st1 := [jI 0, jR i1, jI 0, jR i1]) rfl ?_
  refine E_rI (c155 10 rfl) hM h (fun z3 h => ?_)
  refine L_ps c155 (n := 2) (pc1 := 13) (ls1 := [jR i1, jI v1, jI (jand z2 7), jU]) (st1 := [jI (jushr z3 3), jI 0, jR i1]) rfl ?_
  refine E_wI (c155 13 rfl) hM h (fun M s4 hM h => ?_)
  refine L_ps c155 (n := 1) (pc1 := 15) (ls1 := [jR i1, jI v1, jI (jand z2 7), jU]) (st1 := [jI v1]) rfl ?_
  refine L_nb (p1 := 40) (p2 := 18) (c155 15 rfl) rfl jc_le h (fun h => ?_) (fun h => ?_)
  · refine L_ps c155 (n := 2) (pc1 := 20) (ls1 := [jR i1, jI v1, jI (jand z2 7), jU]) (st1 := [jI 5, jI (jand z2 7)]) rfl ?_
    refine L_nb (p1 := 40) (p2 := 23) (c155 20 rfl) rfl jc_le h (fun h => ?_) (fun h => ?_)
    · refine E_nC (c155 23 rfl) hM (by decide) h (fun i5 M s6 hM h => ?_)
      refine L_ps c155 (n := 6) (pc1 := 32) (ls1 := [jR i1, jI v1, jI (jand z2 7), jU]) (st1 := [jI (wr (v1 - 1)), jR i1, jI 1, jR i5, jR i5]) rfl ?_
      refine E_cV (pc1 := 35) (c155 32 rfl) (js_t rfl) rfl (k_Lw_tree1 rfl hM h) (fun x8 M s7 hM hx8 h => ?_)
      refine L_ps c155 (n := 1) (pc1 := 36) (ls1 := [jR i1, jI v1, jI (jand z2 7), jU]) (st1 := [jX .null, x8, jI 1, jR i5, jR i5]) rfl ?_
      refine E_cN (pc1 := 39) (c155 36 rfl) (js_s (show vsplit (3 % 100) [jX .null, x8, jI 1, jR i5, jR i5] = some (i5, [jR i5, jI 1, x8, jX .null], [jR i5]) from vs_v (A := [jX .null, x8, jI 1]) (B := [jR i5]) rfl (al_c rfl (al_c (jnl_c2 hx8) (al_c rfl al_n))) (Nat.le_of_ble_eq_true rfl))) rfl (k_Node_init rfl hx8 rfl hM h) (fun M s9 hM h => ?_)
      exact E_retV (c155 39 rfl) rfl (hQ _ _ _ hM rfl h)
    · exact k_Lw_tree2_j40 rfl hM hQ h
  · exact k_Lw_tree2_j40 rfl hM hQ h
theorem k_Lw_tree3_j74 {v2 : Int} {s : LSt} {M : JM} {P : JO → JM → Prop} {g0 : JV} {g1 : JV} {g3 : JV} {Q : JV → LSt → Prop} (hg1 : jc2 g1 = false) (hM : R2 s M) (hQ : ∀ (r : JV) (M1 : JM) (s1 : LSt), R2 s1 M1 → jnl r = true → Q r s1 → P (.inl (some r)) M1) (h : d_Lw_tree_j74 (d_Lw_tree 3) v2 s Q) : JX 156 74 [g0, g1, jI v2, g3] [] M P := by
  unfold d_Lw_tree_j74 at h
  refine L_ps c156 (n := 2) (pc1 := 76) (ls1 := [g0, g1, jI v2, g3]) (st1 := [jI 2, jI v2]) rfl ?_
  refine L_nb (p1 := 94) (p2 := 79) (c156 76 rfl) rfl jc_ge h (fun h => ?_) (fun h => ?_)
  · refine E_nC (c156 79 rfl) hM (by decide) h (fun i19 M s20 hM h => ?_)
    refine L_ps c156 (n := 6) (pc1 := 88) (ls1 := [g0, g1, jI v2, g3]) (st1 := [jX .null, jX .null, jI (wr (2 + v2)), jR i19, jR i19]) rfl ?_
    refine E_cN (pc1 := 91) (c156 88 rfl) (js_s rfl) rfl (k_Node_init rfl rfl rfl hM h) (fun M s21 hM h => ?_)
    refine L_ps c156 (n := 1) (pc1 := 109) (ls1 := [g0, g1, jI v2, g3]) (st1 := [jR i19]) rfl ?_
    exact E_retV (c156 109 rfl) rfl (hQ _ _ _ hM rfl h)
  · refine E_nC (c156 94 rfl) hM (by decide) h (fun i23 M s24 hM h => ?_)
    refine L_ps c156 (n := 8) (pc1 := 106) (ls1 := [g0, g1, jI v2, g3]) (st1 := [jX .null, jX .null, jI (wr (100 + (jand v2 1))), jR i23, jR i23]) rfl ?_
    refine E_cN (pc1 := 109) (c156 106 rfl) (js_s rfl) rfl (k_Node_init rfl rfl rfl hM h) (fun M s25 hM h => ?_)
    exact E_retV (c156 109 rfl) rfl (hQ _ _ _ hM rfl h)
theorem k_Lw_tree3_j40 {v0 : JV} {v1 : Int} {v2 : Int} {s : LSt} {M : JM} {P : JO → JM → Prop} {g3 : JV} {Q : JV → LSt → Prop} (hv0 : jnl v0 = true) (hM : R2 s M) (hQ : ∀ (r : JV) (M1 : JM) (s1 : LSt), R2 s1 M1 → jnl r = true → Q r s1 → P (.inl (some r)) M1) (h : d_Lw_tree_j40 (d_Lw_tree 3) v0 v1 v2 s Q) : JX 156 40 [v0, jI v1, jI v2, g3] [] M P := by
  unfold d_Lw_tree_j40 at h
  refine L_ps c156 (n := 1) (pc1 := 41) (ls1 := [v0, jI v1, jI v2, g3]) (st1 := [jI v1]) rfl ?_
  refine L_nb (p1 := 74) (p2 := 44) (c156 41 rfl) rfl jc_le h (fun h => ?_) (fun h => ?_)
  · refine L_ps c156 (n := 2) (pc1 := 46) (ls1 := [v0, jI v1, jI v2, g3]) (st1 := [jI 2, jI v2]) rfl ?_
    refine L_nb (p1 := 74) (p2 := 49) (c156 46 rfl) rfl jc_le h (fun h => ?_) (fun h => ?_)
    · refine E_aldn (c156 49 rfl) rfl hv0 ?_
      show JX 156 50 [v0, jI v1, jI v2, g3] [v0] M P
      refine L_ps c156 (n := 3) (pc1 := 53) (ls1 := [v0, jI v1, jI v2, g3]) (st1 := [jI (wr (v1 - 1)), v0]) rfl ?_
      refine E_cV (pc1 := 56) (c156 53 rfl) (js_t (show ssplit 2 [jI (wr (v1 - 1)), v0] = some ([v0, jI (wr (v1 - 1))], []) from ss_v (A := [jI (wr (v1 - 1)), v0]) (B := []) rfl (al_c rfl (al_c (jnl_c2 hv0) al_n)) (Nat.le_of_ble_eq_true rfl))) rfl (k_Lw_tree2 hv0 hM h) (fun x12 M s11 hM hx12 h => ?_)
      refine E_astn (ls1 := [v0, jI v1, jI v2, x12]) (c156 56 rfl) rfl (Nat.le_of_ble_eq_true rfl) hx12 rfl ?_
      refine E_nC (c156 57 rfl) hM (by decide) h (fun i13 M s14 hM h => ?_)
      refine L_ps c156 (n := 2) (pc1 := 62) (ls1 := [v0, jI v1, jI v2, x12]) (st1 := [jI 0, jR i13, jR i13]) rfl ?_
      refine E_aldn (c156 62 rfl) rfl hx12 ?_
      show JX 156 63 [v0, jI v1, jI v2, x12] [x12, jI 0, jR i13, jR i13] M P
      refine E_aldn (c156 63 rfl) rfl hv0 ?_
      show JX 156 64 [v0, jI v1, jI v2, x12] [v0, x12, jI 0, jR i13, jR i13] M P
      refine L_ps c156 (n := 3) (pc1 := 67) (ls1 := [v0, jI v1, jI v2, x12]) (st1 := [jI (wr (v1 - 1)), v0, x12, jI 0, jR i13, jR i13]) rfl ?_
      refine E_cV (pc1 := 70) (c156 67 rfl) (js_t (show ssplit 2 [jI (wr (v1 - 1)), v0, x12, jI 0, jR i13, jR i13] = some ([v0, jI (wr (v1 - 1))], [x12, jI 0, jR i13, jR i13]) from ss_v (A := [jI (wr (v1 - 1)), v0]) (B := [x12, jI 0, jR i13, jR i13]) rfl (al_c rfl (al_c (jnl_c2 hv0) al_n)) (Nat.le_of_ble_eq_true rfl))) rfl (k_Lw_tree2 hv0 hM h) (fun x16 M s15 hM hx16 h => ?_)
      refine E_cN (pc1 := 73) (c156 70 rfl) (js_s (show vsplit (3 % 100) [x16, x12, jI 0, jR i13, jR i13] = some (i13, [jR i13, jI 0, x12, x16], [jR i13]) from vs_v (A := [x16, x12, jI 0]) (B := [jR i13]) rfl (al_c (jnl_c2 hx16) (al_c (jnl_c2 hx12) (al_c rfl al_n))) (Nat.le_of_ble_eq_true rfl))) rfl (k_Node_init rfl hx12 hx16 hM h) (fun M s17 hM h => ?_)
      exact E_retV (c156 73 rfl) rfl (hQ _ _ _ hM rfl h)
    · exact k_Lw_tree3_j74 rfl hM hQ h
  · exact k_Lw_tree3_j74 rfl hM hQ h
theorem k_Lw_tree3 {v0 : JV} {v1 : Int} {s : LSt} {M : JM} {Q : JV → LSt → Prop} (hv0 : jnl v0 = true) (hM : R2 s M) (h : d_Lw_tree 4 v0 v1 s Q) : JX 156 0 (jargs 156 [v0, jI v1]) [] M (P2 (QV2 Q)) := by
  have h : d_Lw_tree_F (d_Lw_tree 3) v0 v1 s Q := h
  unfold d_Lw_tree_F at h
  show JX 156 0 [v0, jI v1, jU, jU] [] M (P2 (QV2 Q))
  generalize hP : P2 (QV2 Q) = P
  have hQ : ∀ (r : JV) (M1 : JM) (s1 : LSt), R2 s1 M1 → jnl r = true → Q r s1 → P (.inl (some r)) M1 := by rw [← hP]; exact fun r M1 s1 a c b => ⟨s1, a, r, rfl, c, b⟩
  clear hP
  refine E_aldn (c156 0 rfl) rfl hv0 ?_
  show JX 156 1 [v0, jI v1, jU, jU] [v0] M P
  refine L_ps c156 (n := 1) (pc1 := 2) (ls1 := [v0, jI v1, jU, jU]) (st1 := [jI 0, v0]) rfl ?_
  obtain ⟨i1, e, g⟩ := cR_of h
  clear h
  subst e
  have h := g
  clear g
  refine E_rI (c156 2 rfl) hM h (fun z2 h => ?_)
  refine L_ps c156 (n := 6) (pc1 := 10) (ls1 := [jR i1, jI v1, jI (jand z2 7), jU]) (st1 := [jI 0, jR i1, jI 0, jR i1]) rfl ?_
  refine E_rI (c156 10 rfl) hM h (fun z3 h => ?_)
  refine L_ps c156 (n := 2) (pc1 := 13) (ls1 := [jR i1, jI v1, jI (jand z2 7), jU]) (st1 := [jI (jushr z3 3), jI 0, jR i1]) rfl ?_
  refine E_wI (c156 13 rfl) hM h (fun M s4 hM h => ?_)
  refine L_ps c156 (n := 1) (pc1 := 15) (ls1 := [jR i1, jI v1, jI (jand z2 7), jU]) (st1 := [jI v1]) rfl ?_
  refine L_nb (p1 := 40) (p2 := 18) (c156 15 rfl) rfl jc_le h (fun h => ?_) (fun h => ?_)
  · refine L_ps c156 (n := 2) (pc1 := 20) (ls1 := [jR i1, jI v1, jI (jand z2 7), jU]) (st1 := [jI 5, jI (jand z2 7)]) rfl ?_
    refine L_nb (p1 := 40) (p2 := 23) (c156 20 rfl) rfl jc_le h (fun h => ?_) (fun h => ?_)
    · refine E_nC (c156 23 rfl) hM (by decide) h (fun i5 M s6 hM h => ?_)
      refine L_ps c156 (n := 6) (pc1 := 32) (ls1 := [jR i1, jI v1, jI (jand z2 7), jU]) (st1 := [jI (wr (v1 - 1)), jR i1, jI 1, jR i5, jR i5]) rfl ?_
      refine E_cV (pc1 := 35) (c156 32 rfl) (js_t rfl) rfl (k_Lw_tree2 rfl hM h) (fun x8 M s7 hM hx8 h => ?_)
      refine L_ps c156 (n := 1) (pc1 := 36) (ls1 := [jR i1, jI v1, jI (jand z2 7), jU]) (st1 := [jX .null, x8, jI 1, jR i5, jR i5]) rfl ?_
      refine E_cN (pc1 := 39) (c156 36 rfl) (js_s (show vsplit (3 % 100) [jX .null, x8, jI 1, jR i5, jR i5] = some (i5, [jR i5, jI 1, x8, jX .null], [jR i5]) from vs_v (A := [jX .null, x8, jI 1]) (B := [jR i5]) rfl (al_c rfl (al_c (jnl_c2 hx8) (al_c rfl al_n))) (Nat.le_of_ble_eq_true rfl))) rfl (k_Node_init rfl hx8 rfl hM h) (fun M s9 hM h => ?_)
      exact E_retV (c156 39 rfl) rfl (hQ _ _ _ hM rfl h)
    · exact k_Lw_tree3_j40 rfl hM hQ h
  · exact k_Lw_tree3_j40 rfl hM hQ h
theorem k_Lw_tree4_j74 {v2 : Int} {s : LSt} {M : JM} {P : JO → JM → Prop} {g0 : JV} {g1 : JV} {g3 : JV} {Q : JV → LSt → Prop} (hg1 : jc2 g1 = false) (hM : R2 s M) (hQ : ∀ (r : JV) (M1 : JM) (s1 : LSt), R2 s1 M1 → jnl r = true → Q r s1 → P (.inl (some r)) M1) (h : d_Lw_tree_j74 (d_Lw_tree 4) v2 s Q) : JX 157 74 [g0, g1, jI v2, g3] [] M P := by
  unfold d_Lw_tree_j74 at h
  refine L_ps c157 (n := 2) (pc1 := 76) (ls1 := [g0, g1, jI v2, g3]) (st1 := [jI 2, jI v2]) rfl ?_
  refine L_nb (p1 := 94) (p2 := 79) (c157 76 rfl) rfl jc_ge h (fun h => ?_) (fun h => ?_)
  · refine E_nC (c157 79 rfl) hM (by decide) h (fun i19 M s20 hM h => ?_)
    refine L_ps c157 (n := 6) (pc1 := 88) (ls1 := [g0, g1, jI v2, g3]) (st1 := [jX .null, jX .null, jI (wr (2 + v2)), jR i19, jR i19]) rfl ?_
    refine E_cN (pc1 := 91) (c157 88 rfl) (js_s rfl) rfl (k_Node_init rfl rfl rfl hM h) (fun M s21 hM h => ?_)
    refine L_ps c157 (n := 1) (pc1 := 109) (ls1 := [g0, g1, jI v2, g3]) (st1 := [jR i19]) rfl ?_
    exact E_retV (c157 109 rfl) rfl (hQ _ _ _ hM rfl h)
  · refine E_nC (c157 94 rfl) hM (by decide) h (fun i23 M s24 hM h => ?_)
    refine L_ps c157 (n := 8) (pc1 := 106) (ls1 := [g0, g1, jI v2, g3]) (st1 := [jX .null, jX .null, jI (wr (100 + (jand v2 1))), jR i23, jR i23]) rfl ?_
    refine E_cN (pc1 := 109) (c157 106 rfl) (js_s rfl) rfl (k_Node_init rfl rfl rfl hM h) (fun M s25 hM h => ?_)
    exact E_retV (c157 109 rfl) rfl (hQ _ _ _ hM rfl h)
theorem k_Lw_tree4_j40 {v0 : JV} {v1 : Int} {v2 : Int} {s : LSt} {M : JM} {P : JO → JM → Prop} {g3 : JV} {Q : JV → LSt → Prop} (hv0 : jnl v0 = true) (hM : R2 s M) (hQ : ∀ (r : JV) (M1 : JM) (s1 : LSt), R2 s1 M1 → jnl r = true → Q r s1 → P (.inl (some r)) M1) (h : d_Lw_tree_j40 (d_Lw_tree 4) v0 v1 v2 s Q) : JX 157 40 [v0, jI v1, jI v2, g3] [] M P := by
  unfold d_Lw_tree_j40 at h
  refine L_ps c157 (n := 1) (pc1 := 41) (ls1 := [v0, jI v1, jI v2, g3]) (st1 := [jI v1]) rfl ?_
  refine L_nb (p1 := 74) (p2 := 44) (c157 41 rfl) rfl jc_le h (fun h => ?_) (fun h => ?_)
  · refine L_ps c157 (n := 2) (pc1 := 46) (ls1 := [v0, jI v1, jI v2, g3]) (st1 := [jI 2, jI v2]) rfl ?_
    refine L_nb (p1 := 74) (p2 := 49) (c157 46 rfl) rfl jc_le h (fun h => ?_) (fun h => ?_)
    · refine E_aldn (c157 49 rfl) rfl hv0 ?_
      show JX 157 50 [v0, jI v1, jI v2, g3] [v0] M P
      refine L_ps c157 (n := 3) (pc1 := 53) (ls1 := [v0, jI v1, jI v2, g3]) (st1 := [jI (wr (v1 - 1)), v0]) rfl ?_
      refine E_cV (pc1 := 56) (c157 53 rfl) (js_t (show ssplit 2 [jI (wr (v1 - 1)), v0] = some ([v0, jI (wr (v1 - 1))], []) from ss_v (A := [jI (wr (v1 - 1)), v0]) (B := []) rfl (al_c rfl (al_c (jnl_c2 hv0) al_n)) (Nat.le_of_ble_eq_true rfl))) rfl (k_Lw_tree3 hv0 hM h) (fun x12 M s11 hM hx12 h => ?_)
      refine E_astn (ls1 := [v0, jI v1, jI v2, x12]) (c157 56 rfl) rfl (Nat.le_of_ble_eq_true rfl) hx12 rfl ?_
      refine E_nC (c157 57 rfl) hM (by decide) h (fun i13 M s14 hM h => ?_)
      refine L_ps c157 (n := 2) (pc1 := 62) (ls1 := [v0, jI v1, jI v2, x12]) (st1 := [jI 0, jR i13, jR i13]) rfl ?_
      refine E_aldn (c157 62 rfl) rfl hx12 ?_
      show JX 157 63 [v0, jI v1, jI v2, x12] [x12, jI 0, jR i13, jR i13] M P
      refine E_aldn (c157 63 rfl) rfl hv0 ?_
      show JX 157 64 [v0, jI v1, jI v2, x12] [v0, x12, jI 0, jR i13, jR i13] M P
      refine L_ps c157 (n := 3) (pc1 := 67) (ls1 := [v0, jI v1, jI v2, x12]) (st1 := [jI (wr (v1 - 1)), v0, x12, jI 0, jR i13, jR i13]) rfl ?_
      refine E_cV (pc1 := 70) (c157 67 rfl) (js_t (show ssplit 2 [jI (wr (v1 - 1)), v0, x12, jI 0, jR i13, jR i13] = some ([v0, jI (wr (v1 - 1))], [x12, jI 0, jR i13, jR i13]) from ss_v (A := [jI (wr (v1 - 1)), v0]) (B := [x12, jI 0, jR i13, jR i13]) rfl (al_c rfl (al_c (jnl_c2 hv0) al_n)) (Nat.le_of_ble_eq_true rfl))) rfl (k_Lw_tree3 hv0 hM h) (fun x16 M s15 hM hx16 h => ?_)
      refine E_cN (pc1 := 73) (c157 70 rfl) (js_s (show vsplit (3 % 100) [x16, x12, jI 0, jR i13, jR i13] = some (i13, [jR i13, jI 0, x12, x16], [jR i13]) from vs_v (A := [x16, x12, jI 0]) (B := [jR i13]) rfl (al_c (jnl_c2 hx16) (al_c (jnl_c2 hx12) (al_c rfl al_n))) (Nat.le_of_ble_eq_true rfl))) rfl (k_Node_init rfl hx12 hx16 hM h) (fun M s17 hM h => ?_)
      exact E_retV (c157 73 rfl) rfl (hQ _ _ _ hM rfl h)
    · exact k_Lw_tree4_j74 rfl hM hQ h
  · exact k_Lw_tree4_j74 rfl hM hQ h
theorem k_Lw_tree4 {v0 : JV} {v1 : Int} {s : LSt} {M : JM} {Q : JV → LSt → Prop} (hv0 : jnl v0 = true) (hM : R2 s M) (h : d_Lw_tree 5 v0 v1 s Q) : JX 157 0 (jargs 157 [v0, jI v1]) [] M (P2 (QV2 Q)) := by
  have h : d_Lw_tree_F (d_Lw_tree 4) v0 v1 s Q := h
  unfold d_Lw_tree_F at h
  show JX 157 0 [v0, jI v1, jU, jU] [] M (P2 (QV2 Q))
  generalize hP : P2 (QV2 Q) = P
  have hQ : ∀ (r : JV) (M1 : JM) (s1 : LSt), R2 s1 M1 → jnl r = true → Q r s1 → P (.inl (some r)) M1 := by rw [← hP]; exact fun r M1 s1 a c b => ⟨s1, a, r, rfl, c, b⟩
  clear hP
  refine E_aldn (c157 0 rfl) rfl hv0 ?_
  show JX 157 1 [v0, jI v1, jU, jU] [v0] M P
  refine L_ps c157 (n := 1) (pc1 := 2) (ls1 := [v0, jI v1, jU, jU]) (st1 := [jI 0, v0]) rfl ?_
  obtain ⟨i1, e, g⟩ := cR_of h
  clear h
  subst e
  have h := g
  clear g
  refine E_rI (c157 2 rfl) hM h (fun z2 h => ?_)
  refine L_ps c157 (n := 6) (pc1 := 10) (ls1 := [jR i1, jI v1, jI (jand z2 7), jU]) (st1 := [jI 0, jR i1, jI 0, jR i1]) rfl ?_
  refine E_rI (c157 10 rfl) hM h (fun z3 h => ?_)
  refine L_ps c157 (n := 2) (pc1 := 13) (ls1 := [jR i1, jI v1, jI (jand z2 7), jU]) (st1 := [jI (jushr z3 3), jI 0, jR i1]) rfl ?_
  refine E_wI (c157 13 rfl) hM h (fun M s4 hM h => ?_)
  refine L_ps c157 (n := 1) (pc1 := 15) (ls1 := [jR i1, jI v1, jI (jand z2 7), jU]) (st1 := [jI v1]) rfl ?_
  refine L_nb (p1 := 40) (p2 := 18) (c157 15 rfl) rfl jc_le h (fun h => ?_) (fun h => ?_)
  · refine L_ps c157 (n := 2) (pc1 := 20) (ls1 := [jR i1, jI v1, jI (jand z2 7), jU]) (st1 := [jI 5, jI (jand z2 7)]) rfl ?_
    refine L_nb (p1 := 40) (p2 := 23) (c157 20 rfl) rfl jc_le h (fun h => ?_) (fun h => ?_)
    · refine E_nC (c157 23 rfl) hM (by decide) h (fun i5 M s6 hM h => ?_)
      refine L_ps c157 (n := 6) (pc1 := 32) (ls1 := [jR i1, jI v1, jI (jand z2 7), jU]) (st1 := [jI (wr (v1 - 1)), jR i1, jI 1, jR i5, jR i5]) rfl ?_
      refine E_cV (pc1 := 35) (c157 32 rfl) (js_t rfl) rfl (k_Lw_tree3 rfl hM h) (fun x8 M s7 hM hx8 h => ?_)
      refine L_ps c157 (n := 1) (pc1 := 36) (ls1 := [jR i1, jI v1, jI (jand z2 7), jU]) (st1 := [jX .null, x8, jI 1, jR i5, jR i5]) rfl ?_
      refine E_cN (pc1 := 39) (c157 36 rfl) (js_s (show vsplit (3 % 100) [jX .null, x8, jI 1, jR i5, jR i5] = some (i5, [jR i5, jI 1, x8, jX .null], [jR i5]) from vs_v (A := [jX .null, x8, jI 1]) (B := [jR i5]) rfl (al_c rfl (al_c (jnl_c2 hx8) (al_c rfl al_n))) (Nat.le_of_ble_eq_true rfl))) rfl (k_Node_init rfl hx8 rfl hM h) (fun M s9 hM h => ?_)
      exact E_retV (c157 39 rfl) rfl (hQ _ _ _ hM rfl h)
    · exact k_Lw_tree4_j40 rfl hM hQ h
  · exact k_Lw_tree4_j40 rfl hM hQ h
theorem k_Lw_uses0_j21 {v0 : JV} {v1 : Int} {t0 : Int} {s : LSt} {M : JM} {P : JO → JM → Prop} {Q : Int → LSt → Prop} (hv0 : jnl v0 = true) (hM : R2 s M) (hQ : ∀ (r : Int) (M1 : JM) (s1 : LSt), R2 s1 M1 → Q r s1 → P (.inl (some (.inl r))) M1) (h : d_Lw_uses_j21 (d_Lw_uses 0) v0 v1 t0 s Q) : JX 164 21 [v0, jI v1] [jI t0] M P := by
  unfold d_Lw_uses_j21 at h
  refine E_aldn (c164 21 rfl) rfl hv0 ?_
  show JX 164 22 [v0, jI v1] [v0, jI t0] M P
  obtain ⟨i3, e, g⟩ := cR_of h
  clear h
  subst e
  have h := g
  clear g
  refine E_fV (c164 22 rfl) hM (by decide) h (fun x4 hx4 h => ?_)
  refine L_ps c164 (n := 1) (pc1 := 26) (ls1 := [jR i3, jI v1]) (st1 := [jI v1, x4, jI t0]) rfl ?_
  exact False.elim h
theorem k_Lw_uses0 {v0 : JV} {v1 : Int} {s : LSt} {M : JM} {Q : Int → LSt → Prop} (hv0 : jnl v0 = true) (hM : R2 s M) (h : d_Lw_uses 1 v0 v1 s Q) : JX 164 0 (jargs 164 [v0, jI v1]) [] M (P2 (QI2 Q)) := by
  have h : d_Lw_uses_F (d_Lw_uses 0) v0 v1 s Q := h
  unfold d_Lw_uses_F at h
  show JX 164 0 [v0, jI v1] [] M (P2 (QI2 Q))
  generalize hP : P2 (QI2 Q) = P
  have hQ : ∀ (r : Int) (M1 : JM) (s1 : LSt), R2 s1 M1 → Q r s1 → P (.inl (some (.inl r))) M1 := by rw [← hP]; exact fun r M1 s1 a b => ⟨s1, a, r, rfl, b⟩
  clear hP
  refine E_aldn (c164 0 rfl) rfl hv0 ?_
  show JX 164 1 [v0, jI v1] [v0] M P
  refine E_ifnn (c164 1 rfl) h (fun e g => ?_) (fun i1 e g => ?_)
  · clear h
    subst e
    have h := g
    clear g
    refine L_ps c164 (n := 2) (pc1 := 39) (ls1 := [jX .null, jI v1]) (st1 := [jI 0]) rfl ?_
    exact L_retI (c164 39 rfl) (hQ _ _ _ hM h)
  · clear h
    subst e
    have h := g
    clear g
    refine L_ps c164 (n := 1) (pc1 := 9) (ls1 := [jR i1, jI v1]) (st1 := [jR i1]) rfl ?_
    refine E_fI (c164 9 rfl) hM (by decide) h (fun z2 h => ?_)
    refine L_ps c164 (n := 1) (pc1 := 13) (ls1 := [jR i1, jI v1]) (st1 := [jI v1, jI z2]) rfl ?_
    refine L_nb (p1 := 20) (p2 := 16) (c164 13 rfl) rfl jc_ne h (fun h => ?_) (fun h => ?_)
    · refine L_ps c164 (n := 2) (pc1 := 21) (ls1 := [jR i1, jI v1]) (st1 := [jI 1]) rfl ?_
      exact k_Lw_uses0_j21 rfl hM hQ h
    · refine L_ps c164 (n := 1) (pc1 := 21) (ls1 := [jR i1, jI v1]) (st1 := [jI 0]) rfl ?_
      exact k_Lw_uses0_j21 rfl hM hQ h
theorem k_Lw_uses1_j21 {v0 : JV} {v1 : Int} {t0 : Int} {s : LSt} {M : JM} {P : JO → JM → Prop} {Q : Int → LSt → Prop} (hv0 : jnl v0 = true) (hM : R2 s M) (hQ : ∀ (r : Int) (M1 : JM) (s1 : LSt), R2 s1 M1 → Q r s1 → P (.inl (some (.inl r))) M1) (h : d_Lw_uses_j21 (d_Lw_uses 1) v0 v1 t0 s Q) : JX 165 21 [v0, jI v1] [jI t0] M P := by
  unfold d_Lw_uses_j21 at h
  refine E_aldn (c165 21 rfl) rfl hv0 ?_
  show JX 165 22 [v0, jI v1] [v0, jI t0] M P
  obtain ⟨i3, e, g⟩ := cR_of h
  clear h
  subst e
  have h := g
  clear g
  refine E_fV (c165 22 rfl) hM (by decide) h (fun x4 hx4 h => ?_)
  refine L_ps c165 (n := 1) (pc1 := 26) (ls1 := [jR i3, jI v1]) (st1 := [jI v1, x4, jI t0]) rfl ?_
  refine E_cI (pc1 := 29) (c165 26 rfl) (js_t (show ssplit 2 [jI v1, x4, jI t0] = some ([x4, jI v1], [jI t0]) from ss_v (A := [jI v1, x4]) (B := [jI t0]) rfl (al_c rfl (al_c (jnl_c2 hx4) al_n)) (Nat.le_of_ble_eq_true rfl))) rfl (k_Lw_uses0 hx4 hM h) (fun r6 M s5 hM h => ?_)
  refine L_ps c165 (n := 2) (pc1 := 31) (ls1 := [jR i3, jI v1]) (st1 := [jR i3, jI (wr (t0 + r6))]) rfl ?_
  refine E_fV (c165 31 rfl) hM (by decide) h (fun x7 hx7 h => ?_)
  refine L_ps c165 (n := 1) (pc1 := 35) (ls1 := [jR i3, jI v1]) (st1 := [jI v1, x7, jI (wr (t0 + r6))]) rfl ?_
  refine E_cI (pc1 := 38) (c165 35 rfl) (js_t (show ssplit 2 [jI v1, x7, jI (wr (t0 + r6))] = some ([x7, jI v1], [jI (wr (t0 + r6))]) from ss_v (A := [jI v1, x7]) (B := [jI (wr (t0 + r6))]) rfl (al_c rfl (al_c (jnl_c2 hx7) al_n)) (Nat.le_of_ble_eq_true rfl))) rfl (k_Lw_uses0 hx7 hM h) (fun r9 M s8 hM h => ?_)
  refine L_ps c165 (n := 1) (pc1 := 39) (ls1 := [jR i3, jI v1]) (st1 := [jI (wr ((wr (t0 + r6)) + r9))]) rfl ?_
  exact L_retI (c165 39 rfl) (hQ _ _ _ hM h)
theorem k_Lw_uses1 {v0 : JV} {v1 : Int} {s : LSt} {M : JM} {Q : Int → LSt → Prop} (hv0 : jnl v0 = true) (hM : R2 s M) (h : d_Lw_uses 2 v0 v1 s Q) : JX 165 0 (jargs 165 [v0, jI v1]) [] M (P2 (QI2 Q)) := by
  have h : d_Lw_uses_F (d_Lw_uses 1) v0 v1 s Q := h
  unfold d_Lw_uses_F at h
  show JX 165 0 [v0, jI v1] [] M (P2 (QI2 Q))
  generalize hP : P2 (QI2 Q) = P
  have hQ : ∀ (r : Int) (M1 : JM) (s1 : LSt), R2 s1 M1 → Q r s1 → P (.inl (some (.inl r))) M1 := by rw [← hP]; exact fun r M1 s1 a b => ⟨s1, a, r, rfl, b⟩
  clear hP
  refine E_aldn (c165 0 rfl) rfl hv0 ?_
  show JX 165 1 [v0, jI v1] [v0] M P
  refine E_ifnn (c165 1 rfl) h (fun e g => ?_) (fun i1 e g => ?_)
  · clear h
    subst e
    have h := g
    clear g
    refine L_ps c165 (n := 2) (pc1 := 39) (ls1 := [jX .null, jI v1]) (st1 := [jI 0]) rfl ?_
    exact L_retI (c165 39 rfl) (hQ _ _ _ hM h)
  · clear h
    subst e
    have h := g
    clear g
    refine L_ps c165 (n := 1) (pc1 := 9) (ls1 := [jR i1, jI v1]) (st1 := [jR i1]) rfl ?_
    refine E_fI (c165 9 rfl) hM (by decide) h (fun z2 h => ?_)
    refine L_ps c165 (n := 1) (pc1 := 13) (ls1 := [jR i1, jI v1]) (st1 := [jI v1, jI z2]) rfl ?_
    refine L_nb (p1 := 20) (p2 := 16) (c165 13 rfl) rfl jc_ne h (fun h => ?_) (fun h => ?_)
    · refine L_ps c165 (n := 2) (pc1 := 21) (ls1 := [jR i1, jI v1]) (st1 := [jI 1]) rfl ?_
      exact k_Lw_uses1_j21 rfl hM hQ h
    · refine L_ps c165 (n := 1) (pc1 := 21) (ls1 := [jR i1, jI v1]) (st1 := [jI 0]) rfl ?_
      exact k_Lw_uses1_j21 rfl hM hQ h
theorem k_Lw_uses2_j21 {v0 : JV} {v1 : Int} {t0 : Int} {s : LSt} {M : JM} {P : JO → JM → Prop} {Q : Int → LSt → Prop} (hv0 : jnl v0 = true) (hM : R2 s M) (hQ : ∀ (r : Int) (M1 : JM) (s1 : LSt), R2 s1 M1 → Q r s1 → P (.inl (some (.inl r))) M1) (h : d_Lw_uses_j21 (d_Lw_uses 2) v0 v1 t0 s Q) : JX 166 21 [v0, jI v1] [jI t0] M P := by
  unfold d_Lw_uses_j21 at h
  refine E_aldn (c166 21 rfl) rfl hv0 ?_
  show JX 166 22 [v0, jI v1] [v0, jI t0] M P
  obtain ⟨i3, e, g⟩ := cR_of h
  clear h
  subst e
  have h := g
  clear g
  refine E_fV (c166 22 rfl) hM (by decide) h (fun x4 hx4 h => ?_)
  refine L_ps c166 (n := 1) (pc1 := 26) (ls1 := [jR i3, jI v1]) (st1 := [jI v1, x4, jI t0]) rfl ?_
  refine E_cI (pc1 := 29) (c166 26 rfl) (js_t (show ssplit 2 [jI v1, x4, jI t0] = some ([x4, jI v1], [jI t0]) from ss_v (A := [jI v1, x4]) (B := [jI t0]) rfl (al_c rfl (al_c (jnl_c2 hx4) al_n)) (Nat.le_of_ble_eq_true rfl))) rfl (k_Lw_uses1 hx4 hM h) (fun r6 M s5 hM h => ?_)
  refine L_ps c166 (n := 2) (pc1 := 31) (ls1 := [jR i3, jI v1]) (st1 := [jR i3, jI (wr (t0 + r6))]) rfl ?_
  refine E_fV (c166 31 rfl) hM (by decide) h (fun x7 hx7 h => ?_)
  refine L_ps c166 (n := 1) (pc1 := 35) (ls1 := [jR i3, jI v1]) (st1 := [jI v1, x7, jI (wr (t0 + r6))]) rfl ?_
  refine E_cI (pc1 := 38) (c166 35 rfl) (js_t (show ssplit 2 [jI v1, x7, jI (wr (t0 + r6))] = some ([x7, jI v1], [jI (wr (t0 + r6))]) from ss_v (A := [jI v1, x7]) (B := [jI (wr (t0 + r6))]) rfl (al_c rfl (al_c (jnl_c2 hx7) al_n)) (Nat.le_of_ble_eq_true rfl))) rfl (k_Lw_uses1 hx7 hM h) (fun r9 M s8 hM h => ?_)
  refine L_ps c166 (n := 1) (pc1 := 39) (ls1 := [jR i3, jI v1]) (st1 := [jI (wr ((wr (t0 + r6)) + r9))]) rfl ?_
  exact L_retI (c166 39 rfl) (hQ _ _ _ hM h)
theorem k_Lw_uses2 {v0 : JV} {v1 : Int} {s : LSt} {M : JM} {Q : Int → LSt → Prop} (hv0 : jnl v0 = true) (hM : R2 s M) (h : d_Lw_uses 3 v0 v1 s Q) : JX 166 0 (jargs 166 [v0, jI v1]) [] M (P2 (QI2 Q)) := by
  have h : d_Lw_uses_F (d_Lw_uses 2) v0 v1 s Q := h
  unfold d_Lw_uses_F at h
  show JX 166 0 [v0, jI v1] [] M (P2 (QI2 Q))
  generalize hP : P2 (QI2 Q) = P
  have hQ : ∀ (r : Int) (M1 : JM) (s1 : LSt), R2 s1 M1 → Q r s1 → P (.inl (some (.inl r))) M1 := by rw [← hP]; exact fun r M1 s1 a b => ⟨s1, a, r, rfl, b⟩
  clear hP
  refine E_aldn (c166 0 rfl) rfl hv0 ?_
  show JX 166 1 [v0, jI v1] [v0] M P
  refine E_ifnn (c166 1 rfl) h (fun e g => ?_) (fun i1 e g => ?_)
  · clear h
    subst e
    have h := g
    clear g
    refine L_ps c166 (n := 2) (pc1 := 39) (ls1 := [jX .null, jI v1]) (st1 := [jI 0]) rfl ?_
    exact L_retI (c166 39 rfl) (hQ _ _ _ hM h)
  · clear h
    subst e
    have h := g
    clear g
    refine L_ps c166 (n := 1) (pc1 := 9) (ls1 := [jR i1, jI v1]) (st1 := [jR i1]) rfl ?_
    refine E_fI (c166 9 rfl) hM (by decide) h (fun z2 h => ?_)
    refine L_ps c166 (n := 1) (pc1 := 13) (ls1 := [jR i1, jI v1]) (st1 := [jI v1, jI z2]) rfl ?_
    refine L_nb (p1 := 20) (p2 := 16) (c166 13 rfl) rfl jc_ne h (fun h => ?_) (fun h => ?_)
    · refine L_ps c166 (n := 2) (pc1 := 21) (ls1 := [jR i1, jI v1]) (st1 := [jI 1]) rfl ?_
      exact k_Lw_uses2_j21 rfl hM hQ h
    · refine L_ps c166 (n := 1) (pc1 := 21) (ls1 := [jR i1, jI v1]) (st1 := [jI 0]) rfl ?_
      exact k_Lw_uses2_j21 rfl hM hQ h
theorem k_Lw_uses3_j21 {v0 : JV} {v1 : Int} {t0 : Int} {s : LSt} {M : JM} {P : JO → JM → Prop} {Q : Int → LSt → Prop} (hv0 : jnl v0 = true) (hM : R2 s M) (hQ : ∀ (r : Int) (M1 : JM) (s1 : LSt), R2 s1 M1 → Q r s1 → P (.inl (some (.inl r))) M1) (h : d_Lw_uses_j21 (d_Lw_uses 3) v0 v1 t0 s Q) : JX 167 21 [v0, jI v1] [jI t0] M P := by
  unfold d_Lw_uses_j21 at h
  refine E_aldn (c167 21 rfl) rfl hv0 ?_
  show JX 167 22 [v0, jI v1] [v0, jI t0] M P
  obtain ⟨i3, e, g⟩ := cR_of h
  clear h
  subst e
  have h := g
  clear g
  refine E_fV (c167 22 rfl) hM (by decide) h (fun x4 hx4 h => ?_)
  refine L_ps c167 (n := 1) (pc1 := 26) (ls1 := [jR i3, jI v1]) (st1 := [jI v1, x4, jI t0]) rfl ?_
  refine E_cI (pc1 := 29) (c167 26 rfl) (js_t (show ssplit 2 [jI v1, x4, jI t0] = some ([x4, jI v1], [jI t0]) from ss_v (A := [jI v1, x4]) (B := [jI t0]) rfl (al_c rfl (al_c (jnl_c2 hx4) al_n)) (Nat.le_of_ble_eq_true rfl))) rfl (k_Lw_uses2 hx4 hM h) (fun r6 M s5 hM h => ?_)
  refine L_ps c167 (n := 2) (pc1 := 31) (ls1 := [jR i3, jI v1]) (st1 := [jR i3, jI (wr (t0 + r6))]) rfl ?_
  refine E_fV (c167 31 rfl) hM (by decide) h (fun x7 hx7 h => ?_)
  refine L_ps c167 (n := 1) (pc1 := 35) (ls1 := [jR i3, jI v1]) (st1 := [jI v1, x7, jI (wr (t0 + r6))]) rfl ?_
  refine E_cI (pc1 := 38) (c167 35 rfl) (js_t (show ssplit 2 [jI v1, x7, jI (wr (t0 + r6))] = some ([x7, jI v1], [jI (wr (t0 + r6))]) from ss_v (A := [jI v1, x7]) (B := [jI (wr (t0 + r6))]) rfl (al_c rfl (al_c (jnl_c2 hx7) al_n)) (Nat.le_of_ble_eq_true rfl))) rfl (k_Lw_uses2 hx7 hM h) (fun r9 M s8 hM h => ?_)
  refine L_ps c167 (n := 1) (pc1 := 39) (ls1 := [jR i3, jI v1]) (st1 := [jI (wr ((wr (t0 + r6)) + r9))]) rfl ?_
  exact L_retI (c167 39 rfl) (hQ _ _ _ hM h)
theorem k_Lw_uses3 {v0 : JV} {v1 : Int} {s : LSt} {M : JM} {Q : Int → LSt → Prop} (hv0 : jnl v0 = true) (hM : R2 s M) (h : d_Lw_uses 4 v0 v1 s Q) : JX 167 0 (jargs 167 [v0, jI v1]) [] M (P2 (QI2 Q)) := by
  have h : d_Lw_uses_F (d_Lw_uses 3) v0 v1 s Q := h
  unfold d_Lw_uses_F at h
  show JX 167 0 [v0, jI v1] [] M (P2 (QI2 Q))
  generalize hP : P2 (QI2 Q) = P
  have hQ : ∀ (r : Int) (M1 : JM) (s1 : LSt), R2 s1 M1 → Q r s1 → P (.inl (some (.inl r))) M1 := by rw [← hP]; exact fun r M1 s1 a b => ⟨s1, a, r, rfl, b⟩
  clear hP
  refine E_aldn (c167 0 rfl) rfl hv0 ?_
  show JX 167 1 [v0, jI v1] [v0] M P
  refine E_ifnn (c167 1 rfl) h (fun e g => ?_) (fun i1 e g => ?_)
  · clear h
    subst e
    have h := g
    clear g
    refine L_ps c167 (n := 2) (pc1 := 39) (ls1 := [jX .null, jI v1]) (st1 := [jI 0]) rfl ?_
    exact L_retI (c167 39 rfl) (hQ _ _ _ hM h)
  · clear h
    subst e
    have h := g
    clear g
    refine L_ps c167 (n := 1) (pc1 := 9) (ls1 := [jR i1, jI v1]) (st1 := [jR i1]) rfl ?_
    refine E_fI (c167 9 rfl) hM (by decide) h (fun z2 h => ?_)
    refine L_ps c167 (n := 1) (pc1 := 13) (ls1 := [jR i1, jI v1]) (st1 := [jI v1, jI z2]) rfl ?_
    refine L_nb (p1 := 20) (p2 := 16) (c167 13 rfl) rfl jc_ne h (fun h => ?_) (fun h => ?_)
    · refine L_ps c167 (n := 2) (pc1 := 21) (ls1 := [jR i1, jI v1]) (st1 := [jI 1]) rfl ?_
      exact k_Lw_uses3_j21 rfl hM hQ h
    · refine L_ps c167 (n := 1) (pc1 := 21) (ls1 := [jR i1, jI v1]) (st1 := [jI 0]) rfl ?_
      exact k_Lw_uses3_j21 rfl hM hQ h
theorem k_Lw_uses4_j21 {v0 : JV} {v1 : Int} {t0 : Int} {s : LSt} {M : JM} {P : JO → JM → Prop} {Q : Int → LSt → Prop} (hv0 : jnl v0 = true) (hM : R2 s M) (hQ : ∀ (r : Int) (M1 : JM) (s1 : LSt), R2 s1 M1 → Q r s1 → P (.inl (some (.inl r))) M1) (h : d_Lw_uses_j21 (d_Lw_uses 4) v0 v1 t0 s Q) : JX 168 21 [v0, jI v1] [jI t0] M P := by
  unfold d_Lw_uses_j21 at h
  refine E_aldn (c168 21 rfl) rfl hv0 ?_
  show JX 168 22 [v0, jI v1] [v0, jI t0] M P
  obtain ⟨i3, e, g⟩ := cR_of h
  clear h
  subst e
  have h := g
  clear g
  refine E_fV (c168 22 rfl) hM (by decide) h (fun x4 hx4 h => ?_)
  refine L_ps c168 (n := 1) (pc1 := 26) (ls1 := [jR i3, jI v1]) (st1 := [jI v1, x4, jI t0]) rfl ?_
  refine E_cI (pc1 := 29) (c168 26 rfl) (js_t (show ssplit 2 [jI v1, x4, jI t0] = some ([x4, jI v1], [jI t0]) from ss_v (A := [jI v1, x4]) (B := [jI t0]) rfl (al_c rfl (al_c (jnl_c2 hx4) al_n)) (Nat.le_of_ble_eq_true rfl))) rfl (k_Lw_uses3 hx4 hM h) (fun r6 M s5 hM h => ?_)
  refine L_ps c168 (n := 2) (pc1 := 31) (ls1 := [jR i3, jI v1]) (st1 := [jR i3, jI (wr (t0 + r6))]) rfl ?_
  refine E_fV (c168 31 rfl) hM (by decide) h (fun x7 hx7 h => ?_)
  refine L_ps c168 (n := 1) (pc1 := 35) (ls1 := [jR i3, jI v1]) (st1 := [jI v1, x7, jI (wr (t0 + r6))]) rfl ?_
  refine E_cI (pc1 := 38) (c168 35 rfl) (js_t (show ssplit 2 [jI v1, x7, jI (wr (t0 + r6))] = some ([x7, jI v1], [jI (wr (t0 + r6))]) from ss_v (A := [jI v1, x7]) (B := [jI (wr (t0 + r6))]) rfl (al_c rfl (al_c (jnl_c2 hx7) al_n)) (Nat.le_of_ble_eq_true rfl))) rfl (k_Lw_uses3 hx7 hM h) (fun r9 M s8 hM h => ?_)
  refine L_ps c168 (n := 1) (pc1 := 39) (ls1 := [jR i3, jI v1]) (st1 := [jI (wr ((wr (t0 + r6)) + r9))]) rfl ?_
  exact L_retI (c168 39 rfl) (hQ _ _ _ hM h)
theorem k_Lw_uses4 {v0 : JV} {v1 : Int} {s : LSt} {M : JM} {Q : Int → LSt → Prop} (hv0 : jnl v0 = true) (hM : R2 s M) (h : d_Lw_uses 5 v0 v1 s Q) : JX 168 0 (jargs 168 [v0, jI v1]) [] M (P2 (QI2 Q)) := by
  have h : d_Lw_uses_F (d_Lw_uses 4) v0 v1 s Q := h
  unfold d_Lw_uses_F at h
  show JX 168 0 [v0, jI v1] [] M (P2 (QI2 Q))
  generalize hP : P2 (QI2 Q) = P
  have hQ : ∀ (r : Int) (M1 : JM) (s1 : LSt), R2 s1 M1 → Q r s1 → P (.inl (some (.inl r))) M1 := by rw [← hP]; exact fun r M1 s1 a b => ⟨s1, a, r, rfl, b⟩
  clear hP
  refine E_aldn (c168 0 rfl) rfl hv0 ?_
  show JX 168 1 [v0, jI v1] [v0] M P
  refine E_ifnn (c168 1 rfl) h (fun e g => ?_) (fun i1 e g => ?_)
  · clear h
    subst e
    have h := g
    clear g
    refine L_ps c168 (n := 2) (pc1 := 39) (ls1 := [jX .null, jI v1]) (st1 := [jI 0]) rfl ?_
    exact L_retI (c168 39 rfl) (hQ _ _ _ hM h)
  · clear h
    subst e
    have h := g
    clear g
    refine L_ps c168 (n := 1) (pc1 := 9) (ls1 := [jR i1, jI v1]) (st1 := [jR i1]) rfl ?_
    refine E_fI (c168 9 rfl) hM (by decide) h (fun z2 h => ?_)
    refine L_ps c168 (n := 1) (pc1 := 13) (ls1 := [jR i1, jI v1]) (st1 := [jI v1, jI z2]) rfl ?_
    refine L_nb (p1 := 20) (p2 := 16) (c168 13 rfl) rfl jc_ne h (fun h => ?_) (fun h => ?_)
    · refine L_ps c168 (n := 2) (pc1 := 21) (ls1 := [jR i1, jI v1]) (st1 := [jI 1]) rfl ?_
      exact k_Lw_uses4_j21 rfl hM hQ h
    · refine L_ps c168 (n := 1) (pc1 := 21) (ls1 := [jR i1, jI v1]) (st1 := [jI 0]) rfl ?_
      exact k_Lw_uses4_j21 rfl hM hQ h
