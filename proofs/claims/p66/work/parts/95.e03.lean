/-! that the printed tables do what the texts say, 3 -/
theorem k_SB_appendC {v0 : JV} {v1 : Int} {s : LSt} {M : JM} {Q : JV → LSt → Prop} (hv0 : jnl v0 = true) (hM : R2 s M) (h : d_SB_appendC v0 v1 s Q) : JX 196 0 (jargs 196 [v0, jI v1]) [] M (P2 (QV2 Q)) := by
  unfold d_SB_appendC at h
  show JX 196 0 [v0, jI v1] [] M (P2 (QV2 Q))
  generalize hP : P2 (QV2 Q) = P
  have hQ : ∀ (r : JV) (M1 : JM) (s1 : LSt), R2 s1 M1 → jnl r = true → Q r s1 → P (.inl (some r)) M1 := by rw [← hP]; exact fun r M1 s1 a c b => ⟨s1, a, r, rfl, c, b⟩
  clear hP
  refine E_aldn (c196 0 rfl) rfl hv0 ?_
  show JX 196 1 [v0, jI v1] [v0] M P
  refine L_ps c196 (n := 1) (pc1 := 2) (ls1 := [v0, jI v1]) (st1 := [jI v1, v0]) rfl ?_
  obtain ⟨i1, e, h⟩ := cR_of h
  subst e
  obtain ⟨ht, h⟩ := h
  refine E_cV (pc1 := 5) (c196 2 rfl) (js_u rfl ((rcv_tag hM ht).trans jt197)) rfl (k_ASB_appendC rfl hM h) (fun x3 M s2 hM hx3 h => ?_)
  refine E_pop (c196 5 rfl) hx3 ?_
  refine L_ps c196 (n := 1) (pc1 := 7) (ls1 := [jR i1, jI v1]) (st1 := [jR i1]) rfl ?_
  exact E_retV (c196 7 rfl) rfl (hQ _ _ _ hM rfl h)
theorem k_Lw_write0_j85 {v1 : JV} {s : LSt} {M : JM} {P : JO → JM → Prop} {g0 : JV} {Q : LSt → Prop} (hv1 : jnl v1 = true) (hM : R2 s M) (hQ : ∀ (M1 : JM) (s1 : LSt), R2 s1 M1 → Q s1 → P (.inl none) M1) (h : d_Lw_write_j85 (d_Lw_write 0) v1 s Q) : JX 191 85 [g0, v1] [] M P := by
  unfold d_Lw_write_j85 at h
  refine E_aldn (c191 85 rfl) rfl hv1 ?_
  show JX 191 86 [g0, v1] [v1] M P
  refine L_ps c191 (n := 1) (pc1 := 88) (ls1 := [g0, v1]) (st1 := [jI 41, v1]) rfl ?_
  obtain ⟨i18, e, h⟩ := cR_of h
  subst e
  obtain ⟨ht, h⟩ := h
  refine E_cV (pc1 := 91) (c191 88 rfl) (js_v rfl ((rcv_tag hM ht).trans jt196)) rfl (k_SB_appendC rfl hM h) (fun x20 M s19 hM hx20 h => ?_)
  refine E_pop (c191 91 rfl) hx20 ?_
  exact L_end (c191 92 rfl) rfl (hQ _ _ hM h)
theorem k_Lw_write0 {v0 : JV} {v1 : JV} {s : LSt} {M : JM} {Q : LSt → Prop} (hv0 : jnl v0 = true) (hv1 : jnl v1 = true) (hM : R2 s M) (h : d_Lw_write 1 v0 v1 s Q) : JX 191 0 (jargs 191 [v0, v1]) [] M (P2 (QN2 Q)) := by
  have h : d_Lw_write_F (d_Lw_write 0) v0 v1 s Q := h
  unfold d_Lw_write_F at h
  show JX 191 0 [v0, v1] [] M (P2 (QN2 Q))
  generalize hP : P2 (QN2 Q) = P
  have hQ : ∀ (M1 : JM) (s1 : LSt), R2 s1 M1 → Q s1 → P (.inl none) M1 := by rw [← hP]; exact fun M1 s1 a b => ⟨s1, a, rfl, b⟩
  clear hP
  refine E_aldn (c191 0 rfl) rfl hv0 ?_
  show JX 191 1 [v0, v1] [v0] M P
  obtain ⟨i1, e, h⟩ := cR_of h
  subst e
  refine E_fI (c191 1 rfl) hM (by decide) h (fun z2 h => ?_)
  refine L_ps c191 (n := 1) (pc1 := 6) (ls1 := [jR i1, v1]) (st1 := [jI 100, jI z2]) rfl ?_
  refine L_br (p1 := 26) (p2 := 9) (c191 6 rfl) rfl jc_lt h (fun h => ?_) (fun h => ?_)
  · refine E_aldn (c191 26 rfl) rfl hv1 ?_
    show JX 191 27 [jR i1, v1] [v1] M P
    refine L_ps c191 (n := 2) (pc1 := 30) (ls1 := [jR i1, v1]) (st1 := [jR i1, jR 2000009, v1]) rfl ?_
    refine E_fI (c191 30 rfl) hM (by decide) h (fun z3 h => ?_)
    obtain ⟨ht, h⟩ := h
    refine E_cI (pc1 := 36) (c191 33 rfl) (js_v rfl ((rcv_tag hM ht).trans jt22)) rfl (k_YString_charAt rfl hM h) (fun r5 M s4 hM h => ?_)
    obtain ⟨i6, e, h⟩ := cR_of h
    subst e
    obtain ⟨ht, h⟩ := h
    refine E_cV (pc1 := 39) (c191 36 rfl) (js_v rfl ((rcv_tag hM ht).trans jt196)) rfl (k_SB_appendC rfl hM h) (fun x8 M s7 hM hx8 h => ?_)
    refine E_pop (c191 39 rfl) hx8 ?_
    refine L_ps c191 (n := 1) (pc1 := 41) (ls1 := [jR i1, jR i6]) (st1 := [jR i1]) rfl ?_
    refine E_fV (c191 41 rfl) hM (by decide) h (fun x9 hx9 h => ?_)
    refine E_ifnn (c191 44 rfl) h (fun e h => ?_) (fun i10 e h => ?_)
    · subst e
      exact L_end (c191 47 rfl) rfl (hQ _ _ hM h)
    · subst e
      refine L_ps c191 (n := 2) (pc1 := 51) (ls1 := [jR i1, jR i6]) (st1 := [jI 40, jR i6]) rfl ?_
      obtain ⟨ht, h⟩ := h
      refine E_cV (pc1 := 54) (c191 51 rfl) (js_v rfl ((rcv_tag hM ht).trans jt196)) rfl (k_SB_appendC rfl hM h) (fun x12 M s11 hM hx12 h => ?_)
      refine E_pop (c191 54 rfl) hx12 ?_
      refine L_ps c191 (n := 1) (pc1 := 56) (ls1 := [jR i1, jR i6]) (st1 := [jR i1]) rfl ?_
      refine E_fV (c191 56 rfl) hM (by decide) h (fun x13 hx13 h => ?_)
      refine L_ps c191 (n := 1) (pc1 := 60) (ls1 := [jR i1, jR i6]) (st1 := [jR i6, x13]) rfl ?_
      exact False.elim h
  · refine E_aldn (c191 9 rfl) rfl hv1 ?_
    show JX 191 10 [jR i1, v1] [v1] M P
    refine L_ps c191 (n := 2) (pc1 := 13) (ls1 := [jR i1, v1]) (st1 := [jR i1, jI 65, v1]) rfl ?_
    refine E_fI (c191 13 rfl) hM (by decide) h (fun z26 h => ?_)
    refine L_ps c191 (n := 4) (pc1 := 21) (ls1 := [jR i1, v1]) (st1 := [jI (jc16 (wr ((wr (65 + z26)) - 100))), v1]) rfl ?_
    obtain ⟨i27, e, h⟩ := cR_of h
    subst e
    obtain ⟨ht, h⟩ := h
    refine E_cV (pc1 := 24) (c191 21 rfl) (js_v rfl ((rcv_tag hM ht).trans jt196)) rfl (k_SB_appendC rfl hM h) (fun x29 M s28 hM hx29 h => ?_)
    refine E_pop (c191 24 rfl) hx29 ?_
    exact L_end (c191 25 rfl) rfl (hQ _ _ hM h)
theorem k_Lw_write1_j85 {v1 : JV} {s : LSt} {M : JM} {P : JO → JM → Prop} {g0 : JV} {Q : LSt → Prop} (hv1 : jnl v1 = true) (hM : R2 s M) (hQ : ∀ (M1 : JM) (s1 : LSt), R2 s1 M1 → Q s1 → P (.inl none) M1) (h : d_Lw_write_j85 (d_Lw_write 1) v1 s Q) : JX 192 85 [g0, v1] [] M P := by
  unfold d_Lw_write_j85 at h
  refine E_aldn (c192 85 rfl) rfl hv1 ?_
  show JX 192 86 [g0, v1] [v1] M P
  refine L_ps c192 (n := 1) (pc1 := 88) (ls1 := [g0, v1]) (st1 := [jI 41, v1]) rfl ?_
  obtain ⟨i18, e, h⟩ := cR_of h
  subst e
  obtain ⟨ht, h⟩ := h
  refine E_cV (pc1 := 91) (c192 88 rfl) (js_v rfl ((rcv_tag hM ht).trans jt196)) rfl (k_SB_appendC rfl hM h) (fun x20 M s19 hM hx20 h => ?_)
  refine E_pop (c192 91 rfl) hx20 ?_
  exact L_end (c192 92 rfl) rfl (hQ _ _ hM h)
theorem k_Lw_write1 {v0 : JV} {v1 : JV} {s : LSt} {M : JM} {Q : LSt → Prop} (hv0 : jnl v0 = true) (hv1 : jnl v1 = true) (hM : R2 s M) (h : d_Lw_write 2 v0 v1 s Q) : JX 192 0 (jargs 192 [v0, v1]) [] M (P2 (QN2 Q)) := by
  have h : d_Lw_write_F (d_Lw_write 1) v0 v1 s Q := h
  unfold d_Lw_write_F at h
  show JX 192 0 [v0, v1] [] M (P2 (QN2 Q))
  generalize hP : P2 (QN2 Q) = P
  have hQ : ∀ (M1 : JM) (s1 : LSt), R2 s1 M1 → Q s1 → P (.inl none) M1 := by rw [← hP]; exact fun M1 s1 a b => ⟨s1, a, rfl, b⟩
  clear hP
  refine E_aldn (c192 0 rfl) rfl hv0 ?_
  show JX 192 1 [v0, v1] [v0] M P
  obtain ⟨i1, e, h⟩ := cR_of h
  subst e
  refine E_fI (c192 1 rfl) hM (by decide) h (fun z2 h => ?_)
  refine L_ps c192 (n := 1) (pc1 := 6) (ls1 := [jR i1, v1]) (st1 := [jI 100, jI z2]) rfl ?_
  refine L_br (p1 := 26) (p2 := 9) (c192 6 rfl) rfl jc_lt h (fun h => ?_) (fun h => ?_)
  · refine E_aldn (c192 26 rfl) rfl hv1 ?_
    show JX 192 27 [jR i1, v1] [v1] M P
    refine L_ps c192 (n := 2) (pc1 := 30) (ls1 := [jR i1, v1]) (st1 := [jR i1, jR 2000009, v1]) rfl ?_
    refine E_fI (c192 30 rfl) hM (by decide) h (fun z3 h => ?_)
    obtain ⟨ht, h⟩ := h
    refine E_cI (pc1 := 36) (c192 33 rfl) (js_v rfl ((rcv_tag hM ht).trans jt22)) rfl (k_YString_charAt rfl hM h) (fun r5 M s4 hM h => ?_)
    obtain ⟨i6, e, h⟩ := cR_of h
    subst e
    obtain ⟨ht, h⟩ := h
    refine E_cV (pc1 := 39) (c192 36 rfl) (js_v rfl ((rcv_tag hM ht).trans jt196)) rfl (k_SB_appendC rfl hM h) (fun x8 M s7 hM hx8 h => ?_)
    refine E_pop (c192 39 rfl) hx8 ?_
    refine L_ps c192 (n := 1) (pc1 := 41) (ls1 := [jR i1, jR i6]) (st1 := [jR i1]) rfl ?_
    refine E_fV (c192 41 rfl) hM (by decide) h (fun x9 hx9 h => ?_)
    refine E_ifnn (c192 44 rfl) h (fun e h => ?_) (fun i10 e h => ?_)
    · subst e
      exact L_end (c192 47 rfl) rfl (hQ _ _ hM h)
    · subst e
      refine L_ps c192 (n := 2) (pc1 := 51) (ls1 := [jR i1, jR i6]) (st1 := [jI 40, jR i6]) rfl ?_
      obtain ⟨ht, h⟩ := h
      refine E_cV (pc1 := 54) (c192 51 rfl) (js_v rfl ((rcv_tag hM ht).trans jt196)) rfl (k_SB_appendC rfl hM h) (fun x12 M s11 hM hx12 h => ?_)
      refine E_pop (c192 54 rfl) hx12 ?_
      refine L_ps c192 (n := 1) (pc1 := 56) (ls1 := [jR i1, jR i6]) (st1 := [jR i1]) rfl ?_
      refine E_fV (c192 56 rfl) hM (by decide) h (fun x13 hx13 h => ?_)
      refine L_ps c192 (n := 1) (pc1 := 60) (ls1 := [jR i1, jR i6]) (st1 := [jR i6, x13]) rfl ?_
      refine E_cN (pc1 := 63) (c192 60 rfl) (js_t rfl) rfl (k_Lw_write0 hx13 rfl hM h) (fun M s14 hM h => ?_)
      refine L_ps c192 (n := 1) (pc1 := 64) (ls1 := [jR i1, jR i6]) (st1 := [jR i1]) rfl ?_
      refine E_fV (c192 64 rfl) hM (by decide) h (fun x16 hx16 h => ?_)
      refine E_ifn (c192 67 rfl) h (fun e h => ?_) (fun i17 e h => ?_)
      · subst e
        exact k_Lw_write1_j85 rfl hM hQ h
      · subst e
        refine L_ps c192 (n := 2) (pc1 := 73) (ls1 := [jR i1, jR i6]) (st1 := [jI 44, jR i6]) rfl ?_
        obtain ⟨ht, h⟩ := h
        refine E_cV (pc1 := 76) (c192 73 rfl) (js_v rfl ((rcv_tag hM ht).trans jt196)) rfl (k_SB_appendC rfl hM h) (fun x22 M s21 hM hx22 h => ?_)
        refine E_pop (c192 76 rfl) hx22 ?_
        refine L_ps c192 (n := 1) (pc1 := 78) (ls1 := [jR i1, jR i6]) (st1 := [jR i1]) rfl ?_
        refine E_fV (c192 78 rfl) hM (by decide) h (fun x23 hx23 h => ?_)
        refine L_ps c192 (n := 1) (pc1 := 82) (ls1 := [jR i1, jR i6]) (st1 := [jR i6, x23]) rfl ?_
        refine E_cN (pc1 := 85) (c192 82 rfl) (js_t rfl) rfl (k_Lw_write0 hx23 rfl hM h) (fun M s24 hM h => ?_)
        exact k_Lw_write1_j85 rfl hM hQ h
  · refine E_aldn (c192 9 rfl) rfl hv1 ?_
    show JX 192 10 [jR i1, v1] [v1] M P
    refine L_ps c192 (n := 2) (pc1 := 13) (ls1 := [jR i1, v1]) (st1 := [jR i1, jI 65, v1]) rfl ?_
    refine E_fI (c192 13 rfl) hM (by decide) h (fun z26 h => ?_)
    refine L_ps c192 (n := 4) (pc1 := 21) (ls1 := [jR i1, v1]) (st1 := [jI (jc16 (wr ((wr (65 + z26)) - 100))), v1]) rfl ?_
    obtain ⟨i27, e, h⟩ := cR_of h
    subst e
    obtain ⟨ht, h⟩ := h
    refine E_cV (pc1 := 24) (c192 21 rfl) (js_v rfl ((rcv_tag hM ht).trans jt196)) rfl (k_SB_appendC rfl hM h) (fun x29 M s28 hM hx29 h => ?_)
    refine E_pop (c192 24 rfl) hx29 ?_
    exact L_end (c192 25 rfl) rfl (hQ _ _ hM h)
theorem k_Lw_write2_j85 {v1 : JV} {s : LSt} {M : JM} {P : JO → JM → Prop} {g0 : JV} {Q : LSt → Prop} (hv1 : jnl v1 = true) (hM : R2 s M) (hQ : ∀ (M1 : JM) (s1 : LSt), R2 s1 M1 → Q s1 → P (.inl none) M1) (h : d_Lw_write_j85 (d_Lw_write 2) v1 s Q) : JX 193 85 [g0, v1] [] M P := by
  unfold d_Lw_write_j85 at h
  refine E_aldn (c193 85 rfl) rfl hv1 ?_
  show JX 193 86 [g0, v1] [v1] M P
  refine L_ps c193 (n := 1) (pc1 := 88) (ls1 := [g0, v1]) (st1 := [jI 41, v1]) rfl ?_
  obtain ⟨i18, e, h⟩ := cR_of h
  subst e
  obtain ⟨ht, h⟩ := h
  refine E_cV (pc1 := 91) (c193 88 rfl) (js_v rfl ((rcv_tag hM ht).trans jt196)) rfl (k_SB_appendC rfl hM h) (fun x20 M s19 hM hx20 h => ?_)
  refine E_pop (c193 91 rfl) hx20 ?_
  exact L_end (c193 92 rfl) rfl (hQ _ _ hM h)
theorem k_Lw_write2 {v0 : JV} {v1 : JV} {s : LSt} {M : JM} {Q : LSt → Prop} (hv0 : jnl v0 = true) (hv1 : jnl v1 = true) (hM : R2 s M) (h : d_Lw_write 3 v0 v1 s Q) : JX 193 0 (jargs 193 [v0, v1]) [] M (P2 (QN2 Q)) := by
  have h : d_Lw_write_F (d_Lw_write 2) v0 v1 s Q := h
  unfold d_Lw_write_F at h
  show JX 193 0 [v0, v1] [] M (P2 (QN2 Q))
  generalize hP : P2 (QN2 Q) = P
  have hQ : ∀ (M1 : JM) (s1 : LSt), R2 s1 M1 → Q s1 → P (.inl none) M1 := by rw [← hP]; exact fun M1 s1 a b => ⟨s1, a, rfl, b⟩
  clear hP
  refine E_aldn (c193 0 rfl) rfl hv0 ?_
  show JX 193 1 [v0, v1] [v0] M P
  obtain ⟨i1, e, h⟩ := cR_of h
  subst e
  refine E_fI (c193 1 rfl) hM (by decide) h (fun z2 h => ?_)
  refine L_ps c193 (n := 1) (pc1 := 6) (ls1 := [jR i1, v1]) (st1 := [jI 100, jI z2]) rfl ?_
  refine L_br (p1 := 26) (p2 := 9) (c193 6 rfl) rfl jc_lt h (fun h => ?_) (fun h => ?_)
  · refine E_aldn (c193 26 rfl) rfl hv1 ?_
    show JX 193 27 [jR i1, v1] [v1] M P
    refine L_ps c193 (n := 2) (pc1 := 30) (ls1 := [jR i1, v1]) (st1 := [jR i1, jR 2000009, v1]) rfl ?_
    refine E_fI (c193 30 rfl) hM (by decide) h (fun z3 h => ?_)
    obtain ⟨ht, h⟩ := h
    refine E_cI (pc1 := 36) (c193 33 rfl) (js_v rfl ((rcv_tag hM ht).trans jt22)) rfl (k_YString_charAt rfl hM h) (fun r5 M s4 hM h => ?_)
    obtain ⟨i6, e, h⟩ := cR_of h
    subst e
    obtain ⟨ht, h⟩ := h
    refine E_cV (pc1 := 39) (c193 36 rfl) (js_v rfl ((rcv_tag hM ht).trans jt196)) rfl (k_SB_appendC rfl hM h) (fun x8 M s7 hM hx8 h => ?_)
    refine E_pop (c193 39 rfl) hx8 ?_
    refine L_ps c193 (n := 1) (pc1 := 41) (ls1 := [jR i1, jR i6]) (st1 := [jR i1]) rfl ?_
    refine E_fV (c193 41 rfl) hM (by decide) h (fun x9 hx9 h => ?_)
    refine E_ifnn (c193 44 rfl) h (fun e h => ?_) (fun i10 e h => ?_)
    · subst e
      exact L_end (c193 47 rfl) rfl (hQ _ _ hM h)
    · subst e
      refine L_ps c193 (n := 2) (pc1 := 51) (ls1 := [jR i1, jR i6]) (st1 := [jI 40, jR i6]) rfl ?_
      obtain ⟨ht, h⟩ := h
      refine E_cV (pc1 := 54) (c193 51 rfl) (js_v rfl ((rcv_tag hM ht).trans jt196)) rfl (k_SB_appendC rfl hM h) (fun x12 M s11 hM hx12 h => ?_)
      refine E_pop (c193 54 rfl) hx12 ?_
      refine L_ps c193 (n := 1) (pc1 := 56) (ls1 := [jR i1, jR i6]) (st1 := [jR i1]) rfl ?_
      refine E_fV (c193 56 rfl) hM (by decide) h (fun x13 hx13 h => ?_)
      refine L_ps c193 (n := 1) (pc1 := 60) (ls1 := [jR i1, jR i6]) (st1 := [jR i6, x13]) rfl ?_
      refine E_cN (pc1 := 63) (c193 60 rfl) (js_t rfl) rfl (k_Lw_write1 hx13 rfl hM h) (fun M s14 hM h => ?_)
      refine L_ps c193 (n := 1) (pc1 := 64) (ls1 := [jR i1, jR i6]) (st1 := [jR i1]) rfl ?_
      refine E_fV (c193 64 rfl) hM (by decide) h (fun x16 hx16 h => ?_)
      refine E_ifn (c193 67 rfl) h (fun e h => ?_) (fun i17 e h => ?_)
      · subst e
        exact k_Lw_write2_j85 rfl hM hQ h
      · subst e
        refine L_ps c193 (n := 2) (pc1 := 73) (ls1 := [jR i1, jR i6]) (st1 := [jI 44, jR i6]) rfl ?_
        obtain ⟨ht, h⟩ := h
        refine E_cV (pc1 := 76) (c193 73 rfl) (js_v rfl ((rcv_tag hM ht).trans jt196)) rfl (k_SB_appendC rfl hM h) (fun x22 M s21 hM hx22 h => ?_)
        refine E_pop (c193 76 rfl) hx22 ?_
        refine L_ps c193 (n := 1) (pc1 := 78) (ls1 := [jR i1, jR i6]) (st1 := [jR i1]) rfl ?_
        refine E_fV (c193 78 rfl) hM (by decide) h (fun x23 hx23 h => ?_)
        refine L_ps c193 (n := 1) (pc1 := 82) (ls1 := [jR i1, jR i6]) (st1 := [jR i6, x23]) rfl ?_
        refine E_cN (pc1 := 85) (c193 82 rfl) (js_t rfl) rfl (k_Lw_write1 hx23 rfl hM h) (fun M s24 hM h => ?_)
        exact k_Lw_write2_j85 rfl hM hQ h
  · refine E_aldn (c193 9 rfl) rfl hv1 ?_
    show JX 193 10 [jR i1, v1] [v1] M P
    refine L_ps c193 (n := 2) (pc1 := 13) (ls1 := [jR i1, v1]) (st1 := [jR i1, jI 65, v1]) rfl ?_
    refine E_fI (c193 13 rfl) hM (by decide) h (fun z26 h => ?_)
    refine L_ps c193 (n := 4) (pc1 := 21) (ls1 := [jR i1, v1]) (st1 := [jI (jc16 (wr ((wr (65 + z26)) - 100))), v1]) rfl ?_
    obtain ⟨i27, e, h⟩ := cR_of h
    subst e
    obtain ⟨ht, h⟩ := h
    refine E_cV (pc1 := 24) (c193 21 rfl) (js_v rfl ((rcv_tag hM ht).trans jt196)) rfl (k_SB_appendC rfl hM h) (fun x29 M s28 hM hx29 h => ?_)
    refine E_pop (c193 24 rfl) hx29 ?_
    exact L_end (c193 25 rfl) rfl (hQ _ _ hM h)
theorem k_Lw_write3_j85 {v1 : JV} {s : LSt} {M : JM} {P : JO → JM → Prop} {g0 : JV} {Q : LSt → Prop} (hv1 : jnl v1 = true) (hM : R2 s M) (hQ : ∀ (M1 : JM) (s1 : LSt), R2 s1 M1 → Q s1 → P (.inl none) M1) (h : d_Lw_write_j85 (d_Lw_write 3) v1 s Q) : JX 194 85 [g0, v1] [] M P := by
  unfold d_Lw_write_j85 at h
  refine E_aldn (c194 85 rfl) rfl hv1 ?_
  show JX 194 86 [g0, v1] [v1] M P
  refine L_ps c194 (n := 1) (pc1 := 88) (ls1 := [g0, v1]) (st1 := [jI 41, v1]) rfl ?_
  obtain ⟨i18, e, h⟩ := cR_of h
  subst e
  obtain ⟨ht, h⟩ := h
  refine E_cV (pc1 := 91) (c194 88 rfl) (js_v rfl ((rcv_tag hM ht).trans jt196)) rfl (k_SB_appendC rfl hM h) (fun x20 M s19 hM hx20 h => ?_)
  refine E_pop (c194 91 rfl) hx20 ?_
  exact L_end (c194 92 rfl) rfl (hQ _ _ hM h)
theorem k_Lw_write3 {v0 : JV} {v1 : JV} {s : LSt} {M : JM} {Q : LSt → Prop} (hv0 : jnl v0 = true) (hv1 : jnl v1 = true) (hM : R2 s M) (h : d_Lw_write 4 v0 v1 s Q) : JX 194 0 (jargs 194 [v0, v1]) [] M (P2 (QN2 Q)) := by
  have h : d_Lw_write_F (d_Lw_write 3) v0 v1 s Q := h
  unfold d_Lw_write_F at h
  show JX 194 0 [v0, v1] [] M (P2 (QN2 Q))
  generalize hP : P2 (QN2 Q) = P
  have hQ : ∀ (M1 : JM) (s1 : LSt), R2 s1 M1 → Q s1 → P (.inl none) M1 := by rw [← hP]; exact fun M1 s1 a b => ⟨s1, a, rfl, b⟩
  clear hP
  refine E_aldn (c194 0 rfl) rfl hv0 ?_
  show JX 194 1 [v0, v1] [v0] M P
  obtain ⟨i1, e, h⟩ := cR_of h
  subst e
  refine E_fI (c194 1 rfl) hM (by decide) h (fun z2 h => ?_)
  refine L_ps c194 (n := 1) (pc1 := 6) (ls1 := [jR i1, v1]) (st1 := [jI 100, jI z2]) rfl ?_
  refine L_br (p1 := 26) (p2 := 9) (c194 6 rfl) rfl jc_lt h (fun h => ?_) (fun h => ?_)
  · refine E_aldn (c194 26 rfl) rfl hv1 ?_
    show JX 194 27 [jR i1, v1] [v1] M P
    refine L_ps c194 (n := 2) (pc1 := 30) (ls1 := [jR i1, v1]) (st1 := [jR i1, jR 2000009, v1]) rfl ?_
    refine E_fI (c194 30 rfl) hM (by decide) h (fun z3 h => ?_)
    obtain ⟨ht, h⟩ := h
    refine E_cI (pc1 := 36) (c194 33 rfl) (js_v rfl ((rcv_tag hM ht).trans jt22)) rfl (k_YString_charAt rfl hM h) (fun r5 M s4 hM h => ?_)
    obtain ⟨i6, e, h⟩ := cR_of h
    subst e
    obtain ⟨ht, h⟩ := h
    refine E_cV (pc1 := 39) (c194 36 rfl) (js_v rfl ((rcv_tag hM ht).trans jt196)) rfl (k_SB_appendC rfl hM h) (fun x8 M s7 hM hx8 h => ?_)
    refine E_pop (c194 39 rfl) hx8 ?_
    refine L_ps c194 (n := 1) (pc1 := 41) (ls1 := [jR i1, jR i6]) (st1 := [jR i1]) rfl ?_
    refine E_fV (c194 41 rfl) hM (by decide) h (fun x9 hx9 h => ?_)
    refine E_ifnn (c194 44 rfl) h (fun e h => ?_) (fun i10 e h => ?_)
    · subst e
      exact L_end (c194 47 rfl) rfl (hQ _ _ hM h)
    · subst e
      refine L_ps c194 (n := 2) (pc1 := 51) (ls1 := [jR i1, jR i6]) (st1 := [jI 40, jR i6]) rfl ?_
      obtain ⟨ht, h⟩ := h
      refine E_cV (pc1 := 54) (c194 51 rfl) (js_v rfl ((rcv_tag hM ht).trans jt196)) rfl (k_SB_appendC rfl hM h) (fun x12 M s11 hM hx12 h => ?_)
      refine E_pop (c194 54 rfl) hx12 ?_
      refine L_ps c194 (n := 1) (pc1 := 56) (ls1 := [jR i1, jR i6]) (st1 := [jR i1]) rfl ?_
      refine E_fV (c194 56 rfl) hM (by decide) h (fun x13 hx13 h => ?_)
      refine L_ps c194 (n := 1) (pc1 := 60) (ls1 := [jR i1, jR i6]) (st1 := [jR i6, x13]) rfl ?_
      refine E_cN (pc1 := 63) (c194 60 rfl) (js_t rfl) rfl (k_Lw_write2 hx13 rfl hM h) (fun M s14 hM h => ?_)
      refine L_ps c194 (n := 1) (pc1 := 64) (ls1 := [jR i1, jR i6]) (st1 := [jR i1]) rfl ?_
      refine E_fV (c194 64 rfl) hM (by decide) h (fun x16 hx16 h => ?_)
      refine E_ifn (c194 67 rfl) h (fun e h => ?_) (fun i17 e h => ?_)
      · subst e
        exact k_Lw_write3_j85 rfl hM hQ h
      · subst e
        refine L_ps c194 (n := 2) (pc1 := 73) (ls1 := [jR i1, jR i6]) (st1 := [jI 44, jR i6]) rfl ?_
        obtain ⟨ht, h⟩ := h
        refine E_cV (pc1 := 76) (c194 73 rfl) (js_v rfl ((rcv_tag hM ht).trans jt196)) rfl (k_SB_appendC rfl hM h) (fun x22 M s21 hM hx22 h => ?_)
        refine E_pop (c194 76 rfl) hx22 ?_
        refine L_ps c194 (n := 1) (pc1 := 78) (ls1 := [jR i1, jR i6]) (st1 := [jR i1]) rfl ?_
        refine E_fV (c194 78 rfl) hM (by decide) h (fun x23 hx23 h => ?_)
        refine L_ps c194 (n := 1) (pc1 := 82) (ls1 := [jR i1, jR i6]) (st1 := [jR i6, x23]) rfl ?_
        refine E_cN (pc1 := 85) (c194 82 rfl) (js_t rfl) rfl (k_Lw_write2 hx23 rfl hM h) (fun M s24 hM h => ?_)
        exact k_Lw_write3_j85 rfl hM hQ h
  · refine E_aldn (c194 9 rfl) rfl hv1 ?_
    show JX 194 10 [jR i1, v1] [v1] M P
    refine L_ps c194 (n := 2) (pc1 := 13) (ls1 := [jR i1, v1]) (st1 := [jR i1, jI 65, v1]) rfl ?_
    refine E_fI (c194 13 rfl) hM (by decide) h (fun z26 h => ?_)
    refine L_ps c194 (n := 4) (pc1 := 21) (ls1 := [jR i1, v1]) (st1 := [jI (jc16 (wr ((wr (65 + z26)) - 100))), v1]) rfl ?_
    obtain ⟨i27, e, h⟩ := cR_of h
    subst e
    obtain ⟨ht, h⟩ := h
    refine E_cV (pc1 := 24) (c194 21 rfl) (js_v rfl ((rcv_tag hM ht).trans jt196)) rfl (k_SB_appendC rfl hM h) (fun x29 M s28 hM hx29 h => ?_)
    refine E_pop (c194 24 rfl) hx29 ?_
    exact L_end (c194 25 rfl) rfl (hQ _ _ hM h)
theorem k_Lw_write4_j85 {v1 : JV} {s : LSt} {M : JM} {P : JO → JM → Prop} {g0 : JV} {Q : LSt → Prop} (hv1 : jnl v1 = true) (hM : R2 s M) (hQ : ∀ (M1 : JM) (s1 : LSt), R2 s1 M1 → Q s1 → P (.inl none) M1) (h : d_Lw_write_j85 (d_Lw_write 4) v1 s Q) : JX 195 85 [g0, v1] [] M P := by
  unfold d_Lw_write_j85 at h
  refine E_aldn (c195 85 rfl) rfl hv1 ?_
  show JX 195 86 [g0, v1] [v1] M P
  refine L_ps c195 (n := 1) (pc1 := 88) (ls1 := [g0, v1]) (st1 := [jI 41, v1]) rfl ?_
  obtain ⟨i18, e, h⟩ := cR_of h
  subst e
  obtain ⟨ht, h⟩ := h
  refine E_cV (pc1 := 91) (c195 88 rfl) (js_v rfl ((rcv_tag hM ht).trans jt196)) rfl (k_SB_appendC rfl hM h) (fun x20 M s19 hM hx20 h => ?_)
  refine E_pop (c195 91 rfl) hx20 ?_
  exact L_end (c195 92 rfl) rfl (hQ _ _ hM h)
theorem k_Lw_write4 {v0 : JV} {v1 : JV} {s : LSt} {M : JM} {Q : LSt → Prop} (hv0 : jnl v0 = true) (hv1 : jnl v1 = true) (hM : R2 s M) (h : d_Lw_write 5 v0 v1 s Q) : JX 195 0 (jargs 195 [v0, v1]) [] M (P2 (QN2 Q)) := by
  have h : d_Lw_write_F (d_Lw_write 4) v0 v1 s Q := h
  unfold d_Lw_write_F at h
  show JX 195 0 [v0, v1] [] M (P2 (QN2 Q))
  generalize hP : P2 (QN2 Q) = P
  have hQ : ∀ (M1 : JM) (s1 : LSt), R2 s1 M1 → Q s1 → P (.inl none) M1 := by rw [← hP]; exact fun M1 s1 a b => ⟨s1, a, rfl, b⟩
  clear hP
  refine E_aldn (c195 0 rfl) rfl hv0 ?_
  show JX 195 1 [v0, v1] [v0] M P
  obtain ⟨i1, e, h⟩ := cR_of h
  subst e
  refine E_fI (c195 1 rfl) hM (by decide) h (fun z2 h => ?_)
  refine L_ps c195 (n := 1) (pc1 := 6) (ls1 := [jR i1, v1]) (st1 := [jI 100, jI z2]) rfl ?_
  refine L_br (p1 := 26) (p2 := 9) (c195 6 rfl) rfl jc_lt h (fun h => ?_) (fun h => ?_)
  · refine E_aldn (c195 26 rfl) rfl hv1 ?_
    show JX 195 27 [jR i1, v1] [v1] M P
    refine L_ps c195 (n := 2) (pc1 := 30) (ls1 := [jR i1, v1]) (st1 := [jR i1, jR 2000009, v1]) rfl ?_
    refine E_fI (c195 30 rfl) hM (by decide) h (fun z3 h => ?_)
    obtain ⟨ht, h⟩ := h
    refine E_cI (pc1 := 36) (c195 33 rfl) (js_v rfl ((rcv_tag hM ht).trans jt22)) rfl (k_YString_charAt rfl hM h) (fun r5 M s4 hM h => ?_)
    obtain ⟨i6, e, h⟩ := cR_of h
    subst e
    obtain ⟨ht, h⟩ := h
    refine E_cV (pc1 := 39) (c195 36 rfl) (js_v rfl ((rcv_tag hM ht).trans jt196)) rfl (k_SB_appendC rfl hM h) (fun x8 M s7 hM hx8 h => ?_)
    refine E_pop (c195 39 rfl) hx8 ?_
    refine L_ps c195 (n := 1) (pc1 := 41) (ls1 := [jR i1, jR i6]) (st1 := [jR i1]) rfl ?_
    refine E_fV (c195 41 rfl) hM (by decide) h (fun x9 hx9 h => ?_)
    refine E_ifnn (c195 44 rfl) h (fun e h => ?_) (fun i10 e h => ?_)
    · subst e
      exact L_end (c195 47 rfl) rfl (hQ _ _ hM h)
    · subst e
      refine L_ps c195 (n := 2) (pc1 := 51) (ls1 := [jR i1, jR i6]) (st1 := [jI 40, jR i6]) rfl ?_
      obtain ⟨ht, h⟩ := h
      refine E_cV (pc1 := 54) (c195 51 rfl) (js_v rfl ((rcv_tag hM ht).trans jt196)) rfl (k_SB_appendC rfl hM h) (fun x12 M s11 hM hx12 h => ?_)
      refine E_pop (c195 54 rfl) hx12 ?_
      refine L_ps c195 (n := 1) (pc1 := 56) (ls1 := [jR i1, jR i6]) (st1 := [jR i1]) rfl ?_
      refine E_fV (c195 56 rfl) hM (by decide) h (fun x13 hx13 h => ?_)
      refine L_ps c195 (n := 1) (pc1 := 60) (ls1 := [jR i1, jR i6]) (st1 := [jR i6, x13]) rfl ?_
      refine E_cN (pc1 := 63) (c195 60 rfl) (js_t rfl) rfl (k_Lw_write3 hx13 rfl hM h) (fun M s14 hM h => ?_)
      refine L_ps c195 (n := 1) (pc1 := 64) (ls1 := [jR i1, jR i6]) (st1 := [jR i1]) rfl ?_
      refine E_fV (c195 64 rfl) hM (by decide) h (fun x16 hx16 h => ?_)
      refine E_ifn (c195 67 rfl) h (fun e h => ?_) (fun i17 e h => ?_)
      · subst e
        exact k_Lw_write4_j85 rfl hM hQ h
      · subst e
        refine L_ps c195 (n := 2) (pc1 := 73) (ls1 := [jR i1, jR i6]) (st1 := [jI 44, jR i6]) rfl ?_
        obtain ⟨ht, h⟩ := h
        refine E_cV (pc1 := 76) (c195 73 rfl) (js_v rfl ((rcv_tag hM ht).trans jt196)) rfl (k_SB_appendC rfl hM h) (fun x22 M s21 hM hx22 h => ?_)
        refine E_pop (c195 76 rfl) hx22 ?_
        refine L_ps c195 (n := 1) (pc1 := 78) (ls1 := [jR i1, jR i6]) (st1 := [jR i1]) rfl ?_
        refine E_fV (c195 78 rfl) hM (by decide) h (fun x23 hx23 h => ?_)
        refine L_ps c195 (n := 1) (pc1 := 82) (ls1 := [jR i1, jR i6]) (st1 := [jR i6, x23]) rfl ?_
        refine E_cN (pc1 := 85) (c195 82 rfl) (js_t rfl) rfl (k_Lw_write3 hx23 rfl hM h) (fun M s24 hM h => ?_)
        exact k_Lw_write4_j85 rfl hM hQ h
  · refine E_aldn (c195 9 rfl) rfl hv1 ?_
    show JX 195 10 [jR i1, v1] [v1] M P
    refine L_ps c195 (n := 2) (pc1 := 13) (ls1 := [jR i1, v1]) (st1 := [jR i1, jI 65, v1]) rfl ?_
    refine E_fI (c195 13 rfl) hM (by decide) h (fun z26 h => ?_)
    refine L_ps c195 (n := 4) (pc1 := 21) (ls1 := [jR i1, v1]) (st1 := [jI (jc16 (wr ((wr (65 + z26)) - 100))), v1]) rfl ?_
    obtain ⟨i27, e, h⟩ := cR_of h
    subst e
    obtain ⟨ht, h⟩ := h
    refine E_cV (pc1 := 24) (c195 21 rfl) (js_v rfl ((rcv_tag hM ht).trans jt196)) rfl (k_SB_appendC rfl hM h) (fun x29 M s28 hM hx29 h => ?_)
    refine E_pop (c195 24 rfl) hx29 ?_
    exact L_end (c195 25 rfl) rfl (hQ _ _ hM h)
theorem k_Lw_size0 {v0 : JV} {s : LSt} {M : JM} {Q : Int → LSt → Prop} (hv0 : jnl v0 = true) (hM : R2 s M) (h : d_Lw_size 1 v0 s Q) : JX 204 0 (jargs 204 [v0]) [] M (P2 (QI2 Q)) := by
  have h : d_Lw_size_F (d_Lw_size 0) v0 s Q := h
  unfold d_Lw_size_F at h
  show JX 204 0 [v0] [] M (P2 (QI2 Q))
  generalize hP : P2 (QI2 Q) = P
  have hQ : ∀ (r : Int) (M1 : JM) (s1 : LSt), R2 s1 M1 → Q r s1 → P (.inl (some (.inl r))) M1 := by rw [← hP]; exact fun r M1 s1 a b => ⟨s1, a, r, rfl, b⟩
  clear hP
  refine E_aldn (c204 0 rfl) rfl hv0 ?_
  show JX 204 1 [v0] [v0] M P
  refine E_ifnn (c204 1 rfl) h (fun e h => ?_) (fun i1 e h => ?_)
  · subst e
    refine L_ps c204 (n := 2) (pc1 := 25) (ls1 := [jX .null]) (st1 := [jI 0]) rfl ?_
    exact L_retI (c204 25 rfl) (hQ _ _ _ hM h)
  · subst e
    refine L_ps c204 (n := 2) (pc1 := 10) (ls1 := [jR i1]) (st1 := [jR i1, jI 1]) rfl ?_
    refine E_fV (c204 10 rfl) hM (by decide) h (fun x2 hx2 h => ?_)
    exact False.elim h
theorem k_Lw_size1 {v0 : JV} {s : LSt} {M : JM} {Q : Int → LSt → Prop} (hv0 : jnl v0 = true) (hM : R2 s M) (h : d_Lw_size 2 v0 s Q) : JX 205 0 (jargs 205 [v0]) [] M (P2 (QI2 Q)) := by
  have h : d_Lw_size_F (d_Lw_size 1) v0 s Q := h
  unfold d_Lw_size_F at h
  show JX 205 0 [v0] [] M (P2 (QI2 Q))
  generalize hP : P2 (QI2 Q) = P
  have hQ : ∀ (r : Int) (M1 : JM) (s1 : LSt), R2 s1 M1 → Q r s1 → P (.inl (some (.inl r))) M1 := by rw [← hP]; exact fun r M1 s1 a b => ⟨s1, a, r, rfl, b⟩
  clear hP
  refine E_aldn (c205 0 rfl) rfl hv0 ?_
  show JX 205 1 [v0] [v0] M P
  refine E_ifnn (c205 1 rfl) h (fun e h => ?_) (fun i1 e h => ?_)
  · subst e
    refine L_ps c205 (n := 2) (pc1 := 25) (ls1 := [jX .null]) (st1 := [jI 0]) rfl ?_
    exact L_retI (c205 25 rfl) (hQ _ _ _ hM h)
  · subst e
    refine L_ps c205 (n := 2) (pc1 := 10) (ls1 := [jR i1]) (st1 := [jR i1, jI 1]) rfl ?_
    refine E_fV (c205 10 rfl) hM (by decide) h (fun x2 hx2 h => ?_)
    refine E_cI (pc1 := 16) (c205 13 rfl) (js_t rfl) rfl (k_Lw_size0 hx2 hM h) (fun r4 M s3 hM h => ?_)
    refine L_ps c205 (n := 2) (pc1 := 18) (ls1 := [jR i1]) (st1 := [jR i1, jI (wr (1 + r4))]) rfl ?_
    refine E_fV (c205 18 rfl) hM (by decide) h (fun x5 hx5 h => ?_)
    refine E_cI (pc1 := 24) (c205 21 rfl) (js_t rfl) rfl (k_Lw_size0 hx5 hM h) (fun r7 M s6 hM h => ?_)
    refine L_ps c205 (n := 1) (pc1 := 25) (ls1 := [jR i1]) (st1 := [jI (wr ((wr (1 + r4)) + r7))]) rfl ?_
    exact L_retI (c205 25 rfl) (hQ _ _ _ hM h)
theorem k_Lw_size2 {v0 : JV} {s : LSt} {M : JM} {Q : Int → LSt → Prop} (hv0 : jnl v0 = true) (hM : R2 s M) (h : d_Lw_size 3 v0 s Q) : JX 206 0 (jargs 206 [v0]) [] M (P2 (QI2 Q)) := by
  have h : d_Lw_size_F (d_Lw_size 2) v0 s Q := h
  unfold d_Lw_size_F at h
  show JX 206 0 [v0] [] M (P2 (QI2 Q))
  generalize hP : P2 (QI2 Q) = P
  have hQ : ∀ (r : Int) (M1 : JM) (s1 : LSt), R2 s1 M1 → Q r s1 → P (.inl (some (.inl r))) M1 := by rw [← hP]; exact fun r M1 s1 a b => ⟨s1, a, r, rfl, b⟩
  clear hP
  refine E_aldn (c206 0 rfl) rfl hv0 ?_
  show JX 206 1 [v0] [v0] M P
  refine E_ifnn (c206 1 rfl) h (fun e h => ?_) (fun i1 e h => ?_)
  · subst e
    refine L_ps c206 (n := 2) (pc1 := 25) (ls1 := [jX .null]) (st1 := [jI 0]) rfl ?_
    exact L_retI (c206 25 rfl) (hQ _ _ _ hM h)
  · subst e
    refine L_ps c206 (n := 2) (pc1 := 10) (ls1 := [jR i1]) (st1 := [jR i1, jI 1]) rfl ?_
    refine E_fV (c206 10 rfl) hM (by decide) h (fun x2 hx2 h => ?_)
    refine E_cI (pc1 := 16) (c206 13 rfl) (js_t rfl) rfl (k_Lw_size1 hx2 hM h) (fun r4 M s3 hM h => ?_)
    refine L_ps c206 (n := 2) (pc1 := 18) (ls1 := [jR i1]) (st1 := [jR i1, jI (wr (1 + r4))]) rfl ?_
    refine E_fV (c206 18 rfl) hM (by decide) h (fun x5 hx5 h => ?_)
    refine E_cI (pc1 := 24) (c206 21 rfl) (js_t rfl) rfl (k_Lw_size1 hx5 hM h) (fun r7 M s6 hM h => ?_)
    refine L_ps c206 (n := 1) (pc1 := 25) (ls1 := [jR i1]) (st1 := [jI (wr ((wr (1 + r4)) + r7))]) rfl ?_
    exact L_retI (c206 25 rfl) (hQ _ _ _ hM h)
theorem k_Lw_size3 {v0 : JV} {s : LSt} {M : JM} {Q : Int → LSt → Prop} (hv0 : jnl v0 = true) (hM : R2 s M) (h : d_Lw_size 4 v0 s Q) : JX 207 0 (jargs 207 [v0]) [] M (P2 (QI2 Q)) := by
  have h : d_Lw_size_F (d_Lw_size 3) v0 s Q := h
  unfold d_Lw_size_F at h
  show JX 207 0 [v0] [] M (P2 (QI2 Q))
  generalize hP : P2 (QI2 Q) = P
  have hQ : ∀ (r : Int) (M1 : JM) (s1 : LSt), R2 s1 M1 → Q r s1 → P (.inl (some (.inl r))) M1 := by rw [← hP]; exact fun r M1 s1 a b => ⟨s1, a, r, rfl, b⟩
  clear hP
  refine E_aldn (c207 0 rfl) rfl hv0 ?_
  show JX 207 1 [v0] [v0] M P
  refine E_ifnn (c207 1 rfl) h (fun e h => ?_) (fun i1 e h => ?_)
  · subst e
    refine L_ps c207 (n := 2) (pc1 := 25) (ls1 := [jX .null]) (st1 := [jI 0]) rfl ?_
    exact L_retI (c207 25 rfl) (hQ _ _ _ hM h)
  · subst e
    refine L_ps c207 (n := 2) (pc1 := 10) (ls1 := [jR i1]) (st1 := [jR i1, jI 1]) rfl ?_
    refine E_fV (c207 10 rfl) hM (by decide) h (fun x2 hx2 h => ?_)
    refine E_cI (pc1 := 16) (c207 13 rfl) (js_t rfl) rfl (k_Lw_size2 hx2 hM h) (fun r4 M s3 hM h => ?_)
    refine L_ps c207 (n := 2) (pc1 := 18) (ls1 := [jR i1]) (st1 := [jR i1, jI (wr (1 + r4))]) rfl ?_
    refine E_fV (c207 18 rfl) hM (by decide) h (fun x5 hx5 h => ?_)
    refine E_cI (pc1 := 24) (c207 21 rfl) (js_t rfl) rfl (k_Lw_size2 hx5 hM h) (fun r7 M s6 hM h => ?_)
    refine L_ps c207 (n := 1) (pc1 := 25) (ls1 := [jR i1]) (st1 := [jI (wr ((wr (1 + r4)) + r7))]) rfl ?_
    exact L_retI (c207 25 rfl) (hQ _ _ _ hM h)
theorem k_Lw_size4 {v0 : JV} {s : LSt} {M : JM} {Q : Int → LSt → Prop} (hv0 : jnl v0 = true) (hM : R2 s M) (h : d_Lw_size 5 v0 s Q) : JX 208 0 (jargs 208 [v0]) [] M (P2 (QI2 Q)) := by
  have h : d_Lw_size_F (d_Lw_size 4) v0 s Q := h
  unfold d_Lw_size_F at h
  show JX 208 0 [v0] [] M (P2 (QI2 Q))
  generalize hP : P2 (QI2 Q) = P
  have hQ : ∀ (r : Int) (M1 : JM) (s1 : LSt), R2 s1 M1 → Q r s1 → P (.inl (some (.inl r))) M1 := by rw [← hP]; exact fun r M1 s1 a b => ⟨s1, a, r, rfl, b⟩
  clear hP
  refine E_aldn (c208 0 rfl) rfl hv0 ?_
  show JX 208 1 [v0] [v0] M P
  refine E_ifnn (c208 1 rfl) h (fun e h => ?_) (fun i1 e h => ?_)
  · subst e
    refine L_ps c208 (n := 2) (pc1 := 25) (ls1 := [jX .null]) (st1 := [jI 0]) rfl ?_
    exact L_retI (c208 25 rfl) (hQ _ _ _ hM h)
  · subst e
    refine L_ps c208 (n := 2) (pc1 := 10) (ls1 := [jR i1]) (st1 := [jR i1, jI 1]) rfl ?_
    refine E_fV (c208 10 rfl) hM (by decide) h (fun x2 hx2 h => ?_)
    refine E_cI (pc1 := 16) (c208 13 rfl) (js_t rfl) rfl (k_Lw_size3 hx2 hM h) (fun r4 M s3 hM h => ?_)
    refine L_ps c208 (n := 2) (pc1 := 18) (ls1 := [jR i1]) (st1 := [jR i1, jI (wr (1 + r4))]) rfl ?_
    refine E_fV (c208 18 rfl) hM (by decide) h (fun x5 hx5 h => ?_)
    refine E_cI (pc1 := 24) (c208 21 rfl) (js_t rfl) rfl (k_Lw_size3 hx5 hM h) (fun r7 M s6 hM h => ?_)
    refine L_ps c208 (n := 1) (pc1 := 25) (ls1 := [jR i1]) (st1 := [jI (wr ((wr (1 + r4)) + r7))]) rfl ?_
    exact L_retI (c208 25 rfl) (hQ _ _ _ hM h)
theorem k_Lw_size5 {v0 : JV} {s : LSt} {M : JM} {Q : Int → LSt → Prop} (hv0 : jnl v0 = true) (hM : R2 s M) (h : d_Lw_size 6 v0 s Q) : JX 209 0 (jargs 209 [v0]) [] M (P2 (QI2 Q)) := by
  have h : d_Lw_size_F (d_Lw_size 5) v0 s Q := h
  unfold d_Lw_size_F at h
  show JX 209 0 [v0] [] M (P2 (QI2 Q))
  generalize hP : P2 (QI2 Q) = P
  have hQ : ∀ (r : Int) (M1 : JM) (s1 : LSt), R2 s1 M1 → Q r s1 → P (.inl (some (.inl r))) M1 := by rw [← hP]; exact fun r M1 s1 a b => ⟨s1, a, r, rfl, b⟩
  clear hP
  refine E_aldn (c209 0 rfl) rfl hv0 ?_
  show JX 209 1 [v0] [v0] M P
  refine E_ifnn (c209 1 rfl) h (fun e h => ?_) (fun i1 e h => ?_)
  · subst e
    refine L_ps c209 (n := 2) (pc1 := 25) (ls1 := [jX .null]) (st1 := [jI 0]) rfl ?_
    exact L_retI (c209 25 rfl) (hQ _ _ _ hM h)
  · subst e
    refine L_ps c209 (n := 2) (pc1 := 10) (ls1 := [jR i1]) (st1 := [jR i1, jI 1]) rfl ?_
    refine E_fV (c209 10 rfl) hM (by decide) h (fun x2 hx2 h => ?_)
    refine E_cI (pc1 := 16) (c209 13 rfl) (js_t rfl) rfl (k_Lw_size4 hx2 hM h) (fun r4 M s3 hM h => ?_)
    refine L_ps c209 (n := 2) (pc1 := 18) (ls1 := [jR i1]) (st1 := [jR i1, jI (wr (1 + r4))]) rfl ?_
    refine E_fV (c209 18 rfl) hM (by decide) h (fun x5 hx5 h => ?_)
    refine E_cI (pc1 := 24) (c209 21 rfl) (js_t rfl) rfl (k_Lw_size4 hx5 hM h) (fun r7 M s6 hM h => ?_)
    refine L_ps c209 (n := 1) (pc1 := 25) (ls1 := [jR i1]) (st1 := [jI (wr ((wr (1 + r4)) + r7))]) rfl ?_
    exact L_retI (c209 25 rfl) (hQ _ _ _ hM h)
theorem k_Lw_size6 {v0 : JV} {s : LSt} {M : JM} {Q : Int → LSt → Prop} (hv0 : jnl v0 = true) (hM : R2 s M) (h : d_Lw_size 7 v0 s Q) : JX 210 0 (jargs 210 [v0]) [] M (P2 (QI2 Q)) := by
  have h : d_Lw_size_F (d_Lw_size 6) v0 s Q := h
  unfold d_Lw_size_F at h
  show JX 210 0 [v0] [] M (P2 (QI2 Q))
  generalize hP : P2 (QI2 Q) = P
  have hQ : ∀ (r : Int) (M1 : JM) (s1 : LSt), R2 s1 M1 → Q r s1 → P (.inl (some (.inl r))) M1 := by rw [← hP]; exact fun r M1 s1 a b => ⟨s1, a, r, rfl, b⟩
  clear hP
  refine E_aldn (c210 0 rfl) rfl hv0 ?_
  show JX 210 1 [v0] [v0] M P
  refine E_ifnn (c210 1 rfl) h (fun e h => ?_) (fun i1 e h => ?_)
  · subst e
    refine L_ps c210 (n := 2) (pc1 := 25) (ls1 := [jX .null]) (st1 := [jI 0]) rfl ?_
    exact L_retI (c210 25 rfl) (hQ _ _ _ hM h)
  · subst e
    refine L_ps c210 (n := 2) (pc1 := 10) (ls1 := [jR i1]) (st1 := [jR i1, jI 1]) rfl ?_
    refine E_fV (c210 10 rfl) hM (by decide) h (fun x2 hx2 h => ?_)
    refine E_cI (pc1 := 16) (c210 13 rfl) (js_t rfl) rfl (k_Lw_size5 hx2 hM h) (fun r4 M s3 hM h => ?_)
    refine L_ps c210 (n := 2) (pc1 := 18) (ls1 := [jR i1]) (st1 := [jR i1, jI (wr (1 + r4))]) rfl ?_
    refine E_fV (c210 18 rfl) hM (by decide) h (fun x5 hx5 h => ?_)
    refine E_cI (pc1 := 24) (c210 21 rfl) (js_t rfl) rfl (k_Lw_size5 hx5 hM h) (fun r7 M s6 hM h => ?_)
    refine L_ps c210 (n := 1) (pc1 := 25) (ls1 := [jR i1]) (st1 := [jI (wr ((wr (1 + r4)) + r7))]) rfl ?_
    exact L_retI (c210 25 rfl) (hQ _ _ _ hM h)
theorem k_Lw_size7 {v0 : JV} {s : LSt} {M : JM} {Q : Int → LSt → Prop} (hv0 : jnl v0 = true) (hM : R2 s M) (h : d_Lw_size 8 v0 s Q) : JX 211 0 (jargs 211 [v0]) [] M (P2 (QI2 Q)) := by
  have h : d_Lw_size_F (d_Lw_size 7) v0 s Q := h
  unfold d_Lw_size_F at h
  show JX 211 0 [v0] [] M (P2 (QI2 Q))
  generalize hP : P2 (QI2 Q) = P
  have hQ : ∀ (r : Int) (M1 : JM) (s1 : LSt), R2 s1 M1 → Q r s1 → P (.inl (some (.inl r))) M1 := by rw [← hP]; exact fun r M1 s1 a b => ⟨s1, a, r, rfl, b⟩
  clear hP
  refine E_aldn (c211 0 rfl) rfl hv0 ?_
  show JX 211 1 [v0] [v0] M P
  refine E_ifnn (c211 1 rfl) h (fun e h => ?_) (fun i1 e h => ?_)
  · subst e
    refine L_ps c211 (n := 2) (pc1 := 25) (ls1 := [jX .null]) (st1 := [jI 0]) rfl ?_
    exact L_retI (c211 25 rfl) (hQ _ _ _ hM h)
  · subst e
    refine L_ps c211 (n := 2) (pc1 := 10) (ls1 := [jR i1]) (st1 := [jR i1, jI 1]) rfl ?_
    refine E_fV (c211 10 rfl) hM (by decide) h (fun x2 hx2 h => ?_)
    refine E_cI (pc1 := 16) (c211 13 rfl) (js_t rfl) rfl (k_Lw_size6 hx2 hM h) (fun r4 M s3 hM h => ?_)
    refine L_ps c211 (n := 2) (pc1 := 18) (ls1 := [jR i1]) (st1 := [jR i1, jI (wr (1 + r4))]) rfl ?_
    refine E_fV (c211 18 rfl) hM (by decide) h (fun x5 hx5 h => ?_)
    refine E_cI (pc1 := 24) (c211 21 rfl) (js_t rfl) rfl (k_Lw_size6 hx5 hM h) (fun r7 M s6 hM h => ?_)
    refine L_ps c211 (n := 1) (pc1 := 25) (ls1 := [jR i1]) (st1 := [jI (wr ((wr (1 + r4)) + r7))]) rfl ?_
    exact L_retI (c211 25 rfl) (hQ _ _ _ hM h)
theorem k_Arrays_fillO_b5 {v0 : JV} {v1 : JV} {v3 : Int} {v2 : Int} {s : LSt} {M : JM} {P : JO → JM → Prop} {W5 : Int → LSt → Prop} {Q : LSt → Prop} (hv0 : jnl v0 = true) (hv1 : jnl v1 = true) (hM : R2 s M) (hQ : ∀ (M1 : JM) (s1 : LSt), R2 s1 M1 → Q s1 → P (.inl none) M1) (hW5 : ∀ (v2 : Int) (M1 : JM) (s1 : LSt), R2 s1 M1 → W5 v2 s1 → JX 214 5 [v0, v1, jI v2, jI v3] [] M1 P) (h : d_Arrays_fillO_b5 v0 v1 v3 v2 s W5 Q) : JX 214 5 [v0, v1, jI v2, jI v3] [] M P := by
  unfold d_Arrays_fillO_b5 at h
  refine L_ps c214 (n := 2) (pc1 := 7) (ls1 := [v0, v1, jI v2, jI v3]) (st1 := [jI v3, jI v2]) rfl ?_
  refine L_nb (p1 := 20) (p2 := 10) (c214 7 rfl) rfl jc_ge h (fun h => ?_) (fun h => ?_)
  · refine E_aldn (c214 10 rfl) rfl hv0 ?_
    show JX 214 11 [v0, v1, jI v2, jI v3] [v0] M P
    refine L_ps c214 (n := 1) (pc1 := 12) (ls1 := [v0, v1, jI v2, jI v3]) (st1 := [jI v2, v0]) rfl ?_
    refine E_aldn (c214 12 rfl) rfl hv1 ?_
    show JX 214 13 [v0, v1, jI v2, jI v3] [v1, jI v2, v0] M P
    obtain ⟨i3, e, h⟩ := cR_of h
    subst e
    refine E_wV (c214 13 rfl) hM h (fun M s4 hM h => ?_)
    refine L_iinc (c214 14 rfl) (jnl_c2 hv1) (Nat.le_of_ble_eq_true rfl) rfl ?_
    show JX 214 17 [jR i3, v1, jI (wr (v2 + 1)), jI v3] [] M P
    refine L_ps c214 (n := 1) (pc1 := 5) (ls1 := [jR i3, v1, jI (wr (v2 + 1)), jI v3]) (st1 := []) rfl ?_
    exact hW5 _ _ _ hM h
  · exact L_end (c214 20 rfl) rfl (hQ _ _ hM h)
theorem k_Arrays_fillO_l5 {v0 : JV} {v1 : JV} {v3 : Int} {v2 : Int} {s : LSt} {M : JM} {P : JO → JM → Prop} {Q : LSt → Prop} (hv0 : jnl v0 = true) (hv1 : jnl v1 = true) (hM : R2 s M) (hQ : ∀ (M1 : JM) (s1 : LSt), R2 s1 M1 → Q s1 → P (.inl none) M1) (h : d_Arrays_fillO_l5 v0 v1 v3 v2 s Q) : JX 214 5 [v0, v1, jI v2, jI v3] [] M P := by
  refine h (fun v2 s => ∀ (M : JM), R2 s M → JX 214 5 [v0, v1, jI v2, jI v3] [] M P) ?_ _ hM
  intro v2 s h M hM
  exact k_Arrays_fillO_b5 hv0 hv1 hM hQ (fun v2 M s hM h => h M hM) h
theorem k_Arrays_fillO {v0 : JV} {v1 : JV} {s : LSt} {M : JM} {Q : LSt → Prop} (hv0 : jnl v0 = true) (hv1 : jnl v1 = true) (hM : R2 s M) (h : d_Arrays_fillO v0 v1 s Q) : JX 214 0 (jargs 214 [v0, v1]) [] M (P2 (QN2 Q)) := by
  unfold d_Arrays_fillO at h
  show JX 214 0 [v0, v1, jU, jU] [] M (P2 (QN2 Q))
  generalize hP : P2 (QN2 Q) = P
  have hQ : ∀ (M1 : JM) (s1 : LSt), R2 s1 M1 → Q s1 → P (.inl none) M1 := by rw [← hP]; exact fun M1 s1 a b => ⟨s1, a, rfl, b⟩
  clear hP
  refine L_ps c214 (n := 1) (pc1 := 1) (ls1 := [v0, v1, jU, jU]) (st1 := [jI 0]) rfl ?_
  refine L_istn (c214 1 rfl) (jnl_c2 hv1) (Nat.le_of_ble_eq_true rfl) ?_
  show JX 214 2 [v0, v1, jI 0, jU] [] M P
  refine E_aldn (c214 2 rfl) rfl hv0 ?_
  show JX 214 3 [v0, v1, jI 0, jU] [v0] M P
  obtain ⟨i1, e, h⟩ := cR_of h
  subst e
  refine E_aL (c214 3 rfl) hM h (fun z2 h => ?_)
  refine L_ps c214 (n := 1) (pc1 := 5) (ls1 := [jR i1, v1, jI 0, jI z2]) (st1 := []) rfl ?_
  exact k_Arrays_fillO_l5 rfl hv1 hM hQ h
theorem k_Lw_same0_j8 {v0 : JV} {v1 : JV} {s : LSt} {M : JM} {P : JO → JM → Prop} {Q : Int → LSt → Prop} (hv0 : jnl v0 = true) (hv1 : jnl v1 = true) (hM : R2 s M) (hQ : ∀ (r : Int) (M1 : JM) (s1 : LSt), R2 s1 M1 → Q r s1 → P (.inl (some (.inl r))) M1) (h : d_Lw_same_j8 (d_Lw_same 0) v0 v1 s Q) : JX 220 8 [v0, v1] [] M P := by
  unfold d_Lw_same_j8 at h
  refine E_aldn (c220 8 rfl) rfl hv0 ?_
  show JX 220 9 [v0, v1] [v0] M P
  refine E_aldn (c220 9 rfl) rfl hv1 ?_
  show JX 220 10 [v0, v1] [v1, v0] M P
  refine E_cNE (c220 10 rfl) hv1 hv0 h (fun h => ?_) (fun h => ?_)
  · refine L_ps c220 (n := 2) (pc1 := 18) (ls1 := [v0, v1]) (st1 := [jI 1]) rfl ?_
    exact E_retZ (c220 18 rfl) (Or.inr rfl) (hQ _ _ _ hM h)
  · refine L_ps c220 (n := 1) (pc1 := 18) (ls1 := [v0, v1]) (st1 := [jI 0]) rfl ?_
    exact E_retZ (c220 18 rfl) (Or.inl rfl) (hQ _ _ _ hM h)
theorem k_Lw_same0 {v0 : JV} {v1 : JV} {s : LSt} {M : JM} {Q : Int → LSt → Prop} (hv0 : jnl v0 = true) (hv1 : jnl v1 = true) (hM : R2 s M) (h : d_Lw_same 1 v0 v1 s Q) : JX 220 0 (jargs 220 [v0, v1]) [] M (P2 (QI2 Q)) := by
  have h : d_Lw_same_F (d_Lw_same 0) v0 v1 s Q := h
  unfold d_Lw_same_F at h
  show JX 220 0 [v0, v1] [] M (P2 (QI2 Q))
  generalize hP : P2 (QI2 Q) = P
  have hQ : ∀ (r : Int) (M1 : JM) (s1 : LSt), R2 s1 M1 → Q r s1 → P (.inl (some (.inl r))) M1 := by rw [← hP]; exact fun r M1 s1 a b => ⟨s1, a, r, rfl, b⟩
  clear hP
  refine E_aldn (c220 0 rfl) rfl hv0 ?_
  show JX 220 1 [v0, v1] [v0] M P
  refine E_ifn (c220 1 rfl) h (fun e h => ?_) (fun i1 e h => ?_)
  · subst e
    exact k_Lw_same0_j8 rfl hv1 hM hQ h
  · subst e
    refine E_aldn (c220 4 rfl) rfl hv1 ?_
    show JX 220 5 [jR i1, v1] [v1] M P
    refine E_ifnn (c220 5 rfl) h (fun e h => ?_) (fun i2 e h => ?_)
    · subst e
      exact k_Lw_same0_j8 rfl rfl hM hQ h
    · subst e
      refine L_ps c220 (n := 1) (pc1 := 20) (ls1 := [jR i1, jR i2]) (st1 := [jR i1]) rfl ?_
      refine E_fI (c220 20 rfl) hM (by decide) h (fun z3 h => ?_)
      refine L_ps c220 (n := 1) (pc1 := 24) (ls1 := [jR i1, jR i2]) (st1 := [jR i2, jI z3]) rfl ?_
      refine E_fI (c220 24 rfl) hM (by decide) h (fun z4 h => ?_)
      refine L_nb (p1 := 62) (p2 := 30) (c220 27 rfl) rfl jc_ne h (fun h => ?_) (fun h => ?_)
      · refine L_ps c220 (n := 1) (pc1 := 31) (ls1 := [jR i1, jR i2]) (st1 := [jR i1]) rfl ?_
        refine E_fV (c220 31 rfl) hM (by decide) h (fun x5 hx5 h => ?_)
        refine L_ps c220 (n := 1) (pc1 := 35) (ls1 := [jR i1, jR i2]) (st1 := [jR i2, x5]) rfl ?_
        refine E_fV (c220 35 rfl) hM (by decide) h (fun x6 hx6 h => ?_)
        exact False.elim h
      · refine L_ps c220 (n := 1) (pc1 := 63) (ls1 := [jR i1, jR i2]) (st1 := [jI 0]) rfl ?_
        exact E_retZ (c220 63 rfl) (Or.inl rfl) (hQ _ _ _ hM h)
theorem k_Lw_same1_j8 {v0 : JV} {v1 : JV} {s : LSt} {M : JM} {P : JO → JM → Prop} {Q : Int → LSt → Prop} (hv0 : jnl v0 = true) (hv1 : jnl v1 = true) (hM : R2 s M) (hQ : ∀ (r : Int) (M1 : JM) (s1 : LSt), R2 s1 M1 → Q r s1 → P (.inl (some (.inl r))) M1) (h : d_Lw_same_j8 (d_Lw_same 1) v0 v1 s Q) : JX 221 8 [v0, v1] [] M P := by
  unfold d_Lw_same_j8 at h
  refine E_aldn (c221 8 rfl) rfl hv0 ?_
  show JX 221 9 [v0, v1] [v0] M P
  refine E_aldn (c221 9 rfl) rfl hv1 ?_
  show JX 221 10 [v0, v1] [v1, v0] M P
  refine E_cNE (c221 10 rfl) hv1 hv0 h (fun h => ?_) (fun h => ?_)
  · refine L_ps c221 (n := 2) (pc1 := 18) (ls1 := [v0, v1]) (st1 := [jI 1]) rfl ?_
    exact E_retZ (c221 18 rfl) (Or.inr rfl) (hQ _ _ _ hM h)
  · refine L_ps c221 (n := 1) (pc1 := 18) (ls1 := [v0, v1]) (st1 := [jI 0]) rfl ?_
    exact E_retZ (c221 18 rfl) (Or.inl rfl) (hQ _ _ _ hM h)
theorem k_Lw_same1 {v0 : JV} {v1 : JV} {s : LSt} {M : JM} {Q : Int → LSt → Prop} (hv0 : jnl v0 = true) (hv1 : jnl v1 = true) (hM : R2 s M) (h : d_Lw_same 2 v0 v1 s Q) : JX 221 0 (jargs 221 [v0, v1]) [] M (P2 (QI2 Q)) := by
  have h : d_Lw_same_F (d_Lw_same 1) v0 v1 s Q := h
  unfold d_Lw_same_F at h
  show JX 221 0 [v0, v1] [] M (P2 (QI2 Q))
  generalize hP : P2 (QI2 Q) = P
  have hQ : ∀ (r : Int) (M1 : JM) (s1 : LSt), R2 s1 M1 → Q r s1 → P (.inl (some (.inl r))) M1 := by rw [← hP]; exact fun r M1 s1 a b => ⟨s1, a, r, rfl, b⟩
  clear hP
  refine E_aldn (c221 0 rfl) rfl hv0 ?_
  show JX 221 1 [v0, v1] [v0] M P
  refine E_ifn (c221 1 rfl) h (fun e h => ?_) (fun i1 e h => ?_)
  · subst e
    exact k_Lw_same1_j8 rfl hv1 hM hQ h
  · subst e
    refine E_aldn (c221 4 rfl) rfl hv1 ?_
    show JX 221 5 [jR i1, v1] [v1] M P
    refine E_ifnn (c221 5 rfl) h (fun e h => ?_) (fun i2 e h => ?_)
    · subst e
      exact k_Lw_same1_j8 rfl rfl hM hQ h
    · subst e
      refine L_ps c221 (n := 1) (pc1 := 20) (ls1 := [jR i1, jR i2]) (st1 := [jR i1]) rfl ?_
      refine E_fI (c221 20 rfl) hM (by decide) h (fun z3 h => ?_)
      refine L_ps c221 (n := 1) (pc1 := 24) (ls1 := [jR i1, jR i2]) (st1 := [jR i2, jI z3]) rfl ?_
      refine E_fI (c221 24 rfl) hM (by decide) h (fun z4 h => ?_)
      refine L_nb (p1 := 62) (p2 := 30) (c221 27 rfl) rfl jc_ne h (fun h => ?_) (fun h => ?_)
      · refine L_ps c221 (n := 1) (pc1 := 31) (ls1 := [jR i1, jR i2]) (st1 := [jR i1]) rfl ?_
        refine E_fV (c221 31 rfl) hM (by decide) h (fun x5 hx5 h => ?_)
        refine L_ps c221 (n := 1) (pc1 := 35) (ls1 := [jR i1, jR i2]) (st1 := [jR i2, x5]) rfl ?_
        refine E_fV (c221 35 rfl) hM (by decide) h (fun x6 hx6 h => ?_)
        refine E_cI (pc1 := 41) (c221 38 rfl) (js_t rfl) rfl (k_Lw_same0 hx5 hx6 hM h) (fun r8 M s7 hM h => ?_)
        refine L_br (p1 := 62) (p2 := 44) (c221 41 rfl) rfl jc_eq h (fun h => ?_) (fun h => ?_)
        · refine L_ps c221 (n := 1) (pc1 := 63) (ls1 := [jR i1, jR i2]) (st1 := [jI 0]) rfl ?_
          exact E_retZ (c221 63 rfl) (Or.inl rfl) (hQ _ _ _ hM h)
        · refine L_ps c221 (n := 1) (pc1 := 45) (ls1 := [jR i1, jR i2]) (st1 := [jR i1]) rfl ?_
          refine E_fV (c221 45 rfl) hM (by decide) h (fun x9 hx9 h => ?_)
          refine L_ps c221 (n := 1) (pc1 := 49) (ls1 := [jR i1, jR i2]) (st1 := [jR i2, x9]) rfl ?_
          refine E_fV (c221 49 rfl) hM (by decide) h (fun x10 hx10 h => ?_)
          refine E_cI (pc1 := 55) (c221 52 rfl) (js_t rfl) rfl (k_Lw_same0 hx9 hx10 hM h) (fun r12 M s11 hM h => ?_)
          refine L_br (p1 := 62) (p2 := 58) (c221 55 rfl) rfl jc_eq h (fun h => ?_) (fun h => ?_)
          · refine L_ps c221 (n := 1) (pc1 := 63) (ls1 := [jR i1, jR i2]) (st1 := [jI 0]) rfl ?_
            exact E_retZ (c221 63 rfl) (Or.inl rfl) (hQ _ _ _ hM h)
          · refine L_ps c221 (n := 2) (pc1 := 63) (ls1 := [jR i1, jR i2]) (st1 := [jI 1]) rfl ?_
            exact E_retZ (c221 63 rfl) (Or.inr rfl) (hQ _ _ _ hM h)
      · refine L_ps c221 (n := 1) (pc1 := 63) (ls1 := [jR i1, jR i2]) (st1 := [jI 0]) rfl ?_
        exact E_retZ (c221 63 rfl) (Or.inl rfl) (hQ _ _ _ hM h)
theorem k_Lw_same2_j8 {v0 : JV} {v1 : JV} {s : LSt} {M : JM} {P : JO → JM → Prop} {Q : Int → LSt → Prop} (hv0 : jnl v0 = true) (hv1 : jnl v1 = true) (hM : R2 s M) (hQ : ∀ (r : Int) (M1 : JM) (s1 : LSt), R2 s1 M1 → Q r s1 → P (.inl (some (.inl r))) M1) (h : d_Lw_same_j8 (d_Lw_same 2) v0 v1 s Q) : JX 222 8 [v0, v1] [] M P := by
  unfold d_Lw_same_j8 at h
  refine E_aldn (c222 8 rfl) rfl hv0 ?_
  show JX 222 9 [v0, v1] [v0] M P
  refine E_aldn (c222 9 rfl) rfl hv1 ?_
  show JX 222 10 [v0, v1] [v1, v0] M P
  refine E_cNE (c222 10 rfl) hv1 hv0 h (fun h => ?_) (fun h => ?_)
  · refine L_ps c222 (n := 2) (pc1 := 18) (ls1 := [v0, v1]) (st1 := [jI 1]) rfl ?_
    exact E_retZ (c222 18 rfl) (Or.inr rfl) (hQ _ _ _ hM h)
  · refine L_ps c222 (n := 1) (pc1 := 18) (ls1 := [v0, v1]) (st1 := [jI 0]) rfl ?_
    exact E_retZ (c222 18 rfl) (Or.inl rfl) (hQ _ _ _ hM h)
theorem k_Lw_same2 {v0 : JV} {v1 : JV} {s : LSt} {M : JM} {Q : Int → LSt → Prop} (hv0 : jnl v0 = true) (hv1 : jnl v1 = true) (hM : R2 s M) (h : d_Lw_same 3 v0 v1 s Q) : JX 222 0 (jargs 222 [v0, v1]) [] M (P2 (QI2 Q)) := by
  have h : d_Lw_same_F (d_Lw_same 2) v0 v1 s Q := h
  unfold d_Lw_same_F at h
  show JX 222 0 [v0, v1] [] M (P2 (QI2 Q))
  generalize hP : P2 (QI2 Q) = P
  have hQ : ∀ (r : Int) (M1 : JM) (s1 : LSt), R2 s1 M1 → Q r s1 → P (.inl (some (.inl r))) M1 := by rw [← hP]; exact fun r M1 s1 a b => ⟨s1, a, r, rfl, b⟩
  clear hP
  refine E_aldn (c222 0 rfl) rfl hv0 ?_
  show JX 222 1 [v0, v1] [v0] M P
  refine E_ifn (c222 1 rfl) h (fun e h => ?_) (fun i1 e h => ?_)
  · subst e
    exact k_Lw_same2_j8 rfl hv1 hM hQ h
  · subst e
    refine E_aldn (c222 4 rfl) rfl hv1 ?_
    show JX 222 5 [jR i1, v1] [v1] M P
    refine E_ifnn (c222 5 rfl) h (fun e h => ?_) (fun i2 e h => ?_)
    · subst e
      exact k_Lw_same2_j8 rfl rfl hM hQ h
    · subst e
      refine L_ps c222 (n := 1) (pc1 := 20) (ls1 := [jR i1, jR i2]) (st1 := [jR i1]) rfl ?_
      refine E_fI (c222 20 rfl) hM (by decide) h (fun z3 h => ?_)
      refine L_ps c222 (n := 1) (pc1 := 24) (ls1 := [jR i1, jR i2]) (st1 := [jR i2, jI z3]) rfl ?_
      refine E_fI (c222 24 rfl) hM (by decide) h (fun z4 h => ?_)
      refine L_nb (p1 := 62) (p2 := 30) (c222 27 rfl) rfl jc_ne h (fun h => ?_) (fun h => ?_)
      · refine L_ps c222 (n := 1) (pc1 := 31) (ls1 := [jR i1, jR i2]) (st1 := [jR i1]) rfl ?_
        refine E_fV (c222 31 rfl) hM (by decide) h (fun x5 hx5 h => ?_)
        refine L_ps c222 (n := 1) (pc1 := 35) (ls1 := [jR i1, jR i2]) (st1 := [jR i2, x5]) rfl ?_
        refine E_fV (c222 35 rfl) hM (by decide) h (fun x6 hx6 h => ?_)
        refine E_cI (pc1 := 41) (c222 38 rfl) (js_t rfl) rfl (k_Lw_same1 hx5 hx6 hM h) (fun r8 M s7 hM h => ?_)
        refine L_br (p1 := 62) (p2 := 44) (c222 41 rfl) rfl jc_eq h (fun h => ?_) (fun h => ?_)
        · refine L_ps c222 (n := 1) (pc1 := 63) (ls1 := [jR i1, jR i2]) (st1 := [jI 0]) rfl ?_
          exact E_retZ (c222 63 rfl) (Or.inl rfl) (hQ _ _ _ hM h)
        · refine L_ps c222 (n := 1) (pc1 := 45) (ls1 := [jR i1, jR i2]) (st1 := [jR i1]) rfl ?_
          refine E_fV (c222 45 rfl) hM (by decide) h (fun x9 hx9 h => ?_)
          refine L_ps c222 (n := 1) (pc1 := 49) (ls1 := [jR i1, jR i2]) (st1 := [jR i2, x9]) rfl ?_
          refine E_fV (c222 49 rfl) hM (by decide) h (fun x10 hx10 h => ?_)
          refine E_cI (pc1 := 55) (c222 52 rfl) (js_t rfl) rfl (k_Lw_same1 hx9 hx10 hM h) (fun r12 M s11 hM h => ?_)
          refine L_br (p1 := 62) (p2 := 58) (c222 55 rfl) rfl jc_eq h (fun h => ?_) (fun h => ?_)
          · refine L_ps c222 (n := 1) (pc1 := 63) (ls1 := [jR i1, jR i2]) (st1 := [jI 0]) rfl ?_
            exact E_retZ (c222 63 rfl) (Or.inl rfl) (hQ _ _ _ hM h)
          · refine L_ps c222 (n := 2) (pc1 := 63) (ls1 := [jR i1, jR i2]) (st1 := [jI 1]) rfl ?_
            exact E_retZ (c222 63 rfl) (Or.inr rfl) (hQ _ _ _ hM h)
      · refine L_ps c222 (n := 1) (pc1 := 63) (ls1 := [jR i1, jR i2]) (st1 := [jI 0]) rfl ?_
        exact E_retZ (c222 63 rfl) (Or.inl rfl) (hQ _ _ _ hM h)
theorem k_Lw_same3_j8 {v0 : JV} {v1 : JV} {s : LSt} {M : JM} {P : JO → JM → Prop} {Q : Int → LSt → Prop} (hv0 : jnl v0 = true) (hv1 : jnl v1 = true) (hM : R2 s M) (hQ : ∀ (r : Int) (M1 : JM) (s1 : LSt), R2 s1 M1 → Q r s1 → P (.inl (some (.inl r))) M1) (h : d_Lw_same_j8 (d_Lw_same 3) v0 v1 s Q) : JX 223 8 [v0, v1] [] M P := by
  unfold d_Lw_same_j8 at h
  refine E_aldn (c223 8 rfl) rfl hv0 ?_
  show JX 223 9 [v0, v1] [v0] M P
  refine E_aldn (c223 9 rfl) rfl hv1 ?_
  show JX 223 10 [v0, v1] [v1, v0] M P
  refine E_cNE (c223 10 rfl) hv1 hv0 h (fun h => ?_) (fun h => ?_)
  · refine L_ps c223 (n := 2) (pc1 := 18) (ls1 := [v0, v1]) (st1 := [jI 1]) rfl ?_
    exact E_retZ (c223 18 rfl) (Or.inr rfl) (hQ _ _ _ hM h)
  · refine L_ps c223 (n := 1) (pc1 := 18) (ls1 := [v0, v1]) (st1 := [jI 0]) rfl ?_
    exact E_retZ (c223 18 rfl) (Or.inl rfl) (hQ _ _ _ hM h)
theorem k_Lw_same3 {v0 : JV} {v1 : JV} {s : LSt} {M : JM} {Q : Int → LSt → Prop} (hv0 : jnl v0 = true) (hv1 : jnl v1 = true) (hM : R2 s M) (h : d_Lw_same 4 v0 v1 s Q) : JX 223 0 (jargs 223 [v0, v1]) [] M (P2 (QI2 Q)) := by
  have h : d_Lw_same_F (d_Lw_same 3) v0 v1 s Q := h
  unfold d_Lw_same_F at h
  show JX 223 0 [v0, v1] [] M (P2 (QI2 Q))
  generalize hP : P2 (QI2 Q) = P
  have hQ : ∀ (r : Int) (M1 : JM) (s1 : LSt), R2 s1 M1 → Q r s1 → P (.inl (some (.inl r))) M1 := by rw [← hP]; exact fun r M1 s1 a b => ⟨s1, a, r, rfl, b⟩
  clear hP
  refine E_aldn (c223 0 rfl) rfl hv0 ?_
  show JX 223 1 [v0, v1] [v0] M P
  refine E_ifn (c223 1 rfl) h (fun e h => ?_) (fun i1 e h => ?_)
  · subst e
    exact k_Lw_same3_j8 rfl hv1 hM hQ h
  · subst e
    refine E_aldn (c223 4 rfl) rfl hv1 ?_
    show JX 223 5 [jR i1, v1] [v1] M P
    refine E_ifnn (c223 5 rfl) h (fun e h => ?_) (fun i2 e h => ?_)
    · subst e
      exact k_Lw_same3_j8 rfl rfl hM hQ h
    · subst e
      refine L_ps c223 (n := 1) (pc1 := 20) (ls1 := [jR i1, jR i2]) (st1 := [jR i1]) rfl ?_
      refine E_fI (c223 20 rfl) hM (by decide) h (fun z3 h => ?_)
      refine L_ps c223 (n := 1) (pc1 := 24) (ls1 := [jR i1, jR i2]) (st1 := [jR i2, jI z3]) rfl ?_
      refine E_fI (c223 24 rfl) hM (by decide) h (fun z4 h => ?_)
      refine L_nb (p1 := 62) (p2 := 30) (c223 27 rfl) rfl jc_ne h (fun h => ?_) (fun h => ?_)
      · refine L_ps c223 (n := 1) (pc1 := 31) (ls1 := [jR i1, jR i2]) (st1 := [jR i1]) rfl ?_
        refine E_fV (c223 31 rfl) hM (by decide) h (fun x5 hx5 h => ?_)
        refine L_ps c223 (n := 1) (pc1 := 35) (ls1 := [jR i1, jR i2]) (st1 := [jR i2, x5]) rfl ?_
        refine E_fV (c223 35 rfl) hM (by decide) h (fun x6 hx6 h => ?_)
        refine E_cI (pc1 := 41) (c223 38 rfl) (js_t rfl) rfl (k_Lw_same2 hx5 hx6 hM h) (fun r8 M s7 hM h => ?_)
        refine L_br (p1 := 62) (p2 := 44) (c223 41 rfl) rfl jc_eq h (fun h => ?_) (fun h => ?_)
        · refine L_ps c223 (n := 1) (pc1 := 63) (ls1 := [jR i1, jR i2]) (st1 := [jI 0]) rfl ?_
          exact E_retZ (c223 63 rfl) (Or.inl rfl) (hQ _ _ _ hM h)
        · refine L_ps c223 (n := 1) (pc1 := 45) (ls1 := [jR i1, jR i2]) (st1 := [jR i1]) rfl ?_
          refine E_fV (c223 45 rfl) hM (by decide) h (fun x9 hx9 h => ?_)
          refine L_ps c223 (n := 1) (pc1 := 49) (ls1 := [jR i1, jR i2]) (st1 := [jR i2, x9]) rfl ?_
          refine E_fV (c223 49 rfl) hM (by decide) h (fun x10 hx10 h => ?_)
          refine E_cI (pc1 := 55) (c223 52 rfl) (js_t rfl) rfl (k_Lw_same2 hx9 hx10 hM h) (fun r12 M s11 hM h => ?_)
          refine L_br (p1 := 62) (p2 := 58) (c223 55 rfl) rfl jc_eq h (fun h => ?_) (fun h => ?_)
          · refine L_ps c223 (n := 1) (pc1 := 63) (ls1 := [jR i1, jR i2]) (st1 := [jI 0]) rfl ?_
            exact E_retZ (c223 63 rfl) (Or.inl rfl) (hQ _ _ _ hM h)
          · refine L_ps c223 (n := 2) (pc1 := 63) (ls1 := [jR i1, jR i2]) (st1 := [jI 1]) rfl ?_
            exact E_retZ (c223 63 rfl) (Or.inr rfl) (hQ _ _ _ hM h)
      · refine L_ps c223 (n := 1) (pc1 := 63) (ls1 := [jR i1, jR i2]) (st1 := [jI 0]) rfl ?_
        exact E_retZ (c223 63 rfl) (Or.inl rfl) (hQ _ _ _ hM h)
theorem k_Lw_same4_j8 {v0 : JV} {v1 : JV} {s : LSt} {M : JM} {P : JO → JM → Prop} {Q : Int → LSt → Prop} (hv0 : jnl v0 = true) (hv1 : jnl v1 = true) (hM : R2 s M) (hQ : ∀ (r : Int) (M1 : JM) (s1 : LSt), R2 s1 M1 → Q r s1 → P (.inl (some (.inl r))) M1) (h : d_Lw_same_j8 (d_Lw_same 4) v0 v1 s Q) : JX 224 8 [v0, v1] [] M P := by
  unfold d_Lw_same_j8 at h
  refine E_aldn (c224 8 rfl) rfl hv0 ?_
  show JX 224 9 [v0, v1] [v0] M P
  refine E_aldn (c224 9 rfl) rfl hv1 ?_
  show JX 224 10 [v0, v1] [v1, v0] M P
  refine E_cNE (c224 10 rfl) hv1 hv0 h (fun h => ?_) (fun h => ?_)
  · refine L_ps c224 (n := 2) (pc1 := 18) (ls1 := [v0, v1]) (st1 := [jI 1]) rfl ?_
    exact E_retZ (c224 18 rfl) (Or.inr rfl) (hQ _ _ _ hM h)
  · refine L_ps c224 (n := 1) (pc1 := 18) (ls1 := [v0, v1]) (st1 := [jI 0]) rfl ?_
    exact E_retZ (c224 18 rfl) (Or.inl rfl) (hQ _ _ _ hM h)
theorem k_Lw_same4 {v0 : JV} {v1 : JV} {s : LSt} {M : JM} {Q : Int → LSt → Prop} (hv0 : jnl v0 = true) (hv1 : jnl v1 = true) (hM : R2 s M) (h : d_Lw_same 5 v0 v1 s Q) : JX 224 0 (jargs 224 [v0, v1]) [] M (P2 (QI2 Q)) := by
  have h : d_Lw_same_F (d_Lw_same 4) v0 v1 s Q := h
  unfold d_Lw_same_F at h
  show JX 224 0 [v0, v1] [] M (P2 (QI2 Q))
  generalize hP : P2 (QI2 Q) = P
  have hQ : ∀ (r : Int) (M1 : JM) (s1 : LSt), R2 s1 M1 → Q r s1 → P (.inl (some (.inl r))) M1 := by rw [← hP]; exact fun r M1 s1 a b => ⟨s1, a, r, rfl, b⟩
  clear hP
  refine E_aldn (c224 0 rfl) rfl hv0 ?_
  show JX 224 1 [v0, v1] [v0] M P
  refine E_ifn (c224 1 rfl) h (fun e h => ?_) (fun i1 e h => ?_)
  · subst e
    exact k_Lw_same4_j8 rfl hv1 hM hQ h
  · subst e
    refine E_aldn (c224 4 rfl) rfl hv1 ?_
    show JX 224 5 [jR i1, v1] [v1] M P
    refine E_ifnn (c224 5 rfl) h (fun e h => ?_) (fun i2 e h => ?_)
    · subst e
      exact k_Lw_same4_j8 rfl rfl hM hQ h
    · subst e
      refine L_ps c224 (n := 1) (pc1 := 20) (ls1 := [jR i1, jR i2]) (st1 := [jR i1]) rfl ?_
      refine E_fI (c224 20 rfl) hM (by decide) h (fun z3 h => ?_)
      refine L_ps c224 (n := 1) (pc1 := 24) (ls1 := [jR i1, jR i2]) (st1 := [jR i2, jI z3]) rfl ?_
      refine E_fI (c224 24 rfl) hM (by decide) h (fun z4 h => ?_)
      refine L_nb (p1 := 62) (p2 := 30) (c224 27 rfl) rfl jc_ne h (fun h => ?_) (fun h => ?_)
      · refine L_ps c224 (n := 1) (pc1 := 31) (ls1 := [jR i1, jR i2]) (st1 := [jR i1]) rfl ?_
        refine E_fV (c224 31 rfl) hM (by decide) h (fun x5 hx5 h => ?_)
        refine L_ps c224 (n := 1) (pc1 := 35) (ls1 := [jR i1, jR i2]) (st1 := [jR i2, x5]) rfl ?_
        refine E_fV (c224 35 rfl) hM (by decide) h (fun x6 hx6 h => ?_)
        refine E_cI (pc1 := 41) (c224 38 rfl) (js_t rfl) rfl (k_Lw_same3 hx5 hx6 hM h) (fun r8 M s7 hM h => ?_)
        refine L_br (p1 := 62) (p2 := 44) (c224 41 rfl) rfl jc_eq h (fun h => ?_) (fun h => ?_)
        · refine L_ps c224 (n := 1) (pc1 := 63) (ls1 := [jR i1, jR i2]) (st1 := [jI 0]) rfl ?_
          exact E_retZ (c224 63 rfl) (Or.inl rfl) (hQ _ _ _ hM h)
        · refine L_ps c224 (n := 1) (pc1 := 45) (ls1 := [jR i1, jR i2]) (st1 := [jR i1]) rfl ?_
          refine E_fV (c224 45 rfl) hM (by decide) h (fun x9 hx9 h => ?_)
          refine L_ps c224 (n := 1) (pc1 := 49) (ls1 := [jR i1, jR i2]) (st1 := [jR i2, x9]) rfl ?_
          refine E_fV (c224 49 rfl) hM (by decide) h (fun x10 hx10 h => ?_)
          refine E_cI (pc1 := 55) (c224 52 rfl) (js_t rfl) rfl (k_Lw_same3 hx9 hx10 hM h) (fun r12 M s11 hM h => ?_)
          refine L_br (p1 := 62) (p2 := 58) (c224 55 rfl) rfl jc_eq h (fun h => ?_) (fun h => ?_)
          · refine L_ps c224 (n := 1) (pc1 := 63) (ls1 := [jR i1, jR i2]) (st1 := [jI 0]) rfl ?_
            exact E_retZ (c224 63 rfl) (Or.inl rfl) (hQ _ _ _ hM h)
          · refine L_ps c224 (n := 2) (pc1 := 63) (ls1 := [jR i1, jR i2]) (st1 := [jI 1]) rfl ?_
            exact E_retZ (c224 63 rfl) (Or.inr rfl) (hQ _ _ _ hM h)
      · refine L_ps c224 (n := 1) (pc1 := 63) (ls1 := [jR i1, jR i2]) (st1 := [jI 0]) rfl ?_
        exact E_retZ (c224 63 rfl) (Or.inl rfl) (hQ _ _ _ hM h)
theorem k_Lw_match0_j37 {v0 : JV} {v1 : JV} {v2 : JV} {s : LSt} {M : JM} {P : JO → JM → Prop} {Q : Int → LSt → Prop} (hv0 : jnl v0 = true) (hv1 : jnl v1 = true) (hv2 : jnl v2 = true) (hM : R2 s M) (hQ : ∀ (r : Int) (M1 : JM) (s1 : LSt), R2 s1 M1 → Q r s1 → P (.inl (some (.inl r))) M1) (h : d_Lw_match_j37 (d_Lw_match 0) v0 v1 v2 s Q) : JX 215 37 [v0, v1, v2] [] M P := by
  unfold d_Lw_match_j37 at h
  refine E_aldn (c215 37 rfl) rfl hv2 ?_
  show JX 215 38 [v0, v1, v2] [v2] M P
  refine E_aldn (c215 38 rfl) rfl hv0 ?_
  show JX 215 39 [v0, v1, v2] [v0, v2] M P
  obtain ⟨i20, e, h⟩ := cR_of h
  subst e
  refine E_fI (c215 39 rfl) hM (by decide) h (fun z21 h => ?_)
  refine L_ps c215 (n := 2) (pc1 := 45) (ls1 := [jR i20, v1, v2]) (st1 := [jI (wr (z21 - 100)), v2]) rfl ?_
  obtain ⟨i22, e, h⟩ := cR_of h
  subst e
  refine E_rV (c215 45 rfl) hM h (fun x23 hx23 h => ?_)
  refine E_aldn (c215 46 rfl) rfl hv1 ?_
  show JX 215 47 [jR i20, v1, jR i22] [v1, x23] M P
  refine E_cI (pc1 := 50) (c215 47 rfl) (js_t rfl) rfl (k_Lw_same4 hx23 hv1 hM h) (fun r25 M s24 hM h => ?_)
  obtain ⟨hz, h⟩ := h
  exact E_retZ (c215 50 rfl) hz (hQ _ _ _ hM h)
theorem k_Lw_match0 {v0 : JV} {v1 : JV} {v2 : JV} {s : LSt} {M : JM} {Q : Int → LSt → Prop} (hv0 : jnl v0 = true) (hv1 : jnl v1 = true) (hv2 : jnl v2 = true) (hM : R2 s M) (h : d_Lw_match 1 v0 v1 v2 s Q) : JX 215 0 (jargs 215 [v0, v1, v2]) [] M (P2 (QI2 Q)) := by
  have h : d_Lw_match_F (d_Lw_match 0) v0 v1 v2 s Q := h
  unfold d_Lw_match_F at h
  show JX 215 0 [v0, v1, v2] [] M (P2 (QI2 Q))
  generalize hP : P2 (QI2 Q) = P
  have hQ : ∀ (r : Int) (M1 : JM) (s1 : LSt), R2 s1 M1 → Q r s1 → P (.inl (some (.inl r))) M1 := by rw [← hP]; exact fun r M1 s1 a b => ⟨s1, a, r, rfl, b⟩
  clear hP
  refine E_aldn (c215 0 rfl) rfl hv0 ?_
  show JX 215 1 [v0, v1, v2] [v0] M P
  refine E_ifnn (c215 1 rfl) h (fun e h => ?_) (fun i1 e h => ?_)
  · subst e
    refine L_ps c215 (n := 1) (pc1 := 5) (ls1 := [jX .null, v1, v2]) (st1 := [jI 1]) rfl ?_
    exact E_retZ (c215 5 rfl) (Or.inr rfl) (hQ _ _ _ hM h)
  · subst e
    refine L_ps c215 (n := 1) (pc1 := 7) (ls1 := [jR i1, v1, v2]) (st1 := [jR i1]) rfl ?_
    refine E_fI (c215 7 rfl) hM (by decide) h (fun z2 h => ?_)
    refine L_ps c215 (n := 1) (pc1 := 12) (ls1 := [jR i1, v1, v2]) (st1 := [jI 100, jI z2]) rfl ?_
    refine L_br (p1 := 51) (p2 := 15) (c215 12 rfl) rfl jc_lt h (fun h => ?_) (fun h => ?_)
    · refine L_ps c215 (n := 1) (pc1 := 52) (ls1 := [jR i1, v1, v2]) (st1 := [jR i1]) rfl ?_
      refine E_fI (c215 52 rfl) hM (by decide) h (fun z3 h => ?_)
      refine E_aldn (c215 55 rfl) rfl hv1 ?_
      show JX 215 56 [jR i1, v1, v2] [v1, jI z3] M P
      obtain ⟨i4, e, h⟩ := cR_of h
      subst e
      refine E_fI (c215 56 rfl) hM (by decide) h (fun z5 h => ?_)
      refine L_nb (p1 := 96) (p2 := 62) (c215 59 rfl) rfl jc_ne h (fun h => ?_) (fun h => ?_)
      · refine L_ps c215 (n := 1) (pc1 := 63) (ls1 := [jR i1, jR i4, v2]) (st1 := [jR i1]) rfl ?_
        refine E_fV (c215 63 rfl) hM (by decide) h (fun x6 hx6 h => ?_)
        refine L_ps c215 (n := 1) (pc1 := 67) (ls1 := [jR i1, jR i4, v2]) (st1 := [jR i4, x6]) rfl ?_
        refine E_fV (c215 67 rfl) hM (by decide) h (fun x7 hx7 h => ?_)
        refine E_aldn (c215 70 rfl) rfl hv2 ?_
        show JX 215 71 [jR i1, jR i4, v2] [v2, x7, x6] M P
        exact False.elim h
      · refine L_ps c215 (n := 1) (pc1 := 97) (ls1 := [jR i1, jR i4, v2]) (st1 := [jI 0]) rfl ?_
        exact E_retZ (c215 97 rfl) (Or.inl rfl) (hQ _ _ _ hM h)
    · refine E_aldn (c215 15 rfl) rfl hv2 ?_
      show JX 215 16 [jR i1, v1, v2] [v2] M P
      refine L_ps c215 (n := 1) (pc1 := 17) (ls1 := [jR i1, v1, v2]) (st1 := [jR i1, v2]) rfl ?_
      refine E_fI (c215 17 rfl) hM (by decide) h (fun z14 h => ?_)
      refine L_ps c215 (n := 2) (pc1 := 23) (ls1 := [jR i1, v1, v2]) (st1 := [jI (wr (z14 - 100)), v2]) rfl ?_
      obtain ⟨i15, e, h⟩ := cR_of h
      subst e
      refine E_rV (c215 23 rfl) hM h (fun x16 hx16 h => ?_)
      refine E_ifnn (c215 24 rfl) h (fun e h => ?_) (fun i17 e h => ?_)
      · subst e
        refine L_ps c215 (n := 2) (pc1 := 29) (ls1 := [jR i1, v1, jR i15]) (st1 := [jR i1, jR i15]) rfl ?_
        refine E_fI (c215 29 rfl) hM (by decide) h (fun z18 h => ?_)
        refine L_ps c215 (n := 2) (pc1 := 35) (ls1 := [jR i1, v1, jR i15]) (st1 := [jI (wr (z18 - 100)), jR i15]) rfl ?_
        refine E_aldn (c215 35 rfl) rfl hv1 ?_
        show JX 215 36 [jR i1, v1, jR i15] [v1, jI (wr (z18 - 100)), jR i15] M P
        refine E_wV (c215 36 rfl) hM h (fun M s19 hM h => ?_)
        exact k_Lw_match0_j37 rfl hv1 rfl hM hQ h
      · subst e
        exact k_Lw_match0_j37 rfl hv1 rfl hM hQ h
