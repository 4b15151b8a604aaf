/-! that the printed tables do what the texts say, 4 -/
theorem k_Lw_match1_j37 {v0 : JV} {v1 : JV} {v2 : JV} {s : LSt} {M : JM} {P : JO → JM → Prop} {Q : Int → LSt → Prop} (hv0 : jnl v0 = true) (hv1 : jnl v1 = true) (hv2 : jnl v2 = true) (hM : R2 s M) (hQ : ∀ (r : Int) (M1 : JM) (s1 : LSt), R2 s1 M1 → Q r s1 → P (.inl (some (.inl r))) M1) (h : d_Lw_match_j37 (d_Lw_match 1) v0 v1 v2 s Q) : JX 216 37 [v0, v1, v2] [] M P := by
  unfold d_Lw_match_j37 at h
  refine E_aldn (c216 37 rfl) rfl hv2 ?_
  show JX 216 38 [v0, v1, v2] [v2] M P
  refine E_aldn (c216 38 rfl) rfl hv0 ?_
  show JX 216 39 [v0, v1, v2] [v0, v2] M P
  obtain ⟨i20, e, h⟩ := cR_of h
  subst e
  refine E_fI (c216 39 rfl) hM (by decide) h (fun z21 h => ?_)
  refine L_ps c216 (n := 2) (pc1 := 45) (ls1 := [jR i20, v1, v2]) (st1 := [jI (wr (z21 - 100)), v2]) rfl ?_
  obtain ⟨i22, e, h⟩ := cR_of h
  subst e
  refine E_rV (c216 45 rfl) hM h (fun x23 hx23 h => ?_)
  refine E_aldn (c216 46 rfl) rfl hv1 ?_
  show JX 216 47 [jR i20, v1, jR i22] [v1, x23] M P
  refine E_cI (pc1 := 50) (c216 47 rfl) (js_t rfl) rfl (k_Lw_same4 hx23 hv1 hM h) (fun r25 M s24 hM h => ?_)
  obtain ⟨hz, h⟩ := h
  exact E_retZ (c216 50 rfl) hz (hQ _ _ _ hM h)
theorem k_Lw_match1 {v0 : JV} {v1 : JV} {v2 : JV} {s : LSt} {M : JM} {Q : Int → LSt → Prop} (hv0 : jnl v0 = true) (hv1 : jnl v1 = true) (hv2 : jnl v2 = true) (hM : R2 s M) (h : d_Lw_match 2 v0 v1 v2 s Q) : JX 216 0 (jargs 216 [v0, v1, v2]) [] M (P2 (QI2 Q)) := by
  have h : d_Lw_match_F (d_Lw_match 1) v0 v1 v2 s Q := h
  unfold d_Lw_match_F at h
  show JX 216 0 [v0, v1, v2] [] M (P2 (QI2 Q))
  generalize hP : P2 (QI2 Q) = P
  have hQ : ∀ (r : Int) (M1 : JM) (s1 : LSt), R2 s1 M1 → Q r s1 → P (.inl (some (.inl r))) M1 := by rw [← hP]; exact fun r M1 s1 a b => ⟨s1, a, r, rfl, b⟩
  clear hP
  refine E_aldn (c216 0 rfl) rfl hv0 ?_
  show JX 216 1 [v0, v1, v2] [v0] M P
  refine E_ifnn (c216 1 rfl) h (fun e h => ?_) (fun i1 e h => ?_)
  · subst e
    refine L_ps c216 (n := 1) (pc1 := 5) (ls1 := [jX .null, v1, v2]) (st1 := [jI 1]) rfl ?_
    exact E_retZ (c216 5 rfl) (Or.inr rfl) (hQ _ _ _ hM h)
  · subst e
    refine L_ps c216 (n := 1) (pc1 := 7) (ls1 := [jR i1, v1, v2]) (st1 := [jR i1]) rfl ?_
    refine E_fI (c216 7 rfl) hM (by decide) h (fun z2 h => ?_)
    refine L_ps c216 (n := 1) (pc1 := 12) (ls1 := [jR i1, v1, v2]) (st1 := [jI 100, jI z2]) rfl ?_
    refine L_br (p1 := 51) (p2 := 15) (c216 12 rfl) rfl jc_lt h (fun h => ?_) (fun h => ?_)
    · refine L_ps c216 (n := 1) (pc1 := 52) (ls1 := [jR i1, v1, v2]) (st1 := [jR i1]) rfl ?_
      refine E_fI (c216 52 rfl) hM (by decide) h (fun z3 h => ?_)
      refine E_aldn (c216 55 rfl) rfl hv1 ?_
      show JX 216 56 [jR i1, v1, v2] [v1, jI z3] M P
      obtain ⟨i4, e, h⟩ := cR_of h
      subst e
      refine E_fI (c216 56 rfl) hM (by decide) h (fun z5 h => ?_)
      refine L_nb (p1 := 96) (p2 := 62) (c216 59 rfl) rfl jc_ne h (fun h => ?_) (fun h => ?_)
      · refine L_ps c216 (n := 1) (pc1 := 63) (ls1 := [jR i1, jR i4, v2]) (st1 := [jR i1]) rfl ?_
        refine E_fV (c216 63 rfl) hM (by decide) h (fun x6 hx6 h => ?_)
        refine L_ps c216 (n := 1) (pc1 := 67) (ls1 := [jR i1, jR i4, v2]) (st1 := [jR i4, x6]) rfl ?_
        refine E_fV (c216 67 rfl) hM (by decide) h (fun x7 hx7 h => ?_)
        refine E_aldn (c216 70 rfl) rfl hv2 ?_
        show JX 216 71 [jR i1, jR i4, v2] [v2, x7, x6] M P
        refine E_cI (pc1 := 74) (c216 71 rfl) (js_t rfl) rfl (k_Lw_match0 hx6 hx7 hv2 hM h) (fun r9 M s8 hM h => ?_)
        refine L_br (p1 := 96) (p2 := 77) (c216 74 rfl) rfl jc_eq h (fun h => ?_) (fun h => ?_)
        · refine L_ps c216 (n := 1) (pc1 := 97) (ls1 := [jR i1, jR i4, v2]) (st1 := [jI 0]) rfl ?_
          exact E_retZ (c216 97 rfl) (Or.inl rfl) (hQ _ _ _ hM h)
        · refine L_ps c216 (n := 1) (pc1 := 78) (ls1 := [jR i1, jR i4, v2]) (st1 := [jR i1]) rfl ?_
          refine E_fV (c216 78 rfl) hM (by decide) h (fun x10 hx10 h => ?_)
          refine L_ps c216 (n := 1) (pc1 := 82) (ls1 := [jR i1, jR i4, v2]) (st1 := [jR i4, x10]) rfl ?_
          refine E_fV (c216 82 rfl) hM (by decide) h (fun x11 hx11 h => ?_)
          refine E_aldn (c216 85 rfl) rfl hv2 ?_
          show JX 216 86 [jR i1, jR i4, v2] [v2, x11, x10] M P
          refine E_cI (pc1 := 89) (c216 86 rfl) (js_t rfl) rfl (k_Lw_match0 hx10 hx11 hv2 hM h) (fun r13 M s12 hM h => ?_)
          refine L_br (p1 := 96) (p2 := 92) (c216 89 rfl) rfl jc_eq h (fun h => ?_) (fun h => ?_)
          · refine L_ps c216 (n := 1) (pc1 := 97) (ls1 := [jR i1, jR i4, v2]) (st1 := [jI 0]) rfl ?_
            exact E_retZ (c216 97 rfl) (Or.inl rfl) (hQ _ _ _ hM h)
          · refine L_ps c216 (n := 2) (pc1 := 97) (ls1 := [jR i1, jR i4, v2]) (st1 := [jI 1]) rfl ?_
            exact E_retZ (c216 97 rfl) (Or.inr rfl) (hQ _ _ _ hM h)
      · refine L_ps c216 (n := 1) (pc1 := 97) (ls1 := [jR i1, jR i4, v2]) (st1 := [jI 0]) rfl ?_
        exact E_retZ (c216 97 rfl) (Or.inl rfl) (hQ _ _ _ hM h)
    · refine E_aldn (c216 15 rfl) rfl hv2 ?_
      show JX 216 16 [jR i1, v1, v2] [v2] M P
      refine L_ps c216 (n := 1) (pc1 := 17) (ls1 := [jR i1, v1, v2]) (st1 := [jR i1, v2]) rfl ?_
      refine E_fI (c216 17 rfl) hM (by decide) h (fun z14 h => ?_)
      refine L_ps c216 (n := 2) (pc1 := 23) (ls1 := [jR i1, v1, v2]) (st1 := [jI (wr (z14 - 100)), v2]) rfl ?_
      obtain ⟨i15, e, h⟩ := cR_of h
      subst e
      refine E_rV (c216 23 rfl) hM h (fun x16 hx16 h => ?_)
      refine E_ifnn (c216 24 rfl) h (fun e h => ?_) (fun i17 e h => ?_)
      · subst e
        refine L_ps c216 (n := 2) (pc1 := 29) (ls1 := [jR i1, v1, jR i15]) (st1 := [jR i1, jR i15]) rfl ?_
        refine E_fI (c216 29 rfl) hM (by decide) h (fun z18 h => ?_)
        refine L_ps c216 (n := 2) (pc1 := 35) (ls1 := [jR i1, v1, jR i15]) (st1 := [jI (wr (z18 - 100)), jR i15]) rfl ?_
        refine E_aldn (c216 35 rfl) rfl hv1 ?_
        show JX 216 36 [jR i1, v1, jR i15] [v1, jI (wr (z18 - 100)), jR i15] M P
        refine E_wV (c216 36 rfl) hM h (fun M s19 hM h => ?_)
        exact k_Lw_match1_j37 rfl hv1 rfl hM hQ h
      · subst e
        exact k_Lw_match1_j37 rfl hv1 rfl hM hQ h
theorem k_Lw_match2_j37 {v0 : JV} {v1 : JV} {v2 : JV} {s : LSt} {M : JM} {P : JO → JM → Prop} {Q : Int → LSt → Prop} (hv0 : jnl v0 = true) (hv1 : jnl v1 = true) (hv2 : jnl v2 = true) (hM : R2 s M) (hQ : ∀ (r : Int) (M1 : JM) (s1 : LSt), R2 s1 M1 → Q r s1 → P (.inl (some (.inl r))) M1) (h : d_Lw_match_j37 (d_Lw_match 2) v0 v1 v2 s Q) : JX 217 37 [v0, v1, v2] [] M P := by
  unfold d_Lw_match_j37 at h
  refine E_aldn (c217 37 rfl) rfl hv2 ?_
  show JX 217 38 [v0, v1, v2] [v2] M P
  refine E_aldn (c217 38 rfl) rfl hv0 ?_
  show JX 217 39 [v0, v1, v2] [v0, v2] M P
  obtain ⟨i20, e, h⟩ := cR_of h
  subst e
  refine E_fI (c217 39 rfl) hM (by decide) h (fun z21 h => ?_)
  refine L_ps c217 (n := 2) (pc1 := 45) (ls1 := [jR i20, v1, v2]) (st1 := [jI (wr (z21 - 100)), v2]) rfl ?_
  obtain ⟨i22, e, h⟩ := cR_of h
  subst e
  refine E_rV (c217 45 rfl) hM h (fun x23 hx23 h => ?_)
  refine E_aldn (c217 46 rfl) rfl hv1 ?_
  show JX 217 47 [jR i20, v1, jR i22] [v1, x23] M P
  refine E_cI (pc1 := 50) (c217 47 rfl) (js_t rfl) rfl (k_Lw_same4 hx23 hv1 hM h) (fun r25 M s24 hM h => ?_)
  obtain ⟨hz, h⟩ := h
  exact E_retZ (c217 50 rfl) hz (hQ _ _ _ hM h)
theorem k_Lw_match2 {v0 : JV} {v1 : JV} {v2 : JV} {s : LSt} {M : JM} {Q : Int → LSt → Prop} (hv0 : jnl v0 = true) (hv1 : jnl v1 = true) (hv2 : jnl v2 = true) (hM : R2 s M) (h : d_Lw_match 3 v0 v1 v2 s Q) : JX 217 0 (jargs 217 [v0, v1, v2]) [] M (P2 (QI2 Q)) := by
  have h : d_Lw_match_F (d_Lw_match 2) v0 v1 v2 s Q := h
  unfold d_Lw_match_F at h
  show JX 217 0 [v0, v1, v2] [] M (P2 (QI2 Q))
  generalize hP : P2 (QI2 Q) = P
  have hQ : ∀ (r : Int) (M1 : JM) (s1 : LSt), R2 s1 M1 → Q r s1 → P (.inl (some (.inl r))) M1 := by rw [← hP]; exact fun r M1 s1 a b => ⟨s1, a, r, rfl, b⟩
  clear hP
  refine E_aldn (c217 0 rfl) rfl hv0 ?_
  show JX 217 1 [v0, v1, v2] [v0] M P
  refine E_ifnn (c217 1 rfl) h (fun e h => ?_) (fun i1 e h => ?_)
  · subst e
    refine L_ps c217 (n := 1) (pc1 := 5) (ls1 := [jX .null, v1, v2]) (st1 := [jI 1]) rfl ?_
    exact E_retZ (c217 5 rfl) (Or.inr rfl) (hQ _ _ _ hM h)
  · subst e
    refine L_ps c217 (n := 1) (pc1 := 7) (ls1 := [jR i1, v1, v2]) (st1 := [jR i1]) rfl ?_
    refine E_fI (c217 7 rfl) hM (by decide) h (fun z2 h => ?_)
    refine L_ps c217 (n := 1) (pc1 := 12) (ls1 := [jR i1, v1, v2]) (st1 := [jI 100, jI z2]) rfl ?_
    refine L_br (p1 := 51) (p2 := 15) (c217 12 rfl) rfl jc_lt h (fun h => ?_) (fun h => ?_)
    · refine L_ps c217 (n := 1) (pc1 := 52) (ls1 := [jR i1, v1, v2]) (st1 := [jR i1]) rfl ?_
      refine E_fI (c217 52 rfl) hM (by decide) h (fun z3 h => ?_)
      refine E_aldn (c217 55 rfl) rfl hv1 ?_
      show JX 217 56 [jR i1, v1, v2] [v1, jI z3] M P
      obtain ⟨i4, e, h⟩ := cR_of h
      subst e
      refine E_fI (c217 56 rfl) hM (by decide) h (fun z5 h => ?_)
      refine L_nb (p1 := 96) (p2 := 62) (c217 59 rfl) rfl jc_ne h (fun h => ?_) (fun h => ?_)
      · refine L_ps c217 (n := 1) (pc1 := 63) (ls1 := [jR i1, jR i4, v2]) (st1 := [jR i1]) rfl ?_
        refine E_fV (c217 63 rfl) hM (by decide) h (fun x6 hx6 h => ?_)
        refine L_ps c217 (n := 1) (pc1 := 67) (ls1 := [jR i1, jR i4, v2]) (st1 := [jR i4, x6]) rfl ?_
        refine E_fV (c217 67 rfl) hM (by decide) h (fun x7 hx7 h => ?_)
        refine E_aldn (c217 70 rfl) rfl hv2 ?_
        show JX 217 71 [jR i1, jR i4, v2] [v2, x7, x6] M P
        refine E_cI (pc1 := 74) (c217 71 rfl) (js_t rfl) rfl (k_Lw_match1 hx6 hx7 hv2 hM h) (fun r9 M s8 hM h => ?_)
        refine L_br (p1 := 96) (p2 := 77) (c217 74 rfl) rfl jc_eq h (fun h => ?_) (fun h => ?_)
        · refine L_ps c217 (n := 1) (pc1 := 97) (ls1 := [jR i1, jR i4, v2]) (st1 := [jI 0]) rfl ?_
          exact E_retZ (c217 97 rfl) (Or.inl rfl) (hQ _ _ _ hM h)
        · refine L_ps c217 (n := 1) (pc1 := 78) (ls1 := [jR i1, jR i4, v2]) (st1 := [jR i1]) rfl ?_
          refine E_fV (c217 78 rfl) hM (by decide) h (fun x10 hx10 h => ?_)
          refine L_ps c217 (n := 1) (pc1 := 82) (ls1 := [jR i1, jR i4, v2]) (st1 := [jR i4, x10]) rfl ?_
          refine E_fV (c217 82 rfl) hM (by decide) h (fun x11 hx11 h => ?_)
          refine E_aldn (c217 85 rfl) rfl hv2 ?_
          show JX 217 86 [jR i1, jR i4, v2] [v2, x11, x10] M P
          refine E_cI (pc1 := 89) (c217 86 rfl) (js_t rfl) rfl (k_Lw_match1 hx10 hx11 hv2 hM h) (fun r13 M s12 hM h => ?_)
          refine L_br (p1 := 96) (p2 := 92) (c217 89 rfl) rfl jc_eq h (fun h => ?_) (fun h => ?_)
          · refine L_ps c217 (n := 1) (pc1 := 97) (ls1 := [jR i1, jR i4, v2]) (st1 := [jI 0]) rfl ?_
            exact E_retZ (c217 97 rfl) (Or.inl rfl) (hQ _ _ _ hM h)
          · refine L_ps c217 (n := 2) (pc1 := 97) (ls1 := [jR i1, jR i4, v2]) (st1 := [jI 1]) rfl ?_
            exact E_retZ (c217 97 rfl) (Or.inr rfl) (hQ _ _ _ hM h)
      · refine L_ps c217 (n := 1) (pc1 := 97) (ls1 := [jR i1, jR i4, v2]) (st1 := [jI 0]) rfl ?_
        exact E_retZ (c217 97 rfl) (Or.inl rfl) (hQ _ _ _ hM h)
    · refine E_aldn (c217 15 rfl) rfl hv2 ?_
      show JX 217 16 [jR i1, v1, v2] [v2] M P
      refine L_ps c217 (n := 1) (pc1 := 17) (ls1 := [jR i1, v1, v2]) (st1 := [jR i1, v2]) rfl ?_
      refine E_fI (c217 17 rfl) hM (by decide) h (fun z14 h => ?_)
      refine L_ps c217 (n := 2) (pc1 := 23) (ls1 := [jR i1, v1, v2]) (st1 := [jI (wr (z14 - 100)), v2]) rfl ?_
      obtain ⟨i15, e, h⟩ := cR_of h
      subst e
      refine E_rV (c217 23 rfl) hM h (fun x16 hx16 h => ?_)
      refine E_ifnn (c217 24 rfl) h (fun e h => ?_) (fun i17 e h => ?_)
      · subst e
        refine L_ps c217 (n := 2) (pc1 := 29) (ls1 := [jR i1, v1, jR i15]) (st1 := [jR i1, jR i15]) rfl ?_
        refine E_fI (c217 29 rfl) hM (by decide) h (fun z18 h => ?_)
        refine L_ps c217 (n := 2) (pc1 := 35) (ls1 := [jR i1, v1, jR i15]) (st1 := [jI (wr (z18 - 100)), jR i15]) rfl ?_
        refine E_aldn (c217 35 rfl) rfl hv1 ?_
        show JX 217 36 [jR i1, v1, jR i15] [v1, jI (wr (z18 - 100)), jR i15] M P
        refine E_wV (c217 36 rfl) hM h (fun M s19 hM h => ?_)
        exact k_Lw_match2_j37 rfl hv1 rfl hM hQ h
      · subst e
        exact k_Lw_match2_j37 rfl hv1 rfl hM hQ h
theorem k_Lw_match3_j37 {v0 : JV} {v1 : JV} {v2 : JV} {s : LSt} {M : JM} {P : JO → JM → Prop} {Q : Int → LSt → Prop} (hv0 : jnl v0 = true) (hv1 : jnl v1 = true) (hv2 : jnl v2 = true) (hM : R2 s M) (hQ : ∀ (r : Int) (M1 : JM) (s1 : LSt), R2 s1 M1 → Q r s1 → P (.inl (some (.inl r))) M1) (h : d_Lw_match_j37 (d_Lw_match 3) v0 v1 v2 s Q) : JX 218 37 [v0, v1, v2] [] M P := by
  unfold d_Lw_match_j37 at h
  refine E_aldn (c218 37 rfl) rfl hv2 ?_
  show JX 218 38 [v0, v1, v2] [v2] M P
  refine E_aldn (c218 38 rfl) rfl hv0 ?_
  show JX 218 39 [v0, v1, v2] [v0, v2] M P
  obtain ⟨i20, e, h⟩ := cR_of h
  subst e
  refine E_fI (c218 39 rfl) hM (by decide) h (fun z21 h => ?_)
  refine L_ps c218 (n := 2) (pc1 := 45) (ls1 := [jR i20, v1, v2]) (st1 := [jI (wr (z21 - 100)), v2]) rfl ?_
  obtain ⟨i22, e, h⟩ := cR_of h
  subst e
  refine E_rV (c218 45 rfl) hM h (fun x23 hx23 h => ?_)
  refine E_aldn (c218 46 rfl) rfl hv1 ?_
  show JX 218 47 [jR i20, v1, jR i22] [v1, x23] M P
  refine E_cI (pc1 := 50) (c218 47 rfl) (js_t rfl) rfl (k_Lw_same4 hx23 hv1 hM h) (fun r25 M s24 hM h => ?_)
  obtain ⟨hz, h⟩ := h
  exact E_retZ (c218 50 rfl) hz (hQ _ _ _ hM h)
theorem k_Lw_match3 {v0 : JV} {v1 : JV} {v2 : JV} {s : LSt} {M : JM} {Q : Int → LSt → Prop} (hv0 : jnl v0 = true) (hv1 : jnl v1 = true) (hv2 : jnl v2 = true) (hM : R2 s M) (h : d_Lw_match 4 v0 v1 v2 s Q) : JX 218 0 (jargs 218 [v0, v1, v2]) [] M (P2 (QI2 Q)) := by
  have h : d_Lw_match_F (d_Lw_match 3) v0 v1 v2 s Q := h
  unfold d_Lw_match_F at h
  show JX 218 0 [v0, v1, v2] [] M (P2 (QI2 Q))
  generalize hP : P2 (QI2 Q) = P
  have hQ : ∀ (r : Int) (M1 : JM) (s1 : LSt), R2 s1 M1 → Q r s1 → P (.inl (some (.inl r))) M1 := by rw [← hP]; exact fun r M1 s1 a b => ⟨s1, a, r, rfl, b⟩
  clear hP
  refine E_aldn (c218 0 rfl) rfl hv0 ?_
  show JX 218 1 [v0, v1, v2] [v0] M P
  refine E_ifnn (c218 1 rfl) h (fun e h => ?_) (fun i1 e h => ?_)
  · subst e
    refine L_ps c218 (n := 1) (pc1 := 5) (ls1 := [jX .null, v1, v2]) (st1 := [jI 1]) rfl ?_
    exact E_retZ (c218 5 rfl) (Or.inr rfl) (hQ _ _ _ hM h)
  · subst e
    refine L_ps c218 (n := 1) (pc1 := 7) (ls1 := [jR i1, v1, v2]) (st1 := [jR i1]) rfl ?_
    refine E_fI (c218 7 rfl) hM (by decide) h (fun z2 h => ?_)
    refine L_ps c218 (n := 1) (pc1 := 12) (ls1 := [jR i1, v1, v2]) (st1 := [jI 100, jI z2]) rfl ?_
    refine L_br (p1 := 51) (p2 := 15) (c218 12 rfl) rfl jc_lt h (fun h => ?_) (fun h => ?_)
    · refine L_ps c218 (n := 1) (pc1 := 52) (ls1 := [jR i1, v1, v2]) (st1 := [jR i1]) rfl ?_
      refine E_fI (c218 52 rfl) hM (by decide) h (fun z3 h => ?_)
      refine E_aldn (c218 55 rfl) rfl hv1 ?_
      show JX 218 56 [jR i1, v1, v2] [v1, jI z3] M P
      obtain ⟨i4, e, h⟩ := cR_of h
      subst e
      refine E_fI (c218 56 rfl) hM (by decide) h (fun z5 h => ?_)
      refine L_nb (p1 := 96) (p2 := 62) (c218 59 rfl) rfl jc_ne h (fun h => ?_) (fun h => ?_)
      · refine L_ps c218 (n := 1) (pc1 := 63) (ls1 := [jR i1, jR i4, v2]) (st1 := [jR i1]) rfl ?_
        refine E_fV (c218 63 rfl) hM (by decide) h (fun x6 hx6 h => ?_)
        refine L_ps c218 (n := 1) (pc1 := 67) (ls1 := [jR i1, jR i4, v2]) (st1 := [jR i4, x6]) rfl ?_
        refine E_fV (c218 67 rfl) hM (by decide) h (fun x7 hx7 h => ?_)
        refine E_aldn (c218 70 rfl) rfl hv2 ?_
        show JX 218 71 [jR i1, jR i4, v2] [v2, x7, x6] M P
        refine E_cI (pc1 := 74) (c218 71 rfl) (js_t rfl) rfl (k_Lw_match2 hx6 hx7 hv2 hM h) (fun r9 M s8 hM h => ?_)
        refine L_br (p1 := 96) (p2 := 77) (c218 74 rfl) rfl jc_eq h (fun h => ?_) (fun h => ?_)
        · refine L_ps c218 (n := 1) (pc1 := 97) (ls1 := [jR i1, jR i4, v2]) (st1 := [jI 0]) rfl ?_
          exact E_retZ (c218 97 rfl) (Or.inl rfl) (hQ _ _ _ hM h)
        · refine L_ps c218 (n := 1) (pc1 := 78) (ls1 := [jR i1, jR i4, v2]) (st1 := [jR i1]) rfl ?_
          refine E_fV (c218 78 rfl) hM (by decide) h (fun x10 hx10 h => ?_)
          refine L_ps c218 (n := 1) (pc1 := 82) (ls1 := [jR i1, jR i4, v2]) (st1 := [jR i4, x10]) rfl ?_
          refine E_fV (c218 82 rfl) hM (by decide) h (fun x11 hx11 h => ?_)
          refine E_aldn (c218 85 rfl) rfl hv2 ?_
          show JX 218 86 [jR i1, jR i4, v2] [v2, x11, x10] M P
          refine E_cI (pc1 := 89) (c218 86 rfl) (js_t rfl) rfl (k_Lw_match2 hx10 hx11 hv2 hM h) (fun r13 M s12 hM h => ?_)
          refine L_br (p1 := 96) (p2 := 92) (c218 89 rfl) rfl jc_eq h (fun h => ?_) (fun h => ?_)
          · refine L_ps c218 (n := 1) (pc1 := 97) (ls1 := [jR i1, jR i4, v2]) (st1 := [jI 0]) rfl ?_
            exact E_retZ (c218 97 rfl) (Or.inl rfl) (hQ _ _ _ hM h)
          · refine L_ps c218 (n := 2) (pc1 := 97) (ls1 := [jR i1, jR i4, v2]) (st1 := [jI 1]) rfl ?_
            exact E_retZ (c218 97 rfl) (Or.inr rfl) (hQ _ _ _ hM h)
      · refine L_ps c218 (n := 1) (pc1 := 97) (ls1 := [jR i1, jR i4, v2]) (st1 := [jI 0]) rfl ?_
        exact E_retZ (c218 97 rfl) (Or.inl rfl) (hQ _ _ _ hM h)
    · refine E_aldn (c218 15 rfl) rfl hv2 ?_
      show JX 218 16 [jR i1, v1, v2] [v2] M P
      refine L_ps c218 (n := 1) (pc1 := 17) (ls1 := [jR i1, v1, v2]) (st1 := [jR i1, v2]) rfl ?_
      refine E_fI (c218 17 rfl) hM (by decide) h (fun z14 h => ?_)
      refine L_ps c218 (n := 2) (pc1 := 23) (ls1 := [jR i1, v1, v2]) (st1 := [jI (wr (z14 - 100)), v2]) rfl ?_
      obtain ⟨i15, e, h⟩ := cR_of h
      subst e
      refine E_rV (c218 23 rfl) hM h (fun x16 hx16 h => ?_)
      refine E_ifnn (c218 24 rfl) h (fun e h => ?_) (fun i17 e h => ?_)
      · subst e
        refine L_ps c218 (n := 2) (pc1 := 29) (ls1 := [jR i1, v1, jR i15]) (st1 := [jR i1, jR i15]) rfl ?_
        refine E_fI (c218 29 rfl) hM (by decide) h (fun z18 h => ?_)
        refine L_ps c218 (n := 2) (pc1 := 35) (ls1 := [jR i1, v1, jR i15]) (st1 := [jI (wr (z18 - 100)), jR i15]) rfl ?_
        refine E_aldn (c218 35 rfl) rfl hv1 ?_
        show JX 218 36 [jR i1, v1, jR i15] [v1, jI (wr (z18 - 100)), jR i15] M P
        refine E_wV (c218 36 rfl) hM h (fun M s19 hM h => ?_)
        exact k_Lw_match3_j37 rfl hv1 rfl hM hQ h
      · subst e
        exact k_Lw_match3_j37 rfl hv1 rfl hM hQ h
theorem k_Lw_match4_j37 {v0 : JV} {v1 : JV} {v2 : JV} {s : LSt} {M : JM} {P : JO → JM → Prop} {Q : Int → LSt → Prop} (hv0 : jnl v0 = true) (hv1 : jnl v1 = true) (hv2 : jnl v2 = true) (hM : R2 s M) (hQ : ∀ (r : Int) (M1 : JM) (s1 : LSt), R2 s1 M1 → Q r s1 → P (.inl (some (.inl r))) M1) (h : d_Lw_match_j37 (d_Lw_match 4) v0 v1 v2 s Q) : JX 219 37 [v0, v1, v2] [] M P := by
  unfold d_Lw_match_j37 at h
  refine E_aldn (c219 37 rfl) rfl hv2 ?_
  show JX 219 38 [v0, v1, v2] [v2] M P
  refine E_aldn (c219 38 rfl) rfl hv0 ?_
  show JX 219 39 [v0, v1, v2] [v0, v2] M P
  obtain ⟨i20, e, h⟩ := cR_of h
  subst e
  refine E_fI (c219 39 rfl) hM (by decide) h (fun z21 h => ?_)
  refine L_ps c219 (n := 2) (pc1 := 45) (ls1 := [jR i20, v1, v2]) (st1 := [jI (wr (z21 - 100)), v2]) rfl ?_
  obtain ⟨i22, e, h⟩ := cR_of h
  subst e
  refine E_rV (c219 45 rfl) hM h (fun x23 hx23 h => ?_)
  refine E_aldn (c219 46 rfl) rfl hv1 ?_
  show JX 219 47 [jR i20, v1, jR i22] [v1, x23] M P
  refine E_cI (pc1 := 50) (c219 47 rfl) (js_t rfl) rfl (k_Lw_same4 hx23 hv1 hM h) (fun r25 M s24 hM h => ?_)
  obtain ⟨hz, h⟩ := h
  exact E_retZ (c219 50 rfl) hz (hQ _ _ _ hM h)
theorem k_Lw_match4 {v0 : JV} {v1 : JV} {v2 : JV} {s : LSt} {M : JM} {Q : Int → LSt → Prop} (hv0 : jnl v0 = true) (hv1 : jnl v1 = true) (hv2 : jnl v2 = true) (hM : R2 s M) (h : d_Lw_match 5 v0 v1 v2 s Q) : JX 219 0 (jargs 219 [v0, v1, v2]) [] M (P2 (QI2 Q)) := by
  have h : d_Lw_match_F (d_Lw_match 4) v0 v1 v2 s Q := h
  unfold d_Lw_match_F at h
  show JX 219 0 [v0, v1, v2] [] M (P2 (QI2 Q))
  generalize hP : P2 (QI2 Q) = P
  have hQ : ∀ (r : Int) (M1 : JM) (s1 : LSt), R2 s1 M1 → Q r s1 → P (.inl (some (.inl r))) M1 := by rw [← hP]; exact fun r M1 s1 a b => ⟨s1, a, r, rfl, b⟩
  clear hP
  refine E_aldn (c219 0 rfl) rfl hv0 ?_
  show JX 219 1 [v0, v1, v2] [v0] M P
  refine E_ifnn (c219 1 rfl) h (fun e h => ?_) (fun i1 e h => ?_)
  · subst e
    refine L_ps c219 (n := 1) (pc1 := 5) (ls1 := [jX .null, v1, v2]) (st1 := [jI 1]) rfl ?_
    exact E_retZ (c219 5 rfl) (Or.inr rfl) (hQ _ _ _ hM h)
  · subst e
    refine L_ps c219 (n := 1) (pc1 := 7) (ls1 := [jR i1, v1, v2]) (st1 := [jR i1]) rfl ?_
    refine E_fI (c219 7 rfl) hM (by decide) h (fun z2 h => ?_)
    refine L_ps c219 (n := 1) (pc1 := 12) (ls1 := [jR i1, v1, v2]) (st1 := [jI 100, jI z2]) rfl ?_
    refine L_br (p1 := 51) (p2 := 15) (c219 12 rfl) rfl jc_lt h (fun h => ?_) (fun h => ?_)
    · refine L_ps c219 (n := 1) (pc1 := 52) (ls1 := [jR i1, v1, v2]) (st1 := [jR i1]) rfl ?_
      refine E_fI (c219 52 rfl) hM (by decide) h (fun z3 h => ?_)
      refine E_aldn (c219 55 rfl) rfl hv1 ?_
      show JX 219 56 [jR i1, v1, v2] [v1, jI z3] M P
      obtain ⟨i4, e, h⟩ := cR_of h
      subst e
      refine E_fI (c219 56 rfl) hM (by decide) h (fun z5 h => ?_)
      refine L_nb (p1 := 96) (p2 := 62) (c219 59 rfl) rfl jc_ne h (fun h => ?_) (fun h => ?_)
      · refine L_ps c219 (n := 1) (pc1 := 63) (ls1 := [jR i1, jR i4, v2]) (st1 := [jR i1]) rfl ?_
        refine E_fV (c219 63 rfl) hM (by decide) h (fun x6 hx6 h => ?_)
        refine L_ps c219 (n := 1) (pc1 := 67) (ls1 := [jR i1, jR i4, v2]) (st1 := [jR i4, x6]) rfl ?_
        refine E_fV (c219 67 rfl) hM (by decide) h (fun x7 hx7 h => ?_)
        refine E_aldn (c219 70 rfl) rfl hv2 ?_
        show JX 219 71 [jR i1, jR i4, v2] [v2, x7, x6] M P
        refine E_cI (pc1 := 74) (c219 71 rfl) (js_t rfl) rfl (k_Lw_match3 hx6 hx7 hv2 hM h) (fun r9 M s8 hM h => ?_)
        refine L_br (p1 := 96) (p2 := 77) (c219 74 rfl) rfl jc_eq h (fun h => ?_) (fun h => ?_)
        · refine L_ps c219 (n := 1) (pc1 := 97) (ls1 := [jR i1, jR i4, v2]) (st1 := [jI 0]) rfl ?_
          exact E_retZ (c219 97 rfl) (Or.inl rfl) (hQ _ _ _ hM h)
        · refine L_ps c219 (n := 1) (pc1 := 78) (ls1 := [jR i1, jR i4, v2]) (st1 := [jR i1]) rfl ?_
          refine E_fV (c219 78 rfl) hM (by decide) h (fun x10 hx10 h => ?_)
          refine L_ps c219 (n := 1) (pc1 := 82) (ls1 := [jR i1, jR i4, v2]) (st1 := [jR i4, x10]) rfl ?_
          refine E_fV (c219 82 rfl) hM (by decide) h (fun x11 hx11 h => ?_)
          refine E_aldn (c219 85 rfl) rfl hv2 ?_
          show JX 219 86 [jR i1, jR i4, v2] [v2, x11, x10] M P
          refine E_cI (pc1 := 89) (c219 86 rfl) (js_t rfl) rfl (k_Lw_match3 hx10 hx11 hv2 hM h) (fun r13 M s12 hM h => ?_)
          refine L_br (p1 := 96) (p2 := 92) (c219 89 rfl) rfl jc_eq h (fun h => ?_) (fun h => ?_)
          · refine L_ps c219 (n := 1) (pc1 := 97) (ls1 := [jR i1, jR i4, v2]) (st1 := [jI 0]) rfl ?_
            exact E_retZ (c219 97 rfl) (Or.inl rfl) (hQ _ _ _ hM h)
          · refine L_ps c219 (n := 2) (pc1 := 97) (ls1 := [jR i1, jR i4, v2]) (st1 := [jI 1]) rfl ?_
            exact E_retZ (c219 97 rfl) (Or.inr rfl) (hQ _ _ _ hM h)
      · refine L_ps c219 (n := 1) (pc1 := 97) (ls1 := [jR i1, jR i4, v2]) (st1 := [jI 0]) rfl ?_
        exact E_retZ (c219 97 rfl) (Or.inl rfl) (hQ _ _ _ hM h)
    · refine E_aldn (c219 15 rfl) rfl hv2 ?_
      show JX 219 16 [jR i1, v1, v2] [v2] M P
      refine L_ps c219 (n := 1) (pc1 := 17) (ls1 := [jR i1, v1, v2]) (st1 := [jR i1, v2]) rfl ?_
      refine E_fI (c219 17 rfl) hM (by decide) h (fun z14 h => ?_)
      refine L_ps c219 (n := 2) (pc1 := 23) (ls1 := [jR i1, v1, v2]) (st1 := [jI (wr (z14 - 100)), v2]) rfl ?_
      obtain ⟨i15, e, h⟩ := cR_of h
      subst e
      refine E_rV (c219 23 rfl) hM h (fun x16 hx16 h => ?_)
      refine E_ifnn (c219 24 rfl) h (fun e h => ?_) (fun i17 e h => ?_)
      · subst e
        refine L_ps c219 (n := 2) (pc1 := 29) (ls1 := [jR i1, v1, jR i15]) (st1 := [jR i1, jR i15]) rfl ?_
        refine E_fI (c219 29 rfl) hM (by decide) h (fun z18 h => ?_)
        refine L_ps c219 (n := 2) (pc1 := 35) (ls1 := [jR i1, v1, jR i15]) (st1 := [jI (wr (z18 - 100)), jR i15]) rfl ?_
        refine E_aldn (c219 35 rfl) rfl hv1 ?_
        show JX 219 36 [jR i1, v1, jR i15] [v1, jI (wr (z18 - 100)), jR i15] M P
        refine E_wV (c219 36 rfl) hM h (fun M s19 hM h => ?_)
        exact k_Lw_match4_j37 rfl hv1 rfl hM hQ h
      · subst e
        exact k_Lw_match4_j37 rfl hv1 rfl hM hQ h
theorem k_Sys_matches {v0 : JV} {v1 : Int} {v2 : JV} {s : LSt} {M : JM} {Q : Int → LSt → Prop} (hv0 : jnl v0 = true) (hv2 : jnl v2 = true) (hM : R2 s M) (h : d_Sys_matches v0 v1 v2 s Q) : JX 213 0 (jargs 213 [v0, jI v1, v2]) [] M (P2 (QI2 Q)) := by
  unfold d_Sys_matches at h
  show JX 213 0 [v0, jI v1, v2] [] M (P2 (QI2 Q))
  generalize hP : P2 (QI2 Q) = P
  have hQ : ∀ (r : Int) (M1 : JM) (s1 : LSt), R2 s1 M1 → Q r s1 → P (.inl (some (.inl r))) M1 := by rw [← hP]; exact fun r M1 s1 a b => ⟨s1, a, r, rfl, b⟩
  clear hP
  refine E_aldn (c213 0 rfl) rfl hv0 ?_
  show JX 213 1 [v0, jI v1, v2] [v0] M P
  obtain ⟨i1, e, h⟩ := cR_of h
  subst e
  refine E_fV (c213 1 rfl) hM (by decide) h (fun x2 hx2 h => ?_)
  refine L_ps c213 (n := 1) (pc1 := 5) (ls1 := [jR i1, jI v1, v2]) (st1 := [jX .null, x2]) rfl ?_
  refine E_cN (pc1 := 8) (c213 5 rfl) (js_t rfl) rfl (k_Arrays_fillO hx2 rfl hM h) (fun M s3 hM h => ?_)
  refine L_ps c213 (n := 1) (pc1 := 9) (ls1 := [jR i1, jI v1, v2]) (st1 := [jR i1]) rfl ?_
  refine E_fV (c213 9 rfl) hM (by decide) h (fun x5 hx5 h => ?_)
  refine L_ps c213 (n := 1) (pc1 := 13) (ls1 := [jR i1, jI v1, v2]) (st1 := [jI v1, x5]) rfl ?_
  obtain ⟨i6, e, h⟩ := cR_of h
  subst e
  obtain ⟨ht, h⟩ := h
  refine E_cV (pc1 := 16) (c213 13 rfl) (js_v rfl ((rcv_tag hM ht).trans jt188)) rfl (k_AL_get rfl hM h) (fun x8 M s7 hM hx8 h => ?_)
  refine E_cT (c213 16 rfl) hM h (fun h => ?_)
  refine L_ps c213 (n := 1) (pc1 := 20) (ls1 := [jR i1, jI v1, v2]) (st1 := [jI 0, x8]) rfl ?_
  obtain ⟨i9, e, h⟩ := cR_of h
  subst e
  refine E_rV (c213 20 rfl) hM h (fun x10 hx10 h => ?_)
  refine E_aldn (c213 21 rfl) rfl hv2 ?_
  show JX 213 22 [jR i1, jI v1, v2] [v2, x10] M P
  refine L_ps c213 (n := 1) (pc1 := 23) (ls1 := [jR i1, jI v1, v2]) (st1 := [jR i1, v2, x10]) rfl ?_
  refine E_fV (c213 23 rfl) hM (by decide) h (fun x11 hx11 h => ?_)
  refine E_cI (pc1 := 29) (c213 26 rfl) (js_t rfl) rfl (k_Lw_match4 hx10 hv2 hx11 hM h) (fun r13 M s12 hM h => ?_)
  obtain ⟨hz, h⟩ := h
  exact E_retZ (c213 29 rfl) hz (hQ _ _ _ hM h)
theorem k_Sys_rule_b2 {v0 : JV} {v1 : JV} {v2 : Int} {s : LSt} {M : JM} {P : JO → JM → Prop} {W2 : Int → LSt → Prop} {Q : Int → LSt → Prop} (hv0 : jnl v0 = true) (hv1 : jnl v1 = true) (hM : R2 s M) (hQ : ∀ (r : Int) (M1 : JM) (s1 : LSt), R2 s1 M1 → Q r s1 → P (.inl (some (.inl r))) M1) (hW2 : ∀ (v2 : Int) (M1 : JM) (s1 : LSt), R2 s1 M1 → W2 v2 s1 → JX 212 2 [v0, v1, jI v2] [] M1 P) (h : d_Sys_rule_b2 v0 v1 v2 s W2 Q) : JX 212 2 [v0, v1, jI v2] [] M P := by
  unfold d_Sys_rule_b2 at h
  refine L_ps c212 (n := 1) (pc1 := 3) (ls1 := [v0, v1, jI v2]) (st1 := [jI v2]) rfl ?_
  refine E_aldn (c212 3 rfl) rfl hv0 ?_
  show JX 212 4 [v0, v1, jI v2] [v0, jI v2] M P
  obtain ⟨i1, e, h⟩ := cR_of h
  subst e
  refine E_fV (c212 4 rfl) hM (by decide) h (fun x2 hx2 h => ?_)
  obtain ⟨i3, e, h⟩ := cR_of h
  subst e
  obtain ⟨ht, h⟩ := h
  refine E_cI (pc1 := 10) (c212 7 rfl) (js_v rfl ((rcv_tag hM ht).trans jt187)) rfl (k_AL_size rfl hM h) (fun r5 M s4 hM h => ?_)
  refine L_nb (p1 := 30) (p2 := 13) (c212 10 rfl) rfl jc_ge h (fun h => ?_) (fun h => ?_)
  · refine L_ps c212 (n := 2) (pc1 := 15) (ls1 := [jR i1, v1, jI v2]) (st1 := [jI v2, jR i1]) rfl ?_
    refine E_aldn (c212 15 rfl) rfl hv1 ?_
    show JX 212 16 [jR i1, v1, jI v2] [v1, jI v2, jR i1] M P
    obtain ⟨ht, h⟩ := h
    refine E_cI (pc1 := 19) (c212 16 rfl) (js_v rfl ((rcv_tag hM ht).trans jt213)) rfl (k_Sys_matches rfl hv1 hM h) (fun r7 M s6 hM h => ?_)
    refine L_br (p1 := 24) (p2 := 22) (c212 19 rfl) rfl jc_eq h (fun h => ?_) (fun h => ?_)
    · refine L_iinc (c212 24 rfl) (jnl_c2 hv1) (Nat.le_of_ble_eq_true rfl) rfl ?_
      show JX 212 27 [jR i1, v1, jI (wr (v2 + 1))] [] M P
      refine L_ps c212 (n := 1) (pc1 := 2) (ls1 := [jR i1, v1, jI (wr (v2 + 1))]) (st1 := []) rfl ?_
      exact hW2 _ _ _ hM h
    · refine L_ps c212 (n := 1) (pc1 := 23) (ls1 := [jR i1, v1, jI v2]) (st1 := [jI v2]) rfl ?_
      exact L_retI (c212 23 rfl) (hQ _ _ _ hM h)
  · refine L_ps c212 (n := 1) (pc1 := 31) (ls1 := [jR i1, v1, jI v2]) (st1 := [jI (-1)]) rfl ?_
    exact L_retI (c212 31 rfl) (hQ _ _ _ hM h)
theorem k_Sys_rule_l2 {v0 : JV} {v1 : JV} {v2 : Int} {s : LSt} {M : JM} {P : JO → JM → Prop} {Q : Int → LSt → Prop} (hv0 : jnl v0 = true) (hv1 : jnl v1 = true) (hM : R2 s M) (hQ : ∀ (r : Int) (M1 : JM) (s1 : LSt), R2 s1 M1 → Q r s1 → P (.inl (some (.inl r))) M1) (h : d_Sys_rule_l2 v0 v1 v2 s Q) : JX 212 2 [v0, v1, jI v2] [] M P := by
  refine h (fun v2 s => ∀ (M : JM), R2 s M → JX 212 2 [v0, v1, jI v2] [] M P) ?_ _ hM
  intro v2 s h M hM
  exact k_Sys_rule_b2 hv0 hv1 hM hQ (fun v2 M s hM h => h M hM) h
theorem k_Sys_rule {v0 : JV} {v1 : JV} {s : LSt} {M : JM} {Q : Int → LSt → Prop} (hv0 : jnl v0 = true) (hv1 : jnl v1 = true) (hM : R2 s M) (h : d_Sys_rule v0 v1 s Q) : JX 212 0 (jargs 212 [v0, v1]) [] M (P2 (QI2 Q)) := by
  unfold d_Sys_rule at h
  show JX 212 0 [v0, v1, jU] [] M (P2 (QI2 Q))
  generalize hP : P2 (QI2 Q) = P
  have hQ : ∀ (r : Int) (M1 : JM) (s1 : LSt), R2 s1 M1 → Q r s1 → P (.inl (some (.inl r))) M1 := by rw [← hP]; exact fun r M1 s1 a b => ⟨s1, a, r, rfl, b⟩
  clear hP
  refine L_ps c212 (n := 1) (pc1 := 1) (ls1 := [v0, v1, jU]) (st1 := [jI 0]) rfl ?_
  refine L_istn (c212 1 rfl) (jnl_c2 hv1) (Nat.le_of_ble_eq_true rfl) ?_
  show JX 212 2 [v0, v1, jI 0] [] M P
  exact k_Sys_rule_l2 hv0 hv1 hM hQ h
theorem k_Sys_inner0 {v0 : JV} {v1 : JV} {s : LSt} {M : JM} {Q : Int → LSt → Prop} (hv0 : jnl v0 = true) (hv1 : jnl v1 = true) (hM : R2 s M) (h : d_Sys_inner 1 v0 v1 s Q) : JX 199 0 (jargs 199 [v0, v1]) [] M (P2 (QI2 Q)) := by
  have h : d_Sys_inner_F (d_Sys_inner 0) v0 v1 s Q := h
  unfold d_Sys_inner_F at h
  show JX 199 0 [v0, v1, jU] [] M (P2 (QI2 Q))
  generalize hP : P2 (QI2 Q) = P
  have hQ : ∀ (r : Int) (M1 : JM) (s1 : LSt), R2 s1 M1 → Q r s1 → P (.inl (some (.inl r))) M1 := by rw [← hP]; exact fun r M1 s1 a b => ⟨s1, a, r, rfl, b⟩
  clear hP
  refine E_aldn (c199 0 rfl) rfl hv1 ?_
  show JX 199 1 [v0, v1, jU] [v1] M P
  refine E_ifnn (c199 1 rfl) h (fun e h => ?_) (fun i1 e h => ?_)
  · subst e
    refine L_ps c199 (n := 1) (pc1 := 5) (ls1 := [v0, jX .null, jU]) (st1 := [jI (-1)]) rfl ?_
    exact L_retI (c199 5 rfl) (hQ _ _ _ hM h)
  · subst e
    refine E_aldn (c199 6 rfl) rfl hv0 ?_
    show JX 199 7 [v0, jR i1, jU] [v0] M P
    refine L_ps c199 (n := 1) (pc1 := 8) (ls1 := [v0, jR i1, jU]) (st1 := [jR i1, v0]) rfl ?_
    refine E_fV (c199 8 rfl) hM (by decide) h (fun x2 hx2 h => ?_)
    obtain ⟨i3, e, h⟩ := cR_of h
    subst e
    obtain ⟨ht, h⟩ := h
    exact False.elim h
theorem k_Sys_inner1 {v0 : JV} {v1 : JV} {s : LSt} {M : JM} {Q : Int → LSt → Prop} (hv0 : jnl v0 = true) (hv1 : jnl v1 = true) (hM : R2 s M) (h : d_Sys_inner 2 v0 v1 s Q) : JX 200 0 (jargs 200 [v0, v1]) [] M (P2 (QI2 Q)) := by
  have h : d_Sys_inner_F (d_Sys_inner 1) v0 v1 s Q := h
  unfold d_Sys_inner_F at h
  show JX 200 0 [v0, v1, jU] [] M (P2 (QI2 Q))
  generalize hP : P2 (QI2 Q) = P
  have hQ : ∀ (r : Int) (M1 : JM) (s1 : LSt), R2 s1 M1 → Q r s1 → P (.inl (some (.inl r))) M1 := by rw [← hP]; exact fun r M1 s1 a b => ⟨s1, a, r, rfl, b⟩
  clear hP
  refine E_aldn (c200 0 rfl) rfl hv1 ?_
  show JX 200 1 [v0, v1, jU] [v1] M P
  refine E_ifnn (c200 1 rfl) h (fun e h => ?_) (fun i1 e h => ?_)
  · subst e
    refine L_ps c200 (n := 1) (pc1 := 5) (ls1 := [v0, jX .null, jU]) (st1 := [jI (-1)]) rfl ?_
    exact L_retI (c200 5 rfl) (hQ _ _ _ hM h)
  · subst e
    refine E_aldn (c200 6 rfl) rfl hv0 ?_
    show JX 200 7 [v0, jR i1, jU] [v0] M P
    refine L_ps c200 (n := 1) (pc1 := 8) (ls1 := [v0, jR i1, jU]) (st1 := [jR i1, v0]) rfl ?_
    refine E_fV (c200 8 rfl) hM (by decide) h (fun x2 hx2 h => ?_)
    obtain ⟨i3, e, h⟩ := cR_of h
    subst e
    obtain ⟨ht, h⟩ := h
    refine E_cI (pc1 := 14) (c200 11 rfl) (js_v rfl ((rcv_tag hM ht).trans jt199)) rfl (k_Sys_inner0 rfl hx2 hM h) (fun r5 M s4 hM h => ?_)
    refine L_ps c200 (n := 2) (pc1 := 16) (ls1 := [jR i3, jR i1, jI r5]) (st1 := [jI r5]) rfl ?_
    refine L_br (p1 := 23) (p2 := 19) (c200 16 rfl) rfl jc_lt h (fun h => ?_) (fun h => ?_)
    · refine L_ps c200 (n := 2) (pc1 := 25) (ls1 := [jR i3, jR i1, jI r5]) (st1 := [jR i1, jR i3]) rfl ?_
      refine E_fV (c200 25 rfl) hM (by decide) h (fun x6 hx6 h => ?_)
      obtain ⟨ht, h⟩ := h
      refine E_cI (pc1 := 31) (c200 28 rfl) (js_v rfl ((rcv_tag hM ht).trans jt199)) rfl (k_Sys_inner0 rfl hx6 hM h) (fun r8 M s7 hM h => ?_)
      refine L_ps c200 (n := 2) (pc1 := 33) (ls1 := [jR i3, jR i1, jI r8]) (st1 := [jI r8]) rfl ?_
      refine L_br (p1 := 48) (p2 := 36) (c200 33 rfl) rfl jc_lt h (fun h => ?_) (fun h => ?_)
      · refine L_ps c200 (n := 2) (pc1 := 50) (ls1 := [jR i3, jR i1, jI r8]) (st1 := [jR i1, jR i3]) rfl ?_
        obtain ⟨ht, h⟩ := h
        refine E_cI (pc1 := 53) (c200 50 rfl) (js_v rfl ((rcv_tag hM ht).trans jt212)) rfl (k_Sys_rule rfl rfl hM h) (fun r10 M s9 hM h => ?_)
        refine L_br (p1 := 60) (p2 := 56) (c200 53 rfl) rfl jc_lt h (fun h => ?_) (fun h => ?_)
        · refine L_ps c200 (n := 1) (pc1 := 61) (ls1 := [jR i3, jR i1, jI r8]) (st1 := [jI (-1)]) rfl ?_
          exact L_retI (c200 61 rfl) (hQ _ _ _ hM h)
        · refine L_ps c200 (n := 2) (pc1 := 61) (ls1 := [jR i3, jR i1, jI r8]) (st1 := [jI 0]) rfl ?_
          exact L_retI (c200 61 rfl) (hQ _ _ _ hM h)
      · refine L_ps c200 (n := 2) (pc1 := 38) (ls1 := [jR i3, jR i1, jI r8]) (st1 := [jR i1, jI 1]) rfl ?_
        refine E_fV (c200 38 rfl) hM (by decide) h (fun x11 hx11 h => ?_)
        refine E_cI (pc1 := 44) (c200 41 rfl) (js_t rfl) rfl (k_Lw_size7 hx11 hM h) (fun r13 M s12 hM h => ?_)
        refine L_ps c200 (n := 3) (pc1 := 47) (ls1 := [jR i3, jR i1, jI r8]) (st1 := [jI (wr ((wr (1 + r13)) + r8))]) rfl ?_
        exact L_retI (c200 47 rfl) (hQ _ _ _ hM h)
    · refine L_ps c200 (n := 3) (pc1 := 22) (ls1 := [jR i3, jR i1, jI r5]) (st1 := [jI (wr (1 + r5))]) rfl ?_
      exact L_retI (c200 22 rfl) (hQ _ _ _ hM h)
theorem k_Sys_inner2 {v0 : JV} {v1 : JV} {s : LSt} {M : JM} {Q : Int → LSt → Prop} (hv0 : jnl v0 = true) (hv1 : jnl v1 = true) (hM : R2 s M) (h : d_Sys_inner 3 v0 v1 s Q) : JX 201 0 (jargs 201 [v0, v1]) [] M (P2 (QI2 Q)) := by
  have h : d_Sys_inner_F (d_Sys_inner 2) v0 v1 s Q := h
  unfold d_Sys_inner_F at h
  show JX 201 0 [v0, v1, jU] [] M (P2 (QI2 Q))
  generalize hP : P2 (QI2 Q) = P
  have hQ : ∀ (r : Int) (M1 : JM) (s1 : LSt), R2 s1 M1 → Q r s1 → P (.inl (some (.inl r))) M1 := by rw [← hP]; exact fun r M1 s1 a b => ⟨s1, a, r, rfl, b⟩
  clear hP
  refine E_aldn (c201 0 rfl) rfl hv1 ?_
  show JX 201 1 [v0, v1, jU] [v1] M P
  refine E_ifnn (c201 1 rfl) h (fun e h => ?_) (fun i1 e h => ?_)
  · subst e
    refine L_ps c201 (n := 1) (pc1 := 5) (ls1 := [v0, jX .null, jU]) (st1 := [jI (-1)]) rfl ?_
    exact L_retI (c201 5 rfl) (hQ _ _ _ hM h)
  · subst e
    refine E_aldn (c201 6 rfl) rfl hv0 ?_
    show JX 201 7 [v0, jR i1, jU] [v0] M P
    refine L_ps c201 (n := 1) (pc1 := 8) (ls1 := [v0, jR i1, jU]) (st1 := [jR i1, v0]) rfl ?_
    refine E_fV (c201 8 rfl) hM (by decide) h (fun x2 hx2 h => ?_)
    obtain ⟨i3, e, h⟩ := cR_of h
    subst e
    obtain ⟨ht, h⟩ := h
    refine E_cI (pc1 := 14) (c201 11 rfl) (js_v rfl ((rcv_tag hM ht).trans jt200)) rfl (k_Sys_inner1 rfl hx2 hM h) (fun r5 M s4 hM h => ?_)
    refine L_ps c201 (n := 2) (pc1 := 16) (ls1 := [jR i3, jR i1, jI r5]) (st1 := [jI r5]) rfl ?_
    refine L_br (p1 := 23) (p2 := 19) (c201 16 rfl) rfl jc_lt h (fun h => ?_) (fun h => ?_)
    · refine L_ps c201 (n := 2) (pc1 := 25) (ls1 := [jR i3, jR i1, jI r5]) (st1 := [jR i1, jR i3]) rfl ?_
      refine E_fV (c201 25 rfl) hM (by decide) h (fun x6 hx6 h => ?_)
      obtain ⟨ht, h⟩ := h
      refine E_cI (pc1 := 31) (c201 28 rfl) (js_v rfl ((rcv_tag hM ht).trans jt200)) rfl (k_Sys_inner1 rfl hx6 hM h) (fun r8 M s7 hM h => ?_)
      refine L_ps c201 (n := 2) (pc1 := 33) (ls1 := [jR i3, jR i1, jI r8]) (st1 := [jI r8]) rfl ?_
      refine L_br (p1 := 48) (p2 := 36) (c201 33 rfl) rfl jc_lt h (fun h => ?_) (fun h => ?_)
      · refine L_ps c201 (n := 2) (pc1 := 50) (ls1 := [jR i3, jR i1, jI r8]) (st1 := [jR i1, jR i3]) rfl ?_
        obtain ⟨ht, h⟩ := h
        refine E_cI (pc1 := 53) (c201 50 rfl) (js_v rfl ((rcv_tag hM ht).trans jt212)) rfl (k_Sys_rule rfl rfl hM h) (fun r10 M s9 hM h => ?_)
        refine L_br (p1 := 60) (p2 := 56) (c201 53 rfl) rfl jc_lt h (fun h => ?_) (fun h => ?_)
        · refine L_ps c201 (n := 1) (pc1 := 61) (ls1 := [jR i3, jR i1, jI r8]) (st1 := [jI (-1)]) rfl ?_
          exact L_retI (c201 61 rfl) (hQ _ _ _ hM h)
        · refine L_ps c201 (n := 2) (pc1 := 61) (ls1 := [jR i3, jR i1, jI r8]) (st1 := [jI 0]) rfl ?_
          exact L_retI (c201 61 rfl) (hQ _ _ _ hM h)
      · refine L_ps c201 (n := 2) (pc1 := 38) (ls1 := [jR i3, jR i1, jI r8]) (st1 := [jR i1, jI 1]) rfl ?_
        refine E_fV (c201 38 rfl) hM (by decide) h (fun x11 hx11 h => ?_)
        refine E_cI (pc1 := 44) (c201 41 rfl) (js_t rfl) rfl (k_Lw_size7 hx11 hM h) (fun r13 M s12 hM h => ?_)
        refine L_ps c201 (n := 3) (pc1 := 47) (ls1 := [jR i3, jR i1, jI r8]) (st1 := [jI (wr ((wr (1 + r13)) + r8))]) rfl ?_
        exact L_retI (c201 47 rfl) (hQ _ _ _ hM h)
    · refine L_ps c201 (n := 3) (pc1 := 22) (ls1 := [jR i3, jR i1, jI r5]) (st1 := [jI (wr (1 + r5))]) rfl ?_
      exact L_retI (c201 22 rfl) (hQ _ _ _ hM h)
theorem k_Sys_inner3 {v0 : JV} {v1 : JV} {s : LSt} {M : JM} {Q : Int → LSt → Prop} (hv0 : jnl v0 = true) (hv1 : jnl v1 = true) (hM : R2 s M) (h : d_Sys_inner 4 v0 v1 s Q) : JX 202 0 (jargs 202 [v0, v1]) [] M (P2 (QI2 Q)) := by
  have h : d_Sys_inner_F (d_Sys_inner 3) v0 v1 s Q := h
  unfold d_Sys_inner_F at h
  show JX 202 0 [v0, v1, jU] [] M (P2 (QI2 Q))
  generalize hP : P2 (QI2 Q) = P
  have hQ : ∀ (r : Int) (M1 : JM) (s1 : LSt), R2 s1 M1 → Q r s1 → P (.inl (some (.inl r))) M1 := by rw [← hP]; exact fun r M1 s1 a b => ⟨s1, a, r, rfl, b⟩
  clear hP
  refine E_aldn (c202 0 rfl) rfl hv1 ?_
  show JX 202 1 [v0, v1, jU] [v1] M P
  refine E_ifnn (c202 1 rfl) h (fun e h => ?_) (fun i1 e h => ?_)
  · subst e
    refine L_ps c202 (n := 1) (pc1 := 5) (ls1 := [v0, jX .null, jU]) (st1 := [jI (-1)]) rfl ?_
    exact L_retI (c202 5 rfl) (hQ _ _ _ hM h)
  · subst e
    refine E_aldn (c202 6 rfl) rfl hv0 ?_
    show JX 202 7 [v0, jR i1, jU] [v0] M P
    refine L_ps c202 (n := 1) (pc1 := 8) (ls1 := [v0, jR i1, jU]) (st1 := [jR i1, v0]) rfl ?_
    refine E_fV (c202 8 rfl) hM (by decide) h (fun x2 hx2 h => ?_)
    obtain ⟨i3, e, h⟩ := cR_of h
    subst e
    obtain ⟨ht, h⟩ := h
    refine E_cI (pc1 := 14) (c202 11 rfl) (js_v rfl ((rcv_tag hM ht).trans jt201)) rfl (k_Sys_inner2 rfl hx2 hM h) (fun r5 M s4 hM h => ?_)
    refine L_ps c202 (n := 2) (pc1 := 16) (ls1 := [jR i3, jR i1, jI r5]) (st1 := [jI r5]) rfl ?_
    refine L_br (p1 := 23) (p2 := 19) (c202 16 rfl) rfl jc_lt h (fun h => ?_) (fun h => ?_)
    · refine L_ps c202 (n := 2) (pc1 := 25) (ls1 := [jR i3, jR i1, jI r5]) (st1 := [jR i1, jR i3]) rfl ?_
      refine E_fV (c202 25 rfl) hM (by decide) h (fun x6 hx6 h => ?_)
      obtain ⟨ht, h⟩ := h
      refine E_cI (pc1 := 31) (c202 28 rfl) (js_v rfl ((rcv_tag hM ht).trans jt201)) rfl (k_Sys_inner2 rfl hx6 hM h) (fun r8 M s7 hM h => ?_)
      refine L_ps c202 (n := 2) (pc1 := 33) (ls1 := [jR i3, jR i1, jI r8]) (st1 := [jI r8]) rfl ?_
      refine L_br (p1 := 48) (p2 := 36) (c202 33 rfl) rfl jc_lt h (fun h => ?_) (fun h => ?_)
      · refine L_ps c202 (n := 2) (pc1 := 50) (ls1 := [jR i3, jR i1, jI r8]) (st1 := [jR i1, jR i3]) rfl ?_
        obtain ⟨ht, h⟩ := h
        refine E_cI (pc1 := 53) (c202 50 rfl) (js_v rfl ((rcv_tag hM ht).trans jt212)) rfl (k_Sys_rule rfl rfl hM h) (fun r10 M s9 hM h => ?_)
        refine L_br (p1 := 60) (p2 := 56) (c202 53 rfl) rfl jc_lt h (fun h => ?_) (fun h => ?_)
        · refine L_ps c202 (n := 1) (pc1 := 61) (ls1 := [jR i3, jR i1, jI r8]) (st1 := [jI (-1)]) rfl ?_
          exact L_retI (c202 61 rfl) (hQ _ _ _ hM h)
        · refine L_ps c202 (n := 2) (pc1 := 61) (ls1 := [jR i3, jR i1, jI r8]) (st1 := [jI 0]) rfl ?_
          exact L_retI (c202 61 rfl) (hQ _ _ _ hM h)
      · refine L_ps c202 (n := 2) (pc1 := 38) (ls1 := [jR i3, jR i1, jI r8]) (st1 := [jR i1, jI 1]) rfl ?_
        refine E_fV (c202 38 rfl) hM (by decide) h (fun x11 hx11 h => ?_)
        refine E_cI (pc1 := 44) (c202 41 rfl) (js_t rfl) rfl (k_Lw_size7 hx11 hM h) (fun r13 M s12 hM h => ?_)
        refine L_ps c202 (n := 3) (pc1 := 47) (ls1 := [jR i3, jR i1, jI r8]) (st1 := [jI (wr ((wr (1 + r13)) + r8))]) rfl ?_
        exact L_retI (c202 47 rfl) (hQ _ _ _ hM h)
    · refine L_ps c202 (n := 3) (pc1 := 22) (ls1 := [jR i3, jR i1, jI r5]) (st1 := [jI (wr (1 + r5))]) rfl ?_
      exact L_retI (c202 22 rfl) (hQ _ _ _ hM h)
theorem k_Sys_inner4 {v0 : JV} {v1 : JV} {s : LSt} {M : JM} {Q : Int → LSt → Prop} (hv0 : jnl v0 = true) (hv1 : jnl v1 = true) (hM : R2 s M) (h : d_Sys_inner 5 v0 v1 s Q) : JX 203 0 (jargs 203 [v0, v1]) [] M (P2 (QI2 Q)) := by
  have h : d_Sys_inner_F (d_Sys_inner 4) v0 v1 s Q := h
  unfold d_Sys_inner_F at h
  show JX 203 0 [v0, v1, jU] [] M (P2 (QI2 Q))
  generalize hP : P2 (QI2 Q) = P
  have hQ : ∀ (r : Int) (M1 : JM) (s1 : LSt), R2 s1 M1 → Q r s1 → P (.inl (some (.inl r))) M1 := by rw [← hP]; exact fun r M1 s1 a b => ⟨s1, a, r, rfl, b⟩
  clear hP
  refine E_aldn (c203 0 rfl) rfl hv1 ?_
  show JX 203 1 [v0, v1, jU] [v1] M P
  refine E_ifnn (c203 1 rfl) h (fun e h => ?_) (fun i1 e h => ?_)
  · subst e
    refine L_ps c203 (n := 1) (pc1 := 5) (ls1 := [v0, jX .null, jU]) (st1 := [jI (-1)]) rfl ?_
    exact L_retI (c203 5 rfl) (hQ _ _ _ hM h)
  · subst e
    refine E_aldn (c203 6 rfl) rfl hv0 ?_
    show JX 203 7 [v0, jR i1, jU] [v0] M P
    refine L_ps c203 (n := 1) (pc1 := 8) (ls1 := [v0, jR i1, jU]) (st1 := [jR i1, v0]) rfl ?_
    refine E_fV (c203 8 rfl) hM (by decide) h (fun x2 hx2 h => ?_)
    obtain ⟨i3, e, h⟩ := cR_of h
    subst e
    obtain ⟨ht, h⟩ := h
    refine E_cI (pc1 := 14) (c203 11 rfl) (js_v rfl ((rcv_tag hM ht).trans jt202)) rfl (k_Sys_inner3 rfl hx2 hM h) (fun r5 M s4 hM h => ?_)
    refine L_ps c203 (n := 2) (pc1 := 16) (ls1 := [jR i3, jR i1, jI r5]) (st1 := [jI r5]) rfl ?_
    refine L_br (p1 := 23) (p2 := 19) (c203 16 rfl) rfl jc_lt h (fun h => ?_) (fun h => ?_)
    · refine L_ps c203 (n := 2) (pc1 := 25) (ls1 := [jR i3, jR i1, jI r5]) (st1 := [jR i1, jR i3]) rfl ?_
      refine E_fV (c203 25 rfl) hM (by decide) h (fun x6 hx6 h => ?_)
      obtain ⟨ht, h⟩ := h
      refine E_cI (pc1 := 31) (c203 28 rfl) (js_v rfl ((rcv_tag hM ht).trans jt202)) rfl (k_Sys_inner3 rfl hx6 hM h) (fun r8 M s7 hM h => ?_)
      refine L_ps c203 (n := 2) (pc1 := 33) (ls1 := [jR i3, jR i1, jI r8]) (st1 := [jI r8]) rfl ?_
      refine L_br (p1 := 48) (p2 := 36) (c203 33 rfl) rfl jc_lt h (fun h => ?_) (fun h => ?_)
      · refine L_ps c203 (n := 2) (pc1 := 50) (ls1 := [jR i3, jR i1, jI r8]) (st1 := [jR i1, jR i3]) rfl ?_
        obtain ⟨ht, h⟩ := h
        refine E_cI (pc1 := 53) (c203 50 rfl) (js_v rfl ((rcv_tag hM ht).trans jt212)) rfl (k_Sys_rule rfl rfl hM h) (fun r10 M s9 hM h => ?_)
        refine L_br (p1 := 60) (p2 := 56) (c203 53 rfl) rfl jc_lt h (fun h => ?_) (fun h => ?_)
        · refine L_ps c203 (n := 1) (pc1 := 61) (ls1 := [jR i3, jR i1, jI r8]) (st1 := [jI (-1)]) rfl ?_
          exact L_retI (c203 61 rfl) (hQ _ _ _ hM h)
        · refine L_ps c203 (n := 2) (pc1 := 61) (ls1 := [jR i3, jR i1, jI r8]) (st1 := [jI 0]) rfl ?_
          exact L_retI (c203 61 rfl) (hQ _ _ _ hM h)
      · refine L_ps c203 (n := 2) (pc1 := 38) (ls1 := [jR i3, jR i1, jI r8]) (st1 := [jR i1, jI 1]) rfl ?_
        refine E_fV (c203 38 rfl) hM (by decide) h (fun x11 hx11 h => ?_)
        refine E_cI (pc1 := 44) (c203 41 rfl) (js_t rfl) rfl (k_Lw_size7 hx11 hM h) (fun r13 M s12 hM h => ?_)
        refine L_ps c203 (n := 3) (pc1 := 47) (ls1 := [jR i3, jR i1, jI r8]) (st1 := [jI (wr ((wr (1 + r13)) + r8))]) rfl ?_
        exact L_retI (c203 47 rfl) (hQ _ _ _ hM h)
    · refine L_ps c203 (n := 3) (pc1 := 22) (ls1 := [jR i3, jR i1, jI r5]) (st1 := [jI (wr (1 + r5))]) rfl ?_
      exact L_retI (c203 22 rfl) (hQ _ _ _ hM h)
theorem k_Lw_at0 {v0 : JV} {v1 : Int} {s : LSt} {M : JM} {Q : JV → LSt → Prop} (hv0 : jnl v0 = true) (hM : R2 s M) (h : d_Lw_at 1 v0 v1 s Q) : JX 226 0 (jargs 226 [v0, jI v1]) [] M (P2 (QV2 Q)) := by
  have h : d_Lw_at_F (d_Lw_at 0) v0 v1 s Q := h
  unfold d_Lw_at_F at h
  show JX 226 0 [v0, jI v1, jU] [] M (P2 (QV2 Q))
  generalize hP : P2 (QV2 Q) = P
  have hQ : ∀ (r : JV) (M1 : JM) (s1 : LSt), R2 s1 M1 → jnl r = true → Q r s1 → P (.inl (some r)) M1 := by rw [← hP]; exact fun r M1 s1 a c b => ⟨s1, a, r, rfl, c, b⟩
  clear hP
  refine L_ps c226 (n := 1) (pc1 := 1) (ls1 := [v0, jI v1, jU]) (st1 := [jI v1]) rfl ?_
  refine L_nb (p1 := 6) (p2 := 4) (c226 1 rfl) rfl jc_ne h (fun h => ?_) (fun h => ?_)
  · refine E_aldn (c226 4 rfl) rfl hv0 ?_
    show JX 226 5 [v0, jI v1, jU] [v0] M P
    exact E_retV (c226 5 rfl) hv0 (hQ _ _ _ hM hv0 h)
  · refine E_aldn (c226 6 rfl) rfl hv0 ?_
    show JX 226 7 [v0, jI v1, jU] [v0] M P
    obtain ⟨i1, e, h⟩ := cR_of h
    subst e
    refine E_fV (c226 7 rfl) hM (by decide) h (fun x2 hx2 h => ?_)
    refine E_cI (pc1 := 13) (c226 10 rfl) (js_t rfl) rfl (k_Lw_size7 hx2 hM h) (fun r4 M s3 hM h => ?_)
    refine L_ps c226 (n := 3) (pc1 := 16) (ls1 := [jR i1, jI v1, jI r4]) (st1 := [jI r4, jI v1]) rfl ?_
    refine L_br (p1 := 32) (p2 := 19) (c226 16 rfl) rfl jc_gt h (fun h => ?_) (fun h => ?_)
    · refine L_ps c226 (n := 1) (pc1 := 33) (ls1 := [jR i1, jI v1, jI r4]) (st1 := [jR i1]) rfl ?_
      refine E_fV (c226 33 rfl) hM (by decide) h (fun x5 hx5 h => ?_)
      refine L_ps c226 (n := 5) (pc1 := 41) (ls1 := [jR i1, jI v1, jI r4]) (st1 := [jI (wr ((wr (v1 - 1)) - r4)), x5]) rfl ?_
      exact False.elim h
    · refine L_ps c226 (n := 1) (pc1 := 20) (ls1 := [jR i1, jI v1, jI r4]) (st1 := [jR i1]) rfl ?_
      refine E_fV (c226 20 rfl) hM (by decide) h (fun x8 hx8 h => ?_)
      refine L_ps c226 (n := 3) (pc1 := 26) (ls1 := [jR i1, jI v1, jI r4]) (st1 := [jI (wr (v1 - 1)), x8]) rfl ?_
      exact False.elim h
theorem k_Lw_at1 {v0 : JV} {v1 : Int} {s : LSt} {M : JM} {Q : JV → LSt → Prop} (hv0 : jnl v0 = true) (hM : R2 s M) (h : d_Lw_at 2 v0 v1 s Q) : JX 227 0 (jargs 227 [v0, jI v1]) [] M (P2 (QV2 Q)) := by
  have h : d_Lw_at_F (d_Lw_at 1) v0 v1 s Q := h
  unfold d_Lw_at_F at h
  show JX 227 0 [v0, jI v1, jU] [] M (P2 (QV2 Q))
  generalize hP : P2 (QV2 Q) = P
  have hQ : ∀ (r : JV) (M1 : JM) (s1 : LSt), R2 s1 M1 → jnl r = true → Q r s1 → P (.inl (some r)) M1 := by rw [← hP]; exact fun r M1 s1 a c b => ⟨s1, a, r, rfl, c, b⟩
  clear hP
  refine L_ps c227 (n := 1) (pc1 := 1) (ls1 := [v0, jI v1, jU]) (st1 := [jI v1]) rfl ?_
  refine L_nb (p1 := 6) (p2 := 4) (c227 1 rfl) rfl jc_ne h (fun h => ?_) (fun h => ?_)
  · refine E_aldn (c227 4 rfl) rfl hv0 ?_
    show JX 227 5 [v0, jI v1, jU] [v0] M P
    exact E_retV (c227 5 rfl) hv0 (hQ _ _ _ hM hv0 h)
  · refine E_aldn (c227 6 rfl) rfl hv0 ?_
    show JX 227 7 [v0, jI v1, jU] [v0] M P
    obtain ⟨i1, e, h⟩ := cR_of h
    subst e
    refine E_fV (c227 7 rfl) hM (by decide) h (fun x2 hx2 h => ?_)
    refine E_cI (pc1 := 13) (c227 10 rfl) (js_t rfl) rfl (k_Lw_size7 hx2 hM h) (fun r4 M s3 hM h => ?_)
    refine L_ps c227 (n := 3) (pc1 := 16) (ls1 := [jR i1, jI v1, jI r4]) (st1 := [jI r4, jI v1]) rfl ?_
    refine L_br (p1 := 32) (p2 := 19) (c227 16 rfl) rfl jc_gt h (fun h => ?_) (fun h => ?_)
    · refine L_ps c227 (n := 1) (pc1 := 33) (ls1 := [jR i1, jI v1, jI r4]) (st1 := [jR i1]) rfl ?_
      refine E_fV (c227 33 rfl) hM (by decide) h (fun x5 hx5 h => ?_)
      refine L_ps c227 (n := 5) (pc1 := 41) (ls1 := [jR i1, jI v1, jI r4]) (st1 := [jI (wr ((wr (v1 - 1)) - r4)), x5]) rfl ?_
      refine E_cV (pc1 := 44) (c227 41 rfl) (js_t rfl) rfl (k_Lw_at0 hx5 hM h) (fun x7 M s6 hM hx7 h => ?_)
      exact E_retV (c227 44 rfl) hx7 (hQ _ _ _ hM hx7 h)
    · refine L_ps c227 (n := 1) (pc1 := 20) (ls1 := [jR i1, jI v1, jI r4]) (st1 := [jR i1]) rfl ?_
      refine E_fV (c227 20 rfl) hM (by decide) h (fun x8 hx8 h => ?_)
      refine L_ps c227 (n := 3) (pc1 := 26) (ls1 := [jR i1, jI v1, jI r4]) (st1 := [jI (wr (v1 - 1)), x8]) rfl ?_
      refine E_cV (pc1 := 29) (c227 26 rfl) (js_t rfl) rfl (k_Lw_at0 hx8 hM h) (fun x10 M s9 hM hx10 h => ?_)
      refine L_ps c227 (n := 1) (pc1 := 44) (ls1 := [jR i1, jI v1, jI r4]) (st1 := [x10]) rfl ?_
      exact E_retV (c227 44 rfl) hx10 (hQ _ _ _ hM hx10 h)
theorem k_Lw_at2 {v0 : JV} {v1 : Int} {s : LSt} {M : JM} {Q : JV → LSt → Prop} (hv0 : jnl v0 = true) (hM : R2 s M) (h : d_Lw_at 3 v0 v1 s Q) : JX 228 0 (jargs 228 [v0, jI v1]) [] M (P2 (QV2 Q)) := by
  have h : d_Lw_at_F (d_Lw_at 2) v0 v1 s Q := h
  unfold d_Lw_at_F at h
  show JX 228 0 [v0, jI v1, jU] [] M (P2 (QV2 Q))
  generalize hP : P2 (QV2 Q) = P
  have hQ : ∀ (r : JV) (M1 : JM) (s1 : LSt), R2 s1 M1 → jnl r = true → Q r s1 → P (.inl (some r)) M1 := by rw [← hP]; exact fun r M1 s1 a c b => ⟨s1, a, r, rfl, c, b⟩
  clear hP
  refine L_ps c228 (n := 1) (pc1 := 1) (ls1 := [v0, jI v1, jU]) (st1 := [jI v1]) rfl ?_
  refine L_nb (p1 := 6) (p2 := 4) (c228 1 rfl) rfl jc_ne h (fun h => ?_) (fun h => ?_)
  · refine E_aldn (c228 4 rfl) rfl hv0 ?_
    show JX 228 5 [v0, jI v1, jU] [v0] M P
    exact E_retV (c228 5 rfl) hv0 (hQ _ _ _ hM hv0 h)
  · refine E_aldn (c228 6 rfl) rfl hv0 ?_
    show JX 228 7 [v0, jI v1, jU] [v0] M P
    obtain ⟨i1, e, h⟩ := cR_of h
    subst e
    refine E_fV (c228 7 rfl) hM (by decide) h (fun x2 hx2 h => ?_)
    refine E_cI (pc1 := 13) (c228 10 rfl) (js_t rfl) rfl (k_Lw_size7 hx2 hM h) (fun r4 M s3 hM h => ?_)
    refine L_ps c228 (n := 3) (pc1 := 16) (ls1 := [jR i1, jI v1, jI r4]) (st1 := [jI r4, jI v1]) rfl ?_
    refine L_br (p1 := 32) (p2 := 19) (c228 16 rfl) rfl jc_gt h (fun h => ?_) (fun h => ?_)
    · refine L_ps c228 (n := 1) (pc1 := 33) (ls1 := [jR i1, jI v1, jI r4]) (st1 := [jR i1]) rfl ?_
      refine E_fV (c228 33 rfl) hM (by decide) h (fun x5 hx5 h => ?_)
      refine L_ps c228 (n := 5) (pc1 := 41) (ls1 := [jR i1, jI v1, jI r4]) (st1 := [jI (wr ((wr (v1 - 1)) - r4)), x5]) rfl ?_
      refine E_cV (pc1 := 44) (c228 41 rfl) (js_t rfl) rfl (k_Lw_at1 hx5 hM h) (fun x7 M s6 hM hx7 h => ?_)
      exact E_retV (c228 44 rfl) hx7 (hQ _ _ _ hM hx7 h)
    · refine L_ps c228 (n := 1) (pc1 := 20) (ls1 := [jR i1, jI v1, jI r4]) (st1 := [jR i1]) rfl ?_
      refine E_fV (c228 20 rfl) hM (by decide) h (fun x8 hx8 h => ?_)
      refine L_ps c228 (n := 3) (pc1 := 26) (ls1 := [jR i1, jI v1, jI r4]) (st1 := [jI (wr (v1 - 1)), x8]) rfl ?_
      refine E_cV (pc1 := 29) (c228 26 rfl) (js_t rfl) rfl (k_Lw_at1 hx8 hM h) (fun x10 M s9 hM hx10 h => ?_)
      refine L_ps c228 (n := 1) (pc1 := 44) (ls1 := [jR i1, jI v1, jI r4]) (st1 := [x10]) rfl ?_
      exact E_retV (c228 44 rfl) hx10 (hQ _ _ _ hM hx10 h)
theorem k_Lw_at3 {v0 : JV} {v1 : Int} {s : LSt} {M : JM} {Q : JV → LSt → Prop} (hv0 : jnl v0 = true) (hM : R2 s M) (h : d_Lw_at 4 v0 v1 s Q) : JX 229 0 (jargs 229 [v0, jI v1]) [] M (P2 (QV2 Q)) := by
  have h : d_Lw_at_F (d_Lw_at 3) v0 v1 s Q := h
  unfold d_Lw_at_F at h
  show JX 229 0 [v0, jI v1, jU] [] M (P2 (QV2 Q))
  generalize hP : P2 (QV2 Q) = P
  have hQ : ∀ (r : JV) (M1 : JM) (s1 : LSt), R2 s1 M1 → jnl r = true → Q r s1 → P (.inl (some r)) M1 := by rw [← hP]; exact fun r M1 s1 a c b => ⟨s1, a, r, rfl, c, b⟩
  clear hP
  refine L_ps c229 (n := 1) (pc1 := 1) (ls1 := [v0, jI v1, jU]) (st1 := [jI v1]) rfl ?_
  refine L_nb (p1 := 6) (p2 := 4) (c229 1 rfl) rfl jc_ne h (fun h => ?_) (fun h => ?_)
  · refine E_aldn (c229 4 rfl) rfl hv0 ?_
    show JX 229 5 [v0, jI v1, jU] [v0] M P
    exact E_retV (c229 5 rfl) hv0 (hQ _ _ _ hM hv0 h)
  · refine E_aldn (c229 6 rfl) rfl hv0 ?_
    show JX 229 7 [v0, jI v1, jU] [v0] M P
    obtain ⟨i1, e, h⟩ := cR_of h
    subst e
    refine E_fV (c229 7 rfl) hM (by decide) h (fun x2 hx2 h => ?_)
    refine E_cI (pc1 := 13) (c229 10 rfl) (js_t rfl) rfl (k_Lw_size7 hx2 hM h) (fun r4 M s3 hM h => ?_)
    refine L_ps c229 (n := 3) (pc1 := 16) (ls1 := [jR i1, jI v1, jI r4]) (st1 := [jI r4, jI v1]) rfl ?_
    refine L_br (p1 := 32) (p2 := 19) (c229 16 rfl) rfl jc_gt h (fun h => ?_) (fun h => ?_)
    · refine L_ps c229 (n := 1) (pc1 := 33) (ls1 := [jR i1, jI v1, jI r4]) (st1 := [jR i1]) rfl ?_
      refine E_fV (c229 33 rfl) hM (by decide) h (fun x5 hx5 h => ?_)
      refine L_ps c229 (n := 5) (pc1 := 41) (ls1 := [jR i1, jI v1, jI r4]) (st1 := [jI (wr ((wr (v1 - 1)) - r4)), x5]) rfl ?_
      refine E_cV (pc1 := 44) (c229 41 rfl) (js_t rfl) rfl (k_Lw_at2 hx5 hM h) (fun x7 M s6 hM hx7 h => ?_)
      exact E_retV (c229 44 rfl) hx7 (hQ _ _ _ hM hx7 h)
    · refine L_ps c229 (n := 1) (pc1 := 20) (ls1 := [jR i1, jI v1, jI r4]) (st1 := [jR i1]) rfl ?_
      refine E_fV (c229 20 rfl) hM (by decide) h (fun x8 hx8 h => ?_)
      refine L_ps c229 (n := 3) (pc1 := 26) (ls1 := [jR i1, jI v1, jI r4]) (st1 := [jI (wr (v1 - 1)), x8]) rfl ?_
      refine E_cV (pc1 := 29) (c229 26 rfl) (js_t rfl) rfl (k_Lw_at2 hx8 hM h) (fun x10 M s9 hM hx10 h => ?_)
      refine L_ps c229 (n := 1) (pc1 := 44) (ls1 := [jR i1, jI v1, jI r4]) (st1 := [x10]) rfl ?_
      exact E_retV (c229 44 rfl) hx10 (hQ _ _ _ hM hx10 h)
theorem k_Lw_at4 {v0 : JV} {v1 : Int} {s : LSt} {M : JM} {Q : JV → LSt → Prop} (hv0 : jnl v0 = true) (hM : R2 s M) (h : d_Lw_at 5 v0 v1 s Q) : JX 230 0 (jargs 230 [v0, jI v1]) [] M (P2 (QV2 Q)) := by
  have h : d_Lw_at_F (d_Lw_at 4) v0 v1 s Q := h
  unfold d_Lw_at_F at h
  show JX 230 0 [v0, jI v1, jU] [] M (P2 (QV2 Q))
  generalize hP : P2 (QV2 Q) = P
  have hQ : ∀ (r : JV) (M1 : JM) (s1 : LSt), R2 s1 M1 → jnl r = true → Q r s1 → P (.inl (some r)) M1 := by rw [← hP]; exact fun r M1 s1 a c b => ⟨s1, a, r, rfl, c, b⟩
  clear hP
  refine L_ps c230 (n := 1) (pc1 := 1) (ls1 := [v0, jI v1, jU]) (st1 := [jI v1]) rfl ?_
  refine L_nb (p1 := 6) (p2 := 4) (c230 1 rfl) rfl jc_ne h (fun h => ?_) (fun h => ?_)
  · refine E_aldn (c230 4 rfl) rfl hv0 ?_
    show JX 230 5 [v0, jI v1, jU] [v0] M P
    exact E_retV (c230 5 rfl) hv0 (hQ _ _ _ hM hv0 h)
  · refine E_aldn (c230 6 rfl) rfl hv0 ?_
    show JX 230 7 [v0, jI v1, jU] [v0] M P
    obtain ⟨i1, e, h⟩ := cR_of h
    subst e
    refine E_fV (c230 7 rfl) hM (by decide) h (fun x2 hx2 h => ?_)
    refine E_cI (pc1 := 13) (c230 10 rfl) (js_t rfl) rfl (k_Lw_size7 hx2 hM h) (fun r4 M s3 hM h => ?_)
    refine L_ps c230 (n := 3) (pc1 := 16) (ls1 := [jR i1, jI v1, jI r4]) (st1 := [jI r4, jI v1]) rfl ?_
    refine L_br (p1 := 32) (p2 := 19) (c230 16 rfl) rfl jc_gt h (fun h => ?_) (fun h => ?_)
    · refine L_ps c230 (n := 1) (pc1 := 33) (ls1 := [jR i1, jI v1, jI r4]) (st1 := [jR i1]) rfl ?_
      refine E_fV (c230 33 rfl) hM (by decide) h (fun x5 hx5 h => ?_)
      refine L_ps c230 (n := 5) (pc1 := 41) (ls1 := [jR i1, jI v1, jI r4]) (st1 := [jI (wr ((wr (v1 - 1)) - r4)), x5]) rfl ?_
      refine E_cV (pc1 := 44) (c230 41 rfl) (js_t rfl) rfl (k_Lw_at3 hx5 hM h) (fun x7 M s6 hM hx7 h => ?_)
      exact E_retV (c230 44 rfl) hx7 (hQ _ _ _ hM hx7 h)
    · refine L_ps c230 (n := 1) (pc1 := 20) (ls1 := [jR i1, jI v1, jI r4]) (st1 := [jR i1]) rfl ?_
      refine E_fV (c230 20 rfl) hM (by decide) h (fun x8 hx8 h => ?_)
      refine L_ps c230 (n := 3) (pc1 := 26) (ls1 := [jR i1, jI v1, jI r4]) (st1 := [jI (wr (v1 - 1)), x8]) rfl ?_
      refine E_cV (pc1 := 29) (c230 26 rfl) (js_t rfl) rfl (k_Lw_at3 hx8 hM h) (fun x10 M s9 hM hx10 h => ?_)
      refine L_ps c230 (n := 1) (pc1 := 44) (ls1 := [jR i1, jI v1, jI r4]) (st1 := [x10]) rfl ?_
      exact E_retV (c230 44 rfl) hx10 (hQ _ _ _ hM hx10 h)
theorem k_Lw_fill0 {v0 : JV} {v1 : JV} {s : LSt} {M : JM} {Q : JV → LSt → Prop} (hv0 : jnl v0 = true) (hv1 : jnl v1 = true) (hM : R2 s M) (h : d_Lw_fill 1 v0 v1 s Q) : JX 232 0 (jargs 232 [v0, v1]) [] M (P2 (QV2 Q)) := by
  have h : d_Lw_fill_F (d_Lw_fill 0) v0 v1 s Q := h
  unfold d_Lw_fill_F at h
  show JX 232 0 [v0, v1] [] M (P2 (QV2 Q))
  generalize hP : P2 (QV2 Q) = P
  have hQ : ∀ (r : JV) (M1 : JM) (s1 : LSt), R2 s1 M1 → jnl r = true → Q r s1 → P (.inl (some r)) M1 := by rw [← hP]; exact fun r M1 s1 a c b => ⟨s1, a, r, rfl, c, b⟩
  clear hP
  refine E_aldn (c232 0 rfl) rfl hv0 ?_
  show JX 232 1 [v0, v1] [v0] M P
  refine E_ifnn (c232 1 rfl) h (fun e h => ?_) (fun i1 e h => ?_)
  · subst e
    refine L_ps c232 (n := 1) (pc1 := 5) (ls1 := [jX .null, v1]) (st1 := [jX .null]) rfl ?_
    exact E_retV (c232 5 rfl) rfl (hQ _ _ _ hM rfl h)
  · subst e
    refine L_ps c232 (n := 1) (pc1 := 7) (ls1 := [jR i1, v1]) (st1 := [jR i1]) rfl ?_
    refine E_fI (c232 7 rfl) hM (by decide) h (fun z2 h => ?_)
    refine L_ps c232 (n := 1) (pc1 := 12) (ls1 := [jR i1, v1]) (st1 := [jI 100, jI z2]) rfl ?_
    refine L_br (p1 := 27) (p2 := 15) (c232 12 rfl) rfl jc_lt h (fun h => ?_) (fun h => ?_)
    · refine E_nC (c232 27 rfl) hM (by decide) h (fun i3 M s4 hM h => ?_)
      refine L_ps c232 (n := 2) (pc1 := 32) (ls1 := [jR i1, v1]) (st1 := [jR i1, jR i3, jR i3]) rfl ?_
      refine E_fI (c232 32 rfl) hM (by decide) h (fun z5 h => ?_)
      refine L_ps c232 (n := 1) (pc1 := 36) (ls1 := [jR i1, v1]) (st1 := [jR i1, jI z5, jR i3, jR i3]) rfl ?_
      refine E_fV (c232 36 rfl) hM (by decide) h (fun x6 hx6 h => ?_)
      refine E_aldn (c232 39 rfl) rfl hv1 ?_
      show JX 232 40 [jR i1, v1] [v1, x6, jI z5, jR i3, jR i3] M P
      exact False.elim h
    · refine E_aldn (c232 15 rfl) rfl hv1 ?_
      show JX 232 16 [jR i1, v1] [v1] M P
      refine L_ps c232 (n := 1) (pc1 := 17) (ls1 := [jR i1, v1]) (st1 := [jR i1, v1]) rfl ?_
      refine E_fI (c232 17 rfl) hM (by decide) h (fun z14 h => ?_)
      refine L_ps c232 (n := 2) (pc1 := 23) (ls1 := [jR i1, v1]) (st1 := [jI (wr (z14 - 100)), v1]) rfl ?_
      obtain ⟨i15, e, h⟩ := cR_of h
      subst e
      refine E_rV (c232 23 rfl) hM h (fun x16 hx16 h => ?_)
      refine L_ps c232 (n := 1) (pc1 := 54) (ls1 := [jR i1, jR i15]) (st1 := [x16]) rfl ?_
      exact E_retV (c232 54 rfl) hx16 (hQ _ _ _ hM hx16 h)
theorem k_Lw_fill1 {v0 : JV} {v1 : JV} {s : LSt} {M : JM} {Q : JV → LSt → Prop} (hv0 : jnl v0 = true) (hv1 : jnl v1 = true) (hM : R2 s M) (h : d_Lw_fill 2 v0 v1 s Q) : JX 233 0 (jargs 233 [v0, v1]) [] M (P2 (QV2 Q)) := by
  have h : d_Lw_fill_F (d_Lw_fill 1) v0 v1 s Q := h
  unfold d_Lw_fill_F at h
  show JX 233 0 [v0, v1] [] M (P2 (QV2 Q))
  generalize hP : P2 (QV2 Q) = P
  have hQ : ∀ (r : JV) (M1 : JM) (s1 : LSt), R2 s1 M1 → jnl r = true → Q r s1 → P (.inl (some r)) M1 := by rw [← hP]; exact fun r M1 s1 a c b => ⟨s1, a, r, rfl, c, b⟩
  clear hP
  refine E_aldn (c233 0 rfl) rfl hv0 ?_
  show JX 233 1 [v0, v1] [v0] M P
  refine E_ifnn (c233 1 rfl) h (fun e h => ?_) (fun i1 e h => ?_)
  · subst e
    refine L_ps c233 (n := 1) (pc1 := 5) (ls1 := [jX .null, v1]) (st1 := [jX .null]) rfl ?_
    exact E_retV (c233 5 rfl) rfl (hQ _ _ _ hM rfl h)
  · subst e
    refine L_ps c233 (n := 1) (pc1 := 7) (ls1 := [jR i1, v1]) (st1 := [jR i1]) rfl ?_
    refine E_fI (c233 7 rfl) hM (by decide) h (fun z2 h => ?_)
    refine L_ps c233 (n := 1) (pc1 := 12) (ls1 := [jR i1, v1]) (st1 := [jI 100, jI z2]) rfl ?_
    refine L_br (p1 := 27) (p2 := 15) (c233 12 rfl) rfl jc_lt h (fun h => ?_) (fun h => ?_)
    · refine E_nC (c233 27 rfl) hM (by decide) h (fun i3 M s4 hM h => ?_)
      refine L_ps c233 (n := 2) (pc1 := 32) (ls1 := [jR i1, v1]) (st1 := [jR i1, jR i3, jR i3]) rfl ?_
      refine E_fI (c233 32 rfl) hM (by decide) h (fun z5 h => ?_)
      refine L_ps c233 (n := 1) (pc1 := 36) (ls1 := [jR i1, v1]) (st1 := [jR i1, jI z5, jR i3, jR i3]) rfl ?_
      refine E_fV (c233 36 rfl) hM (by decide) h (fun x6 hx6 h => ?_)
      refine E_aldn (c233 39 rfl) rfl hv1 ?_
      show JX 233 40 [jR i1, v1] [v1, x6, jI z5, jR i3, jR i3] M P
      refine E_cV (pc1 := 43) (c233 40 rfl) (js_t rfl) rfl (k_Lw_fill0 hx6 hv1 hM h) (fun x8 M s7 hM hx8 h => ?_)
      refine L_ps c233 (n := 1) (pc1 := 44) (ls1 := [jR i1, v1]) (st1 := [jR i1, x8, jI z5, jR i3, jR i3]) rfl ?_
      refine E_fV (c233 44 rfl) hM (by decide) h (fun x9 hx9 h => ?_)
      refine E_aldn (c233 47 rfl) rfl hv1 ?_
      show JX 233 48 [jR i1, v1] [v1, x9, x8, jI z5, jR i3, jR i3] M P
      refine E_cV (pc1 := 51) (c233 48 rfl) (js_t rfl) rfl (k_Lw_fill0 hx9 hv1 hM h) (fun x11 M s10 hM hx11 h => ?_)
      refine E_cN (pc1 := 54) (c233 51 rfl) (js_s rfl) rfl (k_Node_init rfl hx8 hx11 hM h) (fun M s12 hM h => ?_)
      exact E_retV (c233 54 rfl) rfl (hQ _ _ _ hM rfl h)
    · refine E_aldn (c233 15 rfl) rfl hv1 ?_
      show JX 233 16 [jR i1, v1] [v1] M P
      refine L_ps c233 (n := 1) (pc1 := 17) (ls1 := [jR i1, v1]) (st1 := [jR i1, v1]) rfl ?_
      refine E_fI (c233 17 rfl) hM (by decide) h (fun z14 h => ?_)
      refine L_ps c233 (n := 2) (pc1 := 23) (ls1 := [jR i1, v1]) (st1 := [jI (wr (z14 - 100)), v1]) rfl ?_
      obtain ⟨i15, e, h⟩ := cR_of h
      subst e
      refine E_rV (c233 23 rfl) hM h (fun x16 hx16 h => ?_)
      refine L_ps c233 (n := 1) (pc1 := 54) (ls1 := [jR i1, jR i15]) (st1 := [x16]) rfl ?_
      exact E_retV (c233 54 rfl) hx16 (hQ _ _ _ hM hx16 h)
