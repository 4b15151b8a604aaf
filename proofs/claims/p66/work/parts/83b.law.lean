/-! THE LIBRARY: strings are added, built and read out -/
section L83b
variable {W : Nat → Prop} {c w : Nat} {s s1 : LSt} {i k n t a b cap q : Nat} {v x : JV} {L : List Int}
theorem c_append {Q : JV → LSt → Prop} (h14 : q < 14) (h : isSB s i a cap L) (hn : L.length + (jlit q).length ≤ 9000) (hl : (dS s).length < 890000) (hq : ∀ s' a' cap', Ap s i a cap L s' a' cap' (jlit q) → Q (jR i) s') : d_SB_append (jR i) (jR (2000000 + q)) s Q := by
  have hk := jlit_ok h14
  unfold d_SB_append
  refine i_R ⟨i_rcv h.1, ?_⟩
  unfold d_ASB_append
  refine i_N1 ⟨(isS_lit h14).1, c_strlen (isS_lit h14) (i_R (i_fI h.1 (by decide) h.2.2.2.1 ⟨i_rcv h.1, ?_⟩))⟩
  rw [show wr ((L.length : Int) + ((jlit q).length : Int)) = ((L.length + (jlit q).length : Nat) : Int) by rw [wr_s (by omega)]; omega]
  refine c_ensure h hn hl fun s1 a1 cap1 hA hcap => ?_
  have hA' := hA
  obtain ⟨p1, p2, p3, p4⟩ := hA
  rw [List.append_nil] at p3
  have hne := p3.ne
  obtain ⟨h1, h2, h3, h4, ⟨h5, h5', h5''⟩, h6, h7, h8⟩ := p3
  have hd1 : dn s1 ≤ 2000000 := by
    have := p2.len
    unfold dn
    omega
  have hal := dh_lt h5
  have hlit : isS s1 (2000000 + q) (jlit q) := isS_lit h14
  refine i_fI h1 (by decide) h4 ⟨i_rcv h1, ?_⟩
  unfold d_ASB_putStringAt
  refine i_R ⟨i_rcv h1, ?_⟩
  unfold d_ASB_inflateIfNeededFor
  rw [if_neg (by decide)]
  try show ite _ _ _
  refine i_R (i_fI h1 (by decide) h3 (i_R ⟨hlit.1, c_coder hlit ?_⟩))
  rw [if_pos rfl]
  try show ite _ _ _
  refine i_fV h1 (by decide) h2 rfl (i_fI h1 (by decide) h3 (i_R ⟨hlit.1, ?_⟩))
  unfold d_String_getBytes
  refine i_R ⟨hlit.1, c_coder hlit ?_⟩
  rw [if_pos rfl]
  try show ite _ _ _
  have hb : 2000000 + q + 1000000 = 3000000 + q := by omega
  refine Or.inl ⟨by omega, Or.inl ⟨by omega, ?_⟩⟩
  rw [hb]
  have hbl : bL s1 (3000000 + q) = some (jlit q).length := by
    unfold bL
    rw [if_pos (by omega), Nat.add_sub_cancel_left]
  have hbv : ∀ j, bV s1 (3000000 + q) j = jI ((jlit q).getD j 0) := fun j => by
    unfold bV
    rw [if_pos (by omega), Nat.add_sub_cancel_left]
  have hdl : dlen s1 (3000000 + q) = some (jlit q).length := by
    unfold dlen
    rw [if_neg (by omega), if_neg (by omega), if_pos (by omega), Nat.add_sub_cancel_left]
  refine i_R ⟨(jlit q).length, hdl, by omega, i_R (i_R ?_)⟩
  rw [jshl0 (by omega)]
  refine ⟨(jlit q).length, cap1, hbl, h5, by omega, by omega, by omega, by omega, by omega, by omega, fun j hj => ?_, ?_⟩
  · rw [hbv]
    rw [Int.toNat_natCast] at hj
    exact jb1 (hk.1 _ (getD_mem (by simpa using hj)))
  · have f3 : Fm (fun j => j = i ∨ j = a1) 0 0 s1 (cpy s1 ((jlit q).length : Int).toNat (L.length : Int).toNat a1 (0 : Int).toNat (3000000 + q)) := Fm.upA (Or.inl (Or.inr rfl))
    have r1 : dh (cpy s1 ((jlit q).length : Int).toNat (L.length : Int).toNat a1 (0 : Int).toNat (3000000 + q)) = dh s1 := rfl
    have r2 : ∀ j, dV (cpy s1 ((jlit q).length : Int).toNat (L.length : Int).toNat a1 (0 : Int).toNat (3000000 + q)) a1 j = if L.length ≤ j ∧ j < L.length + (jlit q).length then jI ((jlit q).getD (j - L.length) 0) else dV s1 a1 j := by
      intro j
      unfold cpy
      rw [dV_upA, if_pos rfl, Int.toNat_natCast, Int.toNat_natCast]
      by_cases hj : L.length ≤ j ∧ j < L.length + (jlit q).length
      · rw [if_pos hj, if_pos hj, hbv]
        simp
      · rw [if_neg hj, if_neg hj]
    have r3 : dV (cpy s1 ((jlit q).length : Int).toNat (L.length : Int).toNat a1 (0 : Int).toNat (3000000 + q)) i = dV s1 i := by
      unfold cpy
      funext j
      rw [dV_upA, if_neg hne]
    generalize cpy s1 ((jlit q).length : Int).toNat (L.length : Int).toNat a1 (0 : Int).toNat (3000000 + q) = s3 at *
    have g1 : dh s3 i = some (14, 4) := by rw [r1]; exact h1
    refine i_fI g1 (by decide) (by rw [r3]; exact h4) (i_pF g1 (by decide) rfl (hq _ a1 cap1 ?_))
    rw [show wr ((L.length : Int) + ((jlit q).length : Int)) = ((L.length + (jlit q).length : Nat) : Int) by rw [wr_s (by omega)]; omega]
    refine Ap.tr (X := []) (Y := jlit q) hA' ⟨Nat.le_refl _, ?_, ?_, Or.inl rfl⟩
    · rw [Nat.sub_self]
      exact f3.tr (Fm.up (W := fun j => j = i ∨ j = a1) (c := 0) (w := 0) (Or.inl (Or.inl rfl))) (fun _ _ => id) (fun _ _ => id) (by omega) (by omega)
    · rw [List.append_nil]
      have hdv : ∀ j, dV (upC s3 i 3 (jI ((L.length + (jlit q).length : Nat) : Int))) a1 j = dV s3 a1 j := fun j => dV_n (by omega)
      refine ⟨g1, ?_, ?_, ?_, ⟨by rw [dh_up, r1]; exact h5, by rw [List.length_append]; exact hcap, h5''⟩, fun j hj => ?_, fun j hj => ?_, fun z hz => ?_⟩
      · rw [dV_n (by omega), r3]
        exact h2
      · rw [dV_n (by omega), r3]
        exact h3
      · rw [dV_s, List.length_append]
      · rw [hdv, r2]
        by_cases e : L.length ≤ j ∧ j < L.length + (jlit q).length
        · rw [if_pos e]
          exact jb1 (hk.1 _ (getD_mem (by omega)))
        · rw [if_neg e]
          exact h6 j hj
      · rw [hdv, r2]
        rw [List.length_append] at hj
        by_cases e : L.length ≤ j
        · rw [if_pos ⟨e, hj⟩, getD_app_r e]
        · rw [if_neg (by omega), getD_app_l (by omega)]
          exact h7 j (by omega)
      · rcases List.mem_append.mp hz with hz | hz
        · exact h8 z hz
        · exact hk.1 z hz
theorem jf14 : (jfields 14).length = 4 := by decide +kernel
theorem jf15 : (jfields 15).length = 4 := by decide +kernel
theorem jd14 : jdef 14 3 = jI 0 := by
  unfold jdef
  rw [if_neg (by decide +kernel)]
/-- a builder is made out of a literal -/
theorem c_SB {Q : Nat → LSt → Prop} (h14 : q < 14) (hl : (dS s).length < 880000) (hq : ∀ s' i a' cap', cap' ≤ 20000 → Fm (fun _ => False) (2 + cap') (4 + 3 * cap') s s' → isSB s' i a' cap' (jlit q) → dn s ≤ i → dn s ≤ a' → Q i s') : nC s 14 (fun i s2 => d_SB_init (jR i) (jR (2000000 + q)) s2 (fun s3 => Q i s3)) := by
  have hk := jlit_ok h14
  refine ⟨by omega, ?_⟩
  rw [jf14]
  have f1 : Fm (fun _ => False) 1 4 s (mk s 14 4 (jdef 14)) := Fm.mk (by decide) (by decide)
  have g1 : dh (mk s 14 4 (jdef 14)) (dn s) = some (14, 4) := dh_mk
  have g2 : dV (mk s 14 4 (jdef 14)) (dn s) 3 = jI 0 := by rw [dV_mk]; exact jd14
  have hd1 : dn (mk s 14 4 (jdef 14)) = dn s + 1 := dn_mk
  have hl1 := f1.len
  generalize mk s 14 4 (jdef 14) = s1 at *
  unfold d_SB_init
  refine i_R ?_
  unfold d_ASB_init d_Object_init
  refine i_R (i_R ⟨(isS_lit h14).1, c_strlen (isS_lit h14) ?_⟩)
  rw [if_pos (by omega), show wr (((jlit q).length : Int) + 16) = (((jlit q).length + 16 : Nat) : Int) by rw [wr_s (by omega)]; omega]
  unfold d_ASB_init_j24
  refine i_R ⟨(isS_lit h14).1, c_coder (isS_lit h14) (i_R (i_pF g1 (by decide) rfl ?_))⟩
  rw [if_pos rfl]
  try show ite _ _ _
  have f2 : Fm (fun j => j = dn s) 0 0 s1 (upC s1 (dn s) 1 (jI 0)) := Fm.up (Or.inl rfl)
  have g3 : dV (upC s1 (dn s) 1 (jI 0)) (dn s) 1 = jI 0 := dV_s
  have g4 : dV (upC s1 (dn s) 1 (jI 0)) (dn s) 3 = jI 0 := by rw [dV_n (by omega)]; exact g2
  have g5 : dh (upC s1 (dn s) 1 (jI 0)) (dn s) = some (14, 4) := g1
  have hd2 : dn (upC s1 (dn s) 1 (jI 0)) = dn s1 := rfl
  have hl2 := f2.len
  generalize upC s1 (dn s) 1 (jI 0) = s2 at *
  refine i_nA (k := (jlit q).length + 16) (by omega) rfl (by omega) ?_
  have f3 : Fm (fun _ => False) 1 ((jlit q).length + 16) s2 (mk s2 101 ((jlit q).length + 16) (fun _ => jI 0)) := Fm.mk (by decide) (Nat.le_refl _)
  have g6 : dh (mk s2 101 ((jlit q).length + 16) (fun _ => jI 0)) (dn s2) = some (101, (jlit q).length + 16) := dh_mk
  have g7 : ∀ j, dV (mk s2 101 ((jlit q).length + 16) (fun _ => jI 0)) (dn s2) j = jI 0 := fun j => dV_mk
  have g8 := f3.dh g5
  have g9 := f3.dV g5 id
  have hl3 := f3.len
  generalize mk s2 101 ((jlit q).length + 16) (fun _ => jI 0) = s3 at *
  refine i_pF g8 (by decide) rfl ⟨i_rcv (n := 4) (by rw [dh_up]; exact g8), ?_⟩
  have f4 : Fm (fun j => j = dn s) 0 0 s3 (upC s3 (dn s) 0 (jR (dn s2))) := Fm.up (Or.inl rfl)
  have hsb : isSB (upC s3 (dn s) 0 (jR (dn s2))) (dn s) (dn s2) ((jlit q).length + 16) [] := by
    refine ⟨g8, dV_s, ?_, ?_, ⟨g6, by simp, by omega⟩, fun j hj => ?_, fun j hj => absurd hj (by simp), fun _ h => absurd h (by simp)⟩
    · rw [dV_n (by omega), g9]
      exact g3
    · rw [dV_n (by omega), g9]
      exact g4
    · rw [dV_n (by omega), g7]
      rfl
  have hl4 := f4.len
  have f5 : Fm (fun j => j = dn s) (1 + 1) (4 + ((jlit q).length + 16)) s (upC s3 (dn s) 0 (jR (dn s2))) := (((f1.tr f2 (W := fun j => j = dn s) (c := 1) (w := 4) (fun _ _ h => h.elim) (fun _ _ => id) (by omega) (by omega)).tr f3 (W := fun j => j = dn s) (c := 1 + 1) (w := 4 + ((jlit q).length + 16)) (fun _ _ => id) (fun _ _ h => h.elim) (by omega) (by omega)).tr f4 (fun _ _ => id) (fun _ _ => id) (by omega) (by omega))
  generalize upC s3 (dn s) 0 (jR (dn s2)) = s4 at *
  unfold d_SB_bridge
  refine i_R ⟨i_rcv hsb.1, c_append h14 hsb (by rw [List.length_nil]; omega) (by omega) fun s' a' cap' hA => ?_⟩
  obtain ⟨p1, p2, p3, p4⟩ := hA
  have hd5 := f5.dn
  refine hq s' (dn s) a' cap' p3.2.2.2.2.1.2.2 ?_ p3 (Nat.le_refl _) (by omega)
  exact f5.tr p2 (fun j hj e => by omega) (fun j hj e => by omega) (by omega) (by omega)
/-- a string that was built: its cell, its row -/
def isStr (s : LSt) (j b : Nat) (L : List Int) : Prop := dh s j = some (15, 4) ∧ dV s j 0 = jR b ∧ dV s j 1 = jI 0 ∧ dh s b = some (101, L.length) ∧ isBy s b L ∧ as7 L ∧ L.length ≤ 9000
theorem isStr.isS {j : Nat} (h : isStr s j b L) (hd : dn s ≤ 1000000) : Jvm.Pilot.@@N@@.isS s j L := isS_dyn h.1 h.2.1 h.2.2.1 h.2.2.2.1 h.2.2.2.2.1 h.2.2.2.2.2.1 h.2.2.2.2.2.2 hd
/-- the string of what was built -/
theorem c_toString {Q : JV → LSt → Prop} (h : isSB s i a cap L) (hl : (dS s).length < 890000) (h9 : L.length ≤ 9000) (hq : ∀ s' j b, Fm (fun _ => False) 2 (4 + L.length) s s' → isStr s' j b L → dn s ≤ j → dn s ≤ b → Q (jR j) s') : d_SB_toString (jR i) s Q := by
  have hne := h.ne
  obtain ⟨h1, h2, h3, h4, ⟨h5, h5', h5''⟩, h6, h7, h8⟩ := h
  unfold d_SB_toString
  refine ⟨by omega, ?_⟩
  rw [jf15]
  have hil := dh_lt h1
  have hal := dh_lt h5
  have f1 : Fm (fun _ => False) 1 4 s (mk s 15 4 (jdef 15)) := Fm.mk (by decide) (by decide)
  have g1 : dh (mk s 15 4 (jdef 15)) (dn s) = some (15, 4) := dh_mk
  have e1 := f1.dh h1
  have e2 := f1.dV h1 id
  have e3 := f1.dh h5
  have e4 := f1.dV h5 id
  have hl1 := f1.len
  have hd1 : dn (mk s 15 4 (jdef 15)) = dn s + 1 := dn_mk
  generalize mk s 15 4 (jdef 15) = s1 at *
  unfold d_String_init
  refine i_R ?_
  unfold d_String_init2 d_Object_init
  refine i_R (i_R ⟨i_rcv e1, ?_⟩)
  unfold d_ASB_getValue
  refine i_R (i_fV (x := jR a) e1 (by decide) (by rw [e2]; exact h2) rfl ⟨i_rcv e1, ?_⟩)
  unfold d_SB_length
  refine i_R ⟨i_rcv e1, ?_⟩
  unfold d_ASB_length
  refine i_R (i_fI e1 (by decide) (by rw [e2]; exact h4) ⟨i_rcv e1, ?_⟩)
  unfold d_ASB_isLatin1
  rw [if_neg (by decide)]
  try show ite _ _ _
  refine i_R (i_fI e1 (by decide) (by rw [e2]; exact h3) ?_)
  rw [if_pos rfl]
  try show ite _ _ _
  rw [if_neg (by decide)]
  try show ite _ _ _
  refine i_pF g1 (by decide) rfl ?_
  have f2 : Fm (fun j => j = dn s) 0 0 s1 (upC s1 (dn s) 1 (jI 0)) := Fm.up (Or.inl rfl)
  have g2 : dh (upC s1 (dn s) 1 (jI 0)) (dn s) = some (15, 4) := g1
  have g3 : dV (upC s1 (dn s) 1 (jI 0)) (dn s) 1 = jI 0 := dV_s
  have e5 : dh (upC s1 (dn s) 1 (jI 0)) a = some (101, cap) := e3
  have e6 : dV (upC s1 (dn s) 1 (jI 0)) a = dV s a := by
    funext j
    rw [dV_n (by omega), e4]
  have hl2 := f2.len
  have hd2 : dn (upC s1 (dn s) 1 (jI 0)) = dn s + 1 := hd1
  generalize upC s1 (dn s) 1 (jI 0) = s2 at *
  have hdn : dn s ≤ 900000 := by unfold dn; omega
  have fin : ∀ s3, Fm (fun _ => False) 1 L.length s2 s3 → dh s3 (dn s2) = some (101, L.length) → (∀ j, j < L.length → dV s3 (dn s2) j = dV s a j) → pF s3 (dn s) 15 0 2 (jR (dn s2)) (fun s20 => Q (jR (dn s)) s20) := by
    intro s3 f3 q1 q2
    have q3 := f3.dh g2
    have q4 := f3.dV g2 id
    have hd3 := f3.dn
    refine i_pF q3 (by decide) rfl (hq _ (dn s) (dn s2) ?_ ⟨q3, dV_s, by rw [dV_n (by omega), q4]; exact g3, q1, fun j hj => ?_, h8, h9⟩ (Nat.le_refl _) (by omega))
    · exact ((f1.tr f2 (W := fun j => j = dn s) (c := 1) (w := 4) (fun _ _ h => h.elim) (fun _ _ => id) (by omega) (by omega)).tr f3 (W := fun j => j = dn s) (c := 2) (w := 4 + L.length) (fun _ _ => id) (fun _ _ h => h.elim) (by omega) (by omega)).tr (Fm.up (W := fun j => j = dn s) (c := 0) (w := 0) (Or.inl rfl)) (fun j hj e => by omega) (fun j hj e => by omega) (by omega) (by omega)
    · rw [dV_n (by omega), q2 j hj]
      exact h7 j hj
  unfold d_Arrays_copyOfRange
  rw [if_pos rfl]
  try show ite _ _ _
  refine i_R (i_aL e5 (by decide) (by omega) (by omega) ?_)
  by_cases hc : (L.length : Int) = (cap : Int)
  · rw [if_pos hc]
    have hc : L.length = cap := by omega
    subst hc
    refine ⟨L.length, e5, by omega, by omega, by rw [e6]; exact h6, ⟨L.length, dh_mk⟩, ?_⟩
    exact fin _ (Fm.mk (by decide) (Nat.le_refl _)) dh_mk fun j hj => by rw [dV_mk, e6]
  · rw [if_neg hc]
    unfold d_Arrays_copyOfRange_j10 d_Arrays_copyOfRangeByte d_Arrays_checkLength
    rw [if_neg (by omega), Int.sub_zero, wr_s (by omega)]
    refine i_nA (k := L.length) (by omega) rfl (by omega) ?_
    have f3 : Fm (fun _ => False) 1 L.length s2 (mk s2 101 L.length (fun _ => jI 0)) := Fm.mk (by decide) (Nat.le_refl _)
    have q1 : dh (mk s2 101 L.length (fun _ => jI 0)) (dn s2) = some (101, L.length) := dh_mk
    have q2 := f3.dh e5
    have q3 := f3.dV e5 id
    have hd3 : dn (mk s2 101 L.length (fun _ => jI 0)) = dn s2 + 1 := dn_mk
    generalize mk s2 101 L.length (fun _ => jI 0) = s3 at *
    refine i_R (i_aL q2 (by decide) (by omega) (by omega) ?_)
    rw [Int.sub_zero, wr_s (z := (cap : Int)) (by omega)]
    unfold d_YMath_min
    rw [if_pos (by omega)]
    try show ite _ _ _
    have hbl : bL s3 a = some cap := by
      unfold bL
      rw [if_neg (by omega), q2]
      exact if_pos rfl
    have hbv : ∀ k, bV s3 a k = dV s a k := fun k => by
      unfold bV
      rw [if_neg (by omega), q3, e6]
    refine ⟨cap, L.length, hbl, q1, by omega, by omega, by omega, by omega, by omega, by omega, fun j hj => ?_, ?_⟩
    · rw [hbv]
      rw [Int.toNat_natCast] at hj
      exact h6 _ (by simp; omega)
    · refine fin _ ?_ q1 fun j hj => ?_
      · exact f3.tr (Fm.upA (W := fun j => j = dn s2) (c := 0) (w := 0) (Or.inl rfl)) (fun _ _ => id) (fun j hj e => by omega) (by omega) (by omega)
      · unfold cpy
        rw [dV_upA, if_pos rfl, if_pos ⟨by simp, by simpa using hj⟩, hbv]
        simp
end L83b
