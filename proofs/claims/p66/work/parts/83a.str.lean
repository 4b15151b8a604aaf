/-! THE LIBRARY: strings and what builds them -/
theorem jshr0 {x : Int} (h : -2147483648 ≤ x ∧ x < 2147483648) : jshr x 0 = x := by
  rw [jshr_eq (s := 0) (by decide) (by decide), BitVec.toInt_ofInt]
  show x.bmod 4294967296 / 1 = x
  rw [Int.ediv_one]
  exact wr_s h
theorem jshl0 {x : Int} (h : -2147483648 ≤ x ∧ x < 2147483648) : jshl x 0 = x := by
  unfold jshl
  rw [show (Int32.ofInt 0 &&& 31 : Int32) = 0 from by decide, Int32.shiftLeft_zero, Int32.toInt_ofInt]
  exact wr_s h
theorem jch {z : Int} (h : 0 ≤ z ∧ z ≤ 127) : jc16 (jand z 255) = z := by
  have k : ∀ i : Fin 128, jc16 (jand ((i : Nat) : Int) 255) = ((i : Nat) : Int) := by decide +kernel
  have := k ⟨z.toNat, by omega⟩
  rw [show ((⟨z.toNat, by omega⟩ : Fin 128) : Nat) = z.toNat from rfl, show ((z.toNat : Nat) : Int) = z by omega] at this
  exact this
theorem jb8_id {z : Int} (h : 0 ≤ z ∧ z ≤ 127) : jb8 z = z := by
  have k : ∀ i : Fin 128, jb8 ((i : Nat) : Int) = ((i : Nat) : Int) := by decide +kernel
  have := k ⟨z.toNat, by omega⟩
  rw [show ((⟨z.toNat, by omega⟩ : Fin 128) : Nat) = z.toNat from rfl, show ((z.toNat : Nat) : Int) = z by omega] at this
  exact this
def as7 (L : List Int) : Prop := ∀ c, c ∈ L → 0 ≤ c ∧ c ≤ 127
def isBy (s : LSt) (a : Nat) (L : List Int) : Prop := ∀ k, k < L.length → dV s a k = jI (L.getD k 0)
theorem jlit_ok {q : Nat} (h : q < 14) : as7 (jlit q) ∧ 1 ≤ (jlit q).length ∧ (jlit q).length ≤ 60 := by
  have k : ∀ i : Fin 14, (∀ c, c ∈ jlit i → 0 ≤ c ∧ c ≤ 127) ∧ 1 ≤ (jlit i).length ∧ (jlit i).length ≤ 60 := by decide +kernel
  exact k ⟨q, h⟩
section L83
variable {W : Nat → Prop} {c w : Nat} {s s1 : LSt} {i k n t a b cap q : Nat} {v x : JV} {L : List Int}
/-- a string: its row of bytes -/
def isVal (s : LSt) (b : Nat) (L : List Int) : Prop := dlen s b = some L.length ∧ ∀ k, k < L.length → ∀ K : Int → Prop, K (L.getD k 0) → rB s b (k : Int) K
def isS (s : LSt) (i : Nat) (L : List Int) : Prop := rcv s i 15 ∧ (∃ b, (∀ K : JV → Prop, K (jR b) → fSv s i K) ∧ isVal s b L) ∧ (∀ K : Int → Prop, K 0 → fSc s i K) ∧ as7 L ∧ L.length ≤ 9000
theorem isS_lit (h : q < 14) : isS s (2000000 + q) (jlit q) := by
  have hk := jlit_ok h
  refine ⟨Or.inl ⟨rfl, by omega, by omega⟩, ⟨3000000 + q, fun K hK => Or.inl ⟨by omega, by rw [show 2000000 + q + 1000000 = 3000000 + q by omega]; exact hK⟩, ?_, fun j hj K hK => Or.inl ⟨by omega, by omega, ?_, ?_⟩⟩, fun K hK => Or.inl ⟨by omega, hK⟩, hk.1, by omega⟩
  · unfold dlen
    rw [if_neg (by omega), if_neg (by omega), if_pos (by omega), Nat.add_sub_cancel_left]
  · rw [Nat.add_sub_cancel_left, Int.toNat_natCast]
    exact hj
  · rw [Nat.add_sub_cancel_left, Int.toNat_natCast]
    exact hK
theorem isS_dyn (h1 : dh s i = some (15, 4)) (h2 : dV s i 0 = jR b) (h3 : dV s i 1 = jI 0) (h4 : dh s b = some (101, L.length)) (h5 : isBy s b L) (h7 : as7 L) (h8 : L.length ≤ 9000) (hd : dn s ≤ 1000000) : isS s i L := by
  refine ⟨Or.inr ⟨4, h1⟩, ⟨b, fun K hK => Or.inr (i_fV h1 (by decide) h2 rfl hK), dlen_of h4 (by decide) hd, fun j hj K hK => Or.inr ⟨L.length, L.getD j 0, h4, by omega, by rw [Int.toNat_natCast]; exact hj, by rw [Int.toNat_natCast]; exact h5 j hj, hK⟩⟩, fun K hK => Or.inr (i_fI h1 (by decide) h3 hK), h7, h8⟩
theorem c_coder {Q : Int → LSt → Prop} (h : isS s i L) (hq : Q 0 s) : d_String_coder (jR i) s Q := by
  unfold d_String_coder
  rw [if_neg (by decide)]
  exact i_R (h.2.2.1 _ ⟨by decide, hq⟩)
theorem c_strlen {Q : Int → LSt → Prop} (h : isS s i L) (hq : Q (L.length : Int) s) : d_YString_length (jR i) s Q := by
  obtain ⟨h1, ⟨b, h2, h3, h4⟩, h5, h6, h7⟩ := h
  unfold d_YString_length
  refine i_R (h2 _ (i_R ⟨L.length, h3, by omega, h1, c_coder (L := L) ⟨h1, ⟨b, h2, h3, h4⟩, h5, h6, h7⟩ ?_⟩))
  rw [jshr0 (by omega)]
  exact hq
theorem c_charAt {Q : Int → LSt → Prop} (h : isS s i L) (hk : k < L.length) (hq : Q (L.getD k 0) s) : d_YString_charAt (jR i) (k : Int) s Q := by
  obtain ⟨h1, ⟨b, h2, h3, h4⟩, h5, h6, h7⟩ := h
  have hc := h6 _ (getD_mem (d := 0) hk)
  unfold d_YString_charAt
  refine i_R ⟨h1, ?_⟩
  unfold d_String_isLatin1
  rw [if_neg (by decide)]
  refine i_R (h5 _ ?_)
  rw [if_pos rfl]
  try show ite _ _ _
  rw [if_neg (by decide)]
  refine h2 _ ?_
  unfold d_StringLatin1_charAt d_String_checkIndex
  refine i_R ⟨L.length, h3, by omega, ⟨by omega, by omega⟩, h4 k hk _ ?_⟩
  rw [jch hc]
  exact ⟨by omega, by omega, hq⟩
/-! what builds strings -/
def isSB (s : LSt) (i a cap : Nat) (L : List Int) : Prop := dh s i = some (14, 4) ∧ dV s i 0 = jR a ∧ dV s i 1 = jI 0 ∧ dV s i 3 = jI (L.length : Int) ∧ (dh s a = some (101, cap) ∧ L.length ≤ cap ∧ cap ≤ 20000) ∧ (∀ k, k < cap → jby1 (dV s a k) = true) ∧ isBy s a L ∧ as7 L
theorem isSB.ne (h : isSB s i a cap L) : ¬ i = a := by
  obtain ⟨h1, -, -, -, h2, -⟩ := h
  rintro rfl
  rw [h1] at h2
  cases h2.1
theorem isSB.fm (h : isSB s i a cap L) (hf : Fm W c w s s1) (hi : ¬ W i) (ha : ¬ W a) : isSB s1 i a cap L := by
  obtain ⟨h1, h2, h3, h4, h5, h6, h7, h8⟩ := h
  have e := hf.dV h1 hi
  have e' := hf.dV h5.1 ha
  exact ⟨hf.dh h1, by rw [e]; exact h2, by rw [e]; exact h3, by rw [e]; exact h4, ⟨hf.dh h5.1, h5.2⟩, by rw [e']; exact h6, fun k hk => by rw [e']; exact h7 k hk, h8⟩
/-- from one state of a builder to a later one: X is added -/
def Ap (s : LSt) (i a cap : Nat) (L : List Int) (s1 : LSt) (a1 cap1 : Nat) (X : List Int) : Prop := cap ≤ cap1 ∧ Fm (fun j => j = i ∨ j = a) (cap1 - cap) (2 * (cap1 - cap)) s s1 ∧ isSB s1 i a1 cap1 (L ++ X) ∧ (a1 = a ∨ dn s ≤ a1)
theorem Ap.rfl' (h : isSB s i a cap L) : Ap s i a cap L s a cap [] := ⟨Nat.le_refl _, Fm.rfl', by rw [List.append_nil]; exact h, Or.inl rfl⟩
theorem Ap.tr {s2 : LSt} {a1 a2 cap1 cap2 : Nat} {X Y : List Int} (h1 : Ap s i a cap L s1 a1 cap1 X) (h2 : Ap s1 i a1 cap1 (L ++ X) s2 a2 cap2 Y) : Ap s i a cap L s2 a2 cap2 (X ++ Y) := by
  obtain ⟨p1, p2, p3, p4⟩ := h1
  obtain ⟨q1, q2, q3, q4⟩ := h2
  have hd := p2.dn
  exact ⟨by omega, p2.tr q2 (fun _ _ => id) (fun j hj e => by omega) (by omega) (by omega), by rw [← List.append_assoc]; exact q3, by omega⟩
/-- room is made -/
theorem c_ensure {Q : LSt → Prop} {need : Nat} (h : isSB s i a cap L) (hn : need ≤ 9000) (hl : (dS s).length < 890000) (hq : ∀ s' a' cap', Ap s i a cap L s' a' cap' [] → need ≤ cap' → Q s') : d_ASB_ensureCapacityInternal (jR i) (need : Int) s Q := by
  have hsb := h
  obtain ⟨h1, h2, h3, h4, ⟨h5, h5', h5''⟩, h6, h7, h8⟩ := h
  have hdn : dn s ≤ 900000 := by unfold dn; omega
  unfold d_ASB_ensureCapacityInternal
  refine i_R (i_fV h1 (by decide) h2 rfl (i_R (i_aL h5 (by decide) (by omega) (by omega) (i_fI h1 (by decide) h3 ?_))))
  rw [jshr0 (by omega), wr_s (by omega)]
  by_cases hc : need ≤ cap
  · rw [if_neg (by omega)]
    exact hq s a cap (Ap.rfl' hsb) hc
  · rw [if_pos (by omega)]
    refine i_fV h1 (by decide) h2 rfl ⟨i_rcv h1, ?_⟩
    unfold d_ASB_newCapacity
    refine i_R (i_fV h1 (by decide) h2 rfl (i_R (i_aL h5 (by decide) (by omega) (by omega) (i_fI h1 (by decide) h3 (i_fI h1 (by decide) h3 ?_)))))
    rw [jshl0 (by omega), jshl0 (x := 2) (by omega), wr_s (z := (need : Int) - (cap : Int)) (by omega), wr_s (z := (cap : Int) + 2) (by omega)]
    obtain ⟨m, hm, hm1, hm2⟩ : ∃ m : Nat, (∀ K : Int → LSt → Prop, K ((cap : Int) + (m : Int)) s → d_ArraysSupport_newLength (cap : Int) ((need : Int) - (cap : Int)) ((cap : Int) + 2) s K) ∧ (need ≤ cap + m ∧ cap + 2 ≤ m) ∧ cap + m ≤ 20000 := by
      by_cases hx : (need : Int) - (cap : Int) < (cap : Int) + 2
      · refine ⟨cap + 2, fun K hK => ?_, by omega, by omega⟩
        unfold d_ArraysSupport_newLength d_YMath_max
        rw [if_pos hx]
        try show ite _ _ _
        rw [wr_s (by omega), if_pos (by omega), if_neg (by omega)]
        exact hK
      · refine ⟨need - cap, fun K hK => ?_, by omega, by omega⟩
        unfold d_ArraysSupport_newLength d_YMath_max
        rw [if_neg hx]
        try show ite _ _ _
        rw [wr_s (by omega), if_pos (by omega), if_neg (by omega), show (need : Int) - (cap : Int) = ((need - cap : Nat) : Int) by omega]
        exact hK
    refine hm _ ?_
    rw [if_neg (by omega)]
    refine i_fI h1 (by decide) h3 ?_
    rw [jshr0 (by omega)]
    refine i_fI h1 (by decide) h3 ?_
    rw [jshl0 (by omega)]
    unfold d_Arrays_copyOf
    refine i_R (i_aL h5 (by decide) (by omega) (by omega) ?_)
    rw [if_neg (by omega)]
    refine i_nA (k := cap + m) (by omega) (by omega) (by omega) ?_
    have f2 : Fm (fun j => j = i ∨ j = a) 1 (cap + m) s (mk s 101 (cap + m) (fun _ => jI 0)) := Fm.mk (by decide) (by omega)
    have f2' : Fm (fun _ => False) 1 (cap + m) s (mk s 101 (cap + m) (fun _ => jI 0)) := Fm.mk (by decide) (by omega)
    have q1 : dh (mk s 101 (cap + m) (fun _ => jI 0)) (dn s) = some (101, cap + m) := dh_mk
    have qv : ∀ j, dV (mk s 101 (cap + m) (fun _ => jI 0)) (dn s) j = jI 0 := fun j => dV_mk
    have hd2 : dn (mk s 101 (cap + m) (fun _ => jI 0)) = dn s + 1 := dn_mk
    have q3 := f2.dh h1
    have q4 := f2'.dV h1 id
    have q5 := f2.dh h5
    have q6 := f2'.dV h5 id
    generalize mk s 101 (cap + m) (fun _ => jI 0) = s2 at *
    have hil := dh_lt h1
    have hal := dh_lt h5
    refine i_aL q5 (by decide) (by omega) (by omega) ?_
    unfold d_YMath_min
    rw [if_neg (by omega)]
    have hbl : bL s2 a = some cap := by
      unfold bL
      rw [if_neg (by omega), q5]
      exact if_pos rfl
    have hbv : ∀ k, bV s2 a k = dV s a k := fun k => by
      unfold bV
      rw [if_neg (by omega), q6]
    refine ⟨cap, cap + m, hbl, q1, by omega, by omega, by omega, by omega, by omega, by omega, fun j hj => ?_, ?_⟩
    · rw [hbv]
      exact h6 _ (by omega)
    · have f3 : Fm (fun j => j = i ∨ j = a) 1 (cap + m) s (cpy s2 ((cap : Int)).toNat (0 : Int).toNat (dn s) (0 : Int).toNat a) := f2.tr (Fm.upA (W := fun j => j = dn s) (c := 0) (w := 0) (Or.inl rfl)) (fun _ _ => id) (fun j hj e => by omega) (by omega) (by omega)
      have r1 : dh (cpy s2 ((cap : Int)).toNat (0 : Int).toNat (dn s) (0 : Int).toNat a) = dh s2 := rfl
      have r2 : ∀ j, dV (cpy s2 ((cap : Int)).toNat (0 : Int).toNat (dn s) (0 : Int).toNat a) (dn s) j = if j < cap then dV s a j else jI 0 := by
        intro j
        unfold cpy
        rw [dV_upA, if_pos rfl, Int.toNat_natCast]
        by_cases hj : j < cap
        · rw [if_pos ⟨by simp, by simpa using hj⟩, if_pos hj, hbv]
          simp
        · rw [if_neg (by simp; omega), if_neg hj]
          exact qv j
      have r3 : dV (cpy s2 ((cap : Int)).toNat (0 : Int).toNat (dn s) (0 : Int).toNat a) i = dV s i := by
        unfold cpy
        funext j
        rw [dV_upA, if_neg (by omega), q4]
      generalize cpy s2 ((cap : Int)).toNat (0 : Int).toNat (dn s) (0 : Int).toNat a = s3 at *
      refine i_pF (n := 4) (by rw [r1]; exact q3) (by decide) rfl (hq _ (dn s) (cap + m) ⟨by omega, ?_, ?_, Or.inr (Nat.le_refl _)⟩ hm1.1)
      · exact f3.tr (Fm.up (W := fun j => j = i) (c := 0) (w := 0) (Or.inl rfl)) (fun _ _ => id) (fun j hj e => Or.inl e) (by omega) (by omega)
      · have hne : ∀ j, ¬ (dn s = i ∧ j = 0) := fun j e => by omega
        refine ⟨by rw [dh_up, r1]; exact q3, dV_s, ?_, ?_, ⟨by rw [dh_up, r1]; exact q1, ?_, by omega⟩, fun j hj => ?_, fun j hj => ?_, ?_⟩
        · rw [dV_n (by omega), r3]
          exact h3
        · rw [dV_n (by omega), r3, List.append_nil]
          exact h4
        · rw [List.append_nil]
          omega
        · rw [dV_n (hne j), r2]
          by_cases hj2 : j < cap
          · rw [if_pos hj2]
            exact h6 j hj2
          · rw [if_neg hj2]
            rfl
        · rw [List.append_nil] at hj ⊢
          rw [dV_n (hne j), r2, if_pos (by omega)]
          exact h7 j hj
        · rw [List.append_nil]
          exact h8
theorem jb1 {z : Int} (h : 0 ≤ z ∧ z ≤ 127) : jby1 (jI z) = true := by
  show decide (-128 ≤ z ∧ z ≤ 127) = true
  exact decide_eq_true (by omega)
/-- a letter is added -/
theorem c_appendC {Q : JV → LSt → Prop} {ch : Int} (h : isSB s i a cap L) (hn : L.length + 1 ≤ 9000) (hl : (dS s).length < 890000) (hc : 0 ≤ ch ∧ ch ≤ 127) (hq : ∀ s' a' cap', Ap s i a cap L s' a' cap' [ch] → Q (jR i) s') : d_SB_appendC (jR i) ch s Q := by
  unfold d_SB_appendC
  refine i_R ⟨i_rcv h.1, ?_⟩
  unfold d_ASB_appendC
  refine i_R (i_fI h.1 (by decide) h.2.2.2.1 ⟨i_rcv h.1, ?_⟩)
  rw [show wr ((L.length : Int) + 1) = ((L.length + 1 : Nat) : Int) by rw [wr_s (by omega)]; omega]
  refine c_ensure h hn hl fun s1 a1 cap1 hA hcap => ?_
  have hA' := hA
  obtain ⟨p1, p2, p3, p4⟩ := hA
  rw [List.append_nil] at p3
  have hne := p3.ne
  obtain ⟨h1, h2, h3, h4, ⟨h5, h5', h5''⟩, h6, h7, h8⟩ := p3
  refine ⟨i_rcv h1, ?_⟩
  unfold d_ASB_isLatin1
  rw [if_neg (by decide)]
  refine i_R (i_fI h1 (by decide) h3 ?_)
  rw [if_pos rfl]
  try show ite _ _ _
  rw [if_neg (by decide)]
  unfold d_StringLatin1_canEncode
  rw [if_neg (by omega)]
  try show ite _ _ _
  rw [if_neg (by decide)]
  refine i_fV h1 (by decide) h2 rfl (i_fI h1 (by decide) h4 (i_pF h1 (by decide) rfl (i_R ?_)))
  rw [show wr ((L.length : Int) + 1) = ((L.length + 1 : Nat) : Int) by rw [wr_s (by omega)]; omega, jb8_id hc, jb8_id hc]
  refine i_wA (k := L.length) (n := cap1) (by rw [dh_up]; exact h5) rfl (by omega) (hq _ a1 cap1 ?_)
  refine Ap.tr (X := []) (Y := [ch]) hA' ⟨Nat.le_refl _, ?_, ?_, Or.inl rfl⟩
  · rw [Nat.sub_self]
    exact (Fm.up (W := fun j => j = i ∨ j = a1) (c := 0) (w := 0) (Or.inl (Or.inl rfl))).tr (Fm.up (W := fun j => j = i ∨ j = a1) (c := 0) (w := 0) (Or.inl (Or.inr rfl))) (fun _ _ => id) (fun _ _ => id) (by omega) (by omega)
  · rw [List.append_nil]
    refine ⟨h1, ?_, ?_, ?_, ⟨h5, by rw [List.length_append]; exact hcap, h5''⟩, fun j hj => ?_, fun j hj => ?_, fun z hz => ?_⟩
    · rw [dV_n (by omega), dV_n (by omega)]
      exact h2
    · rw [dV_n (by omega), dV_n (by omega)]
      exact h3
    · rw [dV_n (by omega), dV_s, List.length_append]
      rfl
    · by_cases e : j = L.length
      · subst e
        rw [dV_s]
        exact jb1 hc
      · rw [dV_n (by omega), dV_n (by omega)]
        exact h6 j hj
    · by_cases e : j = L.length
      · subst e
        rw [dV_s, getD_app_r (Nat.le_refl _), Nat.sub_self]
        rfl
      · rw [List.length_append] at hj
        simp only [List.length_cons, List.length_nil] at hj
        rw [dV_n (by omega), dV_n (by omega), getD_app_l (by omega)]
        exact h7 j (by omega)
    · rcases List.mem_append.mp hz with hz | hz
      · exact h8 z hz
      · rw [List.mem_singleton] at hz
        rw [hz]
        exact hc
end L83
