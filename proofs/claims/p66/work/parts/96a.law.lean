/-! THE LAW'S OWN METHODS: terms are written -/
/-- the text of a tree of at most n levels -/
def TW : Nat → List Int → List Int → Prop
  | 0, _, _ => False
  | n + 1, L, S => (∃ k : Nat, k < 2 ∧ L = [-1 - (k : Int)] ∧ S = [65 + (k : Int)]) ∨ (∃ k : Nat, (k = 2 ∨ k = 3) ∧ L = [4 * (k : Int)] ∧ S = [95 + (k : Int)])
    ∨ (∃ X SX, TW n X SX ∧ L = 5 :: X ∧ S = [103] ++ ([40] ++ (SX ++ [41]))) ∨ ∃ X Y SX SY, TW n X SX ∧ TW n Y SY ∧ L = 2 :: (X ++ Y) ∧ S = [102] ++ ([40] ++ (SX ++ ([44] ++ (SY ++ [41]))))
theorem TW.len : ∀ {n : Nat} {L S : List Int}, TW n L S → S.length ≤ 4 * L.length := by
  intro n
  induction n with
  | zero => exact fun h => h.elim
  | succ n ih =>
    rintro L S (⟨k, _, rfl, rfl⟩ | ⟨k, _, rfl, rfl⟩ | ⟨X, SX, h, rfl, rfl⟩ | ⟨X, Y, SX, SY, h1, h2, rfl, rfl⟩)
    · simp
    · simp
    · have := ih h
      simp only [List.length_append, List.length_cons, List.length_nil]
      omega
    · have := ih h1
      have := ih h2
      simp only [List.length_append, List.length_cons, List.length_nil]
      omega
section L83c
variable {W : Nat → Prop} {c w : Nat} {s s1 : LSt} {i k n t a b cap q : Nat} {v x : JV} {L : List Int}
theorem Ap.nd {X : List Int} {a1 cap1 j m : Nat} (h : Ap s i a cap L s1 a1 cap1 X) (hs : isSB s i a cap L) (hj : dh s j = some (11, m)) : dh s1 j = some (11, m) ∧ dV s1 j = dV s j := by
  refine ⟨h.2.1.dh hj, h.2.1.dV hj ?_⟩
  rintro (rfl | rfl)
  · rw [hs.1] at hj
    cases hj
  · rw [hs.2.2.2.2.1.1] at hj
    cases hj
theorem IsN.ap {X T : List Int} {a1 cap1 : Nat} (h : IsN n s v T) (hs : isSB s i a cap L) (hA : Ap s i a cap L s1 a1 cap1 X) : IsN n s1 v T := h.st fun _ hj => hA.nd hs hj
theorem Ap.ln {X : List Int} {a1 cap1 : Nat} (h : Ap s i a cap L s1 a1 cap1 X) (hl : (dS s).length < 870000 + cap) : (dS s1).length < 870000 + cap1 := by
  have := h.2.1.len
  have := h.1
  omega
theorem isSB.ln (h : isSB s i a cap L) (hl : (dS s).length < 870000 + cap) : (dS s).length < 890000 := by
  have := h.2.2.2.2.1.2.2
  omega
theorem jvar {k : Nat} (h : k < 2) : jc16 (wr (wr (65 + (100 + (k : Int))) - 100)) = 65 + (k : Int) := by
  have : k = 0 ∨ k = 1 := by omega
  rcases this with rfl | rfl <;> decide +kernel
theorem c_write : ∀ (n m : Nat) {s : LSt} {v : JV} {L L0 : List Int} {i a cap : Nat} {Q : LSt → Prop}, n ≤ m → n ≤ 8 → IsN n s v L → isSB s i a cap L0 → L0.length + 4 * L.length ≤ 8000 → (dS s).length < 870000 + cap → (∀ s' a' cap' S, TW n L S → Ap s i a cap L0 s' a' cap' S → Q s') → d_Lw_write m v (jR i) s Q := by
  intro n
  induction n with
  | zero => exact fun _ _ _ _ _ _ _ _ _ _ _ h => h.elim
  | succ n ih =>
    intro m s v L L0 i a cap Q hm hn hv hs hlen hl h
    cases m with
    | zero => omega
    | succ m =>
      obtain ⟨i0, rfl, hd, hv⟩ := hv
      show d_Lw_write_F (d_Lw_write m) (jR i0) (jR i) s Q
      unfold d_Lw_write_F
      refine i_R ?_
      -- the letter of a symbol
      have letter : ∀ k : Nat, k < 4 → dV s i0 0 = jI (k : Int) → ∀ (K : Nat → LSt → Prop), (∀ s1 a1 cap1, Ap s i a cap L0 s1 a1 cap1 [(jlit 9).getD k 0] → K i s1) → fI s i0 11 0 (fun z3 => rcv s 2000009 15 ∧ d_YString_charAt (jR 2000009) z3 s (fun r5 s4 => cR (jR i) (fun i6 => rcv s4 i6 14 ∧ d_SB_appendC (jR i6) r5 s4 (fun _ s7 => K i6 s7)))) := by
        intro k hk h0 K hK
        have h9 : isS s 2000009 (jlit 9) := isS_lit (q := 9) (by decide)
        have hc : 0 ≤ (jlit 9).getD k 0 ∧ (jlit 9).getD k 0 ≤ 127 := (jlit_ok (q := 9) (by decide)).1 _ (getD_mem hk)
        exact i_fI hd (by decide) h0 ⟨h9.1, c_charAt h9 hk (i_R ⟨i_rcv hs.1, c_appendC hs (by omega) (hs.ln hl) hc fun s1 a1 cap1 hA => hK s1 a1 cap1 hA⟩)⟩
      rcases hv with ⟨k, hk, h0, h1, h2, rfl⟩ | ⟨k, hk, h0, h1, h2, rfl⟩ | ⟨X, h0, hX, h2, rfl⟩ | ⟨X, Y, h0, hX, hY, rfl⟩
      · refine i_fI hd (by decide) h0 ?_
        rw [if_neg (by omega)]
        refine i_fI hd (by decide) h0 (i_R ⟨i_rcv hs.1, ?_⟩)
        rw [jvar hk]
        exact c_appendC hs (by omega) (hs.ln hl) (by omega) fun s1 a1 cap1 hA => h s1 a1 cap1 _ (Or.inl ⟨k, hk, rfl, rfl⟩) hA
      · refine i_fI hd (by decide) h0 ?_
        rw [if_pos (by omega)]
        refine letter k (by omega) h0 _ fun s1 a1 cap1 hA => ?_
        have hN := hA.nd hs hd
        refine i_fV (x := jX .null) hN.1 (by decide) (by rw [hN.2]; exact h1) rfl (i_N0 (h s1 a1 cap1 _ (Or.inr (Or.inl ⟨k, hk, rfl, rfl⟩)) ?_))
        have e : (jlit 9).getD k 0 = 95 + (k : Int) := by rcases hk with rfl | rfl <;> rfl
        rw [← e]
        exact hA
      · refine i_fI hd (by decide) h0 ?_
        rw [if_pos (by decide)]
        simp only [List.length_cons] at hlen
        have hXl := hX.nl
        refine letter 1 (by decide) h0 _ fun s1 a1 cap1 hA => ?_
        have hN := hA.nd hs hd
        obtain ⟨hX1, jx, hjx, -⟩ := hXl
        refine i_fV (x := dV s i0 1) hN.1 (by decide) (by rw [hN.2]) hX1 ?_
        rw [hjx]
        have hs1 := hA.2.2.1
        refine i_N1 ⟨i_rcv hs1.1, c_appendC hs1 (by rw [List.length_append, List.length_singleton]; omega) (hs1.ln (hA.ln hl)) (by decide) fun s2 a2 cap2 hB => ?_⟩
        have hN2 := hB.nd hs1 hN.1
        refine i_fV (x := dV s i0 1) hN2.1 (by decide) (by rw [hN2.2, hN.2]) hX1 ?_
        have hs2 := hB.2.2.1
        refine ih m (by omega) (by omega) ((hX.ap hs hA).ap hs1 hB) hs2 (by simp only [List.length_append, List.length_singleton]; omega) (hB.ln (hA.ln hl)) fun s3 a3 cap3 SX hTX hC => ?_
        have hN3 := hC.nd hs2 hN2.1
        have hs3 := hC.2.2.1
        have hTl := hTX.len
        refine i_fV (x := jX .null) hN3.1 (by decide) (by rw [hN3.2, hN2.2, hN.2]; exact h2) rfl (i_N0 ?_)
        unfold d_Lw_write_j85
        refine i_R ⟨i_rcv hs3.1, c_appendC hs3 (by simp only [List.length_append, List.length_singleton]; omega) (hs3.ln (hC.ln (hB.ln (hA.ln hl)))) (by decide) fun s4 a4 cap4 hD => ?_⟩
        exact h s4 a4 cap4 _ (Or.inr (Or.inr (Or.inl ⟨X, SX, hTX, rfl, rfl⟩))) (hA.tr (hB.tr (hC.tr hD)))
      · refine i_fI hd (by decide) h0 ?_
        rw [if_pos (by decide)]
        simp only [List.length_cons, List.length_append] at hlen
        have hXl := hX.nl
        have hYl := hY.nl
        refine letter 0 (by decide) h0 _ fun s1 a1 cap1 hA => ?_
        have hN := hA.nd hs hd
        obtain ⟨hX1, jx, hjx, -⟩ := hXl
        obtain ⟨hY1, jy, hjy, -⟩ := hYl
        refine i_fV (x := dV s i0 1) hN.1 (by decide) (by rw [hN.2]) hX1 ?_
        rw [hjx]
        have hs1 := hA.2.2.1
        refine i_N1 ⟨i_rcv hs1.1, c_appendC hs1 (by rw [List.length_append, List.length_singleton]; omega) (hs1.ln (hA.ln hl)) (by decide) fun s2 a2 cap2 hB => ?_⟩
        have hN2 := hB.nd hs1 hN.1
        refine i_fV (x := dV s i0 1) hN2.1 (by decide) (by rw [hN2.2, hN.2]) hX1 ?_
        have hs2 := hB.2.2.1
        have hY2 := (hY.ap hs hA).ap hs1 hB
        refine ih m (by omega) (by omega) ((hX.ap hs hA).ap hs1 hB) hs2 (by simp only [List.length_append, List.length_singleton]; omega) (hB.ln (hA.ln hl)) fun s3 a3 cap3 SX hTX hC => ?_
        have hN3 := hC.nd hs2 hN2.1
        have hs3 := hC.2.2.1
        have hTl := hTX.len
        refine i_fV (x := dV s i0 2) hN3.1 (by decide) (by rw [hN3.2, hN2.2, hN.2]) hY1 ?_
        rw [hjy]
        refine i_N1 ⟨i_rcv hs3.1, c_appendC hs3 (by simp only [List.length_append, List.length_singleton]; omega) (hs3.ln (hC.ln (hB.ln (hA.ln hl)))) (by decide) fun s4 a4 cap4 hD => ?_⟩
        have hN4 := hD.nd hs3 hN3.1
        have hs4 := hD.2.2.1
        refine i_fV (x := dV s i0 2) hN4.1 (by decide) (by rw [hN4.2, hN3.2, hN2.2, hN.2]) hY1 ?_
        refine ih m (by omega) (by omega) ((hY2.ap hs2 hC).ap hs3 hD) hs4 (by simp only [List.length_append, List.length_singleton]; omega) (hD.ln (hC.ln (hB.ln (hA.ln hl)))) fun s5 a5 cap5 SY hTY hE => ?_
        have hs5 := hE.2.2.1
        have hTl2 := hTY.len
        unfold d_Lw_write_j85
        refine i_R ⟨i_rcv hs5.1, c_appendC hs5 (by simp only [List.length_append, List.length_singleton]; omega) (hs5.ln (hE.ln (hD.ln (hC.ln (hB.ln (hA.ln hl)))))) (by decide) fun s6 a6 cap6 hF => ?_⟩
        exact h s6 a6 cap6 _ (Or.inr (Or.inr (Or.inr ⟨X, Y, SX, SY, hTX, hTY, rfl, rfl⟩))) (hA.tr (hB.tr (hC.tr (hD.tr (hE.tr hF)))))
/-- how many nodes -/
theorem c_size : ∀ (n m : Nat) {s : LSt} {v : JV} {L : List Int} {Q : Int → LSt → Prop}, n < m → n ≤ 20 → IsC n s v L → Q (L.length : Int) s → d_Lw_size m v s Q := by
  intro n
  induction n with
  | zero =>
    intro m s v L Q hm _ hv h
    cases m with
    | zero => omega
    | succ m =>
      rcases hv with ⟨rfl, rfl⟩ | hv
      · exact h
      · exact hv.elim
  | succ n ih =>
    intro m s v L Q hm hn hv h
    cases m with
    | zero => omega
    | succ m =>
      rcases hv with ⟨rfl, rfl⟩ | hv
      · exact h
      · have hsz := hv.sz.2
        have hp : 2 ^ (n + 1) ≤ 2 ^ 21 := Nat.pow_le_pow_right (by decide) (by omega)
        obtain ⟨i, zc, X, Y, rfl, h2, h0, hX, hY, hk, rfl⟩ := hv.ex
        simp only [List.length_cons, List.length_append] at hsz h
        show d_Lw_size_F (d_Lw_size m) (jR i) s Q
        unfold d_Lw_size_F
        refine i_N1 (i_fV h2 (by decide) rfl hX.nl (ih m (by omega) (by omega) hX (i_fV h2 (by decide) rfl hY.nl (ih m (by omega) (by omega) hY ?_))))
        rw [show wr (wr (1 + (X.length : Int)) + (Y.length : Int)) = ((X.length + Y.length + 1 : Nat) : Int) by rw [wr_s (z := 1 + (X.length : Int)) (by omega), wr_s (by omega)]; omega]
        exact h
end L83c
