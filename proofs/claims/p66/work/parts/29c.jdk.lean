/-! THE LIBRARY: lists -/
section L29c
variable {W : Nat → Prop} {c w : Nat} {s s1 : LSt} {i k n t a : Nat} {v x : JV}
theorem i_nA {K : Nat → LSt → Prop} {z : Int} (hl : (dS s).length < 900000) (hz : z = (k : Int)) (hk : k < 60000000) (h : K (dn s) (mk s t k (fun _ => v))) : nA s t z v K := by
  subst hz
  exact ⟨hl, by omega, by omega, by rw [Int.toNat_natCast]; exact h⟩
theorem dlen_of (h : dh s a = some (t, n)) (ht : 100 ≤ t) (hd : dn s ≤ 1000000) : dlen s a = some n := by
  have := dh_lt h
  unfold dlen
  rw [if_neg (by omega), if_neg (by omega), if_neg (by omega), h]
  exact if_pos ht
theorem i_aL {K : Int → Prop} (h : dh s a = some (t, n)) (ht : 100 ≤ t) (hd : dn s ≤ 1000000) (hn : n < 2147483648) (hk : K (n : Int)) : aLn s a K := ⟨n, dlen_of h ht hd, hn, hk⟩
theorem i_aL0 {K : Int → Prop} (hk : K 0) : aLn s 1000001 K := ⟨0, by unfold dlen; rw [if_neg (by decide), if_pos rfl], by decide, hk⟩
theorem i_rcv (h : dh s i = some (c, n)) : rcv s i c := Or.inr ⟨n, h⟩
/-- a list: its cell i, its row a, n elements f -/
def isAL (s : LSt) (i a n : Nat) (f : Nat → JV) : Prop := dh s i = some (13, 3) ∧ (∃ z, dV s i 0 = jI z) ∧ dV s i 1 = jR a ∧ dV s i 2 = jI (n : Int) ∧ ((n = 0 ∧ a = 1000001) ∨ (dh s a = some (199, 10) ∧ n ≤ 10)) ∧ ∀ k, k < n → dV s a k = f k ∧ jnl (f k) = true
theorem isAL.fm {f : Nat → JV} (h : isAL s i a n f) (hf : Fm W c w s s1) (hi : ¬ W i) (ha : ¬ W a) : isAL s1 i a n f := by
  obtain ⟨h1, h2, h3, h4, h5, h6⟩ := h
  have e := hf.dV h1 hi
  refine ⟨hf.dh h1, by rw [e]; exact h2, by rw [e]; exact h3, by rw [e]; exact h4, ?_, fun k hk => ?_⟩
  · rcases h5 with h5 | h5
    · exact Or.inl h5
    · exact Or.inr ⟨hf.dh h5.1, h5.2⟩
  · rcases h5 with h5 | h5
    · omega
    · rw [hf.dV h5.1 ha]
      exact h6 k hk
theorem c_AL_init {Q : LSt → Prop} (h : dh s i = some (13, 3)) (h2 : dV s i 2 = jI 0) (hq : ∀ s', Fm (fun j => j = i) 0 0 s s' → (∀ f, isAL s' i 1000001 0 f) → Q s') : d_AL_init (jR i) s Q := by
  show pF s i 13 0 0 (jI 0) (fun s4 => pF s4 i 13 1 2 (jR 1000001) (fun s5 => Q s5))
  refine i_pF h (by decide) rfl (i_pF (n := 3) (by rw [dh_up]; exact h) (by decide) rfl (hq _ ?_ fun f => ?_))
  · exact (Fm.up (W := fun j => j = i) (c := 0) (w := 0) (Or.inl rfl)).tr (Fm.up (W := fun j => j = i) (c := 0) (w := 0) (Or.inl rfl)) (fun _ _ => id) (fun _ _ => id) (by omega) (by omega)
  · refine ⟨h, ⟨0, ?_⟩, ?_, ?_, Or.inl ⟨rfl, rfl⟩, fun k h => absurd h (by omega)⟩
    · rw [dV_n (by omega), dV_s]
    · rw [dV_s]
    · rw [dV_n (by omega), dV_n (by omega)]
      exact h2
/-- what may be put into a list -/
def isEl (s : LSt) (v : JV) : Prop := ∃ j tj nj, v = jR j ∧ dh s j = some (tj, nj) ∧ (tj = 11 ∨ tj = 116)
theorem isEl.nl (h : isEl s v) : jnl v = true := by
  obtain ⟨j, _, _, rfl, -⟩ := h
  rfl
theorem c_AL_put {f : Nat → JV} {Q : LSt → Prop} (hi : dh s i = some (13, 3)) (h0 : ∃ z, dV s i 0 = jI z) (h1 : dV s i 1 = jR a) (ha : dh s a = some (199, 10)) (hn : n < 10) (hf : ∀ k, k < n → dV s a k = f k ∧ jnl (f k) = true) (hv : isEl s v) (hq : ∀ s', Fm (fun j => j = i ∨ j = a) 0 0 s s' → isAL s' i a (n + 1) (fun k => if k = n then v else f k) → Q s') : d_AL_add3_j11 (jR i) v (jR a) (n : Int) s Q := by
  have hne : ¬ i = a := by
    rintro rfl
    rw [hi] at ha
    cases ha
  have hva := hv.nl
  obtain ⟨j, tj, nj, rfl, hj, htj⟩ := hv
  show wV s a (n : Int) (jR j) (fun s7 => pF s7 i 13 2 0 (jI (wr ((n : Int) + 1))) (fun s9 => Q s9))
  refine ⟨199, 10, ha, by omega, by omega, ⟨tj, nj, hj, Or.inr ⟨rfl, htj⟩⟩, ?_⟩
  rw [Int.toNat_natCast]
  refine i_pF (n := 3) (by rw [dh_up]; exact hi) (by decide) rfl (hq _ ?_ ?_)
  · exact (Fm.up (W := fun j => j = i ∨ j = a) (c := 0) (w := 0) (Or.inl (Or.inr rfl))).tr (Fm.up (W := fun j => j = i ∨ j = a) (c := 0) (w := 0) (Or.inl (Or.inl rfl))) (fun _ _ => id) (fun _ _ => id) (by omega) (by omega)
  · refine ⟨hi, ?_, ?_, ?_, Or.inr ⟨ha, by omega⟩, fun k hk => ?_⟩
    · rw [dV_n (by omega), dV_n (by omega)]
      exact h0
    · rw [dV_n (by omega), dV_n (by omega)]
      exact h1
    · rw [dV_s, wr_s (by omega)]
      rfl
    · dsimp only
      rw [dV_n (by omega)]
      by_cases e : k = n
      · subst e
        rw [dV_s, if_pos rfl]
        exact ⟨rfl, hva⟩
      · rw [dV_n (by omega), if_neg e]
        exact hf k (by omega)
theorem c_AL_add {f : Nat → JV} {Q : Int → LSt → Prop} (h : isAL s i a n f) (hn : n < 10) (hl : (dS s).length < 900000) (hv : isEl s v) (hq : ∀ s' a', Fm (fun j => j = i ∨ j = a) 1 10 s s' → isAL s' i a' (n + 1) (fun k => if k = n then v else f k) → (a' = a ∨ dn s ≤ a') → Q 1 s') : d_AL_add (jR i) v s Q := by
  obtain ⟨h1, ⟨z, h2⟩, h3, h4, h5, h6⟩ := h
  have hdn : dn s ≤ 1000000 := by unfold dn; omega
  show fI s i 13 0 (fun z2 => pF s i 13 0 0 (jI (wr (z2 + 1))) (fun s3 => fV s3 i 13 1 (fun x4 => fI s3 i 13 2 (fun z5 => rcv s3 i 13 ∧ d_AL_add3 (jR i) v x4 z5 s3 (fun s6 => Q 1 s6)))))
  refine i_fI h1 (by decide) h2 (i_pF h1 (by decide) rfl ?_)
  have f1 : Fm (fun j => j = i ∨ j = a) 0 0 s (upC s i 0 (jI (wr (z + 1)))) := Fm.up (Or.inl (Or.inl rfl))
  have g1 : dh (upC s i 0 (jI (wr (z + 1)))) i = some (13, 3) := h1
  have g2 : dV (upC s i 0 (jI (wr (z + 1)))) i 0 = jI (wr (z + 1)) := dV_s
  have g3 : dV (upC s i 0 (jI (wr (z + 1)))) i 1 = jR a := by rw [dV_n (by omega)]; exact h3
  have g4 : dV (upC s i 0 (jI (wr (z + 1)))) i 2 = jI (n : Int) := by rw [dV_n (by omega)]; exact h4
  have g5 : (n = 0 ∧ a = 1000001) ∨ (dh (upC s i 0 (jI (wr (z + 1)))) a = some (199, 10) ∧ ∀ k, k < n → dV (upC s i 0 (jI (wr (z + 1)))) a k = f k ∧ jnl (f k) = true) := by
    rcases h5 with h5 | h5
    · exact Or.inl h5
    · right
      refine ⟨h5.1, fun k hk => ?_⟩
      have hne : ¬ a = i := by
        rintro rfl
        rw [h1] at h5
        cases h5.1
      rw [dV_n (by omega)]
      exact h6 k hk
  have g6 : isEl (upC s i 0 (jI (wr (z + 1)))) v := hv
  have g7 : (dS (upC s i 0 (jI (wr (z + 1))))).length < 900000 := hl
  have g8 : dn (upC s i 0 (jI (wr (z + 1)))) = dn s := rfl
  generalize upC s i 0 (jI (wr (z + 1))) = s1 at *
  refine i_fV g1 (by decide) g3 rfl (i_fI g1 (by decide) g4 ⟨i_rcv g1, ?_⟩)
  rcases g5 with ⟨rfl, rfl⟩ | ⟨g5, g5'⟩
  · show aLn s1 1000001 (fun z2 => if ((0 : Nat) : Int) = z2 then (rcv s1 i 13 ∧ d_AL_grow (jR i) s1 (fun x5 s4 => d_AL_add3_j11 (jR i) v x5 ((0 : Nat) : Int) s4 (fun s6 => Q 1 s6))) else (d_AL_add3_j11 (jR i) v (jR 1000001) ((0 : Nat) : Int) s1 (fun s6 => Q 1 s6)))
    refine i_aL0 ?_
    rw [if_pos (show ((0 : Nat) : Int) = 0 from rfl)]
    refine ⟨i_rcv g1, ?_⟩
    show fI s1 i 13 2 (fun z2 => rcv s1 i 13 ∧ d_AL_growTo (jR i) (wr (z2 + 1)) s1 (fun x4 s3 => d_AL_add3_j11 (jR i) v x4 ((0 : Nat) : Int) s3 (fun s6 => Q 1 s6)))
    refine i_fI g1 (by decide) g4 ⟨i_rcv g1, ?_⟩
    unfold d_AL_growTo
    refine i_R (i_fV g1 (by decide) g3 rfl (i_R (i_aL0 ?_)))
    rw [if_neg (by decide)]
    refine i_fV g1 (by decide) g3 rfl ⟨by decide, ?_⟩
    rw [if_pos (by decide)]
    unfold d_YMath_max
    rw [if_neg (by decide)]
    refine i_nA (k := 10) g7 rfl (by decide) ?_
    have f2 : Fm (fun j => j = i ∨ j = 1000001) 1 10 s1 (mk s1 199 10 (fun _ => jX .null)) := Fm.mk (by decide) (by decide)
    have q1 : dh (mk s1 199 10 (fun _ => jX .null)) (dn s1) = some (199, 10) := dh_mk
    have q2 := f2.dn
    have hd2 : dn (mk s1 199 10 (fun _ => jX .null)) = dn s1 + 1 := dn_mk
    have q3 := f2.dh g1
    have hil := (dh_lt g1).2
    have q4 : dV (mk s1 199 10 (fun _ => jX .null)) i = dV s1 i := by
      obtain ⟨_, _, _, _, _, _, _, q⟩ := (Fm.mk (by decide) (by decide) : Fm (fun _ => False) 1 10 s1 (mk s1 199 10 (fun _ => jX .null)))
      exact q i hil id
    obtain ⟨j, tj, nj, ev, hj, htj⟩ := g6
    have q5 := f2.dh hj
    generalize mk s1 199 10 (fun _ => jX .null) = s2 at *
    refine i_pF q3 (by decide) rfl ?_
    have f3 : Fm (fun j => j = i ∨ j = 1000001) 0 0 s2 (upC s2 i 1 (jR (dn s1))) := Fm.up (Or.inl (Or.inl rfl))
    have f4 : Fm (fun j => j = i ∨ j = 1000001) 1 10 s (upC s2 i 1 (jR (dn s1))) := (f1.tr f2 (W := fun j => j = i ∨ j = 1000001) (c := 1) (w := 10) (fun _ _ => id) (fun _ _ => id) (by omega) (by omega)).tr f3 (fun _ _ => id) (fun _ _ => id) (by omega) (by omega)
    refine c_AL_put (n := 0) (f := f) q3 ⟨_, by rw [dV_n (by omega), q4]; exact g2⟩ dV_s q1 (by omega) (fun k hk => absurd hk (by omega)) ⟨j, tj, nj, ev, q5, htj⟩ fun s' f5 hal => ?_
    exact hq s' (dn s1) (f4.tr f5 (fun _ _ => id) (fun k hk e => by omega) (by omega) (by omega)) hal (Or.inr (by omega))
  · show aLn s1 a (fun z2 => if (n : Int) = z2 then (rcv s1 i 13 ∧ d_AL_grow (jR i) s1 (fun x5 s4 => d_AL_add3_j11 (jR i) v x5 (n : Int) s4 (fun s6 => Q 1 s6))) else (d_AL_add3_j11 (jR i) v (jR a) (n : Int) s1 (fun s6 => Q 1 s6)))
    refine i_aL g5 (by decide) (by omega) (by decide) ?_
    rw [if_neg (by omega)]
    exact c_AL_put (f := f) g1 ⟨_, g2⟩ g3 g5 hn g5' g6 fun s' f5 hal => hq s' a (f1.tr f5 (fun _ _ => id) (fun _ _ => id) (by omega) (by omega)) hal (Or.inl rfl)
theorem c_AL_size {f : Nat → JV} {Q : Int → LSt → Prop} (h : isAL s i a n f) (hq : Q (n : Int) s) : d_AL_size (jR i) s Q := i_R (i_fI h.1 (by decide) h.2.2.2.1 hq)
theorem c_AL_at {f : Nat → JV} {Q : JV → LSt → Prop} (h : isAL s i a n f) (hk : k < n) (hq : Q (f k) s) : d_AL_elementData (jR i) (k : Int) s Q := by
  obtain ⟨h1, h2, h3, h4, h5, h6⟩ := h
  rcases h5 with h5 | h5
  · omega
  · refine i_R (i_fV h1 (by decide) h3 rfl (i_R ⟨199, 10, f k, h5.1, by decide, by omega, by omega, ?_, (h6 k hk).2, hq⟩))
    rw [Int.toNat_natCast]
    exact (h6 k hk).1
theorem c_AL_get {f : Nat → JV} {Q : JV → LSt → Prop} (h : isAL s i a n f) (hk : k < n) (hq : Q (f k) s) : d_AL_get (jR i) (k : Int) s Q := by
  unfold d_AL_get
  refine i_R (i_fI h.1 (by decide) h.2.2.2.1 ?_)
  show d_Preconditions_checkIndex (k : Int) (n : Int) (jX .null) s (fun _ s3 => rcv s3 i 13 ∧ d_AL_elementData (jR i) (k : Int) s3 (fun x6 s5 => Q x6 s5))
  unfold d_Preconditions_checkIndex
  rw [if_neg (by omega), if_pos (by omega)]
  exact ⟨i_rcv h.1, c_AL_at h hk hq⟩
theorem c_AL_set {f : Nat → JV} {Q : JV → LSt → Prop} (h : isAL s i a n f) (hk : k < n) (hv : isEl s v) (hq : ∀ s', Fm (fun j => j = a) 0 0 s s' → isAL s' i a n (fun l => if l = k then v else f l) → Q (f k) s') : d_AL_set (jR i) (k : Int) v s Q := by
  unfold d_AL_set
  refine i_R (i_fI h.1 (by decide) h.2.2.2.1 ?_)
  show d_Preconditions_checkIndex (k : Int) (n : Int) (jX .null) s (fun _ s3 => rcv s3 i 13 ∧ d_AL_elementData (jR i) (k : Int) s3 (fun x6 s5 => fV s5 i 13 1 (fun x7 => cR x7 (fun i8 => wV s5 i8 (k : Int) v (fun s9 => Q x6 s9)))))
  unfold d_Preconditions_checkIndex
  rw [if_neg (by omega), if_pos (by omega)]
  refine ⟨i_rcv h.1, c_AL_at h hk ?_⟩
  obtain ⟨h1, h2, h3, h4, h5, h6⟩ := h
  rcases h5 with h5 | h5
  · omega
  · have hva := hv.nl
    have hne : ¬ i = a := by
      rintro rfl
      rw [h1] at h5
      cases h5.1
    obtain ⟨j, tj, nj, rfl, hj, htj⟩ := hv
    refine i_fV h1 (by decide) h3 rfl (i_R ⟨199, 10, h5.1, by omega, by omega, ⟨tj, nj, hj, Or.inr ⟨rfl, htj⟩⟩, ?_⟩)
    rw [Int.toNat_natCast]
    refine hq _ (Fm.up (Or.inl rfl)) ⟨h1, ?_, ?_, ?_, Or.inr h5, fun l hl => ?_⟩
    · rw [dV_n (by omega)]
      exact h2
    · rw [dV_n (by omega)]
      exact h3
    · rw [dV_n (by omega)]
      exact h4
    · dsimp only
      by_cases e : l = k
      · subst e
        rw [dV_s, if_pos rfl]
        exact ⟨rfl, hva⟩
      · rw [dV_n (by omega), if_neg e]
        exact h6 l hl
end L29c
