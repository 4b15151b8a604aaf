/-! THE LAW'S OWN METHODS: trees are made -/
theorem jand_rng {x : Int} {m : Nat} (hm : m < 2147483648) : 0 ≤ jand x (m : Int) ∧ jand x (m : Int) ≤ (m : Int) := by
  unfold jand
  rw [← Int32.toInt_toBitVec, Int32.toBitVec_and]
  have e : ((Int32.ofInt (m : Int)).toBitVec).toNat = m := by
    show (BitVec.ofInt 32 (m : Int)).toNat = m
    rw [BitVec.ofInt_natCast, BitVec.toNat_ofNat]
    omega
  have h : ((Int32.ofInt x).toBitVec &&& (Int32.ofInt (m : Int)).toBitVec).toNat ≤ m := by
    rw [BitVec.toNat_and, e]
    exact Nat.and_le_right
  rw [BitVec.toInt_eq_toNat_of_lt (by omega)]
  omega
theorem jand1 {x : Int} : jand x 1 = 0 ∨ jand x 1 = 1 := by
  have := jand_rng (x := x) (m := 1) (by decide)
  have h : 0 ≤ jand x 1 ∧ jand x 1 ≤ 1 := this
  omega
theorem wr_s {z : Int} (h : -2147483648 ≤ z ∧ z < 2147483648) : wr z = z := by
  unfold wr
  rw [Int.bmod_def]
  split <;> omega
section L29b
variable {s : LSt} {i k n t : Nat} {v x : JV}
theorem IsC.fm {W : Nat → Prop} {c w : Nat} {s1 : LSt} {L : List Int} (h : IsC n s v L) (hf : Fm W c w s s1) (hW : ∀ i, dh s i = some (11, 3) → ¬ W i) : IsC n s1 v L := by
  rcases h with h | h
  · exact Or.inl h
  · exact Or.inr (h.fm hf hW)
/-- the same where the node's cell comes first and its children after -/
theorem c_alloc {Q : Nat → LSt → Prop} (hl : (dS s).length < 900000) (h : ∀ s1 i, Fm (fun _ => False) 1 3 s s1 → dn s ≤ i → dh s1 i = some (11, 3) → dV s1 i 0 = jI 0 → dV s1 i 1 = jX .null → Q i s1) : nC s 11 Q := by
  refine ⟨hl, ?_⟩
  rw [jf11]
  exact h _ _ (Fm.mk (by decide) (by decide)) (Nat.le_refl _) dh_mk (by rw [dV_mk]; exact jd11.1) (by rw [dV_mk]; exact jd11.2.1)
theorem c_fin {z : Int} {vx vy : JV} {X Y : List Int} {Q : LSt → Prop} (h0 : dh s i = some (11, 3)) (e0 : dV s i 0 = jI 0) (e1 : dV s i 1 = jX .null) (hx : IsC n s vx X) (hy : IsC n s vy Y) (hk : ckd z vx vy) (h : ∀ s', Fm (fun j => j = i) 0 0 s s' → IsN (n + 1) s' (jR i) (ncd z :: (X ++ Y)) → Q s') : d_Node_init (jR i) z vx vy s Q := by
  refine c_Node_init h0 hx.nl hy.nl (h _ ?_ (N_done h0 e0 e1 hx hy hk))
  have g1 : Fm (fun j => j = i) 0 0 s (upC s i 0 (jI z)) := Fm.up (Or.inl rfl)
  have g2 : Fm (fun j => j = i) 0 0 s (upC (upC s i 0 (jI z)) i 1 vx) := g1.tr (Fm.up (W := fun j => j = i) (c := 0) (w := 0) (Or.inl rfl)) (fun _ _ => id) (fun _ _ => id) (by omega) (by omega)
  exact g2.tr (Fm.up (W := fun j => j = i) (c := 0) (w := 0) (Or.inl rfl)) (fun _ _ => id) (fun _ _ => id) (by omega) (by omega)
/-- a new node whose children are there -/
theorem c_new {z : Int} {vx vy : JV} {X Y : List Int} {Q : Nat → LSt → Prop} (hl : (dS s).length < 900000) (hx : IsC n s vx X) (hy : IsC n s vy Y) (hk : ckd z vx vy) (h : ∀ s' i', Fm (fun _ => False) 1 3 s s' → IsN (n + 1) s' (jR i') (ncd z :: (X ++ Y)) → Q i' s') : nC s 11 (fun i s1 => d_Node_init (jR i) z vx vy s1 (fun s2 => Q i s2)) :=
  c_alloc hl fun s1 i f1 hi h1 e0 e1 => c_fin h1 e0 e1 (hx.fm f1 fun _ _ => id) (hy.fm f1 fun _ _ => id) hk fun s' f2 hN => h s' i (f1.tr f2 (fun _ _ => id) (fun j hj e => by omega) (by omega) (by omega)) hN
/-- a leaf -/
theorem c_leaf {r : JV → Int → LSt → (JV → LSt → Prop) → Prop} {z : Int} {Q : JV → LSt → Prop} (hl : (dS s).length < 900000) (hz : 0 ≤ z ∧ z ≤ 7) (h : ∀ s' v L, Fm (fun _ => False) 1 3 s s' → IsN 1 s' v L → Q v s') : d_Lw_tree_j74 r z s Q := by
  unfold d_Lw_tree_j74
  by_cases hq : z < 2
  · rw [if_pos hq, wr_s (by omega)]
    exact c_new (n := 0) hl (Or.inl ⟨rfl, rfl⟩) (Or.inl ⟨rfl, rfl⟩) (Or.inr (Or.inr ⟨by omega, rfl, rfl⟩)) fun s' i' hf hN => h _ _ _ hf hN
  · rw [if_neg hq]
    have := jand1 (x := z)
    rw [wr_s (by omega)]
    exact c_new (n := 0) hl (Or.inl ⟨rfl, rfl⟩) (Or.inl ⟨rfl, rfl⟩) (Or.inr (Or.inr ⟨by omega, rfl, rfl⟩)) fun s' i' hf hN => h _ _ _ hf hN
/-- nodes of a tree with d levels below its root -/
def tsz (d : Nat) : Nat := 2 ^ (d + 1) - 1
theorem tsz_s (d : Nat) : tsz (d + 1) = 1 + tsz d + tsz d ∧ 1 ≤ tsz d := by
  unfold tsz
  have h1 : 2 ^ (d + 1 + 1) = 2 * 2 ^ (d + 1) := by rw [Nat.pow_succ]; omega
  have h2 : 0 < 2 ^ d := Nat.pow_pos (by decide)
  have h3 : 2 ^ (d + 1) = 2 * 2 ^ d := by rw [Nat.pow_succ]; omega
  omega
theorem c_tree : ∀ (d m : Nat) {s : LSt} {u : Nat} {z : Int} {Q : JV → LSt → Prop}, d < m → d ≤ 10 → dh s u = some (100, 1) → dV s u 0 = jI z → (dS s).length + tsz d ≤ 900000 → (∀ s' v L, Fm (fun j => j = u) (tsz d) (3 * tsz d) s s' → (∃ z', dV s' u 0 = jI z') → IsN (d + 1) s' v L → (0 < d → 4 ≤ jand z 7 → ∃ X, L = 5 :: X ∨ L = 2 :: X) → Q v s') → d_Lw_tree m (jR u) (d : Int) s Q := by
  intro d
  induction d with
  | zero =>
    intro m s u z Q hm _ hu hz hl h
    cases m with
    | zero => omega
    | succ m =>
      show d_Lw_tree_F (d_Lw_tree m) (jR u) ((0 : Nat) : Int) s Q
      unfold d_Lw_tree_F
      refine i_R (i_rI hu rfl (by decide) hz (i_rI hu rfl (by decide) hz (i_wA (k := 0) hu rfl (by decide) ?_)))
      rw [if_neg (by decide)]
      unfold d_Lw_tree_j40
      rw [if_neg (by decide)]
      have hf : Fm (fun j => j = u) 0 0 s (upC s u 0 (jI (jushr z 3))) := Fm.up (Or.inl rfl)
      refine c_leaf (by have : tsz 0 = 1 := rfl; show (dS s).length < _; omega) (by have := jand_rng (x := z) (m := 7) (by decide); exact this) fun s' v L f1 hN => ?_
      refine h s' v L (hf.tr f1 (fun _ _ => id) (fun _ _ e => e.elim) (by decide) (by decide)) ⟨jushr z 3, ?_⟩ hN (fun h => absurd h (by decide))
      rw [f1.dV (by rw [dh_up]; exact hu) id]
      exact dV_s
  | succ d ih =>
    intro m s u z Q hm hd hu hz hl h
    have ht := tsz_s d
    cases m with
    | zero => omega
    | succ m =>
      show d_Lw_tree_F (d_Lw_tree m) (jR u) ((d + 1 : Nat) : Int) s Q
      unfold d_Lw_tree_F
      refine i_R (i_rI hu rfl (by decide) hz (i_rI hu rfl (by decide) hz (i_wA (k := 0) hu rfl (by decide) ?_)))
      have hf : Fm (fun j => j = u) 0 0 s (upC s u 0 (jI (jushr z 3))) := Fm.up (Or.inl rfl)
      have hu1 : dh (upC s u 0 (jI (jushr z 3))) u = some (100, 1) := hu
      have hz1 : dV (upC s u 0 (jI (jushr z 3))) u 0 = jI (jushr z 3) := dV_s
      have hl1 : (dS (upC s u 0 (jI (jushr z 3)))).length = (dS s).length := rfl
      have h7 : 0 ≤ jand z 7 ∧ jand z 7 ≤ 7 := jand_rng (x := z) (m := 7) (by decide)
      have hw : wr ((d + 1 : Nat) - 1 : Int) = ((d : Nat) : Int) := by rw [wr_s (by omega)]; omega
      generalize upC s u 0 (jI (jushr z 3)) = s1 at *
      rw [if_pos (by omega)]
      by_cases q5 : 5 < jand z 7
      · rw [if_pos q5]
        refine c_alloc (by omega) fun s2 i f2 hi h2 e0 e1 => ?_
        rw [hw]
        refine ih m (by omega) (by omega) (f2.dh hu1) (by rw [f2.dV hu1 id]; exact hz1) (by have := f2.len; omega) fun s3 v L f3 hz3 hN _ => ?_
        have hdn := hf.dn
        have hiu : ¬ i = u := by
          have := (dh_lt hu1).2
          omega
        refine c_fin (f3.dh h2) (by rw [f3.dV h2 hiu]; exact e0) (by rw [f3.dV h2 hiu]; exact e1) (Or.inr hN) (Or.inl ⟨rfl, rfl⟩) (Or.inr (Or.inl ⟨rfl, hN.nn, rfl⟩)) fun s4 f4 hN4 => ?_
        have g2 : Fm (fun j => j = u) 1 3 s s2 := hf.tr f2 (fun _ _ => id) (fun _ _ e => e.elim) (by omega) (by omega)
        have g3 : Fm (fun j => j = u) (1 + tsz d) (3 + 3 * tsz d) s s3 := g2.tr f3 (fun _ _ => id) (fun _ _ => id) (by omega) (by omega)
        have g4 : Fm (fun j => j = u) (tsz (d + 1)) (3 * tsz (d + 1)) s s4 := g3.tr f4 (fun _ _ => id) (fun j hj e => by omega) (by omega) (by omega)
        obtain ⟨z3, hz3⟩ := hz3
        exact h s4 (jR i) _ g4 ⟨z3, by rw [f4.dV (f3.dh (f2.dh hu1)) (fun e => hiu e.symm)]; exact hz3⟩ hN4 (fun _ _ => ⟨_, Or.inl rfl⟩)
      · rw [if_neg q5]
        unfold d_Lw_tree_j40
        rw [if_pos (by omega)]
        by_cases q2 : 2 < jand z 7
        · rw [if_pos q2, hw]
          refine ih m (by omega) (by omega) hu1 hz1 (by omega) fun s2 vx X f2 hz2 hX _ => ?_
          obtain ⟨z2, hz2⟩ := hz2
          refine c_alloc (by have := f2.len; omega) fun s3 i f3 hi h3 e0 e1 => ?_
          have hu3 := f3.dh (f2.dh hu1)
          refine ih m (by omega) (by omega) hu3 (by rw [f3.dV (f2.dh hu1) id]; exact hz2) (by have := f2.len; have := f3.len; omega) fun s4 vy Y f4 hz4 hY _ => ?_
          obtain ⟨z4, hz4⟩ := hz4
          have hdn := hf.dn
          have hdn2 := f2.dn
          have hiu : ¬ i = u := by
            have := (dh_lt hu1).2
            omega
          have hX4 : IsN (d + 1) s4 vx X := (hX.fm f3 fun _ _ => id).fm f4 fun j hj e => by
            subst e
            rw [hu3] at hj
            cases hj
          refine c_fin (f4.dh h3) (by rw [f4.dV h3 hiu]; exact e0) (by rw [f4.dV h3 hiu]; exact e1) (Or.inr hX4) (Or.inr hY) (Or.inl ⟨rfl, hX4.nn, hY.nn⟩) fun s5 f5 hN5 => ?_
          have g2 : Fm (fun j => j = u) (tsz d) (3 * tsz d) s s2 := hf.tr f2 (fun _ _ => id) (fun _ _ => id) (by omega) (by omega)
          have g3 : Fm (fun j => j = u) (tsz d + 1) (3 * tsz d + 3) s s3 := g2.tr f3 (fun _ _ => id) (fun _ _ e => e.elim) (by omega) (by omega)
          have g4 : Fm (fun j => j = u) (tsz d + 1 + tsz d) (3 * tsz d + 3 + 3 * tsz d) s s4 := g3.tr f4 (fun _ _ => id) (fun _ _ => id) (by omega) (by omega)
          have g5 : Fm (fun j => j = u) (tsz (d + 1)) (3 * tsz (d + 1)) s s5 := g4.tr f5 (fun _ _ => id) (fun j hj e => by omega) (by omega) (by omega)
          exact h s5 (jR i) _ g5 ⟨z4, by rw [f5.dV (f4.dh hu3) (fun e => hiu e.symm)]; exact hz4⟩ hN5 (fun _ _ => ⟨_, Or.inr rfl⟩)
        · rw [if_neg q2]
          refine c_leaf (by omega) h7 fun s2 v L f2 hN => ?_
          exact h s2 v L (hf.tr f2 (fun _ _ => id) (fun _ _ e => e.elim) (by omega) (by omega)) ⟨jushr z 3, by rw [f2.dV hu1 id]; exact hz1⟩ (hN.le (by omega)) (fun _ q => by omega)
/-! reading trees -/
theorem IsN.sz : ∀ {n : Nat} {v : JV} {L : List Int}, IsN n s v L → 1 ≤ L.length ∧ L.length < 2 ^ n := by
  intro n
  induction n with
  | zero => exact fun h => h.elim
  | succ n ih =>
    rintro v L ⟨i, h1, h2, h⟩
    have hp : 2 ^ (n + 1) = 2 * 2 ^ n := by rw [Nat.pow_succ]; omega
    have hq : 0 < 2 ^ n := Nat.pow_pos (by decide)
    rcases h with ⟨k, q, a, b, d, rfl⟩ | ⟨k, q, a, b, d, rfl⟩ | ⟨X, a, b, d, rfl⟩ | ⟨X, Y, a, b, d, rfl⟩
    · simp only [List.length_cons, List.length_nil]
      omega
    · simp only [List.length_cons, List.length_nil]
      omega
    · have := ih b
      simp only [List.length_cons]
      omega
    · have := ih b
      have := ih d
      simp only [List.length_cons, List.length_append]
      omega
theorem IsC.sz {L : List Int} (h : IsC n s v L) : L.length < 2 ^ n := by
  rcases h with ⟨-, rfl⟩ | h
  · exact Nat.pow_pos (by decide)
  · exact h.sz.2
/-- how often a code stands in a tree -/
theorem c_uses : ∀ (n m : Nat) {s : LSt} {v : JV} {L : List Int} {z : Int} {Q : Int → LSt → Prop}, n < m → n ≤ 20 → IsC n s v L → (∀ k : Nat, k ≤ L.length → (k ≠ 0 → ncd z ∈ L) → Q (k : Int) s) → d_Lw_uses m v z s Q := by
  intro n
  induction n with
  | zero =>
    intro m s v L z Q hm _ hv h
    cases m with
    | zero => omega
    | succ m =>
      rcases hv with ⟨rfl, rfl⟩ | hv
      · exact h 0 (Nat.le_refl _) (fun h => absurd rfl h)
      · exact hv.elim
  | succ n ih =>
    intro m s v L z Q hm hn hv h
    cases m with
    | zero => omega
    | succ m =>
      rcases hv with ⟨rfl, rfl⟩ | hv
      · exact h 0 (Nat.le_refl _) (fun h => absurd rfl h)
      · have hsz := hv.sz.2
        have hp : 2 ^ (n + 1) ≤ 2 ^ 21 := Nat.pow_le_pow_right (by decide) (by omega)
        obtain ⟨i, zc, X, Y, rfl, h2, h0, hX, hY, hk, rfl⟩ := hv.ex
        simp only [List.length_cons, List.length_append] at hsz h
        have hz : zc = z → ncd zc = ncd z := fun e => by rw [e]
        show d_Lw_uses_F (d_Lw_uses m) (jR i) z s Q
        unfold d_Lw_uses_F
        refine i_N1 (i_fI h2 (by decide) h0 ?_)
        have key : ∀ t0 : Nat, t0 ≤ 1 → (t0 ≠ 0 → ncd z = ncd zc) → d_Lw_uses_j21 (d_Lw_uses m) (jR i) z (t0 : Int) s Q := by
          intro t0 ht ht2
          unfold d_Lw_uses_j21
          refine i_R (i_fV h2 (by decide) rfl hX.nl (ih m (by omega) (by omega) hX fun k1 a1 b1 => i_fV h2 (by decide) rfl hY.nl (ih m (by omega) (by omega) hY fun k2 a2 b2 => ?_)))
          have e : wr (wr ((t0 : Int) + (k1 : Int)) + (k2 : Int)) = ((t0 + k1 + k2 : Nat) : Int) := by
            rw [wr_s (z := (t0 : Int) + (k1 : Int)) (by omega), wr_s (by omega)]
            omega
          rw [e]
          refine h (t0 + k1 + k2) (by omega) fun hne => ?_
          by_cases q0 : t0 = 0
          · by_cases q1 : k1 = 0
            · exact List.mem_cons_of_mem _ (List.mem_append_right _ (b2 (by omega)))
            · exact List.mem_cons_of_mem _ (List.mem_append_left _ (b1 q1))
          · rw [ht2 q0]
            exact List.mem_cons_self
        by_cases q : zc = z
        · rw [if_pos q]
          exact key 1 (Nat.le_refl _) fun _ => by rw [q]
        · rw [if_neg q]
          exact key 0 (by omega) fun h => absurd rfl h
theorem ckd.cg {z : Int} {vx vy wx wy : JV} (h : ckd z vx vy) (hx : vx = jX .null ↔ wx = jX .null) (hy : vy = jX .null ↔ wy = jX .null) : ckd z wx wy := by
  rcases h with ⟨a, b, d⟩ | ⟨a, b, d⟩ | ⟨a, b, d⟩
  · exact Or.inl ⟨a, fun e => b (hx.mpr e), fun e => d (hy.mpr e)⟩
  · exact Or.inr (Or.inl ⟨a, fun e => b (hx.mpr e), hy.mp d⟩)
  · exact Or.inr (Or.inr ⟨a, hx.mp b, hy.mp d⟩)
theorem ncd_neg {z : Int} (h : ckd z v x) : ncd z < 0 ↔ 100 ≤ z := by
  unfold ncd
  rcases h with ⟨rfl, -⟩ | ⟨rfl, -⟩ | ⟨h, -⟩
  · decide
  · decide
  · rcases h with rfl | rfl | rfl | rfl <;> decide
/-- the right side: what the left side doesn't bind is replaced -/
theorem c_closed : ∀ (n m k : Nat) {s : LSt} {v lf : JV} {L Lf : List Int} {Q : JV → LSt → Prop}, n < m → n ≤ 10 → k ≤ 4 → IsC n s v L → IsN k s lf Lf → (dS s).length + 2 ^ n ≤ 900000 → (∀ s' v' L', Fm (fun _ => False) (2 ^ n - 1) (3 * (2 ^ n - 1)) s s' → IsC n s' v' L' → (v = jX .null ↔ v' = jX .null) → (∀ c, c ∈ L' → c < 0 → c ∈ Lf) → Q v' s') → d_Lw_closed m v lf s Q := by
  intro n
  induction n with
  | zero =>
    intro m k s v lf L Lf Q hm _ _ hv hlf _ h
    cases m with
    | zero => omega
    | succ m =>
      rcases hv with ⟨rfl, rfl⟩ | hv
      · exact h s (jX .null) [] Fm.rfl' (Or.inl ⟨rfl, rfl⟩) Iff.rfl (fun _ h => absurd h (by simp))
      · exact hv.elim
  | succ n ih =>
    intro m k s v lf L Lf Q hm hn hk4 hv hlf hl h
    have hp : 2 ^ (n + 1) = 2 * 2 ^ n := by rw [Nat.pow_succ]; omega
    have hq : 0 < 2 ^ n := Nat.pow_pos (by decide)
    cases m with
    | zero => omega
    | succ m =>
      rcases hv with ⟨rfl, rfl⟩ | hv
      · exact h s (jX .null) [] Fm.rfl' (Or.inl ⟨rfl, rfl⟩) Iff.rfl (fun _ h => absurd h (by simp))
      · obtain ⟨i, zc, X, Y, rfl, h2, h0, hX, hY, hk, rfl⟩ := hv.ex
        show d_Lw_closed_F (d_Lw_closed m) (jR i) lf s Q
        unfold d_Lw_closed_F
        refine i_N1 (i_fI h2 (by decide) h0 ?_)
        have key : (ncd zc < 0 → ncd zc ∈ Lf) → d_Lw_closed_j37 (d_Lw_closed m) (jR i) lf s Q := by
          intro hin
          unfold d_Lw_closed_j37
          refine c_alloc (by omega) fun s1 i1 f1 hi h1 e0 e1 => ?_
          have hd1 := f1.dh h2
          have hv1 := f1.dV h2 id
          have hX1 := hX.fm f1 fun _ _ => id
          have hY1 := hY.fm f1 fun _ _ => id
          rw [← hv1] at h0 hX1 hY1 hk
          refine i_R (i_fI hd1 (by decide) h0 (i_fV hd1 (by decide) rfl hX1.nl ?_))
          refine ih m k (by omega) (by omega) hk4 hX1 (hlf.fm f1 fun _ _ => id) (by have := f1.len; omega) fun s2 vx X2 f2 hX2 n2 c2 => ?_
          have hd2 := f2.dh hd1
          have hv2 := f2.dV hd1 id
          have hY2 := hY1.fm f2 fun _ _ => id
          rw [← hv2] at hY2 hk n2
          refine i_fV hd2 (by decide) rfl hY2.nl ?_
          refine ih m k (by omega) (by omega) hk4 hY2 ((hlf.fm f1 fun _ _ => id).fm f2 fun _ _ => id) (by have := f1.len; have := f2.len; omega) fun s3 vy Y3 f3 hY3 n3 c3 => ?_
          have h3 := f3.dh (f2.dh h1)
          have hw3 : dV s3 i1 = dV s1 i1 := by rw [f3.dV (f2.dh h1) id, f2.dV h1 id]
          have hX3 := hX2.fm f3 fun _ _ => id
          refine c_fin h3 (by rw [hw3]; exact e0) (by rw [hw3]; exact e1) hX3 hY3 (hk.cg n2 n3) fun s4 f4 hN => ?_
          have g2 : Fm (fun _ => False) (2 ^ n) (3 * 2 ^ n) s s2 := f1.tr f2 (fun _ _ => id) (fun _ _ => id) (by omega) (by omega)
          have g3 : Fm (fun _ => False) (2 ^ n + (2 ^ n - 1)) (3 * 2 ^ n + 3 * (2 ^ n - 1)) s s3 := g2.tr f3 (fun _ _ => id) (fun _ _ => id) (by omega) (by omega)
          have g4 : Fm (fun _ => False) (2 ^ (n + 1) - 1) (3 * (2 ^ (n + 1) - 1)) s s4 := g3.tr f4 (fun _ _ => id) (fun j hj e => by omega) (by omega) (by omega)
          refine h s4 (jR i1) _ g4 (Or.inr hN) ⟨fun e => (by cases e), fun e => (by cases e)⟩ fun c hc hc0 => ?_
          rcases List.mem_cons.mp hc with rfl | hc
          · exact hin hc0
          · rcases List.mem_append.mp hc with hc | hc
            · exact c2 c hc hc0
            · exact c3 c hc hc0
        by_cases q : zc < 100
        · rw [if_pos q]
          exact key fun h => absurd ((ncd_neg hk).mp h) (by omega)
        · rw [if_neg q]
          refine i_fI h2 (by decide) h0 (c_uses k 5 (by omega) (by omega) (Or.inr hlf) fun j hj hj2 => ?_)
          by_cases q0 : (j : Int) = 0
          · rw [if_pos q0]
            refine c_new (n := n) (by omega) (Or.inl ⟨rfl, rfl⟩) (Or.inl ⟨rfl, rfl⟩) (Or.inr (Or.inr ⟨Or.inl rfl, rfl, rfl⟩)) fun s' i' hf hN => ?_
            refine h s' (jR i') _ (hf.mono (fun _ _ => id) (by omega) (by omega)) (Or.inr hN) ⟨fun e => (by cases e), fun e => (by cases e)⟩ fun c hc hc0 => ?_
            have e : ncd 2 :: ([] ++ []) = [(8 : Int)] := rfl
            rw [e] at hc
            simp only [List.mem_singleton] at hc
            omega
          · rw [if_neg q0]
            exact key fun _ => hj2 (by omega)
end L29b
