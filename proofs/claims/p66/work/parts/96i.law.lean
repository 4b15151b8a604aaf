/-! THE LAW'S OWN METHODS: rules tried, places looked for, terms made anew -/
section L96i
variable {W : Nat → Prop} {c w : Nat} {s s1 : LSt} {i k n t a b d ir it aw ar : Nat} {v x : JV} {L : List Int} {fr : Nat → JV} {Rs : List (List Int × List Int)}
/-- the rules by hand -/
def SysR (s : LSt) (d ir it aw ar : Nat) (fr : Nat → JV) (Rs : List (List Int × List Int)) : Prop := isSys s d ir it aw ∧ isAL s ir ar Rs.length fr ∧ (∀ k, k < Rs.length → Rok s (fr k) (Rs.getD k ([], []))) ∧ 1 ≤ Rs.length
theorem Rok.fm2 {p : List Int × List Int} (h : Rok s v p) (hf : Fm W c w s s1) (hW : ∀ i, dh s i = some (11, 3) ∨ dh s i = some (116, 2) → ¬ W i) : Rok s1 v p := by
  obtain ⟨j, h1, h2, h3, h4, h5, h6⟩ := h
  have e := hf.dV h2 (hW _ (Or.inr h2))
  exact ⟨j, h1, hf.dh h2, by rw [e]; exact h3.fm hf fun i hi => hW _ (Or.inl hi), by rw [e]; exact h4.fm hf fun i hi => hW _ (Or.inl hi), h5, h6⟩
theorem SysR.fm (h : SysR s d ir it aw ar fr Rs) (hf : Fm W c w s s1) (hW : ∀ i q, dh s i = some q → W i → q = (116, 16)) : SysR s1 d ir it aw ar fr Rs := by
  obtain ⟨h1, h2, h3, h4⟩ := h
  refine ⟨h1.fm hf fun e => ?_, h2.fm hf (fun e => ?_) (fun e => ?_), fun k hk => (h3 k hk).fm2 hf fun j hj e => ?_, h4⟩
  · have := hW _ _ h1.1 e
    cases this
  · have := hW _ _ h2.1 e
    cases this
  · rcases h2.2.2.2.2.1 with ⟨e0, -⟩ | ⟨e0, -⟩
    · omega
    · have := hW _ _ e0 e
      cases this
  · rcases hj with hj | hj
    · have := hW _ _ hj e
      cases this
    · have := hW _ _ hj e
      cases this
theorem SysR.awd (h : SysR s d ir it aw ar fr Rs) : dh s aw = some (116, 16) := h.1.2.2.2.2
theorem awW (h : dh s aw = some (116, 16)) : ∀ i q, dh s i = some q → i = aw → q = (116, 16) := by
  rintro i q h1 rfl
  rw [h] at h1
  exact (Option.some.inj h1).symm
theorem SysR.fa (h : SysR s d ir it aw ar fr Rs) (hf : Fm (fun j => j = aw) c w s s1) : SysR s1 d ir it aw ar fr Rs := h.fm hf (awW h.awd)
theorem SysR.f0 (h : SysR s d ir it aw ar fr Rs) (hf : Fm (fun _ => False) c w s s1) : SysR s1 d ir it aw ar fr Rs := h.fm hf fun _ _ _ h => h.elim
/-- does a rule match -/
theorem c_matches {T : List Int} {Q : Int → LSt → Prop} {r : Nat} (h : SysR s d ir it aw ar fr Rs) (hr : r < Rs.length) (hT : IsN 4 s v T) (hd : dn s ≤ 1000000) (hq : ∀ s' f' z, Fm (fun j => j = aw) 0 0 s s' → Wt 3 s' aw f' → bz z → (z = 1 → (∀ c, c ∈ (Rs.getD r ([], [])).1 → c < 0 → vn c < 16 ∧ f' (vn c) ≠ none) ∧ ∀ τ, cpt f' τ → sv τ (Rs.getD r ([], [])).1 = T) → Q z s') : d_Sys_matches (jR d) (r : Int) v s Q := by
  have haw := h.awd
  unfold d_Sys_matches
  refine i_R (i_fV h.1.1 (by decide) h.1.2.2.2.1 rfl (c_fillO haw hd fun s1 f1 hw => ?_))
  have h1 := h.fa f1
  refine i_fV h1.1.1 (by decide) h1.1.2.1 rfl (i_R ⟨i_rcv h1.2.1.1, c_AL_get h1.2.1 hr ?_⟩)
  obtain ⟨j, hj, hj2, hL, hR, hroot, hvars⟩ := h1.2.2.1 r hr
  rw [hj]
  refine ⟨⟨2, hj2⟩, i_R ⟨116, 2, _, hj2, by decide, by decide, by decide, rfl, hL.nl.1, ?_⟩⟩
  refine i_fV h1.1.1 (by decide) h1.1.2.2.2.1 rfl ?_
  have hT1 := hT.faw f1 haw
  refine c_match 3 5 4 3 (by decide) (by decide) (Or.inr hL) (Or.inr hT1) ⟨fun e => absurd e hL.nn, fun e => absurd e hT1.nn⟩ (Or.inr ⟨by decide, hroot⟩) (by decide) hw fun s2 f2 z F2 hw2 _ hz hz1 => ⟨hz, ?_⟩
  exact hq s2 f2 z (f1.tr F2 (fun _ _ => id) (fun _ _ => id) (by omega) (by omega)) hw2 hz hz1
/-- the first rule that matches -/
theorem c_rule {T : List Int} {Q : Int → LSt → Prop} (h : SysR s d ir it aw ar fr Rs) (h10 : Rs.length ≤ 10) (hT : IsN 4 s v T) (hd : dn s ≤ 1000000) (hq : ∀ s' z, Fm (fun j => j = aw) 0 0 s s' → (z = -1 ∨ ∃ r : Nat, z = (r : Int) ∧ r < Rs.length) → Q z s') : d_Sys_rule (jR d) v s Q := by
  have haw := h.awd
  unfold d_Sys_rule
  refine i_Sys_rule_l2 (Inv := fun v2 s' => ∃ k : Nat, v2 = (k : Int) ∧ k ≤ Rs.length ∧ Fm (fun j => j = aw) 0 0 s s') (fun v2 _ => Rs.length - v2.toNat) ?_ 0 s ⟨0, rfl, by omega, Fm.rfl'⟩
  rintro _ s1 ⟨k, rfl, hk, f1⟩ W hW
  have h1 := h.fa f1
  have hd1 := f1.dn
  unfold d_Sys_rule_b2
  refine i_R (i_fV h1.1.1 (by decide) h1.1.2.1 rfl (i_R ⟨i_rcv h1.2.1.1, c_AL_size h1.2.1 ?_⟩))
  by_cases hc : (k : Int) < (Rs.length : Int)
  · rw [if_pos hc]
    refine ⟨i_rcv h1.1.1, c_matches h1 (by omega) (hT.faw f1 haw) (by omega) fun s2 f' z F2 _ _ _ => ?_⟩
    have F3 : Fm (fun j => j = aw) 0 0 s s2 := f1.tr F2 (fun _ _ => id) (fun _ _ => id) (by omega) (by omega)
    by_cases q : z = 0
    · rw [if_pos q, show wr ((k : Int) + 1) = ((k + 1 : Nat) : Int) by rw [wr_s (by omega)]; omega]
      exact hW _ _ ⟨k + 1, rfl, by omega, F3⟩ (by omega)
    · rw [if_neg q]
      exact hq s2 _ F3 (Or.inr ⟨k, rfl, by omega⟩)
  · rw [if_neg hc]
    exact hq s1 _ f1 (Or.inl rfl)
/-- the innermost place -/
theorem c_inner : ∀ (n m : Nat) {s : LSt} {v : JV} {T : List Int} {Q : Int → LSt → Prop}, n < m → n ≤ 4 → SysR s d ir it aw ar fr Rs → Rs.length ≤ 10 → IsC n s v T → dn s ≤ 1000000 → (∀ s' z, Fm (fun j => j = aw) 0 0 s s' → (z = -1 ∨ ∃ p : Nat, z = (p : Int) ∧ p < T.length) → Q z s') → d_Sys_inner m (jR d) v s Q := by
  intro n
  induction n with
  | zero =>
    intro m s v T Q hm _ _ _ hT _ hq
    cases m with
    | zero => omega
    | succ m =>
      rcases hT with ⟨rfl, rfl⟩ | hT
      · exact hq s (-1) Fm.rfl' (Or.inl rfl)
      · exact hT.elim
  | succ n ih =>
    intro m s v T Q hm hn4 h h10 hT hd hq
    cases m with
    | zero => omega
    | succ m =>
      rcases hT with ⟨rfl, rfl⟩ | hT
      · exact hq s (-1) Fm.rfl' (Or.inl rfl)
      · have hsz := hT.sz.2
        have hp : 2 ^ (n + 1) ≤ 2 ^ 4 := Nat.pow_le_pow_right (by decide) hn4
        have hp4 : (2 : Nat) ^ 4 = 16 := by decide
        have hN := hT
        obtain ⟨i1, z1, X, Y, rfl, d1, e1, a1, b1, k1, rfl⟩ := hT.ex
        simp only [List.length_cons, List.length_append] at hsz
        have haw := h.awd
        have hi1 : ¬ i1 = aw := ndW haw d1 (by decide)
        show d_Sys_inner_F (d_Sys_inner m) (jR d) (jR i1) s Q
        unfold d_Sys_inner_F
        refine i_N1 (i_fV d1 (by decide) rfl a1.nl (i_R ⟨i_rcv h.1.1, ih m (by omega) (by omega) h h10 a1 hd fun s1 z f1 hz => ?_⟩))
        have hd1 := f1.dn
        have D1 := f1.dh d1
        have V1 := f1.dV d1 hi1
        by_cases q : z < 0
        · rw [if_pos q]
          refine i_fV D1 (by decide) (by rw [V1]) b1.nl ⟨i_rcv (h.fa f1).1.1, ih m (by omega) (by omega) (h.fa f1) h10 (b1.faw f1 haw) (by omega) fun s2 y f2 hy => ?_⟩
          have F2 : Fm (fun j => j = aw) 0 0 s s2 := f1.tr f2 (fun _ _ => id) (fun _ _ => id) (by omega) (by omega)
          have hd2 := F2.dn
          have D2 := F2.dh d1
          have V2 := F2.dV d1 hi1
          by_cases q2 : y < 0
          · rw [if_pos q2]
            refine ⟨i_rcv (h.fa F2).1.1, c_rule (h.fa F2) h10 ((hN.faw F2 haw).le hn4) (by omega) fun s3 r f3 hr => ?_⟩
            have F3 : Fm (fun j => j = aw) 0 0 s s3 := F2.tr f3 (fun _ _ => id) (fun _ _ => id) (by omega) (by omega)
            by_cases q3 : r < 0
            · rw [if_pos q3]
              exact hq s3 _ F3 (Or.inl rfl)
            · rw [if_neg q3]
              exact hq s3 _ F3 (Or.inr ⟨0, rfl, by simp⟩)
          · rw [if_neg q2]
            refine i_fV D2 (by decide) (by rw [V2]) a1.nl (c_size n 8 (by omega) (by omega) (a1.faw F2 haw) ?_)
            obtain ⟨p, rfl, hp⟩ : ∃ p : Nat, y = (p : Int) ∧ p < Y.length := by
              rcases hy with e | e
              · omega
              · exact e
            rw [show wr (wr (1 + (X.length : Int)) + (p : Int)) = ((1 + X.length + p : Nat) : Int) by rw [wr_s (z := 1 + (X.length : Int)) (by omega), wr_s (by omega)]; omega]
            exact hq s2 _ F2 (Or.inr ⟨_, rfl, by simp only [List.length_cons, List.length_append]; omega⟩)
        · rw [if_neg q]
          obtain ⟨p, rfl, hp⟩ : ∃ p : Nat, z = (p : Int) ∧ p < X.length := by
            rcases hz with e | e
            · omega
            · exact e
          rw [show wr (1 + (p : Int)) = ((1 + p : Nat) : Int) by rw [wr_s (by omega)]; omega]
          exact hq s1 _ f1 (Or.inr ⟨_, rfl, by simp only [List.length_cons, List.length_append]; omega⟩)
/-- the part at a place -/
theorem c_at : ∀ (n m : Nat) {s : LSt} {v : JV} {T : List Int} {p : Nat} {Q : JV → LSt → Prop}, n ≤ m → n ≤ 7 → IsN n s v T → p < T.length → (∀ u, IsN n s u (sb T p) → Q u s) → d_Lw_at m v (p : Int) s Q := by
  intro n
  induction n with
  | zero => exact fun _ _ _ _ _ _ _ _ h => h.elim
  | succ n ih =>
    intro m s v T p Q hm hn hT hp h
    cases m with
    | zero => omega
    | succ m =>
      show d_Lw_at_F (d_Lw_at m) v (p : Int) s Q
      unfold d_Lw_at_F
      have hwl := hT.wl
      have hsz := hT.sz.2
      have hpw : 2 ^ (n + 1) ≤ 2 ^ 7 := Nat.pow_le_pow_right (by decide) hn
      have hp7 : (2 : Nat) ^ 7 = 128 := by decide
      by_cases q : (p : Int) = 0
      · rw [if_pos q]
        have : p = 0 := by omega
        subst this
        rw [sb_z hwl] at h
        exact h v hT
      · rw [if_neg q]
        obtain ⟨i1, z1, X, Y, rfl, d1, e1, a1, b1, k1, rfl⟩ := hT.ex
        simp only [List.length_cons, List.length_append] at hp hsz
        obtain ⟨p, rfl⟩ : ∃ q, p = q + 1 := ⟨p - 1, by omega⟩
        rw [sb_cons] at h
        obtain ⟨e, hwX⟩ := a1.wl
        refine i_R (i_fV d1 (by decide) rfl a1.nl (c_size n 8 (by omega) (by omega) a1 ?_))
        by_cases q2 : (X.length : Int) < ((p + 1 : Nat) : Int)
        · rw [if_pos q2, show wr (wr (((p + 1 : Nat) : Int) - 1) - (X.length : Int)) = ((p - X.length : Nat) : Int) by rw [wr_s (z := ((p + 1 : Nat) : Int) - 1) (by omega), wr_s (by omega)]; omega]
          rw [sb_app_r (by omega)] at h
          exact i_fV d1 (by decide) rfl b1.nl (ih m (by omega) (by omega) (b1.nzL (by omega)) (by omega) fun u hu => h u hu.up1)
        · rw [if_neg q2, show wr (((p + 1 : Nat) : Int) - 1) = ((p : Nat) : Int) by rw [wr_s (by omega)]; omega]
          rw [sb_app_l hwX (by omega)] at h
          exact i_fV d1 (by decide) rfl a1.nl (ih m (by omega) (by omega) (a1.nzL (by omega)) (by omega) fun u hu => h u hu.up1)
/-- the right side with what the variables are bound to -/
theorem c_fill : ∀ (n m : Nat) {s : LSt} {v : JV} {R : List Int} {f : Nat → Option (List Int)} {Q : JV → LSt → Prop}, n < m → n ≤ 4 → IsC n s v R → Wt 3 s aw f → (∀ c, c ∈ R → c < 0 → vn c < 16 ∧ f (vn c) ≠ none) → (dS s).length + 2 ^ n ≤ 900000 → (∀ s' v' L', Fm (fun _ => False) (2 ^ n - 1) (3 * (2 ^ n - 1)) s s' → IsC (n + 2) s' v' L' → (v = jX .null ↔ v' = jX .null) → Q v' s') → d_Lw_fill m v (jR aw) s Q := by
  intro n
  induction n with
  | zero =>
    intro m s v R f Q hm _ hv _ _ _ h
    cases m with
    | zero => omega
    | succ m =>
      rcases hv with ⟨rfl, rfl⟩ | hv
      · exact h s (jX .null) [] Fm.rfl' (Or.inl ⟨rfl, rfl⟩) Iff.rfl
      · exact hv.elim
  | succ n ih =>
    intro m s v R f Q hm hn hv hw hb hl h
    have hp : 2 ^ (n + 1) = 2 * 2 ^ n := by rw [Nat.pow_succ]; omega
    have hq : 0 < 2 ^ n := Nat.pow_pos (by decide)
    cases m with
    | zero => omega
    | succ m =>
      rcases hv with ⟨rfl, rfl⟩ | hv
      · exact h s (jX .null) [] Fm.rfl' (Or.inl ⟨rfl, rfl⟩) Iff.rfl
      · obtain ⟨i, zc, X, Y, rfl, h2, h0, hX, hY, hk, rfl⟩ := hv.ex
        show d_Lw_fill_F (d_Lw_fill m) (jR i) (jR aw) s Q
        unfold d_Lw_fill_F
        refine i_N1 (i_fI h2 (by decide) h0 ?_)
        by_cases q : zc < 100
        · rw [if_pos q]
          refine c_alloc (by omega) fun s1 i1 f1 hi h1 e0 e1 => ?_
          have hd1 := f1.dh h2
          have hv1 := f1.dV h2 id
          have hX1 := hX.fm f1 fun _ _ => id
          have hY1 := hY.fm f1 fun _ _ => id
          rw [← hv1] at h0 hX1 hY1 hk
          refine i_fI hd1 (by decide) h0 (i_fV hd1 (by decide) rfl hX1.nl ?_)
          refine ih m (by omega) (by omega) hX1 (hw.fm f1 id fun _ _ => id) (fun c hc => hb c (List.mem_cons_of_mem _ (List.mem_append_left _ hc))) (by have := f1.len; omega) fun s2 vx X2 f2 hX2 n2 => ?_
          have hd2 := f2.dh hd1
          have hv2 := f2.dV hd1 id
          have hY2 := hY1.fm f2 fun _ _ => id
          rw [← hv2] at hY2 hk n2
          refine i_fV hd2 (by decide) rfl hY2.nl ?_
          refine ih m (by omega) (by omega) hY2 ((hw.fm f1 id fun _ _ => id).fm f2 id fun _ _ => id) (fun c hc => hb c (List.mem_cons_of_mem _ (List.mem_append_right _ hc))) (by have := f1.len; have := f2.len; omega) fun s3 vy Y3 f3 hY3 n3 => ?_
          have h3 := f3.dh (f2.dh h1)
          have hw3 : dV s3 i1 = dV s1 i1 := by rw [f3.dV (f2.dh h1) id, f2.dV h1 id]
          have hX3 := hX2.fm f3 fun _ _ => id
          refine c_fin h3 (by rw [hw3]; exact e0) (by rw [hw3]; exact e1) hX3 hY3 (hk.cg n2 n3) fun s4 f4 hN => ?_
          have g2 : Fm (fun _ => False) (2 ^ n) (3 * 2 ^ n) s s2 := f1.tr f2 (fun _ _ => id) (fun _ _ => id) (by omega) (by omega)
          have g3 : Fm (fun _ => False) (2 ^ n + (2 ^ n - 1)) (3 * 2 ^ n + 3 * (2 ^ n - 1)) s s3 := g2.tr f3 (fun _ _ => id) (fun _ _ => id) (by omega) (by omega)
          have g4 : Fm (fun _ => False) (2 ^ (n + 1) - 1) (3 * (2 ^ (n + 1) - 1)) s s4 := g3.tr f4 (fun _ _ => id) (fun j hj e => by omega) (by omega) (by omega)
          exact h s4 (jR i1) _ g4 (Or.inr hN) ⟨fun e => (by cases e), fun e => (by cases e)⟩
        · rw [if_neg q]
          obtain ⟨kk, hkk, hkz⟩ : ∃ kk : Nat, kk < 2 ∧ zc = 100 + (kk : Int) := by
            rcases hk with ⟨r1, -⟩ | ⟨r1, -⟩ | ⟨r1, -⟩
            · omega
            · omega
            · rcases r1 with r1 | r1 | r1 | r1
              · omega
              · omega
              · exact ⟨0, by decide, by omega⟩
              · exact ⟨1, by decide, by omega⟩
          have hwr : wr (zc - 100) = (kk : Int) := by rw [wr_s (by omega)]; omega
          have hnc : ncd zc = -1 - (kk : Int) := by
            unfold ncd
            rw [if_neg (by omega), if_neg (by omega), if_neg (by omega)]
            omega
          have hvn : vn (-1 - (kk : Int)) = kk := by
            unfold vn
            omega
          have hbk := hb (ncd zc) List.mem_cons_self (by omega)
          rw [hnc, hvn] at hbk
          obtain ⟨Z, hZ1, hZ2⟩ : ∃ Z, f kk = some Z ∧ IsN 3 s (dV s aw kk) Z := by
            rcases hw.2 kk (by omega) with ⟨e, -⟩ | e
            · exact absurd e hbk.2
            · exact e
          refine i_fI h2 (by decide) h0 (i_R ⟨116, 16, _, hw.1, by decide, by rw [hwr]; omega, by rw [hwr]; omega, rfl, ?_, ?_⟩)
          · rw [hwr, Int.toNat_natCast]
            exact hZ2.nl.1
          · rw [hwr, Int.toNat_natCast]
            exact h s _ Z Fm.rfl' (Or.inr (hZ2.le (by omega))) ⟨fun e => (by cases e), fun e => absurd e hZ2.nn⟩
/-- a part is put in at a place -/
theorem c_put : ∀ (n m K : Nat) {s : LSt} {v u : JV} {T U : List Int} {p : Nat} {Q : JV → LSt → Prop}, n ≤ m → n ≤ 7 → 2 ≤ K → IsN n s v T → p < T.length → 2 ≤ (sb T p).length → IsN K s u U → (dS s).length + n ≤ 900000 → (∀ s' v' L', Fm (fun _ => False) n (3 * n) s s' → IsN (n - 2 + K) s' v' L' → Q v' s') → d_Lw_put m v (p : Int) u s Q := by
  intro n
  induction n with
  | zero => exact fun _ _ _ _ _ _ _ _ _ _ _ _ h => h.elim
  | succ n ih =>
    intro m K s v u T U p Q hm hn hK hT hp h2 hU hl h
    cases m with
    | zero => omega
    | succ m =>
      show d_Lw_put_F (d_Lw_put m) v (p : Int) u s Q
      unfold d_Lw_put_F
      have hwl := hT.wl
      have hsz := hT.sz.2
      have hpw : 2 ^ (n + 1) ≤ 2 ^ 7 := Nat.pow_le_pow_right (by decide) hn
      have hp7 : (2 : Nat) ^ 7 = 128 := by decide
      by_cases q : (p : Int) = 0
      · rw [if_pos q]
        have : p = 0 := by omega
        subst this
        rw [sb_z hwl] at h2
        have hn1 : 1 ≤ n := by
          rcases Nat.eq_zero_or_pos n with e | e
          · subst e
            have : (2 : Nat) ^ (0 + 1) = 2 := by decide
            omega
          · exact e
        exact h s u U Fm.rfl' (hU.le (by omega))
      · rw [if_neg q]
        obtain ⟨i1, z1, X, Y, rfl, d1, e1, a1, b1, k1, rfl⟩ := hT.ex
        simp only [List.length_cons, List.length_append] at hp hsz
        obtain ⟨p, rfl⟩ : ∃ q, p = q + 1 := ⟨p - 1, by omega⟩
        rw [sb_cons] at h2
        obtain ⟨e, hwX⟩ := a1.wl
        refine i_R (i_fV d1 (by decide) rfl a1.nl (c_size n 8 (by omega) (by omega) a1 ?_))
        have n2 : ∀ {vv : JV} {Z : List Int} {pp : Nat}, IsN n s vv Z → 2 ≤ (sb Z pp).length → 2 ≤ n := by
          intro vv Z pp hZ hs2
          have hz := hZ.sz.2
          have : (sb Z pp).length ≤ Z.length := by
            unfold sb
            rw [List.length_take, List.length_drop]
            omega
          rcases (by omega : n = 0 ∨ n = 1 ∨ 2 ≤ n) with e | e | e
          · subst e
            exact hZ.elim
          · subst e
            have : (2 : Nat) ^ 1 = 2 := by decide
            omega
          · exact e
        by_cases q2 : (X.length : Int) < ((p + 1 : Nat) : Int)
        · rw [if_pos q2]
          rw [sb_app_r (by omega)] at h2
          have hbN := b1.nzL (by omega)
          have hn2 := n2 hbN h2
          refine c_alloc (by omega) fun s1 i f1 hi h1 e0 e1' => ?_
          have hd1 := f1.dh d1
          have hv1 := f1.dV d1 id
          refine i_fI hd1 (by decide) (by rw [hv1]; exact e1) (i_fV hd1 (by decide) (by rw [hv1]) a1.nl (i_fV hd1 (by decide) (by rw [hv1]) b1.nl ?_))
          rw [show wr (wr (((p + 1 : Nat) : Int) - 1) - (X.length : Int)) = ((p - X.length : Nat) : Int) by rw [wr_s (z := ((p + 1 : Nat) : Int) - 1) (by omega), wr_s (by omega)]; omega]
          refine ih m K (by omega) (by omega) hK (hbN.fm f1 fun _ _ => id) (by omega) h2 (hU.fm f1 fun _ _ => id) (by have := f1.len; omega) fun s2 v2 L2 f2 hN2 => ?_
          have h3 := f2.dh h1
          have hw3 := f2.dV h1 id
          have hX2 := (a1.fm f1 fun _ _ => id).fm f2 fun _ _ => id
          refine c_fin h3 (by rw [hw3]; exact e0) (by rw [hw3]; exact e1') (hX2.le (by omega : n ≤ n - 2 + K)) (Or.inr hN2) (k1.cg Iff.rfl ⟨fun e => absurd e hbN.nn, fun e => absurd e hN2.nn⟩) fun s3 f3 hN => ?_
          have g2 : Fm (fun _ => False) (n + 1) (3 * (n + 1)) s s2 := f1.tr f2 (fun _ _ => id) (fun _ _ => id) (by omega) (by omega)
          exact h s3 (jR i) _ (g2.tr f3 (fun _ _ => id) (fun j hj e => by omega) (by omega) (by omega)) (by rw [show n + 1 - 2 + K = n - 2 + K + 1 by omega]; exact hN)
        · rw [if_neg q2]
          rw [sb_app_l hwX (by omega)] at h2
          have haN := a1.nzL (by omega)
          have hn2 := n2 haN h2
          refine c_alloc (by omega) fun s1 i f1 hi h1 e0 e1' => ?_
          have hd1 := f1.dh d1
          have hv1 := f1.dV d1 id
          refine i_fI hd1 (by decide) (by rw [hv1]; exact e1) (i_fV hd1 (by decide) (by rw [hv1]) a1.nl ?_)
          rw [show wr (((p + 1 : Nat) : Int) - 1) = ((p : Nat) : Int) by rw [wr_s (by omega)]; omega]
          refine ih m K (by omega) (by omega) hK (haN.fm f1 fun _ _ => id) (by omega) h2 (hU.fm f1 fun _ _ => id) (by have := f1.len; omega) fun s2 v2 L2 f2 hN2 => ?_
          have hd2 := f2.dh hd1
          have hv2 := f2.dV hd1 id
          refine i_fV hd2 (by decide) (by rw [hv2, hv1]) b1.nl ?_
          have h3 := f2.dh h1
          have hw3 := f2.dV h1 id
          have hY2 := (b1.fm f1 fun _ _ => id).fm f2 fun _ _ => id
          refine c_fin h3 (by rw [hw3]; exact e0) (by rw [hw3]; exact e1') (Or.inr hN2) (hY2.le (by omega : n ≤ n - 2 + K)) (k1.cg ⟨fun e => absurd e haN.nn, fun e => absurd e hN2.nn⟩ Iff.rfl) fun s3 f3 hN => ?_
          have g2 : Fm (fun _ => False) (n + 1) (3 * (n + 1)) s s2 := f1.tr f2 (fun _ _ => id) (fun _ _ => id) (by omega) (by omega)
          exact h s3 (jR i) _ (g2.tr f3 (fun _ _ => id) (fun j hj e => by omega) (by omega) (by omega)) (by rw [show n + 1 - 2 + K = n - 2 + K + 1 by omega]; exact hN)
/-- a redex is there -/
def rdxL (Rs : List (List Int × List Int)) (T : List Int) : Prop := ∃ (r p : Nat) (τ : Int → List Int), r < Rs.length ∧ p < T.length ∧ (∀ c, c < 0 → Jvm.Pilot.@@N@@.wl (τ c) 1 = true) ∧ sv τ (Rs.getD r ([], [])).1 = sb T p
theorem Wt.tau {M : Nat} {f : Nat → Option (List Int)} (h : Wt M s aw f) : ∃ τ, cpt f τ ∧ ∀ c, c < 0 → Jvm.Pilot.@@N@@.wl (τ c) 1 = true := by
  refine ⟨fun c => if vn c < 16 then (f (vn c)).getD [8] else [8], fun k X hk hX => ?_, fun c hc => ?_⟩
  · have : vn (-1 - (k : Int)) = k := by
      unfold vn
      omega
    dsimp only
    rw [this, if_pos hk, hX]
    rfl
  · dsimp only
    by_cases q : vn c < 16
    · rw [if_pos q]
      rcases h.2 (vn c) q with ⟨e, -⟩ | ⟨X, e, hX⟩
      · rw [e]
        rfl
      · rw [e]
        exact hX.wl
    · rw [if_neg q]
      rfl
theorem sv_root {τ : Int → List Int} (hL : IsN n s v L) (hr : rootS L) (hw : ∀ c, c < 0 → Jvm.Pilot.@@N@@.wl (τ c) 1 = true) : 2 ≤ (sv τ L).length := by
  have h1 := hL.wl
  obtain ⟨X, hX⟩ := hr
  have key : ∀ (cc : Int) (d : Nat), ¬ cc < 0 → ar cc = d + 1 → L = cc :: X → 2 ≤ (sv τ L).length := by
    intro cc d hc hd he
    subst he
    rw [wl_cons, hd] at h1
    rw [sv_cons, if_neg hc, List.length_append]
    have := wl_len (wl_sv (σ := τ) X (d + 1) (by simpa using h1) fun c _ => hw c)
    simp only [List.length_cons, List.length_nil]
    omega
  rcases hX with hX | hX
  · exact key 5 0 (by decide) (by decide) hX
  · exact key 2 1 (by decide) (by decide) hX
theorem c_rewrite {T : List Int} {z : Int} {p : Nat} {Q : JV → LSt → Prop} (h : SysR s d ir it aw ar fr Rs) (hz : z < 0 ∨ ∃ r : Nat, z = (r : Int) ∧ r < Rs.length) (hT : IsN 4 s v T) (hp : p < T.length) (hl : (dS s).length ≤ 899000) (hq : ∀ s' x, Fm (fun j => j = aw) 20 60 s s' → (x = jX .null ∨ ∃ U, IsN 7 s' x U ∧ rdxL Rs T) → Q x s') : d_Sys_rewrite (jR d) z v (p : Int) s Q := by
  have hd : dn s ≤ 1000000 := by unfold dn; omega
  have haw := h.awd
  unfold d_Sys_rewrite
  by_cases q : z < 0
  · rw [if_pos q]
    exact hq s _ Fm.rfl' (Or.inl rfl)
  · rw [if_neg q]
    obtain ⟨r, rfl, hr⟩ : ∃ r : Nat, z = (r : Int) ∧ r < Rs.length := by
      rcases hz with e | e
      · exact absurd e q
      · exact e
    refine c_at 4 5 (by decide) (by decide) hT hp fun u hu => i_R ⟨i_rcv h.1.1, c_matches h hr hu hd fun s1 f1 y F1 hw1 hy hy1 => ?_⟩
    by_cases q0 : y = 0
    · rw [if_pos q0]
      exact hq s1 _ (F1.mono (fun _ _ => id) (by omega) (by omega)) (Or.inl rfl)
    · rw [if_neg q0]
      obtain ⟨hb, ht⟩ := hy1 (hy.resolve_left q0)
      have h1 := h.fa F1
      have l1 := F1.len
      refine i_fV h1.1.1 (by decide) h1.1.2.1 rfl (i_R ⟨i_rcv h1.2.1.1, c_AL_get h1.2.1 hr ?_⟩)
      obtain ⟨j, hj, hj2, hL, hR, hroot, hvars⟩ := h1.2.2.1 r hr
      rw [hj]
      refine ⟨⟨2, hj2⟩, i_R ⟨116, 2, _, hj2, by decide, by decide, by decide, rfl, hR.nl.1, ?_⟩⟩
      refine i_fV h1.1.1 (by decide) h1.1.2.2.2.1 rfl (c_fill 3 5 (by decide) (by decide) (Or.inr hR) hw1 (fun c hc hc0 => hb c (hvars c hc hc0) hc0) (by omega) fun s2 v2 L2 F2 hN2 hn2 => ?_)
      have hN2' := hN2.nz fun e => hR.nn (hn2.mpr e)
      have l2 := F2.len
      have hT2 := (hT.faw F1 haw).fm F2 fun _ _ => id
      obtain ⟨τ, hτ1, hτ2⟩ := hw1.tau
      have hsv := ht τ hτ1
      have h2l : 2 ≤ (sb T p).length := by
        rw [← hsv]
        exact sv_root hL hroot hτ2
      refine c_put 4 5 5 (by decide) (by decide) (by decide) hT2 hp h2l hN2' (by omega) fun s3 v3 L3 F3 hN3 => ?_
      have F4 : Fm (fun j => j = aw) 20 60 s s3 := (F1.tr F2 (W := fun j => j = aw) (c := 7) (w := 21) (fun _ _ => id) (fun _ _ h => h.elim) (by omega) (by omega)).tr F3 (fun _ _ => id) (fun _ _ h => h.elim) (by omega) (by omega)
      refine c_size 7 8 (by decide) (by decide) (Or.inr hN3) ?_
      by_cases q8 : (80 : Int) < (L3.length : Int)
      · rw [if_pos q8]
        exact hq s3 _ F4 (Or.inl rfl)
      · rw [if_neg q8]
        exact hq s3 _ F4 (Or.inr ⟨L3, hN3, r, p, τ, hr, hp, hτ2, hsv⟩)
theorem c_step {T : List Int} {z : Int} {Q : JV → LSt → Prop} (h : SysR s d ir it aw ar fr Rs) (h10 : Rs.length ≤ 10) (hz : z = -1 ∨ ∃ p : Nat, z = (p : Int) ∧ p < T.length) (hT : IsN 4 s v T) (hl : (dS s).length ≤ 899000) (hq : ∀ s' x, Fm (fun j => j = aw) 20 60 s s' → (x = jX .null ∨ ∃ U, IsN 7 s' x U ∧ rdxL Rs T) → Q x s') : d_Sys_step (jR d) v z s Q := by
  have hd : dn s ≤ 1000000 := by unfold dn; omega
  have haw := h.awd
  unfold d_Sys_step
  by_cases q : z < 0
  · rw [if_pos q]
    exact hq s _ Fm.rfl' (Or.inl rfl)
  · rw [if_neg q]
    obtain ⟨p, rfl, hp⟩ : ∃ p : Nat, z = (p : Int) ∧ p < T.length := by
      rcases hz with e | e
      · omega
      · exact e
    refine c_at 4 5 (by decide) (by decide) hT hp fun u hu => i_R ⟨i_rcv h.1.1, c_rule h h10 hu hd fun s1 r F1 hr => ?_⟩
    have h1 := h.fa F1
    have l1 := F1.len
    refine ⟨i_rcv h1.1.1, c_rewrite h1 (hr.imp (fun e => by omega) id) (hT.faw F1 haw) hp (by omega) fun s2 x F2 hx => ?_⟩
    exact hq s2 x (F1.tr F2 (fun _ _ => id) (fun _ _ => id) (by omega) (by omega)) hx
end L96i
