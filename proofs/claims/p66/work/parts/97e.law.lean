/-! THE LAW: the rounds, branch by branch -/
theorem lg_self (x : Int64) : (lg_cmp x x).toInt = 0 := by
  unfold lg_cmp
  rw [if_neg Int64.lt_irrefl, if_pos rfl]
  rfl
theorem jrem7 {x n : Int} (hn : 0 < n ∧ n ≤ 6) : 0 ≤ jrem (jand x 7) n ∧ jrem (jand x 7) n < n := by
  have h : 0 ≤ jand x 7 ∧ jand x 7 ≤ 7 := jand_rng (m := 7) (by decide)
  have k : ∀ (j : Fin 8) (m : Fin 7), 0 < (m : Nat) → 0 ≤ jrem ((j : Nat) : Int) ((m : Nat) : Int) ∧ jrem ((j : Nat) : Int) ((m : Nat) : Int) < ((m : Nat) : Int) := by decide +kernel
  have := k ⟨(jand x 7).toNat, by omega⟩ ⟨n.toNat, by omega⟩ (by show 0 < n.toNat; omega)
  rw [show ((⟨(jand x 7).toNat, by omega⟩ : Fin 8) : Nat) = (jand x 7).toNat from rfl, show (((jand x 7).toNat : Nat) : Int) = jand x 7 by omega, show ((⟨n.toNat, by omega⟩ : Fin 7) : Nat) = n.toNat from rfl, show ((n.toNat : Nat) : Int) = n by omega] at this
  exact this
theorem jrem15 {x n : Int} (hn : 0 < n ∧ n ≤ 80) : 0 ≤ jrem (jand x 15) n ∧ jrem (jand x 15) n < n := by
  have h : 0 ≤ jand x 15 ∧ jand x 15 ≤ 15 := jand_rng (m := 15) (by decide)
  have k : ∀ (j : Fin 16) (m : Fin 81), 0 < (m : Nat) → 0 ≤ jrem ((j : Nat) : Int) ((m : Nat) : Int) ∧ jrem ((j : Nat) : Int) ((m : Nat) : Int) < ((m : Nat) : Int) := by decide +kernel
  have := k ⟨(jand x 15).toNat, by omega⟩ ⟨n.toNat, by omega⟩ (by show 0 < n.toNat; omega)
  rw [show ((⟨(jand x 15).toNat, by omega⟩ : Fin 16) : Nat) = (jand x 15).toNat from rfl, show (((jand x 15).toNat : Nat) : Int) = jand x 15 by omega, show ((⟨n.toNat, by omega⟩ : Fin 81) : Nat) = n.toNat from rfl, show ((n.toNat : Nat) : Int) = n by omega] at this
  exact this
theorem lg_m1 {n : Nat} (hn : n ≤ 6) : (lg_cmp ((Int32.ofInt ((n : Int) - 1)).toInt64) ((Int32.ofInt (n : Int)).toInt64 - (Int64.ofNat 1))).toInt = 0 := by
  have k : ∀ j : Fin 7, (lg_cmp ((Int32.ofInt (((j : Nat) : Int) - 1)).toInt64) ((Int32.ofInt ((j : Nat) : Int)).toInt64 - (Int64.ofNat 1))).toInt = 0 := by decide +kernel
  exact k ⟨n, by omega⟩
theorem lg_back {n : Nat} (hn : n ≤ 6) : (((Int32.ofInt (n : Int)).toInt64).toInt32).toInt = (n : Int) := by
  have k : ∀ j : Fin 7, (((Int32.ofInt ((j : Nat) : Int)).toInt64).toInt32).toInt = ((j : Nat) : Int) := by decide +kernel
  exact k ⟨n, by omega⟩
/-- of the law's own cells only rows of longs changed -/
def Fs (s s1 : LSt) : Prop := dS s1 = dS s ∧ s1.1.1 = s.1.1 ∧ s1.1.2.2 = s.1.2.2
/-- what holds from the saving of a state to its coming back -/
def TI (s : LSt) (iw iz : Nat) (sl : Int) (C : Cf) (A : AS) : Prop := LI s A ∧ slA A sl = some C ∧ (1 ≤ C.1.length ∧ 1 ≤ C.2.length) ∧ rowJ s iw (see (aS A) C) ∧ dh s iz = some (103, 60) ∧ iw < iz ∧ (sl = 0 ∨ sl = 1)
section L97e
variable {s s1 s2 : LSt} {A A' : AS} {t u p sl v7 v8 v10 v11 v12 : Int} {Q : Int → LSt → Prop} {W68 : Int → LSt → Prop} {iw iz : Nat} {C : Cf}
theorem Fs.rfl' : Fs s s := ⟨rfl, rfl, rfl⟩
theorem Fs.tr (h1 : Fs s s1) (h2 : Fs s1 s2) : Fs s s2 := ⟨h2.1.trans h1.1, h2.2.1.trans h1.2.1, h2.2.2.trans h1.2.2⟩
theorem Ft.fs {m : Nat} (h : Ft m s s1) : Fs s s1 := ⟨h.1, h.2.1, h.2.2.1⟩
theorem Fs.m {μ : Mem} : Fs s (s.1, μ) := ⟨rfl, rfl, rfl⟩
theorem Fs.dh {i : Nat} (h : Fs s s1) : Jvm.Pilot.@@N@@.dh s1 i = Jvm.Pilot.@@N@@.dh s i := by
  unfold Jvm.Pilot.@@N@@.dh
  rw [h.1]
theorem g4_s {b1 b2 : Bool} {o : Option (Int × AS)} {r : Int} (h1 : b1 = true) (h2 : b2 = true) (h3 : o = some (r, A')) : g4 b1 b2 o A = (0, r, A') := by
  rw [h1, h2, h3]
  rfl
theorem rdc_len : ∀ {n k : Nat} {rs : List Rl2} {inner : Bool} {T Y : List Int}, rdc rs inner n T = some (k, Y) → k ≤ n := by
  intro n
  induction n with
  | zero =>
    intro k rs inner T Y h
    rcases rdc_cs h with ⟨rfl, -⟩ | ⟨m, j, X, e, -⟩
    · exact Nat.le_refl _
    · omega
  | succ n ih =>
    intro k rs inner T Y h
    rcases rdc_cs h with ⟨rfl, -⟩ | ⟨m, j, X, e, rfl, -, -, hm⟩
    · omega
    · have : m = n := by omega
      subst this
      have := ih hm
      omega
/-- after a call that changes: terms and rules are there, the saved state and the symbols stay -/
theorem TI.ch {μ : Mem} (h : TI s iw iz sl C A) (hc : CI μ A') (h0 : μ 797 0 = 0) (hA : AOK A') (hl : aL A' = true) (h1 : 1 ≤ (aT A').length) (h2 : 1 ≤ (aR A').length) (h3 : aS A' = aS A) (h4 : slA A' sl = slA A sl) : TI (s.1, μ) iw iz sl C A' := by
  obtain ⟨g1, g2, g3, g4, g5, g6, g7⟩ := h
  exact ⟨⟨hc, hA, h0, hl, h1, h2⟩, h4.trans g2, g3, by rw [h3]; exact g4, g5, g6, g7⟩
theorem TI.lk {μ : Mem} (h : TI s iw iz sl C A) (hc : CI μ A) (h0 : μ 797 0 = 0) : TI (s.1, μ) iw iz sl C A := h.ch hc h0 h.1.2.1 h.1.2.2.2.1 h.1.2.2.2.2.1 h.1.2.2.2.2.2 rfl rfl
/-- the end of a round -/
theorem c_tail (h : TI s iw iz sl C A) (hW : ∀ s' A', LI s' A' → Fs s s' → W68 (wr (v7 + 1)) s') : d_Lw_law_j650 (jR iw) (jR iz) v7 v8 sl s W68 Q := by
  obtain ⟨hL, hsl, ⟨hC1, hC2⟩, hw, hz, hne, hs⟩ := h
  obtain ⟨hI, hA, h0, hl, hT1, hR1⟩ := id hL
  unfold d_Lw_law_j650
  by_cases q : jand (jushr v8 25) 3 = 0
  · rw [if_pos q]
    have hs' : sp_restoreState A sl = (0, (C.2.length : Int), reA A C) := by
      unfold sp_restoreState
      rw [decide_eq_true (show 0 ≤ sl ∧ sl < 2 by omega), hsl]
      rfl
    have hok : AOK (reA A C) := by
      have := restoreState_ok (v1 := sl) hA
      rw [hs'] at this
      exact this
    refine o_restoreState hI hA h0 hs' fun μ1 c1 z1 => i_R (i_rJ (s := (s.1, μ1)) (k := 1) hw rfl (by decide) ?_)
    have e1 : see (aS A) C 1 = (Int32.ofInt (C.2.length : Int)).toInt64 := rfl
    rw [e1, if_pos (lg_self _)]
    refine o_undoCount (s := (s.1, μ1)) c1 ?_
    rw [if_pos (show (((aH (reA A C)).length : Nat) : Int) = 0 from rfl)]
    have hL1 : LI (s.1, μ1) (reA A C) := ⟨c1, hok, z1, hl, hC2, hC1⟩
    refine c_sees hL1 hz fun s2 o f2 hL2 hw2 => ?_
    have hzi : dV s2 iw = dV s iw := f2.2.2.2 iw (by omega)
    have hdi : dh s2 iw = some (103, 60) := by
      rw [f2.dh]
      exact hw.1
    refine i_R ⟨hdi, hw2.1, hne, fun k hk => ?_, ?_⟩
    · rw [hzi, hw.2 k hk, hw2.2 k hk]
      exact decide_eq_true rfl
    · rw [if_neg (by decide)]
      exact hW s2 _ hL2 (Fs.m.tr f2.fs)
  · rw [if_neg q]
    exact hW s A hL Fs.rfl'
theorem trm_set {T : List Int} (ht : 0 ≤ t ∧ t < ((aT A).length : Int)) : trm (chT A t.toNat T) t = T := by
  show ((aT A).set t.toNat T).getD t.toNat [] = T
  rw [List.getD_eq_getElem?_getD, List.getElem?_set_self (by omega)]
  rfl
theorem len_set {T : List Int} : (aT (chT A t.toNat T)).length = (aT A).length := List.length_set
theorem TI.set {μ : Mem} {T : List Int} (h : TI s iw iz sl C A) (hc : CI μ (chT A t.toNat T)) (h0 : μ 797 0 = 0) (hA : AOK (chT A t.toNat T)) : TI (s.1, μ) iw iz sl C (chT A t.toNat T) := h.ch hc h0 hA h.1.2.2.2.1 (by rw [len_set]; exact h.1.2.2.2.2.1) h.1.2.2.2.2.2 rfl rfl
/-- normal forms -/
theorem c_br1 (h : TI s iw iz sl C A) (ht : 0 ≤ t ∧ t < ((aT A).length : Int)) (hW : ∀ s' A', LI s' A' → Fs s s' → W68 (wr (v7 + 1)) s') : oI (d_OB_stepsInnermost t s.2) s (fun r38 s39 => oI (d_OB_normalFormSize t s39.2) s39 (fun r40 s41 => if r38 < 0 then (d_Lw_law_j250 (jR iw) (jR iz) v7 v8 sl s41 W68 Q) else (oI (d_OB_normalize t s41.2) s41 (fun r50 s51 => if r50 = r38 then (oI (d_OB_termSize t s51.2) s51 (fun r52 s53 => if r52 = r40 then (oB (d_OB_isNormalForm t s53.2) s53 (fun r54 s55 => if r54 = true then (oI (d_OB_redexCount t s55.2) s55 (fun r56 s57 => if r56 = 0 then (d_Lw_law_j250 (jR iw) (jR iz) v7 v8 sl s57 W68 Q) else (Q 0 s57))) else (Q 0 s55))) else (Q 0 s53))) else (Q 0 s51))))) := by
  obtain ⟨hI, hA, h0, hl, hT1, hR1⟩ := id h.1
  refine o_stepsInnermost hI hA h0 (h.1.t1 ht) fun μ1 c1 z1 => o_normalFormSize (s := (s.1, μ1)) c1 hA z1 (h.1.t1 ht) fun μ2 c2 z2 => ?_
  have h2 : TI (s.1, μ2) iw iz sl C A := h.lk c2 z2
  have w2 : ∀ s' A', LI s' A' → Fs (s.1, μ2) s' → W68 (wr (v7 + 1)) s' := fun s' A' a b => hW s' A' a (Fs.m.tr b)
  cases hr : rdc (aR A) true 200 (trm A t) with
  | none =>
    rw [if_pos (show rstep none < 0 by decide)]
    exact c_tail h2 w2
  | some q =>
    obtain ⟨K, Y⟩ := q
    have hs : sp_normalize A t = (0, (K : Int), chT A t.toNat Y) := by
      unfold sp_normalize
      refine g4_s hl (decide_eq_true ht) ?_
      rw [show rdc (aR A) true 200 ((aT A).getD t.toNat []) = some (K, Y) from hr]
    have hok : AOK (chT A t.toNat Y) := by
      have := normalize_ok (v1 := t) hA
      rw [hs] at this
      exact this
    rw [if_neg (show ¬ rstep (some (K, Y)) < 0 by show ¬ (K : Int) < 0; omega)]
    refine o_normalize (s := (s.1, μ2)) c2 hA z2 hs fun μ3 c3 z3 => ?_
    rw [if_pos (show (K : Int) = rstep (some (K, Y)) from rfl)]
    have h3 : TI (s.1, μ3) iw iz sl C (chT A t.toNat Y) := h2.set c3 z3 hok
    have ht3 : 0 ≤ t ∧ t < ((aT (chT A t.toNat Y)).length : Int) := by rw [len_set]; exact ht
    have hnf0 : nf (aR A) Y := rdc_end _ _ _ _ hr
    have hnf : nf (aR (chT A t.toNat Y)) Y := hnf0
    refine o_termSize (s := (s.1, μ3)) c3 hok z3 (h3.1.t1 ht3) fun μ4 c4 z4 => ?_
    rw [show (aT (chT A t.toNat Y)).getD t.toNat [] = Y from trm_set ht, if_pos (show (Y.length : Int) = rsize (some (K, Y)) from rfl)]
    refine o_isNormalForm (s := (s.1, μ4)) c4 hok z4 (h3.1.t1 ht3) fun μ5 c5 z5 => ?_
    rw [show (aT (chT A t.toNat Y)).getD t.toNat [] = Y from trm_set ht, if_pos (decide_eq_true (px_nf.mpr hnf))]
    refine o_redexCount (s := (s.1, μ5)) c5 hok z5 (h3.1.t1 ht3) fun μ6 c6 z6 => ?_
    rw [show (aT (chT A t.toNat Y)).getD t.toNat [] = Y from trm_set ht, if_pos (cnt_nf.mpr hnf)]
    exact c_tail (h3.lk c6 z6) fun s' A' a b => w2 s' A' a (Fs.m.tr b)
/-- innermost steps one by one -/
theorem c_br2 (h : TI s iw iz sl C A) (ht : 0 ≤ t ∧ t < ((aT A).length : Int)) (hW : ∀ s' A', LI s' A' → Fs s s' → W68 (wr (v7 + 1)) s') : oI (d_OB_stepsInnermost t s.2) s (fun r58 s59 => d_Lw_law_l271 (jR iw) (jR iz) v7 v8 sl t r58 0 s59 W68 Q) := by
  obtain ⟨hI, hA, h0, hl, hT1, hR1⟩ := id h.1
  refine o_stepsInnermost hI hA h0 (h.1.t1 ht) fun μ1 c1 z1 => ?_
  have h1 : TI (s.1, μ1) iw iz sl C A := h.lk c1 z1
  have w1 : ∀ s' A', LI s' A' → Fs (s.1, μ1) s' → W68 (wr (v7 + 1)) s' := fun s' A' a b => hW s' A' a (Fs.m.tr b)
  cases hr : rdc (aR A) true 200 (trm A t) with
  | none =>
    refine i_Lw_law_l271 (Inv := fun v15 s' => v15 = 0 ∧ s' = (s.1, μ1)) (fun _ _ => 0) ?_ 0 _ ⟨rfl, rfl⟩
    rintro _ _ ⟨rfl, rfl⟩ W hWW
    unfold d_Lw_law_b271 d_Lw_law_j308
    rw [if_neg (show ¬ (0 : Int) < rstep none by decide), if_pos (show rstep none < 0 by decide)]
    exact c_tail h1 w1
  | some q =>
    obtain ⟨K, Y⟩ := q
    have eK : rstep (some (K, Y)) = (K : Int) := rfl
    rw [eK]
    refine i_Lw_law_l271 (Inv := fun v15 s' => ∃ (n m : Nat) (A' : AS), v15 = (n : Int) ∧ n ≤ K ∧ TI s' iw iz sl C A' ∧ (0 ≤ t ∧ t < ((aT A').length : Int)) ∧ rdc (aR A') true m (trm A' t) = some (K - n, Y) ∧ Fs s s') (fun v15 _ => K - v15.toNat) ?_ 0 _ ⟨0, 200, A, rfl, by omega, h1, ht, hr, Fs.m⟩
    rintro _ s2 ⟨n, m, A2, rfl, hn, h2, ht2, hr2, f2⟩ W hWW
    obtain ⟨hI2, hA2, h02, hl2, hT2, hR2⟩ := id h2.1
    unfold d_Lw_law_b271
    have fin : (n = K ∨ ¬ (K : Int) < 12) → d_Lw_law_j308 (jR iw) (jR iz) v7 v8 sl t (K : Int) s2 W68 Q := by
      intro hor
      unfold d_Lw_law_j308
      rw [if_neg (by omega)]
      by_cases q12 : (K : Int) < 12
      · rw [if_pos q12]
        have hnK : n = K := by omega
        subst hnK
        rw [Nat.sub_self] at hr2
        have hY : nf (aR A2) (trm A2 t) := by
          rcases rdc_cs hr2 with ⟨-, -, hp⟩ | ⟨_, j, _, -, e, -⟩
          · exact px_nf.mp hp
          · omega
        refine o_isNormalForm hI2 hA2 h02 (h2.1.t1 ht2) fun μ3 c3 z3 => ?_
        rw [if_pos (decide_eq_true (px_nf.mpr hY))]
        exact c_tail (h2.lk c3 z3) fun s' A' a b => hW s' A' a (f2.tr (Fs.m.tr b))
      · rw [if_neg q12]
        exact c_tail h2 fun s' A' a b => hW s' A' a (f2.tr b)
    by_cases qn : (n : Int) < (K : Int)
    · rw [if_pos qn]
      by_cases q12 : (K : Int) < 12
      · rw [if_pos q12]
        rcases rdc_cs hr2 with ⟨e, -⟩ | ⟨m', j, X, em, ej, hp, hX, hm⟩
        · omega
        · have hs : sp_step true A2 t = (0, px (aR A2) true (trm A2 t), chT A2 t.toNat X) := by
            unfold sp_step
            refine g4_s hl2 (decide_eq_true ht2) ?_
            rw [show stp (aR A2) true ((aT A2).getD t.toNat []) = some (px (aR A2) true (trm A2 t), X) from stp_of hp hX]
          have hok : AOK (chT A2 t.toNat X) := by
            have := step_ok (inner := true) (v1 := t) hA2
            rw [hs] at this
            exact this
          refine o_innermostRedex hI2 hA2 h02 (h2.1.t1 ht2) fun μ3 c3 z3 => o_stepInnermost (s := (s2.1, μ3)) c3 hA2 z3 hs fun μ4 c4 z4 => ?_
          rw [if_pos rfl, show wr ((n : Int) + 1) = ((n + 1 : Nat) : Int) by rw [wr_s (by omega)]; omega]
          have h4 : TI (s2.1, μ4) iw iz sl C (chT A2 t.toNat X) := h2.set c4 z4 hok
          refine hWW _ _ ⟨n + 1, m', _, rfl, by omega, h4, by rw [len_set]; exact ht2, ?_, f2.tr Fs.m⟩ (by omega)
          rw [trm_set ht2, show K - (n + 1) = j by omega]
          exact hm
      · rw [if_neg q12]
        exact fin (Or.inr q12)
    · rw [if_neg qn]
      exact fin (Or.inl (by omega))
/-- an outermost step -/
theorem c_br3 (h : TI s iw iz sl C A) (ht : 0 ≤ t ∧ t < ((aT A).length : Int)) (hW : ∀ s' A', LI s' A' → Fs s s' → W68 (wr (v7 + 1)) s') : oI (d_OB_stepsOutermost t s.2) s (fun r66 s67 => oI (d_OB_outermostRedex t s67.2) s67 (fun r68 s69 => if 0 < r66 then (oI (d_OB_stepOutermost t s69.2) s69 (fun r70 s71 => if r70 = r68 then (oI (d_OB_stepsOutermost t s71.2) s71 (fun r72 s73 => if r72 = wr (r66 - 1) then (d_Lw_law_j388 (jR iw) (jR iz) v7 v8 sl s73 W68 Q) else (Q 0 s73))) else (Q 0 s71))) else (d_Lw_law_j388 (jR iw) (jR iz) v7 v8 sl s69 W68 Q))) := by
  obtain ⟨hI, hA, h0, hl, hT1, hR1⟩ := id h.1
  refine o_stepsOutermost hI hA h0 (h.1.t1 ht) fun μ1 c1 z1 => o_outermostRedex (s := (s.1, μ1)) c1 hA z1 (h.1.t1 ht) fun μ2 c2 z2 => ?_
  have h2 : TI (s.1, μ2) iw iz sl C A := h.lk c2 z2
  have w2 : ∀ s' A', LI s' A' → Fs (s.1, μ2) s' → W68 (wr (v7 + 1)) s' := fun s' A' a b => hW s' A' a (Fs.m.tr b)
  cases hr : rdc (aR A) false 200 (trm A t) with
  | none =>
    rw [if_neg (show ¬ (0 : Int) < rstep none by decide)]
    exact c_tail h2 w2
  | some q =>
    obtain ⟨K, Y⟩ := q
    by_cases q0 : (0 : Int) < (K : Int)
    · rw [if_pos (show (0 : Int) < rstep (some (K, Y)) from q0)]
      rcases rdc_cs hr with ⟨e, -⟩ | ⟨m, j, X, em, ej, hp, hX, hm⟩
      · omega
      · have hs : sp_step false A t = (0, px (aR A) false (trm A t), chT A t.toNat X) := by
          unfold sp_step
          refine g4_s hl (decide_eq_true ht) ?_
          rw [show stp (aR A) false ((aT A).getD t.toNat []) = some (px (aR A) false (trm A t), X) from stp_of hp hX]
        have hok : AOK (chT A t.toNat X) := by
          have := step_ok (inner := false) (v1 := t) hA
          rw [hs] at this
          exact this
        refine o_stepOutermost (s := (s.1, μ2)) c2 hA z2 hs fun μ3 c3 z3 => ?_
        rw [if_pos (show px (aR A) false (trm A t) = px (aR A) false ((aT A).getD t.toNat []) from rfl)]
        have h3 : TI (s.1, μ3) iw iz sl C (chT A t.toNat X) := h2.set c3 z3 hok
        have ht3 : 0 ≤ t ∧ t < ((aT (chT A t.toNat X)).length : Int) := by rw [len_set]; exact ht
        have hm2 : m = 199 := by omega
        subst hm2
        have hr3 : rdc (aR A) false 200 X = some (j, Y) := rdc_mono _ _ _ _ hm
        refine o_stepsOutermost (s := (s.1, μ3)) c3 hok z3 (h3.1.t1 ht3) fun μ4 c4 z4 => ?_
        rw [show (aT (chT A t.toNat X)).getD t.toNat [] = X from trm_set ht]
        have e1 : rstep (rdc (aR (chT A t.toNat X)) false 200 X) = wr (rstep (some (K, Y)) - 1) := by
          rw [show rdc (aR (chT A t.toNat X)) false 200 X = some (j, Y) from hr3]
          show (j : Int) = wr ((K : Int) - 1)
          rw [wr_s (by have := rdc_len hr; omega)]
          omega
        rw [if_pos e1]
        exact c_tail (h3.lk c4 z4) fun s' A' a b => w2 s' A' a (Fs.m.tr b)
    · rw [if_neg (show ¬ (0 : Int) < rstep (some (K, Y)) from q0)]
      exact c_tail h2 w2
end L97e
