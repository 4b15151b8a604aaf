/-! CALLS THAT CHANGE terms: the reference -/
section M55
variable {μ : Mem} {A : AS} {Q : Int → Mem → Prop} {v1 v2 v3 : Int}
/-- the reference: the work becomes a term, with the flag 0 -/
theorem c_changesM {i : Nat} {Y : List Int} {μ1 : Mem} {Q : Mem → Prop} (hI : MI μ1 A) (hA : AOK A) (hl : aL A = true) (hi : i < (aT A).length) (hW : WK μ1 Y) (hg : Gm qmR qF0 μ μ1)
    (h : ∀ μ', MI μ' (chT A i Y) → FrM μ μ' → μ' 772 0 = 0 → μ' 772 25 = (Y.length : Int) → Q μ') : d_Md_changes (i : Int) (mup μ1 772 0 0) Q := by
  unfold d_Md_changes
  have hI0 : MI (mup μ1 772 0 0) A := hI.f0 (by decide)
  have hg0 : Gm qmR qmF μ (mup μ1 772 0 0) := hg.tr (Gm.upF (k := 0)) (by decide) (by decide) (by decide) (by decide)
  refine c_remembers hI0 hA fun μ2 hI2 hG2 => ?_
  have hW2 : WK μ2 Y := (hW.gm (μ' := mup μ1 772 0 0) (mup_r (by decide)) (mup_k (by decide))).gm (hG2.1 780 (by decide) (by decide)) (hG2.2 25 (by decide))
  have hA2 : AOK (wC A (aC A)) := hA.wC hl hA.2.1
  refine c_setTermM (A := wC A (aC A)) hI2 hA2 hi hW2 fun μ3 hI3 hG3 => ?_
  refine h _ hI3 (fun b hb => ?_) ?_ ?_
  · rw [hG3.1 b (by omega) (by intro q; rw [List.mem_singleton] at q; omega), hG2.1 b (by omega) (by intro q; rw [List.mem_singleton] at q; omega), hg0.frMq b hb]
  · rw [hG3.2 0 (by decide), hG2.2 0 (by decide), mup_s]
  · rw [hG3.2 25 (by decide)]; exact hW2.1
theorem c_mayI {b2 b3 : Bool} {μ1 : Mem} {Q : Bool → Mem → Prop} (hI : MI μ1 A) (h1 : aL A = false → Q false (mup μ1 772 0 1)) (h2 : aL A = true → b2 = false → Q false (mup μ1 772 0 2)) (h3 : aL A = true → b2 = true → b3 = false → Q false (mup μ1 772 0 3)) (h4 : aL A = true → b2 = true → b3 = true → Q true (mup μ1 772 0 0)) : d_Md_may (μ1 772 6) (b2i b2) (b2i b3) μ1 Q := by
  rw [hI.1]
  exact c_may h1 h2 h3 h4
theorem mm_rewrite (hI : MI μ A) (hA : AOK A) (h : MC μ (sp_rewrite A v1 v2 v3) Q) : d_Md_rewrite v1 v2 v3 μ Q := by
  unfold d_Md_rewrite
  unfold sp_rewrite at h
  have no : ¬ (aL A = true ∧ ((0 ≤ v1 ∧ v1 < ((aR A).length : Int)) ∧ isN A v2 v3)) → d_Md_rewrite_j21 v1 v2 v3 μ Q := by
    intro hn
    unfold d_Md_rewrite_j21 d_Md_rewrite_j22
    rw [if_pos rfl]
    unfold d_Md_rewrite_j50 d_Md_rewrite_j51
    refine c_mayI (b2 := false) (b3 := false) hI (fun e => ?_) (fun e _ => ?_) (fun _ q => by cases q) (fun _ q => by cases q)
    · rw [e] at h
      exact h.e1 hI Gm.rfl'
    · rw [e, @decide_eq_false _ (Classical.propDecidable _) (fun q => hn ⟨e, q⟩)] at h
      exact h.e2 hI Gm.rfl'
  refine c_isRule hI hA ?_
  cases hl : aL A with
  | false =>
    rw [Bool.false_and, if_neg Bool.false_ne_true]
    exact no fun q => by rw [hl] at q; cases q.1
  | true =>
    rw [Bool.true_and]
    by_cases q1 : 0 ≤ v1 ∧ v1 < ((aR A).length : Int)
    · rw [decide_eq_true q1, if_pos rfl]
      refine c_isPosition hI hA (fun hn => ?_) (fun hn => ?_)
      · rw [if_neg Bool.false_ne_true]
        exact no fun q => hn ⟨hl, q.2.2⟩
      · rw [if_pos rfl]
        unfold d_Md_rewrite_j22
        rw [if_neg (by decide)]
        rw [hl, @decide_eq_true _ (Classical.propDecidable _) ⟨q1, hn.2⟩] at h
        obtain ⟨_, q2, q3⟩ := hn
        have ev : v2 = ((v2.toNat : Nat) : Int) := by omega
        have ev1 : v1 = ((v1.toNat : Nat) : Int) := by omega
        have ev3 : v3 = ((v3.toNat : Nat) : Int) := by omega
        rw [ev, ev1, ev3]
        have hi : v2.toNat < (aT A).length := by omega
        have hn1 : v1.toNat < (aR A).length := by omega
        unfold d_Md_canRewrite
        refine c_lendsI hI hA hi fun μ2 hW hG => ?_
        have hQ : Gm qmR qF0 μ μ2 := hG.mono (by decide) (by decide)
        have hA2 := (hI.AR hA).gm (hG.1 773 (by decide) (by decide))
        have hR2 := (hI.rules hA).gm (hG.1 773 (by decide) (by decide))
        have i6 : ∀ μ1, Gm qmR qF0 μ μ1 → MI μ1 A := fun μ1 g => hI.gq (g.mono (by decide) (by decide))
        have e6 : ∀ μ1, Gm qmR qF0 μ μ1 → μ 772 6 = μ1 772 6 := fun μ1 g => (g.2 6 (by decide)).symm
        have bad : ∀ μ1, Gm qmR qF0 μ μ1 → rw1 ((aR A).getD v1.toNat ([], [])) ((aT A).getD v2.toNat []) v3.toNat = none → d_Md_rewrite_j50 ((v2.toNat : Nat) : Int) (μ 772 6) 1 μ1 Q := by
          intro μ1 g hY
          unfold d_Md_rewrite_j50 d_Md_rewrite_j51
          rw [hY] at h
          rw [e6 _ g]
          refine c_mayI (b2 := true) (b3 := false) (i6 _ g) (fun e => ?_) (fun _ q => by cases q) (fun _ _ _ => ?_) (fun _ _ q => by cases q)
          · rw [hl] at e; cases e
          · exact h.e3 (i6 _ g) g
        refine c_matchesAt hA2 hW (hA.term hi) (hR2.2.2 _ hn1) (hA.rule hn1) (by omega) (fun μ3 b hb hB hG3 => ?_) (fun μ3 hb hG3 => ?_)
        · rw [if_pos rfl]
          have hQ3 := hQ.q hG3 (by decide) (by decide)
          have k3 : μ3 773 = μ 773 := hQ3.1 773 (by decide) (by decide)
          refine c_rewritesAt ((hI.AR hA).gm k3) (hW.gm (hG3.1 780 (by decide) (by decide)) (hG3.2 25 (by decide))) (hA.term hi) (((hI.rules hA).gm k3).2.2 _ hn1) (hA.rule hn1) (by omega) hb hB (fun μ4 Y hY hW4 hG4 => ?_) (fun μ4 hY hG4 _ => ?_)
          · have hQ4 := hQ3.q hG4 (by decide) (by decide)
            rw [if_pos rfl]
            dsimp only
            rw [if_pos rfl]
            unfold d_Md_rewrite_j51
            rw [hY] at h
            rw [e6 _ hQ4]
            refine c_mayI (b2 := true) (b3 := true) (i6 _ hQ4) (fun e => ?_) (fun _ q => by cases q) (fun _ _ q => by cases q) (fun _ _ _ => ?_)
            · rw [hl] at e; cases e
            · rw [if_pos rfl]
              refine c_changesM (μ := μ) (i6 _ hQ4) hA hl hi hW4 hQ4 fun μ5 hI5 hf h0 h25 => ?_
              exact h.ok4 hI5 hf h0 h25
          · have hQ4 := hQ3.q hG4 (by decide) (by decide)
            rw [if_neg Bool.false_ne_true]
            dsimp only
            rw [if_neg Bool.false_ne_true]
            exact bad _ hQ4 hY
        · rw [if_neg Bool.false_ne_true]
          dsimp only
          rw [if_neg Bool.false_ne_true]
          exact bad _ (hQ.q hG3 (by decide) (by decide)) (by unfold rw1; rw [hb])
    · rw [decide_eq_false q1, if_neg Bool.false_ne_true]
      exact no fun q => q1 q.2.1
theorem c_stepsOnceM {inner : Bool} (hI : MI μ A) (hA : AOK A) (h : MC μ (sp_step inner A v1) Q) : d_Md_stepsOnce v1 (b2i inner) μ Q := by
  unfold d_Md_stepsOnce
  unfold sp_step at h
  refine c_isTerm hI hA ?_
  have no : ∀ b : Bool, (aL A = true → b = true → False) → (aL A = true → ¬ (0 ≤ v1 ∧ v1 < ((aT A).length : Int))) → d_Md_stepsOnce_j20 v1 (b2i b) (-1) μ Q := by
    intro b hb hn
    unfold d_Md_stepsOnce_j20
    rw [if_pos rfl]
    unfold d_Md_stepsOnce_j47 d_Md_stepsOnce_j48
    refine c_mayI (b2 := b) (b3 := false) hI (fun e => ?_) (fun e _ => ?_) (fun e q => (hb e q).elim) (fun e q => (hb e q).elim)
    · rw [e] at h
      exact h.e1 hI Gm.rfl'
    · rw [e, decide_eq_false (hn e)] at h
      exact h.e2 hI Gm.rfl'
  cases hl : aL A with
  | false =>
    rw [Bool.false_and, if_neg Bool.false_ne_true]
    exact no false (fun e => by rw [hl] at e; cases e) (fun e => by rw [hl] at e; cases e)
  | true =>
    rw [Bool.true_and]
    by_cases q1 : 0 ≤ v1 ∧ v1 < ((aT A).length : Int)
    · rw [hl, decide_eq_true q1] at h
      rw [decide_eq_true q1, if_pos rfl]
      have ev : v1 = ((v1.toNat : Nat) : Int) := by omega
      rw [ev]
      have hi : v1.toNat < (aT A).length := by omega
      unfold d_Md_redexOf
      refine c_lendsI hI hA hi fun μ2 hW hG => ?_
      have hQ : Gm qmR qF0 μ μ2 := hG.mono (by decide) (by decide)
      have k2 : μ2 773 = μ 773 := hQ.1 773 (by decide) (by decide)
      have i6 : ∀ μ1, Gm qmR qF0 μ μ1 → MI μ1 A := fun μ1 g => hI.gq (g.mono (by decide) (by decide))
      refine c_mRedex ((hI.AR hA).gm k2) hW (hA.term hi) ((hI.rules hA).gm k2) hA.rules fun μ3 hG3 => ?_
      have hQ3 := hQ.q hG3 (by decide) (by decide)
      have k3 : μ3 773 = μ 773 := hQ3.1 773 (by decide) (by decide)
      unfold d_Md_stepsOnce_j20
      dsimp only
      by_cases hx : px (aR A) inner ((aT A).getD v1.toNat []) = -1
      · rw [if_pos hx, hx]
        unfold d_Md_stepsOnce_j47 d_Md_stepsOnce_j48
        have hs : stp (aR A) inner ((aT A).getD v1.toNat []) = none := by unfold stp; rw [if_pos hx]
        rw [hs] at h
        refine c_mayI (b2 := true) (b3 := false) (i6 _ hQ3) (fun e => ?_) (fun _ q => by cases q) (fun _ _ _ => ?_) (fun _ _ q => by cases q)
        · rw [hl] at e; cases e
        · exact h.e3 (i6 _ hQ3) hQ3
      · rw [if_neg hx]
        obtain ⟨p, e1, e2, e3⟩ := px_get hx
        rw [e1]
        refine c_stepsAt ((hI.AR hA).gm k3) (hW.gm (hG3.1 780 (by decide) (by decide)) (hG3.2 25 (by decide))) (hA.term hi) ((hI.rules hA).gm k3) hA.rules e2 e3 (fun μ4 Y hY hW4 hG4 => ?_) (fun μ4 hY hG4 _ => ?_)
        · have hQ4 := hQ3.q hG4 (by decide) (by decide)
          rw [if_pos rfl]
          unfold d_Md_stepsOnce_j48
          have hs : stp (aR A) inner ((aT A).getD v1.toNat []) = some ((p : Int), Y) := by unfold stp; rw [if_neg hx, e1, Int.toNat_natCast, hY]
          rw [hs] at h
          rw [show μ3 772 6 = μ4 772 6 from (hG4.2 6 (by decide)).symm]
          refine c_mayI (b2 := true) (b3 := true) (i6 _ hQ4) (fun e => ?_) (fun _ q => by cases q) (fun _ _ q => by cases q) (fun _ _ _ => ?_)
          · rw [hl] at e; cases e
          · rw [if_pos rfl]
            refine c_changesM (μ := μ) (i6 _ hQ4) hA hl hi hW4 hQ4 fun μ5 hI5 hf h0 h25 => ?_
            exact h.ok4 hI5 hf h0 rfl
        · have hQ4 := hQ3.q hG4 (by decide) (by decide)
          rw [if_neg Bool.false_ne_true]
          unfold d_Md_stepsOnce_j47 d_Md_stepsOnce_j48
          have hs : stp (aR A) inner ((aT A).getD v1.toNat []) = none := by unfold stp; rw [if_neg hx, e1, Int.toNat_natCast, hY]
          rw [hs] at h
          rw [show μ3 772 6 = μ4 772 6 from (hG4.2 6 (by decide)).symm]
          refine c_mayI (b2 := true) (b3 := false) (i6 _ hQ4) (fun e => ?_) (fun _ q => by cases q) (fun _ _ _ => ?_) (fun _ _ q => by cases q)
          · rw [hl] at e; cases e
          · exact h.e3 (i6 _ hQ4) hQ4
    · rw [decide_eq_false q1, if_neg Bool.false_ne_true]
      exact no false (fun _ q => by cases q) (fun _ => q1)
theorem mm_stepInnermost (hI : MI μ A) (hA : AOK A) (h : MC μ (sp_step true A v1) Q) : d_Md_stepInnermost v1 μ Q := by
  unfold d_Md_stepInnermost
  exact c_stepsOnceM (inner := true) hI hA h
theorem mm_stepOutermost (hI : MI μ A) (hA : AOK A) (h : MC μ (sp_step false A v1) Q) : d_Md_stepOutermost v1 μ Q := by
  unfold d_Md_stepOutermost
  exact c_stepsOnceM (inner := false) hI hA h
theorem mm_normalize (hI : MI μ A) (hA : AOK A) (h : MC μ (sp_normalize A v1) Q) : d_Md_normalize v1 μ Q := by
  unfold d_Md_normalize
  unfold sp_normalize at h
  refine c_isTerm hI hA ?_
  have no : ∀ b : Bool, (aL A = true → b = true → False) → (aL A = true → ¬ (0 ≤ v1 ∧ v1 < ((aT A).length : Int))) → d_Md_normalize_j20 v1 (b2i b) (-1) μ Q := by
    intro b hb hn
    unfold d_Md_normalize_j20
    rw [if_pos rfl]
    unfold d_Md_normalize_j37
    refine c_mayI (b2 := b) (b3 := false) hI (fun e => ?_) (fun e _ => ?_) (fun e q => (hb e q).elim) (fun e q => (hb e q).elim)
    · rw [e] at h
      exact h.e1 hI Gm.rfl'
    · rw [e, decide_eq_false (hn e)] at h
      exact h.e2 hI Gm.rfl'
  cases hl : aL A with
  | false =>
    rw [Bool.false_and, if_neg Bool.false_ne_true]
    exact no false (fun e => by rw [hl] at e; cases e) (fun e => by rw [hl] at e; cases e)
  | true =>
    rw [Bool.true_and]
    by_cases q1 : 0 ≤ v1 ∧ v1 < ((aT A).length : Int)
    · rw [hl, decide_eq_true q1] at h
      rw [decide_eq_true q1, if_pos rfl]
      have ev : v1 = ((v1.toNat : Nat) : Int) := by omega
      rw [ev]
      have hi : v1.toNat < (aT A).length := by omega
      have i6 : ∀ μ1, Gm gmR gmF μ μ1 → MI μ1 A := fun μ1 g => hI.gq (g.mono (by decide) (by decide))
      refine c_stepsOf (inner := true) hI hA hi (fun μ2 k Y hY hW2 hG2 => ?_) (fun μ2 hY hG2 => ?_)
      · unfold d_Md_normalize_j20
        rw [if_neg (by omega)]
        unfold d_Md_normalize_j37
        rw [hY] at h
        refine c_mayI (b2 := true) (b3 := true) (i6 _ hG2) (fun e => ?_) (fun _ q => by cases q) (fun _ _ q => by cases q) (fun _ _ _ => ?_)
        · rw [hl] at e; cases e
        · rw [if_pos rfl]
          refine c_changesM (μ := μ) (i6 _ hG2) hA hl hi hW2 (hG2.mono (by decide) (by decide)) fun μ5 hI5 hf h0 h25 => ?_
          exact h.ok4 hI5 hf h0 rfl
      · unfold d_Md_normalize_j20
        rw [if_pos rfl]
        unfold d_Md_normalize_j37
        rw [hY] at h
        refine c_mayI (b2 := true) (b3 := false) (i6 _ hG2) (fun e => ?_) (fun _ q => by cases q) (fun _ _ _ => ?_) (fun _ _ q => by cases q)
        · rw [hl] at e; cases e
        · exact h.e3 (i6 _ hG2) (hG2.mono (by decide) (by decide))
    · rw [decide_eq_false q1, if_neg Bool.false_ne_true]
      exact no false (fun _ q => by cases q) (fun _ => q1)
theorem mm_copySubterm (hI : MI μ A) (hA : AOK A) (h : MC μ (sp_copySubterm A v1 v2) Q) : d_Md_copySubterm v1 v2 μ Q := by
  unfold d_Md_copySubterm
  unfold d_Md_copySubterm_j33
  unfold sp_copySubterm at h
  have h6 := hA.t6
  have no : ∀ b : Bool, b = false → ¬ (aL A = true ∧ isN A v1 v2) → ∀ b3 : Bool, d_Md_copySubterm_j34 v1 v2 (μ 772 6) (b2i b) (b2i b3) μ Q := by
    intro b hb hn b3
    unfold d_Md_copySubterm_j34
    refine c_mayI (b2 := b) (b3 := b3) hI (fun e => ?_) (fun e _ => ?_) (fun _ q => by rw [hb] at q; cases q) (fun _ q => by rw [hb] at q; cases q)
    · rw [e] at h
      exact h.e1 hI Gm.rfl'
    · rw [e, @decide_eq_false _ (Classical.propDecidable _) (fun q => hn ⟨e, q⟩)] at h
      exact h.e2 hI Gm.rfl'
  refine c_isPosition hI hA (fun hn => ?_) (fun hn => ?_)
  · have g0 := no false rfl hn false
    have g1 := no false rfl hn true
    by_cases q : μ 772 6 = 0
    · rw [if_pos q]; exact g0
    · rw [if_neg q]
      by_cases q2 : μ 773 2 < 6
      · rw [if_pos q2]; exact g1
      · rw [if_neg q2]; exact g0
  · have hl := hn.1
    rw [if_neg (by rw [hI.1, hl]; decide), show μ 773 2 = ((aT A).length : Int) from hI.2.1.2.2.1]
    rw [hl, @decide_eq_true _ (Classical.propDecidable _) hn.2] at h
    obtain ⟨_, q2, q3⟩ := hn
    have ev : v1 = ((v1.toNat : Nat) : Int) := by omega
    have ev2 : v2 = ((v2.toNat : Nat) : Int) := by omega
    have hi : v1.toNat < (aT A).length := by omega
    by_cases hl6 : (aT A).length < 6
    · rw [if_pos hl6] at h
      rw [if_pos (by omega)]
      unfold d_Md_copySubterm_j34
      refine c_mayI (b2 := true) (b3 := true) hI (fun e => ?_) (fun _ q => by cases q) (fun _ _ q => by cases q) (fun _ _ _ => ?_)
      · rw [hl] at e; cases e
      · rw [if_pos rfl, ev, ev2]
        have hI0 : MI (mup μ 772 0 0) A := hI.f0 (by decide)
        refine c_lendsI hI0 hA hi fun μ1 hW hG => ?_
        have hQ1 : Gm qmR qF0 (mup μ 772 0 0) (mup μ1 772 26 0) := (Gm.mono hG (by decide) (by decide)).q (Gm.upF (k := 26)) (by decide) (by decide)
        have hW1 : WK (mup μ1 772 26 0) ((aT A).getD v1.toNat []) := hW.gm (mup_r (by decide)) (mup_k (by decide))
        have k1 : mup μ1 772 26 0 773 = μ 773 := by rw [hQ1.1 773 (by decide) (by decide), mup_r (by decide)]
        refine c_behindW ((hI.AR hA).gm k1) hW1 (hA.term hi) (by omega) ?_
        have hen := en_le (L := (aT A).getD v1.toNat []) (p := v2.toNat) (by omega)
        have hgt := en_gt (L := (aT A).getD v1.toNat []) (p := v2.toNat) (by omega)
        have h80 := hW1.2.1
        refine c_buildsFrom rfl rfl BL.nil hW1.2.2 ⟨by decide, by decide⟩ (by omega) hen (by rw [ln780]; omega) (by rw [List.length_nil]; omega) fun μ2 hX2 hG2 => ?_
        rw [List.nil_append, sb_take] at hX2
        have hsl : (sb ((aT A).getD v1.toNat []) v2.toNat).length ≤ 80 := by rw [sb_len]; omega
        refine c_takesBuilt hX2 (fun _ μ3 hW3 hG3 => ?_) (fun q => absurd q (by omega))
        have hQ3 : Gm qmR qF0 (mup μ 772 0 0) μ3 := (hQ1.q hG2 (by decide) (by decide)).q hG3 (by decide) (by decide)
        have hI3 : MI μ3 A := hI0.gq (hQ3.mono (by decide) (by decide))
        refine c_remembers hI3 hA fun μ4 hI4 hG4 => ?_
        have hW4 : WK μ4 (sb ((aT A).getD v1.toNat []) v2.toNat) := hW3.gm (hG4.1 780 (by decide) (by decide)) (hG4.2 25 (by decide))
        have e42 : μ4 773 2 = ((aT A).length : Int) := hI4.2.1.2.2.1
        rw [e42, mup_s]
        simp (disch := omega) only [wr_id]
        have hA4 : AOK (wC A (aC A)) := hA.wC hl hA.2.1
        have hW5 : WK (mup μ4 773 2 (((aT A).length : Int) + 1)) (sb ((aT A).getD v1.toNat []) v2.toNat) := hW4.gm (mup_r (by decide)) (by rw [mup_r (by decide)])
        refine c_stores0 (i := (aT A).length) (by omega) hl6 hW5 fun μ5 g1 g2 g3 hG5 => ?_
        have e52 : μ5 773 2 = ((aT A).length : Int) + 1 := by rw [g3 2 (by omega), mup_s]
        have hG45 : Gm [773] [] μ4 μ5 := (Gm.upR (a := 773) (by decide)).same hG5
        have g3' : ∀ k, k ≠ 2 → k < 223 + 81 * (aT A).length → μ5 773 k = μ4 773 k := fun k k1 k2 => by rw [g3 k (by omega), mup_k k1]
        rw [e52, wr_id (by omega) (by omega)]
        have hI5 : MI μ5 (sC (wC A (aC A)) (aR A, aT A ++ [sb ((aT A).getD v1.toNat []) v2.toNat])) := by
          refine hI4.setC hG45 (MNw.setT (f := μ4 773) hI4.2.1 hA4.1 hA4.2.1 ?_ (fun k k1 k2 => g3' k k2 (by omega)) fun k hk => ?_)
          · rw [e52, List.length_append, List.length_singleton]; omega
          · rw [List.length_append, List.length_singleton] at hk
            by_cases e : k < (aT A).length
            · rw [getD_app_l e]
              have l1 := (hA.term e).2.1
              rw [g3' _ (by omega) (by omega)]
              exact ⟨hI4.size e, (hI4.term e).cp fun j hj => by rw [List.length_map] at hj; exact g3' _ (by omega) (by have : ((aT (wC A (aC A))).getD k []) = (aT A).getD k [] := rfl; rw [this] at hj; omega)⟩
            · have e2 : k = (aT A).length := by omega
              subst e2
              rw [getD_app_r (Nat.le_refl _), Nat.sub_self]
              exact ⟨g1, g2⟩
        refine h.ok4 hI5 (fun b hb => ?_) ?_ (by omega)
        · have hq : FrM (mup μ 772 0 0) μ3 := (hQ3.mono (f := qmF) (fun _ q => q) (by decide)).frMq
          rw [hG45.1 b (by omega) (by intro q; rw [List.mem_singleton] at q; omega), hG4.1 b (by omega) (by intro q; rw [List.mem_singleton] at q; omega), hq b hb, mup_r (by omega)]
        · rw [hG45.2 0 (by decide), hG4.2 0 (by decide), hQ3.2 0 (by decide), mup_s]
    · rw [if_neg hl6] at h
      rw [if_neg (by omega)]
      unfold d_Md_copySubterm_j34
      refine c_mayI (b2 := true) (b3 := false) hI (fun e => ?_) (fun _ q => by cases q) (fun _ _ _ => ?_) (fun _ _ q => by cases q)
      · rw [hl] at e; cases e
      · exact h.e3 hI Gm.rfl'
theorem mm_replaceSubterm (hI : MI μ A) (hA : AOK A) (h : MC μ (sp_replaceSubterm A v1 v2 v3) Q) : d_Md_replaceSubterm v1 v2 v3 μ Q := by
  unfold d_Md_replaceSubterm
  unfold sp_replaceSubterm at h
  have no : ¬ (aL A = true ∧ (isN A v1 v2 ∧ 0 ≤ v3 ∧ v3 < ((aT A).length : Int))) → d_Md_replaceSubterm_j21 v1 v2 v3 μ Q := by
    intro hn
    unfold d_Md_replaceSubterm_j21 d_Md_replaceSubterm_j22
    rw [if_pos rfl]
    unfold d_Md_replaceSubterm_j50 d_Md_replaceSubterm_j51
    refine c_mayI (b2 := false) (b3 := false) hI (fun e => ?_) (fun e _ => ?_) (fun _ q => by cases q) (fun _ q => by cases q)
    · rw [e] at h
      exact h.e1 hI Gm.rfl'
    · rw [e, @decide_eq_false _ (Classical.propDecidable _) (fun q => hn ⟨e, q⟩)] at h
      exact h.e2 hI Gm.rfl'
  refine c_isPosition hI hA (fun hn => ?_) (fun hn => ?_)
  · rw [if_neg Bool.false_ne_true]
    exact no fun q => hn ⟨q.1, q.2.1⟩
  · rw [if_pos rfl]
    have hl := hn.1
    refine c_isTerm hI hA ?_
    rw [hl, Bool.true_and]
    by_cases q1 : 0 ≤ v3 ∧ v3 < ((aT A).length : Int)
    · rw [decide_eq_true q1, if_pos rfl]
      unfold d_Md_replaceSubterm_j22
      rw [if_neg (by decide)]
      rw [hl, @decide_eq_true _ (Classical.propDecidable _) ⟨hn.2, q1⟩] at h
      obtain ⟨_, q2, q3⟩ := hn
      have ev : v2 = ((v2.toNat : Nat) : Int) := by omega
      have ev1 : v1 = ((v1.toNat : Nat) : Int) := by omega
      have ev3 : v3 = ((v3.toNat : Nat) : Int) := by omega
      rw [ev, ev1, ev3]
      have hi : v1.toNat < (aT A).length := by omega
      have hn3 : v3.toNat < (aT A).length := by omega
      unfold d_Md_canReplace
      have i6 : ∀ μ1, Gm qmR qF0 μ μ1 → MI μ1 A := fun μ1 g => hI.gq (g.mono (by decide) (by decide))
      refine c_lendsI hI hA hn3 fun μ1 hW1 hG1 => ?_
      have hQ1 : Gm qmR qF0 μ μ1 := hG1.mono (by decide) (by decide)
      refine c_keeps hW1 fun μ2 hK2 hW2 hG2 => ?_
      have hQ2 := hQ1.q hG2 (by decide) (by decide)
      refine c_lendsI (i6 _ hQ2) hA hi fun μ3 hW3 hG3 => ?_
      have hQ3 : Gm qmR qF0 μ (mup μ3 772 26 0) := (hQ2.q hG3 (by decide) (by decide)).q (Gm.upF (k := 26)) (by decide) (by decide)
      have hW4 : WK (mup μ3 772 26 0) ((aT A).getD v1.toNat []) := hW3.gm (mup_r (by decide)) (mup_k (by decide))
      have hK4 : KP (mup μ3 772 26 0) ((aT A).getD v3.toNat []) := (hK2.gm (hG3.1 782 (by decide) (by decide)) (hG3.2 27 (by decide))).gm (mup_r (by decide)) (mup_k (by decide))
      generalize hT : (aT A).getD v1.toNat [] = T at *
      generalize hS : (aT A).getD v3.toNat [] = S at *
      have oT : okt (arS (aS A)) 8 80 T := by rw [← hT]; exact hA.term hi
      have oS : okt (arS (aS A)) 8 80 S := by rw [← hS]; exact hA.term hn3
      have s80 := oS.2.1
      have t80 := oT.2.1
      have hen := en_le (L := T) (p := v2.toNat) (by omega)
      have bkeep : ∀ a b : Mem, Gm [781] [26] a b → WK a T → KP a S → WK b T ∧ KP b S := fun a b g w k => ⟨w.gm (g.1 780 (by decide) (by decide)) (g.2 25 (by decide)), k.gm (g.1 782 (by decide) (by decide)) (g.2 27 (by decide))⟩
      refine c_buildsFrom (f := 0) (t := v2.toNat) rfl rfl BL.nil hW4.2.2 ⟨by decide, by decide⟩ (Nat.zero_le _) (by omega) (by rw [ln780]; omega) (by rw [List.length_nil]; omega) fun μ5 hX5 hG5 => ?_
      rw [List.nil_append, List.drop_zero, Nat.sub_zero] at hX5
      obtain ⟨hW5, hK5⟩ := bkeep _ _ hG5 hW4 hK4
      rw [hK5.1]
      refine c_buildsFrom (f := 0) (t := S.length) rfl rfl hX5 hK5.2.2 ⟨by decide, by decide⟩ (Nat.zero_le _) (Nat.le_refl _) (by rw [ln782]; omega) (by rw [List.length_take]; omega) fun μ6 hX6 hG6 => ?_
      rw [List.drop_zero, Nat.sub_zero, List.take_length] at hX6
      obtain ⟨hW6, hK6⟩ := bkeep _ _ hG6 hW5 hK5
      have hQ6 := (hQ3.q hG5 (by decide) (by decide)).q hG6 (by decide) (by decide)
      refine c_behindW ((hI.AR hA).gm (hQ6.1 773 (by decide) (by decide))) hW6 oT (by omega) ?_
      rw [hW6.1]
      have edr : (T.drop (en T v2.toNat)).take (T.length - en T v2.toNat) = T.drop (en T v2.toNat) := List.take_of_length_le (by rw [List.length_drop]; omega)
      refine c_buildsFrom rfl rfl hX6 hW6.2.2 ⟨by decide, by decide⟩ hen (Nat.le_refl _) (by rw [ln780]; omega) (by rw [List.length_append, List.length_take]; omega) fun μ7 hX7 hG7 => ?_
      rw [edr] at hX7
      have hX7' : BL μ7 (rpl T S v2.toNat) := hX7
      have hQ7 := hQ6.q hG7 (by decide) (by decide)
      refine c_takesBuilt hX7' (fun h80 μ8 hW8 hG8 => ?_) (fun h80 => ?_)
      · dsimp only
        rw [if_pos rfl]
        rw [if_pos h80] at h
        have hQ8 := hQ7.q hG8 (by decide) (by decide)
        unfold d_Md_replaceSubterm_j51
        rw [show μ 772 6 = μ8 772 6 from (hQ8.2 6 (by decide)).symm]
        refine c_mayI (b2 := true) (b3 := true) (i6 _ hQ8) (fun e => ?_) (fun _ q => by cases q) (fun _ _ q => by cases q) (fun _ _ _ => ?_)
        · rw [hl] at e; cases e
        · rw [if_pos rfl]
          refine c_changesM (μ := μ) (i6 _ hQ8) hA hl hi hW8 hQ8 fun μ9 hI9 hf h0 h25 => ?_
          exact h.ok4 hI9 hf h0 h25
      · dsimp only
        rw [if_neg Bool.false_ne_true]
        rw [if_neg (by omega)] at h
        unfold d_Md_replaceSubterm_j50 d_Md_replaceSubterm_j51
        rw [show μ 772 6 = μ7 772 6 from (hQ7.2 6 (by decide)).symm]
        refine c_mayI (b2 := true) (b3 := false) (i6 _ hQ7) (fun e => ?_) (fun _ q => by cases q) (fun _ _ _ => ?_) (fun _ _ q => by cases q)
        · rw [hl] at e; cases e
        · exact h.e3 (i6 _ hQ7) hQ7
    · rw [decide_eq_false q1, if_neg Bool.false_ne_true]
      exact no fun q => q1 q.2.2
end M55
