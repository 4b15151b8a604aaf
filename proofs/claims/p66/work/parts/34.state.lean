/-! THE CLASS'S STATES: copies, rules exchanged, turned, dropped; the history -/
theorem rc_eq (s i : Nat) : rc s i = s + 10 + 5 * i := by unfold rc; omega
theorem tc_eq (s i : Nat) : tc s i = s + 40 + 2 * i := by unfold tc; omega
theorem c_Rule_copyFrom {μ : Mem} {r z : Nat} {L R : List Int} {Q : Mem → Prop} (hL : IsT μ (dp (μ z 0)) L) (hR : IsT μ (dp (μ z 1)) R) (h12 : L.length ≤ ln (dp (μ r 0) + 1) ∧ R.length ≤ ln (dp (μ r 1) + 1))
    (h1 : dp (μ z 0) ≠ dp (μ r 0)) (h2 : dp (μ z 1) ≠ dp (μ r 0)) (h3 : dp (μ z 1) ≠ dp (μ r 1)) (h4 : dp (μ r 0) ≠ dp (μ r 1)) (hr : r + 1 ≤ dp (μ r 0) ∨ dp (μ r 0) + 2 ≤ r) (hz : z + 1 ≤ dp (μ r 0) ∨ dp (μ r 0) + 2 ≤ z)
    (h : ∀ μ', IsT μ' (dp (μ r 0)) L → IsT μ' (dp (μ r 1)) R → (∀ b, b ≠ dp (μ r 0) → b ≠ dp (μ r 0) + 1 → b ≠ dp (μ r 1) → b ≠ dp (μ r 1) + 1 → μ' b = μ b) → Q μ') : d_Rule_copyFrom r z μ Q := by
  unfold d_Rule_copyFrom
  refine c_Term_copyFrom hL (dp_rt _) (dp_rt _) h1 h12.1 (fun μ1 hX1 hF1 => ?_)
  rw [hF1 r (by omega), hF1 z (by omega)]
  refine c_Term_copyFrom (hR.frT hF1 (dp_rt _) (dp_rt _) h2) (dp_rt _) (dp_rt _) h3 h12.2 (fun μ2 hX2 hF2 => ?_)
  exact h _ (hX1.frT hF2 (dp_rt _) (dp_rt _) h4) hX2 (fun b g1 g2 g3 g4 => by rw [hF2 b (by omega), hF1 b (by omega)])
/-- sizes that fit a state's rows -/
def fitr (rs : List Rl2) : Prop := ∀ r, r ∈ rs → r.1.length ≤ 12 ∧ r.2.length ≤ 12
def fitt (ts : List (List Int)) : Prop := ∀ T, T ∈ ts → T.length ≤ 80
theorem SP.ne {μ : Mem} {s i j i1 j1 : Nat} (h : SP μ s) (hs : rt s = 7) (hi : i < 6) (hj : j < 2) (hi1 : i1 < 6) (hj1 : j1 < 2) (hne : ¬ (i = i1 ∧ j = j1)) : dp (μ (rc s i) j) ≠ dp (μ (rc s i1) j1) := by
  intro e
  obtain ⟨_, _, _, _, _, e1, _⟩ := h.side hs hi hj
  obtain ⟨_, _, _, _, _, e2, _⟩ := h.side hs hi1 hj1
  exact hne (h.2 i j i1 j1 hi hj hi1 hj1 (by rw [e1, e2, e]))
theorem c_State_copyFrom {μ : Mem} {s z : Nat} {rs : List Rl2} {ts : List (List Int)} {Q : Mem → Prop} (hs : rt s = 7) (hz : rt z = 7) (hd : s + 52 ≤ z ∨ z + 52 ≤ s) (hP : SP μ s) (hPz : SP μ z) (hR : SR μ z rs) (hT : ST μ z ts) (fr : fitr rs) (ft : fitt ts)
    (h : ∀ μ', SP μ' s → SR μ' s rs → ST μ' s ts → Fr s (s + 52) μ μ' → Q μ') : d_State_copyFrom s z μ Q := by
  unfold d_State_copyFrom
  have e0 : mup (mup μ s 0 (μ z 0)) s 1 ((mup μ s 0 (μ z 0)) z 1) s 0 = (rs.length : Int) := by
    rw [mup_k (by omega), mup_s]; exact hR.1
  have e1 : mup (mup μ s 0 (μ z 0)) s 1 ((mup μ s 0 (μ z 0)) z 1) s 1 = (ts.length : Int) := by
    rw [mup_s, mup_r (by omega)]; exact hT.1
  have hF0 : Fr s (s + 1) μ (mup (mup μ s 0 (μ z 0)) s 1 ((mup μ s 0 (μ z 0)) z 1)) := (Fr.up (by omega)).tr (Fr.up (lo := s) (hi := s + 1) (by omega)) (lo1 := s) (hi1 := s + 1) (by omega) (by omega)
  generalize mup (mup μ s 0 (μ z 0)) s 1 ((mup μ s 0 (μ z 0)) z 1) = μ0 at *
  have hlr := hR.2.1
  have hlt := hT.2.1
  -- what holds all the way
  have keepz : ∀ μ1, Fr s (s + 52) μ μ1 → SR μ1 z rs ∧ ST μ1 z ts := fun μ1 g => ⟨hR.fr hPz hz (congrFun (g z (by omega)) 0) (fun b g1 g2 => g b (by omega)), hT.fr (congrFun (g z (by omega)) 1) (fun b g1 g2 => g b (by omega))⟩
  have keepp : ∀ μ1, Fr s (s + 52) μ μ1 → ∀ i, i < 6 → μ1 (rc z i) = μ (rc z i) := fun μ1 g i hi => g _ (by unfold rc; omega)
  refine i_State_copyFrom_l18 (Inv := fun v2 μ1 => ∃ k : Nat, v2 = k ∧ k ≤ rs.length ∧ μ1 s 0 = (rs.length : Int) ∧ μ1 s 1 = (ts.length : Int) ∧ Fr s (s + 52) μ μ1 ∧ (∀ i, i < 6 → μ1 (rc s i) = μ (rc s i)) ∧ ∀ i, i < k → IsT μ1 (dp (μ (rc s i) 0)) (rs.getD i ([], [])).1 ∧ IsT μ1 (dp (μ (rc s i) 1)) (rs.getD i ([], [])).2) (fun v2 _ => rs.length - v2.toNat) ?_ 0 μ0 ⟨0, rfl, Nat.zero_le _, e0, e1, hF0.mono (by omega), fun i hi => hF0 _ (by unfold rc; omega), fun i hi => absurd hi (by omega)⟩
  rintro _ μ1 ⟨k, rfl, hk, c0, c1, hF, hptr, hcon⟩ W hW
  unfold d_State_copyFrom_b18
  rw [c0]
  by_cases hkl : k < rs.length
  · rw [if_pos (by omega)]
    refine c_State_rule (by omega) ?_
    refine c_State_rule (by omega) ?_
    obtain ⟨g1, g2⟩ := (keepz μ1 hF).1.2.2 k hkl
    have hfit := fr _ (getD_mem (d := ([], [])) hkl)
    obtain ⟨a1, b1, x1, x2, x3, x4, x5⟩ := hP.side hs (i := k) (j := 0) (by omega) (by omega)
    obtain ⟨a2, b2, y1, y2, y3, y4, y5⟩ := hP.side hs (i := k) (j := 1) (by omega) (by omega)
    obtain ⟨a3, b3, z1, z2, z3, z4, z5⟩ := hPz.side hz (i := k) (j := 0) (by omega) (by omega)
    obtain ⟨a4, b4, w1, w2, w3, w4, w5⟩ := hPz.side hz (i := k) (j := 1) (by omega) (by omega)
    have ez := keepp μ1 hF k (by omega)
    have es := hptr k (by omega)
    have hne := hP.ne hs (i := k) (j := 0) (i1 := k) (j1 := 1) (by omega) (by omega) (by omega) (by omega) (by omega)
    have q1 := rc_eq s k
    have q2 := rc_eq z k
    refine c_Rule_copyFrom g1 g2 (by rw [es, x5, y5]; exact hfit) (by rw [es, ez]; omega) (by rw [es, ez]; omega) (by rw [es, ez]; omega) (by rw [es]; exact hne) (by rw [es]; rcases (by omega : b1 = 0 ∨ b1 = 1) with h | h <;> omega) (by rw [es]; omega) (fun μ2 hX1 hX2 hF2 => ?_)
    rw [es] at hX1 hX2 hF2
    rw [wr_id (by omega) (by omega)]
    refine hW _ _ ⟨k + 1, by omega, by omega, ?_, ?_, fun b hb => ?_, fun i hi => ?_, fun i hi => ?_⟩ (by omega)
    · rw [hF2 s (by omega) (by omega) (by omega) (by omega)]; exact c0
    · rw [hF2 s (by omega) (by omega) (by omega) (by omega)]; exact c1
    · rw [hF2 b (by omega) (by omega) (by omega) (by omega)]; exact hF b hb
    · have q3 := rc_eq s i
      rw [hF2 _ (by omega) (by omega) (by omega) (by omega)]; exact hptr i hi
    · by_cases e : i = k
      · subst e
        exact ⟨hX1, hX2⟩
      · obtain ⟨q1, q2⟩ := hcon i (by omega)
        have n1 := rt8_far (dp_rt (μ (rc s i) 0)) (dp_rt (μ (rc s k) 0)) (hP.ne hs (by omega) (by omega) (by omega) (by omega) (by omega))
        have n2 := rt8_far (dp_rt (μ (rc s i) 0)) (dp_rt (μ (rc s k) 1)) (hP.ne hs (by omega) (by omega) (by omega) (by omega) (by omega))
        have n3 := rt8_far (dp_rt (μ (rc s i) 1)) (dp_rt (μ (rc s k) 0)) (hP.ne hs (by omega) (by omega) (by omega) (by omega) (by omega))
        have n4 := rt8_far (dp_rt (μ (rc s i) 1)) (dp_rt (μ (rc s k) 1)) (hP.ne hs (by omega) (by omega) (by omega) (by omega) (by omega))
        exact ⟨q1.fr (hF2 _ (by omega) (by omega) (by omega) (by omega)) (hF2 _ (by omega) (by omega) (by omega) (by omega)), q2.fr (hF2 _ (by omega) (by omega) (by omega) (by omega)) (hF2 _ (by omega) (by omega) (by omega) (by omega))⟩
  · rw [if_neg (by omega)]
    obtain rfl : k = rs.length := by omega
    refine i_State_copyFrom_l47 (Inv := fun v2 μ2 => ∃ k : Nat, v2 = k ∧ k ≤ ts.length ∧ μ2 s 0 = (rs.length : Int) ∧ μ2 s 1 = (ts.length : Int) ∧ Fr s (s + 52) μ μ2 ∧ Fr (s + 40) (s + 52) μ1 μ2 ∧ ∀ i, i < k → IsT μ2 (tc s i) (ts.getD i [])) (fun v2 _ => ts.length - v2.toNat) ?_ 0 μ1 ⟨0, rfl, Nat.zero_le _, c0, c1, hF, Fr.rfl', fun i hi => absurd hi (by omega)⟩
    rintro _ μ2 ⟨k, rfl, hk, c0', c1', hF', hF2, hcon2⟩ W' hW'
    unfold d_State_copyFrom_b47
    rw [c1']
    by_cases hkl : k < ts.length
    · rw [if_pos (by omega)]
      refine c_State_term (by omega) ?_
      refine c_State_term (by omega) ?_
      have g1 := (keepz μ2 hF').2.2.2 k hkl
      have hfit := ft _ (getD_mem (d := []) hkl)
      obtain ⟨t1, t2⟩ := tc_rt hs (i := k) (by omega)
      obtain ⟨t3, t4⟩ := tc_rt hz (i := k) (by omega)
      refine c_Term_copyFrom g1 t1 t3 (by unfold tc; omega) (by rw [t2]; exact hfit) (fun μ3 hX3 hF3 => ?_)
      rw [wr_id (by omega) (by omega)]
      have hF3' : Fr (s + 40) (s + 52) μ2 μ3 := hF3.mono (by unfold tc; omega)
      refine hW' _ _ ⟨k + 1, by omega, by omega, ?_, ?_, hF'.tr hF3' (by omega) (by omega), hF2.tr hF3' (by omega) (by omega), fun i hi => ?_⟩ (by omega)
      · rw [hF3' s (by omega)]; exact c0'
      · rw [hF3' s (by omega)]; exact c1'
      · by_cases e : i = k
        · subst e
          exact hX3
        · exact (hcon2 i (by omega)).frR hF3 (by unfold tc; omega)
    · rw [if_neg (by omega)]
      obtain rfl : k = ts.length := by omega
      have hp2 : ∀ i, i < 6 → μ2 (rc s i) = μ (rc s i) := fun i hi => by rw [hF2 _ (by unfold rc; omega)]; exact hptr i hi
      refine h μ2 ?_ ⟨c0', hlr, fun i hi => ?_⟩ ⟨c1', hlt, hcon2⟩ hF'
      · refine ⟨fun i j hi hj => ?_, fun i j i' j' hi hj hi' hj' => ?_⟩
        · rw [hp2 i hi]; exact hP.1 i j hi hj
        · rw [hp2 i hi, hp2 i' hi']; exact hP.2 i j i' j' hi hj hi' hj'
      · rw [hp2 i (by omega)]
        obtain ⟨q1, q2⟩ := hcon i hi
        obtain ⟨a1, b1, x1, x2, x3, x4, x5⟩ := hP.side hs (i := i) (j := 0) (by omega) (by omega)
        obtain ⟨a2, b2, y1, y2, y3, y4, y5⟩ := hP.side hs (i := i) (j := 1) (by omega) (by omega)
        exact ⟨q1.fr (hF2 _ (by omega)) (hF2 _ (by omega)), q2.fr (hF2 _ (by omega)) (hF2 _ (by omega))⟩
/-- rules exchanged, turned -/
theorem c_Rule_exchange {μ : Mem} {s i k : Nat} {rs : List Rl2} {Q : Mem → Prop} (hs : rt s = 7) (hP : SP μ s) (hR : SR μ s rs) (hi : i < rs.length) (hk : k < rs.length) 
    (h : ∀ μ', SP μ' s → SR μ' s ((rs.set i (rs.getD k ([], []))).set k (rs.getD i ([], []))) → Fr (s + 10) (s + 40) μ μ' → Q μ') : d_Rule_exchange (rc s i) (rc s k) μ Q := by
  unfold d_Rule_exchange
  have hl := hR.2.1
  obtain ⟨a1, b1, x1, x2, x3, x4, x5⟩ := hP.side hs (i := i) (j := 0) (by omega) (by omega)
  obtain ⟨a2, b2, y1, y2, y3, y4, y5⟩ := hP.side hs (i := i) (j := 1) (by omega) (by omega)
  obtain ⟨a3, b3, z1, z2, z3, z4, z5⟩ := hP.side hs (i := k) (j := 0) (by omega) (by omega)
  obtain ⟨a4, b4, w1, w2, w3, w4, w5⟩ := hP.side hs (i := k) (j := 1) (by omega) (by omega)
  have e1 : (mup μ (rc s i) 0 ((dp (μ (rc s k) 0) : Nat) : Int)) (rc s k) 1 = μ (rc s k) 1 := by
    unfold mup
    rw [if_neg (fun q => by omega)]
  rw [e1, ← x4, ← y4, ← z4, ← w4]
  generalize hμ : mup (mup (mup (mup μ (rc s i) 0 (μ (rc s k) 0)) (rc s i) 1 (μ (rc s k) 1)) (rc s k) 0 (μ (rc s i) 0)) (rc s k) 1 (μ (rc s i) 1) = μ'
  have ptr : ∀ q j, q < 6 → j < 2 → μ' (rc s q) j = μ (rc s (if q = k then i else if q = i then k else q)) j := by
    intro q j hq hj
    rw [← hμ]
    unfold mup rc
    by_cases h1 : q = k
    · subst h1
      rw [if_pos rfl]
      rcases (by omega : j = 0 ∨ j = 1) with rfl | rfl
      · rw [if_neg (by omega), if_pos ⟨rfl, rfl⟩]
      · rw [if_pos ⟨rfl, rfl⟩]
    · rw [if_neg h1, if_neg (by omega), if_neg (by omega)]
      by_cases h2 : q = i
      · subst h2
        rw [if_pos rfl]
        rcases (by omega : j = 0 ∨ j = 1) with rfl | rfl
        · rw [if_neg (by omega), if_pos ⟨rfl, rfl⟩]
        · rw [if_pos ⟨rfl, rfl⟩]
      · rw [if_neg h2, if_neg (by omega), if_neg (by omega)]
  have rows : ∀ b, b ≠ rc s i → b ≠ rc s k → μ' b = μ b := by
    intro b g1 g2
    rw [← hμ, mup_r g2, mup_r g2, mup_r g1, mup_r g1]
  refine h μ' ⟨fun q j hq hj => ?_, fun q j q' j' hq hj hq' hj' he => ?_⟩ ⟨?_, by simp only [List.length_set]; exact hl, fun q hq => ?_⟩ (fun b hb => rows b (by unfold rc; omega) (by unfold rc; omega))
  · rw [ptr q j hq hj]
    exact hP.1 _ j (by split; omega; split; omega; exact hq) hj
  · rw [ptr q j hq hj, ptr q' j' hq' hj'] at he
    have := hP.2 _ _ _ _ (by split; omega; split; omega; exact hq) hj (by split; omega; split; omega; exact hq') hj' he
    obtain ⟨g1, g2⟩ := this
    refine ⟨?_, g2⟩
    repeat' split at g1
    all_goals omega
  · simp only [List.length_set]
    rw [rows s (by unfold rc; omega) (by unfold rc; omega)]
    exact hR.1
  · simp only [List.length_set] at hq
    have hq6 : q < 6 := by omega
    rw [ptr q 0 hq6 (by omega), ptr q 1 hq6 (by omega)]
    have hm : (if q = k then i else if q = i then k else q) < rs.length := by split; omega; split; omega; exact hq
    have e : ((rs.set i (rs.getD k ([], []))).set k (rs.getD i ([], []))).getD q ([], []) = rs.getD (if q = k then i else if q = i then k else q) ([], []) := by
      rw [List.getD_eq_getElem?_getD, List.getElem?_set, List.getElem?_set]
      by_cases h1 : q = k
      · rw [if_pos h1.symm, if_pos h1, if_pos (by rw [List.length_set]; exact hk)]; rfl
      · rw [if_neg (fun g => h1 g.symm), if_neg h1]
        by_cases h2 : q = i
        · rw [if_pos h2.symm, if_pos h2, if_pos hi]; rfl
        · rw [if_neg (fun g => h2 g.symm), if_neg h2, ← List.getD_eq_getElem?_getD]
    rw [e]
    have q1 := rc_eq s i
    have q2 := rc_eq s k
    generalize (if q = k then i else if q = i then k else q) = n at *
    obtain ⟨g1, g2⟩ := hR.2.2 n hm
    obtain ⟨a5, b5, u1, u2, u3, u4, u5⟩ := hP.side hs (i := n) (j := 0) (by omega) (by omega)
    obtain ⟨a6, b6, v1, v2, v3, v4, v5⟩ := hP.side hs (i := n) (j := 1) (by omega) (by omega)
    exact ⟨g1.fr (rows _ (by omega) (by omega)) (rows _ (by omega) (by omega)), g2.fr (rows _ (by omega) (by omega)) (rows _ (by omega) (by omega))⟩
theorem c_Rule_turn {μ : Mem} {s i : Nat} {rs : List Rl2} {Q : Mem → Prop} (hs : rt s = 7) (hP : SP μ s) (hR : SR μ s rs) (hi : i < rs.length)
    (h : ∀ μ', SP μ' s → SR μ' s (rs.set i ((rs.getD i ([], [])).2, (rs.getD i ([], [])).1)) → Fr (s + 10) (s + 40) μ μ' → Q μ') : d_Rule_turn (rc s i) μ Q := by
  unfold d_Rule_turn
  have hl := hR.2.1
  obtain ⟨a1, b1, x1, x2, x3, x4, x5⟩ := hP.side hs (i := i) (j := 0) (by omega) (by omega)
  obtain ⟨a2, b2, y1, y2, y3, y4, y5⟩ := hP.side hs (i := i) (j := 1) (by omega) (by omega)
  rw [← x4, ← y4]
  generalize hμ : mup (mup μ (rc s i) 0 (μ (rc s i) 1)) (rc s i) 1 (μ (rc s i) 0) = μ'
  have ptr : ∀ q j, q < 6 → j < 2 → μ' (rc s q) j = μ (rc s q) (if q = i then 1 - j else j) := by
    intro q j hq hj
    rw [← hμ]
    unfold mup rc
    by_cases h1 : q = i
    · subst h1
      rw [if_pos rfl]
      rcases (by omega : j = 0 ∨ j = 1) with rfl | rfl
      · rw [if_neg (by omega), if_pos ⟨rfl, rfl⟩]
      · rw [if_pos ⟨rfl, rfl⟩]
    · rw [if_neg h1, if_neg (by omega), if_neg (by omega)]
  have rows : ∀ b, b ≠ rc s i → μ' b = μ b := by
    intro b g1
    rw [← hμ, mup_r g1, mup_r g1]
  refine h μ' ⟨fun q j hq hj => ?_, fun q j q' j' hq hj hq' hj' he => ?_⟩ ⟨?_, by simp only [List.length_set]; exact hl, fun q hq => ?_⟩ (fun b hb => rows b (by unfold rc; omega))
  · rw [ptr q j hq hj]
    exact hP.1 _ _ hq (by split; omega; exact hj)
  · rw [ptr q j hq hj, ptr q' j' hq' hj'] at he
    have := hP.2 _ _ _ _ hq (by split; omega; exact hj) hq' (by split; omega; exact hj') he
    obtain ⟨g1, g2⟩ := this
    subst g1
    refine ⟨rfl, ?_⟩
    by_cases q1 : q = i <;> simp only [q1, if_true, if_false] at g2 <;> omega
  · simp only [List.length_set]
    rw [rows s (by unfold rc; omega)]
    exact hR.1
  · simp only [List.length_set] at hq
    have hq6 : q < 6 := by omega
    have pq0 := ptr q 0 hq6 (by omega)
    have pq1 := ptr q 1 hq6 (by omega)
    obtain ⟨g1, g2⟩ := hR.2.2 q hq
    obtain ⟨a5, b5, u1, u2, u3, u4, u5⟩ := hP.side hs (i := q) (j := 0) (by omega) (by omega)
    obtain ⟨a6, b6, v1, v2, v3, v4, v5⟩ := hP.side hs (i := q) (j := 1) (by omega) (by omega)
    have q1 := rc_eq s i
    have k1 := g1.fr (μ' := μ') (rows _ (by omega)) (rows _ (by omega))
    have k2 := g2.fr (μ' := μ') (rows _ (by omega)) (rows _ (by omega))
    rw [List.getD_eq_getElem?_getD, List.getElem?_set]
    by_cases h1 : q = i
    · subst h1
      rw [if_pos rfl] at pq0 pq1
      rw [pq0, pq1, if_pos rfl, if_pos hq]
      exact ⟨k2, k1⟩
    · rw [if_neg h1] at pq0 pq1
      rw [pq0, pq1, if_neg (fun g => h1 g.symm), ← List.getD_eq_getElem?_getD]
      exact ⟨k1, k2⟩
theorem getD_set {α : Type} {l : List α} {i q : Nat} {x d : α} (hi : i < l.length) : (l.set i x).getD q d = if q = i then x else l.getD q d := by
  rw [List.getD_eq_getElem?_getD, List.getElem?_set]
  by_cases h : q = i
  · rw [if_pos h.symm, if_pos hi, if_pos h]; rfl
  · rw [if_neg (fun g => h g.symm), if_neg h, ← List.getD_eq_getElem?_getD]
theorem getD_eraseIdx {α : Type} {l : List α} {i q : Nat} {d : α} : (l.eraseIdx i).getD q d = if q < i then l.getD q d else l.getD (q + 1) d := by
  rw [List.getD_eq_getElem?_getD, List.getElem?_eraseIdx]
  split
  · rw [← List.getD_eq_getElem?_getD]
  · rw [← List.getD_eq_getElem?_getD]
theorem c_State_dropTerm {μ : Mem} {s n : Nat} {ts : List (List Int)} {Q : Mem → Prop} (hs : rt s = 7) (hT : ST μ s ts) (ft : fitt ts) (hn : n < ts.length)
    (h : ∀ μ', ST μ' s (ts.eraseIdx n) → (∀ b, b ≠ s → b < s + 40 ∨ s + 52 ≤ b → μ' b = μ b) → μ' s 0 = μ s 0 → Q μ') : d_State_dropTerm s (n : Int) μ Q := by
  unfold d_State_dropTerm
  have hl := hT.2.1
  refine i_State_dropTerm_l2 (Inv := fun v2 μ1 => ∃ (k : Nat), v2 = k ∧ n ≤ k ∧ k < ts.length ∧ Fr (s + 40) (s + 52) μ μ1 ∧ (∀ q, q < n → IsT μ1 (tc s q) (ts.getD q [])) ∧ (∀ q, n ≤ q → q < k → IsT μ1 (tc s q) (ts.getD (q + 1) [])) ∧ (∀ q, k ≤ q → q < ts.length → IsT μ1 (tc s q) (ts.getD q []))) (fun v2 _ => ts.length - v2.toNat) ?_ n μ ⟨n, rfl, Nat.le_refl _, hn, Fr.rfl', fun q hq => hT.2.2 q (by omega), fun q h1 h2 => by omega, fun q h1 h2 => hT.2.2 q h2⟩
  rintro _ μ1 ⟨k, rfl, hk, hkl, hF1, e1, e2, e3⟩ W hW
  unfold d_State_dropTerm_b2
  rw [hF1 s (by omega), hT.1, wr_id (by omega) (by omega)]
  by_cases hk1 : k + 1 < ts.length
  · rw [if_pos (by omega), show (k : Int) + 1 = ((k + 1 : Nat) : Int) by omega]
    refine c_State_term (by omega) ?_
    refine c_State_term (by omega) ?_
    obtain ⟨t1, t2⟩ := tc_rt hs (i := k) (by omega)
    obtain ⟨t3, t4⟩ := tc_rt hs (i := k + 1) (by omega)
    have q1 := tc_eq s k
    have q2 := tc_eq s (k + 1)
    refine c_Term_copyFrom (e3 (k + 1) (by omega) hk1) t1 t3 (by omega) (by rw [t2]; exact ft _ (getD_mem hk1)) (fun μ2 hX hF2 => ?_)
    refine hW _ _ ⟨k + 1, rfl, by omega, hk1, hF1.tr hF2 (by omega) (by omega), fun q hq => ?_, fun q h1 h2 => ?_, fun q h1 h2 => ?_⟩ (by omega)
    · have q3 := tc_eq s q
      exact (e1 q hq).frR hF2 (by omega)
    · have q3 := tc_eq s q
      by_cases e : q = k
      · subst e
        exact hX
      · exact (e2 q h1 (by omega)).frR hF2 (by omega)
    · have q3 := tc_eq s q
      exact (e3 q (by omega) h2).frR hF2 (by omega)
  · rw [if_neg (by omega)]
    have hk' : k = ts.length - 1 := by omega
    rw [wr_id (by omega) (by omega)]
    have hlen : (ts.eraseIdx n).length = ts.length - 1 := by rw [List.length_eraseIdx, if_pos hn]
    have rows : ∀ b, b ≠ s → mup μ1 s 1 ((ts.length : Int) - 1) b = μ1 b := fun b hb => mup_r hb
    refine h _ ⟨by rw [mup_s, hlen]; omega, by omega, fun i hi => ?_⟩ (fun b h1 h2 => by rw [rows b h1, hF1 b (by omega)]) (by rw [mup_k (by omega), hF1 s (by omega)])
    rw [hlen] at hi
    have q1 := tc_eq s i
    rw [getD_eraseIdx]
    by_cases e : i < n
    · rw [if_pos e]
      exact (e1 i e).fr (rows _ (by omega)) (rows _ (by omega))
    · rw [if_neg e]
      exact (e2 i (by omega) (by omega)).fr (rows _ (by omega)) (rows _ (by omega))
theorem c_State_addTerm {μ : Mem} {s a f t : Nat} {ts : List (List Int)} {T : List Int} {Q : Mem → Prop} (hs : rt s = 7) (hT : ST μ s ts) (hl : ts.length < 6) (hA : IsT μ a T) (ha : rt a = 8) (hne : a ≠ tc s ts.length) (hf : f ≤ t) (ht : t ≤ T.length) (h80 : t - f ≤ 80)
    (h : ∀ μ', ST μ' s (ts ++ [(T.drop f).take (t - f)]) → (∀ b, b ≠ s → b < s + 40 ∨ s + 52 ≤ b → μ' b = μ b) → μ' s 0 = μ s 0 → Q μ') : d_State_addTerm s a (f : Int) (t : Int) μ Q := by
  unfold d_State_addTerm
  rw [hT.1, if_pos (by omega)]
  refine c_State_term hl ?_
  obtain ⟨t1, t2⟩ := tc_rt hs hl
  have q1 := tc_eq s ts.length
  unfold d_Term_clear
  have hfar := rt8_far ha t1 hne
  have hA1 : IsT (mup μ (tc s ts.length) 1 0) a T := hA.fr (mup_r (by omega)) (mup_r (by omega))
  have hX : IsT (mup μ (tc s ts.length) 1 0) (tc s ts.length) [] := ⟨mup_s, Nat.zero_le _, Sg.nil⟩
  refine c_Term_addPart hX hA1 t1 ha hne hf ht (fun hfit μ2 hX2 hF2 => ?_) (fun hfit => ?_)
  · have hF : Fr (tc s ts.length) (tc s ts.length + 2) μ μ2 := (Fr.up (lo := tc s ts.length) (hi := tc s ts.length + 2) (by omega)).tr hF2 (by omega) (by omega)
    rw [hF s (by omega), hT.1, wr_id (by omega) (by omega)]
    have rows : ∀ b, b ≠ s → mup μ2 s 1 ((ts.length : Int) + 1) b = μ2 b := fun b hb => mup_r hb
    refine h _ ⟨by rw [mup_s]; simp, by simp; omega, fun i hi => ?_⟩ (fun b h1 h2 => by rw [rows b h1, hF b (by omega)]) (by rw [mup_k (by omega), hF s (by omega)])
    rw [List.length_append, List.length_singleton] at hi
    have q2 := tc_eq s i
    by_cases e : i < ts.length
    · rw [getD_app_l e]
      exact ((hT.2.2 i e).frR hF (by omega)).fr (rows _ (by omega)) (rows _ (by omega))
    · have e2 : i = ts.length := by omega
      subst e2
      rw [getD_app_r (Nat.le_refl _), Nat.sub_self]
      exact hX2.fr (rows _ (by omega)) (rows _ (by omega))
  · rw [t2] at hfit
    simp only [List.length_nil] at hfit
    omega

