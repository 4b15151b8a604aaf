/-! CALLS THAT CHANGE rules, remove, undo, save: the reference -/
section M57
variable {μ : Mem} {A : AS} {Q : Int → Mem → Prop} {v1 v2 v3 : Int}
theorem MNw.mapR {f g : Nat → Int} {sy : Sy} {c : Cf} {rs : List Rl2} (h : MNw f 0 sy c) (hs : syok sy) (hc : okc (arS sy) c) (m : Nat → Nat) (hm : ∀ q, q < rs.length → m q < c.1.length ∧ rs.getD q ([], []) = c.1.getD (m q) ([], [])) (h1 : g 1 = (rs.length : Int)) (hg : ∀ k, (k < 67 ∨ 223 ≤ k) → k ≠ 1 → g k = f k) (hr : ∀ q, q < rs.length → ∀ t, t < 26 → g (67 + 26 * q + t) = f (67 + 26 * m q + t)) : MNw g 0 sy (rs, c.2) := by
  refine h.setR hs hc h1 hg fun i hi => ?_
  obtain ⟨hm1, hm2⟩ := hm i hi
  obtain ⟨k1, k2, k3, k4⟩ := h.2.2.2.2.1 (m i) hm1
  have ho := hc.2.2.1 _ (getD_mem (d := ([], [])) hm1)
  have l1 := ho.1.2.1
  have l2 := ho.2.1.2.1
  rw [Nat.zero_add] at k1 k2 k3 k4
  rw [hm2]
  refine ⟨?_, ?_, k3.cp fun k hk => ?_, k4.cp fun k hk => ?_⟩
  · have := hr i hi 0 (by omega); rw [Nat.add_zero, Nat.add_zero] at this; rw [this]; exact k1
  · have := hr i hi 1 (by omega); rw [show 68 + 26 * i = 67 + 26 * i + 1 by omega, this, show 67 + 26 * m i + 1 = 68 + 26 * m i by omega]; exact k2
  · rw [List.length_map] at hk
    have := hr i hi (2 + k) (by omega); rw [show 69 + 26 * i + k = 67 + 26 * i + (2 + k) by omega, this]; congr 1; omega
  · rw [List.length_map] at hk
    have := hr i hi (14 + k) (by omega); rw [show 81 + 26 * i + k = 67 + 26 * i + (14 + k) by omega, this]; congr 1; omega
/-- after the flag: the reference remembers -/
theorem c_remM {Q : Mem → Prop} (hI : MI μ A) (hA : AOK A) (h : ∀ μ', MI μ' (wC A (aC A)) → FrM μ μ' → μ' 772 0 = 0 → Q μ') : d_Md_remembers (mup μ 772 0 0) Q := by
  have hI0 : MI (mup μ 772 0 0) A := hI.f0 (by decide)
  refine c_remembers hI0 hA fun μ2 hI2 hG2 => h _ hI2 (fun b hb => ?_) ?_
  · rw [hG2.1 b (by omega) (by intro q; rw [List.mem_singleton] at q; omega), mup_r (by omega)]
  · rw [hG2.2 0 (by decide), mup_s]
theorem frM773 {μ μ1 μ2 : Mem} (h : FrM μ μ1) (hg : Gm [773] [] μ1 μ2) : FrM μ μ2 := fun b hb => by rw [hg.1 b (by omega) (by intro q; rw [List.mem_singleton] at q; omega), h b hb]
theorem swp_get {rs : List Rl2} {i k q : Nat} (hi : i < rs.length) (hk : k < rs.length) : (swp rs i k).getD q ([], []) = rs.getD (if q = k then i else if q = i then k else q) ([], []) := by
  unfold swp
  rw [getD_set (by rw [List.length_set]; exact hk), getD_set hi]
  by_cases h1 : q = k
  · rw [if_pos h1, if_pos h1]
  · rw [if_neg h1, if_neg h1]
    by_cases h2 : q = i
    · rw [if_pos h2, if_pos h2]
    · rw [if_neg h2, if_neg h2]
theorem swp_len {rs : List Rl2} {i k : Nat} : (swp rs i k).length = rs.length := by unfold swp; rw [List.length_set, List.length_set]
theorem c_allRedexes {A : AS} {Q : Int → Mem → Prop} (hI : MI μ A) (hA : AOK A) (h : ∀ μ', Gm qmR qF0 μ μ' → Q (sumR (aR A) (aT A) : Nat) μ') : d_Md_allRedexes μ Q := by
  unfold d_Md_allRedexes
  have h6 := hA.t6
  have hle := sumR_le (rs := aR A) (aT A) fun T hT => (hA.2.1.2.2.2 T hT).2.1
  refine i_Md_allRedexes_l4 (Inv := fun v1 v2 μ1 => ∃ n q : Nat, v1 = n ∧ v2 = q ∧ q ≤ (aT A).length ∧ Gm qmR qF0 μ μ1 ∧ n + sumR (aR A) ((aT A).drop q) = sumR (aR A) (aT A)) (fun _ v2 _ => (aT A).length - v2.toNat) ?_ 0 0 μ ⟨0, 0, rfl, rfl, Nat.zero_le _, Gm.rfl', by rw [List.drop_zero, Nat.zero_add]⟩
  rintro _ _ μ1 ⟨n, q, rfl, rfl, hq, hG, hn⟩ W hW
  unfold d_Md_allRedexes_b4
  have hI1 : MI μ1 A := hI.gq (hG.mono (by decide) (by decide))
  rw [show μ1 773 2 = ((aT A).length : Int) from hI1.2.1.2.2.1]
  by_cases hql : q < (aT A).length
  · rw [if_pos (by omega)]
    refine c_lendsI hI1 hA hql fun μ2 hW2 hG2 => ?_
    have k2 : μ2 773 = μ1 773 := hG2.1 773 (by decide) (by decide)
    refine c_mRedexes ((hI1.AR hA).gm k2) hW2 (hA.term hql) ((hI1.rules hA).gm k2) hA.rules fun μ3 hG3 => ?_
    rw [dropt hql, sumR] at hn
    rw [wr_id (by omega) (by omega), wr_id (by omega) (by omega)]
    exact hW _ _ _ ⟨_, q + 1, by rw [← Int.natCast_add], by omega, by omega, (hG.q hG2 (by decide) (by decide)).q hG3 (by decide) (by decide), by omega⟩ (by omega)
  · rw [if_neg (by omega)]
    rw [List.drop_eq_nil_of_le (by omega), sumR, Nat.add_zero] at hn
    rw [hn]
    exact h _ hG
theorem mm_swapRules (hI : MI μ A) (hA : AOK A) (h : MC μ (sp_swapRules A v1 v2) Q) : d_Md_swapRules v1 v2 μ Q := by
  unfold d_Md_swapRules
  unfold sp_swapRules at h
  have h6 := hA.r6
  have no : ¬ (aL A = true ∧ ((0 ≤ v1 ∧ v1 < ((aR A).length : Int)) ∧ 0 ≤ v2 ∧ v2 < ((aR A).length : Int))) → d_Md_swapRules_j25 v1 v2 (μ 772 6) μ Q := by
    intro hn
    unfold d_Md_swapRules_j25 d_Md_swapRules_j26
    rw [hI.1]
    refine c_mayTwo (b2 := false) (fun e => ?_) (fun e _ => ?_) (fun _ q => by cases q)
    · rw [e] at h
      exact h.e1 hI Gm.rfl'
    · rw [e, decide_eq_false (fun q => hn ⟨e, q⟩)] at h
      exact h.e2 hI Gm.rfl'
  refine c_isRule hI hA ?_
  cases hl : aL A with
  | false =>
    rw [Bool.false_and, if_neg Bool.false_ne_true]
    exact no fun q => by rw [hl] at q; cases q.1
  | true =>
    rw [Bool.true_and]
    by_cases q1 : 0 ≤ v1 ∧ v1 < ((aR A).length : Int)
    · rw [decide_eq_true q1, if_pos rfl]
      refine c_isRule hI hA ?_
      rw [hl, Bool.true_and]
      by_cases q2 : 0 ≤ v2 ∧ v2 < ((aR A).length : Int)
      · rw [decide_eq_true q2, if_pos rfl]
        unfold d_Md_swapRules_j26
        rw [hl, decide_eq_true ⟨q1, q2⟩] at h
        rw [hI.1]
        refine c_mayTwo (b2 := true) (fun e => ?_) (fun _ q => by cases q) (fun _ _ => ?_)
        · rw [hl] at e; cases e
        · rw [if_pos rfl]
          have ev : v1 = ((v1.toNat : Nat) : Int) := by omega
          have ev2 : v2 = ((v2.toNat : Nat) : Int) := by omega
          rw [ev, ev2]
          have hi : v1.toNat < (aR A).length := by omega
          have hk : v2.toNat < (aR A).length := by omega
          generalize v1.toNat = i at *
          generalize v2.toNat = k at *
          refine c_remM hI hA fun μ1 hI1 hF1 h01 => ?_
          refine i_Md_swapRules_l40 (Inv := fun v3 μ2 => ∃ n : Nat, v3 = n ∧ n ≤ 26 ∧ Gm [773] [] μ1 μ2 ∧ (∀ t, t < n → μ2 773 (67 + 26 * i + t) = μ1 773 (67 + 26 * k + t) ∧ μ2 773 (67 + 26 * k + t) = μ1 773 (67 + 26 * i + t)) ∧ (∀ x, (∀ t, t < n → x ≠ 67 + 26 * i + t ∧ x ≠ 67 + 26 * k + t) → μ2 773 x = μ1 773 x)) (fun v3 _ => 26 - v3.toNat) ?_ 0 μ1 ⟨0, rfl, by omega, Gm.rfl', fun t ht => absurd ht (by omega), fun _ _ => rfl⟩
          rintro _ μ2 ⟨n, rfl, hn, hG, hsw, hoth⟩ W hW
          unfold d_Md_swapRules_b40
          by_cases hn26 : n < 26
          · rw [if_pos (by omega)]
            refine c_ofRule (by omega) hn26 (c_ofRule (by omega) hn26 ?_)
            simp (disch := omega) only [wr_id]
            refine ⟨by omega, by omega, ?_⟩
            rw [show (67 + 26 * (i : Int) + (n : Int)).toNat = 67 + 26 * i + n by omega, show (67 + 26 * (k : Int) + (n : Int)).toNat = 67 + 26 * k + n by omega]
            have oi := hoth (67 + 26 * i + n) (fun t ht => by omega)
            have ok := hoth (67 + 26 * k + n) (fun t ht => by omega)
            rw [oi, ok]
            refine hW _ _ ⟨n + 1, by omega, by omega, (hG.same (Gm.upR (by decide))).same (Gm.upR (by decide)), fun t ht => ?_, fun x hx => ?_⟩ (by omega)
            · by_cases et : t = n
              · subst et
                by_cases eik : i = k
                · subst eik
                  rw [mup_s]
                  exact ⟨rfl, rfl⟩
                · rw [mup_s, mup_k (by omega), mup_s]
                  exact ⟨rfl, rfl⟩
              · obtain ⟨g1, g2⟩ := hsw t (by omega)
                rw [mup_k (by omega), mup_k (by omega), mup_k (by omega), mup_k (by omega)]
                exact ⟨g1, g2⟩
            · have := hx n (by omega)
              rw [mup_k this.2, mup_k this.1]
              exact hoth x fun t ht => hx t (by omega)
          · rw [if_neg (by omega)]
            obtain rfl : n = 26 := by omega
            have hN : MNw (μ2 773) 0 (aS A) (swp (aR A) i k, aT A) := by
              refine MNw.mapR (f := μ1 773) (c := aC A) hI1.2.1 hA.1 hA.2.1 (fun q => if q = k then i else if q = i then k else q) (fun q hq => ?_) ?_ (fun x hx hx1 => ?_) (fun q hq t ht => ?_)
              · rw [swp_len] at hq
                exact ⟨by show (if q = k then i else if q = i then k else q) < (aR A).length; split; exact hi; split; exact hk; exact hq, swp_get hi hk⟩
              · rw [swp_len, hoth 1 (fun t ht => by omega)]
                exact hI1.2.1.2.1
              · exact hoth x (fun t ht => by omega)
              · rw [swp_len] at hq
                by_cases h1 : q = k
                · subst h1
                  rw [if_pos rfl]
                  exact (hsw t ht).2
                · rw [if_neg h1]
                  by_cases h2 : q = i
                  · subst h2
                    rw [if_pos rfl]
                    exact (hsw t ht).1
                  · rw [if_neg h2]
                    exact hoth _ (fun t' ht' => by omega)
            have hI2 : MI μ2 (wC A (swp (aR A) i k, aT A)) := hI1.setC hG hN
            have hA2 : AOK (wC A (swp (aR A) i k, aT A)) := hA.wC hl (okc_rules hA.2.1 (by rw [swp_len]; exact Nat.le_refl _) fun r hr => hA.rules r (mem_swp hi hk hr))
            refine c_allRedexes hI2 hA2 fun μ3 hG3 => ?_
            have hI3 : MI μ3 (wC A (swp (aR A) i k, aT A)) := hI2.gq (hG3.mono (by decide) (by decide))
            refine h.ok4 hI3 (fun b hb => ?_) ?_ rfl
            · rw [(hG3.mono (f := qmF) (fun _ q => q) (by decide)).frMq b hb]
              exact frM773 hF1 hG b hb
            · rw [hG3.2 0 (by decide), hG.2 0 (by decide), h01]
      · rw [decide_eq_false q2, if_neg Bool.false_ne_true]
        exact no fun q => q2 q.2.2
    · rw [decide_eq_false q1, if_neg Bool.false_ne_true]
      exact no fun q => q1 q.2.1
theorem mm_removeRule (hI : MI μ A) (hA : AOK A) (h : MC μ (sp_removeRule A v1) Q) : d_Md_removeRule v1 μ Q := by
  unfold d_Md_removeRule
  unfold sp_removeRule at h
  have h6 := hA.r6
  refine c_mayRule hI hA (fun e => ?_) (fun e en => ?_) (fun e i hv hi => ?_)
  · rw [e] at h
    exact h.e1 hI Gm.rfl'
  · rw [e, decide_eq_false en] at h
    exact h.e2 hI Gm.rfl'
  · subst hv
    rw [e, decide_eq_true (by omega)] at h
    simp only [Int.toNat_natCast] at h
    rw [if_pos rfl]
    refine c_remM hI hA fun μ1 hI1 hF1 h01 => ?_
    rw [show μ1 773 1 = ((aR A).length : Int) from hI1.2.1.2.1, mup_s]
    refine c_lays (67 + 26 * (i + 1)) (67 + 26 * i) (26 * ((aR A).length - 1 - i)) ?_ ?_ ?_ (by rw [ln773]; omega) (by rw [ln773]; omega) (Or.inr (by omega)) fun μ2 g1 g2 g3 => ?_
    · simp (disch := omega) only [wr_id]
      omega
    · simp (disch := omega) only [wr_id]
      omega
    · simp (disch := omega) only [wr_id]
      omega
    · have hG : Gm [773] [] μ1 μ2 := ⟨fun b k1 k2 => by rw [g3 b (by simpa using k2), mup_r (by simpa using k2)], fun j _ => by rw [g3 772 (by decide), mup_r (by decide)]⟩
      have hlen : ((aR A).eraseIdx i).length = (aR A).length - 1 := by rw [List.length_eraseIdx, if_pos hi]
      have e1 : μ2 773 1 = ((aR A).length : Int) - 1 := by rw [g2 1 (by omega), mup_s, wr_id (by omega) (by omega)]
      have old : ∀ x, x ≠ 1 → mup μ1 773 1 (wr (((aR A).length : Int) - 1)) 773 x = μ1 773 x := fun x hx => mup_k hx
      have hN : MNw (μ2 773) 0 (aS A) ((aR A).eraseIdx i, aT A) := by
        refine MNw.mapR (f := μ1 773) (c := aC A) hI1.2.1 hA.1 hA.2.1 (fun q => if q < i then q else q + 1) (fun q hq => ?_) ?_ (fun x hx hx1 => ?_) (fun q hq t ht => ?_)
        · rw [hlen] at hq
          refine ⟨by show (if q < i then q else q + 1) < (aR A).length; split <;> omega, ?_⟩
          rw [getD_eraseIdx]
          show _ = (aR A).getD _ _
          by_cases hqi : q < i
          · rw [if_pos hqi, if_pos hqi]
          · rw [if_neg hqi, if_neg hqi]
        · rw [hlen, e1]; omega
        · rw [g2 x (by omega), old x hx1]
        · rw [hlen] at hq
          by_cases hqi : q < i
          · rw [if_pos hqi, g2 _ (by omega), old _ (by omega)]
          · rw [if_neg hqi]
            have := g1 (26 * (q - i) + t) (by omega)
            rw [show 67 + 26 * q + t = 67 + 26 * i + (26 * (q - i) + t) by omega, this, old _ (by omega)]
            congr 1
            omega
      rw [e1]
      exact h.ok4 (hI1.setC hG hN) (frM773 hF1 hG) (by rw [hG.2 0 (by decide), h01]) rfl
theorem mm_removeTerm (hI : MI μ A) (hA : AOK A) (h : MC μ (sp_removeTerm A v1) Q) : d_Md_removeTerm v1 μ Q := by
  unfold d_Md_removeTerm
  unfold sp_removeTerm at h
  have h6 := hA.t6
  refine c_mayTerm hI hA (fun e => ?_) (fun e en => ?_) (fun e i hv hi => ?_)
  · rw [e] at h
    exact h.e1 hI Gm.rfl'
  · rw [e, decide_eq_false en] at h
    exact h.e2 hI Gm.rfl'
  · subst hv
    rw [e, decide_eq_true (by omega)] at h
    simp only [Int.toNat_natCast] at h
    rw [if_pos rfl]
    refine c_remM hI hA fun μ1 hI1 hF1 h01 => ?_
    rw [show μ1 773 2 = ((aT A).length : Int) from hI1.2.1.2.2.1, mup_s]
    refine c_lays (223 + 81 * (i + 1)) (223 + 81 * i) (81 * ((aT A).length - 1 - i)) ?_ ?_ ?_ (by rw [ln773]; omega) (by rw [ln773]; omega) (Or.inr (by omega)) fun μ2 g1 g2 g3 => ?_
    · simp (disch := omega) only [wr_id]
      omega
    · simp (disch := omega) only [wr_id]
      omega
    · simp (disch := omega) only [wr_id]
      omega
    · have hG : Gm [773] [] μ1 μ2 := ⟨fun b k1 k2 => by rw [g3 b (by simpa using k2), mup_r (by simpa using k2)], fun j _ => by rw [g3 772 (by decide), mup_r (by decide)]⟩
      have hlen : ((aT A).eraseIdx i).length = (aT A).length - 1 := by rw [List.length_eraseIdx, if_pos hi]
      have e1 : μ2 773 2 = ((aT A).length : Int) - 1 := by rw [g2 2 (by omega), mup_s, wr_id (by omega) (by omega)]
      have old : ∀ x, x ≠ 2 → mup μ1 773 2 (wr (((aT A).length : Int) - 1)) 773 x = μ1 773 x := fun x hx => mup_k hx
      have hN : MNw (μ2 773) 0 (aS A) (aR A, (aT A).eraseIdx i) := by
        refine MNw.setT (f := μ1 773) (c := aC A) hI1.2.1 hA.1 hA.2.1 (by rw [hlen, e1]; omega) (fun x hx hx1 => by rw [g2 x (by omega), old x hx1]) (fun q hq => ?_)
        rw [hlen] at hq
        have cpy : ∀ q', q' < (aT A).length → (∀ t, t < 81 → μ2 773 (223 + 81 * q + t) = μ1 773 (223 + 81 * q' + t)) → μ2 773 (223 + 81 * q) = (((aT A).getD q' []).length : Int) ∧ Me (μ2 773) (224 + 81 * q) ((aT A).getD q' []) := by
          intro q' hq' ht
          have l1 := (hA.term hq').2.1
          have k1 : μ1 773 (223 + 81 * q') = (((aT A).getD q' []).length : Int) := hI1.size hq'
          have k2 : Me (μ1 773) (224 + 81 * q') ((aT A).getD q' []) := hI1.term hq'
          refine ⟨by have := ht 0 (by omega); rw [Nat.add_zero, Nat.add_zero] at this; rw [this]; exact k1, k2.cp fun j hj => ?_⟩
          rw [List.length_map] at hj
          have := ht (1 + j) (by omega)
          rw [show 224 + 81 * q + j = 223 + 81 * q + (1 + j) by omega, this]
          congr 1
          omega
        rw [getD_eraseIdx]
        by_cases hqi : q < i
        · rw [if_pos hqi]
          exact cpy q (by omega) fun t ht => by rw [g2 _ (by omega), old _ (by omega)]
        · rw [if_neg hqi]
          refine cpy (q + 1) (by omega) fun t ht => ?_
          have := g1 (81 * (q - i) + t) (by omega)
          rw [show 223 + 81 * q + t = 223 + 81 * i + (81 * (q - i) + t) by omega, this, old _ (by omega)]
          congr 1
          omega
      rw [e1]
      exact h.ok4 (hI1.setC hG hN) (frM773 hF1 hG) (by rw [hG.2 0 (by decide), h01]) rfl
theorem c_exchanges {a b : Nat} {va vb : Int} {Q : Mem → Prop} (ha' : va = a) (hb' : vb = b) (ha : a < 709) (hb : b < 709) (h : Q (mup (mup μ 773 a (μ 773 b)) 773 b (μ 773 a))) : d_Md_exchanges va vb μ Q := by
  subst ha' hb'
  unfold d_Md_exchanges
  refine ⟨by omega, by omega, by omega, by omega, ?_⟩
  rw [Int.toNat_natCast, Int.toNat_natCast]
  exact h
theorem c_reverses {i : Nat} {Q : Mem → Prop} (hi : i < 6) (h : ∀ μ', Gm [773] [] μ μ' → μ' 773 (67 + 26 * i) = μ 773 (68 + 26 * i) → μ' 773 (68 + 26 * i) = μ 773 (67 + 26 * i) → (∀ t, t < 12 → μ' 773 (69 + 26 * i + t) = μ 773 (81 + 26 * i + t) ∧ μ' 773 (81 + 26 * i + t) = μ 773 (69 + 26 * i + t)) → (∀ x, x < 67 + 26 * i ∨ 93 + 26 * i ≤ x → μ' 773 x = μ 773 x) → Q μ') : d_Md_reverses (i : Int) μ Q := by
  unfold d_Md_reverses
  simp (disch := omega) only [wr_id]
  refine c_exchanges (a := 67 + 26 * i) (b := 68 + 26 * i) (by omega) (by omega) (by omega) (by omega) ?_
  generalize hμ1 : mup (mup μ 773 (67 + 26 * i) (μ 773 (68 + 26 * i))) 773 (68 + 26 * i) (μ 773 (67 + 26 * i)) = μ1
  have a1 : μ1 773 (67 + 26 * i) = μ 773 (68 + 26 * i) := by rw [← hμ1, mup_k (by omega), mup_s]
  have a2 : μ1 773 (68 + 26 * i) = μ 773 (67 + 26 * i) := by rw [← hμ1, mup_s]
  have a3 : ∀ x, x ≠ 67 + 26 * i → x ≠ 68 + 26 * i → μ1 773 x = μ 773 x := fun x h1 h2 => by rw [← hμ1, mup_k h2, mup_k h1]
  have hG1 : Gm [773] [] μ μ1 := by rw [← hμ1]; exact (Gm.upR (by decide)).same (Gm.upR (by decide))
  rw [show (67 : Int) + 26 * (i : Int) = ((67 + 26 * i : Nat) : Int) by omega]
  refine i_Md_reverses_l20 (Inv := fun v3 μ2 => ∃ n : Nat, v3 = n ∧ n ≤ 12 ∧ Gm [773] [] μ μ2 ∧ (∀ t, t < n → μ2 773 (69 + 26 * i + t) = μ 773 (81 + 26 * i + t) ∧ μ2 773 (81 + 26 * i + t) = μ 773 (69 + 26 * i + t)) ∧ (∀ x, (x < 69 + 26 * i ∨ 69 + 26 * i + n ≤ x) → (x < 81 + 26 * i ∨ 81 + 26 * i + n ≤ x) → μ2 773 x = μ1 773 x)) (fun v3 _ => 12 - v3.toNat) ?_ 0 μ1 ⟨0, rfl, by omega, hG1, fun t ht => absurd ht (by omega), fun _ _ _ => rfl⟩
  rintro _ μ2 ⟨n, rfl, hn, hG, hsw, hoth⟩ W hW
  unfold d_Md_reverses_b20
  by_cases hn12 : n < 12
  · rw [if_pos (by omega)]
    simp (disch := omega) only [wr_id]
    refine c_exchanges (a := 69 + 26 * i + n) (b := 81 + 26 * i + n) (by omega) (by omega) (by omega) (by omega) ?_
    rw [hoth (69 + 26 * i + n) (by omega) (by omega), hoth (81 + 26 * i + n) (by omega) (by omega), a3 (69 + 26 * i + n) (by omega) (by omega), a3 (81 + 26 * i + n) (by omega) (by omega)]
    refine hW _ _ ⟨n + 1, by omega, by omega, (hG.same (Gm.upR (by decide))).same (Gm.upR (by decide)), fun t ht => ?_, fun x h1 h2 => ?_⟩ (by omega)
    · by_cases et : t = n
      · subst et
        rw [mup_s, mup_k (by omega), mup_s]
        exact ⟨rfl, rfl⟩
      · obtain ⟨g1, g2⟩ := hsw t (by omega)
        rw [mup_k (by omega), mup_k (by omega), mup_k (by omega), mup_k (by omega)]
        exact ⟨g1, g2⟩
    · rw [mup_k (by omega), mup_k (by omega)]
      exact hoth x (by omega) (by omega)
  · rw [if_neg (by omega)]
    obtain rfl : n = 12 := by omega
    refine h _ hG ?_ ?_ hsw fun x hx => ?_
    · rw [hoth _ (by omega) (by omega)]; exact a1
    · rw [hoth _ (by omega) (by omega)]; exact a2
    · rw [hoth _ (by omega) (by omega), a3 _ (by omega) (by omega)]
theorem c_canReverse {i : Nat} {r : Rl2} {ars : List Nat} {Q : Bool → Prop} (ha : ars.length ≤ 8) (hM : MR μ i r) (hr : okr ars r) (h : Q (canT r)) : d_Md_canReverse (i : Int) μ Q := by
  unfold d_Md_canReverse
  obtain ⟨hi6, hl1, hl2, e1, e2, m1, m2⟩ := id hM
  refine c_ofRule (k := 14) hi6 (by omega) ?_
  have hz := m2.get (wl_head hr.2.1)
  rw [Nat.add_zero] at hz
  rw [hz]
  have hlt := enc_lt (hr.2.1.2.2 _ (gm0 (wl_head hr.2.1))) ha
  by_cases q : r.2.getD 0 0 < 0
  · rw [if_neg (by omega)]
    unfold canT at h
    rw [decide_eq_false (by omega), Bool.false_and] at h
    exact h
  · rw [if_pos (by omega)]
    have hcan : canT r = r.1.all fun c => decide (0 ≤ c) || decide (0 < r.2.count c) := by
      unfold canT
      rw [decide_eq_true (by omega), Bool.true_and]
    refine i_Md_canReverse_l16 (Inv := fun v2 => ∃ k : Nat, v2 = k ∧ k ≤ 8 ∧ ∀ j, j < k → 0 < r.1.count (-1 - (j : Int)) → 0 < r.2.count (-1 - (j : Int))) (fun v2 => 8 - v2.toNat) ?_ 0 ⟨0, rfl, by omega, fun j hj => absurd hj (by omega)⟩
    rintro _ ⟨k, rfl, hk, hall⟩ W hW
    unfold d_Md_canReverse_b16 d_Md_canReverse_j50
    by_cases hk8 : k < 8
    · rw [if_pos (by omega)]
      refine c_occV (lf := true) ha hM hr hk8 (by rw [wr_id (by omega) (by omega)]) ?_
      rw [if_pos rfl]
      by_cases c1 : 0 < r.1.count (-1 - (k : Int))
      · rw [if_pos (by omega)]
        refine c_occV (lf := false) ha hM hr hk8 (by rw [wr_id (by omega) (by omega)]) ?_
        rw [if_neg Bool.false_ne_true]
        by_cases c2 : r.2.count (-1 - (k : Int)) = 0
        · rw [if_pos (by omega)]
          have : canT r = false := by
            rw [hcan, List.all_eq_false]
            refine ⟨-1 - (k : Int), count_pos'.mp c1, ?_⟩
            rw [decide_eq_false (by omega), decide_eq_false (by omega)]
            decide
          rw [this] at h
          exact h
        · rw [if_neg (by omega), wr_id (by omega) (by omega)]
          refine hW _ ⟨k + 1, by omega, by omega, fun j hj hc => ?_⟩ (by omega)
          by_cases e : j = k
          · subst e; omega
          · exact hall j (by omega) hc
      · rw [if_neg (by omega), wr_id (by omega) (by omega)]
        refine hW _ ⟨k + 1, by omega, by omega, fun j hj hc => ?_⟩ (by omega)
        by_cases e : j = k
        · subst e; exact absurd hc c1
        · exact hall j (by omega) hc
    · rw [if_neg (by omega)]
      have : canT r = true := by
        rw [hcan, List.all_eq_true]
        intro c hc
        by_cases h0 : 0 ≤ c
        · rw [decide_eq_true h0, Bool.true_or]
        · have hb := (hr.1.2.2 c hc).1 (by omega)
          have := hall (-1 - c).toNat (by omega)
          rw [show -1 - (((-1 - c).toNat : Nat) : Int) = c by omega] at this
          rw [decide_eq_true (this (count_pos'.mpr hc)), Bool.or_true]
      rw [this] at h
      exact h
theorem mm_reverseRule (hI : MI μ A) (hA : AOK A) (h : MC μ (sp_reverseRule A v1) Q) : d_Md_reverseRule v1 μ Q := by
  unfold d_Md_reverseRule
  unfold sp_reverseRule at h
  have h6 := hA.r6
  refine c_isRule hI hA ?_
  have no : ∀ b : Bool, (aL A = true → b = true → False) → (aL A = true → ¬ (0 ≤ v1 ∧ v1 < ((aR A).length : Int))) → d_Md_reverseRule_j28 v1 (μ 772 6) (b2i b) μ Q := by
    intro b hb hn
    unfold d_Md_reverseRule_j28 d_Md_reverseRule_j29
    refine c_mayI (b2 := b) (b3 := false) hI (fun e => ?_) (fun e _ => ?_) (fun e q => (hb e q).elim) (fun e q => (hb e q).elim)
    · rw [e] at h
      exact h.e1 hI Gm.rfl'
    · rw [e, decide_eq_false (hn e)] at h
      exact h.e2 hI Gm.rfl'
  cases hl : aL A with
  | false =>
    rw [Bool.false_and, if_neg Bool.false_ne_true]
    exact no false (fun e => by rw [hl] at e; cases e) (fun e => by rw [hl] at e; cases e)
  | true =>
    rw [Bool.true_and]
    by_cases q1 : 0 ≤ v1 ∧ v1 < ((aR A).length : Int)
    · rw [hl, decide_eq_true q1] at h
      rw [decide_eq_true q1, if_pos rfl]
      have ev : v1 = ((v1.toNat : Nat) : Int) := by omega
      rw [ev]
      have hi : v1.toNat < (aR A).length := by omega
      generalize v1.toNat = i at *
      have hM := (hI.rules hA).2.2 i hi
      refine c_canReverse hA.ars hM (hA.rule hi) ?_
      by_cases hcc : canT ((aR A).getD i ([], [])) = true
      · rw [if_pos hcc] at h ⊢
        unfold d_Md_reverseRule_j29
        refine c_mayI (b2 := true) (b3 := true) hI (fun e => ?_) (fun _ q => by cases q) (fun _ _ q => by cases q) (fun _ _ _ => ?_)
        · rw [hl] at e; cases e
        · rw [if_pos rfl]
          refine c_remM hI hA fun μ1 hI1 hF1 h01 => ?_
          refine c_reverses (by omega) fun μ2 hG r1 r2 r3 r4 => ?_
          obtain ⟨k1, k2, k3, k4⟩ := hI1.2.1.2.2.2.2.1 i hi
          rw [Nat.zero_add] at k1 k2 k3 k4
          have ho := hA.rule hi
          have l1 := ho.1.2.1
          have l2 := ho.2.1.2.1
          have hN : MNw (μ2 773) 0 (aS A) ((aR A).set i (((aR A).getD i ([], [])).2, ((aR A).getD i ([], [])).1), aT A) := by
            refine MNw.setR (f := μ1 773) (c := aC A) hI1.2.1 hA.1 hA.2.1 ?_ (fun x hx hx1 => r4 x (by omega)) fun q hq => ?_
            · rw [r4 1 (by omega), List.length_set]; exact hI1.2.1.2.1
            · rw [List.length_set] at hq
              rw [getD_set hi]
              by_cases e : q = i
              · subst e
                rw [if_pos rfl]
                refine ⟨by rw [r1]; exact k2, by rw [r2]; exact k1, k4.cp fun t ht => ?_, k3.cp fun t ht => ?_⟩
                · rw [List.length_map] at ht
                  have ht' : t < ((aR A).getD q ([], [])).2.length := ht
                  exact (r3 t (by omega)).1
                · rw [List.length_map] at ht
                  have ht' : t < ((aR A).getD q ([], [])).1.length := ht
                  exact (r3 t (by omega)).2
              · rw [if_neg e]
                obtain ⟨j1, j2, j3, j4⟩ := hI1.2.1.2.2.2.2.1 q hq
                rw [Nat.zero_add] at j1 j2 j3 j4
                have hoq := hA.rule hq
                have m1 := hoq.1.2.1
                have m2 := hoq.2.1.2.1
                refine ⟨by rw [r4 _ (by omega)]; exact j1, by rw [r4 _ (by omega)]; exact j2, j3.cp fun t ht => ?_, j4.cp fun t ht => ?_⟩
                · rw [List.length_map] at ht
                  have ht' : t < ((aR A).getD q ([], [])).1.length := ht
                  exact r4 _ (by omega)
                · rw [List.length_map] at ht
                  have ht' : t < ((aR A).getD q ([], [])).2.length := ht
                  exact r4 _ (by omega)
          refine c_ofRule (k := 0) (by omega) (by omega) ?_
          rw [Nat.add_zero, r1]
          exact h.ok4 (hI1.setC hG hN) (frM773 hF1 hG) (by rw [hG.2 0 (by decide), h01]) k2
      · rw [if_neg hcc] at h ⊢
        unfold d_Md_reverseRule_j28 d_Md_reverseRule_j29
        refine c_mayI (b2 := true) (b3 := false) hI (fun e => ?_) (fun _ q => by cases q) (fun _ _ _ => ?_) (fun _ _ q => by cases q)
        · rw [hl] at e; cases e
        · exact h.e3 hI Gm.rfl'
    · rw [decide_eq_false q1, if_neg Bool.false_ne_true]
      exact no false (fun _ q => by cases q) (fun _ => q1)
end M57
