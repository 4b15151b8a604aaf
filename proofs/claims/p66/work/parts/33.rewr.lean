/-! THE CLASS'S RULES, STATES, REWRITING -/
theorem w7_ne {w l : Nat} (hw : rt w = 4) (hl : rt l = 8) : l + 1 < w + 7 ∨ w + 8 ≤ l := by
  have h1 := rp_4_7 hw
  have h2 := rp_8_1 hl
  have h3 := rp_8_1 (rp_4_5 hw)
  rcases Nat.lt_or_ge (l + 1) (w + 7) with g | g
  · exact Or.inl g
  · rcases Nat.lt_or_ge l (w + 8) with k | k
    · exfalso
      have : l = w + 6 ∨ l = w + 7 := by omega
      rcases this with rfl | rfl
      · rw [show w + 6 = w + 5 + 1 by omega, h3] at hl
        cases hl
      · rw [h1] at hl
        cases hl
    · exact Or.inr k
def BR (μ : Mem) (w : Nat) (b : Nat → Int) : Prop := ∀ v, v < 8 → μ (w + 7) v = b v
def vlo (L : List Int) : Prop := ∀ c, c ∈ L → -8 ≤ c
section T34
variable {μ : Mem} {w r t : Nat} {L R T : List Int}
theorem c_Rewriter_match {p : Nat} {Q : Bool → Mem → Prop} (hw : rt w = 4) (hL : IsT μ (dp (μ r 0)) L) (hr : r ≠ w + 7) (hT : IsT μ t T) (ht : rt t = 8) (wL : wl L 1 = true) (wT : wl T 1 = true) (nL : nok L) (nT : nok T) (vL : vlo L) (hp : p < T.length)
    (h1 : ∀ μ' b, mb L T p = some b → BR μ' w b → Fr (w + 7) (w + 8) μ μ' → Q true μ') (h2 : ∀ μ', mb L T p = none → Fr (w + 7) (w + 8) μ μ' → Q false μ') : d_Rewriter_match w r t (p : Int) μ Q := by
  unfold d_Rewriter_match
  have hln : ln (w + 7) = 8 := lp_4_7 hw
  have hl1 := ln_le (dp (μ r 0) + 1)
  have hl2 := ln_le (t + 1)
  have hc1 := hL.2.1
  have hc2 := hT.2.1
  refine c_Arrays_fill fun μ0 hf hfr => ?_
  have hr0 : μ0 r = μ r := hfr r (by omega)
  rw [hr0]
  have hL0 : ∀ μ1, Fr (w + 7) (w + 8) μ μ1 → IsT μ1 (dp (μ r 0)) L := fun μ1 g => hL.frR g (w7_ne hw (dp_rt _))
  have hT0 : ∀ μ1, Fr (w + 7) (w + 8) μ μ1 → IsT μ1 t T := fun μ1 g => hT.frR g (w7_ne hw ht)
  generalize dp (μ r 0) = l at *
  refine i_Rewriter_match_l20 (Inv := fun v5 v6 μ1 => ∃ (q k : Nat) (b : Nat → Int), v5 = q ∧ v6 = k ∧ k ≤ L.length ∧ BR μ1 w b ∧ Fr (w + 7) (w + 8) μ μ1 ∧ fitp T (L.drop k) q ∧ bok T b ∧ mb L T p = mt T (L.drop k) q b) (fun _ v6 _ => L.length - v6.toNat) ?_ p 0 μ0 ⟨p, 0, nb, rfl, rfl, Nat.zero_le _, fun v hv => hf v (by omega), hfr, fitp_start wL wT hp, bok_nb T, rfl⟩
  rintro _ _ μ1 ⟨q, k, b, rfl, rfl, hk, hB, hF, hfit, hbok, hmb⟩ W hW
  unfold d_Rewriter_match_b20
  have hL1 := hL0 μ1 hF
  have hT1 := hT0 μ1 hF
  rw [hL1.1]
  by_cases hkl : k < L.length
  · rw [if_pos (by omega)]
    refine c_Term_getN hL1 hkl ?_
    rw [dropc hkl] at hfit hmb
    have hq := fitp_lt hfit
    have hmem : L.getD k 0 ∈ L := getD_mem hkl
    rw [mt] at hmb
    by_cases hc0 : L.getD k 0 < 0
    · rw [if_pos hc0] at hmb
      rw [if_pos hc0]
      have hv := vL _ hmem
      have e1 : wr (-1 - L.getD k 0) = ((vn (L.getD k 0) : Nat) : Int) := by
        unfold vn
        rw [wr_id (by omega) (by omega)]
        omega
      have hvn : vn (L.getD k 0) < 8 := by unfold vn; omega
      rw [e1, if_neg (by omega), if_pos (by omega)]
      refine ⟨by omega, ?_⟩
      rw [Int.toNat_natCast, hB _ hvn]
      by_cases hbv : b (vn (L.getD k 0)) = -1
      · rw [if_pos hbv] at hmb
        rw [if_pos hbv]
        refine ⟨by omega, ?_⟩
        unfold d_Rewriter_match_j127
        have hF2 : Fr (w + 7) (w + 8) μ (mup μ1 (w + 7) (vn (L.getD k 0)) (q : Int)) := hF.tr (Fr.up (lo := w + 7) (hi := w + 8) (by omega)) (by omega) (by omega)
        refine c_Term_end (hT0 _ hF2) nT (by omega) ?_
        unfold d_Rewriter_match_j135
        rw [wr_id (by omega) (by omega)]
        refine hW _ _ _ ⟨en T q, k + 1, up b (vn (L.getD k 0)) q, rfl, by omega, by omega, fun v hv8 => ?_, hF2, fitp_var hfit hc0, bok_up hbok hq, hmb⟩ (by omega)
        rw [mup_a]
        unfold up
        split
        · rfl
        · exact hB v hv8
      · rw [if_neg hbv] at hmb
        rw [if_neg hbv]
        refine ⟨by omega, ?_⟩
        obtain ⟨g1, g2⟩ := hbok _ hbv
        rw [show b (vn (L.getD k 0)) = (((b (vn (L.getD k 0))).toNat : Nat) : Int) by omega]
        refine c_Term_sameParts hT1 nT wT g2 hq ?_
        by_cases hsame : sb T (b (vn (L.getD k 0))).toNat = sb T q
        · rw [if_pos hsame] at hmb
          rw [decide_eq_true hsame, if_pos rfl]
          unfold d_Rewriter_match_j127
          refine c_Term_end hT1 nT (by omega) ?_
          unfold d_Rewriter_match_j135
          rw [wr_id (by omega) (by omega)]
          exact hW _ _ _ ⟨en T q, k + 1, b, rfl, by omega, by omega, hB, hF, fitp_var hfit hc0, hbok, hmb⟩ (by omega)
        · rw [if_neg hsame] at hmb
          rw [decide_eq_false hsame, if_neg (by decide)]
          exact h2 _ hmb hF
    · rw [if_neg hc0] at hmb
      rw [if_neg hc0]
      refine c_Term_getN hT1 hq ?_
      by_cases he : T.getD q 0 = L.getD k 0
      · rw [if_pos he] at hmb
        rw [if_pos he]
        unfold d_Rewriter_match_j135
        rw [wr_id (by omega) (by omega), wr_id (by omega) (by omega)]
        exact hW _ _ _ ⟨q + 1, k + 1, b, by omega, by omega, by omega, hB, hF, fitp_sym hfit he, hbok, hmb⟩ (by omega)
      · rw [if_neg he] at hmb
        rw [if_neg he]
        exact h2 _ hmb hF
  · rw [if_neg (by omega)]
    rw [List.drop_eq_nil_of_le (by omega), mt] at hmb
    exact h1 _ _ hmb hB hF
end T34
/-- the cells of a state: its rules, its terms -/
def rc (s i : Nat) : Nat := s + 1 + (9 + 5 * i)
def tc (s i : Nat) : Nat := s + 2 + (38 + 2 * i)
/-- the sides of a state's rules lie in its own twelve rows, each in one -/
def SP (μ : Mem) (s : Nat) : Prop := (∀ i j, i < 6 → j < 2 → ∃ i' j', i' < 6 ∧ j' < 2 ∧ μ (rc s i) j = ((s + 11 + 5 * i' + 2 * j' : Nat) : Int)) ∧ ∀ i j i' j', i < 6 → j < 2 → i' < 6 → j' < 2 → μ (rc s i) j = μ (rc s i') j' → i = i' ∧ j = j'
def SR (μ : Mem) (s : Nat) (rs : List Rl2) : Prop := μ s 0 = (rs.length : Int) ∧ rs.length ≤ 6 ∧ ∀ i, i < rs.length → IsT μ (dp (μ (rc s i) 0)) (rs.getD i ([], [])).1 ∧ IsT μ (dp (μ (rc s i) 1)) (rs.getD i ([], [])).2
def ST (μ : Mem) (s : Nat) (ts : List (List Int)) : Prop := μ s 1 = (ts.length : Int) ∧ ts.length ≤ 6 ∧ ∀ i, i < ts.length → IsT μ (tc s i) (ts.getD i [])
theorem side_rt {s i j : Nat} (hs : rt s = 7) (hi : i < 6) (hj : j < 2) : rt (s + 11 + 5 * i + 2 * j) = 8 ∧ ln (s + 11 + 5 * i + 2 * j + 1) = 12 := by
  have h1 : rt (s + (11 + 5 * i)) = 8 := re_of (t := 7) (b := 11) (s := 5) (n := 6) (t1 := 8) (by decide +kernel) (by decide) hs hi
  have h2 : rt (s + (13 + 5 * i)) = 8 := re_of (t := 7) (b := 13) (s := 5) (n := 6) (t1 := 8) (by decide +kernel) (by decide) hs hi
  have k : ∀ d, d < 42 → (d = 12 ∨ d = 14 ∨ d = 17 ∨ d = 19 ∨ d = 22 ∨ d = 24 ∨ d = 27 ∨ d = 29 ∨ d = 32 ∨ d = 34 ∨ d = 37 ∨ d = 39) → ln (s + d) = 12 := by
    intro d _ hd
    rcases hd with rfl | rfl | rfl | rfl | rfl | rfl | rfl | rfl | rfl | rfl | rfl | rfl
    all_goals exact lp_of (t := 7) (n := 12) (by decide +kernel) (by decide) hs
  rcases (by omega : j = 0 ∨ j = 1) with rfl | rfl
  · refine ⟨by rw [show s + 11 + 5 * i + 2 * 0 = s + (11 + 5 * i) by omega]; exact h1, ?_⟩
    rw [show s + 11 + 5 * i + 2 * 0 + 1 = s + (12 + 5 * i) by omega]
    exact k _ (by omega) (by omega)
  · refine ⟨by rw [show s + 11 + 5 * i + 2 * 1 = s + (13 + 5 * i) by omega]; exact h2, ?_⟩
    rw [show s + 11 + 5 * i + 2 * 1 + 1 = s + (14 + 5 * i) by omega]
    exact k _ (by omega) (by omega)
theorem tc_rt {s i : Nat} (hs : rt s = 7) (hi : i < 6) : rt (tc s i) = 8 ∧ ln (tc s i + 1) = 80 := by
  have h1 : rt (s + (40 + 2 * i)) = 8 := re_of (t := 7) (b := 40) (s := 2) (n := 6) (t1 := 8) (by decide +kernel) (by decide) hs hi
  have k : ∀ d, (d = 41 ∨ d = 43 ∨ d = 45 ∨ d = 47 ∨ d = 49 ∨ d = 51) → ln (s + d) = 80 := by
    intro d hd
    rcases hd with rfl | rfl | rfl | rfl | rfl | rfl
    all_goals exact lp_of (t := 7) (n := 80) (by decide +kernel) (by decide) hs
  unfold tc
  refine ⟨by rw [show s + 2 + (38 + 2 * i) = s + (40 + 2 * i) by omega]; exact h1, ?_⟩
  rw [show s + 2 + (38 + 2 * i) + 1 = s + (41 + 2 * i) by omega]
  exact k _ (by omega)
/-- where a side lies -/
theorem SP.side {μ : Mem} {s i j : Nat} (h : SP μ s) (hs : rt s = 7) (hi : i < 6) (hj : j < 2) : ∃ i' j', i' < 6 ∧ j' < 2 ∧ dp (μ (rc s i) j) = s + 11 + 5 * i' + 2 * j' ∧ μ (rc s i) j = ((dp (μ (rc s i) j) : Nat) : Int) ∧ ln (dp (μ (rc s i) j) + 1) = 12 := by
  obtain ⟨i', j', h1, h2, h3⟩ := h.1 i j hi hj
  obtain ⟨h4, h5⟩ := side_rt hs h1 h2
  have : dp (μ (rc s i) j) = s + 11 + 5 * i' + 2 * j' := by rw [h3]; exact dp_of h4
  exact ⟨i', j', h1, h2, this, by rw [this, h3], by rw [this]; exact h5⟩
theorem SR.fr {μ μ' : Mem} {s : Nat} {rs : List Rl2} (h : SR μ s rs) (hp : SP μ s) (hs : rt s = 7) (h0 : μ' s 0 = μ s 0) (hf : ∀ b, s + 1 ≤ b → b < s + 40 → μ' b = μ b) : SR μ' s rs := by
  refine ⟨by rw [h0]; exact h.1, h.2.1, fun i hi => ?_⟩
  have hi6 : i < 6 := by have := h.2.1; omega
  have e : μ' (rc s i) = μ (rc s i) := hf _ (by unfold rc; omega) (by unfold rc; omega)
  obtain ⟨g1, g2⟩ := h.2.2 i hi
  rw [e]
  obtain ⟨i1, j1, k1, k2, k3, _⟩ := hp.side hs hi6 (j := 0) (by omega)
  obtain ⟨i2, j2, k4, k5, k6, _⟩ := hp.side hs hi6 (j := 1) (by omega)
  exact ⟨g1.fr (hf _ (by omega) (by omega)) (hf _ (by omega) (by omega)), g2.fr (hf _ (by omega) (by omega)) (hf _ (by omega) (by omega))⟩
theorem SP.fr {μ μ' : Mem} {s : Nat} (hp : SP μ s) (hf : ∀ b, s + 10 ≤ b → b < s + 40 → μ' b = μ b) : SP μ' s := by
  have e : ∀ i, i < 6 → μ' (rc s i) = μ (rc s i) := fun i hi => hf _ (by unfold rc; omega) (by unfold rc; omega)
  refine ⟨fun i j hi hj => ?_, fun i j i' j' hi hj hi' hj' => ?_⟩
  · rw [e i hi]; exact hp.1 i j hi hj
  · rw [e i hi, e i' hi']; exact hp.2 i j i' j' hi hj hi' hj'
theorem ST.fr {μ μ' : Mem} {s : Nat} {ts : List (List Int)} (h : ST μ s ts) (h0 : μ' s 1 = μ s 1) (hf : ∀ b, s + 40 ≤ b → b < s + 52 → μ' b = μ b) : ST μ' s ts := by
  refine ⟨by rw [h0]; exact h.1, h.2.1, fun i hi => ?_⟩
  have := h.2.1
  exact (h.2.2 i hi).fr (hf _ (by unfold tc; omega) (by unfold tc; omega)) (hf _ (by unfold tc; omega) (by unfold tc; omega))
theorem c_State_rule {μ : Mem} {s i : Nat} {Q : Nat → Prop} (hi : i < 6) (h : Q (rc s i)) : d_State_rule s (i : Int) μ Q := by
  unfold d_State_rule
  rw [if_neg (by omega), if_pos (by omega)]
  exact ⟨by omega, by rw [Int.toNat_natCast]; exact h⟩
theorem c_State_term {μ : Mem} {s i : Nat} {Q : Nat → Prop} (hi : i < 6) (h : Q (tc s i)) : d_State_term s (i : Int) μ Q := by
  unfold d_State_term
  rw [if_neg (by omega), if_pos (by omega)]
  exact ⟨by omega, by rw [Int.toNat_natCast]; exact h⟩
/-- what rewriting wants of rules and a term -/
def wkr (r : Rl2) : Prop := wl r.1 1 = true ∧ wl r.2 1 = true ∧ nok r.1 ∧ nok r.2 ∧ vlo r.1 ∧ vlo r.2 ∧ ∀ c, c ∈ r.2 → c < 0 → c ∈ r.1
def wkt (T : List Int) : Prop := wl T 1 = true ∧ nok T
def rcells (w : Nat) (s : Nat) : Prop := rt w = 4 ∧ rt s = 7 ∧ (w + 8 ≤ s ∨ s + 52 ≤ w)
section T35
variable {μ : Mem} {w s t : Nat} {rs : List Rl2} {T : List Int}
theorem c_Rewriter_firstRule {p : Nat} {Q : Int → Mem → Prop} (hc : rcells w s) (hR : SR μ s rs) (hP : SP μ s) (hrs : ∀ r, r ∈ rs → wkr r) (hT : IsT μ t T) (ht : rt t = 8) (wT : wkt T) (hp : p < T.length)
    (h : ∀ μ', Fr (w + 7) (w + 8) μ μ' → Q (fi T p rs 0) μ') : d_Rewriter_firstRule w s t (p : Int) μ Q := by
  unfold d_Rewriter_firstRule
  obtain ⟨hw, hs, hd⟩ := hc
  have hlen := hR.2.1
  refine i_Rewriter_firstRule_l3 (Inv := fun v4 μ1 => ∃ k : Nat, v4 = k ∧ k ≤ rs.length ∧ Fr (w + 7) (w + 8) μ μ1 ∧ fi T p rs 0 = fi T p (rs.drop k) k) (fun v4 _ => rs.length - v4.toNat) ?_ 0 μ ⟨0, rfl, Nat.zero_le _, Fr.rfl', rfl⟩
  rintro _ μ1 ⟨k, rfl, hk, hF, hfi⟩ W hW
  unfold d_Rewriter_firstRule_b3
  have hR1 : SR μ1 s rs := hR.fr hP hs (congrFun (hF s (by omega)) 0) (fun b h1 h2 => hF b (by omega))
  have hP1 : SP μ1 s := hP.fr (fun b h1 h2 => hF b (by omega))
  rw [hR1.1]
  by_cases hkl : k < rs.length
  · rw [if_pos (by omega)]
    refine c_State_rule (by omega) ?_
    have e : rs.drop k = rs.getD k ([], []) :: rs.drop (k + 1) := by
      rw [List.drop_eq_getElem_cons hkl, List.getD_eq_getElem?_getD, List.getElem?_eq_getElem hkl]
      rfl
    rw [e, fi] at hfi
    have hwk := hrs _ (getD_mem (d := ([], [])) hkl)
    obtain ⟨g1, g2⟩ := hR1.2.2 k hkl
    refine c_Rewriter_match hw g1 (by unfold rc; omega) (hT.frR hF (w7_ne hw ht)) ht hwk.1 wT.1 hwk.2.2.1 wT.2 hwk.2.2.2.2.1 hp (fun μ2 b hb _ hF2 => ?_) (fun μ2 hb hF2 => ?_)
    · rw [if_pos rfl]
      rw [hb, if_pos (show (some b).isSome = true from rfl)] at hfi
      rw [← hfi]
      exact h _ (hF.tr hF2 (by omega) (by omega))
    · rw [if_neg (by decide)]
      rw [hb, if_neg (by decide)] at hfi
      rw [wr_id (by omega) (by omega)]
      exact hW _ _ ⟨k + 1, by omega, by omega, hF.tr hF2 (by omega) (by omega), hfi⟩ (by omega)
  · rw [if_neg (by omega)]
    rw [List.drop_eq_nil_of_le (by omega), fi] at hfi
    rw [hfi] at h
    exact h _ hF
theorem c_Rewriter_countRedexes {Q : Int → Mem → Prop} (hc : rcells w s) (hR : SR μ s rs) (hP : SP μ s) (hrs : ∀ r, r ∈ rs → wkr r) (hT : IsT μ t T) (ht : rt t = 8) (wT : wkt T)
    (h : ∀ μ', Fr (w + 7) (w + 8) μ μ' → Q (((List.range T.length).countP (rx rs T) : Nat) : Int) μ') : d_Rewriter_countRedexes w s t μ Q := by
  unfold d_Rewriter_countRedexes
  obtain ⟨hw, hs, hd⟩ := hc
  have hlen := hR.2.1
  have hl := ln_le (t + 1)
  have hl2 := hT.2.1
  refine i_Rewriter_countRedexes_l5 (Inv := fun v3 v4 μ1 => ∃ k : Nat, v4 = k ∧ k ≤ T.length ∧ Fr (w + 7) (w + 8) μ μ1 ∧ v3 = (((List.range k).countP (rx rs T) : Nat) : Int)) (fun _ v4 _ => T.length - v4.toNat) ?_ 0 0 μ ⟨0, rfl, Nat.zero_le _, Fr.rfl', rfl⟩
  rintro _ _ μ1 ⟨k, rfl, hk, hF, rfl⟩ W hW
  unfold d_Rewriter_countRedexes_b5
  have hR1 : SR μ1 s rs := hR.fr hP hs (congrFun (hF s (by omega)) 0) (fun b h1 h2 => hF b (by omega))
  have hP1 : SP μ1 s := hP.fr (fun b h1 h2 => hF b (by omega))
  have hT1 := hT.frR hF (w7_ne hw ht)
  rw [hT1.1]
  have hcl := List.countP_le_length (p := rx rs T) (l := List.range k)
  rw [List.length_range] at hcl
  by_cases hkl : k < T.length
  · rw [if_pos (by omega)]
    refine c_Rewriter_firstRule ⟨hw, hs, hd⟩ hR1 hP1 hrs hT1 ht wT hkl fun μ2 hF2 => ?_
    have hF3 : Fr (w + 7) (w + 8) μ μ2 := hF.tr hF2 (by omega) (by omega)
    have e : (List.range (k + 1)).countP (rx rs T) = (List.range k).countP (rx rs T) + (if rx rs T k = true then 1 else 0) := by
      rw [List.range_succ, List.countP_append, List.countP_cons, List.countP_nil, Nat.zero_add]
    unfold rx at e
    by_cases hf : fi T k rs 0 = -1
    · rw [if_pos hf]
      unfold d_Rewriter_countRedexes_j29
      rw [wr_id (by omega) (by omega)]
      refine hW _ _ _ ⟨k + 1, by omega, by omega, hF3, ?_⟩ (by omega)
      unfold rx
      rw [e]
      simp [hf]
    · rw [if_neg hf]
      unfold d_Rewriter_countRedexes_j29
      rw [wr_id (by omega) (by omega), wr_id (by omega) (by omega)]
      refine hW _ _ _ ⟨k + 1, by omega, by omega, hF3, ?_⟩ (by omega)
      unfold rx
      rw [e]
      simp [hf]
  · rw [if_neg (by omega)]
    obtain rfl : k = T.length := by omega
    exact h _ hF
theorem c_Rewriter_redex {inner : Bool} {Q : Int → Mem → Prop} (hc : rcells w s) (hR : SR μ s rs) (hP : SP μ s) (hrs : ∀ r, r ∈ rs → wkr r) (hT : IsT μ t T) (ht : rt t = 8) (wT : wkt T)
    (h : ∀ μ', Fr (w + 7) (w + 8) μ μ' → Q (px rs inner T) μ') : d_Rewriter_redex w s t (b2i inner) μ Q := by
  unfold d_Rewriter_redex
  obtain ⟨hw, hs, hd⟩ := hc
  have hl := ln_le (t + 1)
  have hl2 := hT.2.1
  rw [hT.1]
  have hpx : px rs inner T = (if inner = true then inF (rx rs T) (en T) (T.length - 0) 0 T.length (-1) else ouF (rx rs T) (T.length - 0) 0) := rfl
  refine i_Rewriter_redex_l12 (Inv := fun v4 v5 v6 μ1 => ∃ k e : Nat, v6 = k ∧ v5 = e ∧ k ≤ T.length ∧ e ≤ T.length ∧ (inner = false → e = T.length ∧ v4 = -1) ∧ Fr (w + 7) (w + 8) μ μ1 ∧ px rs inner T = (if inner = true then inF (rx rs T) (en T) (T.length - k) k e v4 else ouF (rx rs T) (T.length - k) k)) (fun _ _ v6 _ => T.length - v6.toNat) ?_ (-1) T.length 0 μ ⟨0, T.length, rfl, rfl, Nat.zero_le _, Nat.le_refl _, fun _ => ⟨rfl, rfl⟩, Fr.rfl', hpx⟩
  rintro v4 _ _ μ1 ⟨k, e, rfl, rfl, hk, he, hin, hF, hx⟩ W hW
  unfold d_Rewriter_redex_b12
  have hR1 : SR μ1 s rs := hR.fr hP hs (congrFun (hF s (by omega)) 0) (fun b h1 h2 => hF b (by omega))
  have hP1 : SP μ1 s := hP.fr (fun b h1 h2 => hF b (by omega))
  have hT1 := hT.frR hF (w7_ne hw ht)
  rw [hT1.1]
  by_cases hke : k < e
  · rw [if_pos (by omega), if_pos (by omega)]
    refine c_Rewriter_firstRule ⟨hw, hs, hd⟩ hR1 hP1 hrs hT1 ht wT (by omega) fun μ2 hF2 => ?_
    have hF3 : Fr (w + 7) (w + 8) μ μ2 := hF.tr hF2 (by omega) (by omega)
    rw [show T.length - k = (T.length - (k + 1)) + 1 by omega, inF, ouF, if_pos hke] at hx
    by_cases hf : fi T k rs 0 = -1
    · have hfx : rx rs T k = false := by unfold rx; simp [hf]
      rw [hfx, if_neg Bool.false_ne_true, if_neg Bool.false_ne_true] at hx
      rw [if_pos hf]
      unfold d_Rewriter_redex_j59
      rw [wr_id (by omega) (by omega)]
      exact hW _ _ _ _ ⟨k + 1, e, by omega, rfl, by omega, he, hin, hF3, hx⟩ (by omega)
    · have hfx : rx rs T k = true := by unfold rx; simp [hf]
      rw [hfx, if_pos rfl, if_pos rfl] at hx
      rw [if_neg hf]
      cases inner with
      | false =>
        rw [if_pos (show b2i false = 0 from rfl)]
        rw [if_neg (by decide)] at hx
        rw [← hx]
        exact h _ hF3
      | true =>
        rw [if_neg (by decide)]
        rw [if_pos rfl] at hx
        refine c_Term_end (hT.frR hF3 (w7_ne hw ht)) wT.2 (by omega) ?_
        unfold d_Rewriter_redex_j59
        rw [wr_id (by omega) (by omega)]
        exact hW _ _ _ _ ⟨k + 1, en T k, by omega, rfl, by omega, en_le (by omega), (fun q => by cases q), hF3, by rw [if_pos rfl]; exact hx⟩ (by omega)
  · have : px rs inner T = v4 := by
      rw [hx]
      cases inner with
      | true =>
        rw [if_pos rfl]
        cases T.length - k with
        | zero => rfl
        | succ n => rw [inF, if_neg hke]
      | false =>
        obtain ⟨h1, h2⟩ := hin rfl
        rw [if_neg (by decide), show T.length - k = 0 by omega, h2]
        rfl
    by_cases hkl : k < T.length
    · rw [if_pos (by omega), if_neg (by omega), ← this]
      exact h _ hF
    · rw [if_neg (by omega), ← this]
      exact h _ hF
/-- the cells of a rewriter's rows -/
theorem rw_rt (hw : rt w = 4) : rt (w + 1) = 8 ∧ ln (w + 2) = 80 ∧ rt (w + 3) = 8 ∧ ln (w + 4) = 80 ∧ rt (w + 5) = 8 ∧ ln (w + 6) = 80 := by
  refine ⟨rp_4_1 hw, ?_, rp_4_3 hw, ?_, rp_4_5 hw, ?_⟩
  all_goals exact lp_of (t := 4) (n := 80) (by decide +kernel) (by decide) hw
theorem rt8_far {a b : Nat} (ha : rt a = 8) (hb : rt b = 8) (h : a ≠ b) : a + 1 < b ∨ b + 2 ≤ a := by
  have h1 := rp_8_1 ha
  have h2 := rp_8_1 hb
  have h3 := rt8_ne ha hb
  have h4 := rt8_ne hb ha
  omega
/-- only a rewriter's result and its places change -/
def Fb (w : Nat) (μ μ' : Mem) : Prop := ∀ b, b ≠ w + 1 → b ≠ w + 2 → b ≠ w + 7 → μ' b = μ b
theorem Fb.of7 {μ μ1 μ2 : Mem} (h : Fb w μ μ1) (h2 : Fr (w + 7) (w + 8) μ1 μ2) : Fb w μ μ2 := fun b g1 g2 g3 => by rw [h2 b (by omega), h b g1 g2 g3]
theorem Fb.of1 {μ μ1 μ2 : Mem} (h : Fb w μ μ1) (h2 : Fr (w + 1) (w + 1 + 2) μ1 μ2) : Fb w μ μ2 := fun b g1 g2 g3 => by rw [h2 b (by omega), h b g1 g2 g3]
theorem Fb.row {μ μ1 : Mem} {x : Nat} (h : Fb w μ μ1) (hw : rt w = 4) (hx : rt x = 8) (hne : x ≠ w + 1) : μ1 x = μ x ∧ μ1 (x + 1) = μ (x + 1) := by
  have h1 := rt8_far hx (rp_4_1 hw) hne
  have h2 := w7_ne hw hx
  exact ⟨h _ (by omega) (by omega) (by omega), h _ (by omega) (by omega) (by omega)⟩
theorem Fb.toFr {μ μ1 : Mem} (h : Fb w μ μ1) : Fr w (w + 8) μ μ1 := fun b hb => h b (by omega) (by omega) (by omega)
theorem c_Rewriter_build {r p : Nat} {L R : List Int} {Q : Bool → Mem → Prop} (hw : rt w = 4) (hrw : r < w ∨ w + 8 ≤ r) (hL : IsT μ (dp (μ r 0)) L) (hR : IsT μ (dp (μ r 1)) R) (hRw : dp (μ r 1) ≠ w + 1) (hT : IsT μ t T) (ht : rt t = 8) (htw : t ≠ w + 1) (hk : wkr (L, R)) (wT : wkt T) (hp : p < T.length)
    (h1 : ∀ μ' Y, rw1 (L, R) T p = some Y → IsT μ' (w + 1) Y → Fb w μ μ' → Q true μ')
    (h2 : ∀ μ', rw1 (L, R) T p = none → Fb w μ μ' → Q false μ') : d_Rewriter_build w r t (p : Int) μ Q := by
  unfold d_Rewriter_build
  obtain ⟨wL, wR, nL, nR, vL, vR, hv⟩ := hk
  obtain ⟨rt1, ln1, _⟩ := rw_rt hw
  have hlR := ln_le (dp (μ r 1) + 1)
  have hlR2 := hR.2.1
  have hlT := ln_le (t + 1)
  have hlT2 := hT.2.1
  have fT : ∀ μ1, Fb w μ μ1 → IsT μ1 t T := fun μ1 g => hT.fr (g.row hw ht htw).1 (g.row hw ht htw).2
  have fR : ∀ μ1, Fb w μ μ1 → IsT μ1 (dp (μ r 1)) R := fun μ1 g => hR.fr (g.row hw (dp_rt _) hRw).1 (g.row hw (dp_rt _) hRw).2
  have fr : ∀ μ1, Fb w μ μ1 → μ1 r = μ r := fun μ1 g => g r (by omega) (by omega) (by omega)
  have f0 : Fb w μ μ := fun _ _ _ _ => rfl
  refine c_Rewriter_match hw hL (by omega) hT ht wL wT.1 nL wT.2 vL hp (fun μ2 b hb hB hF => ?_) (fun μ2 hb hF => ?_)
  · rw [if_pos rfl]
    obtain ⟨k1, k2, k3⟩ := mt_some _ _ _ _ (fitp_start wL wT.1 hp) (bok_nb T) hb
    have hF2 : Fb w μ μ2 := f0.of7 hF
    unfold d_Term_clear
    have hF3 : Fb w μ (mup μ2 (w + 1) 1 0) := hF2.of1 (Fr.up (by omega))
    have hB3 : BR (mup μ2 (w + 1) 1 0) w b := fun v hv8 => by rw [mup_r (by omega)]; exact hB v hv8
    have hX3 : IsT (mup μ2 (w + 1) 1 0) (w + 1) [] := ⟨mup_s, Nat.zero_le _, Sg.nil⟩
    have bdl : (bd R T p b).length = (T.take p ++ sv (bs T b) R).length + (T.drop (en T p)).length := by
      unfold bd; rw [List.length_append]
    have loop : ∀ (f : Bool) (μ3 : Mem), Fb w μ μ3 → BR μ3 w b → (f = true → IsT μ3 (w + 1) (T.take p)) → (f = false → 80 < (T.take p).length) → d_Rewriter_build_l34 w r t (p : Int) (b2i f) 0 μ3 Q := by
      intro f μ3 g1 g2 g3 g4
      refine i_Rewriter_build_l34 (Inv := fun v4 v5 μ1 => ∃ (f : Bool) (k : Nat), v4 = b2i f ∧ v5 = k ∧ k ≤ R.length ∧ Fb w μ μ1 ∧ BR μ1 w b ∧ (f = true → IsT μ1 (w + 1) (T.take p ++ sv (bs T b) (R.take k))) ∧ (f = false → 80 < (T.take p ++ sv (bs T b) (R.take k)).length)) (fun _ v5 _ => R.length - v5.toNat) ?_ (b2i f) 0 μ3 ⟨f, 0, rfl, rfl, Nat.zero_le _, g1, g2, by simpa [sv] using g3, by simpa [sv] using g4⟩
      rintro _ _ μ1 ⟨f, k, rfl, rfl, hk, hF1, hB1, hf1, hf2⟩ W hW
      unfold d_Rewriter_build_b34
      cases f with
      | false =>
        rw [if_pos (show b2i false = 0 from rfl)]
        unfold d_Rewriter_build_j153
        rw [if_pos (show b2i false = 0 from rfl)]
        refine h2 _ ?_ hF1
        unfold rw1
        rw [hb]
        dsimp only
        rw [if_neg]
        have := hf2 rfl
        have e : sv (bs T b) R = sv (bs T b) (R.take k) ++ sv (bs T b) (R.drop k) := by rw [← sv_app, List.take_append_drop]
        rw [bdl, e, ← List.append_assoc, List.length_append (as := T.take p ++ _)]
        omega
      | true =>
        rw [if_neg (by decide), fr _ hF1, (fR _ hF1).1]
        have hX := hf1 rfl
        have hXl := hX.2.1
        by_cases hkl : k < R.length
        · rw [if_pos (by omega)]
          refine c_Term_getN (fR _ hF1) hkl ?_
          have hmem : R.getD k 0 ∈ R := getD_mem hkl
          have etk : T.take p ++ sv (bs T b) (R.take (k + 1)) = (T.take p ++ sv (bs T b) (R.take k)) ++ (if R.getD k 0 < 0 then bs T b (R.getD k 0) else [R.getD k 0]) := by
            rw [take_1r hkl, sv_app, sv_cons, sv_nil, List.append_nil, List.append_assoc]
          by_cases hc0 : R.getD k 0 < 0
          · rw [if_pos hc0]
            rw [if_pos hc0] at etk
            have hvr := vR _ hmem
            have e1 : wr (-1 - R.getD k 0) = ((vn (R.getD k 0) : Nat) : Int) := by
              unfold vn
              rw [wr_id (by omega) (by omega)]
              omega
            have hvn : vn (R.getD k 0) < 8 := by unfold vn; omega
            rw [e1, if_neg (by omega), if_pos (by omega)]
            refine ⟨by omega, ?_⟩
            rw [Int.toNat_natCast, hB1 _ hvn]
            have hbv := k3 _ (hv _ hmem hc0) hc0
            obtain ⟨q1, q2⟩ := k1 _ hbv
            unfold d_Rewriter_build_j113
            rw [if_neg hbv]
            have ebv : b (vn (R.getD k 0)) = (((b (vn (R.getD k 0))).toNat : Nat) : Int) := by omega
            rw [ebv]
            refine c_Term_end (fT _ hF1) wT.2 (by omega) ?_
            have hen := en_le (L := T) (p := (b (vn (R.getD k 0))).toNat) (by omega)
            have hgt := en_gt (L := T) (p := (b (vn (R.getD k 0))).toNat) q2
            have esb : (T.drop (b (vn (R.getD k 0))).toNat).take (en T (b (vn (R.getD k 0))).toNat - (b (vn (R.getD k 0))).toNat) = bs T b (R.getD k 0) := by
              unfold bs sb
              congr 1
              unfold en
              omega
            refine c_Term_addPart hX (fT _ hF1) rt1 ht htw (by omega) hen (fun hfit μ4 hX4 hF4 => ?_) (fun hfit μ4 L4 hX4 hF4 => ?_)
            · rw [if_pos rfl]
              unfold d_Rewriter_build_j145 d_Rewriter_build_j147
              rw [wr_id (by omega) (by omega)]
              rw [esb, ← etk] at hX4
              exact hW _ _ _ ⟨true, k + 1, rfl, by omega, by omega, hF1.of1 hF4, fun v hv8 => by rw [hF4 _ (by omega)]; exact hB1 v hv8, fun _ => hX4, fun q => by cases q⟩ (by omega)
            · rw [if_neg (by decide)]
              unfold d_Rewriter_build_j144 d_Rewriter_build_j145 d_Rewriter_build_j147
              rw [wr_id (by omega) (by omega)]
              refine hW _ _ _ ⟨false, k + 1, rfl, by omega, by omega, hF1.of1 hF4, fun v hv8 => by rw [hF4 _ (by omega)]; exact hB1 v hv8, (fun q => by cases q), fun _ => ?_⟩ (by omega)
              rw [etk, List.length_append (as := T.take p ++ _), ← esb, List.length_take, List.length_drop]
              rw [show w + 1 + 1 = w + 2 by omega, ln1] at hfit
              omega
          · rw [if_neg hc0]
            rw [if_neg hc0] at etk
            refine c_Term_add hX (fun hfit μ4 hX4 hF4 => ?_) (fun hfit => ?_)
            · unfold d_Rewriter_build_j147
              rw [wr_id (by omega) (by omega)]
              rw [← etk] at hX4
              exact hW _ _ _ ⟨true, k + 1, rfl, by omega, by omega, hF1.of1 hF4, fun v hv8 => by rw [hF4 _ (by omega)]; exact hB1 v hv8, fun _ => hX4, fun q => by cases q⟩ (by omega)
            · unfold d_Rewriter_build_j147
              rw [wr_id (by omega) (by omega)]
              refine hW _ _ _ ⟨false, k + 1, rfl, by omega, by omega, hF1, hB1, (fun q => by cases q), fun _ => ?_⟩ (by omega)
              rw [etk, List.length_append (as := T.take p ++ _)]
              rw [show w + 1 + 1 = w + 2 by omega, ln1] at hfit
              simp only [List.length_cons, List.length_nil]
              omega
        · rw [if_neg (by omega)]
          unfold d_Rewriter_build_j153
          rw [if_neg (by decide)]
          refine c_Term_end (fT _ hF1) wT.2 (by omega) ?_
          rw [(fT _ hF1).1]
          rw [List.take_of_length_le (show R.length ≤ k by omega)] at hX hXl
          have hen := en_le (L := T) (p := p) (by omega)
          have edr : (T.drop (en T p)).take (T.length - en T p) = T.drop (en T p) := List.take_of_length_le (by rw [List.length_drop]; omega)
          refine c_Term_addPart hX (fT _ hF1) rt1 ht htw hen (Nat.le_refl _) (fun hfit μ4 hX4 hF4 => ?_) (fun hfit μ4 L4 hX4 hF4 => ?_)
          · rw [if_pos rfl]
            rw [edr] at hX4
            refine h1 _ _ ?_ hX4 (hF1.of1 hF4)
            unfold rw1
            rw [hb]
            dsimp only
            rw [if_pos]
            · rfl
            · rw [bdl, List.length_drop]
              rw [show w + 1 + 1 = w + 2 by omega, ln1] at hfit
              omega
          · rw [if_neg (by decide)]
            refine h2 _ ?_ (hF1.of1 hF4)
            unfold rw1
            rw [hb]
            dsimp only
            rw [if_neg]
            rw [bdl, List.length_drop]
            rw [show w + 1 + 1 = w + 2 by omega, ln1] at hfit
            omega
    refine c_Term_addPart (f := 0) hX3 (fT _ hF3) rt1 ht htw (Nat.zero_le _) (by omega) (fun hfit μ4 hX4 hF4 => ?_) (fun hfit μ4 L4 hX4 hF4 => ?_)
    · refine loop true _ (hF3.of1 hF4) (fun v hv8 => by rw [hF4 _ (by omega)]; exact hB3 v hv8) (fun _ => ?_) (fun q => by cases q)
      rw [List.nil_append, List.drop_zero, Nat.sub_zero] at hX4
      exact hX4
    · refine loop false _ (hF3.of1 hF4) (fun v hv8 => by rw [hF4 _ (by omega)]; exact hB3 v hv8) (fun q => by cases q) (fun _ => ?_)
      rw [show w + 1 + 1 = w + 2 by omega, ln1] at hfit
      simp only [List.length_nil, List.length_take] at *
      omega
  · rw [if_neg (by decide)]
    exact h2 _ (by unfold rw1; rw [hb]) (f0.of7 hF)
/-- a rewriter and a state apart, and the state's rows of rules -/
theorem side_far {i j : Nat} (hc : rcells w s) (hP : SP μ s) (hi : i < 6) (hj : j < 2) : dp (μ (rc s i) j) + 2 ≤ w ∨ w + 8 ≤ dp (μ (rc s i) j) := by
  obtain ⟨hw, hs, hd⟩ := hc
  obtain ⟨i', j', h1, h2, h3, _⟩ := hP.side hs hi hj
  omega
theorem c_Rewriter_buildFirst {p : Nat} {Q : Bool → Mem → Prop} (hc : rcells w s) (hR : SR μ s rs) (hP : SP μ s) (hrs : ∀ r, r ∈ rs → wkr r) (hT : IsT μ t T) (ht : rt t = 8) (htw : t ≠ w + 1) (wT : wkt T) (hp : p < T.length)
    (h1 : ∀ μ' Y, st1 rs T p = some Y → IsT μ' (w + 1) Y → Fb w μ μ' → Q true μ')
    (h2 : ∀ μ', st1 rs T p = none → Fb w μ μ' → Q false μ') : d_Rewriter_buildFirst w s t (p : Int) μ Q := by
  unfold d_Rewriter_buildFirst
  have f0 : Fb w μ μ := fun _ _ _ _ => rfl
  refine c_Rewriter_firstRule hc hR hP hrs hT ht wT hp fun μ1 hF1 => ?_
  by_cases hf : fi T p rs 0 = -1
  · rw [if_pos hf]
    exact h2 _ (by unfold st1; rw [if_pos hf]) (f0.of7 hF1)
  · rw [if_neg hf]
    obtain ⟨k, e1, e2, e3⟩ := fi_get _ _ hf
    rw [Nat.zero_add] at e1
    rw [e1]
    have hlen := hR.2.1
    obtain ⟨hw, hs, hd⟩ := hc
    have hR1 : SR μ1 s rs := hR.fr hP hs (congrFun (hF1 s (by omega)) 0) (fun b h1 h2 => hF1 b (by omega))
    have hP1 : SP μ1 s := hP.fr (fun b h1 h2 => hF1 b (by omega))
    have es : st1 rs T p = rw1 (rs.getD k ([], [])) T p := by
      unfold st1
      rw [if_neg hf, e1, Int.toNat_natCast]
    refine c_State_rule (by omega) ?_
    obtain ⟨g1, g2⟩ := hR1.2.2 k e2
    have hfar := side_far ⟨hw, hs, hd⟩ hP1 (i := k) (j := 1) (by omega) (by omega)
    refine c_Rewriter_build hw (by unfold rc; omega) g1 g2 (by omega) (hT.frR hF1 (w7_ne hw ht)) ht htw (hrs _ (getD_mem e2)) wT hp (fun μ2 Y hY hX hF2 => ?_) (fun μ2 hY hF2 => ?_)
    · rw [if_pos rfl]
      exact h1 _ Y (by rw [es]; exact hY) hX (fun b g1 g2 g3 => by rw [hF2 b g1 g2 g3, hF1 b (by omega)])
    · rw [if_neg (by decide)]
      exact h2 _ (by rw [es]; exact hY) (fun b g1 g2 g3 => by rw [hF2 b g1 g2 g3, hF1 b (by omega)])
theorem c_Rewriter_step {inner : Bool} {Q : Int → Mem → Prop} (hc : rcells w s) (hR : SR μ s rs) (hP : SP μ s) (hrs : ∀ r, r ∈ rs → wkr r) (hT : IsT μ t T) (ht : rt t = 8) (htw : t ≠ w + 1) (wT : wkt T)
    (h1 : ∀ μ' (p : Nat) Y, stp rs inner T = some ((p : Int), Y) → p < T.length → IsT μ' (w + 1) Y → Fb w μ μ' → Q (p : Int) μ')
    (h2 : ∀ μ', stp rs inner T = none → Fb w μ μ' → Q (-1) μ') : d_Rewriter_step w s t (b2i inner) μ Q := by
  unfold d_Rewriter_step
  have f0 : Fb w μ μ := fun _ _ _ _ => rfl
  refine c_Rewriter_redex hc hR hP hrs hT ht wT fun μ1 hF1 => ?_
  by_cases hx : px rs inner T = -1
  · rw [if_pos hx]
    exact h2 _ (by unfold stp; rw [if_pos hx]) (f0.of7 hF1)
  · rw [if_neg hx]
    obtain ⟨k, e1, e2, e3⟩ := px_get hx
    obtain ⟨hw, hs, hd⟩ := hc
    have hR1 : SR μ1 s rs := hR.fr hP hs (congrFun (hF1 s (by omega)) 0) (fun b h1 h2 => hF1 b (by omega))
    have hP1 : SP μ1 s := hP.fr (fun b h1 h2 => hF1 b (by omega))
    rw [e1]
    refine c_Rewriter_buildFirst ⟨hw, hs, hd⟩ hR1 hP1 hrs (hT.frR hF1 (w7_ne hw ht)) ht htw wT e2 (fun μ2 Y hY hX hF2 => ?_) (fun μ2 hY hF2 => ?_)
    · rw [if_pos rfl]
      refine h1 _ k Y ?_ e2 hX (fun b g1 g2 g3 => by rw [hF2 b g1 g2 g3, hF1 b (by omega)])
      unfold stp
      rw [if_neg hx, e1, Int.toNat_natCast, hY]
    · rw [if_neg (by decide)]
      refine h2 _ ?_ (fun b g1 g2 g3 => by rw [hF2 b g1 g2 g3, hF1 b (by omega)])
      unfold stp
      rw [if_neg hx, e1, Int.toNat_natCast, hY]
/-- only a rewriter's result, its reduced row and its places change -/
def Fe (w : Nat) (μ μ' : Mem) : Prop := ∀ b, b ≠ w + 1 → b ≠ w + 2 → b ≠ w + 3 → b ≠ w + 4 → b ≠ w + 7 → μ' b = μ b
theorem okn_lt {ars : List Nat} {m : Nat} {c : Int} (h : okn ars m c) (ha : ars.length ≤ 8) : c < 32 := by
  by_cases h0 : 0 ≤ c
  · have := (h.2 h0).1
    omega
  · omega
theorem okt_wkt {ars : List Nat} {m n : Nat} {T : List Int} (h : okt ars m n T) (ha : ars.length ≤ 8) : wkt T := ⟨h.1, fun c hc => okn_lt (h.2.2 c hc) ha⟩
theorem okr_wkr {ars : List Nat} {r : Rl2} (h : okr ars r) (ha : ars.length ≤ 8) : wkr r := by
  obtain ⟨h1, h2, _, h4⟩ := h
  refine ⟨h1.1, h2.1, fun c hc => okn_lt (h1.2.2 c hc) ha, fun c hc => okn_lt (h2.2.2 c hc) ha, fun c hc => ?_, fun c hc => ?_, h4⟩
  · have := (h1.2.2 c hc).1
    by_cases h0 : c < 0
    · exact this h0
    · omega
  · have := (h2.2.2 c hc).1
    by_cases h0 : c < 0
    · exact this h0
    · omega
def addk (k : Nat) (o : Option (Nat × List Int)) : Option (Nat × List Int) := match o with
  | none => none
  | some (j, Y) => some (j + k, Y)
theorem Fe.ofb {μ μ1 μ2 : Mem} (h : Fe w μ μ1) (h2 : Fb w μ1 μ2) : Fe w μ μ2 := fun b g1 g2 g3 g4 g5 => by rw [h2 b g1 g2 g5, h b g1 g2 g3 g4 g5]
theorem Fe.of7 {μ μ1 μ2 : Mem} (h : Fe w μ μ1) (h2 : Fr (w + 7) (w + 8) μ1 μ2) : Fe w μ μ2 := fun b g1 g2 g3 g4 g5 => by rw [h2 b (by omega), h b g1 g2 g3 g4 g5]
theorem Fe.of3 {μ μ1 μ2 : Mem} (h : Fe w μ μ1) (h2 : Fr (w + 3) (w + 3 + 2) μ1 μ2) : Fe w μ μ2 := fun b g1 g2 g3 g4 g5 => by rw [h2 b (by omega), h b g1 g2 g3 g4 g5]
theorem Fe.toFr {μ μ1 : Mem} (h : Fe w μ μ1) : Fr (w + 1) (w + 8) μ μ1 := fun b hb => h b (by omega) (by omega) (by omega) (by omega) (by omega)
theorem SR.frW {μ μ1 : Mem} (hR : SR μ s rs) (hP : SP μ s) (hc : rcells w s) (h : Fr w (w + 8) μ μ1) : SR μ1 s rs := by
  obtain ⟨hw, hs, hd⟩ := hc
  exact hR.fr hP hs (congrFun (h s (by omega)) 0) (fun b h1 h2 => h b (by omega))
theorem SP.frW {μ μ1 : Mem} (hP : SP μ s) (hc : rcells w s) (h : Fr w (w + 8) μ μ1) : SP μ1 s := by
  obtain ⟨hw, hs, hd⟩ := hc
  exact hP.fr (fun b h1 h2 => h b (by omega))
theorem c_Rewriter_reduce {ars : List Nat} {m : Nat} {inner : Bool} {n : Nat} {Q : Int → Mem → Prop} (hc : rcells w s) (hR : SR μ s rs) (hP : SP μ s) (hok : ∀ r, r ∈ rs → okr ars r) (har : ars.length ≤ 8) (hT : IsT μ t T) (ht : rt t = 8) (htw : t ≠ w + 3) (wT : okt ars m 80 T) (hn : n ≤ 200)
    (h1 : ∀ μ' k Y, rdc rs inner n T = some (k, Y) → IsT μ' (w + 3) Y → Fe w μ μ' → Q (k : Int) μ')
    (h2 : ∀ μ', rdc rs inner n T = none → Fe w μ μ' → Q (-1) μ') : d_Rewriter_reduce w s t (b2i inner) (n : Int) μ Q := by
  unfold d_Rewriter_reduce
  have hw := hc.1
  obtain ⟨rt1, ln1, rt3, ln3, rt5, ln5⟩ := rw_rt hw
  have hrs : ∀ r, r ∈ rs → wkr r := fun r hr => okr_wkr (hok r hr) har
  have f0 : Fe w μ μ := fun _ _ _ _ _ _ => rfl
  refine c_Term_copyFrom hT rt3 ht htw (by rw [show w + 3 + 1 = w + 4 by omega, ln3]; exact wT.2.1) (fun μ1 hX1 hF1 => ?_)
  refine i_Rewriter_reduce_l11 (Inv := fun v5 μ1 => ∃ (k : Nat) (X : List Int), v5 = k ∧ k ≤ n ∧ IsT μ1 (w + 3) X ∧ okt ars m 80 X ∧ Fe w μ μ1 ∧ rdc rs inner n T = addk k (rdc rs inner (n - k) X)) (fun v5 _ => n + 1 - v5.toNat) ?_ 0 μ1 ⟨0, T, rfl, Nat.zero_le _, hX1, wT, f0.of3 hF1, ?_⟩
  · rintro _ μ2 ⟨k, X, rfl, hk, hX, wX, hF, hd⟩ W hW
    unfold d_Rewriter_reduce_b11
    rw [if_neg (by omega)]
    have hFw : Fr w (w + 8) μ μ2 := hF.toFr.mono (by omega)
    refine c_Rewriter_redex hc (hR.frW hP hc hFw) (hP.frW hc hFw) hrs hX rt3 (okt_wkt wX har) fun μ3 hF3 => ?_
    have hF3' := hF.of7 hF3
    by_cases hx : px rs inner X = -1
    · rw [if_pos hx]
      have e : rdc rs inner (n - k) X = some (0, X) := by
        cases n - k with
        | zero => rw [rdc, if_pos hx]
        | succ j => rw [rdc, if_pos hx]
      rw [e] at hd
      have hX3 : IsT μ3 (w + 3) X := hX.fr (hF3 _ (by omega)) (hF3 _ (by omega))
      refine h1 _ k X ?_ hX3 hF3'
      rw [hd]
      show some (0 + k, X) = some (k, X)
      rw [Nat.zero_add]
    · rw [if_neg hx]
      by_cases hkn : k = n
      · rw [if_pos (by omega)]
        refine h2 _ ?_ hF3'
        rw [hd, hkn, Nat.sub_self, rdc, if_neg hx]
        rfl
      · rw [if_neg (by omega)]
        obtain ⟨q, e1, e2, e3⟩ := px_get hx
        rw [show n - k = (n - (k + 1)) + 1 by omega, rdc, if_neg hx, e1, Int.toNat_natCast] at hd
        rw [e1]
        have hX3 : IsT μ3 (w + 3) X := hX.fr (hF3 _ (by omega)) (hF3 _ (by omega))
        have hFw3 : Fr w (w + 8) μ μ3 := hF3'.toFr.mono (by omega)
        refine c_Rewriter_buildFirst hc (hR.frW hP hc hFw3) (hP.frW hc hFw3) hrs hX3 rt3 (by omega) (okt_wkt wX har) e2 (fun μ4 Y hY hXY hF4 => ?_) (fun μ4 hY hF4 => ?_)
        · rw [if_pos rfl]
          have hoY := st1_ok hok wX e2 hY
          refine c_Term_copyFrom hXY rt3 rt1 (by omega) (by rw [show w + 3 + 1 = w + 4 by omega, ln3]; exact hoY.2.1) (fun μ5 hX5 hF5 => ?_)
          rw [wr_id (by omega) (by omega)]
          refine hW _ _ ⟨k + 1, Y, by omega, by omega, hX5, hoY, (hF3'.ofb hF4).of3 hF5, ?_⟩ (by omega)
          rw [hd, hY]
          dsimp only
          cases rdc rs inner (n - (k + 1)) Y with
          | none => rfl
          | some o =>
            obtain ⟨j, Z⟩ := o
            unfold addk
            dsimp only
            congr 2
            omega
        · rw [if_neg (by decide)]
          refine h2 _ ?_ (hF3'.ofb hF4)
          rw [hd, hY]
          rfl
  · unfold addk
    rw [Nat.sub_zero]
    cases rdc rs inner n T with
    | none => rfl
    | some o => rfl
/-- two terms with one normal form -/
def mee (rs : List Rl2) (n : Nat) (A B : List Int) : Bool := match rdc rs true n A, rdc rs true n B with
  | some (_, X), some (_, Y) => decide (X = Y)
  | _, _ => false
theorem c_Rewriter_meet {ars : List Nat} {m n t2 : Nat} {B : List Int} {Q : Bool → Mem → Prop} (hc : rcells w s) (hR : SR μ s rs) (hP : SP μ s) (hok : ∀ r, r ∈ rs → okr ars r) (har : ars.length ≤ 8) (hT : IsT μ t T) (ht : rt t = 8) (htw : t ≠ w + 3) (wT : okt ars m 80 T) (hB : IsT μ t2 B) (ht2 : rt t2 = 8) (ht2w : t2 + 2 ≤ w ∨ w + 8 ≤ t2) (wB : okt ars m 80 B) (hn : n ≤ 200)
    (h : ∀ μ', Fr (w + 1) (w + 8) μ μ' → Q (mee rs n T B) μ') : d_Rewriter_meet w s t t2 (n : Int) μ Q := by
  unfold d_Rewriter_meet
  have hw := hc.1
  obtain ⟨rt1, ln1, rt3, ln3, rt5, ln5⟩ := rw_rt hw
  refine c_Rewriter_reduce (inner := true) hc hR hP hok har hT ht htw wT hn (fun μ1 k Y hY hXY hF1 => ?_) (fun μ1 hY hF1 => ?_)
  · rw [if_neg (by omega)]
    have hoY := (rdc_ok hok _ _ _ _ wT hY).1
    refine c_Term_copyFrom hXY rt5 rt3 (by omega) (by rw [show w + 5 + 1 = w + 6 by omega, ln5]; exact hoY.2.1) (fun μ2 hX2 hF2 => ?_)
    have hFr : Fr w (w + 8) μ μ2 := hF1.toFr.tr hF2 (by omega) (by omega)
    have hFr' : Fr (w + 1) (w + 8) μ μ2 := hF1.toFr.tr hF2 (by omega) (by omega)
    have hB2 : IsT μ2 t2 B := hB.frR hFr (by omega)
    refine c_Rewriter_reduce (inner := true) hc (hR.frW hP hc hFr) (hP.frW hc hFr) hok har hB2 ht2 (by omega) wB hn (fun μ3 k' Z hZ hXZ hF3 => ?_) (fun μ3 hZ hF3 => ?_)
    · rw [if_neg (by omega)]
      have hX3 : IsT μ3 (w + 5) Y := hX2.fr (hF3 _ (by omega) (by omega) (by omega) (by omega) (by omega)) (hF3 _ (by omega) (by omega) (by omega) (by omega) (by omega))
      refine c_Term_sameAs hX3 hXZ ?_
      have e : mee rs n T B = decide (Y = Z) := by
        unfold mee
        rw [hY, hZ]
      have := h μ3 (hFr'.tr hF3.toFr (by omega) (by omega))
      rw [e] at this
      by_cases hYZ : Y = Z
      · rw [decide_eq_true hYZ] at this ⊢
        rw [if_pos rfl]
        exact this
      · rw [decide_eq_false hYZ] at this ⊢
        rw [if_neg (by decide)]
        exact this
    · rw [if_pos rfl]
      have e : mee rs n T B = false := by
        unfold mee
        rw [hY, hZ]
      rw [← e]
      exact h _ (hFr'.tr hF3.toFr (by omega) (by omega))
  · rw [if_pos rfl]
    have e : mee rs n T B = false := by
      unfold mee
      rw [hY]
    rw [← e]
    exact h _ hF1.toFr
end T35

