/-! CALLS THAT CHANGE rules, remove, undo, save: the class -/
def sumR (rs : List Rl2) : List (List Int) → Nat
  | [] => 0
  | T :: ts => (List.range T.length).countP (rx rs T) + sumR rs ts
theorem sumR_le {rs : List Rl2} : ∀ ts : List (List Int), (∀ T, T ∈ ts → T.length ≤ 80) → sumR rs ts ≤ 80 * ts.length := by
  intro ts
  induction ts with
  | nil => intro _; exact Nat.le_refl _
  | cons T ts ih =>
    intro h
    have h1 := ih fun X hX => h X (List.mem_cons_of_mem _ hX)
    have h2 := h T (List.mem_cons_self ..)
    have h3 := List.countP_le_length (p := rx rs T) (l := List.range T.length)
    rw [List.length_range] at h3
    rw [sumR, List.length_cons]
    omega
def swp (rs : List Rl2) (i k : Nat) : List Rl2 := (rs.set i (rs.getD k ([], []))).set k (rs.getD i ([], []))
theorem mem_swp {rs : List Rl2} {i k : Nat} (hi : i < rs.length) (hk : k < rs.length) {r : Rl2} (h : r ∈ swp rs i k) : r ∈ rs := by
  unfold swp at h
  rcases List.mem_or_eq_of_mem_set h with g | g
  · rcases List.mem_or_eq_of_mem_set g with g | g
    · exact g
    · rw [g]; exact getD_mem hk
  · rw [g]; exact getD_mem hi
theorem okc_rules {ars : List Nat} {c : Cf} {rs : List Rl2} (h : okc ars c) (hl : rs.length ≤ c.1.length) (hm : ∀ r, r ∈ rs → okr ars r) : okc ars (rs, c.2) := ⟨Nat.le_trans hl h.1, h.2.1, hm, h.2.2.2⟩
theorem dropt {ts : List (List Int)} {k : Nat} (h : k < ts.length) : ts.drop k = ts.getD k [] :: ts.drop (k + 1) := by
  rw [List.drop_eq_getElem_cons h, List.getD_eq_getElem?_getD, List.getElem?_eq_getElem h]
  rfl
/-- a rule that can be turned -/
def canT (r : Rl2) : Bool := decide (0 ≤ r.2.getD 0 0) && r.1.all fun c => decide (0 ≤ c) || decide (0 < r.2.count c)
theorem count_pos' {c : Int} {L : List Int} : 0 < L.count c ↔ c ∈ L := List.count_pos_iff
theorem okr_turn {ars : List Nat} {r : Rl2} (h : okr ars r) (hc : canT r = true) : okr ars (r.2, r.1) := by
  unfold canT at hc
  rw [Bool.and_eq_true, decide_eq_true_eq, List.all_eq_true] at hc
  refine ⟨h.2.1, h.1, hc.1, fun c hm h0 => ?_⟩
  have := hc.2 c hm
  rw [Bool.or_eq_true, decide_eq_true_eq, decide_eq_true_eq] at this
  rcases this with g | g
  · exact absurd h0 (by omega)
  · exact count_pos'.mp g
section C56
variable {μ : Mem} {A : AS} {Q : Int → Mem → Prop} {v1 v2 v3 : Int}
theorem c_canTurn {x : Nat} {r : Rl2} {ars : List Nat} {Q : Bool → Prop} (hL : IsT μ (dp (μ x 0)) r.1) (hR : IsT μ (dp (μ x 1)) r.2) (hr : okr ars r) (h : Q (canT r)) : d_Rule_canTurn x μ Q := by
  unfold d_Rule_canTurn
  have hlL := ln_le (dp (μ x 0) + 1)
  have hlL2 := hL.2.1
  unfold canT at h
  refine c_Term_getN (k := 0) hR (wl_head hr.2.1) ?_
  by_cases q : r.2.getD 0 0 < 0
  · rw [if_pos q]
    rw [decide_eq_false (by omega), Bool.false_and] at h
    exact h
  · rw [if_neg q]
    rw [decide_eq_true (by omega), Bool.true_and] at h
    refine i_Rule_canTurn_l15 (Inv := fun v1 => ∃ k : Nat, v1 = k ∧ k ≤ r.1.length ∧ (r.1.all fun c => decide (0 ≤ c) || decide (0 < r.2.count c)) = ((r.1.drop k).all fun c => decide (0 ≤ c) || decide (0 < r.2.count c))) (fun v1 => r.1.length - v1.toNat) ?_ 0 ⟨0, rfl, Nat.zero_le _, by rw [List.drop_zero]⟩
    rintro _ ⟨k, rfl, hk, hd⟩ W hW
    unfold d_Rule_canTurn_b15
    rw [hL.1]
    by_cases hkl : k < r.1.length
    · rw [if_pos (by omega)]
      refine c_Term_getN hL hkl ?_
      rw [dropc hkl, List.all_cons] at hd
      unfold d_Rule_canTurn_j52
      by_cases q2 : r.1.getD k 0 < 0
      · rw [if_pos q2]
        refine c_Term_count hR ?_
        rw [decide_eq_false (by omega), Bool.false_or] at hd
        by_cases q3 : r.2.count (r.1.getD k 0) = 0
        · rw [if_pos (by omega)]
          rw [decide_eq_false (by omega), Bool.false_and] at hd
          rw [hd] at h
          exact h
        · rw [if_neg (by omega), wr_id (by omega) (by omega)]
          rw [decide_eq_true (by omega), Bool.true_and] at hd
          exact hW _ ⟨k + 1, by omega, by omega, hd⟩ (by omega)
      · rw [if_neg q2, wr_id (by omega) (by omega)]
        rw [decide_eq_true (by omega), Bool.true_or, Bool.true_and] at hd
        exact hW _ ⟨k + 1, by omega, by omega, hd⟩ (by omega)
    · rw [if_neg (by omega)]
      rw [List.drop_eq_nil_of_le (by omega), List.all_nil] at hd
      rw [hd] at h
      exact h
def sp_swapRules (A : AS) (v1 v2 : Int) : Int × Int × AS := g4 (aL A) (decide ((0 ≤ v1 ∧ v1 < ((aR A).length : Int)) ∧ 0 ≤ v2 ∧ v2 < ((aR A).length : Int))) (some ((sumR (swp (aR A) v1.toNat v2.toNat) (aT A) : Int), wC A (swp (aR A) v1.toNat v2.toNat, aT A))) A
theorem w_swapRules (hI : CI μ A) (hA : AOK A) (h : WC μ (sp_swapRules A v1 v2) Q) : d_Lw_swapRules v1 v2 μ Q := by
  unfold d_Lw_swapRules d_OB_swapRules
  unfold sp_swapRules at h
  refine c_reqRule hI (fun e => ?_) (fun e en => ?_) (fun e i hv hi => c_reqRule hI (fun e => ?_) (fun e en => ?_) (fun e k hk hkl => ?_))
  · rw [e] at h
    exact h.e1 hI Fz.rfl'
  · rw [e, decide_eq_false (fun q => en q.1)] at h
    exact h.e2 hI Fz.rfl'
  · rw [e] at h
    exact h.e1 hI Fz.rfl'
  · rw [e, decide_eq_false (fun q => en q.2)] at h
    exact h.e2 hI Fz.rfl'
  · subst hv hk
    rw [e, decide_eq_true (by omega)] at h
    simp only [Int.toNat_natCast] at h
    refine c_remember hI hA fun μ1 hI1 hst hr => ?_
    refine c_Rule_exchange rt_st.1 hI1.2.2.1.1 hI1.2.2.1.2.1 hi hkl fun μ2 hP2 hR2 hF2 => ?_
    have hI2 : CI μ2 (wC A (swp (aR A) i k, aT A)) := hI1.setR hP2 hR2 hst (by rw [hF2 5 (by omega)]) fun b g1 g2 => hF2 b (by omega)
    have hz2 : Fz μ μ2 := fun b hb => by rw [hF2 b (by omega), hr b (by omega)]
    have hwk : ∀ r, r ∈ swp (aR A) i k → wkr r := fun r hr => hA.wkrs r (mem_swp hi hkl hr)
    have h6 := hA.t6
    generalize hrs : swp (aR A) i k = rs at *
    have hle := sumR_le (rs := rs) (aT A) fun T hT => (hA.2.1.2.2.2 T hT).2.1
    refine i_OB_swapRules_l29 (Inv := fun v5 v6 μ3 => ∃ n q : Nat, v5 = n ∧ v6 = q ∧ q ≤ (aT A).length ∧ CI μ3 (wC A (rs, aT A)) ∧ Fz μ μ3 ∧ n + sumR rs ((aT A).drop q) = sumR rs (aT A)) (fun _ v6 _ => (aT A).length - v6.toNat) ?_ 0 0 μ2 ⟨0, 0, rfl, rfl, Nat.zero_le _, hI2, hz2, by rw [List.drop_zero, Nat.zero_add]⟩
    rintro _ _ μ3 ⟨n, q, rfl, rfl, hq, hI3, hz3, hn⟩ W hW
    unfold d_OB_swapRules_b29
    rw [show μ3 5 1 = ((aT A).length : Int) from hI3.2.2.1.2.2.1]
    by_cases hql : q < (aT A).length
    · rw [if_pos (by omega)]
      refine c_State_term (by omega) ?_
      have hT : IsT μ3 (tc 5 q) ((aT A).getD q []) := hI3.2.2.1.2.2.2.2 q hql
      refine c_Rewriter_countRedexes (rs := rs) cells5 hI3.2.2.1.2.1 hI3.2.2.1.1 hwk hT (tc5 (by omega)) (okt_wkt (hA.term hql) hA.ars) fun μ4 hF4 => ?_
      have hq4 := Fq.ofFr hF4 (by decide) (by decide)
      rw [dropt hql, sumR] at hn
      rw [wr_id (by omega) (by omega), wr_id (by omega) (by omega)]
      exact hW _ _ _ ⟨_, q + 1, by rw [← Int.natCast_add], by omega, by omega, hq4.ci hI3, hz3.tr hq4.fz, by omega⟩ (by omega)
    · rw [if_neg (by omega)]
      rw [List.drop_eq_nil_of_le (by omega), sumR] at hn
      exact h.ok4 hI3 hz3 (by rw [← hn]; rfl)
def sp_removeRule (A : AS) (v1 : Int) : Int × Int × AS := g4 (aL A) (decide (0 ≤ v1 ∧ v1 < ((aR A).length : Int))) (some (((aR A).length : Int) - 1, wC A ((aR A).eraseIdx v1.toNat, aT A))) A
def sp_reverseRule (A : AS) (v1 : Int) : Int × Int × AS := g4 (aL A) (decide (0 ≤ v1 ∧ v1 < ((aR A).length : Int))) (if canT ((aR A).getD v1.toNat ([], [])) = true then some ((((aR A).getD v1.toNat ([], [])).2.length : Int), wC A ((aR A).set v1.toNat (((aR A).getD v1.toNat ([], [])).2, ((aR A).getD v1.toNat ([], [])).1), aT A)) else none) A
def sp_removeTerm (A : AS) (v1 : Int) : Int × Int × AS := g4 (aL A) (decide (0 ≤ v1 ∧ v1 < ((aT A).length : Int))) (some (((aT A).length : Int) - 1, wC A (aR A, (aT A).eraseIdx v1.toNat))) A
theorem w_removeTerm (hI : CI μ A) (hA : AOK A) (h : WC μ (sp_removeTerm A v1) Q) : d_Lw_removeTerm v1 μ Q := by
  unfold d_Lw_removeTerm d_OB_removeTerm
  unfold sp_removeTerm at h
  refine c_reqTerm hI (fun e => ?_) (fun e en => ?_) (fun e i hv hi => ?_)
  · rw [e] at h
    exact h.e1 hI Fz.rfl'
  · rw [e, decide_eq_false en] at h
    exact h.e2 hI Fz.rfl'
  · subst hv
    rw [e, decide_eq_true (by omega)] at h
    simp only [Int.toNat_natCast] at h
    refine c_remember hI hA fun μ1 hI1 hst hr => ?_
    refine c_State_dropTerm rt_st.1 hI1.2.2.1.2.2 (okc_fit hA.2.1).2 hi fun μ2 hT2 hF2 h02 => ?_
    have hI2 : CI μ2 (wC A (aR A, (aT A).eraseIdx i)) := hI1.setT hT2 h02 fun b g1 g2 => hF2 b g1 (by omega)
    rw [hT2.1, List.length_eraseIdx, if_pos (show i < (aT (wC A (aC A))).length from hi)]
    refine h.ok4 hI2 (fun b hb => by rw [hF2 b (by omega) (by omega), hr b (by omega)]) ?_
    rw [show (((aT (wC A (aC A))).length - 1 : Nat) : Int) = ((aT A).length : Int) - 1 by show (((aT A).length - 1 : Nat) : Int) = _; omega]
/-- without a system it is no answer: 1 -/
def g5 (o : Option (Int × AS)) (A : AS) : Int × Int × AS := match o with
  | none => (1, 0, A)
  | some (r, A') => (0, r, A')
def unA (A : AS) : Option (Int × AS) := match aH A with
  | [] => none
  | c :: hs => some ((hs.length : Int), ((A.1.1, A.1.2.1, c), (hs, A.2.1.2), A.2.2))
def sp_undo (A : AS) : Int × Int × AS := g5 (unA A) A
theorem w_undo (hI : CI μ A) (hA : AOK A) (h : WC μ (sp_undo A) Q) : d_Lw_undo μ Q := by
  unfold d_Lw_undo d_OB_undo
  unfold sp_undo unA at h
  obtain ⟨h1, hsp, nw, hnw, h2, hst⟩ := hI.2.2.2.2.2.2.2
  rw [h1]
  cases hh : aH A with
  | nil =>
    rw [hh] at h
    rw [if_neg (by simp)]
    exact h _ hI.thr (Fz.frCt Fz.rfl') (fun q => absurd (show (1 : Int) = 0 from q) (by decide))
  | cons c hs =>
    rw [hh] at h hst h1
    have hl8 : (aH A).length ≤ 8 := hA.2.2.2.1
    rw [hh, List.length_cons] at hl8
    rw [if_pos (by rw [List.length_cons]; omega)]
    unfold d_History_takeBack
    rw [h2]
    refine c_historyAt hnw ?_
    rw [h1, if_pos (by rw [List.length_cons]; omega)]
    have hc := hst 0 (by simp)
    rw [show (nw + 8 - 0) % 8 = nw by omega] at hc
    have oc : okc (arS (aS A)) c := hA.2.2.1 c (by rw [hh]; exact List.mem_cons_self ..)
    obtain ⟨hfr, hft⟩ := okc_fit oc
    refine c_State_copyFrom rt_st.1 (hc_rt hnw) (by unfold Jvm.Pilot.@@N@@.hc; omega) hI.2.2.1.1 (hsp nw hnw) hc.1 hc.2 hfr hft fun μ2 p2 q2 t2 hF2 => ?_
    have e247 : μ2 247 = μ 247 := hF2 247 (by omega)
    have main : ∀ n1 : Nat, n1 < 8 → (n1 + 1 = nw ∨ (n1 = 7 ∧ nw = 0)) → d_History_takeBack_j54 (n1 : Int) (mup μ2 247 0 (wr (μ2 247 0 - 1))) (fun μ2 => Q 0 (mup (mup μ2 139 0 1) 795 0 (l64 ((mup μ2 139 0 1) 247 0)))) := by
      intro n1 hn1 hnn
      unfold d_History_takeBack_j54
      rw [e247, h1, List.length_cons, show (((hs.length + 1 : Nat) : Int) - 1) = (hs.length : Int) by omega, wr_id (by omega) (by omega)]
      dsimp only
      generalize hμ3 : mup (mup (mup μ2 247 0 (hs.length : Int)) 247 1 (n1 : Int)) 139 0 1 = μ3
      have r3 : ∀ b, b ≠ 247 → b ≠ 139 → μ3 b = μ2 b := fun b g1 g2 => by rw [← hμ3, mup_r g2, mup_r g1, mup_r g1]
      have r : ∀ b, b ≠ 247 → b ≠ 139 → b < 5 ∨ 57 ≤ b → μ3 b = μ b := fun b g1 g2 g3 => by rw [r3 b g1 g2, hF2 b (by omega)]
      have s0 : μ3 247 0 = (hs.length : Int) := by rw [← hμ3, mup_r (by decide), mup_k (by decide), mup_s]
      have s1 : μ3 247 1 = (n1 : Int) := by rw [← hμ3, mup_r (by decide), mup_s]
      have st3 : μ3 139 0 = 1 := by rw [← hμ3, mup_s]
      rw [s0]
      obtain ⟨i1, i2, i3, ⟨i4, i5⟩, ⟨i6, i7⟩, i8, i9, i10⟩ := hI
      have hI3 : CI μ3 ((A.1.1, A.1.2.1, c), (hs, A.2.1.2), A.2.2) := by
        refine ⟨by rw [r 0 (by omega) (by omega) (by omega)]; exact i1, i2.fr fun b g1 g2 => r b (by omega) (by omega) (by omega), Cst.fr (c := c) ⟨p2, q2, t2⟩ rt_st.1 fun b g1 g2 => r3 b (by omega) (by omega), ⟨i4.fr rt_st.2.1 (by rw [r 0 (by omega) (by omega) (by omega)]) fun b g1 g2 => r b (by omega) (by omega) (by omega), i5.fr rt_st.2.2.1 (by rw [r 0 (by omega) (by omega) (by omega)]) fun b g1 g2 => r b (by omega) (by omega) (by omega)⟩, ⟨i6.fr (r _ (by omega) (by omega) (by omega)) (r _ (by omega) (by omega) (by omega)), i7.fr fun b g1 g2 => r b (by omega) (by omega) (by omega)⟩, Or.inl st3, i9.fr (r _ (by omega) (by omega) (by omega)) (r _ (by omega) (by omega) (by omega)), s0, fun k hk => (hsp k hk).fr fun b g1 g2 => r b (by unfold Jvm.Pilot.@@N@@.hc at g1; omega) (by unfold Jvm.Pilot.@@N@@.hc at g1; omega) (by unfold Jvm.Pilot.@@N@@.hc at g1; omega), n1, hn1, s1, fun i hi => ?_⟩
        have hi' : i < hs.length := hi
        have hk : (nw + 8 - (i + 1)) % 8 < 8 := Nat.mod_lt _ (by decide)
        have := hst (i + 1) (by simp; omega)
        rw [show (n1 + 8 - i) % 8 = (nw + 8 - (i + 1)) % 8 by omega]
        rw [getD_cons, if_neg (by omega), Nat.add_sub_cancel] at this
        generalize (nw + 8 - (i + 1)) % 8 = k at *
        exact (Cst.fr (c := hs.getD i ([], [])) ⟨hsp k hk, this.1, this.2⟩ (hc_rt hk) fun b g1 g2 => r b (by unfold Jvm.Pilot.@@N@@.hc at g1; omega) (by unfold Jvm.Pilot.@@N@@.hc at g1; omega) (by unfold Jvm.Pilot.@@N@@.hc at g1; omega)).2
      refine h _ (hI3.mup (by decide)) ⟨fun b g1 g2 => by rw [mup_r (by omega)]; exact r b (by omega) (by omega) (by omega), by rw [mup_r (by omega), r 797 (by omega) (by omega) (by omega)]; omega, by rw [mup_r (by omega), r 797 (by omega) (by omega) (by omega)]; omega⟩ (fun _ => ⟨by first | (rw [mup_s]; done) | (rw [mup_s]; rfl), by rw [mup_r (by omega), r 797 (by omega) (by omega) (by omega)]⟩)
    have e2471 : (mup μ2 247 0 (wr (μ2 247 0 - 1))) 247 1 = (nw : Int) := by rw [mup_k (by decide), e247]; exact h2
    rw [e2471]
    by_cases k : 0 < nw
    · rw [if_pos (by omega), wr_id (by omega) (by omega), show (nw : Int) - 1 = ((nw - 1 : Nat) : Int) by omega]
      exact main (nw - 1) (by omega) (Or.inl (by omega))
    · rw [if_neg (by omega)]
      exact main 7 (by omega) (Or.inr ⟨rfl, by omega⟩)
/-- a slot's state, if it is one and full -/
def slA (A : AS) (v : Int) : Option Cf := if v = 0 then a0 A else a1 A
def svA (A : AS) (v : Int) : AS := (A.1, (A.2.1.1, if v = 0 then (some (aC A), a1 A) else (a0 A, some (aC A))), A.2.2)
def sp_saveState (A : AS) (v1 : Int) : Int × Int × AS := g4 (aL A) (decide (0 ≤ v1 ∧ v1 < 2)) (some (((aT A).length : Int), svA A v1)) A
theorem CI.saved {μ' : Mem} {s0 s1 : Option Cf} (hI : CI μ A) (h0 : CSv μ' 665 11 s0) (h1 : CSv μ' 717 12 s1) (e0 : μ' 0 0 = μ 0 0) (hf : ∀ b, b ≠ 0 → b < 57 ∨ (72 ≤ b ∧ b < 665) → μ' b = μ b) : CI μ' (A.1, (A.2.1.1, s0, s1), A.2.2) := by
  obtain ⟨i1, i2, i3, _, ⟨i6, i7⟩, i8, i9, i10⟩ := hI
  exact ⟨by rw [e0]; exact i1, i2.fr fun b g1 g2 => hf b (by omega) (by omega), Cst.fr (c := aC A) i3 rt_st.1 fun b g1 g2 => hf b (by omega) (by omega), ⟨h0, h1⟩, ⟨i6.fr (hf _ (by omega) (by omega)) (hf _ (by omega) (by omega)), i7.fr fun b g1 g2 => hf b (by omega) (by omega)⟩, i8.fr fun b g1 g2 => hf b (by omega) (by omega), i9.fr (hf _ (by omega) (by omega)) (hf _ (by omega) (by omega)), i10.fr fun b g1 g2 => hf b (by omega) (by omega)⟩
theorem w_saveState (hI : CI μ A) (hA : AOK A) (h : WC μ (sp_saveState A v1) Q) : d_Lw_saveState v1 μ Q := by
  unfold d_Lw_saveState d_OB_saveState
  unfold sp_saveState at h
  refine c_reqSys hI (fun e => ?_) (fun e => ?_)
  · rw [e] at h
    exact h.e1 hI Fz.rfl'
  · refine c_reqIdx (n := 2) (fun en => ?_) (fun i hv hi => ?_)
    · rw [e, decide_eq_false (show ¬ (0 ≤ v1 ∧ v1 < 2) by omega)] at h
      exact h.e2 hI Fz.rfl'
    · subst hv
      rw [e, decide_eq_true (by omega)] at h
      obtain ⟨hfr, hft⟩ := okc_fit hA.2.1
      obtain ⟨i1, i2, i3, ⟨i4, i5⟩, i67, i8, i9, i10⟩ := id hI
      by_cases k : (i : Int) = 0
      · rw [if_pos k]
        unfold svA at h
        rw [if_pos k] at h
        refine c_State_copyFrom rt_st.2.1 rt_st.1 (by omega) i4.1 i3.1 i3.2.1 i3.2.2 hfr hft fun μ2 p2 q2 t2 hF2 => ?_
        have rows : ∀ b, b ≠ 0 → mup μ2 0 11 1 b = μ2 b := fun b hb => mup_r hb
        have e51 : mup μ2 0 11 1 5 1 = ((aT A).length : Int) := by rw [rows 5 (by omega), hF2 5 (by omega)]; exact i3.2.2.1
        rw [e51]
        have e0 : ∀ j, j ≠ 11 → mup μ2 0 11 1 0 j = μ 0 j := fun j hj => by rw [mup_k hj, hF2 0 (by omega)]
        refine h.ok4 (hI.saved (s0 := some (aC A)) (s1 := a1 A) ⟨p2.fr fun b g1 g2 => rows b (by omega), by rw [mup_s]; rfl, fun c hc => ?_⟩ (i5.fr rt_st.2.2.1 (e0 12 (by omega)) fun b g1 g2 => by rw [rows b (by omega), hF2 b (by omega)]) (e0 0 (by omega)) fun b g1 g2 => by rw [rows b g1, hF2 b (by omega)]) (fun b hb => by rw [rows b (by omega), hF2 b (by omega)]) rfl
        cases hc
        exact (Cst.fr (c := aC A) ⟨p2, q2, t2⟩ rt_st.2.1 fun b g1 g2 => rows b (by omega)).2
      · rw [if_neg k]
        unfold svA at h
        rw [if_neg k] at h
        refine c_State_copyFrom rt_st.2.2.1 rt_st.1 (by omega) i5.1 i3.1 i3.2.1 i3.2.2 hfr hft fun μ2 p2 q2 t2 hF2 => ?_
        have rows : ∀ b, b ≠ 0 → mup μ2 0 12 1 b = μ2 b := fun b hb => mup_r hb
        have e51 : mup μ2 0 12 1 5 1 = ((aT A).length : Int) := by rw [rows 5 (by omega), hF2 5 (by omega)]; exact i3.2.2.1
        rw [e51]
        have e0 : ∀ j, j ≠ 12 → mup μ2 0 12 1 0 j = μ 0 j := fun j hj => by rw [mup_k hj, hF2 0 (by omega)]
        refine h.ok4 (hI.saved (s0 := a0 A) (s1 := some (aC A)) (i4.fr rt_st.2.1 (e0 11 (by omega)) fun b g1 g2 => by rw [rows b (by omega), hF2 b (by omega)]) ⟨p2.fr fun b g1 g2 => rows b (by omega), by rw [mup_s]; rfl, fun c hc => ?_⟩ (e0 0 (by omega)) fun b g1 g2 => by rw [rows b g1, hF2 b (by omega)]) (fun b hb => by rw [rows b (by omega), hF2 b (by omega)]) rfl
        cases hc
        exact (Cst.fr (c := aC A) ⟨p2, q2, t2⟩ rt_st.2.2.1 fun b g1 g2 => rows b (by omega)).2
/-- the class takes another state as its own -/
theorem c_adopt {s : Nat} {c : Cf} {ars : List Nat} {Q : Mem → Prop} (hs : rt s = 7) (hd : 57 ≤ s) (hsd : s + 52 ≤ 139 ∨ 665 ≤ s) (hP5 : SP μ 5) (hC : Cst μ s c) (oc : okc ars c)
    (h : ∀ μ', Cst μ' 5 c → μ' 247 0 = 0 → (∀ j, j ≠ 0 → μ' 247 j = μ 247 j) → μ' 139 0 = 1 → (∀ b, b ≠ 139 → b ≠ 247 → b < 5 ∨ 57 ≤ b → μ' b = μ b) → Q μ') : d_OB_adopt s μ Q := by
  unfold d_OB_adopt
  obtain ⟨hfr, hft⟩ := okc_fit oc
  refine c_State_copyFrom rt_st.1 hs (by omega) hP5 hC.1 hC.2.1 hC.2.2 hfr hft fun μ2 p2 q2 t2 hF2 => ?_
  have rows : ∀ b, b ≠ 139 → b ≠ 247 → mup (mup μ2 247 0 0) 139 0 1 b = μ2 b := fun b g1 g2 => by rw [mup_r g1, mup_r g2]
  refine h _ (Cst.fr (c := c) ⟨p2, q2, t2⟩ rt_st.1 fun b g1 g2 => rows b (by omega) (by omega)) (by rw [mup_r (by decide), mup_s]) (fun j hj => by rw [mup_r (by decide), mup_k hj, hF2 247 (by omega)]) mup_s fun b g1 g2 g3 => by rw [rows b g1 g2, hF2 b (by omega)]
def reA (A : AS) (c : Cf) : AS := ((A.1.1, A.1.2.1, c), ([], A.2.1.2), A.2.2)
def g6 (idx : Bool) (o : Option (Int × AS)) (A : AS) : Int × Int × AS := if idx = false then (1, 0, A) else match o with
  | none => (2, 0, A)
  | some (r, A') => (0, r, A')
def sp_restoreState (A : AS) (v1 : Int) : Int × Int × AS := g6 (decide (0 ≤ v1 ∧ v1 < 2)) (match slA A v1 with
  | none => none
  | some c => some ((c.2.length : Int), reA A c)) A
theorem w_restoreState (hI : CI μ A) (hA : AOK A) (h : WC μ (sp_restoreState A v1) Q) : d_Lw_restoreState v1 μ Q := by
  unfold d_Lw_restoreState d_OB_restoreState
  unfold sp_restoreState slA at h
  refine c_reqIdx (n := 2) (fun en => ?_) (fun i hv hi => ?_)
  · rw [decide_eq_false (show ¬ (0 ≤ v1 ∧ v1 < 2) by omega)] at h
    exact h _ hI.thr (Fz.frCt Fz.rfl') (fun q => absurd (show (1 : Int) = 0 from q) (by decide))
  · subst hv
    rw [decide_eq_true (by omega)] at h
    obtain ⟨i1, i2, i3, ⟨i4, i5⟩, i67, i8, i9, i10⟩ := id hI
    have fin : ∀ (s : Nat) (c : Cf), (s = 665 ∨ s = 717) → Cst μ s c → okc (arS (aS A)) c → WC μ (0, (c.2.length : Int), reA A c) Q → d_OB_restoreState_j50 s μ (fun r1 μ2 => Q 0 (mup μ2 795 0 (l64 r1))) (fun k μx => if k = 1 then (Q 1 μx) else (if k = 0 then (Q 2 μx) else False)) := by
      intro s c hs hC oc hq
      unfold d_OB_restoreState_j50
      refine c_adopt (by rcases hs with rfl | rfl; exact rt_st.2.1; exact rt_st.2.2.1) (by omega) (by omega) i3.1 hC oc fun μ2 c2 h247 h247' h139 hr => ?_
      rw [c2.2.2.1]
      have hH : CHs μ2 [] := by
        obtain ⟨g1, g2, nw, g3, g4, g5⟩ := i10
        exact ⟨h247, fun k hk => (g2 k hk).fr fun b k1 k2 => hr b (by unfold Jvm.Pilot.@@N@@.hc at k1; omega) (by unfold Jvm.Pilot.@@N@@.hc at k1; omega) (by unfold Jvm.Pilot.@@N@@.hc at k1; omega), nw, g3, by rw [h247' 1 (by decide)]; exact g4, fun i hi => absurd hi (by simp)⟩
      have hI2 : CI μ2 (reA A c) := ⟨by rw [hr 0 (by omega) (by omega) (by omega)]; exact i1, i2.fr fun b g1 g2 => hr b (by omega) (by omega) (by omega), c2, ⟨i4.fr rt_st.2.1 (by rw [hr 0 (by omega) (by omega) (by omega)]) fun b g1 g2 => hr b (by omega) (by omega) (by omega), i5.fr rt_st.2.2.1 (by rw [hr 0 (by omega) (by omega) (by omega)]) fun b g1 g2 => hr b (by omega) (by omega) (by omega)⟩, ⟨i67.1.fr (hr _ (by omega) (by omega) (by omega)) (hr _ (by omega) (by omega) (by omega)), i67.2.fr fun b g1 g2 => hr b (by omega) (by omega) (by omega)⟩, Or.inl h139, i9.fr (hr _ (by omega) (by omega) (by omega)) (hr _ (by omega) (by omega) (by omega)), hH⟩
      exact hq _ (hI2.mup (by decide)) ⟨fun b g1 g2 => by rw [mup_r (by omega)]; exact hr b (by omega) (by omega) (by omega), by rw [mup_r (by omega), hr 797 (by omega) (by omega) (by omega)]; omega, by rw [mup_r (by omega), hr 797 (by omega) (by omega) (by omega)]; omega⟩ (fun _ => ⟨by first | (rw [mup_s]; done) | (rw [mup_s]; rfl), by rw [mup_r (by omega), hr 797 (by omega) (by omega) (by omega)]⟩)
    have t2 : WC μ (2, 0, A) Q → Q 2 (thr μ) := fun hq => hq _ hI.thr (Fz.frCt Fz.rfl') (fun q => absurd (show (2 : Int) = 0 from q) (by decide))
    by_cases k : (i : Int) = 0
    · rw [if_pos k] at h ⊢
      unfold d_OB_restoreState_j21
      rw [i4.2.1, if_pos k]
      cases hs : a0 A with
      | none => rw [hs] at h; exact t2 h
      | some c =>
        rw [hs] at h
        rw [if_neg (show ¬ b2i (some c).isSome = 0 from by rw [Option.isSome_some]; decide)]
        exact fin 665 c (Or.inl rfl) ⟨i4.1, (i4.2.2 c hs).1, (i4.2.2 c hs).2⟩ (hA.2.2.2.2.1 c hs) h
    · rw [if_neg k] at h ⊢
      unfold d_OB_restoreState_j21
      rw [i5.2.1, if_neg k]
      cases hs : a1 A with
      | none => rw [hs] at h; exact t2 h
      | some c =>
        rw [hs] at h
        rw [if_neg (show ¬ b2i (some c).isSome = 0 from by rw [Option.isSome_some]; decide)]
        exact fin 717 c (Or.inr rfl) ⟨i5.1, (i5.2.2 c hs).1, (i5.2.2 c hs).2⟩ (hA.2.2.2.2.2.1 c hs) h
end C56

