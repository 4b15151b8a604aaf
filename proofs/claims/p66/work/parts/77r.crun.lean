/-! THE CLASS: the other items, the whole text -/
section R77
variable {μ : Mem} {B : List Int} {S : St} {t : Tk}
theorem c_pReadCopy {Q : Bool → Mem → Prop} (hB : PTx μ B) (ht : TkC μ t) (tok : tkok B t) (hS : CSt μ S) (hok : POK S) (hQ : IQ μ (iCpy B S t) Q) : d_Parser_readCopy μ Q := by
  unfold d_Parser_readCopy
  unfold iCpy at hQ
  have hST := hS.2.2.2
  rw [hST.1]
  by_cases l6 : 6 ≤ S.2.2.length
  · rw [if_pos l6] at hQ
    rw [if_neg (by omega)]
    exact c_pFailI hQ PFs.rfl' rfl rfl ht hS.2.1
  · rw [if_neg l6] at hQ
    rw [if_pos (by omega)]
    refine c_nextI hB ht tok fun μ1 t1 f1 => ?_
    have n1 := nx_le tok
    have v1 := nx_v B t.2.2
    have S1 := hS.fn f1
    have B1 := hB.fn f1
    generalize nx B t.2.2 = u at *
    rw [S1.2.2.2.1]
    refine c_readDigit (m := S.2.2.length) (t := u) rfl B1 t1 n1.1 v1 hQ f1.ps (fun q => if_pos q) S1.2.1 (fun μ' h => by rw [if_neg (by decide)]; exact h) fun hd => ?_
    rw [if_neg (fun q => q hd)] at hQ
    obtain ⟨d1, d2, d3⟩ := dgt_0 v1 hd
    rw [if_pos rfl]
    refine c_pDigit B1 t1 n1.1 v1 d1 ?_
    rw [show dgv B u = (((dgv B u).toNat : Nat) : Int) by omega]
    generalize (dgv B u).toNat = d at *
    refine c_State_term (by omega) ?_
    have hT := S1.2.2.2.2.2 d d3
    have ho := hok.2.2.2.2 _ (getD_mem (d := []) d3)
    obtain ⟨rd, ld⟩ := tc_rt rt_st.2.2.2.1 (i := d) (by omega)
    have e1 := tc_eq 77 d
    have e2 := tc_eq 77 S.2.2.length
    rw [hT.1]
    have h80 := ho.2.1
    refine c_State_addTerm (f := 0) (t := (S.2.2.getD d []).length) rt_st.2.2.2.1 S1.2.2.2 (by omega) hT rd (by omega) (Nat.zero_le _) (Nat.le_refl _) (by omega) fun μ2 k1 k2 k3 => ?_
    rw [List.drop_zero, Nat.sub_zero, List.take_length] at k1
    have rows : ∀ b, b ≠ 77 → b < 117 ∨ 129 ≤ b → μ2 b = μ1 b := fun b g1 g2 => k2 b g1 (by omega)
    have C2 : Cst μ2 77 (S.2.1, S.2.2 ++ [S.2.2.getD d []]) := ⟨S1.2.1.fr fun b g1 g2 => rows b (by omega) (by omega), S1.2.2.1.fr S1.2.1 rt_st.2.2.2.1 k3 fun b g1 g2 => rows b (by omega) (by omega), k1⟩
    have F2 : PFs μ μ2 := f1.ps.tr ⟨fun b hb => rows b (by omega) (by omega), fun j _ _ _ => by rw [rows 72 (by decide) (by decide)]⟩
    have t2 : TkC μ2 u := by unfold TkC; rw [rows 72 (by decide) (by decide)]; exact t1
    refine c_nextI (hB.ps F2) t2 n1.1 fun μ3 t3 f3 => ?_
    exact hQ.2 μ3 _ _ rfl (F2.tr f3.ps) (CSt.fn ⟨S1.1.fr fun b g1 g2 => rows b (by omega) (by omega), C2⟩ f3) t3
theorem c_pReadFlip {Q : Bool → Mem → Prop} (hB : PTx μ B) (ht : TkC μ t) (tok : tkok B t) (hS : CSt μ S) (hok : POK S) (hQ : IQ μ (iFlp B S t) Q) : d_Parser_readFlip μ Q := by
  unfold d_Parser_readFlip
  unfold iFlp at hQ
  have h6 := hok.2.1
  refine c_nextI hB ht tok fun μ1 t1 f1 => ?_
  have n1 := nx_le tok
  have v1 := nx_v B t.2.2
  have S1 := hS.fn f1
  have B1 := hB.fn f1
  generalize nx B t.2.2 = u at *
  rw [S1.2.2.1.1]
  refine c_readDigit (m := S.2.1.length) (t := u) rfl B1 t1 n1.1 v1 hQ f1.ps (fun q => if_pos q) S1.2.1 (fun μ' h => by rw [if_neg (by decide)]; exact h) fun hd => ?_
  rw [if_neg (fun q => q hd)] at hQ
  obtain ⟨d1, d2, d3⟩ := dgt_0 v1 hd
  rw [if_pos rfl]
  refine c_pDigit B1 t1 n1.1 v1 d1 ?_
  rw [show dgv B u = (((dgv B u).toNat : Nat) : Int) by omega]
  generalize (dgv B u).toNat = d at *
  refine c_State_rule (by omega) ?_
  obtain ⟨x1, x2⟩ := S1.2.2.1.2.2 d d3
  refine c_canTurn x1 x2 (hok.2.2.2.1 _ (getD_mem d3)) ?_
  by_cases hc : canT (S.2.1.getD d ([], [])) = true
  · rw [if_pos hc] at hQ ⊢
    refine c_Rule_turn rt_st.2.2.2.1 S1.2.1 S1.2.2.1 d3 fun μ2 p2 r2 hF2 => ?_
    have rows : ∀ b, b < 87 ∨ 117 ≤ b → μ2 b = μ1 b := fun b g => hF2 b (by omega)
    have C2 : Cst μ2 77 (S.2.1.set d ((S.2.1.getD d ([], [])).2, (S.2.1.getD d ([], [])).1), S.2.2) := ⟨p2, r2, S1.2.2.2.fr (by rw [rows 77 (by omega)]) fun b g1 g2 => rows b (by omega)⟩
    have F2 : PFs μ μ2 := f1.ps.tr ⟨fun b hb => rows b (by omega), fun j _ _ _ => by rw [rows 72 (by decide)]⟩
    have t2 : TkC μ2 u := by unfold TkC; rw [rows 72 (by decide)]; exact t1
    refine c_nextI (hB.ps F2) t2 n1.1 fun μ3 t3 f3 => ?_
    exact hQ.2 μ3 _ _ rfl (F2.tr f3.ps) (CSt.fn ⟨S1.1.fr fun b g1 g2 => rows b (by omega), C2⟩ f3) t3
  · rw [if_neg hc] at hQ ⊢
    exact c_pFailI hQ f1.ps rfl rfl t1 S1.2.1
theorem rc130 : rcells 130 77 := ⟨by decide +kernel, by decide +kernel, by omega⟩
theorem c_pReadStep {Q : Bool → Mem → Prop} (hB : PTx μ B) (ht : TkC μ t) (tok : tkok B t) (hS : CSt μ S) (hok : POK S) (hQ : IQ μ (iStp B S t) Q) : d_Parser_readStep μ Q := by
  unfold d_Parser_readStep
  unfold iStp at hQ
  have h6 := hok.2.2.1
  have h8 : (arS S.1).length ≤ 8 := by unfold arS; rw [List.length_map]; exact hok.1.1
  refine c_nextI hB ht tok fun μ1 t1 f1 => ?_
  have n1 := nx_le tok
  have v1 := nx_v B t.2.2
  have S1 := hS.fn f1
  have B1 := hB.fn f1
  generalize nx B t.2.2 = u at *
  rw [S1.2.2.2.1]
  refine c_readDigit (m := S.2.2.length) (t := u) rfl B1 t1 n1.1 v1 hQ f1.ps (fun q => if_pos q) S1.2.1 (fun μ' h => by rw [if_neg (by decide)]; exact h) fun hd => ?_
  rw [if_neg (fun q => q hd)] at hQ
  obtain ⟨d1, d2, d3⟩ := dgt_0 v1 hd
  rw [if_pos rfl]
  refine c_pDigit B1 t1 n1.1 v1 d1 ?_
  rw [show dgv B u = (((dgv B u).toNat : Nat) : Int) by omega]
  generalize (dgv B u).toNat = d at *
  refine c_State_term (by omega) ?_
  have hT := S1.2.2.2.2.2 d d3
  have ho := hok.2.2.2.2 _ (getD_mem (d := []) d3)
  obtain ⟨rd, ld⟩ := tc_rt rt_st.2.2.2.1 (i := d) (by omega)
  have ed := tc_eq 77 d
  obtain ⟨rt1, ln1, _⟩ := rw_rt rc130.1
  refine c_Rewriter_step (inner := true) rc130 S1.2.2.1 S1.2.1 (fun r hr => okr_wkr (hok.2.2.2.1 r hr) h8) hT rd (by omega) (okt_wkt ho h8) (fun μ2 p Y hY hp hY2 hF2 => ?_) (fun μ2 hY hF2 => ?_)
  · rw [if_neg (by omega)]
    rw [hY] at hQ
    dsimp only at hQ
    have oY := stp_ok hok.2.2.2.1 ho hY
    have r2 : ∀ b, b < 130 ∨ 138 ≤ b → μ2 b = μ1 b := fun b hb => hF2 b (by omega) (by omega) (by omega)
    refine c_Term_copyFrom hY2 rd rt1 (by omega) (by rw [ld]; exact oY.2.1) fun μ3 hT3 hF3 => ?_
    have r3 : ∀ b, b ≠ tc 77 d → b ≠ tc 77 d + 1 → b < 130 ∨ 138 ≤ b → μ3 b = μ1 b := fun b g1 g2 g3 => by rw [hF3 b (by omega), r2 b g3]
    have C3 : Cst μ3 77 (S.2.1, S.2.2.set d Y) := by
      refine ⟨S1.2.1.fr fun b g1 g2 => r3 b (by omega) (by omega) (by omega), S1.2.2.1.fr S1.2.1 rt_st.2.2.2.1 (by rw [r3 77 (by omega) (by omega) (by omega)]) fun b g1 g2 => r3 b (by omega) (by omega) (by omega), ⟨by rw [r3 77 (by omega) (by omega) (by omega), List.length_set]; exact S1.2.2.2.1, by rw [List.length_set]; exact h6, fun i hi => ?_⟩⟩
      rw [List.length_set] at hi
      have ei := tc_eq 77 i
      rw [getD_set d3]
      by_cases e : i = d
      · rw [if_pos e, e]
        exact hT3
      · rw [if_neg e]
        exact (S1.2.2.2.2.2 i hi).fr (r3 _ (by omega) (by omega) (by omega)) (r3 _ (by omega) (by omega) (by omega))
    have F3 : PFs μ μ3 := f1.ps.tr ⟨fun b hb => r3 b (by omega) (by omega) (by omega), fun j _ _ _ => by rw [r3 72 (by omega) (by omega) (by omega)]⟩
    have t3 : TkC μ3 u := by unfold TkC; rw [r3 72 (by omega) (by omega) (by omega)]; exact t1
    refine c_nextI (hB.ps F3) t3 n1.1 fun μ4 t4 f4 => ?_
    exact hQ.2 μ4 _ _ rfl (F3.tr f4.ps) (CSt.fn ⟨S1.1.fr fun b g1 g2 => r3 b (by omega) (by omega) (by omega), C3⟩ f4) t4
  · rw [if_pos rfl]
    rw [hY] at hQ
    dsimp only at hQ
    have r2 : ∀ b, b < 130 ∨ 138 ≤ b → μ2 b = μ1 b := fun b hb => hF2 b (by omega) (by omega) (by omega)
    have F2 : PFs μ μ2 := f1.ps.tr ⟨fun b hb => r2 b (by omega), fun j _ _ _ => by rw [r2 72 (by decide)]⟩
    have t2 : TkC μ2 u := by unfold TkC; rw [r2 72 (by decide)]; exact t1
    exact c_pFailI hQ F2 rfl rfl t2 (S1.2.1.fr fun b g1 g2 => r2 b (by omega))
/-- an item's branch -/
theorem IQ.tr {μ0 : Mem} {R : PE ⊕ (St × Tk)} {Q : Bool → Mem → Prop} (h : IQ μ0 R Q) (hF : PFs μ0 μ) : IQ μ R Q := ⟨fun μ' e h1 h2 h3 h4 h5 => h.1 μ' e h1 (hF.te h2) h3 h4 h5, fun μ' S' t' h1 h2 h3 h4 => h.2 μ' S' t' h1 (hF.tr h2) h3 h4⟩
def runK (v2 : Int) (W : Int → Mem → Prop) (Q : Bool → Mem → Prop) : Bool → Mem → Prop := fun r μ' => d_Parser_run_j194 v2 (b2i r) μ' W Q
theorem c_pItem {v2 : Int} {W : Int → Mem → Prop} {Q : Bool → Mem → Prop} (hB : PTx μ B) (ht : TkC μ t) (tok : tkok B t) (hS : CSt μ S) (hok : POK S) (hQ : IQ μ (itm B S t) (runK v2 W Q)) :
    d_Parser_isWord 1 μ (fun r11 => if r11 = true then (d_Parser_readSymbol μ (fun r13 μ14 => d_Parser_run_j194 v2 (b2i r13) μ14 W Q)) else (d_Parser_isWord 2 μ (fun r15 => if r15 = true then (d_Parser_readRule μ (fun r17 μ18 => d_Parser_run_j194 v2 (b2i r17) μ18 W Q)) else (d_Parser_isWord 3 μ (fun r19 => if r19 = true then (d_Parser_readPlainTerm μ (fun r21 μ22 => d_Parser_run_j194 v2 (b2i r21) μ22 W Q)) else (d_Parser_isWord 4 μ (fun r23 => if r23 = true then (d_Parser_readCopy μ (fun r25 μ26 => d_Parser_run_j194 v2 (b2i r25) μ26 W Q)) else (d_Parser_isWord 5 μ (fun r27 => if r27 = true then (d_Parser_readFlip μ (fun r29 μ30 => d_Parser_run_j194 v2 (b2i r29) μ30 W Q)) else (d_Parser_isWord 6 μ (fun r31 => if r31 = true then (d_Parser_readStep μ (fun r33 μ34 => d_Parser_run_j194 v2 (b2i r33) μ34 W Q)) else (d_Parser_fail 1 μ (fun r35 μ36 => d_Parser_run_j194 v2 (b2i r35) μ36 W Q))))))))))))) := by
  unfold itm at hQ
  refine c_isWord hB ht tok (by decide) ?_
  by_cases h1 : isW B t (jlit 1) = true
  · rw [if_pos h1] at hQ ⊢
    exact c_pReadSymbol hB ht tok hS hok hQ
  rw [if_neg h1] at hQ ⊢
  refine c_isWord hB ht tok (by decide) ?_
  by_cases h2 : isW B t (jlit 2) = true
  · rw [if_pos h2] at hQ ⊢
    exact c_pReadRule hB ht tok hS hok hQ
  rw [if_neg h2] at hQ ⊢
  refine c_isWord hB ht tok (by decide) ?_
  by_cases h3 : isW B t (jlit 3) = true
  · rw [if_pos h3] at hQ ⊢
    exact c_pReadTermI hB ht tok hS hok hQ
  rw [if_neg h3] at hQ ⊢
  refine c_isWord hB ht tok (by decide) ?_
  by_cases h4 : isW B t (jlit 4) = true
  · rw [if_pos h4] at hQ ⊢
    exact c_pReadCopy hB ht tok hS hok hQ
  rw [if_neg h4] at hQ ⊢
  refine c_isWord hB ht tok (by decide) ?_
  by_cases h5 : isW B t (jlit 5) = true
  · rw [if_pos h5] at hQ ⊢
    exact c_pReadFlip hB ht tok hS hok hQ
  rw [if_neg h5] at hQ ⊢
  refine c_isWord hB ht tok (by decide) ?_
  by_cases h6 : isW B t (jlit 6) = true
  · rw [if_pos h6] at hQ ⊢
    exact c_pReadStep hB ht tok hS hok hQ
  rw [if_neg h6] at hQ ⊢
  refine c_pFail (a := 77) (e := (1, t.2.1)) rfl ht fun μ' f' q0 q1 => hQ.1 μ' _ rfl (f'.pr (by decide) (by decide)) (hS.2.1.fe f' fun i _ => ne77 i) q0 q1
theorem c_pRun {n : Nat} {v : Int} {Q : Bool → Mem → Prop} (hv : v = (B.length : Int)) (hSg : Sg (μ 129) 0 B) (h500 : B.length ≤ 500) (hP : SP μ 77)
    (kE : ∀ μ' e, prsT B = .inl e → (∀ b, b < 72 ∨ 139 ≤ b ∨ b = 129 → μ' b = μ b) → μ' 72 4 = μ 72 4 → SP μ' 77 → μ' 72 0 = e.1 → μ' 72 1 = ((e.2 : Nat) : Int) → Q false μ')
    (kS : ∀ μ' S, prsT B = .inr S → (∀ b, b < 72 ∨ 139 ≤ b ∨ b = 129 → μ' b = μ b) → μ' 72 4 = μ 72 4 → CSt μ' S → μ' 72 0 = 0 → μ' 72 1 = -1 → Q true μ') : d_Parser_run v μ Q := by
  unfold d_Parser_run d_State_clear
  have r7 : ∀ b, b ≠ 72 → b ≠ 73 → b ≠ 77 → mup (mup (mup (mup (mup (mup (mup μ 72 8 v) 72 11 0) 72 0 0) 72 1 (-1)) 73 0 0) 77 0 0) 77 1 0 b = μ b := fun b k1 k2 k3 => by rw [mup_r k3, mup_r k3, mup_r k2, mup_r k1, mup_r k1, mup_r k1, mup_r k1]
  have s72 : mup (mup (mup (mup (mup (mup (mup μ 72 8 v) 72 11 0) 72 0 0) 72 1 (-1)) 73 0 0) 77 0 0) 77 1 0 72 = mup (mup (mup (mup μ 72 8 v) 72 11 0) 72 0 0) 72 1 (-1) 72 := by rw [mup_r (by decide), mup_r (by decide), mup_r (by decide)]
  have s73 : mup (mup (mup (mup (mup (mup (mup μ 72 8 v) 72 11 0) 72 0 0) 72 1 (-1)) 73 0 0) 77 0 0) 77 1 0 73 0 = 0 := by rw [mup_r (by decide), mup_r (by decide), mup_s]
  have s77 : mup (mup (mup (mup (mup (mup (mup μ 72 8 v) 72 11 0) 72 0 0) 72 1 (-1)) 73 0 0) 77 0 0) 77 1 0 77 0 = 0 ∧ mup (mup (mup (mup (mup (mup (mup μ 72 8 v) 72 11 0) 72 0 0) 72 1 (-1)) 73 0 0) 77 0 0) 77 1 0 77 1 = 0 := ⟨by rw [mup_k (by decide), mup_s], mup_s⟩
  show d_Parser_next (mup (mup (mup (mup (mup (mup (mup μ 72 8 v) 72 11 0) 72 0 0) 72 1 (-1)) 73 0 0) 77 0 0) 77 1 0) _
  have a8 : mup (mup (mup (mup μ 72 8 v) 72 11 0) 72 0 0) 72 1 (-1) 72 8 = v := by rw [mup_k (by decide), mup_k (by decide), mup_k (by decide), mup_s]
  have a11 : mup (mup (mup (mup μ 72 8 v) 72 11 0) 72 0 0) 72 1 (-1) 72 11 = 0 := by rw [mup_k (by decide), mup_k (by decide), mup_s]
  have a0 : mup (mup (mup (mup μ 72 8 v) 72 11 0) 72 0 0) 72 1 (-1) 72 0 = 0 := by rw [mup_k (by decide), mup_s]
  have a1 : mup (mup (mup (mup μ 72 8 v) 72 11 0) 72 0 0) 72 1 (-1) 72 1 = -1 := mup_s
  have a4 : mup (mup (mup (mup μ 72 8 v) 72 11 0) 72 0 0) 72 1 (-1) 72 4 = μ 72 4 := by rw [mup_k (by decide), mup_k (by decide), mup_k (by decide), mup_k (by decide)]
  rw [← s72] at a8 a11 a0 a1 a4
  generalize mup (mup (mup (mup (mup (mup (mup μ 72 8 v) 72 11 0) 72 0 0) 72 1 (-1)) 73 0 0) 77 0 0) 77 1 0 = μ0 at *
  have B0 : PTx μ0 B := ⟨by rw [a8, hv], by rw [r7 129 (by decide) (by decide) (by decide)]; exact hSg, h500⟩
  have P0 : SP μ0 77 := hP.fr fun b g1 g2 => r7 b (by omega) (by omega) (by omega)
  have S0 : CSt μ0 ([], ([], [])) := ⟨⟨s73, fun i hi => absurd hi (by simp)⟩, P0, ⟨s77.1, Nat.zero_le _, fun i hi => absurd hi (by simp)⟩, ⟨s77.2, Nat.zero_le _, fun i hi => absurd hi (by simp)⟩⟩
  have kE' : ∀ μ' e, prsT B = .inl e → PFr μ0 μ' → SP μ' 77 → μ' 72 0 = e.1 → μ' 72 1 = ((e.2 : Nat) : Int) → Q false μ' := fun μ' e h1 h2 h3 h4 h5 => kE μ' e h1 (fun b hb => by rw [h2.1 b hb, r7 b (by omega) (by omega) (by omega)]) (by rw [h2.2 4 (by decide) (by decide) (by decide) (by decide) (by decide)]; exact a4) h3 h4 h5
  have kS' : ∀ μ' S, prsT B = .inr S → PFs μ0 μ' → CSt μ' S → Q true μ' := fun μ' S h1 h2 h3 => kS μ' S h1 (fun b hb => by rw [h2.1 b hb, r7 b (by omega) (by omega) (by omega)]) (by rw [h2.2 4 (by decide) (by decide) (by decide)]; exact a4) h3 (by rw [h2.2 0 (by decide) (by decide) (by decide)]; exact a0) (by rw [h2.2 1 (by decide) (by decide) (by decide)]; exact a1)
  unfold prsT at kE' kS'
  refine c_next B0 (p := 0) a11 (Nat.zero_le _) fun μ1 t1 f1 => ?_
  have n1 := nx_ok (B := B) (p := 0) (Nat.zero_le _)
  generalize nx B 0 = u at *
  have S1 := S0.fn f1
  refine c_isWord (B0.fn f1) t1 n1.1 (by decide) ?_
  by_cases hw : isW B u (jlit 0) = true
  · rw [if_pos hw] at kE' kS'
    rw [if_pos hw]
    refine c_nextI (B0.fn f1) t1 n1.1 fun μ2 t2 f2 => ?_
    have n2 := nx_le n1.1
    have F2 := f1.ps.tr f2.ps
    generalize nx B u.2.2 = w at *
    refine i_Parser_run_l60 (Inv := fun v2 μ3 => ∃ (i : Nat) (S : St) (t3 : Tk), v2 = (i : Int) ∧ i ≤ t3.2.1 ∧ PFs μ0 μ3 ∧ CSt μ3 S ∧ POK S ∧ TkC μ3 t3 ∧ tkok B t3 ∧ its B 501 ([], ([], [])) w = its B (501 - i) S t3) (fun v2 _ => 501 - v2.toNat) ?_ 0 μ2 ⟨0, _, w, rfl, Nat.zero_le _, F2, S1.fn f2, POK_0, t2, n2.1, rfl⟩
    rintro v2 μ3 ⟨i, S, t3, e2, hi, F3, S3, ok3, tk3, tok3, hE⟩ W hW
    unfold d_Parser_run_b60
    have hi500 : i ≤ 500 := Nat.le_trans hi (Nat.le_trans tok3.1 h500)
    rw [if_neg (by omega), tk3.1]
    rw [hE] at kE' kS'
    obtain ⟨f, hf⟩ : ∃ f, 501 - i = f + 1 := ⟨500 - i, by omega⟩
    rw [hf, its] at kE' kS'
    by_cases h0 : t3.1 = 0
    · rw [if_pos h0]
      rw [if_pos h0] at kS'
      exact kS' μ3 S rfl F3 S3
    · rw [if_neg h0]
      rw [if_neg h0] at kE' kS'
      by_cases h59 : t3.1 = 59
      · rw [if_pos h59]
        rw [if_neg (fun q => q h59)] at kE' kS'
        refine c_nextI (B0.ps F3) tk3 tok3 fun μ4 t4 f4 => ?_
        have n4 := nx_le tok3
        have st4 : t3.2.1 + 1 ≤ (nx B t3.2.2).2.1 := by
          have h1 := tok3.2.2.2.1 h0
          have h2 := (nx_ok (B := B) (p := t3.2.2) tok3.2.1).2
          omega
        have hlt : i < 500 := by have := tok3.2.2.2.1 h0; have := tok3.2.1; omega
        generalize hx : nx B t3.2.2 = x at *
        have F4 := F3.tr f4.ps
        refine c_pItem (B0.ps F4) t4 n4.1 (S3.fn f4) ok3 ⟨fun μ' e h1 h2 h3 h4 h5 => ?_, fun μ' S' t' h1 h2 h3 h4 => ?_⟩
        · unfold runK d_Parser_run_j194
          rw [if_pos (by rfl)]
          rw [h1] at kE'
          exact kE' μ' e rfl (F4.te h2) h3 h4 h5
        · unfold runK d_Parser_run_j194
          rw [if_neg (by decide)]
          have hk := itm_tk n4.1 h1
          rw [wr_eq (i + 1) (show v2 + 1 = ((i + 1 : Nat) : Int) by omega) (by omega)]
          refine hW _ _ ⟨i + 1, S', t', rfl, by omega, F4.tr h2, h3, itm_ok n4.1 ok3 h1, h4, hk.1, ?_⟩ (by rw [Int.toNat_natCast]; omega)
          rw [hE, hf, its, if_neg h0, if_neg (fun q => q h59), hx, h1, show 501 - (i + 1) = f by omega]
      · rw [if_neg h59]
        rw [if_pos h59] at kE'
        refine c_pFail (a := 77) (e := (1, t3.2.1)) rfl tk3 fun μ' f' q0 q1 => kE' μ' _ rfl (F3.te (f'.pr (by decide) (by decide))) (S3.2.1.fe f' fun i _ => ne77 i) q0 q1
  · rw [if_neg hw] at kE' kS'
    rw [if_neg hw]
    refine c_pFail (a := 77) (e := (1, u.2.1)) rfl t1 fun μ' f' q0 q1 => kE' μ' _ rfl (f1.ps.te (f'.pr (by decide) (by decide))) (S1.2.1.fe f' fun i _ => ne77 i) q0 q1
end R77

