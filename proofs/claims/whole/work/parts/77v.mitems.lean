/-! THE REFERENCE: items of a text -/
def MSt (μ : Mem) (S : St) : Prop := MNw (μ 773) 0 S.1 S.2
def IM (μ : Mem) (R : PE ⊕ (St × Tk)) (Q : Mem → Prop) : Prop := (∀ μ' e, R = .inl e → Gm pmR pmF μ μ' → ER μ' e → Q μ') ∧ ∀ μ' S' t', R = .inr (S', t') → Gm pmR pmG μ μ' → MSt μ' S' → TkM μ' t' → Q μ'
theorem IM.tr {μ0 μ : Mem} {R : PE ⊕ (St × Tk)} {Q : Mem → Prop} (h : IM μ0 R Q) (hF : Gm pmR pmG μ0 μ) : IM μ R Q := ⟨fun μ' e h1 h2 h3 => h.1 μ' e h1 (hF.tr h2 (by decide) (by decide) (by decide) (by decide)) h3, fun μ' S' t' h1 h2 h3 h4 => h.2 μ' S' t' h1 (hF.same h2) h3 h4⟩
section V77
variable {μ : Mem} {B : List Int} {S : St} {t : Tk} {e : PE}
theorem MSt.gm {μ' : Mem} (h : MSt μ S) (hg : μ' 773 = μ 773) : MSt μ' S := by
  unfold MSt
  rw [hg]
  exact h
theorem MSt.sy (h : MSt μ S) : MSy μ S.1 := fun i hi => by
  have := h.2.2.2.1 i hi
  rw [Nat.zero_add, Nat.zero_add, Nat.zero_add] at this
  exact this
theorem MSt.n0 (h : MSt μ S) : μ 773 0 = (S.1.length : Int) ∧ μ 773 1 = (S.2.1.length : Int) ∧ μ 773 2 = (S.2.2.length : Int) := ⟨h.1, h.2.1, h.2.2.1⟩
theorem MSt.AR (h : MSt μ S) (ok : POK S) : AR μ (arS S.1) := h.sy.AR ok.1
theorem MSt.rules (h : MSt μ S) (ok : POK S) : MRs μ S.2.1 := by
  refine ⟨h.2.1, ok.2.1, fun i hi => ?_⟩
  obtain ⟨h1, h2, h3, h4⟩ := h.2.2.2.2.1 i hi
  have ho := ok.2.2.2.1 _ (getD_mem (d := ([], [])) hi)
  rw [Nat.zero_add] at h1 h2 h3 h4
  have := ok.2.1
  exact ⟨by omega, ho.1.2.1, ho.2.1.2.1, h1, by rw [show 67 + 26 * i + 1 = 68 + 26 * i by omega]; exact h2, by rw [show 67 + 26 * i + 2 = 69 + 26 * i by omega]; exact h3, by rw [show 67 + 26 * i + 14 = 81 + 26 * i by omega]; exact h4⟩
theorem MSt.term (h : MSt μ S) {i : Nat} (hi : i < S.2.2.length) : μ 773 (223 + 81 * i) = ((S.2.2.getD i []).length : Int) ∧ Me (μ 773) (224 + 81 * i) (S.2.2.getD i []) := by
  have := h.2.2.2.2.2 i hi
  rw [Nat.zero_add, Nat.zero_add] at this
  exact this
theorem TkM.gm {μ' : Mem} (h : TkM μ t) (h13 : μ' 772 13 = μ 772 13) (h14 : μ' 772 14 = μ 772 14) (h15 : μ' 772 15 = μ 772 15) : TkM μ' t := by
  unfold TkM
  rw [h13, h14, h15]
  exact h
theorem ER.gm {μ' : Mem} (h : ER μ e) (h10 : μ' 772 10 = μ 772 10) (h11 : μ' 772 11 = μ 772 11) : ER μ' e := by
  unfold ER
  rw [h10, h11]
  exact h
theorem gmG {μ1 : Mem} (h : Gm [] [13, 14, 15] μ μ1) : Gm pmR pmG μ μ1 := h.mono (by decide) (by decide)
theorem gmE {μ1 : Mem} (h : Gm [] [10, 11] μ μ1) : Gm pmR pmF μ μ1 := h.mono (by decide) (by decide)
theorem gmGE {μ1 μ2 : Mem} (h1 : Gm pmR pmG μ μ1) (h2 : Gm pmR pmF μ1 μ2) : Gm pmR pmF μ μ2 := h1.tr h2 (by decide) (by decide) (by decide) (by decide)
theorem gm773 {a k : Nat} {z : Int} (ha : a = 773) : Gm pmR pmG μ (mup μ a k z) := by
  subst ha
  exact (Gm.upR (a := 773) (by decide)).mono (by decide) (by decide)
theorem c_readsSymbol {Q : Mem → Prop} (hB : PMx μ B) (h0 : μ 772 10 = 0) (ht : TkM μ t) (tok : tkok B t) (hS : MSt μ S) (hok : POK S) (hQ : IM μ (iSym B S t) Q) : d_Md_readsSymbol μ Q := by
  unfold d_Md_readsSymbol
  unfold iSym at hQ
  have h8 := hok.1.1
  have h500 := hB.2.2.1
  -- behind an error
  have j49E : ∀ μ1 e, ER μ1 e → Q μ1 → d_Md_readsSymbol_j49 μ1 Q := by
    intro μ1 e h1 hq
    unfold d_Md_readsSymbol_j49
    rw [if_pos (by rw [h1.1]; exact h1.2.2)]
    exact hq
  rw [hS.n0.1]
  by_cases l8 : 8 ≤ S.1.length
  · rw [if_pos l8] at hQ
    rw [if_pos (by omega)]
    refine c_faults h0 ht (by decide) fun μ1 h1 g1 => ?_
    unfold d_Md_readsSymbol_j16
    refine e_goes h1 (e_is h1 ?_)
    rw [if_neg (by decide)]
    exact e_faults h1 (j49E _ _ h1 (hQ.1 μ1 _ rfl (gmE g1) h1))
  · rw [if_neg l8] at hQ
    rw [if_neg (by omega)]
    unfold d_Md_readsSymbol_j16
    refine c_goesT hB h0 ht tok fun μ1 t1 g1 => ?_
    have n1 := nx_le tok
    have v1 := nx_v B t.2.2
    generalize nx B t.2.2 = u at *
    have B1 := hB.gm g1 (by decide) (by decide)
    have z1 : μ1 772 10 = 0 := by rw [g1.2 10 (by decide)]; exact h0
    have S1 : MSt μ1 S := hS.gm (g1.1 773 (by decide) (by decide))
    have kk := kM_iff u.1
    refine c_is z1 t1 (fun hk => ?_) (fun hk => ?_)
    · have hk := kk.2.1.mp hk
      rw [if_neg (fun q => q hk)] at hQ
      rw [if_pos rfl]
      refine c_symbolHere B1 t1 n1.1 S1.sy hok.1 S1.n0.1 ?_
      by_cases hf : fnS S.1 (wd B u) 0 = -1
      · rw [if_neg (fun q => q hf)] at hQ
        rw [if_pos hf]
        unfold d_Md_readsSymbol_j49
        have hwl := wd_len n1.1
        obtain ⟨u1, u2, u3, u4, u5, u6⟩ := id n1.1
        have hu6 := u6 hk
        have hut := u4 (by rw [hk]; decide)
        have ev1 : wr (3 + wr (8 * (S.1.length : Int))) = ((3 + 8 * S.1.length : Nat) : Int) := by simp (disch := omega) only [wr_id]; omega
        rw [if_neg (by omega), S1.n0.1, ev1, wr_eq (4 + 8 * S.1.length) (show ((3 + 8 * S.1.length : Nat) : Int) + 1 = ((4 + 8 * S.1.length : Nat) : Int) by omega) (by omega), t1.2.1, t1.2.2, wr_eq (wd B u).length (show ((u.2.2 : Nat) : Int) - ((u.2.1 : Nat) : Int) = (((wd B u).length : Nat) : Int) by omega) (by omega), Int.toNat_natCast]
        clear ev1
        refine ⟨by omega, ?_⟩
        have G2 : Gm pmR pmG μ (mup μ1 773 (4 + 8 * S.1.length) ((wd B u).length : Int)) := (gmG g1).same (gm773 rfl)
        refine i_Md_readsSymbol_l88 (Inv := fun v2 μ2 => ∃ k : Nat, v2 = (k : Int) ∧ k ≤ (wd B u).length ∧ Sg (μ2 773) (5 + 8 * S.1.length) ((wd B u).take k) ∧ (∀ x, x < 5 + 8 * S.1.length ∨ 5 + 8 * S.1.length + (wd B u).length ≤ x → μ2 773 x = mup μ1 773 (4 + 8 * S.1.length) ((wd B u).length : Int) 773 x) ∧ Gm [773] [] μ1 μ2) (fun v2 _ => (wd B u).length - v2.toNat) ?_ 0 _ ⟨0, rfl, Nat.zero_le _, by rw [List.take_zero]; exact Sg.nil, fun _ _ => rfl, Gm.upR (by decide)⟩
        rintro v2 μ2 ⟨k, e2, hk2, g2, g3, gF⟩ W hW
        unfold d_Md_readsSymbol_b88
        have t2 : TkM μ2 u := t1.gm (gF.2 13 (by decide)) (gF.2 14 (by decide)) (gF.2 15 (by decide))
        have B2 := B1.gm gF (by decide) (by decide)
        have z2 : μ2 772 10 = 0 := by rw [gF.2 10 (by decide)]; exact z1
        rw [t2.2.1, t2.2.2, wr_eq (wd B u).length (show ((u.2.2 : Nat) : Int) - ((u.2.1 : Nat) : Int) = (((wd B u).length : Nat) : Int) by omega) (by omega)]
        by_cases hkl : k < (wd B u).length
        · obtain ⟨b1, b2⟩ := B2.byte (k := u.2.1 + k) (by omega)
          have hw := hu6.2 _ (gm0 hkl)
          rw [wd_get (by omega)] at hw
          rw [if_pos (by omega), wr_eq (u.2.1 + k) (show ((u.2.1 : Nat) : Int) + v2 = ((u.2.1 + k : Nat) : Int) by omega) (by omega), wr_eq (5 + 8 * S.1.length) (show ((3 + 8 * S.1.length : Nat) : Int) + 2 = ((5 + 8 * S.1.length : Nat) : Int) by omega) (by omega), wr_eq (5 + 8 * S.1.length + k) (show ((5 + 8 * S.1.length : Nat) : Int) + v2 = ((5 + 8 * S.1.length + k : Nat) : Int) by omega) (by omega), wr_eq (k + 1) (show v2 + 1 = ((k + 1 : Nat) : Int) by omega) (by omega), Int.toNat_natCast, Int.toNat_natCast, b1, sg8_lo (by omega)]
          refine ⟨by omega, by omega, ?_⟩
          refine hW _ _ ⟨k + 1, rfl, by omega, ?_, fun x hx => ?_, gF.same (Gm.upR (by decide))⟩ (by rw [Int.toNat_natCast]; omega)
          · have hlt : ((wd B u).take k).length = k := by rw [List.length_take]; omega
            rw [take_1r hkl]
            refine Sg.app (g2.congr fun x hx => by rw [hlt] at hx; rw [mup_k (by omega)]) (Sg.one ?_)
            rw [hlt, mup_s, wd_get (by omega)]
          · rw [mup_k (by omega)]
            exact g3 x hx
        · rw [if_neg (by omega)]
          have ek : k = (wd B u).length := by omega
          rw [ek, List.take_length] at g2
          have G3 : Gm pmR pmG μ μ2 := (gmG g1).same (gF.mono (by decide) (by decide))
          refine c_goesT B2 z2 t2 n1.1 fun μ3 t3 g4 => ?_
          have n2 := nx_le n1.1
          have v2' := nx_v B u.2.2
          generalize nx B u.2.2 = w at *
          have B3 := B2.gm g4 (by decide) (by decide)
          have z3 : μ3 772 10 = 0 := by rw [g4.2 10 (by decide)]; exact z2
          have G4 : Gm pmR pmG μ μ3 := G3.same (gmG g4)
          have ev0 : wr (((3 + 8 * S.1.length : Nat) : Int) + 0) = ((3 + 8 * S.1.length : Nat) : Int) := wr_eq _ (by omega) (by omega)
          refine c_digitHere (m := 4) (by decide) B3 z3 t3 n2.1 v2' (fun hd => ?_) (fun hd μ4 h4 g5 => ?_)
          · rw [if_neg (fun q => q hd)] at hQ
            obtain ⟨d1, d2, d3⟩ := dgt_0 v2' hd
            rw [ev0, Int.toNat_natCast]
            refine ⟨by omega, ?_⟩
            have gx : Gm [773] [] μ3 (mup μ3 773 (3 + 8 * S.1.length) (dgv B w)) := Gm.upR (by decide)
            refine c_goesT (B3.gm gx (by decide) (by decide)) (by rw [mup_r (by decide)]; exact z3) (t3.gm (gx.2 13 (by decide)) (gx.2 14 (by decide)) (gx.2 15 (by decide))) n2.1 fun μ5 t5 g6 => ?_
            have e773 : μ5 773 = mup μ3 773 (3 + 8 * S.1.length) (dgv B w) 773 := g6.1 773 (by decide) (by decide)
            have e3 : μ3 773 = μ2 773 := g4.1 773 (by decide) (by decide)
            have row : ∀ x, x ≠ 3 + 8 * S.1.length → x ≠ 4 + 8 * S.1.length → (x < 5 + 8 * S.1.length ∨ 5 + 8 * S.1.length + (wd B u).length ≤ x) → μ5 773 x = μ 773 x := fun x q1 q2 q3 => by rw [e773, mup_k q1, e3, g3 x q3, mup_k q2, g1.1 773 (by decide) (by decide)]
            have hn := hS.n0
            have e0 : μ5 773 0 = (S.1.length : Int) := by rw [row 0 (by omega) (by omega) (by omega)]; exact hn.1
            rw [e0, wr_eq (S.1.length + 1) (show (S.1.length : Int) + 1 = ((S.1.length + 1 : Nat) : Int) by omega) (by omega)]
            have G6 : Gm pmR pmG μ (mup μ5 773 0 ((S.1.length + 1 : Nat) : Int)) := ((G4.same (gm773 rfl)).same (gmG g6)).same (gm773 rfl)
            have row6 : ∀ x, x ≠ 0 → x ≠ 3 + 8 * S.1.length → x ≠ 4 + 8 * S.1.length → (x < 5 + 8 * S.1.length ∨ 5 + 8 * S.1.length + (wd B u).length ≤ x) → mup μ5 773 0 ((S.1.length + 1 : Nat) : Int) 773 x = μ 773 x := fun x q0 q1 q2 q3 => by rw [mup_k q0, row x q1 q2 q3]
            refine hQ.2 _ _ _ rfl G6 ?_ (t5.gm (by rw [mup_r (by decide)]) (by rw [mup_r (by decide)]) (by rw [mup_r (by decide)]))
            obtain ⟨m1, m2, m3, m4, m5, m6⟩ := hS
            have w6 : (wd B u).length ≤ 6 := by omega
            refine ⟨by rw [mup_s, List.length_append, List.length_singleton], by rw [row6 (0 + 1) (by omega) (by omega) (by omega) (by omega)]; exact m2, by rw [row6 (0 + 2) (by omega) (by omega) (by omega) (by omega)]; exact m3, fun i hi => ?_, fun i hi => ?_, fun i hi => ?_⟩
            · rw [List.length_append, List.length_singleton] at hi
              by_cases ei : i = S.1.length
              · have eg : (S.1 ++ [((dgv B w).toNat, wd B u)]).getD i (0, []) = ((dgv B w).toNat, wd B u) := by
                  rw [getD_app_r (by omega), ei, Nat.sub_self]
                  rfl
                rw [eg, ei]
                refine ⟨?_, ?_, ?_⟩
                · rw [mup_k (by omega), e773, show 0 + 3 + 8 * S.1.length = 3 + 8 * S.1.length by omega, mup_s]
                  dsimp only
                  omega
                · rw [mup_k (by omega), e773, mup_k (by omega), e3, g3 _ (by omega), show 0 + 4 + 8 * S.1.length = 4 + 8 * S.1.length by omega, mup_s]
                · rw [show 0 + 5 + 8 * S.1.length = 5 + 8 * S.1.length by omega]
                  exact g2.congr fun x hx => by rw [mup_k (by omega), e773, mup_k (by omega), e3]
              · have eg : (S.1 ++ [((dgv B w).toNat, wd B u)]).getD i (0, []) = S.1.getD i (0, []) := getD_app_l (by omega)
                rw [eg]
                obtain ⟨k1, k2, k3⟩ := m4 i (by omega)
                have hl6 := (hok.1.2 _ (getD_mem (d := (0, [])) (show i < S.1.length by omega))).2.2.1
                exact ⟨by rw [row6 _ (by omega) (by omega) (by omega) (by omega)]; exact k1, by rw [row6 _ (by omega) (by omega) (by omega) (by omega)]; exact k2, k3.congr fun x hx => row6 _ (by omega) (by omega) (by omega) (by omega)⟩
            · obtain ⟨k1, k2, k3, k4⟩ := m5 i hi
              have h6 := hok.2.1
              exact ⟨by rw [row6 _ (by omega) (by omega) (by omega) (by omega)]; exact k1, by rw [row6 _ (by omega) (by omega) (by omega) (by omega)]; exact k2, k3.congr fun x hx => row6 _ (by omega) (by omega) (by omega) (by omega), k4.congr fun x hx => row6 _ (by omega) (by omega) (by omega) (by omega)⟩
            · obtain ⟨k1, k2⟩ := m6 i hi
              exact ⟨by rw [row6 _ (by omega) (by omega) (by omega) (by omega)]; exact k1, k2.congr fun x hx => row6 _ (by omega) (by omega) (by omega) (by omega)⟩
          · rw [if_pos hd] at hQ
            rw [ev0, Int.toNat_natCast]
            refine ⟨by omega, ?_⟩
            have h5 : ∀ z z' : Int, ER (mup (mup μ4 773 (3 + 8 * S.1.length) z) 773 0 z') (dgt B 4 w, w.2.1) := fun z z' => h4.gm (by rw [mup_r (by decide), mup_r (by decide)]) (by rw [mup_r (by decide), mup_r (by decide)])
            have h6 : ∀ z : Int, ER (mup μ4 773 (3 + 8 * S.1.length) z) (dgt B 4 w, w.2.1) := fun z => h4.gm (by rw [mup_r (by decide)]) (by rw [mup_r (by decide)])
            refine e_goes (h6 0) ?_
            exact hQ.1 _ _ rfl (gmGE G4 ((gmE g5).tr ((gm773 rfl).same (gm773 rfl)) (by decide) (by decide) (by decide) (by decide))) (h5 _ _)
      · rw [if_pos hf] at hQ
        rw [if_neg hf]
        exact c_faults z1 t1 (by decide) fun μ2 h2 g2 => j49E _ _ h2 (hQ.1 μ2 _ rfl (gmGE (gmG g1) (gmE g2)) h2)
    · have hk : ¬ u.1 = 97 := fun q => hk (kk.2.1.mpr q)
      rw [if_pos hk] at hQ
      rw [if_neg (by decide)]
      exact c_faults z1 t1 (by decide) fun μ2 h2 g2 => j49E _ _ h2 (hQ.1 μ2 _ rfl (gmGE (gmG g1) (gmE g2)) h2)
/-- reading a term behind an error -/
theorem e_readTerm {v1 v2 v3 : Int} {Q : Int → Mem → Prop} (h : ER μ e) (k : ∀ w μ', ER μ' e → Gm pmR pmG μ μ' → Q w μ') : d_Md_readTerm v1 v2 v3 μ Q := by
  unfold d_Md_readTerm d_Md_readsOne d_Md_readsNode
  have hG0 : Gm [] [17, 18, 19, 20] μ (mup (mup (mup (mup μ 772 19 v1) 772 20 v2) 772 18 0) 772 17 0) := (((Gm.upF (k := 19)).tr (Gm.upF (k := 20)) (r := []) (f := [19, 20]) (by decide) (by decide) (by decide) (by decide)).tr (Gm.upF (k := 18)) (r := []) (f := [18, 19, 20]) (by decide) (by decide) (by decide) (by decide)).tr (Gm.upF (k := 17)) (by decide) (by decide) (by decide) (by decide)
  have h1 : ER (mup (mup (mup (mup μ 772 19 v1) 772 20 v2) 772 18 0) 772 17 0) e := h.gm (hG0.2 10 (by decide)) (hG0.2 11 (by decide))
  have e17 : mup (mup (mup (mup μ 772 19 v1) 772 20 v2) 772 18 0) 772 17 0 772 17 = 0 := mup_s
  generalize mup (mup (mup (mup μ 772 19 v1) 772 20 v2) 772 18 0) 772 17 0 = μ0 at *
  refine e_is h1 ?_
  rw [if_neg (by decide)]
  refine e_is h1 ?_
  rw [if_neg (by decide)]
  refine e_faults h1 ?_
  dsimp only
  rw [if_pos rfl]
  unfold d_Md_readsEnds
  intro W hW
  apply hW
  unfold d_Md_readsEnds_b0
  rw [e17, if_neg (by decide)]
  intro W2 hW2
  apply hW2
  unfold d_Md_readTerm_b25
  rw [e17, if_neg (by decide)]
  exact k _ μ0 h1 (hG0.mono (by decide) (by decide))
theorem ru (n : Nat) (h : n ≤ 6) : wr (wr (67 + wr (26 * (n : Int))) + 2) = ((69 + 26 * n : Nat) : Int) ∧ wr (wr (67 + wr (26 * (n : Int))) + 0) = ((67 + 26 * n : Nat) : Int) ∧ wr (wr (67 + wr (26 * (n : Int))) + 14) = ((81 + 26 * n : Nat) : Int) ∧ wr (wr (67 + wr (26 * (n : Int))) + 1) = ((68 + 26 * n : Nat) : Int) := by
  refine ⟨?_, ?_, ?_, ?_⟩
  · simp (disch := omega) only [wr_id]; omega
  · simp (disch := omega) only [wr_id]; omega
  · simp (disch := omega) only [wr_id]; omega
  · simp (disch := omega) only [wr_id]; omega
theorem c_readsRule {Q : Mem → Prop} (hB : PMx μ B) (h0 : μ 772 10 = 0) (ht : TkM μ t) (tok : tkok B t) (hS : MSt μ S) (hok : POK S) (hQ : IM μ (iRul B S t) Q) : d_Md_readsRule μ Q := by
  unfold d_Md_readsRule
  unfold iRul at hQ
  have h6 := hok.2.1
  have hn := hS.n0
  -- behind an error, from the left side on
  have tailE : ∀ (μ6 : Mem) (e : PE) (n : Nat) (r5 : Int), n ≤ 6 → ER μ6 e → (∀ μ', ER μ' e → Gm pmR pmG μ6 μ' → Q μ') → ((0 ≤ wr (wr (67 + wr (26 * (n : Int))) + 0) ∧ wr (wr (67 + wr (26 * (n : Int))) + 0) < 709) ∧ d_Md_wants 6 (mup μ6 773 (wr (wr (67 + wr (26 * (n : Int))) + 0)).toNat r5) (fun μ8 => if 0 < (mup μ8 772 21 1) 772 10 then (Q (mup μ8 772 21 1)) else (d_Md_readTerm (wr (wr (67 + wr (26 * (n : Int))) + 14)) 12 1 (mup μ8 772 21 1) (fun r9 μ10 => (0 ≤ wr (wr (67 + wr (26 * (n : Int))) + 1) ∧ wr (wr (67 + wr (26 * (n : Int))) + 1) < 709) ∧ Q (mup (mup (mup μ10 773 (wr (wr (67 + wr (26 * (n : Int))) + 1)).toNat r9) 772 21 0) 773 1 (wr (((mup (mup μ10 773 (wr (wr (67 + wr (26 * (n : Int))) + 1)).toNat r9) 772 21 0) 773 1) + 1))))))) := by
    intro μ6 e n r5 hn6 he hq
    rw [(ru n hn6).2.1, Int.toNat_natCast]
    refine ⟨by omega, ?_⟩
    have h1 : ER (mup μ6 773 (67 + 26 * n) r5) e := he.gm (by rw [mup_r (by decide)]) (by rw [mup_r (by decide)])
    refine e_wants h1 ?_
    have h2 : ER (mup (mup μ6 773 (67 + 26 * n) r5) 772 21 1) e := h1.gm (by rw [mup_k (by decide)]) (by rw [mup_k (by decide)])
    rw [if_pos (by rw [h2.1]; exact h2.2.2)]
    exact hq _ h2 ((gm773 rfl).same ((Gm.upF (k := 21)).mono (by decide) (by decide)))
  rw [hn.2.1]
  by_cases l6 : 6 ≤ S.2.1.length
  · rw [if_pos l6] at hQ
    rw [if_pos (by omega)]
    refine c_faults h0 ht (by decide) fun μ1 h1 g1 => ?_
    unfold d_Md_readsRule_j16
    refine e_goes h1 ?_
    have e1 : μ1 773 1 = (S.2.1.length : Int) := by rw [g1.1 773 (by decide) (by decide)]; exact hn.2.1
    rw [e1]
    have h2 : ER (mup μ1 772 21 0) (5, t.2.1) := h1.gm (by rw [mup_k (by decide)]) (by rw [mup_k (by decide)])
    refine e_readTerm h2 fun w μ2 h3 g2 => ?_
    refine tailE μ2 _ S.2.1.length w (by omega) h3 fun μ' h4 g3 => hQ.1 μ' _ rfl ((gmE g1).tr (((Gm.upF (k := 21)).tr g2 (r := pmR) (f := pmG) (by decide) (by decide) (by decide) (by decide)).same g3) (by decide) (by decide) (by decide) (by decide)) h4
  · rw [if_neg l6] at hQ
    rw [if_neg (by omega)]
    unfold d_Md_readsRule_j16
    refine c_goesT hB h0 ht tok fun μ1 t1 g1 => ?_
    have n1 := nx_le tok
    have v1 := nx_v B t.2.2
    generalize nx B t.2.2 = u at *
    have e1 : μ1 773 1 = (S.2.1.length : Int) := by rw [g1.1 773 (by decide) (by decide)]; exact hn.2.1
    have S1 : MSt μ1 S := hS.gm (g1.1 773 (by decide) (by decide))
    obtain ⟨a1, a2, a3, a4⟩ := ru S.2.1.length h6
    have G1 : Gm pmR pmG μ (mup μ1 772 21 0) := (gmG g1).same ((Gm.upF (k := 21)).mono (by decide) (by decide))
    have B1 := hB.gm G1 (by decide) (by decide)
    have z1 : mup μ1 772 21 0 772 10 = 0 := by rw [G1.2 10 (by decide)]; exact h0
    have t1' : TkM (mup μ1 772 21 0) u := t1.gm (by rw [mup_k (by decide)]) (by rw [mup_k (by decide)]) (by rw [mup_k (by decide)])
    have S1' : MSt (mup μ1 772 21 0) S := S1.gm (mup_r (by decide))
    have e21 : mup μ1 772 21 0 772 21 = 0 := mup_s
    rw [e1]
    generalize mup μ1 772 21 0 = μ2 at *
    refine c_mReadTerm (n := 0) (role := 1) (L := []) (lim := 12) (o := 69 + 26 * S.2.1.length) a1 rfl rfl (by decide) (by decide) B1 z1 t1' n1.1 v1 S1'.sy hok.1 S1'.n0.1 (by omega) (by omega) (by rw [if_neg (by decide)]; exact e21) (fun q => by cases q) (fun μ3 L t3 hL tk3 m3 r3 g3 => ?_) (fun w μ3 e hL h3 g3 => ?_)
    · rw [hL] at hQ
      dsimp only at hQ
      have k3 := rdT_tk _ _ _ _ n1.1 _ _ hL
      have oL := rdT_ok hok.1 _ _ _ _ v1 (rdI_0 _ _ _) _ _ hL
      have lL := oL.1.2.1
      rw [a2, a3, a4, Int.toNat_natCast, Int.toNat_natCast]
      refine ⟨by omega, ?_⟩
      have G3 : Gm pmR pmG μ μ3 := G1.tr g3 (by decide) (by decide) (by decide) (by decide)
      have G4 : Gm pmR pmG μ (mup μ3 773 (67 + 26 * S.2.1.length) (L.length : Int)) := G3.same (gm773 rfl)
      have B4 := hB.gm G4 (by decide) (by decide)
      have z4 : mup μ3 773 (67 + 26 * S.2.1.length) (L.length : Int) 772 10 = 0 := by rw [G4.2 10 (by decide)]; exact h0
      have t4 : TkM (mup μ3 773 (67 + 26 * S.2.1.length) (L.length : Int)) t3 := tk3.gm (by rw [mup_r (by decide)]) (by rw [mup_r (by decide)]) (by rw [mup_r (by decide)])
      have kk := kM_iff t3.1
      refine c_wants B4 z4 t4 k3.1 (fun hk μ5 t5 g5 => ?_) (fun hk μ5 h5 g5 => ?_)
      · rw [if_neg (fun q => q (kk.2.2.2.2.2.1.mp hk))] at hQ
        have n5 := nx_le k3.1
        have v5 := nx_v B t3.2.2
        generalize nx B t3.2.2 = x at *
        have G5 : Gm pmR pmG μ μ5 := G4.same (gmG g5)
        have G6 : Gm pmR pmG μ (mup μ5 772 21 1) := G5.same ((Gm.upF (k := 21)).mono (by decide) (by decide))
        have z6 : mup μ5 772 21 1 772 10 = 0 := by rw [G6.2 10 (by decide)]; exact h0
        rw [if_neg (by omega)]
        have e5 : μ5 773 = mup μ3 773 (67 + 26 * S.2.1.length) (L.length : Int) 773 := g5.1 773 (by decide) (by decide)
        have row5 : ∀ y, y ≠ 67 + 26 * S.2.1.length → (y < 69 + 26 * S.2.1.length ∨ 81 + 26 * S.2.1.length ≤ y) → mup μ5 772 21 1 773 y = μ2 773 y := fun y q1 q2 => by rw [mup_r (by decide), e5, mup_k q1, r3 y (by omega)]
        have s67 : mup μ5 772 21 1 773 (67 + 26 * S.2.1.length) = (L.length : Int) := by rw [mup_r (by decide), e5, mup_s]
        have m6 : Me (mup μ5 772 21 1 773) (69 + 26 * S.2.1.length) L := m3.congr fun y hy => by rw [List.length_map] at hy; rw [mup_r (by decide), e5, mup_k (by omega)]
        have e21' : mup μ5 772 21 1 772 21 = 1 := mup_s
        have t6 : TkM (mup μ5 772 21 1) x := t5.gm (by rw [mup_k (by decide)]) (by rw [mup_k (by decide)]) (by rw [mup_k (by decide)])
        generalize mup μ5 772 21 1 = μ6 at *
        have sy6 : MSy μ6 S.1 := fun i hi => by
          obtain ⟨q1, q2, q3⟩ := S1'.sy i hi
          have hl6 := (hok.1.2 _ (getD_mem (d := (0, [])) hi)).2.2.1
          have h8 := hok.1.1
          exact ⟨by rw [row5 _ (by omega) (by omega)]; exact q1, by rw [row5 _ (by omega) (by omega)]; exact q2, q3.congr fun y hy => row5 _ (by omega) (by omega)⟩
        refine c_mReadTerm (n := S.2.1.length) (role := 2) (L := L) (lim := 12) (o := 81 + 26 * S.2.1.length) rfl rfl rfl (by decide) (by decide) (hB.gm G6 (by decide) (by decide)) z6 t6 n5.1 v5 sy6 hok.1 (by rw [row5 0 (by omega) (by omega)]; exact S1'.n0.1) (by omega) (by omega) (by rw [if_pos rfl]; exact e21') (fun _ => ⟨by rw [row5 1 (by omega) (by omega)]; exact S1'.n0.2.1, by omega, s67, lL, m6, oL.1.2.2, rfl⟩) (fun μ7 R t7 hR tk7 m7 r7 g7 => ?_) (fun w μ7 e hR h7 g7 => ?_)
        · rw [hR] at hQ
          dsimp only at hQ
          refine ⟨by omega, ?_⟩
          have oR := rdT_ok hok.1 _ _ _ _ v5 (rdI_0 _ _ _) _ _ hR
          have lR := oR.1.2.1
          have e81 : mup (mup μ7 773 (68 + 26 * S.2.1.length) (R.length : Int)) 772 21 0 773 1 = (S.2.1.length : Int) := by rw [mup_r (by decide), mup_k (by omega), r7 1 (by omega), row5 1 (by omega) (by omega)]; exact S1'.n0.2.1
          rw [e81, wr_eq (S.2.1.length + 1) (show (S.2.1.length : Int) + 1 = ((S.2.1.length + 1 : Nat) : Int) by omega) (by omega)]
          have G7 : Gm pmR pmG μ μ7 := G6.tr g7 (by decide) (by decide) (by decide) (by decide)
          have G8 : Gm pmR pmG μ (mup (mup (mup μ7 773 (68 + 26 * S.2.1.length) (R.length : Int)) 772 21 0) 773 1 ((S.2.1.length + 1 : Nat) : Int)) := ((G7.same (gm773 rfl)).same ((Gm.upF (k := 21)).mono (by decide) (by decide))).same (gm773 rfl)
          have row8 : ∀ y, y ≠ 1 → y ≠ 68 + 26 * S.2.1.length → mup (mup (mup μ7 773 (68 + 26 * S.2.1.length) (R.length : Int)) 772 21 0) 773 1 ((S.2.1.length + 1 : Nat) : Int) 773 y = μ7 773 y := fun y q1 q2 => by rw [mup_k q1, mup_r (by decide), mup_k q2]
          have s68 : mup (mup (mup μ7 773 (68 + 26 * S.2.1.length) (R.length : Int)) 772 21 0) 773 1 ((S.2.1.length + 1 : Nat) : Int) 773 (68 + 26 * S.2.1.length) = (R.length : Int) := by rw [mup_k (by omega), mup_r (by decide), mup_s]
          have s1 : mup (mup (mup μ7 773 (68 + 26 * S.2.1.length) (R.length : Int)) 772 21 0) 773 1 ((S.2.1.length + 1 : Nat) : Int) 773 1 = ((S.2.1.length + 1 : Nat) : Int) := mup_s
          have row9 : ∀ y, y ≠ 1 → (y < 67 + 26 * S.2.1.length ∨ 93 + 26 * S.2.1.length ≤ y) → mup (mup (mup μ7 773 (68 + 26 * S.2.1.length) (R.length : Int)) 772 21 0) 773 1 ((S.2.1.length + 1 : Nat) : Int) 773 y = μ2 773 y := fun y q1 q2 => by rw [row8 y q1 (by omega), r7 y (by omega), row5 y (by omega) (by omega)]
          refine hQ.2 _ _ _ rfl G8 ?_ (tk7.gm (by rw [mup_r (by decide), mup_k (by decide), mup_r (by decide)]) (by rw [mup_r (by decide), mup_k (by decide), mup_r (by decide)]) (by rw [mup_r (by decide), mup_k (by decide), mup_r (by decide)]))
          generalize mup (mup (mup μ7 773 (68 + 26 * S.2.1.length) (R.length : Int)) 772 21 0) 773 1 ((S.2.1.length + 1 : Nat) : Int) = μ8 at *
          refine MNw.setR (c := S.2) S1' hok.1 hok.2 (by rw [s1, List.length_append, List.length_singleton]) (fun y q1 q2 => row9 y q2 (by omega)) fun i hi => ?_
          rw [List.length_append, List.length_singleton] at hi
          by_cases ei : i = S.2.1.length
          · have eg : (S.2.1 ++ [(L, R)]).getD i ([], []) = (L, R) := by
              rw [getD_app_r (by omega), ei, Nat.sub_self]
              rfl
            rw [eg, ei]
            refine ⟨?_, s68, ?_, ?_⟩
            · rw [row8 _ (by omega) (by omega), r7 _ (by omega)]
              exact s67
            · exact m6.congr fun y hy => by rw [List.length_map] at hy; rw [row8 _ (by omega) (by omega), r7 _ (by omega)]
            · exact m7.congr fun y hy => by rw [List.length_map] at hy; rw [row8 _ (by omega) (by omega)]
          · have eg : (S.2.1 ++ [(L, R)]).getD i ([], []) = S.2.1.getD i ([], []) := getD_app_l (by omega)
            rw [eg]
            obtain ⟨q1, q2, q3, q4⟩ := S1'.2.2.2.2.1 i (by omega)
            have ho := hok.2.2.2.1 _ (getD_mem (d := ([], [])) (show i < S.2.1.length by omega))
            have l1 := ho.1.2.1
            have l2 := ho.2.1.2.1
            rw [Nat.zero_add] at q1 q2 q3 q4
            exact ⟨by rw [row9 _ (by omega) (by omega)]; exact q1, by rw [row9 _ (by omega) (by omega)]; exact q2, q3.congr fun y hy => by rw [List.length_map] at hy; exact row9 _ (by omega) (by omega), q4.congr fun y hy => by rw [List.length_map] at hy; exact row9 _ (by omega) (by omega)⟩
        · rw [hR] at hQ
          refine ⟨by omega, ?_⟩
          refine hQ.1 _ e rfl (gmGE G6 (g7.tr (((gm773 rfl).same ((Gm.upF (k := 21)).mono (by decide) (by decide))).same (gm773 rfl)) (by decide) (by decide) (by decide) (by decide))) (h7.gm (by rw [mup_r (by decide), mup_k (by decide), mup_r (by decide)]) (by rw [mup_r (by decide), mup_k (by decide), mup_r (by decide)]))
      · rw [if_pos (fun q => hk (kk.2.2.2.2.2.1.mpr q))] at hQ
        have h6' : ER (mup μ5 772 21 1) (1, t3.2.1) := h5.gm (by rw [mup_k (by decide)]) (by rw [mup_k (by decide)])
        rw [if_pos (by rw [h6'.1]; exact h6'.2.2)]
        exact hQ.1 _ _ rfl (gmGE G4 ((gmE g5).tr ((Gm.upF (k := 21)).mono (r := pmR) (f := pmG) (by decide) (by decide)) (by decide) (by decide) (by decide) (by decide))) h6'
    · rw [hL] at hQ
      exact tailE μ3 e S.2.1.length w h6 h3 fun μ' h4 g4 => hQ.1 μ' e rfl (gmGE G1 (g3.tr g4 (by decide) (by decide) (by decide) (by decide))) h4
end V77
