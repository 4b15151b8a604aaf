/-! THE REFERENCE: the other items, the whole text -/
section W77
variable {μ : Mem} {B : List Int} {S : St} {t : Tk} {e : PE}
theorem tu (n : Nat) (h : n ≤ 6) : wr (wr (223 + wr (81 * (n : Int))) + 1) = ((224 + 81 * n : Nat) : Int) ∧ wr (wr (223 + wr (81 * (n : Int))) + 0) = ((223 + 81 * n : Nat) : Int) := by
  refine ⟨?_, ?_⟩
  · simp (disch := omega) only [wr_id]; omega
  · simp (disch := omega) only [wr_id]; omega
theorem MSt.addT {f g : Nat → Int} {sy : Sy} {c : Cf} {T : List Int} (h : MNw f 0 sy c) (hs : syok sy) (hc : okc (arS sy) c) (hl : c.2.length < 6) (h2 : g 2 = ((c.2.length + 1 : Nat) : Int)) (h1 : g (223 + 81 * c.2.length) = (T.length : Int)) (hM : Me g (224 + 81 * c.2.length) T) (hT : T.length ≤ 80) (hg : ∀ k, k ≠ 2 → k < 223 + 81 * c.2.length → g k = f k) : MNw g 0 sy (c.1, c.2 ++ [T]) := by
  refine MNw.setT h hs hc (by rw [h2, List.length_append, List.length_singleton]) (fun k q1 q2 => hg k q2 (by omega)) fun i hi => ?_
  rw [List.length_append, List.length_singleton] at hi
  by_cases ei : i = c.2.length
  · have eg : (c.2 ++ [T]).getD i [] = T := by
      rw [getD_app_r (by omega), ei, Nat.sub_self]
      rfl
    rw [eg, ei]
    exact ⟨h1, hM⟩
  · have eg : (c.2 ++ [T]).getD i [] = c.2.getD i [] := getD_app_l (by omega)
    rw [eg]
    have h80 := (hc.2.2.2 _ (getD_mem (d := []) (show i < c.2.length by omega))).2.1
    have hb := h.2.2.2.2.2 i (by omega)
    rw [Nat.zero_add, Nat.zero_add] at hb
    exact ⟨by rw [hg _ (by omega) (by omega)]; exact hb.1, hb.2.congr fun x hx => by rw [List.length_map] at hx; exact hg _ (by omega) (by omega)⟩
theorem c_readsNewTerm {Q : Mem → Prop} (hB : PMx μ B) (h0 : μ 772 10 = 0) (ht : TkM μ t) (tok : tkok B t) (hS : MSt μ S) (hok : POK S) (hQ : IM μ (iTrm B S t) Q) : d_Md_readsNewTerm μ Q := by
  unfold d_Md_readsNewTerm
  unfold iTrm at hQ
  have h6 := hok.2.2.1
  have hn := hS.n0
  rw [hn.2.2]
  by_cases l6 : 6 ≤ S.2.2.length
  · rw [if_pos l6] at hQ
    rw [if_pos (by omega)]
    refine c_faults h0 ht (by decide) fun μ1 h1 g1 => ?_
    unfold d_Md_readsNewTerm_j16
    refine e_goes h1 ?_
    rw [if_pos (by rw [h1.1]; exact h1.2.2)]
    exact hQ.1 μ1 _ rfl (gmE g1) h1
  · rw [if_neg l6] at hQ
    rw [if_neg (by omega)]
    unfold d_Md_readsNewTerm_j16
    refine c_goesT hB h0 ht tok fun μ1 t1 g1 => ?_
    have n1 := nx_le tok
    have v1 := nx_v B t.2.2
    generalize nx B t.2.2 = u at *
    have e2 : mup μ1 772 21 0 773 2 = (S.2.2.length : Int) := by rw [mup_r (by decide), g1.1 773 (by decide) (by decide)]; exact hn.2.2
    have z0 : μ1 772 10 = 0 := by rw [g1.2 10 (by decide)]; exact h0
    rw [if_neg (by omega), e2]
    obtain ⟨a1, a2⟩ := tu S.2.2.length h6
    have G1 : Gm pmR pmG μ (mup μ1 772 21 0) := (gmG g1).same ((Gm.upF (k := 21)).mono (by decide) (by decide))
    have S1 : MSt (mup μ1 772 21 0) S := (hS.gm (g1.1 773 (by decide) (by decide))).gm (mup_r (by decide))
    have t1' : TkM (mup μ1 772 21 0) u := t1.gm (by rw [mup_k (by decide)]) (by rw [mup_k (by decide)]) (by rw [mup_k (by decide)])
    have e21 : mup μ1 772 21 0 772 21 = 0 := mup_s
    generalize mup μ1 772 21 0 = μ2 at *
    refine c_mReadTerm (n := 0) (role := 0) (L := []) (lim := 40) (o := 224 + 81 * S.2.2.length) a1 rfl rfl (by decide) (by decide) (hB.gm G1 (by decide) (by decide)) (by rw [G1.2 10 (by decide)]; exact h0) t1' n1.1 v1 S1.sy hok.1 S1.n0.1 (by omega) (by omega) (by rw [if_neg (by decide)]; exact e21) (fun q => by cases q) (fun μ3 T t3 hT tk3 m3 r3 g3 => ?_) (fun w μ3 e hT h3 g3 => ?_)
    · rw [hT] at hQ
      dsimp only at hQ
      have oT := rdT_ok hok.1 _ _ _ _ v1 (rdI_0 _ _ _) _ _ hT
      have lT := oT.1.2.1
      rw [a2, Int.toNat_natCast]
      refine ⟨by omega, ?_⟩
      have e2' : mup μ3 773 (223 + 81 * S.2.2.length) (T.length : Int) 773 2 = (S.2.2.length : Int) := by rw [mup_k (by omega), r3 2 (by omega)]; exact e2
      rw [e2', wr_eq (S.2.2.length + 1) (show (S.2.2.length : Int) + 1 = ((S.2.2.length + 1 : Nat) : Int) by omega) (by omega)]
      refine hQ.2 _ _ _ rfl (((G1.tr g3 (r := pmR) (f := pmG) (by decide) (by decide) (by decide) (by decide)).same (gm773 rfl)).same (gm773 rfl)) ?_ (tk3.gm (by rw [mup_r (by decide), mup_r (by decide)]) (by rw [mup_r (by decide), mup_r (by decide)]) (by rw [mup_r (by decide), mup_r (by decide)]))
      refine MSt.addT (f := μ2 773) S1 hok.1 hok.2 (by omega) mup_s (by rw [mup_k (by omega), mup_s]) (m3.congr fun x hx => by rw [mup_k (by omega), mup_k (by omega)]) (by omega) fun k q1 q2 => by rw [mup_k q1, mup_k (by omega), r3 k (by omega)]
    · rw [hT] at hQ
      rw [a2, Int.toNat_natCast]
      refine ⟨by omega, ?_⟩
      exact hQ.1 _ e rfl (gmGE G1 (g3.tr ((gm773 rfl).same (gm773 rfl)) (by decide) (by decide) (by decide) (by decide))) (h3.gm (by rw [mup_r (by decide), mup_r (by decide)]) (by rw [mup_r (by decide), mup_r (by decide)]))
theorem c_readsCopy {Q : Mem → Prop} (hB : PMx μ B) (h0 : μ 772 10 = 0) (ht : TkM μ t) (tok : tkok B t) (hS : MSt μ S) (hok : POK S) (hQ : IM μ (iCpy B S t) Q) : d_Md_readsCopy μ Q := by
  unfold d_Md_readsCopy
  unfold iCpy at hQ
  have h6 := hok.2.2.1
  have hn := hS.n0
  rw [hn.2.2]
  by_cases l6 : 6 ≤ S.2.2.length
  · rw [if_pos l6] at hQ
    rw [if_pos (by omega)]
    refine c_faults h0 ht (by decide) fun μ1 h1 g1 => ?_
    unfold d_Md_readsCopy_j16
    refine e_goes h1 (e_digitHere h1 (e_goes h1 ?_))
    rw [if_pos (by rw [h1.1]; exact h1.2.2)]
    exact hQ.1 μ1 _ rfl (gmE g1) h1
  · rw [if_neg l6] at hQ
    rw [if_neg (by omega)]
    unfold d_Md_readsCopy_j16
    refine c_goesT hB h0 ht tok fun μ1 t1 g1 => ?_
    have n1 := nx_le tok
    have v1 := nx_v B t.2.2
    generalize nx B t.2.2 = u at *
    have S1 : MSt μ1 S := hS.gm (g1.1 773 (by decide) (by decide))
    have B1 := hB.gm g1 (by decide) (by decide)
    have z1 : μ1 772 10 = 0 := by rw [g1.2 10 (by decide)]; exact h0
    have em : wr (μ1 773 2 - 1) = (S.2.2.length : Int) - 1 := by rw [S1.n0.2.2, wr_id (by omega) (by omega)]
    refine c_digitHere (m := S.2.2.length) em B1 z1 t1 n1.1 v1 (fun hd => ?_) (fun hd μ2 h2 g2 => ?_)
    · rw [if_neg (fun q => q hd)] at hQ
      clear em
      obtain ⟨d1, d2, d3⟩ := dgt_0 v1 hd
      refine c_goesT B1 z1 t1 n1.1 fun μ2 t2 g2 => ?_
      have z2 : μ2 772 10 = 0 := by rw [g2.2 10 (by decide)]; exact z1
      rw [if_neg (by omega)]
      rw [show dgv B u = (((dgv B u).toNat : Nat) : Int) by omega]
      generalize (dgv B u).toNat = d at *
      have S2 : MSt μ2 S := S1.gm (g2.1 773 (by decide) (by decide))
      have hT := S2.term d3
      have o := hok.2.2.2.2 _ (getD_mem (d := []) d3)
      have l80 := o.2.1
      refine c_lends (by omega) l80 hT.1 hT.2 fun μ3 w3 g3 => ?_
      have G3 : Gm pmR pmG μ μ3 := ((gmG g1).same (gmG g2)).tr g3 (by decide) (by decide) (by decide) (by decide)
      have S3 : MSt μ3 S := S2.gm (g3.1 773 (by decide) (by decide))
      rw [S3.n0.2.2, wr_eq (S.2.2.length + 1) (show (S.2.2.length : Int) + 1 = ((S.2.2.length + 1 : Nat) : Int) by omega) (by omega), mup_s]
      refine c_stores0 (i := S.2.2.length) (T := S.2.2.getD d []) (by rw [wr_id (by omega) (by omega)]; omega) (by omega) (w3.gm (mup_r (by decide)) (by rw [mup_r (by decide)])) fun μ4 s1 s2 s3 g4 => ?_
      have G4 : Gm pmR pmG μ μ4 := (G3.same (gm773 rfl)).tr g4 (by decide) (by decide) (by decide) (by decide)
      have t4 : TkM μ4 (nx B u.2.2) := t2.gm (by rw [g4.2 13 (by decide), mup_r (by decide), g3.2 13 (by decide)]) (by rw [g4.2 14 (by decide), mup_r (by decide), g3.2 14 (by decide)]) (by rw [g4.2 15 (by decide), mup_r (by decide), g3.2 15 (by decide)])
      refine hQ.2 _ _ _ rfl G4 ?_ t4
      refine MSt.addT (f := μ3 773) S3 hok.1 hok.2 (by omega) (by rw [s3 2 (by omega), mup_s]) s1 s2 l80 fun k q1 q2 => by rw [s3 k (by omega), mup_k q1]
    · rw [if_pos hd] at hQ
      refine e_goes h2 ?_
      rw [if_pos (by rw [h2.1]; exact h2.2.2)]
      exact hQ.1 μ2 _ rfl (gmGE (gmG g1) (gmE g2)) h2
theorem c_readsFlip {Q : Mem → Prop} (hB : PMx μ B) (h0 : μ 772 10 = 0) (ht : TkM μ t) (tok : tkok B t) (hS : MSt μ S) (hok : POK S) (hQ : IM μ (iFlp B S t) Q) : d_Md_readsFlip μ Q := by
  unfold d_Md_readsFlip
  unfold iFlp at hQ
  have h6 := hok.2.1
  have j37E : ∀ (v : Int) μ1 e, ER μ1 e → Q μ1 → d_Md_readsFlip_j37 v μ1 Q := by
    intro v μ1 e h1 hq
    unfold d_Md_readsFlip_j37 d_Md_readsFlip_j49
    have := h1.2.2
    rw [if_neg (by rw [h1.1]; omega)]
    exact e_goes h1 hq
  refine c_goesT hB h0 ht tok fun μ1 t1 g1 => ?_
  have n1 := nx_le tok
  have v1 := nx_v B t.2.2
  generalize nx B t.2.2 = u at *
  have S1 : MSt μ1 S := hS.gm (g1.1 773 (by decide) (by decide))
  have B1 := hB.gm g1 (by decide) (by decide)
  have z1 : μ1 772 10 = 0 := by rw [g1.2 10 (by decide)]; exact h0
  have em : wr (μ1 773 1 - 1) = (S.2.1.length : Int) - 1 := by rw [S1.n0.2.1, wr_id (by omega) (by omega)]
  refine c_digitHere (m := S.2.1.length) em B1 z1 t1 n1.1 v1 (fun hd => ?_) (fun hd μ2 h2 g2 => ?_)
  · rw [if_neg (fun q => q hd)] at hQ
    clear em
    obtain ⟨d1, d2, d3⟩ := dgt_0 v1 hd
    rw [if_pos z1]
    rw [show dgv B u = (((dgv B u).toNat : Nat) : Int) by omega]
    generalize (dgv B u).toNat = d at *
    have ho := hok.2.2.2.1 _ (getD_mem (d := ([], [])) d3)
    have h8 : (arS S.1).length ≤ 8 := by unfold arS; rw [List.length_map]; exact hok.1.1
    refine c_canReverse h8 ((S1.rules hok).2.2 d d3) ho ?_
    by_cases hc : canT (S.2.1.getD d ([], [])) = true
    · rw [if_pos hc] at hQ ⊢
      unfold d_Md_readsFlip_j37 d_Md_readsFlip_j49
      rw [if_pos z1]
      refine c_reverses (by omega) fun μ2 hG r1 r2 r3 r4 => ?_
      obtain ⟨k1, k2, k3, k4⟩ := S1.2.2.2.2.1 d d3
      rw [Nat.zero_add] at k1 k2 k3 k4
      have l1 := ho.1.2.1
      have l2 := ho.2.1.2.1
      have hN : MNw (μ2 773) 0 S.1 (S.2.1.set d ((S.2.1.getD d ([], [])).2, (S.2.1.getD d ([], [])).1), S.2.2) := by
        refine MNw.setR (f := μ1 773) (c := S.2) S1 hok.1 hok.2 ?_ (fun x hx hx1 => r4 x (by omega)) fun q hq => ?_
        · rw [r4 1 (by omega), List.length_set]; exact S1.2.1
        · rw [List.length_set] at hq
          rw [getD_set d3]
          by_cases e : q = d
          · subst e
            rw [if_pos rfl]
            refine ⟨by rw [r1]; exact k2, by rw [r2]; exact k1, fun x hx => ?_, fun x hx => ?_⟩
            · rw [List.length_map] at hx
              have hx' : x < (S.2.1.getD q ([], [])).2.length := hx
              rw [(r3 x (by omega)).1]
              exact k4 x (by rw [List.length_map]; exact hx)
            · rw [List.length_map] at hx
              have hx' : x < (S.2.1.getD q ([], [])).1.length := hx
              rw [(r3 x (by omega)).2]
              exact k3 x (by rw [List.length_map]; exact hx)
          · rw [if_neg e]
            obtain ⟨y1, y2, y3, y4⟩ := S1.2.2.2.2.1 q hq
            have ho' := hok.2.2.2.1 _ (getD_mem (d := ([], [])) hq)
            have l1' := ho'.1.2.1
            have l2' := ho'.2.1.2.1
            rw [Nat.zero_add] at y1 y2 y3 y4
            exact ⟨by rw [r4 _ (by omega)]; exact y1, by rw [r4 _ (by omega)]; exact y2, y3.congr fun x hx => by rw [List.length_map] at hx; exact r4 _ (by omega), y4.congr fun x hx => by rw [List.length_map] at hx; exact r4 _ (by omega)⟩
      have g2 : Gm pmR pmG μ1 μ2 := hG.mono (by decide) (by decide)
      refine c_goesT (B1.gm hG (by decide) (by decide)) (by rw [hG.2 10 (by decide)]; exact z1) (t1.gm (hG.2 13 (by decide)) (hG.2 14 (by decide)) (hG.2 15 (by decide))) n1.1 fun μ3 t3 g3 => ?_
      refine hQ.2 μ3 _ _ rfl (((gmG g1).same g2).same (gmG g3)) ?_ t3
      show MNw (μ3 773) 0 _ _
      rw [g3.1 773 (by decide) (by decide)]
      exact hN
    · rw [if_neg hc] at hQ ⊢
      exact c_faults z1 t1 (by decide) fun μ2 h2 g2 => j37E _ _ _ h2 (hQ.1 μ2 _ rfl (gmGE (gmG g1) (gmE g2)) h2)
  · rw [if_pos hd] at hQ
    have := h2.2.2
    rw [if_neg (by rw [h2.1]; omega)]
    exact j37E _ _ _ h2 (hQ.1 μ2 _ rfl (gmGE (gmG g1) (gmE g2)) h2)
theorem c_canStep {i : Nat} {rs : List Rl2} {T : List Int} {ars : List Nat} {Q : Bool → Mem → Prop} (hA : AR μ ars) (hR : MRs μ rs) (hr : ∀ r, r ∈ rs → okr ars r) (hi : i < 6) (oT : okt ars 8 80 T) (h1 : μ 773 (223 + 81 * i) = (T.length : Int)) (h2 : Me (μ 773) (224 + 81 * i) T)
    (k1 : ∀ μ' p Y, stp rs true T = some (p, Y) → WK μ' Y → Gm [780, 781, 783] [25, 26] μ μ' → Q true μ') (k2 : ∀ μ', stp rs true T = none → Gm [780, 781, 783] [25, 26] μ μ' → Q false μ') : d_Md_canStep (i : Int) 1 μ Q := by
  unfold d_Md_canStep
  refine c_lends hi oT.2.1 h1 h2 fun μ1 w1 g1 => ?_
  have e1 : μ1 773 = μ 773 := g1.1 773 (by decide) (by decide)
  refine c_mRedex (inner := true) (hA.gm e1) w1 oT (hR.gm e1) hr fun μ2 g2 => ?_
  have e2 : μ2 773 = μ 773 := by rw [g2.1 773 (by decide) (by decide)]; exact e1
  have G2 : Gm [780, 781, 783] [25, 26] μ μ2 := g1.tr g2 (by decide) (by decide) (by decide) (by decide)
  by_cases hp : px rs true T = -1
  · rw [if_pos hp]
    exact k2 μ2 (by unfold stp; rw [if_pos hp]) G2
  · rw [if_neg hp]
    obtain ⟨k, q1, q2, q3⟩ := px_get hp
    rw [q1]
    refine c_stepsAt (hA.gm e2) (w1.gm (g2.1 780 (by decide) (by decide)) (g2.2 25 (by decide))) oT (hR.gm e2) hr q2 q3 (fun μ3 Y hY w3 g3 => ?_) (fun μ3 hY g3 w3 => ?_)
    · rw [if_pos rfl]
      exact k1 μ3 _ Y (by unfold stp; rw [if_neg hp, q1, Int.toNat_natCast, hY]) w3 (G2.same g3)
    · rw [if_neg (by decide)]
      exact k2 μ3 (by unfold stp; rw [if_neg hp, q1, Int.toNat_natCast, hY]) (G2.same g3)
theorem c_readsStep {Q : Mem → Prop} (hB : PMx μ B) (h0 : μ 772 10 = 0) (ht : TkM μ t) (tok : tkok B t) (hS : MSt μ S) (hok : POK S) (hQ : IM μ (iStp B S t) Q) : d_Md_readsStep μ Q := by
  unfold d_Md_readsStep
  unfold iStp at hQ
  have h6 := hok.2.2.1
  have j38E : ∀ (v : Int) μ1 e, ER μ1 e → Q μ1 → d_Md_readsStep_j38 v μ1 Q := by
    intro v μ1 e h1 hq
    unfold d_Md_readsStep_j38 d_Md_readsStep_j50
    have := h1.2.2
    rw [if_neg (by rw [h1.1]; omega)]
    exact e_goes h1 hq
  refine c_goesT hB h0 ht tok fun μ1 t1 g1 => ?_
  have n1 := nx_le tok
  have v1 := nx_v B t.2.2
  generalize nx B t.2.2 = u at *
  have S1 : MSt μ1 S := hS.gm (g1.1 773 (by decide) (by decide))
  have B1 := hB.gm g1 (by decide) (by decide)
  have z1 : μ1 772 10 = 0 := by rw [g1.2 10 (by decide)]; exact h0
  have em : wr (μ1 773 2 - 1) = (S.2.2.length : Int) - 1 := by rw [S1.n0.2.2, wr_id (by omega) (by omega)]
  refine c_digitHere (m := S.2.2.length) em B1 z1 t1 n1.1 v1 (fun hd => ?_) (fun hd μ2 h2 g2 => ?_)
  · rw [if_neg (fun q => q hd)] at hQ
    clear em
    obtain ⟨d1, d2, d3⟩ := dgt_0 v1 hd
    rw [if_pos z1]
    rw [show dgv B u = (((dgv B u).toNat : Nat) : Int) by omega]
    generalize (dgv B u).toNat = d at *
    have hT := S1.term d3
    have o := hok.2.2.2.2 _ (getD_mem (d := []) d3)
    refine c_canStep (S1.AR hok) (S1.rules hok) hok.2.2.2.1 (by omega) o hT.1 hT.2 (fun μ2 p Y hY w2 g2 => ?_) (fun μ2 hY g2 => ?_)
    · rw [hY] at hQ
      dsimp only at hQ
      have oY := stp_ok hok.2.2.2.1 o hY
      have lY := oY.2.1
      rw [if_pos rfl]
      unfold d_Md_readsStep_j38 d_Md_readsStep_j50
      rw [if_pos (by rw [g2.2 10 (by decide)]; exact z1)]
      refine c_stores0 (i := d) (T := Y) rfl (by omega) w2 fun μ3 s1 s2 s3 g3 => ?_
      have e773 : μ2 773 = μ1 773 := g2.1 773 (by decide) (by decide)
      have G3 : Gm pmR pmG μ1 μ3 := g2.tr g3 (by decide) (by decide) (by decide) (by decide)
      have hN : MNw (μ3 773) 0 S.1 (S.2.1, S.2.2.set d Y) := by
        refine MNw.setT (f := μ1 773) (c := S.2) S1 hok.1 hok.2 ?_ (fun k q1 q2 => by rw [s3 k (by omega), e773]) fun i hi => ?_
        · rw [s3 2 (by omega), e773, List.length_set]; exact S1.n0.2.2
        · rw [List.length_set] at hi
          rw [getD_set d3]
          by_cases e : i = d
          · rw [if_pos e, e]
            exact ⟨s1, s2⟩
          · rw [if_neg e]
            have hTi := S1.term hi
            have l80 := (hok.2.2.2.2 _ (getD_mem (d := []) hi)).2.1
            exact ⟨by rw [s3 _ (by omega), e773]; exact hTi.1, hTi.2.congr fun x hx => by rw [List.length_map] at hx; rw [s3 _ (by omega), e773]⟩
      refine c_goesT (B1.gm G3 (by decide) (by decide)) (by rw [G3.2 10 (by decide)]; exact z1) (t1.gm (by rw [g3.2 13 (by decide), g2.2 13 (by decide)]) (by rw [g3.2 14 (by decide), g2.2 14 (by decide)]) (by rw [g3.2 15 (by decide), g2.2 15 (by decide)])) n1.1 fun μ4 t4 g4 => ?_
      refine hQ.2 μ4 _ _ rfl (((gmG g1).same G3).same (gmG g4)) ?_ t4
      show MNw (μ4 773) 0 _ _
      rw [g4.1 773 (by decide) (by decide)]
      exact hN
    · rw [hY] at hQ
      dsimp only at hQ
      rw [if_neg (by decide)]
      have G2 : Gm pmR pmG μ1 μ2 := g2.mono (by decide) (by decide)
      exact c_faults (by rw [G2.2 10 (by decide)]; exact z1) (t1.gm (g2.2 13 (by decide)) (g2.2 14 (by decide)) (g2.2 15 (by decide))) (by decide) fun μ3 h3 g3 => j38E _ _ _ h3 (hQ.1 μ3 _ rfl (gmGE ((gmG g1).same G2) (gmE g3)) h3)
  · rw [if_pos hd] at hQ
    have := h2.2.2
    rw [if_neg (by rw [h2.1]; omega)]
    exact j38E _ _ _ h2 (hQ.1 μ2 _ rfl (gmGE (gmG g1) (gmE g2)) h2)
theorem c_readsItem {Q : Mem → Prop} (hB : PMx μ B) (h0 : μ 772 10 = 0) (ht : TkM μ t) (tok : tkok B t) (hS : MSt μ S) (hok : POK S) (hQ : IM μ (itm B S t) Q) : d_Md_readsItem μ Q := by
  unfold d_Md_readsItem
  unfold itm at hQ
  refine c_isWordM hB h0 ht tok (by decide) (by decide) ?_
  by_cases h1 : isW B t (jlit 1) = true
  · rw [if_pos h1] at hQ ⊢
    exact c_readsSymbol hB h0 ht tok hS hok hQ
  rw [if_neg h1] at hQ ⊢
  refine c_isWordM hB h0 ht tok (by decide) (by decide) ?_
  by_cases h2 : isW B t (jlit 2) = true
  · rw [if_pos h2] at hQ ⊢
    exact c_readsRule hB h0 ht tok hS hok hQ
  rw [if_neg h2] at hQ ⊢
  refine c_isWordM hB h0 ht tok (by decide) (by decide) ?_
  by_cases h3 : isW B t (jlit 3) = true
  · rw [if_pos h3] at hQ ⊢
    exact c_readsNewTerm hB h0 ht tok hS hok hQ
  rw [if_neg h3] at hQ ⊢
  refine c_isWordM hB h0 ht tok (by decide) (by decide) ?_
  by_cases h4 : isW B t (jlit 4) = true
  · rw [if_pos h4] at hQ ⊢
    exact c_readsCopy hB h0 ht tok hS hok hQ
  rw [if_neg h4] at hQ ⊢
  refine c_isWordM hB h0 ht tok (by decide) (by decide) ?_
  by_cases h5 : isW B t (jlit 5) = true
  · rw [if_pos h5] at hQ ⊢
    exact c_readsFlip hB h0 ht tok hS hok hQ
  rw [if_neg h5] at hQ ⊢
  refine c_isWordM hB h0 ht tok (by decide) (by decide) ?_
  by_cases h6 : isW B t (jlit 6) = true
  · rw [if_pos h6] at hQ ⊢
    exact c_readsStep hB h0 ht tok hS hok hQ
  rw [if_neg h6] at hQ ⊢
  exact c_faults h0 ht (by decide) fun μ' h' g' => hQ.1 μ' _ rfl (gmE g') h'
theorem c_readsText {Q : Mem → Prop} (hB : PMx μ B) (h0 : μ 772 10 = 0) (h13 : μ 772 13 = 0) (hS : MSt μ ([], ([], [])))
    (kE : ∀ μ' e, prsT B = .inl e → Gm pmR pmF μ μ' → ER μ' e → Q μ') (kS : ∀ μ' S, prsT B = .inr S → Gm pmR pmG μ μ' → MSt μ' S → Q μ') : d_Md_readsText μ Q := by
  unfold d_Md_readsText
  have h500 := hB.2.2.1
  unfold prsT at kE kS
  have errT : ∀ μ1 e, ER μ1 e → Q μ1 → d_Md_readsText_l23 μ1 Q := by
    intro μ1 e h1 hq W hW
    apply hW
    unfold d_Md_readsText_b23
    refine e_is h1 ?_
    rw [if_neg (by decide)]
    refine e_is h1 ?_
    rw [if_neg (by decide)]
    exact e_faults h1 hq
  refine c_goes hB h0 (p := 0) h13 (Nat.zero_le _) fun μ1 t1 g1 => ?_
  have n1 := nx_ok (B := B) (p := 0) (Nat.zero_le _)
  generalize nx B 0 = u at *
  have B1 := hB.gm g1 (by decide) (by decide)
  have z1 : μ1 772 10 = 0 := by rw [g1.2 10 (by decide)]; exact h0
  refine c_isWordM B1 z1 t1 n1.1 (by decide) (by decide) ?_
  by_cases hw : isW B u (jlit 0) = true
  · rw [if_pos hw] at kE kS
    rw [if_pos hw]
    unfold d_Md_readsText_j19
    refine c_goesT B1 z1 t1 n1.1 fun μ2 t2 g2 => ?_
    have n2 := nx_le n1.1
    have G2 : Gm pmR pmG μ μ2 := (gmG g1).same (gmG g2)
    generalize nx B u.2.2 = w at *
    refine i_Md_readsText_l23 (Inv := fun μ3 => (∃ (i : Nat) (S : St) (t3 : Tk), i ≤ t3.2.1 ∧ Gm pmR pmG μ μ3 ∧ MSt μ3 S ∧ POK S ∧ TkM μ3 t3 ∧ tkok B t3 ∧ its B 501 ([], ([], [])) w = its B (501 - i) S t3) ∨ ∃ e, ER μ3 e ∧ Q μ3) (fun μ3 => if μ3 772 10 = 0 then 1 + (B.length - (μ3 772 14).toNat) else 0) ?_ μ2 (Or.inl ⟨0, _, w, Nat.zero_le _, G2, (hS.gm (g1.1 773 (by decide) (by decide))).gm (g2.1 773 (by decide) (by decide)), POK_0, t2, n2.1, rfl⟩)
    rintro μ3 (⟨i, S, t3, hi, F3, S3, ok3, tk3, tok3, hE⟩ | ⟨e, he, hq⟩) W hW
    · unfold d_Md_readsText_b23
      have hi500 : i ≤ 500 := Nat.le_trans hi (Nat.le_trans tok3.1 h500)
      have z3 : μ3 772 10 = 0 := by rw [F3.2 10 (by decide)]; exact h0
      have B3 := hB.gm F3 (by decide) (by decide)
      rw [hE] at kE kS
      obtain ⟨f, hf⟩ : ∃ f, 501 - i = f + 1 := ⟨500 - i, by omega⟩
      rw [hf, its] at kE kS
      have kk := kM_iff t3.1
      refine c_is z3 tk3 (fun h59 => ?_) (fun h59 => ?_)
      · have h59 := kk.2.2.2.2.1.mp h59
        have h0' : ¬ t3.1 = 0 := by omega
        rw [if_neg h0', if_neg (fun q => q h59)] at kE kS
        rw [if_pos rfl]
        refine c_goesT B3 z3 tk3 tok3 fun μ4 t4 g4 => ?_
        have n4 := nx_le tok3
        have st4 : t3.2.1 + 1 ≤ (nx B t3.2.2).2.1 := by
          have h1 := tok3.2.2.2.1 h0'
          have h2 := (nx_ok (B := B) (p := t3.2.2) tok3.2.1).2
          omega
        have hlt : t3.2.1 < B.length := by have := tok3.2.2.2.1 h0'; have := tok3.2.1; omega
        generalize hx : nx B t3.2.2 = x at *
        have F4 : Gm pmR pmG μ μ4 := F3.same (gmG g4)
        have z4 : μ4 772 10 = 0 := by rw [F4.2 10 (by decide)]; exact h0
        refine c_readsItem (hB.gm F4 (by decide) (by decide)) z4 t4 n4.1 (S3.gm (g4.1 773 (by decide) (by decide))) ok3 ⟨fun μ' e h1 h2 h3 => ?_, fun μ' S' t' h1 h2 h3 h4 => ?_⟩
        · rw [h1] at kE
          refine hW _ (Or.inr ⟨e, h3, kE μ' e rfl (gmGE F4 h2) h3⟩) ?_
          have := h3.2.2
          rw [if_pos z3, if_neg (by rw [h3.1]; omega)]
          omega
        · have hk := itm_tk n4.1 h1
          have z' : μ' 772 10 = 0 := by rw [h2.2 10 (by decide)]; exact z4
          refine hW _ (Or.inl ⟨i + 1, S', t', by omega, F4.same h2, h3, itm_ok n4.1 ok3 h1, h4, hk.1, ?_⟩) ?_
          · rw [hE, hf, its, if_neg h0', if_neg (fun q => q h59), hx, h1, show 501 - (i + 1) = f by omega]
          · have := hk.1.1
            rw [if_pos z3, if_pos z', h4.2.1, tk3.2.1, Int.toNat_natCast, Int.toNat_natCast]
            omega
      · have h59 : ¬ t3.1 = 59 := fun q => h59 (kk.2.2.2.2.1.mpr q)
        rw [if_neg (by decide)]
        refine c_is z3 tk3 (fun h1 => ?_) (fun h1 => ?_)
        · have h1 := kk.1.mp h1
          rw [if_pos h1] at kS
          rw [if_pos rfl]
          exact kS μ3 S rfl F3 S3
        · have h1 : ¬ t3.1 = 0 := fun q => h1 (kk.1.mpr q)
          rw [if_neg h1, if_pos h59] at kE
          rw [if_neg (by decide)]
          exact c_faults z3 tk3 (by decide) fun μ' h' g' => kE μ' _ rfl (gmGE F3 (gmE g')) h'
    · unfold d_Md_readsText_b23
      refine e_is he ?_
      rw [if_neg (by decide)]
      refine e_is he ?_
      rw [if_neg (by decide)]
      exact e_faults he hq
  · rw [if_neg hw] at kE kS
    rw [if_neg hw]
    refine c_faults z1 t1 (by decide) fun μ2 h2 g2 => ?_
    unfold d_Md_readsText_j19
    refine e_goes h2 (errT μ2 _ h2 (kE μ2 _ rfl (gmGE (gmG g1) (gmE g2)) h2))
end W77
section X77w
variable {μ : Mem} {A : AS}
theorem mm_parseSystem {v : Int} {Q : Int → Mem → Prop} (hI : MI μ A) (hA : AOK A) (h : MC μ (sp_parseSystem A v) Q) : d_Md_parseSystem v μ Q := by
  unfold d_Md_parseSystem
  unfold sp_parseSystem at h
  obtain ⟨i1, i2, ⟨i3, i3'⟩, ⟨⟨i4, i4'⟩, i5, i5'⟩, ⟨i6, i7, i8, i9⟩, i10, i10'⟩ := id hI
  have hb := hA.2.2.2.2.2.2.1
  refine c_mIn ?_
  rw [i8]
  by_cases hv : 0 ≤ v ∧ v ≤ ((aB A).length : Int)
  · rw [if_neg (fun q => q hv)] at h
    rw [decide_eq_true hv]
    refine c_may (b1 := true) (b2 := true) (b3 := true) (fun q => by cases q) (fun _ q => by cases q) (fun _ _ q => by cases q) fun _ _ _ => ?_
    rw [if_pos rfl]
    have hG0 : Gm [] [0, 9, 10, 11, 12, 13] μ (mup (mup (mup (mup (mup (mup μ 772 0 0) 772 12 v) 772 13 0) 772 9 0) 772 10 0) 772 11 (-1)) := ((((((Gm.upF (k := 0)).tr (Gm.upF (k := 12)) (r := []) (f := [0, 12]) (by decide) (by decide) (by decide) (by decide)).tr (Gm.upF (k := 13)) (r := []) (f := [0, 12, 13]) (by decide) (by decide) (by decide) (by decide)).tr (Gm.upF (k := 9)) (r := []) (f := [0, 9, 12, 13]) (by decide) (by decide) (by decide) (by decide)).tr (Gm.upF (k := 10)) (r := []) (f := [0, 9, 10, 12, 13]) (by decide) (by decide) (by decide) (by decide)).tr (Gm.upF (k := 11)) (by decide) (by decide) (by decide) (by decide))
    have q0 : mup (mup (mup (mup (mup (mup μ 772 0 0) 772 12 v) 772 13 0) 772 9 0) 772 10 0) 772 11 (-1) 772 0 = 0 := by rw [mup_k (by decide), mup_k (by decide), mup_k (by decide), mup_k (by decide), mup_k (by decide), mup_s]
    have q12 : mup (mup (mup (mup (mup (mup μ 772 0 0) 772 12 v) 772 13 0) 772 9 0) 772 10 0) 772 11 (-1) 772 12 = v := by rw [mup_k (by decide), mup_k (by decide), mup_k (by decide), mup_k (by decide), mup_s]
    have q13 : mup (mup (mup (mup (mup (mup μ 772 0 0) 772 12 v) 772 13 0) 772 9 0) 772 10 0) 772 11 (-1) 772 13 = 0 := by rw [mup_k (by decide), mup_k (by decide), mup_k (by decide), mup_s]
    have q9 : mup (mup (mup (mup (mup (mup μ 772 0 0) 772 12 v) 772 13 0) 772 9 0) 772 10 0) 772 11 (-1) 772 9 = 0 := by rw [mup_k (by decide), mup_k (by decide), mup_s]
    have q10 : mup (mup (mup (mup (mup (mup μ 772 0 0) 772 12 v) 772 13 0) 772 9 0) 772 10 0) 772 11 (-1) 772 10 = 0 := by rw [mup_k (by decide), mup_s]
    have q11 : mup (mup (mup (mup (mup (mup μ 772 0 0) 772 12 v) 772 13 0) 772 9 0) 772 10 0) 772 11 (-1) 772 11 = -1 := mup_s
    generalize mup (mup (mup (mup (mup (mup μ 772 0 0) 772 12 v) 772 13 0) 772 9 0) 772 10 0) 772 11 (-1) = μ0 at *
    refine c_lays (a := 773) (b := 774) 0 0 709 rfl rfl rfl (by rw [ln773]; omega) (by rw [ln774]; omega) (Or.inl (by decide)) (fun μ1 c1 c2 c3 => ?_)
    have G1 : Gm [774] [] μ0 μ1 := ⟨fun b k1 k2 => c3 b (by simpa using k2), fun j _ => by rw [c3 772 (by decide)]⟩
    refine i_Md_parseSystem_l63 (Inv := fun v2 μ2 => ∃ n : Nat, v2 = (n : Int) ∧ n ≤ 709 ∧ (∀ i, i < n → μ2 773 i = 0) ∧ Gm [773] [] μ1 μ2) (fun v2 _ => 709 - v2.toNat) ?_ 0 μ1 ⟨0, rfl, Nat.zero_le _, fun i hi => absurd hi (by omega), Gm.rfl'⟩
    rintro v2 μ2 ⟨n, e2, hn, hz, G2⟩ W hW
    unfold d_Md_parseSystem_b63
    by_cases hn7 : n < 709
    · rw [if_pos (by omega), show v2.toNat = n by omega, wr_eq (n + 1) (show v2 + 1 = ((n + 1 : Nat) : Int) by omega) (by omega)]
      refine ⟨by omega, hW _ _ ⟨n + 1, rfl, by omega, fun i hi => ?_, G2.same (Gm.upR (by decide))⟩ (by rw [Int.toNat_natCast]; omega)⟩
      by_cases e : i = n
      · rw [e, mup_s]
      · rw [mup_k e]
        exact hz i (by omega)
    · rw [if_neg (by omega)]
      have en : n = 709 := by omega
      subst en
      have G02 : Gm [773, 774] [] μ0 μ2 := G1.tr G2 (by decide) (by decide) (by decide) (by decide)
      have hlen : ((aB A).take v.toNat).length = v.toNat := by rw [List.length_take]; omega
      have hB : PMx μ2 ((aB A).take v.toNat) := ⟨by rw [G02.2 12 (by decide), q12, hlen]; omega, by rw [G02.1 778 (by decide) (by decide), hG0.1 778 (by decide) (by decide), List.map_take]; exact i9.take, by omega, fun c hc => hb.2 c (List.mem_of_mem_take hc)⟩
      have hS0 : MSt μ2 ([], ([], [])) := ⟨hz 0 (by omega), hz 1 (by omega), hz 2 (by omega), fun i hi => absurd hi (by simp), fun i hi => absurd hi (by simp), fun i hi => absurd hi (by simp)⟩
      have e774 : ∀ x, x < 709 → μ2 774 x = μ 773 x := fun x hx => by
        rw [G2.1 774 (by decide) (by decide)]
        have := c1 x hx
        rw [Nat.zero_add] at this
        rw [this, hG0.1 773 (by decide) (by decide)]
      refine c_readsText hB (by rw [G02.2 10 (by decide)]; exact q10) (by rw [G02.2 13 (by decide)]; exact q13) hS0 (fun μ3 e he g3 h3 => ?_) (fun μ3 S he g3 s3 => ?_)
      · rw [he] at h
        dsimp only at h
        rw [if_pos (by rw [h3.1]; exact h3.2.2)]
        refine c_lays (a := 774) (b := 773) 0 0 709 rfl rfl rfl (by rw [ln774]; omega) (by rw [ln773]; omega) (Or.inl (by decide)) (fun μ4 x1 x2 x3 => ?_)
        have row : ∀ b, b ≠ 772 → b ≠ 773 → b ≠ 774 → b ≠ 779 → b ≠ 780 → b ≠ 781 → b ≠ 783 → μ4 b = μ b := fun b k1 k2 k3 k4 k5 k6 k7 => by rw [x3 b k2, mup_r k1, g3.1 b k1 (by simp [k2, k4, k5, k6, k7]), G02.1 b k1 (by simp [k2, k3]), hG0.1 b k1 (by simp)]
        have fld : ∀ j, j ∉ [0, 9, 10, 11, 12, 13, 14, 15, 17, 18, 19, 20, 21, 25, 26] → μ4 772 j = μ 772 j := fun j hj => by
          simp only [List.mem_cons, List.not_mem_nil, or_false, not_or] at hj
          rw [x3 772 (by decide), mup_k hj.1, g3.2 j (by simp only [List.mem_cons, List.not_mem_nil, or_false, not_or]; omega), G02.2 j (by simp), hG0.2 j (by simp only [List.mem_cons, List.not_mem_nil, or_false, not_or]; omega)]
        have e773 : ∀ x, x < 709 → μ4 773 x = μ 773 x := fun x hx => by
          have := x1 x hx
          rw [Nat.zero_add] at this
          rw [this, mup_r (by decide), g3.1 774 (by decide) (by decide), e774 x hx]
        have z0 : μ4 772 0 = 2 := by rw [x3 772 (by decide), mup_s]
        have z9 : μ4 772 9 = 0 := by rw [x3 772 (by decide), mup_k (by decide), g3.2 9 (by decide), G02.2 9 (by decide)]; exact q9
        have z10 : μ4 772 10 = e.1 := by rw [x3 772 (by decide), mup_k (by decide)]; exact h3.1
        have z11 : μ4 772 11 = ((e.2 : Nat) : Int) := by rw [x3 772 (by decide), mup_k (by decide)]; exact h3.2.1
        have hI2 : MI μ4 (pErr A e) := ⟨by rw [fld 6 (by decide)]; exact i1, MNw.cp (o := 0) i2 hA.1 hA.2.1 (fun k hk => by rw [Nat.zero_add]; exact e773 k hk), ⟨by rw [fld 7 (by decide)]; exact i3, fun i hi => by rw [row 775 (by decide) (by decide) (by decide) (by decide) (by decide) (by decide) (by decide)]; exact i3' i hi⟩, ⟨⟨by rw [row 777 (by decide) (by decide) (by decide) (by decide) (by decide) (by decide) (by decide)]; exact i4, fun c hc => by rw [row 776 (by decide) (by decide) (by decide) (by decide) (by decide) (by decide) (by decide)]; exact i4' c hc⟩, ⟨by rw [row 777 (by decide) (by decide) (by decide) (by decide) (by decide) (by decide) (by decide)]; exact i5, fun c hc => by rw [row 776 (by decide) (by decide) (by decide) (by decide) (by decide) (by decide) (by decide)]; exact i5' c hc⟩⟩, ⟨z10, z11, z9, Sg.nil⟩, by rw [fld 44 (by decide)]; exact i10, by rw [row 794 (by decide) (by decide) (by decide) (by decide) (by decide) (by decide) (by decide)]; exact i10'⟩
        exact h μ4 0 hI2 (fun b hb' => row b (by omega) (by omega) (by omega) (by omega) (by omega) (by omega) (by omega)) z0 (fun q => absurd (show (2 : Int) = 0 from q) (by decide))
      · rw [he] at h
        dsimp only at h
        have z3 : μ3 772 10 = 0 := by rw [g3.2 10 (by decide), G02.2 10 (by decide)]; exact q10
        rw [if_neg (by omega)]
        have rr : ∀ b, b ≠ 772 → b ≠ 777 → mup (mup (mup (mup μ3 772 6 1) 772 7 0) 777 0 0) 777 1 0 b = μ3 b := fun b k1 k2 => by rw [mup_r k2, mup_r k2, mup_r k1, mup_r k1]
        have rf : ∀ j, j ≠ 6 → j ≠ 7 → mup (mup (mup (mup μ3 772 6 1) 772 7 0) 777 0 0) 777 1 0 772 j = μ3 772 j := fun j k1 k2 => by rw [mup_r (by decide), mup_r (by decide), mup_k k2, mup_k k1]
        have z6 : mup (mup (mup (mup μ3 772 6 1) 772 7 0) 777 0 0) 777 1 0 772 6 = 1 := by rw [mup_r (by decide), mup_r (by decide), mup_k (by decide), mup_s]
        have z7 : mup (mup (mup (mup μ3 772 6 1) 772 7 0) 777 0 0) 777 1 0 772 7 = 0 := by rw [mup_r (by decide), mup_r (by decide), mup_s]
        have z77 : mup (mup (mup (mup μ3 772 6 1) 772 7 0) 777 0 0) 777 1 0 777 0 = 0 ∧ mup (mup (mup (mup μ3 772 6 1) 772 7 0) 777 0 0) 777 1 0 777 1 = 0 := ⟨by rw [mup_k (by decide), mup_s], mup_s⟩
        have row : ∀ b, b ≠ 772 → b ≠ 773 → b ≠ 774 → b ≠ 777 → b ≠ 779 → b ≠ 780 → b ≠ 781 → b ≠ 783 → mup (mup (mup (mup μ3 772 6 1) 772 7 0) 777 0 0) 777 1 0 b = μ b := fun b k1 k2 k3 k0 k4 k5 k6 k7 => by rw [rr b k1 k0, g3.1 b k1 (by simp [k2, k4, k5, k6, k7]), G02.1 b k1 (by simp [k2, k3]), hG0.1 b k1 (by simp)]
        have e773 : mup (mup (mup (mup μ3 772 6 1) 772 7 0) 777 0 0) 777 1 0 773 = μ3 773 := rr 773 (by decide) (by decide)
        have z44 : mup (mup (mup (mup μ3 772 6 1) 772 7 0) 777 0 0) 777 1 0 772 44 = μ 772 44 := by rw [rf 44 (by decide) (by decide), g3.2 44 (by decide), G02.2 44 (by decide), hG0.2 44 (by decide)]
        have z0 : mup (mup (mup (mup μ3 772 6 1) 772 7 0) 777 0 0) 777 1 0 772 0 = 0 := by rw [rf 0 (by decide) (by decide), g3.2 0 (by decide), G02.2 0 (by decide)]; exact q0
        have z9 : mup (mup (mup (mup μ3 772 6 1) 772 7 0) 777 0 0) 777 1 0 772 9 = 0 := by rw [rf 9 (by decide) (by decide), g3.2 9 (by decide), G02.2 9 (by decide)]; exact q9
        have z10 : mup (mup (mup (mup μ3 772 6 1) 772 7 0) 777 0 0) 777 1 0 772 10 = 0 := by rw [rf 10 (by decide) (by decide)]; exact z3
        have z11 : mup (mup (mup (mup μ3 772 6 1) 772 7 0) 777 0 0) 777 1 0 772 11 = -1 := by rw [rf 11 (by decide) (by decide), g3.2 11 (by decide), G02.2 11 (by decide)]; exact q11
        generalize mup (mup (mup (mup μ3 772 6 1) 772 7 0) 777 0 0) 777 1 0 = μ4 at *
        have hI2 : MI μ4 (pNew A S) := ⟨z6, by rw [e773]; exact s3, ⟨z7, fun i hi => absurd hi (Nat.not_lt_zero i)⟩, ⟨⟨z77.1, fun c hc => by cases hc⟩, ⟨z77.2, fun c hc => by cases hc⟩⟩, ⟨z10, z11, z9, Sg.nil⟩, by rw [z44]; exact i10, by rw [row 794 (by decide) (by decide) (by decide) (by decide) (by decide) (by decide) (by decide) (by decide)]; exact i10'⟩
        have e1 : μ4 773 1 = (S.2.1.length : Int) := by rw [e773]; exact s3.n0.2.1
        rw [e1]
        exact h μ4 _ hI2 (fun b hb' => row b (by omega) (by omega) (by omega) (by omega) (by omega) (by omega) (by omega) (by omega)) z0 (fun _ => rfl)
  · rw [if_pos hv] at h
    rw [decide_eq_false hv]
    refine c_may (b1 := false) (b2 := true) (b3 := true) (fun _ => ?_) (fun q => by cases q) (fun q => by cases q) (fun q => by cases q)
    rw [if_neg (by decide)]
    exact h _ 0 (hI.f0 (by decide)) ((Gm.upF (k := 0)).frM (by decide)) mup_s (fun q => absurd (show (1 : Int) = 0 from q) (by decide))
end X77w
