/-! THE REFERENCE: terms are read -/
/-- what has been read of a term: to the place o of the row -/
def RTm (μ : Mem) (o lim : Nat) (T : List Int) (s : List Nat) : Prop := μ 772 18 = (T.length : Int) ∧ μ 772 19 = (o : Int) ∧ μ 772 20 = (lim : Int) ∧ μ 772 17 = (s.length : Int) ∧ Stk (μ 779) s ∧ Me (μ 773) o T
/-- outside the places of the term the row stays -/
def R3 (o lim : Nat) (μ μ' : Mem) : Prop := ∀ x, x < o ∨ o + lim ≤ x → μ' 773 x = μ 773 x
theorem R3.rfl' {o lim : Nat} {μ : Mem} : R3 o lim μ μ := fun _ _ => rfl
theorem R3.tr {o lim : Nat} {μ μ1 μ2 : Mem} (h1 : R3 o lim μ μ1) (h2 : R3 o lim μ1 μ2) : R3 o lim μ μ2 := fun x hx => by rw [h2 x hx, h1 x hx]
theorem R3.of {o lim : Nat} {μ μ1 : Mem} (h : μ1 773 = μ 773) : R3 o lim μ μ1 := fun x _ => by rw [h]
/-- frames of reading a term -/
abbrev mtR : List Nat := [773, 779]
abbrev mtF : List Nat := [13, 14, 15, 17, 18]
abbrev mtG : List Nat := [13, 14, 15, 17, 18, 19, 20]
abbrev mtH : List Nat := [10, 11, 13, 14, 15, 17, 18, 19, 20]
abbrev mtE : List Nat := [10, 11, 13, 14, 15, 17, 18]
section U77
variable {μ : Mem} {B L : List Int} {t : Tk} {sy : Sy} {o lim role : Nat}
theorem MSy.r3 {μ1 : Mem} (h : MSy μ sy) (hs : syok sy) (hr : R3 o lim μ μ1) (ho : 67 ≤ o) : MSy μ1 sy := fun i hi => by
  have h8 := hs.1
  have h6 := (hs.2 _ (getD_mem (d := (0, [])) hi)).2.2.1
  obtain ⟨m1, m2, m3⟩ := h i hi
  exact ⟨by rw [hr _ (by omega)]; exact m1, by rw [hr _ (by omega)]; exact m2, m3.congr fun x hx => hr _ (by omega)⟩
theorem c_isInLeft {c : Int} {n : Nat} {r : Bool → Prop} (hn : μ 773 1 = (n : Int)) (hn6 : n < 6) (hl : μ 773 (67 + 26 * n) = (L.length : Int)) (hl12 : L.length ≤ 12) (hM : Me (μ 773) (69 + 26 * n) L) (hok : ∀ x, x ∈ L → okn (arS sy) 8 x) (hs : syok sy) (hc0 : c < 0) (hc8 : -8 ≤ c) (h : r (decide (c ∈ L))) : d_Md_isInLeft (enc c) μ r := by
  unfold d_Md_isInLeft
  have h8 : (arS sy).length ≤ 8 := by unfold arS; rw [List.length_map]; exact hs.1
  have oc : okn (arS sy) 8 c := ⟨fun _ => by omega, fun q => by omega⟩
  refine i_Md_isInLeft_l2 (Inv := fun v2 => ∃ k : Nat, v2 = (k : Int) ∧ k ≤ L.length ∧ (c ∈ L ↔ c ∈ L.drop k)) (fun v2 => L.length - v2.toNat) ?_ 0 ⟨0, rfl, Nat.zero_le _, by rw [List.drop_zero]⟩
  rintro v2 ⟨k, e2, hk, hiff⟩ W hW
  unfold d_Md_isInLeft_b2
  have ea : wr (wr (67 + wr (26 * (n : Int))) + 0) = ((67 + 26 * n : Nat) : Int) := by simp (disch := omega) only [wr_id]; omega
  have eb : wr (wr (wr (67 + wr (26 * (n : Int))) + 2) + v2) = ((69 + 26 * n + k : Nat) : Int) := by subst e2; simp (disch := omega) only [wr_id]; omega
  rw [hn, ea, eb, Int.toNat_natCast, Int.toNat_natCast, hl]
  clear ea eb
  refine ⟨by omega, ?_⟩
  by_cases hkl : k < L.length
  · rw [if_pos (by omega), hM.get hkl]
    refine ⟨by omega, ?_⟩
    have inj := enc_inj (hok _ (gm0 hkl)) oc h8
    rw [dropc hkl, List.mem_cons] at hiff
    by_cases hc : L.getD k 0 = c
    · rw [if_pos (inj.mpr hc)]
      rw [decide_eq_true (hiff.mpr (Or.inl hc.symm))] at h
      exact h
    · rw [if_neg (fun q => hc (inj.mp q)), wr_eq (k + 1) (show v2 + 1 = ((k + 1 : Nat) : Int) by omega) (by omega)]
      refine hW _ ⟨k + 1, rfl, by omega, ?_⟩ (by rw [Int.toNat_natCast]; omega)
      rw [hiff]
      exact ⟨fun q => by rcases q with q | q; exact absurd q.symm hc; exact q, fun q => Or.inr q⟩
  · rw [if_neg (by omega)]
    rw [List.drop_eq_nil_of_le (by omega)] at hiff
    rw [decide_eq_false (fun q => by cases hiff.mp q)] at h
    exact h
theorem c_addsNode {c : Int} {v : Int} {T : List Int} {s : List Nat} {Q : Mem → Prop} (hv : v = enc c) (hB : PMx μ B) (h0 : μ 772 10 = 0) (ht : TkM μ t) (tok : tkok B t) (hT : RTm μ o lim T s) (hT1 : T.length ≤ lim) (ho : o + lim ≤ 709)
    (k1 : T.length < lim → ∀ μ', RTm μ' o lim (T ++ [c]) s → TkM μ' (nx B t.2.2) → R3 o lim μ μ' → Gm mtR mtF μ μ' → Q μ') (k2 : lim ≤ T.length → ∀ μ', ER μ' (5, t.2.1) → Gm mtR mtE μ μ' → Q μ') : d_Md_addsNode v μ Q := by
  unfold d_Md_addsNode
  obtain ⟨a1, a2, a3, a4, a5, a6⟩ := hT
  rw [a1, a3]
  by_cases hl : lim ≤ T.length
  · rw [if_pos (by omega)]
    refine c_faults h0 ht (by decide) fun μ' h' g' => ?_
    unfold d_Md_addsNode_j16
    rw [if_pos (by rw [h'.1]; exact h'.2.2)]
    exact k2 hl μ' h' (g'.mono (by decide) (by decide))
  · rw [if_neg (by omega)]
    unfold d_Md_addsNode_j16
    rw [if_neg (by omega), a1, a2, wr_eq (o + T.length) (show (o : Int) + (T.length : Int) = ((o + T.length : Nat) : Int) by omega) (by omega), Int.toNat_natCast]
    have e18 : mup μ 773 (o + T.length) v 772 18 = (T.length : Int) := by rw [mup_r (by decide)]; exact a1
    rw [e18, wr_eq (T.length + 1) (show (T.length : Int) + 1 = ((T.length + 1 : Nat) : Int) by omega) (by omega)]
    refine ⟨by omega, ?_⟩
    have hG : Gm mtR mtF μ (mup (mup μ 773 (o + T.length) v) 772 18 ((T.length + 1 : Nat) : Int)) := (Gm.upR (a := 773) (by decide)).tr (Gm.upF (k := 18)) (by decide) (by decide) (by decide) (by decide)
    have z18 : mup (mup μ 773 (o + T.length) v) 772 18 ((T.length + 1 : Nat) : Int) 772 18 = ((T.length + 1 : Nat) : Int) := mup_s
    have z773 : mup (mup μ 773 (o + T.length) v) 772 18 ((T.length + 1 : Nat) : Int) 773 = mup μ 773 (o + T.length) v 773 := mup_r (by decide)
    have z : ∀ j, j ≠ 18 → mup (mup μ 773 (o + T.length) v) 772 18 ((T.length + 1 : Nat) : Int) 772 j = μ 772 j := fun j hj => by rw [mup_k hj, mup_r (by decide)]
    have z779 : mup (mup μ 773 (o + T.length) v) 772 18 ((T.length + 1 : Nat) : Int) 779 = μ 779 := by rw [mup_r (by decide), mup_r (by decide)]
    generalize mup (mup μ 773 (o + T.length) v) 772 18 ((T.length + 1 : Nat) : Int) = μ1 at *
    refine c_goesT (hB.gm hG (by decide) (by decide)) (by rw [z 10 (by decide)]; exact h0) (t := t) ⟨by rw [z 15 (by decide)]; exact ht.1, by rw [z 14 (by decide)]; exact ht.2.1, by rw [z 13 (by decide)]; exact ht.2.2⟩ tok fun μ2 t2 g2 => ?_
    have e773 : μ2 773 = mup μ 773 (o + T.length) v 773 := by rw [g2.1 773 (by decide) (by decide), z773]
    refine k1 (by omega) μ2 ⟨by rw [g2.2 18 (by decide), z18, List.length_append, List.length_singleton], by rw [g2.2 19 (by decide), z 19 (by decide)]; exact a2, by rw [g2.2 20 (by decide), z 20 (by decide)]; exact a3, by rw [g2.2 17 (by decide), z 17 (by decide)]; exact a4, by rw [g2.1 779 (by decide) (by decide), z779]; exact a5, ?_⟩ t2 (fun x hx => by rw [e773, mup_k (by omega)]) (hG.tr g2 (by decide) (by decide) (by decide) (by decide))
    unfold Me
    rw [e773, List.map_append]
    have hM := a6
    unfold Me at hM
    refine Sg.app (hM.congr fun x hx => by rw [List.length_map] at hx; rw [mup_k (by omega)]) (Sg.one ?_)
    rw [List.length_map, mup_s]
    exact hv
/-- one node -/
theorem c_readsNode {v : Int} {n : Nat} {T : List Int} {s : List Nat} {Q : Mem → Prop} (hv : v = if role = 1 ∧ T.length = 0 then 0 else 1) (hrole : role ≤ 2) (hB : PMx μ B) (h0 : μ 772 10 = 0) (ht : TkM μ t) (tok : tkok B t) (htv : tkv B t) (hS : MSy μ sy) (hs : syok sy) (hns : μ 773 0 = (sy.length : Int)) (hT : RTm μ o lim T s) (hT1 : T.length ≤ lim) (ho : o + lim ≤ 709) (ho67 : 67 ≤ o) (hsl : s.length < 81)
    (h21 : μ 772 21 = if role = 2 then 1 else 0) (hL : role = 2 → μ 773 1 = (n : Int) ∧ n < 6 ∧ μ 773 (67 + 26 * n) = (L.length : Int) ∧ L.length ≤ 12 ∧ Me (μ 773) (69 + 26 * n) L ∧ ∀ x, x ∈ L → okn (arS sy) 8 x)
    (k1 : ftN sy B T L lim role t = 0 → ar (nod sy B t) = 0 → ∀ μ', RTm μ' o lim (T ++ [nod sy B t]) s → TkM μ' (nx B t.2.2) → R3 o lim μ μ' → Gm mtR mtF μ μ' → Q μ')
    (k2 : ftN sy B T L lim role t = 0 → 0 < ar (nod sy B t) → (nx B t.2.2).1 = 40 → ∀ μ', RTm μ' o lim (T ++ [nod sy B t]) (ar (nod sy B t) :: s) → TkM μ' (nx B (nx B t.2.2).2.2) → R3 o lim μ μ' → Gm mtR mtF μ μ' → Q μ')
    (k3 : ∀ e, (ftN sy B T L lim role t ≠ 0 → e = (ftN sy B T L lim role t, t.2.1)) → (ftN sy B T L lim role t = 0 → 0 < ar (nod sy B t) ∧ (nx B t.2.2).1 ≠ 40 ∧ e = (1, (nx B t.2.2).2.1)) → ∀ μ', ER μ' e → Gm mtR mtE μ μ' → Q μ') : d_Md_readsNode v μ Q := by
  unfold d_Md_readsNode
  have kk := kM_iff t.1
  have h8 : (arS sy).length ≤ 8 := by unfold arS; rw [List.length_map]; exact hs.1
  have h500 := hB.2.2.1
  refine c_is h0 ht (fun hk => ?_) (fun hk => ?_)
  · have hk := kk.2.2.1.mp hk
    rw [if_pos rfl]
    unfold d_Md_readsVariable d_Md_readsVariable_j35 d_Md_readsVariable_j40
    have q1 := tok.2.2.2.1 (by rw [hk]; decide)
    have q2 := tok.2.1
    have q3 := htv.1 hk
    obtain ⟨b1, b2⟩ := hB.byte (k := t.2.1) (by omega)
    have hnd : nod sy B t = vnd B t := if_pos hk
    have hv0 : vnd B t < 0 ∧ -8 ≤ vnd B t := by unfold vnd; omega
    have ec : wr (wr (100 + μ 778 t.2.1) - 65) = enc (vnd B t) := by
      rw [b1, sg8_lo (by omega), enc_neg hv0.1, wr_id (z := 100 + _) (by omega) (by omega), wr_id (by omega) (by omega)]
      unfold vnd
      omega
    rw [ht.2.1, Int.toNat_natCast, ec, h21]
    refine ⟨by omega, ?_⟩
    have f0 : ¬ (t.1 = 97 ∧ fnS sy (wd B t) 0 = -1) := fun q => by have := q.1; omega
    have hor : ¬ ¬ (t.1 = 97 ∨ t.1 = 65) := fun q => q (Or.inr hk)
    have add : (¬ (t.1 = 65 ∧ role = 1 ∧ T.length = 0)) → (¬ (t.1 = 65 ∧ role = 2 ∧ ¬ vnd B t ∈ L)) → d_Md_addsNode (enc (vnd B t)) μ Q := by
      intro g1 g2
      have ef : ftN sy B T L lim role t = if lim ≤ T.length then 5 else 0 := by
        unfold ftN
        rw [if_neg hor, if_neg f0, if_neg g1, if_neg g2]
      refine c_addsNode rfl hB h0 ht tok hT hT1 ho (fun hl μ' x1 x2 x3 x4 => ?_) (fun hl μ' x1 x2 => ?_)
      · rw [if_neg (by omega)] at ef
        rw [← hnd] at x1
        exact k1 ef (by rw [hnd, ar_neg hv0.1]) μ' x1 x2 x3 x4
      · rw [if_pos hl] at ef
        exact k3 (5, t.2.1) (fun _ => by rw [ef]) (fun q => by rw [ef] at q; cases q) μ' x1 x2
    have bad : ftN sy B T L lim role t = 4 → d_Md_faults 4 μ (fun μ2 => d_Md_addsNode (enc (vnd B t)) μ2 (fun μ4 => Q μ4)) := by
      intro ef
      refine c_faults h0 ht (by decide) fun μ' h' g' => ?_
      unfold d_Md_addsNode
      have fin : d_Md_addsNode_j16 (enc (vnd B t)) μ' (fun μ4 => Q μ4) := by
        unfold d_Md_addsNode_j16
        rw [if_pos (by rw [h'.1]; exact h'.2.2)]
        exact k3 (4, t.2.1) (fun _ => by rw [ef]) (fun q => by rw [ef] at q; cases q) μ' h' (g'.mono (by decide) (by decide))
      by_cases q : μ' 772 18 = μ' 772 20
      · rw [if_pos q]
        exact e_faults h' fin
      · rw [if_neg q]
        exact fin
    by_cases g1 : role = 1 ∧ T.length = 0
    · rw [if_pos g1] at hv
      rw [if_pos hv]
      refine bad ?_
      unfold ftN
      rw [if_neg hor, if_neg f0, if_pos ⟨hk, g1⟩]
    · rw [if_neg g1] at hv
      rw [if_neg (by omega)]
      have g1' : ¬ (t.1 = 65 ∧ role = 1 ∧ T.length = 0) := fun q => g1 q.2
      by_cases g2 : role = 2
      · rw [if_pos g2, if_neg (by decide)]
        obtain ⟨l1, l2, l3, l4, l5, l6⟩ := hL g2
        refine c_isInLeft l1 l2 l3 l4 l5 l6 hs hv0.1 hv0.2 ?_
        by_cases m : vnd B t ∈ L
        · rw [decide_eq_true m, if_pos rfl]
          exact add g1' fun q => q.2.2 m
        · rw [decide_eq_false m, if_neg (by decide)]
          refine bad ?_
          unfold ftN
          rw [if_neg hor, if_neg f0, if_neg g1', if_pos ⟨hk, g2, m⟩]
      · rw [if_neg g2, if_pos rfl]
        exact add g1' fun q => g2 q.2.1
  · have hk65 : ¬ t.1 = 65 := fun q => hk (kk.2.2.1.mpr q)
    rw [if_neg (by decide)]
    refine c_is h0 ht (fun hw => ?_) (fun hw => ?_)
    · have hk97 := kk.2.1.mp hw
      rw [if_pos rfl]
      unfold d_Md_readsSymbolNode
      have hor : ¬ ¬ (t.1 = 97 ∨ t.1 = 65) := fun q => q (Or.inl hk97)
      refine c_symbolHere hB ht tok hS hs hns ?_
      by_cases hf : fnS sy (wd B t) 0 = -1
      · rw [if_pos hf]
        have ef : ftN sy B T L lim role t = 3 := by
          unfold ftN
          rw [if_neg hor, if_pos ⟨hk97, hf⟩]
        refine c_faults h0 ht (by decide) fun μ' h' g' => ?_
        unfold d_Md_readsSymbolNode_j15
        rw [if_pos (by rw [h'.1]; exact h'.2.2)]
        exact k3 (3, t.2.1) (fun _ => by rw [ef]) (fun q => by rw [ef] at q; cases q) μ' h' (g'.mono (by decide) (by decide))
      · rw [if_neg hf]
        have ef : ftN sy B T L lim role t = if lim ≤ T.length then 5 else 0 := by
          unfold ftN
          rw [if_neg hor, if_neg (fun q => hf q.2), if_neg (fun q => hk65 q.1), if_neg (fun q => hk65 q.1)]
        obtain ⟨i, e1, e2, e3⟩ := fnS_get sy 0 hf
        rw [Nat.zero_add] at e1
        have hnd : nod sy B t = 4 * (i : Int) + (((sy.getD i (0, [])).1 : Nat) : Int) := by
          unfold nod
          rw [if_neg hk65, e1, Int.toNat_natCast]
        have ha := (hs.2 _ (getD_mem (d := (0, [])) e2)).1
        have hs8 := hs.1
        have henc : ((i : Nat) : Int) = enc (nod sy B t) := by rw [hnd, enc_pos (by omega)]; omega
        have har : ar (nod sy B t) = (sy.getD i (0, [])).1 := by
          rw [hnd]
          unfold ar
          rw [if_neg (by omega)]
          omega
        rw [e1]
        unfold d_Md_readsSymbolNode_j15
        rw [if_neg (by omega)]
        refine c_addsNode henc hB h0 ht tok hT hT1 ho (fun hl μ1 x1 x2 x3 x4 => ?_) (fun hl μ1 x1 x2 => ?_)
        · rw [if_neg (by omega)] at ef
          have z10 : μ1 772 10 = 0 := by rw [x4.2 10 (by decide)]; exact h0
          rw [if_neg (by omega)]
          have m1 := (hS.r3 hs x3 ho67) i e2
          refine c_ofSymbol (k := 0) (by omega) (by omega) ?_
          rw [Nat.add_zero, m1.1]
          by_cases ha0 : (sy.getD i (0, [])).1 = 0
          · rw [if_pos (by omega)]
            exact k1 ef (by rw [har]; exact ha0) μ1 x1 x2 x3 x4
          · rw [if_neg (by omega)]
            have n1 := nx_le tok
            have ka := kM_iff (nx B t.2.2).1
            have B1 := hB.gm x4 (by decide) (by decide)
            have tail : ∀ μ2 : Mem, μ2 773 = μ1 773 → μ2 779 = μ1 779 → μ2 772 17 = μ1 772 17 → (Q (mup (mup μ2 779 (s.length) (((sy.getD i (0, [])).1 : Nat) : Int)) 772 17 ((s.length + 1 : Nat) : Int))) → d_Md_ofSymbol (i : Int) 0 μ2 (fun r11 => (0 ≤ μ2 772 17 ∧ μ2 772 17 < 81) ∧ Q (mup (mup μ2 779 (μ2 772 17).toNat r11) 772 17 (wr (((mup μ2 779 (μ2 772 17).toNat r11) 772 17) + 1)))) := by
              intro μ2 y1 y2 y3 hq
              refine c_ofSymbol (k := 0) (by omega) (by omega) ?_
              have e17 : μ2 772 17 = (s.length : Int) := by rw [y3]; exact x1.2.2.2.1
              have e17' : ∀ z : Int, mup μ2 779 s.length z 772 17 = (s.length : Int) := fun z => by rw [mup_r (by decide)]; exact e17
              rw [Nat.add_zero, y1, m1.1, e17, Int.toNat_natCast, e17', wr_eq (s.length + 1) (show (s.length : Int) + 1 = ((s.length + 1 : Nat) : Int) by omega) (by omega)]
              exact ⟨by omega, hq⟩
            have rr : ∀ (μ2 : Mem) (z z' : Int) (b : Nat), b ≠ 772 → b ≠ 779 → mup (mup μ2 779 s.length z) 772 17 z' b = μ2 b := fun μ2 z z' b q1 q2 => by rw [mup_r q1, mup_r q2]
            have rf : ∀ (μ2 : Mem) (z z' : Int) (j : Nat), j ≠ 17 → mup (mup μ2 779 s.length z) 772 17 z' 772 j = μ2 772 j := fun μ2 z z' j q1 => by rw [mup_k q1, mup_r (by decide)]
            refine c_wants B1 z10 x2 n1.1 (fun hk40 μ2 t2 g2 => ?_) (fun hk40 μ2 h2 g2 => ?_)
            · refine tail μ2 (g2.1 773 (by decide) (by decide)) (g2.1 779 (by decide) (by decide)) (g2.2 17 (by decide)) ?_
              have hGx : Gm mtR mtF μ (mup (mup μ2 779 s.length (((sy.getD i (0, [])).1 : Nat) : Int)) 772 17 ((s.length + 1 : Nat) : Int)) := ((x4.tr g2 (r := mtR) (f := mtF) (by decide) (by decide) (by decide) (by decide)).tr (Gm.upR (a := 779) (by decide)) (r := mtR) (f := mtF) (by decide) (by decide) (by decide) (by decide)).tr (Gm.upF (k := 17)) (by decide) (by decide) (by decide) (by decide)
              refine k2 ef (by rw [har]; omega) (ka.2.2.2.2.2.2.2.1.mp hk40) _ ⟨?_, ?_, ?_, ?_, ?_, ?_⟩ ⟨?_, ?_, ?_⟩ (x3.tr (R3.of (by rw [rr _ _ _ 773 (by decide) (by decide), g2.1 773 (by decide) (by decide)]))) hGx
              · rw [rf _ _ _ 18 (by decide), g2.2 18 (by decide)]; exact x1.1
              · rw [rf _ _ _ 19 (by decide), g2.2 19 (by decide)]; exact x1.2.1
              · rw [rf _ _ _ 20 (by decide), g2.2 20 (by decide)]; exact x1.2.2.1
              · rw [mup_s, List.length_cons]
              · rw [mup_r (by decide)]
                have st0 : Stk (μ2 779) s := by rw [g2.1 779 (by decide) (by decide)]; exact x1.2.2.2.2.1
                refine st0.push ⟨by rw [har]; omega, by rw [har]; exact ha⟩ (fun x hx => mup_k (by omega)) ?_
                rw [mup_s, har]
              · rw [rr _ _ _ 773 (by decide) (by decide), g2.1 773 (by decide) (by decide)]; exact x1.2.2.2.2.2
              · rw [rf _ _ _ 15 (by decide)]; exact t2.1
              · rw [rf _ _ _ 14 (by decide)]; exact t2.2.1
              · rw [rf _ _ _ 13 (by decide)]; exact t2.2.2
            · refine tail μ2 (g2.1 773 (by decide) (by decide)) (g2.1 779 (by decide) (by decide)) (g2.2 17 (by decide)) ?_
              refine k3 (1, (nx B t.2.2).2.1) (fun q => absurd ef q) (fun _ => ⟨by rw [har]; omega, fun q => hk40 (ka.2.2.2.2.2.2.2.1.mpr q), rfl⟩) _ ⟨by rw [rf _ _ _ 10 (by decide)]; exact h2.1, by rw [rf _ _ _ 11 (by decide)]; exact h2.2.1, h2.2.2⟩ (((x4.tr g2 (r := mtR) (f := mtE) (by decide) (by decide) (by decide) (by decide)).tr (Gm.upR (a := 779) (by decide)) (r := mtR) (f := mtE) (by decide) (by decide) (by decide) (by decide)).tr (Gm.upF (k := 17)) (by decide) (by decide) (by decide) (by decide))
        · rw [if_pos hl] at ef
          rw [if_pos (by rw [x1.1]; exact x1.2.2)]
          exact k3 (5, t.2.1) (fun _ => by rw [ef]) (fun q => by rw [ef] at q; cases q) μ1 x1 x2
    · have hk97 : ¬ t.1 = 97 := fun q => hw (kk.2.1.mpr q)
      rw [if_neg (by decide)]
      have ef : ftN sy B T L lim role t = 1 := by
        unfold ftN
        rw [if_pos (fun q => by rcases q with q | q; exact hk97 q; exact hk65 q)]
      refine c_faults h0 ht (by decide) fun μ' h' g' => ?_
      exact k3 (1, t.2.1) (fun _ => by rw [ef]) (fun q => by rw [ef] at q; cases q) μ' h' (g'.mono (by decide) (by decide))
/-- what follows a node without arguments -/
theorem c_readsEnds : ∀ (s : List Nat) (μ : Mem) (t : Tk) {Q : Mem → Prop}, PMx μ B → μ 772 10 = 0 → TkM μ t → tkok B t → μ 772 17 = (s.length : Int) → Stk (μ 779) s → s.length ≤ 80 →
    (∀ μ' s2 t2, clB B s t = .inr (s2, t2) → TkM μ' t2 → μ' 772 17 = (s2.length : Int) → Stk (μ' 779) s2 → Gm [779] [13, 14, 15, 17] μ μ' → Q μ') →
    (∀ μ' e, clB B s t = .inl e → ER μ' e → Gm [779] [10, 11, 13, 14, 15, 17] μ μ' → Q μ') → d_Md_readsEnds_l0 μ Q := by
  intro s
  induction s with
  | nil =>
    intro μ t Q hB h0 ht tok h17 hst hl kS kE W hW
    apply hW
    unfold d_Md_readsEnds_b0
    rw [h17, if_neg (by decide)]
    exact kS μ [] t rfl ht h17 hst Gm.rfl'
  | cons d s ih =>
    intro μ t Q hB h0 ht tok h17 hst hl kS kE W hW
    apply hW
    unfold d_Md_readsEnds_b0
    rw [List.length_cons] at h17 hl
    have htop := hst.top
    have hd := hst.2 d (List.mem_cons_self ..)
    have e17 : ∀ z : Int, mup μ 779 s.length z 772 17 = ((s.length + 1 : Nat) : Int) := fun z => by rw [mup_r (by decide)]; exact h17
    rw [h17, if_pos (by omega), if_pos h0, wr_eq s.length (show ((s.length + 1 : Nat) : Int) - 1 = (s.length : Int) by omega) (by omega), Int.toNat_natCast, htop, wr_eq (d - 1) (show (d : Int) - 1 = ((d - 1 : Nat) : Int) by omega) (by omega), e17, wr_eq s.length (show ((s.length + 1 : Nat) : Int) - 1 = (s.length : Int) by omega) (by omega), Int.toNat_natCast, mup_s]
    refine ⟨by omega, by omega, by omega, ?_⟩
    have hG1 : Gm [779] [] μ (mup μ 779 s.length ((d - 1 : Nat) : Int)) := Gm.upR (by decide)
    have ht1 : TkM (mup μ 779 s.length ((d - 1 : Nat) : Int)) t := by unfold TkM; rw [mup_r (by decide)]; exact ht
    have h01 : mup μ 779 s.length ((d - 1 : Nat) : Int) 772 10 = 0 := by rw [mup_r (by decide)]; exact h0
    have hg1 : ∀ i, i < s.length → mup μ 779 s.length ((d - 1 : Nat) : Int) 779 i = μ 779 i := fun i hi => mup_k (by omega)
    have h79 : mup μ 779 s.length ((d - 1 : Nat) : Int) 779 s.length = ((d - 1 : Nat) : Int) := mup_s
    have e17' := e17 ((d - 1 : Nat) : Int)
    generalize mup μ 779 s.length ((d - 1 : Nat) : Int) = μ1 at *
    have hs1 : Stk (μ1 779) s := hst.pop hg1
    have hB1 := hB.gm hG1 (by decide) (by decide)
    have hn := nx_le tok
    have kk := kM_iff t.1
    by_cases hd1 : 1 < d
    · rw [if_pos (by omega)]
      refine c_wants hB1 h01 ht1 tok (fun hk μ2 t2 g2 => ?_) (fun hk μ2 h2 g2 => ?_)
      · refine kS μ2 ((d - 1) :: s) (nx B t.2.2) (by rw [clB, if_pos hd1, if_pos (kk.2.2.2.2.2.2.1.mp hk)]) t2 (by rw [g2.2 17 (by decide), List.length_cons]; exact e17') ?_ (hG1.tr g2 (by decide) (by decide) (by decide) (by decide))
        rw [g2.1 779 (by decide) (by decide)]
        exact hs1.push (by omega) (fun _ _ => rfl) h79
      · exact kE μ2 _ (by rw [clB, if_pos hd1, if_neg (fun q => hk (kk.2.2.2.2.2.2.1.mpr q))]) h2 (hG1.tr g2 (by decide) (by decide) (by decide) (by decide))
    · rw [if_neg (by omega)]
      refine c_wants hB1 h01 ht1 tok (fun hk μ2 t2 g2 => ?_) (fun hk μ2 h2 g2 => ?_)
      · have ec : clB B (d :: s) t = clB B s (nx B t.2.2) := by rw [clB, if_neg hd1, if_pos (kk.2.2.2.2.2.2.2.2.mp hk)]
        rw [g2.2 17 (by decide), e17', wr_eq s.length (show ((s.length + 1 : Nat) : Int) - 1 = (s.length : Int) by omega) (by omega)]
        have g3 : Gm [779] [13, 14, 15, 17] μ (mup μ2 772 17 (s.length : Int)) := (hG1.tr g2 (r := [779]) (f := [13, 14, 15]) (by decide) (by decide) (by decide) (by decide)).tr (Gm.upF (k := 17)) (by decide) (by decide) (by decide) (by decide)
        have z10 : mup μ2 772 17 (s.length : Int) 772 10 = 0 := by rw [mup_k (by decide), g2.2 10 (by decide)]; exact h01
        have t3 : TkM (mup μ2 772 17 (s.length : Int)) (nx B t.2.2) := ⟨by rw [mup_k (by decide)]; exact t2.1, by rw [mup_k (by decide)]; exact t2.2.1, by rw [mup_k (by decide)]; exact t2.2.2⟩
        have s3 : Stk (mup μ2 772 17 (s.length : Int) 779) s := by rw [mup_r (by decide), g2.1 779 (by decide) (by decide)]; exact hs1
        refine ih _ (nx B t.2.2) (hB.gm g3 (by decide) (by decide)) z10 t3 hn.1 mup_s s3 (by omega) (fun μ' s2 t4 h1 h2 h3 h4 h5 => kS μ' s2 t4 (by rw [ec]; exact h1) h2 h3 h4 (g3.tr h5 (by decide) (by decide) (by decide) (by decide))) (fun μ' e h1 h2 h3 => kE μ' e (by rw [ec]; exact h1) h2 (g3.tr h3 (by decide) (by decide) (by decide) (by decide))) W hW
      · -- an error: the loop ends
        have h3 : ER (mup μ2 772 17 (wr (μ2 772 17 - 1))) (1, t.2.1) := ⟨by rw [mup_k (by decide)]; exact h2.1, by rw [mup_k (by decide)]; exact h2.2.1, h2.2.2⟩
        have g3 : Gm [779] [10, 11, 13, 14, 15, 17] μ (mup μ2 772 17 (wr (μ2 772 17 - 1))) := (hG1.tr g2 (r := [779]) (f := [10, 11]) (by decide) (by decide) (by decide) (by decide)).tr (Gm.upF (k := 17)) (by decide) (by decide) (by decide) (by decide)
        have q := kE _ _ (by rw [clB, if_neg hd1, if_neg (fun q => hk (kk.2.2.2.2.2.2.2.2.mpr q))]) h3 g3
        apply hW
        unfold d_Md_readsEnds_b0
        by_cases y : 0 < mup μ2 772 17 (wr (μ2 772 17 - 1)) 772 17
        · have := h3.2.2
          rw [if_pos y, if_neg (by rw [h3.1]; omega)]
          exact q
        · rw [if_neg y]
          exact q
theorem c_mReadTerm {n : Nat} {v1 v2 v3 : Int} {Q : Int → Mem → Prop} (hv1 : v1 = (o : Int)) (hv2 : v2 = (lim : Int)) (hv3 : v3 = if role = 1 then 0 else 1) (hrole : role ≤ 2) (hlim : lim ≤ 40) (hB : PMx μ B) (h0 : μ 772 10 = 0) (ht : TkM μ t) (tok : tkok B t) (htv : tkv B t) (hS : MSy μ sy) (hs : syok sy) (hns : μ 773 0 = (sy.length : Int)) (ho : o + lim ≤ 709) (ho67 : 67 ≤ o)
    (h21 : μ 772 21 = if role = 2 then 1 else 0) (hL : role = 2 → μ 773 1 = (n : Int) ∧ n < 6 ∧ μ 773 (67 + 26 * n) = (L.length : Int) ∧ L.length ≤ 12 ∧ Me (μ 773) (69 + 26 * n) L ∧ (∀ x, x ∈ L → okn (arS sy) 8 x) ∧ o = 81 + 26 * n)
    (kS : ∀ μ' X t2, rdT B sy L lim role (lim + 1) [] [] t = .inr (X, t2) → TkM μ' t2 → Me (μ' 773) o X → R3 o lim μ μ' → Gm mtR mtG μ μ' → Q (X.length : Int) μ')
    (kE : ∀ w μ' e, rdT B sy L lim role (lim + 1) [] [] t = .inl e → ER μ' e → Gm mtR mtH μ μ' → Q w μ') : d_Md_readTerm v1 v2 v3 μ Q := by
  unfold d_Md_readTerm
  have hG0 : Gm mtR mtG μ (mup (mup (mup (mup μ 772 19 v1) 772 20 v2) 772 18 0) 772 17 0) := (((Gm.upF (k := 19)).tr (Gm.upF (k := 20)) (r := []) (f := [19, 20]) (by decide) (by decide) (by decide) (by decide)).tr (Gm.upF (k := 18)) (r := []) (f := [18, 19, 20]) (by decide) (by decide) (by decide) (by decide)).tr (Gm.upF (k := 17)) (by decide) (by decide) (by decide) (by decide)
  have z : ∀ j, j ≠ 17 → j ≠ 18 → j ≠ 19 → j ≠ 20 → mup (mup (mup (mup μ 772 19 v1) 772 20 v2) 772 18 0) 772 17 0 772 j = μ 772 j := fun j a b c d => by rw [mup_k a, mup_k b, mup_k d, mup_k c]
  have zr : ∀ b, b ≠ 772 → mup (mup (mup (mup μ 772 19 v1) 772 20 v2) 772 18 0) 772 17 0 b = μ b := fun b hb => by rw [mup_r hb, mup_r hb, mup_r hb, mup_r hb]
  have hT0 : RTm (mup (mup (mup (mup μ 772 19 v1) 772 20 v2) 772 18 0) 772 17 0) o lim [] [] := ⟨by rw [mup_k (by decide), mup_s]; rfl, by rw [mup_k (by decide), mup_k (by decide), mup_k (by decide), mup_s]; exact hv1, by rw [mup_k (by decide), mup_k (by decide), mup_s]; exact hv2, mup_s, ⟨fun i hi => absurd hi (by simp), fun d hd => by cases hd⟩, Sg.nil⟩
  generalize mup (mup (mup (mup μ 772 19 v1) 772 20 v2) 772 18 0) 772 17 0 = μ0 at *
  obtain ⟨R0, hR0⟩ : ∃ R, R = rdT B sy L lim role (lim + 1) [] [] t := ⟨_, rfl⟩
  rw [← hR0] at kE kS
  -- one turn
  have one : ∀ (μ1 : Mem) (T : List Int) (s : List Nat) (t1 : Tk) (f : Nat) (v : Int) (K : Mem → Prop), (v = if role = 1 ∧ T.length = 0 then 0 else 1) → f + 1 + T.length = lim + 1 → s.length ≤ T.length → RTm μ1 o lim T s → μ1 772 10 = 0 → TkM μ1 t1 → tkok B t1 → tkv B t1 → R3 o lim μ μ1 → Gm mtR mtG μ μ1 → R0 = rdT B sy L lim role (f + 1) T s t1 →
      (∀ μ2 T2 s2 t2, f + T2.length = lim + 1 → T2.length ≤ lim → s2.length ≤ T2.length → s2 ≠ [] → RTm μ2 o lim T2 s2 → μ2 772 10 = 0 → TkM μ2 t2 → tkok B t2 → tkv B t2 → R3 o lim μ μ2 → Gm mtR mtG μ μ2 → R0 = rdT B sy L lim role f T2 s2 t2 → 0 < T2.length → K μ2) →
      (∀ μ2 X t2, R0 = .inr (X, t2) → TkM μ2 t2 → RTm μ2 o lim X [] → μ2 772 10 = 0 → R3 o lim μ μ2 → Gm mtR mtG μ μ2 → K μ2) →
      (∀ μ2 e, R0 = .inl e → ER μ2 e → Gm mtR mtH μ μ2 → K μ2) → d_Md_readsOne v μ1 K := by
    intro μ1 T s t1 f v K hv hf hsl hT z10 tk1 tok1 tkv1 r1 g1 hR kNext kDone kErr
    unfold d_Md_readsOne
    have hB1 := hB.gm g1 (by decide) (by decide)
    have hS1 : MSy μ1 sy := hS.r3 hs r1 ho67
    have hns1 : μ1 773 0 = (sy.length : Int) := by rw [r1 0 (by omega)]; exact hns
    rw [rdT] at hR
    refine c_readsNode (n := n) (role := role) (L := L) (T := T) (s := s) hv hrole hB1 z10 tk1 tok1 tkv1 hS1 hs hns1 hT (by omega) ho ho67 (by omega) (by rw [g1.2 21 (by decide)]; exact h21) (fun q => ?_) (fun f0 a0 μ2 x1 x2 x3 x4 => ?_) (fun f0 a0 k40 μ2 x1 x2 x3 x4 => ?_) (fun e e1 e2 μ2 x1 x2 => ?_)
    · obtain ⟨l1, l2, l3, l4, l5, l6, l7⟩ := hL q
      refine ⟨by rw [r1 1 (by omega)]; exact l1, l2, by rw [r1 _ (by omega)]; exact l3, l4, l5.congr fun x hx => ?_, l6⟩
      rw [List.length_map] at hx
      exact r1 _ (by omega)
    · rw [if_neg (fun q => q f0), if_neg (by omega)] at hR
      obtain ⟨o1, o2, _⟩ := nod_ok hs tkv1 f0
      have hlen : (T ++ [nod sy B t1]).length = T.length + 1 := by rw [List.length_append, List.length_singleton]
      rw [x1.2.2.2.1, hT.2.2.2.1, if_pos rfl]
      unfold d_Md_readsEnds
      have z102 : μ2 772 10 = 0 := by rw [x4.2 10 (by decide)]; exact z10
      have n1 := nx_le tok1
      have hB2 := hB1.gm x4 (by decide) (by decide)
      have G2 : Gm mtR mtG μ μ2 := g1.tr x4 (by decide) (by decide) (by decide) (by decide)
      refine c_readsEnds s μ2 _ hB2 z102 x2 n1.1 x1.2.2.2.1 x1.2.2.2.2.1 (by omega) (fun μ3 s2 t2 hc tk3 h17 st3 g3 => ?_) (fun μ3 e hc h3 g3 => ?_)
      · rw [hc] at hR
        have x13 : RTm μ3 o lim (T ++ [nod sy B t1]) s2 := ⟨by rw [g3.2 18 (by decide)]; exact x1.1, by rw [g3.2 19 (by decide)]; exact x1.2.1, by rw [g3.2 20 (by decide)]; exact x1.2.2.1, h17, st3, by rw [g3.1 773 (by decide) (by decide)]; exact x1.2.2.2.2.2⟩
        have z103 : μ3 772 10 = 0 := by rw [g3.2 10 (by decide)]; exact z102
        have R3' : R3 o lim μ μ3 := (r1.tr x3).tr (R3.of (g3.1 773 (by decide) (by decide)))
        have G3 : Gm mtR mtG μ μ3 := G2.tr g3 (by decide) (by decide) (by decide) (by decide)
        have hd1 : ∀ d, d ∈ s → 1 ≤ d := fun d hd => (hT.2.2.2.2.1.2 d hd).1
        have hl2 := (clB_dm s _ hd1 _ _ hc).2.2.2
        cases s2 with
        | nil => exact kDone μ3 _ t2 hR tk3 x13 z103 R3' G3
        | cons d s2 => exact kNext μ3 _ (d :: s2) t2 (by omega) (by omega) (by omega) (fun q => by cases q) x13 z103 tk3 (clB_ok s _ n1.1 _ _ hc).1 (clB_v s _ (nx_v _ _) _ _ hc) R3' G3 hR (by omega)
      · rw [hc] at hR
        exact kErr μ3 e hR h3 (G2.tr g3 (by decide) (by decide) (by decide) (by decide))
    · rw [if_neg (fun q => q f0), if_pos a0, if_pos k40] at hR
      obtain ⟨o1, o2, _⟩ := nod_ok hs tkv1 f0
      have hlen : (T ++ [nod sy B t1]).length = T.length + 1 := by rw [List.length_append, List.length_singleton]
      rw [x1.2.2.2.1, hT.2.2.2.1, if_neg (by rw [List.length_cons]; omega)]
      have n1 := nx_le tok1
      have n2 := nx_le n1.1
      exact kNext μ2 _ _ _ (by omega) (by omega) (by rw [List.length_cons]; omega) (fun q => by cases q) x1 (by rw [x4.2 10 (by decide)]; exact z10) x2 n2.1 (nx_v _ _) (r1.tr x3) (g1.tr x4 (by decide) (by decide) (by decide) (by decide)) hR (by omega)
    · have hR' : R0 = .inl e := by
        by_cases f0 : ftN sy B T L lim role t1 = 0
        · obtain ⟨q1, q2, q3⟩ := e2 f0
          rw [if_neg (fun q => q f0), if_pos q1, if_neg q2] at hR
          rw [hR, q3]
        · rw [if_pos f0] at hR
          rw [hR, e1 f0]
      have G2 : Gm mtR mtH μ μ2 := g1.tr x2 (by decide) (by decide) (by decide) (by decide)
      by_cases y : μ2 772 17 = μ1 772 17
      · rw [if_pos y]
        unfold d_Md_readsEnds
        intro W hW
        apply hW
        unfold d_Md_readsEnds_b0
        have := x1.2.2
        by_cases y2 : 0 < μ2 772 17
        · rw [if_pos y2, if_neg (by rw [x1.1]; omega)]
          exact kErr μ2 e hR' x1 G2
        · rw [if_neg y2]
          exact kErr μ2 e hR' x1 G2
      · rw [if_neg y]
        exact kErr μ2 e hR' x1 G2
  -- the end of the loop
  have done : ∀ (μ2 : Mem) X t2, R0 = .inr (X, t2) → TkM μ2 t2 → RTm μ2 o lim X [] → μ2 772 10 = 0 → R3 o lim μ μ2 → Gm mtR mtG μ μ2 → d_Md_readTerm_l25 μ2 Q := by
    intro μ2 X t2 hR tk2 x2 z2 r2 g2 W hW
    apply hW
    unfold d_Md_readTerm_b25
    rw [x2.2.2.2.1, if_neg (by decide), x2.1]
    exact kS μ2 X t2 hR tk2 x2.2.2.2.2.2 r2 g2
  have err : ∀ (μ2 : Mem) e, R0 = .inl e → ER μ2 e → Gm mtR mtH μ μ2 → d_Md_readTerm_l25 μ2 Q := by
    intro μ2 e hR h2 g2 W hW
    apply hW
    unfold d_Md_readTerm_b25
    have := h2.2.2
    by_cases y : 0 < μ2 772 17
    · rw [if_pos y, if_neg (by rw [h2.1]; omega)]
      exact kE _ μ2 e hR h2 g2
    · rw [if_neg y]
      exact kE _ μ2 e hR h2 g2
  have go : ∀ (f : Nat) (μ1 : Mem) (T : List Int) (s : List Nat) (t1 : Tk), f + T.length = lim + 1 → T.length ≤ lim → s.length ≤ T.length → s ≠ [] → RTm μ1 o lim T s → μ1 772 10 = 0 → TkM μ1 t1 → tkok B t1 → tkv B t1 → R3 o lim μ μ1 → Gm mtR mtG μ μ1 → R0 = rdT B sy L lim role f T s t1 → 0 < T.length → d_Md_readTerm_l25 μ1 Q := by
    intro f
    induction f with
    | zero => intro μ1 T s t1 hf hl; omega
    | succ f ih =>
      intro μ1 T s t1 hf hl hsl hne hT z10 tk1 tok1 tkv1 r1 g1 hR hp W hW
      apply hW
      unfold d_Md_readTerm_b25
      have hsp : 0 < s.length := List.length_pos_iff.mpr hne
      rw [hT.2.2.2.1, if_pos (by omega), if_pos z10]
      refine one μ1 T s t1 f 1 _ (by rw [if_neg (fun q => by omega)]) (by omega) hsl hT z10 tk1 tok1 tkv1 r1 g1 hR (fun μ2 T2 s2 t2 a1 a2 a3 a4 a5 a6 a7 a8 a9 a10 a11 a12 a13 => ih μ2 T2 s2 t2 a1 a2 a3 a4 a5 a6 a7 a8 a9 a10 a11 a12 a13 W hW) (fun μ2 X t2 a1 a2 a3 a4 a5 a6 => done μ2 X t2 a1 a2 a3 a4 a5 a6 W hW) (fun μ2 e a1 a2 a3 => err μ2 e a1 a2 a3 W hW)
  refine one μ0 [] [] t lim v3 _ (by rw [hv3]; by_cases q : role = 1; rw [if_pos q, if_pos ⟨q, rfl⟩]; rw [if_neg q, if_neg (fun y => q y.1)]) rfl (Nat.le_refl _) hT0 (by rw [z 10 (by decide) (by decide) (by decide) (by decide)]; exact h0) ⟨by rw [z 15 (by decide) (by decide) (by decide) (by decide)]; exact ht.1, by rw [z 14 (by decide) (by decide) (by decide) (by decide)]; exact ht.2.1, by rw [z 13 (by decide) (by decide) (by decide) (by decide)]; exact ht.2.2⟩ tok htv (R3.of (zr 773 (by decide))) hG0 hR0 (fun μ2 T2 s2 t2 a1 a2 a3 a4 a5 a6 a7 a8 a9 a10 a11 a12 a13 => go _ μ2 T2 s2 t2 a1 a2 a3 a4 a5 a6 a7 a8 a9 a10 a11 a12 a13) (fun μ2 X t2 a1 a2 a3 a4 a5 a6 => done μ2 X t2 a1 a2 a3 a4 a5 a6) (fun μ2 e a1 a2 a3 => err μ2 e a1 a2 a3)
end U77
