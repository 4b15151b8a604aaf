/-! CALLS THAT CHANGE terms -/
def g4 (ok idx : Bool) (o : Option (Int × AS)) (A : AS) : Int × Int × AS := if ok = false then (1, 0, A) else if idx = false then (2, 0, A) else match o with
  | none => (3, 0, A)
  | some (r, A') => (0, r, A')
section G54
variable {μ μ1 : Mem} {A A' : AS} {Q : Int → Mem → Prop} {b2 : Bool} {o : Option (Int × AS)} {r z : Int}
theorem WC.e1 (h : WC μ (g4 false b2 o A) Q) (hI : CI μ1 A) (hf : Fz μ μ1) : Q 1 (thr μ1) := h _ hI.thr hf.frCt (fun q => absurd (show (1 : Int) = 0 from q) (by decide))
theorem WC.e2 (h : WC μ (g4 true false o A) Q) (hI : CI μ1 A) (hf : Fz μ μ1) : Q 2 (thr μ1) := h _ hI.thr hf.frCt (fun q => absurd (show (2 : Int) = 0 from q) (by decide))
theorem WC.e3 (h : WC μ (g4 true true none A) Q) (hI : CI μ1 A) (hf : Fz μ μ1) : Q 3 (thr μ1) := h _ hI.thr hf.frCt (fun q => absurd (show (3 : Int) = 0 from q) (by decide))
theorem WC.ok4 (h : WC μ (g4 true true (some (r, A')) A) Q) (hI : CI μ1 A') (hf : Fz μ μ1) (hz : z = l64 r) : Q 0 (mup μ1 795 0 z) :=
  h _ (hI.mup (by decide)) ⟨fun b h1 h2 => by rw [mup_r (by omega)]; exact hf b (by omega), by rw [mup_r (by omega), hf 797 (by omega)]; omega, by rw [mup_r (by omega), hf 797 (by omega)]; omega⟩ (fun _ => ⟨by first | (rw [mup_s]; done) | (rw [mup_s]; exact hz), by rw [mup_r (by omega), hf 797 (by omega)]⟩)
theorem MC.e1 (h : MC μ (g4 false b2 o A) Q) (hI : MI μ1 A) (hg : Gm qmR qF0 μ μ1) : Q z (mup μ1 772 0 1) :=
  h _ z (hI.gq (Gm.upF.mono (by decide) (by decide))) (((hg.tr (Gm.upF (k := 0)) (r := qmR) (f := qmF) (by decide) (by decide) (by decide) (by decide))).frMq) mup_s (fun q => absurd (show (1 : Int) = 0 from q) (by decide))
theorem MC.e2 (h : MC μ (g4 true false o A) Q) (hI : MI μ1 A) (hg : Gm qmR qF0 μ μ1) : Q z (mup μ1 772 0 2) :=
  h _ z (hI.gq (Gm.upF.mono (by decide) (by decide))) (((hg.tr (Gm.upF (k := 0)) (r := qmR) (f := qmF) (by decide) (by decide) (by decide) (by decide))).frMq) mup_s (fun q => absurd (show (2 : Int) = 0 from q) (by decide))
theorem MC.e3 (h : MC μ (g4 true true none A) Q) (hI : MI μ1 A) (hg : Gm qmR qF0 μ μ1) : Q z (mup μ1 772 0 3) :=
  h _ z (hI.gq (Gm.upF.mono (by decide) (by decide))) (((hg.tr (Gm.upF (k := 0)) (r := qmR) (f := qmF) (by decide) (by decide) (by decide) (by decide))).frMq) mup_s (fun q => absurd (show (3 : Int) = 0 from q) (by decide))
theorem MC.ok4 (h : MC μ (g4 true true (some (r, A')) A) Q) (hI : MI μ1 A') (hf : FrM μ μ1) (h0 : μ1 772 0 = 0) (hz : z = r) : Q z μ1 := h _ z hI hf h0 (fun _ => hz)
end G54
def chT (A : AS) (i : Nat) (Y : List Int) : AS := wC A (aR A, (aT A).set i Y)
theorem AOK.wC {A : AS} {c : Cf} (hA : AOK A) (hl : aL A = true) (hc : okc (arS (aS A)) c) : AOK (wC A c) := by
  obtain ⟨a1', a2', a3', a4', a5', a6', a7', a8', a9', a10', a11'⟩ := hA
  refine ⟨a1', hc, fun x hx => ?_, ?_, a5', a6', a7', a8', a9', a10', fun e => by have e2 : aL A = false := e; rw [hl] at e2; cases e2⟩
  · rcases List.mem_cons.mp (List.mem_of_mem_take hx) with rfl | h
    · exact a2'
    · exact a3' x h
  · show ((aC A :: aH A).take 8).length ≤ 8
    rw [List.length_take]
    omega
theorem okc_set {ars : List Nat} {c : Cf} {i : Nat} {Y : List Int} (h : okc ars c) (hY : okt ars 8 80 Y) : okc ars (c.1, c.2.set i Y) := by
  refine ⟨h.1, by show (c.2.set i Y).length ≤ 6; rw [List.length_set]; exact h.2.1, h.2.2.1, fun T hT => ?_⟩
  rcases List.mem_or_eq_of_mem_set hT with g | g
  · exact h.2.2.2 T g
  · rw [g]; exact hY
section C54
variable {μ : Mem} {A : AS} {Q : Int → Mem → Prop} {v1 v2 v3 : Int}
theorem side58 (hI : CI μ A) {i j : Nat} (hi : i < 6) (hj : j < 2) : dp (μ (rc 5 i) j) + 2 ≤ 57 := by
  obtain ⟨i', j', h1, h2, h3, _⟩ := hI.2.2.1.1.side rt_st.1 hi hj
  omega
/-- the class: what was built becomes a term -/
theorem c_takes {i s : Nat} {Y : List Int} {Q : Mem → Prop} (hI : CI μ A) (hA : AOK A) (hi : i < (aT A).length) (hY : IsT μ s Y) (hs : rt s = 8) (hne : s = 58 ∨ s = 60 ∨ s = 769) (h80 : Y.length ≤ 80)
    (h : ∀ μ', CI μ' (chT A i Y) → IsT μ' (tc 5 i) Y → Fz μ μ' → Q μ') : d_OB_remember μ (fun μ8 => d_Term_copyFrom (tc 5 i) s μ8 Q) := by
  refine c_remember hI hA fun μ1 hI1 hst hr => ?_
  have hY1 : IsT μ1 s Y := hY.fr (hr _ (by omega)) (hr _ (by omega))
  refine c_setTerm hI1 hi hA.t6 hY1 hs (by omega) h80 fun μ2 hI2 hX hr2 => ?_
  exact h _ hI2 hX fun b hb => by rw [hr2 b (by omega), hr b (by omega)]
noncomputable def sp_rewrite (A : AS) (v1 v2 v3 : Int) : Int × Int × AS := g4 (aL A) (@decide ((0 ≤ v1 ∧ v1 < ((aR A).length : Int)) ∧ isN A v2 v3) (Classical.propDecidable _)) (match rw1 ((aR A).getD v1.toNat ([], [])) ((aT A).getD v2.toNat []) v3.toNat with
  | none => none
  | some Y => some ((Y.length : Int), chT A v2.toNat Y)) A
def sp_step (inner : Bool) (A : AS) (v1 : Int) : Int × Int × AS := g4 (aL A) (decide (0 ≤ v1 ∧ v1 < ((aT A).length : Int))) (match stp (aR A) inner ((aT A).getD v1.toNat []) with
  | none => none
  | some (p, Y) => some (p, chT A v1.toNat Y)) A
theorem stp_ok {ars : List Nat} {rs : List Rl2} {inner : Bool} {T Y : List Int} {m n : Nat} {p : Int} (hr : ∀ r, r ∈ rs → okr ars r) (hT : okt ars m n T) (h : stp rs inner T = some (p, Y)) : okt ars m 80 Y := by
  unfold stp at h
  split at h
  · cases h
  · rename_i hp
    obtain ⟨k, e1, e2, e3⟩ := px_get hp
    split at h
    · cases h
    · rename_i X hX
      rw [e1, Int.toNat_natCast] at hX
      cases h
      exact st1_ok hr hT e2 hX
theorem c_takeStep {inner : Bool} {i : Nat} {Q : Int → Mem → Prop} {X : Nat → Mem → Prop} (hI : CI μ A) (hA : AOK A) (hi : i < (aT A).length)
    (h1 : ∀ μ' p Y, stp (aR A) inner ((aT A).getD i []) = some (p, Y) → CI μ' (chT A i Y) → Fz μ μ' → Q p μ') (h2 : ∀ μ', stp (aR A) inner ((aT A).getD i []) = none → CI μ' A → Fz μ μ' → X 2 (thr μ')) : d_OB_takeStep (tc 5 i) (b2i inner) μ Q X := by
  unfold d_OB_takeStep
  have h6 := hA.t6
  have q2 := tc5r i (by omega)
  refine c_Rewriter_step cells5 hI.2.2.1.2.1 hI.2.2.1.1 hA.wkrs (hI.term hi) (tc5 (by omega)) (by omega) (okt_wkt (hA.term hi) hA.ars) (fun μ2 p Y hY hp hX hF => ?_) (fun μ2 hY hF => ?_)
  · have hq := Fq.ofFr hF.toFr (by decide) (by decide)
    rw [if_neg (by omega)]
    refine c_takes (hq.ci hI) hA hi hX (by decide +kernel) (Or.inl rfl) (stp_ok hA.rules (hA.term hi) hY).2.1 fun μ3 hI3 hX3 hz => ?_
    exact h1 _ _ _ hY hI3 (hq.fz.tr hz)
  · have hq := Fq.ofFr hF.toFr (by decide) (by decide)
    rw [if_pos rfl]
    exact h2 _ hY (hq.ci hI) hq.fz
theorem w_stepInnermost (hI : CI μ A) (hA : AOK A) (h : WC μ (sp_step true A v1) Q) : d_Lw_stepInnermost v1 μ Q := by
  unfold d_Lw_stepInnermost d_OB_stepInnermost
  unfold sp_step at h
  refine c_reqTerm hI (fun e => ?_) (fun e en => ?_) (fun e i hv hi => ?_)
  · rw [e] at h
    exact h.e1 hI Fz.rfl'
  · rw [e, decide_eq_false en] at h
    exact h.e2 hI Fz.rfl'
  · subst hv
    rw [e, decide_eq_true (by omega)] at h
    simp only [Int.toNat_natCast] at h
    refine c_takeStep (inner := true) hI hA hi (fun μ2 p Y hY hI2 hz => ?_) (fun μ2 hY hI2 hz => ?_)
    · rw [hY] at h
      exact h.ok4 hI2 hz rfl
    · rw [hY] at h
      exact h.e3 hI2 hz
theorem w_stepOutermost (hI : CI μ A) (hA : AOK A) (h : WC μ (sp_step false A v1) Q) : d_Lw_stepOutermost v1 μ Q := by
  unfold d_Lw_stepOutermost d_OB_stepOutermost
  unfold sp_step at h
  refine c_reqTerm hI (fun e => ?_) (fun e en => ?_) (fun e i hv hi => ?_)
  · rw [e] at h
    exact h.e1 hI Fz.rfl'
  · rw [e, decide_eq_false en] at h
    exact h.e2 hI Fz.rfl'
  · subst hv
    rw [e, decide_eq_true (by omega)] at h
    simp only [Int.toNat_natCast] at h
    refine c_takeStep (inner := false) hI hA hi (fun μ2 p Y hY hI2 hz => ?_) (fun μ2 hY hI2 hz => ?_)
    · rw [hY] at h
      exact h.ok4 hI2 hz rfl
    · rw [hY] at h
      exact h.e3 hI2 hz
def sp_normalize (A : AS) (v1 : Int) : Int × Int × AS := g4 (aL A) (decide (0 ≤ v1 ∧ v1 < ((aT A).length : Int))) (match rdc (aR A) true 200 ((aT A).getD v1.toNat []) with
  | none => none
  | some (k, Y) => some ((k : Int), chT A v1.toNat Y)) A
theorem w_normalize (hI : CI μ A) (hA : AOK A) (h : WC μ (sp_normalize A v1) Q) : d_Lw_normalize v1 μ Q := by
  unfold d_Lw_normalize d_OB_normalize
  unfold sp_normalize at h
  refine c_reqTerm hI (fun e => ?_) (fun e en => ?_) (fun e i hv hi => ?_)
  · rw [e] at h
    exact h.e1 hI Fz.rfl'
  · rw [e, decide_eq_false en] at h
    exact h.e2 hI Fz.rfl'
  · subst hv
    rw [e, decide_eq_true (by omega)] at h
    simp only [Int.toNat_natCast] at h
    have h6 := hA.t6
    refine c_Rewriter_reduce (inner := true) (n := 200) cells5 hI.2.2.1.2.1 hI.2.2.1.1 hA.rules hA.ars (hI.term hi) (tc5 (by omega)) (by have := tc5r i (by omega); omega) (hA.term hi) (Nat.le_refl _) (fun μ2 k Y hY hXY hF => ?_) (fun μ2 hY hF => ?_)
    · have hq := Fq.ofFr hF.toFr (by decide) (by decide)
      rw [hY] at h
      rw [if_neg (by omega)]
      refine c_takes (hq.ci hI) hA hi hXY (by decide +kernel) (Or.inr (Or.inl rfl)) (rdc_ok hA.rules _ _ _ _ (hA.term hi) hY).1.2.1 fun μ3 hI3 hX3 hz => ?_
      exact h.ok4 hI3 (hq.fz.tr hz) rfl
    · have hq := Fq.ofFr hF.toFr (by decide) (by decide)
      rw [hY] at h
      exact h.e3 (hq.ci hI) hq.fz
noncomputable def sp_copySubterm (A : AS) (v1 v2 : Int) : Int × Int × AS := g4 (aL A) (@decide (isN A v1 v2) (Classical.propDecidable _)) (if (aT A).length < 6 then some (((aT A).length : Int), wC A (aR A, aT A ++ [sb ((aT A).getD v1.toNat []) v2.toNat])) else none) A
theorem sb_take {L : List Int} {p : Nat} : (L.drop p).take (en L p - p) = sb L p := by
  unfold sb en
  congr 1
  omega
theorem w_copySubterm (hI : CI μ A) (hA : AOK A) (h : WC μ (sp_copySubterm A v1 v2) Q) : d_Lw_copySubterm v1 v2 μ Q := by
  unfold d_Lw_copySubterm d_OB_copySubterm
  unfold sp_copySubterm at h
  refine c_reqNode hI (fun e => ?_) (fun e en => ?_) (fun e i k hv hk hi hkl => ?_)
  · rw [e] at h
    exact h.e1 hI Fz.rfl'
  · rw [e, @decide_eq_false _ (Classical.propDecidable _) en] at h
    exact h.e2 hI Fz.rfl'
  · subst hv hk
    rw [e, @decide_eq_true _ (Classical.propDecidable _) (show isN A i k from ⟨by omega, by rw [Int.toNat_natCast]; omega⟩)] at h
    simp only [Int.toNat_natCast] at h
    have h6 := hA.t6
    have h80 := (hA.term hi).2.1
    rw [hI.2.2.1.2.2.1]
    by_cases hl : (aT A).length < 6
    · rw [if_pos hl] at h
      rw [if_pos (by omega)]
      refine c_remember hI hA fun μ1 hI1 hst hr => ?_
      have hT1 : IsT μ1 (tc 5 i) ((aT A).getD i []) := hI1.term hi
      refine c_Term_end hT1 (okt_wkt (hA.term hi) hA.ars).2 (by omega) ?_
      have hen := en_le (L := (aT A).getD i []) (p := k) (by omega)
      have hgt := en_gt hkl
      refine c_State_addTerm rt_st.1 hI1.2.2.1.2.2 hl hT1 (tc5 (by omega)) (by have := tc_eq 5 i; have e2 := tc_eq 5 (aT (wC A (aC A))).length; have : (aT (wC A (aC A))).length = (aT A).length := rfl; omega) (by omega) hen (by omega) fun μ2 hT2 hr2 h02 => ?_
      rw [sb_take] at hT2
      have hI2 := hI1.setT hT2 h02 fun b g1 g2 => hr2 b g1 (by omega)
      rw [hT2.1, List.length_append, List.length_singleton, wr_id (by have : (aT (wC A (aC A))).length = (aT A).length := rfl; omega) (by have : (aT (wC A (aC A))).length = (aT A).length := rfl; omega)]
      refine h.ok4 hI2 (fun b hb => by rw [hr2 b (by omega) (by omega), hr b (by omega)]) ?_
      have : (aT (wC A (aC A))).length = (aT A).length := rfl
      rw [this, show (((aT A).length + 1 : Nat) : Int) - 1 = ((aT A).length : Int) by omega]
    · rw [if_neg hl] at h
      rw [if_neg (by omega)]
      exact h.e3 hI Fz.rfl'
def rpl (T S : List Int) (p : Nat) : List Int := T.take p ++ S ++ T.drop (en T p)
noncomputable def sp_replaceSubterm (A : AS) (v1 v2 v3 : Int) : Int × Int × AS := g4 (aL A) (@decide (isN A v1 v2 ∧ 0 ≤ v3 ∧ v3 < ((aT A).length : Int)) (Classical.propDecidable _)) (if (rpl ((aT A).getD v1.toNat []) ((aT A).getD v3.toNat []) v2.toNat).length ≤ 80 then some (((rpl ((aT A).getD v1.toNat []) ((aT A).getD v3.toNat []) v2.toNat).length : Int), chT A v1.toNat (rpl ((aT A).getD v1.toNat []) ((aT A).getD v3.toNat []) v2.toNat)) else none) A
theorem w_replaceSubterm (hI : CI μ A) (hA : AOK A) (h : WC μ (sp_replaceSubterm A v1 v2 v3) Q) : d_Lw_replaceSubterm v1 v2 v3 μ Q := by
  unfold d_Lw_replaceSubterm d_OB_replaceSubterm
  unfold sp_replaceSubterm at h
  refine c_reqNode hI (fun e => ?_) (fun e en => ?_) (fun e i k hv hk hi hkl => c_reqTerm hI (fun e => ?_) (fun e en => ?_) (fun e n hn hnl => ?_))
  · rw [e] at h
    exact h.e1 hI Fz.rfl'
  · rw [e, @decide_eq_false _ (Classical.propDecidable _) (fun q => en q.1)] at h
    exact h.e2 hI Fz.rfl'
  · rw [e] at h
    exact h.e1 hI Fz.rfl'
  · rw [e, @decide_eq_false _ (Classical.propDecidable _) (fun q => en q.2)] at h
    exact h.e2 hI Fz.rfl'
  · subst hv hk hn
    rw [e, @decide_eq_true _ (Classical.propDecidable _) (show isN A i k ∧ _ from ⟨⟨by omega, by rw [Int.toNat_natCast]; omega⟩, by omega⟩)] at h
    simp only [Int.toNat_natCast] at h
    have h6 := hA.t6
    have hTi := hI.term hi
    have hTn := hI.term hnl
    have q1 := tc5r i (by omega)
    have q2 := tc5r n (by omega)
    have r769 : rt 769 = 8 := by decide +kernel
    have l770 : ln (769 + 1) = 80 := by decide +kernel
    generalize hT : (aT A).getD i [] = T at *
    generalize hS : (aT A).getD n [] = S at *
    have oT : okt (arS (aS A)) 8 80 T := by rw [← hT]; exact hA.term hi
    have oS : okt (arS (aS A)) 8 80 S := by rw [← hS]; exact hA.term hnl
    have hen := en_le (L := T) (p := k) (by omega)
    have lrp : (rpl T S k).length = k + S.length + (T.length - en T k) := by
      unfold rpl
      rw [List.length_append, List.length_append, List.length_take, List.length_drop]
      omega
    -- a part that does not fit
    have bad : ∀ μ1 : Mem, 80 < (rpl T S k).length → Fr 769 771 μ μ1 → d_OB_replaceSubterm_j81 (tc 5 i) μ1 (fun r1 μ2 => Q 0 (mup μ2 795 0 (l64 r1))) (fun k μx => if k = 0 then (Q 1 μx) else (if k = 1 then (Q 2 μx) else (if k = 2 then (Q 3 μx) else False))) := by
      intro μ1 hl hF
      unfold d_OB_replaceSubterm_j81 d_OB_replaceSubterm_j82
      rw [if_pos rfl]
      rw [if_neg (by omega)] at h
      have hq : Fq μ μ1 := fun b hb => hF b (by omega)
      exact h.e3 (hq.ci hI) hq.fz
    unfold d_Term_clear
    have hF0 : Fr 769 771 μ (mup μ 769 1 0) := Fr.up (by omega)
    have hX0 : IsT (mup μ 769 1 0) 769 [] := ⟨mup_s, Nat.zero_le _, Sg.nil⟩
    have kT : ∀ μ1, Fr 769 771 μ μ1 → IsT μ1 (tc 5 i) T := fun μ1 g => hTi.frR g (by omega)
    have kS : ∀ μ1, Fr 769 771 μ μ1 → IsT μ1 (tc 5 n) S := fun μ1 g => hTn.frR g (by omega)
    refine c_Term_addPart (f := 0) hX0 (kT _ hF0) r769 (tc5 (by omega)) (by omega) (Nat.zero_le _) (by omega) (fun hfit μ1 hX1 hF1 => ?_) (fun hfit μ1 L1 hX1 hF1 => ?_)
    · rw [if_pos rfl]
      have hG1 : Fr 769 771 μ μ1 := hF0.tr hF1 (by omega) (by omega)
      rw [(kS _ hG1).1]
      rw [List.nil_append, List.drop_zero, Nat.sub_zero] at hX1
      refine c_Term_addPart (f := 0) hX1 (kS _ hG1) r769 (tc5 (by omega)) (by omega) (Nat.zero_le _) (Nat.le_refl _) (fun hfit2 μ2 hX2 hF2 => ?_) (fun hfit2 μ2 L2 hX2 hF2 => ?_)
      · rw [if_pos rfl]
        have hG2 : Fr 769 771 μ μ2 := hG1.tr hF2 (by omega) (by omega)
        rw [List.drop_zero, Nat.sub_zero, List.take_length] at hX2
        refine c_Term_end (kT _ hG2) (okt_wkt oT hA.ars).2 (by omega) ?_
        rw [(kT _ hG2).1]
        have edr : (T.drop (en T k)).take (T.length - en T k) = T.drop (en T k) := List.take_of_length_le (by rw [List.length_drop]; omega)
        refine c_Term_addPart hX2 (kT _ hG2) r769 (tc5 (by omega)) (by omega) hen (Nat.le_refl _) (fun hfit3 μ3 hX3 hF3 => ?_) (fun hfit3 μ3 L3 hX3 hF3 => ?_)
        · rw [if_pos rfl]
          have hG3 : Fr 769 771 μ μ3 := hG2.tr hF3 (by omega) (by omega)
          rw [edr] at hX3
          have hX3' : IsT μ3 769 (rpl T S k) := hX3
          have hl := hX3'.2.1
          rw [l770] at hl
          rw [if_pos hl] at h
          unfold d_OB_replaceSubterm_j82
          rw [if_neg (by decide)]
          have hq : Fq μ μ3 := fun b hb => hG3 b (by omega)
          refine c_takes (hq.ci hI) hA hi hX3' r769 (Or.inr (Or.inr rfl)) hl fun μ4 hI4 hX4 hz => ?_
          rw [hX4.1]
          exact h.ok4 hI4 (hq.fz.tr hz) rfl
        · rw [if_neg Bool.false_ne_true]
          rw [l770, List.length_append, List.length_take] at hfit3
          exact bad _ (by omega) (hG2.tr hF3 (by omega) (by omega))
      · rw [if_neg Bool.false_ne_true]
        rw [l770, List.length_take] at hfit2
        exact bad _ (by omega) (hG1.tr hF2 (by omega) (by omega))
    · rw [if_neg Bool.false_ne_true]
      rw [l770, List.length_nil] at hfit
      exact bad _ (by omega) (hF0.tr hF1 (by omega) (by omega))
end C54

