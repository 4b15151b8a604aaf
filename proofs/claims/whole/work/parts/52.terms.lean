/-! CALLS THAT ONLY LOOK at terms (written by wip/gen/ops2.py) -/
theorem Fq.ofFr {μ μ1 : Mem} {lo hi : Nat} (h : Fr lo hi μ μ1) (h1 : 57 ≤ lo) (h2 : hi ≤ 72) : Fq μ μ1 := fun b hb => h b (by omega)
theorem Fq.ci {μ μ1 : Mem} {A : AS} (h : Fq μ μ1) (hI : CI μ A) : CI μ1 A := hI.fq fun b hb => h b (by omega)
theorem AOK.wkrs {A : AS} (hA : AOK A) : ∀ r, r ∈ aR A → wkr r := fun r hr => okr_wkr (hA.rules r hr) hA.ars
theorem Gm.q {a b c : Mem} {r f : List Nat} (h : Gm qmR qF0 a b) (h2 : Gm r f b c) (hr : ∀ x, x ∈ r → x ∈ qmR) (hf : ∀ x, x ∈ f → x ∈ qF0) : Gm qmR qF0 a c := h.tr h2 (fun _ q => q) hr (fun _ q => q) hf
theorem c_nodeOf {μ : Mem} {i k : Nat} {T : List Int} {Q : Int → Prop} (hi : i < 6) (hk : k < T.length) (h80 : T.length ≤ 80) (hT : Me (μ 773) (224 + 81 * i) T) (h : Q (enc (T.getD k 0))) : d_Md_nodeOf (i : Int) (k : Int) μ Q := by
  unfold d_Md_nodeOf
  simp (disch := omega) only [wr_id]
  refine ⟨by omega, ?_⟩
  rw [show (223 + 81 * (i : Int) + 1 + (k : Int)).toNat = 224 + 81 * i + k by omega, hT.get hk]
  exact h
def symO (c : Int) : Int := if c < 0 then -1 else c / 4
def varO (c : Int) : Int := if c < 0 then -1 - c else -1
/-- steps of a reduction, -1 if it fails; size of the normal form -/
def rstep (o : Option (Nat × List Int)) : Int := match o with
  | none => -1
  | some (k, _) => (k : Int)
def rsize (o : Option (Nat × List Int)) : Int := match o with
  | none => -1
  | some (_, Y) => (Y.length : Int)
theorem c_stepsOf {μ : Mem} {A : AS} {i : Nat} {inner : Bool} {Q : Int → Mem → Prop} (hI : MI μ A) (hA : AOK A) (hi : i < (aT A).length)
    (h1 : ∀ μ' k Y, rdc (aR A) inner 200 ((aT A).getD i []) = some (k, Y) → WK μ' Y → Gm gmR gmF μ μ' → Q (k : Int) μ')
    (h2 : ∀ μ', rdc (aR A) inner 200 ((aT A).getD i []) = none → Gm gmR gmF μ μ' → Q (-1) μ') : d_Md_stepsOf (i : Int) (b2i inner) μ Q := by
  unfold d_Md_stepsOf
  refine c_lendsI hI hA hi fun μ1 hW hG => ?_
  have e3 : μ1 773 = μ 773 := hG.1 773 (by decide) (by decide)
  refine c_reduces (n := 200) ((hI.AR hA).gm e3) hW (hA.term hi) ((hI.rules hA).gm e3) hA.rules (Nat.le_refl _) (fun μ2 k Y hY hW2 hG2 => ?_) (fun μ2 hY hG2 => ?_)
  · exact h1 _ _ _ hY hW2 (hG.tr hG2 (by decide) (by decide) (by decide) (by decide))
  · exact h2 _ hY (hG.tr hG2 (by decide) (by decide) (by decide) (by decide))
def sp_termSize (A : AS) (v1 : Int) : Int × Int := g1 (aL A) (decide (0 ≤ v1 ∧ v1 < ((aT A).length : Int))) ((((aT A).getD v1.toNat []).length : Nat))
theorem w_termSize {μ : Mem} {A : AS} {Q : Int → Mem → Prop} {v1 : Int} (hI : CI μ A) (hA : AOK A) (h : WQ μ A (sp_termSize A v1) Q) : d_Lw_termSize v1 μ Q := by
  unfold d_Lw_termSize d_OB_termSize
  unfold sp_termSize at h
  refine c_reqTerm hI (fun e => ?_) (fun e en => ?_) (fun e i hv hi => ?_)
  · rw [e] at h
    exact h.t1 hI Fq.rfl'
  · rw [e, decide_eq_false en] at h
    exact h.t2 hI Fq.rfl'
  · subst hv
    rw [e, decide_eq_true (by omega)] at h
    simp only [Int.toNat_natCast] at h
    have h6 := hA.t6
    have hT := hI.term hi
    have hok := hA.term hi
    have h80 := hok.2.1
    rw [hT.1]
    exact h.ok hI Fq.rfl' rfl
theorem mm_termSize {μ : Mem} {A : AS} {Q : Int → Mem → Prop} {v1 : Int} (hI : MI μ A) (hA : AOK A) (h : MQI μ A (sp_termSize A v1) Q) : d_Md_termSize v1 μ Q := by
  unfold d_Md_termSize
  unfold sp_termSize at h
  refine c_mayTerm hI hA (fun e => ?_) (fun e en => ?_) (fun e i hv hi => ?_)
  · rw [e] at h
    exact h.t1 hI
  · rw [e, decide_eq_false en] at h
    exact h.t2 hI
  · subst hv
    rw [e, decide_eq_true (by omega)] at h
    simp only [Int.toNat_natCast] at h
    have hI0 : MI (mup μ 772 0 0) A := hI.f0 (by decide)
    rw [if_pos rfl]
    have h6 := hA.t6
    have hok := hA.term hi
    have h80 := hok.2.1
    exact c_sizeOf (by omega) (h.ok hI Gm.rfl' (hI0.size hi))
noncomputable def sp_symbolAt (A : AS) (v1 v2 : Int) : Int × Int := g1 (aL A) (@decide (isN A v1 v2) (Classical.propDecidable _)) (symO (((aT A).getD v1.toNat []).getD v2.toNat 0))
theorem w_symbolAt {μ : Mem} {A : AS} {Q : Int → Mem → Prop} {v1 v2 : Int} (hI : CI μ A) (hA : AOK A) (h : WQ μ A (sp_symbolAt A v1 v2) Q) : d_Lw_symbolAt v1 v2 μ Q := by
  unfold d_Lw_symbolAt d_OB_symbolAt
  unfold sp_symbolAt at h
  refine c_reqNode hI (fun e => ?_) (fun e en => ?_) (fun e i k hv hk hi hkl => ?_)
  · rw [e] at h
    exact h.t1 hI Fq.rfl'
  · rw [e, @decide_eq_false _ (Classical.propDecidable _) en] at h
    exact h.t2 hI Fq.rfl'
  · subst hv hk
    rw [e, @decide_eq_true _ (Classical.propDecidable _) (show isN A i k from ⟨by omega, by rw [Int.toNat_natCast]; omega⟩)] at h
    simp only [Int.toNat_natCast] at h
    have h6 := hA.t6
    have hT := hI.term hi
    have hok := hA.term hi
    have h80 := hok.2.1
    refine c_Term_getN hT hkl ?_
    have h32 := okn_lt (hok.2.2 _ (gm0 hkl)) hA.ars
    unfold d_Term_symbolOf
    unfold symO at h
    by_cases q : ((aT A).getD i []).getD k 0 < 0
    · rw [if_pos q] at h ⊢
      exact h.ok hI Fq.rfl' rfl
    · rw [if_neg q] at h ⊢
      rw [jshr2 (by omega) h32]
      exact h.ok hI Fq.rfl' rfl
theorem mm_symbolAt {μ : Mem} {A : AS} {Q : Int → Mem → Prop} {v1 v2 : Int} (hI : MI μ A) (hA : AOK A) (h : MQI μ A (sp_symbolAt A v1 v2) Q) : d_Md_symbolAt v1 v2 μ Q := by
  unfold d_Md_symbolAt
  unfold sp_symbolAt at h
  refine c_mayPosition hI hA (fun e => ?_) (fun e en => ?_) (fun e i k hv hk hi hkl => ?_)
  · rw [e] at h
    exact h.t1 hI
  · rw [e, @decide_eq_false _ (Classical.propDecidable _) en] at h
    exact h.t2 hI
  · subst hv hk
    rw [e, @decide_eq_true _ (Classical.propDecidable _) (show isN A i k from ⟨by omega, by rw [Int.toNat_natCast]; omega⟩)] at h
    simp only [Int.toNat_natCast] at h
    have hI0 : MI (mup μ 772 0 0) A := hI.f0 (by decide)
    rw [if_pos rfl]
    have h6 := hA.t6
    have hok := hA.term hi
    have h80 := hok.2.1
    have hm := hI0.term hi
    have hlt := enc_lt (hok.2.2 _ (gm0 hkl)) hA.ars
    refine c_nodeOf (by omega) hkl h80 hm ?_
    unfold symO at h
    by_cases q : ((aT A).getD i []).getD k 0 < 0
    · rw [if_pos q] at h
      rw [if_neg (by omega)]
      exact h.ok hI Gm.rfl' rfl
    · rw [if_neg q] at h
      rw [if_pos (by omega)]
      exact c_nodeOf (by omega) hkl h80 hm (h.ok hI Gm.rfl' (enc_pos (by omega)))
noncomputable def sp_variableAt (A : AS) (v1 v2 : Int) : Int × Int := g1 (aL A) (@decide (isN A v1 v2) (Classical.propDecidable _)) (varO (((aT A).getD v1.toNat []).getD v2.toNat 0))
theorem w_variableAt {μ : Mem} {A : AS} {Q : Int → Mem → Prop} {v1 v2 : Int} (hI : CI μ A) (hA : AOK A) (h : WQ μ A (sp_variableAt A v1 v2) Q) : d_Lw_variableAt v1 v2 μ Q := by
  unfold d_Lw_variableAt d_OB_variableAt
  unfold sp_variableAt at h
  refine c_reqNode hI (fun e => ?_) (fun e en => ?_) (fun e i k hv hk hi hkl => ?_)
  · rw [e] at h
    exact h.t1 hI Fq.rfl'
  · rw [e, @decide_eq_false _ (Classical.propDecidable _) en] at h
    exact h.t2 hI Fq.rfl'
  · subst hv hk
    rw [e, @decide_eq_true _ (Classical.propDecidable _) (show isN A i k from ⟨by omega, by rw [Int.toNat_natCast]; omega⟩)] at h
    simp only [Int.toNat_natCast] at h
    have h6 := hA.t6
    have hT := hI.term hi
    have hok := hA.term hi
    have h80 := hok.2.1
    refine c_Term_getN hT hkl ?_
    have hn := hok.2.2 _ (gm0 hkl)
    unfold d_Term_variableOf
    unfold varO at h
    by_cases q : ((aT A).getD i []).getD k 0 < 0
    · rw [if_pos q] at h ⊢
      have := hn.1 q
      rw [wr_id (by omega) (by omega)]
      exact h.ok hI Fq.rfl' rfl
    · rw [if_neg q] at h ⊢
      exact h.ok hI Fq.rfl' rfl
theorem mm_variableAt {μ : Mem} {A : AS} {Q : Int → Mem → Prop} {v1 v2 : Int} (hI : MI μ A) (hA : AOK A) (h : MQI μ A (sp_variableAt A v1 v2) Q) : d_Md_variableAt v1 v2 μ Q := by
  unfold d_Md_variableAt
  unfold sp_variableAt at h
  refine c_mayPosition hI hA (fun e => ?_) (fun e en => ?_) (fun e i k hv hk hi hkl => ?_)
  · rw [e] at h
    exact h.t1 hI
  · rw [e, @decide_eq_false _ (Classical.propDecidable _) en] at h
    exact h.t2 hI
  · subst hv hk
    rw [e, @decide_eq_true _ (Classical.propDecidable _) (show isN A i k from ⟨by omega, by rw [Int.toNat_natCast]; omega⟩)] at h
    simp only [Int.toNat_natCast] at h
    have hI0 : MI (mup μ 772 0 0) A := hI.f0 (by decide)
    rw [if_pos rfl]
    have h6 := hA.t6
    have hok := hA.term hi
    have h80 := hok.2.1
    have hm := hI0.term hi
    have hn := hok.2.2 _ (gm0 hkl)
    have hlt := enc_lt hn hA.ars
    refine c_nodeOf (by omega) hkl h80 hm ?_
    unfold varO at h
    by_cases q : ((aT A).getD i []).getD k 0 < 0
    · rw [if_pos q] at h
      rw [if_neg (by omega)]
      refine c_nodeOf (by omega) hkl h80 hm ?_
      have := hn.1 q
      rw [enc_neg q, wr_id (by omega) (by omega)]
      exact h.ok hI Gm.rfl' (by omega)
    · rw [if_neg q] at h
      rw [if_pos (by omega)]
      exact h.ok hI Gm.rfl' rfl
noncomputable def sp_subtermSize (A : AS) (v1 v2 : Int) : Int × Int := g1 (aL A) (@decide (isN A v1 v2) (Classical.propDecidable _)) (((en ((aT A).getD v1.toNat []) v2.toNat : Nat) : Int) - (v2.toNat : Nat))
theorem w_subtermSize {μ : Mem} {A : AS} {Q : Int → Mem → Prop} {v1 v2 : Int} (hI : CI μ A) (hA : AOK A) (h : WQ μ A (sp_subtermSize A v1 v2) Q) : d_Lw_subtermSize v1 v2 μ Q := by
  unfold d_Lw_subtermSize d_OB_subtermSize
  unfold sp_subtermSize at h
  refine c_reqNode hI (fun e => ?_) (fun e en => ?_) (fun e i k hv hk hi hkl => ?_)
  · rw [e] at h
    exact h.t1 hI Fq.rfl'
  · rw [e, @decide_eq_false _ (Classical.propDecidable _) en] at h
    exact h.t2 hI Fq.rfl'
  · subst hv hk
    rw [e, @decide_eq_true _ (Classical.propDecidable _) (show isN A i k from ⟨by omega, by rw [Int.toNat_natCast]; omega⟩)] at h
    simp only [Int.toNat_natCast] at h
    have h6 := hA.t6
    have hT := hI.term hi
    have hok := hA.term hi
    have h80 := hok.2.1
    refine c_Term_end hT (okt_wkt hok hA.ars).2 (by omega) ?_
    have := en_le (L := (aT A).getD i []) (p := k) (by omega)
    rw [wr_id (by omega) (by omega)]
    exact h.ok hI Fq.rfl' rfl
theorem mm_subtermSize {μ : Mem} {A : AS} {Q : Int → Mem → Prop} {v1 v2 : Int} (hI : MI μ A) (hA : AOK A) (h : MQI μ A (sp_subtermSize A v1 v2) Q) : d_Md_subtermSize v1 v2 μ Q := by
  unfold d_Md_subtermSize
  unfold sp_subtermSize at h
  refine c_mayPosition hI hA (fun e => ?_) (fun e en => ?_) (fun e i k hv hk hi hkl => ?_)
  · rw [e] at h
    exact h.t1 hI
  · rw [e, @decide_eq_false _ (Classical.propDecidable _) en] at h
    exact h.t2 hI
  · subst hv hk
    rw [e, @decide_eq_true _ (Classical.propDecidable _) (show isN A i k from ⟨by omega, by rw [Int.toNat_natCast]; omega⟩)] at h
    simp only [Int.toNat_natCast] at h
    have hI0 : MI (mup μ 772 0 0) A := hI.f0 (by decide)
    rw [if_pos rfl]
    have h6 := hA.t6
    have hok := hA.term hi
    have h80 := hok.2.1
    refine c_lendsI hI0 hA hi fun μ2 hW hG => ?_
    have hQ : Gm qmR qF0 (mup μ 772 0 0) μ2 := hG.mono (by decide) (by decide)
    have hA2 := (hI0.AR hA).gm (hG.1 773 (by decide) (by decide))
    have hR2 := (hI0.rules hA).gm (hG.1 773 (by decide) (by decide))
    have := en_le (L := (aT A).getD i []) (p := k) (by omega)
    refine c_behindW hA2 hW hok hkl ?_
    rw [wr_id (by omega) (by omega)]
    exact h.ok hI hQ rfl
def grnd : List Int → Bool
  | [] => true
  | c :: r => decide (0 ≤ c) && grnd r
def sp_isGround (A : AS) (v1 : Int) : Int × Int := g1 (aL A) (decide (0 ≤ v1 ∧ v1 < ((aT A).length : Int))) (b2i (grnd ((aT A).getD v1.toNat [])))
theorem w_isGround {μ : Mem} {A : AS} {Q : Int → Mem → Prop} {v1 : Int} (hI : CI μ A) (hA : AOK A) (h : WQ μ A (sp_isGround A v1) Q) : d_Lw_isGround v1 μ Q := by
  unfold d_Lw_isGround d_OB_isGround
  unfold sp_isGround at h
  refine c_reqTerm hI (fun e => ?_) (fun e en => ?_) (fun e i hv hi => ?_)
  · rw [e] at h
    exact h.t1 hI Fq.rfl'
  · rw [e, decide_eq_false en] at h
    exact h.t2 hI Fq.rfl'
  · subst hv
    rw [e, decide_eq_true (by omega)] at h
    simp only [Int.toNat_natCast] at h
    have h6 := hA.t6
    have hT := hI.term hi
    have hok := hA.term hi
    have h80 := hok.2.1
    refine i_OB_isGround_l8 (Inv := fun v2 => ∃ n : Nat, v2 = n ∧ n ≤ ((aT A).getD i []).length ∧ grnd ((aT A).getD i []) = grnd (((aT A).getD i []).drop n)) (fun v2 => ((aT A).getD i []).length - v2.toNat) ?_ 0 ⟨0, rfl, Nat.zero_le _, rfl⟩
    rintro _ ⟨n, rfl, hn, hg⟩ W hWW
    unfold d_OB_isGround_b8
    rw [hT.1]
    by_cases hnl : n < ((aT A).getD i []).length
    · rw [if_pos (by omega)]
      refine c_Term_getN hT hnl ?_
      rw [dropc hnl] at hg
      have hg2 : grnd (((aT A).getD i []).getD n 0 :: ((aT A).getD i []).drop (n + 1)) = (decide (0 ≤ ((aT A).getD i []).getD n 0) && grnd (((aT A).getD i []).drop (n + 1))) := rfl
      rw [hg2] at hg
      by_cases q : ((aT A).getD i []).getD n 0 < 0
      · rw [decide_eq_false (by omega), Bool.false_and] at hg
        rw [hg] at h
        rw [if_pos q]
        exact h.okB (b := false) hI Fq.rfl' (fun _ q => And.intro (by decide) q)
      · rw [decide_eq_true (by omega), Bool.true_and] at hg
        rw [if_neg q, wr_id (by omega) (by omega)]
        exact hWW _ ⟨n + 1, by omega, by omega, hg⟩ (by omega)
    · rw [if_neg (by omega)]
      rw [List.drop_eq_nil_of_le (by omega)] at hg
      rw [hg] at h
      exact h.okB (b := true) hI Fq.rfl' (fun _ q => And.intro (by decide) q)
theorem mm_isGround {μ : Mem} {A : AS} {Q : Bool → Mem → Prop} {v1 : Int} (hI : MI μ A) (hA : AOK A) (h : MQB μ A (sp_isGround A v1) Q) : d_Md_isGround v1 μ Q := by
  unfold d_Md_isGround
  unfold sp_isGround at h
  refine c_mayTerm hI hA (fun e => ?_) (fun e en => ?_) (fun e i hv hi => ?_)
  · rw [e] at h
    exact h.t1 hI
  · rw [e, decide_eq_false en] at h
    exact h.t2 hI
  · subst hv
    rw [e, decide_eq_true (by omega)] at h
    simp only [Int.toNat_natCast] at h
    have hI0 : MI (mup μ 772 0 0) A := hI.f0 (by decide)
    rw [if_pos rfl]
    have h6 := hA.t6
    have hok := hA.term hi
    have h80 := hok.2.1
    have hm := hI0.term hi
    refine i_Md_isGround_l12 (Inv := fun v2 => ∃ n : Nat, v2 = n ∧ n ≤ ((aT A).getD i []).length ∧ grnd ((aT A).getD i []) = grnd (((aT A).getD i []).drop n)) (fun v2 => ((aT A).getD i []).length - v2.toNat) ?_ 0 ⟨0, rfl, Nat.zero_le _, rfl⟩
    rintro _ ⟨n, rfl, hn, hg⟩ W hWW
    unfold d_Md_isGround_b12
    refine c_sizeOf (by omega) ?_
    rw [hI0.size hi]
    by_cases hnl : n < ((aT A).getD i []).length
    · rw [if_pos (by omega)]
      refine c_nodeOf (by omega) hnl h80 hm ?_
      have hlt := enc_lt (hok.2.2 _ (gm0 hnl)) hA.ars
      rw [dropc hnl] at hg
      have hg2 : grnd (((aT A).getD i []).getD n 0 :: ((aT A).getD i []).drop (n + 1)) = (decide (0 ≤ ((aT A).getD i []).getD n 0) && grnd (((aT A).getD i []).drop (n + 1))) := rfl
      rw [hg2] at hg
      by_cases q : ((aT A).getD i []).getD n 0 < 0
      · rw [decide_eq_false (by omega), Bool.false_and] at hg
        rw [hg] at h
        rw [if_neg (by omega)]
        exact h.ok hI Gm.rfl' rfl
      · rw [decide_eq_true (by omega), Bool.true_and] at hg
        rw [if_pos (by omega), wr_id (by omega) (by omega)]
        exact hWW _ ⟨n + 1, by omega, by omega, hg⟩ (by omega)
    · rw [if_neg (by omega)]
      rw [List.drop_eq_nil_of_le (by omega)] at hg
      rw [hg] at h
      exact h.ok hI Gm.rfl' rfl
noncomputable def sp_ruleAt (A : AS) (v1 v2 : Int) : Int × Int := g1 (aL A) (@decide (isN A v1 v2) (Classical.propDecidable _)) (fi ((aT A).getD v1.toNat []) v2.toNat (aR A) 0)
theorem w_ruleAt {μ : Mem} {A : AS} {Q : Int → Mem → Prop} {v1 v2 : Int} (hI : CI μ A) (hA : AOK A) (h : WQ μ A (sp_ruleAt A v1 v2) Q) : d_Lw_ruleAt v1 v2 μ Q := by
  unfold d_Lw_ruleAt d_OB_ruleAt
  unfold sp_ruleAt at h
  refine c_reqNode hI (fun e => ?_) (fun e en => ?_) (fun e i k hv hk hi hkl => ?_)
  · rw [e] at h
    exact h.t1 hI Fq.rfl'
  · rw [e, @decide_eq_false _ (Classical.propDecidable _) en] at h
    exact h.t2 hI Fq.rfl'
  · subst hv hk
    rw [e, @decide_eq_true _ (Classical.propDecidable _) (show isN A i k from ⟨by omega, by rw [Int.toNat_natCast]; omega⟩)] at h
    simp only [Int.toNat_natCast] at h
    have h6 := hA.t6
    have hT := hI.term hi
    have hok := hA.term hi
    have h80 := hok.2.1
    refine c_Rewriter_firstRule cells5 hI.2.2.1.2.1 hI.2.2.1.1 hA.wkrs hT (tc5 (by omega)) (okt_wkt hok hA.ars) hkl fun μ2 hF => ?_
    have hq := Fq.ofFr hF (by decide) (by decide)
    exact h.ok (hq.ci hI) hq rfl
theorem mm_ruleAt {μ : Mem} {A : AS} {Q : Int → Mem → Prop} {v1 v2 : Int} (hI : MI μ A) (hA : AOK A) (h : MQI μ A (sp_ruleAt A v1 v2) Q) : d_Md_ruleAt v1 v2 μ Q := by
  unfold d_Md_ruleAt
  unfold sp_ruleAt at h
  refine c_mayPosition hI hA (fun e => ?_) (fun e en => ?_) (fun e i k hv hk hi hkl => ?_)
  · rw [e] at h
    exact h.t1 hI
  · rw [e, @decide_eq_false _ (Classical.propDecidable _) en] at h
    exact h.t2 hI
  · subst hv hk
    rw [e, @decide_eq_true _ (Classical.propDecidable _) (show isN A i k from ⟨by omega, by rw [Int.toNat_natCast]; omega⟩)] at h
    simp only [Int.toNat_natCast] at h
    have hI0 : MI (mup μ 772 0 0) A := hI.f0 (by decide)
    rw [if_pos rfl]
    have h6 := hA.t6
    have hok := hA.term hi
    have h80 := hok.2.1
    refine c_lendsI hI0 hA hi fun μ2 hW hG => ?_
    have hQ : Gm qmR qF0 (mup μ 772 0 0) μ2 := hG.mono (by decide) (by decide)
    have hA2 := (hI0.AR hA).gm (hG.1 773 (by decide) (by decide))
    have hR2 := (hI0.rules hA).gm (hG.1 773 (by decide) (by decide))
    refine c_mFirstRule hA2 hW hok hR2 hA.rules hkl fun μ3 hG3 _ => ?_
    exact h.ok hI (hQ.q hG3 (by decide) (by decide)) rfl
def sp_redexCount (A : AS) (v1 : Int) : Int × Int := g1 (aL A) (decide (0 ≤ v1 ∧ v1 < ((aT A).length : Int))) ((((List.range ((aT A).getD v1.toNat []).length).countP (rx (aR A) ((aT A).getD v1.toNat [])) : Nat) : Int))
theorem w_redexCount {μ : Mem} {A : AS} {Q : Int → Mem → Prop} {v1 : Int} (hI : CI μ A) (hA : AOK A) (h : WQ μ A (sp_redexCount A v1) Q) : d_Lw_redexCount v1 μ Q := by
  unfold d_Lw_redexCount d_OB_redexCount
  unfold sp_redexCount at h
  refine c_reqTerm hI (fun e => ?_) (fun e en => ?_) (fun e i hv hi => ?_)
  · rw [e] at h
    exact h.t1 hI Fq.rfl'
  · rw [e, decide_eq_false en] at h
    exact h.t2 hI Fq.rfl'
  · subst hv
    rw [e, decide_eq_true (by omega)] at h
    simp only [Int.toNat_natCast] at h
    have h6 := hA.t6
    have hT := hI.term hi
    have hok := hA.term hi
    have h80 := hok.2.1
    refine c_Rewriter_countRedexes cells5 hI.2.2.1.2.1 hI.2.2.1.1 hA.wkrs hT (tc5 (by omega)) (okt_wkt hok hA.ars) fun μ2 hF => ?_
    have hq := Fq.ofFr hF (by decide) (by decide)
    exact h.ok (hq.ci hI) hq rfl
theorem mm_redexCount {μ : Mem} {A : AS} {Q : Int → Mem → Prop} {v1 : Int} (hI : MI μ A) (hA : AOK A) (h : MQI μ A (sp_redexCount A v1) Q) : d_Md_redexCount v1 μ Q := by
  unfold d_Md_redexCount
  unfold sp_redexCount at h
  refine c_mayTerm hI hA (fun e => ?_) (fun e en => ?_) (fun e i hv hi => ?_)
  · rw [e] at h
    exact h.t1 hI
  · rw [e, decide_eq_false en] at h
    exact h.t2 hI
  · subst hv
    rw [e, decide_eq_true (by omega)] at h
    simp only [Int.toNat_natCast] at h
    have hI0 : MI (mup μ 772 0 0) A := hI.f0 (by decide)
    rw [if_pos rfl]
    have h6 := hA.t6
    have hok := hA.term hi
    have h80 := hok.2.1
    refine c_lendsI hI0 hA hi fun μ2 hW hG => ?_
    have hQ : Gm qmR qF0 (mup μ 772 0 0) μ2 := hG.mono (by decide) (by decide)
    have hA2 := (hI0.AR hA).gm (hG.1 773 (by decide) (by decide))
    have hR2 := (hI0.rules hA).gm (hG.1 773 (by decide) (by decide))
    refine c_mRedexes hA2 hW hok hR2 hA.rules fun μ3 hG3 => ?_
    exact h.ok hI (hQ.q hG3 (by decide) (by decide)) rfl
def sp_innermostRedex (A : AS) (v1 : Int) : Int × Int := g1 (aL A) (decide (0 ≤ v1 ∧ v1 < ((aT A).length : Int))) (px (aR A) true ((aT A).getD v1.toNat []))
theorem w_innermostRedex {μ : Mem} {A : AS} {Q : Int → Mem → Prop} {v1 : Int} (hI : CI μ A) (hA : AOK A) (h : WQ μ A (sp_innermostRedex A v1) Q) : d_Lw_innermostRedex v1 μ Q := by
  unfold d_Lw_innermostRedex d_OB_innermostRedex
  unfold sp_innermostRedex at h
  refine c_reqTerm hI (fun e => ?_) (fun e en => ?_) (fun e i hv hi => ?_)
  · rw [e] at h
    exact h.t1 hI Fq.rfl'
  · rw [e, decide_eq_false en] at h
    exact h.t2 hI Fq.rfl'
  · subst hv
    rw [e, decide_eq_true (by omega)] at h
    simp only [Int.toNat_natCast] at h
    have h6 := hA.t6
    have hT := hI.term hi
    have hok := hA.term hi
    have h80 := hok.2.1
    refine c_Rewriter_redex (inner := true) cells5 hI.2.2.1.2.1 hI.2.2.1.1 hA.wkrs hT (tc5 (by omega)) (okt_wkt hok hA.ars) fun μ2 hF => ?_
    have hq := Fq.ofFr hF (by decide) (by decide)
    exact h.ok (hq.ci hI) hq rfl
theorem mm_innermostRedex {μ : Mem} {A : AS} {Q : Int → Mem → Prop} {v1 : Int} (hI : MI μ A) (hA : AOK A) (h : MQI μ A (sp_innermostRedex A v1) Q) : d_Md_innermostRedex v1 μ Q := by
  unfold d_Md_innermostRedex
  unfold sp_innermostRedex at h
  refine c_mayTerm hI hA (fun e => ?_) (fun e en => ?_) (fun e i hv hi => ?_)
  · rw [e] at h
    exact h.t1 hI
  · rw [e, decide_eq_false en] at h
    exact h.t2 hI
  · subst hv
    rw [e, decide_eq_true (by omega)] at h
    simp only [Int.toNat_natCast] at h
    have hI0 : MI (mup μ 772 0 0) A := hI.f0 (by decide)
    rw [if_pos rfl]
    have h6 := hA.t6
    have hok := hA.term hi
    have h80 := hok.2.1
    refine c_lendsI hI0 hA hi fun μ2 hW hG => ?_
    have hQ : Gm qmR qF0 (mup μ 772 0 0) μ2 := hG.mono (by decide) (by decide)
    have hA2 := (hI0.AR hA).gm (hG.1 773 (by decide) (by decide))
    have hR2 := (hI0.rules hA).gm (hG.1 773 (by decide) (by decide))
    refine c_mInnermost hA2 hW hok hR2 hA.rules fun μ3 hG3 => ?_
    exact h.ok hI (hQ.q hG3 (by decide) (by decide)) rfl
def sp_outermostRedex (A : AS) (v1 : Int) : Int × Int := g1 (aL A) (decide (0 ≤ v1 ∧ v1 < ((aT A).length : Int))) (px (aR A) false ((aT A).getD v1.toNat []))
theorem w_outermostRedex {μ : Mem} {A : AS} {Q : Int → Mem → Prop} {v1 : Int} (hI : CI μ A) (hA : AOK A) (h : WQ μ A (sp_outermostRedex A v1) Q) : d_Lw_outermostRedex v1 μ Q := by
  unfold d_Lw_outermostRedex d_OB_outermostRedex
  unfold sp_outermostRedex at h
  refine c_reqTerm hI (fun e => ?_) (fun e en => ?_) (fun e i hv hi => ?_)
  · rw [e] at h
    exact h.t1 hI Fq.rfl'
  · rw [e, decide_eq_false en] at h
    exact h.t2 hI Fq.rfl'
  · subst hv
    rw [e, decide_eq_true (by omega)] at h
    simp only [Int.toNat_natCast] at h
    have h6 := hA.t6
    have hT := hI.term hi
    have hok := hA.term hi
    have h80 := hok.2.1
    refine c_Rewriter_redex (inner := false) cells5 hI.2.2.1.2.1 hI.2.2.1.1 hA.wkrs hT (tc5 (by omega)) (okt_wkt hok hA.ars) fun μ2 hF => ?_
    have hq := Fq.ofFr hF (by decide) (by decide)
    exact h.ok (hq.ci hI) hq rfl
theorem mm_outermostRedex {μ : Mem} {A : AS} {Q : Int → Mem → Prop} {v1 : Int} (hI : MI μ A) (hA : AOK A) (h : MQI μ A (sp_outermostRedex A v1) Q) : d_Md_outermostRedex v1 μ Q := by
  unfold d_Md_outermostRedex
  unfold sp_outermostRedex at h
  refine c_mayTerm hI hA (fun e => ?_) (fun e en => ?_) (fun e i hv hi => ?_)
  · rw [e] at h
    exact h.t1 hI
  · rw [e, decide_eq_false en] at h
    exact h.t2 hI
  · subst hv
    rw [e, decide_eq_true (by omega)] at h
    simp only [Int.toNat_natCast] at h
    have hI0 : MI (mup μ 772 0 0) A := hI.f0 (by decide)
    rw [if_pos rfl]
    have h6 := hA.t6
    have hok := hA.term hi
    have h80 := hok.2.1
    refine c_lendsI hI0 hA hi fun μ2 hW hG => ?_
    have hQ : Gm qmR qF0 (mup μ 772 0 0) μ2 := hG.mono (by decide) (by decide)
    have hA2 := (hI0.AR hA).gm (hG.1 773 (by decide) (by decide))
    have hR2 := (hI0.rules hA).gm (hG.1 773 (by decide) (by decide))
    refine c_mOutermost hA2 hW hok hR2 hA.rules fun μ3 hG3 => ?_
    exact h.ok hI (hQ.q hG3 (by decide) (by decide)) rfl
def sp_isNormalForm (A : AS) (v1 : Int) : Int × Int := g1 (aL A) (decide (0 ≤ v1 ∧ v1 < ((aT A).length : Int))) (b2i (decide (px (aR A) false ((aT A).getD v1.toNat []) = -1)))
theorem w_isNormalForm {μ : Mem} {A : AS} {Q : Int → Mem → Prop} {v1 : Int} (hI : CI μ A) (hA : AOK A) (h : WQ μ A (sp_isNormalForm A v1) Q) : d_Lw_isNormalForm v1 μ Q := by
  unfold d_Lw_isNormalForm d_OB_isNormalForm
  unfold sp_isNormalForm at h
  refine c_reqTerm hI (fun e => ?_) (fun e en => ?_) (fun e i hv hi => ?_)
  · rw [e] at h
    exact h.t1 hI Fq.rfl'
  · rw [e, decide_eq_false en] at h
    exact h.t2 hI Fq.rfl'
  · subst hv
    rw [e, decide_eq_true (by omega)] at h
    simp only [Int.toNat_natCast] at h
    have h6 := hA.t6
    have hT := hI.term hi
    have hok := hA.term hi
    have h80 := hok.2.1
    refine c_Rewriter_redex (inner := false) cells5 hI.2.2.1.2.1 hI.2.2.1.1 hA.wkrs hT (tc5 (by omega)) (okt_wkt hok hA.ars) fun μ2 hF => ?_
    have hq := Fq.ofFr hF (by decide) (by decide)
    by_cases q : px (aR A) false ((aT A).getD i []) = -1
    · rw [if_pos q]
      rw [decide_eq_true q] at h
      exact h.okB (b := true) (hq.ci hI) hq (fun _ q => And.intro (by decide) q)
    · rw [if_neg q]
      rw [decide_eq_false q] at h
      exact h.okB (b := false) (hq.ci hI) hq (fun _ q => And.intro (by decide) q)
theorem mm_isNormalForm {μ : Mem} {A : AS} {Q : Bool → Mem → Prop} {v1 : Int} (hI : MI μ A) (hA : AOK A) (h : MQB μ A (sp_isNormalForm A v1) Q) : d_Md_isNormalForm v1 μ Q := by
  unfold d_Md_isNormalForm
  unfold sp_isNormalForm at h
  refine c_mayTerm hI hA (fun e => ?_) (fun e en => ?_) (fun e i hv hi => ?_)
  · rw [e] at h
    exact h.t1 hI
  · rw [e, decide_eq_false en] at h
    exact h.t2 hI
  · subst hv
    rw [e, decide_eq_true (by omega)] at h
    simp only [Int.toNat_natCast] at h
    have hI0 : MI (mup μ 772 0 0) A := hI.f0 (by decide)
    rw [if_pos rfl]
    unfold d_Md_isNormal
    have h6 := hA.t6
    have hok := hA.term hi
    have h80 := hok.2.1
    refine c_lendsI hI0 hA hi fun μ2 hW hG => ?_
    have hQ : Gm qmR qF0 (mup μ 772 0 0) μ2 := hG.mono (by decide) (by decide)
    have hA2 := (hI0.AR hA).gm (hG.1 773 (by decide) (by decide))
    have hR2 := (hI0.rules hA).gm (hG.1 773 (by decide) (by decide))
    refine c_mOutermost hA2 hW hok hR2 hA.rules fun μ3 hG3 => ?_
    have hQ3 := hQ.q hG3 (by decide) (by decide)
    have epx : px (aR A) false ((aT A).getD i []) = ouF (rx (aR A) ((aT A).getD i [])) ((aT A).getD i []).length 0 := rfl
    rw [← epx]
    by_cases q : px (aR A) false ((aT A).getD i []) = -1
    · rw [if_pos q]
      dsimp only
      rw [if_pos rfl]
      rw [decide_eq_true q] at h
      exact h.ok hI hQ3 rfl
    · rw [if_neg q]
      dsimp only
      rw [if_neg Bool.false_ne_true]
      rw [decide_eq_false q] at h
      exact h.ok hI hQ3 rfl
def sp_stepsInnermost (A : AS) (v1 : Int) : Int × Int := g1 (aL A) (decide (0 ≤ v1 ∧ v1 < ((aT A).length : Int))) (rstep (rdc (aR A) true 200 ((aT A).getD v1.toNat [])))
theorem w_stepsInnermost {μ : Mem} {A : AS} {Q : Int → Mem → Prop} {v1 : Int} (hI : CI μ A) (hA : AOK A) (h : WQ μ A (sp_stepsInnermost A v1) Q) : d_Lw_stepsInnermost v1 μ Q := by
  unfold d_Lw_stepsInnermost d_OB_stepsInnermost
  unfold sp_stepsInnermost at h
  refine c_reqTerm hI (fun e => ?_) (fun e en => ?_) (fun e i hv hi => ?_)
  · rw [e] at h
    exact h.t1 hI Fq.rfl'
  · rw [e, decide_eq_false en] at h
    exact h.t2 hI Fq.rfl'
  · subst hv
    rw [e, decide_eq_true (by omega)] at h
    simp only [Int.toNat_natCast] at h
    have h6 := hA.t6
    have hT := hI.term hi
    have hok := hA.term hi
    have h80 := hok.2.1
    refine c_Rewriter_reduce (inner := true) (n := 200) cells5 hI.2.2.1.2.1 hI.2.2.1.1 hA.rules hA.ars hT (tc5 (by omega)) (by have := tc5r i (by omega); omega) hok (Nat.le_refl _) (fun μ2 k Y hY hXY hF => ?_) (fun μ2 hY hF => ?_)
    · have hq := Fq.ofFr hF.toFr (by decide) (by decide)
      rw [hY] at h
      exact h.ok (hq.ci hI) hq rfl
    · have hq := Fq.ofFr hF.toFr (by decide) (by decide)
      rw [hY] at h
      exact h.ok (hq.ci hI) hq rfl
theorem mm_stepsInnermost {μ : Mem} {A : AS} {Q : Int → Mem → Prop} {v1 : Int} (hI : MI μ A) (hA : AOK A) (h : MQI μ A (sp_stepsInnermost A v1) Q) : d_Md_stepsInnermost v1 μ Q := by
  unfold d_Md_stepsInnermost
  unfold sp_stepsInnermost at h
  refine c_mayTerm hI hA (fun e => ?_) (fun e en => ?_) (fun e i hv hi => ?_)
  · rw [e] at h
    exact h.t1 hI
  · rw [e, decide_eq_false en] at h
    exact h.t2 hI
  · subst hv
    rw [e, decide_eq_true (by omega)] at h
    simp only [Int.toNat_natCast] at h
    have hI0 : MI (mup μ 772 0 0) A := hI.f0 (by decide)
    rw [if_pos rfl]
    refine c_stepsOf (inner := true) hI0 hA hi (fun μ2 k Y hY hW2 hG2 => ?_) (fun μ2 hY hG2 => ?_)
    · rw [hY] at h
      exact h.ok hI (hG2.mono (by decide) (by decide)) rfl
    · rw [hY] at h
      exact h.ok hI (hG2.mono (by decide) (by decide)) rfl
def sp_stepsOutermost (A : AS) (v1 : Int) : Int × Int := g1 (aL A) (decide (0 ≤ v1 ∧ v1 < ((aT A).length : Int))) (rstep (rdc (aR A) false 200 ((aT A).getD v1.toNat [])))
theorem w_stepsOutermost {μ : Mem} {A : AS} {Q : Int → Mem → Prop} {v1 : Int} (hI : CI μ A) (hA : AOK A) (h : WQ μ A (sp_stepsOutermost A v1) Q) : d_Lw_stepsOutermost v1 μ Q := by
  unfold d_Lw_stepsOutermost d_OB_stepsOutermost
  unfold sp_stepsOutermost at h
  refine c_reqTerm hI (fun e => ?_) (fun e en => ?_) (fun e i hv hi => ?_)
  · rw [e] at h
    exact h.t1 hI Fq.rfl'
  · rw [e, decide_eq_false en] at h
    exact h.t2 hI Fq.rfl'
  · subst hv
    rw [e, decide_eq_true (by omega)] at h
    simp only [Int.toNat_natCast] at h
    have h6 := hA.t6
    have hT := hI.term hi
    have hok := hA.term hi
    have h80 := hok.2.1
    refine c_Rewriter_reduce (inner := false) (n := 200) cells5 hI.2.2.1.2.1 hI.2.2.1.1 hA.rules hA.ars hT (tc5 (by omega)) (by have := tc5r i (by omega); omega) hok (Nat.le_refl _) (fun μ2 k Y hY hXY hF => ?_) (fun μ2 hY hF => ?_)
    · have hq := Fq.ofFr hF.toFr (by decide) (by decide)
      rw [hY] at h
      exact h.ok (hq.ci hI) hq rfl
    · have hq := Fq.ofFr hF.toFr (by decide) (by decide)
      rw [hY] at h
      exact h.ok (hq.ci hI) hq rfl
theorem mm_stepsOutermost {μ : Mem} {A : AS} {Q : Int → Mem → Prop} {v1 : Int} (hI : MI μ A) (hA : AOK A) (h : MQI μ A (sp_stepsOutermost A v1) Q) : d_Md_stepsOutermost v1 μ Q := by
  unfold d_Md_stepsOutermost
  unfold sp_stepsOutermost at h
  refine c_mayTerm hI hA (fun e => ?_) (fun e en => ?_) (fun e i hv hi => ?_)
  · rw [e] at h
    exact h.t1 hI
  · rw [e, decide_eq_false en] at h
    exact h.t2 hI
  · subst hv
    rw [e, decide_eq_true (by omega)] at h
    simp only [Int.toNat_natCast] at h
    have hI0 : MI (mup μ 772 0 0) A := hI.f0 (by decide)
    rw [if_pos rfl]
    refine c_stepsOf (inner := false) hI0 hA hi (fun μ2 k Y hY hW2 hG2 => ?_) (fun μ2 hY hG2 => ?_)
    · rw [hY] at h
      exact h.ok hI (hG2.mono (by decide) (by decide)) rfl
    · rw [hY] at h
      exact h.ok hI (hG2.mono (by decide) (by decide)) rfl
def sp_normalFormSize (A : AS) (v1 : Int) : Int × Int := g1 (aL A) (decide (0 ≤ v1 ∧ v1 < ((aT A).length : Int))) (rsize (rdc (aR A) true 200 ((aT A).getD v1.toNat [])))
theorem w_normalFormSize {μ : Mem} {A : AS} {Q : Int → Mem → Prop} {v1 : Int} (hI : CI μ A) (hA : AOK A) (h : WQ μ A (sp_normalFormSize A v1) Q) : d_Lw_normalFormSize v1 μ Q := by
  unfold d_Lw_normalFormSize d_OB_normalFormSize
  unfold sp_normalFormSize at h
  refine c_reqTerm hI (fun e => ?_) (fun e en => ?_) (fun e i hv hi => ?_)
  · rw [e] at h
    exact h.t1 hI Fq.rfl'
  · rw [e, decide_eq_false en] at h
    exact h.t2 hI Fq.rfl'
  · subst hv
    rw [e, decide_eq_true (by omega)] at h
    simp only [Int.toNat_natCast] at h
    have h6 := hA.t6
    have hT := hI.term hi
    have hok := hA.term hi
    have h80 := hok.2.1
    refine c_Rewriter_reduce (inner := true) (n := 200) cells5 hI.2.2.1.2.1 hI.2.2.1.1 hA.rules hA.ars hT (tc5 (by omega)) (by have := tc5r i (by omega); omega) hok (Nat.le_refl _) (fun μ2 k Y hY hXY hF => ?_) (fun μ2 hY hF => ?_)
    · have hq := Fq.ofFr hF.toFr (by decide) (by decide)
      rw [hY] at h
      rw [if_neg (by omega), show μ2 60 1 = (Y.length : Int) from hXY.1]
      exact h.ok (hq.ci hI) hq rfl
    · have hq := Fq.ofFr hF.toFr (by decide) (by decide)
      rw [hY] at h
      rw [if_pos rfl]
      exact h.ok (hq.ci hI) hq rfl
theorem mm_normalFormSize {μ : Mem} {A : AS} {Q : Int → Mem → Prop} {v1 : Int} (hI : MI μ A) (hA : AOK A) (h : MQI μ A (sp_normalFormSize A v1) Q) : d_Md_normalFormSize v1 μ Q := by
  unfold d_Md_normalFormSize
  unfold sp_normalFormSize at h
  refine c_mayTerm hI hA (fun e => ?_) (fun e en => ?_) (fun e i hv hi => ?_)
  · rw [e] at h
    exact h.t1 hI
  · rw [e, decide_eq_false en] at h
    exact h.t2 hI
  · subst hv
    rw [e, decide_eq_true (by omega)] at h
    simp only [Int.toNat_natCast] at h
    have hI0 : MI (mup μ 772 0 0) A := hI.f0 (by decide)
    rw [if_pos rfl]
    refine c_stepsOf (inner := true) hI0 hA hi (fun μ2 k Y hY hW2 hG2 => ?_) (fun μ2 hY hG2 => ?_)
    · rw [hY] at h
      rw [if_neg (by omega), hW2.1]
      exact h.ok hI (hG2.mono (by decide) (by decide)) rfl
    · rw [hY] at h
      rw [if_pos rfl]
      exact h.ok hI (hG2.mono (by decide) (by decide)) rfl
def sp_areEqual (A : AS) (v1 v2 : Int) : Int × Int := g1 (aL A) (decide ((0 ≤ v1 ∧ v1 < ((aT A).length : Int)) ∧ 0 ≤ v2 ∧ v2 < ((aT A).length : Int))) (b2i (decide ((aT A).getD v1.toNat [] = (aT A).getD v2.toNat [])))
theorem w_areEqual {μ : Mem} {A : AS} {Q : Int → Mem → Prop} {v1 v2 : Int} (hI : CI μ A) (hA : AOK A) (h : WQ μ A (sp_areEqual A v1 v2) Q) : d_Lw_areEqual v1 v2 μ Q := by
  unfold d_Lw_areEqual d_OB_areEqual
  unfold sp_areEqual at h
  refine c_reqTerm hI (fun e => ?_) (fun e en => ?_) (fun e i hv hi => c_reqTerm hI (fun e => ?_) (fun e en => ?_) (fun e k hk hkl => ?_))
  · rw [e] at h
    exact h.t1 hI Fq.rfl'
  · rw [e, decide_eq_false (fun q => en q.1)] at h
    exact h.t2 hI Fq.rfl'
  · rw [e] at h
    exact h.t1 hI Fq.rfl'
  · rw [e, decide_eq_false (fun q => en q.2)] at h
    exact h.t2 hI Fq.rfl'
  · subst hv hk
    rw [e, decide_eq_true (by omega)] at h
    simp only [Int.toNat_natCast] at h
    exact c_Term_sameAs (hI.term hi) (hI.term hkl) (h.okB hI Fq.rfl' (fun _ q => And.intro (by decide) q))
theorem mm_areEqual {μ : Mem} {A : AS} {Q : Bool → Mem → Prop} {v1 v2 : Int} (hI : MI μ A) (hA : AOK A) (h : MQB μ A (sp_areEqual A v1 v2) Q) : d_Md_areEqual v1 v2 μ Q := by
  unfold d_Md_areEqual
  unfold sp_areEqual at h
  refine c_mayTerms hI hA (fun e => ?_) (fun e en => ?_) (fun e i k hv hk hi hkl => ?_)
  · rw [e] at h
    exact h.t1 hI
  · rw [e, decide_eq_false en] at h
    exact h.t2 hI
  · subst hv hk
    rw [e, decide_eq_true (by omega)] at h
    simp only [Int.toNat_natCast] at h
    have hI0 : MI (mup μ 772 0 0) A := hI.f0 (by decide)
    rw [if_pos rfl]
    refine c_lendsI hI0 hA hi fun μ2 hW hG => ?_
    have hI2 : MI μ2 A := hI0.gq (hG.mono (by decide) (by decide))
    refine c_keeps hW fun μ3 hK hW3 hG3 => ?_
    have hI3 : MI μ3 A := hI2.gq (hG3.mono (by decide) (by decide))
    refine c_lendsI hI3 hA hkl fun μ4 hW4 hG4 => ?_
    have hK4 := hK.gm (hG4.1 782 (by decide) (by decide)) (hG4.2 27 (by decide))
    refine c_isKept hA.ars hK4 hW4 (hA.term hi) (hA.term hkl) (h.ok hI ?_ rfl)
    exact (Gm.mono hG (by decide) (by decide)).q (hG3.tr hG4 (r := [782, 780]) (f := [27, 25]) (by decide) (by decide) (by decide) (by decide)) (by decide) (by decide)
def sp_haveSameNormalForm (A : AS) (v1 v2 : Int) : Int × Int := g1 (aL A) (decide ((0 ≤ v1 ∧ v1 < ((aT A).length : Int)) ∧ 0 ≤ v2 ∧ v2 < ((aT A).length : Int))) (b2i (mee (aR A) 200 ((aT A).getD v1.toNat []) ((aT A).getD v2.toNat [])))
theorem w_haveSameNormalForm {μ : Mem} {A : AS} {Q : Int → Mem → Prop} {v1 v2 : Int} (hI : CI μ A) (hA : AOK A) (h : WQ μ A (sp_haveSameNormalForm A v1 v2) Q) : d_Lw_haveSameNormalForm v1 v2 μ Q := by
  unfold d_Lw_haveSameNormalForm d_OB_haveSameNormalForm
  unfold sp_haveSameNormalForm at h
  refine c_reqTerm hI (fun e => ?_) (fun e en => ?_) (fun e i hv hi => c_reqTerm hI (fun e => ?_) (fun e en => ?_) (fun e k hk hkl => ?_))
  · rw [e] at h
    exact h.t1 hI Fq.rfl'
  · rw [e, decide_eq_false (fun q => en q.1)] at h
    exact h.t2 hI Fq.rfl'
  · rw [e] at h
    exact h.t1 hI Fq.rfl'
  · rw [e, decide_eq_false (fun q => en q.2)] at h
    exact h.t2 hI Fq.rfl'
  · subst hv hk
    rw [e, decide_eq_true (by omega)] at h
    simp only [Int.toNat_natCast] at h
    have h6 := hA.t6
    have k1 := tc5r i (by omega)
    have k2 := tc5r k (by omega)
    refine c_Rewriter_meet (n := 200) cells5 hI.2.2.1.2.1 hI.2.2.1.1 hA.rules hA.ars (hI.term hi) (tc5 (by omega)) (by omega) (hA.term hi) (hI.term hkl) (tc5 (by omega)) (by omega) (hA.term hkl) (Nat.le_refl _) fun μ2 hF => ?_
    have hq := Fq.ofFr hF (by decide) (by decide)
    exact h.okB (hq.ci hI) hq (fun _ q => And.intro (by decide) q)
theorem mm_haveSameNormalForm {μ : Mem} {A : AS} {Q : Bool → Mem → Prop} {v1 v2 : Int} (hI : MI μ A) (hA : AOK A) (h : MQB μ A (sp_haveSameNormalForm A v1 v2) Q) : d_Md_haveSameNormalForm v1 v2 μ Q := by
  unfold d_Md_haveSameNormalForm
  unfold sp_haveSameNormalForm at h
  refine c_mayTerms hI hA (fun e => ?_) (fun e en => ?_) (fun e i k hv hk hi hkl => ?_)
  · rw [e] at h
    exact h.t1 hI
  · rw [e, decide_eq_false en] at h
    exact h.t2 hI
  · subst hv hk
    rw [e, decide_eq_true (by omega)] at h
    simp only [Int.toNat_natCast] at h
    have hI0 : MI (mup μ 772 0 0) A := hI.f0 (by decide)
    rw [if_pos rfl]
    refine c_stepsOf (inner := true) hI0 hA hi (fun μ2 n Y hY hW2 hG2 => ?_) (fun μ2 hY hG2 => ?_)
    · rw [if_neg (by omega)]
      have hI2 : MI μ2 A := hI0.gq (hG2.mono (by decide) (by decide))
      refine c_keeps hW2 fun μ3 hK hW3 hG3 => ?_
      have hI3 : MI μ3 A := hI2.gq (hG3.mono (by decide) (by decide))
      have hQ3 : Gm qmR qF0 (mup μ 772 0 0) μ3 := (Gm.mono hG2 (by decide) (by decide)).q hG3 (by decide) (by decide)
      have oY := (rdc_ok hA.rules _ _ _ _ (hA.term hi) hY).1
      refine c_stepsOf (inner := true) hI3 hA hkl (fun μ4 n' Z hZ hW4 hG4 => ?_) (fun μ4 hZ hG4 => ?_)
      · rw [if_neg (by omega)]
        have oZ := (rdc_ok hA.rules _ _ _ _ (hA.term hkl) hZ).1
        refine c_isKept hA.ars (hK.gm (hG4.1 782 (by decide) (by decide)) (hG4.2 27 (by decide))) hW4 oY oZ ?_
        have em : mee (aR A) 200 ((aT A).getD i []) ((aT A).getD k []) = decide (Y = Z) := by
          unfold mee
          rw [hY, hZ]
        rw [em] at h
        by_cases q : Y = Z
        · rw [decide_eq_true q] at h ⊢
          rw [if_pos rfl]
          exact h.ok hI (hQ3.q hG4 (by decide) (by decide)) rfl
        · rw [decide_eq_false q] at h ⊢
          rw [if_neg Bool.false_ne_true]
          exact h.ok hI (hQ3.q hG4 (by decide) (by decide)) rfl
      · rw [if_pos rfl]
        have em : mee (aR A) 200 ((aT A).getD i []) ((aT A).getD k []) = false := by
          unfold mee
          rw [hY, hZ]
        rw [em] at h
        exact h.ok hI (hQ3.q hG4 (by decide) (by decide)) rfl
    · rw [if_pos rfl]
      have em : mee (aR A) 200 ((aT A).getD i []) ((aT A).getD k []) = false := by
        unfold mee
        rw [hY]
      rw [em] at h
      exact h.ok hI (hG2.mono (by decide) (by decide)) rfl
noncomputable def sp_matches (A : AS) (v1 v2 v3 : Int) : Int × Int := g1 (aL A) (@decide ((0 ≤ v1 ∧ v1 < ((aR A).length : Int)) ∧ isN A v2 v3) (Classical.propDecidable _)) (b2i (mb ((aR A).getD v1.toNat ([], [])).1 ((aT A).getD v2.toNat []) v3.toNat).isSome)
theorem w_matches {μ : Mem} {A : AS} {Q : Int → Mem → Prop} {v1 v2 v3 : Int} (hI : CI μ A) (hA : AOK A) (h : WQ μ A (sp_matches A v1 v2 v3) Q) : d_Lw_matches v1 v2 v3 μ Q := by
  unfold d_Lw_matches d_OB_matches
  unfold sp_matches at h
  refine c_reqRule hI (fun e => ?_) (fun e en => ?_) (fun e n hn hnl => c_reqNode hI (fun e => ?_) (fun e en => ?_) (fun e i k hv hk hi hkl => ?_))
  · rw [e] at h
    exact h.t1 hI Fq.rfl'
  · rw [e, @decide_eq_false _ (Classical.propDecidable _) (fun q => en q.1)] at h
    exact h.t2 hI Fq.rfl'
  · rw [e] at h
    exact h.t1 hI Fq.rfl'
  · rw [e, @decide_eq_false _ (Classical.propDecidable _) (fun q => en q.2)] at h
    exact h.t2 hI Fq.rfl'
  · subst hn hv hk
    rw [e, @decide_eq_true _ (Classical.propDecidable _) (show _ ∧ isN A i k from ⟨by omega, by omega, by rw [Int.toNat_natCast]; omega⟩)] at h
    simp only [Int.toNat_natCast] at h
    have h6 := hA.t6
    have hr := hA.wkrs _ (getD_mem (d := ([], [])) hnl)
    refine c_Rewriter_match (w := 57) (by decide +kernel) (hI.ruleL hnl) (by have := rc_eq 5 n; have := hA.r6; omega) (hI.term hi) (tc5 (by omega)) hr.1 (hA.term hi).1 hr.2.2.1 (okt_wkt (hA.term hi) hA.ars).2 hr.2.2.2.2.1 hkl (fun μ2 b hb _ hF => ?_) (fun μ2 hb hF => ?_)
    · have hq := Fq.ofFr hF (by decide) (by decide)
      rw [hb] at h
      exact h.okB (b := true) (hq.ci hI) hq (fun _ q => And.intro (by decide) q)
    · have hq := Fq.ofFr hF (by decide) (by decide)
      rw [hb] at h
      exact h.okB (b := false) (hq.ci hI) hq (fun _ q => And.intro (by decide) q)
theorem mm_matches {μ : Mem} {A : AS} {Q : Bool → Mem → Prop} {v1 v2 v3 : Int} (hI : MI μ A) (hA : AOK A) (h : MQB μ A (sp_matches A v1 v2 v3) Q) : d_Md_matches v1 v2 v3 μ Q := by
  unfold d_Md_matches
  unfold d_Md_matches_j26 d_Md_matches_j27
  unfold sp_matches at h
  have no : ¬ ((0 ≤ v1 ∧ v1 < ((aR A).length : Int)) ∧ isN A v2 v3) → d_Md_mayTwo (μ 772 6) 0 μ (fun r5 μ6 => if r5 = true then (d_Md_lends v2 μ6 (fun μ8 => d_Md_matchesAt v1 v3 μ8 (fun r9 μ10 => Q r9 μ10))) else (Q false μ6)) := by
    intro hn
    rw [@decide_eq_false _ (Classical.propDecidable _) hn] at h
    rw [hI.1]
    refine c_mayTwo (b2 := false) (fun e => ?_) (fun e _ => ?_) (fun _ q => by cases q)
    · rw [e] at h
      exact h.t1 hI
    · rw [e] at h
      exact h.t2 hI
  refine c_isRule hI hA ?_
  cases hl : aL A with
  | false =>
    rw [Bool.false_and, if_neg Bool.false_ne_true, hI.1]
    refine c_mayTwo (b2 := false) (fun e => ?_) (fun e _ => ?_) (fun _ q => by cases q)
    · rw [e] at h
      exact h.t1 hI
    · rw [hl] at e
      cases e
  | true =>
    rw [Bool.true_and]
    by_cases q1 : 0 ≤ v1 ∧ v1 < ((aR A).length : Int)
    · rw [decide_eq_true q1, if_pos rfl]
      refine c_isPosition hI hA (fun hn => ?_) (fun hn => ?_)
      · rw [if_neg Bool.false_ne_true]
        exact no fun q => hn ⟨hl, q.2⟩
      · rw [if_pos rfl, hI.1]
        refine c_mayTwo (b2 := true) (fun e => ?_) (fun _ q => by cases q) (fun e _ => ?_)
        · rw [hl] at e
          cases e
        · rw [e, @decide_eq_true _ (Classical.propDecidable _) ⟨q1, hn.2⟩] at h
          rw [if_pos rfl]
          have hI0 : MI (mup μ 772 0 0) A := hI.f0 (by decide)
          obtain ⟨_, q2, q3⟩ := hn
          have ev : v2 = ((v2.toNat : Nat) : Int) := by omega
          have ev1 : v1 = ((v1.toNat : Nat) : Int) := by omega
          have ev3 : v3 = ((v3.toNat : Nat) : Int) := by omega
          rw [ev, ev1, ev3]
          have hi : v2.toNat < (aT A).length := by omega
          have hn1 : v1.toNat < (aR A).length := by omega
          refine c_lendsI hI0 hA hi fun μ2 hW hG => ?_
          have hQ : Gm qmR qF0 (mup μ 772 0 0) μ2 := hG.mono (by decide) (by decide)
          have hA2 := (hI0.AR hA).gm (hG.1 773 (by decide) (by decide))
          have hR2 := (hI0.rules hA).gm (hG.1 773 (by decide) (by decide))
          refine c_matchesAt hA2 hW (hA.term hi) (hR2.2.2 _ hn1) (hA.rule hn1) (by omega) (fun μ3 b hb _ hG3 => ?_) (fun μ3 hb hG3 => ?_)
          · rw [hb] at h
            exact h.ok hI (hQ.q hG3 (by decide) (by decide)) rfl
          · rw [hb] at h
            exact h.ok hI (hQ.q hG3 (by decide) (by decide)) rfl
    · rw [decide_eq_false q1, if_neg Bool.false_ne_true]
      exact no fun q => q1 q.1
