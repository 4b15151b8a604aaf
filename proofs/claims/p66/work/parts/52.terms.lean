/-! CALLS THAT ONLY LOOK at terms (written by wip/gen/ops2.py) -/
theorem Fq.ofFr {μ μ1 : Mem} {lo hi : Nat} (h : Fr lo hi μ μ1) (h1 : 57 ≤ lo) (h2 : hi ≤ 72) : Fq μ μ1 := fun b hb => h b (by omega)
theorem Fq.ci {μ μ1 : Mem} {A : AS} (h : Fq μ μ1) (hI : CI μ A) : CI μ1 A := hI.fq fun b hb => h b (by omega)
theorem AOK.wkrs {A : AS} (hA : AOK A) : ∀ r, r ∈ aR A → wkr r := fun r hr => okr_wkr (hA.rules r hr) hA.ars
def symO (c : Int) : Int := if c < 0 then -1 else c / 4
def varO (c : Int) : Int := if c < 0 then -1 - c else -1
/-- steps of a reduction, -1 if it fails; size of the normal form -/
def rstep (o : Option (Nat × List Int)) : Int := match o with
  | none => -1
  | some (k, _) => (k : Int)
def rsize (o : Option (Nat × List Int)) : Int := match o with
  | none => -1
  | some (_, Y) => (Y.length : Int)
def sp_termSize (A : AS) (v1 : Int) : Int × Int := g1 (aL A) (decide (0 ≤ v1 ∧ v1 < ((aT A).length : Int))) ((((aT A).getD v1.toNat []).length : Nat))
theorem w_termSize {μ : Mem} {A : AS} {Q : Int → Mem → Prop} {v1 : Int} (hI : CI μ A) (hA : AOK A) (h : WQ μ A (sp_termSize A v1) Q) : d_Lw_termSize v1 μ Q := by
  unfold d_Lw_termSize d_OB_termSize
  unfold sp_termSize at h
  refine c_reqTerm hI (fun e => ?_) (fun e en => ?_) (fun e i hv hi => ?_)
  · rw [e] at h
    exact h.t1 hI Fq.rfl'
  · rw [e, decide_eq_false en] at h
    exact h.t2 hI Fq.rfl'
  · subst hv
    rw [e, decide_eq_true (by omega)] at h
    simp only [Int.toNat_natCast] at h
    have h6 := hA.t6
    have hT := hI.term hi
    have hok := hA.term hi
    have h80 := hok.2.1
    rw [hT.1]
    exact h.ok hI Fq.rfl' rfl
noncomputable def sp_symbolAt (A : AS) (v1 v2 : Int) : Int × Int := g1 (aL A) (@decide (isN A v1 v2) (Classical.propDecidable _)) (symO (((aT A).getD v1.toNat []).getD v2.toNat 0))
theorem w_symbolAt {μ : Mem} {A : AS} {Q : Int → Mem → Prop} {v1 v2 : Int} (hI : CI μ A) (hA : AOK A) (h : WQ μ A (sp_symbolAt A v1 v2) Q) : d_Lw_symbolAt v1 v2 μ Q := by
  unfold d_Lw_symbolAt d_OB_symbolAt
  unfold sp_symbolAt at h
  refine c_reqNode hI (fun e => ?_) (fun e en => ?_) (fun e i k hv hk hi hkl => ?_)
  · rw [e] at h
    exact h.t1 hI Fq.rfl'
  · rw [e, @decide_eq_false _ (Classical.propDecidable _) en] at h
    exact h.t2 hI Fq.rfl'
  · subst hv hk
    rw [e, @decide_eq_true _ (Classical.propDecidable _) (show isN A i k from ⟨by omega, by rw [Int.toNat_natCast]; omega⟩)] at h
    simp only [Int.toNat_natCast] at h
    have h6 := hA.t6
    have hT := hI.term hi
    have hok := hA.term hi
    have h80 := hok.2.1
    refine c_Term_getN hT hkl ?_
    have h32 := okn_lt (hok.2.2 _ (gm0 hkl)) hA.ars
    unfold d_Term_symbolOf
    unfold symO at h
    by_cases q : ((aT A).getD i []).getD k 0 < 0
    · rw [if_pos q] at h ⊢
      exact h.ok hI Fq.rfl' rfl
    · rw [if_neg q] at h ⊢
      rw [jshr2 (by omega) h32]
      exact h.ok hI Fq.rfl' rfl
noncomputable def sp_variableAt (A : AS) (v1 v2 : Int) : Int × Int := g1 (aL A) (@decide (isN A v1 v2) (Classical.propDecidable _)) (varO (((aT A).getD v1.toNat []).getD v2.toNat 0))
theorem w_variableAt {μ : Mem} {A : AS} {Q : Int → Mem → Prop} {v1 v2 : Int} (hI : CI μ A) (hA : AOK A) (h : WQ μ A (sp_variableAt A v1 v2) Q) : d_Lw_variableAt v1 v2 μ Q := by
  unfold d_Lw_variableAt d_OB_variableAt
  unfold sp_variableAt at h
  refine c_reqNode hI (fun e => ?_) (fun e en => ?_) (fun e i k hv hk hi hkl => ?_)
  · rw [e] at h
    exact h.t1 hI Fq.rfl'
  · rw [e, @decide_eq_false _ (Classical.propDecidable _) en] at h
    exact h.t2 hI Fq.rfl'
  · subst hv hk
    rw [e, @decide_eq_true _ (Classical.propDecidable _) (show isN A i k from ⟨by omega, by rw [Int.toNat_natCast]; omega⟩)] at h
    simp only [Int.toNat_natCast] at h
    have h6 := hA.t6
    have hT := hI.term hi
    have hok := hA.term hi
    have h80 := hok.2.1
    refine c_Term_getN hT hkl ?_
    have hn := hok.2.2 _ (gm0 hkl)
    unfold d_Term_variableOf
    unfold varO at h
    by_cases q : ((aT A).getD i []).getD k 0 < 0
    · rw [if_pos q] at h ⊢
      have := hn.1 q
      rw [wr_id (by omega) (by omega)]
      exact h.ok hI Fq.rfl' rfl
    · rw [if_neg q] at h ⊢
      exact h.ok hI Fq.rfl' rfl
noncomputable def sp_subtermSize (A : AS) (v1 v2 : Int) : Int × Int := g1 (aL A) (@decide (isN A v1 v2) (Classical.propDecidable _)) (((en ((aT A).getD v1.toNat []) v2.toNat : Nat) : Int) - (v2.toNat : Nat))
theorem w_subtermSize {μ : Mem} {A : AS} {Q : Int → Mem → Prop} {v1 v2 : Int} (hI : CI μ A) (hA : AOK A) (h : WQ μ A (sp_subtermSize A v1 v2) Q) : d_Lw_subtermSize v1 v2 μ Q := by
  unfold d_Lw_subtermSize d_OB_subtermSize
  unfold sp_subtermSize at h
  refine c_reqNode hI (fun e => ?_) (fun e en => ?_) (fun e i k hv hk hi hkl => ?_)
  · rw [e] at h
    exact h.t1 hI Fq.rfl'
  · rw [e, @decide_eq_false _ (Classical.propDecidable _) en] at h
    exact h.t2 hI Fq.rfl'
  · subst hv hk
    rw [e, @decide_eq_true _ (Classical.propDecidable _) (show isN A i k from ⟨by omega, by rw [Int.toNat_natCast]; omega⟩)] at h
    simp only [Int.toNat_natCast] at h
    have h6 := hA.t6
    have hT := hI.term hi
    have hok := hA.term hi
    have h80 := hok.2.1
    refine c_Term_end hT (okt_wkt hok hA.ars).2 (by omega) ?_
    have := en_le (L := (aT A).getD i []) (p := k) (by omega)
    rw [wr_id (by omega) (by omega)]
    exact h.ok hI Fq.rfl' rfl
def grnd : List Int → Bool
  | [] => true
  | c :: r => decide (0 ≤ c) && grnd r
def sp_isGround (A : AS) (v1 : Int) : Int × Int := g1 (aL A) (decide (0 ≤ v1 ∧ v1 < ((aT A).length : Int))) (b2i (grnd ((aT A).getD v1.toNat [])))
noncomputable def sp_ruleAt (A : AS) (v1 v2 : Int) : Int × Int := g1 (aL A) (@decide (isN A v1 v2) (Classical.propDecidable _)) (fi ((aT A).getD v1.toNat []) v2.toNat (aR A) 0)
theorem w_ruleAt {μ : Mem} {A : AS} {Q : Int → Mem → Prop} {v1 v2 : Int} (hI : CI μ A) (hA : AOK A) (h : WQ μ A (sp_ruleAt A v1 v2) Q) : d_Lw_ruleAt v1 v2 μ Q := by
  unfold d_Lw_ruleAt d_OB_ruleAt
  unfold sp_ruleAt at h
  refine c_reqNode hI (fun e => ?_) (fun e en => ?_) (fun e i k hv hk hi hkl => ?_)
  · rw [e] at h
    exact h.t1 hI Fq.rfl'
  · rw [e, @decide_eq_false _ (Classical.propDecidable _) en] at h
    exact h.t2 hI Fq.rfl'
  · subst hv hk
    rw [e, @decide_eq_true _ (Classical.propDecidable _) (show isN A i k from ⟨by omega, by rw [Int.toNat_natCast]; omega⟩)] at h
    simp only [Int.toNat_natCast] at h
    have h6 := hA.t6
    have hT := hI.term hi
    have hok := hA.term hi
    have h80 := hok.2.1
    refine c_Rewriter_firstRule cells5 hI.2.2.1.2.1 hI.2.2.1.1 hA.wkrs hT (tc5 (by omega)) (okt_wkt hok hA.ars) hkl fun μ2 hF => ?_
    have hq := Fq.ofFr hF (by decide) (by decide)
    exact h.ok (hq.ci hI) hq rfl
def sp_redexCount (A : AS) (v1 : Int) : Int × Int := g1 (aL A) (decide (0 ≤ v1 ∧ v1 < ((aT A).length : Int))) ((((List.range ((aT A).getD v1.toNat []).length).countP (rx (aR A) ((aT A).getD v1.toNat [])) : Nat) : Int))
theorem w_redexCount {μ : Mem} {A : AS} {Q : Int → Mem → Prop} {v1 : Int} (hI : CI μ A) (hA : AOK A) (h : WQ μ A (sp_redexCount A v1) Q) : d_Lw_redexCount v1 μ Q := by
  unfold d_Lw_redexCount d_OB_redexCount
  unfold sp_redexCount at h
  refine c_reqTerm hI (fun e => ?_) (fun e en => ?_) (fun e i hv hi => ?_)
  · rw [e] at h
    exact h.t1 hI Fq.rfl'
  · rw [e, decide_eq_false en] at h
    exact h.t2 hI Fq.rfl'
  · subst hv
    rw [e, decide_eq_true (by omega)] at h
    simp only [Int.toNat_natCast] at h
    have h6 := hA.t6
    have hT := hI.term hi
    have hok := hA.term hi
    have h80 := hok.2.1
    refine c_Rewriter_countRedexes cells5 hI.2.2.1.2.1 hI.2.2.1.1 hA.wkrs hT (tc5 (by omega)) (okt_wkt hok hA.ars) fun μ2 hF => ?_
    have hq := Fq.ofFr hF (by decide) (by decide)
    exact h.ok (hq.ci hI) hq rfl
def sp_innermostRedex (A : AS) (v1 : Int) : Int × Int := g1 (aL A) (decide (0 ≤ v1 ∧ v1 < ((aT A).length : Int))) (px (aR A) true ((aT A).getD v1.toNat []))
theorem w_innermostRedex {μ : Mem} {A : AS} {Q : Int → Mem → Prop} {v1 : Int} (hI : CI μ A) (hA : AOK A) (h : WQ μ A (sp_innermostRedex A v1) Q) : d_Lw_innermostRedex v1 μ Q := by
  unfold d_Lw_innermostRedex d_OB_innermostRedex
  unfold sp_innermostRedex at h
  refine c_reqTerm hI (fun e => ?_) (fun e en => ?_) (fun e i hv hi => ?_)
  · rw [e] at h
    exact h.t1 hI Fq.rfl'
  · rw [e, decide_eq_false en] at h
    exact h.t2 hI Fq.rfl'
  · subst hv
    rw [e, decide_eq_true (by omega)] at h
    simp only [Int.toNat_natCast] at h
    have h6 := hA.t6
    have hT := hI.term hi
    have hok := hA.term hi
    have h80 := hok.2.1
    refine c_Rewriter_redex (inner := true) cells5 hI.2.2.1.2.1 hI.2.2.1.1 hA.wkrs hT (tc5 (by omega)) (okt_wkt hok hA.ars) fun μ2 hF => ?_
    have hq := Fq.ofFr hF (by decide) (by decide)
    exact h.ok (hq.ci hI) hq rfl
def sp_outermostRedex (A : AS) (v1 : Int) : Int × Int := g1 (aL A) (decide (0 ≤ v1 ∧ v1 < ((aT A).length : Int))) (px (aR A) false ((aT A).getD v1.toNat []))
theorem w_outermostRedex {μ : Mem} {A : AS} {Q : Int → Mem → Prop} {v1 : Int} (hI : CI μ A) (hA : AOK A) (h : WQ μ A (sp_outermostRedex A v1) Q) : d_Lw_outermostRedex v1 μ Q := by
  unfold d_Lw_outermostRedex d_OB_outermostRedex
  unfold sp_outermostRedex at h
  refine c_reqTerm hI (fun e => ?_) (fun e en => ?_) (fun e i hv hi => ?_)
  · rw [e] at h
    exact h.t1 hI Fq.rfl'
  · rw [e, decide_eq_false en] at h
    exact h.t2 hI Fq.rfl'
  · subst hv
    rw [e, decide_eq_true (by omega)] at h
    simp only [Int.toNat_natCast] at h
    have h6 := hA.t6
    have hT := hI.term hi
    have hok := hA.term hi
    have h80 := hok.2.1
    refine c_Rewriter_redex (inner := false) cells5 hI.2.2.1.2.1 hI.2.2.1.1 hA.wkrs hT (tc5 (by omega)) (okt_wkt hok hA.ars) fun μ2 hF => ?_
    have hq := Fq.ofFr hF (by decide) (by decide)
    exact h.ok (hq.ci hI) hq rfl
def sp_isNormalForm (A : AS) (v1 : Int) : Int × Int := g1 (aL A) (decide (0 ≤ v1 ∧ v1 < ((aT A).length : Int))) (b2i (decide (px (aR A) false ((aT A).getD v1.toNat []) = -1)))
theorem w_isNormalForm {μ : Mem} {A : AS} {Q : Int → Mem → Prop} {v1 : Int} (hI : CI μ A) (hA : AOK A) (h : WQ μ A (sp_isNormalForm A v1) Q) : d_Lw_isNormalForm v1 μ Q := by
  unfold d_Lw_isNormalForm d_OB_isNormalForm
  unfold sp_isNormalForm at h
  refine c_reqTerm hI (fun e => ?_) (fun e en => ?_) (fun e i hv hi => ?_)
  · rw [e] at h
    exact h.t1 hI Fq.rfl'
  · rw [e, decide_eq_false en] at h
    exact h.t2 hI Fq.rfl'
  · subst hv
    rw [e, decide_eq_true (by omega)] at h
    simp only [Int.toNat_natCast] at h
    have h6 := hA.t6
    have hT := hI.term hi
    have hok := hA.term hi
    have h80 := hok.2.1
    refine c_Rewriter_redex (inner := false) cells5 hI.2.2.1.2.1 hI.2.2.1.1 hA.wkrs hT (tc5 (by omega)) (okt_wkt hok hA.ars) fun μ2 hF => ?_
    have hq := Fq.ofFr hF (by decide) (by decide)
    by_cases q : px (aR A) false ((aT A).getD i []) = -1
    · rw [if_pos q]
      rw [decide_eq_true q] at h
      exact h.okB (b := true) (hq.ci hI) hq (fun _ q => And.intro (by decide) q)
    · rw [if_neg q]
      rw [decide_eq_false q] at h
      exact h.okB (b := false) (hq.ci hI) hq (fun _ q => And.intro (by decide) q)
def sp_stepsInnermost (A : AS) (v1 : Int) : Int × Int := g1 (aL A) (decide (0 ≤ v1 ∧ v1 < ((aT A).length : Int))) (rstep (rdc (aR A) true 200 ((aT A).getD v1.toNat [])))
theorem w_stepsInnermost {μ : Mem} {A : AS} {Q : Int → Mem → Prop} {v1 : Int} (hI : CI μ A) (hA : AOK A) (h : WQ μ A (sp_stepsInnermost A v1) Q) : d_Lw_stepsInnermost v1 μ Q := by
  unfold d_Lw_stepsInnermost d_OB_stepsInnermost
  unfold sp_stepsInnermost at h
  refine c_reqTerm hI (fun e => ?_) (fun e en => ?_) (fun e i hv hi => ?_)
  · rw [e] at h
    exact h.t1 hI Fq.rfl'
  · rw [e, decide_eq_false en] at h
    exact h.t2 hI Fq.rfl'
  · subst hv
    rw [e, decide_eq_true (by omega)] at h
    simp only [Int.toNat_natCast] at h
    have h6 := hA.t6
    have hT := hI.term hi
    have hok := hA.term hi
    have h80 := hok.2.1
    refine c_Rewriter_reduce (inner := true) (n := 200) cells5 hI.2.2.1.2.1 hI.2.2.1.1 hA.rules hA.ars hT (tc5 (by omega)) (by have := tc5r i (by omega); omega) hok (Nat.le_refl _) (fun μ2 k Y hY hXY hF => ?_) (fun μ2 hY hF => ?_)
    · have hq := Fq.ofFr hF.toFr (by decide) (by decide)
      rw [hY] at h
      exact h.ok (hq.ci hI) hq rfl
    · have hq := Fq.ofFr hF.toFr (by decide) (by decide)
      rw [hY] at h
      exact h.ok (hq.ci hI) hq rfl
def sp_stepsOutermost (A : AS) (v1 : Int) : Int × Int := g1 (aL A) (decide (0 ≤ v1 ∧ v1 < ((aT A).length : Int))) (rstep (rdc (aR A) false 200 ((aT A).getD v1.toNat [])))
theorem w_stepsOutermost {μ : Mem} {A : AS} {Q : Int → Mem → Prop} {v1 : Int} (hI : CI μ A) (hA : AOK A) (h : WQ μ A (sp_stepsOutermost A v1) Q) : d_Lw_stepsOutermost v1 μ Q := by
  unfold d_Lw_stepsOutermost d_OB_stepsOutermost
  unfold sp_stepsOutermost at h
  refine c_reqTerm hI (fun e => ?_) (fun e en => ?_) (fun e i hv hi => ?_)
  · rw [e] at h
    exact h.t1 hI Fq.rfl'
  · rw [e, decide_eq_false en] at h
    exact h.t2 hI Fq.rfl'
  · subst hv
    rw [e, decide_eq_true (by omega)] at h
    simp only [Int.toNat_natCast] at h
    have h6 := hA.t6
    have hT := hI.term hi
    have hok := hA.term hi
    have h80 := hok.2.1
    refine c_Rewriter_reduce (inner := false) (n := 200) cells5 hI.2.2.1.2.1 hI.2.2.1.1 hA.rules hA.ars hT (tc5 (by omega)) (by have := tc5r i (by omega); omega) hok (Nat.le_refl _) (fun μ2 k Y hY hXY hF => ?_) (fun μ2 hY hF => ?_)
    · have hq := Fq.ofFr hF.toFr (by decide) (by decide)
      rw [hY] at h
      exact h.ok (hq.ci hI) hq rfl
    · have hq := Fq.ofFr hF.toFr (by decide) (by decide)
      rw [hY] at h
      exact h.ok (hq.ci hI) hq rfl
def sp_normalFormSize (A : AS) (v1 : Int) : Int × Int := g1 (aL A) (decide (0 ≤ v1 ∧ v1 < ((aT A).length : Int))) (rsize (rdc (aR A) true 200 ((aT A).getD v1.toNat [])))
theorem w_normalFormSize {μ : Mem} {A : AS} {Q : Int → Mem → Prop} {v1 : Int} (hI : CI μ A) (hA : AOK A) (h : WQ μ A (sp_normalFormSize A v1) Q) : d_Lw_normalFormSize v1 μ Q := by
  unfold d_Lw_normalFormSize d_OB_normalFormSize
  unfold sp_normalFormSize at h
  refine c_reqTerm hI (fun e => ?_) (fun e en => ?_) (fun e i hv hi => ?_)
  · rw [e] at h
    exact h.t1 hI Fq.rfl'
  · rw [e, decide_eq_false en] at h
    exact h.t2 hI Fq.rfl'
  · subst hv
    rw [e, decide_eq_true (by omega)] at h
    simp only [Int.toNat_natCast] at h
    have h6 := hA.t6
    have hT := hI.term hi
    have hok := hA.term hi
    have h80 := hok.2.1
    refine c_Rewriter_reduce (inner := true) (n := 200) cells5 hI.2.2.1.2.1 hI.2.2.1.1 hA.rules hA.ars hT (tc5 (by omega)) (by have := tc5r i (by omega); omega) hok (Nat.le_refl _) (fun μ2 k Y hY hXY hF => ?_) (fun μ2 hY hF => ?_)
    · have hq := Fq.ofFr hF.toFr (by decide) (by decide)
      rw [hY] at h
      rw [if_neg (by omega), show μ2 60 1 = (Y.length : Int) from hXY.1]
      exact h.ok (hq.ci hI) hq rfl
    · have hq := Fq.ofFr hF.toFr (by decide) (by decide)
      rw [hY] at h
      rw [if_pos rfl]
      exact h.ok (hq.ci hI) hq rfl
def sp_areEqual (A : AS) (v1 v2 : Int) : Int × Int := g1 (aL A) (decide ((0 ≤ v1 ∧ v1 < ((aT A).length : Int)) ∧ 0 ≤ v2 ∧ v2 < ((aT A).length : Int))) (b2i (decide ((aT A).getD v1.toNat [] = (aT A).getD v2.toNat [])))
theorem w_areEqual {μ : Mem} {A : AS} {Q : Int → Mem → Prop} {v1 v2 : Int} (hI : CI μ A) (hA : AOK A) (h : WQ μ A (sp_areEqual A v1 v2) Q) : d_Lw_areEqual v1 v2 μ Q := by
  unfold d_Lw_areEqual d_OB_areEqual
  unfold sp_areEqual at h
  refine c_reqTerm hI (fun e => ?_) (fun e en => ?_) (fun e i hv hi => c_reqTerm hI (fun e => ?_) (fun e en => ?_) (fun e k hk hkl => ?_))
  · rw [e] at h
    exact h.t1 hI Fq.rfl'
  · rw [e, decide_eq_false (fun q => en q.1)] at h
    exact h.t2 hI Fq.rfl'
  · rw [e] at h
    exact h.t1 hI Fq.rfl'
  · rw [e, decide_eq_false (fun q => en q.2)] at h
    exact h.t2 hI Fq.rfl'
  · subst hv hk
    rw [e, decide_eq_true (by omega)] at h
    simp only [Int.toNat_natCast] at h
    exact c_Term_sameAs (hI.term hi) (hI.term hkl) (h.okB hI Fq.rfl' (fun _ q => And.intro (by decide) q))
def sp_haveSameNormalForm (A : AS) (v1 v2 : Int) : Int × Int := g1 (aL A) (decide ((0 ≤ v1 ∧ v1 < ((aT A).length : Int)) ∧ 0 ≤ v2 ∧ v2 < ((aT A).length : Int))) (b2i (mee (aR A) 200 ((aT A).getD v1.toNat []) ((aT A).getD v2.toNat [])))
noncomputable def sp_matches (A : AS) (v1 v2 v3 : Int) : Int × Int := g1 (aL A) (@decide ((0 ≤ v1 ∧ v1 < ((aR A).length : Int)) ∧ isN A v2 v3) (Classical.propDecidable _)) (b2i (mb ((aR A).getD v1.toNat ([], [])).1 ((aT A).getD v2.toNat []) v3.toNat).isSome)
theorem w_matches {μ : Mem} {A : AS} {Q : Int → Mem → Prop} {v1 v2 v3 : Int} (hI : CI μ A) (hA : AOK A) (h : WQ μ A (sp_matches A v1 v2 v3) Q) : d_Lw_matches v1 v2 v3 μ Q := by
  unfold d_Lw_matches d_OB_matches
  unfold sp_matches at h
  refine c_reqRule hI (fun e => ?_) (fun e en => ?_) (fun e n hn hnl => c_reqNode hI (fun e => ?_) (fun e en => ?_) (fun e i k hv hk hi hkl => ?_))
  · rw [e] at h
    exact h.t1 hI Fq.rfl'
  · rw [e, @decide_eq_false _ (Classical.propDecidable _) (fun q => en q.1)] at h
    exact h.t2 hI Fq.rfl'
  · rw [e] at h
    exact h.t1 hI Fq.rfl'
  · rw [e, @decide_eq_false _ (Classical.propDecidable _) (fun q => en q.2)] at h
    exact h.t2 hI Fq.rfl'
  · subst hn hv hk
    rw [e, @decide_eq_true _ (Classical.propDecidable _) (show _ ∧ isN A i k from ⟨by omega, by omega, by rw [Int.toNat_natCast]; omega⟩)] at h
    simp only [Int.toNat_natCast] at h
    have h6 := hA.t6
    have hr := hA.wkrs _ (getD_mem (d := ([], [])) hnl)
    refine c_Rewriter_match (w := 57) (by decide +kernel) (hI.ruleL hnl) (by have := rc_eq 5 n; have := hA.r6; omega) (hI.term hi) (tc5 (by omega)) hr.1 (hA.term hi).1 hr.2.2.1 (okt_wkt (hA.term hi) hA.ars).2 hr.2.2.2.2.1 hkl (fun μ2 b hb _ hF => ?_) (fun μ2 hb hF => ?_)
    · have hq := Fq.ofFr hF (by decide) (by decide)
      rw [hb] at h
      exact h.okB (b := true) (hq.ci hI) hq (fun _ q => And.intro (by decide) q)
    · have hq := Fq.ofFr hF (by decide) (by decide)
      rw [hb] at h
      exact h.okB (b := false) (hq.ci hI) hq (fun _ q => And.intro (by decide) q)
