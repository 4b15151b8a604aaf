/-! CALLS THAT ONLY LOOK: what their contracts share -/
def l64 (r : Int) : Int := ((Int32.ofInt r).toInt64).toInt
/-- thrown, answer: no system: 1; no such index: 2 -/
def g1 (ok idx : Bool) (r : Int) : Int × Int := if ok = false then (1, 0) else if idx = false then (2, 0) else (0, r)
def WQ (μ : Mem) (A : AS) (sp : Int × Int) (Q : Int → Mem → Prop) : Prop := ∀ μ', CI μ' A → FrC μ μ' → (sp.1 = 0 → μ' 795 0 = l64 sp.2) → Q sp.1 μ'
def MQI (μ : Mem) (A : AS) (sp : Int × Int) (Q : Int → Mem → Prop) : Prop := ∀ μ' b, MI μ' A → FrM μ μ' → μ' 772 0 = sp.1 → (sp.1 = 0 → b = sp.2) → Q b μ'
def MQB (μ : Mem) (A : AS) (sp : Int × Int) (Q : Bool → Mem → Prop) : Prop := ∀ μ' b, MI μ' A → FrM μ μ' → μ' 772 0 = sp.1 → (sp.1 = 0 → b2i b = sp.2) → Q b μ'
section L50
variable {μ μ1 : Mem} {A : AS} {Q : Int → Mem → Prop} {idx : Bool} {r z : Int}
theorem Fq.ofR {w : Nat} (h : Fr w (w + 8) μ μ1) (hw : w = 57) : Fq μ μ1 := fun b hb => h b (by omega)
theorem WQ.t1 (h : WQ μ A (g1 false idx r) Q) (hI : CI μ1 A) (hf : Fq μ μ1) : Q 1 (thr μ1) := h _ hI.thr hf.frCt (fun q => absurd (show (1 : Int) = 0 from q) (by decide))
theorem WQ.t2 (h : WQ μ A (g1 true false r) Q) (hI : CI μ1 A) (hf : Fq μ μ1) : Q 2 (thr μ1) := h _ hI.thr hf.frCt (fun q => absurd (show (2 : Int) = 0 from q) (by decide))
theorem FrC.o {a : Nat} (hf : Fq μ μ1) (ha : a = 795 ∨ a = 796) : FrC μ (mup μ1 a 0 z) :=
  ⟨fun b h1 h2 => by rw [mup_r (by omega)]; exact hf b (by omega), by rw [mup_r (by omega), hf 797 (by omega)]; omega, by rw [mup_r (by omega), hf 797 (by omega)]; omega⟩
theorem WQ.ok (h : WQ μ A (g1 true true r) Q) (hI : CI μ1 A) (hf : Fq μ μ1) (hz : z = l64 r) : Q 0 (mup μ1 795 0 z) :=
  h _ (hI.mup (by decide)) (FrC.o hf (Or.inl rfl)) (fun _ => by rw [mup_s]; exact hz)
theorem MQI.t1 (h : MQI μ A (g1 false idx r) Q) (hI : MI μ A) : Q z (mup μ 772 0 1) := h _ z (hI.gq (Gm.upF.mono (by decide) (by decide))) ((Gm.upF (k := 0)).frM (by decide)) mup_s (fun q => absurd (show (1 : Int) = 0 from q) (by decide))
theorem MQI.t2 (h : MQI μ A (g1 true false r) Q) (hI : MI μ A) : Q z (mup μ 772 0 2) := h _ z (hI.gq (Gm.upF.mono (by decide) (by decide))) ((Gm.upF (k := 0)).frM (by decide)) mup_s (fun q => absurd (show (2 : Int) = 0 from q) (by decide))
/-- the reference's looking calls after the thrown flag: the flag stays -/
abbrev qF0 : List Nat := [25, 26, 27, 35, 36, 41, 42]
theorem MQI.ok (h : MQI μ A (g1 true true r) Q) (hI : MI μ A) (hg : Gm qmR qF0 (mup μ 772 0 0) μ1) (hz : z = r) : Q z μ1 := by
  have hG : Gm qmR qmF μ μ1 := (Gm.upF (k := 0)).tr hg (by decide) (by decide) (by decide) (by decide)
  exact h _ z (hI.gq hG) hG.frMq (by rw [hg.2 0 (by decide), mup_s]; rfl) (fun _ => hz)
theorem MQB.t1 {Q : Bool → Mem → Prop} {z : Bool} (h : MQB μ A (g1 false idx r) Q) (hI : MI μ A) : Q z (mup μ 772 0 1) := h _ z (hI.gq (Gm.upF.mono (by decide) (by decide))) ((Gm.upF (k := 0)).frM (by decide)) mup_s (fun q => absurd (show (1 : Int) = 0 from q) (by decide))
theorem MQB.t2 {Q : Bool → Mem → Prop} {z : Bool} (h : MQB μ A (g1 true false r) Q) (hI : MI μ A) : Q z (mup μ 772 0 2) := h _ z (hI.gq (Gm.upF.mono (by decide) (by decide))) ((Gm.upF (k := 0)).frM (by decide)) mup_s (fun q => absurd (show (2 : Int) = 0 from q) (by decide))
theorem MQB.ok {Q : Bool → Mem → Prop} {z : Bool} (h : MQB μ A (g1 true true r) Q) (hI : MI μ A) (hg : Gm qmR qF0 (mup μ 772 0 0) μ1) (hz : b2i z = r) : Q z μ1 := by
  have hG : Gm qmR qmF μ μ1 := (Gm.upF (k := 0)).tr hg (by decide) (by decide) (by decide) (by decide)
  exact h _ z (hI.gq hG) hG.frMq (by rw [hg.2 0 (by decide), mup_s]; rfl) (fun _ => hz)
end L50
/-! the class: what must be there -/
section R50
variable {μ : Mem} {A : AS} {v : Int}
theorem b2i_0 {b : Bool} : b2i b = 0 ↔ b = false := by cases b <;> decide
theorem c_reqSys {Q : Mem → Prop} {X : Nat → Mem → Prop} (hI : CI μ A) (h0 : aL A = false → X 0 (thr μ)) (h1 : aL A = true → Q μ) : d_OB_requireSystem μ Q X := by
  unfold d_OB_requireSystem
  rw [hI.1]
  cases h : aL A with
  | false => rw [if_pos (by decide)]; exact h0 h
  | true => rw [if_neg (by decide)]; exact h1 h
theorem c_reqIdx {n : Nat} {Q : Mem → Prop} {X : Nat → Mem → Prop} (h0 : ¬ (0 ≤ v ∧ v < (n : Int)) → X 1 (thr μ)) (h1 : ∀ i : Nat, v = i → i < n → Q μ) : d_OB_requireIndex v (n : Int) μ Q X := by
  unfold d_OB_requireIndex d_OB_requireIndex_j9
  by_cases k1 : v < 0
  · rw [if_pos k1]; exact h0 (by omega)
  · rw [if_neg k1]
    by_cases k2 : v < (n : Int)
    · rw [if_pos k2]; exact h1 v.toNat (by omega) (by omega)
    · rw [if_neg k2]; exact h0 (by omega)
theorem c_reqRule {Q : Nat → Mem → Prop} {X : Nat → Mem → Prop} (hI : CI μ A) (h0 : aL A = false → X 0 (thr μ)) (h1 : aL A = true → ¬ (0 ≤ v ∧ v < ((aR A).length : Int)) → X 1 (thr μ)) (h2 : aL A = true → ∀ i : Nat, v = i → i < (aR A).length → Q (rc 5 i) μ) : d_OB_requireRule v μ Q X := by
  unfold d_OB_requireRule
  have hR := hI.2.2.1.2.1
  refine c_reqSys hI h0 fun hl => ?_
  rw [hR.1]
  refine c_reqIdx (h1 hl) fun i hv hi => ?_
  subst hv
  have := hR.2.1
  exact c_State_rule (by omega) (h2 hl i rfl hi)
theorem c_reqTerm {Q : Nat → Mem → Prop} {X : Nat → Mem → Prop} (hI : CI μ A) (h0 : aL A = false → X 0 (thr μ)) (h1 : aL A = true → ¬ (0 ≤ v ∧ v < ((aT A).length : Int)) → X 1 (thr μ)) (h2 : aL A = true → ∀ i : Nat, v = i → i < (aT A).length → Q (tc 5 i) μ) : d_OB_requireTerm v μ Q X := by
  unfold d_OB_requireTerm
  have hT := hI.2.2.1.2.2
  refine c_reqSys hI h0 fun hl => ?_
  rw [hT.1]
  refine c_reqIdx (h1 hl) fun i hv hi => ?_
  subst hv
  have := hT.2.1
  exact c_State_term (by omega) (h2 hl i rfl hi)
/-- is there such a place in such a term -/
def isN (A : AS) (t p : Int) : Prop := (0 ≤ t ∧ t < ((aT A).length : Int)) ∧ 0 ≤ p ∧ p < (((aT A).getD t.toNat []).length : Int)
theorem c_reqNode {p : Int} {Q : Nat → Mem → Prop} {X : Nat → Mem → Prop} (hI : CI μ A) (h0 : aL A = false → X 0 (thr μ)) (h1 : aL A = true → ¬ isN A v p → X 1 (thr μ)) (h2 : aL A = true → ∀ i k : Nat, v = i → p = k → i < (aT A).length → k < ((aT A).getD i []).length → Q (tc 5 i) μ) : d_OB_requireNode v p μ Q X := by
  unfold d_OB_requireNode
  refine c_reqTerm hI h0 (fun hl hn => h1 hl fun q => hn q.1) fun hl i hv hi => ?_
  have hT := (hI.2.2.1.2.2.2.2 i hi).1
  subst hv
  rw [hT]
  exact c_reqIdx (fun hn => h1 hl fun q => hn (by have := q.2; rw [Int.toNat_natCast] at this; exact this)) fun k hk hkl => h2 hl i k rfl hk hi hkl
theorem CI.ruleL (hI : CI μ A) {i : Nat} (hi : i < (aR A).length) : IsT μ (dp (μ (rc 5 i) 0)) ((aR A).getD i ([], [])).1 := (hI.2.2.1.2.1.2.2 i hi).1
theorem CI.ruleR (hI : CI μ A) {i : Nat} (hi : i < (aR A).length) : IsT μ (dp (μ (rc 5 i) 1)) ((aR A).getD i ([], [])).2 := (hI.2.2.1.2.1.2.2 i hi).2
theorem CI.term (hI : CI μ A) {i : Nat} (hi : i < (aT A).length) : IsT μ (tc 5 i) ((aT A).getD i []) := hI.2.2.1.2.2.2.2 i hi
theorem AOK.rule (hA : AOK A) {i : Nat} (hi : i < (aR A).length) : okr (arS (aS A)) ((aR A).getD i ([], [])) := hA.2.1.2.2.1 _ (getD_mem hi)
theorem AOK.rules (hA : AOK A) : ∀ r, r ∈ aR A → okr (arS (aS A)) r := hA.2.1.2.2.1
theorem AOK.term (hA : AOK A) {i : Nat} (hi : i < (aT A).length) : okt (arS (aS A)) 8 80 ((aT A).getD i []) := hA.2.1.2.2.2 _ (getD_mem hi)
theorem AOK.ars (hA : AOK A) : (arS (aS A)).length ≤ 8 := by
  unfold arS
  rw [List.length_map]
  exact hA.1.1
theorem AOK.r6 (hA : AOK A) : (aR A).length ≤ 6 := hA.2.1.1
theorem AOK.t6 (hA : AOK A) : (aT A).length ≤ 6 := hA.2.1.2.1
theorem cells5 : rcells 57 5 := ⟨by decide +kernel, by decide +kernel, by omega⟩
theorem tc5 {i : Nat} (hi : i < 6) : rt (tc 5 i) = 8 := (tc_rt rt_st.1 hi).1
theorem tc5r (i : Nat) (hi : i < 6) : 45 ≤ tc 5 i ∧ tc 5 i + 2 ≤ 57 := by
  have := tc_eq 5 i
  omega
end R50
/-! the reference: what must be there -/
section M50
variable {μ : Mem} {A : AS} {v : Int}
theorem c_mIn {lo hi : Int} {Q : Bool → Prop} (h : Q (decide (lo ≤ v ∧ v ≤ hi))) : d_Md_in v lo hi μ Q := by
  unfold d_Md_in
  by_cases k1 : v < lo
  · rw [if_pos k1]; rw [decide_eq_false (by omega)] at h; exact h
  · rw [if_neg k1]
    by_cases k2 : hi < v
    · rw [if_pos k2]; rw [decide_eq_false (by omega)] at h; exact h
    · rw [if_neg k2]; rw [decide_eq_true (by omega)] at h; exact h
theorem c_may {b1 b2 b3 : Bool} {Q : Bool → Mem → Prop} (h1 : b1 = false → Q false (mup μ 772 0 1)) (h2 : b1 = true → b2 = false → Q false (mup μ 772 0 2)) (h3 : b1 = true → b2 = true → b3 = false → Q false (mup μ 772 0 3)) (h4 : b1 = true → b2 = true → b3 = true → Q true (mup μ 772 0 0)) : d_Md_may (b2i b1) (b2i b2) (b2i b3) μ Q := by
  unfold d_Md_may
  unfold d_Md_may_j26
  simp only [mup_s]
  cases b1 with
  | false => rw [if_pos (by decide), if_neg (by decide)]; exact h1 rfl
  | true =>
    rw [if_neg (by decide)]
    cases b2 with
    | false => rw [if_pos (by decide), if_neg (by decide)]; exact h2 rfl rfl
    | true =>
      rw [if_neg (by decide)]
      cases b3 with
      | false => rw [if_pos (by decide), if_neg (by decide)]; exact h3 rfl rfl rfl
      | true => rw [if_neg (by decide), if_pos trivial]; exact h4 rfl rfl rfl
theorem c_mayTwo {b1 b2 : Bool} {Q : Bool → Mem → Prop} (h1 : b1 = false → Q false (mup μ 772 0 1)) (h2 : b1 = true → b2 = false → Q false (mup μ 772 0 2)) (h4 : b1 = true → b2 = true → Q true (mup μ 772 0 0)) : d_Md_mayTwo (b2i b1) (b2i b2) μ Q := by
  unfold d_Md_mayTwo
  exact c_may (b3 := true) h1 h2 (fun _ _ q => by cases q) (fun a b _ => h4 a b)
theorem c_mayLook {Q : Bool → Mem → Prop} (hI : MI μ A) (h1 : aL A = false → Q false (mup μ 772 0 1)) (h4 : aL A = true → Q true (mup μ 772 0 0)) : d_Md_mayLook μ Q := by
  unfold d_Md_mayLook
  rw [hI.1]
  exact c_may (b2 := true) (b3 := true) h1 (fun _ q => by cases q) (fun _ _ q => by cases q) (fun a _ _ => h4 a)
theorem inr_iff {n : Nat} (hn : n ≤ 8) : (0 ≤ v ∧ v ≤ wr ((n : Int) - 1)) ↔ (0 ≤ v ∧ v < (n : Int)) := by
  rw [wr_id (by omega) (by omega)]
  omega
theorem c_isRule {Q : Bool → Prop} (hI : MI μ A) (hA : AOK A) (h : Q (aL A && decide (0 ≤ v ∧ v < ((aR A).length : Int)))) : d_Md_isRule v μ Q := by
  unfold d_Md_isRule
  have h6 := hA.r6
  rw [hI.1]
  cases hl : aL A with
  | false => rw [hl] at h; rw [if_pos (by decide)]; exact h
  | true =>
    rw [hl, Bool.true_and] at h
    rw [if_neg (by decide), show μ 773 1 = ((aR A).length : Int) from hI.2.1.2.1]
    refine c_mIn ?_
    have e := inr_iff (v := v) (n := (aR A).length) (by omega)
    simp only [e]
    by_cases q : 0 ≤ v ∧ v < ((aR A).length : Int)
    · rw [decide_eq_true q] at h ⊢; exact h
    · rw [decide_eq_false q] at h ⊢; exact h
theorem c_isTerm {Q : Bool → Prop} (hI : MI μ A) (hA : AOK A) (h : Q (aL A && decide (0 ≤ v ∧ v < ((aT A).length : Int)))) : d_Md_isTerm v μ Q := by
  unfold d_Md_isTerm
  have h6 := hA.t6
  rw [hI.1]
  cases hl : aL A with
  | false => rw [hl] at h; rw [if_pos (by decide)]; exact h
  | true =>
    rw [hl, Bool.true_and] at h
    rw [if_neg (by decide), show μ 773 2 = ((aT A).length : Int) from hI.2.1.2.2.1]
    refine c_mIn ?_
    have e := inr_iff (v := v) (n := (aT A).length) (by omega)
    simp only [e]
    by_cases q : 0 ≤ v ∧ v < ((aT A).length : Int)
    · rw [decide_eq_true q] at h ⊢; exact h
    · rw [decide_eq_false q] at h ⊢; exact h
theorem c_isSymbol {Q : Bool → Prop} (hI : MI μ A) (hA : AOK A) (h : Q (aL A && decide (0 ≤ v ∧ v < ((aS A).length : Int)))) : d_Md_isSymbol v μ Q := by
  unfold d_Md_isSymbol
  have h6 := hA.1.1
  rw [hI.1]
  cases hl : aL A with
  | false => rw [hl] at h; rw [if_pos (by decide)]; exact h
  | true =>
    rw [hl, Bool.true_and] at h
    rw [if_neg (by decide), show μ 773 0 = ((aS A).length : Int) from hI.2.1.1]
    refine c_mIn ?_
    have e := inr_iff (v := v) (n := (aS A).length) (by omega)
    simp only [e]
    by_cases q : 0 ≤ v ∧ v < ((aS A).length : Int)
    · rw [decide_eq_true q] at h ⊢; exact h
    · rw [decide_eq_false q] at h ⊢; exact h
theorem MI.size (hI : MI μ A) {i : Nat} (hi : i < (aT A).length) : μ 773 (223 + 81 * i) = (((aT A).getD i []).length : Int) := by
  have := (hI.2.1.2.2.2.2.2 i hi).1
  rw [Nat.zero_add] at this
  exact this
theorem c_isPosition {p : Int} {Q : Bool → Prop} (hI : MI μ A) (hA : AOK A) (h1 : ¬ (aL A = true ∧ isN A v p) → Q false) (h2 : aL A = true ∧ isN A v p → Q true) : d_Md_isPosition v p μ Q := by
  unfold d_Md_isPosition
  have h6 := hA.t6
  refine c_isTerm hI hA ?_
  cases hl : aL A with
  | false => exact h1 fun q => by rw [hl] at q; cases q.1
  | true =>
    rw [Bool.true_and]
    by_cases q : 0 ≤ v ∧ v < ((aT A).length : Int)
    · rw [decide_eq_true q, if_pos rfl]
      have ev : v = ((v.toNat : Nat) : Int) := by omega
      rw [ev]
      have hi : v.toNat < (aT A).length := by omega
      have h80 := (hA.term hi).2.1
      refine c_sizeOf (by omega) ?_
      rw [hI.size hi]
      refine c_mIn ?_
      have e : (0 ≤ p ∧ p ≤ wr ((((aT A).getD v.toNat []).length : Int) - 1)) ↔ (0 ≤ p ∧ p < (((aT A).getD v.toNat []).length : Int)) := by
        rw [wr_id (by omega) (by omega)]
        omega
      simp only [e]
      by_cases q2 : 0 ≤ p ∧ p < (((aT A).getD v.toNat []).length : Int)
      · rw [decide_eq_true q2, if_pos rfl]
        exact h2 ⟨hl, q, q2⟩
      · rw [decide_eq_false q2, if_neg Bool.false_ne_true]
        exact h1 fun g => q2 g.2.2
    · rw [decide_eq_false q, if_neg Bool.false_ne_true]
      exact h1 fun g => q g.2.1
theorem c_mayRule {Q : Bool → Mem → Prop} (hI : MI μ A) (hA : AOK A) (h0 : aL A = false → Q false (mup μ 772 0 1)) (h1 : aL A = true → ¬ (0 ≤ v ∧ v < ((aR A).length : Int)) → Q false (mup μ 772 0 2)) (h2 : aL A = true → ∀ i : Nat, v = i → i < (aR A).length → Q true (mup μ 772 0 0)) : d_Md_mayRule v μ Q := by
  unfold d_Md_mayRule
  refine c_isRule hI hA ?_
  rw [hI.1]
  refine c_mayTwo h0 (fun hl q => h1 hl ?_) (fun hl q => ?_)
  · rw [hl, Bool.true_and] at q; exact of_decide_eq_false q
  · rw [hl, Bool.true_and] at q
    have := of_decide_eq_true q
    exact h2 hl v.toNat (by omega) (by omega)
theorem c_mayTerm {Q : Bool → Mem → Prop} (hI : MI μ A) (hA : AOK A) (h0 : aL A = false → Q false (mup μ 772 0 1)) (h1 : aL A = true → ¬ (0 ≤ v ∧ v < ((aT A).length : Int)) → Q false (mup μ 772 0 2)) (h2 : aL A = true → ∀ i : Nat, v = i → i < (aT A).length → Q true (mup μ 772 0 0)) : d_Md_mayTerm v μ Q := by
  unfold d_Md_mayTerm
  refine c_isTerm hI hA ?_
  rw [hI.1]
  refine c_mayTwo h0 (fun hl q => h1 hl ?_) (fun hl q => ?_)
  · rw [hl, Bool.true_and] at q; exact of_decide_eq_false q
  · rw [hl, Bool.true_and] at q
    have := of_decide_eq_true q
    exact h2 hl v.toNat (by omega) (by omega)
theorem c_maySymbol {Q : Bool → Mem → Prop} (hI : MI μ A) (hA : AOK A) (h0 : aL A = false → Q false (mup μ 772 0 1)) (h1 : aL A = true → ¬ (0 ≤ v ∧ v < ((aS A).length : Int)) → Q false (mup μ 772 0 2)) (h2 : aL A = true → ∀ i : Nat, v = i → i < (aS A).length → Q true (mup μ 772 0 0)) : d_Md_maySymbol v μ Q := by
  unfold d_Md_maySymbol
  refine c_isSymbol hI hA ?_
  rw [hI.1]
  refine c_mayTwo h0 (fun hl q => h1 hl ?_) (fun hl q => ?_)
  · rw [hl, Bool.true_and] at q; exact of_decide_eq_false q
  · rw [hl, Bool.true_and] at q
    have := of_decide_eq_true q
    exact h2 hl v.toNat (by omega) (by omega)
theorem c_mayPosition {p : Int} {Q : Bool → Mem → Prop} (hI : MI μ A) (hA : AOK A) (h0 : aL A = false → Q false (mup μ 772 0 1)) (h1 : aL A = true → ¬ isN A v p → Q false (mup μ 772 0 2)) (h2 : aL A = true → ∀ i k : Nat, v = i → p = k → i < (aT A).length → k < ((aT A).getD i []).length → Q true (mup μ 772 0 0)) : d_Md_mayPosition v p μ Q := by
  unfold d_Md_mayPosition
  refine c_isPosition hI hA (fun hn => ?_) (fun hn => ?_)
  · rw [hI.1]
    refine c_mayTwo (b2 := false) h0 (fun hl _ => h1 hl fun q => hn ⟨hl, q⟩) (fun _ q => by cases q)
  · rw [hI.1]
    refine c_mayTwo (b2 := true) h0 (fun hl q => by cases q) (fun hl _ => ?_)
    obtain ⟨_, q1, q2⟩ := hn
    exact h2 hl v.toNat p.toNat (by omega) (by omega) (by omega) (by omega)
theorem c_mayTerms {w : Int} {Q : Bool → Mem → Prop} (hI : MI μ A) (hA : AOK A) (h0 : aL A = false → Q false (mup μ 772 0 1)) (h1 : aL A = true → ¬ ((0 ≤ v ∧ v < ((aT A).length : Int)) ∧ 0 ≤ w ∧ w < ((aT A).length : Int)) → Q false (mup μ 772 0 2)) (h2 : aL A = true → ∀ i k : Nat, v = i → w = k → i < (aT A).length → k < (aT A).length → Q true (mup μ 772 0 0)) : d_Md_mayTerms v w μ Q := by
  unfold d_Md_mayTerms
  unfold d_Md_mayTerms_j25 d_Md_mayTerms_j26
  refine c_isTerm hI hA ?_
  cases hl : aL A with
  | false =>
    rw [Bool.false_and, if_neg Bool.false_ne_true, hI.1, hl]
    exact c_mayTwo (b1 := false) (b2 := false) (fun _ => h0 hl) (fun q => by cases q) (fun q => by cases q)
  | true =>
    rw [Bool.true_and]
    by_cases q : 0 ≤ v ∧ v < ((aT A).length : Int)
    · rw [decide_eq_true q, if_pos rfl]
      refine c_isTerm hI hA ?_
      rw [hl, Bool.true_and, hI.1, hl]
      by_cases q2 : 0 ≤ w ∧ w < ((aT A).length : Int)
      · rw [decide_eq_true q2, if_pos rfl]
        exact c_mayTwo (b1 := true) (b2 := true) (fun g => by cases g) (fun _ g => by cases g) (fun _ _ => h2 hl v.toNat w.toNat (by omega) (by omega) (by omega) (by omega))
      · rw [decide_eq_false q2, if_neg Bool.false_ne_true]
        exact c_mayTwo (b1 := true) (b2 := false) (fun g => by cases g) (fun _ _ => h1 hl fun g => q2 g.2) (fun _ g => by cases g)
    · rw [decide_eq_false q, if_neg Bool.false_ne_true, hI.1, hl]
      exact c_mayTwo (b1 := true) (b2 := false) (fun g => by cases g) (fun _ _ => h1 hl fun g => q g.1) (fun _ g => by cases g)
theorem MI.AR (hI : MI μ A) (hA : AOK A) : AR μ (arS (aS A)) := by
  refine ⟨hA.ars, fun i hi => ?_⟩
  have hi' : i < (aS A).length := by unfold arS at hi; rw [List.length_map] at hi; exact hi
  have e : (arS (aS A)).getD i 0 = ((aS A).getD i (0, [])).1 := by
    unfold arS
    exact getD_map hi'
  have := (hI.2.1.2.2.2.1 i hi').1
  rw [Nat.zero_add] at this
  rw [e]
  exact ⟨this, (hA.1.2 _ (getD_mem hi')).1⟩
theorem MI.rules (hI : MI μ A) (hA : AOK A) : MRs μ (aR A) := by
  refine ⟨hI.2.1.2.1, hA.r6, fun i hi => ?_⟩
  obtain ⟨h1, h2, h3, h4⟩ := hI.2.1.2.2.2.2.1 i hi
  have ho := hA.rule hi
  rw [Nat.zero_add] at h1 h2 h3 h4
  have := hA.r6
  exact ⟨by omega, ho.1.2.1, ho.2.1.2.1, h1, by rw [show 67 + 26 * i + 1 = 68 + 26 * i by omega]; exact h2, by rw [show 67 + 26 * i + 2 = 69 + 26 * i by omega]; exact h3, by rw [show 67 + 26 * i + 14 = 81 + 26 * i by omega]; exact h4⟩
theorem MI.term (hI : MI μ A) {i : Nat} (hi : i < (aT A).length) : Me (μ 773) (224 + 81 * i) ((aT A).getD i []) := by
  have := (hI.2.1.2.2.2.2.2 i hi).2
  rw [Nat.zero_add] at this
  exact this
theorem c_lends {i : Nat} {Q : Mem → Prop} {T : List Int} (hi : i < 6) (h80 : T.length ≤ 80) (h1 : μ 773 (223 + 81 * i) = (T.length : Int)) (h2 : Me (μ 773) (224 + 81 * i) T) (h : ∀ μ', WK μ' T → Gm [780] [25] μ μ' → Q μ') : d_Md_lends (i : Int) μ Q := by
  unfold d_Md_lends
  refine c_sizeOf hi ?_
  rw [h1, mup_s]
  simp (disch := omega) only [wr_id]
  refine c_lays (224 + 81 * i) 0 T.length (by omega) rfl rfl (by rw [ln773]; omega) (by rw [ln780]; omega) (Or.inl (by decide)) (fun μ1 g1 g2 g3 => ?_)
  have hG : Gm [780] [25] μ μ1 := (Gm.upF (k := 25)).tr ⟨fun b k1 k2 => g3 b (by simpa using k2), fun j _ => by rw [g3 772 (by decide)]⟩ (r2 := [780]) (f2 := []) (by decide) (by decide) (by decide) (by decide)
  refine h _ ⟨by rw [g3 772 (by decide), mup_s], h80, fun i hi => ?_⟩ hG
  rw [List.length_map] at hi
  rw [g1 i hi, mup_r (by decide)]
  exact h2 i (by rw [List.length_map]; exact hi)
theorem c_lendsI {i : Nat} {Q : Mem → Prop} (hI : MI μ A) (hA : AOK A) (hi : i < (aT A).length) (h : ∀ μ', WK μ' ((aT A).getD i []) → Gm [780] [25] μ μ' → Q μ') : d_Md_lends (i : Int) μ Q := by
  have := hA.t6
  exact c_lends (by omega) (hA.term hi).2.1 (hI.size hi) (hI.term hi) h
theorem MI.f0 {k : Nat} {z : Int} (hI : MI μ A) (hk : k ∈ qmF) : MI (mup μ 772 k z) A := hI.gq ⟨fun b g _ => mup_r g, fun j g => mup_k (fun e => g (by rw [e]; exact hk))⟩
end M50
