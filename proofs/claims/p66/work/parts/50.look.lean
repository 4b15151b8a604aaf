/-! CALLS THAT ONLY LOOK: what their contracts share -/
/-- thrown, answer: no system: 1; no such index: 2 -/
def g1 (ok idx : Bool) (r : Int) : Int × Int := if ok = false then (1, 0) else if idx = false then (2, 0) else (0, r)
def WQ (μ : Mem) (A : AS) (sp : Int × Int) (Q : Int → Mem → Prop) : Prop := ∀ μ', CI μ' A → FrC μ μ' → (sp.1 = 0 → μ' 795 0 = l64 sp.2 ∧ μ' 797 0 = μ 797 0) → Q sp.1 μ'
def MQI (μ : Mem) (A : AS) (sp : Int × Int) (Q : Int → Mem → Prop) : Prop := ∀ μ' b, MI μ' A → FrM μ μ' → μ' 772 0 = sp.1 → (sp.1 = 0 → b = sp.2) → Q b μ'
def MQB (μ : Mem) (A : AS) (sp : Int × Int) (Q : Bool → Mem → Prop) : Prop := ∀ μ' b, MI μ' A → FrM μ μ' → μ' 772 0 = sp.1 → (sp.1 = 0 → b2i b = sp.2) → Q b μ'
section L50
variable {μ μ1 : Mem} {A : AS} {Q : Int → Mem → Prop} {idx : Bool} {r z : Int}
theorem WQ.t1 (h : WQ μ A (g1 false idx r) Q) (hI : CI μ1 A) (hf : Fq μ μ1) : Q 1 (thr μ1) := h _ hI.thr hf.frCt (fun q => absurd (show (1 : Int) = 0 from q) (by decide))
theorem WQ.t2 (h : WQ μ A (g1 true false r) Q) (hI : CI μ1 A) (hf : Fq μ μ1) : Q 2 (thr μ1) := h _ hI.thr hf.frCt (fun q => absurd (show (2 : Int) = 0 from q) (by decide))
theorem FrC.o {a : Nat} (hf : Fq μ μ1) (ha : a = 795 ∨ a = 796) : FrC μ (mup μ1 a 0 z) :=
  ⟨fun b h1 h2 => by rw [mup_r (by omega)]; exact hf b (by omega), by rw [mup_r (by omega), hf 797 (by omega)]; omega, by rw [mup_r (by omega), hf 797 (by omega)]; omega⟩
theorem WQ.ok (h : WQ μ A (g1 true true r) Q) (hI : CI μ1 A) (hf : Fq μ μ1) (hz : z = l64 r) : Q 0 (mup μ1 795 0 z) :=
  h _ (hI.mup (by decide)) (FrC.o hf (Or.inl rfl)) (fun _ => ⟨by rw [mup_s]; exact hz, by rw [mup_r (by omega), hf 797 (by omega)]⟩)
theorem MQI.t1 (h : MQI μ A (g1 false idx r) Q) (hI : MI μ A) : Q z (mup μ 772 0 1) := h _ z (hI.gq (Gm.upF.mono (by decide) (by decide))) ((Gm.upF (k := 0)).frM (by decide)) mup_s (fun q => absurd (show (1 : Int) = 0 from q) (by decide))
theorem MQI.t2 (h : MQI μ A (g1 true false r) Q) (hI : MI μ A) : Q z (mup μ 772 0 2) := h _ z (hI.gq (Gm.upF.mono (by decide) (by decide))) ((Gm.upF (k := 0)).frM (by decide)) mup_s (fun q => absurd (show (2 : Int) = 0 from q) (by decide))
/-- the reference's looking calls after the thrown flag: the flag stays -/
abbrev qF0 : List Nat := [25, 26, 27, 35, 36, 41, 42]
theorem MQI.ok (h : MQI μ A (g1 true true r) Q) (hI : MI μ A) (hg : Gm qmR qF0 (mup μ 772 0 0) μ1) (hz : z = r) : Q z μ1 := by
  have hG : Gm qmR qmF μ μ1 := (Gm.upF (k := 0)).tr hg (by decide) (by decide) (by decide) (by decide)
  exact h _ z (hI.gq hG) hG.frMq (by rw [hg.2 0 (by decide), mup_s]; rfl) (fun _ => hz)
theorem MQB.t1 {Q : Bool → Mem → Prop} {z : Bool} (h : MQB μ A (g1 false idx r) Q) (hI : MI μ A) : Q z (mup μ 772 0 1) := h _ z (hI.gq (Gm.upF.mono (by decide) (by decide))) ((Gm.upF (k := 0)).frM (by decide)) mup_s (fun q => absurd (show (1 : Int) = 0 from q) (by decide))
theorem MQB.t2 {Q : Bool → Mem → Prop} {z : Bool} (h : MQB μ A (g1 true false r) Q) (hI : MI μ A) : Q z (mup μ 772 0 2) := h _ z (hI.gq (Gm.upF.mono (by decide) (by decide))) ((Gm.upF (k := 0)).frM (by decide)) mup_s (fun q => absurd (show (2 : Int) = 0 from q) (by decide))
theorem MQB.ok {Q : Bool → Mem → Prop} {z : Bool} (h : MQB μ A (g1 true true r) Q) (hI : MI μ A) (hg : Gm qmR qF0 (mup μ 772 0 0) μ1) (hz : b2i z = r) : Q z μ1 := by
  have hG : Gm qmR qmF μ μ1 := (Gm.upF (k := 0)).tr hg (by decide) (by decide) (by decide) (by decide)
  exact h _ z (hI.gq hG) hG.frMq (by rw [hg.2 0 (by decide), mup_s]; rfl) (fun _ => hz)
end L50
/-! the class: what must be there -/
section R50
variable {μ : Mem} {A : AS} {v : Int}
theorem c_reqSys {Q : Mem → Prop} {X : Nat → Mem → Prop} (hI : CI μ A) (h0 : aL A = false → X 0 (thr μ)) (h1 : aL A = true → Q μ) : d_OB_requireSystem μ Q X := by
  unfold d_OB_requireSystem
  rw [hI.1]
  cases h : aL A with
  | false => rw [if_pos (by decide)]; exact h0 h
  | true => rw [if_neg (by decide)]; exact h1 h
theorem c_reqIdx {n : Nat} {Q : Mem → Prop} {X : Nat → Mem → Prop} (h0 : ¬ (0 ≤ v ∧ v < (n : Int)) → X 1 (thr μ)) (h1 : ∀ i : Nat, v = i → i < n → Q μ) : d_OB_requireIndex v (n : Int) μ Q X := by
  unfold d_OB_requireIndex d_OB_requireIndex_j9
  by_cases k1 : v < 0
  · rw [if_pos k1]; exact h0 (by omega)
  · rw [if_neg k1]
    by_cases k2 : v < (n : Int)
    · rw [if_pos k2]; exact h1 v.toNat (by omega) (by omega)
    · rw [if_neg k2]; exact h0 (by omega)
theorem c_reqRule {Q : Nat → Mem → Prop} {X : Nat → Mem → Prop} (hI : CI μ A) (h0 : aL A = false → X 0 (thr μ)) (h1 : aL A = true → ¬ (0 ≤ v ∧ v < ((aR A).length : Int)) → X 1 (thr μ)) (h2 : aL A = true → ∀ i : Nat, v = i → i < (aR A).length → Q (rc 5 i) μ) : d_OB_requireRule v μ Q X := by
  unfold d_OB_requireRule
  have hR := hI.2.2.1.2.1
  refine c_reqSys hI h0 fun hl => ?_
  rw [hR.1]
  refine c_reqIdx (h1 hl) fun i hv hi => ?_
  subst hv
  have := hR.2.1
  exact c_State_rule (by omega) (h2 hl i rfl hi)
theorem c_reqTerm {Q : Nat → Mem → Prop} {X : Nat → Mem → Prop} (hI : CI μ A) (h0 : aL A = false → X 0 (thr μ)) (h1 : aL A = true → ¬ (0 ≤ v ∧ v < ((aT A).length : Int)) → X 1 (thr μ)) (h2 : aL A = true → ∀ i : Nat, v = i → i < (aT A).length → Q (tc 5 i) μ) : d_OB_requireTerm v μ Q X := by
  unfold d_OB_requireTerm
  have hT := hI.2.2.1.2.2
  refine c_reqSys hI h0 fun hl => ?_
  rw [hT.1]
  refine c_reqIdx (h1 hl) fun i hv hi => ?_
  subst hv
  have := hT.2.1
  exact c_State_term (by omega) (h2 hl i rfl hi)
/-- is there such a place in such a term -/
def isN (A : AS) (t p : Int) : Prop := (0 ≤ t ∧ t < ((aT A).length : Int)) ∧ 0 ≤ p ∧ p < (((aT A).getD t.toNat []).length : Int)
theorem c_reqNode {p : Int} {Q : Nat → Mem → Prop} {X : Nat → Mem → Prop} (hI : CI μ A) (h0 : aL A = false → X 0 (thr μ)) (h1 : aL A = true → ¬ isN A v p → X 1 (thr μ)) (h2 : aL A = true → ∀ i k : Nat, v = i → p = k → i < (aT A).length → k < ((aT A).getD i []).length → Q (tc 5 i) μ) : d_OB_requireNode v p μ Q X := by
  unfold d_OB_requireNode
  refine c_reqTerm hI h0 (fun hl hn => h1 hl fun q => hn q.1) fun hl i hv hi => ?_
  have hT := (hI.2.2.1.2.2.2.2 i hi).1
  subst hv
  rw [hT]
  exact c_reqIdx (fun hn => h1 hl fun q => hn (by have := q.2; rw [Int.toNat_natCast] at this; exact this)) fun k hk hkl => h2 hl i k rfl hk hi hkl
theorem CI.ruleL (hI : CI μ A) {i : Nat} (hi : i < (aR A).length) : IsT μ (dp (μ (rc 5 i) 0)) ((aR A).getD i ([], [])).1 := (hI.2.2.1.2.1.2.2 i hi).1
theorem CI.ruleR (hI : CI μ A) {i : Nat} (hi : i < (aR A).length) : IsT μ (dp (μ (rc 5 i) 1)) ((aR A).getD i ([], [])).2 := (hI.2.2.1.2.1.2.2 i hi).2
theorem CI.term (hI : CI μ A) {i : Nat} (hi : i < (aT A).length) : IsT μ (tc 5 i) ((aT A).getD i []) := hI.2.2.1.2.2.2.2 i hi
theorem AOK.rule (hA : AOK A) {i : Nat} (hi : i < (aR A).length) : okr (arS (aS A)) ((aR A).getD i ([], [])) := hA.2.1.2.2.1 _ (getD_mem hi)
theorem AOK.rules (hA : AOK A) : ∀ r, r ∈ aR A → okr (arS (aS A)) r := hA.2.1.2.2.1
theorem AOK.term (hA : AOK A) {i : Nat} (hi : i < (aT A).length) : okt (arS (aS A)) 8 80 ((aT A).getD i []) := hA.2.1.2.2.2 _ (getD_mem hi)
theorem AOK.ars (hA : AOK A) : (arS (aS A)).length ≤ 8 := by
  unfold arS
  rw [List.length_map]
  exact hA.1.1
theorem AOK.r6 (hA : AOK A) : (aR A).length ≤ 6 := hA.2.1.1
theorem AOK.t6 (hA : AOK A) : (aT A).length ≤ 6 := hA.2.1.2.1
theorem cells5 : rcells 57 5 := ⟨by decide +kernel, by decide +kernel, by omega⟩
theorem tc5 {i : Nat} (hi : i < 6) : rt (tc 5 i) = 8 := (tc_rt rt_st.1 hi).1
theorem tc5r (i : Nat) (hi : i < 6) : 45 ≤ tc 5 i ∧ tc 5 i + 2 ≤ 57 := by
  have := tc_eq 5 i
  omega
end R50
/-! the reference: what must be there -/
section M50
variable {μ : Mem} {A : AS} {v : Int}
theorem MI.rules (hI : MI μ A) (hA : AOK A) : MRs μ (aR A) := by
  refine ⟨hI.2.1.2.1, hA.r6, fun i hi => ?_⟩
  obtain ⟨h1, h2, h3, h4⟩ := hI.2.1.2.2.2.2.1 i hi
  have ho := hA.rule hi
  rw [Nat.zero_add] at h1 h2 h3 h4
  have := hA.r6
  exact ⟨by omega, ho.1.2.1, ho.2.1.2.1, h1, by rw [show 67 + 26 * i + 1 = 68 + 26 * i by omega]; exact h2, by rw [show 67 + 26 * i + 2 = 69 + 26 * i by omega]; exact h3, by rw [show 67 + 26 * i + 14 = 81 + 26 * i by omega]; exact h4⟩
theorem MI.term (hI : MI μ A) {i : Nat} (hi : i < (aT A).length) : Me (μ 773) (224 + 81 * i) ((aT A).getD i []) := by
  have := (hI.2.1.2.2.2.2.2 i hi).2
  rw [Nat.zero_add] at this
  exact this
end M50

