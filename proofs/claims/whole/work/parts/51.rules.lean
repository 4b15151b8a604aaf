/-! CALLS THAT ONLY LOOK, one after another (written by wip/gen/ops1.py) -/
theorem WQ.okB {μ μ1 : Mem} {A : AS} {Q : Int → Mem → Prop} {b : Bool} {J : Int → Int64 → Mem → (Int → Mem → Prop) → Prop} (h : WQ μ A (g1 true true (b2i b)) Q) (hI : CI μ1 A) (hf : Fq μ μ1) (hJ : ∀ t2 : Int64, Q 0 (mup μ1 795 0 t2.toInt) → J 0 t2 μ1 Q) : if b = true then J 0 (Int64.ofNat 1) μ1 Q else J 0 (Int64.ofNat 0) μ1 Q := by
  cases b with
  | true => rw [if_pos rfl]; exact hJ _ (h.ok hI hf (by decide))
  | false => rw [if_neg Bool.false_ne_true]; exact hJ _ (h.ok hI hf (by decide))
/-- f at all of n places from k on -/
def alF (f : Nat → Bool) : Nat → Nat → Bool
  | 0, _ => true
  | n + 1, k => if f k = true then alF f n (k + 1) else false
theorem alF_iff {f : Nat → Bool} : ∀ (n k : Nat), alF f n k = true ↔ ∀ i, i < n → f (k + i) = true := by
  intro n
  induction n with
  | zero => intro k; exact ⟨fun _ i hi => absurd hi (by omega), fun _ => rfl⟩
  | succ n ih =>
    intro k
    rw [alF]
    by_cases h : f k = true
    · rw [if_pos h, ih]
      refine ⟨fun g i hi => ?_, fun g i hi => ?_⟩
      · cases i with
        | zero => exact h
        | succ i => rw [show k + (i + 1) = k + 1 + i by omega]; exact g i (by omega)
      · rw [show k + 1 + i = k + (i + 1) by omega]; exact g (i + 1) (by omega)
    · rw [if_neg h]
      exact ⟨(fun g => by cases g), fun g => absurd (g 0 (by omega)) h⟩
section S51
variable {μ : Mem} {a : Nat} {sy : Sy}
theorem c_sigArity {i : Nat} {Q : Int → Prop} (h : CSg μ a sy) (h8 : sy.length ≤ 8) (hi : i < sy.length) (hq : Q (((sy.getD i (0, [])).1 : Nat) : Int)) : d_Signature_arity a (i : Int) μ Q := by
  unfold d_Signature_arity
  rw [if_neg (by omega), if_pos (by omega)]
  exact ⟨by omega, by rw [Int.toNat_natCast, (h.2 i hi).1]; exact hq⟩
theorem c_sigLen {i : Nat} {Q : Int → Prop} (h : CSg μ a sy) (h8 : sy.length ≤ 8) (hi : i < sy.length) (hq : Q (((sy.getD i (0, [])).2.length : Nat) : Int)) : d_Signature_nameLength a (i : Int) μ Q := by
  unfold d_Signature_nameLength
  rw [if_neg (by omega), if_pos (by omega)]
  exact ⟨by omega, by rw [Int.toNat_natCast, (h.2 i hi).2.1]; exact hq⟩
/-- a letter of a name, -1 where there is none -/
def ltr (N : List Int) (k : Int) : Int := if 0 ≤ k ∧ k < (N.length : Int) then N.getD k.toNat 0 else -1
theorem c_sigLetter {i : Nat} {k : Int} {Q : Int → Prop} (h : CSg μ a sy) (h8 : syok sy) (hi : i < sy.length) (hq : Q (ltr (sy.getD i (0, [])).2 k)) : d_Signature_letter a (i : Int) k μ Q := by
  unfold d_Signature_letter d_Signature_letter_j24 d_Signature_letter_j25
  obtain ⟨h1, h2⟩ := h8
  obtain ⟨g1, g2, g3, g4⟩ := h2 _ (getD_mem (d := (0, [])) hi)
  obtain ⟨e1, e2, e3⟩ := h.2 i hi
  rw [if_neg (by omega), if_pos (by omega)]
  unfold ltr at hq
  by_cases k1 : k < 0
  · rw [if_pos k1, if_pos rfl]
    rw [if_neg (by omega)] at hq
    exact hq
  · rw [if_neg k1]
    by_cases k2 : k < 6
    · rw [if_pos k2, if_neg (by decide)]
      refine ⟨by omega, ?_⟩
      rw [Int.toNat_natCast, e2]
      by_cases k3 : k < ((sy.getD i (0, [])).2.length : Int)
      · rw [if_pos k3]
        rw [if_pos ⟨by omega, k3⟩] at hq
        simp (disch := omega) only [wr_id]
        refine ⟨by omega, ?_⟩
        rw [show ((i : Int) * 6 + k).toNat = 6 * i + k.toNat by omega, e3.get (by omega)]
        exact hq
      · rw [if_neg k3]
        rw [if_neg (by omega)] at hq
        exact hq
    · rw [if_neg k2, if_pos rfl]
      rw [if_neg (by omega)] at hq
      exact hq
end S51
/-- a symbol's node -/
def sNode (sy : Sy) (i : Nat) : Int := 4 * (i : Int) + ((sy.getD i (0, [])).1 : Nat)
theorem sNode_ok {sy : Sy} {i : Nat} (h8 : syok sy) (hi : i < sy.length) : okn (arS sy) 8 (sNode sy i) ∧ enc (sNode sy i) = (i : Int) ∧ sNode sy i < 32 ∧ 0 ≤ sNode sy i := by
  obtain ⟨h1, h2⟩ := h8
  obtain ⟨g1, _⟩ := h2 _ (getD_mem (d := (0, [])) hi)
  unfold sNode
  generalize hq : (sy.getD i (0, [])).1 = q at *
  have e : (4 * (i : Int) + (q : Nat)) / 4 = i := by omega
  refine ⟨⟨fun h => by omega, fun h => ?_⟩, by rw [enc_pos (by omega), e], by omega, by omega⟩
  rw [e, Int.toNat_natCast]
  unfold arS
  rw [List.length_map]
  refine ⟨hi, ?_⟩
  rw [show (sy.map (·.1)).getD i 0 = (sy.getD i (0, [])).1 from getD_map hi, hq]
  unfold ar
  rw [if_neg (by omega)]
  omega
theorem count_enc {ars : List Nat} {m m' : Nat} {c : Int} (ha : ars.length ≤ 8) (hc : okn ars m' c) : ∀ L : List Int, (∀ x, x ∈ L → okn ars m x) → (L.map enc).count (enc c) = L.count c := by
  intro L
  induction L with
  | nil => intro _; rfl
  | cons x r ih =>
    intro h
    rw [List.map_cons, List.count_cons, List.count_cons, ih fun y hy => h y (List.mem_cons_of_mem _ hy)]
    have inj := enc_inj (h x (List.mem_cons_self ..)) hc ha
    by_cases e : x = c
    · subst e; simp
    · have e2 : ¬ enc x = enc c := fun q => e (inj.mp q)
      rw [beq_eq_false_iff_ne.mpr e, beq_eq_false_iff_ne.mpr e2]
theorem c_occ {μ : Mem} {i : Nat} {r : Rl2} {lf : Bool} {z : Int} {Q : Int → Prop} (hR : MR μ i r) (h : Q ((((if lf = true then r.1 else r.2).map enc).count z : Nat) : Int)) : d_Md_occurrences (i : Int) (b2i lf) z μ Q := by
  obtain ⟨hi, hl1, hl2, e1, e2, m1, m2⟩ := hR
  unfold d_Md_occurrences d_Md_occurrences_j11
  have main : ∀ (X : List Int) (o : Nat), X.length ≤ 12 → o + X.length ≤ 26 → Me (μ 773) (67 + 26 * i + o) X → Q (((X.map enc).count z : Nat) : Int) → (∀ W : Int → Int → Prop, ∀ v5 v6 : Int, (if v6 < (X.length : Int) then d_Md_occurrences_j43 i (b2i lf) z X.length v6 v5 i o μ W Q else Q v5) → d_Md_occurrences_b22 i (b2i lf) z X.length v5 v6 μ W Q) → d_Md_occurrences_l22 i (b2i lf) z X.length 0 0 μ Q := by
    intro X o hX ho hm hq hb
    refine i_Md_occurrences_l22 (Inv := fun v5 v6 => ∃ k n : Nat, v6 = k ∧ v5 = n ∧ k ≤ X.length ∧ n ≤ k ∧ n + ((X.drop k).map enc).count z = (X.map enc).count z) (fun _ v6 => X.length - v6.toNat) ?_ 0 0 ⟨0, 0, rfl, rfl, Nat.zero_le _, Nat.le_refl _, by simp⟩
    rintro _ _ ⟨k, n, rfl, rfl, hk, hnk, hn⟩ W hW
    apply hb
    by_cases hkl : k < X.length
    · rw [if_pos (by omega)]
      unfold d_Md_occurrences_j43
      rw [wr_id (by omega) (by omega), show (o : Int) + (k : Int) = ((o + k : Nat) : Int) by omega]
      refine c_ofRule hi (by omega) ?_
      rw [← Nat.add_assoc, hm.get hkl]
      rw [dropc hkl, List.map_cons, List.count_cons] at hn
      unfold d_Md_occurrences_j58 d_Md_one
      by_cases e : enc (X.getD k 0) = z
      · rw [if_pos e, if_neg (by decide)]
        rw [beq_iff_eq.mpr e, if_pos rfl] at hn
        simp (disch := omega) only [wr_id]
        exact hW _ _ ⟨k + 1, n + 1, by omega, by omega, by omega, by omega, by omega⟩ (by omega)
      · rw [if_neg e, if_pos rfl]
        rw [beq_eq_false_iff_ne.mpr e, if_neg Bool.false_ne_true] at hn
        simp (disch := omega) only [wr_id]
        exact hW _ _ ⟨k + 1, n, by omega, by omega, by omega, by omega, by omega⟩ (by omega)
    · rw [if_neg (by omega)]
      rw [List.drop_eq_nil_of_le (by omega), List.map_nil, List.count_nil] at hn
      rw [← hn] at hq
      exact hq
  cases lf with
  | true =>
    rw [if_neg (by decide)]
    refine c_ofRule (k := 0) hi (by omega) ?_
    rw [Nat.add_zero, e1]
    refine main r.1 2 hl1 (by omega) m1 h fun W v5 v6 g => ?_
    unfold d_Md_occurrences_b22
    rw [if_neg (show ¬ b2i true = 0 by decide)]
    exact g
  | false =>
    rw [if_pos (by decide)]
    refine c_ofRule (k := 1) hi (by omega) ?_
    rw [e2]
    refine main r.2 14 hl2 (by omega) m2 h fun W v5 v6 g => ?_
    unfold d_Md_occurrences_b22
    rw [if_pos (show b2i false = 0 by decide)]
    exact g
theorem vnode_ok {ars : List Nat} {k : Nat} (hk : k < 8) : okn ars 8 (-1 - (k : Int)) ∧ enc (-1 - (k : Int)) = 100 + k :=
  ⟨⟨fun _ => by omega, fun _ => by omega⟩, by rw [enc_neg (by omega)]; omega⟩
/-- how often a variable is on a side of a rule, as the reference counts -/
theorem c_occV {μ : Mem} {ars : List Nat} {i k : Nat} {r : Rl2} {lf : Bool} {z : Int} {Q : Int → Prop} (ha : ars.length ≤ 8) (hR : MR μ i r) (hr : okr ars r) (hk : k < 8) (hz : z = 100 + (k : Int)) (h : Q (((if lf = true then r.1 else r.2).count (-1 - (k : Int)) : Nat) : Int)) : d_Md_occurrences (i : Int) (b2i lf) z μ Q := by
  refine c_occ hR ?_
  obtain ⟨h1, h2⟩ := vnode_ok (ars := ars) hk
  rw [hz, ← h2, count_enc ha h1]
  · exact h
  · cases lf with
    | true => exact hr.1.2.2
    | false => exact hr.2.1.2.2
theorem c_vNode {μ : Mem} {k : Nat} {Q : Int → Prop} (hk : k < 100) (h : Q (-1 - (k : Int))) : d_Term_variableNode (k : Int) μ Q := by
  unfold d_Term_variableNode
  rw [wr_id (by omega) (by omega)]
  exact h
theorem count12 {c : Int} {L : List Int} {n : Nat} (h : L.length ≤ n) : L.count c ≤ n := Nat.le_trans List.count_le_length h
def dupl (r : Rl2) : Bool := !alF (fun v => decide (r.2.count (-1 - (v : Int)) ≤ r.1.count (-1 - (v : Int)))) 8 0
theorem c_duplicates {μ : Mem} {x : Nat} {r : Rl2} {Q : Bool → Prop} (hL : IsT μ (dp (μ x 0)) r.1) (hR : IsT μ (dp (μ x 1)) r.2) (h : Q (dupl r)) : d_Rule_duplicates x μ Q := by
  unfold d_Rule_duplicates
  refine i_Rule_duplicates_l2 (Inv := fun v1 => ∃ k : Nat, v1 = k ∧ k ≤ 8 ∧ dupl r = !alF (fun v => decide (r.2.count (-1 - (v : Int)) ≤ r.1.count (-1 - (v : Int)))) (8 - k) k) (fun v1 => 8 - v1.toNat) ?_ 0 ⟨0, rfl, by omega, rfl⟩
  rintro _ ⟨k, rfl, hk, hd⟩ W hW
  unfold d_Rule_duplicates_b2
  by_cases hk8 : k < 8
  · rw [if_pos (by omega)]
    refine c_vNode (by omega) (c_Term_count hR (c_Term_count hL ?_))
    rw [show 8 - k = (8 - (k + 1)) + 1 by omega, alF] at hd
    by_cases hc : r.2.count (-1 - (k : Int)) ≤ r.1.count (-1 - (k : Int))
    · rw [if_neg (by omega), wr_id (by omega) (by omega)]
      rw [if_pos (decide_eq_true hc)] at hd
      exact hW _ ⟨k + 1, by omega, by omega, hd⟩ (by omega)
    · rw [if_pos (by omega)]
      rw [if_neg (by rw [decide_eq_false hc]; decide)] at hd
      rw [hd] at h
      exact h
  · rw [if_neg (by omega)]
    rw [show 8 - k = 0 by omega, alF] at hd
    rw [hd] at h
    exact h
theorem c_mDuplicates {μ : Mem} {ars : List Nat} {i : Nat} {r : Rl2} {Q : Bool → Prop} (ha : ars.length ≤ 8) (hR : MR μ i r) (hr : okr ars r) (h : Q (dupl r)) : d_Md_duplicates (i : Int) μ Q := by
  unfold d_Md_duplicates
  refine i_Md_duplicates_l2 (Inv := fun v1 => ∃ k : Nat, v1 = k ∧ k ≤ 8 ∧ dupl r = !alF (fun v => decide (r.2.count (-1 - (v : Int)) ≤ r.1.count (-1 - (v : Int)))) (8 - k) k) (fun v1 => 8 - v1.toNat) ?_ 0 ⟨0, rfl, by omega, rfl⟩
  rintro _ ⟨k, rfl, hk, hd⟩ W hW
  unfold d_Md_duplicates_b2
  by_cases hk8 : k < 8
  · rw [if_pos (by omega)]
    refine c_occV (lf := false) ha hR hr hk8 (by rw [wr_id (by omega) (by omega)]) ?_
    refine c_occV (lf := true) ha hR hr hk8 (by rw [wr_id (by omega) (by omega)]) ?_
    rw [if_neg Bool.false_ne_true, if_pos rfl]
    rw [show 8 - k = (8 - (k + 1)) + 1 by omega, alF] at hd
    by_cases hc : r.2.count (-1 - (k : Int)) ≤ r.1.count (-1 - (k : Int))
    · rw [if_neg (by omega), wr_id (by omega) (by omega)]
      rw [if_pos (decide_eq_true hc)] at hd
      exact hW _ ⟨k + 1, by omega, by omega, hd⟩ (by omega)
    · rw [if_pos (by omega)]
      rw [if_neg (by rw [decide_eq_false hc]; decide)] at hd
      rw [hd] at h
      exact h
  · rw [if_neg (by omega)]
    rw [show 8 - k = 0 by omega, alF] at hd
    rw [hd] at h
    exact h
theorem wl_head {ars : List Nat} {m n : Nat} {T : List Int} (h : okt ars m n T) : 0 < T.length := wl_len (d := 0) h.1
def sp_symbolCount (A : AS) : Int × Int := g1 (aL A) true (((aS A).length : Int))
theorem w_symbolCount {μ : Mem} {A : AS} {Q : Int → Mem → Prop} (hI : CI μ A) (hA : AOK A) (h : WQ μ A (sp_symbolCount A) Q) : d_Lw_symbolCount μ Q := by
  unfold d_Lw_symbolCount d_OB_symbolCount
  unfold sp_symbolCount at h
  refine c_reqSys hI (fun e => ?_) (fun e => ?_)
  · rw [e] at h
    exact h.t1 hI Fq.rfl'
  · rw [e] at h
    rw [hI.2.1.1]
    exact h.ok hI Fq.rfl' rfl
theorem mm_symbolCount {μ : Mem} {A : AS} {Q : Int → Mem → Prop} (hI : MI μ A) (hA : AOK A) (h : MQI μ A (sp_symbolCount A) Q) : d_Md_symbolCount μ Q := by
  unfold d_Md_symbolCount d_Md_look
  unfold sp_symbolCount at h
  refine c_mayLook hI (fun e => ?_) (fun e => ?_)
  · rw [e] at h
    exact h.t1 hI
  · rw [e] at h
    have hI0 : MI (mup μ 772 0 0) A := hI.f0 (by decide)
    rw [if_pos rfl]
    exact ⟨by decide, h.ok hI Gm.rfl' hI0.2.1.1⟩
def sp_ruleCount (A : AS) : Int × Int := g1 (aL A) true (((aR A).length : Int))
theorem w_ruleCount {μ : Mem} {A : AS} {Q : Int → Mem → Prop} (hI : CI μ A) (hA : AOK A) (h : WQ μ A (sp_ruleCount A) Q) : d_Lw_ruleCount μ Q := by
  unfold d_Lw_ruleCount d_OB_ruleCount
  unfold sp_ruleCount at h
  refine c_reqSys hI (fun e => ?_) (fun e => ?_)
  · rw [e] at h
    exact h.t1 hI Fq.rfl'
  · rw [e] at h
    rw [hI.2.2.1.2.1.1]
    exact h.ok hI Fq.rfl' rfl
theorem mm_ruleCount {μ : Mem} {A : AS} {Q : Int → Mem → Prop} (hI : MI μ A) (hA : AOK A) (h : MQI μ A (sp_ruleCount A) Q) : d_Md_ruleCount μ Q := by
  unfold d_Md_ruleCount d_Md_look
  unfold sp_ruleCount at h
  refine c_mayLook hI (fun e => ?_) (fun e => ?_)
  · rw [e] at h
    exact h.t1 hI
  · rw [e] at h
    have hI0 : MI (mup μ 772 0 0) A := hI.f0 (by decide)
    rw [if_pos rfl]
    exact ⟨by decide, h.ok hI Gm.rfl' hI0.2.1.2.1⟩
def sp_termCount (A : AS) : Int × Int := g1 (aL A) true (((aT A).length : Int))
theorem w_termCount {μ : Mem} {A : AS} {Q : Int → Mem → Prop} (hI : CI μ A) (hA : AOK A) (h : WQ μ A (sp_termCount A) Q) : d_Lw_termCount μ Q := by
  unfold d_Lw_termCount d_OB_termCount
  unfold sp_termCount at h
  refine c_reqSys hI (fun e => ?_) (fun e => ?_)
  · rw [e] at h
    exact h.t1 hI Fq.rfl'
  · rw [e] at h
    rw [hI.2.2.1.2.2.1]
    exact h.ok hI Fq.rfl' rfl
theorem mm_termCount {μ : Mem} {A : AS} {Q : Int → Mem → Prop} (hI : MI μ A) (hA : AOK A) (h : MQI μ A (sp_termCount A) Q) : d_Md_termCount μ Q := by
  unfold d_Md_termCount d_Md_look
  unfold sp_termCount at h
  refine c_mayLook hI (fun e => ?_) (fun e => ?_)
  · rw [e] at h
    exact h.t1 hI
  · rw [e] at h
    have hI0 : MI (mup μ 772 0 0) A := hI.f0 (by decide)
    rw [if_pos rfl]
    exact ⟨by decide, h.ok hI Gm.rfl' hI0.2.1.2.2.1⟩
def sp_symbolArity (A : AS) (v1 : Int) : Int × Int := g1 (aL A) (decide (0 ≤ v1 ∧ v1 < ((aS A).length : Int))) ((((aS A).getD v1.toNat (0, [])).1 : Nat))
theorem w_symbolArity {μ : Mem} {A : AS} {Q : Int → Mem → Prop} {v1 : Int} (hI : CI μ A) (hA : AOK A) (h : WQ μ A (sp_symbolArity A v1) Q) : d_Lw_symbolArity v1 μ Q := by
  unfold d_Lw_symbolArity d_OB_symbolArity
  unfold sp_symbolArity at h
  refine c_reqSys hI (fun e => ?_) (fun e => ?_)
  · rw [e] at h
    exact h.t1 hI Fq.rfl'
  · rw [hI.2.1.1]
    refine c_reqIdx (fun en => ?_) (fun i hv hi => ?_)
    · rw [e, decide_eq_false en] at h
      exact h.t2 hI Fq.rfl'
    · subst hv
      rw [e, decide_eq_true (by omega)] at h
      simp only [Int.toNat_natCast] at h
      exact c_sigArity hI.2.1 hA.1.1 hi (h.ok hI Fq.rfl' rfl)
theorem mm_symbolArity {μ : Mem} {A : AS} {Q : Int → Mem → Prop} {v1 : Int} (hI : MI μ A) (hA : AOK A) (h : MQI μ A (sp_symbolArity A v1) Q) : d_Md_symbolArity v1 μ Q := by
  unfold d_Md_symbolArity
  unfold sp_symbolArity at h
  refine c_maySymbol hI hA (fun e => ?_) (fun e en => ?_) (fun e i hv hi => ?_)
  · rw [e] at h
    exact h.t1 hI
  · rw [e, decide_eq_false en] at h
    exact h.t2 hI
  · subst hv
    rw [e, decide_eq_true (by omega)] at h
    simp only [Int.toNat_natCast] at h
    have hI0 : MI (mup μ 772 0 0) A := hI.f0 (by decide)
    have h8 := hA.1.1
    rw [if_pos rfl]
    refine c_ofSymbol (k := 0) (by omega) (by omega) (h.ok hI Gm.rfl' ?_)
    have := (hI0.2.1.2.2.2.1 i hi).1
    rw [Nat.zero_add] at this
    exact this
def sp_symbolLetter (A : AS) (v1 v2 : Int) : Int × Int := g1 (aL A) (decide (0 ≤ v1 ∧ v1 < ((aS A).length : Int))) (ltr ((aS A).getD v1.toNat (0, [])).2 v2)
theorem w_symbolLetter {μ : Mem} {A : AS} {Q : Int → Mem → Prop} {v1 v2 : Int} (hI : CI μ A) (hA : AOK A) (h : WQ μ A (sp_symbolLetter A v1 v2) Q) : d_Lw_symbolLetter v1 v2 μ Q := by
  unfold d_Lw_symbolLetter d_OB_symbolLetter
  unfold sp_symbolLetter at h
  refine c_reqSys hI (fun e => ?_) (fun e => ?_)
  · rw [e] at h
    exact h.t1 hI Fq.rfl'
  · rw [hI.2.1.1]
    refine c_reqIdx (fun en => ?_) (fun i hv hi => ?_)
    · rw [e, decide_eq_false en] at h
      exact h.t2 hI Fq.rfl'
    · subst hv
      rw [e, decide_eq_true (by omega)] at h
      simp only [Int.toNat_natCast] at h
      exact c_sigLetter hI.2.1 hA.1 hi (h.ok hI Fq.rfl' rfl)
theorem mm_symbolLetter {μ : Mem} {A : AS} {Q : Int → Mem → Prop} {v1 v2 : Int} (hI : MI μ A) (hA : AOK A) (h : MQI μ A (sp_symbolLetter A v1 v2) Q) : d_Md_symbolLetter v1 v2 μ Q := by
  unfold d_Md_symbolLetter
  unfold sp_symbolLetter at h
  refine c_maySymbol hI hA (fun e => ?_) (fun e en => ?_) (fun e i hv hi => ?_)
  · rw [e] at h
    exact h.t1 hI
  · rw [e, decide_eq_false en] at h
    exact h.t2 hI
  · subst hv
    rw [e, decide_eq_true (by omega)] at h
    simp only [Int.toNat_natCast] at h
    have hI0 : MI (mup μ 772 0 0) A := hI.f0 (by decide)
    have h8 := hA.1.1
    rw [if_pos rfl]
    obtain ⟨k1, k2, k3⟩ := hI0.2.1.2.2.2.1 i hi
    rw [Nat.zero_add] at k1 k2 k3
    obtain ⟨g1', g2', g3', g4'⟩ := hA.1.2 _ (getD_mem (d := (0, [])) hi)
    refine c_ofSymbol (k := 1) (by omega) (by omega) ?_
    rw [show 3 + 8 * i + 1 = 4 + 8 * i by omega, k2]
    refine c_mIn ?_
    rw [wr_id (by omega) (by omega)]
    unfold ltr at h
    by_cases q : 0 ≤ v2 ∧ v2 < (((aS A).getD i (0, [])).2.length : Int)
    · rw [if_pos q] at h
      rw [decide_eq_true (by omega), if_pos rfl, wr_id (by omega) (by omega), show (2 : Int) + v2 = ((2 + v2.toNat : Nat) : Int) by omega]
      refine c_ofSymbol (by omega) (by omega) (h.ok hI Gm.rfl' ?_)
      rw [show 3 + 8 * i + (2 + v2.toNat) = 5 + 8 * i + v2.toNat by omega]
      exact k3.get (by omega)
    · rw [if_neg q] at h
      rw [decide_eq_false (by omega), if_neg Bool.false_ne_true]
      exact h.ok hI Gm.rfl' rfl
/-- how often a node is in the rules from the k-th on -/
def usesF (c : Int) : List Rl2 → Nat
  | [] => 0
  | r :: rs => r.1.count c + r.2.count c + usesF c rs
theorem usesF_le {ars : List Nat} {c : Int} : ∀ rs : List Rl2, (∀ r, r ∈ rs → okr ars r) → usesF c rs ≤ 24 * rs.length := by
  intro rs
  induction rs with
  | nil => intro _; exact Nat.le_refl _
  | cons r rs ih =>
    intro h
    have h1 := ih fun x hx => h x (List.mem_cons_of_mem _ hx)
    have h2 := h r (List.mem_cons_self ..)
    have h3 := count12 (c := c) h2.1.2.1
    have h4 := count12 (c := c) h2.2.1.2.1
    rw [usesF, List.length_cons]
    omega
theorem dropr {rs : List Rl2} {k : Nat} (h : k < rs.length) : rs.drop k = rs.getD k ([], []) :: rs.drop (k + 1) := by
  rw [List.drop_eq_getElem_cons h, List.getD_eq_getElem?_getD, List.getElem?_eq_getElem h]
  rfl
def sp_symbolUses (A : AS) (v1 : Int) : Int × Int := g1 (aL A) (decide (0 ≤ v1 ∧ v1 < ((aS A).length : Int))) ((usesF (sNode (aS A) v1.toNat) (aR A) : Nat))
theorem w_symbolUses {μ : Mem} {A : AS} {Q : Int → Mem → Prop} {v1 : Int} (hI : CI μ A) (hA : AOK A) (h : WQ μ A (sp_symbolUses A v1) Q) : d_Lw_symbolUses v1 μ Q := by
  unfold d_Lw_symbolUses d_OB_symbolUses
  unfold sp_symbolUses at h
  refine c_reqSys hI (fun e => ?_) (fun e => ?_)
  · rw [e] at h
    exact h.t1 hI Fq.rfl'
  · rw [hI.2.1.1]
    refine c_reqIdx (fun en => ?_) (fun i hv hi => ?_)
    · rw [e, decide_eq_false en] at h
      exact h.t2 hI Fq.rfl'
    · subst hv
      rw [e, decide_eq_true (by omega)] at h
      simp only [Int.toNat_natCast] at h
      have h6 := hA.r6
      obtain ⟨k1, k2, k3, k4⟩ := sNode_ok hA.1 hi
      refine c_sigArity hI.2.1 hA.1.1 hi ?_
      unfold d_Term_symbolNode
      have hs8 := hA.1.1
      have ha3 := (hA.1.2 _ (getD_mem (d := (0, [])) hi)).1
      simp (disch := omega) only [wr_id]
      rw [show 4 * (i : Int) + (((aS A).getD i (0, [])).1 : Nat) = sNode (aS A) i from rfl]
      generalize sNode (aS A) i = c at *
      have hle := usesF_le (c := c) _ hA.rules
      refine i_OB_symbolUses_l34 (Inv := fun v3 v4 => ∃ n k : Nat, v3 = n ∧ v4 = k ∧ k ≤ (aR A).length ∧ n + usesF c ((aR A).drop k) = usesF c (aR A)) (fun _ v4 => (aR A).length - v4.toNat) ?_ 0 0 ⟨0, 0, rfl, rfl, Nat.zero_le _, by rw [Nat.zero_add, List.drop_zero]⟩
      rintro _ _ ⟨n, k, rfl, rfl, hk, hn⟩ W hW
      unfold d_OB_symbolUses_b34
      rw [hI.2.2.1.2.1.1]
      by_cases hkl : k < (aR A).length
      · rw [if_pos (by omega)]
        refine c_State_rule (by omega) (c_Term_count (hI.ruleL hkl) (c_Term_count (hI.ruleR hkl) ?_))
        rw [dropr hkl, usesF] at hn
        simp (disch := omega) only [wr_id]
        exact hW _ _ ⟨n + (((aR A).getD k ([], [])).1.count c + ((aR A).getD k ([], [])).2.count c), k + 1, by omega, by omega, by omega, by omega⟩ (by omega)
      · rw [if_neg (by omega)]
        rw [List.drop_eq_nil_of_le (by omega), usesF] at hn
        exact h.ok hI Fq.rfl' (by rw [← hn]; rfl)
theorem mm_symbolUses {μ : Mem} {A : AS} {Q : Int → Mem → Prop} {v1 : Int} (hI : MI μ A) (hA : AOK A) (h : MQI μ A (sp_symbolUses A v1) Q) : d_Md_symbolUses v1 μ Q := by
  unfold d_Md_symbolUses
  unfold sp_symbolUses at h
  refine c_maySymbol hI hA (fun e => ?_) (fun e en => ?_) (fun e i hv hi => ?_)
  · rw [e] at h
    exact h.t1 hI
  · rw [e, decide_eq_false en] at h
    exact h.t2 hI
  · subst hv
    rw [e, decide_eq_true (by omega)] at h
    simp only [Int.toNat_natCast] at h
    have hI0 : MI (mup μ 772 0 0) A := hI.f0 (by decide)
    have h8 := hA.1.1
    rw [if_pos rfl]
    have h6 := hA.r6
    obtain ⟨k1, k2, k3, k4⟩ := sNode_ok hA.1 hi
    have hle := usesF_le (c := sNode (aS A) i) _ hA.rules
    have hRs := hI0.rules hA
    refine i_Md_symbolUses_l14 (Inv := fun v2 v3 => ∃ n k : Nat, v2 = n ∧ v3 = k ∧ k ≤ (aR A).length ∧ n + usesF (sNode (aS A) i) ((aR A).drop k) = usesF (sNode (aS A) i) (aR A)) (fun _ v3 => (aR A).length - v3.toNat) ?_ 0 0 ⟨0, 0, rfl, rfl, Nat.zero_le _, by rw [Nat.zero_add, List.drop_zero]⟩
    rintro _ _ ⟨n, k, rfl, rfl, hk, hn⟩ W hW
    unfold d_Md_symbolUses_b14
    rw [hRs.1]
    by_cases hkl : k < (aR A).length
    · rw [if_pos (by omega)]
      have hr := hA.rule hkl
      refine c_occ (lf := true) (hRs.2.2 k hkl) (c_occ (lf := false) (hRs.2.2 k hkl) ?_)
      rw [if_pos rfl, if_neg Bool.false_ne_true, ← k2, count_enc hA.ars k1 _ hr.1.2.2, count_enc hA.ars k1 _ hr.2.1.2.2]
      rw [dropr hkl, usesF] at hn
      simp (disch := omega) only [wr_id]
      exact hW _ _ ⟨n + (((aR A).getD k ([], [])).1.count (sNode (aS A) i) + ((aR A).getD k ([], [])).2.count (sNode (aS A) i)), k + 1, by omega, by omega, by omega, by omega⟩ (by omega)
    · rw [if_neg (by omega)]
      rw [List.drop_eq_nil_of_le (by omega), usesF] at hn
      exact h.ok hI Gm.rfl' (by rw [← hn]; rfl)
def sp_leftSize (A : AS) (v1 : Int) : Int × Int := g1 (aL A) (decide (0 ≤ v1 ∧ v1 < ((aR A).length : Int))) ((((aR A).getD v1.toNat ([], [])).1.length : Nat))
theorem w_leftSize {μ : Mem} {A : AS} {Q : Int → Mem → Prop} {v1 : Int} (hI : CI μ A) (hA : AOK A) (h : WQ μ A (sp_leftSize A v1) Q) : d_Lw_leftSize v1 μ Q := by
  unfold d_Lw_leftSize d_OB_leftSize
  unfold sp_leftSize at h
  refine c_reqRule hI (fun e => ?_) (fun e en => ?_) (fun e i hv hi => ?_)
  · rw [e] at h
    exact h.t1 hI Fq.rfl'
  · rw [e, decide_eq_false en] at h
    exact h.t2 hI Fq.rfl'
  · subst hv
    rw [e, decide_eq_true (by omega)] at h
    simp only [Int.toNat_natCast] at h
    rw [(hI.ruleL hi).1]
    exact h.ok hI Fq.rfl' rfl
theorem mm_leftSize {μ : Mem} {A : AS} {Q : Int → Mem → Prop} {v1 : Int} (hI : MI μ A) (hA : AOK A) (h : MQI μ A (sp_leftSize A v1) Q) : d_Md_leftSize v1 μ Q := by
  unfold d_Md_leftSize
  unfold sp_leftSize at h
  refine c_mayRule hI hA (fun e => ?_) (fun e en => ?_) (fun e i hv hi => ?_)
  · rw [e] at h
    exact h.t1 hI
  · rw [e, decide_eq_false en] at h
    exact h.t2 hI
  · subst hv
    rw [e, decide_eq_true (by omega)] at h
    simp only [Int.toNat_natCast] at h
    have hI0 : MI (mup μ 772 0 0) A := hI.f0 (by decide)
    rw [if_pos rfl]
    have hM := (hI0.rules hA).2.2 i hi
    have h6 := hA.r6
    have hr := hA.rule hi
    exact c_ofRule (k := 0) (by omega) (by omega) (h.ok hI Gm.rfl' hM.2.2.2.1)
def sp_rightSize (A : AS) (v1 : Int) : Int × Int := g1 (aL A) (decide (0 ≤ v1 ∧ v1 < ((aR A).length : Int))) ((((aR A).getD v1.toNat ([], [])).2.length : Nat))
theorem w_rightSize {μ : Mem} {A : AS} {Q : Int → Mem → Prop} {v1 : Int} (hI : CI μ A) (hA : AOK A) (h : WQ μ A (sp_rightSize A v1) Q) : d_Lw_rightSize v1 μ Q := by
  unfold d_Lw_rightSize d_OB_rightSize
  unfold sp_rightSize at h
  refine c_reqRule hI (fun e => ?_) (fun e en => ?_) (fun e i hv hi => ?_)
  · rw [e] at h
    exact h.t1 hI Fq.rfl'
  · rw [e, decide_eq_false en] at h
    exact h.t2 hI Fq.rfl'
  · subst hv
    rw [e, decide_eq_true (by omega)] at h
    simp only [Int.toNat_natCast] at h
    rw [(hI.ruleR hi).1]
    exact h.ok hI Fq.rfl' rfl
theorem mm_rightSize {μ : Mem} {A : AS} {Q : Int → Mem → Prop} {v1 : Int} (hI : MI μ A) (hA : AOK A) (h : MQI μ A (sp_rightSize A v1) Q) : d_Md_rightSize v1 μ Q := by
  unfold d_Md_rightSize
  unfold sp_rightSize at h
  refine c_mayRule hI hA (fun e => ?_) (fun e en => ?_) (fun e i hv hi => ?_)
  · rw [e] at h
    exact h.t1 hI
  · rw [e, decide_eq_false en] at h
    exact h.t2 hI
  · subst hv
    rw [e, decide_eq_true (by omega)] at h
    simp only [Int.toNat_natCast] at h
    have hI0 : MI (mup μ 772 0 0) A := hI.f0 (by decide)
    rw [if_pos rfl]
    have hM := (hI0.rules hA).2.2 i hi
    have h6 := hA.r6
    have hr := hA.rule hi
    exact c_ofRule (k := 1) (by omega) (by omega) (h.ok hI Gm.rfl' hM.2.2.2.2.1)
def lini (r : Rl2) : Bool := alF (fun v => decide (r.1.count (-1 - (v : Int)) ≤ 1)) 8 0
def sp_isLeftLinear (A : AS) (v1 : Int) : Int × Int := g1 (aL A) (decide (0 ≤ v1 ∧ v1 < ((aR A).length : Int))) (b2i (lini ((aR A).getD v1.toNat ([], []))))
theorem w_isLeftLinear {μ : Mem} {A : AS} {Q : Int → Mem → Prop} {v1 : Int} (hI : CI μ A) (hA : AOK A) (h : WQ μ A (sp_isLeftLinear A v1) Q) : d_Lw_isLeftLinear v1 μ Q := by
  unfold d_Lw_isLeftLinear d_OB_isLeftLinear
  unfold sp_isLeftLinear at h
  refine c_reqRule hI (fun e => ?_) (fun e en => ?_) (fun e i hv hi => ?_)
  · rw [e] at h
    exact h.t1 hI Fq.rfl'
  · rw [e, decide_eq_false en] at h
    exact h.t2 hI Fq.rfl'
  · subst hv
    rw [e, decide_eq_true (by omega)] at h
    simp only [Int.toNat_natCast] at h
    refine i_OB_isLeftLinear_l8 (Inv := fun v3 => ∃ k : Nat, v3 = k ∧ k ≤ 8 ∧ lini ((aR A).getD i ([], [])) = alF (fun v => decide (((aR A).getD i ([], [])).1.count (-1 - (v : Int)) ≤ 1)) (8 - k) k) (fun v3 => 8 - v3.toNat) ?_ 0 ⟨0, rfl, by omega, rfl⟩
    rintro _ ⟨k, rfl, hk, hd⟩ W hW
    unfold d_OB_isLeftLinear_b8
    by_cases hk8 : k < 8
    · rw [if_pos (by omega)]
      refine c_vNode (by omega) (c_Term_count (hI.ruleL hi) ?_)
      rw [show 8 - k = (8 - (k + 1)) + 1 by omega, alF] at hd
      by_cases hc : ((aR A).getD i ([], [])).1.count (-1 - (k : Int)) ≤ 1
      · rw [if_neg (by omega), wr_id (by omega) (by omega)]
        rw [if_pos (decide_eq_true hc)] at hd
        exact hW _ ⟨k + 1, by omega, by omega, hd⟩ (by omega)
      · rw [if_pos (by omega)]
        rw [if_neg (by rw [decide_eq_false hc]; decide)] at hd
        rw [hd] at h
        exact h.okB (b := false) hI Fq.rfl' (fun _ q => And.intro (by decide) q)
    · rw [if_neg (by omega)]
      rw [show 8 - k = 0 by omega, alF] at hd
      rw [hd] at h
      exact h.okB (b := true) hI Fq.rfl' (fun _ q => And.intro (by decide) q)
theorem mm_isLeftLinear {μ : Mem} {A : AS} {Q : Bool → Mem → Prop} {v1 : Int} (hI : MI μ A) (hA : AOK A) (h : MQB μ A (sp_isLeftLinear A v1) Q) : d_Md_isLeftLinear v1 μ Q := by
  unfold d_Md_isLeftLinear
  unfold sp_isLeftLinear at h
  refine c_mayRule hI hA (fun e => ?_) (fun e en => ?_) (fun e i hv hi => ?_)
  · rw [e] at h
    exact h.t1 hI
  · rw [e, decide_eq_false en] at h
    exact h.t2 hI
  · subst hv
    rw [e, decide_eq_true (by omega)] at h
    simp only [Int.toNat_natCast] at h
    have hI0 : MI (mup μ 772 0 0) A := hI.f0 (by decide)
    rw [if_pos rfl]
    have hM := (hI0.rules hA).2.2 i hi
    have h6 := hA.r6
    have hr := hA.rule hi
    refine i_Md_isLeftLinear_l12 (Inv := fun v3 => ∃ k : Nat, v3 = k ∧ k ≤ 8 ∧ lini ((aR A).getD i ([], [])) = alF (fun v => decide (((aR A).getD i ([], [])).1.count (-1 - (v : Int)) ≤ 1)) (8 - k) k) (fun v3 => 8 - v3.toNat) ?_ 0 ⟨0, rfl, by omega, rfl⟩
    rintro _ ⟨k, rfl, hk, hd⟩ W hW
    unfold d_Md_isLeftLinear_b12
    by_cases hk8 : k < 8
    · rw [if_pos (by omega)]
      refine c_occV (lf := true) hA.ars hM hr hk8 (by rw [wr_id (by omega) (by omega)]) ?_
      rw [if_pos rfl]
      rw [show 8 - k = (8 - (k + 1)) + 1 by omega, alF] at hd
      by_cases hc : ((aR A).getD i ([], [])).1.count (-1 - (k : Int)) ≤ 1
      · rw [if_neg (by omega), wr_id (by omega) (by omega)]
        rw [if_pos (decide_eq_true hc)] at hd
        exact hW _ ⟨k + 1, by omega, by omega, hd⟩ (by omega)
      · rw [if_pos (by omega)]
        rw [if_neg (by rw [decide_eq_false hc]; decide)] at hd
        rw [hd] at h
        exact h.ok hI Gm.rfl' rfl
    · rw [if_neg (by omega)]
      rw [show 8 - k = 0 by omega, alF] at hd
      rw [hd] at h
      exact h.ok hI Gm.rfl' rfl
def sp_isCollapsing (A : AS) (v1 : Int) : Int × Int := g1 (aL A) (decide (0 ≤ v1 ∧ v1 < ((aR A).length : Int))) (b2i (decide (((aR A).getD v1.toNat ([], [])).2.getD 0 0 < 0)))
theorem w_isCollapsing {μ : Mem} {A : AS} {Q : Int → Mem → Prop} {v1 : Int} (hI : CI μ A) (hA : AOK A) (h : WQ μ A (sp_isCollapsing A v1) Q) : d_Lw_isCollapsing v1 μ Q := by
  unfold d_Lw_isCollapsing d_OB_isCollapsing
  unfold sp_isCollapsing at h
  refine c_reqRule hI (fun e => ?_) (fun e en => ?_) (fun e i hv hi => ?_)
  · rw [e] at h
    exact h.t1 hI Fq.rfl'
  · rw [e, decide_eq_false en] at h
    exact h.t2 hI Fq.rfl'
  · subst hv
    rw [e, decide_eq_true (by omega)] at h
    simp only [Int.toNat_natCast] at h
    have hr := hA.rule hi
    refine c_Term_getN (k := 0) (hI.ruleR hi) (wl_head hr.2.1) ?_
    by_cases q : ((aR A).getD i ([], [])).2.getD 0 0 < 0
    · rw [if_pos q]
      rw [decide_eq_true q] at h
      exact h.okB (b := true) hI Fq.rfl' (fun _ q => And.intro (by decide) q)
    · rw [if_neg q]
      rw [decide_eq_false q] at h
      exact h.okB (b := false) hI Fq.rfl' (fun _ q => And.intro (by decide) q)
theorem mm_isCollapsing {μ : Mem} {A : AS} {Q : Bool → Mem → Prop} {v1 : Int} (hI : MI μ A) (hA : AOK A) (h : MQB μ A (sp_isCollapsing A v1) Q) : d_Md_isCollapsing v1 μ Q := by
  unfold d_Md_isCollapsing
  unfold sp_isCollapsing at h
  refine c_mayRule hI hA (fun e => ?_) (fun e en => ?_) (fun e i hv hi => ?_)
  · rw [e] at h
    exact h.t1 hI
  · rw [e, decide_eq_false en] at h
    exact h.t2 hI
  · subst hv
    rw [e, decide_eq_true (by omega)] at h
    simp only [Int.toNat_natCast] at h
    have hI0 : MI (mup μ 772 0 0) A := hI.f0 (by decide)
    rw [if_pos rfl]
    have hM := (hI0.rules hA).2.2 i hi
    have h6 := hA.r6
    have hr := hA.rule hi
    refine c_ofRule (k := 14) (by omega) (by omega) ?_
    have hz := hM.2.2.2.2.2.2.get (wl_head hr.2.1)
    rw [Nat.add_zero] at hz
    rw [hz]
    have hlt := enc_lt (hr.2.1.2.2 _ (gm0 (wl_head hr.2.1))) hA.ars
    by_cases q : ((aR A).getD i ([], [])).2.getD 0 0 < 0
    · rw [if_neg (by omega)]
      rw [decide_eq_true q] at h
      exact h.ok hI Gm.rfl' rfl
    · rw [if_pos (by omega)]
      rw [decide_eq_false q] at h
      exact h.ok hI Gm.rfl' rfl
def sp_isDuplicating (A : AS) (v1 : Int) : Int × Int := g1 (aL A) (decide (0 ≤ v1 ∧ v1 < ((aR A).length : Int))) (b2i (dupl ((aR A).getD v1.toNat ([], []))))
theorem w_isDuplicating {μ : Mem} {A : AS} {Q : Int → Mem → Prop} {v1 : Int} (hI : CI μ A) (hA : AOK A) (h : WQ μ A (sp_isDuplicating A v1) Q) : d_Lw_isDuplicating v1 μ Q := by
  unfold d_Lw_isDuplicating d_OB_isDuplicating
  unfold sp_isDuplicating at h
  refine c_reqRule hI (fun e => ?_) (fun e en => ?_) (fun e i hv hi => ?_)
  · rw [e] at h
    exact h.t1 hI Fq.rfl'
  · rw [e, decide_eq_false en] at h
    exact h.t2 hI Fq.rfl'
  · subst hv
    rw [e, decide_eq_true (by omega)] at h
    simp only [Int.toNat_natCast] at h
    refine c_duplicates (hI.ruleL hi) (hI.ruleR hi) ?_
    exact h.okB hI Fq.rfl' (fun _ q => And.intro (by decide) q)
theorem mm_isDuplicating {μ : Mem} {A : AS} {Q : Bool → Mem → Prop} {v1 : Int} (hI : MI μ A) (hA : AOK A) (h : MQB μ A (sp_isDuplicating A v1) Q) : d_Md_isDuplicating v1 μ Q := by
  unfold d_Md_isDuplicating
  unfold sp_isDuplicating at h
  refine c_mayRule hI hA (fun e => ?_) (fun e en => ?_) (fun e i hv hi => ?_)
  · rw [e] at h
    exact h.t1 hI
  · rw [e, decide_eq_false en] at h
    exact h.t2 hI
  · subst hv
    rw [e, decide_eq_true (by omega)] at h
    simp only [Int.toNat_natCast] at h
    have hI0 : MI (mup μ 772 0 0) A := hI.f0 (by decide)
    rw [if_pos rfl]
    have hM := (hI0.rules hA).2.2 i hi
    have h6 := hA.r6
    have hr := hA.rule hi
    refine c_mDuplicates hA.ars hM hr ?_
    cases hd : dupl ((aR A).getD i ([], [])) with
    | true => rw [if_pos rfl]; exact h.ok hI Gm.rfl' (by rw [hd])
    | false => rw [if_neg Bool.false_ne_true]; exact h.ok hI Gm.rfl' (by rw [hd])
def sp_decreasesSize (A : AS) (v1 : Int) : Int × Int := g1 (aL A) (decide (0 ≤ v1 ∧ v1 < ((aR A).length : Int))) (b2i (decide (((aR A).getD v1.toNat ([], [])).2.length < ((aR A).getD v1.toNat ([], [])).1.length) && !dupl ((aR A).getD v1.toNat ([], []))))
theorem w_decreasesSize {μ : Mem} {A : AS} {Q : Int → Mem → Prop} {v1 : Int} (hI : CI μ A) (hA : AOK A) (h : WQ μ A (sp_decreasesSize A v1) Q) : d_Lw_decreasesSize v1 μ Q := by
  unfold d_Lw_decreasesSize d_OB_decreasesSize
  unfold sp_decreasesSize at h
  refine c_reqRule hI (fun e => ?_) (fun e en => ?_) (fun e i hv hi => ?_)
  · rw [e] at h
    exact h.t1 hI Fq.rfl'
  · rw [e, decide_eq_false en] at h
    exact h.t2 hI Fq.rfl'
  · subst hv
    rw [e, decide_eq_true (by omega)] at h
    simp only [Int.toNat_natCast] at h
    rw [(hI.ruleL hi).1, (hI.ruleR hi).1]
    by_cases q : ((aR A).getD i ([], [])).2.length < ((aR A).getD i ([], [])).1.length
    · rw [if_pos (by omega)]
      rw [decide_eq_true q, Bool.true_and] at h
      refine c_duplicates (hI.ruleL hi) (hI.ruleR hi) ?_
      cases hd : dupl ((aR A).getD i ([], [])) with
      | true => rw [hd] at h; rw [if_pos rfl]; exact h.okB (b := false) hI Fq.rfl' (fun _ q => And.intro (by decide) q)
      | false => rw [hd] at h; rw [if_neg Bool.false_ne_true]; exact h.okB (b := true) hI Fq.rfl' (fun _ q => And.intro (by decide) q)
    · rw [if_neg (by omega)]
      rw [decide_eq_false q, Bool.false_and] at h
      exact h.okB (b := false) hI Fq.rfl' (fun _ q => And.intro (by decide) q)
theorem mm_decreasesSize {μ : Mem} {A : AS} {Q : Bool → Mem → Prop} {v1 : Int} (hI : MI μ A) (hA : AOK A) (h : MQB μ A (sp_decreasesSize A v1) Q) : d_Md_decreasesSize v1 μ Q := by
  unfold d_Md_decreasesSize
  unfold sp_decreasesSize at h
  refine c_mayRule hI hA (fun e => ?_) (fun e en => ?_) (fun e i hv hi => ?_)
  · rw [e] at h
    exact h.t1 hI
  · rw [e, decide_eq_false en] at h
    exact h.t2 hI
  · subst hv
    rw [e, decide_eq_true (by omega)] at h
    simp only [Int.toNat_natCast] at h
    have hI0 : MI (mup μ 772 0 0) A := hI.f0 (by decide)
    rw [if_pos rfl]
    have hM := (hI0.rules hA).2.2 i hi
    have h6 := hA.r6
    have hr := hA.rule hi
    refine c_ofRule (k := 1) (by omega) (by omega) (c_ofRule (k := 0) (by omega) (by omega) ?_)
    rw [hM.2.2.2.2.1, Nat.add_zero, hM.2.2.2.1]
    by_cases q : ((aR A).getD i ([], [])).2.length < ((aR A).getD i ([], [])).1.length
    · rw [if_pos (by omega)]
      rw [decide_eq_true q, Bool.true_and] at h
      refine c_mDuplicates hA.ars hM hr ?_
      cases hd : dupl ((aR A).getD i ([], [])) with
      | true => rw [hd] at h; rw [if_pos rfl]; exact h.ok hI Gm.rfl' rfl
      | false => rw [hd] at h; rw [if_neg Bool.false_ne_true]; exact h.ok hI Gm.rfl' rfl
    · rw [if_neg (by omega)]
      rw [decide_eq_false q, Bool.false_and] at h
      exact h.ok hI Gm.rfl' rfl
