/-! CALLS THAT ONLY LOOK, one after another (written by wip/gen/ops1.py) -/
theorem WQ.okB {μ μ1 : Mem} {A : AS} {Q : Int → Mem → Prop} {b : Bool} {J : Int → Int → Mem → (Int → Mem → Prop) → Prop} (h : WQ μ A (g1 true true (b2i b)) Q) (hI : CI μ1 A) (hf : Fq μ μ1) (hJ : ∀ t2 : Int, Q 0 (mup μ1 795 0 t2) → J 0 t2 μ1 Q) : if b = true then J 0 (l64 1) μ1 Q else J 0 (l64 0) μ1 Q := by
  cases b with
  | true => rw [if_pos rfl]; exact hJ _ (h.ok hI hf (by decide))
  | false => rw [if_neg Bool.false_ne_true]; exact hJ _ (h.ok hI hf (by decide))
/-- f at all of n places from k on -/
def alF (f : Nat → Bool) : Nat → Nat → Bool
  | 0, _ => true
  | n + 1, k => if f k = true then alF f n (k + 1) else false
section S51
variable {μ : Mem} {a : Nat} {sy : Sy}
theorem c_sigArity {i : Nat} {Q : Int → Prop} (h : CSg μ a sy) (h8 : sy.length ≤ 8) (hi : i < sy.length) (hq : Q (((sy.getD i (0, [])).1 : Nat) : Int)) : d_Signature_arity a (i : Int) μ Q := by
  unfold d_Signature_arity
  rw [if_neg (by omega), if_pos (by omega)]
  exact ⟨by omega, by rw [Int.toNat_natCast, (h.2 i hi).1]; exact hq⟩
theorem c_sigLen {i : Nat} {Q : Int → Prop} (h : CSg μ a sy) (h8 : sy.length ≤ 8) (hi : i < sy.length) (hq : Q (((sy.getD i (0, [])).2.length : Nat) : Int)) : d_Signature_nameLength a (i : Int) μ Q := by
  unfold d_Signature_nameLength
  rw [if_neg (by omega), if_pos (by omega)]
  exact ⟨by omega, by rw [Int.toNat_natCast, (h.2 i hi).2.1]; exact hq⟩
/-- a letter of a name, -1 where there is none -/
def ltr (N : List Int) (k : Int) : Int := if 0 ≤ k ∧ k < (N.length : Int) then N.getD k.toNat 0 else -1
theorem c_sigLetter {i : Nat} {k : Int} {Q : Int → Prop} (h : CSg μ a sy) (h8 : syok sy) (hi : i < sy.length) (hq : Q (ltr (sy.getD i (0, [])).2 k)) : d_Signature_letter a (i : Int) k μ Q := by
  unfold d_Signature_letter d_Signature_letter_j24 d_Signature_letter_j25
  obtain ⟨h1, h2⟩ := h8
  obtain ⟨g1, g2, g3, g4⟩ := h2 _ (getD_mem (d := (0, [])) hi)
  obtain ⟨e1, e2, e3⟩ := h.2 i hi
  rw [if_neg (by omega), if_pos (by omega)]
  unfold ltr at hq
  by_cases k1 : k < 0
  · rw [if_pos k1, if_pos rfl]
    rw [if_neg (by omega)] at hq
    exact hq
  · rw [if_neg k1]
    by_cases k2 : k < 6
    · rw [if_pos k2, if_neg (by decide)]
      refine ⟨by omega, ?_⟩
      rw [Int.toNat_natCast, e2]
      by_cases k3 : k < ((sy.getD i (0, [])).2.length : Int)
      · rw [if_pos k3]
        rw [if_pos ⟨by omega, k3⟩] at hq
        simp (disch := omega) only [wr_id]
        refine ⟨by omega, ?_⟩
        rw [show ((i : Int) * 6 + k).toNat = 6 * i + k.toNat by omega, e3.get (by omega)]
        exact hq
      · rw [if_neg k3]
        rw [if_neg (by omega)] at hq
        exact hq
    · rw [if_neg k2, if_pos rfl]
      rw [if_neg (by omega)] at hq
      exact hq
end S51
/-- a symbol's node -/
def sNode (sy : Sy) (i : Nat) : Int := 4 * (i : Int) + ((sy.getD i (0, [])).1 : Nat)
def dupl (r : Rl2) : Bool := !alF (fun v => decide (r.2.count (-1 - (v : Int)) ≤ r.1.count (-1 - (v : Int)))) 8 0
theorem wl_head {ars : List Nat} {m n : Nat} {T : List Int} (h : okt ars m n T) : 0 < T.length := wl_len (d := 0) h.1
def sp_symbolCount (A : AS) : Int × Int := g1 (aL A) true (((aS A).length : Int))
def sp_ruleCount (A : AS) : Int × Int := g1 (aL A) true (((aR A).length : Int))
theorem w_ruleCount {μ : Mem} {A : AS} {Q : Int → Mem → Prop} (hI : CI μ A) (hA : AOK A) (h : WQ μ A (sp_ruleCount A) Q) : d_Lw_ruleCount μ Q := by
  unfold d_Lw_ruleCount d_OB_ruleCount
  unfold sp_ruleCount at h
  refine c_reqSys hI (fun e => ?_) (fun e => ?_)
  · rw [e] at h
    exact h.t1 hI Fq.rfl'
  · rw [e] at h
    rw [hI.2.2.1.2.1.1]
    exact h.ok hI Fq.rfl' rfl
def sp_termCount (A : AS) : Int × Int := g1 (aL A) true (((aT A).length : Int))
theorem w_termCount {μ : Mem} {A : AS} {Q : Int → Mem → Prop} (hI : CI μ A) (hA : AOK A) (h : WQ μ A (sp_termCount A) Q) : d_Lw_termCount μ Q := by
  unfold d_Lw_termCount d_OB_termCount
  unfold sp_termCount at h
  refine c_reqSys hI (fun e => ?_) (fun e => ?_)
  · rw [e] at h
    exact h.t1 hI Fq.rfl'
  · rw [e] at h
    rw [hI.2.2.1.2.2.1]
    exact h.ok hI Fq.rfl' rfl
def sp_symbolArity (A : AS) (v1 : Int) : Int × Int := g1 (aL A) (decide (0 ≤ v1 ∧ v1 < ((aS A).length : Int))) ((((aS A).getD v1.toNat (0, [])).1 : Nat))
def sp_symbolLetter (A : AS) (v1 v2 : Int) : Int × Int := g1 (aL A) (decide (0 ≤ v1 ∧ v1 < ((aS A).length : Int))) (ltr ((aS A).getD v1.toNat (0, [])).2 v2)
/-- how often a node is in the rules from the k-th on -/
def usesF (c : Int) : List Rl2 → Nat
  | [] => 0
  | r :: rs => r.1.count c + r.2.count c + usesF c rs
def sp_symbolUses (A : AS) (v1 : Int) : Int × Int := g1 (aL A) (decide (0 ≤ v1 ∧ v1 < ((aS A).length : Int))) ((usesF (sNode (aS A) v1.toNat) (aR A) : Nat))
def sp_leftSize (A : AS) (v1 : Int) : Int × Int := g1 (aL A) (decide (0 ≤ v1 ∧ v1 < ((aR A).length : Int))) ((((aR A).getD v1.toNat ([], [])).1.length : Nat))
def sp_rightSize (A : AS) (v1 : Int) : Int × Int := g1 (aL A) (decide (0 ≤ v1 ∧ v1 < ((aR A).length : Int))) ((((aR A).getD v1.toNat ([], [])).2.length : Nat))
def lini (r : Rl2) : Bool := alF (fun v => decide (r.1.count (-1 - (v : Int)) ≤ 1)) 8 0
def sp_isLeftLinear (A : AS) (v1 : Int) : Int × Int := g1 (aL A) (decide (0 ≤ v1 ∧ v1 < ((aR A).length : Int))) (b2i (lini ((aR A).getD v1.toNat ([], []))))
def sp_isCollapsing (A : AS) (v1 : Int) : Int × Int := g1 (aL A) (decide (0 ≤ v1 ∧ v1 < ((aR A).length : Int))) (b2i (decide (((aR A).getD v1.toNat ([], [])).2.getD 0 0 < 0)))
def sp_isDuplicating (A : AS) (v1 : Int) : Int × Int := g1 (aL A) (decide (0 ≤ v1 ∧ v1 < ((aR A).length : Int))) (b2i (dupl ((aR A).getD v1.toNat ([], []))))
def sp_decreasesSize (A : AS) (v1 : Int) : Int × Int := g1 (aL A) (decide (0 ≤ v1 ∧ v1 < ((aR A).length : Int))) (b2i (decide (((aR A).getD v1.toNat ([], [])).2.length < ((aR A).getD v1.toNat ([], [])).1.length) && !dupl ((aR A).getD v1.toNat ([], []))))
