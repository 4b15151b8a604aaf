/-! THE LAW: class calls that are not refused, as the law's texts have them -/
section L97a
variable {s : LSt} {A A' : AS} {r : Int}
theorem mup_797 {μ : Mem} {z : Int} : sm μ (mup μ 795 0 z) := ⟨fun a ha => mup_r (by omega), mup_r (by decide)⟩
theorem oI_of {D : (Int → Mem → Prop) → (Nat → Mem → Prop) → Prop} {K : Int → LSt → Prop} {X : Nat → Mem → Prop} (h : D (fun r1 μ2 => (0 : Int) = 0 ∧ CI (mup μ2 795 0 (l64 r1)) A ∧ mup μ2 795 0 (l64 r1) 797 0 = 0 ∧ mup μ2 795 0 (l64 r1) 795 0 = r) X) (hX : ∀ k μ, X k μ → False) (hK : ∀ μ', CI μ' A → μ' 797 0 = 0 → K r (s.1, μ')) : oI D s K := by
  refine ⟨_, X, h, fun z μ2 hq => ⟨mup μ2 795 0 (l64 z), mup_797, hq.2.2.1, ?_⟩, hX⟩
  have e : l64 z = r := by
    have := hq.2.2.2
    rw [mup_s] at this
    exact this
  have e : z = r := e
  subst e
  exact hK _ hq.2.1 hq.2.2.1
theorem oB_of {D : (Bool → Mem → Prop) → (Nat → Mem → Prop) → Prop} {K : Bool → LSt → Prop} {X : Nat → Mem → Prop} {b : Bool} (h : D (fun r1 μ2 => if r1 = true then ((0 ≤ (0 : Int) ∧ (0 : Int) < 1) ∧ ((0 : Int) = 0 ∧ CI (mup μ2 795 (0 : Int).toNat (l64 1)) A ∧ mup μ2 795 (0 : Int).toNat (l64 1) 797 0 = 0 ∧ mup μ2 795 (0 : Int).toNat (l64 1) 795 0 = b2i b)) else ((0 ≤ (0 : Int) ∧ (0 : Int) < 1) ∧ ((0 : Int) = 0 ∧ CI (mup μ2 795 (0 : Int).toNat (l64 0)) A ∧ mup μ2 795 (0 : Int).toNat (l64 0) 797 0 = 0 ∧ mup μ2 795 (0 : Int).toNat (l64 0) 795 0 = b2i b))) X) (hX : ∀ k μ, X k μ → False) (hK : ∀ μ', CI μ' A → μ' 797 0 = 0 → K b (s.1, μ')) : oB D s K := by
  have key : ∀ (z : Bool) (y : Int) (μ2 : Mem), b2i z = y → ((0 : Int) = 0 ∧ CI (mup μ2 795 (0 : Int).toNat (l64 y)) A ∧ mup μ2 795 (0 : Int).toNat (l64 y) 797 0 = 0 ∧ mup μ2 795 (0 : Int).toNat (l64 y) 795 0 = b2i b) → ∃ μ', sm μ2 μ' ∧ μ' 797 0 = 0 ∧ K z (s.1, μ') := by
    intro z y μ2 hy hq
    refine ⟨mup μ2 795 0 (l64 y), mup_797, hq.2.2.1, ?_⟩
    have e : l64 y = b2i b := by
      have := hq.2.2.2
      rw [show (0 : Int).toNat = 0 from rfl, mup_s] at this
      exact this
    have e : y = b2i b := e
    have e2 : z = b := by
      rw [← hy] at e
      cases z <;> cases b <;> first | rfl | exact absurd e (by decide)
    subst e2
    exact hK _ hq.2.1 hq.2.2.1
  refine ⟨_, X, h, fun z μ2 hq => ?_, hX⟩
  split at hq
  · rename_i hz
    exact key z 1 μ2 (by rw [hz]; rfl) hq.2
  · rename_i hz
    have : z = false := by simpa using hz
    exact key z 0 μ2 (by rw [this]; rfl) hq.2
theorem o_ruleCount {K : Int → LSt → Prop} (hI : CI s.2 A) (hA : AOK A) (h0 : s.2 797 0 = 0) (hs : sp_ruleCount A = (0, r)) (hK : ∀ μ', CI μ' A → μ' 797 0 = 0 → K r (s.1, μ')) : oI (d_OB_ruleCount s.2) s K := by
  have h := w_ruleCount (Q := fun e μ' => e = 0 ∧ CI μ' A ∧ μ' 797 0 = 0 ∧ μ' 795 0 = r) hI hA (by rw [hs]; exact fun μ' a _ c => ⟨rfl, a, (c rfl).2.trans h0, (c rfl).1⟩)
  unfold d_Lw_ruleCount at h
  refine oI_of h ?_ hK
  · intro k μx hx
    revert hx
    (repeat' split) <;> first | exact fun h => h.elim | exact fun h => absurd h.1 (by decide)
theorem o_termCount {K : Int → LSt → Prop} (hI : CI s.2 A) (hA : AOK A) (h0 : s.2 797 0 = 0) (hs : sp_termCount A = (0, r)) (hK : ∀ μ', CI μ' A → μ' 797 0 = 0 → K r (s.1, μ')) : oI (d_OB_termCount s.2) s K := by
  have h := w_termCount (Q := fun e μ' => e = 0 ∧ CI μ' A ∧ μ' 797 0 = 0 ∧ μ' 795 0 = r) hI hA (by rw [hs]; exact fun μ' a _ c => ⟨rfl, a, (c rfl).2.trans h0, (c rfl).1⟩)
  unfold d_Lw_termCount at h
  refine oI_of h ?_ hK
  · intro k μx hx
    revert hx
    (repeat' split) <;> first | exact fun h => h.elim | exact fun h => absurd h.1 (by decide)
theorem o_termSize {v1 : Int} {K : Int → LSt → Prop} (hI : CI s.2 A) (hA : AOK A) (h0 : s.2 797 0 = 0) (hs : sp_termSize A v1 = (0, r)) (hK : ∀ μ', CI μ' A → μ' 797 0 = 0 → K r (s.1, μ')) : oI (d_OB_termSize v1 s.2) s K := by
  have h := w_termSize (Q := fun e μ' => e = 0 ∧ CI μ' A ∧ μ' 797 0 = 0 ∧ μ' 795 0 = r) hI hA (by rw [hs]; exact fun μ' a _ c => ⟨rfl, a, (c rfl).2.trans h0, (c rfl).1⟩)
  unfold d_Lw_termSize at h
  refine oI_of h ?_ hK
  · intro k μx hx
    revert hx
    (repeat' split) <;> first | exact fun h => h.elim | exact fun h => absurd h.1 (by decide)
theorem o_symbolAt {v1 v2 : Int} {K : Int → LSt → Prop} (hI : CI s.2 A) (hA : AOK A) (h0 : s.2 797 0 = 0) (hs : sp_symbolAt A v1 v2 = (0, r)) (hK : ∀ μ', CI μ' A → μ' 797 0 = 0 → K r (s.1, μ')) : oI (d_OB_symbolAt v1 v2 s.2) s K := by
  have h := w_symbolAt (Q := fun e μ' => e = 0 ∧ CI μ' A ∧ μ' 797 0 = 0 ∧ μ' 795 0 = r) hI hA (by rw [hs]; exact fun μ' a _ c => ⟨rfl, a, (c rfl).2.trans h0, (c rfl).1⟩)
  unfold d_Lw_symbolAt at h
  refine oI_of h ?_ hK
  · intro k μx hx
    revert hx
    (repeat' split) <;> first | exact fun h => h.elim | exact fun h => absurd h.1 (by decide)
theorem o_variableAt {v1 v2 : Int} {K : Int → LSt → Prop} (hI : CI s.2 A) (hA : AOK A) (h0 : s.2 797 0 = 0) (hs : sp_variableAt A v1 v2 = (0, r)) (hK : ∀ μ', CI μ' A → μ' 797 0 = 0 → K r (s.1, μ')) : oI (d_OB_variableAt v1 v2 s.2) s K := by
  have h := w_variableAt (Q := fun e μ' => e = 0 ∧ CI μ' A ∧ μ' 797 0 = 0 ∧ μ' 795 0 = r) hI hA (by rw [hs]; exact fun μ' a _ c => ⟨rfl, a, (c rfl).2.trans h0, (c rfl).1⟩)
  unfold d_Lw_variableAt at h
  refine oI_of h ?_ hK
  · intro k μx hx
    revert hx
    (repeat' split) <;> first | exact fun h => h.elim | exact fun h => absurd h.1 (by decide)
theorem o_subtermSize {v1 v2 : Int} {K : Int → LSt → Prop} (hI : CI s.2 A) (hA : AOK A) (h0 : s.2 797 0 = 0) (hs : sp_subtermSize A v1 v2 = (0, r)) (hK : ∀ μ', CI μ' A → μ' 797 0 = 0 → K r (s.1, μ')) : oI (d_OB_subtermSize v1 v2 s.2) s K := by
  have h := w_subtermSize (Q := fun e μ' => e = 0 ∧ CI μ' A ∧ μ' 797 0 = 0 ∧ μ' 795 0 = r) hI hA (by rw [hs]; exact fun μ' a _ c => ⟨rfl, a, (c rfl).2.trans h0, (c rfl).1⟩)
  unfold d_Lw_subtermSize at h
  refine oI_of h ?_ hK
  · intro k μx hx
    revert hx
    (repeat' split) <;> first | exact fun h => h.elim | exact fun h => absurd h.1 (by decide)
theorem o_ruleAt {v1 v2 : Int} {K : Int → LSt → Prop} (hI : CI s.2 A) (hA : AOK A) (h0 : s.2 797 0 = 0) (hs : sp_ruleAt A v1 v2 = (0, r)) (hK : ∀ μ', CI μ' A → μ' 797 0 = 0 → K r (s.1, μ')) : oI (d_OB_ruleAt v1 v2 s.2) s K := by
  have h := w_ruleAt (Q := fun e μ' => e = 0 ∧ CI μ' A ∧ μ' 797 0 = 0 ∧ μ' 795 0 = r) hI hA (by rw [hs]; exact fun μ' a _ c => ⟨rfl, a, (c rfl).2.trans h0, (c rfl).1⟩)
  unfold d_Lw_ruleAt at h
  refine oI_of h ?_ hK
  · intro k μx hx
    revert hx
    (repeat' split) <;> first | exact fun h => h.elim | exact fun h => absurd h.1 (by decide)
theorem o_redexCount {v1 : Int} {K : Int → LSt → Prop} (hI : CI s.2 A) (hA : AOK A) (h0 : s.2 797 0 = 0) (hs : sp_redexCount A v1 = (0, r)) (hK : ∀ μ', CI μ' A → μ' 797 0 = 0 → K r (s.1, μ')) : oI (d_OB_redexCount v1 s.2) s K := by
  have h := w_redexCount (Q := fun e μ' => e = 0 ∧ CI μ' A ∧ μ' 797 0 = 0 ∧ μ' 795 0 = r) hI hA (by rw [hs]; exact fun μ' a _ c => ⟨rfl, a, (c rfl).2.trans h0, (c rfl).1⟩)
  unfold d_Lw_redexCount at h
  refine oI_of h ?_ hK
  · intro k μx hx
    revert hx
    (repeat' split) <;> first | exact fun h => h.elim | exact fun h => absurd h.1 (by decide)
theorem o_innermostRedex {v1 : Int} {K : Int → LSt → Prop} (hI : CI s.2 A) (hA : AOK A) (h0 : s.2 797 0 = 0) (hs : sp_innermostRedex A v1 = (0, r)) (hK : ∀ μ', CI μ' A → μ' 797 0 = 0 → K r (s.1, μ')) : oI (d_OB_innermostRedex v1 s.2) s K := by
  have h := w_innermostRedex (Q := fun e μ' => e = 0 ∧ CI μ' A ∧ μ' 797 0 = 0 ∧ μ' 795 0 = r) hI hA (by rw [hs]; exact fun μ' a _ c => ⟨rfl, a, (c rfl).2.trans h0, (c rfl).1⟩)
  unfold d_Lw_innermostRedex at h
  refine oI_of h ?_ hK
  · intro k μx hx
    revert hx
    (repeat' split) <;> first | exact fun h => h.elim | exact fun h => absurd h.1 (by decide)
theorem o_outermostRedex {v1 : Int} {K : Int → LSt → Prop} (hI : CI s.2 A) (hA : AOK A) (h0 : s.2 797 0 = 0) (hs : sp_outermostRedex A v1 = (0, r)) (hK : ∀ μ', CI μ' A → μ' 797 0 = 0 → K r (s.1, μ')) : oI (d_OB_outermostRedex v1 s.2) s K := by
  have h := w_outermostRedex (Q := fun e μ' => e = 0 ∧ CI μ' A ∧ μ' 797 0 = 0 ∧ μ' 795 0 = r) hI hA (by rw [hs]; exact fun μ' a _ c => ⟨rfl, a, (c rfl).2.trans h0, (c rfl).1⟩)
  unfold d_Lw_outermostRedex at h
  refine oI_of h ?_ hK
  · intro k μx hx
    revert hx
    (repeat' split) <;> first | exact fun h => h.elim | exact fun h => absurd h.1 (by decide)
theorem o_stepsInnermost {v1 : Int} {K : Int → LSt → Prop} (hI : CI s.2 A) (hA : AOK A) (h0 : s.2 797 0 = 0) (hs : sp_stepsInnermost A v1 = (0, r)) (hK : ∀ μ', CI μ' A → μ' 797 0 = 0 → K r (s.1, μ')) : oI (d_OB_stepsInnermost v1 s.2) s K := by
  have h := w_stepsInnermost (Q := fun e μ' => e = 0 ∧ CI μ' A ∧ μ' 797 0 = 0 ∧ μ' 795 0 = r) hI hA (by rw [hs]; exact fun μ' a _ c => ⟨rfl, a, (c rfl).2.trans h0, (c rfl).1⟩)
  unfold d_Lw_stepsInnermost at h
  refine oI_of h ?_ hK
  · intro k μx hx
    revert hx
    (repeat' split) <;> first | exact fun h => h.elim | exact fun h => absurd h.1 (by decide)
theorem o_stepsOutermost {v1 : Int} {K : Int → LSt → Prop} (hI : CI s.2 A) (hA : AOK A) (h0 : s.2 797 0 = 0) (hs : sp_stepsOutermost A v1 = (0, r)) (hK : ∀ μ', CI μ' A → μ' 797 0 = 0 → K r (s.1, μ')) : oI (d_OB_stepsOutermost v1 s.2) s K := by
  have h := w_stepsOutermost (Q := fun e μ' => e = 0 ∧ CI μ' A ∧ μ' 797 0 = 0 ∧ μ' 795 0 = r) hI hA (by rw [hs]; exact fun μ' a _ c => ⟨rfl, a, (c rfl).2.trans h0, (c rfl).1⟩)
  unfold d_Lw_stepsOutermost at h
  refine oI_of h ?_ hK
  · intro k μx hx
    revert hx
    (repeat' split) <;> first | exact fun h => h.elim | exact fun h => absurd h.1 (by decide)
theorem o_normalFormSize {v1 : Int} {K : Int → LSt → Prop} (hI : CI s.2 A) (hA : AOK A) (h0 : s.2 797 0 = 0) (hs : sp_normalFormSize A v1 = (0, r)) (hK : ∀ μ', CI μ' A → μ' 797 0 = 0 → K r (s.1, μ')) : oI (d_OB_normalFormSize v1 s.2) s K := by
  have h := w_normalFormSize (Q := fun e μ' => e = 0 ∧ CI μ' A ∧ μ' 797 0 = 0 ∧ μ' 795 0 = r) hI hA (by rw [hs]; exact fun μ' a _ c => ⟨rfl, a, (c rfl).2.trans h0, (c rfl).1⟩)
  unfold d_Lw_normalFormSize at h
  refine oI_of h ?_ hK
  · intro k μx hx
    revert hx
    (repeat' split) <;> first | exact fun h => h.elim | exact fun h => absurd h.1 (by decide)
theorem o_outputByte {v1 : Int} {K : Int → LSt → Prop} (hI : CI s.2 A) (hA : AOK A) (h0 : s.2 797 0 = 0) (hs : sp_outputByte A v1 = (0, r)) (hK : ∀ μ', CI μ' A → μ' 797 0 = 0 → K r (s.1, μ')) : oI (d_OB_outputByte v1 s.2) s K := by
  have h := w_outputByte (Q := fun e μ' => e = 0 ∧ CI μ' A ∧ μ' 797 0 = 0 ∧ μ' 795 0 = r) hI hA (by rw [hs]; exact fun μ' a _ c => ⟨rfl, a, (c rfl).2.trans h0, (c rfl).1⟩)
  unfold d_Lw_outputByte at h
  refine oI_of h ?_ hK
  · intro k μx hx
    revert hx
    (repeat' split) <;> first | exact fun h => h.elim | exact fun h => absurd h.1 (by decide)
theorem o_unifiedSize {v1 v2 : Int} {K : Int → LSt → Prop} (hI : CI s.2 A) (hA : AOK A) (h0 : s.2 797 0 = 0) (hs : sp_unifiedSize A v1 v2 = (0, r)) (hK : ∀ μ', CI μ' A → μ' 797 0 = 0 → K r (s.1, μ')) : oI (d_OB_unifiedSize v1 v2 s.2) s K := by
  have h := w_unifiedSize (Q := fun e μ' => e = 0 ∧ CI μ' A ∧ μ' 797 0 = 0 ∧ μ' 795 0 = r) hI hA (by rw [hs]; exact fun μ' a _ c => ⟨rfl, a, (c rfl).2.trans h0, (c rfl).1⟩)
  unfold d_Lw_unifiedSize at h
  refine oI_of h ?_ hK
  · intro k μx hx
    revert hx
    (repeat' split) <;> first | exact fun h => h.elim | exact fun h => absurd h.1 (by decide)
theorem o_criticalPairCount {K : Int → LSt → Prop} (hI : CI s.2 A) (hA : AOK A) (h0 : s.2 797 0 = 0) (hs : sp_criticalPairCount A = (0, r)) (hK : ∀ μ', CI μ' A → μ' 797 0 = 0 → K r (s.1, μ')) : oI (d_OB_criticalPairCount s.2) s K := by
  have h := w_criticalPairCount (Q := fun e μ' => e = 0 ∧ CI μ' A ∧ μ' 797 0 = 0 ∧ μ' 795 0 = r) hI hA (by rw [hs]; exact fun μ' a _ c => ⟨rfl, a, (c rfl).2.trans h0, (c rfl).1⟩)
  unfold d_Lw_criticalPairCount at h
  refine oI_of h ?_ hK
  · intro k μx hx
    revert hx
    (repeat' split) <;> first | exact fun h => h.elim | exact fun h => absurd h.1 (by decide)
theorem o_unjoinedPairs {K : Int → LSt → Prop} (hI : CI s.2 A) (hA : AOK A) (h0 : s.2 797 0 = 0) (hs : sp_unjoinedPairs A = (0, r)) (hK : ∀ μ', CI μ' A → μ' 797 0 = 0 → K r (s.1, μ')) : oI (d_OB_unjoinedPairs s.2) s K := by
  have h := w_unjoinedPairs (Q := fun e μ' => e = 0 ∧ CI μ' A ∧ μ' 797 0 = 0 ∧ μ' 795 0 = r) hI hA (by rw [hs]; exact fun μ' a _ c => ⟨rfl, a, (c rfl).2.trans h0, (c rfl).1⟩)
  unfold d_Lw_unjoinedPairs at h
  refine oI_of h ?_ hK
  · intro k μx hx
    revert hx
    (repeat' split) <;> first | exact fun h => h.elim | exact fun h => absurd h.1 (by decide)
theorem o_isNormalForm {v1 : Int} {b : Bool} {K : Bool → LSt → Prop} (hI : CI s.2 A) (hA : AOK A) (h0 : s.2 797 0 = 0) (hs : sp_isNormalForm A v1 = (0, b2i b)) (hK : ∀ μ', CI μ' A → μ' 797 0 = 0 → K b (s.1, μ')) : oB (d_OB_isNormalForm v1 s.2) s K := by
  have h := w_isNormalForm (Q := fun e μ' => e = 0 ∧ CI μ' A ∧ μ' 797 0 = 0 ∧ μ' 795 0 = b2i b) hI hA (by rw [hs]; exact fun μ' a _ c => ⟨rfl, a, (c rfl).2.trans h0, (c rfl).1⟩)
  unfold d_Lw_isNormalForm d_Lw_isNormalForm_j15 at h
  refine oB_of h ?_ hK
  · intro k μx hx
    revert hx
    (repeat' split) <;> first | exact fun h => h.elim | exact fun h => absurd h.1 (by decide)
theorem o_areEqual {v1 v2 : Int} {b : Bool} {K : Bool → LSt → Prop} (hI : CI s.2 A) (hA : AOK A) (h0 : s.2 797 0 = 0) (hs : sp_areEqual A v1 v2 = (0, b2i b)) (hK : ∀ μ', CI μ' A → μ' 797 0 = 0 → K b (s.1, μ')) : oB (d_OB_areEqual v1 v2 s.2) s K := by
  have h := w_areEqual (Q := fun e μ' => e = 0 ∧ CI μ' A ∧ μ' 797 0 = 0 ∧ μ' 795 0 = b2i b) hI hA (by rw [hs]; exact fun μ' a _ c => ⟨rfl, a, (c rfl).2.trans h0, (c rfl).1⟩)
  unfold d_Lw_areEqual d_Lw_areEqual_j16 at h
  refine oB_of h ?_ hK
  · intro k μx hx
    revert hx
    (repeat' split) <;> first | exact fun h => h.elim | exact fun h => absurd h.1 (by decide)
theorem o_matches {v1 v2 v3 : Int} {b : Bool} {K : Bool → LSt → Prop} (hI : CI s.2 A) (hA : AOK A) (h0 : s.2 797 0 = 0) (hs : sp_matches A v1 v2 v3 = (0, b2i b)) (hK : ∀ μ', CI μ' A → μ' 797 0 = 0 → K b (s.1, μ')) : oB (d_OB_matches v1 v2 v3 s.2) s K := by
  have h := w_matches (Q := fun e μ' => e = 0 ∧ CI μ' A ∧ μ' 797 0 = 0 ∧ μ' 795 0 = b2i b) hI hA (by rw [hs]; exact fun μ' a _ c => ⟨rfl, a, (c rfl).2.trans h0, (c rfl).1⟩)
  unfold d_Lw_matches d_Lw_matches_j18 at h
  refine oB_of h ?_ hK
  · intro k μx hx
    revert hx
    (repeat' split) <;> first | exact fun h => h.elim | exact fun h => absurd h.1 (by decide)
theorem o_unify {v1 v2 : Int} {b : Bool} {K : Bool → LSt → Prop} (hI : CI s.2 A) (hA : AOK A) (h0 : s.2 797 0 = 0) (hs : sp_unify A v1 v2 = (0, b2i b)) (hK : ∀ μ', CI μ' A → μ' 797 0 = 0 → K b (s.1, μ')) : oB (d_OB_unify v1 v2 s.2) s K := by
  have h := w_unify (Q := fun e μ' => e = 0 ∧ CI μ' A ∧ μ' 797 0 = 0 ∧ μ' 795 0 = b2i b) hI hA (by rw [hs]; exact fun μ' a _ c => ⟨rfl, a, (c rfl).2.trans h0, (c rfl).1⟩)
  unfold d_Lw_unify d_Lw_unify_j16 at h
  refine oB_of h ?_ hK
  · intro k μx hx
    revert hx
    (repeat' split) <;> first | exact fun h => h.elim | exact fun h => absurd h.1 (by decide)
theorem o_stepInnermost {v1 : Int} {K : Int → LSt → Prop} (hI : CI s.2 A) (hA : AOK A) (h0 : s.2 797 0 = 0) (hs : sp_step true A v1 = (0, r, A')) (hK : ∀ μ', CI μ' A' → μ' 797 0 = 0 → K r (s.1, μ')) : oI (d_OB_stepInnermost v1 s.2) s K := by
  have h := w_stepInnermost (Q := fun e μ' => e = 0 ∧ CI μ' A' ∧ μ' 797 0 = 0 ∧ μ' 795 0 = r) hI hA (by rw [hs]; exact fun μ' a _ c => ⟨rfl, a, (c rfl).2.trans h0, (c rfl).1⟩)
  unfold d_Lw_stepInnermost at h
  refine oI_of h ?_ hK
  · intro k μx hx
    revert hx
    (repeat' split) <;> first | exact fun h => h.elim | exact fun h => absurd h.1 (by decide)
theorem o_stepOutermost {v1 : Int} {K : Int → LSt → Prop} (hI : CI s.2 A) (hA : AOK A) (h0 : s.2 797 0 = 0) (hs : sp_step false A v1 = (0, r, A')) (hK : ∀ μ', CI μ' A' → μ' 797 0 = 0 → K r (s.1, μ')) : oI (d_OB_stepOutermost v1 s.2) s K := by
  have h := w_stepOutermost (Q := fun e μ' => e = 0 ∧ CI μ' A' ∧ μ' 797 0 = 0 ∧ μ' 795 0 = r) hI hA (by rw [hs]; exact fun μ' a _ c => ⟨rfl, a, (c rfl).2.trans h0, (c rfl).1⟩)
  unfold d_Lw_stepOutermost at h
  refine oI_of h ?_ hK
  · intro k μx hx
    revert hx
    (repeat' split) <;> first | exact fun h => h.elim | exact fun h => absurd h.1 (by decide)
theorem o_normalize {v1 : Int} {K : Int → LSt → Prop} (hI : CI s.2 A) (hA : AOK A) (h0 : s.2 797 0 = 0) (hs : sp_normalize A v1 = (0, r, A')) (hK : ∀ μ', CI μ' A' → μ' 797 0 = 0 → K r (s.1, μ')) : oI (d_OB_normalize v1 s.2) s K := by
  have h := w_normalize (Q := fun e μ' => e = 0 ∧ CI μ' A' ∧ μ' 797 0 = 0 ∧ μ' 795 0 = r) hI hA (by rw [hs]; exact fun μ' a _ c => ⟨rfl, a, (c rfl).2.trans h0, (c rfl).1⟩)
  unfold d_Lw_normalize at h
  refine oI_of h ?_ hK
  · intro k μx hx
    revert hx
    (repeat' split) <;> first | exact fun h => h.elim | exact fun h => absurd h.1 (by decide)
theorem o_copySubterm {v1 v2 : Int} {K : Int → LSt → Prop} (hI : CI s.2 A) (hA : AOK A) (h0 : s.2 797 0 = 0) (hs : sp_copySubterm A v1 v2 = (0, r, A')) (hK : ∀ μ', CI μ' A' → μ' 797 0 = 0 → K r (s.1, μ')) : oI (d_OB_copySubterm v1 v2 s.2) s K := by
  have h := w_copySubterm (Q := fun e μ' => e = 0 ∧ CI μ' A' ∧ μ' 797 0 = 0 ∧ μ' 795 0 = r) hI hA (by rw [hs]; exact fun μ' a _ c => ⟨rfl, a, (c rfl).2.trans h0, (c rfl).1⟩)
  unfold d_Lw_copySubterm at h
  refine oI_of h ?_ hK
  · intro k μx hx
    revert hx
    (repeat' split) <;> first | exact fun h => h.elim | exact fun h => absurd h.1 (by decide)
theorem o_replaceSubterm {v1 v2 v3 : Int} {K : Int → LSt → Prop} (hI : CI s.2 A) (hA : AOK A) (h0 : s.2 797 0 = 0) (hs : sp_replaceSubterm A v1 v2 v3 = (0, r, A')) (hK : ∀ μ', CI μ' A' → μ' 797 0 = 0 → K r (s.1, μ')) : oI (d_OB_replaceSubterm v1 v2 v3 s.2) s K := by
  have h := w_replaceSubterm (Q := fun e μ' => e = 0 ∧ CI μ' A' ∧ μ' 797 0 = 0 ∧ μ' 795 0 = r) hI hA (by rw [hs]; exact fun μ' a _ c => ⟨rfl, a, (c rfl).2.trans h0, (c rfl).1⟩)
  unfold d_Lw_replaceSubterm at h
  refine oI_of h ?_ hK
  · intro k μx hx
    revert hx
    (repeat' split) <;> first | exact fun h => h.elim | exact fun h => absurd h.1 (by decide)
theorem o_swapRules {v1 v2 : Int} {K : Int → LSt → Prop} (hI : CI s.2 A) (hA : AOK A) (h0 : s.2 797 0 = 0) (hs : sp_swapRules A v1 v2 = (0, r, A')) (hK : ∀ μ', CI μ' A' → μ' 797 0 = 0 → K r (s.1, μ')) : oI (d_OB_swapRules v1 v2 s.2) s K := by
  have h := w_swapRules (Q := fun e μ' => e = 0 ∧ CI μ' A' ∧ μ' 797 0 = 0 ∧ μ' 795 0 = r) hI hA (by rw [hs]; exact fun μ' a _ c => ⟨rfl, a, (c rfl).2.trans h0, (c rfl).1⟩)
  unfold d_Lw_swapRules at h
  refine oI_of h ?_ hK
  · intro k μx hx
    revert hx
    (repeat' split) <;> first | exact fun h => h.elim | exact fun h => absurd h.1 (by decide)
theorem o_removeTerm {v1 : Int} {K : Int → LSt → Prop} (hI : CI s.2 A) (hA : AOK A) (h0 : s.2 797 0 = 0) (hs : sp_removeTerm A v1 = (0, r, A')) (hK : ∀ μ', CI μ' A' → μ' 797 0 = 0 → K r (s.1, μ')) : oI (d_OB_removeTerm v1 s.2) s K := by
  have h := w_removeTerm (Q := fun e μ' => e = 0 ∧ CI μ' A' ∧ μ' 797 0 = 0 ∧ μ' 795 0 = r) hI hA (by rw [hs]; exact fun μ' a _ c => ⟨rfl, a, (c rfl).2.trans h0, (c rfl).1⟩)
  unfold d_Lw_removeTerm at h
  refine oI_of h ?_ hK
  · intro k μx hx
    revert hx
    (repeat' split) <;> first | exact fun h => h.elim | exact fun h => absurd h.1 (by decide)
theorem o_undo {K : Int → LSt → Prop} (hI : CI s.2 A) (hA : AOK A) (h0 : s.2 797 0 = 0) (hs : sp_undo A = (0, r, A')) (hK : ∀ μ', CI μ' A' → μ' 797 0 = 0 → K r (s.1, μ')) : oI (d_OB_undo s.2) s K := by
  have h := w_undo (Q := fun e μ' => e = 0 ∧ CI μ' A' ∧ μ' 797 0 = 0 ∧ μ' 795 0 = r) hI hA (by rw [hs]; exact fun μ' a _ c => ⟨rfl, a, (c rfl).2.trans h0, (c rfl).1⟩)
  unfold d_Lw_undo at h
  refine oI_of h ?_ hK
  · intro k μx hx
    revert hx
    (repeat' split) <;> first | exact fun h => h.elim | exact fun h => absurd h.1 (by decide)
theorem o_saveState {v1 : Int} {K : Int → LSt → Prop} (hI : CI s.2 A) (hA : AOK A) (h0 : s.2 797 0 = 0) (hs : sp_saveState A v1 = (0, r, A')) (hK : ∀ μ', CI μ' A' → μ' 797 0 = 0 → K r (s.1, μ')) : oI (d_OB_saveState v1 s.2) s K := by
  have h := w_saveState (Q := fun e μ' => e = 0 ∧ CI μ' A' ∧ μ' 797 0 = 0 ∧ μ' 795 0 = r) hI hA (by rw [hs]; exact fun μ' a _ c => ⟨rfl, a, (c rfl).2.trans h0, (c rfl).1⟩)
  unfold d_Lw_saveState at h
  refine oI_of h ?_ hK
  · intro k μx hx
    revert hx
    (repeat' split) <;> first | exact fun h => h.elim | exact fun h => absurd h.1 (by decide)
theorem o_restoreState {v1 : Int} {K : Int → LSt → Prop} (hI : CI s.2 A) (hA : AOK A) (h0 : s.2 797 0 = 0) (hs : sp_restoreState A v1 = (0, r, A')) (hK : ∀ μ', CI μ' A' → μ' 797 0 = 0 → K r (s.1, μ')) : oI (d_OB_restoreState v1 s.2) s K := by
  have h := w_restoreState (Q := fun e μ' => e = 0 ∧ CI μ' A' ∧ μ' 797 0 = 0 ∧ μ' 795 0 = r) hI hA (by rw [hs]; exact fun μ' a _ c => ⟨rfl, a, (c rfl).2.trans h0, (c rfl).1⟩)
  unfold d_Lw_restoreState at h
  refine oI_of h ?_ hK
  · intro k μx hx
    revert hx
    (repeat' split) <;> first | exact fun h => h.elim | exact fun h => absurd h.1 (by decide)
theorem o_writeRule {v1 : Int} {K : Int → LSt → Prop} (hI : CI s.2 A) (hA : AOK A) (h0 : s.2 797 0 = 0) (hs : sp_writeRule A v1 = (0, r, A')) (hK : ∀ μ', CI μ' A' → μ' 797 0 = 0 → K r (s.1, μ')) : oI (d_OB_writeRule v1 s.2) s K := by
  have h := w_writeRule (Q := fun e μ' => e = 0 ∧ CI μ' A' ∧ μ' 797 0 = 0 ∧ μ' 795 0 = r) hI hA (by rw [hs]; exact fun μ' a _ c => ⟨rfl, a, (c rfl).2.trans h0, (c rfl).1⟩)
  unfold d_Lw_writeRule at h
  refine oI_of h ?_ hK
  · intro k μx hx
    revert hx
    (repeat' split) <;> first | exact fun h => h.elim | exact fun h => absurd h.1 (by decide)
theorem o_parseSystem {v1 : Int} {K : Int → LSt → Prop} (hI : CI s.2 A) (hA : AOK A) (h0 : s.2 797 0 = 0) (hs : sp_parseSystem A v1 = (0, r, A')) (hK : ∀ μ', CI μ' A' → μ' 797 0 = 0 → K r (s.1, μ')) : oI (d_OB_parseSystem v1 s.2) s K := by
  have h := w_parseSystem (Q := fun e μ' => e = 0 ∧ CI μ' A' ∧ μ' 797 0 = 0 ∧ μ' 795 0 = r) hI hA (by rw [hs]; exact fun μ' a _ c => ⟨rfl, a, (c rfl).2.trans h0, (c rfl).1⟩)
  unfold d_Lw_parseSystem at h
  refine oI_of h ?_ hK
  · intro k μx hx
    revert hx
    (repeat' split) <;> first | exact fun h => h.elim | exact fun h => absurd h.1 (by decide)
/-- how much can be undone -/
theorem o_undoCount {K : Int → Prop} (hI : CI s.2 A) (hK : K ((aH A).length : Int)) : opI (fun Q _ => d_OB_undoCount s.2 Q) K := by
  refine ⟨fun z => z = ((aH A).length : Int), fun _ _ => False, hI.2.2.2.2.2.2.2.1, fun z hz => ?_, fun _ _ h => h⟩
  rw [hz]
  exact hK
end L97a
