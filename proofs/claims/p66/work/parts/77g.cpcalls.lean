/-! THE CLASS: the calls of critical pairs -/
noncomputable def prG (A : AS) (v : Int) : Pr1 := (prs (aR A)).getD v.toNat ((0, 0, 0), [], [])
noncomputable def prI (A : AS) (v : Int) : Bool := decide (0 ≤ v ∧ v < ((prs (aR A)).length : Int))
noncomputable def sp_criticalPairCount (A : AS) : Int × Int := g1 (aL A) true ((prs (aR A)).length : Int)
noncomputable def sp_pairOuterRule (A : AS) (v : Int) : Int × Int := g1 (aL A) (prI A v) (((prG A v).1.1 : Nat) : Int)
noncomputable def sp_pairInnerRule (A : AS) (v : Int) : Int × Int := g1 (aL A) (prI A v) (((prG A v).1.2.1 : Nat) : Int)
noncomputable def sp_pairPosition (A : AS) (v : Int) : Int × Int := g1 (aL A) (prI A v) (((prG A v).1.2.2 : Nat) : Int)
noncomputable def sp_pairJoins (A : AS) (v : Int) : Int × Int := g1 (aL A) (prI A v) (b2i (mee (aR A) 50 (prG A v).2.1 (prG A v).2.2))
def ujn (rs : List Rl2) : List Pr1 → Nat
  | [] => 0
  | X :: D => (if mee rs 50 X.2.1 X.2.2 = true then 0 else 1) + ujn rs D
noncomputable def sp_unjoinedPairs (A : AS) : Int × Int := g1 (aL A) true ((ujn (aR A) (prs (aR A)) : Nat) : Int)
theorem ujn_le (rs : List Rl2) : ∀ D : List Pr1, ujn rs D ≤ D.length := by
  intro D
  induction D with
  | nil => exact Nat.le_refl _
  | cons X D ih =>
    rw [ujn, List.length_cons]
    split <;> omega
theorem drop_pr {D : List Pr1} {k : Nat} (h : k < D.length) : D.drop k = D.getD k ((0, 0, 0), [], []) :: D.drop (k + 1) := by
  rw [List.drop_eq_getElem_cons h, List.getD_eq_getElem?_getD, List.getElem?_eq_getElem h]
  rfl
theorem ujn_step {rs : List Rl2} {D : List Pr1} {k : Nat} (h : k < D.length) : ujn rs (D.drop k) = (if mee rs 50 (D.getD k ((0, 0, 0), [], [])).2.1 (D.getD k ((0, 0, 0), [], [])).2.2 = true then 0 else 1) + ujn rs (D.drop (k + 1)) := by
  rw [drop_pr h, ujn]
section G77
variable {μ : Mem} {A : AS} {v : Int}
theorem WQ.okP {Q : Int → Mem → Prop} {r z : Int} {μ1 : Mem} (h : WQ μ A (g1 true true r) Q) (hI : CI μ1 A) (hf : Fz μ μ1) (hz : z = l64 r) : Q 0 (mup μ1 795 0 z) :=
  h _ (hI.mup (by decide)) ⟨fun b h1 h2 => by rw [mup_r (by omega)]; exact hf b (by omega), by rw [mup_r (by omega), hf 797 (by omega)]; omega, by rw [mup_r (by omega), hf 797 (by omega)]; omega⟩ (fun _ => ⟨by first | (rw [mup_s]; done) | (rw [mup_s]; exact hz), by rw [mup_r (by omega), hf 797 (by omega)]⟩)
theorem fz2 {μ1 : Mem} (hf : ∀ b, b < 139 ∨ 244 ≤ b → μ1 b = μ b) : Fz μ μ1 := fun b hb => hf b (by omega)
theorem w_criticalPairCount {Q : Int → Mem → Prop} (hI : CI μ A) (hA : AOK A) (h : WQ μ A (sp_criticalPairCount A) Q) : d_Lw_criticalPairCount μ Q := by
  unfold d_Lw_criticalPairCount d_OB_criticalPairCount
  unfold sp_criticalPairCount at h
  refine c_reqSys hI (fun e => ?_) fun e => ?_
  · rw [e] at h
    exact h.t1 hI Fq.rfl'
  · rw [e] at h
    refine c_refresh hI hA fun μ1 i1 z1 d1 f1 => ?_
    rw [d1.1]
    exact h.okP i1 (fz2 f1) rfl
theorem c147r : rcells 147 5 := ⟨by decide +kernel, by decide +kernel, by omega⟩
theorem c_pjoins {i : Nat} {Q : Bool → Mem → Prop} (hv : v = (i : Int)) (hI : CI μ A) (hA : AOK A) (h0 : μ 139 0 = 0) (hD : CPD μ (aR A) (prs (aR A))) (hi : i < (prs (aR A)).length)
    (k : ∀ μ', CI μ' A → μ' 139 0 = 0 → CPD μ' (aR A) (prs (aR A)) → (∀ b, b < 139 ∨ 244 ≤ b → μ' b = μ b) → Q (mee (aR A) 50 ((prs (aR A)).getD i ((0, 0, 0), [], [])).2.1 ((prs (aR A)).getD i ((0, 0, 0), [], [])).2.2) μ') : d_PairList_joins 5 v μ Q := by
  unfold d_PairList_joins
  have hl := prs_len (aR A)
  obtain ⟨g1, g2, g3, g4, g5, g6⟩ := hD.2 i hi
  refine c_pHas hv (by omega) ?_
  rw [if_pos rfl, show v.toNat = i by omega]
  refine ⟨by omega, ?_⟩
  -- the verdict stands
  have fin : ∀ μ1, CI μ1 A → μ1 139 0 = 0 → CPD μ1 (aR A) (prs (aR A)) → (∀ b, b < 139 ∨ 244 ≤ b → μ1 b = μ b) → μ1 158 i = (if mee (aR A) 50 ((prs (aR A)).getD i ((0, 0, 0), [], [])).2.1 ((prs (aR A)).getD i ((0, 0, 0), [], [])).2.2 = true then 1 else 2) → d_PairList_joins_j55 v μ1 Q := by
    intro μ1 i1 z1 d1 f1 hz
    unfold d_PairList_joins_j55
    rw [show v.toNat = i by omega, hz]
    refine ⟨by omega, ?_⟩
    have := k μ1 i1 z1 d1 f1
    cases hm : mee (aR A) 50 ((prs (aR A)).getD i ((0, 0, 0), [], [])).2.1 ((prs (aR A)).getD i ((0, 0, 0), [], [])).2.2 with
    | true =>
      rw [hm] at this
      rw [if_pos (by rw [if_pos rfl])]
      exact this
    | false =>
      rw [hm] at this
      rw [if_neg (by rw [if_neg (by decide)]; decide)]
      exact this
  by_cases hz : μ 158 i = 0
  · rw [if_pos hz]
    refine c_firstTerm hv (by omega) (c_secondTerm hv (by omega) ?_)
    obtain ⟨q1, q2, q3, q4⟩ := f12 (n := i) (by omega)
    have hf := f_eq i
    have hok := prs_ok hA.rules _ (getD_mem (d := ((0, 0, 0), [], [])) hi)
    refine c_Rewriter_meet (n := 50) (m := 16) c147r hI.2.2.1.2.1 hI.2.2.1.1 hA.rules hA.ars g4 q3 (by omega) hok.1 g5 q4 (by omega) hok.2 (by omega) fun μ1 hF => ?_
    have fin2 : ∀ (t : Int), t = (if mee (aR A) 50 ((prs (aR A)).getD i ((0, 0, 0), [], [])).2.1 ((prs (aR A)).getD i ((0, 0, 0), [], [])).2.2 = true then 1 else 2) → d_PairList_joins_j54 v v t μ1 Q := by
      intro t ht
      unfold d_PairList_joins_j54
      rw [show v.toNat = i by omega]
      refine ⟨by omega, ?_⟩
      have r : ∀ b, b ≠ 158 → b < 148 ∨ 155 ≤ b → mup μ1 158 i t b = μ b := fun b h1 h2 => by rw [mup_r h1, hF b (by omega)]
      have hd : CPD (mup μ1 158 i t) (aR A) (prs (aR A)) := by
        refine ⟨by rw [r 139 (by omega) (by omega)]; exact hD.1, fun j hj => ?_⟩
        have hfj := f_eq j
        obtain ⟨k1, k2, k3, k4, k5, k6⟩ := hD.2 j hj
        rw [r 155 (by omega) (by omega), r 156 (by omega) (by omega), r 157 (by omega) (by omega)]
        refine ⟨k1, k2, k3, k4.fr (r _ (by omega) (by omega)) (r _ (by omega) (by omega)), k5.fr (r _ (by omega) (by omega)) (r _ (by omega) (by omega)), ?_⟩
        by_cases e : j = i
        · rw [e, mup_s]
          exact Or.inr ht
        · rw [mup_k e, hF 158 (by omega)]
          exact k6
      have hr : ∀ b, b < 139 ∨ 244 ≤ b → mup μ1 158 i t b = μ b := fun b hb => r b (by omega) (by omega)
      have z1 : mup μ1 158 i t 139 0 = 0 := by rw [r 139 (by omega) (by omega)]; exact h0
      exact fin _ (hI.prs hr (Or.inr ⟨z1, hd.cpv⟩)) z1 hd hr (by rw [mup_s]; exact ht)
    cases hm : mee (aR A) 50 ((prs (aR A)).getD i ((0, 0, 0), [], [])).2.1 ((prs (aR A)).getD i ((0, 0, 0), [], [])).2.2 with
    | true =>
      rw [if_pos rfl]
      exact fin2 1 (by rw [hm, if_pos rfl])
    | false =>
      rw [if_neg (by decide)]
      exact fin2 2 (by rw [hm, if_neg (by decide)])
  · rw [if_neg hz]
    refine fin μ hI h0 hD (fun _ _ => rfl) ?_
    rcases g6 with q | q
    · exact absurd q hz
    · exact q
theorem w_unjoinedPairs {Q : Int → Mem → Prop} (hI : CI μ A) (hA : AOK A) (h : WQ μ A (sp_unjoinedPairs A) Q) : d_Lw_unjoinedPairs μ Q := by
  unfold d_Lw_unjoinedPairs d_OB_unjoinedPairs
  unfold sp_unjoinedPairs at h
  refine c_reqSys hI (fun e => ?_) fun e => ?_
  · rw [e] at h
    exact h.t1 hI Fq.rfl'
  · rw [e] at h
    have hl := prs_len (aR A)
    have hul := ujn_le (aR A) (prs (aR A))
    refine c_refresh hI hA fun μ1 i1 z1 d1 f1 => ?_
    refine i_OB_unjoinedPairs_l19 (Inv := fun v1 v2 μ2 => ∃ (n k : Nat), v1 = n ∧ v2 = k ∧ k ≤ (prs (aR A)).length ∧ n + ujn (aR A) ((prs (aR A)).drop k) = ujn (aR A) (prs (aR A)) ∧ CI μ2 A ∧ μ2 139 0 = 0 ∧ CPD μ2 (aR A) (prs (aR A)) ∧ Fz μ μ2) (fun _ v2 _ => (prs (aR A)).length - v2.toNat) ?_ 0 0 μ1 ⟨0, 0, rfl, rfl, Nat.zero_le _, by rw [List.drop_zero, Nat.zero_add], i1, z1, d1, fz2 f1⟩
    rintro v1 v2 μ2 ⟨n, k, e1, e2, hk, hn, i2, z2, d2, f2⟩ W hW
    unfold d_OB_unjoinedPairs_b19
    rw [d2.1]
    by_cases hkl : k < (prs (aR A)).length
    · rw [if_pos (by omega)]
      rw [ujn_step hkl] at hn
      refine c_pjoins e2 i2 hA z2 d2 hkl fun μ3 i3 z3 d3 f3 => ?_
      have hz : Fz μ μ3 := f2.tr (fz2 f3)
      unfold d_OB_unjoinedPairs_j48
      have ew : wr (v2 + 1) = ((k + 1 : Nat) : Int) := by rw [wr_id (by omega) (by omega)]; omega
      have ew1 : wr (v1 + 1) = ((n + 1 : Nat) : Int) := by rw [wr_id (by omega) (by omega)]; omega
      rw [ew, ew1]
      cases hm : mee (aR A) 50 ((prs (aR A)).getD k ((0, 0, 0), [], [])).2.1 ((prs (aR A)).getD k ((0, 0, 0), [], [])).2.2 with
      | true =>
        rw [hm, if_pos rfl] at hn
        rw [if_pos rfl]
        exact hW _ _ _ ⟨n, k + 1, e1, rfl, by omega, by omega, i3, z3, d3, hz⟩ (by omega)
      | false =>
        rw [hm, if_neg (by decide)] at hn
        rw [if_neg (by decide)]
        exact hW _ _ _ ⟨n + 1, k + 1, rfl, rfl, by omega, by omega, i3, z3, d3, hz⟩ (by omega)
    · rw [if_neg (by omega)]
      rw [List.drop_eq_nil_of_le (by omega), show ujn (aR A) [] = 0 from rfl, Nat.add_zero] at hn
      rw [e1, hn]
      exact h.okP i2 f2 rfl
noncomputable def wrP (sy : Sy) (X : Pr1) : List Int := wrt sy X.2.1 [] ++ [60] ++ [62] ++ wrt sy X.2.2 []
noncomputable def sp_writePair (A : AS) (v : Int) : Int × Int × AS := g4 (aL A) (prI A v) (some (((wrP (aS A) (prG A v)).length : Int), wO A (wrP (aS A) (prG A v)))) A
end G77

