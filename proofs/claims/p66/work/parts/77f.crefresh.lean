/-! THE CLASS: the pairs are found -/
def CPD (μ : Mem) (rs : List Rl2) (D : List Pr1) : Prop := μ 139 1 = (D.length : Int) ∧ ∀ i, i < D.length → μ 155 i = ((D.getD i ((0, 0, 0), [], [])).1.1 : Nat) ∧ μ 156 i = ((D.getD i ((0, 0, 0), [], [])).1.2.1 : Nat) ∧ μ 157 i = ((D.getD i ((0, 0, 0), [], [])).1.2.2 : Nat) ∧ IsT μ (f1 i) (D.getD i ((0, 0, 0), [], [])).2.1 ∧ IsT μ (f2 i) (D.getD i ((0, 0, 0), [], [])).2.2 ∧ (μ 158 i = 0 ∨ μ 158 i = (if mee rs 50 (D.getD i ((0, 0, 0), [], [])).2.1 (D.getD i ((0, 0, 0), [], [])).2.2 = true then 1 else 2))
theorem CPD.cpv {μ : Mem} {rs : List Rl2} (h : CPD μ rs (prs rs)) : CPv μ rs := h
theorem CPv.cpd {μ : Mem} {rs : List Rl2} (h : CPv μ rs) : CPD μ rs (prs rs) := h
theorem CPD.fb {μ μ1 : Mem} {rs : List Rl2} {D : List Pr1} {n : Nat} (h : CPD μ rs D) (hn : D.length = n) (hl : n ≤ 20) (hF : FB n μ μ1) : CPD μ1 rs D := by
  have hf := f_eq n
  unfold CPD
  rw [hF 139 (by omega), hF 155 (by omega), hF 156 (by omega), hF 157 (by omega), hF 158 (by omega)]
  refine ⟨h.1, fun i hi => ?_⟩
  have hfi := f_eq i
  obtain ⟨g1, g2, g3, g4, g5, g6⟩ := h.2 i hi
  exact ⟨g1, g2, g3, g4.fr (hF _ (by omega)) (hF _ (by omega)), g5.fr (hF _ (by omega)) (hF _ (by omega)), g6⟩
theorem getD_snoc {D : List Pr1} {X d : Pr1} {i : Nat} (hi : i ≤ D.length) : (D ++ [X]).getD i d = if i = D.length then X else D.getD i d := by
  by_cases e : i = D.length
  · rw [if_pos e, getD_app_r (by omega), e, Nat.sub_self]
    rfl
  · rw [if_neg e, getD_app_l (by omega)]
/-- a pair is noted -/
def kpM (μ : Mem) (n : Nat) (v1 v2 v3 : Int) : Mem := mup (mup (mup (mup (mup μ 155 n v1) 156 n v2) 157 n v3) 158 n 0) 139 1 ((n + 1 : Nat) : Int)
theorem kpM_r {μ : Mem} {n b : Nat} {v1 v2 v3 : Int} (h : b ≠ 139 ∧ b ≠ 155 ∧ b ≠ 156 ∧ b ≠ 157 ∧ b ≠ 158) : kpM μ n v1 v2 v3 b = μ b := by
  unfold kpM
  rw [mup_r h.1, mup_r h.2.2.2.2, mup_r h.2.2.2.1, mup_r h.2.2.1, mup_r h.2.1]
theorem kpM_g {μ : Mem} {n j : Nat} {v1 v2 v3 : Int} : kpM μ n v1 v2 v3 155 j = (if j = n then v1 else μ 155 j) ∧ kpM μ n v1 v2 v3 156 j = (if j = n then v2 else μ 156 j) ∧ kpM μ n v1 v2 v3 157 j = (if j = n then v3 else μ 157 j) ∧ kpM μ n v1 v2 v3 158 j = (if j = n then 0 else μ 158 j) ∧ kpM μ n v1 v2 v3 139 1 = ((n + 1 : Nat) : Int) ∧ kpM μ n v1 v2 v3 139 0 = μ 139 0 := by
  unfold kpM
  refine ⟨?_, ?_, ?_, ?_, mup_s, ?_⟩
  · rw [mup_r (by decide), mup_r (by decide), mup_r (by decide), mup_r (by decide), mup_a]
  · rw [mup_r (by decide), mup_r (by decide), mup_r (by decide), mup_a, mup_r (by decide)]
  · rw [mup_r (by decide), mup_r (by decide), mup_a, mup_r (by decide), mup_r (by decide)]
  · rw [mup_r (by decide), mup_a, mup_r (by decide), mup_r (by decide), mup_r (by decide)]
  · rw [mup_k (by decide), mup_r (by decide), mup_r (by decide), mup_r (by decide), mup_r (by decide)]
theorem CPD.add {μ μ1 : Mem} {rs : List Rl2} {D : List Pr1} {n i j p : Nat} {X : List Int × List Int} (h : CPD μ rs D) (hn : D.length = n) (hl : n < 20) (hF : FB n μ μ1) (t1 : IsT μ1 (f1 n) X.1) (t2 : IsT μ1 (f2 n) X.2) : CPD (kpM μ1 n (i : Int) (j : Int) (p : Int)) rs (D ++ [((i, j, p), X)]) := by
  have hf := f_eq n
  have h1 := h.fb hn (by omega) hF
  refine ⟨by rw [(kpM_g (j := 0)).2.2.2.2.1, List.length_append, List.length_singleton, hn], fun a ha => ?_⟩
  rw [List.length_append, List.length_singleton] at ha
  have hfa := f_eq a
  have rw1 : kpM μ1 n (i : Int) (j : Int) (p : Int) (f1 a) = μ1 (f1 a) := kpM_r (by omega)
  have rw2 : kpM μ1 n (i : Int) (j : Int) (p : Int) (f1 a + 1) = μ1 (f1 a + 1) := kpM_r (by omega)
  have rw3 : kpM μ1 n (i : Int) (j : Int) (p : Int) (f2 a) = μ1 (f2 a) := kpM_r (by omega)
  have rw4 : kpM μ1 n (i : Int) (j : Int) (p : Int) (f2 a + 1) = μ1 (f2 a + 1) := kpM_r (by omega)
  rw [kpM_g.1, kpM_g.2.1, kpM_g.2.2.1, kpM_g.2.2.2.1, getD_snoc (by omega)]
  by_cases e : a = n
  · rw [if_pos e, if_pos e, if_pos e, if_pos e, if_pos (by omega)]
    subst e
    exact ⟨rfl, rfl, rfl, t1.fr rw1 rw2, t2.fr rw3 rw4, Or.inl rfl⟩
  · rw [if_neg e, if_neg e, if_neg e, if_neg e, if_neg (by omega)]
    obtain ⟨g1, g2, g3, g4, g5, g6⟩ := h1.2 a (by omega)
    exact ⟨g1, g2, g3, g4.fr rw1 rw2, g5.fr rw3 rw4, g6⟩
theorem c_pkeep {μ : Mem} {n : Nat} {v1 v2 v3 : Int} {Q : Mem → Prop} (hcnt : μ 139 1 = (n : Int)) (hn : n < 20) (k : Q (kpM μ n v1 v2 v3)) : d_PairList_keep v1 v2 v3 μ Q := by
  unfold d_PairList_keep
  refine c_pHas hcnt hn ?_
  rw [if_pos rfl]
  have r1 : ∀ (m : Mem) (k : Nat) (z : Int), mup m 155 k z 139 = m 139 := fun m k z => mup_r (by decide)
  have r2 : ∀ (m : Mem) (k : Nat) (z : Int), mup m 156 k z 139 = m 139 := fun m k z => mup_r (by decide)
  have r3 : ∀ (m : Mem) (k : Nat) (z : Int), mup m 157 k z 139 = m 139 := fun m k z => mup_r (by decide)
  have r4 : ∀ (m : Mem) (k : Nat) (z : Int), mup m 158 k z 139 = m 139 := fun m k z => mup_r (by decide)
  have ew : wr ((n : Int) + 1) = ((n + 1 : Nat) : Int) := by rw [wr_id (by omega) (by omega)]; omega
  simp only [r1, r2, r3, r4, hcnt, Int.toNat_natCast, ew]
  exact ⟨by omega, by omega, by omega, by omega, k⟩
theorem c_pHasF {v : Int} {μ : Mem} {Q : Bool → Prop} (hv : 20 ≤ v) (h : Q false) : d_PairList_has v μ Q := by
  unfold d_PairList_has
  rw [if_neg (by omega), if_neg (by omega)]
  exact h
theorem head_ne {L1 L2 : List Int} {k : Nat} (hk : k < L1.length) (h2 : 0 < L2.length) (hc : 0 ≤ L1.getD k 0) (hd : 0 ≤ L2.getD 0 0) (hne : L1.getD k 0 ≠ L2.getD 0 0) : ∀ σ, ¬ isU σ (sb L1 k) (shv L2) := by
  intro σ hu
  have e := hu.2
  rw [sb_node hk, sv_cons, if_neg (by omega)] at e
  cases L2 with
  | nil => exact absurd h2 (by simp)
  | cons d r =>
    have hd' : ¬ d < 0 := by have : 0 ≤ d := hd; omega
    rw [show shv (d :: r) = (if d < 0 then d - 8 else d) :: shv r from rfl, if_neg hd', sv_cons, if_neg hd'] at e
    have := (List.cons.inj e).1
    exact hne this
theorem pr2_n {rs : List Rl2} {i j k : Nat} (h : 0 ≤ (rs.getD i ([], [])).1.getD k 0 → pr1 (rs.getD i ([], [])) (rs.getD j ([], [])) k = none) : pr2 rs (i, j, k) = none := by
  unfold pr2
  dsimp only
  by_cases e : 0 ≤ (rs.getD i ([], [])).1.getD k 0
  · rw [if_pos e, h e]
  · rw [if_neg e]
theorem pr2_s {rs : List Rl2} {i j k : Nat} {X : List Int × List Int} (h0 : 0 ≤ (rs.getD i ([], [])).1.getD k 0) (h : pr1 (rs.getD i ([], [])) (rs.getD j ([], [])) k = some X) : pr2 rs (i, j, k) = some ((i, j, k), X) := by
  unfold pr2
  dsimp only
  rw [if_pos h0, h]
def RIv (μ μ1 : Mem) (rs : List Rl2) (i j k : Nat) : Prop := (∀ b, b < 139 ∨ 244 ≤ b → μ1 b = μ b) ∧ μ1 139 0 = 0 ∧ CPD μ1 rs (FD rs (PLc rs i j k))
section F77
variable {μ : Mem} {A : AS}
theorem CI.prs {μ' : Mem} (h : CI μ A) (hf : ∀ b, b < 139 ∨ 244 ≤ b → μ' b = μ b) (hp : CPa μ' (aR A)) : CI μ' A := by
  obtain ⟨h1, h2, h3, ⟨h4, h5⟩, ⟨h6, h7⟩, h8, h9, h10⟩ := h
  have e0 := hf 0 (by omega)
  exact ⟨by rw [e0]; exact h1, h2.fr fun b g1 g2 => hf b (by omega), Cst.fr (c := aC A) h3 rt_st.1 fun b g1 g2 => hf b (by omega), ⟨h4.fr rt_st.2.1 (by rw [e0]) fun b g1 g2 => hf b (by omega), h5.fr rt_st.2.2.1 (by rw [e0]) fun b g1 g2 => hf b (by omega)⟩, ⟨h6.fr (hf _ (by omega)) (hf _ (by omega)), h7.fr fun b g1 g2 => hf b (by omega)⟩, hp, h9.fr (hf _ (by omega)) (hf _ (by omega)), h10.fr fun b g1 g2 => hf b (by omega)⟩
theorem CI.rows (hI : CI μ A) (h6 : (aR A).length ≤ 6) {μ1 : Mem} (hf : ∀ b, b < 139 ∨ 244 ≤ b → μ1 b = μ b) {i : Nat} (hi : i < (aR A).length) : IsT μ1 (dp (μ1 (rc 5 i) 0)) ((aR A).getD i ([], [])).1 ∧ IsT μ1 (dp (μ1 (rc 5 i) 1)) ((aR A).getD i ([], [])).2 ∧ dp (μ1 (rc 5 i) 0) < 100 ∧ dp (μ1 (rc 5 i) 1) < 100 := by
  have hrc : rc 5 i < 100 := by unfold rc; omega
  rw [hf (rc 5 i) (by omega)]
  obtain ⟨a1, b1, g1, g2, g3, _⟩ := hI.2.2.1.1.side rt_st.1 (i := i) (j := 0) (by omega) (by omega)
  obtain ⟨a2, b2, k1, k2, k3, _⟩ := hI.2.2.1.1.side rt_st.1 (i := i) (j := 1) (by omega) (by omega)
  exact ⟨(hI.ruleL hi).fr (hf _ (by omega)) (hf _ (by omega)), (hI.ruleR hi).fr (hf _ (by omega)) (hf _ (by omega)), by omega, by omega⟩
theorem c_refreshP {i j : Nat} {v2 v4 : Int} {W20 W37 : Int → Mem → Prop} {Q : Mem → Prop} (hI : CI μ A) (hA : AOK A) (h2 : v2 = (i : Int)) (h4 : v4 = (j : Int)) (hi : i < (aR A).length) (hj : j < (aR A).length)
    (hW : ∀ μ', RIv μ μ' (aR A) i (j + 1) 0 → W37 ((j + 1 : Nat) : Int) μ') (k0 : Nat) (v6 : Int) (h6 : v6 = (k0 : Int)) (μ2 : Mem) (hk0 : k0 ≤ len1 (aR A) i) (hij : i = j → 1 ≤ k0) (hR : RIv μ μ2 (aR A) i j k0) :
    d_PairList_refresh_l67 5 v2 (rc 5 i) v4 (rc 5 j) v6 μ2 W20 W37 Q := by
  have r6 := hA.r6
  have oi := hA.rule hi
  have oj := hA.rule hj
  refine i_PairList_refresh_l67 (Inv := fun v6 μ3 => ∃ k : Nat, v6 = k ∧ k ≤ len1 (aR A) i ∧ (i = j → 1 ≤ k) ∧ RIv μ μ3 (aR A) i j k) (fun v6 _ => len1 (aR A) i - v6.toNat) ?_ v6 μ2 ⟨k0, h6, hk0, hij, hR⟩
  rintro v6 μ3 ⟨k, e6, hk, hij1, hR3⟩ W67 hW67
  unfold d_PairList_refresh_b67
  obtain ⟨L1, L2, d1, d2⟩ := hI.rows r6 hR3.1 hi
  obtain ⟨J1, J2, d3, d4⟩ := hI.rows r6 hR3.1 hj
  have el : len1 (aR A) i = ((aR A).getD i ([], [])).1.length := rfl
  have h12 := oi.1.2.1
  rw [L1.1]
  by_cases hkl : k < ((aR A).getD i ([], [])).1.length
  · rw [if_pos (by omega), e6]
    have hj0 := wl_len (d := 0) oj.1.1
    refine c_Term_getN L1 hkl (c_Term_getN (k := 0) J1 hj0 ?_)
    have next : ∀ μ4, RIv μ μ4 (aR A) i j (k + 1) → d_PairList_refresh_j132 5 v2 (rc 5 i) v4 (rc 5 j) (k : Int) μ4 W20 W37 W67 Q := by
      intro μ4 hR4
      unfold d_PairList_refresh_j132
      have n1 : k + 1 ≤ len1 (aR A) i := Nat.succ_le_of_lt hkl
      have n2 : len1 (aR A) i - (((k + 1 : Nat) : Int)).toNat < len1 (aR A) i - v6.toNat := by
        rw [Int.toNat_natCast, e6, Int.toNat_natCast]
        exact Nat.sub_lt_sub_left hkl (Nat.lt_succ_self k)
      have ew : wr ((k : Int) + 1) = ((k + 1 : Nat) : Int) := by rw [wr_id (by omega) (by omega)]; omega
      rw [ew]
      exact hW67 _ _ ⟨k + 1, rfl, n1, fun _ => Nat.succ_le_succ (Nat.zero_le k), hR4⟩ n2
    have hPk : PLc (aR A) i j (k + 1) = PLc (aR A) i j k ++ [(i, j, k)] := by
      rw [PLc_k, if_neg]
      rintro ⟨a, b⟩
      have := hij1 a
      omega
    have hl20 := FD_len (aR A) (PLc (aR A) i j k)
    by_cases heq : ((aR A).getD i ([], [])).1.getD k 0 = ((aR A).getD j ([], [])).1.getD 0 0
    · rw [if_pos heq]
      by_cases hn : (FD (aR A) (PLc (aR A) i j k)).length < 20
      · refine c_pHas hR3.2.2.1 hn ?_
        rw [if_pos rfl]
        have hrci : rc 5 i < 100 := by unfold rc; omega
        have hrcj : rc 5 j < 100 := by unfold rc; omega
        refine c_buildPair rfl hA.ars oi oj hkl hrci hrcj hn hR3.2.2.1 L1 L2 J1 J2 d1 d2 d3 d4 (fun μ4 X hX t1 t2 hF => ?_) (fun μ4 hX hF => ?_)
        · rw [if_pos rfl]
          have hf := f_eq (FD (aR A) (PLc (aR A) i j k)).length
          refine c_pkeep (by rw [hF 139 (by omega)]; exact hR3.2.2.1) hn ?_
          rw [h2, h4]
          refine next _ ⟨fun b hb => ?_, ?_, ?_⟩
          · rw [kpM_r (by omega), hF b (by omega)]
            exact hR3.1 b hb
          · rw [(kpM_g (j := 0)).2.2.2.2.2, hF 139 (by omega)]
            exact hR3.2.1
          · rw [hPk, FD_some hn (pr2_s (by rw [heq]; exact oj.2.2.1) hX)]
            exact hR3.2.2.add rfl hn hF t1 t2
        · rw [if_neg (by decide)]
          have hf := f_eq (FD (aR A) (PLc (aR A) i j k)).length
          refine next _ ⟨fun b hb => ?_, ?_, ?_⟩
          · rw [hF b (by omega)]
            exact hR3.1 b hb
          · rw [hF 139 (by omega)]
            exact hR3.2.1
          · rw [hPk, FD_none (pr2_n fun _ => hX)]
            exact hR3.2.2.fb rfl hl20 hF
      · refine c_pHasF (by rw [hR3.2.2.1]; omega) ?_
        rw [if_neg (by decide)]
        exact next μ3 ⟨hR3.1, hR3.2.1, by rw [hPk, FD_full (by omega)]; exact hR3.2.2⟩
    · rw [if_neg heq]
      exact next μ3 ⟨hR3.1, hR3.2.1, by rw [hPk, FD_none (pr2_n fun h0 => pr1_f (head_ne hkl hj0 h0 oj.2.2.1 heq))]; exact hR3.2.2⟩
  · rw [if_neg (by omega)]
    have ew : wr (v4 + 1) = ((j + 1 : Nat) : Int) := by rw [h4, wr_id (by omega) (by omega)]; omega
    rw [ew]
    have ek : k = len1 (aR A) i := by omega
    rw [ek] at hR3
    unfold RIv at hR3
    rw [PLc_j] at hR3
    exact hW μ3 hR3
theorem c_refresh {Q : Mem → Prop} (hI : CI μ A) (hA : AOK A) (k : ∀ μ', CI μ' A → μ' 139 0 = 0 → CPD μ' (aR A) (prs (aR A)) → (∀ b, b < 139 ∨ 244 ≤ b → μ' b = μ b) → Q μ') : d_PairList_refresh 5 μ Q := by
  unfold d_PairList_refresh
  by_cases h0 : μ 139 0 = 0
  · rw [if_pos h0]
    have h : CPv μ (aR A) := by
      rcases hI.2.2.2.2.2.1 with q | q
      · omega
      · exact q.2
    exact k μ hI h0 h.cpd fun _ _ => rfl
  · rw [if_neg h0]
    have r6 := hA.r6
    have e5 : ∀ μ1 i j k, RIv μ μ1 (aR A) i j k → μ1 5 0 = ((aR A).length : Int) := fun μ1 i j k hR => by rw [hR.1 5 (by omega)]; exact hI.2.2.1.2.1.1
    refine i_PairList_refresh_l20 (Inv := fun v2 μ1 => ∃ i : Nat, v2 = i ∧ i ≤ (aR A).length ∧ RIv μ μ1 (aR A) i 0 0) (fun v2 _ => (aR A).length - v2.toNat) ?_ 0 _ ⟨0, rfl, Nat.zero_le _, fun b hb => ?_, ?_, ?_⟩
    · rintro v2 μ1 ⟨i, e2, hi, hR⟩ W20 hW20
      unfold d_PairList_refresh_b20
      rw [e5 _ _ _ _ hR]
      by_cases h : i < (aR A).length
      · rw [if_pos (by omega), e2]
        refine c_State_rule (by omega) ?_
        refine i_PairList_refresh_l37 (Inv := fun v4 μ2 => ∃ j : Nat, v4 = j ∧ j ≤ (aR A).length ∧ RIv μ μ2 (aR A) i j 0) (fun v4 _ => (aR A).length - v4.toNat) ?_ 0 μ1 ⟨0, rfl, Nat.zero_le _, hR⟩
        rintro v4 μ2 ⟨j, e4, hj, hR2⟩ W37 hW37
        unfold d_PairList_refresh_b37
        rw [e5 _ _ _ _ hR2]
        by_cases hjl : j < (aR A).length
        · rw [if_pos (by omega), e4]
          refine c_State_rule (by omega) ?_
          unfold d_PairList_refresh_j65
          have nx : ∀ μ', RIv μ μ' (aR A) i (j + 1) 0 → W37 ((j + 1 : Nat) : Int) μ' := fun μ' hR' => hW37 _ _ ⟨j + 1, rfl, by omega, hR'⟩ (by omega)
          by_cases hij : i = j
          · rw [if_pos (by omega)]
            have hl := wl_len (d := 0) (hA.rule h).1.1
            refine c_refreshP hI hA rfl rfl h hjl nx 1 1 rfl μ2 hl (fun _ => Nat.le_refl _) ?_
            unfold RIv at hR2 ⊢
            rw [PLc_k, if_pos ⟨hij, rfl⟩, List.append_nil]
            exact hR2
          · rw [if_neg (by omega)]
            exact c_refreshP hI hA rfl rfl h hjl nx 0 0 rfl μ2 (Nat.zero_le _) (fun q => absurd q hij) hR2
        · rw [if_neg (by omega)]
          have ew : wr ((i : Int) + 1) = ((i + 1 : Nat) : Int) := by rw [wr_id (by omega) (by omega)]; omega
          rw [ew]
          have ej : j = (aR A).length := by omega
          unfold RIv at hR2
          rw [ej, PLc_i] at hR2
          exact hW20 _ _ ⟨i + 1, rfl, by omega, hR2⟩ (by omega)
      · rw [if_neg (by omega)]
        have ei : i = (aR A).length := by omega
        unfold RIv at hR
        rw [ei, PLc_all, FD_all] at hR
        exact k μ1 (hI.prs hR.1 (Or.inr ⟨hR.2.1, hR.2.2.cpv⟩)) hR.2.1 hR.2.2 hR.1
    · rw [mup_r (by omega), mup_r (by omega)]
    · rw [mup_k (by decide), mup_s]
    · rw [PLc_0, FD_nil]
      exact ⟨mup_s, fun i hi => absurd hi (by simp)⟩
end F77

