/-! THE CLASS: terms are read -/
/-- rows that reading a term to the row a may use; the error stays -/
def FT (a : Nat) (μ μ' : Mem) : Prop := (∀ b, b ≠ 72 → b ≠ 138 → b ≠ a → b ≠ a + 1 → μ' b = μ b) ∧ ∀ j, j ≠ 9 → j ≠ 10 → j ≠ 11 → μ' 72 j = μ 72 j
/-- the same, with an error -/
def FE (a : Nat) (μ μ' : Mem) : Prop := (∀ b, b ≠ 72 → b ≠ 138 → b ≠ a → b ≠ a + 1 → μ' b = μ b) ∧ ∀ j, j ≠ 0 → j ≠ 1 → j ≠ 9 → j ≠ 10 → j ≠ 11 → μ' 72 j = μ 72 j
theorem FT.fe {a : Nat} {μ μ' : Mem} (h : FT a μ μ') : FE a μ μ' := ⟨h.1, fun j _ _ a b c => h.2 j a b c⟩
theorem FT.rfl' {a : Nat} {μ : Mem} : FT a μ μ := ⟨fun _ _ _ _ _ => rfl, fun _ _ _ _ => rfl⟩
theorem FT.tr {a : Nat} {μ μ1 μ2 : Mem} (h1 : FT a μ μ1) (h2 : FT a μ1 μ2) : FT a μ μ2 := ⟨fun b k1 k2 k3 k4 => by rw [h2.1 b k1 k2 k3 k4, h1.1 b k1 k2 k3 k4], fun j k1 k2 k3 => by rw [h2.2 j k1 k2 k3, h1.2 j k1 k2 k3]⟩
theorem FT.te {a : Nat} {μ μ1 μ2 : Mem} (h1 : FT a μ μ1) (h2 : FE a μ1 μ2) : FE a μ μ2 := ⟨fun b k1 k2 k3 k4 => by rw [h2.1 b k1 k2 k3 k4, h1.1 b k1 k2 k3 k4], fun j q0 q1 k1 k2 k3 => by rw [h2.2 j q0 q1 k1 k2 k3, h1.2 j k1 k2 k3]⟩
theorem Fn.ft {a : Nat} {μ μ' : Mem} (h : Fn μ μ') : FT a μ μ' := ⟨fun b k1 _ _ _ => h.1 b k1, h.2⟩
theorem PTx.ft {a : Nat} {μ μ' : Mem} {B : List Int} (h : PTx μ B) (hf : FT a μ μ') (ha : a + 1 < 129) : PTx μ' B := ⟨by rw [hf.2 8 (by decide) (by decide) (by decide)]; exact h.1, by rw [hf.1 129 (by decide) (by decide) (by omega) (by omega)]; exact h.2.1, h.2.2⟩
section P77
variable {μ : Mem} {B T L : List Int} {t : Tk} {sy : Sy} {a lim role : Nat}
theorem c_pFail {c : Int} {e : PE} {Q : Bool → Mem → Prop} (he : e = (c, t.2.1)) (ht : TkC μ t) (k : ∀ μ', FE a μ μ' → μ' 72 0 = e.1 → μ' 72 1 = ((e.2 : Nat) : Int) → Q false μ') : d_Parser_fail c μ Q := by
  unfold d_Parser_fail
  have e10 : mup μ 72 0 c 72 10 = ((t.2.1 : Nat) : Int) := by rw [mup_k (by decide)]; exact ht.2.1
  rw [e10]
  subst he
  exact k _ ⟨fun b k1 _ _ _ => by rw [mup_r k1, mup_r k1], fun j q0 q1 _ _ _ => by rw [mup_k q1, mup_k q0]⟩ (by rw [mup_k (by decide), mup_s]) mup_s
theorem c_varOfToken {Q : Int → Prop} (hB : PTx μ B) (ht : TkC μ t) (tok : tkok B t) (hv : tkv B t) (hk : t.1 = 65) (h : Q (vnd B t)) : d_Parser_variableOfToken μ Q := by
  unfold d_Parser_variableOfToken d_Term_variableNode
  have h1 := tok.2.2.2.1 (by rw [hk]; decide)
  have h2 := tok.2.1
  have h3 := hv.1 hk
  refine c_pByte ht.2.1 hB (by omega) ?_
  have e : wr (-1 - wr (B.getD t.2.1 0 - 65)) = vnd B t := by
    unfold vnd
    rw [wr_id (z := B.getD t.2.1 0 - 65) (by omega) (by omega), wr_id (by omega) (by omega)]
    omega
  rw [e]
  exact h
theorem c_nodeOfToken {Q : Int → Prop} (hB : PTx μ B) (ht : TkC μ t) (tok : tkok B t) (hv : tkv B t) (hS : CSg μ 73 sy) (hs : syok sy) (hk : t.1 = 97 ∨ t.1 = 65) (hf : t.1 = 97 → fnS sy (wd B t) 0 ≠ -1) (h : Q (nod sy B t)) : d_Parser_nodeOfToken μ Q := by
  unfold d_Parser_nodeOfToken
  unfold nod at h
  rw [ht.1]
  by_cases e : t.1 = 65
  · rw [if_pos e] at h ⊢
    exact c_varOfToken hB ht tok hv e h
  · rw [if_neg e] at h ⊢
    have k97 : t.1 = 97 := by
      rcases hk with q | q
      · exact q
      · exact absurd q e
    refine c_symbolOfWord hB ht tok hS hs ?_
    obtain ⟨i, e1, e2, e3⟩ := fnS_get sy 0 (hf k97)
    rw [Nat.zero_add] at e1
    rw [e1, Int.toNat_natCast] at h
    rw [e1]
    have h8 := hs.1
    have h3 := (hs.2 _ (getD_mem (d := (0, [])) e2)).1
    refine c_sigArity hS hs.1 e2 ?_
    unfold d_Term_symbolNode
    have ew : wr (wr (4 * (i : Int)) + (((sy.getD i (0, [])).1 : Nat) : Int)) = 4 * (i : Int) + (((sy.getD i (0, [])).1 : Nat) : Int) := by
      rw [wr_id (z := 4 * (i : Int)) (by omega) (by omega), wr_id (by omega) (by omega)]
    rw [ew]
    exact h
theorem c_faultOfNode {n : Nat} {v2 v3 : Int} {Q : Int → Prop} (hv2 : v2 = (lim : Int)) (hv3 : v3 = (role : Int)) (hr : role ≤ 2) (hB : PTx μ B) (ht : TkC μ t) (tok : tkok B t) (hv : tkv B t) (hS : CSg μ 73 sy) (hs : syok sy) (hT : IsT μ a T) (hn : role = 2 → μ 77 0 = (n : Int)) (hn6 : n < 6) (hL : role = 2 → IsT μ (dp (μ (rc 77 n) 0)) L)
    (h : Q (ftN sy B T L lim role t)) : d_Parser_faultOfNode a v2 v3 μ Q := by
  have hTl := hT.lt
  have j105 : (¬ (t.1 = 97 ∧ fnS sy (wd B t) 0 = -1)) → (¬ (t.1 = 65 ∧ role = 1 ∧ T.length = 0)) → (¬ (t.1 = 65 ∧ role = 2 ∧ ¬ vnd B t ∈ L)) → (t.1 = 97 ∨ t.1 = 65) → d_Parser_faultOfNode_j105 a v2 μ Q := by
    intro h1 h2 h3 h0
    unfold ftN at h
    rw [if_neg (fun q => q h0), if_neg h1, if_neg h2, if_neg h3] at h
    unfold d_Parser_faultOfNode_j105
    rw [hT.1]
    by_cases e : lim ≤ T.length
    · rw [if_pos e] at h
      rw [if_neg (by omega)]
      exact h
    · rw [if_neg e] at h
      rw [if_pos (by omega)]
      exact h
  have j62 : (¬ (t.1 = 97 ∧ fnS sy (wd B t) 0 = -1)) → (¬ (t.1 = 65 ∧ role = 1 ∧ T.length = 0)) → (t.1 = 97 ∨ t.1 = 65) → d_Parser_faultOfNode_j62 a v2 v3 μ Q := by
    intro h1 h2 h0
    unfold d_Parser_faultOfNode_j62
    rw [ht.1]
    by_cases e : t.1 = 65
    · rw [if_pos e]
      by_cases e2 : role = 2
      · rw [if_pos (by omega), hn e2]
        refine c_State_rule hn6 (c_varOfToken hB ht tok hv e ?_)
        refine c_Term_count (hL e2) ?_
        by_cases m : vnd B t ∈ L
        · have := List.count_pos_iff.mpr m
          rw [if_neg (by omega)]
          exact j105 h1 h2 (fun q => q.2.2 m) h0
        · rw [List.count_eq_zero_of_not_mem m, if_pos (by rfl)]
          unfold ftN at h
          rw [if_neg (fun q => q h0), if_neg h1, if_neg h2, if_pos ⟨e, e2, m⟩] at h
          exact h
      · rw [if_neg (by omega)]
        exact j105 h1 h2 (fun q => e2 q.2.1) h0
    · rw [if_neg e]
      exact j105 h1 h2 (fun q => e q.1) h0
  have j39 : (¬ (t.1 = 97 ∧ fnS sy (wd B t) 0 = -1)) → (t.1 = 97 ∨ t.1 = 65) → d_Parser_faultOfNode_j39 a v2 v3 μ Q := by
    intro h1 h0
    unfold d_Parser_faultOfNode_j39
    rw [ht.1]
    by_cases e : t.1 = 65
    · rw [if_pos e]
      by_cases e2 : role = 1
      · rw [if_pos (by omega), hT.1]
        by_cases e3 : T.length = 0
        · rw [if_pos (by omega)]
          unfold ftN at h
          rw [if_neg (fun q => q h0), if_neg h1, if_pos ⟨e, e2, e3⟩] at h
          exact h
        · rw [if_neg (by omega)]
          exact j62 h1 (fun q => e3 q.2.2) h0
      · rw [if_neg (by omega)]
        exact j62 h1 (fun q => e2 q.2.1) h0
    · rw [if_neg e]
      exact j62 h1 (fun q => e q.1) h0
  have j20 : (t.1 = 97 ∨ t.1 = 65) → d_Parser_faultOfNode_j20 a v2 v3 μ Q := by
    intro h0
    unfold d_Parser_faultOfNode_j20
    rw [ht.1]
    by_cases e : t.1 = 97
    · rw [if_pos e]
      refine c_symbolOfWord hB ht tok hS hs ?_
      by_cases e2 : fnS sy (wd B t) 0 = -1
      · rw [if_pos e2]
        unfold ftN at h
        rw [if_neg (fun q => q h0), if_pos ⟨e, e2⟩] at h
        exact h
      · rw [if_neg e2]
        exact j39 (fun q => e2 q.2) h0
    · rw [if_neg e]
      exact j39 (fun q => e q.1) h0
  unfold d_Parser_faultOfNode
  rw [ht.1]
  by_cases e : t.1 = 97
  · rw [if_pos e]
    exact j20 (Or.inl e)
  · rw [if_neg e]
    by_cases e2 : t.1 = 65
    · rw [if_pos e2]
      exact j20 (Or.inr e2)
    · rw [if_neg e2]
      unfold ftN at h
      rw [if_pos (by intro q; rcases q with q | q; exact e q; exact e2 q)] at h
      exact h
theorem c_pClose : ∀ (s : List Nat) (μ : Mem) (t : Tk) {Q : Int → Mem → Prop}, Stk (μ 138) s → s.length ≤ 40 → PTx μ B → TkC μ t → tkok B t → tkv B t → a + 1 < 129 →
    (∀ μ' e, clB B s t = .inl e → FE a μ μ' → μ' 72 0 = e.1 → μ' 72 1 = ((e.2 : Nat) : Int) → Q (-1) μ') →
    (∀ (w : Int) μ' s2 t2, w = (s2.length : Int) → clB B s t = .inr (s2, t2) → FT a μ μ' → (∀ b, b ≠ 72 → b ≠ 138 → μ' b = μ b) → TkC μ' t2 → Stk (μ' 138) s2 → Q w μ') → ∀ v : Int, v = (s.length : Int) - 1 → d_Parser_closeBrackets_l4 v μ Q := by
  intro s
  induction s with
  | nil =>
    intro μ t Q hst hl hB ht tok hv ha kE kS v hv0 W hW
    apply hW
    unfold d_Parser_closeBrackets_b4
    rw [List.length_nil] at hv0
    rw [if_pos (by omega)]
    exact kS 0 μ [] t rfl rfl FT.rfl' (fun _ _ _ => rfl) ht hst
  | cons d s ih =>
    intro μ t Q hst hl hB ht tok hv ha kE kS v hv0 W hW
    apply hW
    unfold d_Parser_closeBrackets_b4
    rw [List.length_cons] at hv0 hl
    have htop := hst.top
    have hd := hst.2 d (List.mem_cons_self ..)
    rw [if_neg (by omega), if_pos (by omega), show v.toNat = s.length by omega, htop, mup_s]
    refine ⟨by omega, by omega, by omega, ?_⟩
    have ed : wr ((d : Int) - 1) = ((d - 1 : Nat) : Int) := by rw [wr_id (by omega) (by omega)]; omega
    rw [ed]
    have r1 : ∀ b, b ≠ 138 → mup μ 138 s.length ((d - 1 : Nat) : Int) b = μ b := fun b hb => mup_r hb
    have hF1 : FT a μ (mup μ 138 s.length ((d - 1 : Nat) : Int)) := ⟨fun b _ k2 _ _ => r1 b k2, fun j _ _ _ => by rw [r1 72 (by decide)]⟩
    have hB1 : PTx (mup μ 138 s.length ((d - 1 : Nat) : Int)) B := hB.ft hF1 ha
    have ht1 : TkC (mup μ 138 s.length ((d - 1 : Nat) : Int)) t := by unfold TkC; rw [r1 72 (by decide)]; exact ht
    have hg1 : ∀ i, i < s.length → mup μ 138 s.length ((d - 1 : Nat) : Int) 138 i = μ 138 i := fun i hi => mup_k (by omega)
    have ht138 : mup μ 138 s.length ((d - 1 : Nat) : Int) 138 s.length = ((d - 1 : Nat) : Int) := mup_s
    generalize mup μ 138 s.length ((d - 1 : Nat) : Int) = μ1 at *
    have hs1 : Stk (μ1 138) s := hst.pop hg1
    have hn := nx_le tok
    unfold d_Parser_closeBrackets_j41 d_Parser_closeBrackets_j57
    by_cases hd1 : 1 < d
    · rw [if_pos (by omega), if_neg (by decide), ht1.1]
      by_cases e : t.1 = 44
      · rw [if_pos e]
        refine c_next hB1 ht1.2.2 tok.2.1 fun μ2 t2 f2 => ?_
        rw [if_neg (by decide)]
        have ew : wr (v + 1) = (((d - 1) :: s).length : Int) := by rw [List.length_cons, wr_id (by omega) (by omega)]; omega
        refine kS _ μ2 ((d - 1) :: s) (nx B t.2.2) ew (by rw [clB, if_pos hd1, if_pos e]) (hF1.tr f2.ft) (fun b k1 k2 => by rw [f2.1 b k1, r1 b k2]) t2 ?_
        rw [f2.1 138 (by decide)]
        exact hs1.push (by omega) (fun _ _ => rfl) ht138
      · rw [if_neg e]
        refine c_pFail (a := a) (t := t) (e := (1, t.2.1)) rfl ht1 fun μ2 f2 q0 q1 => ?_
        exact kE μ2 _ (by rw [clB, if_pos hd1, if_neg e]) (hF1.te f2) q0 q1
    · rw [if_neg (by omega), if_pos rfl, ht1.1]
      by_cases e : t.1 = 41
      · rw [if_pos e]
        refine c_next hB1 ht1.2.2 tok.2.1 fun μ2 t2 f2 => ?_
        rw [if_pos rfl]
        have hF2 : FT a μ μ2 := hF1.tr f2.ft
        have ec : clB B (d :: s) t = clB B s (nx B t.2.2) := by rw [clB, if_neg hd1, if_pos e]
        have ew : wr (v + -1) = (s.length : Int) - 1 := by rw [wr_id (by omega) (by omega)]; omega
        refine ih μ2 (nx B t.2.2) (by rw [f2.1 138 (by decide)]; exact hs1) (by omega) (hB.ft hF2 ha) t2 hn.1 (nx_v _ _) ha (fun μ' e' h1 h2 h3 h4 => kE μ' e' (by rw [ec]; exact h1) (hF2.te h2) h3 h4) (fun w μ' s2 t3 h0 h1 h2 h3 h4 h5 => kS w μ' s2 t3 h0 (by rw [ec]; exact h1) (hF2.tr h2) (fun b k1 k2 => by rw [h3 b k1 k2, f2.1 b k1, r1 b k2]) h4 h5) _ ew W hW
      · rw [if_neg e]
        refine c_pFail (a := a) (t := t) (e := (1, t.2.1)) rfl ht1 fun μ2 f2 q0 q1 => ?_
        exact kE μ2 _ (by rw [clB, if_neg hd1, if_neg e]) (hF1.te f2) q0 q1
theorem c_pReadTerm {n : Nat} {v2 v3 : Int} {Q : Bool → Mem → Prop} (hv2 : v2 = (lim : Int)) (hv3 : v3 = (role : Int)) (hr : role ≤ 2) (hlim : lim ≤ 40) (hB : PTx μ B) (ht : TkC μ t) (tok : tkok B t) (hv : tkv B t) (hS : CSg μ 73 sy) (hs : syok sy) (ha : 77 ≤ a) (ha2 : a + 1 < 129) (hln : lim ≤ ln (a + 1)) (hra : rt a = 8) (hn : role = 2 → μ 77 0 = (n : Int)) (hn6 : n < 6) (hL : role = 2 → IsT μ (dp (μ (rc 77 n) 0)) L) (hrcn : a ≠ rc 77 n ∧ a + 1 ≠ rc 77 n) (h77 : a ≠ 77) (hfar : role = 2 → dp (μ (rc 77 n) 0) ≠ a)
    (kE : ∀ μ' e, rdT B sy L lim role (lim + 1) [] [] t = .inl e → FE a μ μ' → μ' 72 0 = e.1 → μ' 72 1 = ((e.2 : Nat) : Int) → Q false μ')
    (kS : ∀ μ' X t2, rdT B sy L lim role (lim + 1) [] [] t = .inr (X, t2) → FT a μ μ' → TkC μ' t2 → IsT μ' a X → Q true μ') : d_Parser_readTerm a v2 v3 μ Q := by
  unfold d_Parser_readTerm d_Term_clear
  have r0 : ∀ b, b ≠ a → mup μ a 1 0 b = μ b := fun b hb => mup_r hb
  have hF0 : FT a μ (mup μ a 1 0) := ⟨fun b _ _ k3 _ => r0 b k3, fun j _ _ _ => by rw [r0 72 (by omega)]⟩
  have hT0 : IsT (mup μ a 1 0) a [] := ⟨by rw [mup_s]; rfl, Nat.zero_le _, Sg.nil⟩
  obtain ⟨R0, hR0⟩ : ∃ R, R = rdT B sy L lim role (lim + 1) [] [] t := ⟨_, rfl⟩
  rw [← hR0] at kE kS
  refine i_Parser_readTerm_l10 (Inv := fun v4 v5 μ1 => ∃ (T : List Int) (s : List Nat) (t1 : Tk) (f : Nat), v4 = (s.length : Int) ∧ v5 = (T.length : Int) ∧ f + T.length = lim + 1 ∧ T.length ≤ lim ∧ FT a μ μ1 ∧ TkC μ1 t1 ∧ tkok B t1 ∧ tkv B t1 ∧ IsT μ1 a T ∧ Stk (μ1 138) s ∧ s.length ≤ T.length ∧ R0 = rdT B sy L lim role f T s t1) (fun _ v5 _ => lim + 1 - v5.toNat) ?_ 0 0 _ ⟨[], [], t, lim + 1, rfl, rfl, rfl, Nat.zero_le _, hF0, by unfold TkC; rw [r0 72 (by omega)]; exact ht, tok, hv, hT0, ⟨fun i hi => absurd hi (by simp), fun d hd => by cases hd⟩, Nat.le_refl _, hR0⟩
  rintro v4 v5 μ1 ⟨T, s, t1, f, e4, e5, hf, hTl, hF, ht1, tok1, hv1, hT1, hst, hsl, hrd⟩ W hW
  unfold d_Parser_readTerm_b10
  obtain ⟨f, rfl⟩ : ∃ g, f = g + 1 := ⟨f - 1, by omega⟩
  rw [if_neg (by omega)]
  have hB1 := hB.ft hF ha2
  have hS1 : CSg μ1 73 sy := hS.fr fun b k1 k2 => hF.1 b (by omega) (by omega) (by omega) (by omega)
  have e77 : μ1 77 = μ 77 := hF.1 77 (by decide) (by decide) (by omega) (by omega)
  have hL1 : role = 2 → IsT μ1 (dp (μ1 (rc 77 n) 0)) L := fun q => by
    have hrc : rc 77 n = 77 + 10 + 5 * n := rc_eq 77 n
    rw [hF.1 (rc 77 n) (by omega) (by omega) (by omega) (by omega)]
    have hd := hfar q
    have hx := hL q
    have rd : rt (dp (μ (rc 77 n) 0)) = 8 := dp_rt _
    have n1 := rt8_ne rd hra
    have n2 := rt8_ne hra rd
    refine hx.fr (hF.1 _ (fun q => by rw [q] at rd; revert rd; decide +kernel) (fun q => by rw [q] at rd; revert rd; decide +kernel) hd n1) (hF.1 _ (fun q => ?_) (fun q => ?_) (fun q => n2 q.symm) (by omega))
    · have : dp (μ (rc 77 n) 0) = 71 := by omega
      rw [this] at rd
      revert rd
      decide +kernel
    · have : dp (μ (rc 77 n) 0) = 137 := by omega
      rw [this] at rd
      revert rd
      decide +kernel
  rw [rdT] at hrd
  refine c_faultOfNode (T := T) (L := L) hv2 hv3 hr hB1 ht1 tok1 hv1 hS1 hs hT1 (fun q => by rw [e77]; exact hn q) hn6 hL1 ?_
  by_cases h0 : ftN sy B T L lim role t1 = 0
  · rw [if_pos h0]
    rw [if_neg (fun q => q h0)] at hrd
    obtain ⟨o1, o2, _, _, o5, o6⟩ := nod_ok hs hv1 h0
    have har := ar_le (nod sy B t1)
    refine c_nodeOfToken hB1 ht1 tok1 hv1 hS1 hs o5 o6 ?_
    have h8l : (arS sy).length ≤ 8 := by unfold arS; rw [List.length_map]; exact hs.1
    have c32 := okn_lt o1 h8l
    generalize hnd : nod sy B t1 = nd at *
    refine c_Term_add hT1 (fun g μ2 hT2 f2 => ?_) (fun g => by omega)
    have F2 : FT a μ1 μ2 := ⟨fun b _ _ k3 k4 => f2 b (by omega), fun j _ _ _ => by rw [f2 72 (by omega)]⟩
    have hF2 : FT a μ μ2 := hF.tr F2
    refine c_next (hB.ft hF2 ha2) (by rw [f2 72 (by omega)]; exact ht1.2.2) tok1.2.1 fun μ3 t3 f3 => ?_
    have hn3 := nx_le tok1
    have hv3' := nx_v B t1.2.2
    have hF3 : FT a μ μ3 := hF2.tr f3.ft
    have hT3 : IsT μ3 a (T ++ [nd]) := hT2.fr (f3.1 _ (by omega)) (f3.1 _ (by omega))
    have hst3 : Stk (μ3 138) s := by rw [f3.1 138 (by decide), f2 138 (by omega)]; exact hst
    have hlen : (T ++ [nd]).length = T.length + 1 := by rw [List.length_append, List.length_singleton]
    refine c_arityOf c32 ?_
    generalize nx B t1.2.2 = u at *
    unfold d_Parser_readTerm_j81 d_Parser_readTerm_j133
    have e51 : wr (v5 + 1) = ((T ++ [nd]).length : Int) := by rw [hlen, wr_id (by omega) (by omega)]; omega
    rw [e51]
    by_cases hav : 0 < ar nd
    · rw [if_pos (by omega), t3.1]
      rw [if_pos hav] at hrd
      by_cases hk : u.1 = 40
      · rw [if_pos hk, if_pos (by omega)]
        rw [if_pos hk] at hrd
        refine c_next (hB.ft hF3 ha2) t3.2.2 hn3.1.2.1 fun μ4 t4 f4 => ?_
        have hn4 := nx_le hn3.1
        refine c_arityOf c32 ?_
        rw [show v4.toNat = s.length by omega]
        have e41 : wr (v4 + 1) = ((ar nd :: s).length : Int) := by rw [List.length_cons, wr_id (by omega) (by omega)]; omega
        rw [e41]
        have r5 : ∀ b, b ≠ 138 → mup μ4 138 s.length (ar nd : Int) b = μ4 b := fun b hb => mup_r hb
        refine ⟨by omega, hW _ _ _ ⟨T ++ [nd], ar nd :: s, nx B u.2.2, f, rfl, rfl, by omega, by omega, hF3.tr ((f4.ft).tr ⟨fun b _ k2 _ _ => r5 b k2, fun j _ _ _ => by rw [r5 72 (by decide)]⟩), ?_, hn4.1, nx_v _ _, ?_, ?_, by rw [List.length_cons]; omega, hrd⟩ (by rw [Int.toNat_natCast]; omega)⟩
        · unfold TkC
          rw [r5 72 (by decide)]
          exact t4
        · exact hT3.fr (by rw [r5 _ (by omega), f4.1 _ (by omega)]) (by rw [r5 _ (by omega), f4.1 _ (by omega)])
        · exact Stk.push (f := μ3 138) hst3 ⟨hav, har⟩ (fun i hi => by rw [mup_k (by omega), f4.1 138 (by decide)]) mup_s
      · rw [if_neg hk]
        rw [if_neg hk] at hrd
        refine c_pFail (a := a) (t := u) (e := (1, u.2.1)) rfl t3 fun μ4 f4 q0 q1 => ?_
        exact kE μ4 _ hrd (hF3.te f4) q0 q1
    · rw [if_neg (by omega)]
      rw [if_neg hav] at hrd
      unfold d_Parser_closeBrackets
      have e4m : wr (v4 - 1) = (s.length : Int) - 1 := by rw [wr_id (by omega) (by omega)]; omega
      refine c_pClose (a := a) s μ3 u hst3 (by omega) (hB.ft hF3 ha2) t3 hn3.1 hv3' ha2 (fun μ4 e he f4 q0 q1 => ?_) (fun w μ4 s2 u2 hw he f4 g4 t4 st4 => ?_) _ e4m
      · rw [if_neg (by decide), if_neg (by decide)]
        rw [he] at hrd
        exact kE μ4 e hrd (hF3.te f4) q0 q1
      · rw [he] at hrd
        have ok4 := clB_ok s u hn3.1 _ _ he
        have v4' := clB_v s u hv3' _ _ he
        have hT4 : IsT μ4 a (T ++ [nd]) := hT3.fr (g4 _ (by omega) (by omega)) (g4 _ (by omega) (by omega))
        have hsl2 : s2.length ≤ s.length := by
          have hd1 : ∀ d, d ∈ s → 1 ≤ d := fun d hd => (hst.2 d hd).1
          exact (clB_dm s u hd1 _ _ he).2.2.2
        cases s2 with
        | nil =>
          rw [if_neg (by rw [hw]; decide), if_pos (by rw [hw]; rfl)]
          exact kS μ4 _ u2 hrd (hF3.tr f4) t4 hT4
        | cons d s2 =>
          rw [if_pos (by rw [hw, List.length_cons]; omega)]
          exact hW _ _ _ ⟨T ++ [nd], d :: s2, u2, f, hw, rfl, by omega, by omega, hF3.tr f4, t4, ok4.1, v4', hT4, st4, by omega, hrd⟩ (by rw [Int.toNat_natCast]; omega)
  · rw [if_neg h0]
    rw [if_pos h0] at hrd
    refine c_pFail (a := a) (t := t1) (e := (ftN sy B T L lim role t1, t1.2.1)) rfl ht1 fun μ2 f2 q0 q1 => ?_
    exact kE μ2 _ hrd (hF.te f2) q0 q1
end P77

