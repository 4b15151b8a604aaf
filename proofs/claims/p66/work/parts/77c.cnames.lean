/-! THE CLASS: the names of the variables of a pair -/
def NmC (μ : Mem) (V : List Int) : Prop := ∀ j, j < 16 → μ 163 j = if (-1 - (j : Int)) ∈ V then ((V.idxOf (-1 - (j : Int)) : Nat) : Int) else -1
theorem vord_len : ∀ L V : List Int, (vord L V).length ≤ V.length + L.length := by
  intro L
  induction L with
  | nil => intro V; exact Nat.le_refl _
  | cons x r ih =>
    intro V
    rw [vord, List.length_cons]
    have := ih (if x < 0 ∧ ¬ x ∈ V then V ++ [x] else V)
    have h2 : (if x < 0 ∧ ¬ x ∈ V then V ++ [x] else V).length ≤ V.length + 1 := by
      split
      · rw [List.length_append, List.length_singleton]; exact Nat.le_refl _
      · exact Nat.le_succ _
    omega
theorem set_mid {A r : List Int} {x z : Int} {k : Nat} (h : A.length = k) : (A ++ x :: r).set k z = A ++ z :: r := by
  subst h
  induction A with
  | nil => rfl
  | cons y A ih => rw [List.cons_append, List.length_cons, List.set_cons_succ, ih, List.cons_append]
theorem cnm_ext {V W : List Int} {c : Int} (h : c < 0 → c ∈ V) : cnm (V ++ W) c = cnm V c := by
  unfold cnm
  by_cases n : c < 0
  · rw [if_pos n, if_pos n, idx_app V W c (h n)]
  · rw [if_neg n, if_neg n]
theorem map_nms {A B : List Int} : A.map (cnm (nms A B)) = A.map (cnm (vord A [])) := by
  obtain ⟨W, e⟩ := vord_pre B (vord A [])
  refine List.map_congr_left fun c hc => ?_
  unfold nms
  rw [e]
  exact cnm_ext fun n => vord_all A [] c n (Or.inr hc)
section N77
variable {μ : Mem} {a : Nat} {T V : List Int}
theorem c_nameVars {v : Int} {Q : Int → Mem → Prop} (hv : v = (V.length : Int)) (hT : IsT μ a T) (ha : a + 1 < 163 ∨ 163 < a) (h16 : ∀ c, c ∈ T → c < 0 → -16 ≤ c) (hV : V.length ≤ 1000) (hT80 : T.length ≤ 80) (hN : NmC μ V)
    (k : ∀ (w : Int) (μ' : Mem), w = ((vord T V).length : Int) → NmC μ' (vord T V) → IsT μ' a (T.map (cnm (vord T V))) → (∀ b, b ≠ a → b ≠ a + 1 → b ≠ 163 → μ' b = μ b) → Q w μ') : d_PairList_nameVariables a v μ Q := by
  unfold d_PairList_nameVariables
  refine i_PairList_nameVariables_l5 (Inv := fun v3 v4 μ1 => ∃ n : Nat, v4 = n ∧ n ≤ T.length ∧ v3 = ((vord (T.take n) V).length : Int) ∧ NmC μ1 (vord (T.take n) V) ∧ IsT μ1 a ((T.take n).map (cnm (vord T V)) ++ T.drop n) ∧ ∀ b, b ≠ a → b ≠ a + 1 → b ≠ 163 → μ1 b = μ b) (fun _ v4 _ => T.length - v4.toNat) ?_ v 0 μ ⟨0, rfl, Nat.zero_le _, hv, hN, hT, fun _ _ _ _ => rfl⟩
  rintro v3 v4 μ1 ⟨n, h4, hn, h3, hN1, hT1, hF⟩ W hW
  unfold d_PairList_nameVariables_b5
  have hlm : ((T.take n).map (cnm (vord T V)) ++ T.drop n).length = T.length := by rw [List.length_append, List.length_map, ← List.length_append, List.take_append_drop]
  have hlt : ((T.take n).map (cnm (vord T V))).length = n := by rw [List.length_map, List.length_take]; omega
  rw [hT1.1, hlm]
  by_cases hk : n < T.length
  · rw [if_pos (by omega)]
    have eg : ((T.take n).map (cnm (vord T V)) ++ T.drop n).getD n 0 = T.getD n 0 := by rw [getD_app_r (by omega), hlt, Nat.sub_self, getD_drop, Nat.add_zero]
    rw [h4]
    refine c_Term_getN hT1 (by omega) ?_
    rw [eg]
    have e1 := vord_app (T.take n) [T.getD n 0] V
    rw [← take_1r hk] at e1
    have e2 := vord_app (T.take (n + 1)) (T.drop (n + 1)) V
    rw [List.take_append_drop] at e2
    obtain ⟨Wx, eW⟩ := vord_pre (T.drop (n + 1)) (vord (T.take (n + 1)) V)
    rw [eW] at e2
    have hvl := vord_len (T.take n) V
    rw [List.length_take] at hvl
    have eN : ∀ z : Int, (T.take n).map (cnm (vord T V)) ++ z :: T.drop (n + 1) = (T.take n).map (cnm (vord T V)) ++ [z] ++ T.drop (n + 1) := fun z => by rw [List.append_assoc]; rfl
    have eM : (T.take (n + 1)).map (cnm (vord T V)) ++ T.drop (n + 1) = (T.take n).map (cnm (vord T V)) ++ cnm (vord T V) (T.getD n 0) :: T.drop (n + 1) := by
      rw [eN, take_1r hk, List.map_append]
      rfl
    rw [dropc hk] at hT1
    have hc16 := h16 _ (gm0 hk)
    generalize T.getD n 0 = c at *
    generalize hVn : vord (T.take n) V = Vn at *
    generalize hVf : vord T V = Vf at *
    unfold d_Term_variableOf
    by_cases h0 : c < 0
    · rw [if_pos h0]
      have hcl := hc16 h0
      have ew : wr (-1 - c) = (((-1 - c).toNat : Nat) : Int) := by rw [wr_id (by omega) (by omega)]; omega
      rw [ew]
      have hj : (-1 - c).toNat < 16 := by omega
      have ej : -1 - (((-1 - c).toNat : Nat) : Int) = c := by omega
      generalize (-1 - c).toNat = j at *
      dsimp only
      rw [if_neg (by omega), if_pos (by omega), Int.toNat_natCast]
      refine ⟨by omega, ?_⟩
      have hNj := hN1 j hj
      rw [ej] at hNj
      -- the node gets its name
      have fin : ∀ (μ2 : Mem) (v' : Int) (V1 : List Int), V1 = vord (T.take (n + 1)) V → v' = (V1.length : Int) → NmC μ2 V1 → c ∈ V1 → (∀ b, b ≠ 163 → μ2 b = μ1 b) → d_PairList_nameVariables_j62 a v' (n : Int) (j : Int) μ2 W Q := by
        intro μ2 v' V1 hV1 hv' hN2 hm hF2
        unfold d_PairList_nameVariables_j62 d_Term_variableNode
        rw [Int.toNat_natCast, hN2 j hj, ej, if_pos hm]
        refine ⟨by omega, ?_⟩
        have hi := (idx_get V1 c hm).1
        have hvl1 : V1.length ≤ V.length + T.length := by
          have := vord_len (T.take (n + 1)) V
          rw [← hV1, List.length_take] at this
          omega
        have hT2 := hT1.fr (hF2 a (by omega)) (hF2 (a + 1) (by omega))
        refine c_Term_set hT2 (by rw [List.length_append, hlt, List.length_cons]; omega) fun μ3 hT3 hf3 => ?_
        unfold d_PairList_nameVariables_j78
        have ec : wr (-1 - ((V1.idxOf c : Nat) : Int)) = cnm Vf c := by
          rw [wr_id (by omega) (by omega), e2, ← hV1, cnm_ext fun _ => hm]
          unfold cnm
          rw [if_pos h0]
        rw [ec, set_mid hlt, ← eM] at hT3
        rw [wr_id (by omega) (by omega)]
        refine hW _ _ _ ⟨n + 1, by omega, by omega, by rw [hv', hV1], ?_, hT3, fun b k1 k2 k3 => by rw [hf3 b (by omega), hF2 b k3, hF b k1 k2 k3]⟩ (by omega)
        rw [← hV1]
        unfold NmC
        rw [hf3 163 (by omega)]
        exact hN2
      by_cases hm : c ∈ Vn
      · rw [if_pos hm] at hNj
        rw [hNj, if_neg (by omega)]
        refine fin μ1 v3 Vn ?_ h3 hN1 hm fun _ _ => rfl
        rw [e1, vord, if_neg (fun q => q.2 hm)]
        rfl
      · rw [if_neg hm] at hNj
        rw [hNj, if_pos rfl]
        refine ⟨by omega, ?_⟩
        refine fin _ _ (Vn ++ [c]) ?_ (by rw [h3, wr_id (by omega) (by omega), List.length_append, List.length_singleton]; omega) (fun i hi => ?_) (List.mem_append.mpr (Or.inr (List.mem_singleton.mpr rfl))) fun b hb => mup_r hb
        · rw [e1, vord, if_pos ⟨h0, hm⟩]
          rfl
        · by_cases e : i = j
          · rw [e, mup_s, ej, if_pos (List.mem_append.mpr (Or.inr (List.mem_singleton.mpr rfl))), idx_new Vn c hm, h3]
          · rw [mup_k e, hN1 i hi]
            have hne : -1 - (i : Int) ≠ c := by omega
            by_cases q : (-1 - (i : Int)) ∈ Vn
            · rw [if_pos q, if_pos (List.mem_append.mpr (Or.inl q)), idx_app _ _ _ q]
            · rw [if_neg q, if_neg fun g => ?_]
              rcases List.mem_append.mp g with g | g
              · exact q g
              · exact hne (List.mem_singleton.mp g)
    · rw [if_neg h0]
      dsimp only
      rw [if_pos (by omega)]
      unfold d_PairList_nameVariables_j78
      rw [wr_id (by omega) (by omega)]
      have e3 : vord (T.take (n + 1)) V = Vn := by
        rw [e1, vord, if_neg (fun q => h0 q.1)]
        rfl
      have e4 : cnm Vf c = c := by
        unfold cnm
        rw [if_neg h0]
      rw [e4] at eM
      refine hW _ _ _ ⟨n + 1, by omega, by omega, by rw [e3]; exact h3, by rw [e3]; exact hN1, by rw [eM]; exact hT1, hF⟩ (by omega)
  · rw [if_neg (by omega)]
    have : n = T.length := by omega
    subst this
    rw [List.take_length] at h3 hN1 hT1
    rw [List.drop_length, List.append_nil] at hT1
    exact k v3 μ1 h3 hN1 hT1 hF
end N77

