/-! THE CLASS: load -/
section M76
theorem c_Term_endV {μ : Mem} {a : Nat} {L : List Int} {v : Int} {p : Nat} {Q : Int → Prop} (hv : v = (p : Int)) (hT : IsT μ a L) (hn : nok L) (hp : p ≤ L.length) (h : Q ((en L p : Nat) : Int)) : d_Term_end a v μ Q := by
  rw [hv]
  exact c_Term_end hT hn hp h
variable {μ : Mem} {v0 v1 n0 : Nat} {P T : List Int} {v2 : Int}
theorem c_load {Q : Int → Mem → Prop} (hln : ln (v0 + 1) = 160) (hT : IsT μ v1 T) (hnk : nok T) (hv1 : v1 + 1 < v0 ∨ v0 + 6 ≤ v1) (hL : PLd μ v0 P n0) (hl : n0 + T.length ≤ P.length) (hP : P.length ≤ 160) (hv2 : v2 = 0 ∨ v2 = 8) (h8 : ∀ c, c ∈ T → -8 ≤ c)
    (hsh : ∀ k, k < T.length → P.getD (n0 + k) 0 = if T.getD k 0 < 0 then T.getD k 0 - v2 else T.getD k 0) (hen : ∀ k, k < T.length → en P (n0 + k) = n0 + en T k)
    (k : ∀ μ', PLd μ' v0 P (n0 + T.length) → (∀ b, b < v0 ∨ v0 + 6 ≤ b → μ' b = μ b) → (∀ j, j ≠ 0 → μ' v0 j = μ v0 j) → Q (n0 : Int) μ') : d_Unifier_load v0 v1 v2 μ Q := by
  unfold d_Unifier_load
  rw [hL.1]
  refine i_Unifier_load_l8 (Inv := fun v4 μ1 => ∃ p : Nat, v4 = p ∧ p ≤ T.length ∧ PLd μ1 v0 P (n0 + p) ∧ (∀ b, b < v0 ∨ v0 + 6 ≤ b → μ1 b = μ b) ∧ ∀ j, j ≠ 0 → μ1 v0 j = μ v0 j) (fun v4 _ => T.length - v4.toNat) ?_ 0 μ ⟨0, rfl, Nat.zero_le _, hL, fun _ _ => rfl, fun _ _ => rfl⟩
  rintro v4 μ1 ⟨p, h4, hp, hL1, hf, hf0⟩ W hW
  unfold d_Unifier_load_b8
  have hT1 : IsT μ1 v1 T := hT.fr (hf _ (by omega)) (hf _ (by omega))
  rw [hT1.1]
  by_cases hpl : p < T.length
  · have hsz := hL1.1
    rw [if_pos (by omega), if_neg (by omega), if_pos (by omega)]
    obtain ⟨sz, hsz2⟩ : ∃ sz : Int, sz = μ1 v0 0 := ⟨_, rfl⟩
    rw [← hsz2]
    rw [← hsz2] at hsz
    refine c_Term_get hT1 ?_
    rw [h4, gt_in hpl]
    rw [← h4]
    have hc := hnk _ (gm0 hpl)
    have hc8 := h8 _ (gm0 hpl)
    have hs := hsh p hpl
    have he := hen p hpl
    have hsn : sz.toNat = n0 + p := by omega
    have nP : n0 + p < P.length := by omega
    have heT := en_le (L := T) (p := p) (by omega)
    have eX : ∀ (z y : Int) (b : Nat), b ≠ v0 + 1 → b ≠ v0 + 2 → b ≠ v0 + 3 → mup (mup (mup μ1 (v0 + 1) (n0 + p) z) (v0 + 3) (n0 + p) y) (v0 + 2) (n0 + p) sz b = μ1 b := fun z y b b1 b2 b3 => by rw [mup_r b2, mup_r b3, mup_r b1]
    have eW : wr (v4 + 1) = ((p + 1 : Nat) : Int) := by rw [wr_id (by omega) (by omega)]; omega
    obtain ⟨eP, hePd⟩ : ∃ eP : Nat, eP = en P (n0 + p) := ⟨_, rfl⟩
    have eE : wr ((n0 : Int) + ((en T p : Nat) : Int)) = ((en P (n0 + p) : Nat) : Int) := by rw [wr_id (by omega) (by omega)]; omega
    have fin : ∀ μ6 : Mem, (∀ b, b < v0 ∨ v0 + 6 ≤ b → μ6 b = μ1 b) → μ6 v0 = μ1 v0 → μ6 (v0 + 1) (n0 + p) = P.getD (n0 + p) 0 → μ6 (v0 + 3) (n0 + p) = ((en P (n0 + p) : Nat) : Int) → μ6 (v0 + 2) (n0 + p) = ((R0 P (n0 + p) : Nat) : Int) → (∀ i, i ≠ n0 + p → μ6 (v0 + 1) i = μ1 (v0 + 1) i ∧ μ6 (v0 + 3) i = μ1 (v0 + 3) i ∧ μ6 (v0 + 2) i = μ1 (v0 + 2) i) → (∀ j : Nat, j < 16 → μ6 (v0 + 5) j = if P.idxOf (-1 - (j : Int)) < n0 + p + 1 then ((P.idxOf (-1 - (j : Int)) : Nat) : Int) else -1) → W ((p + 1 : Nat) : Int) (mup μ6 v0 0 (wr (μ6 v0 0 + 1))) := by
      intro μ6 a1 a2 a3 a4 a5 a6 a7
      have e0 : wr (μ6 v0 0 + 1) = ((n0 + p + 1 : Nat) : Int) := by rw [a2, ← hsz2, wr_id (by omega) (by omega)]; omega
      rw [e0]
      have r1 : ∀ t : Nat, mup μ6 v0 0 ((n0 + p + 1 : Nat) : Int) (v0 + (t + 1)) = μ6 (v0 + (t + 1)) := fun t => mup_r (by omega)
      have hinv : ∃ q : Nat, ((p + 1 : Nat) : Int) = q ∧ q ≤ T.length ∧ PLd (mup μ6 v0 0 ((n0 + p + 1 : Nat) : Int)) v0 P (n0 + q) ∧ (∀ b, b < v0 ∨ v0 + 6 ≤ b → mup μ6 v0 0 ((n0 + p + 1 : Nat) : Int) b = μ b) ∧ ∀ j, j ≠ 0 → mup μ6 v0 0 ((n0 + p + 1 : Nat) : Int) v0 j = μ v0 j := by
        refine ⟨p + 1, rfl, by omega, ?_, fun b hb => by rw [mup_r (by omega), a1 b hb]; exact hf b hb, fun j' hj' => by rw [mup_k hj', a2]; exact hf0 j' hj'⟩
        exact hL1.next nP mup_s (by rw [r1 0]; exact a3) (by rw [r1 2]; exact a4) (by rw [r1 1]; exact a5) (fun i hi => by rw [r1 0]; exact (a6 i hi).1) (fun i hi => by rw [r1 2]; exact (a6 i hi).2.1) (fun i hi => by rw [r1 1]; exact (a6 i hi).2.2) (fun j' hj' => by rw [r1 4]; exact a7 j' hj')
      refine hW _ _ hinv ?_
      rw [h4, Int.toNat_natCast, Int.toNat_natCast]
      exact Nat.sub_lt_sub_left hpl (Nat.lt_succ_self p)
    by_cases n : T.getD p 0 < 0
    · rw [if_pos n] at hs ⊢
      have e1 : wr (T.getD p 0 - v2) = P.getD (n0 + p) 0 := by rw [wr_id (by omega) (by omega)]; omega
      rw [e1]
      unfold d_Unifier_load_j68 d_Unifier_load_j110
      rw [hln, hsn]
      refine ⟨by omega, c_Term_endV h4 (hT1.fr (mup_r (by omega)) (mup_r (by omega))) hnk hp ?_⟩
      rw [if_pos n, eE, eW]
      have hi := idx_le nP
      have hR : R0 P (n0 + p) = P.idxOf (P.getD (n0 + p) 0) := if_pos (by omega)
      obtain ⟨j, hj⟩ : ∃ j : Nat, (j : Int) = -1 - P.getD (n0 + p) 0 := ⟨(-1 - P.getD (n0 + p) 0).toNat, by omega⟩
      have hjc : -1 - (j : Int) = P.getD (n0 + p) 0 := by omega
      have h5 := hL1.2.2 j (by omega)
      rw [hjc] at h5
      refine ⟨by omega, by omega, c_share (j := j) hsz (by rw [wr_id (z := v2 - 1) (by omega) (by omega), wr_id (by omega) (by omega)]; omega) (by omega) (by omega) fun μ6 q1 q2 => ?_⟩
      rw [eX _ _ (v0 + 5) (by omega) (by omega) (by omega)] at q1 q2
      by_cases hfst : P.idxOf (P.getD (n0 + p) 0) < n0 + p
      · rw [if_pos hfst] at h5
        rw [q2 (by omega)]
        refine fin _ (fun b hb => ?_) ?_ ?_ ?_ ?_ (fun i hi => ⟨?_, ?_, ?_⟩) (fun j' hj' => ?_)
        · rw [mup_r (by omega)]
          exact eX _ _ b (by omega) (by omega) (by omega)
        · rw [mup_r (by omega)]
          exact eX _ _ v0 (by omega) (by omega) (by omega)
        · rw [mup_r (by omega), mup_r (by omega), mup_r (by omega), mup_s]
        · rw [mup_r (by omega), mup_r (by omega), mup_s]
        · rw [mup_s, h5, hR]
        · rw [mup_r (by omega), mup_r (by omega), mup_r (by omega), mup_k hi]
        · rw [mup_r (by omega), mup_r (by omega), mup_k hi, mup_r (by omega)]
        · rw [mup_k hi, mup_k hi, mup_r (by omega), mup_r (by omega)]
        · rw [mup_r (by omega), eX _ _ _ (by omega) (by omega) (by omega), hL1.2.2 j' hj']
          by_cases e : P.idxOf (-1 - (j' : Int)) = n0 + p
          · have h7 := idx_get P (-1 - (j' : Int))
            by_cases m : (-1 - (j' : Int)) ∈ P
            · have h8' := (h7 m).2
              rw [e] at h8'
              rw [h8', e] at hfst
              omega
            · have := List.idxOf_eq_length m
              omega
          · by_cases e2 : P.idxOf (-1 - (j' : Int)) < n0 + p
            · rw [if_pos e2, if_pos (by omega)]
            · rw [if_neg e2, if_neg (by omega)]
      · rw [if_neg hfst] at h5
        rw [q1 h5]
        refine fin _ (fun b hb => ?_) ?_ ?_ ?_ ?_ (fun i hi => ⟨?_, ?_, ?_⟩) (fun j' hj' => ?_)
        · rw [mup_r (by omega), mup_r (by omega)]
          exact eX _ _ b (by omega) (by omega) (by omega)
        · rw [mup_r (by omega), mup_r (by omega)]
          exact eX _ _ v0 (by omega) (by omega) (by omega)
        · rw [mup_r (by omega), mup_r (by omega), mup_r (by omega), mup_r (by omega), mup_s]
        · rw [mup_r (by omega), mup_r (by omega), mup_r (by omega), mup_s]
        · rw [mup_s, hR]
          omega
        · rw [mup_r (by omega), mup_r (by omega), mup_r (by omega), mup_r (by omega), mup_k hi]
        · rw [mup_r (by omega), mup_r (by omega), mup_r (by omega), mup_k hi, mup_r (by omega)]
        · rw [mup_k hi, mup_r (by omega), mup_k hi, mup_r (by omega), mup_r (by omega)]
        · rw [mup_r (by omega)]
          by_cases ej : j' = j
          · rw [ej, mup_s, hjc, if_pos (by omega)]
            omega
          · rw [mup_k ej, eX _ _ _ (by omega) (by omega) (by omega), hL1.2.2 j' hj']
            by_cases e : P.idxOf (-1 - (j' : Int)) = n0 + p
            · have h7 := idx_get P (-1 - (j' : Int))
              by_cases m : (-1 - (j' : Int)) ∈ P
              · have h8' := (h7 m).2
                rw [e] at h8'
                omega
              · have := List.idxOf_eq_length m
                omega
            · by_cases e2 : P.idxOf (-1 - (j' : Int)) < n0 + p
              · rw [if_pos e2, if_pos (by omega)]
              · rw [if_neg e2, if_neg (by omega)]
    · rw [if_neg n] at hs ⊢
      unfold d_Unifier_load_j68 d_Unifier_load_j110
      rw [hln, hsn]
      refine ⟨by omega, c_Term_endV h4 (hT1.fr (mup_r (by omega)) (mup_r (by omega))) hnk hp ?_⟩
      rw [if_neg n, eE, eW]
      refine ⟨by omega, by omega, ?_⟩
      refine fin _ (fun b hb => ?_) ?_ ?_ ?_ ?_ (fun i hi => ⟨?_, ?_, ?_⟩) (fun j' hj' => ?_)
      · exact eX _ _ b (by omega) (by omega) (by omega)
      · exact eX _ _ v0 (by omega) (by omega) (by omega)
      · rw [mup_r (by omega), mup_r (by omega), mup_s]
        exact hs.symm
      · rw [mup_r (by omega), mup_s]
      · rw [mup_s, show R0 P (n0 + p) = n0 + p from if_neg (by omega)]
        omega
      · rw [mup_r (by omega), mup_r (by omega), mup_k hi]
      · rw [mup_r (by omega), mup_k hi, mup_r (by omega)]
      · rw [mup_k hi, mup_r (by omega), mup_r (by omega)]
      · rw [eX _ _ _ (by omega) (by omega) (by omega), hL1.2.2 j' hj']
        by_cases e : P.idxOf (-1 - (j' : Int)) = n0 + p
        · have h7 := idx_get P (-1 - (j' : Int))
          by_cases m : (-1 - (j' : Int)) ∈ P
          · have h8' := (h7 m).2
            rw [e] at h8'
            omega
          · have := List.idxOf_eq_length m
            omega
        · by_cases e2 : P.idxOf (-1 - (j' : Int)) < n0 + p
          · rw [if_pos e2, if_pos (by omega)]
          · rw [if_neg e2, if_neg (by omega)]
  · rw [if_neg (by omega)]
    have : p = T.length := by omega
    subst this
    exact k μ1 hL1 hf hf0
end M76

