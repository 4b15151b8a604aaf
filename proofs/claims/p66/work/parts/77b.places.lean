/-! CRITICAL PAIRS: the places that are tried, one after another -/
def rwp (i j k : Nat) : List (Nat × Nat × Nat) := ((List.range k).filter fun p => decide (¬ (i = j ∧ p = 0))).map fun p => (i, j, p)
def len1 (rs : List Rl2) (i : Nat) : Nat := (rs.getD i ([], [])).1.length
def PLc (rs : List Rl2) (i j k : Nat) : List (Nat × Nat × Nat) := ((List.range i).flatMap fun i' => (List.range rs.length).flatMap fun j' => rwp i' j' (len1 rs i')) ++ ((List.range j).flatMap fun j' => rwp i j' (len1 rs i)) ++ rwp i j k
theorem rwp_0 (i j : Nat) : rwp i j 0 = [] := rfl
theorem PLc_0 (rs : List Rl2) : PLc rs 0 0 0 = [] := rfl
theorem PLc_all (rs : List Rl2) : PLc rs rs.length 0 0 = plc rs := by
  unfold PLc plc
  rw [rwp_0, List.append_nil, List.range_zero, List.flatMap_nil, List.append_nil]
  rfl
theorem PLc_i (rs : List Rl2) (i : Nat) : PLc rs i rs.length 0 = PLc rs (i + 1) 0 0 := by
  unfold PLc
  rw [rwp_0, rwp_0, List.append_nil, List.append_nil, List.range_zero, List.flatMap_nil, List.append_nil, List.range_succ, List.flatMap_append, List.flatMap_cons, List.flatMap_nil, List.append_nil]
theorem PLc_j (rs : List Rl2) (i j : Nat) : PLc rs i j (len1 rs i) = PLc rs i (j + 1) 0 := by
  unfold PLc
  rw [rwp_0, List.append_nil, List.range_succ, List.flatMap_append, List.flatMap_cons, List.flatMap_nil, List.append_nil, List.append_assoc]
theorem PLc_k (rs : List Rl2) (i j k : Nat) : PLc rs i j (k + 1) = PLc rs i j k ++ (if i = j ∧ k = 0 then [] else [(i, j, k)]) := by
  unfold PLc rwp
  rw [List.range_succ, List.filter_append, List.map_append, ← List.append_assoc]
  congr 1
  by_cases h : i = j ∧ k = 0
  · rw [if_pos h, List.filter_cons, if_neg (by simpa using h)]
    rfl
  · rw [if_neg h, List.filter_cons, if_pos (decide_eq_true h)]
    rfl
/-- of the places tried: the first 20 pairs -/
noncomputable def FD (rs : List Rl2) (pl : List (Nat × Nat × Nat)) : List Pr1 := (pl.filterMap (pr2 rs)).take 20
theorem FD_all (rs : List Rl2) : FD rs (plc rs) = prs rs := rfl
theorem FD_nil (rs : List Rl2) : FD rs [] = [] := rfl
theorem FD_len (rs : List Rl2) (pl : List (Nat × Nat × Nat)) : (FD rs pl).length ≤ 20 := by
  unfold FD
  rw [List.length_take]
  omega
theorem FD_full {rs : List Rl2} {pl : List (Nat × Nat × Nat)} {q : Nat × Nat × Nat} (h : 20 ≤ (FD rs pl).length) : FD rs (pl ++ [q]) = FD rs pl := by
  unfold FD at *
  rw [List.length_take] at h
  rw [List.filterMap_append, List.take_append_of_le_length (by omega)]
theorem FD_none {rs : List Rl2} {pl : List (Nat × Nat × Nat)} {q : Nat × Nat × Nat} (h : pr2 rs q = none) : FD rs (pl ++ [q]) = FD rs pl := by
  unfold FD
  rw [List.filterMap_append, List.filterMap_cons_none h, List.filterMap_nil, List.append_nil]
theorem FD_some {rs : List Rl2} {pl : List (Nat × Nat × Nat)} {q : Nat × Nat × Nat} {X : Pr1} (hl : (FD rs pl).length < 20) (h : pr2 rs q = some X) : FD rs (pl ++ [q]) = FD rs pl ++ [X] := by
  unfold FD at *
  rw [List.length_take] at hl
  rw [List.filterMap_append, List.filterMap_cons_some h, List.filterMap_nil, List.take_of_length_le (by rw [List.length_append, List.length_singleton]; omega), List.take_of_length_le (by omega)]
theorem plc_mem {rs : List Rl2} {q : Nat × Nat × Nat} (h : q ∈ plc rs) : q.1 < rs.length ∧ q.2.1 < rs.length ∧ q.2.2 < (rs.getD q.1 ([], [])).1.length := by
  unfold plc at h
  rw [List.mem_flatMap] at h
  obtain ⟨i, hi, h⟩ := h
  rw [List.mem_flatMap] at h
  obtain ⟨j, hj, h⟩ := h
  obtain ⟨p, hp, e⟩ := List.mem_map.mp h
  rw [List.mem_range] at hi hj
  have := List.mem_range.mp (List.mem_filter.mp hp).1
  rw [← e]
  exact ⟨hi, hj, this⟩
theorem pr2_some {rs : List Rl2} {q : Nat × Nat × Nat} {X : Pr1} (h : pr2 rs q = some X) : X.1 = q ∧ pr1 (rs.getD q.1 ([], [])) (rs.getD q.2.1 ([], [])) q.2.2 = some X.2 := by
  unfold pr2 at h
  split at h
  · split at h
    · cases h
    · rename_i Y hY
      injection h with h
      rw [← h]
      exact ⟨rfl, hY⟩
  · cases h
theorem prs_ok {ars : List Nat} {rs : List Rl2} (hr : ∀ r, r ∈ rs → okr ars r) : ∀ X, X ∈ prs rs → okt ars 16 80 X.2.1 ∧ okt ars 16 80 X.2.2 := by
  intro X hX
  unfold prs at hX
  obtain ⟨q, hq, e⟩ := List.mem_filterMap.mp (List.mem_of_mem_take hX)
  obtain ⟨h1, h2, h3⟩ := plc_mem hq
  have := pr2_some e
  exact pr1_ok (hr _ (getD_mem h1)) (hr _ (getD_mem h2)) h3 this.2
/-- what is left to be written of the second term -/
def rst (L R' : List Int) (p k : Nat) : List Int := if k ≤ p then (L.drop k).take (p - k) ++ (R' ++ L.drop (en L p)) else L.drop k
section S77
variable {L R' : List Int} {p k : Nat}
theorem rst_0 : rst L R' p 0 = sec L R' p := by
  unfold rst sec
  rw [if_pos (Nat.zero_le _), List.drop_zero, Nat.sub_zero, List.append_assoc]
theorem rst_lt (h : k ≠ p) (hp : p < L.length) (hk : k < L.length) : rst L R' p k = L.getD k 0 :: rst L R' p (k + 1) := by
  unfold rst
  rcases Nat.lt_or_gt_of_ne h with g | g
  · rw [if_pos (by omega), if_pos (by omega), dropc hk, show p - k = (p - (k + 1)) + 1 by omega, List.take_succ_cons]
    rfl
  · rw [if_neg (by omega), if_neg (by omega), dropc hk]
theorem rst_p (hp : p < L.length) : rst L R' p p = R' ++ rst L R' p (en L p) := by
  have := en_gt hp
  unfold rst
  rw [if_pos (Nat.le_refl _), if_neg (by omega), Nat.sub_self, List.take_zero]
  rfl
theorem rst_end (hp : p < L.length) (h : L.length ≤ k) : rst L R' p k = [] := by
  unfold rst
  rw [if_neg (by omega), List.drop_eq_nil_of_le h]
end S77

