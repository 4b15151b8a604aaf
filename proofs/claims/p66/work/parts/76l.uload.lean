/-! THE CLASS: the pool is filled -/
/-- the first n places of the pool P are filled -/
def PLd (μ : Mem) (v0 : Nat) (P : List Int) (n : Nat) : Prop := μ v0 0 = (n : Int) ∧ (∀ i, i < n → μ (v0 + 1) i = P.getD i 0 ∧ μ (v0 + 3) i = ((en P i : Nat) : Int) ∧ μ (v0 + 2) i = ((R0 P i : Nat) : Int)) ∧ ∀ j, j < 16 → μ (v0 + 5) j = if P.idxOf (-1 - (j : Int)) < n then ((P.idxOf (-1 - (j : Int)) : Nat) : Int) else -1
section L76
variable {μ : Mem} {v0 v1 n0 : Nat} {P T : List Int} {v2 : Int}
theorem idx_le {P : List Int} {i : Nat} (hi : i < P.length) : P.idxOf (P.getD i 0) ≤ i := by
  induction P generalizing i with
  | nil => simp at hi
  | cons x r ih =>
    rw [List.idxOf_cons]
    cases i with
    | zero =>
      rw [show (x :: r).getD 0 0 = x from rfl, beq_self_eq_true, cond_true]
      exact Nat.le_refl _
    | succ i =>
      rw [show (x :: r).getD (i + 1) 0 = r.getD i 0 from rfl]
      have := ih (i := i) (by simpa using hi)
      by_cases e : x = r.getD i 0
      · rw [beq_iff_eq.mpr e, cond_true]
        exact Nat.zero_le _
      · rw [beq_eq_false_iff_ne.mpr e, cond_false]
        omega
theorem PLd.next {μ' : Mem} {n : Nat} (h : PLd μ v0 P n) (hn : n < P.length) (h0 : μ' v0 0 = ((n + 1 : Nat) : Int)) (h1 : μ' (v0 + 1) n = P.getD n 0) (h3 : μ' (v0 + 3) n = ((en P n : Nat) : Int)) (h2 : μ' (v0 + 2) n = ((R0 P n : Nat) : Int))
    (k1 : ∀ i, i ≠ n → μ' (v0 + 1) i = μ (v0 + 1) i) (k3 : ∀ i, i ≠ n → μ' (v0 + 3) i = μ (v0 + 3) i) (k2 : ∀ i, i ≠ n → μ' (v0 + 2) i = μ (v0 + 2) i)
    (h5 : ∀ j, j < 16 → μ' (v0 + 5) j = if P.idxOf (-1 - (j : Int)) < n + 1 then ((P.idxOf (-1 - (j : Int)) : Nat) : Int) else -1) : PLd μ' v0 P (n + 1) := by
  refine ⟨h0, fun i hi => ?_, h5⟩
  by_cases e : i = n
  · subst e
    exact ⟨h1, h3, h2⟩
  · have := h.2.1 i (by omega)
    rw [k1 i e, k3 i e, k2 i e]
    exact this
theorem c_share {v w : Int} {n j : Nat} {Q : Mem → Prop} (hv : v = (n : Int)) (hw : w = (j : Int)) (hn : n < 160) (hj : j < 16) (k : ∀ μ', (μ (v0 + 5) j = -1 → μ' = mup (mup μ (v0 + 5) j (n : Int)) (v0 + 2) n (n : Int)) → (μ (v0 + 5) j ≠ -1 → μ' = mup μ (v0 + 2) n (μ (v0 + 5) j)) → Q μ') : d_Unifier_shareVariable v0 v w μ Q := by
  unfold d_Unifier_shareVariable d_Unifier_shareVariable_j41
  rw [if_neg (by omega), if_pos (by omega), if_neg (by omega), if_pos (by omega), show w.toNat = j by omega, show v.toNat = n by omega]
  refine ⟨by omega, ?_⟩
  by_cases e : μ (v0 + 5) j = -1
  · rw [if_pos e, mup_s]
    refine ⟨by omega, by omega, by omega, k _ (fun _ => by rw [hv]) fun q => absurd e q⟩
  · rw [if_neg e]
    exact ⟨by omega, by omega, k _ (fun q => absurd q e) fun _ => rfl⟩
end L76

