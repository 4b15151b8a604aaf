/-! THE CALCULUS OVER THE PURE MACHINE: JX: 'the run from here ends, and its end has P' -/
def JX (mi pc : Nat) (ls st : List JV) (M : JM) (P : JO → JM → Prop) : Prop := ∃ (n : Nat) (o : JO) (M1 : JM), jrun n mi pc ls st M = some (o, M1) ∧ P o M1
theorem jrun_mono1 : ∀ (n mi pc : Nat) (ls st : List JV) (M : JM) (r : JO × JM), jrun n mi pc ls st M = some r → jrun (n + 1) mi pc ls st M = some r := by
  intro n
  induction n with
  | zero => intro mi pc ls st M r h; simp [jrun] at h
  | succ n ih =>
    intro mi pc ls st M r h
    rw [jrun] at h ⊢
    split at h
    · cases h
    · split at h
      · cases h
      · exact ih _ _ _ _ _ _ h
      · exact h
      · rename_i y as st1 heq
        split at h
        · cases h
        · rename_i v M1 hy
          rw [ih _ _ _ _ _ _ hy]
          exact ih _ _ _ _ _ _ h
        · rename_i E M1 hy
          rw [ih _ _ _ _ _ _ hy]
          exact h
theorem jrun_mono {n k mi pc : Nat} {ls st : List JV} {M : JM} {r : JO × JM} (h : jrun n mi pc ls st M = some r) (hk : n ≤ k) : jrun k mi pc ls st M = some r := by
  obtain ⟨d, rfl⟩ := Nat.exists_eq_add_of_le hk
  clear hk
  induction d with
  | zero => exact h
  | succ d ih => exact jrun_mono1 _ _ _ _ _ _ _ ih
theorem JX_mono {mi pc : Nat} {ls st : List JV} {M : JM} {P Q : JO → JM → Prop} (h : JX mi pc ls st M P) (hq : ∀ o M1, P o M1 → Q o M1) : JX mi pc ls st M Q := by
  obtain ⟨n, o, M1, h1, h2⟩ := h
  exact ⟨n, o, M1, h1, hq _ _ h2⟩
/-- behind a call -/
theorem JX_call {mi pc : Nat} {ls st : List JV} {M : JM} {P Q : JO → JM → Prop} {x : JI} {y : Nat} {as st1 : List JV} (hc : jcode mi pc = some x) (hs : jstep x pc ls st M = some (.inr (.inl (y, as, st1)))) (hy : JX y 0 (jargs y as) [] M Q) (hq : ∀ v M1, Q (.inl v) M1 → JX mi (pc + jrl x) ls (v.toList ++ st1) M1 P) (hx : ∀ k M1, Q (.inr k) M1 → P (.inr k) M1) : JX mi pc ls st M P := by
  obtain ⟨n, o, M1, h1, h2⟩ := hy
  cases o with
  | inl v =>
    obtain ⟨n2, o2, M2, h3, h4⟩ := hq v M1 h2
    refine ⟨n + n2 + 1, o2, M2, ?_, h4⟩
    rw [jrun, hc]
    simp only [hs, jrun_mono h1 (Nat.le_add_right n n2)]
    exact jrun_mono h3 (Nat.le_add_left n2 n)
  | inr k => exact ⟨n + 1, .inr k, M1, by rw [jrun, hc]; simp only [hs, h1], hx k M1 h2⟩
