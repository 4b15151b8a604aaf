/-! THE CLASS: what merging keeps -/
def rsR (N : Nat) (R f : Nat → Nat) : Prop := ∀ j, j < N → f j = f (R j)
def rsS (S : Ps) (f : Nat → Nat) : Prop := ∀ x, x ∈ S → f x.1 = f x.2
theorem rsS.cons {x : Nat × Nat} {S : Ps} {f : Nat → Nat} : rsS (x :: S) f ↔ f x.1 = f x.2 ∧ rsS S f := by
  unfold rsS
  constructor
  · intro h
    exact ⟨h x (List.mem_cons_self ..), fun y hy => h y (List.mem_cons_of_mem _ hy)⟩
  · rintro ⟨h1, h2⟩ y hy
    rcases List.mem_cons.mp hy with e | e
    · rw [e]; exact h1
    · exact h2 y e
def vlR (P : List Int) (σ : Int → List Int) (R : Nat → Nat) : Prop := ∀ i, i < P.length → vl σ P i = vl σ P (R i)
/-- what merging keeps -/
def MGI (P : List Int) (a b : Nat) (R : Nat → Nat) (S : Ps) : Prop :=
  (∀ i, i < P.length → ¬ P.getD i 0 < 0 → P.getD (R i) 0 = P.getD i 0) ∧ (∀ σ, gdS σ → (vl σ P a = vl σ P b ↔ vlR P σ R ∧ AllE P σ S)) ∧
  (∀ i, i < P.length → ¬ P.getD i 0 < 0 → ∀ f, rsR P.length R f → rsS S f → (kids P (i + 1) (ar (P.getD i 0))).map f = (kids P (R i + 1) (ar (P.getD i 0))).map f) ∧
  ∀ i j, i < P.length → j < P.length → P.getD i 0 = P.getD j 0 → P.getD i 0 < 0 → R i = R j
section G76
variable {P : List Int} {a b u v x y : Nat} {R : Nat → Nat} {S S' : Ps}
theorem MGI.skip (h : MGI P a b R ((u, v) :: S)) (hu : u < P.length) (hv : v < P.length) (e : R u = R v) : MGI P a b R S := by
  obtain ⟨h1, h2, h3, h4⟩ := h
  refine ⟨h1, fun σ hσ => ?_, fun i hi n f f1 f2 => h3 i hi n f f1 (rsS.cons.mpr ⟨?_, f2⟩), h4⟩
  · rw [h2 σ hσ, AllE.cons]
    constructor
    · rintro ⟨q1, _, q3⟩
      exact ⟨q1, q3⟩
    · rintro ⟨q1, q3⟩
      exact ⟨q1, by rw [q1 u hu, q1 v hv, e], q3⟩
  · dsimp only
    rw [f1 u hu, f1 v hv, e]
theorem MGI.unite (h : MGI P a b R ((u, v) :: S)) (hu : u < P.length) (hv : v < P.length) (hx : x < P.length) (hRx : R x = x) (hxy : (R u = x ∧ R v = y) ∨ (R u = y ∧ R v = x))
    (hS1 : ∀ σ, gdS σ → vl σ P x = vl σ P y → (AllE P σ S' ↔ AllE P σ S)) (hS2 : ∀ f, rsS S' f → rsS S f)
    (hS3 : ¬ P.getD x 0 < 0 → P.getD x 0 = P.getD y 0 ∧ ∀ f, rsS S' f → (kids P (x + 1) (ar (P.getD x 0))).map f = (kids P (y + 1) (ar (P.getD x 0))).map f) : MGI P a b (hgR R x y) S' := by
  obtain ⟨h1, h2, h3, h4⟩ := h
  have hgx : ∀ i, R i = x → hgR R x y i = y := fun i e => if_pos e
  have hgn : ∀ i, ¬ R i = x → hgR R x y i = R i := fun i e => if_neg e
  refine ⟨fun i hi n => ?_, fun σ hσ => ?_, fun i hi n f f1 f2 => ?_, fun i j hi hj e n => ?_⟩
  · have e1 := h1 i hi n
    by_cases k : R i = x
    · rw [hgx i k, ← e1, k]
      exact (hS3 (by rw [← k, e1]; exact n)).1.symm
    · rw [hgn i k]
      exact e1
  · rw [h2 σ hσ, AllE.cons]
    dsimp only
    constructor
    · rintro ⟨q1, q2, q3⟩
      have exy : vl σ P x = vl σ P y := by
        rw [q1 u hu, q1 v hv] at q2
        rcases hxy with ⟨c1, c2⟩ | ⟨c1, c2⟩
        · rw [c1, c2] at q2; exact q2
        · rw [c1, c2] at q2; exact q2.symm
      refine ⟨fun i hi => ?_, (hS1 σ hσ exy).mpr q3⟩
      by_cases k : R i = x
      · rw [hgx i k, q1 i hi, k, exy]
      · rw [hgn i k]
        exact q1 i hi
    · rintro ⟨q1, q3⟩
      have exy : vl σ P x = vl σ P y := by
        have := q1 x hx
        rw [hgx x hRx] at this
        exact this
      have q1' : vlR P σ R := fun i hi => by
        have := q1 i hi
        by_cases k : R i = x
        · rw [hgx i k] at this
          rw [k, exy, this]
        · rw [hgn i k] at this
          exact this
      refine ⟨q1', ?_, (hS1 σ hσ exy).mp q3⟩
      rw [q1' u hu, q1' v hv]
      rcases hxy with ⟨c1, c2⟩ | ⟨c1, c2⟩
      · rw [c1, c2]; exact exy
      · rw [c1, c2]; exact exy.symm
  · have fxy : f x = f y := by
      have := f1 x hx
      rw [hgx x hRx] at this
      exact this
    have f1' : rsR P.length R f := fun j hj => by
      have := f1 j hj
      by_cases k : R j = x
      · rw [hgx j k] at this
        rw [k, fxy, this]
      · rw [hgn j k] at this
        exact this
    have f2' : rsS ((u, v) :: S) f := rsS.cons.mpr ⟨by
      dsimp only
      rw [f1' u hu, f1' v hv]
      rcases hxy with ⟨c1, c2⟩ | ⟨c1, c2⟩
      · rw [c1, c2]; exact fxy
      · rw [c1, c2]; exact fxy.symm, hS2 f f2⟩
    have e := h3 i hi n f f1' f2'
    by_cases k : R i = x
    · have e1 := h1 i hi n
      rw [k] at e1 e
      have n' : ¬ P.getD x 0 < 0 := by rw [e1]; exact n
      rw [hgx i k, e]
      have := (hS3 n').2 f f2
      rw [e1] at this
      exact this
    · rw [hgn i k]
      exact e
  · have := h4 i j hi hj e n
    unfold hgR
    rw [this]
end G76

