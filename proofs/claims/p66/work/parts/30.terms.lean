/-! TERMS AS ROWS OF NODES: a symbol is 4 * symbol + arity, a variable -1 - variable; a row in preorder. -/
def ar (c : Int) : Nat := if c < 0 then 0 else (c % 4).toNat
/-- how many nodes the first d terms of a row have -/
def sk : List Int → Nat → Nat
  | [], _ => 0
  | _ :: _, 0 => 0
  | c :: r, d + 1 => 1 + sk r (d + ar c)
/-- the row is d terms -/
def wl : List Int → Nat → Bool
  | [], 0 => true
  | [], _ + 1 => false
  | _ :: _, 0 => false
  | c :: r, d + 1 => wl r (d + ar c)
theorem sk_nil (d : Nat) : sk [] d = 0 := by cases d <;> rfl
theorem sk_zero (L : List Int) : sk L 0 = 0 := by cases L <;> rfl
theorem sk_cons (c : Int) (r : List Int) (d : Nat) : sk (c :: r) (d + 1) = 1 + sk r (d + ar c) := rfl
theorem wl_cons (c : Int) (r : List Int) (d : Nat) : wl (c :: r) (d + 1) = wl r (d + ar c) := rfl
theorem sk_le : ∀ (L : List Int) (d : Nat), sk L d ≤ L.length := by
  intro L
  induction L with
  | nil => intro d; rw [sk_nil]; exact Nat.zero_le _
  | cons c r ih =>
    intro d
    cases d with
    | zero => exact Nat.zero_le _
    | succ d =>
      have := ih (d + ar c)
      rw [sk_cons, List.length_cons]
      omega
theorem drop_1 (c : Int) (r : List Int) (n : Nat) : (c :: r).drop (1 + n) = r.drop n := by
  rw [Nat.add_comm, List.drop_succ_cons]
theorem take_1 (c : Int) (r : List Int) (n : Nat) : (c :: r).take (1 + n) = c :: r.take n := by
  rw [Nat.add_comm, List.take_succ_cons]
theorem sk_add : ∀ (L : List Int) (d e : Nat), sk L (d + e) = sk L d + sk (L.drop (sk L d)) e := by
  intro L
  induction L with
  | nil => intro d e; simp [sk_nil]
  | cons c r ih =>
    intro d e
    cases d with
    | zero => simp [sk_zero]
    | succ d =>
      rw [show d + 1 + e = (d + e) + 1 by omega, sk_cons, sk_cons, drop_1, show d + e + ar c = (d + ar c) + e by omega, ih]
      omega
theorem wl_app : ∀ (A B : List Int) (d e : Nat), wl A d = true → wl B e = true → wl (A ++ B) (d + e) = true := by
  intro A
  induction A with
  | nil =>
    intro B d e h1 h2
    cases d with
    | zero => simpa using h2
    | succ d => cases h1
  | cons c r ih =>
    intro B d e h1 h2
    cases d with
    | zero => cases h1
    | succ d =>
      rw [wl_cons] at h1
      rw [show d + 1 + e = (d + e) + 1 by omega, List.cons_append, wl_cons, show d + e + ar c = (d + ar c) + e by omega]
      exact ih _ _ _ h1 h2
theorem wl_cut : ∀ (L : List Int) (d e : Nat), wl L (d + e) = true → wl (L.take (sk L d)) d = true ∧ wl (L.drop (sk L d)) e = true := by
  intro L
  induction L with
  | nil =>
    intro d e h
    cases d with
    | zero =>
      simp only [sk_nil, List.take_nil, List.drop_nil]
      rw [Nat.zero_add] at h
      exact ⟨rfl, h⟩
    | succ d =>
      rw [show d + 1 + e = (d + e) + 1 by omega] at h
      cases h
  | cons c r ih =>
    intro d e h
    cases d with
    | zero =>
      rw [sk_zero, Nat.zero_add] at *
      exact ⟨rfl, h⟩
    | succ d =>
      rw [show d + 1 + e = (d + e) + 1 by omega, wl_cons, show d + e + ar c = (d + ar c) + e by omega] at h
      rw [sk_cons, drop_1, take_1, wl_cons]
      exact ih _ _ h
theorem sk_wl : ∀ (L : List Int) (d : Nat), wl L d = true → sk L d = L.length := by
  intro L
  induction L with
  | nil => intro d _; rw [sk_nil]; rfl
  | cons c r ih =>
    intro d h
    cases d with
    | zero => cases h
    | succ d =>
      rw [wl_cons] at h
      rw [sk_cons, ih _ h, List.length_cons]
      omega
theorem sk_app : ∀ (A B : List Int) (d : Nat), wl A d = true → sk (A ++ B) d = A.length := by
  intro A
  induction A with
  | nil =>
    intro B d h
    cases d with
    | zero => rw [sk_zero]; rfl
    | succ d => cases h
  | cons c r ih =>
    intro B d h
    cases d with
    | zero => cases h
    | succ d =>
      rw [wl_cons] at h
      rw [List.cons_append, sk_cons, ih _ _ h, List.length_cons]
      omega
theorem wl_drop : ∀ (L : List Int) (d : Nat), wl L d = true → ∀ p : Nat, p ≤ L.length → ∃ e : Nat, wl (L.drop p) e = true ∧ (p < L.length → 1 ≤ e) := by
  intro L
  induction L with
  | nil =>
    intro d h p hp
    exact ⟨d, by simpa using h, fun h2 => absurd h2 (by simp)⟩
  | cons c r ih =>
    intro d h p hp
    cases d with
    | zero => cases h
    | succ d =>
      cases p with
      | zero => exact ⟨d + 1, h, fun _ => by omega⟩
      | succ p =>
        rw [wl_cons] at h
        obtain ⟨e, h1, h2⟩ := ih _ h p (by simpa using hp)
        exact ⟨e, h1, fun h3 => h2 (by simpa using h3)⟩
theorem wl_len {L : List Int} {d : Nat} (h : wl L (d + 1) = true) : 0 < L.length := by
  cases L with
  | nil => cases h
  | cons c r => simp
theorem wl_zero {L : List Int} (h : wl L 0 = true) : L = [] := by
  cases L with
  | nil => rfl
  | cons c r => cases h
theorem wl_swap : ∀ (A B B' : List Int) (d : Nat), wl (A ++ B) d = true → (∀ e, wl B e = true → wl B' e = true) → wl (A ++ B') d = true := by
  intro A
  induction A with
  | nil => intro B B' d h k; exact k _ h
  | cons c r ih =>
    intro B B' d h k
    cases d with
    | zero => cases h
    | succ d => exact ih _ _ _ h k
/-- the place behind the subterm at a place; the subterm -/
def en (L : List Int) (p : Nat) : Nat := p + sk (L.drop p) 1
def sb (L : List Int) (p : Nat) : List Int := (L.drop p).take (sk (L.drop p) 1)
theorem en_le {L : List Int} {p : Nat} (h : p ≤ L.length) : en L p ≤ L.length := by
  have := sk_le (L.drop p) 1
  rw [List.length_drop] at this
  unfold en
  omega
theorem en_gt {L : List Int} {p : Nat} (h : p < L.length) : p < en L p := by
  unfold en
  have h1 : 0 < (L.drop p).length := by rw [List.length_drop]; omega
  cases hd : L.drop p with
  | nil => rw [hd] at h1; simp at h1
  | cons c r => rw [show (1 : Nat) = 0 + 1 from rfl, sk_cons]; omega
theorem en_out {L : List Int} {p : Nat} (h : L.length ≤ p) : en L p = p := by
  unfold en
  rw [List.drop_eq_nil_of_le h, sk_nil]
  rfl
theorem sb_drop (L : List Int) (p : Nat) : sb L p ++ L.drop (en L p) = L.drop p := by
  unfold sb en
  rw [← List.drop_drop, List.take_append_drop]
theorem sb_len (L : List Int) (p : Nat) : (sb L p).length = en L p - p := by
  unfold sb en
  have := sk_le (L.drop p) 1
  rw [List.length_take, Nat.min_eq_left this]
  omega
theorem sb_wl {L : List Int} {d p : Nat} (h : wl L d = true) (hp : p < L.length) : wl (sb L p) 1 = true ∧ ∃ e, wl (L.drop (en L p)) e = true ∧ wl (L.drop p) (1 + e) = true := by
  obtain ⟨e, h1, h2⟩ := wl_drop L d h p (by omega)
  have h3 := h2 hp
  have h4 : wl (L.drop p) (1 + (e - 1)) = true := by rw [show 1 + (e - 1) = e by omega]; exact h1
  have h5 := wl_cut _ _ _ h4
  refine ⟨h5.1, e - 1, ?_, h4⟩
  unfold en
  rw [← List.drop_drop]
  exact h5.2
theorem wl_repl {L X : List Int} {d p : Nat} (h : wl L d = true) (hp : p < L.length) (hX : wl X 1 = true) : wl (L.take p ++ X ++ L.drop (en L p)) d = true := by
  rw [List.append_assoc]
  refine wl_swap (L.take p) (L.drop p) _ d (by rw [List.take_append_drop]; exact h) fun e he => ?_
  rw [← sb_drop L p] at he
  have h1 := (sb_wl h hp).1
  cases e with
  | zero =>
    have := wl_zero he
    have h2 : (sb L p ++ L.drop (en L p)).length = 0 := by rw [this]; rfl
    rw [List.length_append] at h2
    have h3 := wl_len (d := 0) h1
    omega
  | succ e =>
    rw [show e + 1 = 1 + e by omega] at he ⊢
    have h2 := (wl_cut _ _ _ he).2
    rw [sk_app _ _ _ h1, List.drop_left] at h2
    exact wl_app _ _ _ _ hX h2
/-- variables replaced -/
def sv (σ : Int → List Int) (L : List Int) : List Int := L.flatMap fun c => if c < 0 then σ c else [c]
theorem sv_nil (σ : Int → List Int) : sv σ [] = [] := rfl
theorem sv_cons (σ : Int → List Int) (c : Int) (r : List Int) : sv σ (c :: r) = (if c < 0 then σ c else [c]) ++ sv σ r := by
  unfold sv
  rw [List.flatMap_cons]
theorem sv_app (σ : Int → List Int) (A B : List Int) : sv σ (A ++ B) = sv σ A ++ sv σ B := by
  unfold sv
  rw [List.flatMap_append]
theorem ar_neg {c : Int} (h : c < 0) : ar c = 0 := if_pos h
theorem wl_sv {σ : Int → List Int} : ∀ (L : List Int) (d : Nat), wl L d = true → (∀ c, c ∈ L → c < 0 → wl (σ c) 1 = true) → wl (sv σ L) d = true := by
  intro L
  induction L with
  | nil => intro d h _; exact h
  | cons c r ih =>
    intro d h k
    cases d with
    | zero => cases h
    | succ d =>
      rw [wl_cons] at h
      have h1 := ih _ h fun x hx => k x (List.mem_cons_of_mem _ hx)
      rw [sv_cons]
      by_cases hc : c < 0
      · rw [if_pos hc, show d + 1 = 1 + d by omega]
        rw [ar_neg hc] at h1
        exact wl_app _ _ _ _ (k c (List.mem_cons_self ..) hc) h1
      · rw [if_neg hc]
        exact h1
theorem wl_one_cut {L : List Int} {d : Nat} (h : wl L (d + 1) = true) : ∃ A B, L = A ++ B ∧ wl A 1 = true ∧ wl B d = true := by
  rw [show d + 1 = 1 + d by omega] at h
  have := wl_cut _ _ _ h
  exact ⟨_, _, (List.take_append_drop _ _).symm, this.1, this.2⟩
theorem wl_inj : ∀ (A A' B B' : List Int) (d : Nat), wl A d = true → wl A' d = true → A ++ B = A' ++ B' → A = A' ∧ B = B' := by
  intro A A' B B' d h1 h2 h
  have e1 := sk_app A B d h1
  have e2 := sk_app A' B' d h2
  rw [h] at e1
  have hl : A.length = A'.length := by omega
  exact List.append_inj h hl

