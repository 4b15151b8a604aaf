/-! FACTS ABOUT ROWS: normal forms, reductions, unification of two terms in both orders -/
def nf (rs : List Rl2) (T : List Int) : Prop := ∀ p, p < T.length → rx rs T p = false
section L97b
variable {rs : List Rl2} {inner : Bool} {T : List Int}
theorem px_nf : px rs inner T = -1 ↔ nf rs T := by
  constructor
  · intro h p hp
    cases hx : rx rs T p with
    | false => rfl
    | true => exact absurd h (px_ne hp hx)
  · intro h
    by_cases q : px rs inner T = -1
    · exact q
    · obtain ⟨k, _, hk, hx⟩ := px_get q
      rw [h k hk] at hx
      cases hx
theorem px_lt : px rs inner T < 0 ↔ nf rs T := by
  rw [← px_nf (inner := inner)]
  constructor
  · intro h
    by_cases q : px rs inner T = -1
    · exact q
    · obtain ⟨k, e, -⟩ := px_get q
      omega
  · omega
theorem cnt_nf : (((List.range T.length).countP (rx rs T) : Nat) : Int) = 0 ↔ nf rs T := by
  constructor
  · intro h p hp
    have h : (List.range T.length).countP (rx rs T) = 0 := by omega
    rw [List.countP_eq_zero] at h
    have := h p (List.mem_range.mpr hp)
    cases hx : rx rs T p with
    | false => rfl
    | true => exact absurd hx this
  · intro h
    have : (List.range T.length).countP (rx rs T) = 0 := by
      rw [List.countP_eq_zero]
      intro p hp
      rw [h p (List.mem_range.mp hp)]
      decide
    omega
theorem rdc_su {n : Nat} (hp : px rs inner T ≠ -1) : rdc rs inner (n + 1) T = (match st1 rs T (px rs inner T).toNat with
    | none => none
    | some X => match rdc rs inner n X with
      | none => none
      | some (k, Y) => some (k + 1, Y)) := by
  rw [rdc, if_neg hp]
  cases st1 rs T (px rs inner T).toNat with
  | none => rfl
  | some X =>
    dsimp only
    cases rdc rs inner n X with
    | none => rfl
    | some q => rfl
theorem rdc_at {n : Nat} (hp : px rs inner T = -1) : rdc rs inner n T = some (0, T) := by
  cases n with
  | zero => rw [rdc, if_pos hp]
  | succ n => rw [rdc, if_pos hp]
/-- a reduction that ends takes a step, or is at its end -/
theorem rdc_cs {n k : Nat} {Y : List Int} (h : rdc rs inner n T = some (k, Y)) : (k = 0 ∧ Y = T ∧ px rs inner T = -1) ∨ ∃ m j X, n = m + 1 ∧ k = j + 1 ∧ px rs inner T ≠ -1 ∧ st1 rs T (px rs inner T).toNat = some X ∧ rdc rs inner m X = some (j, Y) := by
  by_cases hp : px rs inner T = -1
  · rw [rdc_at hp] at h
    cases h
    exact Or.inl ⟨rfl, rfl, hp⟩
  · cases n with
    | zero =>
      rw [rdc, if_neg hp] at h
      cases h
    | succ m =>
      rw [rdc_su hp] at h
      cases hX : st1 rs T (px rs inner T).toNat with
      | none =>
        rw [hX] at h
        cases h
      | some X =>
        rw [hX] at h
        dsimp only at h
        cases hY : rdc rs inner m X with
        | none =>
          rw [hY] at h
          cases h
        | some q =>
          obtain ⟨j, Z⟩ := q
          rw [hY] at h
          cases h
          exact Or.inr ⟨m, j, X, rfl, rfl, hp, rfl, hY⟩
theorem rdc_end : ∀ (n k : Nat) (T Y : List Int), rdc rs inner n T = some (k, Y) → nf rs Y := by
  intro n
  induction n with
  | zero =>
    intro k T Y h
    rcases rdc_cs h with ⟨-, rfl, hp⟩ | ⟨m, j, X, e, -⟩
    · exact px_nf.mp hp
    · omega
  | succ n ih =>
    intro k T Y h
    rcases rdc_cs h with ⟨-, rfl, hp⟩ | ⟨m, j, X, e, -, -, -, hm⟩
    · exact px_nf.mp hp
    · have : m = n := by omega
      subst this
      exact ih _ _ _ hm
theorem rdc_mono : ∀ (n k : Nat) (T Y : List Int), rdc rs inner n T = some (k, Y) → rdc rs inner (n + 1) T = some (k, Y) := by
  intro n
  induction n with
  | zero =>
    intro k T Y h
    rcases rdc_cs h with ⟨rfl, rfl, hp⟩ | ⟨m, j, X, e, -⟩
    · exact rdc_at hp
    · omega
  | succ n ih =>
    intro k T Y h
    rcases rdc_cs h with ⟨rfl, rfl, hp⟩ | ⟨m, j, X, e, rfl, hp, hX, hm⟩
    · exact rdc_at hp
    · have : m = n := by omega
      subst this
      rw [rdc_su hp, hX]
      dsimp only
      rw [ih _ _ _ hm]
theorem stp_of {X : List Int} (hp : px rs inner T ≠ -1) (h : st1 rs T (px rs inner T).toNat = some X) : stp rs inner T = some (px rs inner T, X) := by
  unfold stp
  rw [if_neg hp, h]
end L97b
/-! both orders -/
def swv (c : Int) : Int := if -8 ≤ c ∧ c < 0 then c - 8 else if -16 ≤ c ∧ c < -8 then c + 8 else c
theorem swv_swv (c : Int) : swv (swv c) = c := by
  unfold swv
  split
  · rw [if_neg (by omega), if_pos (by omega)]
    omega
  · split
    · rw [if_pos (by omega)]
      omega
    · rfl
theorem swv_neg {c : Int} : swv c < 0 ↔ c < 0 := by
  unfold swv
  split
  · omega
  · split <;> omega
theorem swv_pos {c : Int} (h : ¬ c < 0) : swv c = c := by
  unfold swv
  rw [if_neg (by omega), if_neg (by omega)]
theorem swv_ar (c : Int) : ar (swv c) = ar c := by
  by_cases h : c < 0
  · rw [ar_neg h, ar_neg (swv_neg.mpr h)]
  · rw [swv_pos h]
theorem wl_swv : ∀ (L : List Int) (d : Nat), wl (L.map swv) d = wl L d := by
  intro L
  induction L with
  | nil => intro d; rfl
  | cons c r ih =>
    intro d
    cases d with
    | zero => rfl
    | succ d => rw [List.map_cons, wl_cons, wl_cons, swv_ar, ih]
theorem sv_mapv {θ : Int → List Int} : ∀ L : List Int, (sv θ L).map swv = sv (fun c => (θ c).map swv) L := by
  intro L
  induction L with
  | nil => rfl
  | cons c r ih =>
    rw [sv_cons, sv_cons, List.map_append, ih]
    by_cases h : c < 0
    · rw [if_pos h, if_pos h]
    · rw [if_neg h, if_neg h, List.map_cons, swv_pos h]
      rfl
theorem sv_vmap {σ : Int → List Int} : ∀ L : List Int, sv σ (L.map swv) = sv (fun c => σ (swv c)) L := by
  intro L
  induction L with
  | nil => rfl
  | cons c r ih =>
    rw [List.map_cons, sv_cons, sv_cons, ih]
    by_cases h : c < 0
    · rw [if_pos h, if_pos (swv_neg.mpr h)]
    · rw [if_neg h, if_neg (fun e => h (swv_neg.mp e)), swv_pos h]
/-- variables below 8 -/
def v8 (T : List Int) : Prop := ∀ c, c ∈ T → c < 0 → -8 ≤ c
theorem shv_sw : ∀ {T : List Int}, v8 T → shv T = T.map swv := by
  intro T h
  unfold shv
  refine List.map_congr_left fun c hc => ?_
  by_cases q : c < 0
  · have := h c hc q
    unfold swv
    rw [if_pos q, if_pos ⟨this, q⟩]
  · rw [if_neg q, swv_pos q]
theorem sv_shv {σ : Int → List Int} {T : List Int} (h : v8 T) : sv σ (shv T) = sv (fun c => σ (swv c)) T := by
  rw [shv_sw h, sv_vmap]
theorem sv_swv {σ : Int → List Int} {T : List Int} (h : v8 T) : sv (fun c => σ (swv c)) (shv T) = sv σ T := by
  rw [sv_shv h]
  have : (fun c => σ (swv (swv c))) = σ := funext fun c => by rw [swv_swv]
  rw [this]
theorem isU_sw {σ : Int → List Int} {X Y : List Int} (hx : v8 X) (hy : v8 Y) (h : isU σ X (shv Y)) : isU (fun c => σ (swv c)) Y (shv X) := ⟨fun c hc => h.1 _ (swv_neg.mpr hc), by rw [sv_swv hx, ← sv_shv hy]; exact h.2.symm⟩
def thw (θ : Int → List Int) : Int → List Int := fun c => (θ (swv c)).map swv
theorem mgu_sw {θ : Int → List Int} {X Y : List Int} (hx : v8 X) (hy : v8 Y) (h : mgu θ X (shv Y)) : mgu (thw θ) Y (shv X) := by
  refine ⟨⟨fun c hc => ?_, ?_⟩, fun σ hσ c hc => ?_⟩
  · show wl ((θ (swv c)).map swv) 1 = true
    rw [wl_swv]
    exact h.1.1 _ (swv_neg.mpr hc)
  · have e : ∀ L, sv (thw θ) L = (sv (fun c => θ (swv c)) L).map swv := fun L => (sv_mapv (θ := fun c => θ (swv c)) L).symm
    rw [e, e, (isU_sw hx hy h.1).2]
  · show sv σ ((θ (swv c)).map swv) = σ c
    rw [sv_vmap]
    have := h.2 _ (isU_sw hy hx hσ) (swv c) (swv_neg.mpr hc)
    rw [this, swv_swv]
theorem uni_ex {X Y : List Int} (h : uni X Y = true) : ∃ θ, mgu θ X Y := by
  by_cases q : ∃ θ, mgu θ X Y
  · exact q
  · exfalso
    unfold uni mguOf at h
    rw [dif_neg q] at h
    cases h
theorem usz_no {X Y : List Int} (h : ¬ ∃ θ, mgu θ X Y) : usz X Y = -1 := by
  unfold usz mguOf
  rw [dif_neg h]
theorem uni_sym {X Y : List Int} (hx : v8 X) (hy : v8 Y) : uni X (shv Y) = uni Y (shv X) := by
  cases h1 : uni X (shv Y) with
  | true =>
    obtain ⟨θ, hθ⟩ := uni_ex h1
    exact (uni_t (mgu_sw hx hy hθ)).symm
  | false =>
    cases h2 : uni Y (shv X) with
    | false => rfl
    | true =>
      obtain ⟨θ, hθ⟩ := uni_ex h2
      rw [uni_t (mgu_sw hy hx hθ)] at h1
      cases h1
theorem usz_sym {X Y : List Int} (hx : v8 X) (hy : v8 Y) : usz X (shv Y) = usz Y (shv X) := by
  by_cases h : ∃ θ, mgu θ X (shv Y)
  · obtain ⟨θ, hθ⟩ := h
    have h2 := mgu_sw hx hy hθ
    have e : (sv (thw θ) Y).length = (sv θ X).length := by
      have e1 : sv (thw θ) Y = (sv (fun c => θ (swv c)) Y).map swv := (sv_mapv (θ := fun c => θ (swv c)) Y).symm
      rw [e1, List.length_map, ← sv_shv hy, ← hθ.1.2]
    rw [usz_t hθ, usz_t h2, e]
  · have h2 : ¬ ∃ θ, mgu θ Y (shv X) := by
      rintro ⟨θ, hθ⟩
      exact h ⟨_, mgu_sw hy hx hθ⟩
    rw [usz_no h, usz_no h2]
theorem sv_ida {θ : Int → List Int} : ∀ L : List Int, (∀ c, c ∈ L → c < 0 → θ c = [c]) → sv θ L = L := by
  intro L
  induction L with
  | nil => intro _; rfl
  | cons c r ih =>
    intro h
    rw [sv_cons, ih fun x hx => h x (List.mem_cons_of_mem _ hx)]
    by_cases q : c < 0
    · rw [if_pos q, h c List.mem_cons_self q]
      rfl
    · rw [if_neg q]
      rfl
theorem shv_cons (c : Int) (r : List Int) : shv (c :: r) = (if c < 0 then c - 8 else c) :: shv r := rfl
theorem sv_idb8 {θ : Int → List Int} : ∀ L : List Int, (∀ c, c ∈ L → c < 0 → θ (c - 8) = [c]) → sv θ (shv L) = L := by
  intro L
  induction L with
  | nil => intro _; rfl
  | cons c r ih =>
    intro h
    rw [shv_cons, sv_cons, ih fun x hx => h x (List.mem_cons_of_mem _ hx)]
    by_cases q : c < 0
    · rw [if_pos q, if_pos (by omega), h c List.mem_cons_self q]
      rfl
    · rw [if_neg q, if_neg q]
      rfl
theorem sv_ptw {σ : Int → List Int} (hw : ∀ c, c < 0 → wl (σ c) 1 = true) : ∀ L : List Int, sv σ L = sv σ (shv L) → ∀ c, c ∈ L → c < 0 → σ c = σ (c - 8) := by
  intro L
  induction L with
  | nil => intro _ c hc; cases hc
  | cons x r ih =>
    intro h c hc hc0
    rw [shv_cons, sv_cons, sv_cons] at h
    by_cases q : x < 0
    · rw [if_pos q, if_pos q, if_pos (by omega)] at h
      obtain ⟨e1, e2⟩ := wl_inj _ _ _ _ 1 (hw x q) (hw (x - 8) (by omega)) h
      rcases List.mem_cons.mp hc with rfl | hc
      · exact e1
      · exact ih e2 c hc hc0
    · rw [if_neg q, if_neg q, if_neg q] at h
      rcases List.mem_cons.mp hc with rfl | hc
      · exact absurd hc0 q
      · exact ih (List.cons.inj h).2 c hc hc0
theorem uni_self {T : List Int} (h : v8 T) : uni T (shv T) = true := by
  have k1 : ∀ c, c ∈ T → c < 0 → (if c + 8 < 0 ∧ c + 8 ∈ T then [c + 8] else [c]) = [c] := fun c hc h0 => by
    have := h c hc h0
    rw [if_neg (by omega)]
  have k2 : ∀ c, c ∈ T → c < 0 → (if c - 8 + 8 < 0 ∧ c - 8 + 8 ∈ T then [c - 8 + 8] else [c - 8]) = [c] := fun c hc h0 => by
    rw [show c - 8 + 8 = c by omega, if_pos ⟨h0, hc⟩]
  refine uni_t (θ := fun c => if c + 8 < 0 ∧ c + 8 ∈ T then [c + 8] else [c]) ⟨⟨fun c hc => ?_, ?_⟩, fun σ hσ c hc => ?_⟩
  · dsimp only
    split
    · rename_i q
      rw [wl_cons, ar_neg q.1]
      rfl
    · rw [wl_cons, ar_neg hc]
      rfl
  · rw [sv_ida T k1, sv_idb8 T k2]
  · dsimp only
    split
    · rename_i q
      rw [sv_cons, if_pos q.1, sv_nil, List.append_nil, sv_ptw hσ.1 T hσ.2 _ q.2 q.1, show c + 8 - 8 = c by omega]
    · rw [sv_cons, if_pos hc, sv_nil, List.append_nil]
