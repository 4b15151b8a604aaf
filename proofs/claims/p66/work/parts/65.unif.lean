/-! UNIFIERS: what they keep, most general ones are the same but for names -/
def gdS (σ : Int → List Int) : Prop := ∀ c, c < 0 → wl (σ c) 1 = true
theorem sv_sv (σ θ : Int → List Int) : ∀ L : List Int, sv σ (sv θ L) = sv (fun c => sv σ (θ c)) L := by
  intro L
  induction L with
  | nil => rfl
  | cons c r ih =>
    rw [sv_cons, sv_app, ih, sv_cons]
    by_cases h : c < 0
    · rw [if_pos h, if_pos h]
    · rw [if_neg h, if_neg h, sv_cons, if_neg h, sv_nil, List.append_nil]
theorem sv_congr {σ τ : Int → List Int} : ∀ L : List Int, (∀ c, c ∈ L → c < 0 → σ c = τ c) → sv σ L = sv τ L := by
  intro L
  induction L with
  | nil => intro _; rfl
  | cons c r ih =>
    intro h
    rw [sv_cons, sv_cons, ih fun x hx => h x (List.mem_cons_of_mem _ hx)]
    by_cases hc : c < 0
    · rw [if_pos hc, if_pos hc, h c (List.mem_cons_self ..) hc]
    · rw [if_neg hc, if_neg hc]
theorem sv_id : ∀ L : List Int, sv (fun c => [c]) L = L := by
  intro L
  induction L with
  | nil => rfl
  | cons c r ih =>
    rw [sv_cons, ih]
    split <;> rfl
theorem sv_len {σ : Int → List Int} (hg : gdS σ) : ∀ L : List Int, L.length ≤ (sv σ L).length := by
  intro L
  induction L with
  | nil => exact Nat.zero_le _
  | cons c r ih =>
    rw [sv_cons, List.length_append, List.length_cons]
    by_cases hc : c < 0
    · rw [if_pos hc]
      have := wl_len (d := 0) (hg c hc)
      omega
    · rw [if_neg hc, List.length_singleton]
      omega
theorem sv_mem_len {σ : Int → List Int} (hg : gdS σ) {c : Int} (hc : c < 0) : ∀ L : List Int, c ∈ L → (σ c).length + L.length ≤ (sv σ L).length + 1 := by
  intro L
  induction L with
  | nil => intro h; cases h
  | cons x r ih =>
    intro h
    rw [sv_cons, List.length_append, List.length_cons]
    by_cases e : c = x
    · subst e
      rw [if_pos hc]
      have := sv_len hg r
      omega
    · have hm : c ∈ r := by
        rcases List.mem_cons.mp h with h | h
        · exact absurd h e
        · exact h
      have h1 := ih hm
      by_cases hx : x < 0
      · rw [if_pos hx]
        have := wl_len (d := 0) (hg x hx)
        omega
      · rw [if_neg hx, List.length_singleton]
        omega
/-- two most general unifiers: each an instance of the other -/
theorem mgu_inst {θ η : Int → List Int} {s t : List Int} (h1 : mgu θ s t) (h2 : mgu η s t) (L : List Int) : sv η (sv θ L) = sv η L := by
  rw [sv_sv]
  exact sv_congr L fun c _ hc => h1.2 η h2.1 c hc
theorem mgu_len {θ η : Int → List Int} {s t : List Int} (h1 : mgu θ s t) (h2 : mgu η s t) (L : List Int) : (sv θ L).length = (sv η L).length := by
  have a := sv_len h2.1.1 (sv θ L)
  have b := sv_len h1.1.1 (sv η L)
  rw [mgu_inst h1 h2] at a
  rw [mgu_inst h2 h1] at b
  omega
/-- a renaming -/
theorem sv_map {σ : Int → List Int} (hg : gdS σ) : ∀ L : List Int, (sv σ L).length = L.length → ∃ ρ : Int → Int, sv σ L = L.map ρ ∧ (∀ c, c ∈ L → 0 ≤ c → ρ c = c) ∧ (∀ c, c ∈ L → c < 0 → σ c = [ρ c]) := by
  intro L hl
  refine ⟨fun c => if c < 0 then (σ c).getD 0 0 else c, ?_⟩
  have key : ∀ L : List Int, (sv σ L).length = L.length → sv σ L = L.map (fun c => if c < 0 then (σ c).getD 0 0 else c) ∧ ∀ c, c ∈ L → c < 0 → σ c = [(σ c).getD 0 0] := by
    intro L
    induction L with
    | nil => intro _; exact ⟨rfl, fun c h => by cases h⟩
    | cons x r ih =>
      intro h
      rw [sv_cons, List.length_append, List.length_cons] at h
      have hr := sv_len hg r
      by_cases hx : x < 0
      · rw [if_pos hx] at h
        have := wl_len (d := 0) (hg x hx)
        have hs : (σ x).length = 1 := by omega
        have es : σ x = [(σ x).getD 0 0] := by
          match e : σ x, hs with
          | [y], _ => rfl
        obtain ⟨e1, e2⟩ := ih (by omega)
        refine ⟨?_, fun c hc hn => ?_⟩
        · rw [sv_cons, if_pos hx, e1, List.map_cons, if_pos hx]
          rw [es]
          rfl
        · rcases List.mem_cons.mp hc with h | h
          · rw [h]; exact es
          · exact e2 c h hn
      · rw [if_neg hx, List.length_singleton] at h
        obtain ⟨e1, e2⟩ := ih (by omega)
        refine ⟨?_, fun c hc hn => ?_⟩
        · rw [sv_cons, if_neg hx, e1, List.map_cons, if_neg hx]
          rfl
        · rcases List.mem_cons.mp hc with h | h
          · omega
          · exact e2 c h hn
  obtain ⟨k1, k2⟩ := key L hl
  refine ⟨k1, fun c _ h0 => if_neg (by omega), fun c hc hn => ?_⟩
  have := k2 c hc hn
  dsimp only
  rw [if_pos hn]
  exact this
theorem vord_sub : ∀ (L V : List Int) (c : Int), c ∈ vord L V → c ∈ V ∨ (c ∈ L ∧ c < 0) := by
  intro L
  induction L with
  | nil => intro V c h; exact Or.inl h
  | cons x r ih =>
    intro V c h
    rw [vord] at h
    rcases ih _ c h with h | h
    · by_cases k : x < 0 ∧ ¬ x ∈ V
      · rw [if_pos k] at h
        rcases List.mem_append.mp h with h | h
        · exact Or.inl h
        · rw [List.mem_singleton] at h
          exact Or.inr ⟨by rw [h]; exact List.mem_cons_self .., by rw [h]; exact k.1⟩
      · rw [if_neg k] at h
        exact Or.inl h
    · exact Or.inr ⟨List.mem_cons_of_mem _ h.1, h.2⟩
theorem vord_all : ∀ (L V : List Int) (c : Int), c < 0 → c ∈ V ∨ c ∈ L → c ∈ vord L V := by
  intro L
  induction L with
  | nil =>
    intro V c _ h
    rcases h with h | h
    · exact h
    · cases h
  | cons x r ih =>
    intro V c hc h
    rw [vord]
    refine ih _ c hc ?_
    by_cases k : x < 0 ∧ ¬ x ∈ V
    · rw [if_pos k]
      rcases h with h | h
      · exact Or.inl (List.mem_append.mpr (Or.inl h))
      · rcases List.mem_cons.mp h with h | h
        · exact Or.inl (List.mem_append.mpr (Or.inr (by rw [h]; exact List.mem_singleton.mpr rfl)))
        · exact Or.inr h
    · rw [if_neg k]
      rcases h with h | h
      · exact Or.inl h
      · rcases List.mem_cons.mp h with h | h
        · subst h
          by_cases q : c ∈ V
          · exact Or.inl q
          · exact absurd ⟨hc, q⟩ k
        · exact Or.inr h
theorem idx_map {ρ ρ' : Int → Int} : ∀ (V : List Int) (c : Int), (∀ x, x ∈ V → ρ' (ρ x) = x) → ρ' (ρ c) = c → (V.map ρ).idxOf (ρ c) = V.idxOf c := by
  intro V
  induction V with
  | nil => intro c _ _; rfl
  | cons x r ih =>
    intro c h hc
    rw [List.map_cons, List.idxOf_cons, List.idxOf_cons, ih c (fun y hy => h y (List.mem_cons_of_mem _ hy)) hc]
    by_cases e : x = c
    · subst e
      rw [beq_self_eq_true, beq_self_eq_true]
    · have e2 : ¬ ρ x = ρ c := fun q => e (by rw [← h x (List.mem_cons_self ..), ← hc, q])
      rw [beq_eq_false_iff_ne.mpr e, beq_eq_false_iff_ne.mpr e2]
theorem cn_ren {ρ ρ' : Int → Int} {X : List Int} (h0 : ∀ c, c ∈ X → 0 ≤ c → ρ c = c) (h1 : ∀ c, c ∈ X → c < 0 → ρ c < 0) (h2 : ∀ c, c ∈ X → ρ' (ρ c) = c) : cn (X.map ρ) = cn X := by
  have key : ∀ L V : List Int, (∀ c, c ∈ L → c ∈ X) → (∀ c, c ∈ V → c ∈ X) → vord (L.map ρ) (V.map ρ) = (vord L V).map ρ := by
    intro L
    induction L with
    | nil => intro V _ _; rfl
    | cons x r ih =>
      intro V hL hV
      have hx := hL x (List.mem_cons_self ..)
      have hr : ∀ c, c ∈ r → c ∈ X := fun c hc => hL c (List.mem_cons_of_mem _ hc)
      have em : ρ x ∈ V.map ρ ↔ x ∈ V := by
        constructor
        · intro h
          obtain ⟨y, hy, e⟩ := List.mem_map.mp h
          rw [← h2 x hx, ← e, h2 y (hV y hy)]
          exact hy
        · exact fun h => List.mem_map.mpr ⟨x, h, rfl⟩
      rw [List.map_cons, vord, vord]
      by_cases k : x < 0 ∧ ¬ x ∈ V
      · rw [if_pos k, if_pos ⟨h1 x hx k.1, fun q => k.2 (em.mp q)⟩]
        rw [show V.map ρ ++ [ρ x] = (V ++ [x]).map ρ by rw [List.map_append]; rfl]
        exact ih _ hr fun c hc => by
          rcases List.mem_append.mp hc with hc | hc
          · exact hV c hc
          · rw [List.mem_singleton.mp hc]
            exact hx
      · rw [if_neg k, if_neg (fun q => k ⟨by
          by_cases n : x < 0
          · exact n
          · have := h0 x hx (by omega)
            omega, fun m => q.2 (em.mpr m)⟩)]
        exact ih _ hr hV
  have e := key X [] (fun c h => h) (fun c h => by cases h)
  unfold cn
  rw [show ([] : List Int) = ([] : List Int).map ρ from rfl, e, List.map_map]
  refine List.map_congr_left fun c hc => ?_
  unfold cnm
  dsimp only [Function.comp]
  have hs : ∀ y, y ∈ vord X [] → ρ' (ρ y) = y := fun y hy => by
    rcases vord_sub X [] y hy with h | h
    · cases h
    · exact h2 y h.1
  by_cases n : c < 0
  · rw [if_pos n, if_pos (h1 c hc n), List.map_nil, idx_map _ _ hs (h2 c hc)]
  · rw [if_neg n, h0 c hc (by omega), if_neg n]
theorem map_id {f : Int → Int} : ∀ L : List Int, L.map f = L → ∀ c, c ∈ L → f c = c := by
  intro L
  induction L with
  | nil => intro _ c h; cases h
  | cons x r ih =>
    intro h c hc
    rw [List.map_cons] at h
    injection h with h1 h2
    rcases List.mem_cons.mp hc with e | e
    · rw [e]; exact h1
    · exact ih h2 c e
/-- the names of the variables do not depend on the unifier -/
theorem mgu_cn {θ η : Int → List Int} {s t : List Int} (h1 : mgu θ s t) (h2 : mgu η s t) (L : List Int) : cn (sv θ L) = cn (sv η L) := by
  have e1 := mgu_inst h1 h2 L
  have e2 := mgu_inst h2 h1 L
  have hl := mgu_len h1 h2 L
  obtain ⟨ρ, r1, r2, r3⟩ := sv_map h2.1.1 (sv θ L) (by rw [e1, hl])
  obtain ⟨ρ', q1, q2, q3⟩ := sv_map h1.1.1 (sv η L) (by rw [e2, hl])
  rw [e1] at r1
  rw [e2, r1, List.map_map] at q1
  have h := map_id _ q1.symm
  rw [r1]
  have hn : ∀ c, c ∈ sv θ L → c < 0 → ρ c < 0 := fun c hc n => by
    by_cases p : ρ c < 0
    · exact p
    · have hm : ρ c ∈ sv η L := by rw [r1]; exact List.mem_map.mpr ⟨c, hc, rfl⟩
      have := q2 _ hm (by omega)
      have h3 : ρ' (ρ c) = c := h c hc
      omega
  exact (cn_ren (ρ' := ρ') r2 hn fun c hc => h c hc).symm

