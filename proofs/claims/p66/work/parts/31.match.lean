/-! MATCHING, STEPS, REDUCTIONS of rows -/
def up (b : Nat → Int) (v : Nat) (z : Int) : Nat → Int := fun w => if w = v then z else b w
theorem up_s {b : Nat → Int} {v : Nat} {z : Int} : up b v z v = z := if_pos rfl
theorem up_n {b : Nat → Int} {v w : Nat} {z : Int} (h : w ≠ v) : up b v z w = b w := if_neg h
/-- the number of a variable's node -/
def vn (c : Int) : Nat := (-1 - c).toNat
def mt (T : List Int) : List Int → Nat → (Nat → Int) → Option (Nat → Int)
  | [], _, b => some b
  | c :: r, p, b => if c < 0 then
      (if b (vn c) = -1 then mt T r (en T p) (up b (vn c) p)
       else if sb T (b (vn c)).toNat = sb T p then mt T r (en T p) b else none)
    else if T.getD p 0 = c then mt T r (p + 1) b else none
def nb : Nat → Int := fun _ => -1
def mb (L T : List Int) (p : Nat) : Option (Nat → Int) := mt T L p nb
/-- a binding's places lie in the term -/
def bok (T : List Int) (b : Nat → Int) : Prop := ∀ v, b v ≠ -1 → 0 ≤ b v ∧ (b v).toNat < T.length
theorem bok_nb (T : List Int) : bok T nb := fun v h => absurd rfl h
theorem bok_up {T : List Int} {b : Nat → Int} {v p : Nat} (h : bok T b) (hp : p < T.length) : bok T (up b v p) := by
  intro w hw
  by_cases e : w = v
  · subst e
    rw [up_s]
    omega
  · rw [up_n e] at hw ⊢
    exact h w hw
theorem dropc {L : List Int} {k : Nat} (h : k < L.length) : L.drop k = L.getD k 0 :: L.drop (k + 1) := by
  rw [List.drop_eq_getElem_cons h, List.getD_eq_getElem?_getD, List.getElem?_eq_getElem h]
  rfl
/-- what is left of the pattern fits what is left of the term -/
def fitp (T r : List Int) (p : Nat) : Prop := ∃ d e, wl r d = true ∧ wl (T.drop p) (d + e) = true
theorem fitp_lt {T r : List Int} {c : Int} {p : Nat} (h : fitp T (c :: r) p) : p < T.length := by
  obtain ⟨d, e, h1, h2⟩ := h
  cases d with
  | zero => cases h1
  | succ d =>
    rcases Nat.lt_or_ge p T.length with g | g
    · exact g
    · rw [List.drop_eq_nil_of_le g, show d + 1 + e = (d + e) + 1 by omega] at h2
      cases h2
theorem fitp_sym {T r : List Int} {c : Int} {p : Nat} (h : fitp T (c :: r) p) (hc : T.getD p 0 = c) : fitp T r (p + 1) := by
  have hp := fitp_lt h
  obtain ⟨d, e, h1, h2⟩ := h
  cases d with
  | zero => cases h1
  | succ d =>
    rw [wl_cons] at h1
    rw [dropc hp, hc, show d + 1 + e = (d + e) + 1 by omega, wl_cons] at h2
    exact ⟨d + ar c, e, h1, by rw [show d + ar c + e = d + e + ar c by omega]; exact h2⟩
theorem fitp_var {T r : List Int} {c : Int} {p : Nat} (h : fitp T (c :: r) p) (hc : c < 0) : fitp T r (en T p) := by
  have hp := fitp_lt h
  obtain ⟨d, e, h1, h2⟩ := h
  cases d with
  | zero => cases h1
  | succ d =>
    rw [wl_cons, ar_neg hc] at h1
    rw [show d + 1 + e = 1 + (d + e) by omega] at h2
    have := (wl_cut _ _ _ h2).2
    rw [List.drop_drop] at this
    exact ⟨d, e, h1, this⟩
theorem fitp_start {L T : List Int} {p : Nat} (hL : wl L 1 = true) (hT : wl T 1 = true) (hp : p < T.length) : fitp T L p := by
  obtain ⟨e, h1, h2⟩ := wl_drop T 1 hT p (by omega)
  have := h2 hp
  exact ⟨1, e - 1, hL, by rw [show 1 + (e - 1) = e by omega]; exact h1⟩
theorem mt_some {T : List Int} : ∀ (r : List Int) (p : Nat) (b b' : Nat → Int), fitp T r p → bok T b → mt T r p b = some b' → bok T b' ∧ (∀ v, b v ≠ -1 → b' v ≠ -1) ∧ (∀ c, c ∈ r → c < 0 → b' (vn c) ≠ -1) := by
  intro r
  induction r with
  | nil =>
    intro p b b' _ hb h
    cases h
    exact ⟨hb, fun v h => h, fun c hc => by cases hc⟩
  | cons c r ih =>
    intro p b b' hf hb h
    have hp := fitp_lt hf
    rw [mt] at h
    by_cases hc : c < 0
    · rw [if_pos hc] at h
      by_cases hv : b (vn c) = -1
      · rw [if_pos hv] at h
        obtain ⟨g1, g2, g3⟩ := ih _ _ _ (fitp_var hf hc) (bok_up hb hp) h
        refine ⟨g1, fun v hv' => ?_, fun x hx hx0 => ?_⟩
        · apply g2
          by_cases e : v = vn c
          · subst e; exact absurd hv hv'
          · rw [up_n e]; exact hv'
        · rcases List.mem_cons.mp hx with rfl | hx
          · apply g2; rw [up_s]; omega
          · exact g3 x hx hx0
      · rw [if_neg hv] at h
        split at h
        · obtain ⟨g1, g2, g3⟩ := ih _ _ _ (fitp_var hf hc) hb h
          refine ⟨g1, g2, fun x hx hx0 => ?_⟩
          rcases List.mem_cons.mp hx with rfl | hx
          · exact g2 _ hv
          · exact g3 x hx hx0
        · cases h
    · rw [if_neg hc] at h
      split at h
      · rename_i he
        obtain ⟨g1, g2, g3⟩ := ih _ _ _ (fitp_sym hf he) hb h
        refine ⟨g1, g2, fun x hx hx0 => ?_⟩
        rcases List.mem_cons.mp hx with rfl | hx
        · exact absurd hx0 hc
        · exact g3 x hx hx0
      · cases h
/-- a step's result -/
def bs (T : List Int) (b : Nat → Int) : Int → List Int := fun c => sb T (b (vn c)).toNat
def bd (R T : List Int) (p : Nat) (b : Nat → Int) : List Int := T.take p ++ sv (bs T b) R ++ T.drop (en T p)
theorem bd_wl {L R T : List Int} {p : Nat} {b : Nat → Int} (hL : wl L 1 = true) (hR : wl R 1 = true) (hT : wl T 1 = true) (hp : p < T.length) (hm : mb L T p = some b) (hv : ∀ c, c ∈ R → c < 0 → c ∈ L) : wl (bd R T p b) 1 = true := by
  obtain ⟨g1, g2, g3⟩ := mt_some _ _ _ _ (fitp_start hL hT hp) (bok_nb T) hm
  refine wl_repl hT hp (wl_sv R 1 hR fun c hc h0 => ?_)
  have := g1 _ (g3 c (hv c hc h0) h0)
  exact (sb_wl hT this.2).1
abbrev Rl2 : Type := List Int × List Int
/-- the first rule that matches, counted from i -/
def fi (T : List Int) (p : Nat) : List Rl2 → Nat → Int
  | [], _ => -1
  | r :: rs, i => if (mb r.1 T p).isSome = true then (i : Int) else fi T p rs (i + 1)
theorem fi_get {T : List Int} {p : Nat} : ∀ (rs : List Rl2) (i : Nat), fi T p rs i ≠ -1 → ∃ k, fi T p rs i = ((i + k : Nat) : Int) ∧ k < rs.length ∧ (mb (rs.getD k ([], [])).1 T p).isSome = true := by
  intro rs
  induction rs with
  | nil => intro i h; exact absurd rfl h
  | cons r rs ih =>
    intro i h
    rw [fi] at h ⊢
    by_cases hm : (mb r.1 T p).isSome = true
    · rw [if_pos hm]
      exact ⟨0, rfl, by simp, hm⟩
    · rw [if_neg hm] at h ⊢
      obtain ⟨k, h1, h2, h3⟩ := ih _ h
      exact ⟨k + 1, by rw [h1]; congr 1; omega, by simpa using h2, h3⟩
def rx (rs : List Rl2) (T : List Int) (p : Nat) : Bool := decide (fi T p rs 0 ≠ -1)
/-- the first place with f, of n places from p on -/
def ouF (f : Nat → Bool) : Nat → Nat → Int
  | 0, _ => -1
  | n + 1, p => if f p = true then (p : Int) else ouF f n (p + 1)
/-- the innermost one -/
def inF (f : Nat → Bool) (E : Nat → Nat) : Nat → Nat → Nat → Int → Int
  | 0, _, _, best => best
  | n + 1, p, e, best => if p < e then (if f p = true then inF f E n (p + 1) (E p) p else inF f E n (p + 1) e best) else best
theorem inF_fuel {f : Nat → Bool} {E : Nat → Nat} {N : Nat} (hE : ∀ p, p < N → E p ≤ N) : ∀ (n m p e : Nat) (best : Int), e ≤ N → e ≤ p + n → e ≤ p + m → N ≤ p + n → N ≤ p + m → inF f E n p e best = inF f E m p e best := by
  intro n
  induction n with
  | zero =>
    intro m p e best h0 h1 h2 h3 h4
    cases m with
    | zero => rfl
    | succ m => rw [inF, inF, if_neg (by omega)]
  | succ n ih =>
    intro m p e best h0 h1 h2 h3 h4
    cases m with
    | zero => rw [inF, inF, if_neg (by omega)]
    | succ m =>
      rw [inF, inF]
      by_cases hp : p < e
      · have := hE p (by omega)
        rw [if_pos hp, if_pos hp, ih m (p + 1) (E p) _ this (by omega) (by omega) (by omega) (by omega), ih m (p + 1) e _ h0 (by omega) (by omega) (by omega) (by omega)]
      · rw [if_neg hp, if_neg hp]
theorem inF_ou {f : Nat → Bool} {E : Nat → Nat} : ∀ (n p N : Nat), p + n = N → inF f E n p N (-1) = (if ouF f n p = -1 then -1 else inF f E (N - ((ouF f n p).toNat + 1)) ((ouF f n p).toNat + 1) (E (ouF f n p).toNat) (ouF f n p)) := by
  intro n
  induction n with
  | zero => intro p N h; rfl
  | succ n ih =>
    intro p N h
    rw [inF, ouF, if_pos (by omega)]
    by_cases hf : f p = true
    · rw [if_pos hf, if_pos hf, if_neg (by omega)]
      rw [show ((p : Nat) : Int).toNat = p from rfl, show N - (p + 1) = n by omega]
    · rw [if_neg hf, if_neg hf]
      exact ih (p + 1) N (by omega)
theorem ouF_get {f : Nat → Bool} : ∀ (n p : Nat), ouF f n p ≠ -1 → ∃ k, ouF f n p = ((p + k : Nat) : Int) ∧ k < n ∧ f (p + k) = true := by
  intro n
  induction n with
  | zero => intro p h; exact absurd rfl h
  | succ n ih =>
    intro p h
    rw [ouF] at h ⊢
    by_cases hf : f p = true
    · rw [if_pos hf]; exact ⟨0, rfl, by omega, hf⟩
    · rw [if_neg hf] at h ⊢
      obtain ⟨k, h1, h2, h3⟩ := ih _ h
      exact ⟨k + 1, by rw [h1]; congr 1; omega, by omega, by rw [show p + (k + 1) = p + 1 + k by omega]; exact h3⟩
theorem inF_get {f : Nat → Bool} {E : Nat → Nat} : ∀ (n p e : Nat) (best : Int), inF f E n p e best = best ∨ ∃ k, inF f E n p e best = ((p + k : Nat) : Int) ∧ k < n ∧ f (p + k) = true := by
  intro n
  induction n with
  | zero => intro p e best; exact Or.inl rfl
  | succ n ih =>
    intro p e best
    rw [inF]
    by_cases hp : p < e
    · rw [if_pos hp]
      by_cases hf : f p = true
      · rw [if_pos hf]
        rcases ih (p + 1) (E p) p with h | ⟨k, h1, h2, h3⟩
        · exact Or.inr ⟨0, h, by omega, hf⟩
        · exact Or.inr ⟨k + 1, by rw [h1]; congr 1; omega, by omega, by rw [show p + (k + 1) = p + 1 + k by omega]; exact h3⟩
      · rw [if_neg hf]
        rcases ih (p + 1) e best with h | ⟨k, h1, h2, h3⟩
        · exact Or.inl h
        · exact Or.inr ⟨k + 1, by rw [h1]; congr 1; omega, by omega, by rw [show p + (k + 1) = p + 1 + k by omega]; exact h3⟩
    · rw [if_neg hp]
      exact Or.inl rfl
/-- the place of a step -/
def px (rs : List Rl2) (inner : Bool) (T : List Int) : Int := if inner = true then inF (rx rs T) (en T) T.length 0 T.length (-1) else ouF (rx rs T) T.length 0
theorem px_get {rs : List Rl2} {inner : Bool} {T : List Int} (h : px rs inner T ≠ -1) : ∃ k, px rs inner T = ((k : Nat) : Int) ∧ k < T.length ∧ rx rs T k = true := by
  unfold px at *
  cases inner with
  | true =>
    rw [if_pos rfl] at *
    rcases inF_get (f := rx rs T) (E := en T) T.length 0 T.length (-1) with g | ⟨k, h1, h2, h3⟩
    · exact absurd g h
    · exact ⟨k, by rw [h1, Nat.zero_add], h2, by rw [Nat.zero_add] at h3; exact h3⟩
  | false =>
    rw [if_neg (by decide)] at *
    obtain ⟨k, h1, h2, h3⟩ := ouF_get _ _ h
    exact ⟨k, by rw [h1, Nat.zero_add], h2, by rw [Nat.zero_add] at h3; exact h3⟩
/-- rewriting with a rule at a place: none if it does not match or is too large -/
def rw1 (r : Rl2) (T : List Int) (p : Nat) : Option (List Int) := match mb r.1 T p with
  | none => none
  | some b => if (bd r.2 T p b).length ≤ 80 then some (bd r.2 T p b) else none
/-- the step with the first rule at a place -/
def st1 (rs : List Rl2) (T : List Int) (p : Nat) : Option (List Int) := if fi T p rs 0 = -1 then none else rw1 (rs.getD (fi T p rs 0).toNat ([], [])) T p
/-- the step of a term: place, result -/
def stp (rs : List Rl2) (inner : Bool) (T : List Int) : Option (Int × List Int) := if px rs inner T = -1 then none else match st1 rs T (px rs inner T).toNat with
  | none => none
  | some X => some (px rs inner T, X)
/-- a reduction in at most so many steps: steps, normal form -/
def rdc (rs : List Rl2) (inner : Bool) : Nat → List Int → Option (Nat × List Int)
  | 0, T => if px rs inner T = -1 then some (0, T) else none
  | n + 1, T => if px rs inner T = -1 then some (0, T) else match st1 rs T (px rs inner T).toNat with
    | none => none
    | some X => match rdc rs inner n X with
      | none => none
      | some (k, Y) => some (k + 1, Y)
/-- a term; a rule; nodes as the signature has them (arities), variables below m -/
def okn (ars : List Nat) (m : Nat) (c : Int) : Prop := (c < 0 → -(m : Int) ≤ c) ∧ (0 ≤ c → (c / 4).toNat < ars.length ∧ ars.getD (c / 4).toNat 0 = ar c)
def okt (ars : List Nat) (m n : Nat) (T : List Int) : Prop := wl T 1 = true ∧ T.length ≤ n ∧ ∀ c, c ∈ T → okn ars m c
def okr (ars : List Nat) (r : Rl2) : Prop := okt ars 8 12 r.1 ∧ okt ars 8 12 r.2 ∧ 0 ≤ r.1.getD 0 0 ∧ ∀ c, c ∈ r.2 → c < 0 → c ∈ r.1
def okc (ars : List Nat) (C : List Rl2 × List (List Int)) : Prop := C.1.length ≤ 6 ∧ C.2.length ≤ 6 ∧ (∀ r, r ∈ C.1 → okr ars r) ∧ ∀ T, T ∈ C.2 → okt ars 8 80 T
theorem mem_sb {T : List Int} {p : Nat} {c : Int} (h : c ∈ sb T p) : c ∈ T := List.mem_of_mem_drop (List.mem_of_mem_take h)
theorem bd_mem {R T : List Int} {p : Nat} {b : Nat → Int} {c : Int} (h : c ∈ bd R T p b) : c ∈ T ∨ (c ∈ R ∧ 0 ≤ c) := by
  unfold bd at h
  rw [List.mem_append, List.mem_append] at h
  rcases h with (h | h) | h
  · exact Or.inl (List.mem_of_mem_take h)
  · unfold sv at h
    rw [List.mem_flatMap] at h
    obtain ⟨x, h1, h2⟩ := h
    by_cases hx : x < 0
    · rw [if_pos hx] at h2
      exact Or.inl (mem_sb h2)
    · rw [if_neg hx] at h2
      rw [List.mem_singleton] at h2
      subst h2
      exact Or.inr ⟨h1, by omega⟩
  · exact Or.inl (List.mem_of_mem_drop h)
theorem rw1_ok {ars : List Nat} {r : Rl2} {T X : List Int} {p m n : Nat} (hr : okr ars r) (hT : okt ars m n T) (hp : p < T.length) (h : rw1 r T p = some X) : okt ars m 80 X := by
  unfold rw1 at h
  split at h
  · cases h
  · rename_i b hb
    split at h
    · rename_i hl
      cases h
      refine ⟨bd_wl hr.1.1 hr.2.1.1 hT.1 hp hb hr.2.2.2, hl, fun c hc => ?_⟩
      rcases bd_mem hc with h | ⟨h, h0⟩
      · exact hT.2.2 c h
      · have := hr.2.1.2.2 c h
        exact ⟨fun k => by omega, this.2⟩
    · cases h
theorem getD_mem {α : Type} {l : List α} {k : Nat} {d : α} (h : k < l.length) : l.getD k d ∈ l := by
  rw [List.getD_eq_getElem?_getD, List.getElem?_eq_getElem h]
  exact List.getElem_mem h
theorem st1_ok {ars : List Nat} {rs : List Rl2} {T X : List Int} {p m n : Nat} (hr : ∀ r, r ∈ rs → okr ars r) (hT : okt ars m n T) (hp : p < T.length) (h : st1 rs T p = some X) : okt ars m 80 X := by
  unfold st1 at h
  split at h
  · cases h
  · rename_i hi
    obtain ⟨k, h1, h2, h3⟩ := fi_get _ _ hi
    rw [h1, Nat.zero_add] at h
    exact rw1_ok (hr _ (getD_mem h2)) hT hp h
theorem rdc_ok {ars : List Nat} {rs : List Rl2} {inner : Bool} {m : Nat} (hr : ∀ r, r ∈ rs → okr ars r) : ∀ (n : Nat) (T Y : List Int) (k : Nat), okt ars m 80 T → rdc rs inner n T = some (k, Y) → okt ars m 80 Y ∧ k ≤ n := by
  intro n
  induction n with
  | zero =>
    intro T Y k hT h
    rw [rdc] at h
    split at h
    · cases h; exact ⟨hT, Nat.le_refl _⟩
    · cases h
  | succ n ih =>
    intro T Y k hT h
    rw [rdc] at h
    split at h
    · cases h; exact ⟨hT, Nat.zero_le _⟩
    · rename_i hp
      obtain ⟨q, h1, h2, h3⟩ := px_get hp
      split at h
      · cases h
      · rename_i X hX
        rw [h1] at hX
        have hX2 := st1_ok hr hT h2 hX
        split at h
        · cases h
        · rename_i k' Y' hY
          cases h
          have := ih _ _ _ hX2 hY
          exact ⟨this.1, by omega⟩

