/-! THE FIRST MEMORY: the constructors run -/
def trun : Nat → Nat → Nat → List JV → List JV → Nat → List TR → Option (Option JV × Nat × List TR)
  | 0, _, _, _, _, _, _ => none
  | n + 1, mi, pc, ls, st, k, rows => match jcode mi pc with
    | none => none
    | some (ins, len, a, b, w) => match tstep ins a b pc ls st k rows with
      | none => none
      | some (.inl (pc1, ls1, st1, k1, rows1)) => trun n mi pc1 ls1 st1 k1 rows1
      | some (.inr (.inr o)) => some (o, k, rows)
      | some (.inr (.inl (y, as, st1))) => match trun n y 0 (jargs y as) [] k rows with
        | none => none
        | some (v, k1, rows1) => trun n mi (pc + jrl (ins, len, a, b, w)) ls (v.toList ++ st1) k1 rows1
theorem trun_ok {E : JE1} : ∀ (n mi pc : Nat) (ls st : List JV) (k : Nat) (rows : List TR) (o : Option JV) (k' : Nat) (rows' : List TR), k = rows.length → trun n mi pc ls st k rows = some (o, k', rows') → jrun n mi pc ls st (tmem E rows) = some (.inl o, tmem E rows') ∧ k' = rows'.length := by
  intro n
  induction n with
  | zero =>
    intro mi pc ls st k rows o k' rows' hk h
    cases h
  | succ n ih =>
    intro mi pc ls st k rows o k' rows' hk h
    rw [trun] at h
    rw [jrun]
    split at h
    · cases h
    · rename_i ins len a b w hc
      simp only [hc]
      split at h
      · cases h
      · rename_i pc1 ls1 st1 k1 rows1 hs
        have g := tstep_ok (E := E) (len := len) (w := w) hk hs
        simp only [g.1, tconv]
        exact ih _ _ _ _ _ _ _ _ _ g.2 h
      · rename_i o1 hs
        have g := tstep_ok (E := E) (len := len) (w := w) hk hs
        cases h
        simp only [g.1, tconv]
        exact ⟨trivial, hk⟩
      · rename_i y as st1 hs
        have g := tstep_ok (E := E) (len := len) (w := w) hk hs
        simp only [g.1, tconv]
        split at h
        · cases h
        · rename_i v k1 rows1 h1
          have g1 := ih _ _ _ _ _ _ _ _ _ hk h1
          simp only [g1.1]
          exact ih _ _ _ _ _ _ _ _ _ g1.2 h
def tgo : Nat → Nat → Nat → Nat → List JV → List JV → Nat → List TR → Option (List JV × List JV × Nat × List TR)
  | 0, _, _, _, _, _, _, _ => none
  | n + 1, mi, stop, pc, ls, st, k, rows => if pc = stop then some (ls, st, k, rows) else match jcode mi pc with
    | none => none
    | some (ins, len, a, b, w) => match tstep ins a b pc ls st k rows with
      | none => none
      | some (.inl (pc1, ls1, st1, k1, rows1)) => tgo n mi stop pc1 ls1 st1 k1 rows1
      | some (.inr (.inr _)) => none
      | some (.inr (.inl (y, as, st1))) => match trun n y 0 (jargs y as) [] k rows with
        | none => none
        | some (v, k1, rows1) => tgo n mi stop (pc + jrl (ins, len, a, b, w)) ls (v.toList ++ st1) k1 rows1
theorem tgo_ok {E : JE1} {P : JO → JM → Prop} : ∀ (n mi stop pc : Nat) (ls st : List JV) (k : Nat) (rows : List TR) (ls' st' : List JV) (k' : Nat) (rows' : List TR), k = rows.length → tgo n mi stop pc ls st k rows = some (ls', st', k', rows') → k' = rows'.length ∧ (JX mi stop ls' st' (tmem E rows') P → JX mi pc ls st (tmem E rows) P) := by
  intro n
  induction n with
  | zero =>
    intro mi stop pc ls st k rows ls' st' k' rows' hk h
    cases h
  | succ n ih =>
    intro mi stop pc ls st k rows ls' st' k' rows' hk h
    rw [tgo] at h
    split at h
    · rename_i e
      cases h
      subst e
      exact ⟨hk, fun h => h⟩
    · split at h
      · cases h
      · rename_i ins len a b w hc
        split at h
        · cases h
        · rename_i pc1 ls1 st1 k1 rows1 hs
          have g := tstep_ok (E := E) (len := len) (w := w) hk hs
          have g2 := ih _ _ _ _ _ _ _ _ _ _ _ g.2 h
          exact ⟨g2.1, fun hP => L_goM hc g.1 (g2.2 hP)⟩
        · cases h
        · rename_i y as st1 hs
          have g := tstep_ok (E := E) (len := len) (w := w) hk hs
          split at h
          · cases h
          · rename_i v k1 rows1 h1
            have g1 := trun_ok (E := E) _ _ _ _ _ _ _ _ _ _ hk h1
            have g2 := ih _ _ _ _ _ _ _ _ _ _ _ g1.2 h
            refine ⟨g2.1, fun hP => ?_⟩
            obtain ⟨n2, o, M2, h3, hP2⟩ := g2.2 hP
            refine ⟨n + n2 + 1, o, M2, ?_, hP2⟩
            rw [jrun, hc]
            simp only [g.1, tconv, jrun_mono g1.1 (Nat.le_add_right n n2)]
            exact jrun_mono h3 (Nat.le_add_left n2 n)
def iof (v : JV) : Int := match v with
  | .inl z => z
  | .inr (.inl i) => (i : Int)
  | _ => 0
def okV (t a j : Nat) (v : JV) : Bool := match v with
  | .inl _ => !(Nat.beq t 103) && (!(Nat.beq t 104) && (!(Nat.beq t 5) && (poff t j).isNone))
  | .inr (.inl i) => if Nat.beq t 5 = true then Nat.beq (rt i) 8 else !(Nat.beq t 103) && (!(Nat.beq t 104) && (match poff t j with | some d => Nat.beq (a + d) i | none => false))
  | _ => false
theorem okV_ok {t a j : Nat} {v : JV} (h : okV t a j v = true) : v = cv t a j (iof v) := by
  unfold okV at h
  split at h
  · simp only [Bool.and_eq_true, Bool.not_eq_true', Nat.beq_eq_true_eq, Option.isNone_iff_eq_none, ← Bool.not_eq_true, Nat.beq_eq] at h
    unfold cv
    rw [if_neg h.1, if_neg h.2.1, if_neg h.2.2.1, h.2.2.2]
    rfl
  · rename_i i
    split at h
    · rename_i e
      simp only [Nat.beq_eq] at e h
      subst e
      unfold cv
      rw [if_neg (by decide), if_neg (by decide), if_pos rfl]
      show jR i = jR (dp (i : Int))
      unfold dp
      rw [Int.toNat_natCast, if_pos h]
    · rename_i e
      simp only [Bool.and_eq_true, Bool.not_eq_true', ← Bool.not_eq_true, Nat.beq_eq] at h e
      unfold cv
      rw [if_neg h.1, if_neg h.2.1, if_neg e]
      have h3 := h.2.2
      split at h3
      · rename_i d hd
        simp only [Nat.beq_eq] at h3
        rw [hd]
        show jR i = jR (a + d)
        rw [h3]
      · cases h3
  · cases h
def okR (t a : Nat) (r : TR) : Bool := if r.1.2.2 = 0 then (Nat.ble 100 t && Nat.ble t 102) && r.2.all (fun p => okV t a p.1 p.2)
  else if r.1.2.2 = 2 then Nat.beq t 103 && r.2.isEmpty else if r.1.2.2 = 3 then Nat.beq t 104 && r.2.isEmpty
  else (List.range r.1.2.1).all (fun j => okV t a j (trow r j))
theorem okR_ok {t a j : Nat} {r : TR} (h : okR t a r = true) (hj : j < r.1.2.1) : trow r j = cv t a j (iof (trow r j)) := by
  obtain ⟨⟨t0, n0, d0⟩, es⟩ := r
  unfold okR at h
  dsimp only at h hj
  split at h
  · rename_i e
    rw [Bool.and_eq_true, Bool.and_eq_true] at h
    have h1 := Nat.le_of_ble_eq_true h.1.1
    have h2 := Nat.le_of_ble_eq_true h.1.2
    unfold trow
    dsimp only
    cases hl : es.lookup j with
    | some v =>
      have hm : ∀ (es : List (Nat × JV)), es.lookup j = some v → (j, v) ∈ es := by
        intro es
        induction es with
        | nil => intro h; cases h
        | cons p es ih =>
          intro h
          obtain ⟨k, w⟩ := p
          rw [List.lookup_cons] at h
          by_cases q : j = k
          · subst q
            rw [show (j == j) = true by simp] at h
            cases h
            exact List.mem_cons_self ..
          · rw [show (j == k) = false by simpa using q] at h
            exact List.mem_cons_of_mem _ (ih h)
      exact okV_ok (List.all_eq_true.mp h.2 _ (hm _ hl))
    | none =>
      dsimp only
      unfold tdf
      rw [if_pos e]
      have hp : poff t j = none := by
        have : t = 100 ∨ t = 101 ∨ t = 102 := by omega
        rcases this with rfl | rfl | rfl <;> rfl
      unfold cv
      rw [if_neg (by omega), if_neg (by omega), if_neg (by omega), hp]
      rfl
  · rename_i e0
    split at h
    · rename_i e
      rw [Bool.and_eq_true, Nat.beq_eq, List.isEmpty_iff] at h
      obtain ⟨rfl, rfl⟩ := h
      subst e
      rfl
    · rename_i e2
      split at h
      · rename_i e
        rw [Bool.and_eq_true, Nat.beq_eq, List.isEmpty_iff] at h
        obtain ⟨rfl, rfl⟩ := h
        subst e
        rfl
      · exact okV_ok (List.all_eq_true.mp h j (List.mem_range.mpr hj))
def okA : List TR → List (Nat × Nat) → Bool
  | [], [] => true
  | r :: rs, q :: qs => Nat.beq q.2 r.1.2.1 && (Nat.beq (unt q.1) r.1.1 && (okR q.1 rs.length r && okA rs qs))
  | _, _ => false
theorem okA_ok : ∀ (rows : List TR) (qs : List (Nat × Nat)), okA rows qs = true → rows.map tsh = qs.map (fun q => (unt q.1, q.2)) ∧ ∀ a q, a < rows.length → qs[rows.length - 1 - a]? = some q → ∀ j, j < q.2 → tcont rows a j = cv q.1 a j (iof (tcont rows a j)) := by
  intro rows
  induction rows with
  | nil =>
    intro qs h
    cases qs with
    | nil => exact ⟨rfl, fun a q h => by cases h⟩
    | cons q qs => cases h
  | cons r rs ih =>
    intro qs h
    cases qs with
    | nil => cases h
    | cons q qs =>
      rw [okA] at h
      simp only [Bool.and_eq_true, Nat.beq_eq] at h
      obtain ⟨h1, h2, h3, h4⟩ := h
      have g := ih qs h4
      refine ⟨?_, fun a q1 ha hq j hj => ?_⟩
      · rw [List.map_cons, List.map_cons, g.1]
        show (r.1.1, r.1.2.1) :: _ = (unt q.1, q.2) :: _
        rw [h1, h2]
      · rw [List.length_cons] at ha hq
        rw [tcont]
        by_cases e : a = rs.length
        · rw [if_pos e]
          rw [show rs.length + 1 - 1 - a = 0 by omega] at hq
          cases hq
          subst e
          exact okR_ok h3 (by omega)
        · rw [if_neg e]
          rw [show rs.length + 1 - 1 - a = (rs.length - 1 - a) + 1 by omega] at hq
          exact g.2 a q1 (by omega) hq j hj
def tget (rows : List TR) (k a j : Nat) : JV := match tnth rows (k - 1 - a) with
  | some r => trow r j
  | none => .inl 0
theorem tget_e {rows : List TR} {k a j : Nat} (hk : k = rows.length) (ha : a < k) : tget rows k a j = tcont rows a j := by
  unfold tget
  cases h : tnth rows (k - 1 - a) with
  | some r => exact (tcont_at rows a (k - 1 - a) r (by omega) h j).symm
  | none =>
    rw [tnth_e, List.getElem?_eq_none_iff] at h
    omega
def spts (s : Nat) : List (Nat × Nat × Int) := (List.range 6).flatMap fun i => [(rc s i, 0, ((s + 11 + 5 * i : Nat) : Int)), (rc s i, 1, ((s + 13 + 5 * i : Nat) : Int))]
def pts : List (Nat × Nat × Int) := [(0, 0, 0), (1, 0, 0), (5, 0, 0), (5, 1, 0), (0, 11, 0), (0, 12, 0), (72, 0, 0), (72, 1, -1), (72, 4, 0), (139, 0, 1), (244, 0, 0), (247, 0, 0), (247, 1, 0)] ++ ([5, 77, 665, 717] ++ (List.range 8).map hc).flatMap spts
def allU : List JV → Nat → Bool
  | [], n => Nat.beq n 0
  | .inr (.inr (.retAddr k)) :: r, n + 1 => Nat.beq k 0 && allU r n
  | _, _ => false
theorem allU_ok : ∀ (ls : List JV) (n : Nat), allU ls n = true → ls = List.replicate n jU := by
  intro ls
  induction ls with
  | nil =>
    intro n h
    have h : Nat.beq n 0 = true := h
    rw [Nat.beq_eq] at h
    subst h
    rfl
  | cons v r ih =>
    intro n h
    unfold allU at h
    split at h
    · rename_i h0
      cases h0
    · rename_i k r0 n0 h0
      cases h0
      rw [Bool.and_eq_true, Nat.beq_eq] at h
      obtain ⟨rfl, h2⟩ := h
      rw [List.replicate_succ, ih _ h2]
    · cases h
def okLs (ls : List JV) : Bool := match ls with
  | .inr (.inl a0) :: .inr (.inl a1) :: r => Nat.beq a0 1000000 && (Nat.beq a1 0 && allU r 14)
  | _ => false
def tchk : Bool := match tgo 60000 274 8 0 (jargs 274 [jR 1000000]) [] 0 [] with
  | some (ls, st, k, rows) => okLs ls && (st.isEmpty && (Nat.beq k 772 && (okA rows rsl.reverse && (Nat.ble (tslots rows) 100000 && pts.all (fun q => decide (q.1 < 772) && decide (iof (tget rows 772 q.1 q.2.1) = q.2.2))))))
  | none => false
