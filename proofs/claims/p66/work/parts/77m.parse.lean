/-! THE TEXT: tokens, terms, items; what a text means -/
abbrev Tk : Type := Int × Nat × Nat
abbrev PE : Type := Int × Nat
abbrev St : Type := Sy × Cf
def spn (f : Int → Bool) : List Int → Nat
  | [] => 0
  | c :: r => if f c = true then 1 + spn f r else 0
def isL (c : Int) : Bool := decide (97 ≤ c ∧ c ≤ 122)
def isSp (c : Int) : Bool := decide (c = 32)
/-- the kind of a byte that is no small letter -/
def kb (c : Int) : Int := if 65 ≤ c ∧ c ≤ 72 then 65 else if 48 ≤ c ∧ c ≤ 57 then 48 else if c = 59 ∨ c = 61 ∨ c = 44 ∨ c = 40 ∨ c = 41 then c else 1
/-- the token that starts at a place -/
def nx1 (B : List Int) (s : Nat) : Tk := if 0 < spn isL (B.drop s) then (if 6 < spn isL (B.drop s) then 1 else 97, s, s + spn isL (B.drop s)) else if s < B.length then (kb (B.getD s 0), s, s + 1) else (0, s, s)
def nx (B : List Int) (p : Nat) : Tk := nx1 B (p + spn isSp (B.drop p))
def wd (B : List Int) (t : Tk) : List Int := (B.drop t.2.1).take (t.2.2 - t.2.1)
def fnS : Sy → List Int → Nat → Int
  | [], _, _ => -1
  | q :: r, w, i => if q.2 = w then (i : Int) else fnS r w (i + 1)
def vnd (B : List Int) (t : Tk) : Int := 64 - B.getD t.2.1 0
def nod (sy : Sy) (B : List Int) (t : Tk) : Int := if t.1 = 65 then vnd B t else 4 * fnS sy (wd B t) 0 + (((sy.getD (fnS sy (wd B t) 0).toNat (0, [])).1 : Nat) : Int)
/-- the smallest fault of a token as the next node: role 0: a term, 1: a left side, 2: a right side to the left side L -/
def ftN (sy : Sy) (B T L : List Int) (lim role : Nat) (t : Tk) : Int :=
  if ¬ (t.1 = 97 ∨ t.1 = 65) then 1
  else if t.1 = 97 ∧ fnS sy (wd B t) 0 = -1 then 3
  else if t.1 = 65 ∧ role = 1 ∧ T.length = 0 then 4
  else if t.1 = 65 ∧ role = 2 ∧ ¬ vnd B t ∈ L then 4
  else if lim ≤ T.length then 5 else 0
def clB (B : List Int) : List Nat → Tk → PE ⊕ (List Nat × Tk)
  | [], t => .inr ([], t)
  | d :: s, t => if 1 < d then (if t.1 = 44 then .inr ((d - 1) :: s, nx B t.2.2) else .inl (1, t.2.1)) else (if t.1 = 41 then clB B s (nx B t.2.2) else .inl (1, t.2.1))
def rdT (B : List Int) (sy : Sy) (L : List Int) (lim role : Nat) : Nat → List Int → List Nat → Tk → PE ⊕ (List Int × Tk)
  | 0, _, _, t => .inl (5, t.2.1)
  | n + 1, T, s, t => if ftN sy B T L lim role t ≠ 0 then .inl (ftN sy B T L lim role t, t.2.1)
    else if 0 < ar (nod sy B t) then (if (nx B t.2.2).1 = 40 then rdT B sy L lim role n (T ++ [nod sy B t]) (ar (nod sy B t) :: s) (nx B (nx B t.2.2).2.2) else .inl (1, (nx B t.2.2).2.1))
    else match clB B s (nx B t.2.2) with
      | .inl e => .inl e
      | .inr ([], t2) => .inr (T ++ [nod sy B t], t2)
      | .inr (d :: s2, t2) => rdT B sy L lim role n (T ++ [nod sy B t]) (d :: s2) t2
def dgv (B : List Int) (t : Tk) : Int := B.getD t.2.1 0 - 48
def dgt (B : List Int) (m : Nat) (t : Tk) : Int := if t.1 ≠ 48 then 1 else if dgv B t < (m : Int) then 0 else 2
def iSym (B : List Int) (S : St) (t : Tk) : PE ⊕ (St × Tk) :=
  if 8 ≤ S.1.length then .inl (5, t.2.1)
  else if (nx B t.2.2).1 ≠ 97 then .inl (1, (nx B t.2.2).2.1)
  else if fnS S.1 (wd B (nx B t.2.2)) 0 ≠ -1 then .inl (3, (nx B t.2.2).2.1)
  else if dgt B 4 (nx B (nx B t.2.2).2.2) ≠ 0 then .inl (dgt B 4 (nx B (nx B t.2.2).2.2), (nx B (nx B t.2.2).2.2).2.1)
  else .inr ((S.1 ++ [((dgv B (nx B (nx B t.2.2).2.2)).toNat, wd B (nx B t.2.2))], S.2), nx B (nx B (nx B t.2.2).2.2).2.2)
def iRul (B : List Int) (S : St) (t : Tk) : PE ⊕ (St × Tk) :=
  if 6 ≤ S.2.1.length then .inl (5, t.2.1)
  else match rdT B S.1 [] 12 1 13 [] [] (nx B t.2.2) with
    | .inl e => .inl e
    | .inr (L, t2) => if t2.1 ≠ 61 then .inl (1, t2.2.1) else match rdT B S.1 L 12 2 13 [] [] (nx B t2.2.2) with
      | .inl e => .inl e
      | .inr (R, t3) => .inr ((S.1, (S.2.1 ++ [(L, R)], S.2.2)), t3)
def iTrm (B : List Int) (S : St) (t : Tk) : PE ⊕ (St × Tk) :=
  if 6 ≤ S.2.2.length then .inl (5, t.2.1)
  else match rdT B S.1 [] 40 0 41 [] [] (nx B t.2.2) with
    | .inl e => .inl e
    | .inr (T, t2) => .inr ((S.1, (S.2.1, S.2.2 ++ [T])), t2)
def iCpy (B : List Int) (S : St) (t : Tk) : PE ⊕ (St × Tk) :=
  if 6 ≤ S.2.2.length then .inl (5, t.2.1)
  else if dgt B S.2.2.length (nx B t.2.2) ≠ 0 then .inl (dgt B S.2.2.length (nx B t.2.2), (nx B t.2.2).2.1)
  else .inr ((S.1, (S.2.1, S.2.2 ++ [S.2.2.getD (dgv B (nx B t.2.2)).toNat []])), nx B (nx B t.2.2).2.2)
def iFlp (B : List Int) (S : St) (t : Tk) : PE ⊕ (St × Tk) :=
  if dgt B S.2.1.length (nx B t.2.2) ≠ 0 then .inl (dgt B S.2.1.length (nx B t.2.2), (nx B t.2.2).2.1)
  else if canT (S.2.1.getD (dgv B (nx B t.2.2)).toNat ([], [])) = true then .inr ((S.1, (S.2.1.set (dgv B (nx B t.2.2)).toNat ((S.2.1.getD (dgv B (nx B t.2.2)).toNat ([], [])).2, (S.2.1.getD (dgv B (nx B t.2.2)).toNat ([], [])).1), S.2.2)), nx B (nx B t.2.2).2.2)
  else .inl (4, (nx B t.2.2).2.1)
def iStp (B : List Int) (S : St) (t : Tk) : PE ⊕ (St × Tk) :=
  if dgt B S.2.2.length (nx B t.2.2) ≠ 0 then .inl (dgt B S.2.2.length (nx B t.2.2), (nx B t.2.2).2.1)
  else match stp S.2.1 true (S.2.2.getD (dgv B (nx B t.2.2)).toNat []) with
    | none => .inl (4, (nx B t.2.2).2.1)
    | some (_, Y) => .inr ((S.1, (S.2.1, S.2.2.set (dgv B (nx B t.2.2)).toNat Y)), nx B (nx B t.2.2).2.2)
def isW (B : List Int) (t : Tk) (w : List Int) : Bool := decide (t.1 = 97 ∧ wd B t = w)
def itm (B : List Int) (S : St) (t : Tk) : PE ⊕ (St × Tk) :=
  if isW B t (jlit 1) = true then iSym B S t
  else if isW B t (jlit 2) = true then iRul B S t
  else if isW B t (jlit 3) = true then iTrm B S t
  else if isW B t (jlit 4) = true then iCpy B S t
  else if isW B t (jlit 5) = true then iFlp B S t
  else if isW B t (jlit 6) = true then iStp B S t
  else .inl (1, t.2.1)
def its (B : List Int) : Nat → St → Tk → PE ⊕ St
  | 0, S, _ => .inr S
  | n + 1, S, t => if t.1 = 0 then .inr S else if t.1 ≠ 59 then .inl (1, t.2.1) else match itm B S (nx B t.2.2) with
    | .inl e => .inl e
    | .inr (S', t') => its B n S' t'
def prsT (B : List Int) : PE ⊕ St := if isW B (nx B 0) (jlit 0) = true then its B 501 ([], ([], [])) (nx B (nx B 0).2.2) else .inl (1, (nx B 0).2.1)
/-! tokens go on -/
theorem spn_le (f : Int → Bool) : ∀ L : List Int, spn f L ≤ L.length := by
  intro L
  induction L with
  | nil => exact Nat.le_refl _
  | cons c r ih =>
    rw [spn, List.length_cons]
    split <;> omega
/-- what a token is: kind, start, stop -/
def tkok (B : List Int) (t : Tk) : Prop := t.2.1 ≤ B.length ∧ t.2.2 ≤ B.length ∧ t.2.1 ≤ t.2.2 ∧ (t.1 ≠ 0 → t.2.1 < t.2.2) ∧ (t.1 = 0 → t.2.1 = B.length) ∧ (t.1 = 97 → t.2.2 ≤ t.2.1 + 6 ∧ ∀ c, c ∈ wd B t → 97 ≤ c ∧ c ≤ 122)
theorem spn_all (f : Int → Bool) : ∀ (L : List Int) (c : Int), c ∈ L.take (spn f L) → f c = true := by
  intro L
  induction L with
  | nil => intro c h; cases h
  | cons x r ih =>
    intro c h
    rw [spn] at h
    by_cases k : f x = true
    · rw [if_pos k, take_1] at h
      rcases List.mem_cons.mp h with e | e
      · rw [e]; exact k
      · exact ih c e
    · rw [if_neg k] at h
      cases h
theorem kb_ne (c : Int) : kb c ≠ 0 := by
  unfold kb
  split
  · decide
  · split
    · decide
    · split
      · omega
      · decide
theorem kb_97 (c : Int) : kb c ≠ 97 := by
  unfold kb
  split
  · decide
  · split
    · decide
    · split
      · omega
      · decide
theorem nx1_ok {B : List Int} {s : Nat} (hs : s ≤ B.length) : tkok B (nx1 B s) ∧ (nx1 B s).2.1 = s := by
  have hl := spn_le isL (B.drop s)
  rw [List.length_drop] at hl
  unfold nx1
  by_cases h : 0 < spn isL (B.drop s)
  · rw [if_pos h]
    refine ⟨⟨hs, by dsimp only; omega, by dsimp only; omega, fun _ => by dsimp only; omega, fun q => ?_, fun q => ?_⟩, rfl⟩
    · dsimp only at q
      split at q <;> cases q
    · dsimp only at q
      have h6 : spn isL (B.drop s) ≤ 6 := by
        by_cases g : 6 < spn isL (B.drop s)
        · rw [if_pos g] at q
          cases q
        · omega
      refine ⟨by dsimp only; omega, fun c hc => ?_⟩
      unfold wd at hc
      dsimp only at hc
      rw [Nat.add_sub_cancel_left] at hc
      exact of_decide_eq_true (spn_all isL _ c hc)
  · rw [if_neg h]
    by_cases k : s < B.length
    · rw [if_pos k]
      exact ⟨⟨hs, k, Nat.le_succ _, fun _ => Nat.lt_succ_self _, fun q => absurd q (kb_ne _), fun q => absurd q (kb_97 _)⟩, rfl⟩
    · rw [if_neg k]
      exact ⟨⟨hs, hs, Nat.le_refl _, fun q => absurd rfl q, fun _ => by dsimp only; omega, fun q => by cases q⟩, rfl⟩
theorem nx_ok {B : List Int} {p : Nat} (hp : p ≤ B.length) : tkok B (nx B p) ∧ p ≤ (nx B p).2.1 := by
  have hl := spn_le isSp (B.drop p)
  rw [List.length_drop] at hl
  unfold nx
  have := nx1_ok (B := B) (s := p + spn isSp (B.drop p)) (by omega)
  exact ⟨this.1, by rw [this.2]; omega⟩
theorem nx_le {B : List Int} {t : Tk} (h : tkok B t) : tkok B (nx B t.2.2) ∧ t.2.1 ≤ (nx B t.2.2).2.1 := by
  have := nx_ok h.2.1
  exact ⟨this.1, by have := h.2.2.1; omega⟩
theorem clB_ok {B : List Int} : ∀ (s : List Nat) (t : Tk), tkok B t → ∀ s2 t2, clB B s t = .inr (s2, t2) → tkok B t2 ∧ t.2.1 ≤ t2.2.1 := by
  intro s
  induction s with
  | nil =>
    intro t ht s2 t2 h
    rw [clB] at h
    cases h
    exact ⟨ht, Nat.le_refl _⟩
  | cons d s ih =>
    intro t ht s2 t2 h
    have hn := nx_le ht
    rw [clB] at h
    split at h
    · split at h
      · cases h
        exact hn
      · cases h
    · split at h
      · have := ih _ hn.1 s2 t2 h
        exact ⟨this.1, Nat.le_trans hn.2 this.2⟩
      · cases h
theorem rdT_tk {B : List Int} {sy : Sy} {L : List Int} {lim role : Nat} : ∀ (n : Nat) (T : List Int) (s : List Nat) (t : Tk), tkok B t → ∀ X t2, rdT B sy L lim role n T s t = .inr (X, t2) → tkok B t2 ∧ t.2.1 ≤ t2.2.1 := by
  intro n
  induction n with
  | zero => intro T s t _ X t2 h; cases h
  | succ n ih =>
    intro T s t ht X t2 h
    have hn := nx_le ht
    rw [rdT] at h
    split at h
    · cases h
    · split at h
      · split at h
        · have hn2 := nx_le hn.1
          have := ih _ _ _ hn2.1 X t2 h
          exact ⟨this.1, Nat.le_trans hn.2 (Nat.le_trans hn2.2 this.2)⟩
        · cases h
      · split at h
        · cases h
        · rename_i t3 hc
          cases h
          have := clB_ok _ _ hn.1 _ _ hc
          exact ⟨this.1, Nat.le_trans hn.2 this.2⟩
        · rename_i d s2 t3 hc
          have h1 := clB_ok _ _ hn.1 _ _ hc
          have := ih _ _ _ h1.1 X t2 h
          exact ⟨this.1, Nat.le_trans hn.2 (Nat.le_trans h1.2 this.2)⟩
theorem itm_tk {B : List Int} {S S' : St} {t t' : Tk} (ht : tkok B t) (h : itm B S t = .inr (S', t')) : tkok B t' ∧ t.2.1 ≤ t'.2.1 := by
  have hn := nx_le ht
  have hn2 := nx_le hn.1
  have hn3 := nx_le hn2.1
  have g2 : tkok B (nx B (nx B t.2.2).2.2) ∧ t.2.1 ≤ (nx B (nx B t.2.2).2.2).2.1 := ⟨hn2.1, Nat.le_trans hn.2 hn2.2⟩
  unfold itm at h
  split at h
  · unfold iSym at h
    split at h
    · cases h
    · split at h
      · cases h
      · split at h
        · cases h
        · split at h
          · cases h
          · cases h
            exact ⟨hn3.1, Nat.le_trans g2.2 hn3.2⟩
  · split at h
    · unfold iRul at h
      split at h
      · cases h
      · split at h
        · cases h
        · rename_i L t2 h2
          have k2 := rdT_tk _ _ _ _ hn.1 _ _ h2
          split at h
          · cases h
          · split at h
            · cases h
            · rename_i R t3 h3
              have q2 := nx_le k2.1
              have k3 := rdT_tk _ _ _ _ q2.1 _ _ h3
              cases h
              exact ⟨k3.1, Nat.le_trans hn.2 (Nat.le_trans k2.2 (Nat.le_trans q2.2 k3.2))⟩
    · split at h
      · unfold iTrm at h
        split at h
        · cases h
        · split at h
          · cases h
          · rename_i T t2 h2
            have k2 := rdT_tk _ _ _ _ hn.1 _ _ h2
            cases h
            exact ⟨k2.1, Nat.le_trans hn.2 k2.2⟩
      · split at h
        · unfold iCpy at h
          split at h
          · cases h
          · split at h
            · cases h
            · cases h
              exact g2
        · split at h
          · unfold iFlp at h
            split at h
            · cases h
            · split at h
              · cases h
                exact g2
              · cases h
          · split at h
            · unfold iStp at h
              split at h
              · cases h
              · split at h
                · cases h
                · cases h
                  exact g2
            · cases h

