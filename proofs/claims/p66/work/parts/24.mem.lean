/-! LEVEL 2: the cells have fixed numbers; memory as numbers; the rules by which a printed method is read (written by wip/gen/part24.py) -/
def rsl_0 : List (Nat × Nat) := [(10, 15), (6, 4), (100, 8), (100, 8), (100, 48), (7, 6), (110, 6), (113, 6), (5, 2), (8, 2), (100, 12), (8, 2), (100, 12), (8, 2), (100, 0), (5, 2), (8, 2), (100, 12), (8, 2), (100, 12), (5, 2), (8, 2), (100, 12), (8, 2), (100, 12), (5, 2), (8, 2), (100, 12), (8, 2), (100, 12), (5, 2), (8, 2), (100, 12), (8, 2), (100, 12), (5, 2), (8, 2), (100, 12), (8, 2), (100, 12), (5, 2), (8, 2), (100, 12), (8, 2), (100, 12), (8, 2), (100, 80), (8, 2), (100, 80), (8, 2), (100, 80), (8, 2), (100, 80), (8, 2), (100, 80), (8, 2), (100, 80), (4, 4), (8, 2), (100, 80), (8, 2), (100, 80), (8, 2), (100, 80), (100, 8), (9, 8), (100, 160), (100, 160), (100, 160), (102, 160), (100, 16), (100, 962), (3, 12), (6, 4), (100, 8), (100, 8), (100, 48), (7, 6), (110, 6), (113, 6), (5, 2), (8, 2), (100, 12), (8, 2), (100, 12), (8, 2), (100, 0), (5, 2), (8, 2), (100, 12), (8, 2), (100, 12), (5, 2), (8, 2), (100, 12), (8, 2), (100, 12), (5, 2), (8, 2), (100, 12)]
def rsl_1 : List (Nat × Nat) := [(8, 2), (100, 12), (5, 2), (8, 2), (100, 12), (8, 2), (100, 12), (5, 2), (8, 2), (100, 12), (8, 2), (100, 12), (5, 2), (8, 2), (100, 12), (8, 2), (100, 12), (8, 2), (100, 80), (8, 2), (100, 80), (8, 2), (100, 80), (8, 2), (100, 80), (8, 2), (100, 80), (8, 2), (100, 80), (100, 500), (4, 4), (8, 2), (100, 80), (8, 2), (100, 80), (8, 2), (100, 80), (100, 8), (100, 40), (2, 12), (9, 8), (100, 160), (100, 160), (100, 160), (102, 160), (100, 16), (100, 962), (4, 4), (8, 2), (100, 80), (8, 2), (100, 80), (8, 2), (100, 80), (100, 8), (100, 20), (100, 20), (100, 20), (100, 20), (114, 20), (115, 20), (8, 2), (100, 0), (100, 16), (8, 2), (100, 80), (8, 2), (100, 80), (8, 2), (100, 80), (8, 2), (100, 80), (8, 2), (100, 80), (8, 2), (100, 80), (8, 2), (100, 80), (8, 2), (100, 80), (8, 2), (100, 80), (8, 2), (100, 80), (8, 2), (100, 80), (8, 2), (100, 80), (8, 2), (100, 80), (8, 2), (100, 80), (8, 2), (100, 80), (8, 2), (100, 80), (8, 2), (100, 80), (8, 2), (100, 80)]
def rsl_2 : List (Nat × Nat) := [(8, 2), (100, 80), (8, 2), (100, 80), (8, 2), (100, 80), (8, 2), (100, 80), (8, 2), (100, 80), (8, 2), (100, 80), (8, 2), (100, 80), (8, 2), (100, 80), (8, 2), (100, 80), (8, 2), (100, 80), (8, 2), (100, 80), (8, 2), (100, 80), (8, 2), (100, 80), (8, 2), (100, 80), (8, 2), (100, 80), (8, 2), (100, 80), (8, 2), (100, 80), (8, 2), (100, 80), (8, 2), (100, 80), (8, 2), (100, 80), (8, 2), (100, 80), (8, 2), (100, 80), (1, 3), (100, 1600), (100, 80), (0, 3), (112, 8), (7, 6), (110, 6), (113, 6), (5, 2), (8, 2), (100, 12), (8, 2), (100, 12), (8, 2), (100, 0), (5, 2), (8, 2), (100, 12), (8, 2), (100, 12), (5, 2), (8, 2), (100, 12), (8, 2), (100, 12), (5, 2), (8, 2), (100, 12), (8, 2), (100, 12), (5, 2), (8, 2), (100, 12), (8, 2), (100, 12), (5, 2), (8, 2), (100, 12), (8, 2), (100, 12), (5, 2), (8, 2), (100, 12), (8, 2), (100, 12), (8, 2), (100, 80), (8, 2), (100, 80), (8, 2), (100, 80), (8, 2), (100, 80), (8, 2), (100, 80), (8, 2)]
def rsl_3 : List (Nat × Nat) := [(100, 80), (7, 6), (110, 6), (113, 6), (5, 2), (8, 2), (100, 12), (8, 2), (100, 12), (8, 2), (100, 0), (5, 2), (8, 2), (100, 12), (8, 2), (100, 12), (5, 2), (8, 2), (100, 12), (8, 2), (100, 12), (5, 2), (8, 2), (100, 12), (8, 2), (100, 12), (5, 2), (8, 2), (100, 12), (8, 2), (100, 12), (5, 2), (8, 2), (100, 12), (8, 2), (100, 12), (5, 2), (8, 2), (100, 12), (8, 2), (100, 12), (8, 2), (100, 80), (8, 2), (100, 80), (8, 2), (100, 80), (8, 2), (100, 80), (8, 2), (100, 80), (8, 2), (100, 80), (7, 6), (110, 6), (113, 6), (5, 2), (8, 2), (100, 12), (8, 2), (100, 12), (8, 2), (100, 0), (5, 2), (8, 2), (100, 12), (8, 2), (100, 12), (5, 2), (8, 2), (100, 12), (8, 2), (100, 12), (5, 2), (8, 2), (100, 12), (8, 2), (100, 12), (5, 2), (8, 2), (100, 12), (8, 2), (100, 12), (5, 2), (8, 2), (100, 12), (8, 2), (100, 12), (5, 2), (8, 2), (100, 12), (8, 2), (100, 12), (8, 2), (100, 80), (8, 2), (100, 80), (8, 2), (100, 80), (8, 2)]
def rsl_4 : List (Nat × Nat) := [(100, 80), (8, 2), (100, 80), (8, 2), (100, 80), (7, 6), (110, 6), (113, 6), (5, 2), (8, 2), (100, 12), (8, 2), (100, 12), (8, 2), (100, 0), (5, 2), (8, 2), (100, 12), (8, 2), (100, 12), (5, 2), (8, 2), (100, 12), (8, 2), (100, 12), (5, 2), (8, 2), (100, 12), (8, 2), (100, 12), (5, 2), (8, 2), (100, 12), (8, 2), (100, 12), (5, 2), (8, 2), (100, 12), (8, 2), (100, 12), (5, 2), (8, 2), (100, 12), (8, 2), (100, 12), (8, 2), (100, 80), (8, 2), (100, 80), (8, 2), (100, 80), (8, 2), (100, 80), (8, 2), (100, 80), (8, 2), (100, 80), (7, 6), (110, 6), (113, 6), (5, 2), (8, 2), (100, 12), (8, 2), (100, 12), (8, 2), (100, 0), (5, 2), (8, 2), (100, 12), (8, 2), (100, 12), (5, 2), (8, 2), (100, 12), (8, 2), (100, 12), (5, 2), (8, 2), (100, 12), (8, 2), (100, 12), (5, 2), (8, 2), (100, 12), (8, 2), (100, 12), (5, 2), (8, 2), (100, 12), (8, 2), (100, 12), (5, 2), (8, 2), (100, 12), (8, 2), (100, 12), (8, 2), (100, 80), (8, 2)]
def rsl_5 : List (Nat × Nat) := [(100, 80), (8, 2), (100, 80), (8, 2), (100, 80), (8, 2), (100, 80), (8, 2), (100, 80), (7, 6), (110, 6), (113, 6), (5, 2), (8, 2), (100, 12), (8, 2), (100, 12), (8, 2), (100, 0), (5, 2), (8, 2), (100, 12), (8, 2), (100, 12), (5, 2), (8, 2), (100, 12), (8, 2), (100, 12), (5, 2), (8, 2), (100, 12), (8, 2), (100, 12), (5, 2), (8, 2), (100, 12), (8, 2), (100, 12), (5, 2), (8, 2), (100, 12), (8, 2), (100, 12), (5, 2), (8, 2), (100, 12), (8, 2), (100, 12), (8, 2), (100, 80), (8, 2), (100, 80), (8, 2), (100, 80), (8, 2), (100, 80), (8, 2), (100, 80), (8, 2), (100, 80), (7, 6), (110, 6), (113, 6), (5, 2), (8, 2), (100, 12), (8, 2), (100, 12), (8, 2), (100, 0), (5, 2), (8, 2), (100, 12), (8, 2), (100, 12), (5, 2), (8, 2), (100, 12), (8, 2), (100, 12), (5, 2), (8, 2), (100, 12), (8, 2), (100, 12), (5, 2), (8, 2), (100, 12), (8, 2), (100, 12), (5, 2), (8, 2), (100, 12), (8, 2), (100, 12), (5, 2), (8, 2), (100, 12), (8, 2)]
def rsl_6 : List (Nat × Nat) := [(100, 12), (8, 2), (100, 80), (8, 2), (100, 80), (8, 2), (100, 80), (8, 2), (100, 80), (8, 2), (100, 80), (8, 2), (100, 80), (7, 6), (110, 6), (113, 6), (5, 2), (8, 2), (100, 12), (8, 2), (100, 12), (8, 2), (100, 0), (5, 2), (8, 2), (100, 12), (8, 2), (100, 12), (5, 2), (8, 2), (100, 12), (8, 2), (100, 12), (5, 2), (8, 2), (100, 12), (8, 2), (100, 12), (5, 2), (8, 2), (100, 12), (8, 2), (100, 12), (5, 2), (8, 2), (100, 12), (8, 2), (100, 12), (5, 2), (8, 2), (100, 12), (8, 2), (100, 12), (8, 2), (100, 80), (8, 2), (100, 80), (8, 2), (100, 80), (8, 2), (100, 80), (8, 2), (100, 80), (8, 2), (100, 80), (7, 6), (110, 6), (113, 6), (5, 2), (8, 2), (100, 12), (8, 2), (100, 12), (8, 2), (100, 0), (5, 2), (8, 2), (100, 12), (8, 2), (100, 12), (5, 2), (8, 2), (100, 12), (8, 2), (100, 12), (5, 2), (8, 2), (100, 12), (8, 2), (100, 12), (5, 2), (8, 2), (100, 12), (8, 2), (100, 12), (5, 2), (8, 2), (100, 12), (8, 2), (100, 12)]
def rsl_7 : List (Nat × Nat) := [(5, 2), (8, 2), (100, 12), (8, 2), (100, 12), (8, 2), (100, 80), (8, 2), (100, 80), (8, 2), (100, 80), (8, 2), (100, 80), (8, 2), (100, 80), (8, 2), (100, 80), (7, 6), (110, 6), (113, 6), (5, 2), (8, 2), (100, 12), (8, 2), (100, 12), (8, 2), (100, 0), (5, 2), (8, 2), (100, 12), (8, 2), (100, 12), (5, 2), (8, 2), (100, 12), (8, 2), (100, 12), (5, 2), (8, 2), (100, 12), (8, 2), (100, 12), (5, 2), (8, 2), (100, 12), (8, 2), (100, 12), (5, 2), (8, 2), (100, 12), (8, 2), (100, 12), (5, 2), (8, 2), (100, 12), (8, 2), (100, 12), (8, 2), (100, 80), (8, 2), (100, 80), (8, 2), (100, 80), (8, 2), (100, 80), (8, 2), (100, 80), (8, 2), (100, 80), (8, 2), (100, 80), (100, 80)]
/-- the cells at the head of the law's loop: class or kind of array (114, 115: the rows of pair terms), size -/
def rsl : List (Nat × Nat) := rsl_0 ++ (rsl_1 ++ (rsl_2 ++ (rsl_3 ++ (rsl_4 ++ (rsl_5 ++ (rsl_6 ++ (rsl_7)))))))
def rt (a : Nat) : Nat := (rsl.getD a (99, 0)).1
def ln (a : Nat) : Nat := (rsl.getD a (99, 0)).2
def unt (t : Nat) : Nat := if t = 114 then 113 else if t = 115 then 113 else t
/-- where what never changes its place lies, counted from the cell that holds its name -/
def poff (t j : Nat) : Option Nat := match t with
  | 110 => some (9 + 5 * j)
  | 112 => some (1 + 52 * j)
  | 113 => some (38 + 2 * j)
  | 114 => some (5 + 4 * j)
  | 115 => some (6 + 4 * j)
  | 0 => (match j with | 2 => some 1 | _ => none)
  | 1 => (match j with | 1 => some 1 | 2 => some 2 | _ => none)
  | 2 => (match j with | 2 => some 1 | 3 => some 8 | 4 => some 16 | 5 => some 17 | 6 => some 18 | 7 => some 19 | 8 => some 20 | 9 => some 21 | 10 => some 22 | 11 => some 24 | _ => none)
  | 3 => (match j with | 2 => some 1 | 3 => some 5 | 5 => some 57 | 6 => some 58 | 7 => some 66 | _ => none)
  | 4 => (match j with | 0 => some 1 | 1 => some 3 | 2 => some 5 | 3 => some 7 | _ => none)
  | 6 => (match j with | 1 => some 1 | 2 => some 2 | 3 => some 3 | _ => none)
  | 7 => (match j with | 2 => some 1 | 3 => some 2 | 4 => some 3 | 5 => some 8 | _ => none)
  | 8 => (match j with | 0 => some 1 | _ => none)
  | 9 => (match j with | 1 => some 1 | 2 => some 2 | 3 => some 3 | 4 => some 4 | 5 => some 5 | 6 => some 6 | _ => none)
  | 10 => (match j with | 1 => some 1 | 2 => some 5 | 3 => some 57 | 4 => some 65 | 5 => some 72 | 6 => some 139 | 7 => some 244 | 8 => some 247 | 9 => some 665 | 10 => some 717 | 13 => some 769 | 14 => some 771 | _ => none)
  | _ => none
abbrev Mem : Type := Nat → Nat → Int
def mup (μ : Mem) (a k : Nat) (z : Int) : Mem := fun b j => if b = a ∧ j = k then z else μ b j
/-- a side of a rule: which term -/
def dp (z : Int) : Nat := if rt z.toNat = 8 then z.toNat else 13
def cv (t a j : Nat) (z : Int) : JV := if t = 103 then jX (.long (Int64.ofInt z)) else if t = 104 then jX (.double (UInt64.ofNat z.toNat)) else if t = 5 then jR (dp z) else match poff t j with
  | some d => jR (a + d)
  | none => .inl z
/-- what the class never touches: the script; the law's own cells, their values; cells and slots made -/
abbrev JE2 : Type := (Nat × (Nat → Int)) × (List (Nat × Nat) × (Nat → Nat → JV)) × (Nat × Nat)
/-- the memory of the pure machine is this one, and behind it lie the law's own cells; cell 772 counts the throws -/
def Rl (E : JE2) (M : JM) (μ : Mem) : Prop :=
  M.1 = rsl.map (fun q => (unt q.1, q.2)) ++ E.2.1.1 ∧ (∀ a j, j < ln a → M.2.1 a j = cv (rt a) a j (μ a j)) ∧ (0 ≤ μ 797 0 ∧ M.2.2.1 = E.2.2.1 + (μ 797 0).toNat ∧ M.2.2.2.1 = E.2.2.2 + 6 * (μ 797 0).toNat) ∧ (M.2.2.2.2.2 = E.1 ∧ (∀ a j, 772 ≤ a → M.2.1 a j = E.2.1.2 a j) ∧ (μ 797 0 = 0 → jclean M = true))
def bz (z : Int) : Prop := z = 0 ∨ z = 1
def b2i (b : Bool) : Int := match b with
  | true => 1
  | false => 0
theorem bz_b (b : Bool) : bz (b2i b) := by cases b <;> simp [bz, b2i]
theorem rsl_len : rsl.length = 772 := by decide +kernel
theorem rt_lt {a t : Nat} (h : rt a = t) (ht : t ≠ 99) : a < 772 := by
  rcases Nat.lt_or_ge a 772 with g | g
  · exact g
  · exfalso
    apply ht
    rw [← h]
    unfold rt
    rw [List.getD_eq_getElem?_getD, List.getElem?_eq_none (by rw [rsl_len]; exact g)]
    rfl
def tall (f : List (Nat × Nat) → Bool) : List (Nat × Nat) → Bool
  | [] => true
  | x :: l => f (x :: l) && tall f l
theorem tall_drop {f : List (Nat × Nat) → Bool} : ∀ {l : List (Nat × Nat)}, tall f l = true → ∀ {a : Nat}, a < l.length → f (l.drop a) = true := by
  intro l
  induction l with
  | nil => intro _ a ha; simp at ha
  | cons x l ih =>
    intro h a ha
    rw [tall, Bool.and_eq_true] at h
    cases a with
    | zero => exact h.1
    | succ a => exact ih h.2 (by simpa using ha)
def rtS (l : List (Nat × Nat)) (d : Nat) : Nat × Nat := l.getD d (99, 0)
theorem rtS_drop (a d : Nat) : rtS (rsl.drop a) d = rsl.getD (a + d) (99, 0) := by
  unfold rtS
  rw [List.getD_eq_getElem?_getD, List.getD_eq_getElem?_getD, List.getElem?_drop]
theorem rp_of {t d t1 : Nat} (h : tall (fun l => decide ((rtS l 0).1 = t → (rtS l d).1 = t1)) rsl = true) (ht : t ≠ 99) {a : Nat} (ha : rt a = t) : rt (a + d) = t1 := by
  have := of_decide_eq_true (tall_drop h (by rw [rsl_len]; exact rt_lt ha ht))
  rw [rtS_drop, rtS_drop] at this
  exact this ha
theorem lp_of {t d n : Nat} (h : tall (fun l => decide ((rtS l 0).1 = t → (rtS l d).2 = n)) rsl = true) (ht : t ≠ 99) {a : Nat} (ha : rt a = t) : ln (a + d) = n := by
  have := of_decide_eq_true (tall_drop h (by rw [rsl_len]; exact rt_lt ha ht))
  rw [rtS_drop, rtS_drop] at this
  exact this ha
theorem re_of {t b s n t1 : Nat} (h : tall (fun l => decide ((rtS l 0).1 = t → (List.range n).all (fun j => decide ((rtS l (b + s * j)).1 = t1)) = true)) rsl = true) (ht : t ≠ 99) {a j : Nat} (ha : rt a = t) (hj : j < n) : rt (a + (b + s * j)) = t1 := by
  have := of_decide_eq_true (tall_drop h (by rw [rsl_len]; exact rt_lt ha ht))
  rw [rtS_drop] at this
  have h2 := of_decide_eq_true (List.all_eq_true.mp (this ha) j (List.mem_range.mpr hj))
  rw [rtS_drop] at h2
  exact h2
def fln (l : List (Nat × Nat)) : Bool := let q := rtS l 0
  decide (q.1 < 12 → q.2 = (jfields q.1).length) && decide (q.1 ≠ 99)
theorem fln_all : tall fln rsl = true := by decide +kernel
theorem rt_ln {a t : Nat} (h : rt a = t) (ht : t < 12) : ln a = (jfields t).length := by
  have h1 := tall_drop fln_all (a := a) (by rw [rsl_len]; exact rt_lt h (by omega))
  unfold fln at h1
  dsimp only at h1
  rw [rtS_drop, Bool.and_eq_true] at h1
  have h2 := of_decide_eq_true h1.1
  have e : (rsl.getD (a + 0) (99, 0)).1 = t := h
  rw [e] at h2
  exact h2 ht
theorem dp_rt (z : Int) : rt (dp z) = 8 := by
  unfold dp
  split
  · assumption
  · decide +kernel
theorem dp_of {a : Nat} (h : rt a = 8) : dp (a : Int) = a := by
  unfold dp
  rw [Int.toNat_natCast, if_pos h]
theorem mup_s {μ : Mem} {a k : Nat} {z : Int} : mup μ a k z a k = z := if_pos ⟨rfl, rfl⟩
theorem mup_n {μ : Mem} {a k b j : Nat} {z : Int} (h : ¬ (b = a ∧ j = k)) : mup μ a k z b j = μ b j := if_neg h
section L24
variable {E : JE2} {M : JM} {μ : Mem} {mi pc : Nat} {ls st : List JV} {P : JO → JM → Prop} {l a b w : Nat}
theorem Rl_sh (h : Rl E M μ) {i t : Nat} (ht : rt i = t) (h99 : t ≠ 99) : jsh M i = some (unt t, ln i) := by
  have hl := rt_lt ht h99
  unfold jsh
  rw [h.1, List.getElem?_append_left (by rw [List.length_map, rsl_len]; exact hl), List.getElem?_map, List.getElem?_eq_getElem (by rw [rsl_len]; exact hl), Option.map_some]
  have e : rsl[i]'(by rw [rsl_len]; exact hl) = rsl.getD i (99, 0) := by
    rw [List.getD_eq_getElem?_getD, List.getElem?_eq_getElem (by rw [rsl_len]; exact hl)]; rfl
  rw [e]
  show some (unt (rt i), ln i) = _
  rw [ht]
theorem Rl_tag (h : Rl E M μ) {i t : Nat} (ht : rt i = t) (h99 : t ≠ 99) : jtag M i = unt t := by
  unfold jtag
  rw [if_pos (by have := rt_lt ht h99; omega), Rl_sh h ht h99]
  rfl
theorem Rl_get (h : Rl E M μ) {i j : Nat} (hj : j < ln i) : jget M i j = cv (rt i) i j (μ i j) := h.2.1 i j hj
theorem Rl_set (h : Rl E M μ) {i j : Nat} {z : Int} {v : JV} (hi : i < 772) (hv : v = cv (rt i) i j z) : Rl E (jset M i j v) (mup μ i j z) := by
  have e : mup μ i j z 797 0 = μ 797 0 := mup_n (by omega)
  refine ⟨h.1, fun b k hk => ?_, ?_, h.2.2.2.1, fun b k hb => ?_, ?_⟩
  · show (if b = i ∧ k = j then v else M.2.1 b k) = cv (rt b) b k (if b = i ∧ k = j then z else μ b k)
    by_cases hc : b = i ∧ k = j
    · rw [if_pos hc, if_pos hc, hv, hc.1, hc.2]
    · rw [if_neg hc, if_neg hc]
      exact h.2.1 b k hk
  · rw [e]
    exact h.2.2.1
  · show (if b = i ∧ k = j then v else M.2.1 b k) = _
    rw [if_neg (by omega)]
    exact h.2.2.2.2.1 b k hb
  · rw [e]
    exact h.2.2.2.2.2
theorem Rl_throw (h : Rl E M μ) : Rl E (jthrow M) (mup μ 797 0 (μ 797 0 + 1)) := by
  obtain ⟨h1, h2, ⟨h3, h4, h5⟩, h6, h7, h8⟩ := h
  refine ⟨h1, fun b k hk => ?_, ⟨?_, ?_, ?_⟩, h6, h7, ?_⟩
  · have hb : ¬ (b = 797 ∧ k = 0) := by
      rintro ⟨rfl, rfl⟩
      have : ln 797 = 0 := by decide +kernel
      omega
    rw [mup_n hb]
    exact h2 b k hk
  · rw [mup_s]; omega
  · show M.2.2.1 + 1 = _
    rw [mup_s, h4]; omega
  · show M.2.2.2.1 + 6 = _
    rw [mup_s, h5]; omega
  · intro h
    rw [mup_s] at h
    omega
/-- plain steps -/
theorem L_go {x : JI} {pc1 : Nat} {ls1 st1 : List JV} (hc : jcode mi pc = some x) (hs : jstep x pc ls st M = some (.inl (pc1, ls1, st1, M))) (h : JX mi pc1 ls1 st1 M P) : JX mi pc ls st M P := by
  obtain ⟨n, o, M2, h1, h2⟩ := h
  exact ⟨n + 1, o, M2, by rw [jrun, hc]; simp only [hs]; exact h1, h2⟩
theorem L_goM {x : JI} {pc1 : Nat} {ls1 st1 : List JV} {M1 : JM} (hc : jcode mi pc = some x) (hs : jstep x pc ls st M = some (.inl (pc1, ls1, st1, M1))) (h : JX mi pc1 ls1 st1 M1 P) : JX mi pc ls st M P := by
  obtain ⟨n, o, M2, h1, h2⟩ := h
  exact ⟨n + 1, o, M2, by rw [jrun, hc]; simp only [hs]; exact h1, h2⟩
theorem L_end {x : JI} {o : JO} {M1 : JM} (hc : jcode mi pc = some x) (hs : jstep x pc ls st M = some (.inr (.inr (o, M1)))) (h : P o M1) : JX mi pc ls st M P :=
  ⟨1, o, M1, by rw [jrun, hc]; simp only [hs], h⟩
theorem L_br {x : JI} {c : Bool} {p1 p2 : Nat} {st1 : List JV} {C : Prop} [Decidable C] {A B : Prop} (hc : jcode mi pc = some x) (hs : jstep x pc ls st M = jbr c p1 p2 ls st1 M) (hC : (c = true) = C) (h : if C then A else B) (k1 : A → JX mi p1 ls st1 M P) (k2 : B → JX mi p2 ls st1 M P) : JX mi pc ls st M P := by
  unfold jbr at hs
  by_cases q : C
  · rw [if_pos q] at h
    rw [if_pos (by rw [hC]; exact q)] at hs
    exact L_go hc hs (k1 h)
  · rw [if_neg q] at h
    rw [if_neg (by rw [hC]; exact q)] at hs
    exact L_go hc hs (k2 h)
/-- the same where the text has the test the other way round -/
theorem L_nb {x : JI} {c : Bool} {p1 p2 : Nat} {st1 : List JV} {C : Prop} [Decidable C] {A B : Prop} (hc : jcode mi pc = some x) (hs : jstep x pc ls st M = jbr c p1 p2 ls st1 M) (hC : (c = true) = ¬ C) (h : if C then A else B) (k1 : A → JX mi p2 ls st1 M P) (k2 : B → JX mi p1 ls st1 M P) : JX mi pc ls st M P := by
  unfold jbr at hs
  by_cases q : C
  · rw [if_pos q] at h
    rw [if_neg (by rw [hC]; exact fun f => f q)] at hs
    exact L_go hc hs (k1 h)
  · rw [if_neg q] at h
    rw [if_pos (by rw [hC]; exact q)] at hs
    exact L_go hc hs (k2 h)
theorem jc_lt {x y : Int} : (jcond .lt x y = true) = (x < y) := by simp [jcond]
theorem jc_gt {x y : Int} : (jcond .gt x y = true) = (y < x) := by simp [jcond]
theorem jc_eq {x y : Int} : (jcond .eq x y = true) = (x = y) := by simp [jcond]
theorem jc_ge {x y : Int} : (jcond .ge x y = true) = ¬ (x < y) := by simp [jcond]
theorem jc_le {x y : Int} : (jcond .le x y = true) = ¬ (y < x) := by simp [jcond]
theorem jc_ne {x y : Int} : (jcond .ne x y = true) = ¬ (x = y) := by simp [jcond]
theorem jc_eqb {r : Bool} : (jcond .eq (b2i r) 0 = true) = ¬ (r = true) := by cases r <;> simp [jcond, b2i]
theorem jc_neb {r : Bool} : (jcond .ne (b2i r) 0 = true) = (r = true) := by cases r <;> simp [jcond, b2i]
/-- fields -/
def gk (t j : Nat) : Bool := decide (t < 12 ∧ t ≠ 5 ∧ j < (jfields t).length ∧ poff t j = none)
def gp (t j d : Nat) : Bool := decide (t < 12 ∧ t ≠ 5 ∧ j < (jfields t).length ∧ poff t j = some d)
theorem cv_int {t i j : Nat} {z : Int} (h1 : t ≠ 103) (h2 : t ≠ 104) (h3 : t ≠ 5) (h4 : poff t j = none) : cv t i j z = .inl z := by
  unfold cv
  rw [if_neg h1, if_neg h2, if_neg h3, h4]
theorem cv_ptr {t i j d : Nat} {z : Int} (h1 : t ≠ 103) (h2 : t ≠ 104) (h3 : t ≠ 5) (h4 : poff t j = some d) : cv t i j z = jR (i + d) := by
  unfold cv
  rw [if_neg h1, if_neg h2, if_neg h3, h4]
theorem unt_lt {t : Nat} (h : t < 114) : unt t = t := by unfold unt; rw [if_neg (by omega), if_neg (by omega)]
theorem unt_ge {n t : Nat} (hn : n ≤ 113) (h : n ≤ t) : n ≤ unt t := by
  unfold unt
  by_cases h1 : t = 114
  · rw [if_pos h1]; exact hn
  · rw [if_neg h1]
    by_cases h2 : t = 115
    · rw [if_pos h2]; exact hn
    · rw [if_neg h2]; exact h
theorem L_getI {n i : Nat} (hc : jcode mi pc = some (.getfield n, l, a, b, w)) (hR : Rl E M μ) (ho : rt i = a) (hk : gk a b = true) (h : JX mi (pc + 3) ls (.inl (μ i b) :: st) M P) : JX mi pc ls (.inr (.inl i) :: st) M P := by
  obtain ⟨k1, k2, k3, k4⟩ := of_decide_eq_true hk
  have hl := rt_lt ho (by omega)
  have h1 := Rl_sh hR ho (by omega)
  have h2 := Rl_get hR (i := i) (j := b) (by rw [rt_ln ho k1]; exact k3)
  rw [ho, cv_int (by omega) (by omega) k2 k4] at h2
  refine L_go hc ?_ (by rw [← h2] at h; exact h)
  show (if a = 15 ∧ 2000000 ≤ i ∧ i < 2000014 then _ else _) = _
  rw [if_neg (by omega), h1]
  show (if _ then _ else _) = _
  rw [if_pos ⟨by omega, by rw [unt_lt (by omega), Nat.mod_eq_of_lt (by omega)], by rw [rt_ln ho k1]; exact k3⟩]
  rfl
theorem L_getP {n i d : Nat} (hc : jcode mi pc = some (.getfield n, l, a, b, w)) (hR : Rl E M μ) (ho : rt i = a) (hk : gp a b d = true) (h : JX mi (pc + 3) ls (.inr (.inl (i + d)) :: st) M P) : JX mi pc ls (.inr (.inl i) :: st) M P := by
  obtain ⟨k1, k2, k3, k4⟩ := of_decide_eq_true hk
  have hl := rt_lt ho (by omega)
  have h1 := Rl_sh hR ho (by omega)
  have h2 := Rl_get hR (i := i) (j := b) (by rw [rt_ln ho k1]; exact k3)
  rw [ho, cv_ptr (by omega) (by omega) k2 k4] at h2
  refine L_go hc ?_ (by rw [show (.inr (.inl (i + d)) : JV) = jget M i b from h2.symm] at h; exact h)
  show (if a = 15 ∧ 2000000 ≤ i ∧ i < 2000014 then _ else _) = _
  rw [if_neg (by omega), h1]
  show (if _ then _ else _) = _
  rw [if_pos ⟨by omega, by rw [unt_lt (by omega), Nat.mod_eq_of_lt (by omega)], by rw [rt_ln ho k1]; exact k3⟩]
  rfl
theorem rule_len : (jfields 5).length = 2 := by decide +kernel
theorem jst_get {n i t k : Nat} (hs : jsh M i = some (t, k)) (ha : a ≠ 15) (h1 : i < 1000000) (h2 : t = a % 100) (h3 : b < k) : jstep (.getfield n, l, a, b, w) pc ls (.inr (.inl i) :: st) M = jN (pc + 3) ls (jget M i b :: st) M := by
  show (if a = 15 ∧ 2000000 ≤ i ∧ i < 2000014 then _ else _) = _
  rw [if_neg (by omega), hs]
  show (if _ then _ else _) = _
  rw [if_pos ⟨h1, h2, h3⟩]
theorem jst_getS {n i : Nat} (ha : a = 15) (h : 2000000 ≤ i ∧ i < 2000014) (hb : b < 2) : jstep (.getfield n, l, a, b, w) pc ls (.inr (.inl i) :: st) M = jN (pc + 3) ls ((if b = 0 then jR (i + 1000000) else jI 0) :: st) M := by
  show (if a = 15 ∧ 2000000 ≤ i ∧ i < 2000014 then _ else _) = _
  rw [if_pos ⟨ha, h⟩, if_pos hb]
theorem L_getD {n i : Nat} (hc : jcode mi pc = some (.getfield n, l, 5, b, w)) (hR : Rl E M μ) (ho : rt i = 5) (hk : b < 2) (h : JX mi (pc + 3) ls (.inr (.inl (dp (μ i b))) :: st) M P) : JX mi pc ls (.inr (.inl i) :: st) M P := by
  have hl := rt_lt ho (by omega)
  have h1 := Rl_sh hR ho (by omega)
  have hb : b < ln i := by rw [rt_ln ho (by omega), rule_len]; exact hk
  have h2 := Rl_get hR (i := i) (j := b) hb
  rw [ho, show cv 5 i b (μ i b) = jR (dp (μ i b)) from rfl] at h2
  refine L_go hc ?_ (by rw [show (.inr (.inl (dp (μ i b))) : JV) = jget M i b from h2.symm] at h; exact h)
  rw [jst_get h1 (by decide) (by omega) rfl hb]
  rfl
theorem L_putI {n i t : Nat} {z : Int} (hc : jcode mi pc = some (.putfield n, l, t, b, w)) (hR : Rl E M μ) (ho : rt i = t) (hk : gk t b = true) (h : ∀ M', Rl E M' (mup μ i b z) → JX mi (pc + 3) ls st M' P) : JX mi pc ls (.inl z :: .inr (.inl i) :: st) M P := by
  obtain ⟨k1, k2, k3, k4⟩ := of_decide_eq_true hk
  have hl := rt_lt ho (by omega)
  have h1 := Rl_sh hR ho (by omega)
  refine L_goM hc ?_ (h _ (Rl_set hR hl (by rw [ho, cv_int (by omega) (by omega) k2 k4])))
  show (match jsh M i with | some (t', n) => if i < 1000000 ∧ t' = t % 100 ∧ b < n ∧ jfit (t / 100) (.inl z) = true then jN (pc + 3) ls st (jset M i b (.inl z)) else none | none => none) = _
  rw [h1]
  show (if _ then _ else _) = _
  rw [if_pos ⟨by omega, by rw [unt_lt (by omega), Nat.mod_eq_of_lt (by omega)], by rw [rt_ln ho k1]; exact k3, by rw [Nat.div_eq_of_lt (by omega)]; rfl⟩]
  rfl
theorem L_putB {n i t : Nat} {z : Int} (hc : jcode mi pc = some (.putfield n, l, 100 + t, b, w)) (hR : Rl E M μ) (ho : rt i = t) (hk : gk t b = true) (hz : bz z) (h : ∀ M', Rl E M' (mup μ i b z) → JX mi (pc + 3) ls st M' P) : JX mi pc ls (.inl z :: .inr (.inl i) :: st) M P := by
  obtain ⟨k1, k2, k3, k4⟩ := of_decide_eq_true hk
  have hl := rt_lt ho (by omega)
  have h1 := Rl_sh hR ho (by omega)
  refine L_goM hc ?_ (h _ (Rl_set hR hl (by rw [ho, cv_int (by omega) (by omega) k2 k4])))
  show (match jsh M i with | some (t', n) => if i < 1000000 ∧ t' = (100 + t) % 100 ∧ b < n ∧ jfit ((100 + t) / 100) (.inl z) = true then jN (pc + 3) ls st (jset M i b (.inl z)) else none | none => none) = _
  rw [h1]
  show (if _ then _ else _) = _
  rw [if_pos ⟨by omega, by rw [unt_lt (by omega)]; omega, by rw [rt_ln ho k1]; exact k3, by
    rw [show (100 + t) / 100 = 1 by omega]
    rcases hz with rfl | rfl <;> rfl⟩]
  rfl
theorem L_putD {n i x : Nat} (hc : jcode mi pc = some (.putfield n, l, 205, b, w)) (hR : Rl E M μ) (ho : rt i = 5) (hx : rt x = 8) (hk : b < 2) (h : ∀ M', Rl E M' (mup μ i b (x : Int)) → JX mi (pc + 3) ls st M' P) : JX mi pc ls (.inr (.inl x) :: .inr (.inl i) :: st) M P := by
  have hl := rt_lt ho (by omega)
  have h1 := Rl_sh hR ho (by omega)
  have hb : b < ln i := by rw [rt_ln ho (by omega), rule_len]; exact hk
  refine L_goM hc ?_ (h _ (Rl_set (v := .inr (.inl x)) hR hl (by rw [ho, show cv 5 i b (x : Int) = jR (dp (x : Int)) from rfl, dp_of hx])))
  show (match jsh M i with | some (t', n) => if i < 1000000 ∧ t' = 205 % 100 ∧ b < n ∧ jfit (205 / 100) (.inr (.inl x)) = true then jN (pc + 3) ls st (jset M i b (.inr (.inl x))) else none | none => none) = _
  rw [h1]
  show (if _ then _ else _) = _
  rw [if_pos ⟨by omega, rfl, hb, rfl⟩]
  rfl
/-- arrays -/
theorem Rl_rd {t i n pc1 : Nat} {k : Int} (hR : Rl E M μ) (ho : rt i = t) (ht : 100 ≤ t) (hn : ln i = n) (hk : 0 ≤ k ∧ k < (n : Int)) : jread (unt t) i k pc1 ls st M = some (.inl (pc1, ls, cv t i k.toNat (μ i k.toNat) :: st, M)) := by
  have h99 : t ≠ 99 := by omega
  have hl := rt_lt ho h99
  have hj : k.toNat < ln i := by omega
  unfold jread
  rw [Rl_sh hR ho h99]
  show (if _ then _ else _) = _
  rw [if_pos ⟨by omega, rfl, hk.1, hj⟩, Rl_get hR hj, ho]
  rfl
theorem L_iald {i n : Nat} {k : Int} (hc : jcode mi pc = some (.iaload, l, a, b, w)) (hR : Rl E M μ) (ho : rt i = 100) (hn : ln i = n) (hk : 0 ≤ k ∧ k < (n : Int)) (h : JX mi (pc + 1) ls (.inl (μ i k.toNat) :: st) M P) : JX mi pc ls (.inl k :: .inr (.inl i) :: st) M P := by
  have hl := rt_lt ho (by omega)
  refine L_go hc ?_ h
  show (if i = 1000000 then _ else _) = _
  rw [if_neg (by omega)]
  exact Rl_rd hR ho (by omega) hn hk
theorem L_bald {i n : Nat} {k : Int} (hc : jcode mi pc = some (.baload, l, a, b, w)) (hR : Rl E M μ) (ho : rt i = 101 ∨ rt i = 102) (hn : ln i = n) (hk : 0 ≤ k ∧ k < (n : Int)) (h : JX mi (pc + 1) ls (.inl (μ i k.toNat) :: st) M P) : JX mi pc ls (.inl k :: .inr (.inl i) :: st) M P := by
  refine L_go hc ?_ h
  show (if 3000000 ≤ i ∧ i < 3000014 then _ else _) = _
  rcases ho with ho | ho
  · have hl := rt_lt ho (by omega)
    rw [if_neg (by omega), Rl_tag hR ho (by omega), if_pos (unt_lt (by omega))]
    exact Rl_rd hR ho (by omega) hn hk
  · have hl := rt_lt ho (by omega)
    rw [if_neg (by omega), Rl_tag hR ho (by omega), if_neg (by decide)]
    exact Rl_rd hR ho (by omega) hn hk
theorem L_lald {i n : Nat} {k : Int} (hc : jcode mi pc = some (.laload, l, a, b, w)) (hR : Rl E M μ) (ho : rt i = 103) (hn : ln i = n) (hk : 0 ≤ k ∧ k < (n : Int)) (h : JX mi (pc + 1) ls (.inr (.inr (.long (Int64.ofInt (μ i k.toNat)))) :: st) M P) : JX mi pc ls (.inl k :: .inr (.inl i) :: st) M P :=
  L_go hc (Rl_rd hR ho (by omega) hn hk) h
theorem L_aald {i n t d : Nat} {k : Int} (hc : jcode mi pc = some (.aaload, l, a, b, w)) (hR : Rl E M μ) (ho : rt i = t) (ht : 110 ≤ t ∧ t < 116) (hn : ln i = n) (hk : 0 ≤ k ∧ k < (n : Int)) (hp : poff t k.toNat = some d) (h : JX mi (pc + 1) ls (.inr (.inl (i + d)) :: st) M P) : JX mi pc ls (.inl k :: .inr (.inl i) :: st) M P := by
  have e := Rl_rd (ls := ls) (st := st) (pc1 := pc + 1) hR ho (by omega) hn hk
  rw [cv_ptr (by omega) (by omega) (by omega) hp] at e
  refine L_go hc ?_ h
  show (if 105 ≤ jtag M i then _ else _) = _
  rw [Rl_tag hR ho (by omega), if_pos (unt_ge (by omega) (by omega))]
  exact e
theorem Rl_wr {t i n pc1 : Nat} {k z : Int} {v : JV} (hR : Rl E M μ) (ho : rt i = t) (ht : 100 ≤ t) (ht2 : t < 110) (hn : ln i = n) (hk : 0 ≤ k ∧ k < (n : Int)) (hv : v = cv t i k.toNat z) : jwrite t i k v pc1 ls st M = some (.inl (pc1, ls, st, jset M i k.toNat v)) ∧ Rl E (jset M i k.toNat v) (mup μ i k.toNat z) := by
  have h99 : t ≠ 99 := by omega
  have hl := rt_lt ho h99
  have hj : k.toNat < ln i := by omega
  refine ⟨?_, Rl_set hR hl (by rw [ho]; exact hv)⟩
  unfold jwrite
  rw [Rl_sh hR ho h99]
  show (if _ then _ else _) = _
  rw [if_pos ⟨by omega, unt_lt (by omega), hk.1, hj⟩]
  rfl
theorem L_iast {i n : Nat} {k z : Int} (hc : jcode mi pc = some (.iastore, l, a, b, w)) (hR : Rl E M μ) (ho : rt i = 100) (hn : ln i = n) (hk : 0 ≤ k ∧ k < (n : Int)) (h : ∀ M', Rl E M' (mup μ i k.toNat z) → JX mi (pc + 1) ls st M' P) : JX mi pc ls (.inl z :: .inl k :: .inr (.inl i) :: st) M P := by
  obtain ⟨h1, h2⟩ := Rl_wr (ls := ls) (st := st) (pc1 := pc + 1) (v := .inl z) (z := z) hR ho (by omega) (by omega) hn hk rfl
  exact L_goM hc h1 (h _ h2)
theorem L_bast {i n : Nat} {k z : Int} (hc : jcode mi pc = some (.bastore, l, a, b, w)) (hR : Rl E M μ) (ho : rt i = 101) (hn : ln i = n) (hk : 0 ≤ k ∧ k < (n : Int)) (h : ∀ M', Rl E M' (mup μ i k.toNat (jb8 z)) → JX mi (pc + 1) ls st M' P) : JX mi pc ls (.inl z :: .inl k :: .inr (.inl i) :: st) M P := by
  obtain ⟨h1, h2⟩ := Rl_wr (ls := ls) (st := st) (pc1 := pc + 1) (v := .inl (jb8 z)) (z := jb8 z) hR ho (by omega) (by omega) hn hk rfl
  refine L_goM hc ?_ (h _ h2)
  show (if jtag M i = 101 then _ else _) = _
  rw [Rl_tag hR ho (by omega), if_pos (unt_lt (by omega))]
  exact h1
theorem L_zast {i n : Nat} {k z : Int} (hc : jcode mi pc = some (.bastore, l, a, b, w)) (hR : Rl E M μ) (ho : rt i = 102) (hn : ln i = n) (hk : 0 ≤ k ∧ k < (n : Int)) (hz : bz z) (h : ∀ M', Rl E M' (mup μ i k.toNat z) → JX mi (pc + 1) ls st M' P) : JX mi pc ls (.inl z :: .inl k :: .inr (.inl i) :: st) M P := by
  obtain ⟨h1, h2⟩ := Rl_wr (ls := ls) (st := st) (pc1 := pc + 1) (v := .inl z) (z := z) hR ho (by omega) (by omega) hn hk rfl
  refine L_goM hc ?_ (h _ h2)
  show (if jtag M i = 101 then _ else _) = _
  rw [Rl_tag hR ho (by omega), if_neg (by decide), if_pos (show z = 0 ∨ z = 1 from hz)]
  exact h1
theorem L_last {i n : Nat} {k : Int} {z : Int64} (hc : jcode mi pc = some (.lastore, l, a, b, w)) (hR : Rl E M μ) (ho : rt i = 103) (hn : ln i = n) (hk : 0 ≤ k ∧ k < (n : Int)) (h : ∀ M', Rl E M' (mup μ i k.toNat z.toInt) → JX mi (pc + 1) ls st M' P) : JX mi pc ls (.inr (.inr (.long z)) :: .inl k :: .inr (.inl i) :: st) M P := by
  obtain ⟨h1, h2⟩ := Rl_wr (ls := ls) (st := st) (pc1 := pc + 1) (v := .inr (.inr (.long z))) (z := z.toInt) hR ho (by omega) (by omega) hn hk (by unfold cv; rw [if_pos rfl, Int64.ofInt_toInt])
  exact L_goM hc h1 (h _ h2)
theorem L_alen {i n t : Nat} {z : Int} (hc : jcode mi pc = some (.arraylength, l, a, b, w)) (hR : Rl E M μ) (ho : rt i = t) (ht : 100 ≤ t ∧ t < 116) (hn : ln i = n) (hn2 : n < 2147483648) (hz : (n : Int) = z) (h : JX mi (pc + 1) ls (.inl z :: st) M P) : JX mi pc ls (.inr (.inl i) :: st) M P := by
  subst hz
  have hl := rt_lt ho (by omega)
  have e : jlen M i = some n := by
    unfold jlen
    rw [if_pos (by omega), Rl_sh hR ho (by omega)]
    show (if 100 ≤ unt t then _ else _) = _
    rw [if_pos (unt_ge (by omega) ht.1), hn]
  refine L_go hc ?_ h
  show (match jlen M i with | some n => if n < 2147483648 then jN (pc + 1) ls (jI n :: st) M else none | none => none) = _
  rw [e]
  show (if _ then _ else _) = _
  rw [if_pos hn2]
  rfl
theorem ln_small (i : Nat) : ln i < 2147483648 := by
  rcases Nat.lt_or_ge i 772 with g | g
  · have h : tall (fun l => decide ((rtS l 0).2 < 2147483648)) rsl = true := by decide +kernel
    have := of_decide_eq_true (tall_drop h (a := i) (by rw [rsl_len]; exact g))
    rw [rtS_drop] at this
    exact this
  · unfold ln
    rw [List.getD_eq_getElem?_getD, List.getElem?_eq_none (by rw [rsl_len]; exact g)]
    decide
/-- calls -/
def PO (E : JE2) (QQ : Option JV → Mem → Prop) (X : Nat → Mem → Prop) : JO → JM → Prop := fun o M' => match o with
  | .inl v => ∃ μ', Rl E M' μ' ∧ QQ v μ'
  | .inr k => ∃ μ', Rl E M' μ' ∧ X k μ'
def QI (Q : Int → Mem → Prop) : Option JV → Mem → Prop := fun v μ => ∃ z : Int, v = some (.inl z) ∧ Q z μ
def QB (Q : Bool → Mem → Prop) : Option JV → Mem → Prop := fun v μ => ∃ z : Bool, v = some (.inl (b2i z)) ∧ Q z μ
def QR (t : Nat) (Q : Nat → Mem → Prop) : Option JV → Mem → Prop := fun v μ => ∃ z : Nat, v = some (.inr (.inl z)) ∧ rt z = t ∧ Q z μ
def QV (Q : Mem → Prop) : Option JV → Mem → Prop := fun v μ => v = none ∧ Q μ
def QF (Q : UInt32 → Mem → Prop) : Option JV → Mem → Prop := fun v μ => ∃ z : UInt32, v = some (.inr (.inr (.float z))) ∧ Q z μ
def QD (Q : UInt64 → Mem → Prop) : Option JV → Mem → Prop := fun v μ => ∃ z : UInt64, v = some (.inr (.inr (.double z))) ∧ Q z μ
def XN : Nat → Mem → Prop := fun _ _ => False
/-- a call's arguments off the stack: the receiver, all of them, the rest -/
def vsplit (n : Nat) (st : List JV) : Option (Nat × List JV × List JV) :=
  if n + 1 ≤ st.length ∧ jwds (st.drop (n + 1)) ≤ 8 ∧ ((st.take (n + 1)).all fun v => !jc2 v) = true then match (st.take (n + 1)).reverse with
    | .inr (.inl i) :: r => some (i, .inr (.inl i) :: r, st.drop (n + 1))
    | _ => none
  else none
def ssplit (n : Nat) (st : List JV) : Option (List JV × List JV) :=
  if n ≤ st.length ∧ jwds (st.drop n) ≤ 8 ∧ ((st.take n).all fun v => !jc2 v) = true then some ((st.take n).reverse, st.drop n) else none
theorem vsplit_call {y n i : Nat} {virt : Bool} {as st1 : List JV} (hk : vsplit n st = some (i, as, st1)) (ht : virt = false ∨ jtag M i = jcls y) : jcall y n virt true ls st M = some (.inr (.inl (y, as, st1))) := by
  unfold vsplit at hk
  unfold jcall
  dsimp only
  rw [if_pos rfl]
  split at hk
  · rename_i hc
    rw [if_pos hc]
    split at hk
    · rename_i i' r hr
      cases hk
      rw [hr]
      show (if _ then _ else _) = _
      rw [if_pos ht]
    · cases hk
  · cases hk
theorem ssplit_call {y n : Nat} {as st1 : List JV} (hk : ssplit n st = some (as, st1)) : jcall y n false false ls st M = some (.inr (.inl (y, as, st1))) := by
  unfold ssplit at hk
  unfold jcall
  dsimp only
  rw [if_neg Bool.false_ne_true]
  split at hk
  · rename_i hc
    rw [if_pos hc]
    cases hk
    rfl
  · cases hk
theorem L_call {x : JI} {y : Nat} {as st1 : List JV} {QQ : Option JV → Mem → Prop} {XX : Nat → Mem → Prop} (hc : jcode mi pc = some x) (hs : jstep x pc ls st M = some (.inr (.inl (y, as, st1)))) (_ : jhh mi = []) (hy : JX y 0 (jargs y as) [] M (PO E QQ XX)) (hq : ∀ v M' μ', Rl E M' μ' → QQ v μ' → JX mi (pc + jrl x) ls (v.toList ++ st1) M' P) (hx : ∀ k M' μ', Rl E M' μ' → XX k μ' → P (.inr k) M') : JX mi pc ls st M P := by
  refine JX_call hc hs hy (fun v M1 ho => ?_) fun k M1 ho => ?_
  · obtain ⟨μ', h1, h2⟩ := ho
    exact hq _ _ _ h1 h2
  · obtain ⟨μ', h1, h2⟩ := ho
    exact hx _ _ _ h1 h2
def psteps (cd : List (Nat × JI)) : Nat → Nat → List JV → List JV → JM → Option (Nat × List JV × List JV × JM)
  | 0, pc, ls, st, M => some (pc, ls, st, M)
  | n + 1, pc, ls, st, M => match cd.lookup pc with
    | none => none
    | some x => match jstep x pc ls st M with
      | some (.inl (pc1, ls1, st1, M1)) => psteps cd n pc1 ls1 st1 M1
      | _ => none
theorem L_ps {cd : List (Nat × JI)} (hcd : ∀ (pc : Nat) {x : JI}, cd.lookup pc = some x → jcode mi pc = some x) : ∀ {n : Nat} {pc pc1 : Nat} {ls st ls1 st1 : List JV} {M M1 : JM}, psteps cd n pc ls st M = some (pc1, ls1, st1, M1) → JX mi pc1 ls1 st1 M1 P → JX mi pc ls st M P := by
  intro n
  induction n with
  | zero => intro pc pc1 ls st ls1 st1 M M1 h k; cases h; exact k
  | succ n ih =>
    intro pc pc1 ls st ls1 st1 M M1 h k
    rw [psteps] at h
    split at h
    · cases h
    · rename_i x hx
      split at h
      · rename_i hs
        exact L_goM (hcd _ hx) hs (ih h k)
      · cases h
theorem jsto_of {i : Nat} {v : JV} (hg : jc2 ((jU :: ls).getD i jU) = false) (hl : i < ls.length) : jsto ls i v = some (ls.set i v) := if_pos ⟨hg, hl⟩
theorem L_istn {k : Fin 4} {z : Int} (hc : jcode mi pc = some (.istore_n k, l, a, b, w)) (hg : jc2 ((jU :: ls).getD k jU) = false) (hl : k < ls.length) (h : JX mi (pc + 1) (ls.set k (.inl z)) st M P) : JX mi pc ls (.inl z :: st) M P := by
  refine L_go hc ?_ h
  show jNo (pc + 1) (jsto ls k (.inl z)) st M = _
  rw [jsto_of hg hl]; rfl
theorem L_ist {k : Nat} {z : Int} (hc : jcode mi pc = some (.istore k, l, a, b, w)) (hg : jc2 ((jU :: ls).getD k jU) = false) (hl : k < ls.length) (h : JX mi (pc + 2) (ls.set k (.inl z)) st M P) : JX mi pc ls (.inl z :: st) M P := by
  refine L_go hc ?_ h
  show jNo (pc + 2) (jsto ls k (.inl z)) st M = _
  rw [jsto_of hg hl]; rfl
theorem L_astn {k : Fin 4} {z : Nat} (hc : jcode mi pc = some (.astore_n k, l, a, b, w)) (hg : jc2 ((jU :: ls).getD k jU) = false) (hl : k < ls.length) (h : JX mi (pc + 1) (ls.set k (.inr (.inl z))) st M P) : JX mi pc ls (.inr (.inl z) :: st) M P := by
  refine L_go hc ?_ h
  show jNo (pc + 1) (jsto ls k (.inr (.inl z))) st M = _
  rw [jsto_of hg hl]; rfl
theorem L_ast {k z : Nat} (hc : jcode mi pc = some (.astore k, l, a, b, w)) (hg : jc2 ((jU :: ls).getD k jU) = false) (hl : k < ls.length) (h : JX mi (pc + 2) (ls.set k (.inr (.inl z))) st M P) : JX mi pc ls (.inr (.inl z) :: st) M P := by
  refine L_go hc ?_ h
  show jNo (pc + 2) (jsto ls k (.inr (.inl z))) st M = _
  rw [jsto_of hg hl]; rfl
theorem L_iinc {i : Nat} {n z : Int} (hc : jcode mi pc = some (.iinc i n, l, a, b, w)) (hg : jc2 ((jU :: ls).getD i jU) = false) (hl : i < ls.length) (hz : jld ls i = .inl z) (h : JX mi (pc + 3) (ls.set i (.inl (wr (z + n)))) st M P) : JX mi pc ls st M P := by
  refine L_go hc ?_ h
  show (match jld ls i with | .inl z => jNo (pc + 3) (jsto ls i (.inl (wr (z + n)))) st M | _ => none) = _
  rw [hz]
  show jNo (pc + 3) (jsto ls i (.inl (wr (z + n)))) st M = _
  rw [jsto_of hg hl]; rfl
theorem L_retI {z : Int} (hc : jcode mi pc = some (.ireturn, l, 0, b, w)) (h : P (.inl (some (.inl z))) M) : JX mi pc ls [.inl z] M P := L_end hc rfl h
theorem L_retB {z : Int} (hc : jcode mi pc = some (.ireturn, l, 1, b, w)) (hz : bz z) (h : P (.inl (some (.inl z))) M) : JX mi pc ls [.inl z] M P := by
  refine L_end hc ?_ h
  rcases hz with rfl | rfl <;> rfl
def i2b (z : Int) : Bool := decide (z = 1)
theorem b2i_i2b {z : Int} (h : bz z) : b2i (i2b z) = z := by
  rcases h with rfl | rfl <;> rfl
theorem L_retZ {z : Int} (hc : jcode mi pc = some (.ireturn, l, 1, b, w)) (hz : bz z) (h : P (.inl (some (.inl (b2i (i2b z))))) M) : JX mi pc ls [.inl z] M P := by
  rw [b2i_i2b hz] at h
  exact L_retB hc hz h
def thr (μ : Mem) : Mem := mup μ 797 0 (μ 797 0 + 1)
theorem L_throw {n k : Nat} (hc : jcode mi pc = some (.new n, l, 100 + k, b, w)) (h : P (.inr k) (jthrow M)) : JX mi pc ls [] M P := by
  refine L_end hc (o := .inr k) (M1 := jthrow M) ?_ h
  have e : jstep (.new n, l, 100 + k, b, w) pc ls [] M = (if 100 + k < 100 then (if jclean M = true ∧ M.1.length < 1000000 then jN (pc + 3) ls (jR M.1.length :: []) (jpush M (100 + k) (jfields (100 + k)).length (jdef (100 + k))) else none) else if ([] : List JV) = [] then some (.inr (.inr (.inr (100 + k - 100), jthrow M))) else none) := rfl
  rw [e, if_neg (by omega), if_pos rfl, Nat.add_sub_cancel_left]
def pQI (μ : Mem) (Q : Int → Prop) : Option JV → Mem → Prop := fun v μ1 => μ1 = μ ∧ ∃ z : Int, v = some (.inl z) ∧ Q z
def pQB (μ : Mem) (Q : Bool → Prop) : Option JV → Mem → Prop := fun v μ1 => μ1 = μ ∧ ∃ z : Bool, v = some (.inl (b2i z)) ∧ Q z
def pQR (μ : Mem) (t : Nat) (Q : Nat → Prop) : Option JV → Mem → Prop := fun v μ1 => μ1 = μ ∧ ∃ z : Nat, v = some (.inr (.inl z)) ∧ rt z = t ∧ Q z
def pQV (μ : Mem) (Q : Prop) : Option JV → Mem → Prop := fun v μ1 => μ1 = μ ∧ v = none ∧ Q
def pQF (μ : Mem) (Q : UInt32 → Prop) : Option JV → Mem → Prop := fun v μ1 => μ1 = μ ∧ ∃ z : UInt32, v = some (.inr (.inr (.float z))) ∧ Q z
def pQD (μ : Mem) (Q : UInt64 → Prop) : Option JV → Mem → Prop := fun v μ1 => μ1 = μ ∧ ∃ z : UInt64, v = some (.inr (.inr (.double z))) ∧ Q z
theorem L_cI {x : JI} {y : Nat} {as st1 : List JV} {Q : Int → Mem → Prop} {XX : Nat → Mem → Prop} (hc : jcode mi pc = some x) (hs : jstep x pc ls st M = some (.inr (.inl (y, as, st1)))) (hh : jhh mi = []) (hy : JX y 0 (jargs y as) [] M (PO E (QI Q) XX)) (hq : ∀ (z : Int) (M1 : JM) (μ1 : Mem), Rl E M1 μ1 → Q z μ1 → JX mi (pc + jrl x) ls (.inl z :: st1) M1 P) (hx : ∀ k M1 μ1, Rl E M1 μ1 → XX k μ1 → P (.inr k) M1) : JX mi pc ls st M P := by
  refine L_call hc hs hh hy (fun v M1 μ1 hR hv => ?_) hx
  obtain ⟨z, rfl, hv⟩ := hv
  exact hq _ _ _ hR hv
theorem L_cpI {x : JI} {y : Nat} {as st1 : List JV} {Q : Int → Prop} {XX : Nat → Mem → Prop} (hc : jcode mi pc = some x) (hs : jstep x pc ls st M = some (.inr (.inl (y, as, st1)))) (hh : jhh mi = []) (hy : JX y 0 (jargs y as) [] M (PO E (pQI μ Q) XX)) (hq : ∀ (z : Int) (M1 : JM), Rl E M1 μ → Q z → JX mi (pc + jrl x) ls (.inl z :: st1) M1 P) (hx : ∀ k M1 μ1, Rl E M1 μ1 → XX k μ1 → P (.inr k) M1) : JX mi pc ls st M P := by
  refine L_call hc hs hh hy (fun v M1 μ1 hR hv => ?_) hx
  obtain ⟨rfl, hv⟩ := hv
  obtain ⟨z, rfl, hv⟩ := hv
  exact hq _ _ hR hv
theorem L_cB {x : JI} {y : Nat} {as st1 : List JV} {Q : Bool → Mem → Prop} {XX : Nat → Mem → Prop} (hc : jcode mi pc = some x) (hs : jstep x pc ls st M = some (.inr (.inl (y, as, st1)))) (hh : jhh mi = []) (hy : JX y 0 (jargs y as) [] M (PO E (QB Q) XX)) (hq : ∀ (z : Bool) (M1 : JM) (μ1 : Mem), Rl E M1 μ1 → Q z μ1 → JX mi (pc + jrl x) ls (.inl (b2i z) :: st1) M1 P) (hx : ∀ k M1 μ1, Rl E M1 μ1 → XX k μ1 → P (.inr k) M1) : JX mi pc ls st M P := by
  refine L_call hc hs hh hy (fun v M1 μ1 hR hv => ?_) hx
  obtain ⟨z, rfl, hv⟩ := hv
  exact hq _ _ _ hR hv
theorem L_cpB {x : JI} {y : Nat} {as st1 : List JV} {Q : Bool → Prop} {XX : Nat → Mem → Prop} (hc : jcode mi pc = some x) (hs : jstep x pc ls st M = some (.inr (.inl (y, as, st1)))) (hh : jhh mi = []) (hy : JX y 0 (jargs y as) [] M (PO E (pQB μ Q) XX)) (hq : ∀ (z : Bool) (M1 : JM), Rl E M1 μ → Q z → JX mi (pc + jrl x) ls (.inl (b2i z) :: st1) M1 P) (hx : ∀ k M1 μ1, Rl E M1 μ1 → XX k μ1 → P (.inr k) M1) : JX mi pc ls st M P := by
  refine L_call hc hs hh hy (fun v M1 μ1 hR hv => ?_) hx
  obtain ⟨rfl, hv⟩ := hv
  obtain ⟨z, rfl, hv⟩ := hv
  exact hq _ _ hR hv
theorem L_cR {x : JI} {y : Nat} {as st1 : List JV} {t : Nat} {Q : Nat → Mem → Prop} {XX : Nat → Mem → Prop} (hc : jcode mi pc = some x) (hs : jstep x pc ls st M = some (.inr (.inl (y, as, st1)))) (hh : jhh mi = []) (hy : JX y 0 (jargs y as) [] M (PO E (QR t Q) XX)) (hq : ∀ (z : Nat) (M1 : JM) (μ1 : Mem), Rl E M1 μ1 → rt z = t → Q z μ1 → JX mi (pc + jrl x) ls (.inr (.inl z) :: st1) M1 P) (hx : ∀ k M1 μ1, Rl E M1 μ1 → XX k μ1 → P (.inr k) M1) : JX mi pc ls st M P := by
  refine L_call hc hs hh hy (fun v M1 μ1 hR hv => ?_) hx
  obtain ⟨z, rfl, ht, hv⟩ := hv
  exact hq _ _ _ hR ht hv
theorem L_cpR {x : JI} {y : Nat} {as st1 : List JV} {t : Nat} {Q : Nat → Prop} {XX : Nat → Mem → Prop} (hc : jcode mi pc = some x) (hs : jstep x pc ls st M = some (.inr (.inl (y, as, st1)))) (hh : jhh mi = []) (hy : JX y 0 (jargs y as) [] M (PO E (pQR μ t Q) XX)) (hq : ∀ (z : Nat) (M1 : JM), Rl E M1 μ → rt z = t → Q z → JX mi (pc + jrl x) ls (.inr (.inl z) :: st1) M1 P) (hx : ∀ k M1 μ1, Rl E M1 μ1 → XX k μ1 → P (.inr k) M1) : JX mi pc ls st M P := by
  refine L_call hc hs hh hy (fun v M1 μ1 hR hv => ?_) hx
  obtain ⟨rfl, hv⟩ := hv
  obtain ⟨z, rfl, ht, hv⟩ := hv
  exact hq _ _ hR ht hv
theorem L_cV {x : JI} {y : Nat} {as st1 : List JV} {Q : Mem → Prop} {XX : Nat → Mem → Prop} (hc : jcode mi pc = some x) (hs : jstep x pc ls st M = some (.inr (.inl (y, as, st1)))) (hh : jhh mi = []) (hy : JX y 0 (jargs y as) [] M (PO E (QV Q) XX)) (hq : ∀ (M1 : JM) (μ1 : Mem), Rl E M1 μ1 → Q μ1 → JX mi (pc + jrl x) ls (st1) M1 P) (hx : ∀ k M1 μ1, Rl E M1 μ1 → XX k μ1 → P (.inr k) M1) : JX mi pc ls st M P := by
  refine L_call hc hs hh hy (fun v M1 μ1 hR hv => ?_) hx
  obtain ⟨rfl, hv⟩ := hv
  exact hq _ _ hR hv
theorem L_cpV {x : JI} {y : Nat} {as st1 : List JV} {Q : Prop} {XX : Nat → Mem → Prop} (hc : jcode mi pc = some x) (hs : jstep x pc ls st M = some (.inr (.inl (y, as, st1)))) (hh : jhh mi = []) (hy : JX y 0 (jargs y as) [] M (PO E (pQV μ Q) XX)) (hq : ∀ (M1 : JM), Rl E M1 μ → Q → JX mi (pc + jrl x) ls (st1) M1 P) (hx : ∀ k M1 μ1, Rl E M1 μ1 → XX k μ1 → P (.inr k) M1) : JX mi pc ls st M P := by
  refine L_call hc hs hh hy (fun v M1 μ1 hR hv => ?_) hx
  obtain ⟨rfl, hv⟩ := hv
  obtain ⟨rfl, hv⟩ := hv
  exact hq _ hR hv
theorem js_v {n i x : Nat} {y : Nat} {as st1 : List JV} (hk : vsplit n st = some (i, as, st1)) (ht : jtag M i = jcls y) (hy : y < 8000 := by decide) : jstep (.invokevirtual x, l, y, n, w) pc ls st M = some (.inr (.inl (y, as, st1))) := by
  show (if y = 8002 then jclone pc ls st M else jcall y n true true ls st M) = _
  rw [if_neg (by omega)]
  exact vsplit_call (ls := ls) (M := M) hk (Or.inr ht)
theorem js_f {n i x n1 : Nat} {y : Nat} {as st1 : List JV} (hk : vsplit n st = some (i, as, st1)) (ht : jtag M i = jcls y) : jstep (.invokeinterface x n1, l, y, n, w) pc ls st M = some (.inr (.inl (y, as, st1))) := vsplit_call (ls := ls) (M := M) hk (Or.inr ht)
theorem js_u {n i x : Nat} {y : Nat} {as st1 : List JV} (hk : vsplit (n % 100) st = some (i, as, st1)) (ht : jtag M i = jcls y) : jstep (.invokespecial x, l, y, n, w) pc ls st M = some (.inr (.inl (y, as, st1))) := vsplit_call (ls := ls) (M := M) hk (Or.inr ht)
theorem js_s {n i x : Nat} {y : Nat} {as st1 : List JV} (hk : vsplit (n % 100) st = some (i, as, st1)) (hy : jsup y = false := by rfl) : jstep (.invokespecial x, l, y, n, w) pc ls st M = some (.inr (.inl (y, as, st1))) := vsplit_call (ls := ls) (M := M) hk (Or.inl hy)
theorem js_t {n x : Nat} {y : Nat} {as st1 : List JV} (hk : ssplit n st = some (as, st1)) (hy : y < 8000 := by decide) : jstep (.invokestatic x, l, y, n, w) pc ls st M = some (.inr (.inl (y, as, st1))) := by
  show (if y = 8001 then jcopy pc ls st M else if y = 8003 then jfill pc ls st M else if y = 8004 then jsame pc ls st M else jcall y n false false ls st M) = _
  rw [if_neg (by omega), if_neg (by omega), if_neg (by omega)]
  exact ssplit_call (ls := ls) (M := M) hk

theorem rt0 : rt 0 = 10 := by decide +kernel
theorem rt1 : rt 1 = 6 := by decide +kernel
theorem rt5 : rt 5 = 7 := by decide +kernel
theorem rt57 : rt 57 = 4 := by decide +kernel
theorem rt65 : rt 65 = 9 := by decide +kernel
theorem rt72 : rt 72 = 3 := by decide +kernel
theorem rt73 : rt 73 = 6 := by decide +kernel
theorem rt77 : rt 77 = 7 := by decide +kernel
theorem rt129 : rt 129 = 100 := by decide +kernel
theorem ln129 : ln 129 = 500 := by decide +kernel
theorem rt130 : rt 130 = 4 := by decide +kernel
theorem rt138 : rt 138 = 100 := by decide +kernel
theorem ln138 : ln 138 = 40 := by decide +kernel
theorem rt139 : rt 139 = 2 := by decide +kernel
theorem rt140 : rt 140 = 9 := by decide +kernel
theorem rt147 : rt 147 = 4 := by decide +kernel
theorem rt155 : rt 155 = 100 := by decide +kernel
theorem ln155 : ln 155 = 20 := by decide +kernel
theorem rt156 : rt 156 = 100 := by decide +kernel
theorem ln156 : ln 156 = 20 := by decide +kernel
theorem rt157 : rt 157 = 100 := by decide +kernel
theorem ln157 : ln 157 = 20 := by decide +kernel
theorem rt158 : rt 158 = 100 := by decide +kernel
theorem ln158 : ln 158 = 20 := by decide +kernel
theorem rt159 : rt 159 = 114 := by decide +kernel
theorem ln159 : ln 159 = 20 := by decide +kernel
theorem rt160 : rt 160 = 115 := by decide +kernel
theorem ln160 : ln 160 = 20 := by decide +kernel
theorem rt161 : rt 161 = 8 := by decide +kernel
theorem rt163 : rt 163 = 100 := by decide +kernel
theorem ln163 : ln 163 = 16 := by decide +kernel
theorem rt244 : rt 244 = 1 := by decide +kernel
theorem rt245 : rt 245 = 100 := by decide +kernel
theorem ln245 : ln 245 = 1600 := by decide +kernel
theorem rt246 : rt 246 = 100 := by decide +kernel
theorem ln246 : ln 246 = 80 := by decide +kernel
theorem rt247 : rt 247 = 0 := by decide +kernel
theorem rt248 : rt 248 = 112 := by decide +kernel
theorem ln248 : ln 248 = 8 := by decide +kernel
theorem rt665 : rt 665 = 7 := by decide +kernel
theorem rt717 : rt 717 = 7 := by decide +kernel
theorem rt769 : rt 769 = 8 := by decide +kernel
theorem rt771 : rt 771 = 100 := by decide +kernel
theorem ln771 : ln 771 = 80 := by decide +kernel
theorem rp_0_1 {a : Nat} (h : rt a = 0) : rt (a + 1) = 112 := rp_of (by decide +kernel) (by decide) h
theorem lp_0_1 {a : Nat} (h : rt a = 0) : ln (a + 1) = 8 := lp_of (by decide +kernel) (by decide) h
theorem rp_1_1 {a : Nat} (h : rt a = 1) : rt (a + 1) = 100 := rp_of (by decide +kernel) (by decide) h
theorem lp_1_1 {a : Nat} (h : rt a = 1) : ln (a + 1) = 1600 := lp_of (by decide +kernel) (by decide) h
theorem rp_1_2 {a : Nat} (h : rt a = 1) : rt (a + 2) = 100 := rp_of (by decide +kernel) (by decide) h
theorem lp_1_2 {a : Nat} (h : rt a = 1) : ln (a + 2) = 80 := lp_of (by decide +kernel) (by decide) h
theorem rp_2_1 {a : Nat} (h : rt a = 2) : rt (a + 1) = 9 := rp_of (by decide +kernel) (by decide) h
theorem rp_2_8 {a : Nat} (h : rt a = 2) : rt (a + 8) = 4 := rp_of (by decide +kernel) (by decide) h
theorem rp_2_16 {a : Nat} (h : rt a = 2) : rt (a + 16) = 100 := rp_of (by decide +kernel) (by decide) h
theorem lp_2_16 {a : Nat} (h : rt a = 2) : ln (a + 16) = 20 := lp_of (by decide +kernel) (by decide) h
theorem rp_2_17 {a : Nat} (h : rt a = 2) : rt (a + 17) = 100 := rp_of (by decide +kernel) (by decide) h
theorem lp_2_17 {a : Nat} (h : rt a = 2) : ln (a + 17) = 20 := lp_of (by decide +kernel) (by decide) h
theorem rp_2_18 {a : Nat} (h : rt a = 2) : rt (a + 18) = 100 := rp_of (by decide +kernel) (by decide) h
theorem lp_2_18 {a : Nat} (h : rt a = 2) : ln (a + 18) = 20 := lp_of (by decide +kernel) (by decide) h
theorem rp_2_19 {a : Nat} (h : rt a = 2) : rt (a + 19) = 100 := rp_of (by decide +kernel) (by decide) h
theorem lp_2_19 {a : Nat} (h : rt a = 2) : ln (a + 19) = 20 := lp_of (by decide +kernel) (by decide) h
theorem rp_2_20 {a : Nat} (h : rt a = 2) : rt (a + 20) = 114 := rp_of (by decide +kernel) (by decide) h
theorem lp_2_20 {a : Nat} (h : rt a = 2) : ln (a + 20) = 20 := lp_of (by decide +kernel) (by decide) h
theorem rp_2_21 {a : Nat} (h : rt a = 2) : rt (a + 21) = 115 := rp_of (by decide +kernel) (by decide) h
theorem lp_2_21 {a : Nat} (h : rt a = 2) : ln (a + 21) = 20 := lp_of (by decide +kernel) (by decide) h
theorem rp_2_22 {a : Nat} (h : rt a = 2) : rt (a + 22) = 8 := rp_of (by decide +kernel) (by decide) h
theorem rp_2_24 {a : Nat} (h : rt a = 2) : rt (a + 24) = 100 := rp_of (by decide +kernel) (by decide) h
theorem lp_2_24 {a : Nat} (h : rt a = 2) : ln (a + 24) = 16 := lp_of (by decide +kernel) (by decide) h
theorem rp_3_1 {a : Nat} (h : rt a = 3) : rt (a + 1) = 6 := rp_of (by decide +kernel) (by decide) h
theorem rp_3_5 {a : Nat} (h : rt a = 3) : rt (a + 5) = 7 := rp_of (by decide +kernel) (by decide) h
theorem rp_3_57 {a : Nat} (h : rt a = 3) : rt (a + 57) = 100 := rp_of (by decide +kernel) (by decide) h
theorem lp_3_57 {a : Nat} (h : rt a = 3) : ln (a + 57) = 500 := lp_of (by decide +kernel) (by decide) h
theorem rp_3_58 {a : Nat} (h : rt a = 3) : rt (a + 58) = 4 := rp_of (by decide +kernel) (by decide) h
theorem rp_3_66 {a : Nat} (h : rt a = 3) : rt (a + 66) = 100 := rp_of (by decide +kernel) (by decide) h
theorem lp_3_66 {a : Nat} (h : rt a = 3) : ln (a + 66) = 40 := lp_of (by decide +kernel) (by decide) h
theorem rp_4_1 {a : Nat} (h : rt a = 4) : rt (a + 1) = 8 := rp_of (by decide +kernel) (by decide) h
theorem rp_4_3 {a : Nat} (h : rt a = 4) : rt (a + 3) = 8 := rp_of (by decide +kernel) (by decide) h
theorem rp_4_5 {a : Nat} (h : rt a = 4) : rt (a + 5) = 8 := rp_of (by decide +kernel) (by decide) h
theorem rp_4_7 {a : Nat} (h : rt a = 4) : rt (a + 7) = 100 := rp_of (by decide +kernel) (by decide) h
theorem lp_4_7 {a : Nat} (h : rt a = 4) : ln (a + 7) = 8 := lp_of (by decide +kernel) (by decide) h
theorem rp_6_1 {a : Nat} (h : rt a = 6) : rt (a + 1) = 100 := rp_of (by decide +kernel) (by decide) h
theorem lp_6_1 {a : Nat} (h : rt a = 6) : ln (a + 1) = 8 := lp_of (by decide +kernel) (by decide) h
theorem rp_6_2 {a : Nat} (h : rt a = 6) : rt (a + 2) = 100 := rp_of (by decide +kernel) (by decide) h
theorem lp_6_2 {a : Nat} (h : rt a = 6) : ln (a + 2) = 8 := lp_of (by decide +kernel) (by decide) h
theorem rp_6_3 {a : Nat} (h : rt a = 6) : rt (a + 3) = 100 := rp_of (by decide +kernel) (by decide) h
theorem lp_6_3 {a : Nat} (h : rt a = 6) : ln (a + 3) = 48 := lp_of (by decide +kernel) (by decide) h
theorem rp_7_1 {a : Nat} (h : rt a = 7) : rt (a + 1) = 110 := rp_of (by decide +kernel) (by decide) h
theorem lp_7_1 {a : Nat} (h : rt a = 7) : ln (a + 1) = 6 := lp_of (by decide +kernel) (by decide) h
theorem rp_7_2 {a : Nat} (h : rt a = 7) : rt (a + 2) = 113 := rp_of (by decide +kernel) (by decide) h
theorem lp_7_2 {a : Nat} (h : rt a = 7) : ln (a + 2) = 6 := lp_of (by decide +kernel) (by decide) h
theorem rp_7_3 {a : Nat} (h : rt a = 7) : rt (a + 3) = 5 := rp_of (by decide +kernel) (by decide) h
theorem rp_7_8 {a : Nat} (h : rt a = 7) : rt (a + 8) = 8 := rp_of (by decide +kernel) (by decide) h
theorem rp_8_1 {a : Nat} (h : rt a = 8) : rt (a + 1) = 100 := rp_of (by decide +kernel) (by decide) h
theorem rp_9_1 {a : Nat} (h : rt a = 9) : rt (a + 1) = 100 := rp_of (by decide +kernel) (by decide) h
theorem lp_9_1 {a : Nat} (h : rt a = 9) : ln (a + 1) = 160 := lp_of (by decide +kernel) (by decide) h
theorem rp_9_2 {a : Nat} (h : rt a = 9) : rt (a + 2) = 100 := rp_of (by decide +kernel) (by decide) h
theorem lp_9_2 {a : Nat} (h : rt a = 9) : ln (a + 2) = 160 := lp_of (by decide +kernel) (by decide) h
theorem rp_9_3 {a : Nat} (h : rt a = 9) : rt (a + 3) = 100 := rp_of (by decide +kernel) (by decide) h
theorem lp_9_3 {a : Nat} (h : rt a = 9) : ln (a + 3) = 160 := lp_of (by decide +kernel) (by decide) h
theorem rp_9_4 {a : Nat} (h : rt a = 9) : rt (a + 4) = 102 := rp_of (by decide +kernel) (by decide) h
theorem lp_9_4 {a : Nat} (h : rt a = 9) : ln (a + 4) = 160 := lp_of (by decide +kernel) (by decide) h
theorem rp_9_5 {a : Nat} (h : rt a = 9) : rt (a + 5) = 100 := rp_of (by decide +kernel) (by decide) h
theorem lp_9_5 {a : Nat} (h : rt a = 9) : ln (a + 5) = 16 := lp_of (by decide +kernel) (by decide) h
theorem rp_9_6 {a : Nat} (h : rt a = 9) : rt (a + 6) = 100 := rp_of (by decide +kernel) (by decide) h
theorem lp_9_6 {a : Nat} (h : rt a = 9) : ln (a + 6) = 962 := lp_of (by decide +kernel) (by decide) h
theorem rp_10_1 {a : Nat} (h : rt a = 10) : rt (a + 1) = 6 := rp_of (by decide +kernel) (by decide) h
theorem rp_10_5 {a : Nat} (h : rt a = 10) : rt (a + 5) = 7 := rp_of (by decide +kernel) (by decide) h
theorem rp_10_57 {a : Nat} (h : rt a = 10) : rt (a + 57) = 4 := rp_of (by decide +kernel) (by decide) h
theorem rp_10_65 {a : Nat} (h : rt a = 10) : rt (a + 65) = 9 := rp_of (by decide +kernel) (by decide) h
theorem rp_10_72 {a : Nat} (h : rt a = 10) : rt (a + 72) = 3 := rp_of (by decide +kernel) (by decide) h
theorem rp_10_139 {a : Nat} (h : rt a = 10) : rt (a + 139) = 2 := rp_of (by decide +kernel) (by decide) h
theorem rp_10_244 {a : Nat} (h : rt a = 10) : rt (a + 244) = 1 := rp_of (by decide +kernel) (by decide) h
theorem rp_10_247 {a : Nat} (h : rt a = 10) : rt (a + 247) = 0 := rp_of (by decide +kernel) (by decide) h
theorem rp_10_665 {a : Nat} (h : rt a = 10) : rt (a + 665) = 7 := rp_of (by decide +kernel) (by decide) h
theorem rp_10_717 {a : Nat} (h : rt a = 10) : rt (a + 717) = 7 := rp_of (by decide +kernel) (by decide) h
theorem rp_10_769 {a : Nat} (h : rt a = 10) : rt (a + 769) = 8 := rp_of (by decide +kernel) (by decide) h
theorem rp_10_771 {a : Nat} (h : rt a = 10) : rt (a + 771) = 100 := rp_of (by decide +kernel) (by decide) h
theorem lp_10_771 {a : Nat} (h : rt a = 10) : ln (a + 771) = 80 := lp_of (by decide +kernel) (by decide) h
theorem re_110 {a j : Nat} (h : rt a = 110) (hj : j < 6) : rt (a + (9 + 5 * j)) = 5 := re_of (by decide +kernel) (by decide) h hj
theorem le_110 {a : Nat} (h : rt a = 110) : ln a = 6 := by have := lp_of (t := 110) (d := 0) (n := 6) (by decide +kernel) (by decide) h; exact this
theorem re_112 {a j : Nat} (h : rt a = 112) (hj : j < 8) : rt (a + (1 + 52 * j)) = 7 := re_of (by decide +kernel) (by decide) h hj
theorem le_112 {a : Nat} (h : rt a = 112) : ln a = 8 := by have := lp_of (t := 112) (d := 0) (n := 8) (by decide +kernel) (by decide) h; exact this
theorem re_113 {a j : Nat} (h : rt a = 113) (hj : j < 6) : rt (a + (38 + 2 * j)) = 8 := re_of (by decide +kernel) (by decide) h hj
theorem le_113 {a : Nat} (h : rt a = 113) : ln a = 6 := by have := lp_of (t := 113) (d := 0) (n := 6) (by decide +kernel) (by decide) h; exact this
theorem re_114 {a j : Nat} (h : rt a = 114) (hj : j < 20) : rt (a + (5 + 4 * j)) = 8 := re_of (by decide +kernel) (by decide) h hj
theorem le_114 {a : Nat} (h : rt a = 114) : ln a = 20 := by have := lp_of (t := 114) (d := 0) (n := 20) (by decide +kernel) (by decide) h; exact this
theorem re_115 {a j : Nat} (h : rt a = 115) (hj : j < 20) : rt (a + (6 + 4 * j)) = 8 := re_of (by decide +kernel) (by decide) h hj
theorem le_115 {a : Nat} (h : rt a = 115) : ln a = 20 := by have := lp_of (t := 115) (d := 0) (n := 20) (by decide +kernel) (by decide) h; exact this
end L24
