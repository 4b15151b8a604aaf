/-! THE CALCULUS OVER THE PURE MACHINE: JX: 'the run from here ends, and its end has P' -/
def JX (mi pc : Nat) (ls st : List JV) (M : JM) (P : JO → JM → Prop) : Prop := ∃ (n : Nat) (o : JO) (M1 : JM), jrun n mi pc ls st M = some (o, M1) ∧ P o M1
def JKr (mi pc : Nat) (ls : List JV) (P : JO → JM → Prop) (go : Nat → List JV → List JV → JM → Prop) (M : JM) (r : Option JR) : Prop := match r with
    | none => False
    | some (.inl (pc1, ls1, st1, M1)) => go pc1 ls1 st1 M1
    | some (.inr (.inr (o, M1))) => P o M1
    | some (.inr (.inl (y, as, st1))) => JX y 0 (jargs y as) [] M (fun o M1 => match o with
      | .inl v => go (pc + 3) ls (v.toList ++ st1) M1
      | .inr E => match jcatch (jhh mi) (jcnm mi) pc E with
        | none => P (.inr E) M1
        | some h => match jhand mi h with
          | none => False
          | some (k, pc1) => if k < ls.length ∧ jc2 ((jU :: ls).getD k jU) = false then go pc1 (ls.set k jU) [] M1 else False)
def JK (mi : Nat) (x : Option JI) (pc : Nat) (ls st : List JV) (M : JM) (P : JO → JM → Prop) (go : Nat → List JV → List JV → JM → Prop) : Prop :=
  match x with
  | none => False
  | some x => JKr mi pc ls P go M (jstep x pc ls st M)
theorem jrun_mono1 : ∀ (n mi pc : Nat) (ls st : List JV) (M : JM) (r : JO × JM), jrun n mi pc ls st M = some r → jrun (n + 1) mi pc ls st M = some r := by
  intro n
  induction n with
  | zero => intro mi pc ls st M r h; simp [jrun] at h
  | succ n ih =>
    intro mi pc ls st M r h
    rw [jrun] at h ⊢
    split at h
    · cases h
    · split at h
      · cases h
      · exact ih _ _ _ _ _ _ h
      · exact h
      · rename_i y as st1 heq
        split at h
        · cases h
        · rename_i v M1 hy
          rw [ih _ _ _ _ _ _ hy]
          exact ih _ _ _ _ _ _ h
        · rename_i E M1 hy
          rw [ih _ _ _ _ _ _ hy]
          simp only
          split at h
          · exact h
          · split at h
            · cases h
            · split at h
              · rename_i hk
                simp only [hk, and_self, if_true]
                exact ih _ _ _ _ _ _ h
              · cases h
theorem jrun_mono {n k mi pc : Nat} {ls st : List JV} {M : JM} {r : JO × JM} (h : jrun n mi pc ls st M = some r) (hk : n ≤ k) : jrun k mi pc ls st M = some r := by
  obtain ⟨d, rfl⟩ := Nat.exists_eq_add_of_le hk
  clear hk
  induction d with
  | zero => exact h
  | succ d ih => exact jrun_mono1 _ _ _ _ _ _ _ ih
theorem JX_mono {mi pc : Nat} {ls st : List JV} {M : JM} {P Q : JO → JM → Prop} (h : JX mi pc ls st M P) (hq : ∀ o M1, P o M1 → Q o M1) : JX mi pc ls st M Q := by
  obtain ⟨n, o, M1, h1, h2⟩ := h
  exact ⟨n, o, M1, h1, hq _ _ h2⟩
theorem JK_mono {mi : Nat} {x : Option JI} {pc : Nat} {ls st : List JV} {M : JM} {P : JO → JM → Prop} {go go2 : Nat → List JV → List JV → JM → Prop} (h : JK mi x pc ls st M P go) (hg : ∀ a b c d, go a b c d → go2 a b c d) : JK mi x pc ls st M P go2 := by
  unfold JK at h ⊢
  split at h
  · exact h
  · unfold JKr at h ⊢
    split at h
    · exact h
    · exact hg _ _ _ _ h
    · exact h
    · refine JX_mono h fun o M1 ho => ?_
      split at ho
      · exact hg _ _ _ _ ho
      · split at ho
        · exact ho
        · split at ho
          · exact ho
          · split at ho
            · rename_i hk
              simp only [hk, and_self, if_true]
              exact hg _ _ _ _ ho
            · exact ho.elim
theorem JX_step {mi pc : Nat} {ls st : List JV} {M : JM} {P : JO → JM → Prop} (h : JK mi (jcode mi pc) pc ls st M P (fun pc1 ls1 st1 M1 => JX mi pc1 ls1 st1 M1 P)) : JX mi pc ls st M P := by
  unfold JK at h
  split at h
  · exact h.elim
  · rename_i x hx
    unfold JKr at h
    split at h
    · exact h.elim
    · rename_i pc1 ls1 st1 M1 hj
      obtain ⟨n, o, M2, h1, h2⟩ := h
      exact ⟨n + 1, o, M2, by rw [jrun, hx]; simp only [hj]; exact h1, h2⟩
    · rename_i o M1 hj
      exact ⟨1, o, M1, by rw [jrun, hx]; simp only [hj], h⟩
    · rename_i y as st1 hj
      obtain ⟨n, o, M1, h1, h2⟩ := h
      split at h2
      · rename_i v
        obtain ⟨n2, o2, M2, h3, h4⟩ := h2
        refine ⟨n + n2 + 1, o2, M2, ?_, h4⟩
        rw [jrun, hx]
        simp only [hj, jrun_mono h1 (Nat.le_add_right n n2)]
        exact jrun_mono h3 (Nat.le_add_left n2 n)
      · rename_i E
        split at h2
        · rename_i hc
          exact ⟨n + 1, .inr E, M1, by rw [jrun, hx]; simp only [hj, h1, hc], h2⟩
        · rename_i hd hc
          split at h2
          · exact h2.elim
          · rename_i k pc1 hh
            split at h2
            · rename_i hk
              obtain ⟨n2, o2, M2, h3, h4⟩ := h2
              refine ⟨n + n2 + 1, o2, M2, ?_, h4⟩
              rw [jrun, hx]
              simp only [hj, jrun_mono h1 (Nat.le_add_right n n2), hc, hh, hk, and_self, if_true]
              exact jrun_mono h3 (Nat.le_add_left n2 n)
            · exact h2.elim
/-- the same, marked: to be unrolled up to the places S -/
def JG (S : List Nat) (mi pc : Nat) (ls st : List JV) (M : JM) (P : JO → JM → Prop) : Prop := JX mi pc ls st M P
def jin : List Nat → Nat → Bool
  | [], _ => false
  | x :: l, p => if x = p then true else jin l p
theorem jin_n {p : Nat} : jin [] p = false := rfl
theorem jin_c {x p : Nat} {l : List Nat} : jin (x :: l) p = if x = p then true else jin l p := rfl
def JS (_ : List Nat) (mi : Nat) (P : JO → JM → Prop) : Nat → List JV → List JV → JM → Prop := fun pc ls st M => JX mi pc ls st M P
theorem JS_x {S : List Nat} {mi pc : Nat} {ls st : List JV} {M : JM} {P : JO → JM → Prop} : JS S mi P pc ls st M = if jin S pc = true then JX mi pc ls st M P else JG S mi pc ls st M P := by
  split <;> rfl
theorem jrun_det {mi pc : Nat} {ls st : List JV} {M : JM} {n k : Nat} {r q : JO × JM} (h1 : jrun n mi pc ls st M = some r) (h2 : jrun k mi pc ls st M = some q) : r = q := by
  have a := jrun_mono h1 (Nat.le_add_right n k)
  have b := jrun_mono h2 (Nat.le_add_left k n)
  exact Option.some.inj (a.symm.trans b)
theorem JX_iff {mi pc : Nat} {ls st : List JV} {M : JM} {P : JO → JM → Prop} : JX mi pc ls st M P ↔ JK mi (jcode mi pc) pc ls st M P (fun pc1 ls1 st1 M1 => JX mi pc1 ls1 st1 M1 P) := by
  refine ⟨fun ⟨n, o, M1, h, hP⟩ => ?_, JX_step⟩
  cases n with
  | zero => simp [jrun] at h
  | succ n =>
    rw [jrun] at h
    split at h
    · cases h
    · rename_i x hx
      rw [hx]
      show JKr _ _ _ _ _ _ _
      unfold JKr
      split at h
      · cases h
      · rename_i hj
        rw [hj]
        exact ⟨n, o, M1, h, hP⟩
      · rename_i hj
        rw [hj]
        cases h; exact hP
      · rename_i hj
        rw [hj]
        split at h
        · cases h
        · rename_i v M2 hy
          exact ⟨n, _, _, hy, n, o, M1, h, hP⟩
        · rename_i E M2 hy
          refine ⟨n, _, _, hy, ?_⟩
          simp only
          split at h
          · rename_i hc
            rw [hc]
            cases h; exact hP
          · rename_i hd hc
            rw [hc]
            split at h
            · cases h
            · rename_i k pc1 hh
              simp only [hh]
              split at h
              · rename_i hk
                rw [if_pos hk]
                exact ⟨n, o, M1, h, hP⟩
              · cases h
theorem JG_step {S : List Nat} {mi pc : Nat} {ls st : List JV} {M : JM} {P : JO → JM → Prop} : JG S mi pc ls st M P = JK mi (jcode mi pc) pc ls st M P (JS S mi P) := propext JX_iff
theorem JX_go {S : List Nat} {mi pc : Nat} {ls st : List JV} {M : JM} {P : JO → JM → Prop} : JX mi pc ls st M P = JG S mi pc ls st M P := rfl
-- ROWS
def K_1 (x : JV) (k : JV → Prop) : Prop := match x with | .inl z => k (.inl z) | _ => False
def K_2 (x : JV) (k : JV → Prop) : Prop := match x with | .inr (.inl i) => k (.inr (.inl i)) | _ => False
def K_f (x : JV) (k : JV → Prop) : Prop := match x with | .inr (.inr (.float b)) => k (jX (.float b)) | _ => False
def K_d (x : JV) (k : JV → Prop) : Prop := match x with | .inr (.inr (.double b)) => k (jX (.double b)) | _ => False
theorem K_1i {z : Int} {k : JV → Prop} : K_1 (.inl z) k = k (.inl z) := rfl
theorem K_2i {i : Nat} {k : JV → Prop} : K_2 (.inr (.inl i)) k = k (.inr (.inl i)) := rfl
theorem K_fi {z : UInt32} {k : JV → Prop} : K_f (.inr (.inr (.float z))) k = k (.inr (.inr (.float z))) := rfl
theorem K_di {z : UInt64} {k : JV → Prop} : K_d (.inr (.inr (.double z))) k = k (.inr (.inr (.double z))) := rfl
section K0
variable {mi pc : Nat} {ls : List JV} {P : JO → JM → Prop} {go : Nat → List JV → List JV → JM → Prop} {M : JM}
theorem Kr_1 {x : JV} {st : List JV} {pc1 : Nat} : JKr mi pc ls P go M (jld1 x st pc1 ls M) = K_1 x (fun v => go pc1 ls (v :: st) M) := by
  rcases x with z | z | z <;> rfl
theorem Kr_2 {x : JV} {st : List JV} {pc1 : Nat} : JKr mi pc ls P go M (jld2 x st pc1 ls M) = K_2 x (fun v => go pc1 ls (v :: st) M) := by
  rcases x with z | z | z <;> rfl
theorem Kr_f {x : JV} {st : List JV} {pc1 : Nat} : JKr mi pc ls P go M (jldf x st pc1 ls M) = K_f x (fun v => go pc1 ls (v :: st) M) := by
  rcases x with z | z | z
  · rfl
  · rfl
  · cases z <;> rfl
theorem Kr_d {x : JV} {st : List JV} {pc1 : Nat} : JKr mi pc ls P go M (jldd x st pc1 ls M) = K_d x (fun v => go pc1 ls (v :: st) M) := by
  rcases x with z | z | z
  · rfl
  · rfl
  · cases z <;> rfl
/-- a store into the locals -/
def K_s (o : Option (List JV)) (k : List JV → Prop) : Prop := match o with | some ls => k ls | none => False
theorem K_so {ls : List JV} {i : Nat} {v : JV} {k : List JV → Prop} (h1 : jc2 ((jU :: ls).getD i jU) = false) (h2 : i < ls.length) : K_s (jsto ls i v) k = k (ls.set i v) := by
  unfold jsto
  rw [if_pos ⟨h1, h2⟩]
  rfl
theorem K_so2 {ls : List JV} {i : Nat} {v : JV} {k : List JV → Prop} (h1 : jc2 ((jU :: ls).getD i jU) = false) (h2 : i + 1 < ls.length) : K_s (jsto2 ls i v) k = k ((ls.set i v).set (i + 1) jU) := by
  unfold jsto2
  rw [if_pos ⟨h1, h2⟩]
  rfl
theorem Kr_s {o : Option (List JV)} {st : List JV} {pc1 : Nat} : JKr mi pc ls P go M (jNo pc1 o st M) = K_s o (fun l => go pc1 l st M) := by
  cases o <;> rfl
theorem Kr_if {c : Prop} [Decidable c] {x y : Option JR} : JKr mi pc ls P go M (if c then x else y) = (if c then JKr mi pc ls P go M x else JKr mi pc ls P go M y) := by
  split <;> rfl
theorem Kr_no : JKr mi pc ls P go M none = False := rfl
theorem Kr_N {pc1 : Nat} {l s : List JV} {m : JM} : JKr mi pc ls P go M (jN pc1 l s m) = go pc1 l s m := rfl
/-- what a field holds -/
def K_g (o : Option (Nat × Nat)) (i a b : Nat) (k : Prop) : Prop := match o with | some (t, n) => if i < 1000000 ∧ t = a % 100 ∧ b < n then k else False | none => False
def K_p (o : Option (Nat × Nat)) (i a b : Nat) (v : JV) (k : Prop) : Prop := match o with | some (t, n) => if i < 1000000 ∧ t = a % 100 ∧ b < n ∧ jfit (a / 100) v = true then k else False | none => False
/-- an element of an array -/
def K_a (o : Option (Nat × Nat)) (tt i : Nat) (j : Int) (k : Prop) : Prop := match o with | some (t, n) => if i < 1000000 ∧ t = tt ∧ 0 ≤ j ∧ j.toNat < n then k else False | none => False
theorem K_gx {t n i a b : Nat} {k : Prop} : K_g (some (t, n)) i a b k = if i < 1000000 ∧ t = a % 100 ∧ b < n then k else False := rfl
theorem K_px {t n i a b : Nat} {v : JV} {k : Prop} : K_p (some (t, n)) i a b v k = if i < 1000000 ∧ t = a % 100 ∧ b < n ∧ jfit (a / 100) v = true then k else False := rfl
theorem K_ax {t n i tt : Nat} {j : Int} {k : Prop} : K_a (some (t, n)) tt i j k = if i < 1000000 ∧ t = tt ∧ 0 ≤ j ∧ j.toNat < n then k else False := rfl
theorem Kr_rd {t i pc1 : Nat} {j : Int} {st : List JV} : JKr mi pc ls P go M (jread t i j pc1 ls st M) = K_a (jsh M i) t i j (go pc1 ls (jget M i j.toNat :: st) M) := by
  unfold jread K_a
  cases jsh M i with
  | none => rfl
  | some q => exact Kr_if
theorem Kr_wr {t i pc1 : Nat} {j : Int} {v : JV} {st : List JV} : JKr mi pc ls P go M (jwrite t i j v pc1 ls st M) = K_a (jsh M i) t i j (go pc1 ls st (jset M i j.toNat v)) := by
  unfold jwrite K_a
  cases jsh M i with
  | none => rfl
  | some q => exact Kr_if
def K_l (o : Option Nat) (k : Prop) : Prop := match o with | some n => if n < 2147483648 then k else False | none => False
theorem K_lx {n : Nat} {k : Prop} : K_l (some n) k = if n < 2147483648 then k else False := rfl
/-- a call's arguments -/
def K_c (y : Nat) (as : List JV) (M : JM) (Q : JO → JM → Prop) : Prop := JX y 0 (jargs y as) [] M Q
def K_q (mi pc : Nat) (ls : List JV) (P : JO → JM → Prop) (go : Nat → List JV → List JV → JM → Prop) (st : List JV) : JO → JM → Prop := fun o M1 => match o with
      | .inl v => go (pc + 3) ls (v.toList ++ st) M1
      | .inr E => match jcatch (jhh mi) (jcnm mi) pc E with
        | none => P (.inr E) M1
        | some h => match jhand mi h with
          | none => False
          | some (k, pc1) => if k < ls.length ∧ jc2 ((jU :: ls).getD k jU) = false then go pc1 (ls.set k jU) [] M1 else False
theorem K_qi {st : List JV} {v : JV} : K_q mi pc ls P go st (.inl (some v)) M = go (pc + 3) ls (v :: st) M := rfl
theorem K_qv {st : List JV} : K_q mi pc ls P go st (.inl none) M = go (pc + 3) ls st M := rfl
end K0
theorem K_iconst {mi l a b w pc : Nat} {ls st : List JV} {M : JM} {P : JO → JM → Prop} {go : Nat → List JV → List JV → JM → Prop} {n : Int} : JK mi (some (.iconst n, l, a, b, w)) pc ls (st) M P go = (go (pc + 1) ls (.inl n :: st) M) := rfl
theorem K_bipush {mi l a b w pc : Nat} {ls st : List JV} {M : JM} {P : JO → JM → Prop} {go : Nat → List JV → List JV → JM → Prop} {n : Int} : JK mi (some (.bipush n, l, a, b, w)) pc ls (st) M P go = (go (pc + 2) ls (.inl n :: st) M) := rfl
theorem K_sipush {mi l a b w pc : Nat} {ls st : List JV} {M : JM} {P : JO → JM → Prop} {go : Nat → List JV → List JV → JM → Prop} {n : Int} : JK mi (some (.sipush n, l, a, b, w)) pc ls (st) M P go = (go (pc + 3) ls (.inl n :: st) M) := rfl
theorem K_lconst {mi l a b w pc : Nat} {ls st : List JV} {M : JM} {P : JO → JM → Prop} {go : Nat → List JV → List JV → JM → Prop} {n : Fin 2} : JK mi (some (.lconst n, l, a, b, w)) pc ls (st) M P go = (go (pc + 1) ls (.inr (.inr (.long (Int64.ofNat n))) :: st) M) := rfl
theorem K_dconst {mi l a b w pc : Nat} {ls st : List JV} {M : JM} {P : JO → JM → Prop} {go : Nat → List JV → List JV → JM → Prop}  : JK mi (some (.dconst 0, l, a, b, w)) pc ls (st) M P go = (go (pc + 1) ls (.inr (.inr (.double FP.dconst0)) :: st) M) := rfl
theorem K_fconst {mi l a b w pc : Nat} {ls st : List JV} {M : JM} {P : JO → JM → Prop} {go : Nat → List JV → List JV → JM → Prop}  : JK mi (some (.fconst 0, l, a, b, w)) pc ls (st) M P go = (go (pc + 1) ls (.inr (.inr (.float FP.fconst0)) :: st) M) := rfl
theorem K_ldc0 {mi l a w pc : Nat} {ls st : List JV} {M : JM} {P : JO → JM → Prop} {go : Nat → List JV → List JV → JM → Prop} {n : Nat} : JK mi (some (.ldc n, l, a, 0, w)) pc ls st M P go = (go (pc + 2) ls (.inl ((a : Int) - 2147483648) :: st) M) := rfl
theorem K_ldc1 {mi l a w pc : Nat} {ls st : List JV} {M : JM} {P : JO → JM → Prop} {go : Nat → List JV → List JV → JM → Prop} {n : Nat} : JK mi (some (.ldc n, l, a, 1, w)) pc ls st M P go = (go (pc + 2) ls (.inr (.inl (2000000 + a)) :: st) M) := rfl
theorem K_ldcw1 {mi l a w pc : Nat} {ls st : List JV} {M : JM} {P : JO → JM → Prop} {go : Nat → List JV → List JV → JM → Prop} {n : Nat} : JK mi (some (.ldc_w n, l, a, 1, w)) pc ls st M P go = (go (pc + 3) ls (.inr (.inl (2000000 + a)) :: st) M) := rfl
theorem K_ldcw {mi l a w pc : Nat} {ls st : List JV} {M : JM} {P : JO → JM → Prop} {go : Nat → List JV → List JV → JM → Prop} {n : Nat} : JK mi (some (.ldc_w n, l, a, 0, w)) pc ls st M P go = (go (pc + 3) ls (.inl ((a : Int) - 2147483648) :: st) M) := rfl
theorem K_getstatic {mi l b w pc : Nat} {ls st : List JV} {M : JM} {P : JO → JM → Prop} {go : Nat → List JV → List JV → JM → Prop} {n : Nat} : JK mi (some (.getstatic n, l, 0, b, w)) pc ls st M P go = go (pc + 3) ls (.inl 1 :: st) M := rfl
theorem K_iadd {mi l a b w pc : Nat} {ls st : List JV} {M : JM} {P : JO → JM → Prop} {go : Nat → List JV → List JV → JM → Prop} {x y : Int} : JK mi (some (.iadd, l, a, b, w)) pc ls (.inl y :: .inl x :: st) M P go = (go (pc + 1) ls (.inl (wr (x + y)) :: st) M) := rfl
theorem K_isub {mi l a b w pc : Nat} {ls st : List JV} {M : JM} {P : JO → JM → Prop} {go : Nat → List JV → List JV → JM → Prop} {x y : Int} : JK mi (some (.isub, l, a, b, w)) pc ls (.inl y :: .inl x :: st) M P go = (go (pc + 1) ls (.inl (wr (x - y)) :: st) M) := rfl
theorem K_imul {mi l a b w pc : Nat} {ls st : List JV} {M : JM} {P : JO → JM → Prop} {go : Nat → List JV → List JV → JM → Prop} {x y : Int} : JK mi (some (.imul, l, a, b, w)) pc ls (.inl y :: .inl x :: st) M P go = (go (pc + 1) ls (.inl (wr (x * y)) :: st) M) := rfl
theorem K_iand {mi l a b w pc : Nat} {ls st : List JV} {M : JM} {P : JO → JM → Prop} {go : Nat → List JV → List JV → JM → Prop} {x y : Int} : JK mi (some (.iand, l, a, b, w)) pc ls (.inl y :: .inl x :: st) M P go = (go (pc + 1) ls (.inl (jand x y) :: st) M) := rfl
theorem K_ishr {mi l a b w pc : Nat} {ls st : List JV} {M : JM} {P : JO → JM → Prop} {go : Nat → List JV → List JV → JM → Prop} {x y : Int} : JK mi (some (.ishr, l, a, b, w)) pc ls (.inl y :: .inl x :: st) M P go = (go (pc + 1) ls (.inl (jshr x y) :: st) M) := rfl
theorem K_iushr {mi l a b w pc : Nat} {ls st : List JV} {M : JM} {P : JO → JM → Prop} {go : Nat → List JV → List JV → JM → Prop} {x y : Int} : JK mi (some (.iushr, l, a, b, w)) pc ls (.inl y :: .inl x :: st) M P go = (go (pc + 1) ls (.inl (jushr x y) :: st) M) := rfl
theorem K_i2b {mi l a b w pc : Nat} {ls st : List JV} {M : JM} {P : JO → JM → Prop} {go : Nat → List JV → List JV → JM → Prop} {x : Int} : JK mi (some (.i2b, l, a, b, w)) pc ls (.inl x :: st) M P go = (go (pc + 1) ls (.inl (jb8 x) :: st) M) := rfl
theorem K_i2c {mi l a b w pc : Nat} {ls st : List JV} {M : JM} {P : JO → JM → Prop} {go : Nat → List JV → List JV → JM → Prop} {x : Int} : JK mi (some (.i2c, l, a, b, w)) pc ls (.inl x :: st) M P go = (go (pc + 1) ls (.inl (jc16 x) :: st) M) := rfl
theorem K_i2l {mi l a b w pc : Nat} {ls st : List JV} {M : JM} {P : JO → JM → Prop} {go : Nat → List JV → List JV → JM → Prop} {x : Int} : JK mi (some (.i2l, l, a, b, w)) pc ls (.inl x :: st) M P go = (go (pc + 1) ls (.inr (.inr (.long (Int32.ofInt x).toInt64)) :: st) M) := rfl
theorem K_i2d {mi l a b w pc : Nat} {ls st : List JV} {M : JM} {P : JO → JM → Prop} {go : Nat → List JV → List JV → JM → Prop} {x : Int} : JK mi (some (.i2d, l, a, b, w)) pc ls (.inl x :: st) M P go = (go (pc + 1) ls (.inr (.inr (.double (FP.i2d (Int32.ofInt x)))) :: st) M) := rfl
theorem K_i2f {mi l a b w pc : Nat} {ls st : List JV} {M : JM} {P : JO → JM → Prop} {go : Nat → List JV → List JV → JM → Prop} {x : Int} : JK mi (some (.i2f, l, a, b, w)) pc ls (.inl x :: st) M P go = (go (pc + 1) ls (.inr (.inr (.float (FP.i2f (Int32.ofInt x)))) :: st) M) := rfl
theorem K_fdiv {mi l a b w pc : Nat} {ls st : List JV} {M : JM} {P : JO → JM → Prop} {go : Nat → List JV → List JV → JM → Prop} {x y : UInt32} : JK mi (some (.fdiv, l, a, b, w)) pc ls (.inr (.inr (.float y)) :: .inr (.inr (.float x)) :: st) M P go = (if jnan32 (FP.fdiv x y) = true then go (pc + 1) ls (.inr (.inr (.float (FP.fdiv x y))) :: st) M else False) := Kr_if
theorem K_ddiv {mi l a b w pc : Nat} {ls st : List JV} {M : JM} {P : JO → JM → Prop} {go : Nat → List JV → List JV → JM → Prop} {x y : UInt64} : JK mi (some (.ddiv, l, a, b, w)) pc ls (.inr (.inr (.double y)) :: .inr (.inr (.double x)) :: st) M P go = (if jnan64 (FP.ddiv x y) = true then go (pc + 1) ls (.inr (.inr (.double (FP.ddiv x y))) :: st) M else False) := Kr_if
theorem K_f2d {mi l a b w pc : Nat} {ls st : List JV} {M : JM} {P : JO → JM → Prop} {go : Nat → List JV → List JV → JM → Prop} {x : UInt32} : JK mi (some (.f2d, l, a, b, w)) pc ls (.inr (.inr (.float x)) :: st) M P go = (if jnan64 (FP.f2d x) = true then go (pc + 1) ls (.inr (.inr (.double (FP.f2d x))) :: st) M else False) := Kr_if
theorem K_lcmp {mi l a b w pc : Nat} {ls st : List JV} {M : JM} {P : JO → JM → Prop} {go : Nat → List JV → List JV → JM → Prop} {x y : Int64} : JK mi (some (.lcmp, l, a, b, w)) pc ls (.inr (.inr (.long y)) :: .inr (.inr (.long x)) :: st) M P go = (go (pc + 1) ls (.inl (lg_cmp x y).toInt :: st) M) := rfl
theorem K_dcmp {mi l a b w pc : Nat} {ls st : List JV} {M : JM} {P : JO → JM → Prop} {go : Nat → List JV → List JV → JM → Prop} {x y : UInt64} {op : CmpOp} : JK mi (some (.dcmp op, l, a, b, w)) pc ls (.inr (.inr (.double y)) :: .inr (.inr (.double x)) :: st) M P go = (go (pc + 1) ls (.inl (Op.cmpValue (FP.dcmp x y) op).toInt :: st) M) := rfl
theorem K_fcmp {mi l a b w pc : Nat} {ls st : List JV} {M : JM} {P : JO → JM → Prop} {go : Nat → List JV → List JV → JM → Prop} {x y : UInt32} {op : CmpOp} : JK mi (some (.fcmp op, l, a, b, w)) pc ls (.inr (.inr (.float y)) :: .inr (.inr (.float x)) :: st) M P go = (go (pc + 1) ls (.inl (Op.cmpValue (FP.fcmp x y) op).toInt :: st) M) := rfl
theorem K_dup_i {mi l a b w pc : Nat} {ls st : List JV} {M : JM} {P : JO → JM → Prop} {go : Nat → List JV → List JV → JM → Prop} {x : Int} : JK mi (some (.dup, l, a, b, w)) pc ls (.inl x :: st) M P go = (go (pc + 1) ls (.inl x :: .inl x :: st) M) := rfl
theorem K_dup_r {mi l a b w pc : Nat} {ls st : List JV} {M : JM} {P : JO → JM → Prop} {go : Nat → List JV → List JV → JM → Prop} {x : Nat} : JK mi (some (.dup, l, a, b, w)) pc ls (.inr (.inl x) :: st) M P go = (go (pc + 1) ls (.inr (.inl x) :: .inr (.inl x) :: st) M) := rfl
theorem K_dup2 {mi l a b w pc : Nat} {ls st : List JV} {M : JM} {P : JO → JM → Prop} {go : Nat → List JV → List JV → JM → Prop} {x : Nat} {y : Int} : JK mi (some (.dup2, l, a, b, w)) pc ls (.inl y :: .inr (.inl x) :: st) M P go = (go (pc + 1) ls (.inl y :: .inr (.inl x) :: .inl y :: .inr (.inl x) :: st) M) := rfl
theorem K_pop_i {mi l a b w pc : Nat} {ls st : List JV} {M : JM} {P : JO → JM → Prop} {go : Nat → List JV → List JV → JM → Prop} {x : Int} : JK mi (some (.pop, l, a, b, w)) pc ls (.inl x :: st) M P go = (go (pc + 1) ls st M) := rfl
theorem K_pop_r {mi l a b w pc : Nat} {ls st : List JV} {M : JM} {P : JO → JM → Prop} {go : Nat → List JV → List JV → JM → Prop} {x : Nat} : JK mi (some (.pop, l, a, b, w)) pc ls (.inr (.inl x) :: st) M P go = (go (pc + 1) ls st M) := rfl
theorem K_goto {mi l a b w pc : Nat} {ls st : List JV} {M : JM} {P : JO → JM → Prop} {go : Nat → List JV → List JV → JM → Prop} {n : Int} : JK mi (some (.goto n, l, a, b, w)) pc ls (st) M P go = (go a ls st M) := rfl
theorem K_if_eq {mi l a b w pc : Nat} {ls st : List JV} {M : JM} {P : JO → JM → Prop} {go : Nat → List JV → List JV → JM → Prop} {n x : Int} : JK mi (some (.ifCond .eq n, l, a, b, w)) pc ls (.inl x :: st) M P go = (if x = 0 then go a ls st M else go (pc + 3) ls st M) := by
  show JKr _ _ _ _ _ _ (jbr (decide (x = 0)) _ _ _ _ _) = _
  unfold jbr
  by_cases h : x = 0
  · rw [if_pos (decide_eq_true h), if_pos h]; rfl
  · rw [if_neg (by simpa using h), if_neg h]; rfl
theorem K_ic_eq {mi l a b w pc : Nat} {ls st : List JV} {M : JM} {P : JO → JM → Prop} {go : Nat → List JV → List JV → JM → Prop} {n x y : Int} : JK mi (some (.if_icmp .eq n, l, a, b, w)) pc ls (.inl y :: .inl x :: st) M P go = (if x = y then go a ls st M else go (pc + 3) ls st M) := by
  show JKr _ _ _ _ _ _ (jbr (decide (x = y)) _ _ _ _ _) = _
  unfold jbr
  by_cases h : x = y
  · rw [if_pos (decide_eq_true h), if_pos h]; rfl
  · rw [if_neg (by simpa using h), if_neg h]; rfl
theorem K_if_ne {mi l a b w pc : Nat} {ls st : List JV} {M : JM} {P : JO → JM → Prop} {go : Nat → List JV → List JV → JM → Prop} {n x : Int} : JK mi (some (.ifCond .ne n, l, a, b, w)) pc ls (.inl x :: st) M P go = (if ¬ x = 0 then go a ls st M else go (pc + 3) ls st M) := by
  show JKr _ _ _ _ _ _ (jbr (decide (¬ x = 0)) _ _ _ _ _) = _
  unfold jbr
  by_cases h : ¬ x = 0
  · rw [if_pos (decide_eq_true h), if_pos h]; rfl
  · rw [if_neg (by simpa using h), if_neg h]; rfl
theorem K_ic_ne {mi l a b w pc : Nat} {ls st : List JV} {M : JM} {P : JO → JM → Prop} {go : Nat → List JV → List JV → JM → Prop} {n x y : Int} : JK mi (some (.if_icmp .ne n, l, a, b, w)) pc ls (.inl y :: .inl x :: st) M P go = (if ¬ x = y then go a ls st M else go (pc + 3) ls st M) := by
  show JKr _ _ _ _ _ _ (jbr (decide (¬ x = y)) _ _ _ _ _) = _
  unfold jbr
  by_cases h : ¬ x = y
  · rw [if_pos (decide_eq_true h), if_pos h]; rfl
  · rw [if_neg (by simpa using h), if_neg h]; rfl
theorem K_if_lt {mi l a b w pc : Nat} {ls st : List JV} {M : JM} {P : JO → JM → Prop} {go : Nat → List JV → List JV → JM → Prop} {n x : Int} : JK mi (some (.ifCond .lt n, l, a, b, w)) pc ls (.inl x :: st) M P go = (if x < 0 then go a ls st M else go (pc + 3) ls st M) := by
  show JKr _ _ _ _ _ _ (jbr (decide (x < 0)) _ _ _ _ _) = _
  unfold jbr
  by_cases h : x < 0
  · rw [if_pos (decide_eq_true h), if_pos h]; rfl
  · rw [if_neg (by simpa using h), if_neg h]; rfl
theorem K_ic_lt {mi l a b w pc : Nat} {ls st : List JV} {M : JM} {P : JO → JM → Prop} {go : Nat → List JV → List JV → JM → Prop} {n x y : Int} : JK mi (some (.if_icmp .lt n, l, a, b, w)) pc ls (.inl y :: .inl x :: st) M P go = (if x < y then go a ls st M else go (pc + 3) ls st M) := by
  show JKr _ _ _ _ _ _ (jbr (decide (x < y)) _ _ _ _ _) = _
  unfold jbr
  by_cases h : x < y
  · rw [if_pos (decide_eq_true h), if_pos h]; rfl
  · rw [if_neg (by simpa using h), if_neg h]; rfl
theorem K_if_ge {mi l a b w pc : Nat} {ls st : List JV} {M : JM} {P : JO → JM → Prop} {go : Nat → List JV → List JV → JM → Prop} {n x : Int} : JK mi (some (.ifCond .ge n, l, a, b, w)) pc ls (.inl x :: st) M P go = (if 0 ≤ x then go a ls st M else go (pc + 3) ls st M) := by
  show JKr _ _ _ _ _ _ (jbr (decide (0 ≤ x)) _ _ _ _ _) = _
  unfold jbr
  by_cases h : 0 ≤ x
  · rw [if_pos (decide_eq_true h), if_pos h]; rfl
  · rw [if_neg (by simpa using h), if_neg h]; rfl
theorem K_ic_ge {mi l a b w pc : Nat} {ls st : List JV} {M : JM} {P : JO → JM → Prop} {go : Nat → List JV → List JV → JM → Prop} {n x y : Int} : JK mi (some (.if_icmp .ge n, l, a, b, w)) pc ls (.inl y :: .inl x :: st) M P go = (if y ≤ x then go a ls st M else go (pc + 3) ls st M) := by
  show JKr _ _ _ _ _ _ (jbr (decide (y ≤ x)) _ _ _ _ _) = _
  unfold jbr
  by_cases h : y ≤ x
  · rw [if_pos (decide_eq_true h), if_pos h]; rfl
  · rw [if_neg (by simpa using h), if_neg h]; rfl
theorem K_if_gt {mi l a b w pc : Nat} {ls st : List JV} {M : JM} {P : JO → JM → Prop} {go : Nat → List JV → List JV → JM → Prop} {n x : Int} : JK mi (some (.ifCond .gt n, l, a, b, w)) pc ls (.inl x :: st) M P go = (if 0 < x then go a ls st M else go (pc + 3) ls st M) := by
  show JKr _ _ _ _ _ _ (jbr (decide (0 < x)) _ _ _ _ _) = _
  unfold jbr
  by_cases h : 0 < x
  · rw [if_pos (decide_eq_true h), if_pos h]; rfl
  · rw [if_neg (by simpa using h), if_neg h]; rfl
theorem K_ic_gt {mi l a b w pc : Nat} {ls st : List JV} {M : JM} {P : JO → JM → Prop} {go : Nat → List JV → List JV → JM → Prop} {n x y : Int} : JK mi (some (.if_icmp .gt n, l, a, b, w)) pc ls (.inl y :: .inl x :: st) M P go = (if y < x then go a ls st M else go (pc + 3) ls st M) := by
  show JKr _ _ _ _ _ _ (jbr (decide (y < x)) _ _ _ _ _) = _
  unfold jbr
  by_cases h : y < x
  · rw [if_pos (decide_eq_true h), if_pos h]; rfl
  · rw [if_neg (by simpa using h), if_neg h]; rfl
theorem K_if_le {mi l a b w pc : Nat} {ls st : List JV} {M : JM} {P : JO → JM → Prop} {go : Nat → List JV → List JV → JM → Prop} {n x : Int} : JK mi (some (.ifCond .le n, l, a, b, w)) pc ls (.inl x :: st) M P go = (if x ≤ 0 then go a ls st M else go (pc + 3) ls st M) := by
  show JKr _ _ _ _ _ _ (jbr (decide (x ≤ 0)) _ _ _ _ _) = _
  unfold jbr
  by_cases h : x ≤ 0
  · rw [if_pos (decide_eq_true h), if_pos h]; rfl
  · rw [if_neg (by simpa using h), if_neg h]; rfl
theorem K_ic_le {mi l a b w pc : Nat} {ls st : List JV} {M : JM} {P : JO → JM → Prop} {go : Nat → List JV → List JV → JM → Prop} {n x y : Int} : JK mi (some (.if_icmp .le n, l, a, b, w)) pc ls (.inl y :: .inl x :: st) M P go = (if x ≤ y then go a ls st M else go (pc + 3) ls st M) := by
  show JKr _ _ _ _ _ _ (jbr (decide (x ≤ y)) _ _ _ _ _) = _
  unfold jbr
  by_cases h : x ≤ y
  · rw [if_pos (decide_eq_true h), if_pos h]; rfl
  · rw [if_neg (by simpa using h), if_neg h]; rfl
theorem K_ifnull {mi l a b w pc : Nat} {ls st : List JV} {M : JM} {P : JO → JM → Prop} {go : Nat → List JV → List JV → JM → Prop} {n : Int} {x : Nat} : JK mi (some (.ifnull n, l, a, b, w)) pc ls (.inr (.inl x) :: st) M P go = (go (pc + 3) ls st M) := rfl
theorem K_ifnonnull {mi l a b w pc : Nat} {ls st : List JV} {M : JM} {P : JO → JM → Prop} {go : Nat → List JV → List JV → JM → Prop} {n : Int} {x : Nat} : JK mi (some (.ifnonnull n, l, a, b, w)) pc ls (.inr (.inl x) :: st) M P go = (go a ls st M) := rfl
theorem K_getfield {mi l a b w pc : Nat} {ls st : List JV} {M : JM} {P : JO → JM → Prop} {go : Nat → List JV → List JV → JM → Prop} {n i : Nat} : JK mi (some (.getfield n, l, a, b, w)) pc ls (.inr (.inl i) :: st) M P go = (if a = 50 then (if 2000000 ≤ i ∧ i < 2000007 then go (pc + 3) ls ((if b = 0 then jR (i + 1000000) else jI 0) :: st) M else False) else K_g (jsh M i) i a b (go (pc + 3) ls (jget M i b :: st) M)) := by
  refine Kr_if.trans ?_
  split
  · exact Kr_if
  · unfold K_g
    cases jsh M i with
    | none => rfl
    | some q => exact Kr_if
theorem K_putfield {mi l a b w pc : Nat} {ls st : List JV} {M : JM} {P : JO → JM → Prop} {go : Nat → List JV → List JV → JM → Prop} {n i : Nat} {v : JV} : JK mi (some (.putfield n, l, a, b, w)) pc ls (v :: .inr (.inl i) :: st) M P go = (K_p (jsh M i) i a b v (go (pc + 3) ls st (jset M i b v))) := by
  show JKr _ _ _ _ _ _ (match jsh M i with | some (t, n) => if i < 1000000 ∧ t = a % 100 ∧ b < n ∧ jfit (a / 100) v = true then jN (pc + 3) ls st (jset M i b v) else none | none => none) = _
  unfold K_p
  cases jsh M i with
  | none => rfl
  | some q => exact Kr_if
theorem K_arraylength {mi l a b w pc : Nat} {ls st : List JV} {M : JM} {P : JO → JM → Prop} {go : Nat → List JV → List JV → JM → Prop} {i : Nat} : JK mi (some (.arraylength, l, a, b, w)) pc ls (.inr (.inl i) :: st) M P go = (K_l (jlen M i) (go (pc + 1) ls (.inl ((((jlen M i).getD 0 : Nat)) : Int) :: st) M)) := by
  show JKr _ _ _ _ _ _ (match jlen M i with | some n => if n < 2147483648 then jN (pc + 1) ls (jI n :: st) M else none | none => none) = _
  unfold K_l
  cases jlen M i with
  | none => rfl
  | some q => exact Kr_if
theorem K_iaload {mi l a b w pc : Nat} {ls st : List JV} {M : JM} {P : JO → JM → Prop} {go : Nat → List JV → List JV → JM → Prop} {i : Nat} {k : Int} : JK mi (some (.iaload, l, a, b, w)) pc ls (.inl k :: .inr (.inl i) :: st) M P go = (if i = 1000000 then (if 0 ≤ k ∧ k < jL M then go (pc + 1) ls (.inl (jxs M k.toNat) :: st) M else False) else K_a (jsh M i) 100 i k (go (pc + 1) ls (jget M i k.toNat :: st) M)) := by
  refine Kr_if.trans ?_
  split
  · exact Kr_if
  · exact Kr_rd
theorem K_baload {mi l a b w pc : Nat} {ls st : List JV} {M : JM} {P : JO → JM → Prop} {go : Nat → List JV → List JV → JM → Prop} {i : Nat} {k : Int} : JK mi (some (.baload, l, a, b, w)) pc ls (.inl k :: .inr (.inl i) :: st) M P go = (if 3000000 ≤ i ∧ i < 3000007 then (if 0 ≤ k ∧ k.toNat < (jlit (i - 3000000)).length then go (pc + 1) ls (.inl ((jlit (i - 3000000)).getD k.toNat 0) :: st) M else False) else K_a (jsh M i) (if jtag M i = 101 then 101 else 102) i k (go (pc + 1) ls (jget M i k.toNat :: st) M)) := by
  refine Kr_if.trans ?_
  split
  · exact Kr_if
  · exact Kr_rd
theorem K_laload {mi l a b w pc : Nat} {ls st : List JV} {M : JM} {P : JO → JM → Prop} {go : Nat → List JV → List JV → JM → Prop} {i : Nat} {k : Int} : JK mi (some (.laload, l, a, b, w)) pc ls (.inl k :: .inr (.inl i) :: st) M P go = (K_a (jsh M i) 103 i k (go (pc + 1) ls (jget M i k.toNat :: st) M)) := Kr_rd
theorem K_daload {mi l a b w pc : Nat} {ls st : List JV} {M : JM} {P : JO → JM → Prop} {go : Nat → List JV → List JV → JM → Prop} {i : Nat} {k : Int} : JK mi (some (.daload, l, a, b, w)) pc ls (.inl k :: .inr (.inl i) :: st) M P go = (K_a (jsh M i) 104 i k (go (pc + 1) ls (jget M i k.toNat :: st) M)) := Kr_rd
theorem K_aaload {mi l a b w pc : Nat} {ls st : List JV} {M : JM} {P : JO → JM → Prop} {go : Nat → List JV → List JV → JM → Prop} {i : Nat} {k : Int} : JK mi (some (.aaload, l, a, b, w)) pc ls (.inl k :: .inr (.inl i) :: st) M P go = (if 105 ≤ jtag M i then K_a (jsh M i) (jtag M i) i k (go (pc + 1) ls (jget M i k.toNat :: st) M) else False) := by
  refine Kr_if.trans ?_
  split
  · exact Kr_rd
  · rfl
theorem K_iastore {mi l a b w pc : Nat} {ls st : List JV} {M : JM} {P : JO → JM → Prop} {go : Nat → List JV → List JV → JM → Prop} {i : Nat} {k z : Int} : JK mi (some (.iastore, l, a, b, w)) pc ls (.inl z :: .inl k :: .inr (.inl i) :: st) M P go = (K_a (jsh M i) 100 i k (go (pc + 1) ls st (jset M i k.toNat (.inl z)))) := Kr_wr
theorem K_bastore {mi l a b w pc : Nat} {ls st : List JV} {M : JM} {P : JO → JM → Prop} {go : Nat → List JV → List JV → JM → Prop} {i : Nat} {k z : Int} : JK mi (some (.bastore, l, a, b, w)) pc ls (.inl z :: .inl k :: .inr (.inl i) :: st) M P go = (if jtag M i = 101 then K_a (jsh M i) 101 i k (go (pc + 1) ls st (jset M i k.toNat (.inl (jb8 z)))) else if z = 0 ∨ z = 1 then K_a (jsh M i) 102 i k (go (pc + 1) ls st (jset M i k.toNat (.inl z))) else False) := by
  refine Kr_if.trans ?_
  split
  · exact Kr_wr
  · refine Kr_if.trans ?_
    split
    · exact Kr_wr
    · rfl
theorem K_lastore {mi l a b w pc : Nat} {ls st : List JV} {M : JM} {P : JO → JM → Prop} {go : Nat → List JV → List JV → JM → Prop} {i : Nat} {k : Int} {z : Int64} : JK mi (some (.lastore, l, a, b, w)) pc ls (.inr (.inr (.long z)) :: .inl k :: .inr (.inl i) :: st) M P go = (K_a (jsh M i) 103 i k (go (pc + 1) ls st (jset M i k.toNat (.inr (.inr (.long z)))))) := Kr_wr
theorem K_dastore {mi l a b w pc : Nat} {ls st : List JV} {M : JM} {P : JO → JM → Prop} {go : Nat → List JV → List JV → JM → Prop} {i : Nat} {k : Int} {z : UInt64} : JK mi (some (.dastore, l, a, b, w)) pc ls (.inr (.inr (.double z)) :: .inl k :: .inr (.inl i) :: st) M P go = (K_a (jsh M i) 104 i k (go (pc + 1) ls st (jset M i k.toNat (.inr (.inr (.double z)))))) := Kr_wr
theorem K_aastore {mi l a b w pc : Nat} {ls st : List JV} {M : JM} {P : JO → JM → Prop} {go : Nat → List JV → List JV → JM → Prop} {i j : Nat} {k : Int} : JK mi (some (.aastore, l, a, b, w)) pc ls (.inr (.inl j) :: .inl k :: .inr (.inl i) :: st) M P go = (if jtag M i = 105 + jtag M j ∧ jtag M j < 50 then K_a (jsh M i) (jtag M i) i k (go (pc + 1) ls st (jset M i k.toNat (.inr (.inl j)))) else False) := by
  refine Kr_if.trans ?_
  split
  · exact Kr_wr
  · rfl
theorem K_new {mi l a b w pc : Nat} {ls st : List JV} {M : JM} {P : JO → JM → Prop} {go : Nat → List JV → List JV → JM → Prop} {n : Nat} : JK mi (some (.new n, l, a, b, w)) pc ls (st) M P go = (if a < 100 then (if jclean M = true ∧ M.1.length < 1000000 then go (pc + 3) ls (jR M.1.length :: st) (jpush M a (jfields a).length (jdef a)) else False) else if st = [] then P (.inr (a - 100)) (jthrow M) else False) := by
  refine Kr_if.trans ?_
  split
  · exact Kr_if
  · exact Kr_if
theorem K_newarray {mi l a b w pc : Nat} {ls st : List JV} {M : JM} {P : JO → JM → Prop} {go : Nat → List JV → List JV → JM → Prop} {n : ArrayType} {z : Int} : JK mi (some (.newarray n, l, a, b, w)) pc ls (.inl z :: st) M P go = (if jclean M = true ∧ M.1.length < 1000000 ∧ 0 ≤ z ∧ z < 60000000 then go (pc + 2) ls (jR M.1.length :: st) (jpush M a z.toNat (fun _ => if a = 103 then jX (.long 0) else if a = 104 then jX (.double 0) else jI 0)) else False) := Kr_if
theorem K_anewarray {mi l a b w pc : Nat} {ls st : List JV} {M : JM} {P : JO → JM → Prop} {go : Nat → List JV → List JV → JM → Prop} {n : Nat} {z : Int} : JK mi (some (.anewarray n, l, a, b, w)) pc ls (.inl z :: st) M P go = (if jclean M = true ∧ M.1.length < 1000000 ∧ 0 ≤ z ∧ z < 60000000 then go (pc + 3) ls (jR M.1.length :: st) (jpush M a z.toNat (fun _ => jX .null)) else False) := Kr_if
theorem K_ireturn {mi l a b w pc : Nat} {ls : List JV} {M : JM} {P : JO → JM → Prop} {go : Nat → List JV → List JV → JM → Prop} {z : Int} : JK mi (some (.ireturn, l, a, b, w)) pc ls ([.inl z]) M P go = (if jret a z = true then P (.inl (some (.inl z))) M else False) := Kr_if
theorem K_areturn {mi l a b w pc : Nat} {ls : List JV} {M : JM} {P : JO → JM → Prop} {go : Nat → List JV → List JV → JM → Prop} {z : Nat} : JK mi (some (.areturn, l, a, b, w)) pc ls ([.inr (.inl z)]) M P go = (P (.inl (some (.inr (.inl z)))) M) := rfl
theorem K_freturn {mi l a b w pc : Nat} {ls : List JV} {M : JM} {P : JO → JM → Prop} {go : Nat → List JV → List JV → JM → Prop} {z : UInt32} : JK mi (some (.freturn, l, a, b, w)) pc ls ([.inr (.inr (.float z))]) M P go = (P (.inl (some (.inr (.inr (.float z))))) M) := rfl
theorem K_dreturn {mi l a b w pc : Nat} {ls : List JV} {M : JM} {P : JO → JM → Prop} {go : Nat → List JV → List JV → JM → Prop} {z : UInt64} : JK mi (some (.dreturn, l, a, b, w)) pc ls ([.inr (.inr (.double z))]) M P go = (P (.inl (some (.inr (.inr (.double z))))) M) := rfl
theorem K_return {mi l a b w pc : Nat} {ls : List JV} {M : JM} {P : JO → JM → Prop} {go : Nat → List JV → List JV → JM → Prop}  : JK mi (some (.return_, l, a, b, w)) pc ls ([]) M P go = (P (.inl none) M) := rfl
theorem K_nop {mi l a b w pc : Nat} {st : List JV} {M : JM} {P : JO → JM → Prop} {go : Nat → List JV → List JV → JM → Prop} {k n : Int} : JK mi (some (.nop, l, a, b, w)) pc [.inl k, .inl n] st M P go = (if 0 ≤ k ∧ k < n then P (.inl none) M else False) := Kr_if
