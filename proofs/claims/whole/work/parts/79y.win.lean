/-! windows into the law's code -/
theorem look_app {pc b : Nat} {x : JI} {l1 l2 : List (Nat × JI)} (h1 : l1.all (fun p => Nat.blt p.1 b) = true) (h2 : l2.all (fun p => Nat.ble b p.1) = true) (h : l2.lookup pc = some x) : (l1 ++ l2).lookup pc = some x := by
  have hb : b ≤ pc := by
    clear h1
    induction l2 with
    | nil => cases h
    | cons a r ih =>
      rw [List.all_cons, Bool.and_eq_true] at h2
      obtain ⟨k, v⟩ := a
      rw [List.lookup_cons] at h
      by_cases q : pc == k
      · have e : pc = k := by simpa using q
        have := Nat.le_of_ble_eq_true h2.1
        dsimp only at this
        omega
      · have q2 : (pc == k) = false := by simpa using q
        rw [q2] at h
        exact ih h2.2 h
  clear h2
  induction l1 with
  | nil => exact h
  | cons a r ih =>
    rw [List.all_cons, Bool.and_eq_true] at h1
    obtain ⟨k, v⟩ := a
    have hk : k < b := by
      have := h1.1
      dsimp only at this
      rw [Nat.blt_eq] at this; exact this
    rw [List.cons_append, List.lookup_cons]
    have q2 : (pc == k) = false := by
      rw [beq_eq_false_iff_ne]
      omega
    rw [q2]
    exact ih h1.2
def KW (l : List (Nat × JI)) : Prop := ∀ (pc : Nat) {x : JI}, l.lookup pc = some x → jcode 428 pc = some x
theorem KW_cond {c : Bool} {a b : List (Nat × JI)} (ha : KW a) (hb : KW b) : KW (cond c a b) := by cases c with
  | false => exact hb
  | true => exact ha
def sx_22 : List (Nat × JI) := cd_law_22
def sx_21 : List (Nat × JI) := cd_law_21 ++ sx_22
def sx_20 : List (Nat × JI) := cd_law_20 ++ sx_21
def sx_19 : List (Nat × JI) := cd_law_19 ++ sx_20
def sx_18 : List (Nat × JI) := cd_law_18 ++ sx_19
def sx_17 : List (Nat × JI) := cd_law_17 ++ sx_18
def sx_16 : List (Nat × JI) := cd_law_16 ++ sx_17
def sx_15 : List (Nat × JI) := cd_law_15 ++ sx_16
def sx_14 : List (Nat × JI) := cd_law_14 ++ sx_15
def sx_13 : List (Nat × JI) := cd_law_13 ++ sx_14
def sx_12 : List (Nat × JI) := cd_law_12 ++ sx_13
def sx_11 : List (Nat × JI) := cd_law_11 ++ sx_12
def sx_10 : List (Nat × JI) := cd_law_10 ++ sx_11
def sx_9 : List (Nat × JI) := cd_law_9 ++ sx_10
def sx_8 : List (Nat × JI) := cd_law_8 ++ sx_9
def sx_7 : List (Nat × JI) := cd_law_7 ++ sx_8
def sx_6 : List (Nat × JI) := cd_law_6 ++ sx_7
def sx_5 : List (Nat × JI) := cd_law_5 ++ sx_6
def sx_4 : List (Nat × JI) := cd_law_4 ++ sx_5
def sx_3 : List (Nat × JI) := cd_law_3 ++ sx_4
def sx_2 : List (Nat × JI) := cd_law_2 ++ sx_3
def sx_1 : List (Nat × JI) := cd_law_1 ++ sx_2
theorem sx_e : cd_428 = cd_law_0 ++ sx_1 := rfl
theorem kw_0 : KW cd_428 := fun _ _ h => h
theorem kw_1 : KW sx_1 := fun pc _ h => kw_0 pc (look_app (l1 := cd_law_0) (l2 := sx_1) (b := 405) (by decide +kernel) (by decide +kernel) h)
theorem kw_2 : KW sx_2 := fun pc _ h => kw_1 pc (look_app (l1 := cd_law_1) (l2 := sx_2) (b := 577) (by decide +kernel) (by decide +kernel) h)
theorem kw_3 : KW sx_3 := fun pc _ h => kw_2 pc (look_app (l1 := cd_law_2) (l2 := sx_3) (b := 738) (by decide +kernel) (by decide +kernel) h)
theorem kw_4 : KW sx_4 := fun pc _ h => kw_3 pc (look_app (l1 := cd_law_3) (l2 := sx_4) (b := 898) (by decide +kernel) (by decide +kernel) h)
theorem kw_5 : KW sx_5 := fun pc _ h => kw_4 pc (look_app (l1 := cd_law_4) (l2 := sx_5) (b := 1063) (by decide +kernel) (by decide +kernel) h)
theorem kw_6 : KW sx_6 := fun pc _ h => kw_5 pc (look_app (l1 := cd_law_5) (l2 := sx_6) (b := 1229) (by decide +kernel) (by decide +kernel) h)
theorem kw_7 : KW sx_7 := fun pc _ h => kw_6 pc (look_app (l1 := cd_law_6) (l2 := sx_7) (b := 1383) (by decide +kernel) (by decide +kernel) h)
theorem kw_8 : KW sx_8 := fun pc _ h => kw_7 pc (look_app (l1 := cd_law_7) (l2 := sx_8) (b := 1540) (by decide +kernel) (by decide +kernel) h)
theorem kw_9 : KW sx_9 := fun pc _ h => kw_8 pc (look_app (l1 := cd_law_8) (l2 := sx_9) (b := 1701) (by decide +kernel) (by decide +kernel) h)
theorem kw_10 : KW sx_10 := fun pc _ h => kw_9 pc (look_app (l1 := cd_law_9) (l2 := sx_10) (b := 1855) (by decide +kernel) (by decide +kernel) h)
theorem kw_11 : KW sx_11 := fun pc _ h => kw_10 pc (look_app (l1 := cd_law_10) (l2 := sx_11) (b := 2015) (by decide +kernel) (by decide +kernel) h)
theorem kw_12 : KW sx_12 := fun pc _ h => kw_11 pc (look_app (l1 := cd_law_11) (l2 := sx_12) (b := 2185) (by decide +kernel) (by decide +kernel) h)
theorem kw_13 : KW sx_13 := fun pc _ h => kw_12 pc (look_app (l1 := cd_law_12) (l2 := sx_13) (b := 2342) (by decide +kernel) (by decide +kernel) h)
theorem kw_14 : KW sx_14 := fun pc _ h => kw_13 pc (look_app (l1 := cd_law_13) (l2 := sx_14) (b := 2499) (by decide +kernel) (by decide +kernel) h)
theorem kw_15 : KW sx_15 := fun pc _ h => kw_14 pc (look_app (l1 := cd_law_14) (l2 := sx_15) (b := 2661) (by decide +kernel) (by decide +kernel) h)
theorem kw_16 : KW sx_16 := fun pc _ h => kw_15 pc (look_app (l1 := cd_law_15) (l2 := sx_16) (b := 2828) (by decide +kernel) (by decide +kernel) h)
theorem kw_17 : KW sx_17 := fun pc _ h => kw_16 pc (look_app (l1 := cd_law_16) (l2 := sx_17) (b := 2988) (by decide +kernel) (by decide +kernel) h)
theorem kw_18 : KW sx_18 := fun pc _ h => kw_17 pc (look_app (l1 := cd_law_17) (l2 := sx_18) (b := 3142) (by decide +kernel) (by decide +kernel) h)
theorem kw_19 : KW sx_19 := fun pc _ h => kw_18 pc (look_app (l1 := cd_law_18) (l2 := sx_19) (b := 3300) (by decide +kernel) (by decide +kernel) h)
theorem kw_20 : KW sx_20 := fun pc _ h => kw_19 pc (look_app (l1 := cd_law_19) (l2 := sx_20) (b := 3451) (by decide +kernel) (by decide +kernel) h)
theorem kw_21 : KW sx_21 := fun pc _ h => kw_20 pc (look_app (l1 := cd_law_20) (l2 := sx_21) (b := 3602) (by decide +kernel) (by decide +kernel) h)
theorem kw_22 : KW sx_22 := fun pc _ h => kw_21 pc (look_app (l1 := cd_law_21) (l2 := sx_22) (b := 3768) (by decide +kernel) (by decide +kernel) h)
def win (pc : Nat) : List (Nat × JI) := cond (Nat.blt pc 2015) (cond (Nat.blt pc 1063) (cond (Nat.blt pc 577) (cond (Nat.blt pc 405) (cd_428) (sx_1)) (cond (Nat.blt pc 738) (sx_2) (cond (Nat.blt pc 898) (sx_3) (sx_4)))) (cond (Nat.blt pc 1540) (cond (Nat.blt pc 1229) (sx_5) (cond (Nat.blt pc 1383) (sx_6) (sx_7))) (cond (Nat.blt pc 1701) (sx_8) (cond (Nat.blt pc 1855) (sx_9) (sx_10))))) (cond (Nat.blt pc 2988) (cond (Nat.blt pc 2499) (cond (Nat.blt pc 2185) (sx_11) (cond (Nat.blt pc 2342) (sx_12) (sx_13))) (cond (Nat.blt pc 2661) (sx_14) (cond (Nat.blt pc 2828) (sx_15) (sx_16)))) (cond (Nat.blt pc 3451) (cond (Nat.blt pc 3142) (sx_17) (cond (Nat.blt pc 3300) (sx_18) (sx_19))) (cond (Nat.blt pc 3602) (sx_20) (cond (Nat.blt pc 3768) (sx_21) (sx_22)))))
theorem win_ok (pc : Nat) : KW (win pc) := KW_cond (KW_cond (KW_cond (KW_cond (kw_0) (kw_1)) (KW_cond (kw_2) (KW_cond (kw_3) (kw_4)))) (KW_cond (KW_cond (kw_5) (KW_cond (kw_6) (kw_7))) (KW_cond (kw_8) (KW_cond (kw_9) (kw_10))))) (KW_cond (KW_cond (KW_cond (kw_11) (KW_cond (kw_12) (kw_13))) (KW_cond (kw_14) (KW_cond (kw_15) (kw_16)))) (KW_cond (KW_cond (kw_17) (KW_cond (kw_18) (kw_19))) (KW_cond (kw_20) (KW_cond (kw_21) (kw_22)))))
theorem cw (pc : Nat) {x : JI} (h : (win pc).lookup pc = some x) : jcode 428 pc = some x := win_ok pc pc h
theorem L_psw {n pc pc1 : Nat} {ls st ls1 st1 : List JV} {M M1 : JM} {P : JO → JM → Prop} (h : psteps (win pc) n pc ls st M = some (pc1, ls1, st1, M1)) (k : JX 428 pc1 ls1 st1 M1 P) : JX 428 pc ls st M P := L_ps (win_ok pc) h k
