/-! the law's switch -/
def tsw (pc : Nat) (d lo hi : Int) (l0 : List Int) (x : Int) : Option Nat := if x < lo ∨ hi < x then (if 0 ≤ (pc : Int) + d then some ((pc : Int) + d).toNat else none) else match l0[(x - lo).toNat]? with
  | some o => if 0 ≤ (pc : Int) + o then some ((pc : Int) + o).toNat else none
  | none => none
theorem L_tsw {mi pc len a b w tgt : Nat} {d lo hi x : Int} {offs : Array Int} {l0 : List Int} {ls st : List JV} {M : JM} {P : JO → JM → Prop} (hc : jcode mi pc = some (.tableswitch d lo hi offs, len, a, b, w)) (hl : offs = l0.toArray) (ht : tsw pc d lo hi l0 x = some tgt) (h : JX mi tgt ls st M P) : JX mi pc ls (.inl x :: st) M P := by
  subst hl
  refine L_go hc ?_ h
  unfold tsw at ht
  show (if x < lo ∨ hi < x then _ else _) = _
  by_cases q : x < lo ∨ hi < x
  · rw [if_pos q] at ht ⊢
    by_cases q2 : 0 ≤ (pc : Int) + d
    · rw [if_pos q2] at ht ⊢
      cases ht
      rfl
    · rw [if_neg q2] at ht
      cases ht
  · rw [if_neg q] at ht ⊢
    rw [List.getElem?_toArray]
    cases ho : l0[(x - lo).toNat]? with
    | none =>
      rw [ho] at ht
      cases ht
    | some o =>
      rw [ho] at ht
      dsimp only at ht ⊢
      by_cases q2 : 0 ≤ (pc : Int) + o
      · rw [if_pos q2] at ht ⊢
        cases ht
        rfl
      · rw [if_neg q2] at ht
        cases ht
theorem tsw_d {x : Int} {l0 : List Int} (h0 : ¬ x = 0) (h1 : ¬ x = 1) (h2 : ¬ x = 2) (h3 : ¬ x = 3) (h4 : ¬ x = 4) (h5 : ¬ x = 5) (h6 : ¬ x = 6) (h7 : ¬ x = 7) (h8 : ¬ x = 8) (h9 : ¬ x = 9) (h10 : ¬ x = 10) (h11 : ¬ x = 11) (h12 : ¬ x = 12) (h13 : ¬ x = 13) (h14 : ¬ x = 14) (h15 : ¬ x = 15) (h16 : ¬ x = 16) (h17 : ¬ x = 17) (h18 : ¬ x = 18) (h19 : ¬ x = 19) (h20 : ¬ x = 20) (h21 : ¬ x = 21) (h22 : ¬ x = 22) (h23 : ¬ x = 23) (h24 : ¬ x = 24) (h25 : ¬ x = 25) (h26 : ¬ x = 26) (h27 : ¬ x = 27) (h28 : ¬ x = 28) (h29 : ¬ x = 29) (h30 : ¬ x = 30) (h31 : ¬ x = 31) (h32 : ¬ x = 32) (h33 : ¬ x = 33) (h34 : ¬ x = 34) (h35 : ¬ x = 35) (h36 : ¬ x = 36) (h37 : ¬ x = 37) (h38 : ¬ x = 38) (h39 : ¬ x = 39) (h40 : ¬ x = 40) (h41 : ¬ x = 41) (h42 : ¬ x = 42) (h43 : ¬ x = 43) (h44 : ¬ x = 44) (h45 : ¬ x = 45) (h46 : ¬ x = 46) (h47 : ¬ x = 47) (h48 : ¬ x = 48) (h49 : ¬ x = 49) (h50 : ¬ x = 50) (h51 : ¬ x = 51) (h52 : ¬ x = 52) (h53 : ¬ x = 53) (h54 : ¬ x = 54) (h55 : ¬ x = 55) (h56 : ¬ x = 56) (h57 : ¬ x = 57) (h58 : ¬ x = 58) (h59 : ¬ x = 59) (h60 : ¬ x = 60) (h61 : ¬ x = 61) (h62 : ¬ x = 62) : tsw 45 3868 0 62 l0 x = some 3913 := by
  unfold tsw
  rw [if_pos (by omega), if_pos (by decide)]
  rfl
