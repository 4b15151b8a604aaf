/-! THE CLASS: settled places -/
def stl (g : Nat → Int) (P : List Int) (R : Nat → Nat) (q : Nat) : Bool := if R q = q then (kids P (q + 1) (ar (P.getD q 0))).all fun x => decide (¬ g (R x) = 0) else decide (¬ g (R q) = 0)
section H76
variable {μ : Mem} {v0 d : Nat} {P : List Int} {par R dp : Nat → Nat}
theorem c_isSettled {v : Int} {i : Nat} {Q : Bool → Prop} (hv : v = (i : Int)) (hi : i < 160) (k : Q (decide (¬ μ (v0 + 4) i = 0))) : d_Unifier_isSettled v0 v μ Q := by
  unfold d_Unifier_isSettled
  rw [if_neg (by omega), if_pos (by omega), show v.toNat = i by omega]
  refine ⟨by omega, ?_⟩
  by_cases e : μ (v0 + 4) i = 0
  · rw [if_pos e]
    rw [decide_eq_false (fun q => q e)] at k
    exact k
  · rw [if_neg e]
    rw [decide_eq_true e] at k
    exact k
theorem c_settles {v : Int} {q : Nat} {Q : Bool → Prop} (hv : v = (q : Int)) (hC : CPl μ v0 P) (hw : wl P d = true) (hP : P.length ≤ 160) (h32 : ∀ c, c ∈ P → c < 32) (hp : Par μ v0 P.length par) (hu : UF P.length par R dp) (hq : q < P.length) (k : Q (stl (μ (v0 + 4)) P R q)) : d_Unifier_settles v0 v μ Q := by
  unfold d_Unifier_settles
  have hRq := hu.1 q hq
  refine c_rootV hv hu hp hP hq fun w (hw7 : w = ((R q : Nat) : Int)) => ?_
  unfold stl at k
  by_cases e : R q = q
  · rw [if_pos (by omega)]
    rw [if_pos e] at k
    refine c_ulabel hv hC hP hq ?_
    have hc32 := h32 _ (gm0 hq)
    have e1 : wr (v + 1) = ((q + 1 : Nat) : Int) := by rw [wr_id (by omega) (by omega)]; omega
    rw [e1]
    refine c_arityOf hc32 ?_
    have har := ar_le (P.getD q 0)
    have hP1 : Pk P (q + 1) (ar (P.getD q 0)) := Pk.args hw hq
    generalize ar (P.getD q 0) = n0 at *
    refine i_Unifier_settles_l31 (Inv := fun v3 v4 => ∃ p n : Nat, v3 = p ∧ v4 = n ∧ n ≤ 3 ∧ Pk P p n ∧ (kids P (q + 1) n0).all (fun x => decide (¬ μ (v0 + 4) (R x) = 0)) = (kids P p n).all (fun x => decide (¬ μ (v0 + 4) (R x) = 0))) (fun _ v4 => v4.toNat) ?_ _ _ ⟨q + 1, n0, rfl, rfl, har, hP1, rfl⟩
    rintro v3 _ ⟨p, n, h3, rfl, hn, g1, g2⟩ W hW
    unfold d_Unifier_settles_b31
    cases n with
    | zero =>
      rw [if_neg (by omega)]
      rw [g2] at k
      exact k
    | succ n =>
      rw [if_pos (by omega)]
      have hpN := g1.lt
      refine c_rootV h3 hu hp hP hpN fun w8 (h8 : w8 = ((R p : Nat) : Int)) => ?_
      have hRp := (hu.1 p hpN).1
      refine c_isSettled h8 (by omega) ?_
      rw [kids, List.all_cons] at g2
      by_cases s : μ (v0 + 4) (R p) = 0
      · rw [decide_eq_false (fun q => q s), if_neg (by decide)]
        rw [decide_eq_false (fun q => q s), Bool.false_and] at g2
        rw [g2] at k
        exact k
      · rw [decide_eq_true s, if_pos rfl]
        rw [decide_eq_true s, Bool.true_and] at g2
        refine c_uend h3 hC hP hpN ?_
        rw [wr_id (by omega) (by omega)]
        exact hW _ _ ⟨en P p, n, rfl, by omega, by omega, g1.next, g2⟩ (by omega)
  · rw [if_neg (by omega)]
    rw [if_neg e] at k
    exact c_isSettled hw7 (by omega) k
end H76

