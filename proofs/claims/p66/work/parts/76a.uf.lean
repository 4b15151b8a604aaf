/-! THE CLASS'S POOL: classes of places -/
def nrt (R : Nat → Nat) (N : Nat) : Nat := smN (fun i => if R i = i then 1 else 0) N
/-- par: where a place hangs; R: its root; dp: how far below the root -/
def UF (N : Nat) (par R dp : Nat → Nat) : Prop := (∀ i, i < N → R i < N ∧ R (R i) = R i) ∧ (∀ i, i < N → par i < N ∧ R (par i) = R i) ∧ (∀ i, i < N → R i = i → par i = i ∧ dp i = 0) ∧ (∀ i, i < N → R i ≠ i → dp (par i) < dp i) ∧ ∀ i, i < N → dp i + nrt R N ≤ N + 1
theorem nrt_le (R : Nat → Nat) (N : Nat) : nrt R N ≤ N := by
  unfold nrt
  have := smN_le (f := fun i => if R i = i then 1 else 0) (m := 1) N fun i _ => by split <;> omega
  omega
theorem nrt_pos {R : Nat → Nat} {N i : Nat} (hi : i < N) (h : R i = i) : 1 ≤ nrt R N := by
  unfold nrt
  have := smN_lt (f := fun _ => 0) (g := fun i => if R i = i then 1 else 0) (j := i) N hi (fun _ _ => Nat.zero_le _) (by rw [if_pos h]; omega)
  omega
/-- x hangs below y -/
def upN (f : Nat → Nat) (x y : Nat) : Nat → Nat := fun i => if i = x then y else f i
def hgR (R : Nat → Nat) (x y : Nat) : Nat → Nat := fun i => if R i = x then y else R i
def hgD (R dp : Nat → Nat) (x : Nat) : Nat → Nat := fun i => if R i = x then dp i + 1 else dp i
theorem nrt_hg {R : Nat → Nat} {N x y : Nat} (hx : x < N) (hRx : R x = x) (hRy : R y = y) (hxy : x ≠ y) : nrt (hgR R x y) N + 1 = nrt R N := by
  unfold nrt
  refine smN_upd (j := x) N hx ?_ fun i hi => ?_
  · have h1 : ¬ hgR R x y x = x := by unfold hgR; rw [if_pos hRx]; exact fun e => hxy e.symm
    rw [if_neg h1, if_pos hRx]
  · unfold hgR
    by_cases e : R i = x
    · rw [if_pos e, e]
      by_cases k : y = i
      · rw [← k, hRy] at e
        exact absurd e.symm hxy
      · rw [if_neg k, if_neg (fun q => hi q.symm)]
    · rw [if_neg e]
theorem UF.hang {N : Nat} {par R dp : Nat → Nat} {x y : Nat} (h : UF N par R dp) (hx : x < N) (hy : y < N) (hRx : R x = x) (hRy : R y = y) (hxy : x ≠ y) : UF N (upN par x y) (hgR R x y) (hgD R dp x) := by
  obtain ⟨h1, h2, h3, h4, h5⟩ := h
  have hn := nrt_hg hx hRx hRy hxy
  have hRy' : hgR R x y y = y := by unfold hgR; rw [hRy, if_neg (fun e => hxy e.symm)]
  refine ⟨fun i hi => ?_, fun i hi => ?_, fun i hi e => ?_, fun i hi e => ?_, fun i hi => ?_⟩
  · have := h1 i hi
    by_cases k : R i = x
    · rw [show hgR R x y i = y from if_pos k]
      exact ⟨hy, hRy'⟩
    · rw [show hgR R x y i = R i from if_neg k]
      exact ⟨this.1, by unfold hgR; rw [this.2, if_neg k]⟩
  · unfold upN
    by_cases k : i = x
    · rw [if_pos k]
      refine ⟨hy, ?_⟩
      rw [hRy', k]
      unfold hgR
      rw [if_pos hRx]
    · rw [if_neg k]
      refine ⟨(h2 i hi).1, ?_⟩
      unfold hgR
      rw [(h2 i hi).2]
  · unfold hgR at e
    by_cases k : R i = x
    · rw [if_pos k] at e
      rw [← e, hRy] at k
      exact absurd k.symm hxy
    · rw [if_neg k] at e
      have := h3 i hi e
      unfold upN hgD
      rw [if_neg (fun q => k (by rw [q, hRx])), if_neg k]
      exact this
  · unfold upN hgD
    by_cases k : i = x
    · rw [if_pos k, hRy, if_neg (fun q => hxy q.symm), k, if_pos hRx, (h3 y hy hRy).2]
      omega
    · rw [if_neg k, (h2 i hi).2]
      by_cases m : R i = i
      · exfalso
        apply e
        unfold hgR
        rw [if_neg (fun q => k (by rw [← m, q])), m]
      · have := h4 i hi m
        split <;> omega
  · have := h5 i hi
    unfold hgD
    split <;> omega
section K76
variable {μ : Mem} {v0 N : Nat} {par R dp : Nat → Nat}
def Par (μ : Mem) (v0 N : Nat) (par : Nat → Nat) : Prop := ∀ i, i < N → μ (v0 + 2) i = ((par i : Nat) : Int)
theorem UF.dp_le (h : UF N par R dp) {i : Nat} (hi : i < N) : dp i ≤ N := by
  have h1 := h.1 i hi
  have h2 := nrt_pos h1.1 h1.2
  have := h.2.2.2.2 i hi
  omega
theorem c_root {v : Int} {i : Nat} {Q : Int → Prop} (hv : v = (i : Int)) (h : UF N par R dp) (hp : Par μ v0 N par) (hN : N ≤ 160) (hi : i < N) (k : Q ((R i : Nat) : Int)) : d_Unifier_root v0 v μ Q := by
  subst hv
  unfold d_Unifier_root
  have hd0 := h.dp_le hi
  refine i_Unifier_root_l4 (Inv := fun v2 v3 => 0 ≤ v3 ∧ ∃ j : Nat, v2 = j ∧ j < N ∧ R j = R i ∧ dp j + v3.toNat ≤ 160) (fun _ v3 => 161 - v3.toNat) ?_ _ 0 ⟨Int.le_refl _, i, rfl, hi, rfl, by have : (0 : Int).toNat = 0 := rfl; omega⟩
  rintro _ v3 ⟨h0, j, rfl, hj, hR, hd⟩ W hW
  unfold d_Unifier_root_b4
  have fin : R j = j → Q (j : Int) := fun e => by rw [← e, hR]; exact k
  have hpj := hp j hj
  by_cases ht : v3 < 160
  · rw [if_pos ht, if_neg (by omega), if_pos (by omega), Int.toNat_natCast, hpj]
    refine ⟨by omega, ?_⟩
    by_cases e : R j = j
    · rw [(h.2.2.1 j hj e).1, if_pos rfl]
      exact fin e
    · have h4 := h.2.2.2.1 j hj e
      have hne : ¬ ((par j : Nat) : Int) = (j : Int) := fun q => by
        have : par j = j := by omega
        rw [this] at h4
        omega
      rw [if_neg hne, wr_id (by omega) (by omega)]
      exact ⟨by omega, hW _ _ ⟨by omega, par j, rfl, (h.2.1 j hj).1, by rw [(h.2.1 j hj).2, hR], by omega⟩ (by omega)⟩
  · rw [if_neg ht]
    refine fin ?_
    by_cases e : R j = j
    · exact e
    · have := h.2.2.2.1 j hj e
      omega
end K76

