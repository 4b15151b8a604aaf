/-! THE CLASS'S POOL: its small parts -/
def CPl (μ : Mem) (v0 : Nat) (P : List Int) : Prop := μ v0 0 = (P.length : Int) ∧ ∀ i, i < P.length → μ (v0 + 1) i = P.getD i 0 ∧ μ (v0 + 3) i = ((en P i : Nat) : Int)
def NK (μ : Mem) (v0 : Nat) (K : List Nat) : Prop := μ v0 7 = (K.length : Int) ∧ Nst (μ (v0 + 6)) K
section S76
variable {μ : Mem} {v0 : Nat} {P : List Int} {K : List Nat}
theorem c_upush {v : Int} {x : Nat} {Q : Mem → Prop} (hv : v = (x : Int)) (h : NK μ v0 K) (hl : K.length < 962) (k : ∀ μ', NK μ' v0 (x :: K) → (∀ b, b ≠ v0 → b ≠ v0 + 6 → μ' b = μ b) → (∀ j, j ≠ 7 → μ' v0 j = μ v0 j) → Q μ') : d_Unifier_push v0 v μ Q := by
  subst hv
  unfold d_Unifier_push
  have e1 : mup μ (v0 + 6) (μ v0 7).toNat (x : Int) v0 = μ v0 := mup_r (by omega)
  rw [e1, h.1, Int.toNat_natCast, if_neg (by omega), if_pos (by omega), wr_id (by omega) (by omega)]
  refine ⟨by omega, k _ ⟨?_, ?_⟩ (fun b h1 h2 => by rw [mup_r h1, mup_r h2]) fun j hj => by rw [mup_k hj, mup_r (by omega)]⟩
  · rw [mup_s, List.length_cons]
    omega
  · refine h.2.push (fun i hi => ?_) ?_
    · rw [mup_r (by omega), mup_k (by omega)]
    · rw [mup_r (by omega), mup_s]
theorem c_upop {x : Nat} {Q : Int → Mem → Prop} (h : NK μ v0 (x :: K)) (hl : K.length < 962) (k : ∀ μ', NK μ' v0 K → (∀ b, b ≠ v0 → μ' b = μ b) → (∀ j, j ≠ 7 → μ' v0 j = μ v0 j) → Q (x : Int) μ') : d_Unifier_pop v0 μ Q := by
  unfold d_Unifier_pop
  have h1 := h.1
  rw [List.length_cons] at h1
  rw [h1, if_pos (by omega), if_neg (by omega), mup_s]
  have e0 : wr (((K.length + 1 : Nat) : Int) - 1) = (K.length : Nat) := by rw [wr_id (by omega) (by omega)]; omega
  rw [e0, Int.toNat_natCast, mup_r (by omega), h.2.top]
  exact ⟨by omega, k _ ⟨mup_s, by rw [mup_r (by omega)]; exact h.2.pop⟩ (fun b hb => mup_r hb) fun j hj => mup_k hj⟩
theorem c_ulabel {v : Int} {i : Nat} {Q : Int → Prop} (hv : v = (i : Int)) (h : CPl μ v0 P) (hP : P.length ≤ 160) (hi : i < P.length) (k : Q (P.getD i 0)) : d_Unifier_label v0 v μ Q := by
  unfold d_Unifier_label
  rw [if_neg (by omega), if_pos (by omega), show v.toNat = i by omega, (h.2 i hi).1]
  exact ⟨by omega, k⟩
theorem c_uend {v : Int} {i : Nat} {Q : Int → Prop} (hv : v = (i : Int)) (h : CPl μ v0 P) (hP : P.length ≤ 160) (hi : i < P.length) (k : Q ((en P i : Nat) : Int)) : d_Unifier_end v0 v μ Q := by
  unfold d_Unifier_end
  rw [if_neg (by omega), if_pos (by omega), show v.toNat = i by omega, (h.2 i hi).2]
  exact ⟨by omega, k⟩
theorem c_uhang {v w : Int} {i j : Nat} {N : Nat} {par : Nat → Nat} {Q : Mem → Prop} (hv : v = (i : Int)) (hw : w = (j : Int)) (hp : Par μ v0 N par) (hN : N ≤ 160) (hi : i < N) (k : ∀ μ', Par μ' v0 N (upN par i j) → (∀ b, b ≠ v0 + 2 → μ' b = μ b) → Q μ') : d_Unifier_hang v0 v w μ Q := by
  unfold d_Unifier_hang
  subst hw
  rw [if_neg (by omega), if_pos (by omega), show v.toNat = i by omega]
  refine ⟨by omega, k _ (fun x hx => ?_) fun b hb => mup_r hb⟩
  unfold upN
  by_cases e : x = i
  · rw [e, mup_s, if_pos rfl]
  · rw [mup_k e, if_neg e]
    exact hp x hx
theorem CPl.fr {μ' : Mem} (h : CPl μ v0 P) (h0 : μ' v0 0 = μ v0 0) (h1 : μ' (v0 + 1) = μ (v0 + 1)) (h3 : μ' (v0 + 3) = μ (v0 + 3)) : CPl μ' v0 P := by
  unfold CPl
  rw [h0, h1, h3]
  exact h
theorem Par.fr {μ' : Mem} {N : Nat} {par : Nat → Nat} (h : Par μ v0 N par) (h2 : μ' (v0 + 2) = μ (v0 + 2)) : Par μ' v0 N par := by
  unfold Par
  rw [h2]
  exact h
end S76

