/-! the JDK's own methods do it -/
theorem str_tag {M : JM} {i : Nat} (h : i < 7) : jtag M (2000000 + i) = unt 15 := by
  rw [show unt 15 = 15 by decide +kernel]
  unfold jtag
  rw [if_neg (by omega), if_pos (by omega)]
theorem k_Math_max {v0 v1 : Int} {E : JE2} {M : JM} {μ : Mem} {Q : Int → Prop} (hM : Rl E M μ) (h : d_Math_max v0 v1 μ Q) : JX 6 0 (jargs 6 [jI v0, jI v1]) [] M (PO E (pQI μ Q) XN) := by
  unfold d_Math_max at h
  show JX 6 0 [jI v0, jI v1] [] M (PO E (pQI μ Q) XN)
  refine L_ps c6 (n := 2) (pc1 := 2) (ls1 := [jI v0, jI v1]) (st1 := [jI v1, jI v0]) rfl ?_
  refine L_br (p1 := 9) (p2 := 5) (c6 2 rfl) rfl jc_lt h (fun h => ?_) (fun h => ?_)
  · refine L_ps c6 (n := 1) (pc1 := 10) (ls1 := [jI v0, jI v1]) (st1 := [jI v1]) rfl ?_
    exact L_retI (c6 10 rfl) ⟨μ, hM, rfl, _, rfl, h⟩
  · refine L_ps c6 (n := 2) (pc1 := 10) (ls1 := [jI v0, jI v1]) (st1 := [jI v0]) rfl ?_
    exact L_retI (c6 10 rfl) ⟨μ, hM, rfl, _, rfl, h⟩
theorem k_Math_min {v0 v1 : Int} {E : JE2} {M : JM} {μ : Mem} {Q : Int → Prop} (hM : Rl E M μ) (h : d_Math_min v0 v1 μ Q) : JX 72 0 (jargs 72 [jI v0, jI v1]) [] M (PO E (pQI μ Q) XN) := by
  unfold d_Math_min at h
  show JX 72 0 [jI v0, jI v1] [] M (PO E (pQI μ Q) XN)
  refine L_ps c72 (n := 2) (pc1 := 2) (ls1 := [jI v0, jI v1]) (st1 := [jI v1, jI v0]) rfl ?_
  refine L_br (p1 := 9) (p2 := 5) (c72 2 rfl) rfl jc_gt h (fun h => ?_) (fun h => ?_)
  · refine L_ps c72 (n := 1) (pc1 := 10) (ls1 := [jI v0, jI v1]) (st1 := [jI v1]) rfl ?_
    exact L_retI (c72 10 rfl) ⟨μ, hM, rfl, _, rfl, h⟩
  · refine L_ps c72 (n := 2) (pc1 := 10) (ls1 := [jI v0, jI v1]) (st1 := [jI v0]) rfl ?_
    exact L_retI (c72 10 rfl) ⟨μ, hM, rfl, _, rfl, h⟩
theorem run_len {M : JM} : ∀ i : Nat, i < 7 → jrun 40 20 0 [jR (2000000 + i)] [] M = some (.inl (some (.inl ((jlit i).length : Int))), M)
  | 0, _ => rfl
  | 1, _ => rfl
  | 2, _ => rfl
  | 3, _ => rfl
  | 4, _ => rfl
  | 5, _ => rfl
  | 6, _ => rfl
  | n + 7, h => absurd h (by omega)
theorem k_String_length {v0 : Nat} {E : JE2} {M : JM} {μ : Mem} {Q : Int → Prop} (hlit : v0 < 7) (hM : Rl E M μ) (h : d_String_length v0 μ Q) : JX 20 0 (jargs 20 [jR (2000000 + v0)]) [] M (PO E (pQI μ Q) XN) :=
  ⟨40, _, _, run_len v0 hlit, μ, hM, rfl, _, rfl, h⟩
theorem run_chr {M : JM} : ∀ (i k : Nat), i < 7 → k < (jlit i).length → jrun 80 22 0 [jR (2000000 + i), jI (k : Int)] [] M = some (.inl (some (.inl ((jlit i).getD k 0))), M) := by
  intro i k h1 h2
  have hc : ∀ i k : Nat, i < 7 → k < (jlit i).length → k < 6 := by
    intro i k h1 h2
    have : ∀ i : Fin 7, (jlit i).length ≤ 6 := by decide
    have := this ⟨i, h1⟩
    exact Nat.lt_of_lt_of_le h2 this
  have h3 := hc i k h1 h2
  match i, h1, k, h3 with
  | 0, _, 0, _ => exact rfl
  | 0, _, 1, _ => exact rfl
  | 0, _, 2, _ => exact rfl
  | 0, _, 3, _ => exact rfl
  | 0, _, 4, _ => exact rfl
  | 0, _, 5, _ => exact rfl
  | 0, _, n + 6, h => exact absurd h (by omega)
  | 1, _, 0, _ => exact rfl
  | 1, _, 1, _ => exact rfl
  | 1, _, 2, _ => exact rfl
  | 1, _, 3, _ => exact rfl
  | 1, _, 4, _ => exact rfl
  | 1, _, 5, _ => exact rfl
  | 1, _, n + 6, h => exact absurd h (by omega)
  | 2, _, 0, _ => exact rfl
  | 2, _, 1, _ => exact rfl
  | 2, _, 2, _ => exact rfl
  | 2, _, 3, _ => exact rfl
  | 2, _, 4, _ => exact absurd h2 (by decide)
  | 2, _, 5, _ => exact absurd h2 (by decide)
  | 2, _, n + 6, h => exact absurd h (by omega)
  | 3, _, 0, _ => exact rfl
  | 3, _, 1, _ => exact rfl
  | 3, _, 2, _ => exact rfl
  | 3, _, 3, _ => exact rfl
  | 3, _, 4, _ => exact absurd h2 (by decide)
  | 3, _, 5, _ => exact absurd h2 (by decide)
  | 3, _, n + 6, h => exact absurd h (by omega)
  | 4, _, 0, _ => exact rfl
  | 4, _, 1, _ => exact rfl
  | 4, _, 2, _ => exact rfl
  | 4, _, 3, _ => exact rfl
  | 4, _, 4, _ => exact absurd h2 (by decide)
  | 4, _, 5, _ => exact absurd h2 (by decide)
  | 4, _, n + 6, h => exact absurd h (by omega)
  | 5, _, 0, _ => exact rfl
  | 5, _, 1, _ => exact rfl
  | 5, _, 2, _ => exact rfl
  | 5, _, 3, _ => exact rfl
  | 5, _, 4, _ => exact absurd h2 (by decide)
  | 5, _, 5, _ => exact absurd h2 (by decide)
  | 5, _, n + 6, h => exact absurd h (by omega)
  | 6, _, 0, _ => exact rfl
  | 6, _, 1, _ => exact rfl
  | 6, _, 2, _ => exact rfl
  | 6, _, 3, _ => exact rfl
  | 6, _, 4, _ => exact absurd h2 (by decide)
  | 6, _, 5, _ => exact absurd h2 (by decide)
  | 6, _, n + 6, h => exact absurd h (by omega)
  | n + 7, h, _, _ => exact absurd h (by omega)
theorem k_String_charAt {v0 : Nat} {v1 : Int} {E : JE2} {M : JM} {μ : Mem} {Q : Int → Prop} (hlit : v0 < 7) (hM : Rl E M μ) (h : d_String_charAt v0 v1 μ Q) : JX 22 0 (jargs 22 [jR (2000000 + v0), jI v1]) [] M (PO E (pQI μ Q) XN) := by
  obtain ⟨⟨h1, h2⟩, h3⟩ := h
  have e : v1 = ((v1.toNat : Nat) : Int) := by omega
  refine ⟨80, .inl (some (.inl ((jlit v0).getD v1.toNat 0))), M, ?_, μ, hM, rfl, _, rfl, h3⟩
  have := run_chr (M := M) v0 v1.toNat hlit (by omega)
  rw [← e] at this
  exact this
