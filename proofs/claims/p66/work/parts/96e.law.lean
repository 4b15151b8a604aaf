/-! THE LAW'S OWN METHODS: bytes are told -/
theorem jor_sh {w c : Int} (hc : 0 ≤ c ∧ c ≤ 255) : (BitVec.ofInt 32 (jor (jshl w 8) c)).toNat = (BitVec.ofInt 32 w).toNat % 16777216 * 256 + c.toNat := by
  have e1 : BitVec.ofInt 32 (jshl w 8) = BitVec.ofInt 32 w <<< (8 : Nat) := by
    unfold jshl
    rw [← Int32.toInt_toBitVec, BitVec.ofInt_toInt, Int32.toBitVec_shiftLeft, show ((Int32.ofInt 8 &&& 31).toBitVec.smod 32) = 8#32 from by decide, BitVec.shiftLeft_eq']
    rfl
  have e2 : (BitVec.ofInt 32 c).toNat = c.toNat := by
    have : c = ((c.toNat : Nat) : Int) := by omega
    rw [this, BitVec.ofInt_natCast, BitVec.toNat_ofNat, Int.toNat_natCast]
    omega
  have e3 : BitVec.ofInt 32 (jor (jshl w 8) c) = BitVec.ofInt 32 (jshl w 8) ||| BitVec.ofInt 32 c := by
    unfold jor
    rw [← Int32.toInt_toBitVec, BitVec.ofInt_toInt, Int32.toBitVec_or]
    rfl
  rw [e3, e1, BitVec.toNat_or, BitVec.toNat_shiftLeft, e2]
  have e4 : (BitVec.ofInt 32 w).toNat <<< 8 % 2 ^ 32 = ((BitVec.ofInt 32 w).toNat % 16777216) <<< 8 := by
    rw [Nat.shiftLeft_eq, Nat.shiftLeft_eq]
    omega
  rw [e4, ← Nat.shiftLeft_add_eq_or_of_lt (by omega : c.toNat < 2 ^ 8), Nat.shiftLeft_eq]
/-- the bytes of an int after one more is put in from below -/
theorem by4_put {w c : Int} (hc : 0 ≤ c ∧ c ≤ 255) : by4 (jor (jshl w 8) c) = [byU w 16, byU w 8, byU w 0, c] := by
  unfold by4 byU
  rw [jor_sh hc]
  generalize (BitVec.ofInt 32 w).toNat = A
  simp only [List.cons.injEq, and_true]
  omega
/-- what waits to be told: the row m, the bytes P that wait, how many were told -/
def isM (s : LSt) (m : Nat) (P : List Int) (cnt : Nat) : Prop := dh s m = some (100, 7) ∧ dV s m 5 = jI (P.length : Int) ∧ dV s m 6 = jI (cnt : Int) ∧ P.length ≤ 20 ∧ ∃ ws : Nat → Int, (∀ q, q < 5 → dV s m q = jI (ws q)) ∧ ∀ j, j < P.length → P.getD j 0 = (by4 (ws (j / 4))).getD (4 - min 4 (P.length - 4 * (j / 4)) + (j - 4 * (j / 4))) 0
theorem by4_nx {w c : Int} (hc : 0 ≤ c ∧ c ≤ 255) {i : Nat} (hi : i < 3) : (by4 (jor (jshl w 8) c)).getD i 0 = (by4 w).getD (i + 1) 0 := by
  rw [by4_put hc]
  rcases (by omega : i = 0 ∨ i = 1 ∨ i = 2) with rfl | rfl | rfl <;> rfl
theorem by4_3 {w c : Int} (hc : 0 ≤ c ∧ c ≤ 255) : (by4 (jor (jshl w 8) c)).getD 3 0 = c := by
  rw [by4_put hc]
  rfl
theorem jdiv4 {k : Nat} (h : k ≤ 20) : jdiv (k : Int) 4 = ((k / 4 : Nat) : Int) := by
  have q : ∀ j : Fin 21, jdiv ((j : Nat) : Int) 4 = (((j : Nat) / 4 : Nat) : Int) := by decide +kernel
  exact q ⟨k, by omega⟩
section L96e
variable {s s1 : LSt} {m cnt : Nat} {P : List Int} {A : AS}
theorem M_put {c w : Int} {k : Nat} (h : isM s m P cnt) (hk : P.length = k) (h20 : k < 20) (hc : 0 ≤ c ∧ c ≤ 255) (hw : dV s m (k / 4) = jI w) : isM (upC (upC (upC s m (k / 4) (jI (jor (jshl w 8) c))) m 5 (jI ((k + 1 : Nat) : Int))) m 6 (jI ((cnt + 1 : Nat) : Int))) m (P ++ [c]) (cnt + 1) := by
  subst hk
  obtain ⟨h1, h2, h3, h4, ws, h5, h6⟩ := h
  have hq : P.length / 4 < 5 := by omega
  have hww : ws (P.length / 4) = w := by
    have := h5 _ hq
    rw [hw] at this
    exact (Sum.inl.inj this).symm
  refine ⟨h1, ?_, ?_, ?_, fun q => if q = P.length / 4 then jor (jshl w 8) c else ws q, fun q hq5 => ?_, fun j hj => ?_⟩
  · rw [dV_n (by omega), dV_s, List.length_append]
    rfl
  · rw [dV_s]
  · rw [List.length_append]
    simp only [List.length_cons, List.length_nil]
    omega
  · rw [dV_n (by omega), dV_n (by omega)]
    dsimp only
    by_cases e : q = P.length / 4
    · subst e
      rw [dV_s, if_pos rfl]
    · rw [dV_n (by omega), if_neg e]
      exact h5 q hq5
  · rw [List.length_append] at hj ⊢
    simp only [List.length_cons, List.length_nil] at hj ⊢
    by_cases ej : j = P.length
    · subst ej
      rw [if_pos rfl, getD_app_r (Nat.le_refl _), Nat.sub_self, show 4 - min 4 (P.length + (0 + 1) - 4 * (P.length / 4)) + (P.length - 4 * (P.length / 4)) = 3 by omega, by4_3 hc]
      rfl
    · rw [getD_app_l (by omega), h6 j (by omega)]
      by_cases e : j / 4 = P.length / 4
      · rw [if_pos e, e, hww, by4_nx hc (by omega)]
        congr 1
        omega
      · rw [if_neg e]
        congr 1
        omega
/-- twenty bytes go to the class -/
theorem c_flush {Q : LSt → Prop} (h : isM s m P cnt) (h20 : P.length = 20) (hI : CI s.2 A) (hA : AOK A) (h0 : s.2 797 0 = 0) (hB : (aB A).length ≤ 480) (hq : ∀ μ, CI μ (wB A (aB A ++ P)) → AOK (wB A (aB A ++ P)) → μ 797 0 = 0 → isM (upC (s.1, μ) m 5 (jI 0)) m [] cnt → Q (upC (s.1, μ) m 5 (jI 0))) : d_Lw_flush (jR m) s Q := by
  obtain ⟨h1, h2, h3, h4, ws, h5, h6⟩ := h
  have hP : aB A ++ P = apB A (ws 0) (ws 1) (ws 2) (ws 3) (ws 4) := by
    unfold apB
    simp only [List.append_assoc]
    congr 1
    apply List.ext_getElem?
    intro j
    by_cases hj : j < 20
    · rw [show P[j]? = some (P.getD j 0) by rw [List.getD_eq_getElem?_getD, List.getElem?_eq_getElem (by omega)]; rfl, h6 j (by omega), h20]
      rcases (by omega : j = 0 ∨ j = 1 ∨ j = 2 ∨ j = 3 ∨ j = 4 ∨ j = 5 ∨ j = 6 ∨ j = 7 ∨ j = 8 ∨ j = 9 ∨ j = 10 ∨ j = 11 ∨ j = 12 ∨ j = 13 ∨ j = 14 ∨ j = 15 ∨ j = 16 ∨ j = 17 ∨ j = 18 ∨ j = 19) with rfl | rfl | rfl | rfl | rfl | rfl | rfl | rfl | rfl | rfl | rfl | rfl | rfl | rfl | rfl | rfl | rfl | rfl | rfl | rfl <;> rfl
    · rw [List.getElem?_eq_none (by omega), List.getElem?_eq_none (by show 20 ≤ j; omega)]
  have hok : AOK (wB A (aB A ++ P)) := by
    have := append_ok (v1 := ws 0) (v2 := ws 1) (v3 := ws 2) (v4 := ws 3) (v5 := ws 4) hA
    unfold sp_append at this
    rw [if_pos hB, ← hP] at this
    exact this
  unfold d_Lw_flush
  refine i_R (i_rI (k := 0) h1 rfl (by decide) (h5 0 (by decide)) (i_rI (k := 1) h1 rfl (by decide) (h5 1 (by decide)) (i_rI (k := 2) h1 rfl (by decide) (h5 2 (by decide)) (i_rI (k := 3) h1 rfl (by decide) (h5 3 (by decide)) (i_rI (k := 4) h1 rfl (by decide) (h5 4 (by decide)) ?_)))))
  refine ⟨fun _ μ => CI μ (wB A (aB A ++ P)) ∧ μ 797 0 = 0, fun _ _ => False, ?_, fun z μ hz => ⟨μ, ⟨fun _ _ => rfl, rfl⟩, hz.2, ?_⟩, fun _ _ h => h⟩
  · refine w_append hI hA fun μ' hc h9 => ?_
    unfold sp_append at hc
    rw [if_pos hB, ← hP] at hc
    exact ⟨hc, h9.trans h0⟩
  · refine i_wA (k := 5) (n := 7) h1 rfl (by decide) (hq μ hz.1 hok hz.2 ⟨h1, dV_s, ?_, by simp, ws, fun q hq => ?_, fun j hj => absurd hj (by simp)⟩)
    · rw [dV_n (by omega)]
      exact h3
    · rw [dV_n (by omega)]
      exact h5 q hq
end L96e
