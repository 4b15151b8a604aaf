/-! THE LAW'S OWN METHODS: bytes are told -/
theorem jor_sh {w c : Int} (hc : 0 ≤ c ∧ c ≤ 255) : (BitVec.ofInt 32 (jor (jshl w 8) c)).toNat = (BitVec.ofInt 32 w).toNat % 16777216 * 256 + c.toNat := by
  have e1 : BitVec.ofInt 32 (jshl w 8) = BitVec.ofInt 32 w <<< (8 : Nat) := by
    unfold jshl
    rw [← Int32.toInt_toBitVec, BitVec.ofInt_toInt, Int32.toBitVec_shiftLeft, show ((Int32.ofInt 8 &&& 31).toBitVec.smod 32) = 8#32 from by decide, BitVec.shiftLeft_eq']
    rfl
  have e2 : (BitVec.ofInt 32 c).toNat = c.toNat := by
    have : c = ((c.toNat : Nat) : Int) := by omega
    rw [this, BitVec.ofInt_natCast, BitVec.toNat_ofNat, Int.toNat_natCast]
    omega
  have e3 : BitVec.ofInt 32 (jor (jshl w 8) c) = BitVec.ofInt 32 (jshl w 8) ||| BitVec.ofInt 32 c := by
    unfold jor
    rw [← Int32.toInt_toBitVec, BitVec.ofInt_toInt, Int32.toBitVec_or]
    rfl
  rw [e3, e1, BitVec.toNat_or, BitVec.toNat_shiftLeft, e2]
  have e4 : (BitVec.ofInt 32 w).toNat <<< 8 % 2 ^ 32 = ((BitVec.ofInt 32 w).toNat % 16777216) <<< 8 := by
    rw [Nat.shiftLeft_eq, Nat.shiftLeft_eq]
    omega
  rw [e4, ← Nat.shiftLeft_add_eq_or_of_lt (by omega : c.toNat < 2 ^ 8), Nat.shiftLeft_eq]
/-- the bytes of an int after one more is put in from below -/
theorem by4_put {w c : Int} (hc : 0 ≤ c ∧ c ≤ 255) : by4 (jor (jshl w 8) c) = [byU w 16, byU w 8, byU w 0, c] := by
  unfold by4 byU
  rw [jor_sh hc]
  generalize (BitVec.ofInt 32 w).toNat = A
  simp only [List.cons.injEq, and_true]
  omega
/-- what waits to be told: the row m, the bytes P that wait, how many were told -/
def isM (s : LSt) (m : Nat) (P : List Int) (cnt : Nat) : Prop := dh s m = some (100, 7) ∧ dV s m 5 = jI (P.length : Int) ∧ dV s m 6 = jI (cnt : Int) ∧ P.length < 20 ∧ ∃ ws : Nat → Int, (∀ q, q < 5 → dV s m q = jI (ws q)) ∧ ∀ j, j < P.length → P.getD j 0 = (by4 (ws (j / 4))).getD (4 - min 4 (P.length - 4 * (j / 4)) + (j - 4 * (j / 4))) 0
