/-! BYTES of an int: the class's and the reference's -/
theorem jb8_eq (z : Int) : jb8 z = (z.bmod 4294967296).bmod 256 := by
  unfold jb8
  rw [Int8.toInt_toInt32, Int32.toInt_toInt8, Int32.toInt_ofInt]
def byU (w : Int) (s : Nat) : Int := (((BitVec.ofInt 32 w).toNat / 2 ^ s % 256 : Nat) : Int)
theorem and255 (x : BitVec 32) : (x &&& 255#32).toInt = ((x.toNat % 256 : Nat) : Int) := by
  have e : (x &&& 255#32).toNat = x.toNat % 256 := by
    rw [BitVec.toNat_and, show (255#32 : BitVec 32).toNat = 2 ^ 8 - 1 from rfl, Nat.and_two_pow_sub_one_eq_mod]
  rw [BitVec.toInt_eq_toNat_of_lt (by rw [e]; omega), e]
theorem jand_ushr {w : Int} {s : Nat} {sh : Int} (hs : ((Int32.ofInt sh).toUInt32 &&& Int32.toUInt32 31) = UInt32.ofNat s) (h32 : s < 32) : jand (jushr w sh) 255 = byU w s := by
  unfold jand jushr
  rw [Int32.ofInt_toInt, hs, ← Int32.toInt_toBitVec, Int32.toBitVec_and, UInt32.toBitVec_toInt32, UInt32.toBitVec_shiftRight]
  rw [show (Int32.ofInt 255).toBitVec = 255#32 from rfl, and255]
  unfold byU
  have e : ((Int32.ofInt w).toUInt32.toBitVec >>> ((UInt32.ofNat s).toBitVec % 32#32)).toNat = (BitVec.ofInt 32 w).toNat / 2 ^ s := by
    rw [show (Int32.ofInt w).toUInt32.toBitVec = BitVec.ofInt 32 w from rfl]
    have e2 : ((UInt32.ofNat s).toBitVec % 32#32).toNat = s := by
      rw [BitVec.toNat_umod, show (UInt32.ofNat s).toBitVec.toNat = s % 4294967296 from rfl, show (32#32 : BitVec 32).toNat = 32 from rfl]
      omega
    rw [BitVec.ushiftRight_eq', BitVec.toNat_ushiftRight, e2, Nat.shiftRight_eq_div_pow]
  exact congrArg (fun n : Nat => ((n % 256 : Nat) : Int)) e
theorem jshr_eq {w : Int} {s : Nat} {sh : Int} (hs : (Int32.ofInt sh &&& 31) = Int32.ofNat s) (hs2 : ((Int32.ofNat s).toBitVec.smod 32).toNat = s) : jshr w sh = (BitVec.ofInt 32 w).toInt / 2 ^ s := by
  unfold jshr
  rw [hs, ← Int32.toInt_toBitVec, Int32.toBitVec_shiftRight, BitVec.toInt_sshiftRight', hs2, Int.shiftRight_eq_div_pow]
  rfl
theorem bt_rng (w : Int) : (BitVec.ofInt 32 w).toNat < 4294967296 := (BitVec.ofInt 32 w).isLt
theorem bt_int (w : Int) : (BitVec.ofInt 32 w).toInt = (BitVec.ofInt 32 w).toNat ∨ (BitVec.ofInt 32 w).toInt = ((BitVec.ofInt 32 w).toNat : Int) - 4294967296 := by
  rw [BitVec.toInt_eq_toNat_cond]
  split
  · exact Or.inl rfl
  · exact Or.inr rfl
theorem bmod256 (z : Int) : (z.bmod 4294967296).bmod 256 = sg8 (z % 256) := by
  unfold sg8
  rw [Int.bmod_def, Int.bmod_def]
  omega
theorem byte_eq {w : Int} {k : Nat} (hk : k ≤ 3) : jb8 (jb8 (jshr w (8 * (k : Int)))) = sg8 (byU w (8 * k)) ∧ (∀ sh : Int, sh = 8 * (k : Int) → jand (jushr w sh) 255 = byU w (8 * k)) ∧ 0 ≤ byU w (8 * k) ∧ byU w (8 * k) ≤ 255 := by
  have r : 0 ≤ byU w (8 * k) ∧ byU w (8 * k) ≤ 255 := by unfold byU; omega
  have idem : ∀ z, jb8 (jb8 z) = jb8 z := by
    intro z
    rw [jb8_eq (jb8 z), jb8_eq z, bmod256 z]
    unfold sg8
    rw [Int.bmod_def, Int.bmod_def]
    omega
  have main : jshr w (8 * (k : Int)) = (BitVec.ofInt 32 w).toInt / 2 ^ (8 * k) ∧ (∀ sh : Int, sh = 8 * (k : Int) → jand (jushr w sh) 255 = byU w (8 * k)) := by
    rcases (by omega : k = 0 ∨ k = 1 ∨ k = 2 ∨ k = 3) with rfl | rfl | rfl | rfl
    all_goals exact ⟨jshr_eq (by decide) (by decide), fun sh hsh => by subst hsh; exact jand_ushr (by decide) (by decide)⟩
  refine ⟨?_, main.2, r⟩
  rw [idem, jb8_eq, bmod256, main.1]
  congr 1
  unfold byU
  have h1 := bt_rng w
  have h2 := bt_int w
  generalize (BitVec.ofInt 32 w).toInt = t at *
  generalize (BitVec.ofInt 32 w).toNat = u at *
  rcases (by omega : k = 0 ∨ k = 1 ∨ k = 2 ∨ k = 3) with rfl | rfl | rfl | rfl
  · simp only [Nat.mul_zero, Nat.pow_zero, Int.pow_zero] ; omega
  · rw [show ((2 : Int) ^ (8 * 1)) = 256 by decide, show (2 : Nat) ^ (8 * 1) = 256 by decide]; omega
  · rw [show ((2 : Int) ^ (8 * 2)) = 65536 by decide, show (2 : Nat) ^ (8 * 2) = 65536 by decide]; omega
  · rw [show ((2 : Int) ^ (8 * 3)) = 16777216 by decide, show (2 : Nat) ^ (8 * 3) = 16777216 by decide]; omega
def by4 (w : Int) : List Int := [byU w 24, byU w 16, byU w 8, byU w 0]
theorem by4_get {w : Int} {k : Nat} (hk : k ≤ 3) : (by4 w).getD k 0 = byU w (8 * (3 - k)) := by
  rcases (by omega : k = 0 ∨ k = 1 ∨ k = 2 ∨ k = 3) with rfl | rfl | rfl | rfl <;> rfl
theorem by4_rng {w b : Int} (h : b ∈ by4 w) : 0 ≤ b ∧ b ≤ 255 := by
  unfold by4 at h
  simp only [List.mem_cons, List.not_mem_nil, or_false] at h
  rcases h with rfl | rfl | rfl | rfl
  · exact (byte_eq (w := w) (k := 3) (by omega)).2.2
  · exact (byte_eq (w := w) (k := 2) (by omega)).2.2
  · exact (byte_eq (w := w) (k := 1) (by omega)).2.2
  · exact (byte_eq (w := w) (k := 0) (by omega)).2.2
section A61
variable {μ μ' : Mem} {A : AS}
def PB (μ : Mem) (bf : List Int) : Prop := μ 72 4 = (bf.length : Int) ∧ Sg (μ 129) 0 bf
/-- only the buffer and its count change -/
def Fp (μ μ' : Mem) : Prop := (∀ b, b ≠ 72 → b ≠ 129 → μ' b = μ b) ∧ ∀ j, j ≠ 4 → μ' 72 j = μ 72 j
theorem Fp.tr {μ2 : Mem} (h1 : Fp μ μ') (h2 : Fp μ' μ2) : Fp μ μ2 := ⟨fun b g1 g2 => by rw [h2.1 b g1 g2, h1.1 b g1 g2], fun j g => by rw [h2.2 j g, h1.2 j g]⟩
theorem c_putFour {bf : List Int} {w : Int} {Q : Mem → Prop} (hb : PB μ bf) (hl : bf.length + 4 ≤ 500) (h : ∀ μ', PB μ' (bf ++ by4 w) → Fp μ μ' → Q μ') : d_Parser_putFourBytes w μ Q := by
  unfold d_Parser_putFourBytes
  refine i_Parser_putFourBytes_l3 (Inv := fun v2 μ1 => ∃ k : Nat, v2 = 24 - 8 * (k : Int) ∧ k ≤ 4 ∧ PB μ1 (bf ++ (by4 w).take k) ∧ Fp μ μ1) (fun v2 _ => (v2 + 8).toNat) ?_ 24 μ ⟨0, by omega, by omega, by rw [List.take_zero, List.append_nil]; exact hb, fun _ _ _ => rfl, fun _ _ => rfl⟩
  rintro _ μ1 ⟨k, rfl, hk, hp, hF⟩ W hW
  unfold d_Parser_putFourBytes_b3 d_Parser_putFourBytes_j52
  by_cases hk4 : k < 4
  · have hlen : (bf ++ (by4 w).take k).length = bf.length + k := by
      rw [List.length_append, List.length_take]
      have : (by4 w).length = 4 := rfl
      omega
    obtain ⟨p1, p2⟩ := hp
    rw [hlen] at p1
    rw [if_neg (by omega), p1, if_neg (by omega), if_pos (by omega)]
    refine ⟨by omega, ?_⟩
    have hb' := byte_eq (w := w) (k := 3 - k) (by omega)
    rw [hb'.2.1 _ (by omega), mup_r (by decide), p1, Int.toNat_natCast]
    simp (disch := omega) only [wr_id]
    refine hW _ _ ⟨k + 1, by omega, by omega, ⟨?_, ?_⟩, hF.tr ⟨fun b g1 g2 => by rw [mup_r g1, mup_r g2], fun j g => by rw [mup_k g, mup_r (by decide)]⟩⟩ (by omega)
    · rw [mup_s, List.length_append, List.length_take]
      have : (by4 w).length = 4 := rfl
      omega
    · rw [mup_r (by decide), take_1r (show k < (by4 w).length from hk4), ← List.append_assoc]
      refine Sg.app (p2.congr fun i hi => ?_) (Sg.one ?_)
      · rw [hlen] at hi
        exact mup_k (by omega)
      · rw [hlen, Nat.zero_add, mup_s, by4_get (by omega)]
  · rw [if_pos (by omega)]
    rw [List.take_of_length_le (by show 4 ≤ k; omega)] at hp
    exact h _ hp hF
def wB (A : AS) (bf : List Int) : AS := (A.1, A.2.1, (bf, A.2.2.1.2), A.2.2.2)
def apB (A : AS) (v1 v2 v3 v4 v5 : Int) : List Int := aB A ++ by4 v1 ++ by4 v2 ++ by4 v3 ++ by4 v4 ++ by4 v5
def sp_append (A : AS) (v1 v2 v3 v4 v5 : Int) : Int × AS := if (aB A).length ≤ 480 then (((apB A v1 v2 v3 v4 v5).length : Int), wB A (apB A v1 v2 v3 v4 v5)) else (-1, A)
theorem CI.setB {bf : List Int} (hI : CI μ A) (hb : PB μ' bf) (hf : Fp μ μ') : CI μ' (wB A bf) := by
  obtain ⟨h1, h2, h3, ⟨h4, h5⟩, ⟨h6, h7⟩, h8, h9, h10⟩ := hI
  have q : ∀ b, b ≠ 72 → b ≠ 129 → μ' b = μ b := hf.1
  exact ⟨by rw [q 0 (by omega) (by omega)]; exact h1, h2.fr fun b g1 g2 => q b (by omega) (by omega), Cst.fr (c := aC A) h3 rt_st.1 fun b g1 g2 => q b (by omega) (by omega), ⟨h4.fr rt_st.2.1 (by rw [q 0 (by omega) (by omega)]) fun b g1 g2 => q b (by omega) (by omega), h5.fr rt_st.2.2.1 (by rw [q 0 (by omega) (by omega)]) fun b g1 g2 => q b (by omega) (by omega)⟩, ⟨⟨by rw [hf.2 0 (by decide)]; exact h6.1, by rw [hf.2 1 (by decide)]; exact h6.2.1, hb.1, hb.2⟩, h7.fr fun b g1 g2 => q b (by omega) (by omega)⟩, h8.fr fun b g1 g2 => q b (by omega) (by omega), h9.fr (q _ (by omega) (by omega)) (q _ (by omega) (by omega)), h10.fr fun b g1 g2 => q b (by omega) (by omega)⟩
theorem by4_len {w : Int} : (by4 w).length = 4 := rfl
theorem w_append {v1 v2 v3 v4 v5 : Int} {Q : Int → Mem → Prop} (hI : CI μ A) (hA : AOK A) (h : ∀ μ', CI μ' (sp_append A v1 v2 v3 v4 v5).2 → μ' 797 0 = μ 797 0 → Q (sp_append A v1 v2 v3 v4 v5).1 μ') : d_OB_append v1 v2 v3 v4 v5 μ Q := by
  unfold d_OB_append
  have hp : PB μ (aB A) := ⟨hI.2.2.2.2.1.1.2.2.1, hI.2.2.2.2.1.1.2.2.2⟩
  have hb := hA.2.2.2.2.2.2.1.1
  rw [hp.1]
  unfold sp_append at h
  by_cases k : (aB A).length ≤ 480
  · rw [if_pos k] at h
    rw [if_neg (by omega)]
    refine c_putFour hp (by omega) fun μ1 p1 f1 => ?_
    refine c_putFour p1 (by simp only [List.length_append, by4_len]; omega) fun μ2 p2 f2 => ?_
    refine c_putFour p2 (by simp only [List.length_append, by4_len]; omega) fun μ3 p3 f3 => ?_
    refine c_putFour p3 (by simp only [List.length_append, by4_len]; omega) fun μ4 p4 f4 => ?_
    refine c_putFour p4 (by simp only [List.length_append, by4_len]; omega) fun μ5 p5 f5 => ?_
    have hF : Fp μ μ5 := (((f1.tr f2).tr f3).tr f4).tr f5
    rw [p5.1]
    exact h _ (hI.setB p5 hF) (by rw [hF.1 797 (by omega) (by omega)])
  · rw [if_neg k] at h
    rw [if_pos (by omega)]
    exact h _ hI rfl
end A61

