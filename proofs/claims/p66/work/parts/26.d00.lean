/-! WHAT THE METHODS DO, as texts over numbers (written by wip/gen/dec.py), 0 -/
def d_State_clear (v0 : Nat) (μ : Mem) (Q : Mem → Prop) : Prop := Q (mup (mup μ v0 0 0) v0 1 0)
def d_Parser_byteAt (v1 : Int) (μ : Mem) (Q : Int → Prop) : Prop := if v1 < 0 then (Q (-1)) else (if v1 < μ 72 8 then (if v1 < 500 then ((0 ≤ v1 ∧ v1 < 500) ∧ Q (μ 129 v1.toNat)) else (Q (-1))) else (Q (-1)))
def d_Parser_kindOfByte_j65 (v1 : Int) (t0 : Int) (μ : Mem) (Q : Int → Prop) : Prop := if t0 = 0 then (Q 1) else (Q v1)
def d_Parser_kindOfByte_j60 (v1 : Int) (μ : Mem) (Q : Int → Prop) : Prop := d_Parser_kindOfByte_j65 v1 1 μ Q
def d_Parser_kindOfByte_j30 (v1 : Int) (μ : Mem) (Q : Int → Prop) : Prop := if v1 = 59 then (d_Parser_kindOfByte_j60 v1 μ Q) else (if v1 = 61 then (d_Parser_kindOfByte_j60 v1 μ Q) else (if v1 = 44 then (d_Parser_kindOfByte_j60 v1 μ Q) else (if v1 = 40 then (d_Parser_kindOfByte_j60 v1 μ Q) else (if v1 = 41 then (d_Parser_kindOfByte_j60 v1 μ Q) else (d_Parser_kindOfByte_j65 v1 0 μ Q)))))
def d_Parser_kindOfByte_j15 (v1 : Int) (μ : Mem) (Q : Int → Prop) : Prop := if v1 < 48 then (d_Parser_kindOfByte_j30 v1 μ Q) else (if 57 < v1 then (d_Parser_kindOfByte_j30 v1 μ Q) else (Q 48))
def d_Parser_kindOfByte (v1 : Int) (μ : Mem) (Q : Int → Prop) : Prop := if v1 < 65 then (d_Parser_kindOfByte_j15 v1 μ Q) else (if v1 < 73 then (Q 65) else (d_Parser_kindOfByte_j15 v1 μ Q))
def d_Parser_next_j135 (t1 : Int) (μ : Mem) (Q : Mem → Prop) : Prop := Q (mup μ 72 9 t1)
def d_Parser_next_j103 (μ : Mem) (Q : Mem → Prop) : Prop := if μ 72 10 < μ 72 11 then (if 6 < wr ((μ 72 11) - (μ 72 10)) then (d_Parser_next_j135 1 μ Q) else (d_Parser_next_j135 97 μ Q)) else (if μ 72 10 < μ 72 8 then (d_Parser_byteAt (μ 72 10) μ (fun r5 => d_Parser_kindOfByte r5 μ (fun r7 => Q (mup (mup μ 72 9 r7) 72 11 (wr (((mup μ 72 9 r7) 72 10) + 1)))))) else (Q (mup μ 72 9 0)))
def d_Parser_next_b53 (μ : Mem) (W53 : Mem → Prop) (Q : Mem → Prop) : Prop := if μ 72 11 < μ 72 8 then (d_Parser_byteAt (μ 72 11) μ (fun r3 => if r3 < 97 then (d_Parser_next_j103 μ Q) else (d_Parser_byteAt (μ 72 11) μ (fun r9 => if 122 < r9 then (d_Parser_next_j103 μ Q) else (W53 (mup μ 72 11 (wr ((μ 72 11) + 1)))))))) else (d_Parser_next_j103 μ Q)
def d_Parser_next_l53 (μ : Mem) (Q : Mem → Prop) : Prop := ∀ W : Mem → Prop, (∀ (μ : Mem), d_Parser_next_b53 μ W Q → W μ) → W μ
def d_Parser_next_j45 (μ : Mem) (Q : Mem → Prop) : Prop := d_Parser_next_l53 (mup μ 72 11 (μ 72 10)) Q
def d_Parser_next_b8 (μ : Mem) (W8 : Mem → Prop) (Q : Mem → Prop) : Prop := if μ 72 10 < μ 72 8 then (d_Parser_byteAt (μ 72 10) μ (fun r1 => if r1 = 32 then (W8 (mup μ 72 10 (wr ((μ 72 10) + 1)))) else (d_Parser_next_j45 μ Q))) else (d_Parser_next_j45 μ Q)
def d_Parser_next_l8 (μ : Mem) (Q : Mem → Prop) : Prop := ∀ W : Mem → Prop, (∀ (μ : Mem), d_Parser_next_b8 μ W Q → W μ) → W μ
def d_Parser_next (μ : Mem) (Q : Mem → Prop) : Prop := d_Parser_next_l8 (mup μ 72 10 (μ 72 11)) Q
theorem i_Parser_next_l53 {Q : Mem → Prop} {Inv : Mem → Prop} (f : Mem → Nat) (hi : ∀ (μ : Mem), Inv μ → ∀ W : Mem → Prop, (∀ (μ' : Mem), Inv μ' → f μ' < f μ → W μ') → d_Parser_next_b53 μ W Q) : ∀ (μ : Mem), Inv μ → d_Parser_next_l53 μ Q := by
  intro μ hI W hW
  have key : ∀ (n : Nat) (μ : Mem), f μ = n → Inv μ → W μ := by
    intro n
    induction n using Nat.strongRecOn with
    | _ n ih =>
      intro μ hf hI
      exact hW _ (hi μ hI W fun μ' hI' hl => ih _ (by omega) μ' rfl hI')
  exact key _ μ rfl hI
theorem i_Parser_next_l8 {Q : Mem → Prop} {Inv : Mem → Prop} (f : Mem → Nat) (hi : ∀ (μ : Mem), Inv μ → ∀ W : Mem → Prop, (∀ (μ' : Mem), Inv μ' → f μ' < f μ → W μ') → d_Parser_next_b8 μ W Q) : ∀ (μ : Mem), Inv μ → d_Parser_next_l8 μ Q := by
  intro μ hI W hW
  have key : ∀ (n : Nat) (μ : Mem), f μ = n → Inv μ → W μ := by
    intro n
    induction n using Nat.strongRecOn with
    | _ n ih =>
      intro μ hf hI
      exact hW _ (hi μ hI W fun μ' hI' hl => ih _ (by omega) μ' rfl hI')
  exact key _ μ rfl hI
def d_Parser_isWord_b29 (v1 : Nat) (v2 : Int) (μ : Mem) (W29 : Int → Prop) (Q : Bool → Prop) : Prop := d_String_length v1 μ (fun r3 => if v2 < r3 then (d_Parser_byteAt (wr ((μ 72 10) + v2)) μ (fun r5 => d_String_charAt v1 v2 μ (fun r7 => if r5 = r7 then (W29 (wr (v2 + 1))) else (Q false)))) else (Q true))
def d_Parser_isWord_l29 (v1 : Nat) (v2 : Int) (μ : Mem) (Q : Bool → Prop) : Prop := ∀ W : Int → Prop, (∀ (v2 : Int), d_Parser_isWord_b29 v1 v2 μ W Q → W v2) → W v2
def d_Parser_isWord (v1 : Nat) (μ : Mem) (Q : Bool → Prop) : Prop := if μ 72 9 = 97 then (d_String_length v1 μ (fun r1 => if wr ((μ 72 11) - (μ 72 10)) = r1 then (d_Parser_isWord_l29 v1 0 μ Q) else (Q false))) else (Q false)
theorem i_Parser_isWord_l29 {v1 : Nat} {μ : Mem} {Q : Bool → Prop} {Inv : Int → Prop} (f : Int → Nat) (hi : ∀ (v2 : Int), Inv v2 → ∀ W : Int → Prop, (∀ (v2' : Int), Inv v2' → f v2' < f v2 → W v2') → d_Parser_isWord_b29 v1 v2 μ W Q) : ∀ (v2 : Int), Inv v2 → d_Parser_isWord_l29 v1 v2 μ Q := by
  intro v2 hI W hW
  have key : ∀ (n : Nat) (v2 : Int), f v2 = n → Inv v2 → W v2 := by
    intro n
    induction n using Nat.strongRecOn with
    | _ n ih =>
      intro v2 hf hI
      exact hW _ (hi v2 hI W fun v2' hI' hl => ih _ (by omega) v2' rfl hI')
  exact key _ v2 rfl hI
def d_Parser_fail (v1 : Int) (μ : Mem) (Q : Bool → Mem → Prop) : Prop := Q false (mup (mup μ 72 0 v1) 72 1 ((mup μ 72 0 v1) 72 10))
def d_Signature_nameLength (v0 : Nat) (v1 : Int) (μ : Mem) (Q : Int → Prop) : Prop := if v1 < 0 then (Q 0) else (if v1 < 8 then ((0 ≤ v1 ∧ v1 < 8) ∧ Q (μ (v0 + 2) v1.toNat)) else (Q 0))
def d_Signature_letter_j25 (v0 : Nat) (v1 : Int) (v2 : Int) (t0 : Int) (μ : Mem) (Q : Int → Prop) : Prop := if t0 = 0 then (Q (-1)) else ((0 ≤ v1 ∧ v1 < 8) ∧ if v2 < μ (v0 + 2) v1.toNat then ((0 ≤ wr ((wr (v1 * 6)) + v2) ∧ wr ((wr (v1 * 6)) + v2) < 48) ∧ Q (μ (v0 + 3) (wr ((wr (v1 * 6)) + v2)).toNat)) else (Q (-1)))
def d_Signature_letter_j24 (v0 : Nat) (v1 : Int) (v2 : Int) (μ : Mem) (Q : Int → Prop) : Prop := d_Signature_letter_j25 v0 v1 v2 0 μ Q
def d_Signature_letter (v0 : Nat) (v1 : Int) (v2 : Int) (μ : Mem) (Q : Int → Prop) : Prop := if v1 < 0 then (d_Signature_letter_j24 v0 v1 v2 μ Q) else (if v1 < 8 then (if v2 < 0 then (d_Signature_letter_j24 v0 v1 v2 μ Q) else (if v2 < 6 then (d_Signature_letter_j25 v0 v1 v2 1 μ Q) else (d_Signature_letter_j24 v0 v1 v2 μ Q))) else (d_Signature_letter_j24 v0 v1 v2 μ Q))
def d_Parser_isNamed_b27 (v1 : Int) (v2 : Int) (μ : Mem) (W27 : Int → Prop) (Q : Bool → Prop) : Prop := if v2 < μ 72 11 then (d_Parser_byteAt v2 μ (fun r3 => d_Signature_letter 73 v1 (wr (v2 - (μ 72 10))) μ (fun r5 => if r3 = r5 then (W27 (wr (v2 + 1))) else (Q false)))) else (Q true)
def d_Parser_isNamed_l27 (v1 : Int) (v2 : Int) (μ : Mem) (Q : Bool → Prop) : Prop := ∀ W : Int → Prop, (∀ (v2 : Int), d_Parser_isNamed_b27 v1 v2 μ W Q → W v2) → W v2
def d_Parser_isNamed (v1 : Int) (μ : Mem) (Q : Bool → Prop) : Prop := d_Signature_nameLength 73 v1 μ (fun r1 => if wr ((μ 72 11) - (μ 72 10)) = r1 then (d_Parser_isNamed_l27 v1 (μ 72 10) μ Q) else (Q false))
theorem i_Parser_isNamed_l27 {v1 : Int} {μ : Mem} {Q : Bool → Prop} {Inv : Int → Prop} (f : Int → Nat) (hi : ∀ (v2 : Int), Inv v2 → ∀ W : Int → Prop, (∀ (v2' : Int), Inv v2' → f v2' < f v2 → W v2') → d_Parser_isNamed_b27 v1 v2 μ W Q) : ∀ (v2 : Int), Inv v2 → d_Parser_isNamed_l27 v1 v2 μ Q := by
  intro v2 hI W hW
  have key : ∀ (n : Nat) (v2 : Int), f v2 = n → Inv v2 → W v2 := by
    intro n
    induction n using Nat.strongRecOn with
    | _ n ih =>
      intro v2 hf hI
      exact hW _ (hi v2 hI W fun v2' hI' hl => ih _ (by omega) v2' rfl hI')
  exact key _ v2 rfl hI
def d_Parser_symbolOfWord_b2 (v1 : Int) (μ : Mem) (W2 : Int → Prop) (Q : Int → Prop) : Prop := if v1 < μ 73 0 then (d_Parser_isNamed v1 μ (fun r1 => if r1 = true then (Q v1) else (W2 (wr (v1 + 1))))) else (Q (-1))
def d_Parser_symbolOfWord_l2 (v1 : Int) (μ : Mem) (Q : Int → Prop) : Prop := ∀ W : Int → Prop, (∀ (v1 : Int), d_Parser_symbolOfWord_b2 v1 μ W Q → W v1) → W v1
def d_Parser_symbolOfWord (μ : Mem) (Q : Int → Prop) : Prop := d_Parser_symbolOfWord_l2 0 μ Q
theorem i_Parser_symbolOfWord_l2 {μ : Mem} {Q : Int → Prop} {Inv : Int → Prop} (f : Int → Nat) (hi : ∀ (v1 : Int), Inv v1 → ∀ W : Int → Prop, (∀ (v1' : Int), Inv v1' → f v1' < f v1 → W v1') → d_Parser_symbolOfWord_b2 v1 μ W Q) : ∀ (v1 : Int), Inv v1 → d_Parser_symbolOfWord_l2 v1 μ Q := by
  intro v1 hI W hW
  have key : ∀ (n : Nat) (v1 : Int), f v1 = n → Inv v1 → W v1 := by
    intro n
    induction n using Nat.strongRecOn with
    | _ n ih =>
      intro v1 hf hI
      exact hW _ (hi v1 hI W fun v1' hI' hl => ih _ (by omega) v1' rfl hI')
  exact key _ v1 rfl hI
def d_Signature_begin (v0 : Nat) (μ : Mem) (Q : Mem → Prop) : Prop := if μ v0 0 < 0 then (Q μ) else (if μ v0 0 < 8 then ((0 ≤ μ v0 0 ∧ μ v0 0 < 8) ∧ Q (mup μ (v0 + 2) (μ v0 0).toNat 0)) else (Q μ))
def d_Signature_addLetter (v0 : Nat) (v1 : Int) (μ : Mem) (Q : Mem → Prop) : Prop := d_Signature_nameLength v0 (μ v0 0) μ (fun r1 => if μ v0 0 < 0 then (Q μ) else (if μ v0 0 < 8 then (if r1 < 0 then (Q μ) else (if r1 < 6 then ((0 ≤ wr ((wr ((μ v0 0) * 6)) + r1) ∧ wr ((wr ((μ v0 0) * 6)) + r1) < 48) ∧ (0 ≤ (mup μ (v0 + 3) (wr ((wr ((μ v0 0) * 6)) + r1)).toNat v1) v0 0 ∧ (mup μ (v0 + 3) (wr ((wr ((μ v0 0) * 6)) + r1)).toNat v1) v0 0 < 8) ∧ Q (mup (mup μ (v0 + 3) (wr ((wr ((μ v0 0) * 6)) + r1)).toNat v1) (v0 + 2) ((mup μ (v0 + 3) (wr ((wr ((μ v0 0) * 6)) + r1)).toNat v1) v0 0).toNat (wr (r1 + 1)))) else (Q μ))) else (Q μ)))
def d_Parser_digit (μ : Mem) (Q : Int → Prop) : Prop := d_Parser_byteAt (μ 72 10) μ (fun r1 => Q (wr (r1 - 48)))
def d_Parser_readDigit (v1 : Int) (μ : Mem) (Q : Bool → Mem → Prop) : Prop := if μ 72 9 = 48 then (d_Parser_digit μ (fun r1 => if r1 < v1 then (Q true μ) else (d_Parser_fail 2 μ (fun r3 μ4 => if r3 = true then (Q true μ4) else (Q false μ4))))) else (d_Parser_fail 1 μ (fun r5 μ6 => Q r5 μ6))
def d_Signature_finish (v0 : Nat) (v1 : Int) (μ : Mem) (Q : Mem → Prop) : Prop := if μ v0 0 < 0 then (Q μ) else (if μ v0 0 < 8 then ((0 ≤ μ v0 0 ∧ μ v0 0 < 8) ∧ Q (mup (mup μ (v0 + 1) (μ v0 0).toNat v1) v0 0 (wr (((mup μ (v0 + 1) (μ v0 0).toNat v1) v0 0) + 1)))) else (Q μ))
def d_Parser_readSymbol_b63 (v1 : Int) (μ : Mem) (W63 : Int → Mem → Prop) (Q : Bool → Mem → Prop) : Prop := if v1 < μ 72 11 then (d_Parser_byteAt v1 μ (fun r7 => d_Signature_addLetter 73 r7 μ (fun μ10 => W63 (wr (v1 + 1)) μ10))) else (d_Parser_next μ (fun μ12 => d_Parser_readDigit 4 μ12 (fun r13 μ14 => if r13 = true then (d_Parser_digit μ14 (fun r15 => d_Signature_finish 73 r15 μ14 (fun μ18 => d_Parser_next μ18 (fun μ20 => Q true μ20)))) else (Q false μ14))))
def d_Parser_readSymbol_l63 (v1 : Int) (μ : Mem) (Q : Bool → Mem → Prop) : Prop := ∀ W : Int → Mem → Prop, (∀ (v1 : Int) (μ : Mem), d_Parser_readSymbol_b63 v1 μ W Q → W v1 μ) → W v1 μ
def d_Parser_readSymbol (μ : Mem) (Q : Bool → Mem → Prop) : Prop := if μ 73 0 < 8 then (d_Parser_next μ (fun μ2 => if μ2 72 9 = 97 then (d_Parser_symbolOfWord μ2 (fun r3 => if r3 = (-1) then (d_Signature_begin 73 μ2 (fun μ6 => d_Parser_readSymbol_l63 (μ6 72 10) μ6 Q)) else (d_Parser_fail 3 μ2 (fun r21 μ22 => Q r21 μ22)))) else (d_Parser_fail 1 μ2 (fun r23 μ24 => Q r23 μ24)))) else (d_Parser_fail 5 μ (fun r25 μ26 => Q r25 μ26))
theorem i_Parser_readSymbol_l63 {Q : Bool → Mem → Prop} {Inv : Int → Mem → Prop} (f : Int → Mem → Nat) (hi : ∀ (v1 : Int) (μ : Mem), Inv v1 μ → ∀ W : Int → Mem → Prop, (∀ (v1' : Int) (μ' : Mem), Inv v1' μ' → f v1' μ' < f v1 μ → W v1' μ') → d_Parser_readSymbol_b63 v1 μ W Q) : ∀ (v1 : Int) (μ : Mem), Inv v1 μ → d_Parser_readSymbol_l63 v1 μ Q := by
  intro v1 μ hI W hW
  have key : ∀ (n : Nat) (v1 : Int) (μ : Mem), f v1 μ = n → Inv v1 μ → W v1 μ := by
    intro n
    induction n using Nat.strongRecOn with
    | _ n ih =>
      intro v1 μ hf hI
      exact hW _ _ (hi v1 μ hI W fun v1' μ' hI' hl => ih _ (by omega) v1' μ' rfl hI')
  exact key _ v1 μ rfl hI
def d_State_rule (v0 : Nat) (v1 : Int) (μ : Mem) (Q : Nat → Prop) : Prop := if v1 < 0 then (Q (v0 + 3)) else (if v1 < 6 then ((0 ≤ v1 ∧ v1 < 6) ∧ Q (v0 + 1 + (9 + 5 * v1.toNat))) else (Q (v0 + 3)))
def d_Term_clear (v0 : Nat) (μ : Mem) (Q : Mem → Prop) : Prop := Q (mup μ v0 1 0)
def d_Term_variableNode (v0 : Int) (μ : Mem) (Q : Int → Prop) : Prop := Q (wr ((-1) - v0))
def d_Parser_variableOfToken (μ : Mem) (Q : Int → Prop) : Prop := d_Parser_byteAt (μ 72 10) μ (fun r1 => d_Term_variableNode (wr (r1 - 65)) μ (fun r3 => Q r3))
def d_Term_get (v0 : Nat) (v1 : Int) (μ : Mem) (Q : Int → Prop) : Prop := if v1 < 0 then (Q (-2147483648)) else (if v1 < μ v0 1 then (if v1 < (ln (v0 + 1) : Int) then ((0 ≤ v1 ∧ v1 < (ln (v0 + 1) : Int)) ∧ Q (μ (v0 + 1) v1.toNat)) else (Q (-2147483648))) else (Q (-2147483648)))
def d_Term_count_j24 (v0 : Nat) (v1 : Int) (v2 : Int) (v3 : Int) (μ : Mem) (W4 : Int → Int → Prop) (Q : Int → Prop) : Prop := W4 v2 (wr (v3 + 1))
def d_Term_count_b4 (v0 : Nat) (v1 : Int) (v2 : Int) (v3 : Int) (μ : Mem) (W4 : Int → Int → Prop) (Q : Int → Prop) : Prop := if v3 < μ v0 1 then (d_Term_get v0 v3 μ (fun r1 => if r1 = v1 then (d_Term_count_j24 v0 v1 (wr (v2 + 1)) v3 μ W4 Q) else (d_Term_count_j24 v0 v1 v2 v3 μ W4 Q))) else (Q v2)
def d_Term_count_l4 (v0 : Nat) (v1 : Int) (v2 : Int) (v3 : Int) (μ : Mem) (Q : Int → Prop) : Prop := ∀ W : Int → Int → Prop, (∀ (v2 : Int) (v3 : Int), d_Term_count_b4 v0 v1 v2 v3 μ W Q → W v2 v3) → W v2 v3
def d_Term_count (v0 : Nat) (v1 : Int) (μ : Mem) (Q : Int → Prop) : Prop := d_Term_count_l4 v0 v1 0 0 μ Q
theorem i_Term_count_l4 {v0 : Nat} {v1 : Int} {μ : Mem} {Q : Int → Prop} {Inv : Int → Int → Prop} (f : Int → Int → Nat) (hi : ∀ (v2 : Int) (v3 : Int), Inv v2 v3 → ∀ W : Int → Int → Prop, (∀ (v2' : Int) (v3' : Int), Inv v2' v3' → f v2' v3' < f v2 v3 → W v2' v3') → d_Term_count_b4 v0 v1 v2 v3 μ W Q) : ∀ (v2 : Int) (v3 : Int), Inv v2 v3 → d_Term_count_l4 v0 v1 v2 v3 μ Q := by
  intro v2 v3 hI W hW
  have key : ∀ (n : Nat) (v2 : Int) (v3 : Int), f v2 v3 = n → Inv v2 v3 → W v2 v3 := by
    intro n
    induction n using Nat.strongRecOn with
    | _ n ih =>
      intro v2 v3 hf hI
      exact hW _ _ (hi v2 v3 hI W fun v2' v3' hI' hl => ih _ (by omega) v2' v3' rfl hI')
  exact key _ v2 v3 rfl hI
def d_Parser_faultOfNode_j105 (v1 : Nat) (v2 : Int) (μ : Mem) (Q : Int → Prop) : Prop := if μ v1 1 < v2 then (Q 0) else (Q 5)
def d_Parser_faultOfNode_j62 (v1 : Nat) (v2 : Int) (v3 : Int) (μ : Mem) (Q : Int → Prop) : Prop := if μ 72 9 = 65 then (if v3 = 2 then (d_State_rule 77 (μ 77 0) μ (fun r3 => d_Parser_variableOfToken μ (fun r5 => d_Term_count (dp (μ r3 0)) r5 μ (fun r7 => if r7 = 0 then (Q 4) else (d_Parser_faultOfNode_j105 v1 v2 μ Q))))) else (d_Parser_faultOfNode_j105 v1 v2 μ Q)) else (d_Parser_faultOfNode_j105 v1 v2 μ Q)
def d_Parser_faultOfNode_j39 (v1 : Nat) (v2 : Int) (v3 : Int) (μ : Mem) (Q : Int → Prop) : Prop := if μ 72 9 = 65 then (if v3 = 1 then (if μ v1 1 = 0 then (Q 4) else (d_Parser_faultOfNode_j62 v1 v2 v3 μ Q)) else (d_Parser_faultOfNode_j62 v1 v2 v3 μ Q)) else (d_Parser_faultOfNode_j62 v1 v2 v3 μ Q)
def d_Parser_faultOfNode_j20 (v1 : Nat) (v2 : Int) (v3 : Int) (μ : Mem) (Q : Int → Prop) : Prop := if μ 72 9 = 97 then (d_Parser_symbolOfWord μ (fun r1 => if r1 = (-1) then (Q 3) else (d_Parser_faultOfNode_j39 v1 v2 v3 μ Q))) else (d_Parser_faultOfNode_j39 v1 v2 v3 μ Q)
def d_Parser_faultOfNode (v1 : Nat) (v2 : Int) (v3 : Int) (μ : Mem) (Q : Int → Prop) : Prop := if μ 72 9 = 97 then (d_Parser_faultOfNode_j20 v1 v2 v3 μ Q) else (if μ 72 9 = 65 then (d_Parser_faultOfNode_j20 v1 v2 v3 μ Q) else (Q 1))
def d_Signature_arity (v0 : Nat) (v1 : Int) (μ : Mem) (Q : Int → Prop) : Prop := if v1 < 0 then (Q 0) else (if v1 < 8 then ((0 ≤ v1 ∧ v1 < 8) ∧ Q (μ (v0 + 1) v1.toNat)) else (Q 0))
def d_Term_symbolNode (v0 : Int) (v1 : Int) (μ : Mem) (Q : Int → Prop) : Prop := Q (wr ((wr (4 * v0)) + v1))
def d_Parser_nodeOfToken (μ : Mem) (Q : Int → Prop) : Prop := if μ 72 9 = 65 then (d_Parser_variableOfToken μ (fun r1 => Q r1)) else (d_Parser_symbolOfWord μ (fun r3 => d_Signature_arity 73 r3 μ (fun r5 => d_Term_symbolNode r3 r5 μ (fun r7 => Q r7))))
def d_Term_add (v0 : Nat) (v1 : Int) (μ : Mem) (Q : Bool → Mem → Prop) : Prop := if μ v0 1 < 0 then (Q false μ) else (if μ v0 1 < (ln (v0 + 1) : Int) then ((0 ≤ μ v0 1 ∧ μ v0 1 < (ln (v0 + 1) : Int)) ∧ Q true (mup (mup μ (v0 + 1) (μ v0 1).toNat v1) v0 1 (wr (((mup μ (v0 + 1) (μ v0 1).toNat v1) v0 1) + 1)))) else (Q false μ))
def d_Term_arityOf (v0 : Int) (μ : Mem) (Q : Int → Prop) : Prop := if v0 < 0 then (Q 0) else (Q (jand v0 3))
def d_Parser_closeBrackets_j57 (v2 : Int) (v3 : Int) (t0 : Int) (t1 : Int) (μ : Mem) (W4 : Int → Mem → Prop) (Q : Int → Mem → Prop) : Prop := if t0 = t1 then (d_Parser_next μ (fun μ2 => if v3 = 0 then (W4 (wr (v2 + (-1))) μ2) else (Q (wr (v2 + 1)) μ2))) else (d_Parser_fail 1 μ (fun r3 μ4 => Q (-1) μ4))
def d_Parser_closeBrackets_j41 (v2 : Int) (t0 : Int) (μ : Mem) (W4 : Int → Mem → Prop) (Q : Int → Mem → Prop) : Prop := if t0 = 0 then (d_Parser_closeBrackets_j57 v2 t0 (μ 72 9) 41 μ W4 Q) else (d_Parser_closeBrackets_j57 v2 t0 (μ 72 9) 44 μ W4 Q)
def d_Parser_closeBrackets_b4 (v2 : Int) (μ : Mem) (W4 : Int → Mem → Prop) (Q : Int → Mem → Prop) : Prop := if v2 < 0 then (Q 0 μ) else (if v2 < 40 then ((0 ≤ v2 ∧ v2 < 40) ∧ (0 ≤ v2 ∧ v2 < 40) ∧ (0 ≤ v2 ∧ v2 < 40) ∧ if 0 < (mup μ 138 v2.toNat (wr ((μ 138 v2.toNat) - 1))) 138 v2.toNat then (d_Parser_closeBrackets_j41 v2 1 (mup μ 138 v2.toNat (wr ((μ 138 v2.toNat) - 1))) W4 Q) else (d_Parser_closeBrackets_j41 v2 0 (mup μ 138 v2.toNat (wr ((μ 138 v2.toNat) - 1))) W4 Q)) else (Q 0 μ))
def d_Parser_closeBrackets_l4 (v2 : Int) (μ : Mem) (Q : Int → Mem → Prop) : Prop := ∀ W : Int → Mem → Prop, (∀ (v2 : Int) (μ : Mem), d_Parser_closeBrackets_b4 v2 μ W Q → W v2 μ) → W v2 μ
def d_Parser_closeBrackets (v1 : Int) (μ : Mem) (Q : Int → Mem → Prop) : Prop := d_Parser_closeBrackets_l4 (wr (v1 - 1)) μ Q
theorem i_Parser_closeBrackets_l4 {Q : Int → Mem → Prop} {Inv : Int → Mem → Prop} (f : Int → Mem → Nat) (hi : ∀ (v2 : Int) (μ : Mem), Inv v2 μ → ∀ W : Int → Mem → Prop, (∀ (v2' : Int) (μ' : Mem), Inv v2' μ' → f v2' μ' < f v2 μ → W v2' μ') → d_Parser_closeBrackets_b4 v2 μ W Q) : ∀ (v2 : Int) (μ : Mem), Inv v2 μ → d_Parser_closeBrackets_l4 v2 μ Q := by
  intro v2 μ hI W hW
  have key : ∀ (n : Nat) (v2 : Int) (μ : Mem), f v2 μ = n → Inv v2 μ → W v2 μ := by
    intro n
    induction n using Nat.strongRecOn with
    | _ n ih =>
      intro v2 μ hf hI
      exact hW _ _ (hi v2 μ hI W fun v2' μ' hI' hl => ih _ (by omega) v2' μ' rfl hI')
  exact key _ v2 μ rfl hI
def d_Parser_readTerm_j133 (v1 : Nat) (v2 : Int) (v3 : Int) (v4 : Int) (v5 : Int) (μ : Mem) (W10 : Int → Int → Mem → Prop) (Q : Bool → Mem → Prop) : Prop := W10 v4 (wr (v5 + 1)) μ
def d_Parser_readTerm_j81 (μ : Mem) (Q : Bool → Mem → Prop) : Prop := d_Parser_fail 1 μ (fun r19 μ20 => Q r19 μ20)
def d_Parser_readTerm_b10 (v1 : Nat) (v2 : Int) (v3 : Int) (v4 : Int) (v5 : Int) (μ : Mem) (W10 : Int → Int → Mem → Prop) (Q : Bool → Mem → Prop) : Prop := if v2 < v5 then (d_Parser_fail 5 μ (fun r3 μ4 => Q r3 μ4)) else (d_Parser_faultOfNode v1 v2 v3 μ (fun r5 => if r5 = 0 then (d_Parser_nodeOfToken μ (fun r7 => d_Term_add v1 r7 μ (fun r9 μ10 => d_Parser_next μ10 (fun μ12 => d_Term_arityOf r7 μ12 (fun r13 => if 0 < r13 then (if μ12 72 9 = 40 then (if v4 < 40 then (d_Parser_next μ12 (fun μ16 => d_Term_arityOf r7 μ16 (fun r17 => (0 ≤ v4 ∧ v4 < 40) ∧ d_Parser_readTerm_j133 v1 v2 v3 (wr (v4 + 1)) v5 (mup μ16 138 v4.toNat r17) W10 Q))) else (d_Parser_readTerm_j81 μ12 Q)) else (d_Parser_readTerm_j81 μ12 Q)) else (d_Parser_closeBrackets v4 μ12 (fun r21 μ22 => if 0 < r21 then (d_Parser_readTerm_j133 v1 v2 v3 r21 v5 μ22 W10 Q) else (if r21 = 0 then (Q true μ22) else (Q false μ22))))))))) else (d_Parser_fail r5 μ (fun r23 μ24 => Q r23 μ24))))
def d_Parser_readTerm_l10 (v1 : Nat) (v2 : Int) (v3 : Int) (v4 : Int) (v5 : Int) (μ : Mem) (Q : Bool → Mem → Prop) : Prop := ∀ W : Int → Int → Mem → Prop, (∀ (v4 : Int) (v5 : Int) (μ : Mem), d_Parser_readTerm_b10 v1 v2 v3 v4 v5 μ W Q → W v4 v5 μ) → W v4 v5 μ
def d_Parser_readTerm (v1 : Nat) (v2 : Int) (v3 : Int) (μ : Mem) (Q : Bool → Mem → Prop) : Prop := d_Term_clear v1 μ (fun μ2 => d_Parser_readTerm_l10 v1 v2 v3 0 0 μ2 Q)
theorem i_Parser_readTerm_l10 {v1 : Nat} {v2 : Int} {v3 : Int} {Q : Bool → Mem → Prop} {Inv : Int → Int → Mem → Prop} (f : Int → Int → Mem → Nat) (hi : ∀ (v4 : Int) (v5 : Int) (μ : Mem), Inv v4 v5 μ → ∀ W : Int → Int → Mem → Prop, (∀ (v4' : Int) (v5' : Int) (μ' : Mem), Inv v4' v5' μ' → f v4' v5' μ' < f v4 v5 μ → W v4' v5' μ') → d_Parser_readTerm_b10 v1 v2 v3 v4 v5 μ W Q) : ∀ (v4 : Int) (v5 : Int) (μ : Mem), Inv v4 v5 μ → d_Parser_readTerm_l10 v1 v2 v3 v4 v5 μ Q := by
  intro v4 v5 μ hI W hW
  have key : ∀ (n : Nat) (v4 : Int) (v5 : Int) (μ : Mem), f v4 v5 μ = n → Inv v4 v5 μ → W v4 v5 μ := by
    intro n
    induction n using Nat.strongRecOn with
    | _ n ih =>
      intro v4 v5 μ hf hI
      exact hW _ _ _ (hi v4 v5 μ hI W fun v4' v5' μ' hI' hl => ih _ (by omega) v4' v5' μ' rfl hI')
  exact key _ v4 v5 μ rfl hI
def d_Parser_readRule (μ : Mem) (Q : Bool → Mem → Prop) : Prop := if μ 77 0 < 6 then (d_Parser_next μ (fun μ2 => d_State_rule 77 (μ2 77 0) μ2 (fun r3 => d_Parser_readTerm (dp (μ2 r3 0)) 12 1 μ2 (fun r5 μ6 => if r5 = true then (if μ6 72 9 = 61 then (d_Parser_next μ6 (fun μ8 => d_Parser_readTerm (dp (μ8 r3 1)) 12 2 μ8 (fun r9 μ10 => if r9 = true then (Q true (mup μ10 77 0 (wr ((μ10 77 0) + 1)))) else (Q false μ10)))) else (d_Parser_fail 1 μ6 (fun r11 μ12 => Q r11 μ12))) else (Q false μ6))))) else (d_Parser_fail 5 μ (fun r13 μ14 => Q r13 μ14))
def d_State_term (v0 : Nat) (v1 : Int) (μ : Mem) (Q : Nat → Prop) : Prop := if v1 < 0 then (Q (v0 + 8)) else (if v1 < 6 then ((0 ≤ v1 ∧ v1 < 6) ∧ Q (v0 + 2 + (38 + 2 * v1.toNat))) else (Q (v0 + 8)))
def d_Parser_readPlainTerm (μ : Mem) (Q : Bool → Mem → Prop) : Prop := if μ 77 1 < 6 then (d_Parser_next μ (fun μ2 => d_State_term 77 (μ2 77 1) μ2 (fun r3 => d_Parser_readTerm r3 40 0 μ2 (fun r5 μ6 => if r5 = true then (Q true (mup μ6 77 1 (wr ((μ6 77 1) + 1)))) else (Q false μ6))))) else (d_Parser_fail 5 μ (fun r7 μ8 => Q r7 μ8))
def d_Term_addPart_b3 (v0 : Nat) (v1 : Nat) (v3 : Int) (v4 : Int) (μ : Mem) (W3 : Int → Mem → Prop) (Q : Bool → Mem → Prop) : Prop := if v4 < v3 then (d_Term_get v1 v4 μ (fun r1 => d_Term_add v0 r1 μ (fun r3 μ4 => if r3 = true then (W3 (wr (v4 + 1)) μ4) else (Q false μ4)))) else (Q true μ)
def d_Term_addPart_l3 (v0 : Nat) (v1 : Nat) (v3 : Int) (v4 : Int) (μ : Mem) (Q : Bool → Mem → Prop) : Prop := ∀ W : Int → Mem → Prop, (∀ (v4 : Int) (μ : Mem), d_Term_addPart_b3 v0 v1 v3 v4 μ W Q → W v4 μ) → W v4 μ
def d_Term_addPart (v0 : Nat) (v1 : Nat) (v2 : Int) (v3 : Int) (μ : Mem) (Q : Bool → Mem → Prop) : Prop := d_Term_addPart_l3 v0 v1 v3 v2 μ Q
theorem i_Term_addPart_l3 {v0 : Nat} {v1 : Nat} {v3 : Int} {Q : Bool → Mem → Prop} {Inv : Int → Mem → Prop} (f : Int → Mem → Nat) (hi : ∀ (v4 : Int) (μ : Mem), Inv v4 μ → ∀ W : Int → Mem → Prop, (∀ (v4' : Int) (μ' : Mem), Inv v4' μ' → f v4' μ' < f v4 μ → W v4' μ') → d_Term_addPart_b3 v0 v1 v3 v4 μ W Q) : ∀ (v4 : Int) (μ : Mem), Inv v4 μ → d_Term_addPart_l3 v0 v1 v3 v4 μ Q := by
  intro v4 μ hI W hW
  have key : ∀ (n : Nat) (v4 : Int) (μ : Mem), f v4 μ = n → Inv v4 μ → W v4 μ := by
    intro n
    induction n using Nat.strongRecOn with
    | _ n ih =>
      intro v4 μ hf hI
      exact hW _ _ (hi v4 μ hI W fun v4' μ' hI' hl => ih _ (by omega) v4' μ' rfl hI')
  exact key _ v4 μ rfl hI
def d_State_addTerm (v0 : Nat) (v1 : Nat) (v2 : Int) (v3 : Int) (μ : Mem) (Q : Mem → Prop) : Prop := if μ v0 1 < 6 then (d_State_term v0 (μ v0 1) μ (fun r1 => d_Term_clear r1 μ (fun μ4 => d_Term_addPart r1 v1 v2 v3 μ4 (fun r5 μ6 => Q (mup μ6 v0 1 (wr ((μ6 v0 1) + 1))))))) else (Q μ)
def d_Parser_readCopy (μ : Mem) (Q : Bool → Mem → Prop) : Prop := if μ 77 1 < 6 then (d_Parser_next μ (fun μ2 => d_Parser_readDigit (μ2 77 1) μ2 (fun r3 μ4 => if r3 = true then (d_Parser_digit μ4 (fun r5 => d_State_term 77 r5 μ4 (fun r7 => d_State_addTerm 77 r7 0 (μ4 r7 1) μ4 (fun μ10 => d_Parser_next μ10 (fun μ12 => Q true μ12))))) else (Q false μ4)))) else (d_Parser_fail 5 μ (fun r13 μ14 => Q r13 μ14))
def d_Rule_canTurn_j52 (v0 : Nat) (v1 : Int) (μ : Mem) (W15 : Int → Prop) (Q : Bool → Prop) : Prop := W15 (wr (v1 + 1))
def d_Rule_canTurn_b15 (v0 : Nat) (v1 : Int) (μ : Mem) (W15 : Int → Prop) (Q : Bool → Prop) : Prop := if v1 < μ (dp (μ v0 0)) 1 then (d_Term_get (dp (μ v0 0)) v1 μ (fun r3 => if r3 < 0 then (d_Term_count (dp (μ v0 1)) r3 μ (fun r5 => if r5 = 0 then (Q false) else (d_Rule_canTurn_j52 v0 v1 μ W15 Q))) else (d_Rule_canTurn_j52 v0 v1 μ W15 Q))) else (Q true)
def d_Rule_canTurn_l15 (v0 : Nat) (v1 : Int) (μ : Mem) (Q : Bool → Prop) : Prop := ∀ W : Int → Prop, (∀ (v1 : Int), d_Rule_canTurn_b15 v0 v1 μ W Q → W v1) → W v1
def d_Rule_canTurn (v0 : Nat) (μ : Mem) (Q : Bool → Prop) : Prop := d_Term_get (dp (μ v0 1)) 0 μ (fun r1 => if r1 < 0 then (Q false) else (d_Rule_canTurn_l15 v0 0 μ Q))
theorem i_Rule_canTurn_l15 {v0 : Nat} {μ : Mem} {Q : Bool → Prop} {Inv : Int → Prop} (f : Int → Nat) (hi : ∀ (v1 : Int), Inv v1 → ∀ W : Int → Prop, (∀ (v1' : Int), Inv v1' → f v1' < f v1 → W v1') → d_Rule_canTurn_b15 v0 v1 μ W Q) : ∀ (v1 : Int), Inv v1 → d_Rule_canTurn_l15 v0 v1 μ Q := by
  intro v1 hI W hW
  have key : ∀ (n : Nat) (v1 : Int), f v1 = n → Inv v1 → W v1 := by
    intro n
    induction n using Nat.strongRecOn with
    | _ n ih =>
      intro v1 hf hI
      exact hW _ (hi v1 hI W fun v1' hI' hl => ih _ (by omega) v1' rfl hI')
  exact key _ v1 rfl hI
def d_Rule_turn (v0 : Nat) (μ : Mem) (Q : Mem → Prop) : Prop := Q (mup (mup μ v0 0 ((dp (μ v0 1)) : Int)) v0 1 ((dp (μ v0 0)) : Int))
def d_Parser_readFlip (μ : Mem) (Q : Bool → Mem → Prop) : Prop := d_Parser_next μ (fun μ2 => d_Parser_readDigit (μ2 77 0) μ2 (fun r3 μ4 => if r3 = true then (d_Parser_digit μ4 (fun r5 => d_State_rule 77 r5 μ4 (fun r7 => d_Rule_canTurn r7 μ4 (fun r9 => if r9 = true then (d_Rule_turn r7 μ4 (fun μ12 => d_Parser_next μ12 (fun μ14 => Q true μ14))) else (d_Parser_fail 4 μ4 (fun r15 μ16 => Q r15 μ16)))))) else (Q false μ4)))
def d_Arrays_fill_b5 (v0 : Nat) (v1 : Int) (v3 : Int) (v2 : Int) (μ : Mem) (W5 : Int → Mem → Prop) (Q : Mem → Prop) : Prop := if v2 < v3 then ((0 ≤ v2 ∧ v2 < (ln v0 : Int)) ∧ W5 (wr (v2 + 1)) (mup μ v0 v2.toNat v1)) else (Q μ)
def d_Arrays_fill_l5 (v0 : Nat) (v1 : Int) (v3 : Int) (v2 : Int) (μ : Mem) (Q : Mem → Prop) : Prop := ∀ W : Int → Mem → Prop, (∀ (v2 : Int) (μ : Mem), d_Arrays_fill_b5 v0 v1 v3 v2 μ W Q → W v2 μ) → W v2 μ
def d_Arrays_fill (v0 : Nat) (v1 : Int) (μ : Mem) (Q : Mem → Prop) : Prop := d_Arrays_fill_l5 v0 v1 (ln v0 : Int) 0 μ Q
theorem i_Arrays_fill_l5 {v0 : Nat} {v1 : Int} {v3 : Int} {Q : Mem → Prop} {Inv : Int → Mem → Prop} (f : Int → Mem → Nat) (hi : ∀ (v2 : Int) (μ : Mem), Inv v2 μ → ∀ W : Int → Mem → Prop, (∀ (v2' : Int) (μ' : Mem), Inv v2' μ' → f v2' μ' < f v2 μ → W v2' μ') → d_Arrays_fill_b5 v0 v1 v3 v2 μ W Q) : ∀ (v2 : Int) (μ : Mem), Inv v2 μ → d_Arrays_fill_l5 v0 v1 v3 v2 μ Q := by
  intro v2 μ hI W hW
  have key : ∀ (n : Nat) (v2 : Int) (μ : Mem), f v2 μ = n → Inv v2 μ → W v2 μ := by
    intro n
    induction n using Nat.strongRecOn with
    | _ n ih =>
      intro v2 μ hf hI
      exact hW _ _ (hi v2 μ hI W fun v2' μ' hI' hl => ih _ (by omega) v2' μ' rfl hI')
  exact key _ v2 μ rfl hI
def d_Term_sameParts_j101 (v0 : Nat) (v4 : Int) (v5 : Int) (t0 : Int) (t1 : Int) (μ : Mem) (W8 : Int → Int → Int → Prop) (Q : Bool → Prop) : Prop := if wr (t0 + t1) = 0 then (Q true) else (W8 (wr (t0 + t1)) (wr (v4 + 1)) (wr (v5 + 1)))
def d_Term_sameParts_b8 (v0 : Nat) (v3 : Int) (v4 : Int) (v5 : Int) (μ : Mem) (W8 : Int → Int → Int → Prop) (Q : Bool → Prop) : Prop := if v5 < 0 then (Q false) else (if v5 < μ v0 1 then (if v5 < (ln (v0 + 1) : Int) then (if v4 < 0 then (Q false) else (if v4 < μ v0 1 then (if v4 < (ln (v0 + 1) : Int) then ((0 ≤ v5 ∧ v5 < (ln (v0 + 1) : Int)) ∧ (0 ≤ v4 ∧ v4 < (ln (v0 + 1) : Int)) ∧ if μ (v0 + 1) v5.toNat = μ (v0 + 1) v4.toNat then ((0 ≤ v5 ∧ v5 < (ln (v0 + 1) : Int)) ∧ if μ (v0 + 1) v5.toNat < 0 then (d_Term_sameParts_j101 v0 v4 v5 v3 (-1) μ W8 Q) else ((0 ≤ v5 ∧ v5 < (ln (v0 + 1) : Int)) ∧ d_Term_sameParts_j101 v0 v4 v5 v3 (wr ((jand (μ (v0 + 1) v5.toNat) 3) - 1)) μ W8 Q)) else (Q false)) else (Q false)) else (Q false))) else (Q false)) else (Q false))
def d_Term_sameParts_l8 (v0 : Nat) (v3 : Int) (v4 : Int) (v5 : Int) (μ : Mem) (Q : Bool → Prop) : Prop := ∀ W : Int → Int → Int → Prop, (∀ (v3 : Int) (v4 : Int) (v5 : Int), d_Term_sameParts_b8 v0 v3 v4 v5 μ W Q → W v3 v4 v5) → W v3 v4 v5
def d_Term_sameParts (v0 : Nat) (v1 : Int) (v2 : Int) (μ : Mem) (Q : Bool → Prop) : Prop := d_Term_sameParts_l8 v0 1 v2 v1 μ Q
theorem i_Term_sameParts_l8 {v0 : Nat} {μ : Mem} {Q : Bool → Prop} {Inv : Int → Int → Int → Prop} (f : Int → Int → Int → Nat) (hi : ∀ (v3 : Int) (v4 : Int) (v5 : Int), Inv v3 v4 v5 → ∀ W : Int → Int → Int → Prop, (∀ (v3' : Int) (v4' : Int) (v5' : Int), Inv v3' v4' v5' → f v3' v4' v5' < f v3 v4 v5 → W v3' v4' v5') → d_Term_sameParts_b8 v0 v3 v4 v5 μ W Q) : ∀ (v3 : Int) (v4 : Int) (v5 : Int), Inv v3 v4 v5 → d_Term_sameParts_l8 v0 v3 v4 v5 μ Q := by
  intro v3 v4 v5 hI W hW
  have key : ∀ (n : Nat) (v3 : Int) (v4 : Int) (v5 : Int), f v3 v4 v5 = n → Inv v3 v4 v5 → W v3 v4 v5 := by
    intro n
    induction n using Nat.strongRecOn with
    | _ n ih =>
      intro v3 v4 v5 hf hI
      exact hW _ _ _ (hi v3 v4 v5 hI W fun v3' v4' v5' hI' hl => ih _ (by omega) v3' v4' v5' rfl hI')
  exact key _ v3 v4 v5 rfl hI
def d_Term_end_j49 (v0 : Nat) (v3 : Int) (t0 : Int) (t1 : Int) (μ : Mem) (W4 : Int → Int → Prop) (Q : Int → Prop) : Prop := if wr (t0 + t1) = 0 then (Q (wr (v3 + 1))) else (W4 (wr (t0 + t1)) (wr (v3 + 1)))
def d_Term_end_b4 (v0 : Nat) (v2 : Int) (v3 : Int) (μ : Mem) (W4 : Int → Int → Prop) (Q : Int → Prop) : Prop := if v3 < 0 then (Q (μ v0 1)) else (if v3 < μ v0 1 then (if v3 < (ln (v0 + 1) : Int) then ((0 ≤ v3 ∧ v3 < (ln (v0 + 1) : Int)) ∧ if μ (v0 + 1) v3.toNat < 0 then (d_Term_end_j49 v0 v3 v2 (-1) μ W4 Q) else (d_Term_end_j49 v0 v3 v2 (wr ((jand (μ (v0 + 1) v3.toNat) 3) - 1)) μ W4 Q)) else (Q (μ v0 1))) else (Q (μ v0 1)))
def d_Term_end_l4 (v0 : Nat) (v2 : Int) (v3 : Int) (μ : Mem) (Q : Int → Prop) : Prop := ∀ W : Int → Int → Prop, (∀ (v2 : Int) (v3 : Int), d_Term_end_b4 v0 v2 v3 μ W Q → W v2 v3) → W v2 v3
def d_Term_end (v0 : Nat) (v1 : Int) (μ : Mem) (Q : Int → Prop) : Prop := d_Term_end_l4 v0 1 v1 μ Q
theorem i_Term_end_l4 {v0 : Nat} {μ : Mem} {Q : Int → Prop} {Inv : Int → Int → Prop} (f : Int → Int → Nat) (hi : ∀ (v2 : Int) (v3 : Int), Inv v2 v3 → ∀ W : Int → Int → Prop, (∀ (v2' : Int) (v3' : Int), Inv v2' v3' → f v2' v3' < f v2 v3 → W v2' v3') → d_Term_end_b4 v0 v2 v3 μ W Q) : ∀ (v2 : Int) (v3 : Int), Inv v2 v3 → d_Term_end_l4 v0 v2 v3 μ Q := by
  intro v2 v3 hI W hW
  have key : ∀ (n : Nat) (v2 : Int) (v3 : Int), f v2 v3 = n → Inv v2 v3 → W v2 v3 := by
    intro n
    induction n using Nat.strongRecOn with
    | _ n ih =>
      intro v2 v3 hf hI
      exact hW _ _ (hi v2 v3 hI W fun v2' v3' hI' hl => ih _ (by omega) v2' v3' rfl hI')
  exact key _ v2 v3 rfl hI
def d_Rewriter_match_j135 (v0 : Nat) (v2 : Nat) (v4 : Nat) (v5 : Int) (v6 : Int) (μ : Mem) (W20 : Int → Int → Mem → Prop) (Q : Bool → Mem → Prop) : Prop := W20 v5 (wr (v6 + 1)) μ
def d_Rewriter_match_j127 (v0 : Nat) (v2 : Nat) (v4 : Nat) (v5 : Int) (v6 : Int) (μ : Mem) (W20 : Int → Int → Mem → Prop) (Q : Bool → Mem → Prop) : Prop := d_Term_end v2 v5 μ (fun r5 => d_Rewriter_match_j135 v0 v2 v4 r5 v6 μ W20 Q)
def d_Rewriter_match_b20 (v0 : Nat) (v2 : Nat) (v4 : Nat) (v5 : Int) (v6 : Int) (μ : Mem) (W20 : Int → Int → Mem → Prop) (Q : Bool → Mem → Prop) : Prop := if v6 < μ v4 1 then (d_Term_get v4 v6 μ (fun r3 => if r3 < 0 then (if wr ((-1) - r3) < 0 then (Q false μ) else (if wr ((-1) - r3) < 8 then ((0 ≤ wr ((-1) - r3) ∧ wr ((-1) - r3) < 8) ∧ if μ (v0 + 7) (wr ((-1) - r3)).toNat = (-1) then ((0 ≤ wr ((-1) - r3) ∧ wr ((-1) - r3) < 8) ∧ d_Rewriter_match_j127 v0 v2 v4 v5 v6 (mup μ (v0 + 7) (wr ((-1) - r3)).toNat v5) W20 Q) else ((0 ≤ wr ((-1) - r3) ∧ wr ((-1) - r3) < 8) ∧ d_Term_sameParts v2 (μ (v0 + 7) (wr ((-1) - r3)).toNat) v5 μ (fun r7 => if r7 = true then (d_Rewriter_match_j127 v0 v2 v4 v5 v6 μ W20 Q) else (Q false μ)))) else (Q false μ))) else (d_Term_get v2 v5 μ (fun r9 => if r9 = r3 then (d_Rewriter_match_j135 v0 v2 v4 (wr (v5 + 1)) v6 μ W20 Q) else (Q false μ))))) else (Q true μ)
def d_Rewriter_match_l20 (v0 : Nat) (v2 : Nat) (v4 : Nat) (v5 : Int) (v6 : Int) (μ : Mem) (Q : Bool → Mem → Prop) : Prop := ∀ W : Int → Int → Mem → Prop, (∀ (v5 : Int) (v6 : Int) (μ : Mem), d_Rewriter_match_b20 v0 v2 v4 v5 v6 μ W Q → W v5 v6 μ) → W v5 v6 μ
def d_Rewriter_match (v0 : Nat) (v1 : Nat) (v2 : Nat) (v3 : Int) (μ : Mem) (Q : Bool → Mem → Prop) : Prop := d_Arrays_fill (v0 + 7) (-1) μ (fun μ2 => d_Rewriter_match_l20 v0 v2 (dp (μ2 v1 0)) v3 0 μ2 Q)
theorem i_Rewriter_match_l20 {v0 : Nat} {v2 : Nat} {v4 : Nat} {Q : Bool → Mem → Prop} {Inv : Int → Int → Mem → Prop} (f : Int → Int → Mem → Nat) (hi : ∀ (v5 : Int) (v6 : Int) (μ : Mem), Inv v5 v6 μ → ∀ W : Int → Int → Mem → Prop, (∀ (v5' : Int) (v6' : Int) (μ' : Mem), Inv v5' v6' μ' → f v5' v6' μ' < f v5 v6 μ → W v5' v6' μ') → d_Rewriter_match_b20 v0 v2 v4 v5 v6 μ W Q) : ∀ (v5 : Int) (v6 : Int) (μ : Mem), Inv v5 v6 μ → d_Rewriter_match_l20 v0 v2 v4 v5 v6 μ Q := by
  intro v5 v6 μ hI W hW
  have key : ∀ (n : Nat) (v5 : Int) (v6 : Int) (μ : Mem), f v5 v6 μ = n → Inv v5 v6 μ → W v5 v6 μ := by
    intro n
    induction n using Nat.strongRecOn with
    | _ n ih =>
      intro v5 v6 μ hf hI
      exact hW _ _ _ (hi v5 v6 μ hI W fun v5' v6' μ' hI' hl => ih _ (by omega) v5' v6' μ' rfl hI')
  exact key _ v5 v6 μ rfl hI
def d_Rewriter_firstRule_b3 (v0 : Nat) (v1 : Nat) (v2 : Nat) (v3 : Int) (v4 : Int) (μ : Mem) (W3 : Int → Mem → Prop) (Q : Int → Mem → Prop) : Prop := if v4 < μ v1 0 then (d_State_rule v1 v4 μ (fun r1 => d_Rewriter_match v0 r1 v2 v3 μ (fun r3 μ4 => if r3 = true then (Q v4 μ4) else (W3 (wr (v4 + 1)) μ4)))) else (Q (-1) μ)
def d_Rewriter_firstRule_l3 (v0 : Nat) (v1 : Nat) (v2 : Nat) (v3 : Int) (v4 : Int) (μ : Mem) (Q : Int → Mem → Prop) : Prop := ∀ W : Int → Mem → Prop, (∀ (v4 : Int) (μ : Mem), d_Rewriter_firstRule_b3 v0 v1 v2 v3 v4 μ W Q → W v4 μ) → W v4 μ
def d_Rewriter_firstRule (v0 : Nat) (v1 : Nat) (v2 : Nat) (v3 : Int) (μ : Mem) (Q : Int → Mem → Prop) : Prop := d_Rewriter_firstRule_l3 v0 v1 v2 v3 0 μ Q
theorem i_Rewriter_firstRule_l3 {v0 : Nat} {v1 : Nat} {v2 : Nat} {v3 : Int} {Q : Int → Mem → Prop} {Inv : Int → Mem → Prop} (f : Int → Mem → Nat) (hi : ∀ (v4 : Int) (μ : Mem), Inv v4 μ → ∀ W : Int → Mem → Prop, (∀ (v4' : Int) (μ' : Mem), Inv v4' μ' → f v4' μ' < f v4 μ → W v4' μ') → d_Rewriter_firstRule_b3 v0 v1 v2 v3 v4 μ W Q) : ∀ (v4 : Int) (μ : Mem), Inv v4 μ → d_Rewriter_firstRule_l3 v0 v1 v2 v3 v4 μ Q := by
  intro v4 μ hI W hW
  have key : ∀ (n : Nat) (v4 : Int) (μ : Mem), f v4 μ = n → Inv v4 μ → W v4 μ := by
    intro n
    induction n using Nat.strongRecOn with
    | _ n ih =>
      intro v4 μ hf hI
      exact hW _ _ (hi v4 μ hI W fun v4' μ' hI' hl => ih _ (by omega) v4' μ' rfl hI')
  exact key _ v4 μ rfl hI
def d_Rewriter_redex_j59 (v0 : Nat) (v1 : Nat) (v2 : Nat) (v3 : Int) (v4 : Int) (v5 : Int) (v6 : Int) (μ : Mem) (W12 : Int → Int → Int → Mem → Prop) (Q : Int → Mem → Prop) : Prop := W12 v4 v5 (wr (v6 + 1)) μ
def d_Rewriter_redex_b12 (v0 : Nat) (v1 : Nat) (v2 : Nat) (v3 : Int) (v4 : Int) (v5 : Int) (v6 : Int) (μ : Mem) (W12 : Int → Int → Int → Mem → Prop) (Q : Int → Mem → Prop) : Prop := if v6 < μ v2 1 then (if v6 < v5 then (d_Rewriter_firstRule v0 v1 v2 v6 μ (fun r1 μ2 => if r1 = (-1) then (d_Rewriter_redex_j59 v0 v1 v2 v3 v4 v5 v6 μ2 W12 Q) else (if v3 = 0 then (Q v6 μ2) else (d_Term_end v2 v6 μ2 (fun r3 => d_Rewriter_redex_j59 v0 v1 v2 v3 v6 r3 v6 μ2 W12 Q))))) else (Q v4 μ)) else (Q v4 μ)
def d_Rewriter_redex_l12 (v0 : Nat) (v1 : Nat) (v2 : Nat) (v3 : Int) (v4 : Int) (v5 : Int) (v6 : Int) (μ : Mem) (Q : Int → Mem → Prop) : Prop := ∀ W : Int → Int → Int → Mem → Prop, (∀ (v4 : Int) (v5 : Int) (v6 : Int) (μ : Mem), d_Rewriter_redex_b12 v0 v1 v2 v3 v4 v5 v6 μ W Q → W v4 v5 v6 μ) → W v4 v5 v6 μ
def d_Rewriter_redex (v0 : Nat) (v1 : Nat) (v2 : Nat) (v3 : Int) (μ : Mem) (Q : Int → Mem → Prop) : Prop := d_Rewriter_redex_l12 v0 v1 v2 v3 (-1) (μ v2 1) 0 μ Q
theorem i_Rewriter_redex_l12 {v0 : Nat} {v1 : Nat} {v2 : Nat} {v3 : Int} {Q : Int → Mem → Prop} {Inv : Int → Int → Int → Mem → Prop} (f : Int → Int → Int → Mem → Nat) (hi : ∀ (v4 : Int) (v5 : Int) (v6 : Int) (μ : Mem), Inv v4 v5 v6 μ → ∀ W : Int → Int → Int → Mem → Prop, (∀ (v4' : Int) (v5' : Int) (v6' : Int) (μ' : Mem), Inv v4' v5' v6' μ' → f v4' v5' v6' μ' < f v4 v5 v6 μ → W v4' v5' v6' μ') → d_Rewriter_redex_b12 v0 v1 v2 v3 v4 v5 v6 μ W Q) : ∀ (v4 : Int) (v5 : Int) (v6 : Int) (μ : Mem), Inv v4 v5 v6 μ → d_Rewriter_redex_l12 v0 v1 v2 v3 v4 v5 v6 μ Q := by
  intro v4 v5 v6 μ hI W hW
  have key : ∀ (n : Nat) (v4 : Int) (v5 : Int) (v6 : Int) (μ : Mem), f v4 v5 v6 μ = n → Inv v4 v5 v6 μ → W v4 v5 v6 μ := by
    intro n
    induction n using Nat.strongRecOn with
    | _ n ih =>
      intro v4 v5 v6 μ hf hI
      exact hW _ _ _ _ (hi v4 v5 v6 μ hI W fun v4' v5' v6' μ' hI' hl => ih _ (by omega) v4' v5' v6' μ' rfl hI')
  exact key _ v4 v5 v6 μ rfl hI
def d_Rewriter_build_j153 (v0 : Nat) (v2 : Nat) (v3 : Int) (v4 : Int) (μ : Mem) (Q : Bool → Mem → Prop) : Prop := if v4 = 0 then (Q false μ) else (d_Term_end v2 v3 μ (fun r7 => d_Term_addPart (v0 + 1) v2 r7 (μ v2 1) μ (fun r9 μ10 => if r9 = true then (Q true μ10) else (Q false μ10))))
def d_Rewriter_build_j147 (v0 : Nat) (v1 : Nat) (v2 : Nat) (v3 : Int) (v4 : Int) (v5 : Int) (μ : Mem) (W34 : Int → Int → Mem → Prop) (Q : Bool → Mem → Prop) : Prop := W34 v4 (wr (v5 + 1)) μ
def d_Rewriter_build_j145 (v0 : Nat) (v1 : Nat) (v2 : Nat) (v3 : Int) (v5 : Int) (t0 : Int) (μ : Mem) (W34 : Int → Int → Mem → Prop) (Q : Bool → Mem → Prop) : Prop := d_Rewriter_build_j147 v0 v1 v2 v3 t0 v5 μ W34 Q
def d_Rewriter_build_j144 (v0 : Nat) (v1 : Nat) (v2 : Nat) (v3 : Int) (v5 : Int) (μ : Mem) (W34 : Int → Int → Mem → Prop) (Q : Bool → Mem → Prop) : Prop := d_Rewriter_build_j145 v0 v1 v2 v3 v5 0 μ W34 Q
def d_Rewriter_build_j113 (v0 : Nat) (v1 : Nat) (v2 : Nat) (v3 : Int) (v5 : Int) (t0 : Int) (μ : Mem) (W34 : Int → Int → Mem → Prop) (Q : Bool → Mem → Prop) : Prop := if t0 = (-1) then (d_Rewriter_build_j144 v0 v1 v2 v3 v5 μ W34 Q) else (d_Term_end v2 t0 μ (fun r13 => d_Term_addPart (v0 + 1) v2 t0 r13 μ (fun r15 μ16 => if r15 = true then (d_Rewriter_build_j145 v0 v1 v2 v3 v5 1 μ16 W34 Q) else (d_Rewriter_build_j144 v0 v1 v2 v3 v5 μ16 W34 Q))))
def d_Rewriter_build_j112 (v0 : Nat) (v1 : Nat) (v2 : Nat) (v3 : Int) (v5 : Int) (μ : Mem) (W34 : Int → Int → Mem → Prop) (Q : Bool → Mem → Prop) : Prop := d_Rewriter_build_j113 v0 v1 v2 v3 v5 (-1) μ W34 Q
def d_Rewriter_build_b34 (v0 : Nat) (v1 : Nat) (v2 : Nat) (v3 : Int) (v4 : Int) (v5 : Int) (μ : Mem) (W34 : Int → Int → Mem → Prop) (Q : Bool → Mem → Prop) : Prop := if v4 = 0 then (d_Rewriter_build_j153 v0 v2 v3 v4 μ Q) else (if v5 < μ (dp (μ v1 1)) 1 then (d_Term_get (dp (μ v1 1)) v5 μ (fun r11 => if r11 < 0 then (if wr ((-1) - r11) < 0 then (d_Rewriter_build_j112 v0 v1 v2 v3 v5 μ W34 Q) else (if wr ((-1) - r11) < 8 then ((0 ≤ wr ((-1) - r11) ∧ wr ((-1) - r11) < 8) ∧ d_Rewriter_build_j113 v0 v1 v2 v3 v5 (μ (v0 + 7) (wr ((-1) - r11)).toNat) μ W34 Q) else (d_Rewriter_build_j112 v0 v1 v2 v3 v5 μ W34 Q))) else (d_Term_add (v0 + 1) r11 μ (fun r17 μ18 => d_Rewriter_build_j147 v0 v1 v2 v3 (b2i r17) v5 μ18 W34 Q)))) else (d_Rewriter_build_j153 v0 v2 v3 v4 μ Q))
def d_Rewriter_build_l34 (v0 : Nat) (v1 : Nat) (v2 : Nat) (v3 : Int) (v4 : Int) (v5 : Int) (μ : Mem) (Q : Bool → Mem → Prop) : Prop := ∀ W : Int → Int → Mem → Prop, (∀ (v4 : Int) (v5 : Int) (μ : Mem), d_Rewriter_build_b34 v0 v1 v2 v3 v4 v5 μ W Q → W v4 v5 μ) → W v4 v5 μ
def d_Rewriter_build (v0 : Nat) (v1 : Nat) (v2 : Nat) (v3 : Int) (μ : Mem) (Q : Bool → Mem → Prop) : Prop := d_Rewriter_match v0 v1 v2 v3 μ (fun r1 μ2 => if r1 = true then (d_Term_clear (v0 + 1) μ2 (fun μ4 => d_Term_addPart (v0 + 1) v2 0 v3 μ4 (fun r5 μ6 => d_Rewriter_build_l34 v0 v1 v2 v3 (b2i r5) 0 μ6 Q))) else (Q false μ2))
theorem i_Rewriter_build_l34 {v0 : Nat} {v1 : Nat} {v2 : Nat} {v3 : Int} {Q : Bool → Mem → Prop} {Inv : Int → Int → Mem → Prop} (f : Int → Int → Mem → Nat) (hi : ∀ (v4 : Int) (v5 : Int) (μ : Mem), Inv v4 v5 μ → ∀ W : Int → Int → Mem → Prop, (∀ (v4' : Int) (v5' : Int) (μ' : Mem), Inv v4' v5' μ' → f v4' v5' μ' < f v4 v5 μ → W v4' v5' μ') → d_Rewriter_build_b34 v0 v1 v2 v3 v4 v5 μ W Q) : ∀ (v4 : Int) (v5 : Int) (μ : Mem), Inv v4 v5 μ → d_Rewriter_build_l34 v0 v1 v2 v3 v4 v5 μ Q := by
  intro v4 v5 μ hI W hW
  have key : ∀ (n : Nat) (v4 : Int) (v5 : Int) (μ : Mem), f v4 v5 μ = n → Inv v4 v5 μ → W v4 v5 μ := by
    intro n
    induction n using Nat.strongRecOn with
    | _ n ih =>
      intro v4 v5 μ hf hI
      exact hW _ _ _ (hi v4 v5 μ hI W fun v4' v5' μ' hI' hl => ih _ (by omega) v4' v5' μ' rfl hI')
  exact key _ v4 v5 μ rfl hI
def d_Rewriter_buildFirst (v0 : Nat) (v1 : Nat) (v2 : Nat) (v3 : Int) (μ : Mem) (Q : Bool → Mem → Prop) : Prop := d_Rewriter_firstRule v0 v1 v2 v3 μ (fun r1 μ2 => if r1 = (-1) then (Q false μ2) else (d_State_rule v1 r1 μ2 (fun r3 => d_Rewriter_build v0 r3 v2 v3 μ2 (fun r5 μ6 => if r5 = true then (Q true μ6) else (Q false μ6)))))
def d_Rewriter_step (v0 : Nat) (v1 : Nat) (v2 : Nat) (v3 : Int) (μ : Mem) (Q : Int → Mem → Prop) : Prop := d_Rewriter_redex v0 v1 v2 v3 μ (fun r1 μ2 => if r1 = (-1) then (Q (-1) μ2) else (d_Rewriter_buildFirst v0 v1 v2 r1 μ2 (fun r3 μ4 => if r3 = true then (Q r1 μ4) else (Q (-1) μ4))))
def d_Term_copyFrom_b15 (v0 : Nat) (v1 : Nat) (v2 : Int) (v3 : Int) (μ : Mem) (W15 : Int → Mem → Prop) (Q : Mem → Prop) : Prop := if v3 < v2 then (d_Term_get v1 v3 μ (fun r3 => (0 ≤ v3 ∧ v3 < (ln (v0 + 1) : Int)) ∧ W15 (wr (v3 + 1)) (mup μ (v0 + 1) v3.toNat r3))) else (Q (mup μ v0 1 v2))
def d_Term_copyFrom_l15 (v0 : Nat) (v1 : Nat) (v2 : Int) (v3 : Int) (μ : Mem) (Q : Mem → Prop) : Prop := ∀ W : Int → Mem → Prop, (∀ (v3 : Int) (μ : Mem), d_Term_copyFrom_b15 v0 v1 v2 v3 μ W Q → W v3 μ) → W v3 μ
def d_Term_copyFrom (v0 : Nat) (v1 : Nat) (μ : Mem) (Q : Mem → Prop) : Prop := d_Math_min (μ v1 1) (ln (v0 + 1) : Int) μ (fun r1 => d_Term_copyFrom_l15 v0 v1 r1 0 μ Q)
theorem i_Term_copyFrom_l15 {v0 : Nat} {v1 : Nat} {v2 : Int} {Q : Mem → Prop} {Inv : Int → Mem → Prop} (f : Int → Mem → Nat) (hi : ∀ (v3 : Int) (μ : Mem), Inv v3 μ → ∀ W : Int → Mem → Prop, (∀ (v3' : Int) (μ' : Mem), Inv v3' μ' → f v3' μ' < f v3 μ → W v3' μ') → d_Term_copyFrom_b15 v0 v1 v2 v3 μ W Q) : ∀ (v3 : Int) (μ : Mem), Inv v3 μ → d_Term_copyFrom_l15 v0 v1 v2 v3 μ Q := by
  intro v3 μ hI W hW
  have key : ∀ (n : Nat) (v3 : Int) (μ : Mem), f v3 μ = n → Inv v3 μ → W v3 μ := by
    intro n
    induction n using Nat.strongRecOn with
    | _ n ih =>
      intro v3 μ hf hI
      exact hW _ _ (hi v3 μ hI W fun v3' μ' hI' hl => ih _ (by omega) v3' μ' rfl hI')
  exact key _ v3 μ rfl hI
def d_Parser_readStep (μ : Mem) (Q : Bool → Mem → Prop) : Prop := d_Parser_next μ (fun μ2 => d_Parser_readDigit (μ2 77 1) μ2 (fun r3 μ4 => if r3 = true then (d_Parser_digit μ4 (fun r5 => d_State_term 77 r5 μ4 (fun r7 => d_Rewriter_step 130 77 r7 1 μ4 (fun r9 μ10 => if r9 = (-1) then (d_Parser_fail 4 μ10 (fun r11 μ12 => Q r11 μ12)) else (d_Term_copyFrom r7 131 μ10 (fun μ14 => d_Parser_next μ14 (fun μ16 => Q true μ16))))))) else (Q false μ4)))
def d_Parser_run_j194 (v2 : Int) (t0 : Int) (μ : Mem) (W60 : Int → Mem → Prop) (Q : Bool → Mem → Prop) : Prop := if t0 = 0 then (Q false μ) else (W60 (wr (v2 + 1)) μ)
def d_Parser_run_b60 (v2 : Int) (μ : Mem) (W60 : Int → Mem → Prop) (Q : Bool → Mem → Prop) : Prop := if 500 < v2 then (Q true μ) else (if μ 72 9 = 0 then (Q true μ) else (if μ 72 9 = 59 then (d_Parser_next μ (fun μ10 => d_Parser_isWord 1 μ10 (fun r11 => if r11 = true then (d_Parser_readSymbol μ10 (fun r13 μ14 => d_Parser_run_j194 v2 (b2i r13) μ14 W60 Q)) else (d_Parser_isWord 2 μ10 (fun r15 => if r15 = true then (d_Parser_readRule μ10 (fun r17 μ18 => d_Parser_run_j194 v2 (b2i r17) μ18 W60 Q)) else (d_Parser_isWord 3 μ10 (fun r19 => if r19 = true then (d_Parser_readPlainTerm μ10 (fun r21 μ22 => d_Parser_run_j194 v2 (b2i r21) μ22 W60 Q)) else (d_Parser_isWord 4 μ10 (fun r23 => if r23 = true then (d_Parser_readCopy μ10 (fun r25 μ26 => d_Parser_run_j194 v2 (b2i r25) μ26 W60 Q)) else (d_Parser_isWord 5 μ10 (fun r27 => if r27 = true then (d_Parser_readFlip μ10 (fun r29 μ30 => d_Parser_run_j194 v2 (b2i r29) μ30 W60 Q)) else (d_Parser_isWord 6 μ10 (fun r31 => if r31 = true then (d_Parser_readStep μ10 (fun r33 μ34 => d_Parser_run_j194 v2 (b2i r33) μ34 W60 Q)) else (d_Parser_fail 1 μ10 (fun r35 μ36 => d_Parser_run_j194 v2 (b2i r35) μ36 W60 Q))))))))))))))) else (d_Parser_fail 1 μ (fun r37 μ38 => Q r37 μ38))))
def d_Parser_run_l60 (v2 : Int) (μ : Mem) (Q : Bool → Mem → Prop) : Prop := ∀ W : Int → Mem → Prop, (∀ (v2 : Int) (μ : Mem), d_Parser_run_b60 v2 μ W Q → W v2 μ) → W v2 μ
def d_Parser_run (v1 : Int) (μ : Mem) (Q : Bool → Mem → Prop) : Prop := d_State_clear 77 (mup (mup (mup (mup (mup μ 72 8 v1) 72 11 0) 72 0 0) 72 1 (-1)) 73 0 0) (fun μ2 => d_Parser_next μ2 (fun μ4 => d_Parser_isWord 0 μ4 (fun r5 => if r5 = true then (d_Parser_next μ4 (fun μ8 => d_Parser_run_l60 0 μ8 Q)) else (d_Parser_fail 1 μ4 (fun r39 μ40 => Q r39 μ40)))))
theorem i_Parser_run_l60 {Q : Bool → Mem → Prop} {Inv : Int → Mem → Prop} (f : Int → Mem → Nat) (hi : ∀ (v2 : Int) (μ : Mem), Inv v2 μ → ∀ W : Int → Mem → Prop, (∀ (v2' : Int) (μ' : Mem), Inv v2' μ' → f v2' μ' < f v2 μ → W v2' μ') → d_Parser_run_b60 v2 μ W Q) : ∀ (v2 : Int) (μ : Mem), Inv v2 μ → d_Parser_run_l60 v2 μ Q := by
  intro v2 μ hI W hW
  have key : ∀ (n : Nat) (v2 : Int) (μ : Mem), f v2 μ = n → Inv v2 μ → W v2 μ := by
    intro n
    induction n using Nat.strongRecOn with
    | _ n ih =>
      intro v2 μ hf hI
      exact hW _ _ (hi v2 μ hI W fun v2' μ' hI' hl => ih _ (by omega) v2' μ' rfl hI')
  exact key _ v2 μ rfl hI
def d_Signature_copyFrom_b48 (v0 : Nat) (v1 : Nat) (v2 : Int) (μ : Mem) (W48 : Int → Mem → Prop) (Q : Mem → Prop) : Prop := if v2 < 48 then (if v2 < 48 then ((0 ≤ v2 ∧ v2 < 48) ∧ (0 ≤ v2 ∧ v2 < 48) ∧ W48 (wr (v2 + 1)) (mup μ (v0 + 3) v2.toNat (μ (v1 + 3) v2.toNat))) else (Q μ)) else (Q μ)
def d_Signature_copyFrom_l48 (v0 : Nat) (v1 : Nat) (v2 : Int) (μ : Mem) (Q : Mem → Prop) : Prop := ∀ W : Int → Mem → Prop, (∀ (v2 : Int) (μ : Mem), d_Signature_copyFrom_b48 v0 v1 v2 μ W Q → W v2 μ) → W v2 μ
def d_Signature_copyFrom_b10 (v0 : Nat) (v1 : Nat) (v2 : Int) (μ : Mem) (W10 : Int → Mem → Prop) (Q : Mem → Prop) : Prop := if v2 < 8 then ((0 ≤ v2 ∧ v2 < 8) ∧ (0 ≤ v2 ∧ v2 < 8) ∧ (0 ≤ v2 ∧ v2 < 8) ∧ (0 ≤ v2 ∧ v2 < 8) ∧ W10 (wr (v2 + 1)) (mup (mup μ (v0 + 1) v2.toNat (μ (v1 + 1) v2.toNat)) (v0 + 2) v2.toNat ((mup μ (v0 + 1) v2.toNat (μ (v1 + 1) v2.toNat)) (v1 + 2) v2.toNat))) else (d_Signature_copyFrom_l48 v0 v1 0 μ Q)
def d_Signature_copyFrom_l10 (v0 : Nat) (v1 : Nat) (v2 : Int) (μ : Mem) (Q : Mem → Prop) : Prop := ∀ W : Int → Mem → Prop, (∀ (v2 : Int) (μ : Mem), d_Signature_copyFrom_b10 v0 v1 v2 μ W Q → W v2 μ) → W v2 μ
def d_Signature_copyFrom (v0 : Nat) (v1 : Nat) (μ : Mem) (Q : Mem → Prop) : Prop := d_Signature_copyFrom_l10 v0 v1 0 (mup μ v0 0 (μ v1 0)) Q
theorem i_Signature_copyFrom_l48 {v0 : Nat} {v1 : Nat} {Q : Mem → Prop} {Inv : Int → Mem → Prop} (f : Int → Mem → Nat) (hi : ∀ (v2 : Int) (μ : Mem), Inv v2 μ → ∀ W : Int → Mem → Prop, (∀ (v2' : Int) (μ' : Mem), Inv v2' μ' → f v2' μ' < f v2 μ → W v2' μ') → d_Signature_copyFrom_b48 v0 v1 v2 μ W Q) : ∀ (v2 : Int) (μ : Mem), Inv v2 μ → d_Signature_copyFrom_l48 v0 v1 v2 μ Q := by
  intro v2 μ hI W hW
  have key : ∀ (n : Nat) (v2 : Int) (μ : Mem), f v2 μ = n → Inv v2 μ → W v2 μ := by
    intro n
    induction n using Nat.strongRecOn with
    | _ n ih =>
      intro v2 μ hf hI
      exact hW _ _ (hi v2 μ hI W fun v2' μ' hI' hl => ih _ (by omega) v2' μ' rfl hI')
  exact key _ v2 μ rfl hI
theorem i_Signature_copyFrom_l10 {v0 : Nat} {v1 : Nat} {Q : Mem → Prop} {Inv : Int → Mem → Prop} (f : Int → Mem → Nat) (hi : ∀ (v2 : Int) (μ : Mem), Inv v2 μ → ∀ W : Int → Mem → Prop, (∀ (v2' : Int) (μ' : Mem), Inv v2' μ' → f v2' μ' < f v2 μ → W v2' μ') → d_Signature_copyFrom_b10 v0 v1 v2 μ W Q) : ∀ (v2 : Int) (μ : Mem), Inv v2 μ → d_Signature_copyFrom_l10 v0 v1 v2 μ Q := by
  intro v2 μ hI W hW
  have key : ∀ (n : Nat) (v2 : Int) (μ : Mem), f v2 μ = n → Inv v2 μ → W v2 μ := by
    intro n
    induction n using Nat.strongRecOn with
    | _ n ih =>
      intro v2 μ hf hI
      exact hW _ _ (hi v2 μ hI W fun v2' μ' hI' hl => ih _ (by omega) v2' μ' rfl hI')
  exact key _ v2 μ rfl hI
def d_Rule_copyFrom (v0 : Nat) (v1 : Nat) (μ : Mem) (Q : Mem → Prop) : Prop := d_Term_copyFrom (dp (μ v0 0)) (dp (μ v1 0)) μ (fun μ2 => d_Term_copyFrom (dp (μ2 v0 1)) (dp (μ2 v1 1)) μ2 (fun μ4 => Q μ4))
def d_State_copyFrom_b47 (v0 : Nat) (v1 : Nat) (v2 : Int) (μ : Mem) (W47 : Int → Mem → Prop) (Q : Mem → Prop) : Prop := if v2 < μ v0 1 then (d_State_term v0 v2 μ (fun r7 => d_State_term v1 v2 μ (fun r9 => d_Term_copyFrom r7 r9 μ (fun μ12 => W47 (wr (v2 + 1)) μ12)))) else (Q μ)
def d_State_copyFrom_l47 (v0 : Nat) (v1 : Nat) (v2 : Int) (μ : Mem) (Q : Mem → Prop) : Prop := ∀ W : Int → Mem → Prop, (∀ (v2 : Int) (μ : Mem), d_State_copyFrom_b47 v0 v1 v2 μ W Q → W v2 μ) → W v2 μ
def d_State_copyFrom_b18 (v0 : Nat) (v1 : Nat) (v2 : Int) (μ : Mem) (W18 : Int → Mem → Prop) (Q : Mem → Prop) : Prop := if v2 < μ v0 0 then (d_State_rule v0 v2 μ (fun r1 => d_State_rule v1 v2 μ (fun r3 => d_Rule_copyFrom r1 r3 μ (fun μ6 => W18 (wr (v2 + 1)) μ6)))) else (d_State_copyFrom_l47 v0 v1 0 μ Q)
def d_State_copyFrom_l18 (v0 : Nat) (v1 : Nat) (v2 : Int) (μ : Mem) (Q : Mem → Prop) : Prop := ∀ W : Int → Mem → Prop, (∀ (v2 : Int) (μ : Mem), d_State_copyFrom_b18 v0 v1 v2 μ W Q → W v2 μ) → W v2 μ
def d_State_copyFrom (v0 : Nat) (v1 : Nat) (μ : Mem) (Q : Mem → Prop) : Prop := d_State_copyFrom_l18 v0 v1 0 (mup (mup μ v0 0 (μ v1 0)) v0 1 ((mup μ v0 0 (μ v1 0)) v1 1)) Q
theorem i_State_copyFrom_l47 {v0 : Nat} {v1 : Nat} {Q : Mem → Prop} {Inv : Int → Mem → Prop} (f : Int → Mem → Nat) (hi : ∀ (v2 : Int) (μ : Mem), Inv v2 μ → ∀ W : Int → Mem → Prop, (∀ (v2' : Int) (μ' : Mem), Inv v2' μ' → f v2' μ' < f v2 μ → W v2' μ') → d_State_copyFrom_b47 v0 v1 v2 μ W Q) : ∀ (v2 : Int) (μ : Mem), Inv v2 μ → d_State_copyFrom_l47 v0 v1 v2 μ Q := by
  intro v2 μ hI W hW
  have key : ∀ (n : Nat) (v2 : Int) (μ : Mem), f v2 μ = n → Inv v2 μ → W v2 μ := by
    intro n
    induction n using Nat.strongRecOn with
    | _ n ih =>
      intro v2 μ hf hI
      exact hW _ _ (hi v2 μ hI W fun v2' μ' hI' hl => ih _ (by omega) v2' μ' rfl hI')
  exact key _ v2 μ rfl hI
theorem i_State_copyFrom_l18 {v0 : Nat} {v1 : Nat} {Q : Mem → Prop} {Inv : Int → Mem → Prop} (f : Int → Mem → Nat) (hi : ∀ (v2 : Int) (μ : Mem), Inv v2 μ → ∀ W : Int → Mem → Prop, (∀ (v2' : Int) (μ' : Mem), Inv v2' μ' → f v2' μ' < f v2 μ → W v2' μ') → d_State_copyFrom_b18 v0 v1 v2 μ W Q) : ∀ (v2 : Int) (μ : Mem), Inv v2 μ → d_State_copyFrom_l18 v0 v1 v2 μ Q := by
  intro v2 μ hI W hW
  have key : ∀ (n : Nat) (v2 : Int) (μ : Mem), f v2 μ = n → Inv v2 μ → W v2 μ := by
    intro n
    induction n using Nat.strongRecOn with
    | _ n ih =>
      intro v2 μ hf hI
      exact hW _ _ (hi v2 μ hI W fun v2' μ' hI' hl => ih _ (by omega) v2' μ' rfl hI')
  exact key _ v2 μ rfl hI
def d_OB_adopt (v1 : Nat) (μ : Mem) (Q : Mem → Prop) : Prop := d_State_copyFrom 5 v1 μ (fun μ2 => Q (mup (mup μ2 247 0 0) 139 0 1))
def d_OB_parseSystem_j15 (μ : Mem) (Q : Int → Mem → Prop) (X : Nat → Mem → Prop) : Prop := X 1 (thr μ)
def d_OB_parseSystem (v1 : Int) (μ : Mem) (Q : Int → Mem → Prop) (X : Nat → Mem → Prop) : Prop := if v1 < 0 then (d_OB_parseSystem_j15 μ Q X) else (if μ 72 4 < v1 then (d_OB_parseSystem_j15 μ Q X) else (d_Parser_run v1 μ (fun r1 μ2 => if r1 = true then (d_Signature_copyFrom 1 73 (mup (mup μ2 72 4 0) 0 0 1) (fun μ4 => d_OB_adopt 77 μ4 (fun μ6 => Q ((mup (mup μ6 0 11 0) 0 12 0) 5 0) (mup (mup μ6 0 11 0) 0 12 0)))) else (X 2 (thr (mup μ2 72 4 0))))))
def d_OB_requireSystem (μ : Mem) (Q : Mem → Prop) (X : Nat → Mem → Prop) : Prop := if μ 0 0 = 0 then (X 0 (thr μ)) else (Q μ)
def d_OB_ruleCount (μ : Mem) (Q : Int → Mem → Prop) (X : Nat → Mem → Prop) : Prop := d_OB_requireSystem μ (fun μ2 => Q (μ2 5 0) μ2) X
def d_OB_termCount (μ : Mem) (Q : Int → Mem → Prop) (X : Nat → Mem → Prop) : Prop := d_OB_requireSystem μ (fun μ2 => Q (μ2 5 1) μ2) X
def d_OB_requireIndex_j9 (μ : Mem) (Q : Mem → Prop) (X : Nat → Mem → Prop) : Prop := X 1 (thr μ)
def d_OB_requireIndex (v1 : Int) (v2 : Int) (μ : Mem) (Q : Mem → Prop) (X : Nat → Mem → Prop) : Prop := if v1 < 0 then (d_OB_requireIndex_j9 μ Q X) else (if v1 < v2 then (Q μ) else (d_OB_requireIndex_j9 μ Q X))
def d_OB_requireTerm (v1 : Int) (μ : Mem) (Q : Nat → Mem → Prop) (X : Nat → Mem → Prop) : Prop := d_OB_requireSystem μ (fun μ2 => d_OB_requireIndex v1 (μ2 5 1) μ2 (fun μ4 => d_State_term 5 v1 μ4 (fun r5 => Q r5 μ4)) X) X
def d_OB_termSize (v1 : Int) (μ : Mem) (Q : Int → Mem → Prop) (X : Nat → Mem → Prop) : Prop := d_OB_requireTerm v1 μ (fun r1 μ2 => Q (μ2 r1 1) μ2) X
def d_OB_requireNode (v1 : Int) (v2 : Int) (μ : Mem) (Q : Nat → Mem → Prop) (X : Nat → Mem → Prop) : Prop := d_OB_requireTerm v1 μ (fun r1 μ2 => d_OB_requireIndex v2 (μ2 r1 1) μ2 (fun μ4 => Q r1 μ4) X) X
def d_OB_subtermSize (v1 : Int) (v2 : Int) (μ : Mem) (Q : Int → Mem → Prop) (X : Nat → Mem → Prop) : Prop := d_OB_requireNode v1 v2 μ (fun r1 μ2 => d_Term_end r1 v2 μ2 (fun r3 => Q (wr (r3 - v2)) μ2)) X
def d_OB_requireRule (v1 : Int) (μ : Mem) (Q : Nat → Mem → Prop) (X : Nat → Mem → Prop) : Prop := d_OB_requireSystem μ (fun μ2 => d_OB_requireIndex v1 (μ2 5 0) μ2 (fun μ4 => d_State_rule 5 v1 μ4 (fun r5 => Q r5 μ4)) X) X
def d_OB_matches (v1 : Int) (v2 : Int) (v3 : Int) (μ : Mem) (Q : Bool → Mem → Prop) (X : Nat → Mem → Prop) : Prop := d_OB_requireRule v1 μ (fun r1 μ2 => d_OB_requireNode v2 v3 μ2 (fun r3 μ4 => d_Rewriter_match 57 r1 r3 v3 μ4 (fun r5 μ6 => Q r5 μ6)) X) X
def d_OB_ruleAt (v1 : Int) (v2 : Int) (μ : Mem) (Q : Int → Mem → Prop) (X : Nat → Mem → Prop) : Prop := d_OB_requireNode v1 v2 μ (fun r1 μ2 => d_Rewriter_firstRule 57 5 r1 v2 μ2 (fun r3 μ4 => Q r3 μ4)) X
def d_Rewriter_countRedexes_j29 (v0 : Nat) (v1 : Nat) (v2 : Nat) (v3 : Int) (v4 : Int) (μ : Mem) (W5 : Int → Int → Mem → Prop) (Q : Int → Mem → Prop) : Prop := W5 v3 (wr (v4 + 1)) μ
def d_Rewriter_countRedexes_b5 (v0 : Nat) (v1 : Nat) (v2 : Nat) (v3 : Int) (v4 : Int) (μ : Mem) (W5 : Int → Int → Mem → Prop) (Q : Int → Mem → Prop) : Prop := if v4 < μ v2 1 then (d_Rewriter_firstRule v0 v1 v2 v4 μ (fun r1 μ2 => if r1 = (-1) then (d_Rewriter_countRedexes_j29 v0 v1 v2 v3 v4 μ2 W5 Q) else (d_Rewriter_countRedexes_j29 v0 v1 v2 (wr (v3 + 1)) v4 μ2 W5 Q))) else (Q v3 μ)
def d_Rewriter_countRedexes_l5 (v0 : Nat) (v1 : Nat) (v2 : Nat) (v3 : Int) (v4 : Int) (μ : Mem) (Q : Int → Mem → Prop) : Prop := ∀ W : Int → Int → Mem → Prop, (∀ (v3 : Int) (v4 : Int) (μ : Mem), d_Rewriter_countRedexes_b5 v0 v1 v2 v3 v4 μ W Q → W v3 v4 μ) → W v3 v4 μ
def d_Rewriter_countRedexes (v0 : Nat) (v1 : Nat) (v2 : Nat) (μ : Mem) (Q : Int → Mem → Prop) : Prop := d_Rewriter_countRedexes_l5 v0 v1 v2 0 0 μ Q
theorem i_Rewriter_countRedexes_l5 {v0 : Nat} {v1 : Nat} {v2 : Nat} {Q : Int → Mem → Prop} {Inv : Int → Int → Mem → Prop} (f : Int → Int → Mem → Nat) (hi : ∀ (v3 : Int) (v4 : Int) (μ : Mem), Inv v3 v4 μ → ∀ W : Int → Int → Mem → Prop, (∀ (v3' : Int) (v4' : Int) (μ' : Mem), Inv v3' v4' μ' → f v3' v4' μ' < f v3 v4 μ → W v3' v4' μ') → d_Rewriter_countRedexes_b5 v0 v1 v2 v3 v4 μ W Q) : ∀ (v3 : Int) (v4 : Int) (μ : Mem), Inv v3 v4 μ → d_Rewriter_countRedexes_l5 v0 v1 v2 v3 v4 μ Q := by
  intro v3 v4 μ hI W hW
  have key : ∀ (n : Nat) (v3 : Int) (v4 : Int) (μ : Mem), f v3 v4 μ = n → Inv v3 v4 μ → W v3 v4 μ := by
    intro n
    induction n using Nat.strongRecOn with
    | _ n ih =>
      intro v3 v4 μ hf hI
      exact hW _ _ _ (hi v3 v4 μ hI W fun v3' v4' μ' hI' hl => ih _ (by omega) v3' v4' μ' rfl hI')
  exact key _ v3 v4 μ rfl hI
def d_OB_redexCount (v1 : Int) (μ : Mem) (Q : Int → Mem → Prop) (X : Nat → Mem → Prop) : Prop := d_OB_requireTerm v1 μ (fun r1 μ2 => d_Rewriter_countRedexes 57 5 r1 μ2 (fun r3 μ4 => Q r3 μ4)) X
def d_OB_innermostRedex (v1 : Int) (μ : Mem) (Q : Int → Mem → Prop) (X : Nat → Mem → Prop) : Prop := d_OB_requireTerm v1 μ (fun r1 μ2 => d_Rewriter_redex 57 5 r1 1 μ2 (fun r3 μ4 => Q r3 μ4)) X
def d_OB_outermostRedex (v1 : Int) (μ : Mem) (Q : Int → Mem → Prop) (X : Nat → Mem → Prop) : Prop := d_OB_requireTerm v1 μ (fun r1 μ2 => d_Rewriter_redex 57 5 r1 0 μ2 (fun r3 μ4 => Q r3 μ4)) X
def d_OB_isNormalForm (v1 : Int) (μ : Mem) (Q : Bool → Mem → Prop) (X : Nat → Mem → Prop) : Prop := d_OB_requireTerm v1 μ (fun r1 μ2 => d_Rewriter_redex 57 5 r1 0 μ2 (fun r3 μ4 => if r3 = (-1) then (Q true μ4) else (Q false μ4))) X
def d_Rewriter_reduce_b11 (v0 : Nat) (v1 : Nat) (v3 : Int) (v4 : Int) (v5 : Int) (μ : Mem) (W11 : Int → Mem → Prop) (Q : Int → Mem → Prop) : Prop := if v4 < v5 then (Q (-1) μ) else (d_Rewriter_redex v0 v1 (v0 + 3) v3 μ (fun r3 μ4 => if r3 = (-1) then (Q v5 μ4) else (if v5 = v4 then (Q (-1) μ4) else (d_Rewriter_buildFirst v0 v1 (v0 + 3) r3 μ4 (fun r5 μ6 => if r5 = true then (d_Term_copyFrom (v0 + 3) (v0 + 1) μ6 (fun μ8 => W11 (wr (v5 + 1)) μ8)) else (Q (-1) μ6))))))
def d_Rewriter_reduce_l11 (v0 : Nat) (v1 : Nat) (v3 : Int) (v4 : Int) (v5 : Int) (μ : Mem) (Q : Int → Mem → Prop) : Prop := ∀ W : Int → Mem → Prop, (∀ (v5 : Int) (μ : Mem), d_Rewriter_reduce_b11 v0 v1 v3 v4 v5 μ W Q → W v5 μ) → W v5 μ
def d_Rewriter_reduce (v0 : Nat) (v1 : Nat) (v2 : Nat) (v3 : Int) (v4 : Int) (μ : Mem) (Q : Int → Mem → Prop) : Prop := d_Term_copyFrom (v0 + 3) v2 μ (fun μ2 => d_Rewriter_reduce_l11 v0 v1 v3 v4 0 μ2 Q)
theorem i_Rewriter_reduce_l11 {v0 : Nat} {v1 : Nat} {v3 : Int} {v4 : Int} {Q : Int → Mem → Prop} {Inv : Int → Mem → Prop} (f : Int → Mem → Nat) (hi : ∀ (v5 : Int) (μ : Mem), Inv v5 μ → ∀ W : Int → Mem → Prop, (∀ (v5' : Int) (μ' : Mem), Inv v5' μ' → f v5' μ' < f v5 μ → W v5' μ') → d_Rewriter_reduce_b11 v0 v1 v3 v4 v5 μ W Q) : ∀ (v5 : Int) (μ : Mem), Inv v5 μ → d_Rewriter_reduce_l11 v0 v1 v3 v4 v5 μ Q := by
  intro v5 μ hI W hW
  have key : ∀ (n : Nat) (v5 : Int) (μ : Mem), f v5 μ = n → Inv v5 μ → W v5 μ := by
    intro n
    induction n using Nat.strongRecOn with
    | _ n ih =>
      intro v5 μ hf hI
      exact hW _ _ (hi v5 μ hI W fun v5' μ' hI' hl => ih _ (by omega) v5' μ' rfl hI')
  exact key _ v5 μ rfl hI
def d_OB_stepsInnermost (v1 : Int) (μ : Mem) (Q : Int → Mem → Prop) (X : Nat → Mem → Prop) : Prop := d_OB_requireTerm v1 μ (fun r1 μ2 => d_Rewriter_reduce 57 5 r1 1 200 μ2 (fun r3 μ4 => Q r3 μ4)) X
def d_OB_stepsOutermost (v1 : Int) (μ : Mem) (Q : Int → Mem → Prop) (X : Nat → Mem → Prop) : Prop := d_OB_requireTerm v1 μ (fun r1 μ2 => d_Rewriter_reduce 57 5 r1 0 200 μ2 (fun r3 μ4 => Q r3 μ4)) X
def d_OB_normalFormSize (v1 : Int) (μ : Mem) (Q : Int → Mem → Prop) (X : Nat → Mem → Prop) : Prop := d_OB_requireTerm v1 μ (fun r1 μ2 => d_Rewriter_reduce 57 5 r1 1 200 μ2 (fun r3 μ4 => if r3 = (-1) then (Q (-1) μ4) else (Q (μ4 60 1) μ4))) X
def d_PairList_has (v1 : Int) (μ : Mem) (Q : Bool → Prop) : Prop := if v1 < 0 then (Q false) else (if v1 < 20 then (Q true) else (Q false))
def d_Unifier_clear (v0 : Nat) (μ : Mem) (Q : Mem → Prop) : Prop := d_Arrays_fill (v0 + 5) (-1) (mup μ v0 0 0) (fun μ2 => Q μ2)
def d_Unifier_shareVariable_j41 (v0 : Nat) (v1 : Int) (v2 : Int) (μ : Mem) (Q : Mem → Prop) : Prop := (0 ≤ v2 ∧ v2 < 16) ∧ (0 ≤ v1 ∧ v1 < 160) ∧ Q (mup μ (v0 + 2) v1.toNat (μ (v0 + 5) v2.toNat))
def d_Unifier_shareVariable (v0 : Nat) (v1 : Int) (v2 : Int) (μ : Mem) (Q : Mem → Prop) : Prop := if v2 < 0 then (Q μ) else (if v2 < 16 then (if v1 < 0 then (Q μ) else (if v1 < 160 then ((0 ≤ v2 ∧ v2 < 16) ∧ if μ (v0 + 5) v2.toNat = (-1) then ((0 ≤ v2 ∧ v2 < 16) ∧ d_Unifier_shareVariable_j41 v0 v1 v2 (mup μ (v0 + 5) v2.toNat v1) Q) else (d_Unifier_shareVariable_j41 v0 v1 v2 μ Q)) else (Q μ))) else (Q μ))
def d_Unifier_load_j110 (v0 : Nat) (v1 : Nat) (v2 : Int) (v3 : Int) (v4 : Int) (μ : Mem) (W8 : Int → Mem → Prop) (Q : Int → Mem → Prop) : Prop := W8 (wr (v4 + 1)) (mup μ v0 0 (wr ((μ v0 0) + 1)))
def d_Unifier_load_j68 (v0 : Nat) (v1 : Nat) (v2 : Int) (v3 : Int) (v4 : Int) (v5 : Int) (v6 : Int) (t0 : Nat) (t1 : Int) (t2 : Int) (μ : Mem) (W8 : Int → Mem → Prop) (Q : Int → Mem → Prop) : Prop := (0 ≤ t1 ∧ t1 < (ln t0 : Int)) ∧ d_Term_end v1 v4 (mup μ t0 t1.toNat t2) (fun r3 => (0 ≤ v6 ∧ v6 < 160) ∧ (0 ≤ v6 ∧ v6 < 160) ∧ if v5 < 0 then (d_Unifier_shareVariable v0 v6 (wr ((wr (v2 - 1)) - v5)) (mup (mup (mup μ t0 t1.toNat t2) (v0 + 3) v6.toNat (wr (v3 + r3))) (v0 + 2) v6.toNat v6) (fun μ6 => d_Unifier_load_j110 v0 v1 v2 v3 v4 μ6 W8 Q)) else (d_Unifier_load_j110 v0 v1 v2 v3 v4 (mup (mup (mup μ t0 t1.toNat t2) (v0 + 3) v6.toNat (wr (v3 + r3))) (v0 + 2) v6.toNat v6) W8 Q))
def d_Unifier_load_b8 (v0 : Nat) (v1 : Nat) (v2 : Int) (v3 : Int) (v4 : Int) (μ : Mem) (W8 : Int → Mem → Prop) (Q : Int → Mem → Prop) : Prop := if v4 < μ v1 1 then (if μ v0 0 < 0 then (Q v3 μ) else (if μ v0 0 < 160 then (d_Term_get v1 v4 μ (fun r1 => if r1 < 0 then (d_Unifier_load_j68 v0 v1 v2 v3 v4 r1 (μ v0 0) (v0 + 1) (μ v0 0) (wr (r1 - v2)) μ W8 Q) else (d_Unifier_load_j68 v0 v1 v2 v3 v4 r1 (μ v0 0) (v0 + 1) (μ v0 0) r1 μ W8 Q))) else (Q v3 μ))) else (Q v3 μ)
def d_Unifier_load_l8 (v0 : Nat) (v1 : Nat) (v2 : Int) (v3 : Int) (v4 : Int) (μ : Mem) (Q : Int → Mem → Prop) : Prop := ∀ W : Int → Mem → Prop, (∀ (v4 : Int) (μ : Mem), d_Unifier_load_b8 v0 v1 v2 v3 v4 μ W Q → W v4 μ) → W v4 μ
def d_Unifier_load (v0 : Nat) (v1 : Nat) (v2 : Int) (μ : Mem) (Q : Int → Mem → Prop) : Prop := d_Unifier_load_l8 v0 v1 v2 (μ v0 0) 0 μ Q
theorem i_Unifier_load_l8 {v0 : Nat} {v1 : Nat} {v2 : Int} {v3 : Int} {Q : Int → Mem → Prop} {Inv : Int → Mem → Prop} (f : Int → Mem → Nat) (hi : ∀ (v4 : Int) (μ : Mem), Inv v4 μ → ∀ W : Int → Mem → Prop, (∀ (v4' : Int) (μ' : Mem), Inv v4' μ' → f v4' μ' < f v4 μ → W v4' μ') → d_Unifier_load_b8 v0 v1 v2 v3 v4 μ W Q) : ∀ (v4 : Int) (μ : Mem), Inv v4 μ → d_Unifier_load_l8 v0 v1 v2 v3 v4 μ Q := by
  intro v4 μ hI W hW
  have key : ∀ (n : Nat) (v4 : Int) (μ : Mem), f v4 μ = n → Inv v4 μ → W v4 μ := by
    intro n
    induction n using Nat.strongRecOn with
    | _ n ih =>
      intro v4 μ hf hI
      exact hW _ _ (hi v4 μ hI W fun v4' μ' hI' hl => ih _ (by omega) v4' μ' rfl hI')
  exact key _ v4 μ rfl hI
def d_Unifier_push (v0 : Nat) (v1 : Int) (μ : Mem) (Q : Mem → Prop) : Prop := if μ v0 7 < 0 then (Q μ) else (if μ v0 7 < 962 then ((0 ≤ μ v0 7 ∧ μ v0 7 < 962) ∧ Q (mup (mup μ (v0 + 6) (μ v0 7).toNat v1) v0 7 (wr (((mup μ (v0 + 6) (μ v0 7).toNat v1) v0 7) + 1)))) else (Q μ))
def d_Unifier_pop (v0 : Nat) (μ : Mem) (Q : Int → Mem → Prop) : Prop := if 0 < μ v0 7 then (if 962 < μ v0 7 then (Q (-1) μ) else ((0 ≤ (mup μ v0 7 (wr ((μ v0 7) - 1))) v0 7 ∧ (mup μ v0 7 (wr ((μ v0 7) - 1))) v0 7 < 962) ∧ Q ((mup μ v0 7 (wr ((μ v0 7) - 1))) (v0 + 6) ((mup μ v0 7 (wr ((μ v0 7) - 1))) v0 7).toNat) (mup μ v0 7 (wr ((μ v0 7) - 1))))) else (Q (-1) μ)
def d_Unifier_root_b4 (v0 : Nat) (v2 : Int) (v3 : Int) (μ : Mem) (W4 : Int → Int → Prop) (Q : Int → Prop) : Prop := if v3 < 160 then (if v2 < 0 then (Q v2) else (if v2 < 160 then ((0 ≤ v2 ∧ v2 < 160) ∧ if μ (v0 + 2) v2.toNat = v2 then (Q v2) else ((0 ≤ v2 ∧ v2 < 160) ∧ W4 (μ (v0 + 2) v2.toNat) (wr (v3 + 1)))) else (Q v2))) else (Q v2)
def d_Unifier_root_l4 (v0 : Nat) (v2 : Int) (v3 : Int) (μ : Mem) (Q : Int → Prop) : Prop := ∀ W : Int → Int → Prop, (∀ (v2 : Int) (v3 : Int), d_Unifier_root_b4 v0 v2 v3 μ W Q → W v2 v3) → W v2 v3
def d_Unifier_root (v0 : Nat) (v1 : Int) (μ : Mem) (Q : Int → Prop) : Prop := d_Unifier_root_l4 v0 v1 0 μ Q
theorem i_Unifier_root_l4 {v0 : Nat} {μ : Mem} {Q : Int → Prop} {Inv : Int → Int → Prop} (f : Int → Int → Nat) (hi : ∀ (v2 : Int) (v3 : Int), Inv v2 v3 → ∀ W : Int → Int → Prop, (∀ (v2' : Int) (v3' : Int), Inv v2' v3' → f v2' v3' < f v2 v3 → W v2' v3') → d_Unifier_root_b4 v0 v2 v3 μ W Q) : ∀ (v2 : Int) (v3 : Int), Inv v2 v3 → d_Unifier_root_l4 v0 v2 v3 μ Q := by
  intro v2 v3 hI W hW
  have key : ∀ (n : Nat) (v2 : Int) (v3 : Int), f v2 v3 = n → Inv v2 v3 → W v2 v3 := by
    intro n
    induction n using Nat.strongRecOn with
    | _ n ih =>
      intro v2 v3 hf hI
      exact hW _ _ (hi v2 v3 hI W fun v2' v3' hI' hl => ih _ (by omega) v2' v3' rfl hI')
  exact key _ v2 v3 rfl hI
def d_Unifier_label (v0 : Nat) (v1 : Int) (μ : Mem) (Q : Int → Prop) : Prop := if v1 < 0 then (Q (-2147483648)) else (if v1 < 160 then ((0 ≤ v1 ∧ v1 < 160) ∧ Q (μ (v0 + 1) v1.toNat)) else (Q (-2147483648)))
def d_Unifier_hang (v0 : Nat) (v1 : Int) (v2 : Int) (μ : Mem) (Q : Mem → Prop) : Prop := if v1 < 0 then (Q μ) else (if v1 < 160 then ((0 ≤ v1 ∧ v1 < 160) ∧ Q (mup μ (v0 + 2) v1.toNat v2)) else (Q μ))
def d_Unifier_end (v0 : Nat) (v1 : Int) (μ : Mem) (Q : Int → Prop) : Prop := if v1 < 0 then (Q 160) else (if v1 < 160 then ((0 ≤ v1 ∧ v1 < 160) ∧ Q (μ (v0 + 3) v1.toNat)) else (Q 160))
def d_Unifier_pushArguments_b19 (v0 : Nat) (v3 : Int) (v4 : Int) (v5 : Int) (μ : Mem) (W19 : Int → Int → Int → Mem → Prop) (Q : Mem → Prop) : Prop := if 0 < v5 then (d_Unifier_push v0 v3 μ (fun μ6 => d_Unifier_push v0 v4 μ6 (fun μ8 => d_Unifier_end v0 v3 μ8 (fun r9 => d_Unifier_end v0 v4 μ8 (fun r11 => W19 r9 r11 (wr (v5 + (-1))) μ8))))) else (Q μ)
def d_Unifier_pushArguments_l19 (v0 : Nat) (v3 : Int) (v4 : Int) (v5 : Int) (μ : Mem) (Q : Mem → Prop) : Prop := ∀ W : Int → Int → Int → Mem → Prop, (∀ (v3 : Int) (v4 : Int) (v5 : Int) (μ : Mem), d_Unifier_pushArguments_b19 v0 v3 v4 v5 μ W Q → W v3 v4 v5 μ) → W v3 v4 v5 μ
def d_Unifier_pushArguments (v0 : Nat) (v1 : Int) (v2 : Int) (μ : Mem) (Q : Mem → Prop) : Prop := d_Unifier_label v0 v1 μ (fun r1 => d_Term_arityOf r1 μ (fun r3 => d_Unifier_pushArguments_l19 v0 (wr (v1 + 1)) (wr (v2 + 1)) r3 μ Q))
theorem i_Unifier_pushArguments_l19 {v0 : Nat} {Q : Mem → Prop} {Inv : Int → Int → Int → Mem → Prop} (f : Int → Int → Int → Mem → Nat) (hi : ∀ (v3 : Int) (v4 : Int) (v5 : Int) (μ : Mem), Inv v3 v4 v5 μ → ∀ W : Int → Int → Int → Mem → Prop, (∀ (v3' : Int) (v4' : Int) (v5' : Int) (μ' : Mem), Inv v3' v4' v5' μ' → f v3' v4' v5' μ' < f v3 v4 v5 μ → W v3' v4' v5' μ') → d_Unifier_pushArguments_b19 v0 v3 v4 v5 μ W Q) : ∀ (v3 : Int) (v4 : Int) (v5 : Int) (μ : Mem), Inv v3 v4 v5 μ → d_Unifier_pushArguments_l19 v0 v3 v4 v5 μ Q := by
  intro v3 v4 v5 μ hI W hW
  have key : ∀ (n : Nat) (v3 : Int) (v4 : Int) (v5 : Int) (μ : Mem), f v3 v4 v5 μ = n → Inv v3 v4 v5 μ → W v3 v4 v5 μ := by
    intro n
    induction n using Nat.strongRecOn with
    | _ n ih =>
      intro v3 v4 v5 μ hf hI
      exact hW _ _ _ _ (hi v3 v4 v5 μ hI W fun v3' v4' v5' μ' hI' hl => ih _ (by omega) v3' v4' v5' μ' rfl hI')
  exact key _ v3 v4 v5 μ rfl hI
def d_Unifier_merge_j136 (v0 : Nat) (v3 : Int) (μ : Mem) (W17 : Int → Mem → Prop) (Q : Bool → Mem → Prop) : Prop := W17 (wr (v3 + 1)) μ
def d_Unifier_merge_j118 (v0 : Nat) (v3 : Int) (v4 : Int) (v5 : Int) (v6 : Int) (v7 : Int) (μ : Mem) (W17 : Int → Mem → Prop) (Q : Bool → Mem → Prop) : Prop := if v6 < 0 then (d_Unifier_merge_j136 v0 v3 μ W17 Q) else (if v7 < 0 then (d_Unifier_merge_j136 v0 v3 μ W17 Q) else (d_Unifier_pushArguments v0 v4 v5 μ (fun μ20 => d_Unifier_merge_j136 v0 v3 μ20 W17 Q)))
def d_Unifier_merge_j94 (v0 : Nat) (v3 : Int) (v4 : Int) (v5 : Int) (v6 : Int) (v7 : Int) (μ : Mem) (W17 : Int → Mem → Prop) (Q : Bool → Mem → Prop) : Prop := if v6 < 0 then (d_Unifier_hang v0 v4 v5 μ (fun μ18 => d_Unifier_merge_j118 v0 v3 v4 v5 v6 v7 μ18 W17 Q)) else (d_Unifier_hang v0 v5 v4 μ (fun μ22 => d_Unifier_merge_j118 v0 v3 v4 v5 v6 v7 μ22 W17 Q))
def d_Unifier_merge_b17 (v0 : Nat) (v3 : Int) (μ : Mem) (W17 : Int → Mem → Prop) (Q : Bool → Mem → Prop) : Prop := if v3 < 962 then (if 1 < μ v0 7 then (d_Unifier_pop v0 μ (fun r5 μ6 => d_Unifier_root v0 r5 μ6 (fun r7 => d_Unifier_pop v0 μ6 (fun r9 μ10 => d_Unifier_root v0 r9 μ10 (fun r11 => if r7 = r11 then (d_Unifier_merge_j136 v0 v3 μ10 W17 Q) else (d_Unifier_label v0 r7 μ10 (fun r13 => d_Unifier_label v0 r11 μ10 (fun r15 => if r13 < 0 then (d_Unifier_merge_j94 v0 v3 r7 r11 r13 r15 μ10 W17 Q) else (if r15 < 0 then (d_Unifier_merge_j94 v0 v3 r7 r11 r13 r15 μ10 W17 Q) else (if r13 = r15 then (d_Unifier_merge_j94 v0 v3 r7 r11 r13 r15 μ10 W17 Q) else (Q false μ10))))))))))) else (Q true μ)) else (Q true μ)
def d_Unifier_merge_l17 (v0 : Nat) (v3 : Int) (μ : Mem) (Q : Bool → Mem → Prop) : Prop := ∀ W : Int → Mem → Prop, (∀ (v3 : Int) (μ : Mem), d_Unifier_merge_b17 v0 v3 μ W Q → W v3 μ) → W v3 μ
def d_Unifier_merge (v0 : Nat) (v1 : Int) (v2 : Int) (μ : Mem) (Q : Bool → Mem → Prop) : Prop := d_Unifier_push v0 v1 (mup μ v0 7 0) (fun μ2 => d_Unifier_push v0 v2 μ2 (fun μ4 => d_Unifier_merge_l17 v0 0 μ4 Q))
theorem i_Unifier_merge_l17 {v0 : Nat} {Q : Bool → Mem → Prop} {Inv : Int → Mem → Prop} (f : Int → Mem → Nat) (hi : ∀ (v3 : Int) (μ : Mem), Inv v3 μ → ∀ W : Int → Mem → Prop, (∀ (v3' : Int) (μ' : Mem), Inv v3' μ' → f v3' μ' < f v3 μ → W v3' μ') → d_Unifier_merge_b17 v0 v3 μ W Q) : ∀ (v3 : Int) (μ : Mem), Inv v3 μ → d_Unifier_merge_l17 v0 v3 μ Q := by
  intro v3 μ hI W hW
  have key : ∀ (n : Nat) (v3 : Int) (μ : Mem), f v3 μ = n → Inv v3 μ → W v3 μ := by
    intro n
    induction n using Nat.strongRecOn with
    | _ n ih =>
      intro v3 μ hf hI
      exact hW _ _ (hi v3 μ hI W fun v3' μ' hI' hl => ih _ (by omega) v3' μ' rfl hI')
  exact key _ v3 μ rfl hI
def d_Unifier_isSettled (v0 : Nat) (v1 : Int) (μ : Mem) (Q : Bool → Prop) : Prop := if v1 < 0 then (Q false) else (if v1 < 160 then ((0 ≤ v1 ∧ v1 < 160) ∧ if μ (v0 + 4) v1.toNat = 0 then (Q false) else (Q true)) else (Q false))
def d_Unifier_settles_b31 (v0 : Nat) (v3 : Int) (v4 : Int) (μ : Mem) (W31 : Int → Int → Prop) (Q : Bool → Prop) : Prop := if 0 < v4 then (d_Unifier_root v0 v3 μ (fun r7 => d_Unifier_isSettled v0 r7 μ (fun r9 => if r9 = true then (d_Unifier_end v0 v3 μ (fun r11 => W31 r11 (wr (v4 + (-1))))) else (Q false)))) else (Q true)
def d_Unifier_settles_l31 (v0 : Nat) (v3 : Int) (v4 : Int) (μ : Mem) (Q : Bool → Prop) : Prop := ∀ W : Int → Int → Prop, (∀ (v3 : Int) (v4 : Int), d_Unifier_settles_b31 v0 v3 v4 μ W Q → W v3 v4) → W v3 v4
def d_Unifier_settles (v0 : Nat) (v1 : Int) (μ : Mem) (Q : Bool → Prop) : Prop := d_Unifier_root v0 v1 μ (fun r1 => if r1 = v1 then (d_Unifier_label v0 v1 μ (fun r3 => d_Term_arityOf r3 μ (fun r5 => d_Unifier_settles_l31 v0 (wr (v1 + 1)) r5 μ Q))) else (d_Unifier_isSettled v0 r1 μ (fun r13 => Q r13)))
theorem i_Unifier_settles_l31 {v0 : Nat} {μ : Mem} {Q : Bool → Prop} {Inv : Int → Int → Prop} (f : Int → Int → Nat) (hi : ∀ (v3 : Int) (v4 : Int), Inv v3 v4 → ∀ W : Int → Int → Prop, (∀ (v3' : Int) (v4' : Int), Inv v3' v4' → f v3' v4' < f v3 v4 → W v3' v4') → d_Unifier_settles_b31 v0 v3 v4 μ W Q) : ∀ (v3 : Int) (v4 : Int), Inv v3 v4 → d_Unifier_settles_l31 v0 v3 v4 μ Q := by
  intro v3 v4 hI W hW
  have key : ∀ (n : Nat) (v3 : Int) (v4 : Int), f v3 v4 = n → Inv v3 v4 → W v3 v4 := by
    intro n
    induction n using Nat.strongRecOn with
    | _ n ih =>
      intro v3 v4 hf hI
      exact hW _ _ (hi v3 v4 hI W fun v3' v4' hI' hl => ih _ (by omega) v3' v4' rfl hI')
  exact key _ v3 v4 rfl hI
def d_Unifier_settle (v0 : Nat) (v1 : Int) (μ : Mem) (Q : Mem → Prop) : Prop := if v1 < 0 then (Q μ) else (if v1 < 160 then ((0 ≤ v1 ∧ v1 < 160) ∧ Q (mup μ (v0 + 4) v1.toNat 1)) else (Q μ))
def d_Unifier_isFinite_j99 (v1 : Int) (μ : Mem) (Q : Bool → Mem → Prop) : Prop := if v1 = 0 then (Q true μ) else (Q false μ)
def d_Unifier_isFinite_j87 (v0 : Nat) (v1 : Int) (v2 : Int) (v3 : Int) (v4 : Int) (μ : Mem) (W31 : Int → Int → Int → Mem → Prop) (W53 : Int → Int → Int → Mem → Prop) (Q : Bool → Mem → Prop) : Prop := W53 v1 v2 (wr (v4 + (-1))) μ
def d_Unifier_isFinite_b53 (v0 : Nat) (v3 : Int) (v1 : Int) (v2 : Int) (v4 : Int) (μ : Mem) (W31 : Int → Int → Int → Mem → Prop) (W53 : Int → Int → Int → Mem → Prop) (Q : Bool → Mem → Prop) : Prop := if v4 < 0 then (W31 v1 v2 (wr (v3 + 1)) μ) else (d_Unifier_isSettled v0 v4 μ (fun r1 => if r1 = true then (d_Unifier_isFinite_j87 v0 v1 v2 v3 v4 μ W31 W53 Q) else (d_Unifier_settles v0 v4 μ (fun r3 => if r3 = true then (d_Unifier_settle v0 v4 μ (fun μ6 => d_Unifier_isFinite_j87 v0 (wr (v1 + (-1))) 1 v3 v4 μ6 W31 W53 Q)) else (d_Unifier_isFinite_j87 v0 v1 v2 v3 v4 μ W31 W53 Q)))))
def d_Unifier_isFinite_l53 (v0 : Nat) (v3 : Int) (v1 : Int) (v2 : Int) (v4 : Int) (μ : Mem) (W31 : Int → Int → Int → Mem → Prop) (Q : Bool → Mem → Prop) : Prop := ∀ W : Int → Int → Int → Mem → Prop, (∀ (v1 : Int) (v2 : Int) (v4 : Int) (μ : Mem), d_Unifier_isFinite_b53 v0 v3 v1 v2 v4 μ W31 W Q → W v1 v2 v4 μ) → W v1 v2 v4 μ
def d_Unifier_isFinite_b31 (v0 : Nat) (v1 : Int) (v2 : Int) (v3 : Int) (μ : Mem) (W31 : Int → Int → Int → Mem → Prop) (Q : Bool → Mem → Prop) : Prop := if μ v0 0 < v3 then (d_Unifier_isFinite_j99 v1 μ Q) else (if v2 = 0 then (d_Unifier_isFinite_j99 v1 μ Q) else (d_Unifier_isFinite_l53 v0 v3 v1 0 (wr ((μ v0 0) - 1)) μ W31 Q))
def d_Unifier_isFinite_l31 (v0 : Nat) (v1 : Int) (v2 : Int) (v3 : Int) (μ : Mem) (Q : Bool → Mem → Prop) : Prop := ∀ W : Int → Int → Int → Mem → Prop, (∀ (v1 : Int) (v2 : Int) (v3 : Int) (μ : Mem), d_Unifier_isFinite_b31 v0 v1 v2 v3 μ W Q → W v1 v2 v3 μ) → W v1 v2 v3 μ
def d_Unifier_isFinite_b2 (v0 : Nat) (v1 : Int) (μ : Mem) (W2 : Int → Mem → Prop) (Q : Bool → Mem → Prop) : Prop := if v1 < 160 then ((0 ≤ v1 ∧ v1 < 160) ∧ W2 (wr (v1 + 1)) (mup μ (v0 + 4) v1.toNat 0)) else (d_Unifier_isFinite_l31 v0 (μ v0 0) 1 0 μ Q)
def d_Unifier_isFinite_l2 (v0 : Nat) (v1 : Int) (μ : Mem) (Q : Bool → Mem → Prop) : Prop := ∀ W : Int → Mem → Prop, (∀ (v1 : Int) (μ : Mem), d_Unifier_isFinite_b2 v0 v1 μ W Q → W v1 μ) → W v1 μ
def d_Unifier_isFinite (v0 : Nat) (μ : Mem) (Q : Bool → Mem → Prop) : Prop := d_Unifier_isFinite_l2 v0 0 μ Q
theorem i_Unifier_isFinite_l53 {v0 : Nat} {v3 : Int} {W31 : Int → Int → Int → Mem → Prop} {Q : Bool → Mem → Prop} {Inv : Int → Int → Int → Mem → Prop} (f : Int → Int → Int → Mem → Nat) (hi : ∀ (v1 : Int) (v2 : Int) (v4 : Int) (μ : Mem), Inv v1 v2 v4 μ → ∀ W : Int → Int → Int → Mem → Prop, (∀ (v1' : Int) (v2' : Int) (v4' : Int) (μ' : Mem), Inv v1' v2' v4' μ' → f v1' v2' v4' μ' < f v1 v2 v4 μ → W v1' v2' v4' μ') → d_Unifier_isFinite_b53 v0 v3 v1 v2 v4 μ W31 W Q) : ∀ (v1 : Int) (v2 : Int) (v4 : Int) (μ : Mem), Inv v1 v2 v4 μ → d_Unifier_isFinite_l53 v0 v3 v1 v2 v4 μ W31 Q := by
  intro v1 v2 v4 μ hI W hW
  have key : ∀ (n : Nat) (v1 : Int) (v2 : Int) (v4 : Int) (μ : Mem), f v1 v2 v4 μ = n → Inv v1 v2 v4 μ → W v1 v2 v4 μ := by
    intro n
    induction n using Nat.strongRecOn with
    | _ n ih =>
      intro v1 v2 v4 μ hf hI
      exact hW _ _ _ _ (hi v1 v2 v4 μ hI W fun v1' v2' v4' μ' hI' hl => ih _ (by omega) v1' v2' v4' μ' rfl hI')
  exact key _ v1 v2 v4 μ rfl hI
theorem i_Unifier_isFinite_l31 {v0 : Nat} {Q : Bool → Mem → Prop} {Inv : Int → Int → Int → Mem → Prop} (f : Int → Int → Int → Mem → Nat) (hi : ∀ (v1 : Int) (v2 : Int) (v3 : Int) (μ : Mem), Inv v1 v2 v3 μ → ∀ W : Int → Int → Int → Mem → Prop, (∀ (v1' : Int) (v2' : Int) (v3' : Int) (μ' : Mem), Inv v1' v2' v3' μ' → f v1' v2' v3' μ' < f v1 v2 v3 μ → W v1' v2' v3' μ') → d_Unifier_isFinite_b31 v0 v1 v2 v3 μ W Q) : ∀ (v1 : Int) (v2 : Int) (v3 : Int) (μ : Mem), Inv v1 v2 v3 μ → d_Unifier_isFinite_l31 v0 v1 v2 v3 μ Q := by
  intro v1 v2 v3 μ hI W hW
  have key : ∀ (n : Nat) (v1 : Int) (v2 : Int) (v3 : Int) (μ : Mem), f v1 v2 v3 μ = n → Inv v1 v2 v3 μ → W v1 v2 v3 μ := by
    intro n
    induction n using Nat.strongRecOn with
    | _ n ih =>
      intro v1 v2 v3 μ hf hI
      exact hW _ _ _ _ (hi v1 v2 v3 μ hI W fun v1' v2' v3' μ' hI' hl => ih _ (by omega) v1' v2' v3' μ' rfl hI')
  exact key _ v1 v2 v3 μ rfl hI
theorem i_Unifier_isFinite_l2 {v0 : Nat} {Q : Bool → Mem → Prop} {Inv : Int → Mem → Prop} (f : Int → Mem → Nat) (hi : ∀ (v1 : Int) (μ : Mem), Inv v1 μ → ∀ W : Int → Mem → Prop, (∀ (v1' : Int) (μ' : Mem), Inv v1' μ' → f v1' μ' < f v1 μ → W v1' μ') → d_Unifier_isFinite_b2 v0 v1 μ W Q) : ∀ (v1 : Int) (μ : Mem), Inv v1 μ → d_Unifier_isFinite_l2 v0 v1 μ Q := by
  intro v1 μ hI W hW
  have key : ∀ (n : Nat) (v1 : Int) (μ : Mem), f v1 μ = n → Inv v1 μ → W v1 μ := by
    intro n
    induction n using Nat.strongRecOn with
    | _ n ih =>
      intro v1 μ hf hI
      exact hW _ _ (hi v1 μ hI W fun v1' μ' hI' hl => ih _ (by omega) v1' μ' rfl hI')
  exact key _ v1 μ rfl hI
def d_Unifier_solve (v0 : Nat) (v1 : Int) (v2 : Int) (μ : Mem) (Q : Bool → Mem → Prop) : Prop := d_Unifier_merge v0 v1 v2 μ (fun r1 μ2 => if r1 = true then (d_Unifier_isFinite v0 μ2 (fun r3 μ4 => if r3 = true then (Q true μ4) else (Q false μ4))) else (Q false μ2))
def d_PairList_firstTerm_j21 (t0 : Nat) (μ : Mem) (Q : Nat → Prop) : Prop := Q t0
def d_PairList_firstTerm (v1 : Int) (μ : Mem) (Q : Nat → Prop) : Prop := d_PairList_has v1 μ (fun r1 => if r1 = true then ((0 ≤ v1 ∧ v1 < 20) ∧ d_PairList_firstTerm_j21 (159 + (5 + 4 * v1.toNat)) μ Q) else (d_PairList_firstTerm_j21 161 μ Q))
def d_PairList_secondTerm_j21 (t0 : Nat) (μ : Mem) (Q : Nat → Prop) : Prop := Q t0
def d_PairList_secondTerm (v1 : Int) (μ : Mem) (Q : Nat → Prop) : Prop := d_PairList_has v1 μ (fun r1 => if r1 = true then ((0 ≤ v1 ∧ v1 < 20) ∧ d_PairList_secondTerm_j21 (160 + (6 + 4 * v1.toNat)) μ Q) else (d_PairList_secondTerm_j21 161 μ Q))
def d_Unifier_pushReversed_j41 (v0 : Nat) (v1 : Int) (v2 : Int) (μ : Mem) (Q : Mem → Prop) : Prop := if 0 < v2 then (d_Unifier_push v0 (wr (v1 + 1)) μ (fun μ14 => Q μ14)) else (Q μ)
def d_Unifier_pushReversed_j31 (v0 : Nat) (v1 : Int) (v2 : Int) (v3 : Int) (μ : Mem) (Q : Mem → Prop) : Prop := if 1 < v2 then (d_Unifier_push v0 v3 μ (fun μ12 => d_Unifier_pushReversed_j41 v0 v1 v2 μ12 Q)) else (d_Unifier_pushReversed_j41 v0 v1 v2 μ Q)
def d_Unifier_pushReversed (v0 : Nat) (v1 : Int) (μ : Mem) (Q : Mem → Prop) : Prop := d_Unifier_label v0 v1 μ (fun r1 => d_Term_arityOf r1 μ (fun r3 => d_Unifier_end v0 (wr (v1 + 1)) μ (fun r5 => if 2 < r3 then (d_Unifier_end v0 r5 μ (fun r7 => d_Unifier_push v0 r7 μ (fun μ10 => d_Unifier_pushReversed_j31 v0 v1 r3 r5 μ10 Q))) else (d_Unifier_pushReversed_j31 v0 v1 r3 r5 μ Q))))
def d_Unifier_expand_j62 (v0 : Nat) (μ : Mem) (Q : Bool → Mem → Prop) : Prop := if μ v0 7 = 0 then (Q true μ) else (Q false μ)
def d_Unifier_expand_b12 (v0 : Nat) (v2 : Nat) (v3 : Int) (μ : Mem) (W12 : Int → Mem → Prop) (Q : Bool → Mem → Prop) : Prop := if 80 < v3 then (d_Unifier_expand_j62 v0 μ Q) else (if 0 < μ v0 7 then (d_Unifier_pop v0 μ (fun r3 μ4 => d_Unifier_root v0 r3 μ4 (fun r5 => d_Unifier_label v0 r5 μ4 (fun r7 => d_Term_add v2 r7 μ4 (fun r9 μ10 => if r9 = true then (d_Unifier_pushReversed v0 r5 μ10 (fun μ12 => W12 (wr (v3 + 1)) μ12)) else (Q false μ10)))))) else (d_Unifier_expand_j62 v0 μ Q))
def d_Unifier_expand_l12 (v0 : Nat) (v2 : Nat) (v3 : Int) (μ : Mem) (Q : Bool → Mem → Prop) : Prop := ∀ W : Int → Mem → Prop, (∀ (v3 : Int) (μ : Mem), d_Unifier_expand_b12 v0 v2 v3 μ W Q → W v3 μ) → W v3 μ
def d_Unifier_expand (v0 : Nat) (v1 : Int) (v2 : Nat) (μ : Mem) (Q : Bool → Mem → Prop) : Prop := d_Unifier_push v0 v1 (mup μ v0 7 0) (fun μ2 => d_Unifier_expand_l12 v0 v2 0 μ2 Q)
theorem i_Unifier_expand_l12 {v0 : Nat} {v2 : Nat} {Q : Bool → Mem → Prop} {Inv : Int → Mem → Prop} (f : Int → Mem → Nat) (hi : ∀ (v3 : Int) (μ : Mem), Inv v3 μ → ∀ W : Int → Mem → Prop, (∀ (v3' : Int) (μ' : Mem), Inv v3' μ' → f v3' μ' < f v3 μ → W v3' μ') → d_Unifier_expand_b12 v0 v2 v3 μ W Q) : ∀ (v3 : Int) (μ : Mem), Inv v3 μ → d_Unifier_expand_l12 v0 v2 v3 μ Q := by
  intro v3 μ hI W hW
  have key : ∀ (n : Nat) (v3 : Int) (μ : Mem), f v3 μ = n → Inv v3 μ → W v3 μ := by
    intro n
    induction n using Nat.strongRecOn with
    | _ n ih =>
      intro v3 μ hf hI
      exact hW _ _ (hi v3 μ hI W fun v3' μ' hI' hl => ih _ (by omega) v3' μ' rfl hI')
  exact key _ v3 μ rfl hI
def d_Term_variableOf (v0 : Int) (μ : Mem) (Q : Int → Prop) : Prop := if v0 < 0 then (Q (wr ((-1) - v0))) else (Q (-1))
def d_Term_set (v0 : Nat) (v1 : Int) (v2 : Int) (μ : Mem) (Q : Mem → Prop) : Prop := if v1 < 0 then (Q μ) else (if v1 < μ v0 1 then (if v1 < (ln (v0 + 1) : Int) then ((0 ≤ v1 ∧ v1 < (ln (v0 + 1) : Int)) ∧ Q (mup μ (v0 + 1) v1.toNat v2)) else (Q μ)) else (Q μ))
def d_PairList_nameVariables_j78 (v1 : Nat) (v3 : Int) (v4 : Int) (μ : Mem) (W5 : Int → Int → Mem → Prop) (Q : Int → Mem → Prop) : Prop := W5 v3 (wr (v4 + 1)) μ
def d_PairList_nameVariables_j62 (v1 : Nat) (v3 : Int) (v4 : Int) (v5 : Int) (μ : Mem) (W5 : Int → Int → Mem → Prop) (Q : Int → Mem → Prop) : Prop := (0 ≤ v5 ∧ v5 < 16) ∧ d_Term_variableNode (μ 163 v5.toNat) μ (fun r5 => d_Term_set v1 v4 r5 μ (fun μ8 => d_PairList_nameVariables_j78 v1 v3 v4 μ8 W5 Q))
def d_PairList_nameVariables_b5 (v1 : Nat) (v3 : Int) (v4 : Int) (μ : Mem) (W5 : Int → Int → Mem → Prop) (Q : Int → Mem → Prop) : Prop := if v4 < μ v1 1 then (d_Term_get v1 v4 μ (fun r1 => d_Term_variableOf r1 μ (fun r3 => if r3 < 0 then (d_PairList_nameVariables_j78 v1 v3 v4 μ W5 Q) else (if r3 < 16 then ((0 ≤ r3 ∧ r3 < 16) ∧ if μ 163 r3.toNat = (-1) then ((0 ≤ r3 ∧ r3 < 16) ∧ d_PairList_nameVariables_j62 v1 (wr (v3 + 1)) v4 r3 (mup μ 163 r3.toNat v3) W5 Q) else (d_PairList_nameVariables_j62 v1 v3 v4 r3 μ W5 Q)) else (d_PairList_nameVariables_j78 v1 v3 v4 μ W5 Q))))) else (Q v3 μ)
def d_PairList_nameVariables_l5 (v1 : Nat) (v3 : Int) (v4 : Int) (μ : Mem) (Q : Int → Mem → Prop) : Prop := ∀ W : Int → Int → Mem → Prop, (∀ (v3 : Int) (v4 : Int) (μ : Mem), d_PairList_nameVariables_b5 v1 v3 v4 μ W Q → W v3 v4 μ) → W v3 v4 μ
def d_PairList_nameVariables (v1 : Nat) (v2 : Int) (μ : Mem) (Q : Int → Mem → Prop) : Prop := d_PairList_nameVariables_l5 v1 v2 0 μ Q
theorem i_PairList_nameVariables_l5 {v1 : Nat} {Q : Int → Mem → Prop} {Inv : Int → Int → Mem → Prop} (f : Int → Int → Mem → Nat) (hi : ∀ (v3 : Int) (v4 : Int) (μ : Mem), Inv v3 v4 μ → ∀ W : Int → Int → Mem → Prop, (∀ (v3' : Int) (v4' : Int) (μ' : Mem), Inv v3' v4' μ' → f v3' v4' μ' < f v3 v4 μ → W v3' v4' μ') → d_PairList_nameVariables_b5 v1 v3 v4 μ W Q) : ∀ (v3 : Int) (v4 : Int) (μ : Mem), Inv v3 v4 μ → d_PairList_nameVariables_l5 v1 v3 v4 μ Q := by
  intro v3 v4 μ hI W hW
  have key : ∀ (n : Nat) (v3 : Int) (v4 : Int) (μ : Mem), f v3 v4 μ = n → Inv v3 v4 μ → W v3 v4 μ := by
    intro n
    induction n using Nat.strongRecOn with
    | _ n ih =>
      intro v3 v4 μ hf hI
      exact hW _ _ _ (hi v3 v4 μ hI W fun v3' v4' μ' hI' hl => ih _ (by omega) v3' v4' μ' rfl hI')
  exact key _ v3 v4 μ rfl hI
def d_PairList_buildPair_j234 (v8 : Nat) (v9 : Nat) (v10 : Int) (μ : Mem) (Q : Bool → Mem → Prop) : Prop := d_Arrays_fill 163 (-1) μ (fun μ24 => if v10 = 0 then (Q false μ24) else (d_PairList_nameVariables v8 0 μ24 (fun r25 μ26 => d_PairList_nameVariables v9 r25 μ26 (fun r27 μ28 => if r27 < 0 then (Q false μ28) else (Q true μ28)))))
def d_PairList_buildPair_j228 (v1 : Nat) (v3 : Int) (v4 : Int) (v7 : Int) (v8 : Nat) (v9 : Nat) (v10 : Int) (v11 : Int) (μ : Mem) (W129 : Int → Int → Mem → Prop) (Q : Bool → Mem → Prop) : Prop := W129 v10 (wr (v11 + 1)) μ
def d_PairList_buildPair_j226 (v1 : Nat) (v3 : Int) (v4 : Int) (v7 : Int) (v8 : Nat) (v9 : Nat) (v11 : Int) (t0 : Int) (μ : Mem) (W129 : Int → Int → Mem → Prop) (Q : Bool → Mem → Prop) : Prop := d_PairList_buildPair_j228 v1 v3 v4 v7 v8 v9 t0 v11 μ W129 Q
def d_PairList_buildPair_b129 (v1 : Nat) (v3 : Int) (v4 : Int) (v7 : Int) (v8 : Nat) (v9 : Nat) (v10 : Int) (v11 : Int) (μ : Mem) (W129 : Int → Int → Mem → Prop) (Q : Bool → Mem → Prop) : Prop := if v10 = 0 then (d_PairList_buildPair_j234 v8 v9 v10 μ Q) else (if v11 < μ (dp (μ v1 0)) 1 then (if v11 = v3 then (d_Unifier_expand 140 v7 v9 μ (fun r29 μ30 => d_Term_end (dp (μ30 v1 0)) v11 μ30 (fun r31 => d_Math_max v11 (wr (r31 - 1)) μ30 (fun r33 => d_PairList_buildPair_j228 v1 v3 v4 v7 v8 v9 (b2i r29) r33 μ30 W129 Q)))) else (d_Term_get (dp (μ v1 0)) v11 μ (fun r35 => if r35 < 0 then (d_Unifier_expand 140 (wr (v4 + v11)) v9 μ (fun r37 μ38 => d_PairList_buildPair_j226 v1 v3 v4 v7 v8 v9 v11 (b2i r37) μ38 W129 Q)) else (d_Term_add v9 r35 μ (fun r39 μ40 => d_PairList_buildPair_j226 v1 v3 v4 v7 v8 v9 v11 (b2i r39) μ40 W129 Q))))) else (d_PairList_buildPair_j234 v8 v9 v10 μ Q))
def d_PairList_buildPair_l129 (v1 : Nat) (v3 : Int) (v4 : Int) (v7 : Int) (v8 : Nat) (v9 : Nat) (v10 : Int) (v11 : Int) (μ : Mem) (Q : Bool → Mem → Prop) : Prop := ∀ W : Int → Int → Mem → Prop, (∀ (v10 : Int) (v11 : Int) (μ : Mem), d_PairList_buildPair_b129 v1 v3 v4 v7 v8 v9 v10 v11 μ W Q → W v10 v11 μ) → W v10 v11 μ
def d_PairList_buildPair (v1 : Nat) (v2 : Nat) (v3 : Int) (μ : Mem) (Q : Bool → Mem → Prop) : Prop := d_Unifier_clear 140 μ (fun μ2 => d_Unifier_load 140 (dp (μ2 v1 0)) 0 μ2 (fun r3 μ4 => d_Unifier_load 140 (dp (μ4 v2 0)) 8 μ4 (fun r5 μ6 => d_Unifier_load 140 (dp (μ6 v1 1)) 0 μ6 (fun r7 μ8 => d_Unifier_load 140 (dp (μ8 v2 1)) 8 μ8 (fun r9 μ10 => d_Unifier_solve 140 (wr (r3 + v3)) r5 μ10 (fun r11 μ12 => if r11 = true then (d_PairList_firstTerm (μ12 139 1) μ12 (fun r13 => d_PairList_secondTerm (μ12 139 1) μ12 (fun r15 => d_Term_clear r13 μ12 (fun μ18 => d_Term_clear r15 μ18 (fun μ20 => d_Unifier_expand 140 r7 r13 μ20 (fun r21 μ22 => d_PairList_buildPair_l129 v1 v3 r3 r9 r13 r15 (b2i r21) 0 μ22 Q)))))) else (Q false μ12)))))))
theorem i_PairList_buildPair_l129 {v1 : Nat} {v3 : Int} {v4 : Int} {v7 : Int} {v8 : Nat} {v9 : Nat} {Q : Bool → Mem → Prop} {Inv : Int → Int → Mem → Prop} (f : Int → Int → Mem → Nat) (hi : ∀ (v10 : Int) (v11 : Int) (μ : Mem), Inv v10 v11 μ → ∀ W : Int → Int → Mem → Prop, (∀ (v10' : Int) (v11' : Int) (μ' : Mem), Inv v10' v11' μ' → f v10' v11' μ' < f v10 v11 μ → W v10' v11' μ') → d_PairList_buildPair_b129 v1 v3 v4 v7 v8 v9 v10 v11 μ W Q) : ∀ (v10 : Int) (v11 : Int) (μ : Mem), Inv v10 v11 μ → d_PairList_buildPair_l129 v1 v3 v4 v7 v8 v9 v10 v11 μ Q := by
  intro v10 v11 μ hI W hW
  have key : ∀ (n : Nat) (v10 : Int) (v11 : Int) (μ : Mem), f v10 v11 μ = n → Inv v10 v11 μ → W v10 v11 μ := by
    intro n
    induction n using Nat.strongRecOn with
    | _ n ih =>
      intro v10 v11 μ hf hI
      exact hW _ _ _ (hi v10 v11 μ hI W fun v10' v11' μ' hI' hl => ih _ (by omega) v10' v11' μ' rfl hI')
  exact key _ v10 v11 μ rfl hI
def d_PairList_keep (v1 : Int) (v2 : Int) (v3 : Int) (μ : Mem) (Q : Mem → Prop) : Prop := d_PairList_has (μ 139 1) μ (fun r1 => if r1 = true then ((0 ≤ μ 139 1 ∧ μ 139 1 < 20) ∧ (0 ≤ (mup μ 155 (μ 139 1).toNat v1) 139 1 ∧ (mup μ 155 (μ 139 1).toNat v1) 139 1 < 20) ∧ (0 ≤ (mup (mup μ 155 (μ 139 1).toNat v1) 156 ((mup μ 155 (μ 139 1).toNat v1) 139 1).toNat v2) 139 1 ∧ (mup (mup μ 155 (μ 139 1).toNat v1) 156 ((mup μ 155 (μ 139 1).toNat v1) 139 1).toNat v2) 139 1 < 20) ∧ (0 ≤ (mup (mup (mup μ 155 (μ 139 1).toNat v1) 156 ((mup μ 155 (μ 139 1).toNat v1) 139 1).toNat v2) 157 ((mup (mup μ 155 (μ 139 1).toNat v1) 156 ((mup μ 155 (μ 139 1).toNat v1) 139 1).toNat v2) 139 1).toNat v3) 139 1 ∧ (mup (mup (mup μ 155 (μ 139 1).toNat v1) 156 ((mup μ 155 (μ 139 1).toNat v1) 139 1).toNat v2) 157 ((mup (mup μ 155 (μ 139 1).toNat v1) 156 ((mup μ 155 (μ 139 1).toNat v1) 139 1).toNat v2) 139 1).toNat v3) 139 1 < 20) ∧ Q (mup (mup (mup (mup (mup μ 155 (μ 139 1).toNat v1) 156 ((mup μ 155 (μ 139 1).toNat v1) 139 1).toNat v2) 157 ((mup (mup μ 155 (μ 139 1).toNat v1) 156 ((mup μ 155 (μ 139 1).toNat v1) 139 1).toNat v2) 139 1).toNat v3) 158 ((mup (mup (mup μ 155 (μ 139 1).toNat v1) 156 ((mup μ 155 (μ 139 1).toNat v1) 139 1).toNat v2) 157 ((mup (mup μ 155 (μ 139 1).toNat v1) 156 ((mup μ 155 (μ 139 1).toNat v1) 139 1).toNat v2) 139 1).toNat v3) 139 1).toNat 0) 139 1 (wr (((mup (mup (mup (mup μ 155 (μ 139 1).toNat v1) 156 ((mup μ 155 (μ 139 1).toNat v1) 139 1).toNat v2) 157 ((mup (mup μ 155 (μ 139 1).toNat v1) 156 ((mup μ 155 (μ 139 1).toNat v1) 139 1).toNat v2) 139 1).toNat v3) 158 ((mup (mup (mup μ 155 (μ 139 1).toNat v1) 156 ((mup μ 155 (μ 139 1).toNat v1) 139 1).toNat v2) 157 ((mup (mup μ 155 (μ 139 1).toNat v1) 156 ((mup μ 155 (μ 139 1).toNat v1) 139 1).toNat v2) 139 1).toNat v3) 139 1).toNat 0) 139 1) + 1)))) else (Q μ))
def d_PairList_refresh_j132 (v1 : Nat) (v2 : Int) (v3 : Nat) (v4 : Int) (v5 : Nat) (v6 : Int) (μ : Mem) (W20 : Int → Mem → Prop) (W37 : Int → Mem → Prop) (W67 : Int → Mem → Prop) (Q : Mem → Prop) : Prop := W67 (wr (v6 + 1)) μ
def d_PairList_refresh_b67 (v1 : Nat) (v2 : Int) (v3 : Nat) (v4 : Int) (v5 : Nat) (v6 : Int) (μ : Mem) (W20 : Int → Mem → Prop) (W37 : Int → Mem → Prop) (W67 : Int → Mem → Prop) (Q : Mem → Prop) : Prop := if v6 < μ (dp (μ v3 0)) 1 then (d_Term_get (dp (μ v3 0)) v6 μ (fun r5 => d_Term_get (dp (μ v5 0)) 0 μ (fun r7 => if r5 = r7 then (d_PairList_has (μ 139 1) μ (fun r9 => if r9 = true then (d_PairList_buildPair v3 v5 v6 μ (fun r11 μ12 => if r11 = true then (d_PairList_keep v2 v4 v6 μ12 (fun μ14 => d_PairList_refresh_j132 v1 v2 v3 v4 v5 v6 μ14 W20 W37 W67 Q)) else (d_PairList_refresh_j132 v1 v2 v3 v4 v5 v6 μ12 W20 W37 W67 Q))) else (d_PairList_refresh_j132 v1 v2 v3 v4 v5 v6 μ W20 W37 W67 Q))) else (d_PairList_refresh_j132 v1 v2 v3 v4 v5 v6 μ W20 W37 W67 Q)))) else (W37 (wr (v4 + 1)) μ)
def d_PairList_refresh_l67 (v1 : Nat) (v2 : Int) (v3 : Nat) (v4 : Int) (v5 : Nat) (v6 : Int) (μ : Mem) (W20 : Int → Mem → Prop) (W37 : Int → Mem → Prop) (Q : Mem → Prop) : Prop := ∀ W : Int → Mem → Prop, (∀ (v6 : Int) (μ : Mem), d_PairList_refresh_b67 v1 v2 v3 v4 v5 v6 μ W20 W37 W Q → W v6 μ) → W v6 μ
def d_PairList_refresh_j65 (v1 : Nat) (v2 : Int) (v3 : Nat) (v4 : Int) (v5 : Nat) (t0 : Int) (μ : Mem) (W20 : Int → Mem → Prop) (W37 : Int → Mem → Prop) (Q : Mem → Prop) : Prop := d_PairList_refresh_l67 v1 v2 v3 v4 v5 t0 μ W20 W37 Q
def d_PairList_refresh_b37 (v1 : Nat) (v2 : Int) (v3 : Nat) (v4 : Int) (μ : Mem) (W20 : Int → Mem → Prop) (W37 : Int → Mem → Prop) (Q : Mem → Prop) : Prop := if v4 < μ v1 0 then (d_State_rule v1 v4 μ (fun r3 => if v2 = v4 then (d_PairList_refresh_j65 v1 v2 v3 v4 r3 1 μ W20 W37 Q) else (d_PairList_refresh_j65 v1 v2 v3 v4 r3 0 μ W20 W37 Q))) else (W20 (wr (v2 + 1)) μ)
def d_PairList_refresh_l37 (v1 : Nat) (v2 : Int) (v3 : Nat) (v4 : Int) (μ : Mem) (W20 : Int → Mem → Prop) (Q : Mem → Prop) : Prop := ∀ W : Int → Mem → Prop, (∀ (v4 : Int) (μ : Mem), d_PairList_refresh_b37 v1 v2 v3 v4 μ W20 W Q → W v4 μ) → W v4 μ
def d_PairList_refresh_b20 (v1 : Nat) (v2 : Int) (μ : Mem) (W20 : Int → Mem → Prop) (Q : Mem → Prop) : Prop := if v2 < μ v1 0 then (d_State_rule v1 v2 μ (fun r1 => d_PairList_refresh_l37 v1 v2 r1 0 μ W20 Q)) else (Q μ)
def d_PairList_refresh_l20 (v1 : Nat) (v2 : Int) (μ : Mem) (Q : Mem → Prop) : Prop := ∀ W : Int → Mem → Prop, (∀ (v2 : Int) (μ : Mem), d_PairList_refresh_b20 v1 v2 μ W Q → W v2 μ) → W v2 μ
def d_PairList_refresh (v1 : Nat) (μ : Mem) (Q : Mem → Prop) : Prop := if μ 139 0 = 0 then (Q μ) else (d_PairList_refresh_l20 v1 0 (mup (mup μ 139 0 0) 139 1 0) Q)
theorem i_PairList_refresh_l67 {v1 : Nat} {v2 : Int} {v3 : Nat} {v4 : Int} {v5 : Nat} {W20 : Int → Mem → Prop} {W37 : Int → Mem → Prop} {Q : Mem → Prop} {Inv : Int → Mem → Prop} (f : Int → Mem → Nat) (hi : ∀ (v6 : Int) (μ : Mem), Inv v6 μ → ∀ W : Int → Mem → Prop, (∀ (v6' : Int) (μ' : Mem), Inv v6' μ' → f v6' μ' < f v6 μ → W v6' μ') → d_PairList_refresh_b67 v1 v2 v3 v4 v5 v6 μ W20 W37 W Q) : ∀ (v6 : Int) (μ : Mem), Inv v6 μ → d_PairList_refresh_l67 v1 v2 v3 v4 v5 v6 μ W20 W37 Q := by
  intro v6 μ hI W hW
  have key : ∀ (n : Nat) (v6 : Int) (μ : Mem), f v6 μ = n → Inv v6 μ → W v6 μ := by
    intro n
    induction n using Nat.strongRecOn with
    | _ n ih =>
      intro v6 μ hf hI
      exact hW _ _ (hi v6 μ hI W fun v6' μ' hI' hl => ih _ (by omega) v6' μ' rfl hI')
  exact key _ v6 μ rfl hI
theorem i_PairList_refresh_l37 {v1 : Nat} {v2 : Int} {v3 : Nat} {W20 : Int → Mem → Prop} {Q : Mem → Prop} {Inv : Int → Mem → Prop} (f : Int → Mem → Nat) (hi : ∀ (v4 : Int) (μ : Mem), Inv v4 μ → ∀ W : Int → Mem → Prop, (∀ (v4' : Int) (μ' : Mem), Inv v4' μ' → f v4' μ' < f v4 μ → W v4' μ') → d_PairList_refresh_b37 v1 v2 v3 v4 μ W20 W Q) : ∀ (v4 : Int) (μ : Mem), Inv v4 μ → d_PairList_refresh_l37 v1 v2 v3 v4 μ W20 Q := by
  intro v4 μ hI W hW
  have key : ∀ (n : Nat) (v4 : Int) (μ : Mem), f v4 μ = n → Inv v4 μ → W v4 μ := by
    intro n
    induction n using Nat.strongRecOn with
    | _ n ih =>
      intro v4 μ hf hI
      exact hW _ _ (hi v4 μ hI W fun v4' μ' hI' hl => ih _ (by omega) v4' μ' rfl hI')
  exact key _ v4 μ rfl hI
theorem i_PairList_refresh_l20 {v1 : Nat} {Q : Mem → Prop} {Inv : Int → Mem → Prop} (f : Int → Mem → Nat) (hi : ∀ (v2 : Int) (μ : Mem), Inv v2 μ → ∀ W : Int → Mem → Prop, (∀ (v2' : Int) (μ' : Mem), Inv v2' μ' → f v2' μ' < f v2 μ → W v2' μ') → d_PairList_refresh_b20 v1 v2 μ W Q) : ∀ (v2 : Int) (μ : Mem), Inv v2 μ → d_PairList_refresh_l20 v1 v2 μ Q := by
  intro v2 μ hI W hW
  have key : ∀ (n : Nat) (v2 : Int) (μ : Mem), f v2 μ = n → Inv v2 μ → W v2 μ := by
    intro n
    induction n using Nat.strongRecOn with
    | _ n ih =>
      intro v2 μ hf hI
      exact hW _ _ (hi v2 μ hI W fun v2' μ' hI' hl => ih _ (by omega) v2' μ' rfl hI')
  exact key _ v2 μ rfl hI
def d_OB_criticalPairCount (μ : Mem) (Q : Int → Mem → Prop) (X : Nat → Mem → Prop) : Prop := d_OB_requireSystem μ (fun μ2 => d_PairList_refresh 5 μ2 (fun μ4 => Q (μ4 139 1) μ4)) X
def d_Term_sameAs_b15 (v0 : Nat) (v1 : Nat) (v2 : Int) (μ : Mem) (W15 : Int → Prop) (Q : Bool → Prop) : Prop := if v2 < μ v0 1 then (d_Term_get v0 v2 μ (fun r1 => d_Term_get v1 v2 μ (fun r3 => if r1 = r3 then (W15 (wr (v2 + 1))) else (Q false)))) else (Q true)
def d_Term_sameAs_l15 (v0 : Nat) (v1 : Nat) (v2 : Int) (μ : Mem) (Q : Bool → Prop) : Prop := ∀ W : Int → Prop, (∀ (v2 : Int), d_Term_sameAs_b15 v0 v1 v2 μ W Q → W v2) → W v2
def d_Term_sameAs (v0 : Nat) (v1 : Nat) (μ : Mem) (Q : Bool → Prop) : Prop := if μ v0 1 = μ v1 1 then (d_Term_sameAs_l15 v0 v1 0 μ Q) else (Q false)
theorem i_Term_sameAs_l15 {v0 : Nat} {v1 : Nat} {μ : Mem} {Q : Bool → Prop} {Inv : Int → Prop} (f : Int → Nat) (hi : ∀ (v2 : Int), Inv v2 → ∀ W : Int → Prop, (∀ (v2' : Int), Inv v2' → f v2' < f v2 → W v2') → d_Term_sameAs_b15 v0 v1 v2 μ W Q) : ∀ (v2 : Int), Inv v2 → d_Term_sameAs_l15 v0 v1 v2 μ Q := by
  intro v2 hI W hW
  have key : ∀ (n : Nat) (v2 : Int), f v2 = n → Inv v2 → W v2 := by
    intro n
    induction n using Nat.strongRecOn with
    | _ n ih =>
      intro v2 hf hI
      exact hW _ (hi v2 hI W fun v2' hI' hl => ih _ (by omega) v2' rfl hI')
  exact key _ v2 rfl hI
def d_Rewriter_meet (v0 : Nat) (v1 : Nat) (v2 : Nat) (v3 : Nat) (v4 : Int) (μ : Mem) (Q : Bool → Mem → Prop) : Prop := d_Rewriter_reduce v0 v1 v2 1 v4 μ (fun r1 μ2 => if r1 = (-1) then (Q false μ2) else (d_Term_copyFrom (v0 + 5) (v0 + 3) μ2 (fun μ4 => d_Rewriter_reduce v0 v1 v3 1 v4 μ4 (fun r5 μ6 => if r5 = (-1) then (Q false μ6) else (d_Term_sameAs (v0 + 5) (v0 + 3) μ6 (fun r7 => if r7 = true then (Q true μ6) else (Q false μ6)))))))
def d_PairList_joins_j55 (v2 : Int) (μ : Mem) (Q : Bool → Mem → Prop) : Prop := (0 ≤ v2 ∧ v2 < 20) ∧ if μ 158 v2.toNat = 1 then (Q true μ) else (Q false μ)
def d_PairList_joins_j54 (v2 : Int) (t1 : Int) (t2 : Int) (μ : Mem) (Q : Bool → Mem → Prop) : Prop := (0 ≤ t1 ∧ t1 < 20) ∧ d_PairList_joins_j55 v2 (mup μ 158 t1.toNat t2) Q
def d_PairList_joins (v1 : Nat) (v2 : Int) (μ : Mem) (Q : Bool → Mem → Prop) : Prop := d_PairList_has v2 μ (fun r1 => if r1 = true then ((0 ≤ v2 ∧ v2 < 20) ∧ if μ 158 v2.toNat = 0 then (d_PairList_firstTerm v2 μ (fun r3 => d_PairList_secondTerm v2 μ (fun r5 => d_Rewriter_meet 147 v1 r3 r5 50 μ (fun r7 μ8 => if r7 = true then (d_PairList_joins_j54 v2 v2 1 μ8 Q) else (d_PairList_joins_j54 v2 v2 2 μ8 Q))))) else (d_PairList_joins_j55 v2 μ Q)) else (Q false μ))
def d_OB_unjoinedPairs_j48 (v1 : Int) (v2 : Int) (μ : Mem) (W19 : Int → Int → Mem → Prop) (Q : Int → Mem → Prop) (X : Nat → Mem → Prop) : Prop := W19 v1 (wr (v2 + 1)) μ
def d_OB_unjoinedPairs_b19 (v1 : Int) (v2 : Int) (μ : Mem) (W19 : Int → Int → Mem → Prop) (Q : Int → Mem → Prop) (X : Nat → Mem → Prop) : Prop := if v2 < μ 139 1 then (d_PairList_joins 5 v2 μ (fun r5 μ6 => if r5 = true then (d_OB_unjoinedPairs_j48 v1 v2 μ6 W19 Q X) else (d_OB_unjoinedPairs_j48 (wr (v1 + 1)) v2 μ6 W19 Q X))) else (Q v1 μ)
def d_OB_unjoinedPairs_l19 (v1 : Int) (v2 : Int) (μ : Mem) (Q : Int → Mem → Prop) (X : Nat → Mem → Prop) : Prop := ∀ W : Int → Int → Mem → Prop, (∀ (v1 : Int) (v2 : Int) (μ : Mem), d_OB_unjoinedPairs_b19 v1 v2 μ W Q X → W v1 v2 μ) → W v1 v2 μ
def d_OB_unjoinedPairs (μ : Mem) (Q : Int → Mem → Prop) (X : Nat → Mem → Prop) : Prop := d_OB_requireSystem μ (fun μ2 => d_PairList_refresh 5 μ2 (fun μ4 => d_OB_unjoinedPairs_l19 0 0 μ4 Q X)) X
theorem i_OB_unjoinedPairs_l19 {Q : Int → Mem → Prop} {X : Nat → Mem → Prop} {Inv : Int → Int → Mem → Prop} (f : Int → Int → Mem → Nat) (hi : ∀ (v1 : Int) (v2 : Int) (μ : Mem), Inv v1 v2 μ → ∀ W : Int → Int → Mem → Prop, (∀ (v1' : Int) (v2' : Int) (μ' : Mem), Inv v1' v2' μ' → f v1' v2' μ' < f v1 v2 μ → W v1' v2' μ') → d_OB_unjoinedPairs_b19 v1 v2 μ W Q X) : ∀ (v1 : Int) (v2 : Int) (μ : Mem), Inv v1 v2 μ → d_OB_unjoinedPairs_l19 v1 v2 μ Q X := by
  intro v1 v2 μ hI W hW
  have key : ∀ (n : Nat) (v1 : Int) (v2 : Int) (μ : Mem), f v1 v2 μ = n → Inv v1 v2 μ → W v1 v2 μ := by
    intro n
    induction n using Nat.strongRecOn with
    | _ n ih =>
      intro v1 v2 μ hf hI
      exact hW _ _ _ (hi v1 v2 μ hI W fun v1' v2' μ' hI' hl => ih _ (by omega) v1' v2' μ' rfl hI')
  exact key _ v1 v2 μ rfl hI
def d_History_at_j22 (μ : Mem) (Q : Nat → Prop) : Prop := False
def d_History_at (v1 : Int) (μ : Mem) (Q : Nat → Prop) : Prop := if v1 < 0 then (d_History_at_j22 μ Q) else (if v1 < 8 then ((0 ≤ v1 ∧ v1 < 8) ∧ Q (248 + (1 + 52 * v1.toNat))) else (d_History_at_j22 μ Q))
def d_History_keep_j22 (v1 : Nat) (t1 : Int) (μ : Mem) (Q : Mem → Prop) : Prop := d_Math_min (wr (((mup μ 247 1 t1) 247 0) + 1)) 8 (mup μ 247 1 t1) (fun r1 => d_History_at ((mup (mup μ 247 1 t1) 247 0 r1) 247 1) (mup (mup μ 247 1 t1) 247 0 r1) (fun r3 => d_State_copyFrom r3 v1 (mup (mup μ 247 1 t1) 247 0 r1) (fun μ6 => Q μ6)))
def d_History_keep (v1 : Nat) (μ : Mem) (Q : Mem → Prop) : Prop := if wr ((μ 247 1) + 1) < 8 then (d_History_keep_j22 v1 (wr ((μ 247 1) + 1)) μ Q) else (d_History_keep_j22 v1 0 μ Q)
def d_OB_remember (μ : Mem) (Q : Mem → Prop) : Prop := d_History_keep 5 μ (fun μ2 => Q (mup μ2 139 0 1))
def d_OB_takeStep (v1 : Nat) (v2 : Int) (μ : Mem) (Q : Int → Mem → Prop) (X : Nat → Mem → Prop) : Prop := d_Rewriter_step 57 5 v1 v2 μ (fun r1 μ2 => if r1 = (-1) then (X 2 (thr μ2)) else (d_OB_remember μ2 (fun μ4 => d_Term_copyFrom v1 58 μ4 (fun μ6 => Q r1 μ6))))
def d_OB_stepInnermost (v1 : Int) (μ : Mem) (Q : Int → Mem → Prop) (X : Nat → Mem → Prop) : Prop := d_OB_requireTerm v1 μ (fun r1 μ2 => d_OB_takeStep r1 1 μ2 (fun r3 μ4 => Q r3 μ4) X) X
def d_OB_stepOutermost (v1 : Int) (μ : Mem) (Q : Int → Mem → Prop) (X : Nat → Mem → Prop) : Prop := d_OB_requireTerm v1 μ (fun r1 μ2 => d_OB_takeStep r1 0 μ2 (fun r3 μ4 => Q r3 μ4) X) X
def d_OB_normalize (v1 : Int) (μ : Mem) (Q : Int → Mem → Prop) (X : Nat → Mem → Prop) : Prop := d_OB_requireTerm v1 μ (fun r1 μ2 => d_Rewriter_reduce 57 5 r1 1 200 μ2 (fun r3 μ4 => if r3 = (-1) then (X 2 (thr μ4)) else (d_OB_remember μ4 (fun μ6 => d_Term_copyFrom r1 60 μ6 (fun μ8 => Q r3 μ8))))) X
def d_OB_copySubterm (v1 : Int) (v2 : Int) (μ : Mem) (Q : Int → Mem → Prop) (X : Nat → Mem → Prop) : Prop := d_OB_requireNode v1 v2 μ (fun r1 μ2 => if μ2 5 1 < 6 then (d_OB_remember μ2 (fun μ4 => d_Term_end r1 v2 μ4 (fun r5 => d_State_addTerm 5 r1 v2 r5 μ4 (fun μ8 => Q (wr ((μ8 5 1) - 1)) μ8)))) else (X 2 (thr μ2))) X
def d_OB_replaceSubterm_j82 (v4 : Nat) (t0 : Int) (μ : Mem) (Q : Int → Mem → Prop) (X : Nat → Mem → Prop) : Prop := if t0 = 0 then (X 2 (thr μ)) else (d_OB_remember μ (fun μ16 => d_Term_copyFrom v4 769 μ16 (fun μ18 => Q (μ18 v4 1) μ18)))
def d_OB_replaceSubterm_j81 (v4 : Nat) (μ : Mem) (Q : Int → Mem → Prop) (X : Nat → Mem → Prop) : Prop := d_OB_replaceSubterm_j82 v4 0 μ Q X
def d_OB_replaceSubterm (v1 : Int) (v2 : Int) (v3 : Int) (μ : Mem) (Q : Int → Mem → Prop) (X : Nat → Mem → Prop) : Prop := d_OB_requireNode v1 v2 μ (fun r1 μ2 => d_OB_requireTerm v3 μ2 (fun r3 μ4 => d_Term_clear 769 μ4 (fun μ6 => d_Term_addPart 769 r1 0 v2 μ6 (fun r7 μ8 => if r7 = true then (d_Term_addPart 769 r3 0 (μ8 r3 1) μ8 (fun r9 μ10 => if r9 = true then (d_Term_end r1 v2 μ10 (fun r11 => d_Term_addPart 769 r1 r11 (μ10 r1 1) μ10 (fun r13 μ14 => if r13 = true then (d_OB_replaceSubterm_j82 r1 1 μ14 Q X) else (d_OB_replaceSubterm_j81 r1 μ14 Q X)))) else (d_OB_replaceSubterm_j81 r1 μ10 Q X))) else (d_OB_replaceSubterm_j81 r1 μ8 Q X)))) X) X
def d_Rule_exchange (v0 : Nat) (v1 : Nat) (μ : Mem) (Q : Mem → Prop) : Prop := Q (mup (mup (mup (mup μ v0 0 ((dp (μ v1 0)) : Int)) v0 1 ((dp ((mup μ v0 0 ((dp (μ v1 0)) : Int)) v1 1)) : Int)) v1 0 ((dp (μ v0 0)) : Int)) v1 1 ((dp (μ v0 1)) : Int))
def d_OB_swapRules_b29 (v5 : Int) (v6 : Int) (μ : Mem) (W29 : Int → Int → Mem → Prop) (Q : Int → Mem → Prop) (X : Nat → Mem → Prop) : Prop := if v6 < μ 5 1 then (d_State_term 5 v6 μ (fun r9 => d_Rewriter_countRedexes 57 5 r9 μ (fun r11 μ12 => W29 (wr (v5 + r11)) (wr (v6 + 1)) μ12))) else (Q v5 μ)
def d_OB_swapRules_l29 (v5 : Int) (v6 : Int) (μ : Mem) (Q : Int → Mem → Prop) (X : Nat → Mem → Prop) : Prop := ∀ W : Int → Int → Mem → Prop, (∀ (v5 : Int) (v6 : Int) (μ : Mem), d_OB_swapRules_b29 v5 v6 μ W Q X → W v5 v6 μ) → W v5 v6 μ
def d_OB_swapRules (v1 : Int) (v2 : Int) (μ : Mem) (Q : Int → Mem → Prop) (X : Nat → Mem → Prop) : Prop := d_OB_requireRule v1 μ (fun r1 μ2 => d_OB_requireRule v2 μ2 (fun r3 μ4 => d_OB_remember μ4 (fun μ6 => d_Rule_exchange r1 r3 μ6 (fun μ8 => d_OB_swapRules_l29 0 0 μ8 Q X))) X) X
theorem i_OB_swapRules_l29 {Q : Int → Mem → Prop} {X : Nat → Mem → Prop} {Inv : Int → Int → Mem → Prop} (f : Int → Int → Mem → Nat) (hi : ∀ (v5 : Int) (v6 : Int) (μ : Mem), Inv v5 v6 μ → ∀ W : Int → Int → Mem → Prop, (∀ (v5' : Int) (v6' : Int) (μ' : Mem), Inv v5' v6' μ' → f v5' v6' μ' < f v5 v6 μ → W v5' v6' μ') → d_OB_swapRules_b29 v5 v6 μ W Q X) : ∀ (v5 : Int) (v6 : Int) (μ : Mem), Inv v5 v6 μ → d_OB_swapRules_l29 v5 v6 μ Q X := by
  intro v5 v6 μ hI W hW
  have key : ∀ (n : Nat) (v5 : Int) (v6 : Int) (μ : Mem), f v5 v6 μ = n → Inv v5 v6 μ → W v5 v6 μ := by
    intro n
    induction n using Nat.strongRecOn with
    | _ n ih =>
      intro v5 v6 μ hf hI
      exact hW _ _ _ (hi v5 v6 μ hI W fun v5' v6' μ' hI' hl => ih _ (by omega) v5' v6' μ' rfl hI')
  exact key _ v5 v6 μ rfl hI
def d_State_dropTerm_b2 (v0 : Nat) (v2 : Int) (μ : Mem) (W2 : Int → Mem → Prop) (Q : Mem → Prop) : Prop := if wr (v2 + 1) < μ v0 1 then (d_State_term v0 v2 μ (fun r1 => d_State_term v0 (wr (v2 + 1)) μ (fun r3 => d_Term_copyFrom r1 r3 μ (fun μ6 => W2 (wr (v2 + 1)) μ6)))) else (Q (mup μ v0 1 (wr ((μ v0 1) - 1))))
def d_State_dropTerm_l2 (v0 : Nat) (v2 : Int) (μ : Mem) (Q : Mem → Prop) : Prop := ∀ W : Int → Mem → Prop, (∀ (v2 : Int) (μ : Mem), d_State_dropTerm_b2 v0 v2 μ W Q → W v2 μ) → W v2 μ
def d_State_dropTerm (v0 : Nat) (v1 : Int) (μ : Mem) (Q : Mem → Prop) : Prop := d_State_dropTerm_l2 v0 v1 μ Q
theorem i_State_dropTerm_l2 {v0 : Nat} {Q : Mem → Prop} {Inv : Int → Mem → Prop} (f : Int → Mem → Nat) (hi : ∀ (v2 : Int) (μ : Mem), Inv v2 μ → ∀ W : Int → Mem → Prop, (∀ (v2' : Int) (μ' : Mem), Inv v2' μ' → f v2' μ' < f v2 μ → W v2' μ') → d_State_dropTerm_b2 v0 v2 μ W Q) : ∀ (v2 : Int) (μ : Mem), Inv v2 μ → d_State_dropTerm_l2 v0 v2 μ Q := by
  intro v2 μ hI W hW
  have key : ∀ (n : Nat) (v2 : Int) (μ : Mem), f v2 μ = n → Inv v2 μ → W v2 μ := by
    intro n
    induction n using Nat.strongRecOn with
    | _ n ih =>
      intro v2 μ hf hI
      exact hW _ _ (hi v2 μ hI W fun v2' μ' hI' hl => ih _ (by omega) v2' μ' rfl hI')
  exact key _ v2 μ rfl hI
def d_OB_removeTerm (v1 : Int) (μ : Mem) (Q : Int → Mem → Prop) (X : Nat → Mem → Prop) : Prop := d_OB_requireTerm v1 μ (fun r1 μ2 => d_OB_remember μ2 (fun μ4 => d_State_dropTerm 5 v1 μ4 (fun μ6 => Q (μ6 5 1) μ6))) X
def d_History_takeBack_j54 (t1 : Int) (μ : Mem) (Q : Mem → Prop) : Prop := Q (mup μ 247 1 t1)
def d_History_takeBack (v1 : Nat) (μ : Mem) (Q : Mem → Prop) : Prop := d_History_at (μ 247 1) μ (fun r1 => if 0 < μ 247 0 then (d_State_copyFrom v1 r1 μ (fun μ4 => if 0 < (mup μ4 247 0 (wr ((μ4 247 0) - 1))) 247 1 then (d_History_takeBack_j54 (wr (((mup μ4 247 0 (wr ((μ4 247 0) - 1))) 247 1) - 1)) (mup μ4 247 0 (wr ((μ4 247 0) - 1))) Q) else (d_History_takeBack_j54 7 (mup μ4 247 0 (wr ((μ4 247 0) - 1))) Q))) else (Q μ))
def d_OB_undo (μ : Mem) (Q : Int → Mem → Prop) (X : Nat → Mem → Prop) : Prop := if 0 < μ 247 0 then (d_History_takeBack 5 μ (fun μ2 => Q ((mup μ2 139 0 1) 247 0) (mup μ2 139 0 1))) else (X 0 (thr μ))
def d_OB_undoCount (μ : Mem) (Q : Int → Prop) : Prop := Q (μ 247 0)
def d_OB_saveState (v1 : Int) (μ : Mem) (Q : Int → Mem → Prop) (X : Nat → Mem → Prop) : Prop := d_OB_requireSystem μ (fun μ2 => d_OB_requireIndex v1 2 μ2 (fun μ4 => if v1 = 0 then (d_State_copyFrom 665 5 μ4 (fun μ6 => Q ((mup μ6 0 11 1) 5 1) (mup μ6 0 11 1))) else (d_State_copyFrom 717 5 μ4 (fun μ8 => Q ((mup μ8 0 12 1) 5 1) (mup μ8 0 12 1)))) X) X
def d_OB_restoreState_j50 (t1 : Nat) (μ : Mem) (Q : Int → Mem → Prop) (X : Nat → Mem → Prop) : Prop := d_OB_adopt t1 μ (fun μ4 => Q (μ4 5 1) μ4)
def d_OB_restoreState_j21 (v1 : Int) (t0 : Int) (μ : Mem) (Q : Int → Mem → Prop) (X : Nat → Mem → Prop) : Prop := if t0 = 0 then (X 0 (thr μ)) else (if v1 = 0 then (d_OB_restoreState_j50 665 μ Q X) else (d_OB_restoreState_j50 717 μ Q X))
def d_OB_restoreState (v1 : Int) (μ : Mem) (Q : Int → Mem → Prop) (X : Nat → Mem → Prop) : Prop := d_OB_requireIndex v1 2 μ (fun μ2 => if v1 = 0 then (d_OB_restoreState_j21 v1 (μ2 0 11) μ2 Q X) else (d_OB_restoreState_j21 v1 (μ2 0 12) μ2 Q X)) X
def d_Parser_putFourBytes_j52 (v1 : Int) (v2 : Int) (μ : Mem) (W3 : Int → Mem → Prop) (Q : Mem → Prop) : Prop := W3 (wr (v2 + (-8))) μ
def d_Parser_putFourBytes_b3 (v1 : Int) (v2 : Int) (μ : Mem) (W3 : Int → Mem → Prop) (Q : Mem → Prop) : Prop := if v2 < 0 then (Q μ) else (if μ 72 4 < 0 then (d_Parser_putFourBytes_j52 v1 v2 μ W3 Q) else (if μ 72 4 < 500 then ((0 ≤ μ 72 4 ∧ μ 72 4 < 500) ∧ d_Parser_putFourBytes_j52 v1 v2 (mup (mup μ 129 (μ 72 4).toNat (jand (jushr v1 v2) 255)) 72 4 (wr (((mup μ 129 (μ 72 4).toNat (jand (jushr v1 v2) 255)) 72 4) + 1))) W3 Q) else (d_Parser_putFourBytes_j52 v1 v2 μ W3 Q)))
def d_Parser_putFourBytes_l3 (v1 : Int) (v2 : Int) (μ : Mem) (Q : Mem → Prop) : Prop := ∀ W : Int → Mem → Prop, (∀ (v2 : Int) (μ : Mem), d_Parser_putFourBytes_b3 v1 v2 μ W Q → W v2 μ) → W v2 μ
def d_Parser_putFourBytes (v1 : Int) (μ : Mem) (Q : Mem → Prop) : Prop := d_Parser_putFourBytes_l3 v1 24 μ Q
theorem i_Parser_putFourBytes_l3 {v1 : Int} {Q : Mem → Prop} {Inv : Int → Mem → Prop} (f : Int → Mem → Nat) (hi : ∀ (v2 : Int) (μ : Mem), Inv v2 μ → ∀ W : Int → Mem → Prop, (∀ (v2' : Int) (μ' : Mem), Inv v2' μ' → f v2' μ' < f v2 μ → W v2' μ') → d_Parser_putFourBytes_b3 v1 v2 μ W Q) : ∀ (v2 : Int) (μ : Mem), Inv v2 μ → d_Parser_putFourBytes_l3 v1 v2 μ Q := by
  intro v2 μ hI W hW
  have key : ∀ (n : Nat) (v2 : Int) (μ : Mem), f v2 μ = n → Inv v2 μ → W v2 μ := by
    intro n
    induction n using Nat.strongRecOn with
    | _ n ih =>
      intro v2 μ hf hI
      exact hW _ _ (hi v2 μ hI W fun v2' μ' hI' hl => ih _ (by omega) v2' μ' rfl hI')
  exact key _ v2 μ rfl hI
def d_OB_append (v1 : Int) (v2 : Int) (v3 : Int) (v4 : Int) (v5 : Int) (μ : Mem) (Q : Int → Mem → Prop) : Prop := if 480 < μ 72 4 then (Q (-1) μ) else (d_Parser_putFourBytes v1 μ (fun μ2 => d_Parser_putFourBytes v2 μ2 (fun μ4 => d_Parser_putFourBytes v3 μ4 (fun μ6 => d_Parser_putFourBytes v4 μ6 (fun μ8 => d_Parser_putFourBytes v5 μ8 (fun μ10 => Q (μ10 72 4) μ10))))))
def d_Unifier_unites (v0 : Nat) (v1 : Nat) (v2 : Nat) (μ : Mem) (Q : Bool → Mem → Prop) : Prop := d_Unifier_clear v0 μ (fun μ2 => d_Unifier_load v0 v1 0 μ2 (fun r3 μ4 => d_Unifier_load v0 v2 8 μ4 (fun r5 μ6 => d_Unifier_solve v0 r3 r5 μ6 (fun r7 μ8 => Q r7 μ8))))
def d_OB_unify (v1 : Int) (v2 : Int) (μ : Mem) (Q : Bool → Mem → Prop) (X : Nat → Mem → Prop) : Prop := d_OB_requireTerm v1 μ (fun r1 μ2 => d_OB_requireTerm v2 μ2 (fun r3 μ4 => d_Unifier_unites 65 r1 r3 μ4 (fun r5 μ6 => Q r5 μ6)) X) X
def d_OB_unifiedSize (v1 : Int) (v2 : Int) (μ : Mem) (Q : Int → Mem → Prop) (X : Nat → Mem → Prop) : Prop := d_OB_requireTerm v1 μ (fun r1 μ2 => d_OB_requireTerm v2 μ2 (fun r3 μ4 => d_Unifier_unites 65 r1 r3 μ4 (fun r5 μ6 => if r5 = true then (d_Term_clear 769 μ6 (fun μ8 => d_Unifier_expand 65 0 769 μ8 (fun r9 μ10 => if r9 = true then (Q (μ10 769 1) μ10) else (Q (-1) μ10)))) else (Q (-1) μ6))) X) X
def d_OB_areEqual (v1 : Int) (v2 : Int) (μ : Mem) (Q : Bool → Mem → Prop) (X : Nat → Mem → Prop) : Prop := d_OB_requireTerm v1 μ (fun r1 μ2 => d_OB_requireTerm v2 μ2 (fun r3 μ4 => d_Term_sameAs r1 r3 μ4 (fun r5 => Q r5 μ4)) X) X
def d_Term_symbolOf (v0 : Int) (μ : Mem) (Q : Int → Prop) : Prop := if v0 < 0 then (Q (-1)) else (Q (jshr v0 2))
def d_OB_symbolAt (v1 : Int) (v2 : Int) (μ : Mem) (Q : Int → Mem → Prop) (X : Nat → Mem → Prop) : Prop := d_OB_requireNode v1 v2 μ (fun r1 μ2 => d_Term_get r1 v2 μ2 (fun r3 => d_Term_symbolOf r3 μ2 (fun r5 => Q r5 μ2))) X
def d_OB_variableAt (v1 : Int) (v2 : Int) (μ : Mem) (Q : Int → Mem → Prop) (X : Nat → Mem → Prop) : Prop := d_OB_requireNode v1 v2 μ (fun r1 μ2 => d_Term_get r1 v2 μ2 (fun r3 => d_Term_variableOf r3 μ2 (fun r5 => Q r5 μ2))) X
def d_Output_addByte (v1 : Int) (μ : Mem) (Q : Mem → Prop) : Prop := if μ 244 0 < 0 then (Q μ) else (if μ 244 0 < 1600 then ((0 ≤ μ 244 0 ∧ μ 244 0 < 1600) ∧ Q (mup (mup μ 245 (μ 244 0).toNat v1) 244 0 (wr (((mup μ 245 (μ 244 0).toNat v1) 244 0) + 1)))) else (Q μ))
def d_Output_addName_b24 (v2 : Nat) (v3 : Int) (v4 : Int) (μ : Mem) (W24 : Int → Mem → Prop) (Q : Mem → Prop) : Prop := d_Signature_nameLength v2 v3 μ (fun r7 => if v4 < r7 then (d_Signature_letter v2 v3 v4 μ (fun r9 => d_Output_addByte r9 μ (fun μ12 => W24 (wr (v4 + 1)) μ12))) else (Q μ))
def d_Output_addName_l24 (v2 : Nat) (v3 : Int) (v4 : Int) (μ : Mem) (Q : Mem → Prop) : Prop := ∀ W : Int → Mem → Prop, (∀ (v4 : Int) (μ : Mem), d_Output_addName_b24 v2 v3 v4 μ W Q → W v4 μ) → W v4 μ
def d_Output_addName (v1 : Int) (v2 : Nat) (μ : Mem) (Q : Mem → Prop) : Prop := if v1 < 0 then (d_Term_variableOf v1 μ (fun r1 => d_Output_addByte (wr (65 + r1)) μ (fun μ4 => Q μ4))) else (d_Term_symbolOf v1 μ (fun r5 => d_Output_addName_l24 v2 r5 0 μ Q))
theorem i_Output_addName_l24 {v2 : Nat} {v3 : Int} {Q : Mem → Prop} {Inv : Int → Mem → Prop} (f : Int → Mem → Nat) (hi : ∀ (v4 : Int) (μ : Mem), Inv v4 μ → ∀ W : Int → Mem → Prop, (∀ (v4' : Int) (μ' : Mem), Inv v4' μ' → f v4' μ' < f v4 μ → W v4' μ') → d_Output_addName_b24 v2 v3 v4 μ W Q) : ∀ (v4 : Int) (μ : Mem), Inv v4 μ → d_Output_addName_l24 v2 v3 v4 μ Q := by
  intro v4 μ hI W hW
  have key : ∀ (n : Nat) (v4 : Int) (μ : Mem), f v4 μ = n → Inv v4 μ → W v4 μ := by
    intro n
    induction n using Nat.strongRecOn with
    | _ n ih =>
      intro v4 μ hf hI
      exact hW _ _ (hi v4 μ hI W fun v4' μ' hI' hl => ih _ (by omega) v4' μ' rfl hI')
  exact key _ v4 μ rfl hI
def d_Output_closeBrackets_b4 (v2 : Int) (μ : Mem) (W4 : Int → Mem → Prop) (Q : Int → Mem → Prop) : Prop := if v2 < 0 then (Q 0 μ) else (if v2 < 80 then ((0 ≤ v2 ∧ v2 < 80) ∧ (0 ≤ v2 ∧ v2 < 80) ∧ (0 ≤ v2 ∧ v2 < 80) ∧ if 0 < (mup μ 246 v2.toNat (wr ((μ 246 v2.toNat) - 1))) 246 v2.toNat then (d_Output_addByte 44 (mup μ 246 v2.toNat (wr ((μ 246 v2.toNat) - 1))) (fun μ2 => Q (wr (v2 + 1)) μ2)) else (d_Output_addByte 41 (mup μ 246 v2.toNat (wr ((μ 246 v2.toNat) - 1))) (fun μ4 => W4 (wr (v2 + (-1))) μ4))) else (Q 0 μ))
def d_Output_closeBrackets_l4 (v2 : Int) (μ : Mem) (Q : Int → Mem → Prop) : Prop := ∀ W : Int → Mem → Prop, (∀ (v2 : Int) (μ : Mem), d_Output_closeBrackets_b4 v2 μ W Q → W v2 μ) → W v2 μ
def d_Output_closeBrackets (v1 : Int) (μ : Mem) (Q : Int → Mem → Prop) : Prop := d_Output_closeBrackets_l4 (wr (v1 - 1)) μ Q
theorem i_Output_closeBrackets_l4 {Q : Int → Mem → Prop} {Inv : Int → Mem → Prop} (f : Int → Mem → Nat) (hi : ∀ (v2 : Int) (μ : Mem), Inv v2 μ → ∀ W : Int → Mem → Prop, (∀ (v2' : Int) (μ' : Mem), Inv v2' μ' → f v2' μ' < f v2 μ → W v2' μ') → d_Output_closeBrackets_b4 v2 μ W Q) : ∀ (v2 : Int) (μ : Mem), Inv v2 μ → d_Output_closeBrackets_l4 v2 μ Q := by
  intro v2 μ hI W hW
  have key : ∀ (n : Nat) (v2 : Int) (μ : Mem), f v2 μ = n → Inv v2 μ → W v2 μ := by
    intro n
    induction n using Nat.strongRecOn with
    | _ n ih =>
      intro v2 μ hf hI
      exact hW _ _ (hi v2 μ hI W fun v2' μ' hI' hl => ih _ (by omega) v2' μ' rfl hI')
  exact key _ v2 μ rfl hI
def d_Output_addTerm_j79 (v1 : Nat) (v2 : Nat) (v3 : Int) (v4 : Int) (μ : Mem) (W5 : Int → Int → Mem → Prop) (Q : Mem → Prop) : Prop := W5 v3 (wr (v4 + 1)) μ
def d_Output_addTerm_b5 (v1 : Nat) (v2 : Nat) (v3 : Int) (v4 : Int) (μ : Mem) (W5 : Int → Int → Mem → Prop) (Q : Mem → Prop) : Prop := if v4 < μ v1 1 then (d_Term_get v1 v4 μ (fun r1 => d_Output_addName r1 v2 μ (fun μ4 => d_Term_arityOf r1 μ4 (fun r5 => if r5 = 0 then (d_Output_closeBrackets v3 μ4 (fun r7 μ8 => d_Output_addTerm_j79 v1 v2 r7 v4 μ8 W5 Q)) else (if v3 < 0 then (d_Output_addTerm_j79 v1 v2 v3 v4 μ4 W5 Q) else (if v3 < 80 then (d_Output_addByte 40 μ4 (fun μ10 => d_Term_arityOf r1 μ10 (fun r11 => (0 ≤ v3 ∧ v3 < 80) ∧ d_Output_addTerm_j79 v1 v2 (wr (v3 + 1)) v4 (mup μ10 246 v3.toNat r11) W5 Q))) else (d_Output_addTerm_j79 v1 v2 v3 v4 μ4 W5 Q))))))) else (Q μ)
def d_Output_addTerm_l5 (v1 : Nat) (v2 : Nat) (v3 : Int) (v4 : Int) (μ : Mem) (Q : Mem → Prop) : Prop := ∀ W : Int → Int → Mem → Prop, (∀ (v3 : Int) (v4 : Int) (μ : Mem), d_Output_addTerm_b5 v1 v2 v3 v4 μ W Q → W v3 v4 μ) → W v3 v4 μ
def d_Output_addTerm (v1 : Nat) (v2 : Nat) (μ : Mem) (Q : Mem → Prop) : Prop := d_Output_addTerm_l5 v1 v2 0 0 μ Q
theorem i_Output_addTerm_l5 {v1 : Nat} {v2 : Nat} {Q : Mem → Prop} {Inv : Int → Int → Mem → Prop} (f : Int → Int → Mem → Nat) (hi : ∀ (v3 : Int) (v4 : Int) (μ : Mem), Inv v3 v4 μ → ∀ W : Int → Int → Mem → Prop, (∀ (v3' : Int) (v4' : Int) (μ' : Mem), Inv v3' v4' μ' → f v3' v4' μ' < f v3 v4 μ → W v3' v4' μ') → d_Output_addTerm_b5 v1 v2 v3 v4 μ W Q) : ∀ (v3 : Int) (v4 : Int) (μ : Mem), Inv v3 v4 μ → d_Output_addTerm_l5 v1 v2 v3 v4 μ Q := by
  intro v3 v4 μ hI W hW
  have key : ∀ (n : Nat) (v3 : Int) (v4 : Int) (μ : Mem), f v3 v4 μ = n → Inv v3 v4 μ → W v3 v4 μ := by
    intro n
    induction n using Nat.strongRecOn with
    | _ n ih =>
      intro v3 v4 μ hf hI
      exact hW _ _ _ (hi v3 v4 μ hI W fun v3' v4' μ' hI' hl => ih _ (by omega) v3' v4' μ' rfl hI')
  exact key _ v3 v4 μ rfl hI
def d_OB_writeRule (v1 : Int) (μ : Mem) (Q : Int → Mem → Prop) (X : Nat → Mem → Prop) : Prop := d_OB_requireRule v1 μ (fun r1 μ2 => d_Output_addTerm (dp ((mup μ2 244 0 0) r1 0)) 1 (mup μ2 244 0 0) (fun μ4 => d_Output_addByte 61 μ4 (fun μ6 => d_Output_addTerm (dp (μ6 r1 1)) 1 μ6 (fun μ8 => Q (μ8 244 0) μ8)))) X
