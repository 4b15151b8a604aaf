/-! WHAT THE LAW'S OWN AND THE LIBRARY'S METHODS DO, as texts over the law's cells (written by wip/p66/gen/dec2.py) -/
def rcv (s : LSt) (i c : Nat) : Prop := (c = 15 ∧ 2000000 ≤ i ∧ i < 2000014) ∨ ∃ n, dh s i = some (c, n)
/-- as far as the class and its throws go, the memory is this -/
def sm (μ μ' : Mem) : Prop := (∀ a, a < 772 → μ' a = μ a) ∧ μ' 797 = μ 797
def oI (D : (Int → Mem → Prop) → (Nat → Mem → Prop) → Prop) (s : LSt) (K : Int → LSt → Prop) : Prop := ∃ Q X, D Q X ∧ (∀ z μ, Q z μ → ∃ μ', sm μ μ' ∧ μ' 797 0 = 0 ∧ K z (s.1, μ')) ∧ ∀ k μ, X k μ → False
def oB (D : (Bool → Mem → Prop) → (Nat → Mem → Prop) → Prop) (s : LSt) (K : Bool → LSt → Prop) : Prop := ∃ Q X, D Q X ∧ (∀ z μ, Q z μ → ∃ μ', sm μ μ' ∧ μ' 797 0 = 0 ∧ K z (s.1, μ')) ∧ ∀ k μ, X k μ → False
def opI (D : (Int → Prop) → (Nat → Mem → Prop) → Prop) (K : Int → Prop) : Prop := ∃ Q X, D Q X ∧ (∀ z, Q z → K z) ∧ ∀ k μ, X k μ → False
def opB (D : (Bool → Prop) → (Nat → Mem → Prop) → Prop) (K : Bool → Prop) : Prop := ∃ Q X, D Q X ∧ (∀ z, Q z → K z) ∧ ∀ k μ, X k μ → False
def d_Object_init (_ : JV) (s : LSt) (Q : LSt → Prop) : Prop := Q s
def d_YMath_max (v0 v1 : Int) (s : LSt) (Q : Int → LSt → Prop) : Prop := if v0 < v1 then Q v1 s else Q v0 s
def d_YMath_min (v0 v1 : Int) (s : LSt) (Q : Int → LSt → Prop) : Prop := if v1 < v0 then Q v1 s else Q v0 s
def d_String_checkIndex (v0 v1 : Int) (s : LSt) (Q : LSt → Prop) : Prop := (0 ≤ v0 ∧ v0 < v1) ∧ Q s
def d_String_coder (v0 : JV) (s : LSt) (Q : Int → LSt → Prop) : Prop := if 1 = 0 then (Q 1 s) else (cR v0 (fun i1 => fSc s i1 (fun z2 => ((-128) ≤ z2 ∧ z2 ≤ 127) ∧ Q z2 s)))
def d_YString_length (v0 : JV) (s : LSt) (Q : Int → LSt → Prop) : Prop := cR v0 (fun i1 => fSv s i1 (fun x2 => cR x2 (fun i3 => aLn s i3 (fun z4 => rcv s i1 15 ∧ d_String_coder (jR i1) s (fun r6 s5 => Q (jshr z4 r6) s5)))))
def d_String_isLatin1 (v0 : JV) (s : LSt) (Q : Int → LSt → Prop) : Prop := if 1 = 0 then (Q 0 s) else (cR v0 (fun i1 => fSc s i1 (fun z2 => if z2 = 0 then (Q 1 s) else (Q 0 s))))
def d_StringLatin1_charAt (v0 : JV) (v1 : Int) (s : LSt) (Q : Int → LSt → Prop) : Prop := cR v0 (fun i1 => aLn s i1 (fun z2 => d_String_checkIndex v1 z2 s (fun s3 => rB s3 i1 v1 (fun z5 => (0 ≤ jc16 (jand z5 255) ∧ jc16 (jand z5 255) ≤ 65535) ∧ Q (jc16 (jand z5 255)) s3))))
def d_YString_charAt (v0 : JV) (v1 : Int) (s : LSt) (Q : Int → LSt → Prop) : Prop := cR v0 (fun i1 => rcv s i1 15 ∧ d_String_isLatin1 (jR i1) s (fun r3 s2 => if r3 = 0 then (fSv s2 i1 (fun x4 => False)) else (fSv s2 i1 (fun x5 => d_StringLatin1_charAt x5 v1 s2 (fun r7 s6 => (0 ≤ r7 ∧ r7 ≤ 65535) ∧ Q r7 s6)))))
def d_Preconditions_checkIndex_j9 (v0 : Int) (v1 : Int) (v2 : JV) (s : LSt) (Q : Int → LSt → Prop) : Prop := False
def d_Preconditions_checkIndex (v0 : Int) (v1 : Int) (v2 : JV) (s : LSt) (Q : Int → LSt → Prop) : Prop := if v0 < 0 then (d_Preconditions_checkIndex_j9 v0 v1 v2 s Q) else (if v0 < v1 then (Q v0 s) else (d_Preconditions_checkIndex_j9 v0 v1 v2 s Q))
def d_Lw_cell (v0 : JV) (v1 : Int) (s : LSt) (Q : Int → LSt → Prop) : Prop := cR v0 (fun i1 => aLn s i1 (fun z2 => if v1 < z2 then (rI s i1 v1 (fun z3 => Q z3 s)) else (Q 0 s)))
def d_AbstractCollection_init (v0 : JV) (s : LSt) (Q : LSt → Prop) : Prop := cR v0 (fun i1 => d_Object_init (jR i1) s (fun s2 => Q s2))
def d_AbstractList_init (v0 : JV) (s : LSt) (Q : LSt → Prop) : Prop := cR v0 (fun i1 => d_AbstractCollection_init (jR i1) s (fun s2 => pF s2 i1 13 0 0 (jI 0) (fun s4 => Q s4)))
def d_AL_init (v0 : JV) (s : LSt) (Q : LSt → Prop) : Prop := cR v0 (fun i1 => d_AbstractList_init (jR i1) s (fun s2 => pF s2 i1 13 1 2 (jR 1000001) (fun s4 => Q s4)))
def d_Sys_init (v0 : JV) (s : LSt) (Q : LSt → Prop) : Prop := cR v0 (fun i1 => d_Object_init (jR i1) s (fun s2 => nC s2 13 (fun i4 s5 => d_AL_init (jR i4) s5 (fun s6 => pF s6 i1 12 0 2 (jR i4) (fun s8 => nC s8 13 (fun i9 s10 => d_AL_init (jR i9) s10 (fun s11 => pF s11 i1 12 1 2 (jR i9) (fun s13 => nA s13 116 16 (jX .null) (fun i14 s15 => pF s15 i1 12 2 2 (jR i14) (fun s16 => nA s16 116 16 (jX .null) (fun i17 s18 => pF s18 i1 12 3 2 (jR i17) (fun s19 => Q s19))))))))))))
def d_Node_init (v0 : JV) (v1 : Int) (v2 : JV) (v3 : JV) (s : LSt) (Q : LSt → Prop) : Prop := cR v0 (fun i1 => d_Object_init (jR i1) s (fun s2 => pF s2 i1 11 0 0 (jI v1) (fun s4 => pF s4 i1 11 1 2 (v2) (fun s5 => pF s5 i1 11 2 2 (v3) (fun s6 => Q s6)))))
def d_Lw_tree_j74 (rec : JV → Int → LSt → (JV → LSt → Prop) → Prop) (v2 : Int) (s : LSt) (Q : JV → LSt → Prop) : Prop := if v2 < 2 then (nC s 11 (fun i19 s20 => d_Node_init (jR i19) (wr (2 + v2)) (jX .null) (jX .null) s20 (fun s21 => Q (jR i19) s21))) else (nC s 11 (fun i23 s24 => d_Node_init (jR i23) (wr (100 + (jand v2 1))) (jX .null) (jX .null) s24 (fun s25 => Q (jR i23) s25)))
def d_Lw_tree_j40 (rec : JV → Int → LSt → (JV → LSt → Prop) → Prop) (v0 : JV) (v1 : Int) (v2 : Int) (s : LSt) (Q : JV → LSt → Prop) : Prop := if 0 < v1 then (if 2 < v2 then (rec v0 (wr (v1 - 1)) s (fun x12 s11 => nC s11 11 (fun i13 s14 => rec v0 (wr (v1 - 1)) s14 (fun x16 s15 => d_Node_init (jR i13) 0 x12 x16 s15 (fun s17 => Q (jR i13) s17))))) else (d_Lw_tree_j74 rec v2 s Q)) else (d_Lw_tree_j74 rec v2 s Q)
def d_Lw_tree_F (rec : JV → Int → LSt → (JV → LSt → Prop) → Prop) (v0 : JV) (v1 : Int) (s : LSt) (Q : JV → LSt → Prop) : Prop := cR v0 (fun i1 => rI s i1 0 (fun z2 => rI s i1 0 (fun z3 => wA s i1 100 0 (jI (jushr z3 3)) (fun s4 => if 0 < v1 then (if 5 < jand z2 7 then (nC s4 11 (fun i5 s6 => rec (jR i1) (wr (v1 - 1)) s6 (fun x8 s7 => d_Node_init (jR i5) 1 x8 (jX .null) s7 (fun s9 => Q (jR i5) s9)))) else (d_Lw_tree_j40 rec (jR i1) v1 (jand z2 7) s4 Q)) else (d_Lw_tree_j40 rec (jR i1) v1 (jand z2 7) s4 Q)))))
def d_Lw_tree : Nat → JV → Int → LSt → (JV → LSt → Prop) → Prop
  | 0 => fun _ _ _ _ => False
  | k + 1 => d_Lw_tree_F (d_Lw_tree k)
def d_Lw_uses_j21 (rec : JV → Int → LSt → (Int → LSt → Prop) → Prop) (v0 : JV) (v1 : Int) (t0 : Int) (s : LSt) (Q : Int → LSt → Prop) : Prop := cR v0 (fun i3 => fV s i3 11 1 (fun x4 => rec x4 v1 s (fun r6 s5 => fV s5 i3 11 2 (fun x7 => rec x7 v1 s5 (fun r9 s8 => Q (wr ((wr (t0 + r6)) + r9)) s8)))))
def d_Lw_uses_F (rec : JV → Int → LSt → (Int → LSt → Prop) → Prop) (v0 : JV) (v1 : Int) (s : LSt) (Q : Int → LSt → Prop) : Prop := cN v0 (Q 0 s) (fun i1 => fI s i1 11 0 (fun z2 => if z2 = v1 then (d_Lw_uses_j21 rec (jR i1) v1 1 s Q) else (d_Lw_uses_j21 rec (jR i1) v1 0 s Q)))
def d_Lw_uses : Nat → JV → Int → LSt → (Int → LSt → Prop) → Prop
  | 0 => fun _ _ _ _ => False
  | k + 1 => d_Lw_uses_F (d_Lw_uses k)
def d_Lw_closed_j37 (rec : JV → JV → LSt → (JV → LSt → Prop) → Prop) (v0 : JV) (v1 : JV) (s : LSt) (Q : JV → LSt → Prop) : Prop := nC s 11 (fun i3 s4 => cR v0 (fun i5 => fI s4 i5 11 0 (fun z6 => fV s4 i5 11 1 (fun x7 => rec x7 v1 s4 (fun x9 s8 => fV s8 i5 11 2 (fun x10 => rec x10 v1 s8 (fun x12 s11 => d_Node_init (jR i3) z6 x9 x12 s11 (fun s13 => Q (jR i3) s13))))))))
def d_Lw_closed_F (rec : JV → JV → LSt → (JV → LSt → Prop) → Prop) (v0 : JV) (v1 : JV) (s : LSt) (Q : JV → LSt → Prop) : Prop := cN v0 (Q (jX .null) s) (fun i1 => fI s i1 11 0 (fun z2 => if z2 < 100 then (d_Lw_closed_j37 rec (jR i1) v1 s Q) else (fI s i1 11 0 (fun z15 => d_Lw_uses 5 v1 z15 s (fun r17 s16 => if r17 = 0 then (nC s16 11 (fun i18 s19 => d_Node_init (jR i18) 2 (jX .null) (jX .null) s19 (fun s20 => Q (jR i18) s20))) else (d_Lw_closed_j37 rec (jR i1) v1 s16 Q))))))
def d_Lw_closed : Nat → JV → JV → LSt → (JV → LSt → Prop) → Prop
  | 0 => fun _ _ _ _ => False
  | k + 1 => d_Lw_closed_F (d_Lw_closed k)
def d_ArraysSupport_newLength_j21 (v0 : Int) (v1 : Int) (s : LSt) (Q : Int → LSt → Prop) : Prop := False
def d_ArraysSupport_newLength (v0 : Int) (v1 : Int) (v2 : Int) (s : LSt) (Q : Int → LSt → Prop) : Prop := d_YMath_max v1 v2 s (fun r2 s1 => if 0 < wr (v0 + r2) then (if 2147483639 < wr (v0 + r2) then (d_ArraysSupport_newLength_j21 v0 v1 s1 Q) else (Q (wr (v0 + r2)) s1)) else (d_ArraysSupport_newLength_j21 v0 v1 s1 Q))
def d_AL_growTo_j20 (v0 : JV) (v1 : Int) (v2 : Int) (s : LSt) (Q : JV → LSt → Prop) : Prop := d_ArraysSupport_newLength v2 (wr (v1 - v2)) (jshr v2 1) s (fun r6 s5 => cR v0 (fun i7 => fV s5 i7 13 1 (fun x8 => False)))
def d_AL_growTo (v0 : JV) (v1 : Int) (s : LSt) (Q : JV → LSt → Prop) : Prop := cR v0 (fun i1 => fV s i1 13 1 (fun x2 => cR x2 (fun i3 => aLn s i3 (fun z4 => if 0 < z4 then (d_AL_growTo_j20 (jR i1) v1 z4 s Q) else (fV s i1 13 1 (fun x9 => cE (jR 1000001) x9 (d_YMath_max 10 v1 s (fun r11 s10 => nA s10 199 r11 (jX .null) (fun i12 s13 => pF s13 i1 13 1 2 (jR i12) (fun s14 => Q (jR i12) s14)))) (d_AL_growTo_j20 (jR i1) v1 z4 s Q)))))))
def d_AL_grow (v0 : JV) (s : LSt) (Q : JV → LSt → Prop) : Prop := cR v0 (fun i1 => fI s i1 13 2 (fun z2 => rcv s i1 13 ∧ d_AL_growTo (jR i1) (wr (z2 + 1)) s (fun x4 s3 => Q x4 s3)))
def d_AL_add3_j11 (v0 : JV) (v1 : JV) (v2 : JV) (v3 : Int) (s : LSt) (Q : LSt → Prop) : Prop := cR v2 (fun i6 => wV s i6 v3 v1 (fun s7 => cR v0 (fun i8 => pF s7 i8 13 2 0 (jI (wr (v3 + 1))) (fun s9 => Q s9))))
def d_AL_add3 (v0 : JV) (v1 : JV) (v2 : JV) (v3 : Int) (s : LSt) (Q : LSt → Prop) : Prop := cR v2 (fun i1 => aLn s i1 (fun z2 => if v3 = z2 then (cR v0 (fun i3 => rcv s i3 13 ∧ d_AL_grow (jR i3) s (fun x5 s4 => d_AL_add3_j11 (jR i3) v1 x5 v3 s4 Q))) else (d_AL_add3_j11 v0 v1 (jR i1) v3 s Q)))
def d_AL_add (v0 : JV) (v1 : JV) (s : LSt) (Q : Int → LSt → Prop) : Prop := cR v0 (fun i1 => fI s i1 13 0 (fun z2 => pF s i1 13 0 0 (jI (wr (z2 + 1))) (fun s3 => fV s3 i1 13 1 (fun x4 => fI s3 i1 13 2 (fun z5 => rcv s3 i1 13 ∧ d_AL_add3 (jR i1) v1 x4 z5 s3 (fun s6 => Q 1 s6))))))
def d_Lw_sys_b119 (v0 : JV) (v1 : JV) (v2 : Int) (v3 : Int) (s : LSt) (W119 : Int → LSt → Prop) (Q : JV → LSt → Prop) : Prop := if wr (1 + (jand (jushr v2 2) 1)) < v3 then (Q v1 s) else (cR v1 (fun i7 => fV s i7 12 1 (fun x8 => nA s 100 1 (jI 0) (fun i9 s10 => d_Lw_cell v0 (wr (7 + v3)) s10 (fun r12 s11 => wA s11 i9 100 0 (jI (jor r12 4)) (fun s13 => d_Lw_tree 5 (jR i9) 3 s13 (fun x15 s14 => cR x8 (fun i16 => rcv s14 i16 13 ∧ d_AL_add (jR i16) x15 s14 (fun r18 s17 => W119 (wr (v3 + 1)) s17)))))))))
def d_Lw_sys_l119 (v0 : JV) (v1 : JV) (v2 : Int) (v3 : Int) (s : LSt) (Q : JV → LSt → Prop) : Prop := ∀ W : Int → LSt → Prop, (∀ (v3 : Int) (s : LSt), d_Lw_sys_b119 v0 v1 v2 v3 s W Q → W v3 s) → W v3 s
def d_Lw_sys_j69 (v0 : JV) (v1 : JV) (v2 : Int) (v3 : Int) (v4 : JV) (s : LSt) (W16 : Int → LSt → Prop) (Q : JV → LSt → Prop) : Prop := cR v1 (fun i28 => fV s i28 12 0 (fun x29 => nA s 116 2 (jX .null) (fun i30 s31 => wV s31 i30 0 v4 (fun s32 => nA s32 100 1 (jI 0) (fun i33 s34 => d_Lw_cell v0 (wr (4 + v3)) s34 (fun r36 s35 => wA s35 i33 100 0 (jI r36) (fun s37 => d_Lw_tree 5 (jR i33) 2 s37 (fun x39 s38 => d_Lw_closed 5 x39 v4 s38 (fun x41 s40 => wV s40 i30 1 x41 (fun s42 => cR x29 (fun i43 => rcv s42 i43 13 ∧ d_AL_add (jR i43) (jR i30) s42 (fun r45 s44 => W16 (wr (v3 + 1)) s44))))))))))))
def d_Lw_sys_b16 (v0 : JV) (v1 : JV) (v2 : Int) (v3 : Int) (s : LSt) (W16 : Int → LSt → Prop) (Q : JV → LSt → Prop) : Prop := if jrem (jand v2 3) 3 < v3 then (d_Lw_sys_l119 v0 v1 v2 0 s Q) else (nA s 100 1 (jI 0) (fun i19 s20 => d_Lw_cell v0 (wr (1 + v3)) s20 (fun r22 s21 => wA s21 i19 100 0 (jI (jor r22 4)) (fun s23 => d_Lw_tree 5 (jR i19) 2 s23 (fun x25 s24 => cR x25 (fun i26 => fI s24 i26 11 0 (fun z27 => if z27 < 100 then (d_Lw_sys_j69 v0 v1 v2 v3 (jR i26) s24 W16 Q) else (nC s24 11 (fun i46 s47 => d_Node_init (jR i46) 1 (jR i26) (jX .null) s47 (fun s48 => d_Lw_sys_j69 v0 v1 v2 v3 (jR i46) s48 W16 Q))))))))))
def d_Lw_sys_l16 (v0 : JV) (v1 : JV) (v2 : Int) (v3 : Int) (s : LSt) (Q : JV → LSt → Prop) : Prop := ∀ W : Int → LSt → Prop, (∀ (v3 : Int) (s : LSt), d_Lw_sys_b16 v0 v1 v2 v3 s W Q → W v3 s) → W v3 s
def d_Lw_sys (v0 : JV) (s : LSt) (Q : JV → LSt → Prop) : Prop := nC s 12 (fun i1 s2 => d_Sys_init (jR i1) s2 (fun s3 => d_Lw_cell v0 0 s3 (fun r6 s5 => d_Lw_sys_l16 v0 (jR i1) r6 0 s5 Q)))
theorem i_Lw_sys_l119 {v0 : JV} {v1 : JV} {v2 : Int} {Q : JV → LSt → Prop} {Inv : Int → LSt → Prop} (f : Int → LSt → Nat) (hi : ∀ (v3 : Int) (s : LSt), Inv v3 s → ∀ W : Int → LSt → Prop, (∀ (v3' : Int) (s' : LSt), Inv v3' s' → f v3' s' < f v3 s → W v3' s') → d_Lw_sys_b119 v0 v1 v2 v3 s W Q) : ∀ (v3 : Int) (s : LSt), Inv v3 s → d_Lw_sys_l119 v0 v1 v2 v3 s Q := by
  intro v3 s hI W hW
  have key : ∀ (n : Nat) (v3 : Int) (s : LSt), f v3 s = n → Inv v3 s → W v3 s := by
    intro n
    induction n using Nat.strongRecOn with
    | _ n ih =>
      intro v3 s hf hI
      exact hW _ _ (hi v3 s hI W fun v3' s' hI' hl => ih _ (by omega) v3' s' rfl hI')
  exact key _ v3 s rfl hI
theorem i_Lw_sys_l16 {v0 : JV} {v1 : JV} {v2 : Int} {Q : JV → LSt → Prop} {Inv : Int → LSt → Prop} (f : Int → LSt → Nat) (hi : ∀ (v3 : Int) (s : LSt), Inv v3 s → ∀ W : Int → LSt → Prop, (∀ (v3' : Int) (s' : LSt), Inv v3' s' → f v3' s' < f v3 s → W v3' s') → d_Lw_sys_b16 v0 v1 v2 v3 s W Q) : ∀ (v3 : Int) (s : LSt), Inv v3 s → d_Lw_sys_l16 v0 v1 v2 v3 s Q := by
  intro v3 s hI W hW
  have key : ∀ (n : Nat) (v3 : Int) (s : LSt), f v3 s = n → Inv v3 s → W v3 s := by
    intro n
    induction n using Nat.strongRecOn with
    | _ n ih =>
      intro v3 s hf hI
      exact hW _ _ (hi v3 s hI W fun v3' s' hI' hl => ih _ (by omega) v3' s' rfl hI')
  exact key _ v3 s rfl hI
def d_ASB_newCapacity (v0 : JV) (v1 : Int) (s : LSt) (Q : Int → LSt → Prop) : Prop := cR v0 (fun i1 => fV s i1 14 0 (fun x2 => cR x2 (fun i3 => aLn s i3 (fun z4 => fI s i1 14 1 (fun z5 => fI s i1 14 1 (fun z6 => d_ArraysSupport_newLength z4 (wr ((jshl v1 z5) - z4)) (wr (z4 + (jshl 2 z6))) s (fun r8 s7 => if r8 = 2147483647 then False else (fI s7 i1 14 1 (fun z9 => Q (jshr r8 z9) s7)))))))))
def d_Arrays_copyOf (v0 : JV) (v1 : Int) (s : LSt) (Q : JV → LSt → Prop) : Prop := cR v0 (fun i1 => aLn s i1 (fun z2 => if v1 = z2 then (aK s i1 (fun i3 s4 => cT s4 (jR i3) 101 (Q (jR i3) s4))) else (nA s 101 v1 (jI 0) (fun i5 s6 => aLn s6 i1 (fun z7 => d_YMath_min z7 v1 s6 (fun r9 s8 => aCp s8 r9 0 0 i5 i1 (fun s10 => Q (jR i5) s10)))))))
def d_ASB_ensureCapacityInternal (v0 : JV) (v1 : Int) (s : LSt) (Q : LSt → Prop) : Prop := cR v0 (fun i1 => fV s i1 14 0 (fun x2 => cR x2 (fun i3 => aLn s i3 (fun z4 => fI s i1 14 1 (fun z5 => if 0 < wr (v1 - (jshr z4 z5)) then (fV s i1 14 0 (fun x6 => rcv s i1 14 ∧ d_ASB_newCapacity (jR i1) v1 s (fun r8 s7 => fI s7 i1 14 1 (fun z9 => d_Arrays_copyOf x6 (jshl r8 z9) s7 (fun x11 s10 => pF s10 i1 14 0 2 (x11) (fun s12 => Q s12)))))) else (Q s))))))
def d_ASB_inflateIfNeededFor (v0 : JV) (v1 : JV) (s : LSt) (Q : LSt → Prop) : Prop := if 1 = 0 then (Q s) else (cR v0 (fun i1 => fI s i1 14 1 (fun z2 => cR v1 (fun i3 => rcv s i3 15 ∧ d_String_coder (jR i3) s (fun r5 s4 => if z2 = r5 then (Q s4) else False)))))
def d_String_getBytes (v0 : JV) (v1 : JV) (v2 : Int) (v3 : Int) (s : LSt) (Q : LSt → Prop) : Prop := cR v0 (fun i1 => rcv s i1 15 ∧ d_String_coder (jR i1) s (fun r3 s2 => if r3 = v3 then (fSv s2 i1 (fun x4 => fSv s2 i1 (fun x5 => cR x5 (fun i6 => aLn s2 i6 (fun z7 => cR v1 (fun i8 => cR x4 (fun i9 => aCp s2 z7 (jshl v2 v3) 0 i8 i9 (fun s10 => Q s10)))))))) else (fSv s2 i1 (fun x11 => fSv s2 i1 (fun x12 => cR x12 (fun i13 => aLn s2 i13 (fun z14 => False)))))))
def d_ASB_putStringAt (v0 : JV) (v1 : Int) (v2 : JV) (s : LSt) (Q : LSt → Prop) : Prop := cR v0 (fun i1 => rcv s i1 14 ∧ d_ASB_inflateIfNeededFor (jR i1) v2 s (fun s2 => fV s2 i1 14 0 (fun x4 => fI s2 i1 14 1 (fun z5 => cR v2 (fun i6 => rcv s2 i6 15 ∧ d_String_getBytes (jR i6) x4 v1 z5 s2 (fun s7 => Q s7))))))
def d_ASB_append (v0 : JV) (v1 : JV) (s : LSt) (Q : JV → LSt → Prop) : Prop := cN v1 False (fun i1 => rcv s i1 15 ∧ d_YString_length (jR i1) s (fun r3 s2 => cR v0 (fun i4 => fI s2 i4 14 3 (fun z5 => rcv s2 i4 14 ∧ d_ASB_ensureCapacityInternal (jR i4) (wr (z5 + r3)) s2 (fun s6 => fI s6 i4 14 3 (fun z8 => rcv s6 i4 14 ∧ d_ASB_putStringAt (jR i4) z8 (jR i1) s6 (fun s9 => fI s9 i4 14 3 (fun z11 => pF s9 i4 14 3 0 (jI (wr (z11 + r3))) (fun s12 => Q (jR i4) s12)))))))))
def d_SB_append (v0 : JV) (v1 : JV) (s : LSt) (Q : JV → LSt → Prop) : Prop := cR v0 (fun i1 => rcv s i1 14 ∧ d_ASB_append (jR i1) v1 s (fun x3 s2 => Q (jR i1) s2))
def d_SB_bridge (v0 : JV) (v1 : JV) (s : LSt) (Q : JV → LSt → Prop) : Prop := cR v0 (fun i1 => rcv s i1 14 ∧ d_SB_append (jR i1) v1 s (fun x3 s2 => Q x3 s2))
def d_ASB_init_j24 (v0 : JV) (v1 : JV) (t0 : Int) (s : LSt) (Q : LSt → Prop) : Prop := cR v1 (fun i7 => rcv s i7 15 ∧ d_String_coder (jR i7) s (fun r9 s8 => cR v0 (fun i10 => pF s8 i10 14 1 3 (jI r9) (fun s11 => if r9 = 0 then (nA s11 101 t0 (jI 0) (fun i12 s13 => pF s13 i10 14 0 2 (jR i12) (fun s14 => rcv s14 i10 14 ∧ d_SB_bridge (jR i10) (jR i7) s14 (fun x16 s15 => Q s15)))) else False))))
def d_ASB_init (v0 : JV) (v1 : JV) (s : LSt) (Q : LSt → Prop) : Prop := cR v0 (fun i1 => d_Object_init (jR i1) s (fun s2 => cR v1 (fun i4 => rcv s2 i4 15 ∧ d_YString_length (jR i4) s2 (fun r6 s5 => if r6 < 2147483631 then (d_ASB_init_j24 (jR i1) (jR i4) (wr (r6 + 16)) s5 Q) else (d_ASB_init_j24 (jR i1) (jR i4) 2147483647 s5 Q)))))
def d_SB_init (v0 : JV) (v1 : JV) (s : LSt) (Q : LSt → Prop) : Prop := cR v0 (fun i1 => d_ASB_init (jR i1) v1 s (fun s2 => Q s2))
def d_AL_size (v0 : JV) (s : LSt) (Q : Int → LSt → Prop) : Prop := cR v0 (fun i1 => fI s i1 13 2 (fun z2 => Q z2 s))
def d_Objects_checkIndex (v0 : Int) (v1 : Int) (s : LSt) (Q : Int → LSt → Prop) : Prop := d_Preconditions_checkIndex v0 v1 (jX .null) s (fun r2 s1 => Q r2 s1)
def d_AL_elementData (v0 : JV) (v1 : Int) (s : LSt) (Q : JV → LSt → Prop) : Prop := cR v0 (fun i1 => fV s i1 13 1 (fun x2 => cR x2 (fun i3 => rV s i3 v1 (fun x4 => Q x4 s))))
def d_AL_get (v0 : JV) (v1 : Int) (s : LSt) (Q : JV → LSt → Prop) : Prop := cR v0 (fun i1 => fI s i1 13 2 (fun z2 => d_Objects_checkIndex v1 z2 s (fun r4 s3 => rcv s3 i1 13 ∧ d_AL_elementData (jR i1) v1 s3 (fun x6 s5 => Q x6 s5))))
def d_ASB_isLatin1 (v0 : JV) (s : LSt) (Q : Int → LSt → Prop) : Prop := if 1 = 0 then (Q 0 s) else (cR v0 (fun i1 => fI s i1 14 1 (fun z2 => if z2 = 0 then (Q 1 s) else (Q 0 s))))
def d_StringLatin1_canEncode (v0 : Int) (s : LSt) (Q : Int → LSt → Prop) : Prop := if 255 < v0 then (Q 0 s) else (Q 1 s)
def d_ASB_appendC_j45 (v0 : JV) (v1 : Int) (s : LSt) (Q : JV → LSt → Prop) : Prop := cR v0 (fun i7 => rcv s i7 14 ∧ d_ASB_isLatin1 (jR i7) s (fun r9 s8 => if r9 = 0 then (fV s8 i7 14 0 (fun x10 => fI s8 i7 14 3 (fun z11 => pF s8 i7 14 3 0 (jI (wr (z11 + 1))) (fun s12 => False)))) else False))
def d_ASB_appendC (v0 : JV) (v1 : Int) (s : LSt) (Q : JV → LSt → Prop) : Prop := cR v0 (fun i1 => fI s i1 14 3 (fun z2 => rcv s i1 14 ∧ d_ASB_ensureCapacityInternal (jR i1) (wr (z2 + 1)) s (fun s3 => rcv s3 i1 14 ∧ d_ASB_isLatin1 (jR i1) s3 (fun r6 s5 => if r6 = 0 then (d_ASB_appendC_j45 (jR i1) v1 s5 Q) else (d_StringLatin1_canEncode v1 s5 (fun r14 s13 => if r14 = 0 then (d_ASB_appendC_j45 (jR i1) v1 s13 Q) else (fV s13 i1 14 0 (fun x15 => fI s13 i1 14 3 (fun z16 => pF s13 i1 14 3 0 (jI (wr (z16 + 1))) (fun s17 => cR x15 (fun i18 => wA s17 i18 101 z16 (jI (jb8 (jb8 v1))) (fun s19 => Q (jR i1) s19))))))))))))
def d_SB_appendC (v0 : JV) (v1 : Int) (s : LSt) (Q : JV → LSt → Prop) : Prop := cR v0 (fun i1 => rcv s i1 14 ∧ d_ASB_appendC (jR i1) v1 s (fun x3 s2 => Q (jR i1) s2))
def d_Lw_write_j85 (rec : JV → JV → LSt → (LSt → Prop) → Prop) (v1 : JV) (s : LSt) (Q : LSt → Prop) : Prop := cR v1 (fun i18 => rcv s i18 14 ∧ d_SB_appendC (jR i18) 41 s (fun x20 s19 => Q s19))
def d_Lw_write_F (rec : JV → JV → LSt → (LSt → Prop) → Prop) (v0 : JV) (v1 : JV) (s : LSt) (Q : LSt → Prop) : Prop := cR v0 (fun i1 => fI s i1 11 0 (fun z2 => if z2 < 100 then (fI s i1 11 0 (fun z3 => rcv s 2000009 15 ∧ d_YString_charAt (jR 2000009) z3 s (fun r5 s4 => cR v1 (fun i6 => rcv s4 i6 14 ∧ d_SB_appendC (jR i6) r5 s4 (fun x8 s7 => fV s7 i1 11 1 (fun x9 => cN x9 (Q s7) (fun i10 => rcv s7 i6 14 ∧ d_SB_appendC (jR i6) 40 s7 (fun x12 s11 => fV s11 i1 11 1 (fun x13 => rec x13 (jR i6) s11 (fun s14 => fV s14 i1 11 2 (fun x16 => cN x16 (d_Lw_write_j85 rec (jR i6) s14 Q) (fun i17 => rcv s14 i6 14 ∧ d_SB_appendC (jR i6) 44 s14 (fun x22 s21 => fV s21 i1 11 2 (fun x23 => rec x23 (jR i6) s21 (fun s24 => d_Lw_write_j85 rec (jR i6) s24 Q))))))))))))))) else (fI s i1 11 0 (fun z26 => cR v1 (fun i27 => rcv s i27 14 ∧ d_SB_appendC (jR i27) (jc16 (wr ((wr (65 + z26)) - 100))) s (fun x29 s28 => Q s28))))))
def d_Lw_write : Nat → JV → JV → LSt → (LSt → Prop) → Prop
  | 0 => fun _ _ _ _ => False
  | k + 1 => d_Lw_write_F (d_Lw_write k)
def d_Lw_size_F (rec : JV → LSt → (Int → LSt → Prop) → Prop) (v0 : JV) (s : LSt) (Q : Int → LSt → Prop) : Prop := cN v0 (Q 0 s) (fun i1 => fV s i1 11 1 (fun x2 => rec x2 s (fun r4 s3 => fV s3 i1 11 2 (fun x5 => rec x5 s3 (fun r7 s6 => Q (wr ((wr (1 + r4)) + r7)) s6)))))
def d_Lw_size : Nat → JV → LSt → (Int → LSt → Prop) → Prop
  | 0 => fun _ _ _ => False
  | k + 1 => d_Lw_size_F (d_Lw_size k)
def d_Arrays_fillO_b5 (v0 : JV) (v1 : JV) (v3 : Int) (v2 : Int) (s : LSt) (W5 : Int → LSt → Prop) (Q : LSt → Prop) : Prop := if v2 < v3 then (cR v0 (fun i3 => wV s i3 v2 v1 (fun s4 => W5 (wr (v2 + 1)) s4))) else (Q s)
def d_Arrays_fillO_l5 (v0 : JV) (v1 : JV) (v3 : Int) (v2 : Int) (s : LSt) (Q : LSt → Prop) : Prop := ∀ W : Int → LSt → Prop, (∀ (v2 : Int) (s : LSt), d_Arrays_fillO_b5 v0 v1 v3 v2 s W Q → W v2 s) → W v2 s
def d_Arrays_fillO (v0 : JV) (v1 : JV) (s : LSt) (Q : LSt → Prop) : Prop := cR v0 (fun i1 => aLn s i1 (fun z2 => d_Arrays_fillO_l5 (jR i1) v1 z2 0 s Q))
theorem i_Arrays_fillO_l5 {v0 : JV} {v1 : JV} {v3 : Int} {Q : LSt → Prop} {Inv : Int → LSt → Prop} (f : Int → LSt → Nat) (hi : ∀ (v2 : Int) (s : LSt), Inv v2 s → ∀ W : Int → LSt → Prop, (∀ (v2' : Int) (s' : LSt), Inv v2' s' → f v2' s' < f v2 s → W v2' s') → d_Arrays_fillO_b5 v0 v1 v3 v2 s W Q) : ∀ (v2 : Int) (s : LSt), Inv v2 s → d_Arrays_fillO_l5 v0 v1 v3 v2 s Q := by
  intro v2 s hI W hW
  have key : ∀ (n : Nat) (v2 : Int) (s : LSt), f v2 s = n → Inv v2 s → W v2 s := by
    intro n
    induction n using Nat.strongRecOn with
    | _ n ih =>
      intro v2 s hf hI
      exact hW _ _ (hi v2 s hI W fun v2' s' hI' hl => ih _ (by omega) v2' s' rfl hI')
  exact key _ v2 s rfl hI
def d_Lw_same_j8 (rec : JV → JV → LSt → (Int → LSt → Prop) → Prop) (v0 : JV) (v1 : JV) (s : LSt) (Q : Int → LSt → Prop) : Prop := cE v1 v0 (Q 1 s) (Q 0 s)
def d_Lw_same_F (rec : JV → JV → LSt → (Int → LSt → Prop) → Prop) (v0 : JV) (v1 : JV) (s : LSt) (Q : Int → LSt → Prop) : Prop := cN v0 (d_Lw_same_j8 rec (jX .null) v1 s Q) (fun i1 => cN v1 (d_Lw_same_j8 rec (jR i1) (jX .null) s Q) (fun i2 => fI s i1 11 0 (fun z3 => fI s i2 11 0 (fun z4 => if z3 = z4 then (fV s i1 11 1 (fun x5 => fV s i2 11 1 (fun x6 => rec x5 x6 s (fun r8 s7 => if r8 = 0 then (Q 0 s7) else (fV s7 i1 11 2 (fun x9 => fV s7 i2 11 2 (fun x10 => rec x9 x10 s7 (fun r12 s11 => if r12 = 0 then (Q 0 s11) else (Q 1 s11))))))))) else (Q 0 s)))))
def d_Lw_same : Nat → JV → JV → LSt → (Int → LSt → Prop) → Prop
  | 0 => fun _ _ _ _ => False
  | k + 1 => d_Lw_same_F (d_Lw_same k)
def d_Lw_match_j37 (rec : JV → JV → JV → LSt → (Int → LSt → Prop) → Prop) (v0 : JV) (v1 : JV) (v2 : JV) (s : LSt) (Q : Int → LSt → Prop) : Prop := cR v0 (fun i20 => fI s i20 11 0 (fun z21 => cR v2 (fun i22 => rV s i22 (wr (z21 - 100)) (fun x23 => d_Lw_same 5 x23 v1 s (fun r25 s24 => bz r25 ∧ Q r25 s24)))))
def d_Lw_match_F (rec : JV → JV → JV → LSt → (Int → LSt → Prop) → Prop) (v0 : JV) (v1 : JV) (v2 : JV) (s : LSt) (Q : Int → LSt → Prop) : Prop := cN v0 (Q 1 s) (fun i1 => fI s i1 11 0 (fun z2 => if z2 < 100 then (fI s i1 11 0 (fun z3 => cR v1 (fun i4 => fI s i4 11 0 (fun z5 => if z3 = z5 then (fV s i1 11 1 (fun x6 => fV s i4 11 1 (fun x7 => rec x6 x7 v2 s (fun r9 s8 => if r9 = 0 then (Q 0 s8) else (fV s8 i1 11 2 (fun x10 => fV s8 i4 11 2 (fun x11 => rec x10 x11 v2 s8 (fun r13 s12 => if r13 = 0 then (Q 0 s12) else (Q 1 s12))))))))) else (Q 0 s))))) else (fI s i1 11 0 (fun z14 => cR v2 (fun i15 => rV s i15 (wr (z14 - 100)) (fun x16 => cN x16 (fI s i1 11 0 (fun z18 => wV s i15 (wr (z18 - 100)) v1 (fun s19 => d_Lw_match_j37 rec (jR i1) v1 (jR i15) s19 Q))) (fun i17 => d_Lw_match_j37 rec (jR i1) v1 (jR i15) s Q)))))))
def d_Lw_match : Nat → JV → JV → JV → LSt → (Int → LSt → Prop) → Prop
  | 0 => fun _ _ _ _ _ => False
  | k + 1 => d_Lw_match_F (d_Lw_match k)
def d_Sys_matches (v0 : JV) (v1 : Int) (v2 : JV) (s : LSt) (Q : Int → LSt → Prop) : Prop := cR v0 (fun i1 => fV s i1 12 2 (fun x2 => d_Arrays_fillO x2 (jX .null) s (fun s3 => fV s3 i1 12 0 (fun x5 => cR x5 (fun i6 => rcv s3 i6 13 ∧ d_AL_get (jR i6) v1 s3 (fun x8 s7 => cT s7 x8 116 (cR x8 (fun i9 => rV s7 i9 0 (fun x10 => fV s7 i1 12 2 (fun x11 => d_Lw_match 5 x10 v2 x11 s7 (fun r13 s12 => bz r13 ∧ Q r13 s12)))))))))))
def d_Sys_rule_b2 (v0 : JV) (v1 : JV) (v2 : Int) (s : LSt) (W2 : Int → LSt → Prop) (Q : Int → LSt → Prop) : Prop := cR v0 (fun i1 => fV s i1 12 0 (fun x2 => cR x2 (fun i3 => rcv s i3 13 ∧ d_AL_size (jR i3) s (fun r5 s4 => if v2 < r5 then (rcv s4 i1 12 ∧ d_Sys_matches (jR i1) v2 v1 s4 (fun r7 s6 => if r7 = 0 then (W2 (wr (v2 + 1)) s6) else (Q v2 s6))) else (Q (-1) s4)))))
def d_Sys_rule_l2 (v0 : JV) (v1 : JV) (v2 : Int) (s : LSt) (Q : Int → LSt → Prop) : Prop := ∀ W : Int → LSt → Prop, (∀ (v2 : Int) (s : LSt), d_Sys_rule_b2 v0 v1 v2 s W Q → W v2 s) → W v2 s
def d_Sys_rule (v0 : JV) (v1 : JV) (s : LSt) (Q : Int → LSt → Prop) : Prop := d_Sys_rule_l2 v0 v1 0 s Q
theorem i_Sys_rule_l2 {v0 : JV} {v1 : JV} {Q : Int → LSt → Prop} {Inv : Int → LSt → Prop} (f : Int → LSt → Nat) (hi : ∀ (v2 : Int) (s : LSt), Inv v2 s → ∀ W : Int → LSt → Prop, (∀ (v2' : Int) (s' : LSt), Inv v2' s' → f v2' s' < f v2 s → W v2' s') → d_Sys_rule_b2 v0 v1 v2 s W Q) : ∀ (v2 : Int) (s : LSt), Inv v2 s → d_Sys_rule_l2 v0 v1 v2 s Q := by
  intro v2 s hI W hW
  have key : ∀ (n : Nat) (v2 : Int) (s : LSt), f v2 s = n → Inv v2 s → W v2 s := by
    intro n
    induction n using Nat.strongRecOn with
    | _ n ih =>
      intro v2 s hf hI
      exact hW _ _ (hi v2 s hI W fun v2' s' hI' hl => ih _ (by omega) v2' s' rfl hI')
  exact key _ v2 s rfl hI
def d_Sys_inner_F (rec : JV → JV → LSt → (Int → LSt → Prop) → Prop) (v0 : JV) (v1 : JV) (s : LSt) (Q : Int → LSt → Prop) : Prop := cN v1 (Q (-1) s) (fun i1 => fV s i1 11 1 (fun x2 => cR v0 (fun i3 => rcv s i3 12 ∧ rec (jR i3) x2 s (fun r5 s4 => if r5 < 0 then (fV s4 i1 11 2 (fun x6 => rcv s4 i3 12 ∧ rec (jR i3) x6 s4 (fun r8 s7 => if r8 < 0 then (rcv s7 i3 12 ∧ d_Sys_rule (jR i3) (jR i1) s7 (fun r10 s9 => if r10 < 0 then (Q (-1) s9) else (Q 0 s9))) else (fV s7 i1 11 1 (fun x11 => d_Lw_size 8 x11 s7 (fun r13 s12 => Q (wr ((wr (1 + r13)) + r8)) s12)))))) else (Q (wr (1 + r5)) s4)))))
def d_Sys_inner : Nat → JV → JV → LSt → (Int → LSt → Prop) → Prop
  | 0 => fun _ _ _ _ => False
  | k + 1 => d_Sys_inner_F (d_Sys_inner k)
def d_Lw_at_F (rec : JV → Int → LSt → (JV → LSt → Prop) → Prop) (v0 : JV) (v1 : Int) (s : LSt) (Q : JV → LSt → Prop) : Prop := if v1 = 0 then (Q v0 s) else (cR v0 (fun i1 => fV s i1 11 1 (fun x2 => d_Lw_size 8 x2 s (fun r4 s3 => if r4 < v1 then (fV s3 i1 11 2 (fun x5 => rec x5 (wr ((wr (v1 - 1)) - r4)) s3 (fun x7 s6 => Q x7 s6))) else (fV s3 i1 11 1 (fun x8 => rec x8 (wr (v1 - 1)) s3 (fun x10 s9 => Q x10 s9)))))))
def d_Lw_at : Nat → JV → Int → LSt → (JV → LSt → Prop) → Prop
  | 0 => fun _ _ _ _ => False
  | k + 1 => d_Lw_at_F (d_Lw_at k)
def d_Lw_fill_F (rec : JV → JV → LSt → (JV → LSt → Prop) → Prop) (v0 : JV) (v1 : JV) (s : LSt) (Q : JV → LSt → Prop) : Prop := cN v0 (Q (jX .null) s) (fun i1 => fI s i1 11 0 (fun z2 => if z2 < 100 then (nC s 11 (fun i3 s4 => fI s4 i1 11 0 (fun z5 => fV s4 i1 11 1 (fun x6 => rec x6 v1 s4 (fun x8 s7 => fV s7 i1 11 2 (fun x9 => rec x9 v1 s7 (fun x11 s10 => d_Node_init (jR i3) z5 x8 x11 s10 (fun s12 => Q (jR i3) s12)))))))) else (fI s i1 11 0 (fun z14 => cR v1 (fun i15 => rV s i15 (wr (z14 - 100)) (fun x16 => Q x16 s))))))
def d_Lw_fill : Nat → JV → JV → LSt → (JV → LSt → Prop) → Prop
  | 0 => fun _ _ _ _ => False
  | k + 1 => d_Lw_fill_F (d_Lw_fill k)
def d_Lw_put_F (rec : JV → Int → JV → LSt → (JV → LSt → Prop) → Prop) (v0 : JV) (v1 : Int) (v2 : JV) (s : LSt) (Q : JV → LSt → Prop) : Prop := if v1 = 0 then (Q v2 s) else (cR v0 (fun i1 => fV s i1 11 1 (fun x2 => d_Lw_size 8 x2 s (fun r4 s3 => if r4 < v1 then (nC s3 11 (fun i5 s6 => fI s6 i1 11 0 (fun z7 => fV s6 i1 11 1 (fun x8 => fV s6 i1 11 2 (fun x9 => rec x9 (wr ((wr (v1 - 1)) - r4)) v2 s6 (fun x11 s10 => d_Node_init (jR i5) z7 x8 x11 s10 (fun s12 => Q (jR i5) s12))))))) else (nC s3 11 (fun i14 s15 => fI s15 i1 11 0 (fun z16 => fV s15 i1 11 1 (fun x17 => rec x17 (wr (v1 - 1)) v2 s15 (fun x19 s18 => fV s18 i1 11 2 (fun x20 => d_Node_init (jR i14) z16 x19 x20 s18 (fun s21 => Q (jR i14) s21)))))))))))
def d_Lw_put : Nat → JV → Int → JV → LSt → (JV → LSt → Prop) → Prop
  | 0 => fun _ _ _ _ _ => False
  | k + 1 => d_Lw_put_F (d_Lw_put k)
def d_Sys_rewrite (v0 : JV) (v1 : Int) (v2 : JV) (v3 : Int) (s : LSt) (Q : JV → LSt → Prop) : Prop := if v1 < 0 then (Q (jX .null) s) else (d_Lw_at 5 v2 v3 s (fun x2 s1 => cR v0 (fun i3 => rcv s1 i3 12 ∧ d_Sys_matches (jR i3) v1 x2 s1 (fun r5 s4 => if r5 = 0 then (Q (jX .null) s4) else (fV s4 i3 12 0 (fun x6 => cR x6 (fun i7 => rcv s4 i7 13 ∧ d_AL_get (jR i7) v1 s4 (fun x9 s8 => cT s8 x9 116 (cR x9 (fun i10 => rV s8 i10 1 (fun x11 => fV s8 i3 12 2 (fun x12 => d_Lw_fill 5 x11 x12 s8 (fun x14 s13 => d_Lw_put 5 v2 v3 x14 s13 (fun x16 s15 => d_Lw_size 8 x16 s15 (fun r18 s17 => if 80 < r18 then (Q (jX .null) s17) else (Q x16 s17))))))))))))))))
def d_Sys_step (v0 : JV) (v1 : JV) (v2 : Int) (s : LSt) (Q : JV → LSt → Prop) : Prop := if v2 < 0 then (Q (jX .null) s) else (d_Lw_at 5 v1 v2 s (fun x2 s1 => cR v0 (fun i3 => rcv s1 i3 12 ∧ d_Sys_rule (jR i3) x2 s1 (fun r5 s4 => rcv s4 i3 12 ∧ d_Sys_rewrite (jR i3) r5 v1 v2 s4 (fun x7 s6 => Q x7 s6)))))
def d_AL_set (v0 : JV) (v1 : Int) (v2 : JV) (s : LSt) (Q : JV → LSt → Prop) : Prop := cR v0 (fun i1 => fI s i1 13 2 (fun z2 => d_Objects_checkIndex v1 z2 s (fun r4 s3 => rcv s3 i1 13 ∧ d_AL_elementData (jR i1) v1 s3 (fun x6 s5 => fV s5 i1 13 1 (fun x7 => cR x7 (fun i8 => wV s5 i8 v1 v2 (fun s9 => Q x6 s9)))))))
def d_ASB_getValue (v0 : JV) (s : LSt) (Q : JV → LSt → Prop) : Prop := cR v0 (fun i1 => fV s i1 14 0 (fun x2 => Q x2 s))
def d_ASB_length (v0 : JV) (s : LSt) (Q : Int → LSt → Prop) : Prop := cR v0 (fun i1 => fI s i1 14 3 (fun z2 => Q z2 s))
def d_SB_length (v0 : JV) (s : LSt) (Q : Int → LSt → Prop) : Prop := cR v0 (fun i1 => rcv s i1 14 ∧ d_ASB_length (jR i1) s (fun r3 s2 => Q r3 s2))
def d_Arrays_checkLength (v0 : Int) (v1 : Int) (s : LSt) (Q : LSt → Prop) : Prop := if v1 < v0 then False else (Q s)
def d_Arrays_copyOfRangeByte (v0 : JV) (v1 : Int) (v2 : Int) (s : LSt) (Q : JV → LSt → Prop) : Prop := d_Arrays_checkLength v1 v2 s (fun s1 => nA s1 101 (wr (v2 - v1)) (jI 0) (fun i3 s4 => cR v0 (fun i5 => aLn s4 i5 (fun z6 => d_YMath_min (wr (z6 - v1)) (wr (v2 - v1)) s4 (fun r8 s7 => aCp s7 r8 0 v1 i3 i5 (fun s9 => Q (jR i3) s9))))))
def d_Arrays_copyOfRange_j10 (v0 : JV) (v1 : Int) (v2 : Int) (s : LSt) (Q : JV → LSt → Prop) : Prop := d_Arrays_copyOfRangeByte v0 v1 v2 s (fun x6 s5 => Q x6 s5)
def d_Arrays_copyOfRange (v0 : JV) (v1 : Int) (v2 : Int) (s : LSt) (Q : JV → LSt → Prop) : Prop := if v1 = 0 then (cR v0 (fun i1 => aLn s i1 (fun z2 => if v2 = z2 then (aK s i1 (fun i3 s4 => cT s4 (jR i3) 101 (Q (jR i3) s4))) else (d_Arrays_copyOfRange_j10 (jR i1) v1 v2 s Q)))) else (d_Arrays_copyOfRange_j10 v0 v1 v2 s Q)
def d_String_init2_j79 (v0 : JV) (v3 : JV) (v4 : Int) (s : LSt) (Q : LSt → Prop) : Prop := cR v0 (fun i11 => pF s i11 15 1 3 (jI 1) (fun s12 => d_Arrays_copyOfRange v3 0 (jshl v4 1) s12 (fun x14 s13 => pF s13 i11 15 0 2 (x14) (fun s15 => Q s15))))
def d_String_init2 (v0 : JV) (v1 : JV) (v2 : JV) (s : LSt) (Q : LSt → Prop) : Prop := cR v0 (fun i1 => d_Object_init (jR i1) s (fun s2 => cR v1 (fun i4 => rcv s2 i4 14 ∧ d_ASB_getValue (jR i4) s2 (fun x6 s5 => rcv s5 i4 14 ∧ d_SB_length (jR i4) s5 (fun r8 s7 => rcv s7 i4 14 ∧ d_ASB_isLatin1 (jR i4) s7 (fun r10 s9 => if r10 = 0 then (if 1 = 0 then (d_String_init2_j79 (jR i1) x6 r8 s9 Q) else (fI s9 i4 14 2 (fun z16 => if z16 = 0 then (d_String_init2_j79 (jR i1) x6 r8 s9 Q) else False))) else (pF s9 i1 15 1 3 (jI 0) (fun s17 => d_Arrays_copyOfRange x6 0 r8 s17 (fun x19 s18 => pF s18 i1 15 0 2 (x19) (fun s20 => Q s20))))))))))
def d_String_init (v0 : JV) (v1 : JV) (s : LSt) (Q : LSt → Prop) : Prop := cR v0 (fun i1 => d_String_init2 (jR i1) v1 (jX .null) s (fun s2 => Q s2))
def d_SB_toString (v0 : JV) (s : LSt) (Q : JV → LSt → Prop) : Prop := nC s 15 (fun i1 s2 => d_String_init (jR i1) v0 s2 (fun s3 => Q (jR i1) s3))
def d_Lw_text_j206 (v2 : JV) (s : LSt) (Q : JV → LSt → Prop) : Prop := cR v2 (fun i69 => rcv s i69 14 ∧ d_SB_toString (jR i69) s (fun x71 s70 => Q x71 s70))
def d_Lw_text_b79 (v0 : JV) (v1 : Int) (v2 : JV) (v3 : Int) (s : LSt) (W79 : Int → LSt → Prop) (Q : JV → LSt → Prop) : Prop := cR v0 (fun i31 => fV s i31 12 1 (fun x32 => cR x32 (fun i33 => rcv s i33 13 ∧ d_AL_size (jR i33) s (fun r35 s34 => if v3 < r35 then (cR v2 (fun i36 => rcv s34 i36 14 ∧ d_SB_append (jR i36) (jR 2000011) s34 (fun x38 s37 => fV s37 i31 12 1 (fun x39 => cR x39 (fun i40 => rcv s37 i40 13 ∧ d_AL_get (jR i40) v3 s37 (fun x42 s41 => cT s41 x42 11 (d_Lw_write 5 x42 (jR i36) s41 (fun s43 => W79 (wr (v3 + 1)) s43)))))))) else (cR v2 (fun i45 => rcv s34 i45 14 ∧ d_SB_append (jR i45) (jR 2000012) s34 (fun x47 s46 => fV s46 i31 12 1 (fun x48 => fV s46 i31 12 1 (fun x49 => cR x49 (fun i50 => rcv s46 i50 13 ∧ d_AL_get (jR i50) 1 s46 (fun x52 s51 => cT s51 x52 11 (cR x48 (fun i53 => rcv s51 i53 13 ∧ d_AL_add (jR i53) x52 s51 (fun r55 s54 => fV s54 i31 12 1 (fun x56 => cR x56 (fun i57 => rcv s54 i57 13 ∧ d_AL_get (jR i57) 0 s54 (fun x59 s58 => cT s58 x59 11 (fV s58 i31 12 1 (fun x60 => cR x60 (fun i61 => rcv s58 i61 13 ∧ d_AL_get (jR i61) 0 s58 (fun x63 s62 => cT s62 x63 11 (rcv s62 i31 12 ∧ d_Sys_inner 5 (jR i31) x63 s62 (fun r65 s64 => rcv s64 i31 12 ∧ d_Sys_step (jR i31) x59 r65 s64 (fun x67 s66 => if jand v1 1 = 0 then (cN x67 (d_Lw_text_j206 (jR i45) s66 Q) (fun i68 => rcv s66 i45 14 ∧ d_SB_append (jR i45) (jR 2000013) s66 (fun x73 s72 => fV s72 i31 12 1 (fun x74 => cR x74 (fun i75 => rcv s72 i75 13 ∧ d_AL_set (jR i75) 0 (jR i68) s72 (fun x77 s76 => cT s76 x77 11 (d_Lw_text_j206 (jR i45) s76 Q))))))) else (d_Lw_text_j206 (jR i45) s66 Q)))))))))))))))))))))))))
def d_Lw_text_l79 (v0 : JV) (v1 : Int) (v2 : JV) (v3 : Int) (s : LSt) (Q : JV → LSt → Prop) : Prop := ∀ W : Int → LSt → Prop, (∀ (v3 : Int) (s : LSt), d_Lw_text_b79 v0 v1 v2 v3 s W Q → W v3 s) → W v3 s
def d_Lw_text_b12 (v0 : JV) (v1 : Int) (v2 : JV) (v3 : Int) (s : LSt) (W12 : Int → LSt → Prop) (Q : JV → LSt → Prop) : Prop := cR v0 (fun i5 => fV s i5 12 0 (fun x6 => cR x6 (fun i7 => rcv s i7 13 ∧ d_AL_size (jR i7) s (fun r9 s8 => if v3 < r9 then (cR v2 (fun i10 => rcv s8 i10 14 ∧ d_SB_append (jR i10) (jR 2000008) s8 (fun x12 s11 => fV s11 i5 12 0 (fun x13 => cR x13 (fun i14 => rcv s11 i14 13 ∧ d_AL_get (jR i14) v3 s11 (fun x16 s15 => cT s15 x16 116 (cR x16 (fun i17 => rV s15 i17 0 (fun x18 => d_Lw_write 5 x18 (jR i10) s15 (fun s19 => rcv s19 i10 14 ∧ d_SB_append (jR i10) (jR 2000010) s19 (fun x22 s21 => fV s21 i5 12 0 (fun x23 => cR x23 (fun i24 => rcv s21 i24 13 ∧ d_AL_get (jR i24) v3 s21 (fun x26 s25 => cT s25 x26 116 (cR x26 (fun i27 => rV s25 i27 1 (fun x28 => d_Lw_write 5 x28 (jR i10) s25 (fun s29 => W12 (wr (v3 + 1)) s29)))))))))))))))))) else (d_Lw_text_l79 (jR i5) v1 v2 0 s8 Q)))))
def d_Lw_text_l12 (v0 : JV) (v1 : Int) (v2 : JV) (v3 : Int) (s : LSt) (Q : JV → LSt → Prop) : Prop := ∀ W : Int → LSt → Prop, (∀ (v3 : Int) (s : LSt), d_Lw_text_b12 v0 v1 v2 v3 s W Q → W v3 s) → W v3 s
def d_Lw_text (v0 : JV) (v1 : Int) (s : LSt) (Q : JV → LSt → Prop) : Prop := nC s 14 (fun i1 s2 => d_SB_init (jR i1) (jR 2000007) s2 (fun s3 => d_Lw_text_l12 v0 v1 (jR i1) 0 s3 Q))
theorem i_Lw_text_l79 {v0 : JV} {v1 : Int} {v2 : JV} {Q : JV → LSt → Prop} {Inv : Int → LSt → Prop} (f : Int → LSt → Nat) (hi : ∀ (v3 : Int) (s : LSt), Inv v3 s → ∀ W : Int → LSt → Prop, (∀ (v3' : Int) (s' : LSt), Inv v3' s' → f v3' s' < f v3 s → W v3' s') → d_Lw_text_b79 v0 v1 v2 v3 s W Q) : ∀ (v3 : Int) (s : LSt), Inv v3 s → d_Lw_text_l79 v0 v1 v2 v3 s Q := by
  intro v3 s hI W hW
  have key : ∀ (n : Nat) (v3 : Int) (s : LSt), f v3 s = n → Inv v3 s → W v3 s := by
    intro n
    induction n using Nat.strongRecOn with
    | _ n ih =>
      intro v3 s hf hI
      exact hW _ _ (hi v3 s hI W fun v3' s' hI' hl => ih _ (by omega) v3' s' rfl hI')
  exact key _ v3 s rfl hI
theorem i_Lw_text_l12 {v0 : JV} {v1 : Int} {v2 : JV} {Q : JV → LSt → Prop} {Inv : Int → LSt → Prop} (f : Int → LSt → Nat) (hi : ∀ (v3 : Int) (s : LSt), Inv v3 s → ∀ W : Int → LSt → Prop, (∀ (v3' : Int) (s' : LSt), Inv v3' s' → f v3' s' < f v3 s → W v3' s') → d_Lw_text_b12 v0 v1 v2 v3 s W Q) : ∀ (v3 : Int) (s : LSt), Inv v3 s → d_Lw_text_l12 v0 v1 v2 v3 s Q := by
  intro v3 s hI W hW
  have key : ∀ (n : Nat) (v3 : Int) (s : LSt), f v3 s = n → Inv v3 s → W v3 s := by
    intro n
    induction n using Nat.strongRecOn with
    | _ n ih =>
      intro v3 s hf hI
      exact hW _ _ (hi v3 s hI W fun v3' s' hI' hl => ih _ (by omega) v3' s' rfl hI')
  exact key _ v3 s rfl hI
def d_Lw_flush (v1 : JV) (s : LSt) (Q : LSt → Prop) : Prop := cR v1 (fun i1 => rI s i1 0 (fun z2 => rI s i1 1 (fun z3 => rI s i1 2 (fun z4 => rI s i1 3 (fun z5 => rI s i1 4 (fun z6 => oI (fun Q _ => d_OB_append z2 z3 z4 z5 z6 s.2 Q) s (fun r7 s8 => wA s8 i1 100 5 (jI 0) (fun s9 => Q s9))))))))
def d_Lw_putc (v1 : JV) (v2 : Int) (s : LSt) (Q : LSt → Prop) : Prop := cR v1 (fun i1 => rI s i1 5 (fun z2 => rI s i1 (jdiv z2 4) (fun z3 => wA s i1 100 (jdiv z2 4) (jI (jor (jshl z3 8) v2)) (fun s4 => rI s4 i1 5 (fun z5 => wA s4 i1 100 5 (jI (wr (z5 + 1))) (fun s6 => rI s6 i1 6 (fun z7 => wA s6 i1 100 6 (jI (wr (z7 + 1))) (fun s8 => rI s8 i1 5 (fun z9 => if z9 = 20 then (d_Lw_flush (jR i1) s8 (fun s10 => Q s10)) else (Q s8))))))))))
def d_Lw_said_b5 (v1 : JV) (v2 : Int) (s : LSt) (W5 : LSt → Prop) (Q : Int → LSt → Prop) : Prop := cR v1 (fun i3 => rI s i3 5 (fun z4 => if 0 < z4 then (d_Lw_putc (jR i3) 32 s (fun s5 => W5 s5)) else (wA s i3 100 6 (jI 0) (fun s7 => Q v2 s7))))
def d_Lw_said_l5 (v1 : JV) (v2 : Int) (s : LSt) (Q : Int → LSt → Prop) : Prop := ∀ W : LSt → Prop, (∀ (s : LSt), d_Lw_said_b5 v1 v2 s W Q → W s) → W s
def d_Lw_said (v1 : JV) (s : LSt) (Q : Int → LSt → Prop) : Prop := cR v1 (fun i1 => rI s i1 6 (fun z2 => d_Lw_said_l5 (jR i1) z2 s Q))
theorem i_Lw_said_l5 {v1 : JV} {v2 : Int} {Q : Int → LSt → Prop} {Inv : LSt → Prop} (f : LSt → Nat) (hi : ∀ (s : LSt), Inv s → ∀ W : LSt → Prop, (∀ (s' : LSt), Inv s' → f s' < f s → W s') → d_Lw_said_b5 v1 v2 s W Q) : ∀ (s : LSt), Inv s → d_Lw_said_l5 v1 v2 s Q := by
  intro s hI W hW
  have key : ∀ (n : Nat) (s : LSt), f s = n → Inv s → W s := by
    intro n
    induction n using Nat.strongRecOn with
    | _ n ih =>
      intro s hf hI
      exact hW _ (hi s hI W fun s' hI' hl => ih _ (by omega) s' rfl hI')
  exact key _ s rfl hI
def d_Lw_told_b2 (v1 : JV) (v2 : JV) (v3 : Int) (s : LSt) (W2 : Int → LSt → Prop) (Q : Int → LSt → Prop) : Prop := cR v2 (fun i1 => rcv s i1 15 ∧ d_YString_length (jR i1) s (fun r3 s2 => if v3 < r3 then (rcv s2 i1 15 ∧ d_YString_charAt (jR i1) v3 s2 (fun r5 s4 => d_Lw_putc v1 r5 s4 (fun s6 => W2 (wr (v3 + 1)) s6))) else (d_Lw_said v1 s2 (fun r9 s8 => Q r9 s8))))
def d_Lw_told_l2 (v1 : JV) (v2 : JV) (v3 : Int) (s : LSt) (Q : Int → LSt → Prop) : Prop := ∀ W : Int → LSt → Prop, (∀ (v3 : Int) (s : LSt), d_Lw_told_b2 v1 v2 v3 s W Q → W v3 s) → W v3 s
def d_Lw_told (v1 : JV) (v2 : JV) (s : LSt) (Q : Int → LSt → Prop) : Prop := d_Lw_told_l2 v1 v2 0 s Q
theorem i_Lw_told_l2 {v1 : JV} {v2 : JV} {Q : Int → LSt → Prop} {Inv : Int → LSt → Prop} (f : Int → LSt → Nat) (hi : ∀ (v3 : Int) (s : LSt), Inv v3 s → ∀ W : Int → LSt → Prop, (∀ (v3' : Int) (s' : LSt), Inv v3' s' → f v3' s' < f v3 s → W v3' s') → d_Lw_told_b2 v1 v2 v3 s W Q) : ∀ (v3 : Int) (s : LSt), Inv v3 s → d_Lw_told_l2 v1 v2 v3 s Q := by
  intro v3 s hI W hW
  have key : ∀ (n : Nat) (v3 : Int) (s : LSt), f v3 s = n → Inv v3 s → W v3 s := by
    intro n
    induction n using Nat.strongRecOn with
    | _ n ih =>
      intro v3 s hf hI
      exact hW _ _ (hi v3 s hI W fun v3' s' hI' hl => ih _ (by omega) v3' s' rfl hI')
  exact key _ v3 s rfl hI
def d_Lw_isWhole_j60 (v1 : Int) (v2 : Int) (t0 : Int) (t1 : Int) (s : LSt) (Q : Int → LSt → Prop) : Prop := if t0 = t1 then (oB (d_OB_unify v1 v2 s.2) s (fun r13 s14 => oB (d_OB_unify v2 v1 s14.2) s14 (fun r15 s16 => if b2i r13 = b2i r15 then (oI (d_OB_unifiedSize v1 v2 s16.2) s16 (fun r17 s18 => oI (d_OB_unifiedSize v2 v1 s18.2) s18 (fun r19 s20 => if r17 = r19 then (oB (d_OB_unify v1 v1 s20.2) s20 (fun r21 s22 => if r21 = true then (oB (d_OB_areEqual v1 v1 s22.2) s22 (fun r23 s24 => if r23 = true then (oB (d_OB_areEqual v1 v2 s24.2) s24 (fun r25 s26 => if r25 = true then (oI (d_OB_stepsInnermost v1 s26.2) s26 (fun r27 s28 => oI (d_OB_stepsInnermost v2 s28.2) s28 (fun r29 s30 => if r27 = r29 then (Q 1 s30) else (Q 0 s30)))) else (Q 1 s26))) else (Q 0 s24))) else (Q 0 s22))) else (Q 0 s20)))) else (Q 0 s16)))) else (Q 0 s)
def d_Lw_isWhole_j39 (v1 : Int) (v2 : Int) (t0 : Int) (t1 : Int) (s : LSt) (Q : Int → LSt → Prop) : Prop := if t0 = t1 then (oB (d_OB_isNormalForm v1 s.2) s (fun r9 s10 => oI (d_OB_outermostRedex v1 s10.2) s10 (fun r11 s12 => if r11 < 0 then (d_Lw_isWhole_j60 v1 v2 (b2i r9) 1 s12 Q) else (d_Lw_isWhole_j60 v1 v2 (b2i r9) 0 s12 Q)))) else (Q 0 s)
def d_Lw_isWhole_j18 (v1 : Int) (v2 : Int) (t0 : Int) (t1 : Int) (s : LSt) (Q : Int → LSt → Prop) : Prop := if t0 = t1 then (oB (d_OB_isNormalForm v1 s.2) s (fun r5 s6 => oI (d_OB_innermostRedex v1 s6.2) s6 (fun r7 s8 => if r7 < 0 then (d_Lw_isWhole_j39 v1 v2 (b2i r5) 1 s8 Q) else (d_Lw_isWhole_j39 v1 v2 (b2i r5) 0 s8 Q)))) else (Q 0 s)
def d_Lw_isWhole (v1 : Int) (v2 : Int) (s : LSt) (Q : Int → LSt → Prop) : Prop := oB (d_OB_isNormalForm v1 s.2) s (fun r1 s2 => oI (d_OB_redexCount v1 s2.2) s2 (fun r3 s4 => if r3 = 0 then (d_Lw_isWhole_j18 v1 v2 (b2i r1) 1 s4 Q) else (d_Lw_isWhole_j18 v1 v2 (b2i r1) 0 s4 Q)))
def d_Lw_sees_b33 (v1 : JV) (v2 : Int) (v3 : Int) (s : LSt) (W23 : Int → LSt → Prop) (W33 : Int → LSt → Prop) (Q : LSt → Prop) : Prop := oI (d_OB_termSize v2 s.2) s (fun r11 s12 => if v3 < r11 then (cR v1 (fun i13 => rJ s12 i13 (wr (10 + v2)) (fun y14 => oI (d_OB_symbolAt v2 v3 s12.2) s12 (fun r15 s16 => oI (d_OB_variableAt v2 v3 s16.2) s16 (fun r17 s18 => wA s18 i13 103 (wr (10 + v2)) (jX (.long (((((Int64.ofNat 31) * y14) + ((Int64.ofNat 8) * ((Int32.ofInt (wr (r15 + 1))).toInt64))) + ((Int32.ofInt r17).toInt64)) + (Int64.ofNat 2)))) (fun s19 => W33 (wr (v3 + 1)) s19)))))) else (W23 (wr (v2 + 1)) s12))
def d_Lw_sees_l33 (v1 : JV) (v2 : Int) (v3 : Int) (s : LSt) (W23 : Int → LSt → Prop) (Q : LSt → Prop) : Prop := ∀ W : Int → LSt → Prop, (∀ (v3 : Int) (s : LSt), d_Lw_sees_b33 v1 v2 v3 s W23 W Q → W v3 s) → W v3 s
def d_Lw_sees_b115 (v1 : JV) (v2 : Int) (v3 : Int) (v4 : Int) (s : LSt) (W98 : Int → LSt → Prop) (W115 : Int → LSt → Prop) (Q : LSt → Prop) : Prop := if v4 < v3 then (cR v1 (fun i24 => rJ s i24 (wr (20 + v2)) (fun y25 => oI (d_OB_outputByte v4 s.2) s (fun r26 s27 => wA s27 i24 103 (wr (20 + v2)) (jX (.long (((Int64.ofNat 31) * y25) + ((Int32.ofInt r26).toInt64)))) (fun s28 => W115 (wr (v4 + 1)) s28))))) else (W98 (wr (v2 + 1)) s)
def d_Lw_sees_l115 (v1 : JV) (v2 : Int) (v3 : Int) (v4 : Int) (s : LSt) (W98 : Int → LSt → Prop) (Q : LSt → Prop) : Prop := ∀ W : Int → LSt → Prop, (∀ (v4 : Int) (s : LSt), d_Lw_sees_b115 v1 v2 v3 v4 s W98 W Q → W v4 s) → W v4 s
def d_Lw_sees_b98 (v1 : JV) (v2 : Int) (s : LSt) (W98 : Int → LSt → Prop) (Q : LSt → Prop) : Prop := oI (d_OB_ruleCount s.2) s (fun r20 s21 => if v2 < r20 then (oI (d_OB_writeRule v2 s21.2) s21 (fun r22 s23 => d_Lw_sees_l115 v1 v2 r22 0 s23 W98 Q)) else (Q s21))
def d_Lw_sees_l98 (v1 : JV) (v2 : Int) (s : LSt) (Q : LSt → Prop) : Prop := ∀ W : Int → LSt → Prop, (∀ (v2 : Int) (s : LSt), d_Lw_sees_b98 v1 v2 s W Q → W v2 s) → W v2 s
def d_Lw_sees_b23 (v1 : JV) (v2 : Int) (s : LSt) (W23 : Int → LSt → Prop) (Q : LSt → Prop) : Prop := oI (d_OB_termCount s.2) s (fun r9 s10 => if v2 < r9 then (d_Lw_sees_l33 v1 v2 0 s10 W23 Q) else (d_Lw_sees_l98 v1 0 s10 Q))
def d_Lw_sees_l23 (v1 : JV) (v2 : Int) (s : LSt) (Q : LSt → Prop) : Prop := ∀ W : Int → LSt → Prop, (∀ (v2 : Int) (s : LSt), d_Lw_sees_b23 v1 v2 s W Q → W v2 s) → W v2 s
def d_Lw_sees (v1 : JV) (s : LSt) (Q : LSt → Prop) : Prop := cR v1 (fun i1 => aF s i1 (Int64.ofNat 0) (fun s2 => oI (d_OB_ruleCount s2.2) s2 (fun r3 s4 => wA s4 i1 103 0 (jX (.long ((Int32.ofInt r3).toInt64))) (fun s5 => oI (d_OB_termCount s5.2) s5 (fun r6 s7 => wA s7 i1 103 1 (jX (.long ((Int32.ofInt r6).toInt64))) (fun s8 => d_Lw_sees_l23 (jR i1) 0 s8 Q))))))
theorem i_Lw_sees_l33 {v1 : JV} {v2 : Int} {W23 : Int → LSt → Prop} {Q : LSt → Prop} {Inv : Int → LSt → Prop} (f : Int → LSt → Nat) (hi : ∀ (v3 : Int) (s : LSt), Inv v3 s → ∀ W : Int → LSt → Prop, (∀ (v3' : Int) (s' : LSt), Inv v3' s' → f v3' s' < f v3 s → W v3' s') → d_Lw_sees_b33 v1 v2 v3 s W23 W Q) : ∀ (v3 : Int) (s : LSt), Inv v3 s → d_Lw_sees_l33 v1 v2 v3 s W23 Q := by
  intro v3 s hI W hW
  have key : ∀ (n : Nat) (v3 : Int) (s : LSt), f v3 s = n → Inv v3 s → W v3 s := by
    intro n
    induction n using Nat.strongRecOn with
    | _ n ih =>
      intro v3 s hf hI
      exact hW _ _ (hi v3 s hI W fun v3' s' hI' hl => ih _ (by omega) v3' s' rfl hI')
  exact key _ v3 s rfl hI
theorem i_Lw_sees_l115 {v1 : JV} {v2 : Int} {v3 : Int} {W98 : Int → LSt → Prop} {Q : LSt → Prop} {Inv : Int → LSt → Prop} (f : Int → LSt → Nat) (hi : ∀ (v4 : Int) (s : LSt), Inv v4 s → ∀ W : Int → LSt → Prop, (∀ (v4' : Int) (s' : LSt), Inv v4' s' → f v4' s' < f v4 s → W v4' s') → d_Lw_sees_b115 v1 v2 v3 v4 s W98 W Q) : ∀ (v4 : Int) (s : LSt), Inv v4 s → d_Lw_sees_l115 v1 v2 v3 v4 s W98 Q := by
  intro v4 s hI W hW
  have key : ∀ (n : Nat) (v4 : Int) (s : LSt), f v4 s = n → Inv v4 s → W v4 s := by
    intro n
    induction n using Nat.strongRecOn with
    | _ n ih =>
      intro v4 s hf hI
      exact hW _ _ (hi v4 s hI W fun v4' s' hI' hl => ih _ (by omega) v4' s' rfl hI')
  exact key _ v4 s rfl hI
theorem i_Lw_sees_l98 {v1 : JV} {Q : LSt → Prop} {Inv : Int → LSt → Prop} (f : Int → LSt → Nat) (hi : ∀ (v2 : Int) (s : LSt), Inv v2 s → ∀ W : Int → LSt → Prop, (∀ (v2' : Int) (s' : LSt), Inv v2' s' → f v2' s' < f v2 s → W v2' s') → d_Lw_sees_b98 v1 v2 s W Q) : ∀ (v2 : Int) (s : LSt), Inv v2 s → d_Lw_sees_l98 v1 v2 s Q := by
  intro v2 s hI W hW
  have key : ∀ (n : Nat) (v2 : Int) (s : LSt), f v2 s = n → Inv v2 s → W v2 s := by
    intro n
    induction n using Nat.strongRecOn with
    | _ n ih =>
      intro v2 s hf hI
      exact hW _ _ (hi v2 s hI W fun v2' s' hI' hl => ih _ (by omega) v2' s' rfl hI')
  exact key _ v2 s rfl hI
theorem i_Lw_sees_l23 {v1 : JV} {Q : LSt → Prop} {Inv : Int → LSt → Prop} (f : Int → LSt → Nat) (hi : ∀ (v2 : Int) (s : LSt), Inv v2 s → ∀ W : Int → LSt → Prop, (∀ (v2' : Int) (s' : LSt), Inv v2' s' → f v2' s' < f v2 s → W v2' s') → d_Lw_sees_b23 v1 v2 s W Q) : ∀ (v2 : Int) (s : LSt), Inv v2 s → d_Lw_sees_l23 v1 v2 s Q := by
  intro v2 s hI W hW
  have key : ∀ (n : Nat) (v2 : Int) (s : LSt), f v2 s = n → Inv v2 s → W v2 s := by
    intro n
    induction n using Nat.strongRecOn with
    | _ n ih =>
      intro v2 s hf hI
      exact hW _ _ (hi v2 s hI W fun v2' s' hI' hl => ih _ (by omega) v2' s' rfl hI')
  exact key _ v2 s rfl hI
def d_Lw_law_j702 (v5 : JV) (v6 : JV) (v7 : Int) (s : LSt) (W68 : Int → LSt → Prop) (Q : Int → LSt → Prop) : Prop := W68 (wr (v7 + 1)) s
def d_Lw_law_j650 (v5 : JV) (v6 : JV) (v7 : Int) (v8 : Int) (v9 : Int) (s : LSt) (W68 : Int → LSt → Prop) (Q : Int → LSt → Prop) : Prop := if jand (jushr v8 25) 3 = 0 then (oI (d_OB_restoreState v9 s.2) s (fun r42 s43 => cR v5 (fun i44 => rJ s43 i44 1 (fun y45 => if (lg_cmp ((Int32.ofInt r42).toInt64) y45).toInt = 0 then (opI (fun Q _ => d_OB_undoCount s43.2 Q) (fun r46 => if r46 = 0 then (d_Lw_sees v6 s43 (fun s47 => cR v6 (fun i49 => aSm s47 i44 i49 (if 1 = 0 then (Q 0 s47) else (d_Lw_law_j702 (jR i44) (jR i49) v7 s47 W68 Q))))) else (Q 0 s43))) else (Q 0 s43))))) else (d_Lw_law_j702 v5 v6 v7 s W68 Q)
def d_Lw_law_j250 (v5 : JV) (v6 : JV) (v7 : Int) (v8 : Int) (v9 : Int) (s : LSt) (W68 : Int → LSt → Prop) (Q : Int → LSt → Prop) : Prop := d_Lw_law_j650 v5 v6 v7 v8 v9 s W68 Q
def d_Lw_law_j331 (v5 : JV) (v6 : JV) (v7 : Int) (v8 : Int) (v9 : Int) (s : LSt) (W68 : Int → LSt → Prop) (Q : Int → LSt → Prop) : Prop := d_Lw_law_j650 v5 v6 v7 v8 v9 s W68 Q
def d_Lw_law_j308 (v5 : JV) (v6 : JV) (v7 : Int) (v8 : Int) (v9 : Int) (v10 : Int) (v14 : Int) (s : LSt) (W68 : Int → LSt → Prop) (Q : Int → LSt → Prop) : Prop := if v14 < 0 then (d_Lw_law_j331 v5 v6 v7 v8 v9 s W68 Q) else (if v14 < 12 then (oB (d_OB_isNormalForm v10 s.2) s (fun r64 s65 => if r64 = true then (d_Lw_law_j331 v5 v6 v7 v8 v9 s65 W68 Q) else (Q 0 s65))) else (d_Lw_law_j331 v5 v6 v7 v8 v9 s W68 Q))
def d_Lw_law_b271 (v5 : JV) (v6 : JV) (v7 : Int) (v8 : Int) (v9 : Int) (v10 : Int) (v14 : Int) (v15 : Int) (s : LSt) (W68 : Int → LSt → Prop) (W271 : Int → LSt → Prop) (Q : Int → LSt → Prop) : Prop := if v15 < v14 then (if v14 < 12 then (oI (d_OB_innermostRedex v10 s.2) s (fun r60 s61 => oI (d_OB_stepInnermost v10 s61.2) s61 (fun r62 s63 => if r60 = r62 then (W271 (wr (v15 + 1)) s63) else (Q 0 s63)))) else (d_Lw_law_j308 v5 v6 v7 v8 v9 v10 v14 s W68 Q)) else (d_Lw_law_j308 v5 v6 v7 v8 v9 v10 v14 s W68 Q)
def d_Lw_law_l271 (v5 : JV) (v6 : JV) (v7 : Int) (v8 : Int) (v9 : Int) (v10 : Int) (v14 : Int) (v15 : Int) (s : LSt) (W68 : Int → LSt → Prop) (Q : Int → LSt → Prop) : Prop := ∀ W : Int → LSt → Prop, (∀ (v15 : Int) (s : LSt), d_Lw_law_b271 v5 v6 v7 v8 v9 v10 v14 v15 s W68 W Q → W v15 s) → W v15 s
def d_Lw_law_j388 (v5 : JV) (v6 : JV) (v7 : Int) (v8 : Int) (v9 : Int) (s : LSt) (W68 : Int → LSt → Prop) (Q : Int → LSt → Prop) : Prop := d_Lw_law_j650 v5 v6 v7 v8 v9 s W68 Q
def d_Lw_law_j501 (v5 : JV) (v6 : JV) (v7 : Int) (v8 : Int) (v9 : Int) (s : LSt) (W68 : Int → LSt → Prop) (Q : Int → LSt → Prop) : Prop := d_Lw_law_j650 v5 v6 v7 v8 v9 s W68 Q
def d_Lw_law_j554 (v5 : JV) (v6 : JV) (v7 : Int) (v8 : Int) (v9 : Int) (t0 : Int) (t1 : Int) (s : LSt) (W68 : Int → LSt → Prop) (Q : Int → LSt → Prop) : Prop := if t0 = t1 then (d_Lw_law_j650 v5 v6 v7 v8 v9 s W68 Q) else (Q 0 s)
def d_Lw_law_j553 (v5 : JV) (v6 : JV) (v7 : Int) (v8 : Int) (v9 : Int) (t0 : Int) (s : LSt) (W68 : Int → LSt → Prop) (Q : Int → LSt → Prop) : Prop := d_Lw_law_j554 v5 v6 v7 v8 v9 t0 0 s W68 Q
def d_Lw_law_j531 (v5 : JV) (v6 : JV) (v7 : Int) (v8 : Int) (v9 : Int) (v10 : Int) (v12 : Int) (v14 : Int) (t0 : Int) (s : LSt) (W68 : Int → LSt → Prop) (Q : Int → LSt → Prop) : Prop := if v14 < 0 then (d_Lw_law_j553 v5 v6 v7 v8 v9 t0 s W68 Q) else (oB (d_OB_matches v14 v10 v12 s.2) s (fun r94 s95 => if r94 = true then (d_Lw_law_j554 v5 v6 v7 v8 v9 t0 1 s95 W68 Q) else (d_Lw_law_j553 v5 v6 v7 v8 v9 t0 s95 W68 Q)))
def d_Lw_law_j605 (v5 : JV) (v6 : JV) (v7 : Int) (v8 : Int) (v9 : Int) (s : LSt) (W68 : Int → LSt → Prop) (Q : Int → LSt → Prop) : Prop := d_Lw_law_j650 v5 v6 v7 v8 v9 s W68 Q
def d_Lw_law_b68 (v5 : JV) (v6 : JV) (v7 : Int) (s : LSt) (W68 : Int → LSt → Prop) (Q : Int → LSt → Prop) : Prop := if v7 < 14 then (d_Lw_cell (jR 1000000) (wr (11 + v7)) s (fun r23 s22 => oI (d_OB_termCount s22.2) s22 (fun r24 s25 => (0 < r24 ∧ r24 < 2147483648) ∧ oI (d_OB_termCount s25.2) s25 (fun r26 s27 => (0 < r26 ∧ r26 < 2147483648) ∧ oI (d_OB_termSize (jrem (jand (jushr r23 5) 7) r24) s27.2) s27 (fun r28 s29 => (0 < r28 ∧ r28 < 2147483648) ∧ d_Lw_sees v5 s29 (fun s30 => oI (d_OB_saveState (jand r23 1) s30.2) s30 (fun r32 s33 => cR v5 (fun i34 => rJ s33 i34 1 (fun y35 => if (lg_cmp ((Int32.ofInt r32).toInt64) y35).toInt = 0 then (d_Lw_isWhole (jrem (jand (jushr r23 5) 7) r24) (jrem (jand (jushr r23 8) 7) r26) s33 (fun r37 s36 => if r37 = 0 then (Q 0 s36) else (if jand (jushr r23 1) 15 < 4 then (oI (d_OB_stepsInnermost (jrem (jand (jushr r23 5) 7) r24) s36.2) s36 (fun r38 s39 => oI (d_OB_normalFormSize (jrem (jand (jushr r23 5) 7) r24) s39.2) s39 (fun r40 s41 => if r38 < 0 then (d_Lw_law_j250 (jR i34) v6 v7 r23 (jand r23 1) s41 W68 Q) else (oI (d_OB_normalize (jrem (jand (jushr r23 5) 7) r24) s41.2) s41 (fun r50 s51 => if r50 = r38 then (oI (d_OB_termSize (jrem (jand (jushr r23 5) 7) r24) s51.2) s51 (fun r52 s53 => if r52 = r40 then (oB (d_OB_isNormalForm (jrem (jand (jushr r23 5) 7) r24) s53.2) s53 (fun r54 s55 => if r54 = true then (oI (d_OB_redexCount (jrem (jand (jushr r23 5) 7) r24) s55.2) s55 (fun r56 s57 => if r56 = 0 then (d_Lw_law_j250 (jR i34) v6 v7 r23 (jand r23 1) s57 W68 Q) else (Q 0 s57))) else (Q 0 s55))) else (Q 0 s53))) else (Q 0 s51)))))) else (if jand (jushr r23 1) 15 < 7 then (oI (d_OB_stepsInnermost (jrem (jand (jushr r23 5) 7) r24) s36.2) s36 (fun r58 s59 => d_Lw_law_l271 (jR i34) v6 v7 r23 (jand r23 1) (jrem (jand (jushr r23 5) 7) r24) r58 0 s59 W68 Q)) else (if jand (jushr r23 1) 15 < 9 then (oI (d_OB_stepsOutermost (jrem (jand (jushr r23 5) 7) r24) s36.2) s36 (fun r66 s67 => oI (d_OB_outermostRedex (jrem (jand (jushr r23 5) 7) r24) s67.2) s67 (fun r68 s69 => if 0 < r66 then (oI (d_OB_stepOutermost (jrem (jand (jushr r23 5) 7) r24) s69.2) s69 (fun r70 s71 => if r70 = r68 then (oI (d_OB_stepsOutermost (jrem (jand (jushr r23 5) 7) r24) s71.2) s71 (fun r72 s73 => if r72 = wr (r66 - 1) then (d_Lw_law_j388 (jR i34) v6 v7 r23 (jand r23 1) s73 W68 Q) else (Q 0 s73))) else (Q 0 s71))) else (d_Lw_law_j388 (jR i34) v6 v7 r23 (jand r23 1) s69 W68 Q)))) else (if jand (jushr r23 1) 15 < 11 then (oI (d_OB_termCount s36.2) s36 (fun r74 s75 => if r74 < 6 then (oI (d_OB_copySubterm (jrem (jand (jushr r23 5) 7) r24) (jrem (jand (jushr r23 11) 15) r28) s75.2) s75 (fun r76 s77 => rJ s77 i34 1 (fun y78 => if (lg_cmp ((Int32.ofInt r76).toInt64) y78).toInt = 0 then (rJ s77 i34 1 (fun y79 => oI (d_OB_termSize (y79.toInt32.toInt) s77.2) s77 (fun r80 s81 => oI (d_OB_subtermSize (jrem (jand (jushr r23 5) 7) r24) (jrem (jand (jushr r23 11) 15) r28) s81.2) s81 (fun r82 s83 => if r80 = r82 then (d_Lw_law_j650 (jR i34) v6 v7 r23 (jand r23 1) s83 W68 Q) else (Q 0 s83))))) else (Q 0 s77)))) else (d_Lw_law_j650 (jR i34) v6 v7 r23 (jand r23 1) s75 W68 Q))) else (if jand (jushr r23 1) 15 = 11 then (oI (d_OB_termSize (jrem (jand (jushr r23 5) 7) r24) s36.2) s36 (fun r84 s85 => oI (d_OB_subtermSize (jrem (jand (jushr r23 5) 7) r24) (jrem (jand (jushr r23 11) 15) r28) s85.2) s85 (fun r86 s87 => oI (d_OB_termSize (jrem (jand (jushr r23 8) 7) r26) s87.2) s87 (fun r88 s89 => if 80 < wr ((wr (r84 - r86)) + r88) then (d_Lw_law_j501 (jR i34) v6 v7 r23 (jand r23 1) s89 W68 Q) else (oI (d_OB_replaceSubterm (jrem (jand (jushr r23 5) 7) r24) (jrem (jand (jushr r23 11) 15) r28) (jrem (jand (jushr r23 8) 7) r26) s89.2) s89 (fun r90 s91 => if r90 = wr ((wr (r84 - r86)) + r88) then (d_Lw_law_j501 (jR i34) v6 v7 r23 (jand r23 1) s91 W68 Q) else (Q 0 s91))))))) else (if jand (jushr r23 1) 15 = 12 then (oI (d_OB_ruleAt (jrem (jand (jushr r23 5) 7) r24) (jrem (jand (jushr r23 11) 15) r28) s36.2) s36 (fun r92 s93 => if r92 < 0 then (d_Lw_law_j531 (jR i34) v6 v7 r23 (jand r23 1) (jrem (jand (jushr r23 5) 7) r24) (jrem (jand (jushr r23 11) 15) r28) r92 0 s93 W68 Q) else (d_Lw_law_j531 (jR i34) v6 v7 r23 (jand r23 1) (jrem (jand (jushr r23 5) 7) r24) (jrem (jand (jushr r23 11) 15) r28) r92 1 s93 W68 Q))) else (if jand (jushr r23 1) 15 = 13 then (oI (d_OB_ruleCount s36.2) s36 (fun r96 s97 => oI (d_OB_swapRules 0 (wr (r96 - 1)) s97.2) s97 (fun r98 s99 => if r98 < 0 then (Q 0 s99) else (oI (d_OB_undo s99.2) s99 (fun r100 s101 => if r100 = 0 then (d_Lw_law_j605 (jR i34) v6 v7 r23 (jand r23 1) s101 W68 Q) else (opI (fun Q _ => d_OB_undoCount s101.2 Q) (fun r102 => if 7 < r102 then (Q 0 s101) else (d_Lw_law_j605 (jR i34) v6 v7 r23 (jand r23 1) s101 W68 Q)))))))) else (oI (d_OB_termCount s36.2) s36 (fun r103 s104 => if 2 < r103 then (oI (d_OB_removeTerm (jrem (jand (jushr r23 5) 7) r24) s104.2) s104 (fun r105 s106 => rJ s106 i34 1 (fun y107 => if (lg_cmp ((Int32.ofInt r105).toInt64) (y107 - (Int64.ofNat 1))).toInt = 0 then (oI (d_OB_termCount s106.2) s106 (fun r108 s109 => rJ s109 i34 1 (fun y110 => if (lg_cmp ((Int32.ofInt r108).toInt64) (y110 - (Int64.ofNat 1))).toInt = 0 then (d_Lw_law_j650 (jR i34) v6 v7 r23 (jand r23 1) s109 W68 Q) else (Q 0 s109)))) else (Q 0 s106)))) else (d_Lw_law_j650 (jR i34) v6 v7 r23 (jand r23 1) s104 W68 Q)))))))))))) else (Q 0 s33)))))))))) else (oI (d_OB_unjoinedPairs s.2) s (fun r111 s112 => oI (d_OB_criticalPairCount s112.2) s112 (fun r113 s114 => if r113 < r111 then (Q 0 s114) else (Q 1 s114))))
def d_Lw_law_l68 (v5 : JV) (v6 : JV) (v7 : Int) (s : LSt) (Q : Int → LSt → Prop) : Prop := ∀ W : Int → LSt → Prop, (∀ (v7 : Int) (s : LSt), d_Lw_law_b68 v5 v6 v7 s W Q → W v7 s) → W v7 s
def d_Lw_law (s : LSt) (Q : Int → LSt → Prop) : Prop := nA s 100 7 (jI 0) (fun i1 s2 => d_Lw_sys (jR 1000000) s2 (fun x4 s3 => d_Lw_cell (jR 1000000) 10 s3 (fun r6 s5 => d_Lw_text x4 r6 s5 (fun x8 s7 => d_Lw_told (jR i1) x8 s7 (fun r10 s9 => oI (d_OB_parseSystem r10 s9.2) s9 (fun r11 s12 => cR x4 (fun i13 => fV s12 i13 12 0 (fun x14 => cR x14 (fun i15 => rcv s12 i15 13 ∧ d_AL_size (jR i15) s12 (fun r17 s16 => if r11 = r17 then (nA s16 103 60 (jX (.long 0)) (fun i18 s19 => nA s19 103 60 (jX (.long 0)) (fun i20 s21 => d_Lw_law_l68 (jR i18) (jR i20) 0 s21 Q))) else (Q 0 s16)))))))))))
theorem i_Lw_law_l271 {v5 : JV} {v6 : JV} {v7 : Int} {v8 : Int} {v9 : Int} {v10 : Int} {v14 : Int} {W68 : Int → LSt → Prop} {Q : Int → LSt → Prop} {Inv : Int → LSt → Prop} (f : Int → LSt → Nat) (hi : ∀ (v15 : Int) (s : LSt), Inv v15 s → ∀ W : Int → LSt → Prop, (∀ (v15' : Int) (s' : LSt), Inv v15' s' → f v15' s' < f v15 s → W v15' s') → d_Lw_law_b271 v5 v6 v7 v8 v9 v10 v14 v15 s W68 W Q) : ∀ (v15 : Int) (s : LSt), Inv v15 s → d_Lw_law_l271 v5 v6 v7 v8 v9 v10 v14 v15 s W68 Q := by
  intro v15 s hI W hW
  have key : ∀ (n : Nat) (v15 : Int) (s : LSt), f v15 s = n → Inv v15 s → W v15 s := by
    intro n
    induction n using Nat.strongRecOn with
    | _ n ih =>
      intro v15 s hf hI
      exact hW _ _ (hi v15 s hI W fun v15' s' hI' hl => ih _ (by omega) v15' s' rfl hI')
  exact key _ v15 s rfl hI
theorem i_Lw_law_l68 {v5 : JV} {v6 : JV} {Q : Int → LSt → Prop} {Inv : Int → LSt → Prop} (f : Int → LSt → Nat) (hi : ∀ (v7 : Int) (s : LSt), Inv v7 s → ∀ W : Int → LSt → Prop, (∀ (v7' : Int) (s' : LSt), Inv v7' s' → f v7' s' < f v7 s → W v7' s') → d_Lw_law_b68 v5 v6 v7 s W Q) : ∀ (v7 : Int) (s : LSt), Inv v7 s → d_Lw_law_l68 v5 v6 v7 s Q := by
  intro v7 s hI W hW
  have key : ∀ (n : Nat) (v7 : Int) (s : LSt), f v7 s = n → Inv v7 s → W v7 s := by
    intro n
    induction n using Nat.strongRecOn with
    | _ n ih =>
      intro v7 s hf hI
      exact hW _ _ (hi v7 s hI W fun v7' s' hI' hl => ih _ (by omega) v7' s' rfl hI')
  exact key _ v7 s rfl hI
