/-! locals and arguments, as rows for the calculus -/
theorem Ks_z {mi pc pc1 i : Nat} {ls st : List JV} {v x : JV} {P : JO → JM → Prop} {go : Nat → List JV → List JV → JM → Prop} {M : JM} (h1 : (jU :: ls).getD i jU = x) (h2 : i < ls.length) : JKr mi pc ls P go M (jNo pc1 (jsto ls i v) st M) = if jc2 x = false then go pc1 (ls.set i v) st M else False := by
  subst h1
  by_cases h : jc2 ((jU :: ls).getD i jU) = false
  · rw [if_pos h]
    exact Kr_s.trans (K_so h h2)
  · rw [if_neg h]
    unfold jsto
    rw [if_neg (fun q => h q.1)]
    rfl
theorem Ks_z2 {mi pc pc1 i : Nat} {ls st : List JV} {v x : JV} {P : JO → JM → Prop} {go : Nat → List JV → List JV → JM → Prop} {M : JM} (h1 : (jU :: ls).getD i jU = x) (h2 : i + 1 < ls.length) : JKr mi pc ls P go M (jNo pc1 (jsto2 ls i v) st M) = if jc2 x = false then go pc1 ((ls.set i v).set (i + 1) jU) st M else False := by
  subst h1
  by_cases h : jc2 ((jU :: ls).getD i jU) = false
  · rw [if_pos h]
    exact Kr_s.trans (K_so2 h h2)
  · rw [if_neg h]
    unfold jsto2
    rw [if_neg (fun q => h q.1)]
    rfl
theorem Ks_s {mi pc pc1 i : Nat} {ls st : List JV} {v : JV} {P : JO → JM → Prop} {go : Nat → List JV → List JV → JM → Prop} {M : JM} (h1 : jc2 ((jU :: ls).getD i jU) = false) (h2 : i < ls.length) : JKr mi pc ls P go M (jNo pc1 (jsto ls i v) st M) = go pc1 (ls.set i v) st M := Kr_s.trans (K_so h1 h2)
theorem K_aload_n_0 {mi l a b w pc : Nat} {st : List JV} {M : JM} {P : JO → JM → Prop} {go : Nat → List JV → List JV → JM → Prop} {l9 : List JV} {z : Nat} : JK mi (some (.aload_n 0, l, a, b, w)) pc (.inr (.inl z) :: l9) st M P go = go (pc + 1) (.inr (.inl z) :: l9) (.inr (.inl z) :: st) M := rfl
theorem K_iload_n_0 {mi l a b w pc : Nat} {st : List JV} {M : JM} {P : JO → JM → Prop} {go : Nat → List JV → List JV → JM → Prop} {l9 : List JV} {z : Int} : JK mi (some (.iload_n 0, l, a, b, w)) pc (.inl z :: l9) st M P go = go (pc + 1) (.inl z :: l9) (.inl z :: st) M := rfl
theorem K_astore_n_0 {mi l a b w pc : Nat} {st : List JV} {M : JM} {P : JO → JM → Prop} {go : Nat → List JV → List JV → JM → Prop} {l9 : List JV} {y : JV} {z : Nat} : JK mi (some (.astore_n 0, l, a, b, w)) pc (y :: l9) (.inr (.inl z) :: st) M P go = go (pc + 1) (.inr (.inl z) :: l9) st M := Ks_s (mi := mi) (pc := pc) (P := P) (ls := y :: l9) (i := 0) rfl (by simp)
theorem K_istore_n_0 {mi l a b w pc : Nat} {st : List JV} {M : JM} {P : JO → JM → Prop} {go : Nat → List JV → List JV → JM → Prop} {l9 : List JV} {y : JV} {z : Int} : JK mi (some (.istore_n 0, l, a, b, w)) pc (y :: l9) (.inl z :: st) M P go = go (pc + 1) (.inl z :: l9) st M := Ks_s (mi := mi) (pc := pc) (P := P) (ls := y :: l9) (i := 0) rfl (by simp)
theorem K_aload_0 {mi l a b w pc : Nat} {st : List JV} {M : JM} {P : JO → JM → Prop} {go : Nat → List JV → List JV → JM → Prop} {l9 : List JV} {z : Nat} : JK mi (some (.aload 0, l, a, b, w)) pc (.inr (.inl z) :: l9) st M P go = go (pc + 2) (.inr (.inl z) :: l9) (.inr (.inl z) :: st) M := rfl
theorem K_iload_0 {mi l a b w pc : Nat} {st : List JV} {M : JM} {P : JO → JM → Prop} {go : Nat → List JV → List JV → JM → Prop} {l9 : List JV} {z : Int} : JK mi (some (.iload 0, l, a, b, w)) pc (.inl z :: l9) st M P go = go (pc + 2) (.inl z :: l9) (.inl z :: st) M := rfl
theorem K_fload_0 {mi l a b w pc : Nat} {st : List JV} {M : JM} {P : JO → JM → Prop} {go : Nat → List JV → List JV → JM → Prop} {l9 : List JV} {z : UInt32} : JK mi (some (.fload 0, l, a, b, w)) pc (.inr (.inr (.float z)) :: l9) st M P go = go (pc + 2) (.inr (.inr (.float z)) :: l9) (.inr (.inr (.float z)) :: st) M := rfl
theorem K_dload_0 {mi l a b w pc : Nat} {st : List JV} {M : JM} {P : JO → JM → Prop} {go : Nat → List JV → List JV → JM → Prop} {l9 : List JV} {z : UInt64} : JK mi (some (.dload 0, l, a, b, w)) pc (.inr (.inr (.double z)) :: l9) st M P go = go (pc + 2) (.inr (.inr (.double z)) :: l9) (.inr (.inr (.double z)) :: st) M := rfl
theorem K_astore_0 {mi l a b w pc : Nat} {st : List JV} {M : JM} {P : JO → JM → Prop} {go : Nat → List JV → List JV → JM → Prop} {l9 : List JV} {y : JV} {z : Nat} : JK mi (some (.astore 0, l, a, b, w)) pc (y :: l9) (.inr (.inl z) :: st) M P go = go (pc + 2) (.inr (.inl z) :: l9) st M := Ks_s (mi := mi) (pc := pc) (P := P) (ls := y :: l9) (i := 0) rfl (by simp)
theorem K_istore_0 {mi l a b w pc : Nat} {st : List JV} {M : JM} {P : JO → JM → Prop} {go : Nat → List JV → List JV → JM → Prop} {l9 : List JV} {y : JV} {z : Int} : JK mi (some (.istore 0, l, a, b, w)) pc (y :: l9) (.inl z :: st) M P go = go (pc + 2) (.inl z :: l9) st M := Ks_s (mi := mi) (pc := pc) (P := P) (ls := y :: l9) (i := 0) rfl (by simp)
theorem K_fstore_0 {mi l a b w pc : Nat} {st : List JV} {M : JM} {P : JO → JM → Prop} {go : Nat → List JV → List JV → JM → Prop} {l9 : List JV} {y : JV} {z : UInt32} : JK mi (some (.fstore 0, l, a, b, w)) pc (y :: l9) (.inr (.inr (.float z)) :: st) M P go = go (pc + 2) (.inr (.inr (.float z)) :: l9) st M := Ks_s (mi := mi) (pc := pc) (P := P) (ls := y :: l9) (i := 0) rfl (by simp)
theorem K_iinc_0 {mi l a b w pc : Nat} {st : List JV} {M : JM} {P : JO → JM → Prop} {go : Nat → List JV → List JV → JM → Prop} {l9 : List JV} {n z : Int} : JK mi (some (.iinc 0 n, l, a, b, w)) pc (.inl z :: l9) st M P go = go (pc + 3) (.inl (wr (z + n)) :: l9) st M := Ks_s (mi := mi) (pc := pc) (P := P) (ls := .inl z :: l9) (i := 0) rfl (by simp)
theorem K_aload_n_1 {mi l a b w pc : Nat} {st : List JV} {M : JM} {P : JO → JM → Prop} {go : Nat → List JV → List JV → JM → Prop} {x0 : JV} {l9 : List JV} {z : Nat} : JK mi (some (.aload_n 1, l, a, b, w)) pc (x0 :: .inr (.inl z) :: l9) st M P go = go (pc + 1) (x0 :: .inr (.inl z) :: l9) (.inr (.inl z) :: st) M := rfl
theorem K_iload_n_1 {mi l a b w pc : Nat} {st : List JV} {M : JM} {P : JO → JM → Prop} {go : Nat → List JV → List JV → JM → Prop} {x0 : JV} {l9 : List JV} {z : Int} : JK mi (some (.iload_n 1, l, a, b, w)) pc (x0 :: .inl z :: l9) st M P go = go (pc + 1) (x0 :: .inl z :: l9) (.inl z :: st) M := rfl
theorem K_astore_n_1 {mi l a b w pc : Nat} {st : List JV} {M : JM} {P : JO → JM → Prop} {go : Nat → List JV → List JV → JM → Prop} {x0 : JV} {l9 : List JV} {y : JV} {z : Nat} : JK mi (some (.astore_n 1, l, a, b, w)) pc (x0 :: y :: l9) (.inr (.inl z) :: st) M P go = if jc2 x0 = false then go (pc + 1) (x0 :: .inr (.inl z) :: l9) st M else False := Ks_z (mi := mi) (pc := pc) (P := P) (ls := x0 :: y :: l9) (i := 1) (x := x0) rfl (by simp)
theorem K_istore_n_1 {mi l a b w pc : Nat} {st : List JV} {M : JM} {P : JO → JM → Prop} {go : Nat → List JV → List JV → JM → Prop} {x0 : JV} {l9 : List JV} {y : JV} {z : Int} : JK mi (some (.istore_n 1, l, a, b, w)) pc (x0 :: y :: l9) (.inl z :: st) M P go = if jc2 x0 = false then go (pc + 1) (x0 :: .inl z :: l9) st M else False := Ks_z (mi := mi) (pc := pc) (P := P) (ls := x0 :: y :: l9) (i := 1) (x := x0) rfl (by simp)
theorem K_aload_1 {mi l a b w pc : Nat} {st : List JV} {M : JM} {P : JO → JM → Prop} {go : Nat → List JV → List JV → JM → Prop} {x0 : JV} {l9 : List JV} {z : Nat} : JK mi (some (.aload 1, l, a, b, w)) pc (x0 :: .inr (.inl z) :: l9) st M P go = go (pc + 2) (x0 :: .inr (.inl z) :: l9) (.inr (.inl z) :: st) M := rfl
theorem K_iload_1 {mi l a b w pc : Nat} {st : List JV} {M : JM} {P : JO → JM → Prop} {go : Nat → List JV → List JV → JM → Prop} {x0 : JV} {l9 : List JV} {z : Int} : JK mi (some (.iload 1, l, a, b, w)) pc (x0 :: .inl z :: l9) st M P go = go (pc + 2) (x0 :: .inl z :: l9) (.inl z :: st) M := rfl
theorem K_fload_1 {mi l a b w pc : Nat} {st : List JV} {M : JM} {P : JO → JM → Prop} {go : Nat → List JV → List JV → JM → Prop} {x0 : JV} {l9 : List JV} {z : UInt32} : JK mi (some (.fload 1, l, a, b, w)) pc (x0 :: .inr (.inr (.float z)) :: l9) st M P go = go (pc + 2) (x0 :: .inr (.inr (.float z)) :: l9) (.inr (.inr (.float z)) :: st) M := rfl
theorem K_dload_1 {mi l a b w pc : Nat} {st : List JV} {M : JM} {P : JO → JM → Prop} {go : Nat → List JV → List JV → JM → Prop} {x0 : JV} {l9 : List JV} {z : UInt64} : JK mi (some (.dload 1, l, a, b, w)) pc (x0 :: .inr (.inr (.double z)) :: l9) st M P go = go (pc + 2) (x0 :: .inr (.inr (.double z)) :: l9) (.inr (.inr (.double z)) :: st) M := rfl
theorem K_astore_1 {mi l a b w pc : Nat} {st : List JV} {M : JM} {P : JO → JM → Prop} {go : Nat → List JV → List JV → JM → Prop} {x0 : JV} {l9 : List JV} {y : JV} {z : Nat} : JK mi (some (.astore 1, l, a, b, w)) pc (x0 :: y :: l9) (.inr (.inl z) :: st) M P go = if jc2 x0 = false then go (pc + 2) (x0 :: .inr (.inl z) :: l9) st M else False := Ks_z (mi := mi) (pc := pc) (P := P) (ls := x0 :: y :: l9) (i := 1) (x := x0) rfl (by simp)
theorem K_istore_1 {mi l a b w pc : Nat} {st : List JV} {M : JM} {P : JO → JM → Prop} {go : Nat → List JV → List JV → JM → Prop} {x0 : JV} {l9 : List JV} {y : JV} {z : Int} : JK mi (some (.istore 1, l, a, b, w)) pc (x0 :: y :: l9) (.inl z :: st) M P go = if jc2 x0 = false then go (pc + 2) (x0 :: .inl z :: l9) st M else False := Ks_z (mi := mi) (pc := pc) (P := P) (ls := x0 :: y :: l9) (i := 1) (x := x0) rfl (by simp)
theorem K_fstore_1 {mi l a b w pc : Nat} {st : List JV} {M : JM} {P : JO → JM → Prop} {go : Nat → List JV → List JV → JM → Prop} {x0 : JV} {l9 : List JV} {y : JV} {z : UInt32} : JK mi (some (.fstore 1, l, a, b, w)) pc (x0 :: y :: l9) (.inr (.inr (.float z)) :: st) M P go = if jc2 x0 = false then go (pc + 2) (x0 :: .inr (.inr (.float z)) :: l9) st M else False := Ks_z (mi := mi) (pc := pc) (P := P) (ls := x0 :: y :: l9) (i := 1) (x := x0) rfl (by simp)
theorem K_dstore_1 {mi l a b w pc : Nat} {st : List JV} {M : JM} {P : JO → JM → Prop} {go : Nat → List JV → List JV → JM → Prop} {x0 : JV} {l9 : List JV} {y y2 : JV} {z : UInt64} : JK mi (some (.dstore 1, l, a, b, w)) pc (x0 :: y :: y2 :: l9) (.inr (.inr (.double z)) :: st) M P go = if jc2 x0 = false then go (pc + 2) (x0 :: .inr (.inr (.double z)) :: jU :: l9) st M else False := Ks_z2 (mi := mi) (pc := pc) (P := P) (ls := x0 :: y :: y2 :: l9) (i := 1) (x := x0) rfl (by simp)
theorem K_iinc_1 {mi l a b w pc : Nat} {st : List JV} {M : JM} {P : JO → JM → Prop} {go : Nat → List JV → List JV → JM → Prop} {x0 : JV} {l9 : List JV} {n z : Int} : JK mi (some (.iinc 1 n, l, a, b, w)) pc (x0 :: .inl z :: l9) st M P go = if jc2 x0 = false then go (pc + 3) (x0 :: .inl (wr (z + n)) :: l9) st M else False := Ks_z (mi := mi) (pc := pc) (P := P) (ls := x0 :: .inl z :: l9) (i := 1) (x := x0) rfl (by simp)
theorem K_aload_n_2 {mi l a b w pc : Nat} {st : List JV} {M : JM} {P : JO → JM → Prop} {go : Nat → List JV → List JV → JM → Prop} {x0 x1 : JV} {l9 : List JV} {z : Nat} : JK mi (some (.aload_n 2, l, a, b, w)) pc (x0 :: x1 :: .inr (.inl z) :: l9) st M P go = go (pc + 1) (x0 :: x1 :: .inr (.inl z) :: l9) (.inr (.inl z) :: st) M := rfl
theorem K_iload_n_2 {mi l a b w pc : Nat} {st : List JV} {M : JM} {P : JO → JM → Prop} {go : Nat → List JV → List JV → JM → Prop} {x0 x1 : JV} {l9 : List JV} {z : Int} : JK mi (some (.iload_n 2, l, a, b, w)) pc (x0 :: x1 :: .inl z :: l9) st M P go = go (pc + 1) (x0 :: x1 :: .inl z :: l9) (.inl z :: st) M := rfl
theorem K_astore_n_2 {mi l a b w pc : Nat} {st : List JV} {M : JM} {P : JO → JM → Prop} {go : Nat → List JV → List JV → JM → Prop} {x0 x1 : JV} {l9 : List JV} {y : JV} {z : Nat} : JK mi (some (.astore_n 2, l, a, b, w)) pc (x0 :: x1 :: y :: l9) (.inr (.inl z) :: st) M P go = if jc2 x1 = false then go (pc + 1) (x0 :: x1 :: .inr (.inl z) :: l9) st M else False := Ks_z (mi := mi) (pc := pc) (P := P) (ls := x0 :: x1 :: y :: l9) (i := 2) (x := x1) rfl (by simp)
theorem K_istore_n_2 {mi l a b w pc : Nat} {st : List JV} {M : JM} {P : JO → JM → Prop} {go : Nat → List JV → List JV → JM → Prop} {x0 x1 : JV} {l9 : List JV} {y : JV} {z : Int} : JK mi (some (.istore_n 2, l, a, b, w)) pc (x0 :: x1 :: y :: l9) (.inl z :: st) M P go = if jc2 x1 = false then go (pc + 1) (x0 :: x1 :: .inl z :: l9) st M else False := Ks_z (mi := mi) (pc := pc) (P := P) (ls := x0 :: x1 :: y :: l9) (i := 2) (x := x1) rfl (by simp)
theorem K_aload_2 {mi l a b w pc : Nat} {st : List JV} {M : JM} {P : JO → JM → Prop} {go : Nat → List JV → List JV → JM → Prop} {x0 x1 : JV} {l9 : List JV} {z : Nat} : JK mi (some (.aload 2, l, a, b, w)) pc (x0 :: x1 :: .inr (.inl z) :: l9) st M P go = go (pc + 2) (x0 :: x1 :: .inr (.inl z) :: l9) (.inr (.inl z) :: st) M := rfl
theorem K_iload_2 {mi l a b w pc : Nat} {st : List JV} {M : JM} {P : JO → JM → Prop} {go : Nat → List JV → List JV → JM → Prop} {x0 x1 : JV} {l9 : List JV} {z : Int} : JK mi (some (.iload 2, l, a, b, w)) pc (x0 :: x1 :: .inl z :: l9) st M P go = go (pc + 2) (x0 :: x1 :: .inl z :: l9) (.inl z :: st) M := rfl
theorem K_fload_2 {mi l a b w pc : Nat} {st : List JV} {M : JM} {P : JO → JM → Prop} {go : Nat → List JV → List JV → JM → Prop} {x0 x1 : JV} {l9 : List JV} {z : UInt32} : JK mi (some (.fload 2, l, a, b, w)) pc (x0 :: x1 :: .inr (.inr (.float z)) :: l9) st M P go = go (pc + 2) (x0 :: x1 :: .inr (.inr (.float z)) :: l9) (.inr (.inr (.float z)) :: st) M := rfl
theorem K_dload_2 {mi l a b w pc : Nat} {st : List JV} {M : JM} {P : JO → JM → Prop} {go : Nat → List JV → List JV → JM → Prop} {x0 x1 : JV} {l9 : List JV} {z : UInt64} : JK mi (some (.dload 2, l, a, b, w)) pc (x0 :: x1 :: .inr (.inr (.double z)) :: l9) st M P go = go (pc + 2) (x0 :: x1 :: .inr (.inr (.double z)) :: l9) (.inr (.inr (.double z)) :: st) M := rfl
theorem K_astore_2 {mi l a b w pc : Nat} {st : List JV} {M : JM} {P : JO → JM → Prop} {go : Nat → List JV → List JV → JM → Prop} {x0 x1 : JV} {l9 : List JV} {y : JV} {z : Nat} : JK mi (some (.astore 2, l, a, b, w)) pc (x0 :: x1 :: y :: l9) (.inr (.inl z) :: st) M P go = if jc2 x1 = false then go (pc + 2) (x0 :: x1 :: .inr (.inl z) :: l9) st M else False := Ks_z (mi := mi) (pc := pc) (P := P) (ls := x0 :: x1 :: y :: l9) (i := 2) (x := x1) rfl (by simp)
theorem K_istore_2 {mi l a b w pc : Nat} {st : List JV} {M : JM} {P : JO → JM → Prop} {go : Nat → List JV → List JV → JM → Prop} {x0 x1 : JV} {l9 : List JV} {y : JV} {z : Int} : JK mi (some (.istore 2, l, a, b, w)) pc (x0 :: x1 :: y :: l9) (.inl z :: st) M P go = if jc2 x1 = false then go (pc + 2) (x0 :: x1 :: .inl z :: l9) st M else False := Ks_z (mi := mi) (pc := pc) (P := P) (ls := x0 :: x1 :: y :: l9) (i := 2) (x := x1) rfl (by simp)
theorem K_fstore_2 {mi l a b w pc : Nat} {st : List JV} {M : JM} {P : JO → JM → Prop} {go : Nat → List JV → List JV → JM → Prop} {x0 x1 : JV} {l9 : List JV} {y : JV} {z : UInt32} : JK mi (some (.fstore 2, l, a, b, w)) pc (x0 :: x1 :: y :: l9) (.inr (.inr (.float z)) :: st) M P go = if jc2 x1 = false then go (pc + 2) (x0 :: x1 :: .inr (.inr (.float z)) :: l9) st M else False := Ks_z (mi := mi) (pc := pc) (P := P) (ls := x0 :: x1 :: y :: l9) (i := 2) (x := x1) rfl (by simp)
theorem K_dstore_2 {mi l a b w pc : Nat} {st : List JV} {M : JM} {P : JO → JM → Prop} {go : Nat → List JV → List JV → JM → Prop} {x0 x1 : JV} {l9 : List JV} {y y2 : JV} {z : UInt64} : JK mi (some (.dstore 2, l, a, b, w)) pc (x0 :: x1 :: y :: y2 :: l9) (.inr (.inr (.double z)) :: st) M P go = if jc2 x1 = false then go (pc + 2) (x0 :: x1 :: .inr (.inr (.double z)) :: jU :: l9) st M else False := Ks_z2 (mi := mi) (pc := pc) (P := P) (ls := x0 :: x1 :: y :: y2 :: l9) (i := 2) (x := x1) rfl (by simp)
theorem K_iinc_2 {mi l a b w pc : Nat} {st : List JV} {M : JM} {P : JO → JM → Prop} {go : Nat → List JV → List JV → JM → Prop} {x0 x1 : JV} {l9 : List JV} {n z : Int} : JK mi (some (.iinc 2 n, l, a, b, w)) pc (x0 :: x1 :: .inl z :: l9) st M P go = if jc2 x1 = false then go (pc + 3) (x0 :: x1 :: .inl (wr (z + n)) :: l9) st M else False := Ks_z (mi := mi) (pc := pc) (P := P) (ls := x0 :: x1 :: .inl z :: l9) (i := 2) (x := x1) rfl (by simp)
theorem K_aload_n_3 {mi l a b w pc : Nat} {st : List JV} {M : JM} {P : JO → JM → Prop} {go : Nat → List JV → List JV → JM → Prop} {x0 x1 x2 : JV} {l9 : List JV} {z : Nat} : JK mi (some (.aload_n 3, l, a, b, w)) pc (x0 :: x1 :: x2 :: .inr (.inl z) :: l9) st M P go = go (pc + 1) (x0 :: x1 :: x2 :: .inr (.inl z) :: l9) (.inr (.inl z) :: st) M := rfl
theorem K_iload_n_3 {mi l a b w pc : Nat} {st : List JV} {M : JM} {P : JO → JM → Prop} {go : Nat → List JV → List JV → JM → Prop} {x0 x1 x2 : JV} {l9 : List JV} {z : Int} : JK mi (some (.iload_n 3, l, a, b, w)) pc (x0 :: x1 :: x2 :: .inl z :: l9) st M P go = go (pc + 1) (x0 :: x1 :: x2 :: .inl z :: l9) (.inl z :: st) M := rfl
theorem K_astore_n_3 {mi l a b w pc : Nat} {st : List JV} {M : JM} {P : JO → JM → Prop} {go : Nat → List JV → List JV → JM → Prop} {x0 x1 x2 : JV} {l9 : List JV} {y : JV} {z : Nat} : JK mi (some (.astore_n 3, l, a, b, w)) pc (x0 :: x1 :: x2 :: y :: l9) (.inr (.inl z) :: st) M P go = if jc2 x2 = false then go (pc + 1) (x0 :: x1 :: x2 :: .inr (.inl z) :: l9) st M else False := Ks_z (mi := mi) (pc := pc) (P := P) (ls := x0 :: x1 :: x2 :: y :: l9) (i := 3) (x := x2) rfl (by simp)
theorem K_istore_n_3 {mi l a b w pc : Nat} {st : List JV} {M : JM} {P : JO → JM → Prop} {go : Nat → List JV → List JV → JM → Prop} {x0 x1 x2 : JV} {l9 : List JV} {y : JV} {z : Int} : JK mi (some (.istore_n 3, l, a, b, w)) pc (x0 :: x1 :: x2 :: y :: l9) (.inl z :: st) M P go = if jc2 x2 = false then go (pc + 1) (x0 :: x1 :: x2 :: .inl z :: l9) st M else False := Ks_z (mi := mi) (pc := pc) (P := P) (ls := x0 :: x1 :: x2 :: y :: l9) (i := 3) (x := x2) rfl (by simp)
theorem K_aload_3 {mi l a b w pc : Nat} {st : List JV} {M : JM} {P : JO → JM → Prop} {go : Nat → List JV → List JV → JM → Prop} {x0 x1 x2 : JV} {l9 : List JV} {z : Nat} : JK mi (some (.aload 3, l, a, b, w)) pc (x0 :: x1 :: x2 :: .inr (.inl z) :: l9) st M P go = go (pc + 2) (x0 :: x1 :: x2 :: .inr (.inl z) :: l9) (.inr (.inl z) :: st) M := rfl
theorem K_iload_3 {mi l a b w pc : Nat} {st : List JV} {M : JM} {P : JO → JM → Prop} {go : Nat → List JV → List JV → JM → Prop} {x0 x1 x2 : JV} {l9 : List JV} {z : Int} : JK mi (some (.iload 3, l, a, b, w)) pc (x0 :: x1 :: x2 :: .inl z :: l9) st M P go = go (pc + 2) (x0 :: x1 :: x2 :: .inl z :: l9) (.inl z :: st) M := rfl
theorem K_fload_3 {mi l a b w pc : Nat} {st : List JV} {M : JM} {P : JO → JM → Prop} {go : Nat → List JV → List JV → JM → Prop} {x0 x1 x2 : JV} {l9 : List JV} {z : UInt32} : JK mi (some (.fload 3, l, a, b, w)) pc (x0 :: x1 :: x2 :: .inr (.inr (.float z)) :: l9) st M P go = go (pc + 2) (x0 :: x1 :: x2 :: .inr (.inr (.float z)) :: l9) (.inr (.inr (.float z)) :: st) M := rfl
theorem K_dload_3 {mi l a b w pc : Nat} {st : List JV} {M : JM} {P : JO → JM → Prop} {go : Nat → List JV → List JV → JM → Prop} {x0 x1 x2 : JV} {l9 : List JV} {z : UInt64} : JK mi (some (.dload 3, l, a, b, w)) pc (x0 :: x1 :: x2 :: .inr (.inr (.double z)) :: l9) st M P go = go (pc + 2) (x0 :: x1 :: x2 :: .inr (.inr (.double z)) :: l9) (.inr (.inr (.double z)) :: st) M := rfl
theorem K_astore_3 {mi l a b w pc : Nat} {st : List JV} {M : JM} {P : JO → JM → Prop} {go : Nat → List JV → List JV → JM → Prop} {x0 x1 x2 : JV} {l9 : List JV} {y : JV} {z : Nat} : JK mi (some (.astore 3, l, a, b, w)) pc (x0 :: x1 :: x2 :: y :: l9) (.inr (.inl z) :: st) M P go = if jc2 x2 = false then go (pc + 2) (x0 :: x1 :: x2 :: .inr (.inl z) :: l9) st M else False := Ks_z (mi := mi) (pc := pc) (P := P) (ls := x0 :: x1 :: x2 :: y :: l9) (i := 3) (x := x2) rfl (by simp)
theorem K_istore_3 {mi l a b w pc : Nat} {st : List JV} {M : JM} {P : JO → JM → Prop} {go : Nat → List JV → List JV → JM → Prop} {x0 x1 x2 : JV} {l9 : List JV} {y : JV} {z : Int} : JK mi (some (.istore 3, l, a, b, w)) pc (x0 :: x1 :: x2 :: y :: l9) (.inl z :: st) M P go = if jc2 x2 = false then go (pc + 2) (x0 :: x1 :: x2 :: .inl z :: l9) st M else False := Ks_z (mi := mi) (pc := pc) (P := P) (ls := x0 :: x1 :: x2 :: y :: l9) (i := 3) (x := x2) rfl (by simp)
theorem K_fstore_3 {mi l a b w pc : Nat} {st : List JV} {M : JM} {P : JO → JM → Prop} {go : Nat → List JV → List JV → JM → Prop} {x0 x1 x2 : JV} {l9 : List JV} {y : JV} {z : UInt32} : JK mi (some (.fstore 3, l, a, b, w)) pc (x0 :: x1 :: x2 :: y :: l9) (.inr (.inr (.float z)) :: st) M P go = if jc2 x2 = false then go (pc + 2) (x0 :: x1 :: x2 :: .inr (.inr (.float z)) :: l9) st M else False := Ks_z (mi := mi) (pc := pc) (P := P) (ls := x0 :: x1 :: x2 :: y :: l9) (i := 3) (x := x2) rfl (by simp)
theorem K_dstore_3 {mi l a b w pc : Nat} {st : List JV} {M : JM} {P : JO → JM → Prop} {go : Nat → List JV → List JV → JM → Prop} {x0 x1 x2 : JV} {l9 : List JV} {y y2 : JV} {z : UInt64} : JK mi (some (.dstore 3, l, a, b, w)) pc (x0 :: x1 :: x2 :: y :: y2 :: l9) (.inr (.inr (.double z)) :: st) M P go = if jc2 x2 = false then go (pc + 2) (x0 :: x1 :: x2 :: .inr (.inr (.double z)) :: jU :: l9) st M else False := Ks_z2 (mi := mi) (pc := pc) (P := P) (ls := x0 :: x1 :: x2 :: y :: y2 :: l9) (i := 3) (x := x2) rfl (by simp)
theorem K_iinc_3 {mi l a b w pc : Nat} {st : List JV} {M : JM} {P : JO → JM → Prop} {go : Nat → List JV → List JV → JM → Prop} {x0 x1 x2 : JV} {l9 : List JV} {n z : Int} : JK mi (some (.iinc 3 n, l, a, b, w)) pc (x0 :: x1 :: x2 :: .inl z :: l9) st M P go = if jc2 x2 = false then go (pc + 3) (x0 :: x1 :: x2 :: .inl (wr (z + n)) :: l9) st M else False := Ks_z (mi := mi) (pc := pc) (P := P) (ls := x0 :: x1 :: x2 :: .inl z :: l9) (i := 3) (x := x2) rfl (by simp)
theorem K_aload_4 {mi l a b w pc : Nat} {st : List JV} {M : JM} {P : JO → JM → Prop} {go : Nat → List JV → List JV → JM → Prop} {x0 x1 x2 x3 : JV} {l9 : List JV} {z : Nat} : JK mi (some (.aload 4, l, a, b, w)) pc (x0 :: x1 :: x2 :: x3 :: .inr (.inl z) :: l9) st M P go = go (pc + 2) (x0 :: x1 :: x2 :: x3 :: .inr (.inl z) :: l9) (.inr (.inl z) :: st) M := rfl
theorem K_iload_4 {mi l a b w pc : Nat} {st : List JV} {M : JM} {P : JO → JM → Prop} {go : Nat → List JV → List JV → JM → Prop} {x0 x1 x2 x3 : JV} {l9 : List JV} {z : Int} : JK mi (some (.iload 4, l, a, b, w)) pc (x0 :: x1 :: x2 :: x3 :: .inl z :: l9) st M P go = go (pc + 2) (x0 :: x1 :: x2 :: x3 :: .inl z :: l9) (.inl z :: st) M := rfl
theorem K_fload_4 {mi l a b w pc : Nat} {st : List JV} {M : JM} {P : JO → JM → Prop} {go : Nat → List JV → List JV → JM → Prop} {x0 x1 x2 x3 : JV} {l9 : List JV} {z : UInt32} : JK mi (some (.fload 4, l, a, b, w)) pc (x0 :: x1 :: x2 :: x3 :: .inr (.inr (.float z)) :: l9) st M P go = go (pc + 2) (x0 :: x1 :: x2 :: x3 :: .inr (.inr (.float z)) :: l9) (.inr (.inr (.float z)) :: st) M := rfl
theorem K_dload_4 {mi l a b w pc : Nat} {st : List JV} {M : JM} {P : JO → JM → Prop} {go : Nat → List JV → List JV → JM → Prop} {x0 x1 x2 x3 : JV} {l9 : List JV} {z : UInt64} : JK mi (some (.dload 4, l, a, b, w)) pc (x0 :: x1 :: x2 :: x3 :: .inr (.inr (.double z)) :: l9) st M P go = go (pc + 2) (x0 :: x1 :: x2 :: x3 :: .inr (.inr (.double z)) :: l9) (.inr (.inr (.double z)) :: st) M := rfl
theorem K_astore_4 {mi l a b w pc : Nat} {st : List JV} {M : JM} {P : JO → JM → Prop} {go : Nat → List JV → List JV → JM → Prop} {x0 x1 x2 x3 : JV} {l9 : List JV} {y : JV} {z : Nat} : JK mi (some (.astore 4, l, a, b, w)) pc (x0 :: x1 :: x2 :: x3 :: y :: l9) (.inr (.inl z) :: st) M P go = if jc2 x3 = false then go (pc + 2) (x0 :: x1 :: x2 :: x3 :: .inr (.inl z) :: l9) st M else False := Ks_z (mi := mi) (pc := pc) (P := P) (ls := x0 :: x1 :: x2 :: x3 :: y :: l9) (i := 4) (x := x3) rfl (by simp)
theorem K_istore_4 {mi l a b w pc : Nat} {st : List JV} {M : JM} {P : JO → JM → Prop} {go : Nat → List JV → List JV → JM → Prop} {x0 x1 x2 x3 : JV} {l9 : List JV} {y : JV} {z : Int} : JK mi (some (.istore 4, l, a, b, w)) pc (x0 :: x1 :: x2 :: x3 :: y :: l9) (.inl z :: st) M P go = if jc2 x3 = false then go (pc + 2) (x0 :: x1 :: x2 :: x3 :: .inl z :: l9) st M else False := Ks_z (mi := mi) (pc := pc) (P := P) (ls := x0 :: x1 :: x2 :: x3 :: y :: l9) (i := 4) (x := x3) rfl (by simp)
theorem K_fstore_4 {mi l a b w pc : Nat} {st : List JV} {M : JM} {P : JO → JM → Prop} {go : Nat → List JV → List JV → JM → Prop} {x0 x1 x2 x3 : JV} {l9 : List JV} {y : JV} {z : UInt32} : JK mi (some (.fstore 4, l, a, b, w)) pc (x0 :: x1 :: x2 :: x3 :: y :: l9) (.inr (.inr (.float z)) :: st) M P go = if jc2 x3 = false then go (pc + 2) (x0 :: x1 :: x2 :: x3 :: .inr (.inr (.float z)) :: l9) st M else False := Ks_z (mi := mi) (pc := pc) (P := P) (ls := x0 :: x1 :: x2 :: x3 :: y :: l9) (i := 4) (x := x3) rfl (by simp)
theorem K_dstore_4 {mi l a b w pc : Nat} {st : List JV} {M : JM} {P : JO → JM → Prop} {go : Nat → List JV → List JV → JM → Prop} {x0 x1 x2 x3 : JV} {l9 : List JV} {y y2 : JV} {z : UInt64} : JK mi (some (.dstore 4, l, a, b, w)) pc (x0 :: x1 :: x2 :: x3 :: y :: y2 :: l9) (.inr (.inr (.double z)) :: st) M P go = if jc2 x3 = false then go (pc + 2) (x0 :: x1 :: x2 :: x3 :: .inr (.inr (.double z)) :: jU :: l9) st M else False := Ks_z2 (mi := mi) (pc := pc) (P := P) (ls := x0 :: x1 :: x2 :: x3 :: y :: y2 :: l9) (i := 4) (x := x3) rfl (by simp)
theorem K_iinc_4 {mi l a b w pc : Nat} {st : List JV} {M : JM} {P : JO → JM → Prop} {go : Nat → List JV → List JV → JM → Prop} {x0 x1 x2 x3 : JV} {l9 : List JV} {n z : Int} : JK mi (some (.iinc 4 n, l, a, b, w)) pc (x0 :: x1 :: x2 :: x3 :: .inl z :: l9) st M P go = if jc2 x3 = false then go (pc + 3) (x0 :: x1 :: x2 :: x3 :: .inl (wr (z + n)) :: l9) st M else False := Ks_z (mi := mi) (pc := pc) (P := P) (ls := x0 :: x1 :: x2 :: x3 :: .inl z :: l9) (i := 4) (x := x3) rfl (by simp)
theorem K_aload_5 {mi l a b w pc : Nat} {st : List JV} {M : JM} {P : JO → JM → Prop} {go : Nat → List JV → List JV → JM → Prop} {x0 x1 x2 x3 x4 : JV} {l9 : List JV} {z : Nat} : JK mi (some (.aload 5, l, a, b, w)) pc (x0 :: x1 :: x2 :: x3 :: x4 :: .inr (.inl z) :: l9) st M P go = go (pc + 2) (x0 :: x1 :: x2 :: x3 :: x4 :: .inr (.inl z) :: l9) (.inr (.inl z) :: st) M := rfl
theorem K_iload_5 {mi l a b w pc : Nat} {st : List JV} {M : JM} {P : JO → JM → Prop} {go : Nat → List JV → List JV → JM → Prop} {x0 x1 x2 x3 x4 : JV} {l9 : List JV} {z : Int} : JK mi (some (.iload 5, l, a, b, w)) pc (x0 :: x1 :: x2 :: x3 :: x4 :: .inl z :: l9) st M P go = go (pc + 2) (x0 :: x1 :: x2 :: x3 :: x4 :: .inl z :: l9) (.inl z :: st) M := rfl
theorem K_fload_5 {mi l a b w pc : Nat} {st : List JV} {M : JM} {P : JO → JM → Prop} {go : Nat → List JV → List JV → JM → Prop} {x0 x1 x2 x3 x4 : JV} {l9 : List JV} {z : UInt32} : JK mi (some (.fload 5, l, a, b, w)) pc (x0 :: x1 :: x2 :: x3 :: x4 :: .inr (.inr (.float z)) :: l9) st M P go = go (pc + 2) (x0 :: x1 :: x2 :: x3 :: x4 :: .inr (.inr (.float z)) :: l9) (.inr (.inr (.float z)) :: st) M := rfl
theorem K_dload_5 {mi l a b w pc : Nat} {st : List JV} {M : JM} {P : JO → JM → Prop} {go : Nat → List JV → List JV → JM → Prop} {x0 x1 x2 x3 x4 : JV} {l9 : List JV} {z : UInt64} : JK mi (some (.dload 5, l, a, b, w)) pc (x0 :: x1 :: x2 :: x3 :: x4 :: .inr (.inr (.double z)) :: l9) st M P go = go (pc + 2) (x0 :: x1 :: x2 :: x3 :: x4 :: .inr (.inr (.double z)) :: l9) (.inr (.inr (.double z)) :: st) M := rfl
theorem K_astore_5 {mi l a b w pc : Nat} {st : List JV} {M : JM} {P : JO → JM → Prop} {go : Nat → List JV → List JV → JM → Prop} {x0 x1 x2 x3 x4 : JV} {l9 : List JV} {y : JV} {z : Nat} : JK mi (some (.astore 5, l, a, b, w)) pc (x0 :: x1 :: x2 :: x3 :: x4 :: y :: l9) (.inr (.inl z) :: st) M P go = if jc2 x4 = false then go (pc + 2) (x0 :: x1 :: x2 :: x3 :: x4 :: .inr (.inl z) :: l9) st M else False := Ks_z (mi := mi) (pc := pc) (P := P) (ls := x0 :: x1 :: x2 :: x3 :: x4 :: y :: l9) (i := 5) (x := x4) rfl (by simp)
theorem K_istore_5 {mi l a b w pc : Nat} {st : List JV} {M : JM} {P : JO → JM → Prop} {go : Nat → List JV → List JV → JM → Prop} {x0 x1 x2 x3 x4 : JV} {l9 : List JV} {y : JV} {z : Int} : JK mi (some (.istore 5, l, a, b, w)) pc (x0 :: x1 :: x2 :: x3 :: x4 :: y :: l9) (.inl z :: st) M P go = if jc2 x4 = false then go (pc + 2) (x0 :: x1 :: x2 :: x3 :: x4 :: .inl z :: l9) st M else False := Ks_z (mi := mi) (pc := pc) (P := P) (ls := x0 :: x1 :: x2 :: x3 :: x4 :: y :: l9) (i := 5) (x := x4) rfl (by simp)
theorem K_fstore_5 {mi l a b w pc : Nat} {st : List JV} {M : JM} {P : JO → JM → Prop} {go : Nat → List JV → List JV → JM → Prop} {x0 x1 x2 x3 x4 : JV} {l9 : List JV} {y : JV} {z : UInt32} : JK mi (some (.fstore 5, l, a, b, w)) pc (x0 :: x1 :: x2 :: x3 :: x4 :: y :: l9) (.inr (.inr (.float z)) :: st) M P go = if jc2 x4 = false then go (pc + 2) (x0 :: x1 :: x2 :: x3 :: x4 :: .inr (.inr (.float z)) :: l9) st M else False := Ks_z (mi := mi) (pc := pc) (P := P) (ls := x0 :: x1 :: x2 :: x3 :: x4 :: y :: l9) (i := 5) (x := x4) rfl (by simp)
theorem K_dstore_5 {mi l a b w pc : Nat} {st : List JV} {M : JM} {P : JO → JM → Prop} {go : Nat → List JV → List JV → JM → Prop} {x0 x1 x2 x3 x4 : JV} {l9 : List JV} {y y2 : JV} {z : UInt64} : JK mi (some (.dstore 5, l, a, b, w)) pc (x0 :: x1 :: x2 :: x3 :: x4 :: y :: y2 :: l9) (.inr (.inr (.double z)) :: st) M P go = if jc2 x4 = false then go (pc + 2) (x0 :: x1 :: x2 :: x3 :: x4 :: .inr (.inr (.double z)) :: jU :: l9) st M else False := Ks_z2 (mi := mi) (pc := pc) (P := P) (ls := x0 :: x1 :: x2 :: x3 :: x4 :: y :: y2 :: l9) (i := 5) (x := x4) rfl (by simp)
theorem K_iinc_5 {mi l a b w pc : Nat} {st : List JV} {M : JM} {P : JO → JM → Prop} {go : Nat → List JV → List JV → JM → Prop} {x0 x1 x2 x3 x4 : JV} {l9 : List JV} {n z : Int} : JK mi (some (.iinc 5 n, l, a, b, w)) pc (x0 :: x1 :: x2 :: x3 :: x4 :: .inl z :: l9) st M P go = if jc2 x4 = false then go (pc + 3) (x0 :: x1 :: x2 :: x3 :: x4 :: .inl (wr (z + n)) :: l9) st M else False := Ks_z (mi := mi) (pc := pc) (P := P) (ls := x0 :: x1 :: x2 :: x3 :: x4 :: .inl z :: l9) (i := 5) (x := x4) rfl (by simp)
theorem K_aload_6 {mi l a b w pc : Nat} {st : List JV} {M : JM} {P : JO → JM → Prop} {go : Nat → List JV → List JV → JM → Prop} {x0 x1 x2 x3 x4 x5 : JV} {l9 : List JV} {z : Nat} : JK mi (some (.aload 6, l, a, b, w)) pc (x0 :: x1 :: x2 :: x3 :: x4 :: x5 :: .inr (.inl z) :: l9) st M P go = go (pc + 2) (x0 :: x1 :: x2 :: x3 :: x4 :: x5 :: .inr (.inl z) :: l9) (.inr (.inl z) :: st) M := rfl
theorem K_iload_6 {mi l a b w pc : Nat} {st : List JV} {M : JM} {P : JO → JM → Prop} {go : Nat → List JV → List JV → JM → Prop} {x0 x1 x2 x3 x4 x5 : JV} {l9 : List JV} {z : Int} : JK mi (some (.iload 6, l, a, b, w)) pc (x0 :: x1 :: x2 :: x3 :: x4 :: x5 :: .inl z :: l9) st M P go = go (pc + 2) (x0 :: x1 :: x2 :: x3 :: x4 :: x5 :: .inl z :: l9) (.inl z :: st) M := rfl
theorem K_fload_6 {mi l a b w pc : Nat} {st : List JV} {M : JM} {P : JO → JM → Prop} {go : Nat → List JV → List JV → JM → Prop} {x0 x1 x2 x3 x4 x5 : JV} {l9 : List JV} {z : UInt32} : JK mi (some (.fload 6, l, a, b, w)) pc (x0 :: x1 :: x2 :: x3 :: x4 :: x5 :: .inr (.inr (.float z)) :: l9) st M P go = go (pc + 2) (x0 :: x1 :: x2 :: x3 :: x4 :: x5 :: .inr (.inr (.float z)) :: l9) (.inr (.inr (.float z)) :: st) M := rfl
theorem K_dload_6 {mi l a b w pc : Nat} {st : List JV} {M : JM} {P : JO → JM → Prop} {go : Nat → List JV → List JV → JM → Prop} {x0 x1 x2 x3 x4 x5 : JV} {l9 : List JV} {z : UInt64} : JK mi (some (.dload 6, l, a, b, w)) pc (x0 :: x1 :: x2 :: x3 :: x4 :: x5 :: .inr (.inr (.double z)) :: l9) st M P go = go (pc + 2) (x0 :: x1 :: x2 :: x3 :: x4 :: x5 :: .inr (.inr (.double z)) :: l9) (.inr (.inr (.double z)) :: st) M := rfl
theorem K_astore_6 {mi l a b w pc : Nat} {st : List JV} {M : JM} {P : JO → JM → Prop} {go : Nat → List JV → List JV → JM → Prop} {x0 x1 x2 x3 x4 x5 : JV} {l9 : List JV} {y : JV} {z : Nat} : JK mi (some (.astore 6, l, a, b, w)) pc (x0 :: x1 :: x2 :: x3 :: x4 :: x5 :: y :: l9) (.inr (.inl z) :: st) M P go = if jc2 x5 = false then go (pc + 2) (x0 :: x1 :: x2 :: x3 :: x4 :: x5 :: .inr (.inl z) :: l9) st M else False := Ks_z (mi := mi) (pc := pc) (P := P) (ls := x0 :: x1 :: x2 :: x3 :: x4 :: x5 :: y :: l9) (i := 6) (x := x5) rfl (by simp)
theorem K_istore_6 {mi l a b w pc : Nat} {st : List JV} {M : JM} {P : JO → JM → Prop} {go : Nat → List JV → List JV → JM → Prop} {x0 x1 x2 x3 x4 x5 : JV} {l9 : List JV} {y : JV} {z : Int} : JK mi (some (.istore 6, l, a, b, w)) pc (x0 :: x1 :: x2 :: x3 :: x4 :: x5 :: y :: l9) (.inl z :: st) M P go = if jc2 x5 = false then go (pc + 2) (x0 :: x1 :: x2 :: x3 :: x4 :: x5 :: .inl z :: l9) st M else False := Ks_z (mi := mi) (pc := pc) (P := P) (ls := x0 :: x1 :: x2 :: x3 :: x4 :: x5 :: y :: l9) (i := 6) (x := x5) rfl (by simp)
theorem K_fstore_6 {mi l a b w pc : Nat} {st : List JV} {M : JM} {P : JO → JM → Prop} {go : Nat → List JV → List JV → JM → Prop} {x0 x1 x2 x3 x4 x5 : JV} {l9 : List JV} {y : JV} {z : UInt32} : JK mi (some (.fstore 6, l, a, b, w)) pc (x0 :: x1 :: x2 :: x3 :: x4 :: x5 :: y :: l9) (.inr (.inr (.float z)) :: st) M P go = if jc2 x5 = false then go (pc + 2) (x0 :: x1 :: x2 :: x3 :: x4 :: x5 :: .inr (.inr (.float z)) :: l9) st M else False := Ks_z (mi := mi) (pc := pc) (P := P) (ls := x0 :: x1 :: x2 :: x3 :: x4 :: x5 :: y :: l9) (i := 6) (x := x5) rfl (by simp)
theorem K_dstore_6 {mi l a b w pc : Nat} {st : List JV} {M : JM} {P : JO → JM → Prop} {go : Nat → List JV → List JV → JM → Prop} {x0 x1 x2 x3 x4 x5 : JV} {l9 : List JV} {y y2 : JV} {z : UInt64} : JK mi (some (.dstore 6, l, a, b, w)) pc (x0 :: x1 :: x2 :: x3 :: x4 :: x5 :: y :: y2 :: l9) (.inr (.inr (.double z)) :: st) M P go = if jc2 x5 = false then go (pc + 2) (x0 :: x1 :: x2 :: x3 :: x4 :: x5 :: .inr (.inr (.double z)) :: jU :: l9) st M else False := Ks_z2 (mi := mi) (pc := pc) (P := P) (ls := x0 :: x1 :: x2 :: x3 :: x4 :: x5 :: y :: y2 :: l9) (i := 6) (x := x5) rfl (by simp)
theorem K_iinc_6 {mi l a b w pc : Nat} {st : List JV} {M : JM} {P : JO → JM → Prop} {go : Nat → List JV → List JV → JM → Prop} {x0 x1 x2 x3 x4 x5 : JV} {l9 : List JV} {n z : Int} : JK mi (some (.iinc 6 n, l, a, b, w)) pc (x0 :: x1 :: x2 :: x3 :: x4 :: x5 :: .inl z :: l9) st M P go = if jc2 x5 = false then go (pc + 3) (x0 :: x1 :: x2 :: x3 :: x4 :: x5 :: .inl (wr (z + n)) :: l9) st M else False := Ks_z (mi := mi) (pc := pc) (P := P) (ls := x0 :: x1 :: x2 :: x3 :: x4 :: x5 :: .inl z :: l9) (i := 6) (x := x5) rfl (by simp)
theorem K_aload_7 {mi l a b w pc : Nat} {st : List JV} {M : JM} {P : JO → JM → Prop} {go : Nat → List JV → List JV → JM → Prop} {x0 x1 x2 x3 x4 x5 x6 : JV} {l9 : List JV} {z : Nat} : JK mi (some (.aload 7, l, a, b, w)) pc (x0 :: x1 :: x2 :: x3 :: x4 :: x5 :: x6 :: .inr (.inl z) :: l9) st M P go = go (pc + 2) (x0 :: x1 :: x2 :: x3 :: x4 :: x5 :: x6 :: .inr (.inl z) :: l9) (.inr (.inl z) :: st) M := rfl
theorem K_iload_7 {mi l a b w pc : Nat} {st : List JV} {M : JM} {P : JO → JM → Prop} {go : Nat → List JV → List JV → JM → Prop} {x0 x1 x2 x3 x4 x5 x6 : JV} {l9 : List JV} {z : Int} : JK mi (some (.iload 7, l, a, b, w)) pc (x0 :: x1 :: x2 :: x3 :: x4 :: x5 :: x6 :: .inl z :: l9) st M P go = go (pc + 2) (x0 :: x1 :: x2 :: x3 :: x4 :: x5 :: x6 :: .inl z :: l9) (.inl z :: st) M := rfl
theorem K_fload_7 {mi l a b w pc : Nat} {st : List JV} {M : JM} {P : JO → JM → Prop} {go : Nat → List JV → List JV → JM → Prop} {x0 x1 x2 x3 x4 x5 x6 : JV} {l9 : List JV} {z : UInt32} : JK mi (some (.fload 7, l, a, b, w)) pc (x0 :: x1 :: x2 :: x3 :: x4 :: x5 :: x6 :: .inr (.inr (.float z)) :: l9) st M P go = go (pc + 2) (x0 :: x1 :: x2 :: x3 :: x4 :: x5 :: x6 :: .inr (.inr (.float z)) :: l9) (.inr (.inr (.float z)) :: st) M := rfl
theorem K_dload_7 {mi l a b w pc : Nat} {st : List JV} {M : JM} {P : JO → JM → Prop} {go : Nat → List JV → List JV → JM → Prop} {x0 x1 x2 x3 x4 x5 x6 : JV} {l9 : List JV} {z : UInt64} : JK mi (some (.dload 7, l, a, b, w)) pc (x0 :: x1 :: x2 :: x3 :: x4 :: x5 :: x6 :: .inr (.inr (.double z)) :: l9) st M P go = go (pc + 2) (x0 :: x1 :: x2 :: x3 :: x4 :: x5 :: x6 :: .inr (.inr (.double z)) :: l9) (.inr (.inr (.double z)) :: st) M := rfl
theorem K_astore_7 {mi l a b w pc : Nat} {st : List JV} {M : JM} {P : JO → JM → Prop} {go : Nat → List JV → List JV → JM → Prop} {x0 x1 x2 x3 x4 x5 x6 : JV} {l9 : List JV} {y : JV} {z : Nat} : JK mi (some (.astore 7, l, a, b, w)) pc (x0 :: x1 :: x2 :: x3 :: x4 :: x5 :: x6 :: y :: l9) (.inr (.inl z) :: st) M P go = if jc2 x6 = false then go (pc + 2) (x0 :: x1 :: x2 :: x3 :: x4 :: x5 :: x6 :: .inr (.inl z) :: l9) st M else False := Ks_z (mi := mi) (pc := pc) (P := P) (ls := x0 :: x1 :: x2 :: x3 :: x4 :: x5 :: x6 :: y :: l9) (i := 7) (x := x6) rfl (by simp)
theorem K_istore_7 {mi l a b w pc : Nat} {st : List JV} {M : JM} {P : JO → JM → Prop} {go : Nat → List JV → List JV → JM → Prop} {x0 x1 x2 x3 x4 x5 x6 : JV} {l9 : List JV} {y : JV} {z : Int} : JK mi (some (.istore 7, l, a, b, w)) pc (x0 :: x1 :: x2 :: x3 :: x4 :: x5 :: x6 :: y :: l9) (.inl z :: st) M P go = if jc2 x6 = false then go (pc + 2) (x0 :: x1 :: x2 :: x3 :: x4 :: x5 :: x6 :: .inl z :: l9) st M else False := Ks_z (mi := mi) (pc := pc) (P := P) (ls := x0 :: x1 :: x2 :: x3 :: x4 :: x5 :: x6 :: y :: l9) (i := 7) (x := x6) rfl (by simp)
theorem K_fstore_7 {mi l a b w pc : Nat} {st : List JV} {M : JM} {P : JO → JM → Prop} {go : Nat → List JV → List JV → JM → Prop} {x0 x1 x2 x3 x4 x5 x6 : JV} {l9 : List JV} {y : JV} {z : UInt32} : JK mi (some (.fstore 7, l, a, b, w)) pc (x0 :: x1 :: x2 :: x3 :: x4 :: x5 :: x6 :: y :: l9) (.inr (.inr (.float z)) :: st) M P go = if jc2 x6 = false then go (pc + 2) (x0 :: x1 :: x2 :: x3 :: x4 :: x5 :: x6 :: .inr (.inr (.float z)) :: l9) st M else False := Ks_z (mi := mi) (pc := pc) (P := P) (ls := x0 :: x1 :: x2 :: x3 :: x4 :: x5 :: x6 :: y :: l9) (i := 7) (x := x6) rfl (by simp)
theorem K_dstore_7 {mi l a b w pc : Nat} {st : List JV} {M : JM} {P : JO → JM → Prop} {go : Nat → List JV → List JV → JM → Prop} {x0 x1 x2 x3 x4 x5 x6 : JV} {l9 : List JV} {y y2 : JV} {z : UInt64} : JK mi (some (.dstore 7, l, a, b, w)) pc (x0 :: x1 :: x2 :: x3 :: x4 :: x5 :: x6 :: y :: y2 :: l9) (.inr (.inr (.double z)) :: st) M P go = if jc2 x6 = false then go (pc + 2) (x0 :: x1 :: x2 :: x3 :: x4 :: x5 :: x6 :: .inr (.inr (.double z)) :: jU :: l9) st M else False := Ks_z2 (mi := mi) (pc := pc) (P := P) (ls := x0 :: x1 :: x2 :: x3 :: x4 :: x5 :: x6 :: y :: y2 :: l9) (i := 7) (x := x6) rfl (by simp)
theorem K_iinc_7 {mi l a b w pc : Nat} {st : List JV} {M : JM} {P : JO → JM → Prop} {go : Nat → List JV → List JV → JM → Prop} {x0 x1 x2 x3 x4 x5 x6 : JV} {l9 : List JV} {n z : Int} : JK mi (some (.iinc 7 n, l, a, b, w)) pc (x0 :: x1 :: x2 :: x3 :: x4 :: x5 :: x6 :: .inl z :: l9) st M P go = if jc2 x6 = false then go (pc + 3) (x0 :: x1 :: x2 :: x3 :: x4 :: x5 :: x6 :: .inl (wr (z + n)) :: l9) st M else False := Ks_z (mi := mi) (pc := pc) (P := P) (ls := x0 :: x1 :: x2 :: x3 :: x4 :: x5 :: x6 :: .inl z :: l9) (i := 7) (x := x6) rfl (by simp)
theorem K_aload_8 {mi l a b w pc : Nat} {st : List JV} {M : JM} {P : JO → JM → Prop} {go : Nat → List JV → List JV → JM → Prop} {x0 x1 x2 x3 x4 x5 x6 x7 : JV} {l9 : List JV} {z : Nat} : JK mi (some (.aload 8, l, a, b, w)) pc (x0 :: x1 :: x2 :: x3 :: x4 :: x5 :: x6 :: x7 :: .inr (.inl z) :: l9) st M P go = go (pc + 2) (x0 :: x1 :: x2 :: x3 :: x4 :: x5 :: x6 :: x7 :: .inr (.inl z) :: l9) (.inr (.inl z) :: st) M := rfl
theorem K_iload_8 {mi l a b w pc : Nat} {st : List JV} {M : JM} {P : JO → JM → Prop} {go : Nat → List JV → List JV → JM → Prop} {x0 x1 x2 x3 x4 x5 x6 x7 : JV} {l9 : List JV} {z : Int} : JK mi (some (.iload 8, l, a, b, w)) pc (x0 :: x1 :: x2 :: x3 :: x4 :: x5 :: x6 :: x7 :: .inl z :: l9) st M P go = go (pc + 2) (x0 :: x1 :: x2 :: x3 :: x4 :: x5 :: x6 :: x7 :: .inl z :: l9) (.inl z :: st) M := rfl
theorem K_fload_8 {mi l a b w pc : Nat} {st : List JV} {M : JM} {P : JO → JM → Prop} {go : Nat → List JV → List JV → JM → Prop} {x0 x1 x2 x3 x4 x5 x6 x7 : JV} {l9 : List JV} {z : UInt32} : JK mi (some (.fload 8, l, a, b, w)) pc (x0 :: x1 :: x2 :: x3 :: x4 :: x5 :: x6 :: x7 :: .inr (.inr (.float z)) :: l9) st M P go = go (pc + 2) (x0 :: x1 :: x2 :: x3 :: x4 :: x5 :: x6 :: x7 :: .inr (.inr (.float z)) :: l9) (.inr (.inr (.float z)) :: st) M := rfl
theorem K_dload_8 {mi l a b w pc : Nat} {st : List JV} {M : JM} {P : JO → JM → Prop} {go : Nat → List JV → List JV → JM → Prop} {x0 x1 x2 x3 x4 x5 x6 x7 : JV} {l9 : List JV} {z : UInt64} : JK mi (some (.dload 8, l, a, b, w)) pc (x0 :: x1 :: x2 :: x3 :: x4 :: x5 :: x6 :: x7 :: .inr (.inr (.double z)) :: l9) st M P go = go (pc + 2) (x0 :: x1 :: x2 :: x3 :: x4 :: x5 :: x6 :: x7 :: .inr (.inr (.double z)) :: l9) (.inr (.inr (.double z)) :: st) M := rfl
theorem K_astore_8 {mi l a b w pc : Nat} {st : List JV} {M : JM} {P : JO → JM → Prop} {go : Nat → List JV → List JV → JM → Prop} {x0 x1 x2 x3 x4 x5 x6 x7 : JV} {l9 : List JV} {y : JV} {z : Nat} : JK mi (some (.astore 8, l, a, b, w)) pc (x0 :: x1 :: x2 :: x3 :: x4 :: x5 :: x6 :: x7 :: y :: l9) (.inr (.inl z) :: st) M P go = if jc2 x7 = false then go (pc + 2) (x0 :: x1 :: x2 :: x3 :: x4 :: x5 :: x6 :: x7 :: .inr (.inl z) :: l9) st M else False := Ks_z (mi := mi) (pc := pc) (P := P) (ls := x0 :: x1 :: x2 :: x3 :: x4 :: x5 :: x6 :: x7 :: y :: l9) (i := 8) (x := x7) rfl (by simp)
theorem K_istore_8 {mi l a b w pc : Nat} {st : List JV} {M : JM} {P : JO → JM → Prop} {go : Nat → List JV → List JV → JM → Prop} {x0 x1 x2 x3 x4 x5 x6 x7 : JV} {l9 : List JV} {y : JV} {z : Int} : JK mi (some (.istore 8, l, a, b, w)) pc (x0 :: x1 :: x2 :: x3 :: x4 :: x5 :: x6 :: x7 :: y :: l9) (.inl z :: st) M P go = if jc2 x7 = false then go (pc + 2) (x0 :: x1 :: x2 :: x3 :: x4 :: x5 :: x6 :: x7 :: .inl z :: l9) st M else False := Ks_z (mi := mi) (pc := pc) (P := P) (ls := x0 :: x1 :: x2 :: x3 :: x4 :: x5 :: x6 :: x7 :: y :: l9) (i := 8) (x := x7) rfl (by simp)
theorem K_fstore_8 {mi l a b w pc : Nat} {st : List JV} {M : JM} {P : JO → JM → Prop} {go : Nat → List JV → List JV → JM → Prop} {x0 x1 x2 x3 x4 x5 x6 x7 : JV} {l9 : List JV} {y : JV} {z : UInt32} : JK mi (some (.fstore 8, l, a, b, w)) pc (x0 :: x1 :: x2 :: x3 :: x4 :: x5 :: x6 :: x7 :: y :: l9) (.inr (.inr (.float z)) :: st) M P go = if jc2 x7 = false then go (pc + 2) (x0 :: x1 :: x2 :: x3 :: x4 :: x5 :: x6 :: x7 :: .inr (.inr (.float z)) :: l9) st M else False := Ks_z (mi := mi) (pc := pc) (P := P) (ls := x0 :: x1 :: x2 :: x3 :: x4 :: x5 :: x6 :: x7 :: y :: l9) (i := 8) (x := x7) rfl (by simp)
theorem K_dstore_8 {mi l a b w pc : Nat} {st : List JV} {M : JM} {P : JO → JM → Prop} {go : Nat → List JV → List JV → JM → Prop} {x0 x1 x2 x3 x4 x5 x6 x7 : JV} {l9 : List JV} {y y2 : JV} {z : UInt64} : JK mi (some (.dstore 8, l, a, b, w)) pc (x0 :: x1 :: x2 :: x3 :: x4 :: x5 :: x6 :: x7 :: y :: y2 :: l9) (.inr (.inr (.double z)) :: st) M P go = if jc2 x7 = false then go (pc + 2) (x0 :: x1 :: x2 :: x3 :: x4 :: x5 :: x6 :: x7 :: .inr (.inr (.double z)) :: jU :: l9) st M else False := Ks_z2 (mi := mi) (pc := pc) (P := P) (ls := x0 :: x1 :: x2 :: x3 :: x4 :: x5 :: x6 :: x7 :: y :: y2 :: l9) (i := 8) (x := x7) rfl (by simp)
theorem K_iinc_8 {mi l a b w pc : Nat} {st : List JV} {M : JM} {P : JO → JM → Prop} {go : Nat → List JV → List JV → JM → Prop} {x0 x1 x2 x3 x4 x5 x6 x7 : JV} {l9 : List JV} {n z : Int} : JK mi (some (.iinc 8 n, l, a, b, w)) pc (x0 :: x1 :: x2 :: x3 :: x4 :: x5 :: x6 :: x7 :: .inl z :: l9) st M P go = if jc2 x7 = false then go (pc + 3) (x0 :: x1 :: x2 :: x3 :: x4 :: x5 :: x6 :: x7 :: .inl (wr (z + n)) :: l9) st M else False := Ks_z (mi := mi) (pc := pc) (P := P) (ls := x0 :: x1 :: x2 :: x3 :: x4 :: x5 :: x6 :: x7 :: .inl z :: l9) (i := 8) (x := x7) rfl (by simp)
theorem K_aload_9 {mi l a b w pc : Nat} {st : List JV} {M : JM} {P : JO → JM → Prop} {go : Nat → List JV → List JV → JM → Prop} {x0 x1 x2 x3 x4 x5 x6 x7 x8 : JV} {l9 : List JV} {z : Nat} : JK mi (some (.aload 9, l, a, b, w)) pc (x0 :: x1 :: x2 :: x3 :: x4 :: x5 :: x6 :: x7 :: x8 :: .inr (.inl z) :: l9) st M P go = go (pc + 2) (x0 :: x1 :: x2 :: x3 :: x4 :: x5 :: x6 :: x7 :: x8 :: .inr (.inl z) :: l9) (.inr (.inl z) :: st) M := rfl
theorem K_iload_9 {mi l a b w pc : Nat} {st : List JV} {M : JM} {P : JO → JM → Prop} {go : Nat → List JV → List JV → JM → Prop} {x0 x1 x2 x3 x4 x5 x6 x7 x8 : JV} {l9 : List JV} {z : Int} : JK mi (some (.iload 9, l, a, b, w)) pc (x0 :: x1 :: x2 :: x3 :: x4 :: x5 :: x6 :: x7 :: x8 :: .inl z :: l9) st M P go = go (pc + 2) (x0 :: x1 :: x2 :: x3 :: x4 :: x5 :: x6 :: x7 :: x8 :: .inl z :: l9) (.inl z :: st) M := rfl
theorem K_fload_9 {mi l a b w pc : Nat} {st : List JV} {M : JM} {P : JO → JM → Prop} {go : Nat → List JV → List JV → JM → Prop} {x0 x1 x2 x3 x4 x5 x6 x7 x8 : JV} {l9 : List JV} {z : UInt32} : JK mi (some (.fload 9, l, a, b, w)) pc (x0 :: x1 :: x2 :: x3 :: x4 :: x5 :: x6 :: x7 :: x8 :: .inr (.inr (.float z)) :: l9) st M P go = go (pc + 2) (x0 :: x1 :: x2 :: x3 :: x4 :: x5 :: x6 :: x7 :: x8 :: .inr (.inr (.float z)) :: l9) (.inr (.inr (.float z)) :: st) M := rfl
theorem K_dload_9 {mi l a b w pc : Nat} {st : List JV} {M : JM} {P : JO → JM → Prop} {go : Nat → List JV → List JV → JM → Prop} {x0 x1 x2 x3 x4 x5 x6 x7 x8 : JV} {l9 : List JV} {z : UInt64} : JK mi (some (.dload 9, l, a, b, w)) pc (x0 :: x1 :: x2 :: x3 :: x4 :: x5 :: x6 :: x7 :: x8 :: .inr (.inr (.double z)) :: l9) st M P go = go (pc + 2) (x0 :: x1 :: x2 :: x3 :: x4 :: x5 :: x6 :: x7 :: x8 :: .inr (.inr (.double z)) :: l9) (.inr (.inr (.double z)) :: st) M := rfl
theorem K_astore_9 {mi l a b w pc : Nat} {st : List JV} {M : JM} {P : JO → JM → Prop} {go : Nat → List JV → List JV → JM → Prop} {x0 x1 x2 x3 x4 x5 x6 x7 x8 : JV} {l9 : List JV} {y : JV} {z : Nat} : JK mi (some (.astore 9, l, a, b, w)) pc (x0 :: x1 :: x2 :: x3 :: x4 :: x5 :: x6 :: x7 :: x8 :: y :: l9) (.inr (.inl z) :: st) M P go = if jc2 x8 = false then go (pc + 2) (x0 :: x1 :: x2 :: x3 :: x4 :: x5 :: x6 :: x7 :: x8 :: .inr (.inl z) :: l9) st M else False := Ks_z (mi := mi) (pc := pc) (P := P) (ls := x0 :: x1 :: x2 :: x3 :: x4 :: x5 :: x6 :: x7 :: x8 :: y :: l9) (i := 9) (x := x8) rfl (by simp)
theorem K_istore_9 {mi l a b w pc : Nat} {st : List JV} {M : JM} {P : JO → JM → Prop} {go : Nat → List JV → List JV → JM → Prop} {x0 x1 x2 x3 x4 x5 x6 x7 x8 : JV} {l9 : List JV} {y : JV} {z : Int} : JK mi (some (.istore 9, l, a, b, w)) pc (x0 :: x1 :: x2 :: x3 :: x4 :: x5 :: x6 :: x7 :: x8 :: y :: l9) (.inl z :: st) M P go = if jc2 x8 = false then go (pc + 2) (x0 :: x1 :: x2 :: x3 :: x4 :: x5 :: x6 :: x7 :: x8 :: .inl z :: l9) st M else False := Ks_z (mi := mi) (pc := pc) (P := P) (ls := x0 :: x1 :: x2 :: x3 :: x4 :: x5 :: x6 :: x7 :: x8 :: y :: l9) (i := 9) (x := x8) rfl (by simp)
theorem K_fstore_9 {mi l a b w pc : Nat} {st : List JV} {M : JM} {P : JO → JM → Prop} {go : Nat → List JV → List JV → JM → Prop} {x0 x1 x2 x3 x4 x5 x6 x7 x8 : JV} {l9 : List JV} {y : JV} {z : UInt32} : JK mi (some (.fstore 9, l, a, b, w)) pc (x0 :: x1 :: x2 :: x3 :: x4 :: x5 :: x6 :: x7 :: x8 :: y :: l9) (.inr (.inr (.float z)) :: st) M P go = if jc2 x8 = false then go (pc + 2) (x0 :: x1 :: x2 :: x3 :: x4 :: x5 :: x6 :: x7 :: x8 :: .inr (.inr (.float z)) :: l9) st M else False := Ks_z (mi := mi) (pc := pc) (P := P) (ls := x0 :: x1 :: x2 :: x3 :: x4 :: x5 :: x6 :: x7 :: x8 :: y :: l9) (i := 9) (x := x8) rfl (by simp)
theorem K_dstore_9 {mi l a b w pc : Nat} {st : List JV} {M : JM} {P : JO → JM → Prop} {go : Nat → List JV → List JV → JM → Prop} {x0 x1 x2 x3 x4 x5 x6 x7 x8 : JV} {l9 : List JV} {y y2 : JV} {z : UInt64} : JK mi (some (.dstore 9, l, a, b, w)) pc (x0 :: x1 :: x2 :: x3 :: x4 :: x5 :: x6 :: x7 :: x8 :: y :: y2 :: l9) (.inr (.inr (.double z)) :: st) M P go = if jc2 x8 = false then go (pc + 2) (x0 :: x1 :: x2 :: x3 :: x4 :: x5 :: x6 :: x7 :: x8 :: .inr (.inr (.double z)) :: jU :: l9) st M else False := Ks_z2 (mi := mi) (pc := pc) (P := P) (ls := x0 :: x1 :: x2 :: x3 :: x4 :: x5 :: x6 :: x7 :: x8 :: y :: y2 :: l9) (i := 9) (x := x8) rfl (by simp)
theorem K_iinc_9 {mi l a b w pc : Nat} {st : List JV} {M : JM} {P : JO → JM → Prop} {go : Nat → List JV → List JV → JM → Prop} {x0 x1 x2 x3 x4 x5 x6 x7 x8 : JV} {l9 : List JV} {n z : Int} : JK mi (some (.iinc 9 n, l, a, b, w)) pc (x0 :: x1 :: x2 :: x3 :: x4 :: x5 :: x6 :: x7 :: x8 :: .inl z :: l9) st M P go = if jc2 x8 = false then go (pc + 3) (x0 :: x1 :: x2 :: x3 :: x4 :: x5 :: x6 :: x7 :: x8 :: .inl (wr (z + n)) :: l9) st M else False := Ks_z (mi := mi) (pc := pc) (P := P) (ls := x0 :: x1 :: x2 :: x3 :: x4 :: x5 :: x6 :: x7 :: x8 :: .inl z :: l9) (i := 9) (x := x8) rfl (by simp)
theorem K_aload_10 {mi l a b w pc : Nat} {st : List JV} {M : JM} {P : JO → JM → Prop} {go : Nat → List JV → List JV → JM → Prop} {x0 x1 x2 x3 x4 x5 x6 x7 x8 x9 : JV} {l9 : List JV} {z : Nat} : JK mi (some (.aload 10, l, a, b, w)) pc (x0 :: x1 :: x2 :: x3 :: x4 :: x5 :: x6 :: x7 :: x8 :: x9 :: .inr (.inl z) :: l9) st M P go = go (pc + 2) (x0 :: x1 :: x2 :: x3 :: x4 :: x5 :: x6 :: x7 :: x8 :: x9 :: .inr (.inl z) :: l9) (.inr (.inl z) :: st) M := rfl
theorem K_iload_10 {mi l a b w pc : Nat} {st : List JV} {M : JM} {P : JO → JM → Prop} {go : Nat → List JV → List JV → JM → Prop} {x0 x1 x2 x3 x4 x5 x6 x7 x8 x9 : JV} {l9 : List JV} {z : Int} : JK mi (some (.iload 10, l, a, b, w)) pc (x0 :: x1 :: x2 :: x3 :: x4 :: x5 :: x6 :: x7 :: x8 :: x9 :: .inl z :: l9) st M P go = go (pc + 2) (x0 :: x1 :: x2 :: x3 :: x4 :: x5 :: x6 :: x7 :: x8 :: x9 :: .inl z :: l9) (.inl z :: st) M := rfl
theorem K_fload_10 {mi l a b w pc : Nat} {st : List JV} {M : JM} {P : JO → JM → Prop} {go : Nat → List JV → List JV → JM → Prop} {x0 x1 x2 x3 x4 x5 x6 x7 x8 x9 : JV} {l9 : List JV} {z : UInt32} : JK mi (some (.fload 10, l, a, b, w)) pc (x0 :: x1 :: x2 :: x3 :: x4 :: x5 :: x6 :: x7 :: x8 :: x9 :: .inr (.inr (.float z)) :: l9) st M P go = go (pc + 2) (x0 :: x1 :: x2 :: x3 :: x4 :: x5 :: x6 :: x7 :: x8 :: x9 :: .inr (.inr (.float z)) :: l9) (.inr (.inr (.float z)) :: st) M := rfl
theorem K_dload_10 {mi l a b w pc : Nat} {st : List JV} {M : JM} {P : JO → JM → Prop} {go : Nat → List JV → List JV → JM → Prop} {x0 x1 x2 x3 x4 x5 x6 x7 x8 x9 : JV} {l9 : List JV} {z : UInt64} : JK mi (some (.dload 10, l, a, b, w)) pc (x0 :: x1 :: x2 :: x3 :: x4 :: x5 :: x6 :: x7 :: x8 :: x9 :: .inr (.inr (.double z)) :: l9) st M P go = go (pc + 2) (x0 :: x1 :: x2 :: x3 :: x4 :: x5 :: x6 :: x7 :: x8 :: x9 :: .inr (.inr (.double z)) :: l9) (.inr (.inr (.double z)) :: st) M := rfl
theorem K_astore_10 {mi l a b w pc : Nat} {st : List JV} {M : JM} {P : JO → JM → Prop} {go : Nat → List JV → List JV → JM → Prop} {x0 x1 x2 x3 x4 x5 x6 x7 x8 x9 : JV} {l9 : List JV} {y : JV} {z : Nat} : JK mi (some (.astore 10, l, a, b, w)) pc (x0 :: x1 :: x2 :: x3 :: x4 :: x5 :: x6 :: x7 :: x8 :: x9 :: y :: l9) (.inr (.inl z) :: st) M P go = if jc2 x9 = false then go (pc + 2) (x0 :: x1 :: x2 :: x3 :: x4 :: x5 :: x6 :: x7 :: x8 :: x9 :: .inr (.inl z) :: l9) st M else False := Ks_z (mi := mi) (pc := pc) (P := P) (ls := x0 :: x1 :: x2 :: x3 :: x4 :: x5 :: x6 :: x7 :: x8 :: x9 :: y :: l9) (i := 10) (x := x9) rfl (by simp)
theorem K_istore_10 {mi l a b w pc : Nat} {st : List JV} {M : JM} {P : JO → JM → Prop} {go : Nat → List JV → List JV → JM → Prop} {x0 x1 x2 x3 x4 x5 x6 x7 x8 x9 : JV} {l9 : List JV} {y : JV} {z : Int} : JK mi (some (.istore 10, l, a, b, w)) pc (x0 :: x1 :: x2 :: x3 :: x4 :: x5 :: x6 :: x7 :: x8 :: x9 :: y :: l9) (.inl z :: st) M P go = if jc2 x9 = false then go (pc + 2) (x0 :: x1 :: x2 :: x3 :: x4 :: x5 :: x6 :: x7 :: x8 :: x9 :: .inl z :: l9) st M else False := Ks_z (mi := mi) (pc := pc) (P := P) (ls := x0 :: x1 :: x2 :: x3 :: x4 :: x5 :: x6 :: x7 :: x8 :: x9 :: y :: l9) (i := 10) (x := x9) rfl (by simp)
theorem K_fstore_10 {mi l a b w pc : Nat} {st : List JV} {M : JM} {P : JO → JM → Prop} {go : Nat → List JV → List JV → JM → Prop} {x0 x1 x2 x3 x4 x5 x6 x7 x8 x9 : JV} {l9 : List JV} {y : JV} {z : UInt32} : JK mi (some (.fstore 10, l, a, b, w)) pc (x0 :: x1 :: x2 :: x3 :: x4 :: x5 :: x6 :: x7 :: x8 :: x9 :: y :: l9) (.inr (.inr (.float z)) :: st) M P go = if jc2 x9 = false then go (pc + 2) (x0 :: x1 :: x2 :: x3 :: x4 :: x5 :: x6 :: x7 :: x8 :: x9 :: .inr (.inr (.float z)) :: l9) st M else False := Ks_z (mi := mi) (pc := pc) (P := P) (ls := x0 :: x1 :: x2 :: x3 :: x4 :: x5 :: x6 :: x7 :: x8 :: x9 :: y :: l9) (i := 10) (x := x9) rfl (by simp)
theorem K_dstore_10 {mi l a b w pc : Nat} {st : List JV} {M : JM} {P : JO → JM → Prop} {go : Nat → List JV → List JV → JM → Prop} {x0 x1 x2 x3 x4 x5 x6 x7 x8 x9 : JV} {l9 : List JV} {y y2 : JV} {z : UInt64} : JK mi (some (.dstore 10, l, a, b, w)) pc (x0 :: x1 :: x2 :: x3 :: x4 :: x5 :: x6 :: x7 :: x8 :: x9 :: y :: y2 :: l9) (.inr (.inr (.double z)) :: st) M P go = if jc2 x9 = false then go (pc + 2) (x0 :: x1 :: x2 :: x3 :: x4 :: x5 :: x6 :: x7 :: x8 :: x9 :: .inr (.inr (.double z)) :: jU :: l9) st M else False := Ks_z2 (mi := mi) (pc := pc) (P := P) (ls := x0 :: x1 :: x2 :: x3 :: x4 :: x5 :: x6 :: x7 :: x8 :: x9 :: y :: y2 :: l9) (i := 10) (x := x9) rfl (by simp)
theorem K_iinc_10 {mi l a b w pc : Nat} {st : List JV} {M : JM} {P : JO → JM → Prop} {go : Nat → List JV → List JV → JM → Prop} {x0 x1 x2 x3 x4 x5 x6 x7 x8 x9 : JV} {l9 : List JV} {n z : Int} : JK mi (some (.iinc 10 n, l, a, b, w)) pc (x0 :: x1 :: x2 :: x3 :: x4 :: x5 :: x6 :: x7 :: x8 :: x9 :: .inl z :: l9) st M P go = if jc2 x9 = false then go (pc + 3) (x0 :: x1 :: x2 :: x3 :: x4 :: x5 :: x6 :: x7 :: x8 :: x9 :: .inl (wr (z + n)) :: l9) st M else False := Ks_z (mi := mi) (pc := pc) (P := P) (ls := x0 :: x1 :: x2 :: x3 :: x4 :: x5 :: x6 :: x7 :: x8 :: x9 :: .inl z :: l9) (i := 10) (x := x9) rfl (by simp)
theorem K_aload_11 {mi l a b w pc : Nat} {st : List JV} {M : JM} {P : JO → JM → Prop} {go : Nat → List JV → List JV → JM → Prop} {x0 x1 x2 x3 x4 x5 x6 x7 x8 x9 x10 : JV} {l9 : List JV} {z : Nat} : JK mi (some (.aload 11, l, a, b, w)) pc (x0 :: x1 :: x2 :: x3 :: x4 :: x5 :: x6 :: x7 :: x8 :: x9 :: x10 :: .inr (.inl z) :: l9) st M P go = go (pc + 2) (x0 :: x1 :: x2 :: x3 :: x4 :: x5 :: x6 :: x7 :: x8 :: x9 :: x10 :: .inr (.inl z) :: l9) (.inr (.inl z) :: st) M := rfl
theorem K_iload_11 {mi l a b w pc : Nat} {st : List JV} {M : JM} {P : JO → JM → Prop} {go : Nat → List JV → List JV → JM → Prop} {x0 x1 x2 x3 x4 x5 x6 x7 x8 x9 x10 : JV} {l9 : List JV} {z : Int} : JK mi (some (.iload 11, l, a, b, w)) pc (x0 :: x1 :: x2 :: x3 :: x4 :: x5 :: x6 :: x7 :: x8 :: x9 :: x10 :: .inl z :: l9) st M P go = go (pc + 2) (x0 :: x1 :: x2 :: x3 :: x4 :: x5 :: x6 :: x7 :: x8 :: x9 :: x10 :: .inl z :: l9) (.inl z :: st) M := rfl
theorem K_fload_11 {mi l a b w pc : Nat} {st : List JV} {M : JM} {P : JO → JM → Prop} {go : Nat → List JV → List JV → JM → Prop} {x0 x1 x2 x3 x4 x5 x6 x7 x8 x9 x10 : JV} {l9 : List JV} {z : UInt32} : JK mi (some (.fload 11, l, a, b, w)) pc (x0 :: x1 :: x2 :: x3 :: x4 :: x5 :: x6 :: x7 :: x8 :: x9 :: x10 :: .inr (.inr (.float z)) :: l9) st M P go = go (pc + 2) (x0 :: x1 :: x2 :: x3 :: x4 :: x5 :: x6 :: x7 :: x8 :: x9 :: x10 :: .inr (.inr (.float z)) :: l9) (.inr (.inr (.float z)) :: st) M := rfl
theorem K_dload_11 {mi l a b w pc : Nat} {st : List JV} {M : JM} {P : JO → JM → Prop} {go : Nat → List JV → List JV → JM → Prop} {x0 x1 x2 x3 x4 x5 x6 x7 x8 x9 x10 : JV} {l9 : List JV} {z : UInt64} : JK mi (some (.dload 11, l, a, b, w)) pc (x0 :: x1 :: x2 :: x3 :: x4 :: x5 :: x6 :: x7 :: x8 :: x9 :: x10 :: .inr (.inr (.double z)) :: l9) st M P go = go (pc + 2) (x0 :: x1 :: x2 :: x3 :: x4 :: x5 :: x6 :: x7 :: x8 :: x9 :: x10 :: .inr (.inr (.double z)) :: l9) (.inr (.inr (.double z)) :: st) M := rfl
theorem K_astore_11 {mi l a b w pc : Nat} {st : List JV} {M : JM} {P : JO → JM → Prop} {go : Nat → List JV → List JV → JM → Prop} {x0 x1 x2 x3 x4 x5 x6 x7 x8 x9 x10 : JV} {l9 : List JV} {y : JV} {z : Nat} : JK mi (some (.astore 11, l, a, b, w)) pc (x0 :: x1 :: x2 :: x3 :: x4 :: x5 :: x6 :: x7 :: x8 :: x9 :: x10 :: y :: l9) (.inr (.inl z) :: st) M P go = if jc2 x10 = false then go (pc + 2) (x0 :: x1 :: x2 :: x3 :: x4 :: x5 :: x6 :: x7 :: x8 :: x9 :: x10 :: .inr (.inl z) :: l9) st M else False := Ks_z (mi := mi) (pc := pc) (P := P) (ls := x0 :: x1 :: x2 :: x3 :: x4 :: x5 :: x6 :: x7 :: x8 :: x9 :: x10 :: y :: l9) (i := 11) (x := x10) rfl (by simp)
theorem K_istore_11 {mi l a b w pc : Nat} {st : List JV} {M : JM} {P : JO → JM → Prop} {go : Nat → List JV → List JV → JM → Prop} {x0 x1 x2 x3 x4 x5 x6 x7 x8 x9 x10 : JV} {l9 : List JV} {y : JV} {z : Int} : JK mi (some (.istore 11, l, a, b, w)) pc (x0 :: x1 :: x2 :: x3 :: x4 :: x5 :: x6 :: x7 :: x8 :: x9 :: x10 :: y :: l9) (.inl z :: st) M P go = if jc2 x10 = false then go (pc + 2) (x0 :: x1 :: x2 :: x3 :: x4 :: x5 :: x6 :: x7 :: x8 :: x9 :: x10 :: .inl z :: l9) st M else False := Ks_z (mi := mi) (pc := pc) (P := P) (ls := x0 :: x1 :: x2 :: x3 :: x4 :: x5 :: x6 :: x7 :: x8 :: x9 :: x10 :: y :: l9) (i := 11) (x := x10) rfl (by simp)
theorem K_fstore_11 {mi l a b w pc : Nat} {st : List JV} {M : JM} {P : JO → JM → Prop} {go : Nat → List JV → List JV → JM → Prop} {x0 x1 x2 x3 x4 x5 x6 x7 x8 x9 x10 : JV} {l9 : List JV} {y : JV} {z : UInt32} : JK mi (some (.fstore 11, l, a, b, w)) pc (x0 :: x1 :: x2 :: x3 :: x4 :: x5 :: x6 :: x7 :: x8 :: x9 :: x10 :: y :: l9) (.inr (.inr (.float z)) :: st) M P go = if jc2 x10 = false then go (pc + 2) (x0 :: x1 :: x2 :: x3 :: x4 :: x5 :: x6 :: x7 :: x8 :: x9 :: x10 :: .inr (.inr (.float z)) :: l9) st M else False := Ks_z (mi := mi) (pc := pc) (P := P) (ls := x0 :: x1 :: x2 :: x3 :: x4 :: x5 :: x6 :: x7 :: x8 :: x9 :: x10 :: y :: l9) (i := 11) (x := x10) rfl (by simp)
theorem K_dstore_11 {mi l a b w pc : Nat} {st : List JV} {M : JM} {P : JO → JM → Prop} {go : Nat → List JV → List JV → JM → Prop} {x0 x1 x2 x3 x4 x5 x6 x7 x8 x9 x10 : JV} {l9 : List JV} {y y2 : JV} {z : UInt64} : JK mi (some (.dstore 11, l, a, b, w)) pc (x0 :: x1 :: x2 :: x3 :: x4 :: x5 :: x6 :: x7 :: x8 :: x9 :: x10 :: y :: y2 :: l9) (.inr (.inr (.double z)) :: st) M P go = if jc2 x10 = false then go (pc + 2) (x0 :: x1 :: x2 :: x3 :: x4 :: x5 :: x6 :: x7 :: x8 :: x9 :: x10 :: .inr (.inr (.double z)) :: jU :: l9) st M else False := Ks_z2 (mi := mi) (pc := pc) (P := P) (ls := x0 :: x1 :: x2 :: x3 :: x4 :: x5 :: x6 :: x7 :: x8 :: x9 :: x10 :: y :: y2 :: l9) (i := 11) (x := x10) rfl (by simp)
theorem K_iinc_11 {mi l a b w pc : Nat} {st : List JV} {M : JM} {P : JO → JM → Prop} {go : Nat → List JV → List JV → JM → Prop} {x0 x1 x2 x3 x4 x5 x6 x7 x8 x9 x10 : JV} {l9 : List JV} {n z : Int} : JK mi (some (.iinc 11 n, l, a, b, w)) pc (x0 :: x1 :: x2 :: x3 :: x4 :: x5 :: x6 :: x7 :: x8 :: x9 :: x10 :: .inl z :: l9) st M P go = if jc2 x10 = false then go (pc + 3) (x0 :: x1 :: x2 :: x3 :: x4 :: x5 :: x6 :: x7 :: x8 :: x9 :: x10 :: .inl (wr (z + n)) :: l9) st M else False := Ks_z (mi := mi) (pc := pc) (P := P) (ls := x0 :: x1 :: x2 :: x3 :: x4 :: x5 :: x6 :: x7 :: x8 :: x9 :: x10 :: .inl z :: l9) (i := 11) (x := x10) rfl (by simp)
theorem K_aload_12 {mi l a b w pc : Nat} {st : List JV} {M : JM} {P : JO → JM → Prop} {go : Nat → List JV → List JV → JM → Prop} {x0 x1 x2 x3 x4 x5 x6 x7 x8 x9 x10 x11 : JV} {l9 : List JV} {z : Nat} : JK mi (some (.aload 12, l, a, b, w)) pc (x0 :: x1 :: x2 :: x3 :: x4 :: x5 :: x6 :: x7 :: x8 :: x9 :: x10 :: x11 :: .inr (.inl z) :: l9) st M P go = go (pc + 2) (x0 :: x1 :: x2 :: x3 :: x4 :: x5 :: x6 :: x7 :: x8 :: x9 :: x10 :: x11 :: .inr (.inl z) :: l9) (.inr (.inl z) :: st) M := rfl
theorem K_iload_12 {mi l a b w pc : Nat} {st : List JV} {M : JM} {P : JO → JM → Prop} {go : Nat → List JV → List JV → JM → Prop} {x0 x1 x2 x3 x4 x5 x6 x7 x8 x9 x10 x11 : JV} {l9 : List JV} {z : Int} : JK mi (some (.iload 12, l, a, b, w)) pc (x0 :: x1 :: x2 :: x3 :: x4 :: x5 :: x6 :: x7 :: x8 :: x9 :: x10 :: x11 :: .inl z :: l9) st M P go = go (pc + 2) (x0 :: x1 :: x2 :: x3 :: x4 :: x5 :: x6 :: x7 :: x8 :: x9 :: x10 :: x11 :: .inl z :: l9) (.inl z :: st) M := rfl
theorem K_fload_12 {mi l a b w pc : Nat} {st : List JV} {M : JM} {P : JO → JM → Prop} {go : Nat → List JV → List JV → JM → Prop} {x0 x1 x2 x3 x4 x5 x6 x7 x8 x9 x10 x11 : JV} {l9 : List JV} {z : UInt32} : JK mi (some (.fload 12, l, a, b, w)) pc (x0 :: x1 :: x2 :: x3 :: x4 :: x5 :: x6 :: x7 :: x8 :: x9 :: x10 :: x11 :: .inr (.inr (.float z)) :: l9) st M P go = go (pc + 2) (x0 :: x1 :: x2 :: x3 :: x4 :: x5 :: x6 :: x7 :: x8 :: x9 :: x10 :: x11 :: .inr (.inr (.float z)) :: l9) (.inr (.inr (.float z)) :: st) M := rfl
theorem K_dload_12 {mi l a b w pc : Nat} {st : List JV} {M : JM} {P : JO → JM → Prop} {go : Nat → List JV → List JV → JM → Prop} {x0 x1 x2 x3 x4 x5 x6 x7 x8 x9 x10 x11 : JV} {l9 : List JV} {z : UInt64} : JK mi (some (.dload 12, l, a, b, w)) pc (x0 :: x1 :: x2 :: x3 :: x4 :: x5 :: x6 :: x7 :: x8 :: x9 :: x10 :: x11 :: .inr (.inr (.double z)) :: l9) st M P go = go (pc + 2) (x0 :: x1 :: x2 :: x3 :: x4 :: x5 :: x6 :: x7 :: x8 :: x9 :: x10 :: x11 :: .inr (.inr (.double z)) :: l9) (.inr (.inr (.double z)) :: st) M := rfl
theorem K_astore_12 {mi l a b w pc : Nat} {st : List JV} {M : JM} {P : JO → JM → Prop} {go : Nat → List JV → List JV → JM → Prop} {x0 x1 x2 x3 x4 x5 x6 x7 x8 x9 x10 x11 : JV} {l9 : List JV} {y : JV} {z : Nat} : JK mi (some (.astore 12, l, a, b, w)) pc (x0 :: x1 :: x2 :: x3 :: x4 :: x5 :: x6 :: x7 :: x8 :: x9 :: x10 :: x11 :: y :: l9) (.inr (.inl z) :: st) M P go = if jc2 x11 = false then go (pc + 2) (x0 :: x1 :: x2 :: x3 :: x4 :: x5 :: x6 :: x7 :: x8 :: x9 :: x10 :: x11 :: .inr (.inl z) :: l9) st M else False := Ks_z (mi := mi) (pc := pc) (P := P) (ls := x0 :: x1 :: x2 :: x3 :: x4 :: x5 :: x6 :: x7 :: x8 :: x9 :: x10 :: x11 :: y :: l9) (i := 12) (x := x11) rfl (by simp)
theorem K_istore_12 {mi l a b w pc : Nat} {st : List JV} {M : JM} {P : JO → JM → Prop} {go : Nat → List JV → List JV → JM → Prop} {x0 x1 x2 x3 x4 x5 x6 x7 x8 x9 x10 x11 : JV} {l9 : List JV} {y : JV} {z : Int} : JK mi (some (.istore 12, l, a, b, w)) pc (x0 :: x1 :: x2 :: x3 :: x4 :: x5 :: x6 :: x7 :: x8 :: x9 :: x10 :: x11 :: y :: l9) (.inl z :: st) M P go = if jc2 x11 = false then go (pc + 2) (x0 :: x1 :: x2 :: x3 :: x4 :: x5 :: x6 :: x7 :: x8 :: x9 :: x10 :: x11 :: .inl z :: l9) st M else False := Ks_z (mi := mi) (pc := pc) (P := P) (ls := x0 :: x1 :: x2 :: x3 :: x4 :: x5 :: x6 :: x7 :: x8 :: x9 :: x10 :: x11 :: y :: l9) (i := 12) (x := x11) rfl (by simp)
theorem K_fstore_12 {mi l a b w pc : Nat} {st : List JV} {M : JM} {P : JO → JM → Prop} {go : Nat → List JV → List JV → JM → Prop} {x0 x1 x2 x3 x4 x5 x6 x7 x8 x9 x10 x11 : JV} {l9 : List JV} {y : JV} {z : UInt32} : JK mi (some (.fstore 12, l, a, b, w)) pc (x0 :: x1 :: x2 :: x3 :: x4 :: x5 :: x6 :: x7 :: x8 :: x9 :: x10 :: x11 :: y :: l9) (.inr (.inr (.float z)) :: st) M P go = if jc2 x11 = false then go (pc + 2) (x0 :: x1 :: x2 :: x3 :: x4 :: x5 :: x6 :: x7 :: x8 :: x9 :: x10 :: x11 :: .inr (.inr (.float z)) :: l9) st M else False := Ks_z (mi := mi) (pc := pc) (P := P) (ls := x0 :: x1 :: x2 :: x3 :: x4 :: x5 :: x6 :: x7 :: x8 :: x9 :: x10 :: x11 :: y :: l9) (i := 12) (x := x11) rfl (by simp)
theorem K_dstore_12 {mi l a b w pc : Nat} {st : List JV} {M : JM} {P : JO → JM → Prop} {go : Nat → List JV → List JV → JM → Prop} {x0 x1 x2 x3 x4 x5 x6 x7 x8 x9 x10 x11 : JV} {l9 : List JV} {y y2 : JV} {z : UInt64} : JK mi (some (.dstore 12, l, a, b, w)) pc (x0 :: x1 :: x2 :: x3 :: x4 :: x5 :: x6 :: x7 :: x8 :: x9 :: x10 :: x11 :: y :: y2 :: l9) (.inr (.inr (.double z)) :: st) M P go = if jc2 x11 = false then go (pc + 2) (x0 :: x1 :: x2 :: x3 :: x4 :: x5 :: x6 :: x7 :: x8 :: x9 :: x10 :: x11 :: .inr (.inr (.double z)) :: jU :: l9) st M else False := Ks_z2 (mi := mi) (pc := pc) (P := P) (ls := x0 :: x1 :: x2 :: x3 :: x4 :: x5 :: x6 :: x7 :: x8 :: x9 :: x10 :: x11 :: y :: y2 :: l9) (i := 12) (x := x11) rfl (by simp)
theorem K_iinc_12 {mi l a b w pc : Nat} {st : List JV} {M : JM} {P : JO → JM → Prop} {go : Nat → List JV → List JV → JM → Prop} {x0 x1 x2 x3 x4 x5 x6 x7 x8 x9 x10 x11 : JV} {l9 : List JV} {n z : Int} : JK mi (some (.iinc 12 n, l, a, b, w)) pc (x0 :: x1 :: x2 :: x3 :: x4 :: x5 :: x6 :: x7 :: x8 :: x9 :: x10 :: x11 :: .inl z :: l9) st M P go = if jc2 x11 = false then go (pc + 3) (x0 :: x1 :: x2 :: x3 :: x4 :: x5 :: x6 :: x7 :: x8 :: x9 :: x10 :: x11 :: .inl (wr (z + n)) :: l9) st M else False := Ks_z (mi := mi) (pc := pc) (P := P) (ls := x0 :: x1 :: x2 :: x3 :: x4 :: x5 :: x6 :: x7 :: x8 :: x9 :: x10 :: x11 :: .inl z :: l9) (i := 12) (x := x11) rfl (by simp)
theorem K_aload_13 {mi l a b w pc : Nat} {st : List JV} {M : JM} {P : JO → JM → Prop} {go : Nat → List JV → List JV → JM → Prop} {x0 x1 x2 x3 x4 x5 x6 x7 x8 x9 x10 x11 x12 : JV} {l9 : List JV} {z : Nat} : JK mi (some (.aload 13, l, a, b, w)) pc (x0 :: x1 :: x2 :: x3 :: x4 :: x5 :: x6 :: x7 :: x8 :: x9 :: x10 :: x11 :: x12 :: .inr (.inl z) :: l9) st M P go = go (pc + 2) (x0 :: x1 :: x2 :: x3 :: x4 :: x5 :: x6 :: x7 :: x8 :: x9 :: x10 :: x11 :: x12 :: .inr (.inl z) :: l9) (.inr (.inl z) :: st) M := rfl
theorem K_iload_13 {mi l a b w pc : Nat} {st : List JV} {M : JM} {P : JO → JM → Prop} {go : Nat → List JV → List JV → JM → Prop} {x0 x1 x2 x3 x4 x5 x6 x7 x8 x9 x10 x11 x12 : JV} {l9 : List JV} {z : Int} : JK mi (some (.iload 13, l, a, b, w)) pc (x0 :: x1 :: x2 :: x3 :: x4 :: x5 :: x6 :: x7 :: x8 :: x9 :: x10 :: x11 :: x12 :: .inl z :: l9) st M P go = go (pc + 2) (x0 :: x1 :: x2 :: x3 :: x4 :: x5 :: x6 :: x7 :: x8 :: x9 :: x10 :: x11 :: x12 :: .inl z :: l9) (.inl z :: st) M := rfl
theorem K_fload_13 {mi l a b w pc : Nat} {st : List JV} {M : JM} {P : JO → JM → Prop} {go : Nat → List JV → List JV → JM → Prop} {x0 x1 x2 x3 x4 x5 x6 x7 x8 x9 x10 x11 x12 : JV} {l9 : List JV} {z : UInt32} : JK mi (some (.fload 13, l, a, b, w)) pc (x0 :: x1 :: x2 :: x3 :: x4 :: x5 :: x6 :: x7 :: x8 :: x9 :: x10 :: x11 :: x12 :: .inr (.inr (.float z)) :: l9) st M P go = go (pc + 2) (x0 :: x1 :: x2 :: x3 :: x4 :: x5 :: x6 :: x7 :: x8 :: x9 :: x10 :: x11 :: x12 :: .inr (.inr (.float z)) :: l9) (.inr (.inr (.float z)) :: st) M := rfl
theorem K_dload_13 {mi l a b w pc : Nat} {st : List JV} {M : JM} {P : JO → JM → Prop} {go : Nat → List JV → List JV → JM → Prop} {x0 x1 x2 x3 x4 x5 x6 x7 x8 x9 x10 x11 x12 : JV} {l9 : List JV} {z : UInt64} : JK mi (some (.dload 13, l, a, b, w)) pc (x0 :: x1 :: x2 :: x3 :: x4 :: x5 :: x6 :: x7 :: x8 :: x9 :: x10 :: x11 :: x12 :: .inr (.inr (.double z)) :: l9) st M P go = go (pc + 2) (x0 :: x1 :: x2 :: x3 :: x4 :: x5 :: x6 :: x7 :: x8 :: x9 :: x10 :: x11 :: x12 :: .inr (.inr (.double z)) :: l9) (.inr (.inr (.double z)) :: st) M := rfl
theorem K_astore_13 {mi l a b w pc : Nat} {st : List JV} {M : JM} {P : JO → JM → Prop} {go : Nat → List JV → List JV → JM → Prop} {x0 x1 x2 x3 x4 x5 x6 x7 x8 x9 x10 x11 x12 : JV} {l9 : List JV} {y : JV} {z : Nat} : JK mi (some (.astore 13, l, a, b, w)) pc (x0 :: x1 :: x2 :: x3 :: x4 :: x5 :: x6 :: x7 :: x8 :: x9 :: x10 :: x11 :: x12 :: y :: l9) (.inr (.inl z) :: st) M P go = if jc2 x12 = false then go (pc + 2) (x0 :: x1 :: x2 :: x3 :: x4 :: x5 :: x6 :: x7 :: x8 :: x9 :: x10 :: x11 :: x12 :: .inr (.inl z) :: l9) st M else False := Ks_z (mi := mi) (pc := pc) (P := P) (ls := x0 :: x1 :: x2 :: x3 :: x4 :: x5 :: x6 :: x7 :: x8 :: x9 :: x10 :: x11 :: x12 :: y :: l9) (i := 13) (x := x12) rfl (by simp)
theorem K_istore_13 {mi l a b w pc : Nat} {st : List JV} {M : JM} {P : JO → JM → Prop} {go : Nat → List JV → List JV → JM → Prop} {x0 x1 x2 x3 x4 x5 x6 x7 x8 x9 x10 x11 x12 : JV} {l9 : List JV} {y : JV} {z : Int} : JK mi (some (.istore 13, l, a, b, w)) pc (x0 :: x1 :: x2 :: x3 :: x4 :: x5 :: x6 :: x7 :: x8 :: x9 :: x10 :: x11 :: x12 :: y :: l9) (.inl z :: st) M P go = if jc2 x12 = false then go (pc + 2) (x0 :: x1 :: x2 :: x3 :: x4 :: x5 :: x6 :: x7 :: x8 :: x9 :: x10 :: x11 :: x12 :: .inl z :: l9) st M else False := Ks_z (mi := mi) (pc := pc) (P := P) (ls := x0 :: x1 :: x2 :: x3 :: x4 :: x5 :: x6 :: x7 :: x8 :: x9 :: x10 :: x11 :: x12 :: y :: l9) (i := 13) (x := x12) rfl (by simp)
theorem K_fstore_13 {mi l a b w pc : Nat} {st : List JV} {M : JM} {P : JO → JM → Prop} {go : Nat → List JV → List JV → JM → Prop} {x0 x1 x2 x3 x4 x5 x6 x7 x8 x9 x10 x11 x12 : JV} {l9 : List JV} {y : JV} {z : UInt32} : JK mi (some (.fstore 13, l, a, b, w)) pc (x0 :: x1 :: x2 :: x3 :: x4 :: x5 :: x6 :: x7 :: x8 :: x9 :: x10 :: x11 :: x12 :: y :: l9) (.inr (.inr (.float z)) :: st) M P go = if jc2 x12 = false then go (pc + 2) (x0 :: x1 :: x2 :: x3 :: x4 :: x5 :: x6 :: x7 :: x8 :: x9 :: x10 :: x11 :: x12 :: .inr (.inr (.float z)) :: l9) st M else False := Ks_z (mi := mi) (pc := pc) (P := P) (ls := x0 :: x1 :: x2 :: x3 :: x4 :: x5 :: x6 :: x7 :: x8 :: x9 :: x10 :: x11 :: x12 :: y :: l9) (i := 13) (x := x12) rfl (by simp)
theorem K_dstore_13 {mi l a b w pc : Nat} {st : List JV} {M : JM} {P : JO → JM → Prop} {go : Nat → List JV → List JV → JM → Prop} {x0 x1 x2 x3 x4 x5 x6 x7 x8 x9 x10 x11 x12 : JV} {l9 : List JV} {y y2 : JV} {z : UInt64} : JK mi (some (.dstore 13, l, a, b, w)) pc (x0 :: x1 :: x2 :: x3 :: x4 :: x5 :: x6 :: x7 :: x8 :: x9 :: x10 :: x11 :: x12 :: y :: y2 :: l9) (.inr (.inr (.double z)) :: st) M P go = if jc2 x12 = false then go (pc + 2) (x0 :: x1 :: x2 :: x3 :: x4 :: x5 :: x6 :: x7 :: x8 :: x9 :: x10 :: x11 :: x12 :: .inr (.inr (.double z)) :: jU :: l9) st M else False := Ks_z2 (mi := mi) (pc := pc) (P := P) (ls := x0 :: x1 :: x2 :: x3 :: x4 :: x5 :: x6 :: x7 :: x8 :: x9 :: x10 :: x11 :: x12 :: y :: y2 :: l9) (i := 13) (x := x12) rfl (by simp)
theorem K_iinc_13 {mi l a b w pc : Nat} {st : List JV} {M : JM} {P : JO → JM → Prop} {go : Nat → List JV → List JV → JM → Prop} {x0 x1 x2 x3 x4 x5 x6 x7 x8 x9 x10 x11 x12 : JV} {l9 : List JV} {n z : Int} : JK mi (some (.iinc 13 n, l, a, b, w)) pc (x0 :: x1 :: x2 :: x3 :: x4 :: x5 :: x6 :: x7 :: x8 :: x9 :: x10 :: x11 :: x12 :: .inl z :: l9) st M P go = if jc2 x12 = false then go (pc + 3) (x0 :: x1 :: x2 :: x3 :: x4 :: x5 :: x6 :: x7 :: x8 :: x9 :: x10 :: x11 :: x12 :: .inl (wr (z + n)) :: l9) st M else False := Ks_z (mi := mi) (pc := pc) (P := P) (ls := x0 :: x1 :: x2 :: x3 :: x4 :: x5 :: x6 :: x7 :: x8 :: x9 :: x10 :: x11 :: x12 :: .inl z :: l9) (i := 13) (x := x12) rfl (by simp)
theorem jc2_i {z : Int} : jc2 (.inl z) = false := rfl
theorem jc2_r {z : Nat} : jc2 (.inr (.inl z)) = false := rfl
theorem jc2_u : jc2 jU = false := rfl
theorem jc2_f {z : UInt32} : jc2 (.inr (.inr (.float z))) = false := rfl
theorem a_OB_init {x0 : JV} : jargs 0 [x0] = [x0] := by
  unfold jargs
  rw [show jmaxL 0 = 1 by decide +kernel]
  rfl
theorem k_OB_init : jcls 0 = 10 := by decide +kernel
theorem a_Object_init {x0 : JV} : jargs 1 [x0] = [x0] := by
  unfold jargs
  rw [show jmaxL 1 = 1 by decide +kernel]
  rfl
theorem a_Signature_init {x0 : JV} : jargs 2 [x0] = [x0] := by
  unfold jargs
  rw [show jmaxL 2 = 1 by decide +kernel]
  rfl
theorem k_Signature_init : jcls 2 = 6 := by decide +kernel
theorem a_State_init {x0 : JV} : jargs 3 [x0] = [x0, jU] := by
  unfold jargs
  rw [show jmaxL 3 = 2 by decide +kernel]
  rfl
theorem k_State_init : jcls 3 = 7 := by decide +kernel
theorem a_Rule_init {x0 : JV} : jargs 4 [x0] = [x0] := by
  unfold jargs
  rw [show jmaxL 4 = 1 by decide +kernel]
  rfl
theorem k_Rule_init : jcls 4 = 5 := by decide +kernel
theorem a_Term_init {x0 x1 : JV} : jargs 5 [x0, x1] = [x0, x1] := by
  unfold jargs
  rw [show jmaxL 5 = 2 by decide +kernel]
  rfl
theorem k_Term_init : jcls 5 = 8 := by decide +kernel
theorem a_Math_max {x0 x1 : JV} : jargs 6 [x0, x1] = [x0, x1] := by
  unfold jargs
  rw [show jmaxL 6 = 2 by decide +kernel]
  rfl
theorem a_Rewriter_init {x0 : JV} : jargs 7 [x0] = [x0] := by
  unfold jargs
  rw [show jmaxL 7 = 1 by decide +kernel]
  rfl
theorem k_Rewriter_init : jcls 7 = 4 := by decide +kernel
theorem a_Unifier_init {x0 : JV} : jargs 8 [x0] = [x0] := by
  unfold jargs
  rw [show jmaxL 8 = 1 by decide +kernel]
  rfl
theorem k_Unifier_init : jcls 8 = 9 := by decide +kernel
theorem a_Parser_init {x0 : JV} : jargs 9 [x0] = [x0] := by
  unfold jargs
  rw [show jmaxL 9 = 1 by decide +kernel]
  rfl
theorem k_Parser_init : jcls 9 = 3 := by decide +kernel
theorem a_PairList_init {x0 : JV} : jargs 10 [x0] = [x0, jU] := by
  unfold jargs
  rw [show jmaxL 10 = 2 by decide +kernel]
  rfl
theorem k_PairList_init : jcls 10 = 2 := by decide +kernel
theorem a_Output_init {x0 : JV} : jargs 11 [x0] = [x0] := by
  unfold jargs
  rw [show jmaxL 11 = 1 by decide +kernel]
  rfl
theorem k_Output_init : jcls 11 = 1 := by decide +kernel
theorem a_History_init {x0 : JV} : jargs 12 [x0] = [x0, jU] := by
  unfold jargs
  rw [show jmaxL 12 = 2 by decide +kernel]
  rfl
theorem k_History_init : jcls 12 = 0 := by decide +kernel
theorem a_OB_append {x0 x1 x2 x3 x4 x5 : JV} : jargs 13 [x0, x1, x2, x3, x4, x5] = [x0, x1, x2, x3, x4, x5] := by
  unfold jargs
  rw [show jmaxL 13 = 6 by decide +kernel]
  rfl
theorem k_OB_append : jcls 13 = 10 := by decide +kernel
theorem a_Parser_putFourBytes {x0 x1 : JV} : jargs 14 [x0, x1] = [x0, x1, jU] := by
  unfold jargs
  rw [show jmaxL 14 = 3 by decide +kernel]
  rfl
theorem k_Parser_putFourBytes : jcls 14 = 3 := by decide +kernel
theorem a_OB_parseErrorCode {x0 : JV} : jargs 15 [x0] = [x0] := by
  unfold jargs
  rw [show jmaxL 15 = 1 by decide +kernel]
  rfl
theorem k_OB_parseErrorCode : jcls 15 = 10 := by decide +kernel
theorem a_OB_parseErrorPosition {x0 : JV} : jargs 16 [x0] = [x0] := by
  unfold jargs
  rw [show jmaxL 16 = 1 by decide +kernel]
  rfl
theorem k_OB_parseErrorPosition : jcls 16 = 10 := by decide +kernel
theorem a_OB_bufferLength {x0 : JV} : jargs 17 [x0] = [x0] := by
  unfold jargs
  rw [show jmaxL 17 = 1 by decide +kernel]
  rfl
theorem k_OB_bufferLength : jcls 17 = 10 := by decide +kernel
theorem a_OB_undoCount {x0 : JV} : jargs 18 [x0] = [x0] := by
  unfold jargs
  rw [show jmaxL 18 = 1 by decide +kernel]
  rfl
theorem k_OB_undoCount : jcls 18 = 10 := by decide +kernel
theorem a_Lw_parseSystem {x0 x1 x2 : JV} : jargs 19 [x0, x1, x2] = [x0, x1, x2, jU] := by
  unfold jargs
  rw [show jmaxL 19 = 4 by decide +kernel]
  rfl
theorem a_OB_parseSystem {x0 x1 : JV} : jargs 20 [x0, x1] = [x0, x1, jU] := by
  unfold jargs
  rw [show jmaxL 20 = 3 by decide +kernel]
  rfl
theorem k_OB_parseSystem : jcls 20 = 10 := by decide +kernel
theorem a_Parser_run {x0 x1 : JV} : jargs 21 [x0, x1] = [x0, x1, jU, jU] := by
  unfold jargs
  rw [show jmaxL 21 = 4 by decide +kernel]
  rfl
theorem k_Parser_run : jcls 21 = 3 := by decide +kernel
theorem a_State_clear {x0 : JV} : jargs 22 [x0] = [x0] := by
  unfold jargs
  rw [show jmaxL 22 = 1 by decide +kernel]
  rfl
theorem k_State_clear : jcls 22 = 7 := by decide +kernel
theorem a_Parser_next {x0 : JV} : jargs 23 [x0] = [x0] := by
  unfold jargs
  rw [show jmaxL 23 = 1 by decide +kernel]
  rfl
theorem k_Parser_next : jcls 23 = 3 := by decide +kernel
theorem a_Parser_byteAt {x0 x1 : JV} : jargs 24 [x0, x1] = [x0, x1] := by
  unfold jargs
  rw [show jmaxL 24 = 2 by decide +kernel]
  rfl
theorem k_Parser_byteAt : jcls 24 = 3 := by decide +kernel
theorem a_Parser_kindOfByte {x0 x1 : JV} : jargs 25 [x0, x1] = [x0, x1, jU] := by
  unfold jargs
  rw [show jmaxL 25 = 3 by decide +kernel]
  rfl
theorem k_Parser_kindOfByte : jcls 25 = 3 := by decide +kernel
theorem a_Parser_isWord {x0 x1 : JV} : jargs 26 [x0, x1] = [x0, x1, jU] := by
  unfold jargs
  rw [show jmaxL 26 = 3 by decide +kernel]
  rfl
theorem k_Parser_isWord : jcls 26 = 3 := by decide +kernel
theorem a_String_length {x0 : JV} : jargs 27 [x0] = [x0] := by
  unfold jargs
  rw [show jmaxL 27 = 1 by decide +kernel]
  rfl
theorem k_String_length : jcls 27 = 50 := by decide +kernel
theorem a_String_coder {x0 : JV} : jargs 28 [x0] = [x0] := by
  unfold jargs
  rw [show jmaxL 28 = 1 by decide +kernel]
  rfl
theorem k_String_coder : jcls 28 = 50 := by decide +kernel
theorem a_String_charAt {x0 x1 : JV} : jargs 29 [x0, x1] = [x0, x1] := by
  unfold jargs
  rw [show jmaxL 29 = 2 by decide +kernel]
  rfl
theorem k_String_charAt : jcls 29 = 50 := by decide +kernel
theorem a_String_isLatin1 {x0 : JV} : jargs 30 [x0] = [x0] := by
  unfold jargs
  rw [show jmaxL 30 = 1 by decide +kernel]
  rfl
theorem k_String_isLatin1 : jcls 30 = 50 := by decide +kernel
theorem a_StringLatin1_charAt {x0 x1 : JV} : jargs 31 [x0, x1] = [x0, x1] := by
  unfold jargs
  rw [show jmaxL 31 = 2 by decide +kernel]
  rfl
theorem a_String_checkIndex {x0 x1 : JV} : jargs 32 [x0, x1] = [x0, x1] := by
  unfold jargs
  rw [show jmaxL 32 = 2 by decide +kernel]
  rfl
theorem a_Preconditions_checkIndex {x0 x1 x2 : JV} : jargs 33 [x0, x1, x2] = [x0, x1, x2] := by
  unfold jargs
  rw [show jmaxL 33 = 3 by decide +kernel]
  rfl
theorem a_Parser_fail {x0 x1 : JV} : jargs 34 [x0, x1] = [x0, x1] := by
  unfold jargs
  rw [show jmaxL 34 = 2 by decide +kernel]
  rfl
theorem k_Parser_fail : jcls 34 = 3 := by decide +kernel
theorem a_Parser_readSymbol {x0 : JV} : jargs 35 [x0] = [x0, jU] := by
  unfold jargs
  rw [show jmaxL 35 = 2 by decide +kernel]
  rfl
theorem k_Parser_readSymbol : jcls 35 = 3 := by decide +kernel
theorem a_Parser_symbolOfWord {x0 : JV} : jargs 36 [x0] = [x0, jU] := by
  unfold jargs
  rw [show jmaxL 36 = 2 by decide +kernel]
  rfl
theorem k_Parser_symbolOfWord : jcls 36 = 3 := by decide +kernel
theorem a_Parser_isNamed {x0 x1 : JV} : jargs 37 [x0, x1] = [x0, x1, jU] := by
  unfold jargs
  rw [show jmaxL 37 = 3 by decide +kernel]
  rfl
theorem k_Parser_isNamed : jcls 37 = 3 := by decide +kernel
theorem a_Signature_nameLength {x0 x1 : JV} : jargs 38 [x0, x1] = [x0, x1] := by
  unfold jargs
  rw [show jmaxL 38 = 2 by decide +kernel]
  rfl
theorem k_Signature_nameLength : jcls 38 = 6 := by decide +kernel
theorem a_Signature_letter {x0 x1 x2 : JV} : jargs 39 [x0, x1, x2] = [x0, x1, x2, jU] := by
  unfold jargs
  rw [show jmaxL 39 = 4 by decide +kernel]
  rfl
theorem k_Signature_letter : jcls 39 = 6 := by decide +kernel
theorem a_Signature_begin {x0 : JV} : jargs 40 [x0] = [x0] := by
  unfold jargs
  rw [show jmaxL 40 = 1 by decide +kernel]
  rfl
theorem k_Signature_begin : jcls 40 = 6 := by decide +kernel
theorem a_Signature_addLetter {x0 x1 : JV} : jargs 41 [x0, x1] = [x0, x1, jU] := by
  unfold jargs
  rw [show jmaxL 41 = 3 by decide +kernel]
  rfl
theorem k_Signature_addLetter : jcls 41 = 6 := by decide +kernel
theorem a_Parser_readDigit {x0 x1 : JV} : jargs 42 [x0, x1] = [x0, x1] := by
  unfold jargs
  rw [show jmaxL 42 = 2 by decide +kernel]
  rfl
theorem k_Parser_readDigit : jcls 42 = 3 := by decide +kernel
theorem a_Parser_digit {x0 : JV} : jargs 43 [x0] = [x0] := by
  unfold jargs
  rw [show jmaxL 43 = 1 by decide +kernel]
  rfl
theorem k_Parser_digit : jcls 43 = 3 := by decide +kernel
theorem a_Signature_finish {x0 x1 : JV} : jargs 44 [x0, x1] = [x0, x1] := by
  unfold jargs
  rw [show jmaxL 44 = 2 by decide +kernel]
  rfl
theorem k_Signature_finish : jcls 44 = 6 := by decide +kernel
theorem a_Parser_readRule {x0 : JV} : jargs 45 [x0] = [x0, jU] := by
  unfold jargs
  rw [show jmaxL 45 = 2 by decide +kernel]
  rfl
theorem k_Parser_readRule : jcls 45 = 3 := by decide +kernel
theorem a_State_rule {x0 x1 : JV} : jargs 46 [x0, x1] = [x0, x1, jU] := by
  unfold jargs
  rw [show jmaxL 46 = 3 by decide +kernel]
  rfl
theorem k_State_rule : jcls 46 = 7 := by decide +kernel
theorem a_Parser_readTerm {x0 x1 x2 x3 : JV} : jargs 47 [x0, x1, x2, x3] = [x0, x1, x2, x3, jU, jU, jU, jU] := by
  unfold jargs
  rw [show jmaxL 47 = 8 by decide +kernel]
  rfl
theorem k_Parser_readTerm : jcls 47 = 3 := by decide +kernel
theorem a_Term_clear {x0 : JV} : jargs 48 [x0] = [x0] := by
  unfold jargs
  rw [show jmaxL 48 = 1 by decide +kernel]
  rfl
theorem k_Term_clear : jcls 48 = 8 := by decide +kernel
theorem a_Parser_faultOfNode {x0 x1 x2 x3 : JV} : jargs 49 [x0, x1, x2, x3] = [x0, x1, x2, x3] := by
  unfold jargs
  rw [show jmaxL 49 = 4 by decide +kernel]
  rfl
theorem k_Parser_faultOfNode : jcls 49 = 3 := by decide +kernel
theorem a_Parser_variableOfToken {x0 : JV} : jargs 50 [x0] = [x0] := by
  unfold jargs
  rw [show jmaxL 50 = 1 by decide +kernel]
  rfl
theorem k_Parser_variableOfToken : jcls 50 = 3 := by decide +kernel
theorem a_Term_variableNode {x0 : JV} : jargs 51 [x0] = [x0] := by
  unfold jargs
  rw [show jmaxL 51 = 1 by decide +kernel]
  rfl
theorem a_Term_count {x0 x1 : JV} : jargs 52 [x0, x1] = [x0, x1, jU, jU] := by
  unfold jargs
  rw [show jmaxL 52 = 4 by decide +kernel]
  rfl
theorem k_Term_count : jcls 52 = 8 := by decide +kernel
theorem a_Term_get {x0 x1 : JV} : jargs 53 [x0, x1] = [x0, x1] := by
  unfold jargs
  rw [show jmaxL 53 = 2 by decide +kernel]
  rfl
theorem k_Term_get : jcls 53 = 8 := by decide +kernel
theorem a_Parser_nodeOfToken {x0 : JV} : jargs 54 [x0] = [x0, jU] := by
  unfold jargs
  rw [show jmaxL 54 = 2 by decide +kernel]
  rfl
theorem k_Parser_nodeOfToken : jcls 54 = 3 := by decide +kernel
theorem a_Signature_arity {x0 x1 : JV} : jargs 55 [x0, x1] = [x0, x1] := by
  unfold jargs
  rw [show jmaxL 55 = 2 by decide +kernel]
  rfl
theorem k_Signature_arity : jcls 55 = 6 := by decide +kernel
theorem a_Term_symbolNode {x0 x1 : JV} : jargs 56 [x0, x1] = [x0, x1] := by
  unfold jargs
  rw [show jmaxL 56 = 2 by decide +kernel]
  rfl
theorem a_Term_add {x0 x1 : JV} : jargs 57 [x0, x1] = [x0, x1] := by
  unfold jargs
  rw [show jmaxL 57 = 2 by decide +kernel]
  rfl
theorem k_Term_add : jcls 57 = 8 := by decide +kernel
theorem a_Term_arityOf {x0 : JV} : jargs 58 [x0] = [x0] := by
  unfold jargs
  rw [show jmaxL 58 = 1 by decide +kernel]
  rfl
theorem a_Parser_closeBrackets {x0 x1 : JV} : jargs 59 [x0, x1] = [x0, x1, jU, jU] := by
  unfold jargs
  rw [show jmaxL 59 = 4 by decide +kernel]
  rfl
theorem k_Parser_closeBrackets : jcls 59 = 3 := by decide +kernel
theorem a_Parser_readPlainTerm {x0 : JV} : jargs 60 [x0] = [x0] := by
  unfold jargs
  rw [show jmaxL 60 = 1 by decide +kernel]
  rfl
theorem k_Parser_readPlainTerm : jcls 60 = 3 := by decide +kernel
theorem a_State_term {x0 x1 : JV} : jargs 61 [x0, x1] = [x0, x1, jU] := by
  unfold jargs
  rw [show jmaxL 61 = 3 by decide +kernel]
  rfl
theorem k_State_term : jcls 61 = 7 := by decide +kernel
theorem a_Parser_readCopy {x0 : JV} : jargs 62 [x0] = [x0, jU] := by
  unfold jargs
  rw [show jmaxL 62 = 2 by decide +kernel]
  rfl
theorem k_Parser_readCopy : jcls 62 = 3 := by decide +kernel
theorem a_State_addTerm {x0 x1 x2 x3 : JV} : jargs 63 [x0, x1, x2, x3] = [x0, x1, x2, x3, jU] := by
  unfold jargs
  rw [show jmaxL 63 = 5 by decide +kernel]
  rfl
theorem k_State_addTerm : jcls 63 = 7 := by decide +kernel
theorem a_Term_addPart {x0 x1 x2 x3 : JV} : jargs 64 [x0, x1, x2, x3] = [x0, x1, x2, x3, jU] := by
  unfold jargs
  rw [show jmaxL 64 = 5 by decide +kernel]
  rfl
theorem k_Term_addPart : jcls 64 = 8 := by decide +kernel
theorem a_Parser_readFlip {x0 : JV} : jargs 65 [x0] = [x0, jU] := by
  unfold jargs
  rw [show jmaxL 65 = 2 by decide +kernel]
  rfl
theorem k_Parser_readFlip : jcls 65 = 3 := by decide +kernel
theorem a_Rule_canTurn {x0 : JV} : jargs 66 [x0] = [x0, jU, jU] := by
  unfold jargs
  rw [show jmaxL 66 = 3 by decide +kernel]
  rfl
theorem k_Rule_canTurn : jcls 66 = 5 := by decide +kernel
theorem a_Rule_turn {x0 : JV} : jargs 67 [x0] = [x0, jU] := by
  unfold jargs
  rw [show jmaxL 67 = 2 by decide +kernel]
  rfl
theorem k_Rule_turn : jcls 67 = 5 := by decide +kernel
theorem a_Parser_readStep {x0 : JV} : jargs 68 [x0] = [x0, jU] := by
  unfold jargs
  rw [show jmaxL 68 = 2 by decide +kernel]
  rfl
theorem k_Parser_readStep : jcls 68 = 3 := by decide +kernel
theorem a_Rewriter_step {x0 x1 x2 x3 : JV} : jargs 69 [x0, x1, x2, x3] = [x0, x1, x2, x3, jU] := by
  unfold jargs
  rw [show jmaxL 69 = 5 by decide +kernel]
  rfl
theorem k_Rewriter_step : jcls 69 = 4 := by decide +kernel
theorem a_Rewriter_redex {x0 x1 x2 x3 : JV} : jargs 70 [x0, x1, x2, x3] = [x0, x1, x2, x3, jU, jU, jU] := by
  unfold jargs
  rw [show jmaxL 70 = 7 by decide +kernel]
  rfl
theorem k_Rewriter_redex : jcls 70 = 4 := by decide +kernel
theorem a_Rewriter_firstRule {x0 x1 x2 x3 : JV} : jargs 71 [x0, x1, x2, x3] = [x0, x1, x2, x3, jU] := by
  unfold jargs
  rw [show jmaxL 71 = 5 by decide +kernel]
  rfl
theorem k_Rewriter_firstRule : jcls 71 = 4 := by decide +kernel
theorem a_Rewriter_match {x0 x1 x2 x3 : JV} : jargs 72 [x0, x1, x2, x3] = [x0, x1, x2, x3, jU, jU, jU, jU, jU] := by
  unfold jargs
  rw [show jmaxL 72 = 9 by decide +kernel]
  rfl
theorem k_Rewriter_match : jcls 72 = 4 := by decide +kernel
theorem a_Arrays_fill {x0 x1 : JV} : jargs 73 [x0, x1] = [x0, x1, jU, jU] := by
  unfold jargs
  rw [show jmaxL 73 = 4 by decide +kernel]
  rfl
theorem a_Term_sameParts {x0 x1 x2 : JV} : jargs 74 [x0, x1, x2] = [x0, x1, x2, jU, jU, jU] := by
  unfold jargs
  rw [show jmaxL 74 = 6 by decide +kernel]
  rfl
theorem k_Term_sameParts : jcls 74 = 8 := by decide +kernel
theorem a_Term_end {x0 x1 : JV} : jargs 75 [x0, x1] = [x0, x1, jU, jU, jU] := by
  unfold jargs
  rw [show jmaxL 75 = 5 by decide +kernel]
  rfl
theorem k_Term_end : jcls 75 = 8 := by decide +kernel
theorem a_Rewriter_buildFirst {x0 x1 x2 x3 : JV} : jargs 76 [x0, x1, x2, x3] = [x0, x1, x2, x3, jU] := by
  unfold jargs
  rw [show jmaxL 76 = 5 by decide +kernel]
  rfl
theorem k_Rewriter_buildFirst : jcls 76 = 4 := by decide +kernel
theorem a_Rewriter_build {x0 x1 x2 x3 : JV} : jargs 77 [x0, x1, x2, x3] = [x0, x1, x2, x3, jU, jU, jU, jU, jU] := by
  unfold jargs
  rw [show jmaxL 77 = 9 by decide +kernel]
  rfl
theorem k_Rewriter_build : jcls 77 = 4 := by decide +kernel
theorem a_Term_copyFrom {x0 x1 : JV} : jargs 78 [x0, x1] = [x0, x1, jU, jU] := by
  unfold jargs
  rw [show jmaxL 78 = 4 by decide +kernel]
  rfl
theorem k_Term_copyFrom : jcls 78 = 8 := by decide +kernel
theorem a_Math_min {x0 x1 : JV} : jargs 79 [x0, x1] = [x0, x1] := by
  unfold jargs
  rw [show jmaxL 79 = 2 by decide +kernel]
  rfl
theorem a_Signature_copyFrom {x0 x1 : JV} : jargs 80 [x0, x1] = [x0, x1, jU] := by
  unfold jargs
  rw [show jmaxL 80 = 3 by decide +kernel]
  rfl
theorem k_Signature_copyFrom : jcls 80 = 6 := by decide +kernel
theorem a_OB_adopt {x0 x1 : JV} : jargs 81 [x0, x1] = [x0, x1] := by
  unfold jargs
  rw [show jmaxL 81 = 2 by decide +kernel]
  rfl
theorem k_OB_adopt : jcls 81 = 10 := by decide +kernel
theorem a_State_copyFrom {x0 x1 : JV} : jargs 82 [x0, x1] = [x0, x1, jU] := by
  unfold jargs
  rw [show jmaxL 82 = 3 by decide +kernel]
  rfl
theorem k_State_copyFrom : jcls 82 = 7 := by decide +kernel
theorem a_Rule_copyFrom {x0 x1 : JV} : jargs 83 [x0, x1] = [x0, x1] := by
  unfold jargs
  rw [show jmaxL 83 = 2 by decide +kernel]
  rfl
theorem k_Rule_copyFrom : jcls 83 = 5 := by decide +kernel
theorem a_Lw_symbolCount {x0 x1 : JV} : jargs 84 [x0, x1] = [x0, x1, jU] := by
  unfold jargs
  rw [show jmaxL 84 = 3 by decide +kernel]
  rfl
theorem a_OB_symbolCount {x0 : JV} : jargs 85 [x0] = [x0] := by
  unfold jargs
  rw [show jmaxL 85 = 1 by decide +kernel]
  rfl
theorem k_OB_symbolCount : jcls 85 = 10 := by decide +kernel
theorem a_OB_requireSystem {x0 : JV} : jargs 86 [x0] = [x0] := by
  unfold jargs
  rw [show jmaxL 86 = 1 by decide +kernel]
  rfl
theorem k_OB_requireSystem : jcls 86 = 10 := by decide +kernel
theorem a_Lw_symbolArity {x0 x1 x2 : JV} : jargs 87 [x0, x1, x2] = [x0, x1, x2, jU] := by
  unfold jargs
  rw [show jmaxL 87 = 4 by decide +kernel]
  rfl
theorem a_OB_symbolArity {x0 x1 : JV} : jargs 88 [x0, x1] = [x0, x1] := by
  unfold jargs
  rw [show jmaxL 88 = 2 by decide +kernel]
  rfl
theorem k_OB_symbolArity : jcls 88 = 10 := by decide +kernel
theorem a_OB_requireIndex {x0 x1 x2 : JV} : jargs 89 [x0, x1, x2] = [x0, x1, x2] := by
  unfold jargs
  rw [show jmaxL 89 = 3 by decide +kernel]
  rfl
theorem k_OB_requireIndex : jcls 89 = 10 := by decide +kernel
theorem a_Lw_symbolLetter {x0 x1 x2 x3 : JV} : jargs 90 [x0, x1, x2, x3] = [x0, x1, x2, x3, jU] := by
  unfold jargs
  rw [show jmaxL 90 = 5 by decide +kernel]
  rfl
theorem a_OB_symbolLetter {x0 x1 x2 : JV} : jargs 91 [x0, x1, x2] = [x0, x1, x2] := by
  unfold jargs
  rw [show jmaxL 91 = 3 by decide +kernel]
  rfl
theorem k_OB_symbolLetter : jcls 91 = 10 := by decide +kernel
theorem a_Lw_symbolUses {x0 x1 x2 : JV} : jargs 92 [x0, x1, x2] = [x0, x1, x2, jU] := by
  unfold jargs
  rw [show jmaxL 92 = 4 by decide +kernel]
  rfl
theorem a_OB_symbolUses {x0 x1 : JV} : jargs 93 [x0, x1] = [x0, x1, jU, jU, jU, jU] := by
  unfold jargs
  rw [show jmaxL 93 = 6 by decide +kernel]
  rfl
theorem k_OB_symbolUses : jcls 93 = 10 := by decide +kernel
theorem a_Lw_ruleCount {x0 x1 : JV} : jargs 94 [x0, x1] = [x0, x1, jU] := by
  unfold jargs
  rw [show jmaxL 94 = 3 by decide +kernel]
  rfl
theorem a_OB_ruleCount {x0 : JV} : jargs 95 [x0] = [x0] := by
  unfold jargs
  rw [show jmaxL 95 = 1 by decide +kernel]
  rfl
theorem k_OB_ruleCount : jcls 95 = 10 := by decide +kernel
theorem a_Lw_leftSize {x0 x1 x2 : JV} : jargs 96 [x0, x1, x2] = [x0, x1, x2, jU] := by
  unfold jargs
  rw [show jmaxL 96 = 4 by decide +kernel]
  rfl
theorem a_OB_leftSize {x0 x1 : JV} : jargs 97 [x0, x1] = [x0, x1] := by
  unfold jargs
  rw [show jmaxL 97 = 2 by decide +kernel]
  rfl
theorem k_OB_leftSize : jcls 97 = 10 := by decide +kernel
theorem a_OB_requireRule {x0 x1 : JV} : jargs 98 [x0, x1] = [x0, x1] := by
  unfold jargs
  rw [show jmaxL 98 = 2 by decide +kernel]
  rfl
theorem k_OB_requireRule : jcls 98 = 10 := by decide +kernel
theorem a_Lw_rightSize {x0 x1 x2 : JV} : jargs 99 [x0, x1, x2] = [x0, x1, x2, jU] := by
  unfold jargs
  rw [show jmaxL 99 = 4 by decide +kernel]
  rfl
theorem a_OB_rightSize {x0 x1 : JV} : jargs 100 [x0, x1] = [x0, x1] := by
  unfold jargs
  rw [show jmaxL 100 = 2 by decide +kernel]
  rfl
theorem k_OB_rightSize : jcls 100 = 10 := by decide +kernel
theorem a_Lw_isLeftLinear {x0 x1 x2 : JV} : jargs 101 [x0, x1, x2] = [x0, x1, x2, jU] := by
  unfold jargs
  rw [show jmaxL 101 = 4 by decide +kernel]
  rfl
theorem a_OB_isLeftLinear {x0 x1 : JV} : jargs 102 [x0, x1] = [x0, x1, jU, jU] := by
  unfold jargs
  rw [show jmaxL 102 = 4 by decide +kernel]
  rfl
theorem k_OB_isLeftLinear : jcls 102 = 10 := by decide +kernel
theorem a_Lw_isCollapsing {x0 x1 x2 : JV} : jargs 103 [x0, x1, x2] = [x0, x1, x2, jU] := by
  unfold jargs
  rw [show jmaxL 103 = 4 by decide +kernel]
  rfl
theorem a_OB_isCollapsing {x0 x1 : JV} : jargs 104 [x0, x1] = [x0, x1] := by
  unfold jargs
  rw [show jmaxL 104 = 2 by decide +kernel]
  rfl
theorem k_OB_isCollapsing : jcls 104 = 10 := by decide +kernel
theorem a_Lw_isDuplicating {x0 x1 x2 : JV} : jargs 105 [x0, x1, x2] = [x0, x1, x2, jU] := by
  unfold jargs
  rw [show jmaxL 105 = 4 by decide +kernel]
  rfl
theorem a_OB_isDuplicating {x0 x1 : JV} : jargs 106 [x0, x1] = [x0, x1] := by
  unfold jargs
  rw [show jmaxL 106 = 2 by decide +kernel]
  rfl
theorem k_OB_isDuplicating : jcls 106 = 10 := by decide +kernel
theorem a_Rule_duplicates {x0 : JV} : jargs 107 [x0] = [x0, jU, jU] := by
  unfold jargs
  rw [show jmaxL 107 = 3 by decide +kernel]
  rfl
theorem k_Rule_duplicates : jcls 107 = 5 := by decide +kernel
theorem a_Lw_decreasesSize {x0 x1 x2 : JV} : jargs 108 [x0, x1, x2] = [x0, x1, x2, jU] := by
  unfold jargs
  rw [show jmaxL 108 = 4 by decide +kernel]
  rfl
theorem a_OB_decreasesSize {x0 x1 : JV} : jargs 109 [x0, x1] = [x0, x1, jU] := by
  unfold jargs
  rw [show jmaxL 109 = 3 by decide +kernel]
  rfl
theorem k_OB_decreasesSize : jcls 109 = 10 := by decide +kernel
theorem a_Lw_termCount {x0 x1 : JV} : jargs 110 [x0, x1] = [x0, x1, jU] := by
  unfold jargs
  rw [show jmaxL 110 = 3 by decide +kernel]
  rfl
theorem a_OB_termCount {x0 : JV} : jargs 111 [x0] = [x0] := by
  unfold jargs
  rw [show jmaxL 111 = 1 by decide +kernel]
  rfl
theorem k_OB_termCount : jcls 111 = 10 := by decide +kernel
theorem a_Lw_termSize {x0 x1 x2 : JV} : jargs 112 [x0, x1, x2] = [x0, x1, x2, jU] := by
  unfold jargs
  rw [show jmaxL 112 = 4 by decide +kernel]
  rfl
theorem a_OB_termSize {x0 x1 : JV} : jargs 113 [x0, x1] = [x0, x1] := by
  unfold jargs
  rw [show jmaxL 113 = 2 by decide +kernel]
  rfl
theorem k_OB_termSize : jcls 113 = 10 := by decide +kernel
theorem a_OB_requireTerm {x0 x1 : JV} : jargs 114 [x0, x1] = [x0, x1] := by
  unfold jargs
  rw [show jmaxL 114 = 2 by decide +kernel]
  rfl
theorem k_OB_requireTerm : jcls 114 = 10 := by decide +kernel
theorem a_Lw_termDepth {x0 x1 x2 : JV} : jargs 115 [x0, x1, x2] = [x0, x1, x2, jU] := by
  unfold jargs
  rw [show jmaxL 115 = 4 by decide +kernel]
  rfl
theorem a_OB_termDepth {x0 x1 : JV} : jargs 116 [x0, x1] = [x0, x1] := by
  unfold jargs
  rw [show jmaxL 116 = 2 by decide +kernel]
  rfl
theorem k_OB_termDepth : jcls 116 = 10 := by decide +kernel
theorem a_OB_depthOf {x0 x1 : JV} : jargs 117 [x0, x1] = [x0, x1, jU, jU, jU, jU] := by
  unfold jargs
  rw [show jmaxL 117 = 6 by decide +kernel]
  rfl
theorem k_OB_depthOf : jcls 117 = 10 := by decide +kernel
theorem a_Lw_symbolAt {x0 x1 x2 x3 : JV} : jargs 118 [x0, x1, x2, x3] = [x0, x1, x2, x3, jU] := by
  unfold jargs
  rw [show jmaxL 118 = 5 by decide +kernel]
  rfl
theorem a_OB_symbolAt {x0 x1 x2 : JV} : jargs 119 [x0, x1, x2] = [x0, x1, x2] := by
  unfold jargs
  rw [show jmaxL 119 = 3 by decide +kernel]
  rfl
theorem k_OB_symbolAt : jcls 119 = 10 := by decide +kernel
theorem a_OB_requireNode {x0 x1 x2 : JV} : jargs 120 [x0, x1, x2] = [x0, x1, x2, jU] := by
  unfold jargs
  rw [show jmaxL 120 = 4 by decide +kernel]
  rfl
theorem k_OB_requireNode : jcls 120 = 10 := by decide +kernel
theorem a_Term_symbolOf {x0 : JV} : jargs 121 [x0] = [x0] := by
  unfold jargs
  rw [show jmaxL 121 = 1 by decide +kernel]
  rfl
theorem a_Lw_variableAt {x0 x1 x2 x3 : JV} : jargs 122 [x0, x1, x2, x3] = [x0, x1, x2, x3, jU] := by
  unfold jargs
  rw [show jmaxL 122 = 5 by decide +kernel]
  rfl
theorem a_OB_variableAt {x0 x1 x2 : JV} : jargs 123 [x0, x1, x2] = [x0, x1, x2] := by
  unfold jargs
  rw [show jmaxL 123 = 3 by decide +kernel]
  rfl
theorem k_OB_variableAt : jcls 123 = 10 := by decide +kernel
theorem a_Term_variableOf {x0 : JV} : jargs 124 [x0] = [x0] := by
  unfold jargs
  rw [show jmaxL 124 = 1 by decide +kernel]
  rfl
theorem a_Lw_subtermSize {x0 x1 x2 x3 : JV} : jargs 125 [x0, x1, x2, x3] = [x0, x1, x2, x3, jU] := by
  unfold jargs
  rw [show jmaxL 125 = 5 by decide +kernel]
  rfl
theorem a_OB_subtermSize {x0 x1 x2 : JV} : jargs 126 [x0, x1, x2] = [x0, x1, x2] := by
  unfold jargs
  rw [show jmaxL 126 = 3 by decide +kernel]
  rfl
theorem k_OB_subtermSize : jcls 126 = 10 := by decide +kernel
theorem a_Lw_isGround {x0 x1 x2 : JV} : jargs 127 [x0, x1, x2] = [x0, x1, x2, jU] := by
  unfold jargs
  rw [show jmaxL 127 = 4 by decide +kernel]
  rfl
theorem a_OB_isGround {x0 x1 : JV} : jargs 128 [x0, x1] = [x0, x1, jU, jU] := by
  unfold jargs
  rw [show jmaxL 128 = 4 by decide +kernel]
  rfl
theorem k_OB_isGround : jcls 128 = 10 := by decide +kernel
theorem a_Lw_areEqual {x0 x1 x2 x3 : JV} : jargs 129 [x0, x1, x2, x3] = [x0, x1, x2, x3, jU] := by
  unfold jargs
  rw [show jmaxL 129 = 5 by decide +kernel]
  rfl
theorem a_OB_areEqual {x0 x1 x2 : JV} : jargs 130 [x0, x1, x2] = [x0, x1, x2] := by
  unfold jargs
  rw [show jmaxL 130 = 3 by decide +kernel]
  rfl
theorem k_OB_areEqual : jcls 130 = 10 := by decide +kernel
theorem a_Term_sameAs {x0 x1 : JV} : jargs 131 [x0, x1] = [x0, x1, jU] := by
  unfold jargs
  rw [show jmaxL 131 = 3 by decide +kernel]
  rfl
theorem k_Term_sameAs : jcls 131 = 8 := by decide +kernel
theorem a_Lw_averageSize {x0 x1 : JV} : jargs 132 [x0, x1] = [x0, x1, jU] := by
  unfold jargs
  rw [show jmaxL 132 = 3 by decide +kernel]
  rfl
theorem a_OB_averageSize {x0 : JV} : jargs 133 [x0] = [x0, jU, jU] := by
  unfold jargs
  rw [show jmaxL 133 = 3 by decide +kernel]
  rfl
theorem k_OB_averageSize : jcls 133 = 10 := by decide +kernel
theorem a_Lw_matches {x0 x1 x2 x3 x4 : JV} : jargs 134 [x0, x1, x2, x3, x4] = [x0, x1, x2, x3, x4, jU] := by
  unfold jargs
  rw [show jmaxL 134 = 6 by decide +kernel]
  rfl
theorem a_OB_matches {x0 x1 x2 x3 : JV} : jargs 135 [x0, x1, x2, x3] = [x0, x1, x2, x3, jU] := by
  unfold jargs
  rw [show jmaxL 135 = 5 by decide +kernel]
  rfl
theorem k_OB_matches : jcls 135 = 10 := by decide +kernel
theorem a_Lw_ruleAt {x0 x1 x2 x3 : JV} : jargs 136 [x0, x1, x2, x3] = [x0, x1, x2, x3, jU] := by
  unfold jargs
  rw [show jmaxL 136 = 5 by decide +kernel]
  rfl
theorem a_OB_ruleAt {x0 x1 x2 : JV} : jargs 137 [x0, x1, x2] = [x0, x1, x2] := by
  unfold jargs
  rw [show jmaxL 137 = 3 by decide +kernel]
  rfl
theorem k_OB_ruleAt : jcls 137 = 10 := by decide +kernel
theorem a_Lw_redexCount {x0 x1 x2 : JV} : jargs 138 [x0, x1, x2] = [x0, x1, x2, jU] := by
  unfold jargs
  rw [show jmaxL 138 = 4 by decide +kernel]
  rfl
theorem a_OB_redexCount {x0 x1 : JV} : jargs 139 [x0, x1] = [x0, x1] := by
  unfold jargs
  rw [show jmaxL 139 = 2 by decide +kernel]
  rfl
theorem k_OB_redexCount : jcls 139 = 10 := by decide +kernel
theorem a_Rewriter_countRedexes {x0 x1 x2 : JV} : jargs 140 [x0, x1, x2] = [x0, x1, x2, jU, jU] := by
  unfold jargs
  rw [show jmaxL 140 = 5 by decide +kernel]
  rfl
theorem k_Rewriter_countRedexes : jcls 140 = 4 := by decide +kernel
theorem a_Lw_innermostRedex {x0 x1 x2 : JV} : jargs 141 [x0, x1, x2] = [x0, x1, x2, jU] := by
  unfold jargs
  rw [show jmaxL 141 = 4 by decide +kernel]
  rfl
theorem a_OB_innermostRedex {x0 x1 : JV} : jargs 142 [x0, x1] = [x0, x1] := by
  unfold jargs
  rw [show jmaxL 142 = 2 by decide +kernel]
  rfl
theorem k_OB_innermostRedex : jcls 142 = 10 := by decide +kernel
theorem a_Lw_outermostRedex {x0 x1 x2 : JV} : jargs 143 [x0, x1, x2] = [x0, x1, x2, jU] := by
  unfold jargs
  rw [show jmaxL 143 = 4 by decide +kernel]
  rfl
theorem a_OB_outermostRedex {x0 x1 : JV} : jargs 144 [x0, x1] = [x0, x1] := by
  unfold jargs
  rw [show jmaxL 144 = 2 by decide +kernel]
  rfl
theorem k_OB_outermostRedex : jcls 144 = 10 := by decide +kernel
theorem a_Lw_isNormalForm {x0 x1 x2 : JV} : jargs 145 [x0, x1, x2] = [x0, x1, x2, jU] := by
  unfold jargs
  rw [show jmaxL 145 = 4 by decide +kernel]
  rfl
theorem a_OB_isNormalForm {x0 x1 : JV} : jargs 146 [x0, x1] = [x0, x1] := by
  unfold jargs
  rw [show jmaxL 146 = 2 by decide +kernel]
  rfl
theorem k_OB_isNormalForm : jcls 146 = 10 := by decide +kernel
theorem a_Lw_normalShare {x0 x1 : JV} : jargs 147 [x0, x1] = [x0, x1, jU] := by
  unfold jargs
  rw [show jmaxL 147 = 3 by decide +kernel]
  rfl
theorem a_OB_normalShare {x0 : JV} : jargs 148 [x0] = [x0, jU, jU] := by
  unfold jargs
  rw [show jmaxL 148 = 3 by decide +kernel]
  rfl
theorem k_OB_normalShare : jcls 148 = 10 := by decide +kernel
theorem a_Lw_stepsInnermost {x0 x1 x2 : JV} : jargs 149 [x0, x1, x2] = [x0, x1, x2, jU] := by
  unfold jargs
  rw [show jmaxL 149 = 4 by decide +kernel]
  rfl
theorem a_OB_stepsInnermost {x0 x1 : JV} : jargs 150 [x0, x1] = [x0, x1] := by
  unfold jargs
  rw [show jmaxL 150 = 2 by decide +kernel]
  rfl
theorem k_OB_stepsInnermost : jcls 150 = 10 := by decide +kernel
theorem a_Rewriter_reduce {x0 x1 x2 x3 x4 : JV} : jargs 151 [x0, x1, x2, x3, x4] = [x0, x1, x2, x3, x4, jU, jU] := by
  unfold jargs
  rw [show jmaxL 151 = 7 by decide +kernel]
  rfl
theorem k_Rewriter_reduce : jcls 151 = 4 := by decide +kernel
theorem a_Lw_stepsOutermost {x0 x1 x2 : JV} : jargs 152 [x0, x1, x2] = [x0, x1, x2, jU] := by
  unfold jargs
  rw [show jmaxL 152 = 4 by decide +kernel]
  rfl
theorem a_OB_stepsOutermost {x0 x1 : JV} : jargs 153 [x0, x1] = [x0, x1] := by
  unfold jargs
  rw [show jmaxL 153 = 2 by decide +kernel]
  rfl
theorem k_OB_stepsOutermost : jcls 153 = 10 := by decide +kernel
theorem a_Lw_normalFormSize {x0 x1 x2 : JV} : jargs 154 [x0, x1, x2] = [x0, x1, x2, jU] := by
  unfold jargs
  rw [show jmaxL 154 = 4 by decide +kernel]
  rfl
theorem a_OB_normalFormSize {x0 x1 : JV} : jargs 155 [x0, x1] = [x0, x1, jU] := by
  unfold jargs
  rw [show jmaxL 155 = 3 by decide +kernel]
  rfl
theorem k_OB_normalFormSize : jcls 155 = 10 := by decide +kernel
theorem a_Lw_haveSameNormalForm {x0 x1 x2 x3 : JV} : jargs 156 [x0, x1, x2, x3] = [x0, x1, x2, x3, jU] := by
  unfold jargs
  rw [show jmaxL 156 = 5 by decide +kernel]
  rfl
theorem a_OB_haveSameNormalForm {x0 x1 x2 : JV} : jargs 157 [x0, x1, x2] = [x0, x1, x2, jU] := by
  unfold jargs
  rw [show jmaxL 157 = 4 by decide +kernel]
  rfl
theorem k_OB_haveSameNormalForm : jcls 157 = 10 := by decide +kernel
theorem a_Rewriter_meet {x0 x1 x2 x3 x4 : JV} : jargs 158 [x0, x1, x2, x3, x4] = [x0, x1, x2, x3, x4] := by
  unfold jargs
  rw [show jmaxL 158 = 5 by decide +kernel]
  rfl
theorem k_Rewriter_meet : jcls 158 = 4 := by decide +kernel
theorem a_Lw_unify {x0 x1 x2 x3 : JV} : jargs 159 [x0, x1, x2, x3] = [x0, x1, x2, x3, jU] := by
  unfold jargs
  rw [show jmaxL 159 = 5 by decide +kernel]
  rfl
theorem a_OB_unify {x0 x1 x2 : JV} : jargs 160 [x0, x1, x2] = [x0, x1, x2, jU] := by
  unfold jargs
  rw [show jmaxL 160 = 4 by decide +kernel]
  rfl
theorem k_OB_unify : jcls 160 = 10 := by decide +kernel
theorem a_Unifier_unites {x0 x1 x2 : JV} : jargs 161 [x0, x1, x2] = [x0, x1, x2, jU, jU] := by
  unfold jargs
  rw [show jmaxL 161 = 5 by decide +kernel]
  rfl
theorem k_Unifier_unites : jcls 161 = 9 := by decide +kernel
theorem a_Unifier_clear {x0 : JV} : jargs 162 [x0] = [x0] := by
  unfold jargs
  rw [show jmaxL 162 = 1 by decide +kernel]
  rfl
theorem k_Unifier_clear : jcls 162 = 9 := by decide +kernel
theorem a_Unifier_load {x0 x1 x2 : JV} : jargs 163 [x0, x1, x2] = [x0, x1, x2, jU, jU, jU, jU] := by
  unfold jargs
  rw [show jmaxL 163 = 7 by decide +kernel]
  rfl
theorem k_Unifier_load : jcls 163 = 9 := by decide +kernel
theorem a_Unifier_shareVariable {x0 x1 x2 : JV} : jargs 164 [x0, x1, x2] = [x0, x1, x2] := by
  unfold jargs
  rw [show jmaxL 164 = 3 by decide +kernel]
  rfl
theorem k_Unifier_shareVariable : jcls 164 = 9 := by decide +kernel
theorem a_Unifier_solve {x0 x1 x2 : JV} : jargs 165 [x0, x1, x2] = [x0, x1, x2] := by
  unfold jargs
  rw [show jmaxL 165 = 3 by decide +kernel]
  rfl
theorem k_Unifier_solve : jcls 165 = 9 := by decide +kernel
theorem a_Unifier_merge {x0 x1 x2 : JV} : jargs 166 [x0, x1, x2] = [x0, x1, x2, jU, jU, jU, jU, jU] := by
  unfold jargs
  rw [show jmaxL 166 = 8 by decide +kernel]
  rfl
theorem k_Unifier_merge : jcls 166 = 9 := by decide +kernel
theorem a_Unifier_push {x0 x1 : JV} : jargs 167 [x0, x1] = [x0, x1] := by
  unfold jargs
  rw [show jmaxL 167 = 2 by decide +kernel]
  rfl
theorem k_Unifier_push : jcls 167 = 9 := by decide +kernel
theorem a_Unifier_pop {x0 : JV} : jargs 168 [x0] = [x0] := by
  unfold jargs
  rw [show jmaxL 168 = 1 by decide +kernel]
  rfl
theorem k_Unifier_pop : jcls 168 = 9 := by decide +kernel
theorem a_Unifier_root {x0 x1 : JV} : jargs 169 [x0, x1] = [x0, x1, jU, jU] := by
  unfold jargs
  rw [show jmaxL 169 = 4 by decide +kernel]
  rfl
theorem k_Unifier_root : jcls 169 = 9 := by decide +kernel
theorem a_Unifier_label {x0 x1 : JV} : jargs 170 [x0, x1] = [x0, x1] := by
  unfold jargs
  rw [show jmaxL 170 = 2 by decide +kernel]
  rfl
theorem k_Unifier_label : jcls 170 = 9 := by decide +kernel
theorem a_Unifier_hang {x0 x1 x2 : JV} : jargs 171 [x0, x1, x2] = [x0, x1, x2] := by
  unfold jargs
  rw [show jmaxL 171 = 3 by decide +kernel]
  rfl
theorem k_Unifier_hang : jcls 171 = 9 := by decide +kernel
theorem a_Unifier_pushArguments {x0 x1 x2 : JV} : jargs 172 [x0, x1, x2] = [x0, x1, x2, jU, jU, jU] := by
  unfold jargs
  rw [show jmaxL 172 = 6 by decide +kernel]
  rfl
theorem k_Unifier_pushArguments : jcls 172 = 9 := by decide +kernel
theorem a_Unifier_end {x0 x1 : JV} : jargs 173 [x0, x1] = [x0, x1] := by
  unfold jargs
  rw [show jmaxL 173 = 2 by decide +kernel]
  rfl
theorem k_Unifier_end : jcls 173 = 9 := by decide +kernel
theorem a_Unifier_isFinite {x0 : JV} : jargs 174 [x0] = [x0, jU, jU, jU, jU] := by
  unfold jargs
  rw [show jmaxL 174 = 5 by decide +kernel]
  rfl
theorem k_Unifier_isFinite : jcls 174 = 9 := by decide +kernel
theorem a_Unifier_isSettled {x0 x1 : JV} : jargs 175 [x0, x1] = [x0, x1] := by
  unfold jargs
  rw [show jmaxL 175 = 2 by decide +kernel]
  rfl
theorem k_Unifier_isSettled : jcls 175 = 9 := by decide +kernel
theorem a_Unifier_settles {x0 x1 : JV} : jargs 176 [x0, x1] = [x0, x1, jU, jU, jU] := by
  unfold jargs
  rw [show jmaxL 176 = 5 by decide +kernel]
  rfl
theorem k_Unifier_settles : jcls 176 = 9 := by decide +kernel
theorem a_Unifier_settle {x0 x1 : JV} : jargs 177 [x0, x1] = [x0, x1] := by
  unfold jargs
  rw [show jmaxL 177 = 2 by decide +kernel]
  rfl
theorem k_Unifier_settle : jcls 177 = 9 := by decide +kernel
theorem a_Lw_unifiedSize {x0 x1 x2 x3 : JV} : jargs 178 [x0, x1, x2, x3] = [x0, x1, x2, x3, jU] := by
  unfold jargs
  rw [show jmaxL 178 = 5 by decide +kernel]
  rfl
theorem a_OB_unifiedSize {x0 x1 x2 : JV} : jargs 179 [x0, x1, x2] = [x0, x1, x2, jU] := by
  unfold jargs
  rw [show jmaxL 179 = 4 by decide +kernel]
  rfl
theorem k_OB_unifiedSize : jcls 179 = 10 := by decide +kernel
theorem a_Unifier_expand {x0 x1 x2 : JV} : jargs 180 [x0, x1, x2] = [x0, x1, x2, jU, jU] := by
  unfold jargs
  rw [show jmaxL 180 = 5 by decide +kernel]
  rfl
theorem k_Unifier_expand : jcls 180 = 9 := by decide +kernel
theorem a_Unifier_pushReversed {x0 x1 : JV} : jargs 181 [x0, x1] = [x0, x1, jU, jU] := by
  unfold jargs
  rw [show jmaxL 181 = 4 by decide +kernel]
  rfl
theorem k_Unifier_pushReversed : jcls 181 = 9 := by decide +kernel
theorem a_Lw_criticalPairCount {x0 x1 : JV} : jargs 182 [x0, x1] = [x0, x1, jU] := by
  unfold jargs
  rw [show jmaxL 182 = 3 by decide +kernel]
  rfl
theorem a_OB_criticalPairCount {x0 : JV} : jargs 183 [x0] = [x0] := by
  unfold jargs
  rw [show jmaxL 183 = 1 by decide +kernel]
  rfl
theorem k_OB_criticalPairCount : jcls 183 = 10 := by decide +kernel
theorem a_PairList_refresh {x0 x1 : JV} : jargs 184 [x0, x1] = [x0, x1, jU, jU, jU, jU, jU] := by
  unfold jargs
  rw [show jmaxL 184 = 7 by decide +kernel]
  rfl
theorem k_PairList_refresh : jcls 184 = 2 := by decide +kernel
theorem a_PairList_has {x0 x1 : JV} : jargs 185 [x0, x1] = [x0, x1] := by
  unfold jargs
  rw [show jmaxL 185 = 2 by decide +kernel]
  rfl
theorem k_PairList_has : jcls 185 = 2 := by decide +kernel
theorem a_PairList_buildPair {x0 x1 x2 x3 : JV} : jargs 186 [x0, x1, x2, x3] = [x0, x1, x2, x3, jU, jU, jU, jU, jU, jU, jU, jU, jU] := by
  unfold jargs
  rw [show jmaxL 186 = 13 by decide +kernel]
  rfl
theorem k_PairList_buildPair : jcls 186 = 2 := by decide +kernel
theorem a_PairList_firstTerm {x0 x1 : JV} : jargs 187 [x0, x1] = [x0, x1, jU] := by
  unfold jargs
  rw [show jmaxL 187 = 3 by decide +kernel]
  rfl
theorem k_PairList_firstTerm : jcls 187 = 2 := by decide +kernel
theorem a_PairList_secondTerm {x0 x1 : JV} : jargs 188 [x0, x1] = [x0, x1, jU] := by
  unfold jargs
  rw [show jmaxL 188 = 3 by decide +kernel]
  rfl
theorem k_PairList_secondTerm : jcls 188 = 2 := by decide +kernel
theorem a_PairList_nameVariables {x0 x1 x2 : JV} : jargs 189 [x0, x1, x2] = [x0, x1, x2, jU, jU, jU] := by
  unfold jargs
  rw [show jmaxL 189 = 6 by decide +kernel]
  rfl
theorem k_PairList_nameVariables : jcls 189 = 2 := by decide +kernel
theorem a_Term_set {x0 x1 x2 : JV} : jargs 190 [x0, x1, x2] = [x0, x1, x2] := by
  unfold jargs
  rw [show jmaxL 190 = 3 by decide +kernel]
  rfl
theorem k_Term_set : jcls 190 = 8 := by decide +kernel
theorem a_PairList_keep {x0 x1 x2 x3 : JV} : jargs 191 [x0, x1, x2, x3] = [x0, x1, x2, x3] := by
  unfold jargs
  rw [show jmaxL 191 = 4 by decide +kernel]
  rfl
theorem k_PairList_keep : jcls 191 = 2 := by decide +kernel
theorem a_Lw_pairOuterRule {x0 x1 x2 : JV} : jargs 192 [x0, x1, x2] = [x0, x1, x2, jU] := by
  unfold jargs
  rw [show jmaxL 192 = 4 by decide +kernel]
  rfl
theorem a_OB_pairOuterRule {x0 x1 : JV} : jargs 193 [x0, x1] = [x0, x1] := by
  unfold jargs
  rw [show jmaxL 193 = 2 by decide +kernel]
  rfl
theorem k_OB_pairOuterRule : jcls 193 = 10 := by decide +kernel
theorem a_OB_requirePair {x0 x1 : JV} : jargs 194 [x0, x1] = [x0, x1] := by
  unfold jargs
  rw [show jmaxL 194 = 2 by decide +kernel]
  rfl
theorem k_OB_requirePair : jcls 194 = 10 := by decide +kernel
theorem a_PairList_outerRule {x0 x1 : JV} : jargs 195 [x0, x1] = [x0, x1] := by
  unfold jargs
  rw [show jmaxL 195 = 2 by decide +kernel]
  rfl
theorem k_PairList_outerRule : jcls 195 = 2 := by decide +kernel
theorem a_Lw_pairInnerRule {x0 x1 x2 : JV} : jargs 196 [x0, x1, x2] = [x0, x1, x2, jU] := by
  unfold jargs
  rw [show jmaxL 196 = 4 by decide +kernel]
  rfl
theorem a_OB_pairInnerRule {x0 x1 : JV} : jargs 197 [x0, x1] = [x0, x1] := by
  unfold jargs
  rw [show jmaxL 197 = 2 by decide +kernel]
  rfl
theorem k_OB_pairInnerRule : jcls 197 = 10 := by decide +kernel
theorem a_PairList_innerRule {x0 x1 : JV} : jargs 198 [x0, x1] = [x0, x1] := by
  unfold jargs
  rw [show jmaxL 198 = 2 by decide +kernel]
  rfl
theorem k_PairList_innerRule : jcls 198 = 2 := by decide +kernel
theorem a_Lw_pairPosition {x0 x1 x2 : JV} : jargs 199 [x0, x1, x2] = [x0, x1, x2, jU] := by
  unfold jargs
  rw [show jmaxL 199 = 4 by decide +kernel]
  rfl
theorem a_OB_pairPosition {x0 x1 : JV} : jargs 200 [x0, x1] = [x0, x1] := by
  unfold jargs
  rw [show jmaxL 200 = 2 by decide +kernel]
  rfl
theorem k_OB_pairPosition : jcls 200 = 10 := by decide +kernel
theorem a_PairList_position {x0 x1 : JV} : jargs 201 [x0, x1] = [x0, x1] := by
  unfold jargs
  rw [show jmaxL 201 = 2 by decide +kernel]
  rfl
theorem k_PairList_position : jcls 201 = 2 := by decide +kernel
theorem a_Lw_pairJoins {x0 x1 x2 : JV} : jargs 202 [x0, x1, x2] = [x0, x1, x2, jU] := by
  unfold jargs
  rw [show jmaxL 202 = 4 by decide +kernel]
  rfl
theorem a_OB_pairJoins {x0 x1 : JV} : jargs 203 [x0, x1] = [x0, x1] := by
  unfold jargs
  rw [show jmaxL 203 = 2 by decide +kernel]
  rfl
theorem k_OB_pairJoins : jcls 203 = 10 := by decide +kernel
theorem a_PairList_joins {x0 x1 x2 : JV} : jargs 204 [x0, x1, x2] = [x0, x1, x2, jU] := by
  unfold jargs
  rw [show jmaxL 204 = 4 by decide +kernel]
  rfl
theorem k_PairList_joins : jcls 204 = 2 := by decide +kernel
theorem a_Lw_unjoinedPairs {x0 x1 : JV} : jargs 205 [x0, x1] = [x0, x1, jU] := by
  unfold jargs
  rw [show jmaxL 205 = 3 by decide +kernel]
  rfl
theorem a_OB_unjoinedPairs {x0 : JV} : jargs 206 [x0] = [x0, jU, jU] := by
  unfold jargs
  rw [show jmaxL 206 = 3 by decide +kernel]
  rfl
theorem k_OB_unjoinedPairs : jcls 206 = 10 := by decide +kernel
theorem a_Lw_writeTerm {x0 x1 x2 : JV} : jargs 207 [x0, x1, x2] = [x0, x1, x2, jU] := by
  unfold jargs
  rw [show jmaxL 207 = 4 by decide +kernel]
  rfl
theorem a_OB_writeTerm {x0 x1 : JV} : jargs 208 [x0, x1] = [x0, x1, jU] := by
  unfold jargs
  rw [show jmaxL 208 = 3 by decide +kernel]
  rfl
theorem k_OB_writeTerm : jcls 208 = 10 := by decide +kernel
theorem a_Output_addTerm {x0 x1 x2 : JV} : jargs 209 [x0, x1, x2] = [x0, x1, x2, jU, jU, jU] := by
  unfold jargs
  rw [show jmaxL 209 = 6 by decide +kernel]
  rfl
theorem k_Output_addTerm : jcls 209 = 1 := by decide +kernel
theorem a_Output_addName {x0 x1 x2 : JV} : jargs 210 [x0, x1, x2] = [x0, x1, x2, jU, jU] := by
  unfold jargs
  rw [show jmaxL 210 = 5 by decide +kernel]
  rfl
theorem k_Output_addName : jcls 210 = 1 := by decide +kernel
theorem a_Output_addByte {x0 x1 : JV} : jargs 211 [x0, x1] = [x0, x1] := by
  unfold jargs
  rw [show jmaxL 211 = 2 by decide +kernel]
  rfl
theorem k_Output_addByte : jcls 211 = 1 := by decide +kernel
theorem a_Output_closeBrackets {x0 x1 : JV} : jargs 212 [x0, x1] = [x0, x1, jU] := by
  unfold jargs
  rw [show jmaxL 212 = 3 by decide +kernel]
  rfl
theorem k_Output_closeBrackets : jcls 212 = 1 := by decide +kernel
theorem a_Lw_writeRule {x0 x1 x2 : JV} : jargs 213 [x0, x1, x2] = [x0, x1, x2, jU] := by
  unfold jargs
  rw [show jmaxL 213 = 4 by decide +kernel]
  rfl
theorem a_OB_writeRule {x0 x1 : JV} : jargs 214 [x0, x1] = [x0, x1, jU] := by
  unfold jargs
  rw [show jmaxL 214 = 3 by decide +kernel]
  rfl
theorem k_OB_writeRule : jcls 214 = 10 := by decide +kernel
theorem a_Lw_writeNormalForm {x0 x1 x2 : JV} : jargs 215 [x0, x1, x2] = [x0, x1, x2, jU] := by
  unfold jargs
  rw [show jmaxL 215 = 4 by decide +kernel]
  rfl
theorem a_OB_writeNormalForm {x0 x1 : JV} : jargs 216 [x0, x1] = [x0, x1, jU] := by
  unfold jargs
  rw [show jmaxL 216 = 3 by decide +kernel]
  rfl
theorem k_OB_writeNormalForm : jcls 216 = 10 := by decide +kernel
theorem a_Lw_writePair {x0 x1 x2 : JV} : jargs 217 [x0, x1, x2] = [x0, x1, x2, jU] := by
  unfold jargs
  rw [show jmaxL 217 = 4 by decide +kernel]
  rfl
theorem a_OB_writePair {x0 x1 : JV} : jargs 218 [x0, x1] = [x0, x1] := by
  unfold jargs
  rw [show jmaxL 218 = 2 by decide +kernel]
  rfl
theorem k_OB_writePair : jcls 218 = 10 := by decide +kernel
theorem a_Lw_outputByte {x0 x1 x2 : JV} : jargs 219 [x0, x1, x2] = [x0, x1, x2, jU] := by
  unfold jargs
  rw [show jmaxL 219 = 4 by decide +kernel]
  rfl
theorem a_OB_outputByte {x0 x1 : JV} : jargs 220 [x0, x1] = [x0, x1] := by
  unfold jargs
  rw [show jmaxL 220 = 2 by decide +kernel]
  rfl
theorem k_OB_outputByte : jcls 220 = 10 := by decide +kernel
theorem a_Output_byteAt {x0 x1 : JV} : jargs 221 [x0, x1] = [x0, x1] := by
  unfold jargs
  rw [show jmaxL 221 = 2 by decide +kernel]
  rfl
theorem k_Output_byteAt : jcls 221 = 1 := by decide +kernel
theorem a_Lw_rewrite {x0 x1 x2 x3 x4 : JV} : jargs 222 [x0, x1, x2, x3, x4] = [x0, x1, x2, x3, x4, jU] := by
  unfold jargs
  rw [show jmaxL 222 = 6 by decide +kernel]
  rfl
theorem a_OB_rewrite {x0 x1 x2 x3 : JV} : jargs 223 [x0, x1, x2, x3] = [x0, x1, x2, x3, jU, jU] := by
  unfold jargs
  rw [show jmaxL 223 = 6 by decide +kernel]
  rfl
theorem k_OB_rewrite : jcls 223 = 10 := by decide +kernel
theorem a_OB_remember {x0 : JV} : jargs 224 [x0] = [x0] := by
  unfold jargs
  rw [show jmaxL 224 = 1 by decide +kernel]
  rfl
theorem k_OB_remember : jcls 224 = 10 := by decide +kernel
theorem a_History_keep {x0 x1 : JV} : jargs 225 [x0, x1] = [x0, x1, jU] := by
  unfold jargs
  rw [show jmaxL 225 = 3 by decide +kernel]
  rfl
theorem k_History_keep : jcls 225 = 0 := by decide +kernel
theorem a_History_at {x0 x1 : JV} : jargs 226 [x0, x1] = [x0, x1] := by
  unfold jargs
  rw [show jmaxL 226 = 2 by decide +kernel]
  rfl
theorem k_History_at : jcls 226 = 0 := by decide +kernel
theorem a_Lw_stepInnermost {x0 x1 x2 : JV} : jargs 227 [x0, x1, x2] = [x0, x1, x2, jU] := by
  unfold jargs
  rw [show jmaxL 227 = 4 by decide +kernel]
  rfl
theorem a_OB_stepInnermost {x0 x1 : JV} : jargs 228 [x0, x1] = [x0, x1] := by
  unfold jargs
  rw [show jmaxL 228 = 2 by decide +kernel]
  rfl
theorem k_OB_stepInnermost : jcls 228 = 10 := by decide +kernel
theorem a_OB_takeStep {x0 x1 x2 : JV} : jargs 229 [x0, x1, x2] = [x0, x1, x2, jU] := by
  unfold jargs
  rw [show jmaxL 229 = 4 by decide +kernel]
  rfl
theorem k_OB_takeStep : jcls 229 = 10 := by decide +kernel
theorem a_Lw_stepOutermost {x0 x1 x2 : JV} : jargs 230 [x0, x1, x2] = [x0, x1, x2, jU] := by
  unfold jargs
  rw [show jmaxL 230 = 4 by decide +kernel]
  rfl
theorem a_OB_stepOutermost {x0 x1 : JV} : jargs 231 [x0, x1] = [x0, x1] := by
  unfold jargs
  rw [show jmaxL 231 = 2 by decide +kernel]
  rfl
theorem k_OB_stepOutermost : jcls 231 = 10 := by decide +kernel
theorem a_Lw_normalize {x0 x1 x2 : JV} : jargs 232 [x0, x1, x2] = [x0, x1, x2, jU] := by
  unfold jargs
  rw [show jmaxL 232 = 4 by decide +kernel]
  rfl
theorem a_OB_normalize {x0 x1 : JV} : jargs 233 [x0, x1] = [x0, x1, jU, jU] := by
  unfold jargs
  rw [show jmaxL 233 = 4 by decide +kernel]
  rfl
theorem k_OB_normalize : jcls 233 = 10 := by decide +kernel
theorem a_Lw_copySubterm {x0 x1 x2 x3 : JV} : jargs 234 [x0, x1, x2, x3] = [x0, x1, x2, x3, jU] := by
  unfold jargs
  rw [show jmaxL 234 = 5 by decide +kernel]
  rfl
theorem a_OB_copySubterm {x0 x1 x2 : JV} : jargs 235 [x0, x1, x2] = [x0, x1, x2, jU] := by
  unfold jargs
  rw [show jmaxL 235 = 4 by decide +kernel]
  rfl
theorem k_OB_copySubterm : jcls 235 = 10 := by decide +kernel
theorem a_Lw_replaceSubterm {x0 x1 x2 x3 x4 : JV} : jargs 236 [x0, x1, x2, x3, x4] = [x0, x1, x2, x3, x4, jU] := by
  unfold jargs
  rw [show jmaxL 236 = 6 by decide +kernel]
  rfl
theorem a_OB_replaceSubterm {x0 x1 x2 x3 : JV} : jargs 237 [x0, x1, x2, x3] = [x0, x1, x2, x3, jU, jU, jU] := by
  unfold jargs
  rw [show jmaxL 237 = 7 by decide +kernel]
  rfl
theorem k_OB_replaceSubterm : jcls 237 = 10 := by decide +kernel
theorem a_Lw_swapRules {x0 x1 x2 x3 : JV} : jargs 238 [x0, x1, x2, x3] = [x0, x1, x2, x3, jU] := by
  unfold jargs
  rw [show jmaxL 238 = 5 by decide +kernel]
  rfl
theorem a_OB_swapRules {x0 x1 x2 : JV} : jargs 239 [x0, x1, x2] = [x0, x1, x2, jU, jU, jU, jU] := by
  unfold jargs
  rw [show jmaxL 239 = 7 by decide +kernel]
  rfl
theorem k_OB_swapRules : jcls 239 = 10 := by decide +kernel
theorem a_Rule_exchange {x0 x1 : JV} : jargs 240 [x0, x1] = [x0, x1, jU, jU] := by
  unfold jargs
  rw [show jmaxL 240 = 4 by decide +kernel]
  rfl
theorem k_Rule_exchange : jcls 240 = 5 := by decide +kernel
theorem a_Lw_removeRule {x0 x1 x2 : JV} : jargs 241 [x0, x1, x2] = [x0, x1, x2, jU] := by
  unfold jargs
  rw [show jmaxL 241 = 4 by decide +kernel]
  rfl
theorem a_OB_removeRule {x0 x1 : JV} : jargs 242 [x0, x1] = [x0, x1] := by
  unfold jargs
  rw [show jmaxL 242 = 2 by decide +kernel]
  rfl
theorem k_OB_removeRule : jcls 242 = 10 := by decide +kernel
theorem a_State_dropRule {x0 x1 : JV} : jargs 243 [x0, x1] = [x0, x1, jU] := by
  unfold jargs
  rw [show jmaxL 243 = 3 by decide +kernel]
  rfl
theorem k_State_dropRule : jcls 243 = 7 := by decide +kernel
theorem a_Lw_reverseRule {x0 x1 x2 : JV} : jargs 244 [x0, x1, x2] = [x0, x1, x2, jU] := by
  unfold jargs
  rw [show jmaxL 244 = 4 by decide +kernel]
  rfl
theorem a_OB_reverseRule {x0 x1 : JV} : jargs 245 [x0, x1] = [x0, x1, jU] := by
  unfold jargs
  rw [show jmaxL 245 = 3 by decide +kernel]
  rfl
theorem k_OB_reverseRule : jcls 245 = 10 := by decide +kernel
theorem a_Lw_removeTerm {x0 x1 x2 : JV} : jargs 246 [x0, x1, x2] = [x0, x1, x2, jU] := by
  unfold jargs
  rw [show jmaxL 246 = 4 by decide +kernel]
  rfl
theorem a_OB_removeTerm {x0 x1 : JV} : jargs 247 [x0, x1] = [x0, x1] := by
  unfold jargs
  rw [show jmaxL 247 = 2 by decide +kernel]
  rfl
theorem k_OB_removeTerm : jcls 247 = 10 := by decide +kernel
theorem a_State_dropTerm {x0 x1 : JV} : jargs 248 [x0, x1] = [x0, x1, jU] := by
  unfold jargs
  rw [show jmaxL 248 = 3 by decide +kernel]
  rfl
theorem k_State_dropTerm : jcls 248 = 7 := by decide +kernel
theorem a_Lw_undo {x0 x1 : JV} : jargs 249 [x0, x1] = [x0, x1, jU] := by
  unfold jargs
  rw [show jmaxL 249 = 3 by decide +kernel]
  rfl
theorem a_OB_undo {x0 : JV} : jargs 250 [x0] = [x0] := by
  unfold jargs
  rw [show jmaxL 250 = 1 by decide +kernel]
  rfl
theorem k_OB_undo : jcls 250 = 10 := by decide +kernel
theorem a_History_takeBack {x0 x1 : JV} : jargs 251 [x0, x1] = [x0, x1, jU] := by
  unfold jargs
  rw [show jmaxL 251 = 3 by decide +kernel]
  rfl
theorem k_History_takeBack : jcls 251 = 0 := by decide +kernel
theorem a_Lw_saveState {x0 x1 x2 : JV} : jargs 252 [x0, x1, x2] = [x0, x1, x2, jU] := by
  unfold jargs
  rw [show jmaxL 252 = 4 by decide +kernel]
  rfl
theorem a_OB_saveState {x0 x1 : JV} : jargs 253 [x0, x1] = [x0, x1] := by
  unfold jargs
  rw [show jmaxL 253 = 2 by decide +kernel]
  rfl
theorem k_OB_saveState : jcls 253 = 10 := by decide +kernel
theorem a_Lw_restoreState {x0 x1 x2 : JV} : jargs 254 [x0, x1, x2] = [x0, x1, x2, jU] := by
  unfold jargs
  rw [show jmaxL 254 = 4 by decide +kernel]
  rfl
theorem a_OB_restoreState {x0 x1 : JV} : jargs 255 [x0, x1] = [x0, x1, jU] := by
  unfold jargs
  rw [show jmaxL 255 = 3 by decide +kernel]
  rfl
theorem k_OB_restoreState : jcls 255 = 10 := by decide +kernel
theorem a_Md_init {x0 : JV} : jargs 256 [x0] = [x0] := by
  unfold jargs
  rw [show jmaxL 256 = 1 by decide +kernel]
  rfl
theorem k_Md_init : jcls 256 = 11 := by decide +kernel
theorem a_Md_thrown {x0 : JV} : jargs 257 [x0] = [x0] := by
  unfold jargs
  rw [show jmaxL 257 = 1 by decide +kernel]
  rfl
theorem k_Md_thrown : jcls 257 = 11 := by decide +kernel
theorem a_Md_append {x0 x1 x2 x3 x4 x5 : JV} : jargs 258 [x0, x1, x2, x3, x4, x5] = [x0, x1, x2, x3, x4, x5] := by
  unfold jargs
  rw [show jmaxL 258 = 6 by decide +kernel]
  rfl
theorem k_Md_append : jcls 258 = 11 := by decide +kernel
theorem a_Md_four {x0 x1 : JV} : jargs 259 [x0, x1] = [x0, x1, jU] := by
  unfold jargs
  rw [show jmaxL 259 = 3 by decide +kernel]
  rfl
theorem k_Md_four : jcls 259 = 11 := by decide +kernel
theorem a_Md_parseErrorCode {x0 : JV} : jargs 260 [x0] = [x0] := by
  unfold jargs
  rw [show jmaxL 260 = 1 by decide +kernel]
  rfl
theorem k_Md_parseErrorCode : jcls 260 = 11 := by decide +kernel
theorem a_Md_told {x0 x1 : JV} : jargs 261 [x0, x1] = [x0, x1] := by
  unfold jargs
  rw [show jmaxL 261 = 2 by decide +kernel]
  rfl
theorem k_Md_told : jcls 261 = 11 := by decide +kernel
theorem a_Md_parseErrorPosition {x0 : JV} : jargs 262 [x0] = [x0] := by
  unfold jargs
  rw [show jmaxL 262 = 1 by decide +kernel]
  rfl
theorem k_Md_parseErrorPosition : jcls 262 = 11 := by decide +kernel
theorem a_Md_bufferLength {x0 : JV} : jargs 263 [x0] = [x0] := by
  unfold jargs
  rw [show jmaxL 263 = 1 by decide +kernel]
  rfl
theorem k_Md_bufferLength : jcls 263 = 11 := by decide +kernel
theorem a_Md_parseSystem {x0 x1 : JV} : jargs 264 [x0, x1] = [x0, x1, jU] := by
  unfold jargs
  rw [show jmaxL 264 = 3 by decide +kernel]
  rfl
theorem k_Md_parseSystem : jcls 264 = 11 := by decide +kernel
theorem a_Md_in {x0 x1 x2 : JV} : jargs 265 [x0, x1, x2] = [x0, x1, x2] := by
  unfold jargs
  rw [show jmaxL 265 = 3 by decide +kernel]
  rfl
theorem a_Md_may {x0 x1 x2 x3 : JV} : jargs 266 [x0, x1, x2, x3] = [x0, x1, x2, x3] := by
  unfold jargs
  rw [show jmaxL 266 = 4 by decide +kernel]
  rfl
theorem k_Md_may : jcls 266 = 11 := by decide +kernel
theorem a_Md_lays {x0 x1 x2 x3 x4 : JV} : jargs 267 [x0, x1, x2, x3, x4] = [x0, x1, x2, x3, x4, jU] := by
  unfold jargs
  rw [show jmaxL 267 = 6 by decide +kernel]
  rfl
theorem a_Md_readsText {x0 : JV} : jargs 268 [x0] = [x0] := by
  unfold jargs
  rw [show jmaxL 268 = 1 by decide +kernel]
  rfl
theorem k_Md_readsText : jcls 268 = 11 := by decide +kernel
theorem a_Md_goes {x0 : JV} : jargs 269 [x0] = [x0] := by
  unfold jargs
  rw [show jmaxL 269 = 1 by decide +kernel]
  rfl
theorem k_Md_goes : jcls 269 = 11 := by decide +kernel
theorem a_Md_isSmall {x0 x1 : JV} : jargs 270 [x0, x1] = [x0, x1] := by
  unfold jargs
  rw [show jmaxL 270 = 2 by decide +kernel]
  rfl
theorem k_Md_isSmall : jcls 270 = 11 := by decide +kernel
theorem a_Md_signOf {x0 : JV} : jargs 271 [x0] = [x0] := by
  unfold jargs
  rw [show jmaxL 271 = 1 by decide +kernel]
  rfl
theorem a_Md_isWord {x0 x1 : JV} : jargs 272 [x0, x1] = [x0, x1, jU] := by
  unfold jargs
  rw [show jmaxL 272 = 3 by decide +kernel]
  rfl
theorem k_Md_isWord : jcls 272 = 11 := by decide +kernel
theorem a_Md_is {x0 x1 : JV} : jargs 273 [x0, x1] = [x0, x1] := by
  unfold jargs
  rw [show jmaxL 273 = 2 by decide +kernel]
  rfl
theorem k_Md_is : jcls 273 = 11 := by decide +kernel
theorem a_Md_faults {x0 x1 : JV} : jargs 274 [x0, x1] = [x0, x1] := by
  unfold jargs
  rw [show jmaxL 274 = 2 by decide +kernel]
  rfl
theorem k_Md_faults : jcls 274 = 11 := by decide +kernel
theorem a_Md_readsItem {x0 : JV} : jargs 275 [x0] = [x0] := by
  unfold jargs
  rw [show jmaxL 275 = 1 by decide +kernel]
  rfl
theorem k_Md_readsItem : jcls 275 = 11 := by decide +kernel
theorem a_Md_readsSymbol {x0 : JV} : jargs 276 [x0] = [x0, jU, jU] := by
  unfold jargs
  rw [show jmaxL 276 = 3 by decide +kernel]
  rfl
theorem k_Md_readsSymbol : jcls 276 = 11 := by decide +kernel
theorem a_Md_symbolHere {x0 : JV} : jargs 277 [x0] = [x0, jU] := by
  unfold jargs
  rw [show jmaxL 277 = 2 by decide +kernel]
  rfl
theorem k_Md_symbolHere : jcls 277 = 11 := by decide +kernel
theorem a_Md_isNamedHere {x0 x1 : JV} : jargs 278 [x0, x1] = [x0, x1, jU] := by
  unfold jargs
  rw [show jmaxL 278 = 3 by decide +kernel]
  rfl
theorem k_Md_isNamedHere : jcls 278 = 11 := by decide +kernel
theorem a_Md_ofSymbol {x0 x1 x2 : JV} : jargs 279 [x0, x1, x2] = [x0, x1, x2] := by
  unfold jargs
  rw [show jmaxL 279 = 3 by decide +kernel]
  rfl
theorem k_Md_ofSymbol : jcls 279 = 11 := by decide +kernel
theorem a_Md_digitHere {x0 x1 : JV} : jargs 280 [x0, x1] = [x0, x1] := by
  unfold jargs
  rw [show jmaxL 280 = 2 by decide +kernel]
  rfl
theorem k_Md_digitHere : jcls 280 = 11 := by decide +kernel
theorem a_Md_readsRule {x0 : JV} : jargs 281 [x0] = [x0, jU] := by
  unfold jargs
  rw [show jmaxL 281 = 2 by decide +kernel]
  rfl
theorem k_Md_readsRule : jcls 281 = 11 := by decide +kernel
theorem a_Md_readTerm {x0 x1 x2 x3 : JV} : jargs 282 [x0, x1, x2, x3] = [x0, x1, x2, x3] := by
  unfold jargs
  rw [show jmaxL 282 = 4 by decide +kernel]
  rfl
theorem k_Md_readTerm : jcls 282 = 11 := by decide +kernel
theorem a_Md_readsOne {x0 x1 : JV} : jargs 283 [x0, x1] = [x0, x1, jU] := by
  unfold jargs
  rw [show jmaxL 283 = 3 by decide +kernel]
  rfl
theorem k_Md_readsOne : jcls 283 = 11 := by decide +kernel
theorem a_Md_readsNode {x0 x1 : JV} : jargs 284 [x0, x1] = [x0, x1] := by
  unfold jargs
  rw [show jmaxL 284 = 2 by decide +kernel]
  rfl
theorem k_Md_readsNode : jcls 284 = 11 := by decide +kernel
theorem a_Md_readsVariable {x0 x1 : JV} : jargs 285 [x0, x1] = [x0, x1, jU] := by
  unfold jargs
  rw [show jmaxL 285 = 3 by decide +kernel]
  rfl
theorem k_Md_readsVariable : jcls 285 = 11 := by decide +kernel
theorem a_Md_isInLeft {x0 x1 : JV} : jargs 286 [x0, x1] = [x0, x1, jU] := by
  unfold jargs
  rw [show jmaxL 286 = 3 by decide +kernel]
  rfl
theorem k_Md_isInLeft : jcls 286 = 11 := by decide +kernel
theorem a_Md_addsNode {x0 x1 : JV} : jargs 287 [x0, x1] = [x0, x1] := by
  unfold jargs
  rw [show jmaxL 287 = 2 by decide +kernel]
  rfl
theorem k_Md_addsNode : jcls 287 = 11 := by decide +kernel
theorem a_Md_readsSymbolNode {x0 : JV} : jargs 288 [x0] = [x0, jU] := by
  unfold jargs
  rw [show jmaxL 288 = 2 by decide +kernel]
  rfl
theorem k_Md_readsSymbolNode : jcls 288 = 11 := by decide +kernel
theorem a_Md_wants {x0 x1 : JV} : jargs 289 [x0, x1] = [x0, x1] := by
  unfold jargs
  rw [show jmaxL 289 = 2 by decide +kernel]
  rfl
theorem k_Md_wants : jcls 289 = 11 := by decide +kernel
theorem a_Md_readsEnds {x0 : JV} : jargs 290 [x0] = [x0] := by
  unfold jargs
  rw [show jmaxL 290 = 1 by decide +kernel]
  rfl
theorem k_Md_readsEnds : jcls 290 = 11 := by decide +kernel
theorem a_Md_readsNewTerm {x0 : JV} : jargs 291 [x0] = [x0, jU] := by
  unfold jargs
  rw [show jmaxL 291 = 2 by decide +kernel]
  rfl
theorem k_Md_readsNewTerm : jcls 291 = 11 := by decide +kernel
theorem a_Md_readsCopy {x0 : JV} : jargs 292 [x0] = [x0, jU] := by
  unfold jargs
  rw [show jmaxL 292 = 2 by decide +kernel]
  rfl
theorem k_Md_readsCopy : jcls 292 = 11 := by decide +kernel
theorem a_Md_lends {x0 x1 : JV} : jargs 293 [x0, x1] = [x0, x1] := by
  unfold jargs
  rw [show jmaxL 293 = 2 by decide +kernel]
  rfl
theorem k_Md_lends : jcls 293 = 11 := by decide +kernel
theorem a_Md_sizeOf {x0 x1 : JV} : jargs 294 [x0, x1] = [x0, x1] := by
  unfold jargs
  rw [show jmaxL 294 = 2 by decide +kernel]
  rfl
theorem k_Md_sizeOf : jcls 294 = 11 := by decide +kernel
theorem a_Md_stores {x0 x1 : JV} : jargs 295 [x0, x1] = [x0, x1] := by
  unfold jargs
  rw [show jmaxL 295 = 2 by decide +kernel]
  rfl
theorem k_Md_stores : jcls 295 = 11 := by decide +kernel
theorem a_Md_readsFlip {x0 : JV} : jargs 296 [x0] = [x0, jU] := by
  unfold jargs
  rw [show jmaxL 296 = 2 by decide +kernel]
  rfl
theorem k_Md_readsFlip : jcls 296 = 11 := by decide +kernel
theorem a_Md_canReverse {x0 x1 : JV} : jargs 297 [x0, x1] = [x0, x1, jU] := by
  unfold jargs
  rw [show jmaxL 297 = 3 by decide +kernel]
  rfl
theorem k_Md_canReverse : jcls 297 = 11 := by decide +kernel
theorem a_Md_ofRule {x0 x1 x2 : JV} : jargs 298 [x0, x1, x2] = [x0, x1, x2] := by
  unfold jargs
  rw [show jmaxL 298 = 3 by decide +kernel]
  rfl
theorem k_Md_ofRule : jcls 298 = 11 := by decide +kernel
theorem a_Md_occurrences {x0 x1 x2 x3 : JV} : jargs 299 [x0, x1, x2, x3] = [x0, x1, x2, x3, jU, jU, jU] := by
  unfold jargs
  rw [show jmaxL 299 = 7 by decide +kernel]
  rfl
theorem k_Md_occurrences : jcls 299 = 11 := by decide +kernel
theorem a_Md_one {x0 : JV} : jargs 300 [x0] = [x0] := by
  unfold jargs
  rw [show jmaxL 300 = 1 by decide +kernel]
  rfl
theorem a_Md_reverses {x0 x1 : JV} : jargs 301 [x0, x1] = [x0, x1, jU, jU] := by
  unfold jargs
  rw [show jmaxL 301 = 4 by decide +kernel]
  rfl
theorem k_Md_reverses : jcls 301 = 11 := by decide +kernel
theorem a_Md_exchanges {x0 x1 x2 : JV} : jargs 302 [x0, x1, x2] = [x0, x1, x2, jU] := by
  unfold jargs
  rw [show jmaxL 302 = 4 by decide +kernel]
  rfl
theorem k_Md_exchanges : jcls 302 = 11 := by decide +kernel
theorem a_Md_readsStep {x0 : JV} : jargs 303 [x0] = [x0, jU] := by
  unfold jargs
  rw [show jmaxL 303 = 2 by decide +kernel]
  rfl
theorem k_Md_readsStep : jcls 303 = 11 := by decide +kernel
theorem a_Md_canStep {x0 x1 x2 : JV} : jargs 304 [x0, x1, x2] = [x0, x1, x2, jU] := by
  unfold jargs
  rw [show jmaxL 304 = 4 by decide +kernel]
  rfl
theorem k_Md_canStep : jcls 304 = 11 := by decide +kernel
theorem a_Md_redex {x0 x1 : JV} : jargs 305 [x0, x1] = [x0, x1] := by
  unfold jargs
  rw [show jmaxL 305 = 2 by decide +kernel]
  rfl
theorem k_Md_redex : jcls 305 = 11 := by decide +kernel
theorem a_Md_innermost {x0 : JV} : jargs 306 [x0] = [x0, jU, jU] := by
  unfold jargs
  rw [show jmaxL 306 = 3 by decide +kernel]
  rfl
theorem k_Md_innermost : jcls 306 = 11 := by decide +kernel
theorem a_Md_outermost {x0 : JV} : jargs 307 [x0] = [x0, jU] := by
  unfold jargs
  rw [show jmaxL 307 = 2 by decide +kernel]
  rfl
theorem k_Md_outermost : jcls 307 = 11 := by decide +kernel
theorem a_Md_firstRule {x0 x1 : JV} : jargs 308 [x0, x1] = [x0, x1, jU] := by
  unfold jargs
  rw [show jmaxL 308 = 3 by decide +kernel]
  rfl
theorem k_Md_firstRule : jcls 308 = 11 := by decide +kernel
theorem a_Md_matchesAt {x0 x1 x2 : JV} : jargs 309 [x0, x1, x2] = [x0, x1, x2, jU, jU, jU] := by
  unfold jargs
  rw [show jmaxL 309 = 6 by decide +kernel]
  rfl
theorem k_Md_matchesAt : jcls 309 = 11 := by decide +kernel
theorem a_Md_binds {x0 x1 x2 : JV} : jargs 310 [x0, x1, x2] = [x0, x1, x2, jU] := by
  unfold jargs
  rw [show jmaxL 310 = 4 by decide +kernel]
  rfl
theorem k_Md_binds : jcls 310 = 11 := by decide +kernel
theorem a_Md_behind {x0 x1 x2 : JV} : jargs 311 [x0, x1, x2] = [x0, x1, x2, jU, jU] := by
  unfold jargs
  rw [show jmaxL 311 = 5 by decide +kernel]
  rfl
theorem k_Md_behind : jcls 311 = 11 := by decide +kernel
theorem a_Md_arityOf {x0 x1 : JV} : jargs 312 [x0, x1] = [x0, x1] := by
  unfold jargs
  rw [show jmaxL 312 = 2 by decide +kernel]
  rfl
theorem k_Md_arityOf : jcls 312 = 11 := by decide +kernel
theorem a_Md_areSame {x0 x1 x2 x3 : JV} : jargs 313 [x0, x1, x2, x3] = [x0, x1, x2, x3, jU] := by
  unfold jargs
  rw [show jmaxL 313 = 5 by decide +kernel]
  rfl
theorem k_Md_areSame : jcls 313 = 11 := by decide +kernel
theorem a_Md_stepsAt {x0 x1 : JV} : jargs 314 [x0, x1] = [x0, x1, jU] := by
  unfold jargs
  rw [show jmaxL 314 = 3 by decide +kernel]
  rfl
theorem k_Md_stepsAt : jcls 314 = 11 := by decide +kernel
theorem a_Md_rewritesAt {x0 x1 x2 : JV} : jargs 315 [x0, x1, x2] = [x0, x1, x2, jU, jU] := by
  unfold jargs
  rw [show jmaxL 315 = 5 by decide +kernel]
  rfl
theorem k_Md_rewritesAt : jcls 315 = 11 := by decide +kernel
theorem a_Md_buildsFrom {x0 x1 x2 x3 : JV} : jargs 316 [x0, x1, x2, x3] = [x0, x1, x2, x3, jU] := by
  unfold jargs
  rw [show jmaxL 316 = 5 by decide +kernel]
  rfl
theorem k_Md_buildsFrom : jcls 316 = 11 := by decide +kernel
theorem a_Md_builds {x0 x1 : JV} : jargs 317 [x0, x1] = [x0, x1] := by
  unfold jargs
  rw [show jmaxL 317 = 2 by decide +kernel]
  rfl
theorem k_Md_builds : jcls 317 = 11 := by decide +kernel
theorem a_Md_takesBuilt {x0 : JV} : jargs 318 [x0] = [x0] := by
  unfold jargs
  rw [show jmaxL 318 = 1 by decide +kernel]
  rfl
theorem k_Md_takesBuilt : jcls 318 = 11 := by decide +kernel
theorem a_Md_symbolCount {x0 : JV} : jargs 319 [x0] = [x0] := by
  unfold jargs
  rw [show jmaxL 319 = 1 by decide +kernel]
  rfl
theorem k_Md_symbolCount : jcls 319 = 11 := by decide +kernel
theorem a_Md_look {x0 x1 : JV} : jargs 320 [x0, x1] = [x0, x1] := by
  unfold jargs
  rw [show jmaxL 320 = 2 by decide +kernel]
  rfl
theorem k_Md_look : jcls 320 = 11 := by decide +kernel
theorem a_Md_mayLook {x0 : JV} : jargs 321 [x0] = [x0] := by
  unfold jargs
  rw [show jmaxL 321 = 1 by decide +kernel]
  rfl
theorem k_Md_mayLook : jcls 321 = 11 := by decide +kernel
theorem a_Md_symbolArity {x0 x1 : JV} : jargs 322 [x0, x1] = [x0, x1] := by
  unfold jargs
  rw [show jmaxL 322 = 2 by decide +kernel]
  rfl
theorem k_Md_symbolArity : jcls 322 = 11 := by decide +kernel
theorem a_Md_maySymbol {x0 x1 : JV} : jargs 323 [x0, x1] = [x0, x1] := by
  unfold jargs
  rw [show jmaxL 323 = 2 by decide +kernel]
  rfl
theorem k_Md_maySymbol : jcls 323 = 11 := by decide +kernel
theorem a_Md_isSymbol {x0 x1 : JV} : jargs 324 [x0, x1] = [x0, x1] := by
  unfold jargs
  rw [show jmaxL 324 = 2 by decide +kernel]
  rfl
theorem k_Md_isSymbol : jcls 324 = 11 := by decide +kernel
theorem a_Md_mayTwo {x0 x1 x2 : JV} : jargs 325 [x0, x1, x2] = [x0, x1, x2] := by
  unfold jargs
  rw [show jmaxL 325 = 3 by decide +kernel]
  rfl
theorem k_Md_mayTwo : jcls 325 = 11 := by decide +kernel
theorem a_Md_symbolLetter {x0 x1 x2 : JV} : jargs 326 [x0, x1, x2] = [x0, x1, x2] := by
  unfold jargs
  rw [show jmaxL 326 = 3 by decide +kernel]
  rfl
theorem k_Md_symbolLetter : jcls 326 = 11 := by decide +kernel
theorem a_Md_symbolUses {x0 x1 : JV} : jargs 327 [x0, x1] = [x0, x1, jU, jU] := by
  unfold jargs
  rw [show jmaxL 327 = 4 by decide +kernel]
  rfl
theorem k_Md_symbolUses : jcls 327 = 11 := by decide +kernel
theorem a_Md_ruleCount {x0 : JV} : jargs 328 [x0] = [x0] := by
  unfold jargs
  rw [show jmaxL 328 = 1 by decide +kernel]
  rfl
theorem k_Md_ruleCount : jcls 328 = 11 := by decide +kernel
theorem a_Md_leftSize {x0 x1 : JV} : jargs 329 [x0, x1] = [x0, x1] := by
  unfold jargs
  rw [show jmaxL 329 = 2 by decide +kernel]
  rfl
theorem k_Md_leftSize : jcls 329 = 11 := by decide +kernel
theorem a_Md_mayRule {x0 x1 : JV} : jargs 330 [x0, x1] = [x0, x1] := by
  unfold jargs
  rw [show jmaxL 330 = 2 by decide +kernel]
  rfl
theorem k_Md_mayRule : jcls 330 = 11 := by decide +kernel
theorem a_Md_isRule {x0 x1 : JV} : jargs 331 [x0, x1] = [x0, x1] := by
  unfold jargs
  rw [show jmaxL 331 = 2 by decide +kernel]
  rfl
theorem k_Md_isRule : jcls 331 = 11 := by decide +kernel
theorem a_Md_rightSize {x0 x1 : JV} : jargs 332 [x0, x1] = [x0, x1] := by
  unfold jargs
  rw [show jmaxL 332 = 2 by decide +kernel]
  rfl
theorem k_Md_rightSize : jcls 332 = 11 := by decide +kernel
theorem a_Md_isLeftLinear {x0 x1 : JV} : jargs 333 [x0, x1] = [x0, x1, jU] := by
  unfold jargs
  rw [show jmaxL 333 = 3 by decide +kernel]
  rfl
theorem k_Md_isLeftLinear : jcls 333 = 11 := by decide +kernel
theorem a_Md_isCollapsing {x0 x1 : JV} : jargs 334 [x0, x1] = [x0, x1] := by
  unfold jargs
  rw [show jmaxL 334 = 2 by decide +kernel]
  rfl
theorem k_Md_isCollapsing : jcls 334 = 11 := by decide +kernel
theorem a_Md_isDuplicating {x0 x1 : JV} : jargs 335 [x0, x1] = [x0, x1] := by
  unfold jargs
  rw [show jmaxL 335 = 2 by decide +kernel]
  rfl
theorem k_Md_isDuplicating : jcls 335 = 11 := by decide +kernel
theorem a_Md_duplicates {x0 x1 : JV} : jargs 336 [x0, x1] = [x0, x1, jU] := by
  unfold jargs
  rw [show jmaxL 336 = 3 by decide +kernel]
  rfl
theorem k_Md_duplicates : jcls 336 = 11 := by decide +kernel
theorem a_Md_decreasesSize {x0 x1 : JV} : jargs 337 [x0, x1] = [x0, x1] := by
  unfold jargs
  rw [show jmaxL 337 = 2 by decide +kernel]
  rfl
theorem k_Md_decreasesSize : jcls 337 = 11 := by decide +kernel
theorem a_Md_termCount {x0 : JV} : jargs 338 [x0] = [x0] := by
  unfold jargs
  rw [show jmaxL 338 = 1 by decide +kernel]
  rfl
theorem k_Md_termCount : jcls 338 = 11 := by decide +kernel
theorem a_Md_termSize {x0 x1 : JV} : jargs 339 [x0, x1] = [x0, x1] := by
  unfold jargs
  rw [show jmaxL 339 = 2 by decide +kernel]
  rfl
theorem k_Md_termSize : jcls 339 = 11 := by decide +kernel
theorem a_Md_mayTerm {x0 x1 : JV} : jargs 340 [x0, x1] = [x0, x1] := by
  unfold jargs
  rw [show jmaxL 340 = 2 by decide +kernel]
  rfl
theorem k_Md_mayTerm : jcls 340 = 11 := by decide +kernel
theorem a_Md_isTerm {x0 x1 : JV} : jargs 341 [x0, x1] = [x0, x1] := by
  unfold jargs
  rw [show jmaxL 341 = 2 by decide +kernel]
  rfl
theorem k_Md_isTerm : jcls 341 = 11 := by decide +kernel
theorem a_Md_termDepth {x0 x1 : JV} : jargs 342 [x0, x1] = [x0, x1, jU, jU, jU] := by
  unfold jargs
  rw [show jmaxL 342 = 5 by decide +kernel]
  rfl
theorem k_Md_termDepth : jcls 342 = 11 := by decide +kernel
theorem a_Md_nodeOf {x0 x1 x2 : JV} : jargs 343 [x0, x1, x2] = [x0, x1, x2] := by
  unfold jargs
  rw [show jmaxL 343 = 3 by decide +kernel]
  rfl
theorem k_Md_nodeOf : jcls 343 = 11 := by decide +kernel
theorem a_Md_symbolAt {x0 x1 x2 : JV} : jargs 344 [x0, x1, x2] = [x0, x1, x2] := by
  unfold jargs
  rw [show jmaxL 344 = 3 by decide +kernel]
  rfl
theorem k_Md_symbolAt : jcls 344 = 11 := by decide +kernel
theorem a_Md_mayPosition {x0 x1 x2 : JV} : jargs 345 [x0, x1, x2] = [x0, x1, x2] := by
  unfold jargs
  rw [show jmaxL 345 = 3 by decide +kernel]
  rfl
theorem k_Md_mayPosition : jcls 345 = 11 := by decide +kernel
theorem a_Md_isPosition {x0 x1 x2 : JV} : jargs 346 [x0, x1, x2] = [x0, x1, x2] := by
  unfold jargs
  rw [show jmaxL 346 = 3 by decide +kernel]
  rfl
theorem k_Md_isPosition : jcls 346 = 11 := by decide +kernel
theorem a_Md_variableAt {x0 x1 x2 : JV} : jargs 347 [x0, x1, x2] = [x0, x1, x2] := by
  unfold jargs
  rw [show jmaxL 347 = 3 by decide +kernel]
  rfl
theorem k_Md_variableAt : jcls 347 = 11 := by decide +kernel
theorem a_Md_subtermSize {x0 x1 x2 : JV} : jargs 348 [x0, x1, x2] = [x0, x1, x2] := by
  unfold jargs
  rw [show jmaxL 348 = 3 by decide +kernel]
  rfl
theorem k_Md_subtermSize : jcls 348 = 11 := by decide +kernel
theorem a_Md_isGround {x0 x1 : JV} : jargs 349 [x0, x1] = [x0, x1, jU] := by
  unfold jargs
  rw [show jmaxL 349 = 3 by decide +kernel]
  rfl
theorem k_Md_isGround : jcls 349 = 11 := by decide +kernel
theorem a_Md_areEqual {x0 x1 x2 : JV} : jargs 350 [x0, x1, x2] = [x0, x1, x2] := by
  unfold jargs
  rw [show jmaxL 350 = 3 by decide +kernel]
  rfl
theorem k_Md_areEqual : jcls 350 = 11 := by decide +kernel
theorem a_Md_mayTerms {x0 x1 x2 : JV} : jargs 351 [x0, x1, x2] = [x0, x1, x2] := by
  unfold jargs
  rw [show jmaxL 351 = 3 by decide +kernel]
  rfl
theorem k_Md_mayTerms : jcls 351 = 11 := by decide +kernel
theorem a_Md_keeps {x0 : JV} : jargs 352 [x0] = [x0] := by
  unfold jargs
  rw [show jmaxL 352 = 1 by decide +kernel]
  rfl
theorem k_Md_keeps : jcls 352 = 11 := by decide +kernel
theorem a_Md_isKept {x0 : JV} : jargs 353 [x0] = [x0, jU] := by
  unfold jargs
  rw [show jmaxL 353 = 2 by decide +kernel]
  rfl
theorem k_Md_isKept : jcls 353 = 11 := by decide +kernel
theorem a_Md_averageSize {x0 : JV} : jargs 354 [x0] = [x0, jU, jU] := by
  unfold jargs
  rw [show jmaxL 354 = 3 by decide +kernel]
  rfl
theorem k_Md_averageSize : jcls 354 = 11 := by decide +kernel
theorem a_Md_matches {x0 x1 x2 x3 : JV} : jargs 355 [x0, x1, x2, x3] = [x0, x1, x2, x3] := by
  unfold jargs
  rw [show jmaxL 355 = 4 by decide +kernel]
  rfl
theorem k_Md_matches : jcls 355 = 11 := by decide +kernel
theorem a_Md_ruleAt {x0 x1 x2 : JV} : jargs 356 [x0, x1, x2] = [x0, x1, x2] := by
  unfold jargs
  rw [show jmaxL 356 = 3 by decide +kernel]
  rfl
theorem k_Md_ruleAt : jcls 356 = 11 := by decide +kernel
theorem a_Md_redexCount {x0 x1 : JV} : jargs 357 [x0, x1] = [x0, x1] := by
  unfold jargs
  rw [show jmaxL 357 = 2 by decide +kernel]
  rfl
theorem k_Md_redexCount : jcls 357 = 11 := by decide +kernel
theorem a_Md_redexes {x0 : JV} : jargs 358 [x0] = [x0, jU, jU] := by
  unfold jargs
  rw [show jmaxL 358 = 3 by decide +kernel]
  rfl
theorem k_Md_redexes : jcls 358 = 11 := by decide +kernel
theorem a_Md_innermostRedex {x0 x1 : JV} : jargs 359 [x0, x1] = [x0, x1] := by
  unfold jargs
  rw [show jmaxL 359 = 2 by decide +kernel]
  rfl
theorem k_Md_innermostRedex : jcls 359 = 11 := by decide +kernel
theorem a_Md_outermostRedex {x0 x1 : JV} : jargs 360 [x0, x1] = [x0, x1] := by
  unfold jargs
  rw [show jmaxL 360 = 2 by decide +kernel]
  rfl
theorem k_Md_outermostRedex : jcls 360 = 11 := by decide +kernel
theorem a_Md_isNormalForm {x0 x1 : JV} : jargs 361 [x0, x1] = [x0, x1] := by
  unfold jargs
  rw [show jmaxL 361 = 2 by decide +kernel]
  rfl
theorem k_Md_isNormalForm : jcls 361 = 11 := by decide +kernel
theorem a_Md_isNormal {x0 x1 : JV} : jargs 362 [x0, x1] = [x0, x1] := by
  unfold jargs
  rw [show jmaxL 362 = 2 by decide +kernel]
  rfl
theorem k_Md_isNormal : jcls 362 = 11 := by decide +kernel
theorem a_Md_normalShare {x0 : JV} : jargs 363 [x0] = [x0, jU, jU] := by
  unfold jargs
  rw [show jmaxL 363 = 3 by decide +kernel]
  rfl
theorem k_Md_normalShare : jcls 363 = 11 := by decide +kernel
theorem a_Md_stepsInnermost {x0 x1 : JV} : jargs 364 [x0, x1] = [x0, x1] := by
  unfold jargs
  rw [show jmaxL 364 = 2 by decide +kernel]
  rfl
theorem k_Md_stepsInnermost : jcls 364 = 11 := by decide +kernel
theorem a_Md_stepsOf {x0 x1 x2 : JV} : jargs 365 [x0, x1, x2] = [x0, x1, x2] := by
  unfold jargs
  rw [show jmaxL 365 = 3 by decide +kernel]
  rfl
theorem k_Md_stepsOf : jcls 365 = 11 := by decide +kernel
theorem a_Md_reduces {x0 x1 x2 : JV} : jargs 366 [x0, x1, x2] = [x0, x1, x2, jU, jU] := by
  unfold jargs
  rw [show jmaxL 366 = 5 by decide +kernel]
  rfl
theorem k_Md_reduces : jcls 366 = 11 := by decide +kernel
theorem a_Md_stepsOutermost {x0 x1 : JV} : jargs 367 [x0, x1] = [x0, x1] := by
  unfold jargs
  rw [show jmaxL 367 = 2 by decide +kernel]
  rfl
theorem k_Md_stepsOutermost : jcls 367 = 11 := by decide +kernel
theorem a_Md_normalFormSize {x0 x1 : JV} : jargs 368 [x0, x1] = [x0, x1] := by
  unfold jargs
  rw [show jmaxL 368 = 2 by decide +kernel]
  rfl
theorem k_Md_normalFormSize : jcls 368 = 11 := by decide +kernel
theorem a_Md_haveSameNormalForm {x0 x1 x2 : JV} : jargs 369 [x0, x1, x2] = [x0, x1, x2] := by
  unfold jargs
  rw [show jmaxL 369 = 3 by decide +kernel]
  rfl
theorem k_Md_haveSameNormalForm : jcls 369 = 11 := by decide +kernel
theorem a_Md_unify {x0 x1 x2 : JV} : jargs 370 [x0, x1, x2] = [x0, x1, x2] := by
  unfold jargs
  rw [show jmaxL 370 = 3 by decide +kernel]
  rfl
theorem k_Md_unify : jcls 370 = 11 := by decide +kernel
theorem a_Md_unifiesTerms {x0 x1 x2 : JV} : jargs 371 [x0, x1, x2] = [x0, x1, x2, jU, jU] := by
  unfold jargs
  rw [show jmaxL 371 = 5 by decide +kernel]
  rfl
theorem k_Md_unifiesTerms : jcls 371 = 11 := by decide +kernel
theorem a_Md_empties {x0 : JV} : jargs 372 [x0] = [x0, jU] := by
  unfold jargs
  rw [show jmaxL 372 = 2 by decide +kernel]
  rfl
theorem k_Md_empties : jcls 372 = 11 := by decide +kernel
theorem a_Md_pools {x0 x1 x2 x3 : JV} : jargs 373 [x0, x1, x2, x3] = [x0, x1, x2, x3, jU, jU, jU] := by
  unfold jargs
  rw [show jmaxL 373 = 7 by decide +kernel]
  rfl
theorem k_Md_pools : jcls 373 = 11 := by decide +kernel
theorem a_Md_unifies {x0 x1 x2 : JV} : jargs 374 [x0, x1, x2] = [x0, x1, x2] := by
  unfold jargs
  rw [show jmaxL 374 = 3 by decide +kernel]
  rfl
theorem k_Md_unifies : jcls 374 = 11 := by decide +kernel
theorem a_Md_owes {x0 x1 x2 : JV} : jargs 375 [x0, x1, x2] = [x0, x1, x2] := by
  unfold jargs
  rw [show jmaxL 375 = 3 by decide +kernel]
  rfl
theorem k_Md_owes : jcls 375 = 11 := by decide +kernel
theorem a_Md_ends {x0 x1 : JV} : jargs 376 [x0, x1] = [x0, x1, jU] := by
  unfold jargs
  rw [show jmaxL 376 = 3 by decide +kernel]
  rfl
theorem k_Md_ends : jcls 376 = 11 := by decide +kernel
theorem a_Md_isEqualTo {x0 x1 x2 : JV} : jargs 377 [x0, x1, x2] = [x0, x1, x2] := by
  unfold jargs
  rw [show jmaxL 377 = 3 by decide +kernel]
  rfl
theorem k_Md_isEqualTo : jcls 377 = 11 := by decide +kernel
theorem a_Md_means {x0 x1 x2 : JV} : jargs 378 [x0, x1, x2] = [x0, x1, x2] := by
  unfold jargs
  rw [show jmaxL 378 = 3 by decide +kernel]
  rfl
theorem k_Md_means : jcls 378 = 11 := by decide +kernel
theorem a_Md_occurs {x0 x1 x2 : JV} : jargs 379 [x0, x1, x2] = [x0, x1, x2, jU, jU, jU, jU] := by
  unfold jargs
  rw [show jmaxL 379 = 7 by decide +kernel]
  rfl
theorem k_Md_occurs : jcls 379 = 11 := by decide +kernel
theorem a_Md_owesArguments {x0 x1 x2 : JV} : jargs 380 [x0, x1, x2] = [x0, x1, x2, jU, jU, jU] := by
  unfold jargs
  rw [show jmaxL 380 = 6 by decide +kernel]
  rfl
theorem k_Md_owesArguments : jcls 380 = 11 := by decide +kernel
theorem a_Md_unifiedSize {x0 x1 x2 : JV} : jargs 381 [x0, x1, x2] = [x0, x1, x2] := by
  unfold jargs
  rw [show jmaxL 381 = 3 by decide +kernel]
  rfl
theorem k_Md_unifiedSize : jcls 381 = 11 := by decide +kernel
theorem a_Md_buildsMeaning {x0 x1 : JV} : jargs 382 [x0, x1] = [x0, x1, jU, jU, jU, jU, jU] := by
  unfold jargs
  rw [show jmaxL 382 = 7 by decide +kernel]
  rfl
theorem k_Md_buildsMeaning : jcls 382 = 11 := by decide +kernel
theorem a_Md_criticalPairCount {x0 : JV} : jargs 383 [x0] = [x0] := by
  unfold jargs
  rw [show jmaxL 383 = 1 by decide +kernel]
  rfl
theorem k_Md_criticalPairCount : jcls 383 = 11 := by decide +kernel
theorem a_Md_findsPairs {x0 : JV} : jargs 384 [x0] = [x0, jU, jU, jU] := by
  unfold jargs
  rw [show jmaxL 384 = 4 by decide +kernel]
  rfl
theorem k_Md_findsPairs : jcls 384 = 11 := by decide +kernel
theorem a_Md_findsPair {x0 x1 x2 x3 : JV} : jargs 385 [x0, x1, x2, x3] = [x0, x1, x2, x3, jU, jU, jU, jU, jU, jU, jU] := by
  unfold jargs
  rw [show jmaxL 385 = 11 by decide +kernel]
  rfl
theorem k_Md_findsPair : jcls 385 = 11 := by decide +kernel
theorem a_Md_keepsTerm {x0 x1 : JV} : jargs 386 [x0, x1] = [x0, x1, jU] := by
  unfold jargs
  rw [show jmaxL 386 = 3 by decide +kernel]
  rfl
theorem k_Md_keepsTerm : jcls 386 = 11 := by decide +kernel
theorem a_Md_nameOf {x0 x1 : JV} : jargs 387 [x0, x1] = [x0, x1] := by
  unfold jargs
  rw [show jmaxL 387 = 2 by decide +kernel]
  rfl
theorem k_Md_nameOf : jcls 387 = 11 := by decide +kernel
theorem a_Md_buildsSecond {x0 x1 x2 x3 x4 : JV} : jargs 388 [x0, x1, x2, x3, x4] = [x0, x1, x2, x3, x4, jU] := by
  unfold jargs
  rw [show jmaxL 388 = 6 by decide +kernel]
  rfl
theorem k_Md_buildsSecond : jcls 388 = 11 := by decide +kernel
theorem a_Md_pairOuterRule {x0 x1 : JV} : jargs 389 [x0, x1] = [x0, x1] := by
  unfold jargs
  rw [show jmaxL 389 = 2 by decide +kernel]
  rfl
theorem k_Md_pairOuterRule : jcls 389 = 11 := by decide +kernel
theorem a_Md_mayPair {x0 x1 : JV} : jargs 390 [x0, x1] = [x0, x1] := by
  unfold jargs
  rw [show jmaxL 390 = 2 by decide +kernel]
  rfl
theorem k_Md_mayPair : jcls 390 = 11 := by decide +kernel
theorem a_Md_pairInnerRule {x0 x1 : JV} : jargs 391 [x0, x1] = [x0, x1] := by
  unfold jargs
  rw [show jmaxL 391 = 2 by decide +kernel]
  rfl
theorem k_Md_pairInnerRule : jcls 391 = 11 := by decide +kernel
theorem a_Md_pairPosition {x0 x1 : JV} : jargs 392 [x0, x1] = [x0, x1] := by
  unfold jargs
  rw [show jmaxL 392 = 2 by decide +kernel]
  rfl
theorem k_Md_pairPosition : jcls 392 = 11 := by decide +kernel
theorem a_Md_pairJoins {x0 x1 : JV} : jargs 393 [x0, x1] = [x0, x1] := by
  unfold jargs
  rw [show jmaxL 393 = 2 by decide +kernel]
  rfl
theorem k_Md_pairJoins : jcls 393 = 11 := by decide +kernel
theorem a_Md_joins {x0 x1 : JV} : jargs 394 [x0, x1] = [x0, x1, jU, jU] := by
  unfold jargs
  rw [show jmaxL 394 = 4 by decide +kernel]
  rfl
theorem k_Md_joins : jcls 394 = 11 := by decide +kernel
theorem a_Md_lendsPair {x0 x1 : JV} : jargs 395 [x0, x1] = [x0, x1] := by
  unfold jargs
  rw [show jmaxL 395 = 2 by decide +kernel]
  rfl
theorem k_Md_lendsPair : jcls 395 = 11 := by decide +kernel
theorem a_Md_unjoinedPairs {x0 : JV} : jargs 396 [x0] = [x0, jU, jU] := by
  unfold jargs
  rw [show jmaxL 396 = 3 by decide +kernel]
  rfl
theorem k_Md_unjoinedPairs : jcls 396 = 11 := by decide +kernel
theorem a_Md_writeTerm {x0 x1 : JV} : jargs 397 [x0, x1] = [x0, x1] := by
  unfold jargs
  rw [show jmaxL 397 = 2 by decide +kernel]
  rfl
theorem k_Md_writeTerm : jcls 397 = 11 := by decide +kernel
theorem a_Md_writesRow {x0 x1 x2 x3 : JV} : jargs 398 [x0, x1, x2, x3] = [x0, x1, x2, x3, jU, jU, jU] := by
  unfold jargs
  rw [show jmaxL 398 = 7 by decide +kernel]
  rfl
theorem k_Md_writesRow : jcls 398 = 11 := by decide +kernel
theorem a_Md_writesNode {x0 x1 : JV} : jargs 399 [x0, x1] = [x0, x1, jU] := by
  unfold jargs
  rw [show jmaxL 399 = 3 by decide +kernel]
  rfl
theorem k_Md_writesNode : jcls 399 = 11 := by decide +kernel
theorem a_Md_writesByte {x0 x1 : JV} : jargs 400 [x0, x1] = [x0, x1] := by
  unfold jargs
  rw [show jmaxL 400 = 2 by decide +kernel]
  rfl
theorem k_Md_writesByte : jcls 400 = 11 := by decide +kernel
theorem a_Md_closesNodes {x0 x1 : JV} : jargs 401 [x0, x1] = [x0, x1, jU] := by
  unfold jargs
  rw [show jmaxL 401 = 3 by decide +kernel]
  rfl
theorem k_Md_closesNodes : jcls 401 = 11 := by decide +kernel
theorem a_Md_writeRule {x0 x1 : JV} : jargs 402 [x0, x1] = [x0, x1] := by
  unfold jargs
  rw [show jmaxL 402 = 2 by decide +kernel]
  rfl
theorem k_Md_writeRule : jcls 402 = 11 := by decide +kernel
theorem a_Md_writeNormalForm {x0 x1 : JV} : jargs 403 [x0, x1] = [x0, x1] := by
  unfold jargs
  rw [show jmaxL 403 = 2 by decide +kernel]
  rfl
theorem k_Md_writeNormalForm : jcls 403 = 11 := by decide +kernel
theorem a_Md_writePair {x0 x1 : JV} : jargs 404 [x0, x1] = [x0, x1] := by
  unfold jargs
  rw [show jmaxL 404 = 2 by decide +kernel]
  rfl
theorem k_Md_writePair : jcls 404 = 11 := by decide +kernel
theorem a_Md_outputByte {x0 x1 : JV} : jargs 405 [x0, x1] = [x0, x1] := by
  unfold jargs
  rw [show jmaxL 405 = 2 by decide +kernel]
  rfl
theorem k_Md_outputByte : jcls 405 = 11 := by decide +kernel
theorem a_Md_rewrite {x0 x1 x2 x3 : JV} : jargs 406 [x0, x1, x2, x3] = [x0, x1, x2, x3, jU] := by
  unfold jargs
  rw [show jmaxL 406 = 5 by decide +kernel]
  rfl
theorem k_Md_rewrite : jcls 406 = 11 := by decide +kernel
theorem a_Md_canRewrite {x0 x1 x2 x3 : JV} : jargs 407 [x0, x1, x2, x3] = [x0, x1, x2, x3] := by
  unfold jargs
  rw [show jmaxL 407 = 4 by decide +kernel]
  rfl
theorem k_Md_canRewrite : jcls 407 = 11 := by decide +kernel
theorem a_Md_changes {x0 x1 : JV} : jargs 408 [x0, x1] = [x0, x1] := by
  unfold jargs
  rw [show jmaxL 408 = 2 by decide +kernel]
  rfl
theorem k_Md_changes : jcls 408 = 11 := by decide +kernel
theorem a_Md_remembers {x0 : JV} : jargs 409 [x0] = [x0] := by
  unfold jargs
  rw [show jmaxL 409 = 1 by decide +kernel]
  rfl
theorem k_Md_remembers : jcls 409 = 11 := by decide +kernel
theorem a_Md_stepInnermost {x0 x1 : JV} : jargs 410 [x0, x1] = [x0, x1] := by
  unfold jargs
  rw [show jmaxL 410 = 2 by decide +kernel]
  rfl
theorem k_Md_stepInnermost : jcls 410 = 11 := by decide +kernel
theorem a_Md_stepsOnce {x0 x1 x2 : JV} : jargs 411 [x0, x1, x2] = [x0, x1, x2, jU, jU] := by
  unfold jargs
  rw [show jmaxL 411 = 5 by decide +kernel]
  rfl
theorem k_Md_stepsOnce : jcls 411 = 11 := by decide +kernel
theorem a_Md_redexOf {x0 x1 x2 : JV} : jargs 412 [x0, x1, x2] = [x0, x1, x2] := by
  unfold jargs
  rw [show jmaxL 412 = 3 by decide +kernel]
  rfl
theorem k_Md_redexOf : jcls 412 = 11 := by decide +kernel
theorem a_Md_stepOutermost {x0 x1 : JV} : jargs 413 [x0, x1] = [x0, x1] := by
  unfold jargs
  rw [show jmaxL 413 = 2 by decide +kernel]
  rfl
theorem k_Md_stepOutermost : jcls 413 = 11 := by decide +kernel
theorem a_Md_normalize {x0 x1 : JV} : jargs 414 [x0, x1] = [x0, x1, jU, jU] := by
  unfold jargs
  rw [show jmaxL 414 = 4 by decide +kernel]
  rfl
theorem k_Md_normalize : jcls 414 = 11 := by decide +kernel
theorem a_Md_copySubterm {x0 x1 x2 : JV} : jargs 415 [x0, x1, x2] = [x0, x1, x2, jU] := by
  unfold jargs
  rw [show jmaxL 415 = 4 by decide +kernel]
  rfl
theorem k_Md_copySubterm : jcls 415 = 11 := by decide +kernel
theorem a_Md_replaceSubterm {x0 x1 x2 x3 : JV} : jargs 416 [x0, x1, x2, x3] = [x0, x1, x2, x3, jU] := by
  unfold jargs
  rw [show jmaxL 416 = 5 by decide +kernel]
  rfl
theorem k_Md_replaceSubterm : jcls 416 = 11 := by decide +kernel
theorem a_Md_canReplace {x0 x1 x2 x3 : JV} : jargs 417 [x0, x1, x2, x3] = [x0, x1, x2, x3] := by
  unfold jargs
  rw [show jmaxL 417 = 4 by decide +kernel]
  rfl
theorem k_Md_canReplace : jcls 417 = 11 := by decide +kernel
theorem a_Md_swapRules {x0 x1 x2 : JV} : jargs 418 [x0, x1, x2] = [x0, x1, x2, jU, jU] := by
  unfold jargs
  rw [show jmaxL 418 = 5 by decide +kernel]
  rfl
theorem k_Md_swapRules : jcls 418 = 11 := by decide +kernel
theorem a_Md_allRedexes {x0 : JV} : jargs 419 [x0] = [x0, jU, jU] := by
  unfold jargs
  rw [show jmaxL 419 = 3 by decide +kernel]
  rfl
theorem k_Md_allRedexes : jcls 419 = 11 := by decide +kernel
theorem a_Md_removeRule {x0 x1 : JV} : jargs 420 [x0, x1] = [x0, x1] := by
  unfold jargs
  rw [show jmaxL 420 = 2 by decide +kernel]
  rfl
theorem k_Md_removeRule : jcls 420 = 11 := by decide +kernel
theorem a_Md_reverseRule {x0 x1 : JV} : jargs 421 [x0, x1] = [x0, x1, jU] := by
  unfold jargs
  rw [show jmaxL 421 = 3 by decide +kernel]
  rfl
theorem k_Md_reverseRule : jcls 421 = 11 := by decide +kernel
theorem a_Md_removeTerm {x0 x1 : JV} : jargs 422 [x0, x1] = [x0, x1] := by
  unfold jargs
  rw [show jmaxL 422 = 2 by decide +kernel]
  rfl
theorem k_Md_removeTerm : jcls 422 = 11 := by decide +kernel
theorem a_Md_undo {x0 : JV} : jargs 423 [x0] = [x0] := by
  unfold jargs
  rw [show jmaxL 423 = 1 by decide +kernel]
  rfl
theorem k_Md_undo : jcls 423 = 11 := by decide +kernel
theorem a_Md_undoCount {x0 : JV} : jargs 424 [x0] = [x0] := by
  unfold jargs
  rw [show jmaxL 424 = 1 by decide +kernel]
  rfl
theorem k_Md_undoCount : jcls 424 = 11 := by decide +kernel
theorem a_Md_saveState {x0 x1 : JV} : jargs 425 [x0, x1] = [x0, x1] := by
  unfold jargs
  rw [show jmaxL 425 = 2 by decide +kernel]
  rfl
theorem k_Md_saveState : jcls 425 = 11 := by decide +kernel
theorem a_Md_isSlot {x0 : JV} : jargs 426 [x0] = [x0] := by
  unfold jargs
  rw [show jmaxL 426 = 1 by decide +kernel]
  rfl
theorem a_Md_restoreState {x0 x1 : JV} : jargs 427 [x0, x1] = [x0, x1, jU] := by
  unfold jargs
  rw [show jmaxL 427 = 3 by decide +kernel]
  rfl
theorem k_Md_restoreState : jcls 427 = 11 := by decide +kernel
theorem jsh_set {M : JM} {i k x : Nat} {v : JV} : jsh (jset M i k v) x = jsh M x := rfl
theorem jget_set {M : JM} {i k x y : Nat} {v : JV} : jget (jset M i k v) x y = if x = i ∧ y = k then v else jget M x y := rfl
theorem jtag_set {M : JM} {i k x : Nat} {v : JV} : jtag (jset M i k v) x = jtag M x := rfl
theorem jlen_set {M : JM} {i k x : Nat} {v : JV} : jlen (jset M i k v) x = jlen M x := rfl
theorem jL_set {M : JM} {i k : Nat} {v : JV} : jL (jset M i k v) = jL M := rfl
theorem jxs_set {M : JM} {i k : Nat} {v : JV} : jxs (jset M i k v) = jxs M := rfl
theorem jclean_set {M : JM} {i k : Nat} {v : JV} : jclean (jset M i k v) = jclean M := rfl
theorem wr_id {z : Int} (h1 : -2147483648 ≤ z) (h2 : z ≤ 2147483647) : wr z = z := by
  unfold wr
  rw [Int.bmod_eq_of_le (by omega) (by omega)]
theorem jtag_of {M : JM} {i t n : Nat} (h : jsh M i = some (t, n)) (hi : i < 1000000) : jtag M i = t := by
  unfold jtag
  rw [if_pos hi, h]
  rfl
theorem jlen_of {M : JM} {i t n : Nat} (h : jsh M i = some (t, n)) (hi : i < 1000000) (ht : 100 ≤ t) : jlen M i = some n := by
  unfold jlen
  rw [if_pos hi, h]
  exact if_pos ht
