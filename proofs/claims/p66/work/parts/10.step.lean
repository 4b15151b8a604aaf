/-! THE PRINTED MACHINE HELD AGAINST THE PURE ONE: one instruction after another -/
theorem jofi_sub (x y : Int) : Int32.ofInt x - Int32.ofInt y = Int32.ofInt (wr (x - y)) := by
  apply Int32.toInt_inj.mp
  simp only [Int32.toInt_sub, Int32.toInt_ofInt, wr]
  simp [Int.sub_bmod_bmod, Int.bmod_sub_bmod]
theorem jofi_mul (x y : Int) : Int32.ofInt x * Int32.ofInt y = Int32.ofInt (wr (x * y)) := by
  apply Int32.toInt_inj.mp
  simp only [Int32.toInt_mul, Int32.toInt_ofInt, wr]
  simp [Int.bmod_mul_bmod, Int.mul_bmod_bmod]
theorem jwr_rng (z : Int) : -2147483648 ≤ wr z ∧ wr z ≤ 2147483647 := by
  unfold wr
  have h1 := @Int.le_bmod z 4294967296 (by decide)
  have h2 := @Int.bmod_lt z 4294967296 (by decide)
  omega
theorem jlt_iff {x y : Int} (hx : jok (.inl x)) (hy : jok (.inl y)) : Int32.ofInt x < Int32.ofInt y ↔ x < y := by
  rw [Int32.lt_iff_toInt_lt, jofi hx, jofi hy]
theorem jle_iff {x y : Int} (hx : jok (.inl x)) (hy : jok (.inl y)) : Int32.ofInt x ≤ Int32.ofInt y ↔ x ≤ y := by
  rw [Int32.le_iff_toInt_le, jofi hx, jofi hy]
theorem jeq_iff {x y : Int} (hx : jok (.inl x)) (hy : jok (.inl y)) : Int32.ofInt x = Int32.ofInt y ↔ x = y := by
  rw [← Int32.toInt_inj, jofi hx, jofi hy]
theorem jof0 : Int32.ofInt 0 = 0 := by decide +kernel
theorem jok0 : jok (.inl 0) := by unfold jok; omega
theorem jkn_ok {v : JV} (h : jok v) : jkn v = true := by
  rcases v with z | z | z
  · rfl
  · rfl
  · cases z <;> first | rfl | cases h
theorem jofi_rng {n : Int} (h : (Int32.ofInt n).toInt = n) : -2147483648 ≤ n ∧ n ≤ 2147483647 := by
  have h1 := jwr_ok (Int32.ofInt n)
  rw [h] at h1
  exact h1
/-- what a method's walk stands on -/
def jCtx (E : JE) (mi : Nat) (p : Program) (l : Launch) (s : State) (m : MethodId) (args : Array Value) (meth : Method) (c : Code) : Prop :=
  p.tables.exec = Jvm.exec ∧ c.code = jmb mi ∧ c.maxLocals = jmaxL mi ∧ s.vm.findClass (jnm mi).cls = some m.cls ∧ (∀ w ∈ jgood, w.before args s = true) ∧ jFx E s s.heap ∧ meth.locks = false ∧ meth.name = (jnm mi).name ∧ l.flags = flags0 ∧ jB E ≤ s.heap.size
/-- what holds at each place of it -/
def jInv (E : JE) (mi : Nat) (s : State) (lsA : Array Slot) (H : Heap) (locs : List Loc) (ls st : List JV) (M : JM) : Prop :=
  jLoc E lsA (jmaxL mi) ls ∧ jRel E M H ∧ (∀ v ∈ st, jok v ∧ jkn v = true) ∧ va_S (jA E) s.heap H locs
def jGo (E : JE) (mi : Nat) (p : Program) (l : Launch) (e : Env) (R : Room) (s : State) (m : MethodId) (args : Array Value) (below : List Frame) (meth : Method) (c : Code) (Q : State → Prop) (c0 s0 : Nat) (pc : Nat) (ls st : List JV) (M : JM) : Prop :=
  ∀ (lsA : Array Slot) (H : Heap) (locs : List Loc), jInv E mi s lsA H locs ls st M → W p l e R s m args below meth c H locs (jcells M - c0) (jslots M - s0) Q (F0 m pc lsA (st.map (jval E)))
section J10
variable {E : JE} {mi : Nat} {p : Program} {l : Launch} {e : Env} {R : Room} {s : State} {m : MethodId} {args : Array Value} {below : List Frame} {meth : Method} {c : Code} {Q : State → Prop} {c0 s0 pc : Nat} {ls st : List JV} {M : JM}
theorem jInv.re {lsA : Array Slot} {H : Heap} {locs : List Loc} {st1 : List JV} (h : jInv E mi s lsA H locs ls st M) (h1 : ∀ v ∈ st1, jok v ∧ jkn v = true) : jInv E mi s lsA H locs ls st1 M := ⟨h.1, h.2.1, h1, h.2.2.2⟩
theorem jInv.hd {lsA : Array Slot} {H : Heap} {locs : List Loc} {v : JV} (h : jInv E mi s lsA H locs ls (v :: st) M) : jok v ∧ jkn v = true := h.2.2.1 v List.mem_cons_self
theorem jInv.tl {lsA : Array Slot} {H : Heap} {locs : List Loc} {v : JV} (h : jInv E mi s lsA H locs ls (v :: st) M) : jInv E mi s lsA H locs ls st M := h.re fun w hw => h.2.2.1 w (List.mem_cons_of_mem _ hw)
theorem jInv.push {lsA : Array Slot} {H : Heap} {locs : List Loc} {v : JV} (h : jInv E mi s lsA H locs ls st M) (h1 : jok v) (h2 : jkn v = true) : jInv E mi s lsA H locs ls (v :: st) M := h.re fun w hw => (List.mem_cons.mp hw).elim (fun q => by rw [q]; exact ⟨h1, h2⟩) (h.2.2.1 w)
theorem jInv.pushI {lsA : Array Slot} {H : Heap} {locs : List Loc} {z : Int} (h : jInv E mi s lsA H locs ls st M) (h1 : -2147483648 ≤ z ∧ z ≤ 2147483647) : jInv E mi s lsA H locs ls (.inl z :: st) M := h.push h1 rfl
theorem j_aload_n {k0 : Fin 4} {z : Nat} (C : jCtx E mi p l s m args meth c) (hd : decode (jmb mi) pc = .ok (.aload_n k0, 1)) (hl : jld ls k0 = .inr (.inl z)) (k : jGo E mi p l e R s m args below meth c Q c0 s0 (pc + 1) ls (.inr (.inl z) :: st) M) : jGo E mi p l e R s m args below meth c Q c0 s0 pc ls (st) M := by
  intro lsA H locs I
  obtain ⟨h1, h2⟩ := jLoc_at I.1 hl rfl
  exact lv_aload_n C.1 C.2.1 hd rfl h1 (k lsA H locs (I.push h2 rfl))
theorem j_iload_n {k0 : Fin 4} {z : Int} (C : jCtx E mi p l s m args meth c) (hd : decode (jmb mi) pc = .ok (.iload_n k0, 1)) (hl : jld ls k0 = .inl z) (k : jGo E mi p l e R s m args below meth c Q c0 s0 (pc + 1) ls (.inl z :: st) M) : jGo E mi p l e R s m args below meth c Q c0 s0 pc ls (st) M := by
  intro lsA H locs I
  obtain ⟨h1, h2⟩ := jLoc_at I.1 hl rfl
  exact lv_iload_n C.1 C.2.1 hd rfl h1 (k lsA H locs (I.push h2 rfl))
theorem j_aload {i : Nat} {z : Nat} (C : jCtx E mi p l s m args meth c) (hd : decode (jmb mi) pc = .ok (.aload i, 2)) (hl : jld ls i = .inr (.inl z)) (k : jGo E mi p l e R s m args below meth c Q c0 s0 (pc + 2) ls (.inr (.inl z) :: st) M) : jGo E mi p l e R s m args below meth c Q c0 s0 pc ls (st) M := by
  intro lsA H locs I
  obtain ⟨h1, h2⟩ := jLoc_at I.1 hl rfl
  exact lv_aload C.1 C.2.1 hd h1 (k lsA H locs (I.push h2 rfl))
theorem j_iload {i : Nat} {z : Int} (C : jCtx E mi p l s m args meth c) (hd : decode (jmb mi) pc = .ok (.iload i, 2)) (hl : jld ls i = .inl z) (k : jGo E mi p l e R s m args below meth c Q c0 s0 (pc + 2) ls (.inl z :: st) M) : jGo E mi p l e R s m args below meth c Q c0 s0 pc ls (st) M := by
  intro lsA H locs I
  obtain ⟨h1, h2⟩ := jLoc_at I.1 hl rfl
  exact lv_iload C.1 C.2.1 hd h1 (k lsA H locs (I.push h2 rfl))
theorem j_istore_n {k0 : Fin 4} {z : Int} {ls1 : List JV} (C : jCtx E mi p l s m args meth c) (hd : decode (jmb mi) pc = .ok (.istore_n k0, 1)) (hl : jsto ls (k0 : Nat) (.inl z) = some ls1) (k : jGo E mi p l e R s m args below meth c Q c0 s0 (pc + 1) ls1 (st) M) : jGo E mi p l e R s m args below meth c Q c0 s0 pc ls (.inl z :: st) M := by
  intro lsA H locs I
  have hn : (k0 : Nat) < jmaxL mi := by
    unfold jsto at hl
    split at hl
    · rename_i hc
      rw [← I.1.2.1]; exact hc.2
    · cases hl
  exact lv_istore_n C.1 C.2.1 hd rfl (jLoc_has I.1) hn rfl fun ls9 h9 => k ls9 H locs ⟨jLoc_sto I.1 hl I.hd.1 h9, I.2.1, I.tl.2.2.1, I.2.2.2⟩
theorem j_istore {i : Nat} {z : Int} {ls1 : List JV} (C : jCtx E mi p l s m args meth c) (hd : decode (jmb mi) pc = .ok (.istore i, 2)) (hl : jsto ls i (.inl z) = some ls1) (k : jGo E mi p l e R s m args below meth c Q c0 s0 (pc + 2) ls1 (st) M) : jGo E mi p l e R s m args below meth c Q c0 s0 pc ls (.inl z :: st) M := by
  intro lsA H locs I
  have hn : i < jmaxL mi := by
    unfold jsto at hl
    split at hl
    · rename_i hc
      rw [← I.1.2.1]; exact hc.2
    · cases hl
  exact lv_istore C.1 C.2.1 hd (jLoc_has I.1) hn rfl fun ls9 h9 => k ls9 H locs ⟨jLoc_sto I.1 hl I.hd.1 h9, I.2.1, I.tl.2.2.1, I.2.2.2⟩
theorem j_astore_n {k0 : Fin 4} {z : Nat} {ls1 : List JV} (C : jCtx E mi p l s m args meth c) (hd : decode (jmb mi) pc = .ok (.astore_n k0, 1)) (hl : jsto ls (k0 : Nat) (.inr (.inl z)) = some ls1) (k : jGo E mi p l e R s m args below meth c Q c0 s0 (pc + 1) ls1 (st) M) : jGo E mi p l e R s m args below meth c Q c0 s0 pc ls (.inr (.inl z) :: st) M := by
  intro lsA H locs I
  have hn : (k0 : Nat) < jmaxL mi := by
    unfold jsto at hl
    split at hl
    · rename_i hc
      rw [← I.1.2.1]; exact hc.2
    · cases hl
  exact lv_astore_n C.1 C.2.1 hd rfl (jLoc_has I.1) hn rfl fun ls9 h9 => k ls9 H locs ⟨jLoc_sto I.1 hl I.hd.1 h9, I.2.1, I.tl.2.2.1, I.2.2.2⟩
theorem j_astore {i : Nat} {z : Nat} {ls1 : List JV} (C : jCtx E mi p l s m args meth c) (hd : decode (jmb mi) pc = .ok (.astore i, 2)) (hl : jsto ls i (.inr (.inl z)) = some ls1) (k : jGo E mi p l e R s m args below meth c Q c0 s0 (pc + 2) ls1 (st) M) : jGo E mi p l e R s m args below meth c Q c0 s0 pc ls (.inr (.inl z) :: st) M := by
  intro lsA H locs I
  have hn : i < jmaxL mi := by
    unfold jsto at hl
    split at hl
    · rename_i hc
      rw [← I.1.2.1]; exact hc.2
    · cases hl
  exact lv_astore C.1 C.2.1 hd (jLoc_has I.1) hn rfl fun ls9 h9 => k ls9 H locs ⟨jLoc_sto I.1 hl I.hd.1 h9, I.2.1, I.tl.2.2.1, I.2.2.2⟩
theorem j_aload_nN {k0 : Fin 4} (C : jCtx E mi p l s m args meth c) (hd : decode (jmb mi) pc = .ok (.aload_n k0, 1)) (hl : jld ls k0 = .inr (.inr .null)) (k : jGo E mi p l e R s m args below meth c Q c0 s0 (pc + 1) ls (.inr (.inr .null) :: st) M) : jGo E mi p l e R s m args below meth c Q c0 s0 pc ls (st) M := by
  intro lsA H locs I
  obtain ⟨h1, h2⟩ := jLoc_at I.1 hl rfl
  exact lv_aload_nN C.1 C.2.1 hd rfl h1 (k lsA H locs (I.push h2 rfl))
theorem j_aloadN {i : Nat} (C : jCtx E mi p l s m args meth c) (hd : decode (jmb mi) pc = .ok (.aload i, 2)) (hl : jld ls i = .inr (.inr .null)) (k : jGo E mi p l e R s m args below meth c Q c0 s0 (pc + 2) ls (.inr (.inr .null) :: st) M) : jGo E mi p l e R s m args below meth c Q c0 s0 pc ls (st) M := by
  intro lsA H locs I
  obtain ⟨h1, h2⟩ := jLoc_at I.1 hl rfl
  exact lv_aloadN C.1 C.2.1 hd h1 (k lsA H locs (I.push h2 rfl))
theorem j_astore_nN {k0 : Fin 4} {ls1 : List JV} (C : jCtx E mi p l s m args meth c) (hd : decode (jmb mi) pc = .ok (.astore_n k0, 1)) (hl : jsto ls k0 (.inr (.inr .null)) = some ls1) (k : jGo E mi p l e R s m args below meth c Q c0 s0 (pc + 1) ls1 (st) M) : jGo E mi p l e R s m args below meth c Q c0 s0 pc ls (.inr (.inr .null) :: st) M := by
  intro lsA H locs I
  have hn : (k0 : Nat) < jmaxL mi := by
    unfold jsto at hl
    split at hl
    · rename_i hc
      rw [← I.1.2.1]; exact hc.2
    · cases hl
  exact lv_astore_nN C.1 C.2.1 hd rfl (jLoc_has I.1) hn rfl fun ls9 h9 => k ls9 H locs ⟨jLoc_sto (v := .inr (.inr .null)) I.1 hl trivial h9, I.2.1, I.tl.2.2.1, I.2.2.2⟩
theorem j_astoreN {i : Nat} {ls1 : List JV} (C : jCtx E mi p l s m args meth c) (hd : decode (jmb mi) pc = .ok (.astore i, 2)) (hl : jsto ls i (.inr (.inr .null)) = some ls1) (k : jGo E mi p l e R s m args below meth c Q c0 s0 (pc + 2) ls1 (st) M) : jGo E mi p l e R s m args below meth c Q c0 s0 pc ls (.inr (.inr .null) :: st) M := by
  intro lsA H locs I
  have hn : i < jmaxL mi := by
    unfold jsto at hl
    split at hl
    · rename_i hc
      rw [← I.1.2.1]; exact hc.2
    · cases hl
  exact lv_astoreN C.1 C.2.1 hd (jLoc_has I.1) hn rfl fun ls9 h9 => k ls9 H locs ⟨jLoc_sto (v := .inr (.inr .null)) I.1 hl trivial h9, I.2.1, I.tl.2.2.1, I.2.2.2⟩
theorem j_iinc {i : Nat} {n z : Int} {ls1 : List JV} (C : jCtx E mi p l s m args meth c) (hd : decode (jmb mi) pc = .ok (.iinc i n, 3)) (hz : jld ls i = .inl z) (hl : jsto ls i (.inl (wr (z + n))) = some ls1) (k : jGo E mi p l e R s m args below meth c Q c0 s0 (pc + 3) ls1 (st) M) : jGo E mi p l e R s m args below meth c Q c0 s0 pc ls (st) M := by
  intro lsA H locs I
  have hn : i < jmaxL mi := by
    unfold jsto at hl
    split at hl
    · rename_i hc
      rw [← I.1.2.1]; exact hc.2
    · cases hl
  have hg : ls[i]? = some (.inl z) := by
    unfold jld at hz
    rw [List.getD_eq_getElem?_getD] at hz
    cases hq : ls[i]? with
    | none => rw [hq] at hz; cases hz
    | some w => rw [hq] at hz; simp at hz; rw [hz]
  obtain ⟨q, hq⟩ := List.mem_iff_getElem?.mp ((jlv_mem (E := E) ls 0 (i, Value.int (Int32.ofInt z))).mpr ⟨i, .inl z, hg, rfl, by rw [Nat.zero_add]; rfl⟩)
  exact lv_iinc C.1 C.2.1 hd (jLoc_has I.1) hq (jofi_add z n) hn rfl fun ls9 h9 => k ls9 H locs ⟨jLoc_sto I.1 hl (jwr_rng _) h9, I.2.1, I.2.2.1, I.2.2.2⟩
theorem j_iconst {n : Int} (C : jCtx E mi p l s m args meth c) (hd : decode (jmb mi) pc = .ok (.iconst n, 1)) (hn : -1 ≤ n ∧ n ≤ 5) (k : jGo E mi p l e R s m args below meth c Q c0 s0 (pc + 1) ls (.inl n :: st) M) : jGo E mi p l e R s m args below meth c Q c0 s0 pc ls (st) M := by
  intro lsA H locs I
  exact lv_iconst C.1 C.2.1 hd rfl (k lsA H locs (I.pushI (by omega)))
theorem j_bipush {n : Int} (C : jCtx E mi p l s m args meth c) (hd : decode (jmb mi) pc = .ok (.bipush n, 2)) (hn : (Int8.ofInt n).toInt32 = Int32.ofInt n) (hn2 : (Int32.ofInt n).toInt = n) (k : jGo E mi p l e R s m args below meth c Q c0 s0 (pc + 2) ls (.inl n :: st) M) : jGo E mi p l e R s m args below meth c Q c0 s0 pc ls (st) M := by
  intro lsA H locs I
  exact lv_bipush C.1 C.2.1 hd hn (k lsA H locs (I.pushI (jofi_rng hn2)))
theorem j_sipush {n : Int} (C : jCtx E mi p l s m args meth c) (hd : decode (jmb mi) pc = .ok (.sipush n, 3)) (hn : (Int16.ofInt n).toInt32 = Int32.ofInt n) (hn2 : (Int32.ofInt n).toInt = n) (k : jGo E mi p l e R s m args below meth c Q c0 s0 (pc + 3) ls (.inl n :: st) M) : jGo E mi p l e R s m args below meth c Q c0 s0 pc ls (st) M := by
  intro lsA H locs I
  exact lv_sipush C.1 C.2.1 hd hn (k lsA H locs (I.pushI (jofi_rng hn2)))
theorem j_lconst {n : Fin 2} (C : jCtx E mi p l s m args meth c) (hd : decode (jmb mi) pc = .ok (.lconst n, 1)) (k : jGo E mi p l e R s m args below meth c Q c0 s0 (pc + 1) ls (.inr (.inr (.long (Int64.ofNat n))) :: st) M) : jGo E mi p l e R s m args below meth c Q c0 s0 pc ls (st) M := by
  intro lsA H locs I
  exact lv_lconst C.1 C.2.1 hd rfl (k lsA H locs (I.push trivial rfl))
theorem j_aconst_null  (C : jCtx E mi p l s m args meth c) (hd : decode (jmb mi) pc = .ok (.aconst_null, 1)) (k : jGo E mi p l e R s m args below meth c Q c0 s0 (pc + 1) ls (.inr (.inr .null) :: st) M) : jGo E mi p l e R s m args below meth c Q c0 s0 pc ls (st) M := by
  intro lsA H locs I
  exact lv_null C.1 C.2.1 hd (k lsA H locs (I.push (v := .inr (.inr .null)) trivial rfl))
theorem j_ldc2 {n a : Nat} (C : jCtx E mi p l s m args meth c) (hd : decode (jmb mi) pc = .ok (.ldc2_w n, 3)) (hl : Cond.constantLong (jnm mi).cls n (Int64.ofNat a) ∈ jgood) (k : jGo E mi p l e R s m args below meth c Q c0 s0 (pc + 3) ls (.inr (.inr (.long (Int64.ofNat a))) :: st) M) : jGo E mi p l e R s m args below meth c Q c0 s0 pc ls (st) M := by
  intro lsA H locs I
  exact lv_ldc2 C.1 C.2.1 C.2.2.2.1 (C.2.2.2.2.1 _ hl) hd (k lsA H locs (I.push trivial rfl))
theorem j_ior {x y : Int} (C : jCtx E mi p l s m args meth c) (hd : decode (jmb mi) pc = .ok (.ior, 1)) (k : jGo E mi p l e R s m args below meth c Q c0 s0 (pc + 1) ls (.inl (jor x y) :: st) M) : jGo E mi p l e R s m args below meth c Q c0 s0 pc ls (.inl y :: .inl x :: st) M := by
  intro lsA H locs I
  refine lv_ior C.1 C.2.1 hd ?_
  rw [← jof_toInt (Int32.ofInt x ||| Int32.ofInt y)]
  exact k lsA H locs (I.tl.tl.pushI (jwr_ok _))
theorem j_ishl {x y : Int} (C : jCtx E mi p l s m args meth c) (hd : decode (jmb mi) pc = .ok (.ishl, 1)) (k : jGo E mi p l e R s m args below meth c Q c0 s0 (pc + 1) ls (.inl (jshl x y) :: st) M) : jGo E mi p l e R s m args below meth c Q c0 s0 pc ls (.inl y :: .inl x :: st) M := by
  intro lsA H locs I
  refine lv_ishl C.1 C.2.1 hd ?_
  rw [← jof_toInt (Int32.ofInt x <<< (Int32.ofInt y &&& 31))]
  exact k lsA H locs (I.tl.tl.pushI (jwr_ok _))
theorem j_idiv {x y : Int} (C : jCtx E mi p l s m args meth c) (hd : decode (jmb mi) pc = .ok (.idiv, 1)) (hy : 0 < y) (k : jGo E mi p l e R s m args below meth c Q c0 s0 (pc + 1) ls (.inl (jdiv x y) :: st) M) : jGo E mi p l e R s m args below meth c Q c0 s0 pc ls (.inl y :: .inl x :: st) M := by
  intro lsA H locs I
  have hne : ¬ Int32.ofInt y = 0 := by
    intro q
    have h0 := (jeq_iff (x := y) (y := 0) I.hd.1 jok0).mp (by rw [q]; exact jof0.symm)
    omega
  refine lv_idiv C.1 C.2.1 hd hne ?_
  rw [← jof_toInt (Int32.ofInt x / Int32.ofInt y)]
  exact k lsA H locs (I.tl.tl.pushI (jwr_ok _))
theorem j_irem {x y : Int} (C : jCtx E mi p l s m args meth c) (hd : decode (jmb mi) pc = .ok (.irem, 1)) (hy : 0 < y) (k : jGo E mi p l e R s m args below meth c Q c0 s0 (pc + 1) ls (.inl (jrem x y) :: st) M) : jGo E mi p l e R s m args below meth c Q c0 s0 pc ls (.inl y :: .inl x :: st) M := by
  intro lsA H locs I
  have hne : ¬ Int32.ofInt y = 0 := by
    intro q
    have h0 := (jeq_iff (x := y) (y := 0) I.hd.1 jok0).mp (by rw [q]; exact jof0.symm)
    omega
  refine lv_irem C.1 C.2.1 hd hne ?_
  rw [← jof_toInt (Int32.ofInt x - Int32.ofInt x / Int32.ofInt y * Int32.ofInt y)]
  exact k lsA H locs (I.tl.tl.pushI (jwr_ok _))
theorem j_ladd {x y : Int64} (C : jCtx E mi p l s m args meth c) (hd : decode (jmb mi) pc = .ok (.ladd, 1)) (k : jGo E mi p l e R s m args below meth c Q c0 s0 (pc + 1) ls (.inr (.inr (.long (x + y))) :: st) M) : jGo E mi p l e R s m args below meth c Q c0 s0 pc ls (.inr (.inr (.long y)) :: .inr (.inr (.long x)) :: st) M := by
  intro lsA H locs I
  exact lv_ladd C.1 C.2.1 hd (k lsA H locs (I.tl.tl.push (v := .inr (.inr (.long (x + y)))) trivial rfl))
theorem j_lsub {x y : Int64} (C : jCtx E mi p l s m args meth c) (hd : decode (jmb mi) pc = .ok (.lsub, 1)) (k : jGo E mi p l e R s m args below meth c Q c0 s0 (pc + 1) ls (.inr (.inr (.long (x - y))) :: st) M) : jGo E mi p l e R s m args below meth c Q c0 s0 pc ls (.inr (.inr (.long y)) :: .inr (.inr (.long x)) :: st) M := by
  intro lsA H locs I
  exact lv_lsub C.1 C.2.1 hd (k lsA H locs (I.tl.tl.push (v := .inr (.inr (.long (x - y)))) trivial rfl))
theorem j_lmul {x y : Int64} (C : jCtx E mi p l s m args meth c) (hd : decode (jmb mi) pc = .ok (.lmul, 1)) (k : jGo E mi p l e R s m args below meth c Q c0 s0 (pc + 1) ls (.inr (.inr (.long (x * y))) :: st) M) : jGo E mi p l e R s m args below meth c Q c0 s0 pc ls (.inr (.inr (.long y)) :: .inr (.inr (.long x)) :: st) M := by
  intro lsA H locs I
  exact lv_lmul C.1 C.2.1 hd (k lsA H locs (I.tl.tl.push (v := .inr (.inr (.long (x * y)))) trivial rfl))
theorem j_l2i {x : Int64} (C : jCtx E mi p l s m args meth c) (hd : decode (jmb mi) pc = .ok (.l2i, 1)) (k : jGo E mi p l e R s m args below meth c Q c0 s0 (pc + 1) ls (.inl x.toInt32.toInt :: st) M) : jGo E mi p l e R s m args below meth c Q c0 s0 pc ls (.inr (.inr (.long x)) :: st) M := by
  intro lsA H locs I
  exact lv_l2i C.1 C.2.1 hd (v := Int32.ofInt x.toInt32.toInt) (jof_toInt _).symm (k lsA H locs (I.tl.pushI (jwr_ok _)))
theorem j_dup_x1 {v w : JV} (C : jCtx E mi p l s m args meth c) (hd : decode (jmb mi) pc = .ok (.dup_x1, 1)) (hc : jc2 v = false) (hc2 : jc2 w = false) (k : jGo E mi p l e R s m args below meth c Q c0 s0 (pc + 1) ls (v :: w :: v :: st) M) : jGo E mi p l e R s m args below meth c Q c0 s0 pc ls (v :: w :: st) M := by
  intro lsA H locs I
  exact lv_dup_x1 C.1 C.2.1 hd (jval_c2 hc) (jval_c2 hc2) (k lsA H locs (((I.tl.tl.push I.hd.1 I.hd.2).push I.tl.hd.1 I.tl.hd.2).push I.hd.1 I.hd.2))
theorem j_castN {n : Nat} (C : jCtx E mi p l s m args meth c) (hd : decode (jmb mi) pc = .ok (.checkcast n, 3)) (k : jGo E mi p l e R s m args below meth c Q c0 s0 (pc + 3) ls (.inr (.inr .null) :: st) M) : jGo E mi p l e R s m args below meth c Q c0 s0 pc ls (.inr (.inr .null) :: st) M := by
  intro lsA H locs I
  exact lv_castN C.1 C.2.1 hd (k lsA H locs I)
theorem j_iadd {x y : Int} (C : jCtx E mi p l s m args meth c) (hd : decode (jmb mi) pc = .ok (.iadd, 1)) (k : jGo E mi p l e R s m args below meth c Q c0 s0 (pc + 1) ls (.inl (wr (x + y)) :: st) M) : jGo E mi p l e R s m args below meth c Q c0 s0 pc ls (.inl y :: .inl x :: st) M := by
  intro lsA H locs I
  refine lv_iadd C.1 C.2.1 hd ?_
  rw [jofi_add]
  exact k lsA H locs (I.tl.tl.pushI (jwr_rng _))
theorem j_isub {x y : Int} (C : jCtx E mi p l s m args meth c) (hd : decode (jmb mi) pc = .ok (.isub, 1)) (k : jGo E mi p l e R s m args below meth c Q c0 s0 (pc + 1) ls (.inl (wr (x - y)) :: st) M) : jGo E mi p l e R s m args below meth c Q c0 s0 pc ls (.inl y :: .inl x :: st) M := by
  intro lsA H locs I
  refine lv_isub C.1 C.2.1 hd ?_
  rw [jofi_sub]
  exact k lsA H locs (I.tl.tl.pushI (jwr_rng _))
theorem j_imul {x y : Int} (C : jCtx E mi p l s m args meth c) (hd : decode (jmb mi) pc = .ok (.imul, 1)) (k : jGo E mi p l e R s m args below meth c Q c0 s0 (pc + 1) ls (.inl (wr (x * y)) :: st) M) : jGo E mi p l e R s m args below meth c Q c0 s0 pc ls (.inl y :: .inl x :: st) M := by
  intro lsA H locs I
  refine lv_imul C.1 C.2.1 hd ?_
  rw [jofi_mul]
  exact k lsA H locs (I.tl.tl.pushI (jwr_rng _))
theorem j_iand {x y : Int} (C : jCtx E mi p l s m args meth c) (hd : decode (jmb mi) pc = .ok (.iand, 1)) (k : jGo E mi p l e R s m args below meth c Q c0 s0 (pc + 1) ls (.inl (jand x y) :: st) M) : jGo E mi p l e R s m args below meth c Q c0 s0 pc ls (.inl y :: .inl x :: st) M := by
  intro lsA H locs I
  refine lv_iand C.1 C.2.1 hd ?_
  rw [← jof_toInt (Int32.ofInt x &&& Int32.ofInt y)]
  exact k lsA H locs (I.tl.tl.pushI (jwr_ok _))
theorem j_ishr {x y : Int} (C : jCtx E mi p l s m args meth c) (hd : decode (jmb mi) pc = .ok (.ishr, 1)) (k : jGo E mi p l e R s m args below meth c Q c0 s0 (pc + 1) ls (.inl (jshr x y) :: st) M) : jGo E mi p l e R s m args below meth c Q c0 s0 pc ls (.inl y :: .inl x :: st) M := by
  intro lsA H locs I
  refine lv_ishr C.1 C.2.1 hd ?_
  rw [← jof_toInt (Int32.ofInt x >>> (Int32.ofInt y &&& 31))]
  exact k lsA H locs (I.tl.tl.pushI (jwr_ok _))
theorem j_iushr {x y : Int} (C : jCtx E mi p l s m args meth c) (hd : decode (jmb mi) pc = .ok (.iushr, 1)) (k : jGo E mi p l e R s m args below meth c Q c0 s0 (pc + 1) ls (.inl (jushr x y) :: st) M) : jGo E mi p l e R s m args below meth c Q c0 s0 pc ls (.inl y :: .inl x :: st) M := by
  intro lsA H locs I
  exact lv_iushr C.1 C.2.1 hd (v := Int32.ofInt (jushr x y)) (jof_toInt _).symm (k lsA H locs (I.tl.tl.pushI (jwr_ok _)))
theorem j_i2b {x : Int} (C : jCtx E mi p l s m args meth c) (hd : decode (jmb mi) pc = .ok (.i2b, 1)) (k : jGo E mi p l e R s m args below meth c Q c0 s0 (pc + 1) ls (.inl (jb8 x) :: st) M) : jGo E mi p l e R s m args below meth c Q c0 s0 pc ls (.inl x :: st) M := by
  intro lsA H locs I
  exact lv_i2b C.1 C.2.1 hd (v := Int32.ofInt (jb8 x)) (jof_toInt _).symm (k lsA H locs (I.tl.pushI (jwr_ok _)))
theorem j_i2c {x : Int} (C : jCtx E mi p l s m args meth c) (hd : decode (jmb mi) pc = .ok (.i2c, 1)) (k : jGo E mi p l e R s m args below meth c Q c0 s0 (pc + 1) ls (.inl (jc16 x) :: st) M) : jGo E mi p l e R s m args below meth c Q c0 s0 pc ls (.inl x :: st) M := by
  intro lsA H locs I
  exact lv_i2c C.1 C.2.1 hd (v := Int32.ofInt (jc16 x)) (jof_toInt _).symm (k lsA H locs (I.tl.pushI (jwr_ok _)))
theorem j_i2l {x : Int} (C : jCtx E mi p l s m args meth c) (hd : decode (jmb mi) pc = .ok (.i2l, 1)) (k : jGo E mi p l e R s m args below meth c Q c0 s0 (pc + 1) ls (.inr (.inr (.long (Int32.ofInt x).toInt64)) :: st) M) : jGo E mi p l e R s m args below meth c Q c0 s0 pc ls (.inl x :: st) M := by
  intro lsA H locs I
  exact lv_i2l C.1 C.2.1 hd rfl (k lsA H locs (I.tl.push trivial rfl))
theorem j_lcmp {x y : Int64} (C : jCtx E mi p l s m args meth c) (hd : decode (jmb mi) pc = .ok (.lcmp, 1)) (k : jGo E mi p l e R s m args below meth c Q c0 s0 (pc + 1) ls (.inl (lg_cmp x y).toInt :: st) M) : jGo E mi p l e R s m args below meth c Q c0 s0 pc ls (.inr (.inr (.long y)) :: .inr (.inr (.long x)) :: st) M := by
  intro lsA H locs I
  refine W.lcmp C.1 C.2.1 hd ?_
  have h := k lsA H locs (I.tl.tl.pushI (jwr_ok _))
  rw [show List.map (jval E) (Sum.inl (lg_cmp x y).toInt :: st) = Value.int (Int32.ofInt (lg_cmp x y).toInt) :: st.map (jval E) from rfl, jof_toInt] at h
  exact h
theorem j_dup {v : JV} (C : jCtx E mi p l s m args meth c) (hd : decode (jmb mi) pc = .ok (.dup, 1)) (hc : jc2 v = false) (k : jGo E mi p l e R s m args below meth c Q c0 s0 (pc + 1) ls (v :: v :: st) M) : jGo E mi p l e R s m args below meth c Q c0 s0 pc ls (v :: st) M := by
  intro lsA H locs I
  exact lv_dup C.1 C.2.1 hd (jval_c2 hc) (k lsA H locs (I.push I.hd.1 I.hd.2))
theorem j_dup2 {v w : JV} (C : jCtx E mi p l s m args meth c) (hd : decode (jmb mi) pc = .ok (.dup2, 1)) (hc : jc2 v = false) (hc2 : jc2 w = false) (k : jGo E mi p l e R s m args below meth c Q c0 s0 (pc + 1) ls (v :: w :: v :: w :: st) M) : jGo E mi p l e R s m args below meth c Q c0 s0 pc ls (v :: w :: st) M := by
  intro lsA H locs I
  exact lv_dup2_11 C.1 C.2.1 hd (jval_c2 hc) (jval_c2 hc2) (k lsA H locs ((I.push I.tl.hd.1 I.tl.hd.2).push I.hd.1 I.hd.2))
theorem j_pop {v : JV} (C : jCtx E mi p l s m args meth c) (hd : decode (jmb mi) pc = .ok (.pop, 1)) (hc : jc2 v = false) (k : jGo E mi p l e R s m args below meth c Q c0 s0 (pc + 1) ls (st) M) : jGo E mi p l e R s m args below meth c Q c0 s0 pc ls (v :: st) M := by
  intro lsA H locs I
  exact lv_pop C.1 C.2.1 hd (jval_c2 hc) (k lsA H locs I.tl)
theorem j_goto {off : Int} {a : Nat} (C : jCtx E mi p l s m args meth c) (hd : decode (jmb mi) pc = .ok (.goto off, 3)) (ht : (pc : Int) + off = (a : Int)) (k : jGo E mi p l e R s m args below meth c Q c0 s0 (a) ls (st) M) : jGo E mi p l e R s m args below meth c Q c0 s0 pc ls (st) M := by
  intro lsA H locs I
  exact lv_goto C.1 C.2.1 hd ht (k lsA H locs I)
theorem j_ifnull {off : Int} {i : Nat} (C : jCtx E mi p l s m args meth c) (hd : decode (jmb mi) pc = .ok (.ifnull off, 3)) (k : jGo E mi p l e R s m args below meth c Q c0 s0 (pc + 3) ls (st) M) : jGo E mi p l e R s m args below meth c Q c0 s0 pc ls (.inr (.inl i) :: st) M := by
  intro lsA H locs I
  exact lv_ifnull C.1 C.2.1 hd (k lsA H locs I.tl)
theorem j_ifnonnull {off : Int} {i a : Nat} (C : jCtx E mi p l s m args meth c) (hd : decode (jmb mi) pc = .ok (.ifnonnull off, 3)) (ht : (pc : Int) + off = (a : Int)) (k : jGo E mi p l e R s m args below meth c Q c0 s0 (a) ls (st) M) : jGo E mi p l e R s m args below meth c Q c0 s0 pc ls (.inr (.inl i) :: st) M := by
  intro lsA H locs I
  exact lv_ifnonnull C.1 C.2.1 hd ht (k lsA H locs I.tl)
theorem j_ifnullN {off : Int} {a : Nat} (C : jCtx E mi p l s m args meth c) (hd : decode (jmb mi) pc = .ok (.ifnull off, 3)) (ht : (pc : Int) + off = (a : Int)) (k : jGo E mi p l e R s m args below meth c Q c0 s0 (a) ls (st) M) : jGo E mi p l e R s m args below meth c Q c0 s0 pc ls (.inr (.inr .null) :: st) M := by
  intro lsA H locs I
  exact lv_ifnullN C.1 C.2.1 hd ht (k lsA H locs I.tl)
theorem j_ifnonnullN {off : Int} (C : jCtx E mi p l s m args meth c) (hd : decode (jmb mi) pc = .ok (.ifnonnull off, 3)) (k : jGo E mi p l e R s m args below meth c Q c0 s0 (pc + 3) ls (st) M) : jGo E mi p l e R s m args below meth c Q c0 s0 pc ls (.inr (.inr .null) :: st) M := by
  intro lsA H locs I
  exact lv_ifnonnullN C.1 C.2.1 hd (k lsA H locs I.tl)
theorem j_ifCond_eq {x : Int} {off : Int} {a : Nat} (C : jCtx E mi p l s m args meth c) (hd : decode (jmb mi) pc = .ok (.ifCond .eq off, 3)) (ht : (pc : Int) + off = (a : Int)) (k1 : jcond .eq x 0 = true → jGo E mi p l e R s m args below meth c Q c0 s0 a ls st M) (k2 : jcond .eq x 0 = false → jGo E mi p l e R s m args below meth c Q c0 s0 (pc + 3) ls st M) : jGo E mi p l e R s m args below meth c Q c0 s0 pc ls (.inl x :: st) M := by
  intro lsA H locs I
  have hy : jok (.inl 0) := jok0
  have hx : jok (.inl x) := I.hd.1
  have hiff := jeq_iff hx hy
  rw [jof0] at hiff
  refine lv_if_eq C.1 C.2.1 hd ht (fun h => k1 ?_ lsA H locs I.tl) (fun h => k2 ?_ lsA H locs I.tl)
  · exact decide_eq_true (hiff.mp h)
  · exact decide_eq_false (fun q => h (hiff.mpr q))
theorem j_if_icmp_eq {x y : Int} {off : Int} {a : Nat} (C : jCtx E mi p l s m args meth c) (hd : decode (jmb mi) pc = .ok (.if_icmp .eq off, 3)) (ht : (pc : Int) + off = (a : Int)) (k1 : jcond .eq x y = true → jGo E mi p l e R s m args below meth c Q c0 s0 a ls st M) (k2 : jcond .eq x y = false → jGo E mi p l e R s m args below meth c Q c0 s0 (pc + 3) ls st M) : jGo E mi p l e R s m args below meth c Q c0 s0 pc ls (.inl y :: .inl x :: st) M := by
  intro lsA H locs I
  have hy : jok (.inl y) := I.hd.1
  have hx : jok (.inl x) := I.tl.hd.1
  have hiff := jeq_iff hx hy
  refine lv_icmp_eq C.1 C.2.1 hd ht (fun h => k1 ?_ lsA H locs I.tl.tl) (fun h => k2 ?_ lsA H locs I.tl.tl)
  · exact decide_eq_true (hiff.mp h)
  · exact decide_eq_false (fun q => h (hiff.mpr q))
theorem j_ifCond_ne {x : Int} {off : Int} {a : Nat} (C : jCtx E mi p l s m args meth c) (hd : decode (jmb mi) pc = .ok (.ifCond .ne off, 3)) (ht : (pc : Int) + off = (a : Int)) (k1 : jcond .ne x 0 = true → jGo E mi p l e R s m args below meth c Q c0 s0 a ls st M) (k2 : jcond .ne x 0 = false → jGo E mi p l e R s m args below meth c Q c0 s0 (pc + 3) ls st M) : jGo E mi p l e R s m args below meth c Q c0 s0 pc ls (.inl x :: st) M := by
  intro lsA H locs I
  have hy : jok (.inl 0) := jok0
  have hx : jok (.inl x) := I.hd.1
  have hiff := jeq_iff hx hy
  rw [jof0] at hiff
  refine lv_if_ne C.1 C.2.1 hd ht (fun h => k1 ?_ lsA H locs I.tl) (fun h => k2 ?_ lsA H locs I.tl)
  · exact decide_eq_true (fun q => h (hiff.mpr q))
  · exact decide_eq_false (fun q => q (hiff.mp h))
theorem j_if_icmp_ne {x y : Int} {off : Int} {a : Nat} (C : jCtx E mi p l s m args meth c) (hd : decode (jmb mi) pc = .ok (.if_icmp .ne off, 3)) (ht : (pc : Int) + off = (a : Int)) (k1 : jcond .ne x y = true → jGo E mi p l e R s m args below meth c Q c0 s0 a ls st M) (k2 : jcond .ne x y = false → jGo E mi p l e R s m args below meth c Q c0 s0 (pc + 3) ls st M) : jGo E mi p l e R s m args below meth c Q c0 s0 pc ls (.inl y :: .inl x :: st) M := by
  intro lsA H locs I
  have hy : jok (.inl y) := I.hd.1
  have hx : jok (.inl x) := I.tl.hd.1
  have hiff := jeq_iff hx hy
  refine lv_icmp_ne C.1 C.2.1 hd ht (fun h => k1 ?_ lsA H locs I.tl.tl) (fun h => k2 ?_ lsA H locs I.tl.tl)
  · exact decide_eq_true (fun q => h (hiff.mpr q))
  · exact decide_eq_false (fun q => q (hiff.mp h))
theorem j_ifCond_lt {x : Int} {off : Int} {a : Nat} (C : jCtx E mi p l s m args meth c) (hd : decode (jmb mi) pc = .ok (.ifCond .lt off, 3)) (ht : (pc : Int) + off = (a : Int)) (k1 : jcond .lt x 0 = true → jGo E mi p l e R s m args below meth c Q c0 s0 a ls st M) (k2 : jcond .lt x 0 = false → jGo E mi p l e R s m args below meth c Q c0 s0 (pc + 3) ls st M) : jGo E mi p l e R s m args below meth c Q c0 s0 pc ls (.inl x :: st) M := by
  intro lsA H locs I
  have hy : jok (.inl 0) := jok0
  have hx : jok (.inl x) := I.hd.1
  have hiff := jlt_iff hx hy
  rw [jof0] at hiff
  refine lv_if_lt C.1 C.2.1 hd ht (fun h => k1 ?_ lsA H locs I.tl) (fun h => k2 ?_ lsA H locs I.tl)
  · exact decide_eq_true (hiff.mp h)
  · exact decide_eq_false (fun q => h (hiff.mpr q))
theorem j_if_icmp_lt {x y : Int} {off : Int} {a : Nat} (C : jCtx E mi p l s m args meth c) (hd : decode (jmb mi) pc = .ok (.if_icmp .lt off, 3)) (ht : (pc : Int) + off = (a : Int)) (k1 : jcond .lt x y = true → jGo E mi p l e R s m args below meth c Q c0 s0 a ls st M) (k2 : jcond .lt x y = false → jGo E mi p l e R s m args below meth c Q c0 s0 (pc + 3) ls st M) : jGo E mi p l e R s m args below meth c Q c0 s0 pc ls (.inl y :: .inl x :: st) M := by
  intro lsA H locs I
  have hy : jok (.inl y) := I.hd.1
  have hx : jok (.inl x) := I.tl.hd.1
  have hiff := jlt_iff hx hy
  refine lv_icmp_lt C.1 C.2.1 hd ht (fun h => k1 ?_ lsA H locs I.tl.tl) (fun h => k2 ?_ lsA H locs I.tl.tl)
  · exact decide_eq_true (hiff.mp h)
  · exact decide_eq_false (fun q => h (hiff.mpr q))
theorem j_ifCond_ge {x : Int} {off : Int} {a : Nat} (C : jCtx E mi p l s m args meth c) (hd : decode (jmb mi) pc = .ok (.ifCond .ge off, 3)) (ht : (pc : Int) + off = (a : Int)) (k1 : jcond .ge x 0 = true → jGo E mi p l e R s m args below meth c Q c0 s0 a ls st M) (k2 : jcond .ge x 0 = false → jGo E mi p l e R s m args below meth c Q c0 s0 (pc + 3) ls st M) : jGo E mi p l e R s m args below meth c Q c0 s0 pc ls (.inl x :: st) M := by
  intro lsA H locs I
  have hy : jok (.inl 0) := jok0
  have hx : jok (.inl x) := I.hd.1
  have hiff := jle_iff hy hx
  rw [jof0] at hiff
  refine lv_if_ge C.1 C.2.1 hd ht (fun h => k1 ?_ lsA H locs I.tl) (fun h => k2 ?_ lsA H locs I.tl)
  · exact decide_eq_true (hiff.mp h)
  · exact decide_eq_false (fun q => h (hiff.mpr q))
theorem j_if_icmp_ge {x y : Int} {off : Int} {a : Nat} (C : jCtx E mi p l s m args meth c) (hd : decode (jmb mi) pc = .ok (.if_icmp .ge off, 3)) (ht : (pc : Int) + off = (a : Int)) (k1 : jcond .ge x y = true → jGo E mi p l e R s m args below meth c Q c0 s0 a ls st M) (k2 : jcond .ge x y = false → jGo E mi p l e R s m args below meth c Q c0 s0 (pc + 3) ls st M) : jGo E mi p l e R s m args below meth c Q c0 s0 pc ls (.inl y :: .inl x :: st) M := by
  intro lsA H locs I
  have hy : jok (.inl y) := I.hd.1
  have hx : jok (.inl x) := I.tl.hd.1
  have hiff := jle_iff hy hx
  refine lv_icmp_ge C.1 C.2.1 hd ht (fun h => k1 ?_ lsA H locs I.tl.tl) (fun h => k2 ?_ lsA H locs I.tl.tl)
  · exact decide_eq_true (hiff.mp h)
  · exact decide_eq_false (fun q => h (hiff.mpr q))
theorem j_ifCond_gt {x : Int} {off : Int} {a : Nat} (C : jCtx E mi p l s m args meth c) (hd : decode (jmb mi) pc = .ok (.ifCond .gt off, 3)) (ht : (pc : Int) + off = (a : Int)) (k1 : jcond .gt x 0 = true → jGo E mi p l e R s m args below meth c Q c0 s0 a ls st M) (k2 : jcond .gt x 0 = false → jGo E mi p l e R s m args below meth c Q c0 s0 (pc + 3) ls st M) : jGo E mi p l e R s m args below meth c Q c0 s0 pc ls (.inl x :: st) M := by
  intro lsA H locs I
  have hy : jok (.inl 0) := jok0
  have hx : jok (.inl x) := I.hd.1
  have hiff := jlt_iff hy hx
  rw [jof0] at hiff
  refine lv_if_gt C.1 C.2.1 hd ht (fun h => k1 ?_ lsA H locs I.tl) (fun h => k2 ?_ lsA H locs I.tl)
  · exact decide_eq_true (hiff.mp h)
  · exact decide_eq_false (fun q => h (hiff.mpr q))
theorem j_if_icmp_gt {x y : Int} {off : Int} {a : Nat} (C : jCtx E mi p l s m args meth c) (hd : decode (jmb mi) pc = .ok (.if_icmp .gt off, 3)) (ht : (pc : Int) + off = (a : Int)) (k1 : jcond .gt x y = true → jGo E mi p l e R s m args below meth c Q c0 s0 a ls st M) (k2 : jcond .gt x y = false → jGo E mi p l e R s m args below meth c Q c0 s0 (pc + 3) ls st M) : jGo E mi p l e R s m args below meth c Q c0 s0 pc ls (.inl y :: .inl x :: st) M := by
  intro lsA H locs I
  have hy : jok (.inl y) := I.hd.1
  have hx : jok (.inl x) := I.tl.hd.1
  have hiff := jlt_iff hy hx
  refine lv_icmp_gt C.1 C.2.1 hd ht (fun h => k1 ?_ lsA H locs I.tl.tl) (fun h => k2 ?_ lsA H locs I.tl.tl)
  · exact decide_eq_true (hiff.mp h)
  · exact decide_eq_false (fun q => h (hiff.mpr q))
theorem j_ifCond_le {x : Int} {off : Int} {a : Nat} (C : jCtx E mi p l s m args meth c) (hd : decode (jmb mi) pc = .ok (.ifCond .le off, 3)) (ht : (pc : Int) + off = (a : Int)) (k1 : jcond .le x 0 = true → jGo E mi p l e R s m args below meth c Q c0 s0 a ls st M) (k2 : jcond .le x 0 = false → jGo E mi p l e R s m args below meth c Q c0 s0 (pc + 3) ls st M) : jGo E mi p l e R s m args below meth c Q c0 s0 pc ls (.inl x :: st) M := by
  intro lsA H locs I
  have hy : jok (.inl 0) := jok0
  have hx : jok (.inl x) := I.hd.1
  have hiff := jle_iff hx hy
  rw [jof0] at hiff
  refine lv_if_le C.1 C.2.1 hd ht (fun h => k1 ?_ lsA H locs I.tl) (fun h => k2 ?_ lsA H locs I.tl)
  · exact decide_eq_true (hiff.mp h)
  · exact decide_eq_false (fun q => h (hiff.mpr q))
theorem j_if_icmp_le {x y : Int} {off : Int} {a : Nat} (C : jCtx E mi p l s m args meth c) (hd : decode (jmb mi) pc = .ok (.if_icmp .le off, 3)) (ht : (pc : Int) + off = (a : Int)) (k1 : jcond .le x y = true → jGo E mi p l e R s m args below meth c Q c0 s0 a ls st M) (k2 : jcond .le x y = false → jGo E mi p l e R s m args below meth c Q c0 s0 (pc + 3) ls st M) : jGo E mi p l e R s m args below meth c Q c0 s0 pc ls (.inl y :: .inl x :: st) M := by
  intro lsA H locs I
  have hy : jok (.inl y) := I.hd.1
  have hx : jok (.inl x) := I.tl.hd.1
  have hiff := jle_iff hx hy
  refine lv_icmp_le C.1 C.2.1 hd ht (fun h => k1 ?_ lsA H locs I.tl.tl) (fun h => k2 ?_ lsA H locs I.tl.tl)
  · exact decide_eq_true (hiff.mp h)
  · exact decide_eq_false (fun q => h (hiff.mpr q))
end J10
/-- the words of the classes -/
def jcwk (a : Nat) : Bool := (u_ws (jclsn a) (fun k => jfd a k) (jfields a).length).all (fun w => decide (w ∈ lw_tbl2) && goodWord w) && decide (Cond.instantiable (jclsn a) (jfields a).length ∈ lw_tbl2) && goodWord (Cond.instantiable (jclsn a) (jfields a).length) && decide (Cond.initialized (jclsn a) ∈ lw_tbl2) && goodWord (Cond.initialized (jclsn a))
theorem jcwk_all : (List.range 16).all jcwk = true := by decide +kernel
theorem jcw {a : Nat} (ha : a < 16) : (∀ w ∈ u_ws (jclsn a) (fun k => jfd a k) (jfields a).length, w ∈ jgood) ∧ Cond.instantiable (jclsn a) (jfields a).length ∈ jgood ∧ Cond.initialized (jclsn a) ∈ jgood := by
  have h := List.all_eq_true.mp jcwk_all a (List.mem_range.mpr ha)
  unfold jcwk at h
  simp only [Bool.and_eq_true, List.all_eq_true, decide_eq_true_eq] at h
  obtain ⟨⟨⟨⟨h1, h2⟩, h3⟩, h4⟩, h5⟩ := h
  exact ⟨fun w hw => List.mem_filter.mpr ⟨(h1 w hw).1, (h1 w hw).2⟩, List.mem_filter.mpr ⟨h2, h3⟩, List.mem_filter.mpr ⟨h4, h5⟩⟩
def jty (a k : Nat) : FieldType := (parseFieldDescriptor (jfd a k).2.2.1).getD .int
def jtyk (t : FieldType) : Nat := match t with
  | .int => 0
  | .boolean => 1
  | .byte => 3
  | .object _ => 2
  | .array _ => 2
  | _ => 9
def jfck (a : Nat) : Bool := (List.range (jfields a).length).all fun k => decide (parseFieldDescriptor (jfd a k).2.2.1 = some (jty a k)) && decide (jtyk (jty a k) = jkd (jfd a k).2.2.1) && (List.range (jfields a).length).all fun j => decide (k = j) || decide ((jfd a k).2.1 ≠ (jfd a j).2.1)
theorem jfck_all : (List.range 16).all jfck = true := by decide +kernel
theorem jfc {a : Nat} (ha : a < 16) : (∀ k, k < (jfields a).length → parseFieldDescriptor (jfd a k).2.2.1 = some (jty a k)) ∧ (∀ k, k < (jfields a).length → jtyk (jty a k) = jkd (jfd a k).2.2.1) ∧ (∀ x, x < (jfields a).length → ∀ y, y < (jfields a).length → x ≠ y → (jfd a x).2.1 ≠ (jfd a y).2.1) := by
  have h := List.all_eq_true.mp jfck_all a (List.mem_range.mpr ha)
  unfold jfck at h
  simp only [Bool.and_eq_true, List.all_eq_true, decide_eq_true_eq, List.mem_range, Bool.or_eq_true] at h
  exact ⟨fun k hk => (h k hk).1.1, fun k hk => (h k hk).1.2, fun x hx y hy hxy => ((h x hx).2 y hy).resolve_left hxy⟩
theorem jdef_val {E : JE} {a k : Nat} (ha : a < 16) (hk : k < (jfields a).length) : defaultValue (jty a k) = jval E (jdef a k) := by
  have h := (jfc ha).2.1 k hk
  unfold jdef
  unfold jfd at h
  by_cases h2 : jkd ((jfields a).getD k ("", "", "", false)).2.2.1 = 2
  · rw [if_pos h2]
    rw [h2] at h
    cases hq : jty a k <;> rw [hq] at h <;> first | rfl | cases h
  · rw [if_neg h2]
    cases hq : jty a k <;> rw [hq] at h <;> first | rfl | exact absurd h.symm h2 | (unfold jkd at h; split at h <;> first | cases h | (split at h <;> first | cases h | (split at h <;> cases h)))
theorem jfits_b {z : Int} (h : -128 ≤ z ∧ z ≤ 127) : Jvm.fits .byte (.int (Int32.ofInt z)) = true := by
  show (decide (-128 ≤ Int32.ofInt z) && decide (Int32.ofInt z ≤ 127)) = true
  rw [Bool.and_eq_true, decide_eq_true_eq, decide_eq_true_eq, Int32.le_iff_toInt_le, Int32.le_iff_toInt_le, jofi (by omega)]
  exact ⟨h.1, h.2⟩
theorem jfit_ok {E : JE} {a k : Nat} {v : JV} (ha : a < 16) (hk : k < (jfields a).length) (hv : jfit (jkd (jfd a k).2.2.1) v = true) : narrow (jty a k) (jval E v) = jval E v ∧ Jvm.fits (jty a k) (jval E v) = true := by
  have h := (jfc ha).2.1 k hk
  rw [← h] at hv
  cases hq : jty a k <;> rw [hq] at hv
  case int => rcases v with z | z | z <;> first | exact ⟨rfl, rfl⟩ | cases hv
  case boolean =>
    rcases v with z | z | z
    · simp only [jtyk, jfit, Bool.or_eq_true, beq_iff_eq] at hv
      rcases hv with rfl | rfl
      · exact ⟨by show narrow .boolean (.int (Int32.ofInt 0)) = .int (Int32.ofInt 0); decide +kernel, by show Jvm.fits .boolean (.int (Int32.ofInt 0)) = true; decide +kernel⟩
      · exact ⟨by show narrow .boolean (.int (Int32.ofInt 1)) = .int (Int32.ofInt 1); decide +kernel, by show Jvm.fits .boolean (.int (Int32.ofInt 1)) = true; decide +kernel⟩
    · cases hv
    · cases hv
  case object => rcases v with z | z | z <;> first | exact ⟨rfl, rfl⟩ | cases hv | (cases z <;> first | exact ⟨rfl, rfl⟩ | cases hv)
  case array => rcases v with z | z | z <;> first | exact ⟨rfl, rfl⟩ | cases hv | (cases z <;> first | exact ⟨rfl, rfl⟩ | cases hv)
  case byte =>
    rcases v with z | z | z
    · have hz : -128 ≤ z ∧ z ≤ 127 := of_decide_eq_true hv
      have e : narrow .byte (.int (Int32.ofInt z)) = .int (Int32.ofInt z) := by
        show Value.int (Int32.ofInt z).toInt8.toInt32 = Value.int (Int32.ofInt z)
        congr 1
        apply Int32.toInt_inj.mp
        rw [Int8.toInt_toInt32, Int32.toInt_toInt8, jofi (by omega), Int.bmod_eq_of_le (by omega) (by omega)]
      exact ⟨e, jfits_b hz⟩
    · cases hv
    · cases hv
  all_goals (rcases v with z | z | z <;> cases hv)
/-- a value is written into a cell -/
theorem jRel_set {E : JE} {M : JM} {H H1 : Heap} (h : jRel E M H) {i b t n : Nat} {v : JV} (hs : jsh M i = some (t, n)) (hv : jok v) (hc : jcellAt E (jB E + i) t n (updV (fun k => jval E (jget M i k)) b (jval E v)) H1) (z : H1.size = H.size) (o : ∀ q : Nat, q ≠ jB E + i → H1[q]? = H[q]?) : jRel E (jset M i b v) H1 := by
  refine ⟨fun j t1 n1 hj => ?_, fun c => z.trans (h.2.1 c), h.2.2⟩
  have hj' : jsh M j = some (t1, n1) := hj
  obtain ⟨h1, h2, h3⟩ := h.1 j t1 n1 hj'
  by_cases hij : j = i
  · subst hij
    rw [hs] at hj'
    cases hj'
    refine ⟨jcellAt_to hc fun k hk => ?_, fun k hk => ?_, h3⟩
    · unfold updV jget jset
      simp only [true_and]
      split <;> rfl
    · unfold jget jset
      simp only [true_and]
      split
      · exact hv
      · exact h2 k hk
  · have e : ∀ k, jget (jset M i b v) j k = jget M j k := fun k => by
      unfold jget jset
      simp [hij]
    refine ⟨jcellAt_to (jcellAt_kept h1 (o _ (by omega))) fun k _ => by rw [e], fun k hk => by rw [e]; exact h2 k hk, h3⟩
/-- a cell is made -/
theorem jRel_push {E : JE} {M : JM} {H H1 : Heap} (h : jRel E M H) (hcl : jclean M = true) {t n : Nat} {f : Nat → JV} (hf : ∀ k, k < n → jok (f k)) (hn : n < 2147483648) (hc : jcellAt E H.size t n (fun k => jval E (f k)) H1) (z : H1.size = H.size + 1) (o : ∀ q : Nat, q < H.size → H1[q]? = H[q]?) : jRel E (jpush M t n f) H1 := by
  have hz := h.2.1 hcl
  refine ⟨fun j t1 n1 hj => ?_, fun _ => ?_, h.2.2⟩
  · unfold jsh jpush at hj
    by_cases hl : j < M.1.length
    · rw [List.getElem?_append_left hl] at hj
      obtain ⟨h1, h2, h3⟩ := h.1 j t1 n1 hj
      have e : ∀ k, jget (jpush M t n f) j k = jget M j k := fun k => by
        unfold jget jpush
        simp [show j ≠ M.1.length by omega]
      exact ⟨jcellAt_to (jcellAt_kept h1 (o _ (jcellAt_lt h1))) fun k _ => by rw [e], fun k hk => by rw [e]; exact h2 k hk, h3⟩
    · have hjl : j = M.1.length := by
        rw [List.getElem?_append_right (by omega)] at hj
        have := (List.getElem?_eq_some_iff.mp hj).1
        simp at this
        omega
      subst hjl
      rw [List.getElem?_append_right (Nat.le_refl _), Nat.sub_self] at hj
      cases hj
      have e : ∀ k, jget (jpush M t n f) M.1.length k = f k := fun k => by
        unfold jget jpush
        simp
      refine ⟨?_, fun k hk => by rw [e]; exact hf k hk, hn⟩
      rw [← hz]
      exact jcellAt_to hc fun k _ => by rw [e]
  · show H1.size = jB E + (M.1 ++ [(t, n)]).length
    rw [z, hz]; simp; omega
section J10M
variable {E : JE} {mi : Nat} {p : Program} {l : Launch} {e : Env} {R : Room} {s : State} {m : MethodId} {args : Array Value} {below : List Frame} {meth : Method} {c : Code} {Q : State → Prop} {c0 s0 pc : Nat} {ls st : List JV} {M : JM}
theorem jsm_mod : Cond.sameField "java/util/ArrayList" "java/util/AbstractList" "modCount" "I" ∈ jgood := jtw_mem (w := 5156) (by decide +kernel)
theorem jsame_of {ref : String} {a b : Nat} (C : jCtx E mi p l s m args meth c) (hr : ref = (jfd a b).1 ∨ (a = 13 ∧ b = 0 ∧ ref = "java/util/ArrayList")) (x : ClassId × Class × Nat × Field) (h : s.fieldFound? (jfd a b).1 (jfd a b).2.1 (jfd a b).2.2.1 = some x) : s.fieldFound? ref (jfd a b).2.1 (jfd a b).2.2.1 = some x := by
  rcases hr with rfl | ⟨rfl, rfl, rfl⟩
  · exact h
  · exact u_same (C.2.2.2.2.1 _ jsm_mod) x h
theorem jcellP {i a nn : Nat} {lsA : Array Slot} {H : Heap} {locs : List Loc} {st0 : List JV} (I : jInv E mi s lsA H locs ls st0 M) (ha : a < 16) (hs : jsh M i = some (a, nn)) : nn = (jfields a).length ∧ va_P (jD E) jcl [(jB E + i, .inr (a, (List.range (jfields a).length).map (fun k => jval E (jget M i k))))] H := by
  obtain ⟨h1, h2, h3⟩ := I.2.1.1 i a nn hs
  unfold jcellAt at h1
  rw [if_pos ha] at h1
  obtain ⟨rfl, hOB⟩ := h1
  refine ⟨rfl, ?_⟩
  intro q x hx
  have hq : q = 0 := by have := (List.getElem?_eq_some_iff.mp hx).1; simp at this; exact this
  subst hq
  cases hx
  exact ⟨_, jcl_get ha, hOB.to fun k hk => by simp only [vp_V, List.getD_eq_getElem?_getD, List.getElem?_map, List.getElem?_range hk]; rfl⟩
theorem j_getfield {n i a b nn : Nat} {ref : String} (C : jCtx E mi p l s m args meth c) (hd : decode (jmb mi) pc = .ok (.getfield n, 3)) (hl : Cond.fieldLink (jnm mi).cls n ref (jfd a b).2.1 (jfd a b).2.2.1 ∈ jgood) (hr : ref = (jfd a b).1 ∨ (a = 13 ∧ b = 0 ∧ ref = "java/util/ArrayList")) (ha : a < 16) (hb : b < (jfields a).length) (hs : jsh M i = some (a, nn)) (hi : i < 1000000) (k : jGo E mi p l e R s m args below meth c Q c0 s0 (pc + 3) ls (jget M i b :: st) M) : jGo E mi p l e R s m args below meth c Q c0 s0 pc ls (.inr (.inl i) :: st) M := by
  intro lsA H locs I
  obtain ⟨rfl, hP⟩ := jcellP I ha hs
  have h2 := (I.2.1.1 i a _ hs).2.1
  have kk := k lsA H locs (I.tl.push (h2 b hb) (jkn_ok (h2 b hb)))
  show W p l e R s m args below meth c H locs _ _ Q (F0 m pc lsA (.ref (jad E i) :: st.map (jval E)))
  rw [jad_i hi]
  exact va_get C.1 C.2.1 (Ts := jgood) C.2.2.2.2.1 (jcw ha).1 C.2.2.2.1 C.2.2.2.2.2.1.1 hP 0 rfl (jcl_get ha) b hb (C.2.2.2.2.1 _ hl) (jsame_of C hr) (v := jval E (jget M i b)) (by simp [hb]) hd kk
theorem j_getfieldN {n i a b nn : Nat} (C : jCtx E mi p l s m args meth c) (hd : decode (jmb mi) pc = .ok (.getfield n, 3)) (hl : ((jnm mi).cls, n, a, b) ∈ jfnests) (ha : a < 16) (hb : b < (jfields a).length) (hs : jsh M i = some (a, nn)) (hi : i < 1000000) (k : jGo E mi p l e R s m args below meth c Q c0 s0 (pc + 3) ls (jget M i b :: st) M) : jGo E mi p l e R s m args below meth c Q c0 s0 pc ls (.inr (.inl i) :: st) M := by
  intro lsA H locs I
  obtain ⟨rfl, hP⟩ := jcellP I ha hs
  have h2 := (I.2.1.1 i a _ hs).2.1
  have kk := k lsA H locs (I.tl.push (h2 b hb) (jkn_ok (h2 b hb)))
  show W p l e R s m args below meth c H locs _ _ Q (F0 m pc lsA (.ref (jad E i) :: st.map (jval E)))
  rw [jad_i hi]
  exact va_getN C.1 C.2.1 (Ts := jgood) C.2.2.2.2.1 (jcw ha).1 C.2.2.2.1 C.2.2.2.2.2.1.1 hP 0 rfl (jcl_get ha) b hb (va_Nw.use (A := args) rfl (C.2.2.2.2.2.1.fnest _ hl)) (fun x h => h) (v := jval E (jget M i b)) (by simp [hb]) hd kk
theorem j_putfield {n i a b nn : Nat} {v : JV} {ref : String} (C : jCtx E mi p l s m args meth c) (hd : decode (jmb mi) pc = .ok (.putfield n, 3)) (hl : Cond.fieldLink (jnm mi).cls n ref (jfd a b).2.1 (jfd a b).2.2.1 ∈ jgood) (hr : ref = (jfd a b).1 ∨ (a = 13 ∧ b = 0 ∧ ref = "java/util/ArrayList")) (ha : a < 16) (hb : b < (jfields a).length) (hs : jsh M i = some (a, nn)) (hi : i < 1000000) (hfin : (jfd a b).2.2.2 = false ∨ ((jnm mi).name = "<init>" ∧ (jfd a b).1 = (jnm mi).cls)) (hfit : jfit (jkd (jfd a b).2.2.1) v = true) (k : jGo E mi p l e R s m args below meth c Q c0 s0 (pc + 3) ls st (jset M i b v)) : jGo E mi p l e R s m args below meth c Q c0 s0 pc ls (v :: .inr (.inl i) :: st) M := by
  intro lsA H locs I
  obtain ⟨h1, h2, h3⟩ := I.2.1.1 i a nn hs
  unfold jcellAt at h1
  rw [if_pos ha] at h1
  obtain ⟨rfl, cell, q1, q2, q3, q4⟩ := h1
  have hts := C.2.2.2.2.1
  have hown := C.2.2.2.1
  have hK := C.2.2.2.2.2.1.1
  have hin := (jcw ha).1
  have hcl := jcl_get ha
  have hap := va_apart (own := (jnm mi).cls) hts hin (jty a) (jfc ha).1 (jfc ha).2.2 hK hcl
  obtain ⟨hS, hfc, kC, hkC, hkind⟩ := hK.1 a _ hcl
  obtain ⟨cf, kf, fi, f, hi9, hsl⟩ := hS b hb
  have hlay := hts _ (hin _ (u_in_lay hb))
  have hst := (u_facts hfc hkC (u_lays hts hin hb) hi9).1
  obtain ⟨hn, hft⟩ := jfit_ok (E := E) ha hb hfit
  have hlink := hts _ hl
  have fin : ∀ H' : Heap, H'[jB E + i]? = some (cell.setSlot f.slot (jval E v)) → H'.size = H.size → (∀ q, q ≠ jB E + i → H'[q]? = H[q]?) → W p l e R s m args below meth c H' (locs ++ [⟨jB E + i, f.slot⟩]) (jcells M - c0) (jslots M - s0) Q (F0 m (pc + 3) lsA (st.map (jval E))) := by
    intro H' e1 e2 e3
    refine k lsA H' _ ⟨I.1, jRel_set I.2.1 hs I.hd.1 ?_ e2 e3, I.tl.tl.2.2.1, I.2.2.2.put e2 e3 (Nat.le_add_right _ _)⟩
    unfold jcellAt
    rw [if_pos ha]
    rw [hsl] at e1
    exact ⟨rfl, _, e1, q2, q3, t_set q4 hap hb (jval E v)⟩
  show W p l e R s m args below meth c H locs _ _ Q (F0 m pc lsA (jval E v :: .ref (jad E i) :: st.map (jval E)))
  rw [jad_i hi]
  rcases hfin with hfin | ⟨hin2, hdecl⟩
  · unfold u_lay at hlay
    rw [if_neg (by rw [hfin]; decide)] at hlay
    exact W.putK C.1 C.2.1 (f := f) ⟨hown, hlink, ⟨_, _, _, jsame_of C hr _ hi9⟩, hst⟩ (by rw [q2]; exact u_store hfc hkC hkind hlay hi9 ((jfc ha).1 b hb) hn hft) q1 q3 (by rw [hsl]; exact k2_hasslot (q4 b hb)) rfl rfl hd fin
  · by_cases hff : (jfd a b).2.2.2 = true
    · unfold u_lay at hlay
      rw [if_pos hff] at hlay
      have hcf : m.cls = cf := by
        obtain ⟨_, _, c', _, _, _, -, -, hf', -, -, -, hown2, -⟩ := Cond.laysFinal_spec hlay
        have e1 : c' = cf := by have := hi9.symm.trans hf'; simp at this; exact this.1.symm
        rw [hdecl] at hown2
        rw [← e1]; exact Option.some.inj (hown.symm.trans hown2)
      exact W.putFinK C.1 C.2.1 hown hlink (jsame_of C hr _ hi9) hst hcf (by rw [C.2.2.2.2.2.2.2.1]; exact hin2) (by rw [q2]; exact u_fits hfc hkC hkind (Or.inr hlay) hi9 ((jfc ha).1 b hb) hn hft) q1 q3 (by rw [hsl]; exact k2_hasslot (q4 b hb)) rfl rfl hd fin
    · unfold u_lay at hlay
      rw [if_neg hff] at hlay
      exact W.putK C.1 C.2.1 (f := f) ⟨hown, hlink, ⟨_, _, _, jsame_of C hr _ hi9⟩, hst⟩ (by rw [q2]; exact u_store hfc hkC hkind hlay hi9 ((jfc ha).1 b hb) hn hft) q1 q3 (by rw [hsl]; exact k2_hasslot (q4 b hb)) rfl rfl hd fin
/-- an array's cell -/
theorem jarr {t n i : Nat} {H : Heap} (h : jRel E M H) (hs : jsh M i = some (t, n)) (ht : 16 ≤ t) : jtagok t ∧ H[jB E + i]? = some (arrV (jC E t) n (fun k => jval E (jget M i k))) := by
  have h1 := (h.1 i t n hs).1
  unfold jcellAt at h1
  rw [if_neg (by omega)] at h1
  exact h1
theorem jinb {k : Int} {n : Nat} (hk : jok (.inl k)) (h0 : 0 ≤ k) (h1 : k.toNat < n) : ¬ (Int32.ofInt k < 0 ∨ n ≤ (Int32.ofInt k).toNatClampNeg) ∧ (Int32.ofInt k).toNatClampNeg = k.toNat := by
  have e : (Int32.ofInt k).toInt = k := jofi hk
  have e2 : (Int32.ofInt k).toNatClampNeg = k.toNat := by
    show (Int32.ofInt k).toInt.toNat = k.toNat
    rw [e]
  refine ⟨?_, e2⟩
  rw [e2]
  rintro (h | h)
  · rw [Int32.lt_iff_toInt_lt, e] at h
    simp at h
    omega
  · omega
theorem jmust {t : Nat} (h : jtagok t) (C : jCtx E mi p l s m args meth c) : ArrOfT s (jC E t) (jfty t) ∧ s.vm.findClass ("[" ++ (jfty t).toString) = some (jC E t) ∧ (105 ≤ t → va_RA s (jC E t) (jfty t)) := C.2.2.2.2.2.1.2.1 t h
theorem jset_arr {t n i : Nat} {k : Nat} {v : JV} {lsA : Array Slot} {H H1 : Heap} {locs : List Loc} {st1 : List JV} (I : jInv E mi s lsA H locs ls st1 M) (hs : jsh M i = some (t, n)) (ht : 16 ≤ t) (hv : jok v) (h1 : H1[jB E + i]? = some ((arrV (jC E t) n (fun k => jval E (jget M i k))).setSlot k (jval E v))) (z : H1.size = H.size) (o : ∀ q, q ≠ jB E + i → H1[q]? = H[q]?) (hst : ∀ v ∈ st, jok v ∧ jkn v = true) : jInv E mi s lsA H1 (locs ++ [⟨jB E + i, k⟩]) ls st (jset M i k v) := by
  refine ⟨I.1, jRel_set I.2.1 hs hv ?_ z o, hst, I.2.2.2.put z o (Nat.le_add_right _ _)⟩
  unfold jcellAt
  rw [if_neg (by omega)]
  rw [arrV_store] at h1
  exact ⟨(jarr I.2.1 hs ht).1, h1⟩
theorem j_iaload {i n : Nat} {k0 : Int} (C : jCtx E mi p l s m args meth c) (hd : decode (jmb mi) pc = .ok (.iaload, 1)) (hs : jsh M i = some (100, n)) (hi : i < 1000000) (h0 : 0 ≤ k0) (h1 : k0.toNat < n) (k : jGo E mi p l e R s m args below meth c Q c0 s0 (pc + 1) ls (jget M i k0.toNat :: st) M) : jGo E mi p l e R s m args below meth c Q c0 s0 pc ls (.inl k0 :: .inr (.inl i) :: st) M := by
  intro lsA H locs I
  obtain ⟨g1, g2⟩ := jarr I.2.1 hs (by omega)
  obtain ⟨b1, b2⟩ := jinb I.hd.1 h0 h1
  have kk := k lsA H locs (I.tl.tl.push ((I.2.1.1 i _ n hs).2.1 _ h1) (jkn_ok ((I.2.1.1 i _ n hs).2.1 _ h1)))
  show W p l e R s m args below meth c H locs _ _ Q (F0 m pc lsA (.int (Int32.ofInt k0) :: .ref (jad E i) :: st.map (jval E)))
  rw [jad_i hi]
  exact W.iald C.1 C.2.1 g2 ((jmust g1 C).1 _ _) (fun h => by cases h) (by rw [arrV_size]; exact b1) (v := jval E (jget M i k0.toNat)) (by rw [b2]; exact arrV_read _ _ h1) rfl rfl hd kk
theorem j_baload1 {i n : Nat} {k0 : Int} (C : jCtx E mi p l s m args meth c) (hd : decode (jmb mi) pc = .ok (.baload, 1)) (hs : jsh M i = some (101, n)) (hi : i < 1000000) (h0 : 0 ≤ k0) (h1 : k0.toNat < n) (k : jGo E mi p l e R s m args below meth c Q c0 s0 (pc + 1) ls (jget M i k0.toNat :: st) M) : jGo E mi p l e R s m args below meth c Q c0 s0 pc ls (.inl k0 :: .inr (.inl i) :: st) M := by
  intro lsA H locs I
  obtain ⟨g1, g2⟩ := jarr I.2.1 hs (by omega)
  obtain ⟨b1, b2⟩ := jinb I.hd.1 h0 h1
  have kk := k lsA H locs (I.tl.tl.push ((I.2.1.1 i _ n hs).2.1 _ h1) (jkn_ok ((I.2.1.1 i _ n hs).2.1 _ h1)))
  show W p l e R s m args below meth c H locs _ _ Q (F0 m pc lsA (.int (Int32.ofInt k0) :: .ref (jad E i) :: st.map (jval E)))
  rw [jad_i hi]
  exact W.bald C.1 C.2.1 g2 ((jmust g1 C).1 _ _) (fun h => by cases h) (by rw [arrV_size]; exact b1) (v := jval E (jget M i k0.toNat)) (by rw [b2]; exact arrV_read _ _ h1) rfl rfl hd kk
theorem j_baload2 {i n : Nat} {k0 : Int} (C : jCtx E mi p l s m args meth c) (hd : decode (jmb mi) pc = .ok (.baload, 1)) (hs : jsh M i = some (102, n)) (hi : i < 1000000) (h0 : 0 ≤ k0) (h1 : k0.toNat < n) (k : jGo E mi p l e R s m args below meth c Q c0 s0 (pc + 1) ls (jget M i k0.toNat :: st) M) : jGo E mi p l e R s m args below meth c Q c0 s0 pc ls (.inl k0 :: .inr (.inl i) :: st) M := by
  intro lsA H locs I
  obtain ⟨g1, g2⟩ := jarr I.2.1 hs (by omega)
  obtain ⟨b1, b2⟩ := jinb I.hd.1 h0 h1
  have kk := k lsA H locs (I.tl.tl.push ((I.2.1.1 i _ n hs).2.1 _ h1) (jkn_ok ((I.2.1.1 i _ n hs).2.1 _ h1)))
  show W p l e R s m args below meth c H locs _ _ Q (F0 m pc lsA (.int (Int32.ofInt k0) :: .ref (jad E i) :: st.map (jval E)))
  rw [jad_i hi]
  exact W.zald C.1 C.2.1 g2 ((jmust g1 C).1 _ _) (fun h => by cases h) (by rw [arrV_size]; exact b1) (v := jval E (jget M i k0.toNat)) (by rw [b2]; exact arrV_read _ _ h1) rfl rfl hd kk
theorem j_laload {i n : Nat} {k0 : Int} (C : jCtx E mi p l s m args meth c) (hd : decode (jmb mi) pc = .ok (.laload, 1)) (hs : jsh M i = some (103, n)) (hi : i < 1000000) (h0 : 0 ≤ k0) (h1 : k0.toNat < n) (k : jGo E mi p l e R s m args below meth c Q c0 s0 (pc + 1) ls (jget M i k0.toNat :: st) M) : jGo E mi p l e R s m args below meth c Q c0 s0 pc ls (.inl k0 :: .inr (.inl i) :: st) M := by
  intro lsA H locs I
  obtain ⟨g1, g2⟩ := jarr I.2.1 hs (by omega)
  obtain ⟨b1, b2⟩ := jinb I.hd.1 h0 h1
  have kk := k lsA H locs (I.tl.tl.push ((I.2.1.1 i _ n hs).2.1 _ h1) (jkn_ok ((I.2.1.1 i _ n hs).2.1 _ h1)))
  show W p l e R s m args below meth c H locs _ _ Q (F0 m pc lsA (.int (Int32.ofInt k0) :: .ref (jad E i) :: st.map (jval E)))
  rw [jad_i hi]
  exact W.lald C.1 C.2.1 g2 ((jmust g1 C).1 _ _) (fun h => by cases h) (by rw [arrV_size]; exact b1) (v := jval E (jget M i k0.toNat)) (by rw [b2]; exact arrV_read _ _ h1) rfl rfl hd kk
theorem j_aaload {i n t : Nat} {k0 : Int} (C : jCtx E mi p l s m args meth c) (hd : decode (jmb mi) pc = .ok (.aaload, 1)) (hs : jsh M i = some (t, n)) (ht : 105 ≤ t) (hi : i < 1000000) (h0 : 0 ≤ k0) (h1 : k0.toNat < n) (k : jGo E mi p l e R s m args below meth c Q c0 s0 (pc + 1) ls (jget M i k0.toNat :: st) M) : jGo E mi p l e R s m args below meth c Q c0 s0 pc ls (.inl k0 :: .inr (.inl i) :: st) M := by
  intro lsA H locs I
  obtain ⟨g1, g2⟩ := jarr I.2.1 hs (by omega)
  obtain ⟨b1, b2⟩ := jinb I.hd.1 h0 h1
  have kk := k lsA H locs (I.tl.tl.push ((I.2.1.1 i _ n hs).2.1 _ h1) (jkn_ok ((I.2.1.1 i _ n hs).2.1 _ h1)))
  have hten : t = 110 ∨ t = 112 ∨ t = 113 ∨ t = 116 ∨ t = 199 := by
    unfold jtagok at g1
    omega
  show W p l e R s m args below meth c H locs _ _ Q (F0 m pc lsA (.int (Int32.ofInt k0) :: .ref (jad E i) :: st.map (jval E)))
  rw [jad_i hi]
  exact W.aald C.1 C.2.1 g2 ((jmust g1 C).1 _ _) (by rcases hten with rfl | rfl | rfl | rfl | rfl <;> rfl) (fun h => by cases h) (by rw [arrV_size]; exact b1) (v := jval E (jget M i k0.toNat)) (by rw [b2]; exact arrV_read _ _ h1) rfl rfl hd kk
theorem j_iastore {i n : Nat} {k0 : Int} {z : Int} (C : jCtx E mi p l s m args meth c) (hd : decode (jmb mi) pc = .ok (.iastore, 1)) (hs : jsh M i = some (100, n)) (hi : i < 1000000) (h0 : 0 ≤ k0) (h1 : k0.toNat < n) (k : jGo E mi p l e R s m args below meth c Q c0 s0 (pc + 1) ls st (jset M i k0.toNat (.inl z))) : jGo E mi p l e R s m args below meth c Q c0 s0 pc ls (.inl z :: .inl k0 :: .inr (.inl i) :: st) M := by
  intro lsA H locs I
  obtain ⟨g1, g2⟩ := jarr I.2.1 hs (by omega)
  obtain ⟨b1, b2⟩ := jinb I.tl.hd.1 h0 h1
  show W p l e R s m args below meth c H locs _ _ Q (F0 m pc lsA (jval E (.inl z) :: .int (Int32.ofInt k0) :: .ref (jad E i) :: st.map (jval E)))
  rw [jad_i hi]
  refine W.iast C.1 C.2.1 g2 ((jmust g1 C).1 _ _) (fun h => by cases h) (by rw [arrV_size]; exact b1) rfl rfl hd fun H1 e1 z1 o => ?_
  rw [b2] at e1 ⊢
  exact k lsA H1 _ (jset_arr I hs (by omega) (v := .inl z) I.hd.1 e1 z1 o I.tl.tl.tl.2.2.1)
theorem j_lastore {i n : Nat} {k0 : Int} {z : Int64} (C : jCtx E mi p l s m args meth c) (hd : decode (jmb mi) pc = .ok (.lastore, 1)) (hs : jsh M i = some (103, n)) (hi : i < 1000000) (h0 : 0 ≤ k0) (h1 : k0.toNat < n) (k : jGo E mi p l e R s m args below meth c Q c0 s0 (pc + 1) ls st (jset M i k0.toNat (.inr (.inr (.long z))))) : jGo E mi p l e R s m args below meth c Q c0 s0 pc ls (.inr (.inr (.long z)) :: .inl k0 :: .inr (.inl i) :: st) M := by
  intro lsA H locs I
  obtain ⟨g1, g2⟩ := jarr I.2.1 hs (by omega)
  obtain ⟨b1, b2⟩ := jinb I.tl.hd.1 h0 h1
  show W p l e R s m args below meth c H locs _ _ Q (F0 m pc lsA (jval E (.inr (.inr (.long z))) :: .int (Int32.ofInt k0) :: .ref (jad E i) :: st.map (jval E)))
  rw [jad_i hi]
  refine W.last C.1 C.2.1 g2 ((jmust g1 C).1 _ _) (fun h => by cases h) (by rw [arrV_size]; exact b1) rfl rfl hd fun H1 e1 z1 o => ?_
  rw [b2] at e1 ⊢
  exact k lsA H1 _ (jset_arr I hs (by omega) (v := .inr (.inr (.long z))) I.hd.1 e1 z1 o I.tl.tl.tl.2.2.1)
theorem j_bastore1 {i n : Nat} {k0 z : Int} (C : jCtx E mi p l s m args meth c) (hd : decode (jmb mi) pc = .ok (.bastore, 1)) (hs : jsh M i = some (101, n)) (hi : i < 1000000) (h0 : 0 ≤ k0) (h1 : k0.toNat < n) (k : jGo E mi p l e R s m args below meth c Q c0 s0 (pc + 1) ls st (jset M i k0.toNat (.inl (jb8 z)))) : jGo E mi p l e R s m args below meth c Q c0 s0 pc ls (.inl z :: .inl k0 :: .inr (.inl i) :: st) M := by
  intro lsA H locs I
  obtain ⟨g1, g2⟩ := jarr I.2.1 hs (by omega)
  obtain ⟨b1, b2⟩ := jinb I.tl.hd.1 h0 h1
  show W p l e R s m args below meth c H locs _ _ Q (F0 m pc lsA (.int (Int32.ofInt z) :: .int (Int32.ofInt k0) :: .ref (jad E i) :: st.map (jval E)))
  rw [jad_i hi]
  refine W.bast C.1 C.2.1 g2 ((jmust g1 C).1 _ _) (fun h => by cases h) (by rw [arrV_size]; exact b1) rfl rfl hd fun H1 e1 z1 o => ?_
  rw [b2] at e1 ⊢
  refine k lsA H1 _ (jset_arr I hs (by omega) (v := .inl (jb8 z)) (jwr_ok _) ?_ z1 o I.tl.tl.tl.2.2.1)
  rw [e1]
  show _ = some (Cell.setSlot _ _ (.int (Int32.ofInt (jb8 z))))
  rw [show Int32.ofInt (jb8 z) = (Int32.ofInt z).toInt8.toInt32 from jof_toInt _]
  rfl
theorem j_bastore2 {i n : Nat} {k0 z : Int} (C : jCtx E mi p l s m args meth c) (hd : decode (jmb mi) pc = .ok (.bastore, 1)) (hs : jsh M i = some (102, n)) (hi : i < 1000000) (h0 : 0 ≤ k0) (h1 : k0.toNat < n) (hz : z = 0 ∨ z = 1) (k : jGo E mi p l e R s m args below meth c Q c0 s0 (pc + 1) ls st (jset M i k0.toNat (.inl z))) : jGo E mi p l e R s m args below meth c Q c0 s0 pc ls (.inl z :: .inl k0 :: .inr (.inl i) :: st) M := by
  intro lsA H locs I
  obtain ⟨g1, g2⟩ := jarr I.2.1 hs (by omega)
  obtain ⟨b1, b2⟩ := jinb I.tl.hd.1 h0 h1
  show W p l e R s m args below meth c H locs _ _ Q (F0 m pc lsA (.int (Int32.ofInt z) :: .int (Int32.ofInt k0) :: .ref (jad E i) :: st.map (jval E)))
  rw [jad_i hi]
  refine W.zast C.1 C.2.1 g2 ((jmust g1 C).1 _ _) (fun h => by cases h) (by rw [arrV_size]; exact b1) rfl rfl hd fun H1 e1 z1 o => ?_
  rw [b2] at e1 ⊢
  refine k lsA H1 _ (jset_arr I hs (by omega) (v := .inl z) I.hd.1 ?_ z1 o I.tl.tl.tl.2.2.1)
  rw [e1]
  show some (Cell.setSlot _ _ (narrow .boolean (.int (Int32.ofInt z)))) = some (Cell.setSlot _ _ (.int (Int32.ofInt z)))
  rcases hz with rfl | rfl
  · rw [show narrow .boolean (.int (Int32.ofInt 0)) = .int (Int32.ofInt 0) by decide +kernel]
  · rw [show narrow .boolean (.int (Int32.ofInt 1)) = .int (Int32.ofInt 1) by decide +kernel]
theorem j_arraylength {i t n : Nat} (C : jCtx E mi p l s m args meth c) (hd : decode (jmb mi) pc = .ok (.arraylength, 1)) (hs : jsh M i = some (t, n)) (ht : 100 ≤ t) (hi : i < 1000000) (k : jGo E mi p l e R s m args below meth c Q c0 s0 (pc + 1) ls (.inl (n : Int) :: st) M) : jGo E mi p l e R s m args below meth c Q c0 s0 pc ls (.inr (.inl i) :: st) M := by
  intro lsA H locs I
  obtain ⟨g1, g2⟩ := jarr I.2.1 hs (by omega)
  have g3 := (I.2.1.1 i t n hs).2.2
  have kk := k lsA H locs (I.tl.pushI (by omega))
  show W p l e R s m args below meth c H locs _ _ Q (F0 m pc lsA (.ref (jad E i) :: st.map (jval E)))
  rw [jad_i hi]
  refine W.alen C.1 C.2.1 g2 ((jmust g1 C).1 _ _) (n := Int32.ofInt (n : Int)) ?_ rfl rfl hd kk
  rw [arrV_size]
  exact Int32.ofInt_eq_ofNat.symm
theorem j_arraylengthS (C : jCtx E mi p l s m args meth c) (hd : decode (jmb mi) pc = .ok (.arraylength, 1)) (hL : jL M < 2147483648) (k : jGo E mi p l e R s m args below meth c Q c0 s0 (pc + 1) ls (.inl (jL M : Int) :: st) M) : jGo E mi p l e R s m args below meth c Q c0 s0 pc ls (.inr (.inl 1000000) :: st) M := by
  intro lsA H locs I
  have hFx := C.2.2.2.2.2.1
  have kk := k lsA H locs (I.tl.pushI (by omega))
  have hbl : jbs E < s.heap.size := Nat.lt_of_lt_of_le (Nat.not_le.mp hFx.2.2.1.2) C.2.2.2.2.2.2.2.2.2
  refine va_slen (b := jbs E) C.1 C.2.1 hFx.2.2.1.1 hbl hFx.2.2.1.2 I.2.2.2 hd ?_
  rw [← I.2.1.2.2.1, ← Int32.ofInt_eq_ofNat]
  exact kk
theorem j_ialoadS {j : Int} (C : jCtx E mi p l s m args meth c) (hd : decode (jmb mi) pc = .ok (.iaload, 1)) (h0 : 0 ≤ j) (h1 : j < jL M) (k : jGo E mi p l e R s m args below meth c Q c0 s0 (pc + 1) ls (.inl (jxs M j.toNat) :: st) M) : jGo E mi p l e R s m args below meth c Q c0 s0 pc ls (.inl j :: .inr (.inl 1000000) :: st) M := by
  intro lsA H locs I
  have hFx := C.2.2.2.2.2.1
  have hbl : jbs E < s.heap.size := Nat.lt_of_lt_of_le (Nat.not_le.mp hFx.2.2.1.2) C.2.2.2.2.2.2.2.2.2
  obtain ⟨b1, b2⟩ := jinb (n := jL M) I.hd.1 h0 (by omega)
  have hx := I.2.1.2.2.2 j.toNat (by rw [← I.2.1.2.2.1]; omega)
  have kk := k lsA H locs (I.tl.tl.pushI (by rw [hx]; exact jwr_ok _))
  refine va_sld (b := jbs E) (i := Int32.ofInt j) C.1 C.2.1 hFx.2.2.1.1 hbl hFx.2.2.1.2 I.2.2.2 (by rw [← I.2.1.2.2.1]; exact b1) hd ?_
  rw [b2]
  have e : jsx E j.toNat = Int32.ofInt (jxs M j.toNat) := by rw [hx, jof_toInt]
  rw [e]
  exact kk
theorem j_new {n a : Nat} (C : jCtx E mi p l s m args meth c) (hd : decode (jmb mi) pc = .ok (.new n, 3)) (hl : Cond.classLink (jnm mi).cls n (jclsn a) ∈ jgood) (ha : a < 16) (hc : jclean M = true) (hm : M.1.length < 1000000) (hr1 : jcells M + 1 - c0 ≤ R.cells) (hr2 : jslots M + (jfields a).length - s0 ≤ R.slots) (hc0 : c0 ≤ jcells M) (hs0 : s0 ≤ jslots M) (k : jGo E mi p l e R s m args below meth c Q c0 s0 (pc + 3) ls (.inr (.inl M.1.length) :: st) (jpush M a (jfields a).length (jdef a))) : jGo E mi p l e R s m args below meth c Q c0 s0 pc ls st M := by
  intro lsA H locs I
  have hts := C.2.2.2.2.1
  have hK := C.2.2.2.2.2.1.1
  have hKn := hK.1 a _ (jcl_get ha)
  have hz := I.2.1.2.1 hc
  refine W.newcK C.1 C.2.1 C.2.2.2.1 (hts _ hl) (hts _ (jcw ha).2.1) (hts _ (jcw ha).2.2) rfl hd (by omega) (by omega) hKn.2.1 rfl fun H1 kC hkC e1 z1 o1 => ?_
  have hlen : (jfields a).length < 2147483648 := by
    have : (List.range 16).all (fun a => decide ((jfields a).length < 2147483648)) = true := by decide +kernel
    exact of_decide_eq_true (List.all_eq_true.mp this a (List.mem_range.mpr ha))
  have kk := k lsA H1 locs ⟨I.1, jRel_push I.2.1 hc (fun k hk => by unfold jdef; split <;> first | trivial | exact jok0) hlen ?_ z1 o1, fun v hv => (List.mem_cons.mp hv).elim (fun q => by rw [q]; exact ⟨trivial, rfl⟩) (I.2.2.1 v), ⟨Nat.le_trans I.2.2.2.1 (by omega), fun q h1 h2 => (o1 q (Nat.lt_of_lt_of_le h1 I.2.2.2.1)).trans (I.2.2.2.2.1 q h1 h2), I.2.2.2.2.2⟩⟩
  · have e1 : jcells (jpush M a (jfields a).length (jdef a)) - c0 = jcells M - c0 + 1 := by show jcells M + 1 - c0 = _; omega
    have e2 : jslots (jpush M a (jfields a).length (jdef a)) - s0 = jslots M - s0 + (jfields a).length := by show jslots M + (jfields a).length - s0 = _; omega
    rw [e1, e2] at kk
    have e3 : jval E (.inr (.inl M.1.length)) = .ref H.size := by
      show Value.ref (jad E M.1.length) = _
      rw [jad_i hm, hz]
    rw [List.map_cons, e3] at kk
    exact kk
  · unfold jcellAt
    rw [if_pos ha]
    exact ⟨rfl, (u_born (jty a) hts (jcw ha).1 hKn hkC e1 (jfc ha).1).to fun k hk => jdef_val ha hk⟩
theorem j_newarray {t : ArrayType} {a : Nat} {z : Int} (C : jCtx E mi p l s m args meth c) (hd : decode (jmb mi) pc = .ok (.newarray t, 2)) (hl : Cond.arrayClass (newarray.typeOf t) ∈ jgood) (ha : 100 ≤ a ∧ a < 104) (hta : t = jaty a) (hc : jclean M = true) (hm : M.1.length < 1000000) (h0 : 0 ≤ z) (h1 : z < 60000000) (hr1 : jcells M + 1 - c0 ≤ R.cells) (hr2 : jslots M + z.toNat - s0 ≤ R.slots) (hc0 : c0 ≤ jcells M) (hs0 : s0 ≤ jslots M) (k : jGo E mi p l e R s m args below meth c Q c0 s0 (pc + 2) ls (.inr (.inl M.1.length) :: st) (jpush M a z.toNat (fun _ => if a = 103 then jX (.long 0) else if a = 104 then jX (.double 0) else jI 0))) : jGo E mi p l e R s m args below meth c Q c0 s0 pc ls (.inl z :: st) M := by
  intro lsA H locs I
  have hz := I.2.1.2.1 hc
  have hok : jok (.inl z) := I.hd.1
  have e : (Int32.ofInt z).toInt = z := jofi hok
  have hn : ¬ Int32.ofInt z < 0 := by
    rw [Int32.lt_iff_toInt_lt, e]; simp; omega
  have hN : (Int32.ofInt z).toNatClampNeg = z.toNat := by
    show (Int32.ofInt z).toInt.toNat = z.toNat
    rw [e]
  have hb : z.toNat * componentBytes (newarray.typeOf t) ≤ 536870912 := by
    have : componentBytes (newarray.typeOf t) ≤ 8 := by cases t <;> decide
    have h3 : z.toNat ≤ 60000000 := by omega
    calc z.toNat * componentBytes (newarray.typeOf t) ≤ 60000000 * 8 := Nat.mul_le_mul h3 this
      _ ≤ 536870912 := by decide
  refine va_newaK C.1 C.2.1 (C.2.2.2.2.1 _ hl) rfl hd rfl hn hN hb (by omega) (by omega) rfl fun H1 cA e1 z1 o1 hA hf => ?_
  have htag : jtagok a := Or.inl ha
  have hty : newarray.typeOf t = jfty a := by
    subst hta
    obtain ⟨g1, g2⟩ := ha
    rcases (show a = 100 ∨ a = 101 ∨ a = 102 ∨ a = 103 by omega) with rfl | rfl | rfl | rfl <;> rfl
  have hcA : cA = jC E a := by
    rw [hty] at hf
    exact Option.some.inj (hf.symm.trans (jmust htag C).2.1)
  have kk := k lsA H1 locs ⟨I.1, jRel_push I.2.1 hc (fun k hk => ?_) (by omega) ?_ z1 o1, fun v hv => (List.mem_cons.mp hv).elim (fun q => by rw [q]; exact ⟨trivial, rfl⟩) (I.tl.2.2.1 v), ⟨Nat.le_trans I.2.2.2.1 (by omega), fun q h1 h2 => (o1 q (Nat.lt_of_lt_of_le h1 I.2.2.2.1)).trans (I.2.2.2.2.1 q h1 h2), I.2.2.2.2.2⟩⟩
  · have e1 : ∀ f, jcells (jpush M a z.toNat f) - c0 = jcells M - c0 + 1 := fun f => by show jcells M + 1 - c0 = _; omega
    have e2 : ∀ f, jslots (jpush M a z.toNat f) - s0 = jslots M - s0 + z.toNat := fun f => by show jslots M + z.toNat - s0 = _; omega
    rw [e1, e2] at kk
    have e3 : jval E (.inr (.inl M.1.length)) = .ref H.size := by
      show Value.ref (jad E M.1.length) = _
      rw [jad_i hm, hz]
    rw [List.map_cons, e3] at kk
    exact kk
  · split
    · trivial
    · split
      · trivial
      · exact jok0
  · unfold jcellAt
    rw [if_neg (by omega)]
    refine ⟨htag, ?_⟩
    rw [e1, hcA]
    congr 1
    congr 1
    funext _
    subst hta
    rcases (show a = 100 ∨ a = 101 ∨ a = 102 ∨ a = 103 by omega) with rfl | rfl | rfl | rfl <;> rfl
theorem j_anewarray {n a : Nat} {z : Int} (C : jCtx E mi p l s m args meth c) (hd : decode (jmb mi) pc = .ok (.anewarray n, 3)) (hl : Cond.classLink (jnm mi).cls n (if a = 199 then "java/lang/Object" else jclsn (a - 105)) ∈ jgood) (ha : a = 110 ∨ a = 112 ∨ a = 113 ∨ a = 116 ∨ a = 199) (hc : jclean M = true) (hm : M.1.length < 1000000) (h0 : 0 ≤ z) (h1 : z < 60000000) (hr1 : jcells M + 1 - c0 ≤ R.cells) (hr2 : jslots M + z.toNat - s0 ≤ R.slots) (hc0 : c0 ≤ jcells M) (hs0 : s0 ≤ jslots M) (k : jGo E mi p l e R s m args below meth c Q c0 s0 (pc + 3) ls (.inr (.inl M.1.length) :: st) (jpush M a z.toNat (fun _ => jX .null))) : jGo E mi p l e R s m args below meth c Q c0 s0 pc ls (.inl z :: st) M := by
  intro lsA H locs I
  have hz := I.2.1.2.1 hc
  have hok : jok (.inl z) := I.hd.1
  have e : (Int32.ofInt z).toInt = z := jofi hok
  have hn : ¬ Int32.ofInt z < 0 := by
    rw [Int32.lt_iff_toInt_lt, e]; simp; omega
  have hN : (Int32.ofInt z).toNatClampNeg = z.toNat := by
    show (Int32.ofInt z).toInt.toNat = z.toNat
    rw [e]
  have htag : jtagok a := Or.inr ha
  have hnm : FieldType.object (if a = 199 then "java/lang/Object" else jclsn (a - 105)) = jfty a := by
    rcases ha with rfl | rfl | rfl | rfl | rfl <;> decide +kernel
  have hao : va_AO (if a = 199 then "java/lang/Object" else jclsn (a - 105)) s := by
    have h0 := C.2.2.2.2.2.1
    by_cases h9 : a = 199
    · rw [if_pos h9]; exact h0.aoO
    · rw [if_neg h9]; exact (h0.ao (a - 105) (by omega)).resolve_right (by omega)
  refine W.anew C.1 C.2.1 C.2.2.2.1 (C.2.2.2.2.1 _ hl) (va_AO.use (A := args) hao) rfl hd rfl hn (by rw [hN]; omega) (by omega) (by omega) fun cA kA comp g1 g2 g3 g4 => ?_
  rw [hN]
  have hcA : cA = jC E a := by
    rw [hnm] at g1
    exact Option.some.inj (g1.symm.trans (jmust htag C).2.1)
  rw [arrV_new]
  have z1 : (H.push (arrV cA z.toNat fun _ => Value.null)).size = H.size + 1 := by simp
  have o1 : ∀ q : Nat, q < H.size → (H.push (arrV cA z.toNat fun _ => Value.null))[q]? = H[q]? := fun q hq => by rw [Array.getElem?_push, if_neg (Nat.ne_of_lt hq)]
  have kk := k lsA _ locs ⟨I.1, jRel_push I.2.1 hc (fun k hk => trivial) (by omega) ?_ z1 o1, fun v hv => (List.mem_cons.mp hv).elim (fun q => by rw [q]; exact ⟨trivial, rfl⟩) (I.tl.2.2.1 v), ⟨Nat.le_trans I.2.2.2.1 (by omega), fun q h1 h2 => (o1 q (Nat.lt_of_lt_of_le h1 I.2.2.2.1)).trans (I.2.2.2.2.1 q h1 h2), I.2.2.2.2.2⟩⟩
  · have e1 : ∀ f, jcells (jpush M a z.toNat f) - c0 = jcells M - c0 + 1 := fun f => by show jcells M + 1 - c0 = _; omega
    have e2 : ∀ f, jslots (jpush M a z.toNat f) - s0 = jslots M - s0 + z.toNat := fun f => by show jslots M + z.toNat - s0 = _; omega
    rw [e1, e2] at kk
    have e3 : jval E (.inr (.inl M.1.length)) = .ref H.size := by
      show Value.ref (jad E M.1.length) = _
      rw [jad_i hm, hz]
    rw [List.map_cons, e3] at kk
    exact kk
  · unfold jcellAt
    rw [if_neg (by omega)]
    refine ⟨htag, ?_⟩
    rw [← hcA]
    simp [jval, jX]
theorem j_aastore {i j t n : Nat} {k0 : Int} (C : jCtx E mi p l s m args meth c) (hd : decode (jmb mi) pc = .ok (.aastore, 1)) (hs : jsh M i = some (t, n)) (hi : i < 1000000) (ht : t = 105 + jtag M j) (htj : jtag M j < 13) (h0 : 0 ≤ k0) (h1 : k0.toNat < n) (k : jGo E mi p l e R s m args below meth c Q c0 s0 (pc + 1) ls st (jset M i k0.toNat (.inr (.inl j)))) : jGo E mi p l e R s m args below meth c Q c0 s0 pc ls (.inr (.inl j) :: .inl k0 :: .inr (.inl i) :: st) M := by
  intro lsA H locs I
  obtain ⟨g1, g2⟩ := jarr I.2.1 hs (by omega)
  obtain ⟨m1, m2, m3⟩ := jmust g1 C
  have hj : j < 1000000 := by
    unfold jtag at htj
    split at htj
    · assumption
    · split at htj <;> omega
  obtain ⟨tj, nj, hsj⟩ : ∃ tj nj, jsh M j = some (tj, nj) := by
    unfold jtag at htj
    rw [if_pos hj] at htj
    cases hq : jsh M j with
    | none => rw [hq] at htj; simp at htj
    | some q => exact ⟨q.1, q.2, rfl⟩
  have htag : jtag M j = tj := by
    unfold jtag
    rw [if_pos hj, hsj]
    rfl
  have hten : t = 110 ∨ t = 112 ∨ t = 113 ∨ t = 116 := by
    unfold jtagok at g1
    omega
  have htj2 : tj < 16 := by omega
  have hcj := (I.2.1.1 j tj nj hsj).1
  unfold jcellAt at hcj
  rw [if_pos htj2] at hcj
  obtain ⟨-, cv, v1, v2, v3, -⟩ := hcj
  have hfty : jfty t = .object (jclsn tj) := by
    rcases hten with rfl | rfl | rfl | rfl
    · have : tj = 5 := by omega
      subst this; decide +kernel
    · have : tj = 7 := by omega
      subst this; decide +kernel
    · have : tj = 8 := by omega
      subst this; decide +kernel
    · have : tj = 11 := by omega
      subst this; decide +kernel
  have hra := m3 (by omega)
  rw [hfty] at hra
  obtain ⟨kA, comp, k1, k2, k3, -⟩ := hra
  have hcls := (C.2.2.2.2.2.1.1.1 tj _ (jcl_get htj2)).2
  have hcomp : comp = (jD E).1 tj := Option.some.inj (k3.symm.trans hcls.1)
  subst hcomp
  obtain ⟨kC, hkC, -⟩ := hcls.2
  obtain ⟨b1, b2⟩ := jinb I.tl.hd.1 h0 h1
  show W p l e R s m args below meth c H locs _ _ Q (F0 m pc lsA (.ref (jad E j) :: .int (Int32.ofInt k0) :: .ref (jad E i) :: st.map (jval E)))
  rw [jad_i hi, jad_i hj]
  refine W.aast C.1 C.2.1 g2 (fun q h => by cases h) (fun h => by cases h) k1 k2 rfl hkC ⟨fun h => b1 (Or.inl h), by rw [arrV_size]; exact Nat.not_le.mp fun h => b1 (Or.inr h)⟩ v1 (fun q h => by rw [v3] at h; cases h) (by rw [v2]; exact hkC) (by rw [v2]; exact va_assign hcls) rfl rfl hd fun H1 e1 z o => ?_
  rw [b2] at e1 ⊢
  refine k lsA H1 _ (jset_arr I hs (by omega) (v := .inr (.inl j)) trivial ?_ z o I.tl.tl.tl.2.2.1)
  show H1[jB E + i]? = some (Cell.setSlot _ _ (.ref (jad E j)))
  rw [jad_i hj]
  exact e1
theorem j_aastoreN {i n : Nat} {k0 : Int} (C : jCtx E mi p l s m args meth c) (hd : decode (jmb mi) pc = .ok (.aastore, 1)) (hs : jsh M i = some (116, n)) (hi : i < 1000000) (h0 : 0 ≤ k0) (h1 : k0.toNat < n) (k : jGo E mi p l e R s m args below meth c Q c0 s0 (pc + 1) ls st (jset M i k0.toNat (.inr (.inr .null)))) : jGo E mi p l e R s m args below meth c Q c0 s0 pc ls (.inr (.inr .null) :: .inl k0 :: .inr (.inl i) :: st) M := by
  intro lsA H locs I
  obtain ⟨g1, g2⟩ := jarr I.2.1 hs (by omega)
  obtain ⟨m1, m2, m3⟩ := jmust g1 C
  have hfty : jfty 116 = .object "OverlapBenchLaw$Node" := by decide +kernel
  obtain ⟨b1, b2⟩ := jinb I.tl.hd.1 h0 h1
  show W p l e R s m args below meth c H locs _ _ Q (F0 m pc lsA (.null :: .int (Int32.ofInt k0) :: .ref (jad E i) :: st.map (jval E)))
  rw [jad_i hi]
  refine va_WaastN (C := "OverlapBenchLaw$Node") C.1 C.2.1 g2 (by rw [← hfty]; exact m1 _ _) (fun h => by cases h) (by rw [arrV_size]; exact b1) rfl rfl hd fun H1 e1 z o => ?_
  rw [b2] at e1 ⊢
  exact k lsA H1 _ (jset_arr I hs (by omega) (v := .inr (.inr .null)) trivial e1 z o I.tl.tl.tl.2.2.1)
theorem j_aastoreO {i j n : Nat} {k0 : Int} (C : jCtx E mi p l s m args meth c) (hd : decode (jmb mi) pc = .ok (.aastore, 1)) (hs : jsh M i = some (199, n)) (hi : i < 1000000) (hj : j < 1000000) (htj : jtag M j = 11 ∨ jtag M j = 116) (h0 : 0 ≤ k0) (h1 : k0.toNat < n) (k : jGo E mi p l e R s m args below meth c Q c0 s0 (pc + 1) ls st (jset M i k0.toNat (.inr (.inl j)))) : jGo E mi p l e R s m args below meth c Q c0 s0 pc ls (.inr (.inl j) :: .inl k0 :: .inr (.inl i) :: st) M := by
  intro lsA H locs I
  obtain ⟨g1, g2⟩ := jarr I.2.1 hs (by omega)
  obtain ⟨m1, m2, m3⟩ := jmust g1 C
  obtain ⟨tj, nj, hsj⟩ : ∃ tj nj, jsh M j = some (tj, nj) := by
    unfold jtag at htj
    rw [if_pos hj] at htj
    cases hq : jsh M j with
    | none => rw [hq] at htj; simp at htj
    | some q => exact ⟨q.1, q.2, rfl⟩
  have htag : jtag M j = tj := by
    unfold jtag
    rw [if_pos hj, hsj]
    rfl
  rw [htag] at htj
  have hcast := C.2.2.2.2.2.1.cast
  have hfty : jfty 199 = .object "java/lang/Object" := by decide +kernel
  have hra := m3 (by omega)
  rw [hfty] at hra
  obtain ⟨kA, comp, k1, k2, k3, -⟩ := hra
  have hv : ∃ cv : Cell, H[jB E + j]? = some cv ∧ cv.vm = .none ∧ ∃ nm, nm ∈ jobjs ∧ s.vm.findClass nm = some cv.cls := by
    have hcj := (I.2.1.1 j tj nj hsj).1
    unfold jcellAt at hcj
    rcases htj with rfl | rfl
    · rw [if_pos (by omega)] at hcj
      obtain ⟨-, cv, v1, v2, v3, -⟩ := hcj
      have hcls := (C.2.2.2.2.2.1.1.1 11 _ (jcl_get (by omega))).2
      have hcn : jclsn 11 = "OverlapBenchLaw$Node" := by decide +kernel
      exact ⟨cv, v1, v3, "OverlapBenchLaw$Node", by simp [jobjs], by rw [v2, ← hcn]; exact hcls.1⟩
    · rw [if_neg (by omega)] at hcj
      have hcn : "[" ++ (jfty 116).toString = "[LOverlapBenchLaw$Node;" := by decide +kernel
      exact ⟨_, hcj.2, rfl, "[LOverlapBenchLaw$Node;", by simp [jobjs], by rw [← hcn]; exact (jmust hcj.1 C).2.1⟩
  obtain ⟨cv, v1, v3, nm, hnm, hcl⟩ := hv
  have hasg := vb_asgC (hcast nm hnm) comp cv.cls k3 hcl
  obtain ⟨c0, t0, f1, f2, f3⟩ := Cond.castable_spec (va_Nw.use (A := args) rfl (hcast nm hnm))
  obtain ⟨kC, hkC, -⟩ := Vm.findClass_spec k3
  obtain ⟨kV, hkV, -⟩ := Vm.findClass_spec hcl
  obtain ⟨b1, b2⟩ := jinb I.tl.hd.1 h0 h1
  show W p l e R s m args below meth c H locs _ _ Q (F0 m pc lsA (.ref (jad E j) :: .int (Int32.ofInt k0) :: .ref (jad E i) :: st.map (jval E)))
  rw [jad_i hi, jad_i hj]
  refine W.aast C.1 C.2.1 g2 (fun q h => by cases h) (fun h => by cases h) k1 k2 rfl hkC ⟨fun h => b1 (Or.inl h), by rw [arrV_size]; exact Nat.not_le.mp fun h => b1 (Or.inr h)⟩ v1 (fun q h => by rw [v3] at h; cases h) hkV hasg rfl rfl hd fun H1 e1 z o => ?_
  rw [b2] at e1 ⊢
  refine k lsA H1 _ (jset_arr I hs (by omega) (v := .inr (.inl j)) trivial ?_ z o I.tl.tl.tl.2.2.1)
  show H1[jB E + i]? = some (Cell.setSlot _ _ (.ref (jad E j)))
  rw [jad_i hj]
  exact e1
end J10M
