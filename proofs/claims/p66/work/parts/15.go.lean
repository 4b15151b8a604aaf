/-! all instructions that go on -/
theorem jfn_cls : jfnests.all (fun q => decide (q.2.2.1 ≠ 15)) = true := by decide +kernel
section J15
variable {E : JE} {mi : Nat} {p : Program} {l : Launch} {e : Env} {R : Room} {s : State} {m : MethodId} {args : Array Value} {below : List Frame} {meth : Method} {c : Code} {Q : State → Prop} {c0 s0 pc pc1 : Nat} {ls st ls1 st1 : List JV} {M M1 : JM} {len a b w : Nat}
theorem g_aload_n {k0 : Fin 4} (C : jCtx E mi p l s m args meth c) (f1 : decode (jmb mi) pc = .ok (.aload_n k0, len)) (f2 : okL (jnm mi) (jht mi) (jrt mi) (pc, .aload_n k0, len, a, b, w) = true) (f3 : okX1 (jmeths.getD mi jm0) (pc, .aload_n k0, len, a, b, w) = true) (hs : jstep (.aload_n k0, len, a, b, w) pc ls st M = some (.inl (pc1, ls1, st1, M1))) (hr1 : jcells M1 - c0 ≤ R.cells) (hr2 : jslots M1 - s0 ≤ R.slots) (hc0 : c0 ≤ jcells M) (hs0 : s0 ≤ jslots M) (k : jGo E mi p l e R s m args below meth c Q c0 s0 pc1 ls1 st1 M1) : jGo E mi p l e R s m args below meth c Q c0 s0 pc ls st M := by
  unfold jstep at hs
  dsimp only at hs
  have hl : len = 1 := of_decide_eq_true f3
  subst hl
  unfold jld2 at hs
  split at hs
  · rename_i z hz
    simp only [jN, Option.some.injEq, Sum.inl.injEq, Prod.mk.injEq] at hs
    obtain ⟨rfl, rfl, rfl, rfl⟩ := hs
    exact j_aload_n C f1 hz k
  · rename_i hz
    simp only [jN, Option.some.injEq, Sum.inl.injEq, Prod.mk.injEq] at hs
    obtain ⟨rfl, rfl, rfl, rfl⟩ := hs
    exact j_aload_nN C f1 hz k
  · cases hs
theorem g_aload {i : Nat} (C : jCtx E mi p l s m args meth c) (f1 : decode (jmb mi) pc = .ok (.aload i, len)) (f2 : okL (jnm mi) (jht mi) (jrt mi) (pc, .aload i, len, a, b, w) = true) (f3 : okX1 (jmeths.getD mi jm0) (pc, .aload i, len, a, b, w) = true) (hs : jstep (.aload i, len, a, b, w) pc ls st M = some (.inl (pc1, ls1, st1, M1))) (hr1 : jcells M1 - c0 ≤ R.cells) (hr2 : jslots M1 - s0 ≤ R.slots) (hc0 : c0 ≤ jcells M) (hs0 : s0 ≤ jslots M) (k : jGo E mi p l e R s m args below meth c Q c0 s0 pc1 ls1 st1 M1) : jGo E mi p l e R s m args below meth c Q c0 s0 pc ls st M := by
  unfold jstep at hs
  dsimp only at hs
  have hl : len = 2 := of_decide_eq_true f3
  subst hl
  unfold jld2 at hs
  split at hs
  · rename_i z hz
    simp only [jN, Option.some.injEq, Sum.inl.injEq, Prod.mk.injEq] at hs
    obtain ⟨rfl, rfl, rfl, rfl⟩ := hs
    exact j_aload C f1 hz k
  · rename_i hz
    simp only [jN, Option.some.injEq, Sum.inl.injEq, Prod.mk.injEq] at hs
    obtain ⟨rfl, rfl, rfl, rfl⟩ := hs
    exact j_aloadN C f1 hz k
  · cases hs
theorem g_iload_n {k0 : Fin 4} (C : jCtx E mi p l s m args meth c) (f1 : decode (jmb mi) pc = .ok (.iload_n k0, len)) (f2 : okL (jnm mi) (jht mi) (jrt mi) (pc, .iload_n k0, len, a, b, w) = true) (f3 : okX1 (jmeths.getD mi jm0) (pc, .iload_n k0, len, a, b, w) = true) (hs : jstep (.iload_n k0, len, a, b, w) pc ls st M = some (.inl (pc1, ls1, st1, M1))) (hr1 : jcells M1 - c0 ≤ R.cells) (hr2 : jslots M1 - s0 ≤ R.slots) (hc0 : c0 ≤ jcells M) (hs0 : s0 ≤ jslots M) (k : jGo E mi p l e R s m args below meth c Q c0 s0 pc1 ls1 st1 M1) : jGo E mi p l e R s m args below meth c Q c0 s0 pc ls st M := by
  unfold jstep at hs
  dsimp only at hs
  have hl : len = 1 := of_decide_eq_true f3
  subst hl
  unfold jld1 at hs
  split at hs
  · rename_i z hz
    simp only [jN, Option.some.injEq, Sum.inl.injEq, Prod.mk.injEq] at hs
    obtain ⟨rfl, rfl, rfl, rfl⟩ := hs
    exact j_iload_n C f1 hz k
  · cases hs
theorem g_iload {i : Nat} (C : jCtx E mi p l s m args meth c) (f1 : decode (jmb mi) pc = .ok (.iload i, len)) (f2 : okL (jnm mi) (jht mi) (jrt mi) (pc, .iload i, len, a, b, w) = true) (f3 : okX1 (jmeths.getD mi jm0) (pc, .iload i, len, a, b, w) = true) (hs : jstep (.iload i, len, a, b, w) pc ls st M = some (.inl (pc1, ls1, st1, M1))) (hr1 : jcells M1 - c0 ≤ R.cells) (hr2 : jslots M1 - s0 ≤ R.slots) (hc0 : c0 ≤ jcells M) (hs0 : s0 ≤ jslots M) (k : jGo E mi p l e R s m args below meth c Q c0 s0 pc1 ls1 st1 M1) : jGo E mi p l e R s m args below meth c Q c0 s0 pc ls st M := by
  unfold jstep at hs
  dsimp only at hs
  have hl : len = 2 := of_decide_eq_true f3
  subst hl
  unfold jld1 at hs
  split at hs
  · rename_i z hz
    simp only [jN, Option.some.injEq, Sum.inl.injEq, Prod.mk.injEq] at hs
    obtain ⟨rfl, rfl, rfl, rfl⟩ := hs
    exact j_iload C f1 hz k
  · cases hs
theorem g_istore_n {k0 : Fin 4} (C : jCtx E mi p l s m args meth c) (f1 : decode (jmb mi) pc = .ok (.istore_n k0, len)) (f2 : okL (jnm mi) (jht mi) (jrt mi) (pc, .istore_n k0, len, a, b, w) = true) (f3 : okX1 (jmeths.getD mi jm0) (pc, .istore_n k0, len, a, b, w) = true) (hs : jstep (.istore_n k0, len, a, b, w) pc ls st M = some (.inl (pc1, ls1, st1, M1))) (hr1 : jcells M1 - c0 ≤ R.cells) (hr2 : jslots M1 - s0 ≤ R.slots) (hc0 : c0 ≤ jcells M) (hs0 : s0 ≤ jslots M) (k : jGo E mi p l e R s m args below meth c Q c0 s0 pc1 ls1 st1 M1) : jGo E mi p l e R s m args below meth c Q c0 s0 pc ls st M := by
  unfold jstep at hs
  dsimp only at hs
  have hl : len = 1 := of_decide_eq_true f3
  subst hl
  unfold jst1 at hs
  split at hs
  · unfold jNo at hs
    split at hs
    · rename_i hl
      simp only [jN, Option.some.injEq, Sum.inl.injEq, Prod.mk.injEq] at hs
      obtain ⟨rfl, rfl, rfl, rfl⟩ := hs
      exact j_istore_n C f1 hl k
    · cases hs
  · cases hs
theorem g_istore {i : Nat} (C : jCtx E mi p l s m args meth c) (f1 : decode (jmb mi) pc = .ok (.istore i, len)) (f2 : okL (jnm mi) (jht mi) (jrt mi) (pc, .istore i, len, a, b, w) = true) (f3 : okX1 (jmeths.getD mi jm0) (pc, .istore i, len, a, b, w) = true) (hs : jstep (.istore i, len, a, b, w) pc ls st M = some (.inl (pc1, ls1, st1, M1))) (hr1 : jcells M1 - c0 ≤ R.cells) (hr2 : jslots M1 - s0 ≤ R.slots) (hc0 : c0 ≤ jcells M) (hs0 : s0 ≤ jslots M) (k : jGo E mi p l e R s m args below meth c Q c0 s0 pc1 ls1 st1 M1) : jGo E mi p l e R s m args below meth c Q c0 s0 pc ls st M := by
  unfold jstep at hs
  dsimp only at hs
  have hl : len = 2 := of_decide_eq_true f3
  subst hl
  unfold jst1 at hs
  split at hs
  · unfold jNo at hs
    split at hs
    · rename_i hl
      simp only [jN, Option.some.injEq, Sum.inl.injEq, Prod.mk.injEq] at hs
      obtain ⟨rfl, rfl, rfl, rfl⟩ := hs
      exact j_istore C f1 hl k
    · cases hs
  · cases hs
theorem g_astore_n {k0 : Fin 4} (C : jCtx E mi p l s m args meth c) (f1 : decode (jmb mi) pc = .ok (.astore_n k0, len)) (f2 : okL (jnm mi) (jht mi) (jrt mi) (pc, .astore_n k0, len, a, b, w) = true) (f3 : okX1 (jmeths.getD mi jm0) (pc, .astore_n k0, len, a, b, w) = true) (hs : jstep (.astore_n k0, len, a, b, w) pc ls st M = some (.inl (pc1, ls1, st1, M1))) (hr1 : jcells M1 - c0 ≤ R.cells) (hr2 : jslots M1 - s0 ≤ R.slots) (hc0 : c0 ≤ jcells M) (hs0 : s0 ≤ jslots M) (k : jGo E mi p l e R s m args below meth c Q c0 s0 pc1 ls1 st1 M1) : jGo E mi p l e R s m args below meth c Q c0 s0 pc ls st M := by
  unfold jstep at hs
  dsimp only at hs
  have hl : len = 1 := of_decide_eq_true f3
  subst hl
  unfold jst2 at hs
  split at hs
  · unfold jNo at hs
    split at hs
    · rename_i hl
      simp only [jN, Option.some.injEq, Sum.inl.injEq, Prod.mk.injEq] at hs
      obtain ⟨rfl, rfl, rfl, rfl⟩ := hs
      exact j_astore_n C f1 hl k
    · cases hs
  · unfold jNo at hs
    split at hs
    · rename_i hl
      simp only [jN, Option.some.injEq, Sum.inl.injEq, Prod.mk.injEq] at hs
      obtain ⟨rfl, rfl, rfl, rfl⟩ := hs
      exact j_astore_nN C f1 hl k
    · cases hs
  · cases hs
theorem g_astore {i : Nat} (C : jCtx E mi p l s m args meth c) (f1 : decode (jmb mi) pc = .ok (.astore i, len)) (f2 : okL (jnm mi) (jht mi) (jrt mi) (pc, .astore i, len, a, b, w) = true) (f3 : okX1 (jmeths.getD mi jm0) (pc, .astore i, len, a, b, w) = true) (hs : jstep (.astore i, len, a, b, w) pc ls st M = some (.inl (pc1, ls1, st1, M1))) (hr1 : jcells M1 - c0 ≤ R.cells) (hr2 : jslots M1 - s0 ≤ R.slots) (hc0 : c0 ≤ jcells M) (hs0 : s0 ≤ jslots M) (k : jGo E mi p l e R s m args below meth c Q c0 s0 pc1 ls1 st1 M1) : jGo E mi p l e R s m args below meth c Q c0 s0 pc ls st M := by
  unfold jstep at hs
  dsimp only at hs
  have hl : len = 2 := of_decide_eq_true f3
  subst hl
  unfold jst2 at hs
  split at hs
  · unfold jNo at hs
    split at hs
    · rename_i hl
      simp only [jN, Option.some.injEq, Sum.inl.injEq, Prod.mk.injEq] at hs
      obtain ⟨rfl, rfl, rfl, rfl⟩ := hs
      exact j_astore C f1 hl k
    · cases hs
  · unfold jNo at hs
    split at hs
    · rename_i hl
      simp only [jN, Option.some.injEq, Sum.inl.injEq, Prod.mk.injEq] at hs
      obtain ⟨rfl, rfl, rfl, rfl⟩ := hs
      exact j_astoreN C f1 hl k
    · cases hs
  · cases hs
theorem g_iinc {i : Nat} {n : Int} (C : jCtx E mi p l s m args meth c) (f1 : decode (jmb mi) pc = .ok (.iinc i n, len)) (f2 : okL (jnm mi) (jht mi) (jrt mi) (pc, .iinc i n, len, a, b, w) = true) (f3 : okX1 (jmeths.getD mi jm0) (pc, .iinc i n, len, a, b, w) = true) (hs : jstep (.iinc i n, len, a, b, w) pc ls st M = some (.inl (pc1, ls1, st1, M1))) (hr1 : jcells M1 - c0 ≤ R.cells) (hr2 : jslots M1 - s0 ≤ R.slots) (hc0 : c0 ≤ jcells M) (hs0 : s0 ≤ jslots M) (k : jGo E mi p l e R s m args below meth c Q c0 s0 pc1 ls1 st1 M1) : jGo E mi p l e R s m args below meth c Q c0 s0 pc ls st M := by
  unfold jstep at hs
  dsimp only at hs
  have hl : len = 3 := of_decide_eq_true f3
  subst hl
  split at hs
  · rename_i z hz
    unfold jNo at hs
    split at hs
    · rename_i hl
      simp only [jN, Option.some.injEq, Sum.inl.injEq, Prod.mk.injEq] at hs
      obtain ⟨rfl, rfl, rfl, rfl⟩ := hs
      exact j_iinc C f1 hz hl k
    · cases hs
  · cases hs
theorem g_iconst {n : Int} (C : jCtx E mi p l s m args meth c) (f1 : decode (jmb mi) pc = .ok (.iconst n, len)) (f2 : okL (jnm mi) (jht mi) (jrt mi) (pc, .iconst n, len, a, b, w) = true) (f3 : okX1 (jmeths.getD mi jm0) (pc, .iconst n, len, a, b, w) = true) (hs : jstep (.iconst n, len, a, b, w) pc ls st M = some (.inl (pc1, ls1, st1, M1))) (hr1 : jcells M1 - c0 ≤ R.cells) (hr2 : jslots M1 - s0 ≤ R.slots) (hc0 : c0 ≤ jcells M) (hs0 : s0 ≤ jslots M) (k : jGo E mi p l e R s m args below meth c Q c0 s0 pc1 ls1 st1 M1) : jGo E mi p l e R s m args below meth c Q c0 s0 pc ls st M := by
  unfold jstep at hs
  dsimp only at hs
  have hl : len = 1 := of_decide_eq_true f3
  subst hl
  have hn : -1 ≤ n ∧ n ≤ 5 := of_decide_eq_true f2
  simp only [jN, Option.some.injEq, Sum.inl.injEq, Prod.mk.injEq] at hs
  obtain ⟨rfl, rfl, rfl, rfl⟩ := hs
  exact j_iconst C f1 hn k
theorem g_bipush {n : Int} (C : jCtx E mi p l s m args meth c) (f1 : decode (jmb mi) pc = .ok (.bipush n, len)) (f2 : okL (jnm mi) (jht mi) (jrt mi) (pc, .bipush n, len, a, b, w) = true) (f3 : okX1 (jmeths.getD mi jm0) (pc, .bipush n, len, a, b, w) = true) (hs : jstep (.bipush n, len, a, b, w) pc ls st M = some (.inl (pc1, ls1, st1, M1))) (hr1 : jcells M1 - c0 ≤ R.cells) (hr2 : jslots M1 - s0 ≤ R.slots) (hc0 : c0 ≤ jcells M) (hs0 : s0 ≤ jslots M) (k : jGo E mi p l e R s m args below meth c Q c0 s0 pc1 ls1 st1 M1) : jGo E mi p l e R s m args below meth c Q c0 s0 pc ls st M := by
  unfold jstep at hs
  dsimp only at hs
  have hl : len = 2 ∧ -128 ≤ n ∧ n ≤ 127 := of_decide_eq_true f3
  obtain ⟨rfl, h1, h2⟩ := hl
  have hn := of_decide_eq_true f2
  simp only [jN, Option.some.injEq, Sum.inl.injEq, Prod.mk.injEq] at hs
  obtain ⟨rfl, rfl, rfl, rfl⟩ := hs
  exact j_bipush C f1 hn (jofi (by omega)) k
theorem g_sipush {n : Int} (C : jCtx E mi p l s m args meth c) (f1 : decode (jmb mi) pc = .ok (.sipush n, len)) (f2 : okL (jnm mi) (jht mi) (jrt mi) (pc, .sipush n, len, a, b, w) = true) (f3 : okX1 (jmeths.getD mi jm0) (pc, .sipush n, len, a, b, w) = true) (hs : jstep (.sipush n, len, a, b, w) pc ls st M = some (.inl (pc1, ls1, st1, M1))) (hr1 : jcells M1 - c0 ≤ R.cells) (hr2 : jslots M1 - s0 ≤ R.slots) (hc0 : c0 ≤ jcells M) (hs0 : s0 ≤ jslots M) (k : jGo E mi p l e R s m args below meth c Q c0 s0 pc1 ls1 st1 M1) : jGo E mi p l e R s m args below meth c Q c0 s0 pc ls st M := by
  unfold jstep at hs
  dsimp only at hs
  have hl : len = 3 ∧ -32768 ≤ n ∧ n ≤ 32767 := of_decide_eq_true f3
  obtain ⟨rfl, h1, h2⟩ := hl
  have hn := of_decide_eq_true f2
  simp only [jN, Option.some.injEq, Sum.inl.injEq, Prod.mk.injEq] at hs
  obtain ⟨rfl, rfl, rfl, rfl⟩ := hs
  exact j_sipush C f1 hn (jofi (by omega)) k
theorem g_lconst {n : Fin 2} (C : jCtx E mi p l s m args meth c) (f1 : decode (jmb mi) pc = .ok (.lconst n, len)) (f2 : okL (jnm mi) (jht mi) (jrt mi) (pc, .lconst n, len, a, b, w) = true) (f3 : okX1 (jmeths.getD mi jm0) (pc, .lconst n, len, a, b, w) = true) (hs : jstep (.lconst n, len, a, b, w) pc ls st M = some (.inl (pc1, ls1, st1, M1))) (hr1 : jcells M1 - c0 ≤ R.cells) (hr2 : jslots M1 - s0 ≤ R.slots) (hc0 : c0 ≤ jcells M) (hs0 : s0 ≤ jslots M) (k : jGo E mi p l e R s m args below meth c Q c0 s0 pc1 ls1 st1 M1) : jGo E mi p l e R s m args below meth c Q c0 s0 pc ls st M := by
  unfold jstep at hs
  dsimp only at hs
  have hl : len = 1 := of_decide_eq_true f3
  subst hl
  simp only [jN, Option.some.injEq, Sum.inl.injEq, Prod.mk.injEq] at hs
  obtain ⟨rfl, rfl, rfl, rfl⟩ := hs
  exact j_lconst C f1 k
theorem g_ldc {n : Nat} (C : jCtx E mi p l s m args meth c) (f1 : decode (jmb mi) pc = .ok (.ldc n, len)) (f2 : okL (jnm mi) (jht mi) (jrt mi) (pc, .ldc n, len, a, b, w) = true) (f3 : okX1 (jmeths.getD mi jm0) (pc, .ldc n, len, a, b, w) = true) (hs : jstep (.ldc n, len, a, b, w) pc ls st M = some (.inl (pc1, ls1, st1, M1))) (hr1 : jcells M1 - c0 ≤ R.cells) (hr2 : jslots M1 - s0 ≤ R.slots) (hc0 : c0 ≤ jcells M) (hs0 : s0 ≤ jslots M) (k : jGo E mi p l e R s m args below meth c Q c0 s0 pc1 ls1 st1 M1) : jGo E mi p l e R s m args below meth c Q c0 s0 pc ls st M := by
  unfold jstep at hs
  dsimp only at hs
  have e3 : (decide (len = 2) && (if b = 0 then decide (a < 4294967296) else if b = 1 then decide (((jnm mi).cls, n, a) ∈ jstrs) else true)) = true := f3
  have e2 : (if b = 0 then jtw w (.constant (jnm mi).cls n (Int32.ofInt ((a : Int) - 2147483648))) else if b = 1 then decide (jtab w = some (.stringRef (jnm mi).cls n (jtext a))) && decide (a < 14) else true) = true := f2
  rw [Bool.and_eq_true] at e3
  have hl := of_decide_eq_true e3.1
  subst hl
  by_cases hb : b = 0
  · rw [if_pos hb] at hs e2 e3
    simp only [jN, Option.some.injEq, Sum.inl.injEq, Prod.mk.injEq] at hs
    obtain ⟨rfl, rfl, rfl, rfl⟩ := hs
    exact j_ldcI C f1 (jtw_mem e2) (of_decide_eq_true e3.2) k
  · rw [if_neg hb] at hs e2 e3
    by_cases hb1 : b = 1
    · rw [if_pos hb1] at hs e2 e3
      simp only [jN, Option.some.injEq, Sum.inl.injEq, Prod.mk.injEq] at hs
      obtain ⟨rfl, rfl, rfl, rfl⟩ := hs
      rw [Bool.and_eq_true] at e2
      exact j_ldcS C f1 (of_decide_eq_true e3.2) (of_decide_eq_true e2.2) k
    · rw [if_neg hb1] at hs
      cases hs
theorem g_ldc_w {n : Nat} (C : jCtx E mi p l s m args meth c) (f1 : decode (jmb mi) pc = .ok (.ldc_w n, len)) (f2 : okL (jnm mi) (jht mi) (jrt mi) (pc, .ldc_w n, len, a, b, w) = true) (f3 : okX1 (jmeths.getD mi jm0) (pc, .ldc_w n, len, a, b, w) = true) (hs : jstep (.ldc_w n, len, a, b, w) pc ls st M = some (.inl (pc1, ls1, st1, M1))) (hr1 : jcells M1 - c0 ≤ R.cells) (hr2 : jslots M1 - s0 ≤ R.slots) (hc0 : c0 ≤ jcells M) (hs0 : s0 ≤ jslots M) (k : jGo E mi p l e R s m args below meth c Q c0 s0 pc1 ls1 st1 M1) : jGo E mi p l e R s m args below meth c Q c0 s0 pc ls st M := by
  unfold jstep at hs
  dsimp only at hs
  have e3 : (decide (len = 3) && (if b = 0 then decide (a < 4294967296) else if b = 1 then decide (((jnm mi).cls, n, a) ∈ jstrs) else true)) = true := f3
  have e2 : (if b = 0 then jtw w (.constant (jnm mi).cls n (Int32.ofInt ((a : Int) - 2147483648))) else if b = 1 then decide (jtab w = some (.stringRef (jnm mi).cls n (jtext a))) && decide (a < 14) else true) = true := f2
  rw [Bool.and_eq_true] at e3
  have hl := of_decide_eq_true e3.1
  subst hl
  by_cases hb : b = 0
  · rw [if_pos hb] at hs e2 e3
    simp only [jN, Option.some.injEq, Sum.inl.injEq, Prod.mk.injEq] at hs
    obtain ⟨rfl, rfl, rfl, rfl⟩ := hs
    exact j_ldcwI C f1 (jtw_mem e2) (of_decide_eq_true e3.2) k
  · rw [if_neg hb] at hs e2 e3
    by_cases hb1 : b = 1
    · rw [if_pos hb1] at hs e2 e3
      simp only [jN, Option.some.injEq, Sum.inl.injEq, Prod.mk.injEq] at hs
      obtain ⟨rfl, rfl, rfl, rfl⟩ := hs
      rw [Bool.and_eq_true] at e2
      exact j_ldcwS C f1 (of_decide_eq_true e3.2) (of_decide_eq_true e2.2) k
    · rw [if_neg hb1] at hs
      cases hs
theorem g_getstatic {n : Nat} (C : jCtx E mi p l s m args meth c) (f1 : decode (jmb mi) pc = .ok (.getstatic n, len)) (f2 : okL (jnm mi) (jht mi) (jrt mi) (pc, .getstatic n, len, a, b, w) = true) (f3 : okX1 (jmeths.getD mi jm0) (pc, .getstatic n, len, a, b, w) = true) (hs : jstep (.getstatic n, len, a, b, w) pc ls st M = some (.inl (pc1, ls1, st1, M1))) (hr1 : jcells M1 - c0 ≤ R.cells) (hr2 : jslots M1 - s0 ≤ R.slots) (hc0 : c0 ≤ jcells M) (hs0 : s0 ≤ jslots M) (k : jGo E mi p l e R s m args below meth c Q c0 s0 pc1 ls1 st1 M1) : jGo E mi p l e R s m args below meth c Q c0 s0 pc ls st M := by
  unfold jstep at hs
  dsimp only at hs
  have hl : len = 3 := of_decide_eq_true f3
  subst hl
  have e2 : (if a = 0 then jtw w (.fieldLink (jnm mi).cls n "java/lang/String" "COMPACT_STRINGS" "Z") else if a = 1 then jtw w (.fieldLink (jnm mi).cls n "java/util/ArrayList" "DEFAULTCAPACITY_EMPTY_ELEMENTDATA" "[Ljava/lang/Object;") else true) = true := f2
  split at hs
  · rename_i ha
    rw [if_pos ha] at e2
    simp only [jN, Option.some.injEq, Sum.inl.injEq, Prod.mk.injEq] at hs
    obtain ⟨rfl, rfl, rfl, rfl⟩ := hs
    exact j_getstatic C f1 (jtw_mem e2) k
  · rename_i ha
    rw [if_neg ha] at e2
    split at hs
    · rename_i ha1
      rw [if_pos ha1] at e2
      simp only [jN, Option.some.injEq, Sum.inl.injEq, Prod.mk.injEq] at hs
      obtain ⟨rfl, rfl, rfl, rfl⟩ := hs
      exact j_getstaticE C f1 (jtw_mem e2) k
    · cases hs
theorem g_aconst_null  (C : jCtx E mi p l s m args meth c) (f1 : decode (jmb mi) pc = .ok (.aconst_null, len)) (f2 : okL (jnm mi) (jht mi) (jrt mi) (pc, .aconst_null, len, a, b, w) = true) (f3 : okX1 (jmeths.getD mi jm0) (pc, .aconst_null, len, a, b, w) = true) (hs : jstep (.aconst_null, len, a, b, w) pc ls st M = some (.inl (pc1, ls1, st1, M1))) (hr1 : jcells M1 - c0 ≤ R.cells) (hr2 : jslots M1 - s0 ≤ R.slots) (hc0 : c0 ≤ jcells M) (hs0 : s0 ≤ jslots M) (k : jGo E mi p l e R s m args below meth c Q c0 s0 pc1 ls1 st1 M1) : jGo E mi p l e R s m args below meth c Q c0 s0 pc ls st M := by
  unfold jstep at hs
  dsimp only at hs
  have hl : len = 1 := of_decide_eq_true f3
  subst hl
  simp only [jN, Option.some.injEq, Sum.inl.injEq, Prod.mk.injEq] at hs
  obtain ⟨rfl, rfl, rfl, rfl⟩ := hs
  exact j_aconst_null C f1 k
theorem g_ldc2_w {n : Nat} (C : jCtx E mi p l s m args meth c) (f1 : decode (jmb mi) pc = .ok (.ldc2_w n, len)) (f2 : okL (jnm mi) (jht mi) (jrt mi) (pc, .ldc2_w n, len, a, b, w) = true) (f3 : okX1 (jmeths.getD mi jm0) (pc, .ldc2_w n, len, a, b, w) = true) (hs : jstep (.ldc2_w n, len, a, b, w) pc ls st M = some (.inl (pc1, ls1, st1, M1))) (hr1 : jcells M1 - c0 ≤ R.cells) (hr2 : jslots M1 - s0 ≤ R.slots) (hc0 : c0 ≤ jcells M) (hs0 : s0 ≤ jslots M) (k : jGo E mi p l e R s m args below meth c Q c0 s0 pc1 ls1 st1 M1) : jGo E mi p l e R s m args below meth c Q c0 s0 pc ls st M := by
  unfold jstep at hs
  dsimp only at hs
  have hl : len = 3 := of_decide_eq_true f3
  subst hl
  simp only [jN, Option.some.injEq, Sum.inl.injEq, Prod.mk.injEq] at hs
  obtain ⟨rfl, rfl, rfl, rfl⟩ := hs
  exact j_ldc2 C f1 (jtw_mem f2) k
theorem g_idiv  (C : jCtx E mi p l s m args meth c) (f1 : decode (jmb mi) pc = .ok (.idiv, len)) (f2 : okL (jnm mi) (jht mi) (jrt mi) (pc, .idiv, len, a, b, w) = true) (f3 : okX1 (jmeths.getD mi jm0) (pc, .idiv, len, a, b, w) = true) (hs : jstep (.idiv, len, a, b, w) pc ls st M = some (.inl (pc1, ls1, st1, M1))) (hr1 : jcells M1 - c0 ≤ R.cells) (hr2 : jslots M1 - s0 ≤ R.slots) (hc0 : c0 ≤ jcells M) (hs0 : s0 ≤ jslots M) (k : jGo E mi p l e R s m args below meth c Q c0 s0 pc1 ls1 st1 M1) : jGo E mi p l e R s m args below meth c Q c0 s0 pc ls st M := by
  unfold jstep at hs
  dsimp only at hs
  have hl : len = 1 := of_decide_eq_true f3
  subst hl
  split at hs
  · split at hs
    · rename_i hn
      simp only [jN, Option.some.injEq, Sum.inl.injEq, Prod.mk.injEq] at hs
      obtain ⟨rfl, rfl, rfl, rfl⟩ := hs
      exact j_idiv C f1 hn.1 k
    · cases hs
  · cases hs
theorem g_irem  (C : jCtx E mi p l s m args meth c) (f1 : decode (jmb mi) pc = .ok (.irem, len)) (f2 : okL (jnm mi) (jht mi) (jrt mi) (pc, .irem, len, a, b, w) = true) (f3 : okX1 (jmeths.getD mi jm0) (pc, .irem, len, a, b, w) = true) (hs : jstep (.irem, len, a, b, w) pc ls st M = some (.inl (pc1, ls1, st1, M1))) (hr1 : jcells M1 - c0 ≤ R.cells) (hr2 : jslots M1 - s0 ≤ R.slots) (hc0 : c0 ≤ jcells M) (hs0 : s0 ≤ jslots M) (k : jGo E mi p l e R s m args below meth c Q c0 s0 pc1 ls1 st1 M1) : jGo E mi p l e R s m args below meth c Q c0 s0 pc ls st M := by
  unfold jstep at hs
  dsimp only at hs
  have hl : len = 1 := of_decide_eq_true f3
  subst hl
  split at hs
  · split at hs
    · rename_i hn
      simp only [jN, Option.some.injEq, Sum.inl.injEq, Prod.mk.injEq] at hs
      obtain ⟨rfl, rfl, rfl, rfl⟩ := hs
      exact j_irem C f1 hn.1 k
    · cases hs
  · cases hs
theorem g_dup_x1  (C : jCtx E mi p l s m args meth c) (f1 : decode (jmb mi) pc = .ok (.dup_x1, len)) (f2 : okL (jnm mi) (jht mi) (jrt mi) (pc, .dup_x1, len, a, b, w) = true) (f3 : okX1 (jmeths.getD mi jm0) (pc, .dup_x1, len, a, b, w) = true) (hs : jstep (.dup_x1, len, a, b, w) pc ls st M = some (.inl (pc1, ls1, st1, M1))) (hr1 : jcells M1 - c0 ≤ R.cells) (hr2 : jslots M1 - s0 ≤ R.slots) (hc0 : c0 ≤ jcells M) (hs0 : s0 ≤ jslots M) (k : jGo E mi p l e R s m args below meth c Q c0 s0 pc1 ls1 st1 M1) : jGo E mi p l e R s m args below meth c Q c0 s0 pc ls st M := by
  unfold jstep at hs
  dsimp only at hs
  have hl : len = 1 := of_decide_eq_true f3
  subst hl
  split at hs
  · split at hs
    · rename_i hn
      simp only [jN, Option.some.injEq, Sum.inl.injEq, Prod.mk.injEq] at hs
      obtain ⟨rfl, rfl, rfl, rfl⟩ := hs
      exact j_dup_x1 C f1 hn.1 hn.2 k
    · cases hs
  · cases hs
theorem g_checkcast {n : Nat} (C : jCtx E mi p l s m args meth c) (f1 : decode (jmb mi) pc = .ok (.checkcast n, len)) (f2 : okL (jnm mi) (jht mi) (jrt mi) (pc, .checkcast n, len, a, b, w) = true) (f3 : okX1 (jmeths.getD mi jm0) (pc, .checkcast n, len, a, b, w) = true) (hs : jstep (.checkcast n, len, a, b, w) pc ls st M = some (.inl (pc1, ls1, st1, M1))) (hr1 : jcells M1 - c0 ≤ R.cells) (hr2 : jslots M1 - s0 ≤ R.slots) (hc0 : c0 ≤ jcells M) (hs0 : s0 ≤ jslots M) (k : jGo E mi p l e R s m args below meth c Q c0 s0 pc1 ls1 st1 M1) : jGo E mi p l e R s m args below meth c Q c0 s0 pc ls st M := by
  unfold jstep at hs
  dsimp only at hs
  have hl : len = 3 := of_decide_eq_true f3
  subst hl
  have e2 : (jtw w (.classLink (jnm mi).cls n (jcasn a)) && decide (a = 101 ∨ a = 116 ∨ a = 11)) = true := f2
  rw [Bool.and_eq_true] at e2
  split at hs
  · split at hs
    · rename_i hn
      simp only [jN, Option.some.injEq, Sum.inl.injEq, Prod.mk.injEq] at hs
      obtain ⟨rfl, rfl, rfl, rfl⟩ := hs
      exact j_cast C f1 (jtw_mem e2.1) (of_decide_eq_true e2.2) hn.1 hn.2 k
    · cases hs
  · simp only [jN, Option.some.injEq, Sum.inl.injEq, Prod.mk.injEq] at hs
    obtain ⟨rfl, rfl, rfl, rfl⟩ := hs
    exact j_castN C f1 k
  · cases hs
theorem g_if_acmp {cc : Jvm.ClassFile.ACond} {off : Int} (C : jCtx E mi p l s m args meth c) (f1 : decode (jmb mi) pc = .ok (.if_acmp cc off, len)) (f2 : okL (jnm mi) (jht mi) (jrt mi) (pc, .if_acmp cc off, len, a, b, w) = true) (f3 : okX1 (jmeths.getD mi jm0) (pc, .if_acmp cc off, len, a, b, w) = true) (hs : jstep (.if_acmp cc off, len, a, b, w) pc ls st M = some (.inl (pc1, ls1, st1, M1))) (hr1 : jcells M1 - c0 ≤ R.cells) (hr2 : jslots M1 - s0 ≤ R.slots) (hc0 : c0 ≤ jcells M) (hs0 : s0 ≤ jslots M) (k : jGo E mi p l e R s m args below meth c Q c0 s0 pc1 ls1 st1 M1) : jGo E mi p l e R s m args below meth c Q c0 s0 pc ls st M := by
  unfold jstep at hs
  dsimp only at hs
  have hl : len = 3 := of_decide_eq_true f3
  subst hl
  split at hs
  · split at hs
    · rename_i hn
      cases cc with
      | eq =>
        rcases jbr_inv hs with ⟨hc, rfl, rfl, rfl, rfl⟩ | ⟨hc, rfl, rfl, rfl, rfl⟩
        · exact j_acmpE C f1 (of_decide_eq_true f2) hn.1 hn.2.1 hn.2.2 (fun _ => k) (fun h => Bool.noConfusion (hc.symm.trans h))
        · exact j_acmpE C f1 (of_decide_eq_true f2) hn.1 hn.2.1 hn.2.2 (fun h => Bool.noConfusion (hc.symm.trans h)) (fun _ => k)
      | ne =>
        rcases jbr_inv hs with ⟨hc, rfl, rfl, rfl, rfl⟩ | ⟨hc, rfl, rfl, rfl, rfl⟩
        · exact j_acmpN C f1 (of_decide_eq_true f2) hn.1 hn.2.1 hn.2.2 (fun _ => k) (fun h => Bool.noConfusion (hc.symm.trans h))
        · exact j_acmpN C f1 (of_decide_eq_true f2) hn.1 hn.2.1 hn.2.2 (fun h => Bool.noConfusion (hc.symm.trans h)) (fun _ => k)
    · cases hs
  · cases hs
theorem g_iadd  (C : jCtx E mi p l s m args meth c) (f1 : decode (jmb mi) pc = .ok (.iadd, len)) (f2 : okL (jnm mi) (jht mi) (jrt mi) (pc, .iadd, len, a, b, w) = true) (f3 : okX1 (jmeths.getD mi jm0) (pc, .iadd, len, a, b, w) = true) (hs : jstep (.iadd, len, a, b, w) pc ls st M = some (.inl (pc1, ls1, st1, M1))) (hr1 : jcells M1 - c0 ≤ R.cells) (hr2 : jslots M1 - s0 ≤ R.slots) (hc0 : c0 ≤ jcells M) (hs0 : s0 ≤ jslots M) (k : jGo E mi p l e R s m args below meth c Q c0 s0 pc1 ls1 st1 M1) : jGo E mi p l e R s m args below meth c Q c0 s0 pc ls st M := by
  unfold jstep at hs
  dsimp only at hs
  have hl : len = 1 := of_decide_eq_true f3
  subst hl
  split at hs
  · simp only [jN, Option.some.injEq, Sum.inl.injEq, Prod.mk.injEq] at hs
    obtain ⟨rfl, rfl, rfl, rfl⟩ := hs
    exact j_iadd C f1 k
  · cases hs
theorem g_isub  (C : jCtx E mi p l s m args meth c) (f1 : decode (jmb mi) pc = .ok (.isub, len)) (f2 : okL (jnm mi) (jht mi) (jrt mi) (pc, .isub, len, a, b, w) = true) (f3 : okX1 (jmeths.getD mi jm0) (pc, .isub, len, a, b, w) = true) (hs : jstep (.isub, len, a, b, w) pc ls st M = some (.inl (pc1, ls1, st1, M1))) (hr1 : jcells M1 - c0 ≤ R.cells) (hr2 : jslots M1 - s0 ≤ R.slots) (hc0 : c0 ≤ jcells M) (hs0 : s0 ≤ jslots M) (k : jGo E mi p l e R s m args below meth c Q c0 s0 pc1 ls1 st1 M1) : jGo E mi p l e R s m args below meth c Q c0 s0 pc ls st M := by
  unfold jstep at hs
  dsimp only at hs
  have hl : len = 1 := of_decide_eq_true f3
  subst hl
  split at hs
  · simp only [jN, Option.some.injEq, Sum.inl.injEq, Prod.mk.injEq] at hs
    obtain ⟨rfl, rfl, rfl, rfl⟩ := hs
    exact j_isub C f1 k
  · cases hs
theorem g_imul  (C : jCtx E mi p l s m args meth c) (f1 : decode (jmb mi) pc = .ok (.imul, len)) (f2 : okL (jnm mi) (jht mi) (jrt mi) (pc, .imul, len, a, b, w) = true) (f3 : okX1 (jmeths.getD mi jm0) (pc, .imul, len, a, b, w) = true) (hs : jstep (.imul, len, a, b, w) pc ls st M = some (.inl (pc1, ls1, st1, M1))) (hr1 : jcells M1 - c0 ≤ R.cells) (hr2 : jslots M1 - s0 ≤ R.slots) (hc0 : c0 ≤ jcells M) (hs0 : s0 ≤ jslots M) (k : jGo E mi p l e R s m args below meth c Q c0 s0 pc1 ls1 st1 M1) : jGo E mi p l e R s m args below meth c Q c0 s0 pc ls st M := by
  unfold jstep at hs
  dsimp only at hs
  have hl : len = 1 := of_decide_eq_true f3
  subst hl
  split at hs
  · simp only [jN, Option.some.injEq, Sum.inl.injEq, Prod.mk.injEq] at hs
    obtain ⟨rfl, rfl, rfl, rfl⟩ := hs
    exact j_imul C f1 k
  · cases hs
theorem g_iand  (C : jCtx E mi p l s m args meth c) (f1 : decode (jmb mi) pc = .ok (.iand, len)) (f2 : okL (jnm mi) (jht mi) (jrt mi) (pc, .iand, len, a, b, w) = true) (f3 : okX1 (jmeths.getD mi jm0) (pc, .iand, len, a, b, w) = true) (hs : jstep (.iand, len, a, b, w) pc ls st M = some (.inl (pc1, ls1, st1, M1))) (hr1 : jcells M1 - c0 ≤ R.cells) (hr2 : jslots M1 - s0 ≤ R.slots) (hc0 : c0 ≤ jcells M) (hs0 : s0 ≤ jslots M) (k : jGo E mi p l e R s m args below meth c Q c0 s0 pc1 ls1 st1 M1) : jGo E mi p l e R s m args below meth c Q c0 s0 pc ls st M := by
  unfold jstep at hs
  dsimp only at hs
  have hl : len = 1 := of_decide_eq_true f3
  subst hl
  split at hs
  · simp only [jN, Option.some.injEq, Sum.inl.injEq, Prod.mk.injEq] at hs
    obtain ⟨rfl, rfl, rfl, rfl⟩ := hs
    exact j_iand C f1 k
  · cases hs
theorem g_ishr  (C : jCtx E mi p l s m args meth c) (f1 : decode (jmb mi) pc = .ok (.ishr, len)) (f2 : okL (jnm mi) (jht mi) (jrt mi) (pc, .ishr, len, a, b, w) = true) (f3 : okX1 (jmeths.getD mi jm0) (pc, .ishr, len, a, b, w) = true) (hs : jstep (.ishr, len, a, b, w) pc ls st M = some (.inl (pc1, ls1, st1, M1))) (hr1 : jcells M1 - c0 ≤ R.cells) (hr2 : jslots M1 - s0 ≤ R.slots) (hc0 : c0 ≤ jcells M) (hs0 : s0 ≤ jslots M) (k : jGo E mi p l e R s m args below meth c Q c0 s0 pc1 ls1 st1 M1) : jGo E mi p l e R s m args below meth c Q c0 s0 pc ls st M := by
  unfold jstep at hs
  dsimp only at hs
  have hl : len = 1 := of_decide_eq_true f3
  subst hl
  split at hs
  · simp only [jN, Option.some.injEq, Sum.inl.injEq, Prod.mk.injEq] at hs
    obtain ⟨rfl, rfl, rfl, rfl⟩ := hs
    exact j_ishr C f1 k
  · cases hs
theorem g_iushr  (C : jCtx E mi p l s m args meth c) (f1 : decode (jmb mi) pc = .ok (.iushr, len)) (f2 : okL (jnm mi) (jht mi) (jrt mi) (pc, .iushr, len, a, b, w) = true) (f3 : okX1 (jmeths.getD mi jm0) (pc, .iushr, len, a, b, w) = true) (hs : jstep (.iushr, len, a, b, w) pc ls st M = some (.inl (pc1, ls1, st1, M1))) (hr1 : jcells M1 - c0 ≤ R.cells) (hr2 : jslots M1 - s0 ≤ R.slots) (hc0 : c0 ≤ jcells M) (hs0 : s0 ≤ jslots M) (k : jGo E mi p l e R s m args below meth c Q c0 s0 pc1 ls1 st1 M1) : jGo E mi p l e R s m args below meth c Q c0 s0 pc ls st M := by
  unfold jstep at hs
  dsimp only at hs
  have hl : len = 1 := of_decide_eq_true f3
  subst hl
  split at hs
  · simp only [jN, Option.some.injEq, Sum.inl.injEq, Prod.mk.injEq] at hs
    obtain ⟨rfl, rfl, rfl, rfl⟩ := hs
    exact j_iushr C f1 k
  · cases hs
theorem g_i2b  (C : jCtx E mi p l s m args meth c) (f1 : decode (jmb mi) pc = .ok (.i2b, len)) (f2 : okL (jnm mi) (jht mi) (jrt mi) (pc, .i2b, len, a, b, w) = true) (f3 : okX1 (jmeths.getD mi jm0) (pc, .i2b, len, a, b, w) = true) (hs : jstep (.i2b, len, a, b, w) pc ls st M = some (.inl (pc1, ls1, st1, M1))) (hr1 : jcells M1 - c0 ≤ R.cells) (hr2 : jslots M1 - s0 ≤ R.slots) (hc0 : c0 ≤ jcells M) (hs0 : s0 ≤ jslots M) (k : jGo E mi p l e R s m args below meth c Q c0 s0 pc1 ls1 st1 M1) : jGo E mi p l e R s m args below meth c Q c0 s0 pc ls st M := by
  unfold jstep at hs
  dsimp only at hs
  have hl : len = 1 := of_decide_eq_true f3
  subst hl
  split at hs
  · simp only [jN, Option.some.injEq, Sum.inl.injEq, Prod.mk.injEq] at hs
    obtain ⟨rfl, rfl, rfl, rfl⟩ := hs
    exact j_i2b C f1 k
  · cases hs
theorem g_i2c  (C : jCtx E mi p l s m args meth c) (f1 : decode (jmb mi) pc = .ok (.i2c, len)) (f2 : okL (jnm mi) (jht mi) (jrt mi) (pc, .i2c, len, a, b, w) = true) (f3 : okX1 (jmeths.getD mi jm0) (pc, .i2c, len, a, b, w) = true) (hs : jstep (.i2c, len, a, b, w) pc ls st M = some (.inl (pc1, ls1, st1, M1))) (hr1 : jcells M1 - c0 ≤ R.cells) (hr2 : jslots M1 - s0 ≤ R.slots) (hc0 : c0 ≤ jcells M) (hs0 : s0 ≤ jslots M) (k : jGo E mi p l e R s m args below meth c Q c0 s0 pc1 ls1 st1 M1) : jGo E mi p l e R s m args below meth c Q c0 s0 pc ls st M := by
  unfold jstep at hs
  dsimp only at hs
  have hl : len = 1 := of_decide_eq_true f3
  subst hl
  split at hs
  · simp only [jN, Option.some.injEq, Sum.inl.injEq, Prod.mk.injEq] at hs
    obtain ⟨rfl, rfl, rfl, rfl⟩ := hs
    exact j_i2c C f1 k
  · cases hs
theorem g_i2l  (C : jCtx E mi p l s m args meth c) (f1 : decode (jmb mi) pc = .ok (.i2l, len)) (f2 : okL (jnm mi) (jht mi) (jrt mi) (pc, .i2l, len, a, b, w) = true) (f3 : okX1 (jmeths.getD mi jm0) (pc, .i2l, len, a, b, w) = true) (hs : jstep (.i2l, len, a, b, w) pc ls st M = some (.inl (pc1, ls1, st1, M1))) (hr1 : jcells M1 - c0 ≤ R.cells) (hr2 : jslots M1 - s0 ≤ R.slots) (hc0 : c0 ≤ jcells M) (hs0 : s0 ≤ jslots M) (k : jGo E mi p l e R s m args below meth c Q c0 s0 pc1 ls1 st1 M1) : jGo E mi p l e R s m args below meth c Q c0 s0 pc ls st M := by
  unfold jstep at hs
  dsimp only at hs
  have hl : len = 1 := of_decide_eq_true f3
  subst hl
  split at hs
  · simp only [jN, Option.some.injEq, Sum.inl.injEq, Prod.mk.injEq] at hs
    obtain ⟨rfl, rfl, rfl, rfl⟩ := hs
    exact j_i2l C f1 k
  · cases hs
theorem g_lcmp  (C : jCtx E mi p l s m args meth c) (f1 : decode (jmb mi) pc = .ok (.lcmp, len)) (f2 : okL (jnm mi) (jht mi) (jrt mi) (pc, .lcmp, len, a, b, w) = true) (f3 : okX1 (jmeths.getD mi jm0) (pc, .lcmp, len, a, b, w) = true) (hs : jstep (.lcmp, len, a, b, w) pc ls st M = some (.inl (pc1, ls1, st1, M1))) (hr1 : jcells M1 - c0 ≤ R.cells) (hr2 : jslots M1 - s0 ≤ R.slots) (hc0 : c0 ≤ jcells M) (hs0 : s0 ≤ jslots M) (k : jGo E mi p l e R s m args below meth c Q c0 s0 pc1 ls1 st1 M1) : jGo E mi p l e R s m args below meth c Q c0 s0 pc ls st M := by
  unfold jstep at hs
  dsimp only at hs
  have hl : len = 1 := of_decide_eq_true f3
  subst hl
  split at hs
  · simp only [jN, Option.some.injEq, Sum.inl.injEq, Prod.mk.injEq] at hs
    obtain ⟨rfl, rfl, rfl, rfl⟩ := hs
    exact j_lcmp C f1 k
  · cases hs
theorem g_ior  (C : jCtx E mi p l s m args meth c) (f1 : decode (jmb mi) pc = .ok (.ior, len)) (f2 : okL (jnm mi) (jht mi) (jrt mi) (pc, .ior, len, a, b, w) = true) (f3 : okX1 (jmeths.getD mi jm0) (pc, .ior, len, a, b, w) = true) (hs : jstep (.ior, len, a, b, w) pc ls st M = some (.inl (pc1, ls1, st1, M1))) (hr1 : jcells M1 - c0 ≤ R.cells) (hr2 : jslots M1 - s0 ≤ R.slots) (hc0 : c0 ≤ jcells M) (hs0 : s0 ≤ jslots M) (k : jGo E mi p l e R s m args below meth c Q c0 s0 pc1 ls1 st1 M1) : jGo E mi p l e R s m args below meth c Q c0 s0 pc ls st M := by
  unfold jstep at hs
  dsimp only at hs
  have hl : len = 1 := of_decide_eq_true f3
  subst hl
  split at hs
  · simp only [jN, Option.some.injEq, Sum.inl.injEq, Prod.mk.injEq] at hs
    obtain ⟨rfl, rfl, rfl, rfl⟩ := hs
    exact j_ior C f1 k
  · cases hs
theorem g_ishl  (C : jCtx E mi p l s m args meth c) (f1 : decode (jmb mi) pc = .ok (.ishl, len)) (f2 : okL (jnm mi) (jht mi) (jrt mi) (pc, .ishl, len, a, b, w) = true) (f3 : okX1 (jmeths.getD mi jm0) (pc, .ishl, len, a, b, w) = true) (hs : jstep (.ishl, len, a, b, w) pc ls st M = some (.inl (pc1, ls1, st1, M1))) (hr1 : jcells M1 - c0 ≤ R.cells) (hr2 : jslots M1 - s0 ≤ R.slots) (hc0 : c0 ≤ jcells M) (hs0 : s0 ≤ jslots M) (k : jGo E mi p l e R s m args below meth c Q c0 s0 pc1 ls1 st1 M1) : jGo E mi p l e R s m args below meth c Q c0 s0 pc ls st M := by
  unfold jstep at hs
  dsimp only at hs
  have hl : len = 1 := of_decide_eq_true f3
  subst hl
  split at hs
  · simp only [jN, Option.some.injEq, Sum.inl.injEq, Prod.mk.injEq] at hs
    obtain ⟨rfl, rfl, rfl, rfl⟩ := hs
    exact j_ishl C f1 k
  · cases hs
theorem g_ladd  (C : jCtx E mi p l s m args meth c) (f1 : decode (jmb mi) pc = .ok (.ladd, len)) (f2 : okL (jnm mi) (jht mi) (jrt mi) (pc, .ladd, len, a, b, w) = true) (f3 : okX1 (jmeths.getD mi jm0) (pc, .ladd, len, a, b, w) = true) (hs : jstep (.ladd, len, a, b, w) pc ls st M = some (.inl (pc1, ls1, st1, M1))) (hr1 : jcells M1 - c0 ≤ R.cells) (hr2 : jslots M1 - s0 ≤ R.slots) (hc0 : c0 ≤ jcells M) (hs0 : s0 ≤ jslots M) (k : jGo E mi p l e R s m args below meth c Q c0 s0 pc1 ls1 st1 M1) : jGo E mi p l e R s m args below meth c Q c0 s0 pc ls st M := by
  unfold jstep at hs
  dsimp only at hs
  have hl : len = 1 := of_decide_eq_true f3
  subst hl
  split at hs
  · simp only [jN, Option.some.injEq, Sum.inl.injEq, Prod.mk.injEq] at hs
    obtain ⟨rfl, rfl, rfl, rfl⟩ := hs
    exact j_ladd C f1 k
  · cases hs
theorem g_lsub  (C : jCtx E mi p l s m args meth c) (f1 : decode (jmb mi) pc = .ok (.lsub, len)) (f2 : okL (jnm mi) (jht mi) (jrt mi) (pc, .lsub, len, a, b, w) = true) (f3 : okX1 (jmeths.getD mi jm0) (pc, .lsub, len, a, b, w) = true) (hs : jstep (.lsub, len, a, b, w) pc ls st M = some (.inl (pc1, ls1, st1, M1))) (hr1 : jcells M1 - c0 ≤ R.cells) (hr2 : jslots M1 - s0 ≤ R.slots) (hc0 : c0 ≤ jcells M) (hs0 : s0 ≤ jslots M) (k : jGo E mi p l e R s m args below meth c Q c0 s0 pc1 ls1 st1 M1) : jGo E mi p l e R s m args below meth c Q c0 s0 pc ls st M := by
  unfold jstep at hs
  dsimp only at hs
  have hl : len = 1 := of_decide_eq_true f3
  subst hl
  split at hs
  · simp only [jN, Option.some.injEq, Sum.inl.injEq, Prod.mk.injEq] at hs
    obtain ⟨rfl, rfl, rfl, rfl⟩ := hs
    exact j_lsub C f1 k
  · cases hs
theorem g_lmul  (C : jCtx E mi p l s m args meth c) (f1 : decode (jmb mi) pc = .ok (.lmul, len)) (f2 : okL (jnm mi) (jht mi) (jrt mi) (pc, .lmul, len, a, b, w) = true) (f3 : okX1 (jmeths.getD mi jm0) (pc, .lmul, len, a, b, w) = true) (hs : jstep (.lmul, len, a, b, w) pc ls st M = some (.inl (pc1, ls1, st1, M1))) (hr1 : jcells M1 - c0 ≤ R.cells) (hr2 : jslots M1 - s0 ≤ R.slots) (hc0 : c0 ≤ jcells M) (hs0 : s0 ≤ jslots M) (k : jGo E mi p l e R s m args below meth c Q c0 s0 pc1 ls1 st1 M1) : jGo E mi p l e R s m args below meth c Q c0 s0 pc ls st M := by
  unfold jstep at hs
  dsimp only at hs
  have hl : len = 1 := of_decide_eq_true f3
  subst hl
  split at hs
  · simp only [jN, Option.some.injEq, Sum.inl.injEq, Prod.mk.injEq] at hs
    obtain ⟨rfl, rfl, rfl, rfl⟩ := hs
    exact j_lmul C f1 k
  · cases hs
theorem g_l2i  (C : jCtx E mi p l s m args meth c) (f1 : decode (jmb mi) pc = .ok (.l2i, len)) (f2 : okL (jnm mi) (jht mi) (jrt mi) (pc, .l2i, len, a, b, w) = true) (f3 : okX1 (jmeths.getD mi jm0) (pc, .l2i, len, a, b, w) = true) (hs : jstep (.l2i, len, a, b, w) pc ls st M = some (.inl (pc1, ls1, st1, M1))) (hr1 : jcells M1 - c0 ≤ R.cells) (hr2 : jslots M1 - s0 ≤ R.slots) (hc0 : c0 ≤ jcells M) (hs0 : s0 ≤ jslots M) (k : jGo E mi p l e R s m args below meth c Q c0 s0 pc1 ls1 st1 M1) : jGo E mi p l e R s m args below meth c Q c0 s0 pc ls st M := by
  unfold jstep at hs
  dsimp only at hs
  have hl : len = 1 := of_decide_eq_true f3
  subst hl
  split at hs
  · simp only [jN, Option.some.injEq, Sum.inl.injEq, Prod.mk.injEq] at hs
    obtain ⟨rfl, rfl, rfl, rfl⟩ := hs
    exact j_l2i C f1 k
  · cases hs
theorem g_dup  (C : jCtx E mi p l s m args meth c) (f1 : decode (jmb mi) pc = .ok (.dup, len)) (f2 : okL (jnm mi) (jht mi) (jrt mi) (pc, .dup, len, a, b, w) = true) (f3 : okX1 (jmeths.getD mi jm0) (pc, .dup, len, a, b, w) = true) (hs : jstep (.dup, len, a, b, w) pc ls st M = some (.inl (pc1, ls1, st1, M1))) (hr1 : jcells M1 - c0 ≤ R.cells) (hr2 : jslots M1 - s0 ≤ R.slots) (hc0 : c0 ≤ jcells M) (hs0 : s0 ≤ jslots M) (k : jGo E mi p l e R s m args below meth c Q c0 s0 pc1 ls1 st1 M1) : jGo E mi p l e R s m args below meth c Q c0 s0 pc ls st M := by
  unfold jstep at hs
  dsimp only at hs
  have hl : len = 1 := of_decide_eq_true f3
  subst hl
  split at hs
  · split at hs
    · rename_i hn
      simp only [jN, Option.some.injEq, Sum.inl.injEq, Prod.mk.injEq] at hs
      obtain ⟨rfl, rfl, rfl, rfl⟩ := hs
      exact j_dup C f1 hn k
    · cases hs
  · cases hs
theorem g_pop  (C : jCtx E mi p l s m args meth c) (f1 : decode (jmb mi) pc = .ok (.pop, len)) (f2 : okL (jnm mi) (jht mi) (jrt mi) (pc, .pop, len, a, b, w) = true) (f3 : okX1 (jmeths.getD mi jm0) (pc, .pop, len, a, b, w) = true) (hs : jstep (.pop, len, a, b, w) pc ls st M = some (.inl (pc1, ls1, st1, M1))) (hr1 : jcells M1 - c0 ≤ R.cells) (hr2 : jslots M1 - s0 ≤ R.slots) (hc0 : c0 ≤ jcells M) (hs0 : s0 ≤ jslots M) (k : jGo E mi p l e R s m args below meth c Q c0 s0 pc1 ls1 st1 M1) : jGo E mi p l e R s m args below meth c Q c0 s0 pc ls st M := by
  unfold jstep at hs
  dsimp only at hs
  have hl : len = 1 := of_decide_eq_true f3
  subst hl
  split at hs
  · split at hs
    · rename_i hn
      simp only [jN, Option.some.injEq, Sum.inl.injEq, Prod.mk.injEq] at hs
      obtain ⟨rfl, rfl, rfl, rfl⟩ := hs
      exact j_pop C f1 hn k
    · cases hs
  · cases hs
theorem g_dup2  (C : jCtx E mi p l s m args meth c) (f1 : decode (jmb mi) pc = .ok (.dup2, len)) (f2 : okL (jnm mi) (jht mi) (jrt mi) (pc, .dup2, len, a, b, w) = true) (f3 : okX1 (jmeths.getD mi jm0) (pc, .dup2, len, a, b, w) = true) (hs : jstep (.dup2, len, a, b, w) pc ls st M = some (.inl (pc1, ls1, st1, M1))) (hr1 : jcells M1 - c0 ≤ R.cells) (hr2 : jslots M1 - s0 ≤ R.slots) (hc0 : c0 ≤ jcells M) (hs0 : s0 ≤ jslots M) (k : jGo E mi p l e R s m args below meth c Q c0 s0 pc1 ls1 st1 M1) : jGo E mi p l e R s m args below meth c Q c0 s0 pc ls st M := by
  unfold jstep at hs
  dsimp only at hs
  have hl : len = 1 := of_decide_eq_true f3
  subst hl
  split at hs
  · split at hs
    · rename_i hn
      simp only [jN, Option.some.injEq, Sum.inl.injEq, Prod.mk.injEq] at hs
      obtain ⟨rfl, rfl, rfl, rfl⟩ := hs
      exact j_dup2 C f1 hn.1 hn.2 k
    · cases hs
  · cases hs
theorem g_goto {off : Int} (C : jCtx E mi p l s m args meth c) (f1 : decode (jmb mi) pc = .ok (.goto off, len)) (f2 : okL (jnm mi) (jht mi) (jrt mi) (pc, .goto off, len, a, b, w) = true) (f3 : okX1 (jmeths.getD mi jm0) (pc, .goto off, len, a, b, w) = true) (hs : jstep (.goto off, len, a, b, w) pc ls st M = some (.inl (pc1, ls1, st1, M1))) (hr1 : jcells M1 - c0 ≤ R.cells) (hr2 : jslots M1 - s0 ≤ R.slots) (hc0 : c0 ≤ jcells M) (hs0 : s0 ≤ jslots M) (k : jGo E mi p l e R s m args below meth c Q c0 s0 pc1 ls1 st1 M1) : jGo E mi p l e R s m args below meth c Q c0 s0 pc ls st M := by
  unfold jstep at hs
  dsimp only at hs
  have hl : len = 3 := of_decide_eq_true f3
  subst hl
  simp only [jN, Option.some.injEq, Sum.inl.injEq, Prod.mk.injEq] at hs
  obtain ⟨rfl, rfl, rfl, rfl⟩ := hs
  exact j_goto C f1 (of_decide_eq_true f2) k
theorem g_ifnull {off : Int} (C : jCtx E mi p l s m args meth c) (f1 : decode (jmb mi) pc = .ok (.ifnull off, len)) (f2 : okL (jnm mi) (jht mi) (jrt mi) (pc, .ifnull off, len, a, b, w) = true) (f3 : okX1 (jmeths.getD mi jm0) (pc, .ifnull off, len, a, b, w) = true) (hs : jstep (.ifnull off, len, a, b, w) pc ls st M = some (.inl (pc1, ls1, st1, M1))) (hr1 : jcells M1 - c0 ≤ R.cells) (hr2 : jslots M1 - s0 ≤ R.slots) (hc0 : c0 ≤ jcells M) (hs0 : s0 ≤ jslots M) (k : jGo E mi p l e R s m args below meth c Q c0 s0 pc1 ls1 st1 M1) : jGo E mi p l e R s m args below meth c Q c0 s0 pc ls st M := by
  unfold jstep at hs
  dsimp only at hs
  have hl : len = 3 := of_decide_eq_true f3
  subst hl
  split at hs
  · simp only [jN, Option.some.injEq, Sum.inl.injEq, Prod.mk.injEq] at hs
    obtain ⟨rfl, rfl, rfl, rfl⟩ := hs
    exact j_ifnull C f1 k
  · simp only [jN, Option.some.injEq, Sum.inl.injEq, Prod.mk.injEq] at hs
    obtain ⟨rfl, rfl, rfl, rfl⟩ := hs
    exact j_ifnullN C f1 (of_decide_eq_true f2) k
  · cases hs
theorem g_ifnonnull {off : Int} (C : jCtx E mi p l s m args meth c) (f1 : decode (jmb mi) pc = .ok (.ifnonnull off, len)) (f2 : okL (jnm mi) (jht mi) (jrt mi) (pc, .ifnonnull off, len, a, b, w) = true) (f3 : okX1 (jmeths.getD mi jm0) (pc, .ifnonnull off, len, a, b, w) = true) (hs : jstep (.ifnonnull off, len, a, b, w) pc ls st M = some (.inl (pc1, ls1, st1, M1))) (hr1 : jcells M1 - c0 ≤ R.cells) (hr2 : jslots M1 - s0 ≤ R.slots) (hc0 : c0 ≤ jcells M) (hs0 : s0 ≤ jslots M) (k : jGo E mi p l e R s m args below meth c Q c0 s0 pc1 ls1 st1 M1) : jGo E mi p l e R s m args below meth c Q c0 s0 pc ls st M := by
  unfold jstep at hs
  dsimp only at hs
  have hl : len = 3 := of_decide_eq_true f3
  subst hl
  split at hs
  · simp only [jN, Option.some.injEq, Sum.inl.injEq, Prod.mk.injEq] at hs
    obtain ⟨rfl, rfl, rfl, rfl⟩ := hs
    exact j_ifnonnull C f1 (of_decide_eq_true f2) k
  · simp only [jN, Option.some.injEq, Sum.inl.injEq, Prod.mk.injEq] at hs
    obtain ⟨rfl, rfl, rfl, rfl⟩ := hs
    exact j_ifnonnullN C f1 k
  · cases hs
theorem g_ifCond {cc : Jvm.ClassFile.Cond} {off : Int} (C : jCtx E mi p l s m args meth c) (f1 : decode (jmb mi) pc = .ok (.ifCond cc off, len)) (f2 : okL (jnm mi) (jht mi) (jrt mi) (pc, .ifCond cc off, len, a, b, w) = true) (f3 : okX1 (jmeths.getD mi jm0) (pc, .ifCond cc off, len, a, b, w) = true) (hs : jstep (.ifCond cc off, len, a, b, w) pc ls st M = some (.inl (pc1, ls1, st1, M1))) (hr1 : jcells M1 - c0 ≤ R.cells) (hr2 : jslots M1 - s0 ≤ R.slots) (hc0 : c0 ≤ jcells M) (hs0 : s0 ≤ jslots M) (k : jGo E mi p l e R s m args below meth c Q c0 s0 pc1 ls1 st1 M1) : jGo E mi p l e R s m args below meth c Q c0 s0 pc ls st M := by
  unfold jstep at hs
  dsimp only at hs
  have hl : len = 3 := of_decide_eq_true f3
  subst hl
  split at hs
  · unfold jbr at hs
    split at hs
    · rename_i hc
      simp only [jN, Option.some.injEq, Sum.inl.injEq, Prod.mk.injEq] at hs
      obtain ⟨rfl, rfl, rfl, rfl⟩ := hs
      cases cc
      · exact j_ifCond_eq C f1 (of_decide_eq_true f2) (fun _ => k) (fun h => by rw [hc] at h; cases h)
      · exact j_ifCond_ne C f1 (of_decide_eq_true f2) (fun _ => k) (fun h => by rw [hc] at h; cases h)
      · exact j_ifCond_lt C f1 (of_decide_eq_true f2) (fun _ => k) (fun h => by rw [hc] at h; cases h)
      · exact j_ifCond_ge C f1 (of_decide_eq_true f2) (fun _ => k) (fun h => by rw [hc] at h; cases h)
      · exact j_ifCond_gt C f1 (of_decide_eq_true f2) (fun _ => k) (fun h => by rw [hc] at h; cases h)
      · exact j_ifCond_le C f1 (of_decide_eq_true f2) (fun _ => k) (fun h => by rw [hc] at h; cases h)
    · rename_i hc
      simp only [jN, Option.some.injEq, Sum.inl.injEq, Prod.mk.injEq] at hs
      obtain ⟨rfl, rfl, rfl, rfl⟩ := hs
      cases cc
      · exact j_ifCond_eq C f1 (of_decide_eq_true f2) (fun h => absurd h hc) (fun _ => k)
      · exact j_ifCond_ne C f1 (of_decide_eq_true f2) (fun h => absurd h hc) (fun _ => k)
      · exact j_ifCond_lt C f1 (of_decide_eq_true f2) (fun h => absurd h hc) (fun _ => k)
      · exact j_ifCond_ge C f1 (of_decide_eq_true f2) (fun h => absurd h hc) (fun _ => k)
      · exact j_ifCond_gt C f1 (of_decide_eq_true f2) (fun h => absurd h hc) (fun _ => k)
      · exact j_ifCond_le C f1 (of_decide_eq_true f2) (fun h => absurd h hc) (fun _ => k)
  · cases hs
theorem g_if_icmp {cc : Jvm.ClassFile.Cond} {off : Int} (C : jCtx E mi p l s m args meth c) (f1 : decode (jmb mi) pc = .ok (.if_icmp cc off, len)) (f2 : okL (jnm mi) (jht mi) (jrt mi) (pc, .if_icmp cc off, len, a, b, w) = true) (f3 : okX1 (jmeths.getD mi jm0) (pc, .if_icmp cc off, len, a, b, w) = true) (hs : jstep (.if_icmp cc off, len, a, b, w) pc ls st M = some (.inl (pc1, ls1, st1, M1))) (hr1 : jcells M1 - c0 ≤ R.cells) (hr2 : jslots M1 - s0 ≤ R.slots) (hc0 : c0 ≤ jcells M) (hs0 : s0 ≤ jslots M) (k : jGo E mi p l e R s m args below meth c Q c0 s0 pc1 ls1 st1 M1) : jGo E mi p l e R s m args below meth c Q c0 s0 pc ls st M := by
  unfold jstep at hs
  dsimp only at hs
  have hl : len = 3 := of_decide_eq_true f3
  subst hl
  split at hs
  · unfold jbr at hs
    split at hs
    · rename_i hc
      simp only [jN, Option.some.injEq, Sum.inl.injEq, Prod.mk.injEq] at hs
      obtain ⟨rfl, rfl, rfl, rfl⟩ := hs
      cases cc
      · exact j_if_icmp_eq C f1 (of_decide_eq_true f2) (fun _ => k) (fun h => by rw [hc] at h; cases h)
      · exact j_if_icmp_ne C f1 (of_decide_eq_true f2) (fun _ => k) (fun h => by rw [hc] at h; cases h)
      · exact j_if_icmp_lt C f1 (of_decide_eq_true f2) (fun _ => k) (fun h => by rw [hc] at h; cases h)
      · exact j_if_icmp_ge C f1 (of_decide_eq_true f2) (fun _ => k) (fun h => by rw [hc] at h; cases h)
      · exact j_if_icmp_gt C f1 (of_decide_eq_true f2) (fun _ => k) (fun h => by rw [hc] at h; cases h)
      · exact j_if_icmp_le C f1 (of_decide_eq_true f2) (fun _ => k) (fun h => by rw [hc] at h; cases h)
    · rename_i hc
      simp only [jN, Option.some.injEq, Sum.inl.injEq, Prod.mk.injEq] at hs
      obtain ⟨rfl, rfl, rfl, rfl⟩ := hs
      cases cc
      · exact j_if_icmp_eq C f1 (of_decide_eq_true f2) (fun h => absurd h hc) (fun _ => k)
      · exact j_if_icmp_ne C f1 (of_decide_eq_true f2) (fun h => absurd h hc) (fun _ => k)
      · exact j_if_icmp_lt C f1 (of_decide_eq_true f2) (fun h => absurd h hc) (fun _ => k)
      · exact j_if_icmp_ge C f1 (of_decide_eq_true f2) (fun h => absurd h hc) (fun _ => k)
      · exact j_if_icmp_gt C f1 (of_decide_eq_true f2) (fun h => absurd h hc) (fun _ => k)
      · exact j_if_icmp_le C f1 (of_decide_eq_true f2) (fun h => absurd h hc) (fun _ => k)
  · cases hs
theorem g_getfield {n : Nat} (C : jCtx E mi p l s m args meth c) (f1 : decode (jmb mi) pc = .ok (.getfield n, len)) (f2 : okL (jnm mi) (jht mi) (jrt mi) (pc, .getfield n, len, a, b, w) = true) (f3 : okX1 (jmeths.getD mi jm0) (pc, .getfield n, len, a, b, w) = true) (hs : jstep (.getfield n, len, a, b, w) pc ls st M = some (.inl (pc1, ls1, st1, M1))) (hr1 : jcells M1 - c0 ≤ R.cells) (hr2 : jslots M1 - s0 ≤ R.slots) (hc0 : c0 ≤ jcells M) (hs0 : s0 ≤ jslots M) (k : jGo E mi p l e R s m args below meth c Q c0 s0 pc1 ls1 st1 M1) : jGo E mi p l e R s m args below meth c Q c0 s0 pc ls st M := by
  unfold jstep at hs
  dsimp only at hs
  have e3 : decide (len = 3) = true := f3
  have e2 : (decide (a < 16) && decide (b < (jfields a).length) && (jtw w (.fieldLink (jnm mi).cls n (jfd a b).1 (jfd a b).2.1 (jfd a b).2.2.1) || (decide (((jnm mi).cls, n, a, b) ∈ jfnests) || (decide (a = 13 ∧ b = 0) && jtw w (.fieldLink (jnm mi).cls n "java/util/ArrayList" (jfd a b).2.1 (jfd a b).2.2.1))))) = true := f2
  simp only [Bool.and_eq_true, Bool.or_eq_true, decide_eq_true_eq] at e2
  obtain ⟨⟨ha, hb⟩, e2⟩ := e2
  have hl := of_decide_eq_true e3
  subst hl
  split at hs
  · split at hs
    · rename_i hi
      obtain ⟨rfl, hi1, hi2⟩ := hi
      have hn15 : ((jnm mi).cls, n, 15, b) ∉ jfnests := by
        intro h
        have h2 := List.all_eq_true.mp jfn_cls _ h
        have h3 := of_decide_eq_true h2
        exact absurd rfl h3
      have e4 : Cond.fieldLink (jnm mi).cls n (jfd 15 b).1 (jfd 15 b).2.1 (jfd 15 b).2.2.1 ∈ jgood := by
        rcases e2 with q | q | q
        · exact jtw_mem q
        · exact absurd q hn15
        · omega
      split at hs
      · rename_i hb2
        by_cases hb0 : b = 0
        · rw [if_pos hb0] at hs
          subst hb0
          simp only [jN, Option.some.injEq, Sum.inl.injEq, Prod.mk.injEq] at hs
          obtain ⟨rfl, rfl, rfl, rfl⟩ := hs
          exact j_getfieldV C f1 e4 hi1 hi2 k
        · rw [if_neg hb0] at hs
          have hb1 : b = 1 := by omega
          subst hb1
          simp only [jN, Option.some.injEq, Sum.inl.injEq, Prod.mk.injEq] at hs
          obtain ⟨rfl, rfl, rfl, rfl⟩ := hs
          exact j_getfieldC C f1 e4 hi1 hi2 k
      · cases hs
    · split at hs
      · rename_i hsh
        split at hs
        · rename_i hc
          rw [Nat.mod_eq_of_lt (by omega : a < 100)] at hc
          obtain ⟨h1, rfl, h3⟩ := hc
          simp only [jN, Option.some.injEq, Sum.inl.injEq, Prod.mk.injEq] at hs
          obtain ⟨rfl, rfl, rfl, rfl⟩ := hs
          rcases e2 with q | q | q
          · exact j_getfield C f1 (jtw_mem q) (Or.inl rfl) ha hb hsh h1 k
          · exact j_getfieldN C f1 q ha hb hsh h1 k
          · exact j_getfield C f1 (jtw_mem q.2) (Or.inr ⟨q.1.1, q.1.2, rfl⟩) ha hb hsh h1 k
        · cases hs
      · cases hs
  · cases hs
theorem g_putfield {n : Nat} (C : jCtx E mi p l s m args meth c) (f1 : decode (jmb mi) pc = .ok (.putfield n, len)) (f2 : okL (jnm mi) (jht mi) (jrt mi) (pc, .putfield n, len, a, b, w) = true) (f3 : okX1 (jmeths.getD mi jm0) (pc, .putfield n, len, a, b, w) = true) (hs : jstep (.putfield n, len, a, b, w) pc ls st M = some (.inl (pc1, ls1, st1, M1))) (hr1 : jcells M1 - c0 ≤ R.cells) (hr2 : jslots M1 - s0 ≤ R.slots) (hc0 : c0 ≤ jcells M) (hs0 : s0 ≤ jslots M) (k : jGo E mi p l e R s m args below meth c Q c0 s0 pc1 ls1 st1 M1) : jGo E mi p l e R s m args below meth c Q c0 s0 pc ls st M := by
  unfold jstep at hs
  dsimp only at hs
  have hl : len = 3 := of_decide_eq_true f3
  subst hl
  have e2 : (decide (a % 100 < 16) && decide (b < (jfields (a % 100)).length) && (jtw w (.fieldLink (jnm mi).cls n (jfd (a % 100) b).1 (jfd (a % 100) b).2.1 (jfd (a % 100) b).2.2.1) || (decide (a % 100 = 13 ∧ b = 0) && jtw w (.fieldLink (jnm mi).cls n "java/util/ArrayList" (jfd (a % 100) b).2.1 (jfd (a % 100) b).2.2.1))) && decide (a / 100 = jkd (jfd (a % 100) b).2.2.1)
        && (!(jfd (a % 100) b).2.2.2 || (decide ((jnm mi).name = "<init>") && decide ((jfd (a % 100) b).1 = (jnm mi).cls)))) = true := f2
  simp only [Bool.and_eq_true, Bool.or_eq_true, Bool.not_eq_true', decide_eq_true_eq] at e2
  obtain ⟨⟨⟨⟨g1, g2⟩, g3⟩, g4⟩, g5⟩ := e2
  split at hs
  · split at hs
    · rename_i hsh
      split at hs
      · rename_i hc
        obtain ⟨h1, rfl, h3, h4⟩ := hc
        rw [g4] at h4
        simp only [jN, Option.some.injEq, Sum.inl.injEq, Prod.mk.injEq] at hs
        obtain ⟨rfl, rfl, rfl, rfl⟩ := hs
        rcases g3 with q | q
        · exact j_putfield C f1 (jtw_mem q) (Or.inl rfl) g1 g2 hsh h1 g5 h4 k
        · exact j_putfield C f1 (jtw_mem q.2) (Or.inr ⟨q.1.1, q.1.2, rfl⟩) g1 g2 hsh h1 g5 h4 k
      · cases hs
    · cases hs
  · cases hs
theorem g_arraylength  (C : jCtx E mi p l s m args meth c) (f1 : decode (jmb mi) pc = .ok (.arraylength, len)) (f2 : okL (jnm mi) (jht mi) (jrt mi) (pc, .arraylength, len, a, b, w) = true) (f3 : okX1 (jmeths.getD mi jm0) (pc, .arraylength, len, a, b, w) = true) (hs : jstep (.arraylength, len, a, b, w) pc ls st M = some (.inl (pc1, ls1, st1, M1))) (hr1 : jcells M1 - c0 ≤ R.cells) (hr2 : jslots M1 - s0 ≤ R.slots) (hc0 : c0 ≤ jcells M) (hs0 : s0 ≤ jslots M) (k : jGo E mi p l e R s m args below meth c Q c0 s0 pc1 ls1 st1 M1) : jGo E mi p l e R s m args below meth c Q c0 s0 pc ls st M := by
  unfold jstep at hs
  dsimp only at hs
  have hl : len = 1 := of_decide_eq_true f3
  subst hl
  split at hs
  · rename_i i r
    split at hs
    · rename_i n hn
      split at hs
      · rename_i hlt
        simp only [jN, Option.some.injEq, Sum.inl.injEq, Prod.mk.injEq] at hs
        obtain ⟨rfl, rfl, rfl, rfl⟩ := hs
        unfold jlen at hn
        split at hn
        · rename_i hi
          split at hn
          · rename_i hsh
            split at hn
            · rename_i ht
              cases hn
              exact j_arraylength C f1 hsh ht hi k
            · cases hn
          · cases hn
        · split at hn
          · rename_i hi
            obtain rfl := Option.some.inj hn
            subst hi
            exact j_arraylengthS C f1 hlt k
          · split at hn
            · rename_i hi
              obtain rfl := Option.some.inj hn
              subst hi
              exact j_arraylengthE C f1 k
            · split at hn
              · rename_i hi
                obtain rfl := Option.some.inj hn
                exact j_arraylengthL C f1 hi.1 hi.2 k
              · cases hn
      · cases hs
    · cases hs
  · cases hs
theorem g_iaload  (C : jCtx E mi p l s m args meth c) (f1 : decode (jmb mi) pc = .ok (.iaload, len)) (f2 : okL (jnm mi) (jht mi) (jrt mi) (pc, .iaload, len, a, b, w) = true) (f3 : okX1 (jmeths.getD mi jm0) (pc, .iaload, len, a, b, w) = true) (hs : jstep (.iaload, len, a, b, w) pc ls st M = some (.inl (pc1, ls1, st1, M1))) (hr1 : jcells M1 - c0 ≤ R.cells) (hr2 : jslots M1 - s0 ≤ R.slots) (hc0 : c0 ≤ jcells M) (hs0 : s0 ≤ jslots M) (k : jGo E mi p l e R s m args below meth c Q c0 s0 pc1 ls1 st1 M1) : jGo E mi p l e R s m args below meth c Q c0 s0 pc ls st M := by
  unfold jstep at hs
  dsimp only at hs
  have hl : len = 1 := of_decide_eq_true f3
  subst hl
  split at hs
  · split at hs
    · rename_i hi
      subst hi
      split at hs
      · rename_i hc
        simp only [jN, Option.some.injEq, Sum.inl.injEq, Prod.mk.injEq] at hs
        obtain ⟨rfl, rfl, rfl, rfl⟩ := hs
        exact j_ialoadS C f1 hc.1 hc.2 k
      · cases hs
    · rename_i hi
      unfold jread at hs
      split at hs
      · rename_i hsh
        split at hs
        · rename_i hc
          obtain ⟨h1, rfl, h3, h4⟩ := hc
          simp only [jN, Option.some.injEq, Sum.inl.injEq, Prod.mk.injEq] at hs
          obtain ⟨rfl, rfl, rfl, rfl⟩ := hs
          exact j_iaload C f1 hsh h1 h3 h4 k
        · cases hs
      · cases hs
  · cases hs
theorem g_baload  (C : jCtx E mi p l s m args meth c) (f1 : decode (jmb mi) pc = .ok (.baload, len)) (f2 : okL (jnm mi) (jht mi) (jrt mi) (pc, .baload, len, a, b, w) = true) (f3 : okX1 (jmeths.getD mi jm0) (pc, .baload, len, a, b, w) = true) (hs : jstep (.baload, len, a, b, w) pc ls st M = some (.inl (pc1, ls1, st1, M1))) (hr1 : jcells M1 - c0 ≤ R.cells) (hr2 : jslots M1 - s0 ≤ R.slots) (hc0 : c0 ≤ jcells M) (hs0 : s0 ≤ jslots M) (k : jGo E mi p l e R s m args below meth c Q c0 s0 pc1 ls1 st1 M1) : jGo E mi p l e R s m args below meth c Q c0 s0 pc ls st M := by
  unfold jstep at hs
  dsimp only at hs
  have hl : len = 1 := of_decide_eq_true f3
  subst hl
  split at hs
  · split at hs
    · rename_i hi
      split at hs
      · rename_i hc
        simp only [jN, Option.some.injEq, Sum.inl.injEq, Prod.mk.injEq] at hs
        obtain ⟨rfl, rfl, rfl, rfl⟩ := hs
        exact j_baloadL C f1 hi.1 hi.2 hc.1 hc.2 k
      · cases hs
    · rename_i hi
      split at hs
      · rename_i ht
        unfold jread at hs
        split at hs
        · rename_i hsh
          split at hs
          · rename_i hc
            obtain ⟨h1, rfl, h3, h4⟩ := hc
            simp only [jN, Option.some.injEq, Sum.inl.injEq, Prod.mk.injEq] at hs
            obtain ⟨rfl, rfl, rfl, rfl⟩ := hs
            exact j_baload1 C f1 hsh h1 h3 h4 k
          · cases hs
        · cases hs
      · rename_i ht
        unfold jread at hs
        split at hs
        · rename_i hsh
          split at hs
          · rename_i hc
            obtain ⟨h1, rfl, h3, h4⟩ := hc
            simp only [jN, Option.some.injEq, Sum.inl.injEq, Prod.mk.injEq] at hs
            obtain ⟨rfl, rfl, rfl, rfl⟩ := hs
            exact j_baload2 C f1 hsh h1 h3 h4 k
          · cases hs
        · cases hs
  · cases hs
theorem g_laload  (C : jCtx E mi p l s m args meth c) (f1 : decode (jmb mi) pc = .ok (.laload, len)) (f2 : okL (jnm mi) (jht mi) (jrt mi) (pc, .laload, len, a, b, w) = true) (f3 : okX1 (jmeths.getD mi jm0) (pc, .laload, len, a, b, w) = true) (hs : jstep (.laload, len, a, b, w) pc ls st M = some (.inl (pc1, ls1, st1, M1))) (hr1 : jcells M1 - c0 ≤ R.cells) (hr2 : jslots M1 - s0 ≤ R.slots) (hc0 : c0 ≤ jcells M) (hs0 : s0 ≤ jslots M) (k : jGo E mi p l e R s m args below meth c Q c0 s0 pc1 ls1 st1 M1) : jGo E mi p l e R s m args below meth c Q c0 s0 pc ls st M := by
  unfold jstep at hs
  dsimp only at hs
  have hl : len = 1 := of_decide_eq_true f3
  subst hl
  split at hs
  ·
    unfold jread at hs
    split at hs
    · rename_i hsh
      split at hs
      · rename_i hc
        obtain ⟨h1, rfl, h3, h4⟩ := hc
        simp only [jN, Option.some.injEq, Sum.inl.injEq, Prod.mk.injEq] at hs
        obtain ⟨rfl, rfl, rfl, rfl⟩ := hs
        exact j_laload C f1 hsh h1 h3 h4 k
      · cases hs
    · cases hs
  · cases hs
theorem g_aaload  (C : jCtx E mi p l s m args meth c) (f1 : decode (jmb mi) pc = .ok (.aaload, len)) (f2 : okL (jnm mi) (jht mi) (jrt mi) (pc, .aaload, len, a, b, w) = true) (f3 : okX1 (jmeths.getD mi jm0) (pc, .aaload, len, a, b, w) = true) (hs : jstep (.aaload, len, a, b, w) pc ls st M = some (.inl (pc1, ls1, st1, M1))) (hr1 : jcells M1 - c0 ≤ R.cells) (hr2 : jslots M1 - s0 ≤ R.slots) (hc0 : c0 ≤ jcells M) (hs0 : s0 ≤ jslots M) (k : jGo E mi p l e R s m args below meth c Q c0 s0 pc1 ls1 st1 M1) : jGo E mi p l e R s m args below meth c Q c0 s0 pc ls st M := by
  unfold jstep at hs
  dsimp only at hs
  have hl : len = 1 := of_decide_eq_true f3
  subst hl
  split at hs
  · split at hs
    · rename_i ht
      unfold jread at hs
      split at hs
      · rename_i hsh
        split at hs
        · rename_i hc
          obtain ⟨h1, rfl, h3, h4⟩ := hc
          simp only [jN, Option.some.injEq, Sum.inl.injEq, Prod.mk.injEq] at hs
          obtain ⟨rfl, rfl, rfl, rfl⟩ := hs
          exact j_aaload C f1 hsh ht h1 h3 h4 k
        · cases hs
      · cases hs
    · cases hs
  · cases hs
theorem g_iastore  (C : jCtx E mi p l s m args meth c) (f1 : decode (jmb mi) pc = .ok (.iastore, len)) (f2 : okL (jnm mi) (jht mi) (jrt mi) (pc, .iastore, len, a, b, w) = true) (f3 : okX1 (jmeths.getD mi jm0) (pc, .iastore, len, a, b, w) = true) (hs : jstep (.iastore, len, a, b, w) pc ls st M = some (.inl (pc1, ls1, st1, M1))) (hr1 : jcells M1 - c0 ≤ R.cells) (hr2 : jslots M1 - s0 ≤ R.slots) (hc0 : c0 ≤ jcells M) (hs0 : s0 ≤ jslots M) (k : jGo E mi p l e R s m args below meth c Q c0 s0 pc1 ls1 st1 M1) : jGo E mi p l e R s m args below meth c Q c0 s0 pc ls st M := by
  unfold jstep at hs
  dsimp only at hs
  have hl : len = 1 := of_decide_eq_true f3
  subst hl
  split at hs
  ·
    unfold jwrite at hs
    split at hs
    · rename_i hsh
      split at hs
      · rename_i hc
        obtain ⟨h1, rfl, h3, h4⟩ := hc
        simp only [jN, Option.some.injEq, Sum.inl.injEq, Prod.mk.injEq] at hs
        obtain ⟨rfl, rfl, rfl, rfl⟩ := hs
        exact j_iastore C f1 hsh h1 h3 h4 k
      · cases hs
    · cases hs
  · cases hs
theorem g_lastore  (C : jCtx E mi p l s m args meth c) (f1 : decode (jmb mi) pc = .ok (.lastore, len)) (f2 : okL (jnm mi) (jht mi) (jrt mi) (pc, .lastore, len, a, b, w) = true) (f3 : okX1 (jmeths.getD mi jm0) (pc, .lastore, len, a, b, w) = true) (hs : jstep (.lastore, len, a, b, w) pc ls st M = some (.inl (pc1, ls1, st1, M1))) (hr1 : jcells M1 - c0 ≤ R.cells) (hr2 : jslots M1 - s0 ≤ R.slots) (hc0 : c0 ≤ jcells M) (hs0 : s0 ≤ jslots M) (k : jGo E mi p l e R s m args below meth c Q c0 s0 pc1 ls1 st1 M1) : jGo E mi p l e R s m args below meth c Q c0 s0 pc ls st M := by
  unfold jstep at hs
  dsimp only at hs
  have hl : len = 1 := of_decide_eq_true f3
  subst hl
  split at hs
  ·
    unfold jwrite at hs
    split at hs
    · rename_i hsh
      split at hs
      · rename_i hc
        obtain ⟨h1, rfl, h3, h4⟩ := hc
        simp only [jN, Option.some.injEq, Sum.inl.injEq, Prod.mk.injEq] at hs
        obtain ⟨rfl, rfl, rfl, rfl⟩ := hs
        exact j_lastore C f1 hsh h1 h3 h4 k
      · cases hs
    · cases hs
  · cases hs
theorem g_bastore  (C : jCtx E mi p l s m args meth c) (f1 : decode (jmb mi) pc = .ok (.bastore, len)) (f2 : okL (jnm mi) (jht mi) (jrt mi) (pc, .bastore, len, a, b, w) = true) (f3 : okX1 (jmeths.getD mi jm0) (pc, .bastore, len, a, b, w) = true) (hs : jstep (.bastore, len, a, b, w) pc ls st M = some (.inl (pc1, ls1, st1, M1))) (hr1 : jcells M1 - c0 ≤ R.cells) (hr2 : jslots M1 - s0 ≤ R.slots) (hc0 : c0 ≤ jcells M) (hs0 : s0 ≤ jslots M) (k : jGo E mi p l e R s m args below meth c Q c0 s0 pc1 ls1 st1 M1) : jGo E mi p l e R s m args below meth c Q c0 s0 pc ls st M := by
  unfold jstep at hs
  dsimp only at hs
  have hl : len = 1 := of_decide_eq_true f3
  subst hl
  split at hs
  · split at hs
    · rename_i ht
      unfold jwrite at hs
      split at hs
      · rename_i hsh
        split at hs
        · rename_i hc
          obtain ⟨h1, rfl, h3, h4⟩ := hc
          simp only [jN, Option.some.injEq, Sum.inl.injEq, Prod.mk.injEq] at hs
          obtain ⟨rfl, rfl, rfl, rfl⟩ := hs
          exact j_bastore1 C f1 hsh h1 h3 h4 k
        · cases hs
      · cases hs
    · rename_i ht
      split at hs
      · rename_i hz
        unfold jwrite at hs
        split at hs
        · rename_i hsh
          split at hs
          · rename_i hc
            obtain ⟨h1, rfl, h3, h4⟩ := hc
            simp only [jN, Option.some.injEq, Sum.inl.injEq, Prod.mk.injEq] at hs
            obtain ⟨rfl, rfl, rfl, rfl⟩ := hs
            exact j_bastore2 C f1 hsh h1 h3 h4 hz k
          · cases hs
        · cases hs
      · cases hs
  · cases hs
theorem g_aastore  (C : jCtx E mi p l s m args meth c) (f1 : decode (jmb mi) pc = .ok (.aastore, len)) (f2 : okL (jnm mi) (jht mi) (jrt mi) (pc, .aastore, len, a, b, w) = true) (f3 : okX1 (jmeths.getD mi jm0) (pc, .aastore, len, a, b, w) = true) (hs : jstep (.aastore, len, a, b, w) pc ls st M = some (.inl (pc1, ls1, st1, M1))) (hr1 : jcells M1 - c0 ≤ R.cells) (hr2 : jslots M1 - s0 ≤ R.slots) (hc0 : c0 ≤ jcells M) (hs0 : s0 ≤ jslots M) (k : jGo E mi p l e R s m args below meth c Q c0 s0 pc1 ls1 st1 M1) : jGo E mi p l e R s m args below meth c Q c0 s0 pc ls st M := by
  unfold jstep at hs
  dsimp only at hs
  have hl : len = 1 := of_decide_eq_true f3
  subst hl
  split at hs
  · split at hs
    · rename_i hc0
      unfold jwrite at hs
      split at hs
      · rename_i hsh
        split at hs
        · rename_i hc
          obtain ⟨h1, rfl, h3, h4⟩ := hc
          simp only [jN, Option.some.injEq, Sum.inl.injEq, Prod.mk.injEq] at hs
          obtain ⟨rfl, rfl, rfl, rfl⟩ := hs
          (rcases hc0 with q | q; exact j_aastore C f1 hsh h1 q.1 q.2 h3 h4 k; rw [q.1] at hsh; exact j_aastoreO C f1 hsh h1 q.2.1 q.2.2 h3 h4 k)
        · cases hs
      · cases hs
    · cases hs
  · split at hs
    · rename_i hc0
      unfold jwrite at hs
      split at hs
      · rename_i hsh
        split at hs
        · rename_i hc
          obtain ⟨h1, rfl, h3, h4⟩ := hc
          simp only [jN, Option.some.injEq, Sum.inl.injEq, Prod.mk.injEq] at hs
          obtain ⟨rfl, rfl, rfl, rfl⟩ := hs
          exact j_aastoreN C f1 hsh h1 h3 h4 k
        · cases hs
      · cases hs
    · cases hs
  · cases hs
theorem g_new {n : Nat} (C : jCtx E mi p l s m args meth c) (f1 : decode (jmb mi) pc = .ok (.new n, len)) (f2 : okL (jnm mi) (jht mi) (jrt mi) (pc, .new n, len, a, b, w) = true) (f3 : okX1 (jmeths.getD mi jm0) (pc, .new n, len, a, b, w) = true) (hs : jstep (.new n, len, a, b, w) pc ls st M = some (.inl (pc1, ls1, st1, M1))) (hr1 : jcells M1 - c0 ≤ R.cells) (hr2 : jslots M1 - s0 ≤ R.slots) (hc0 : c0 ≤ jcells M) (hs0 : s0 ≤ jslots M) (k : jGo E mi p l e R s m args below meth c Q c0 s0 pc1 ls1 st1 M1) : jGo E mi p l e R s m args below meth c Q c0 s0 pc ls st M := by
  unfold jstep at hs
  dsimp only at hs
  split at hs
  · rename_i ha
    have e2 : (if a < 100 then decide (a < 16) && jtw w (.classLink (jnm mi).cls n (jclsn a)) else true) = true := f2
    rw [if_pos ha, Bool.and_eq_true] at e2
    have hl : len = 3 := of_decide_eq_true f3
    subst hl
    split at hs
    · rename_i hc
      simp only [jN, Option.some.injEq, Sum.inl.injEq, Prod.mk.injEq] at hs
      obtain ⟨rfl, rfl, rfl, rfl⟩ := hs
      exact j_new C f1 (jtw_mem e2.2) (of_decide_eq_true e2.1) hc.1 hc.2 hr1 hr2 hc0 hs0 k
    · cases hs
  · split at hs <;> cases hs
theorem g_newarray {t : ArrayType} (C : jCtx E mi p l s m args meth c) (f1 : decode (jmb mi) pc = .ok (.newarray t, len)) (f2 : okL (jnm mi) (jht mi) (jrt mi) (pc, .newarray t, len, a, b, w) = true) (f3 : okX1 (jmeths.getD mi jm0) (pc, .newarray t, len, a, b, w) = true) (hs : jstep (.newarray t, len, a, b, w) pc ls st M = some (.inl (pc1, ls1, st1, M1))) (hr1 : jcells M1 - c0 ≤ R.cells) (hr2 : jslots M1 - s0 ≤ R.slots) (hc0 : c0 ≤ jcells M) (hs0 : s0 ≤ jslots M) (k : jGo E mi p l e R s m args below meth c Q c0 s0 pc1 ls1 st1 M1) : jGo E mi p l e R s m args below meth c Q c0 s0 pc ls st M := by
  unfold jstep at hs
  dsimp only at hs
  have hl : len = 2 := of_decide_eq_true f3
  subst hl
  have e2 : (jtw w (.arrayClass (newarray.typeOf t)) && decide (t = jaty a) && decide (100 ≤ a ∧ a < 104)) = true := f2
  simp only [Bool.and_eq_true, decide_eq_true_eq] at e2
  split at hs
  · split at hs
    · rename_i hc
      simp only [jN, Option.some.injEq, Sum.inl.injEq, Prod.mk.injEq] at hs
      obtain ⟨rfl, rfl, rfl, rfl⟩ := hs
      exact j_newarray C f1 (jtw_mem e2.1.1) e2.2 e2.1.2 hc.1 hc.2.1 hc.2.2.1 hc.2.2.2 hr1 hr2 hc0 hs0 k
    · cases hs
  · cases hs
theorem g_anewarray {n : Nat} (C : jCtx E mi p l s m args meth c) (f1 : decode (jmb mi) pc = .ok (.anewarray n, len)) (f2 : okL (jnm mi) (jht mi) (jrt mi) (pc, .anewarray n, len, a, b, w) = true) (f3 : okX1 (jmeths.getD mi jm0) (pc, .anewarray n, len, a, b, w) = true) (hs : jstep (.anewarray n, len, a, b, w) pc ls st M = some (.inl (pc1, ls1, st1, M1))) (hr1 : jcells M1 - c0 ≤ R.cells) (hr2 : jslots M1 - s0 ≤ R.slots) (hc0 : c0 ≤ jcells M) (hs0 : s0 ≤ jslots M) (k : jGo E mi p l e R s m args below meth c Q c0 s0 pc1 ls1 st1 M1) : jGo E mi p l e R s m args below meth c Q c0 s0 pc ls st M := by
  unfold jstep at hs
  dsimp only at hs
  have hl : len = 3 := of_decide_eq_true f3
  subst hl
  have e2 : (jtw w (.classLink (jnm mi).cls n (if a = 199 then "java/lang/Object" else jclsn (a - 105))) && decide (a = 110 ∨ a = 112 ∨ a = 113 ∨ a = 116 ∨ a = 199)) = true := f2
  simp only [Bool.and_eq_true, decide_eq_true_eq] at e2
  split at hs
  · split at hs
    · rename_i hc
      simp only [jN, Option.some.injEq, Sum.inl.injEq, Prod.mk.injEq] at hs
      obtain ⟨rfl, rfl, rfl, rfl⟩ := hs
      exact j_anewarray C f1 (jtw_mem e2.1) e2.2 hc.1 hc.2.1 hc.2.2.1 hc.2.2.2 hr1 hr2 hc0 hs0 k
    · cases hs
  · cases hs
theorem jcall_no {y n : Nat} {virt recv : Bool} {r : Nat × List JV × List JV × JM} : jcall y n virt recv ls st M ≠ some (.inl r) := by
  intro h
  unfold jcall at h
  dsimp only at h
  generalize (if recv = true then n + 1 else n) = k0 at h
  split at h
  · split at h
    · split at h <;> cases h
    · cases h
    · cases h
  · cases h
theorem g_invokespecial {n : Nat} (C : jCtx E mi p l s m args meth c) (f1 : decode (jmb mi) pc = .ok (.invokespecial n, len)) (f2 : okL (jnm mi) (jht mi) (jrt mi) (pc, .invokespecial n, len, a, b, w) = true) (f3 : okX1 (jmeths.getD mi jm0) (pc, .invokespecial n, len, a, b, w) = true) (hs : jstep (.invokespecial n, len, a, b, w) pc ls st M = some (.inl (pc1, ls1, st1, M1))) (hr1 : jcells M1 - c0 ≤ R.cells) (hr2 : jslots M1 - s0 ≤ R.slots) (hc0 : c0 ≤ jcells M) (hs0 : s0 ≤ jslots M) (k : jGo E mi p l e R s m args below meth c Q c0 s0 pc1 ls1 st1 M1) : jGo E mi p l e R s m args below meth c Q c0 s0 pc ls st M := by
  unfold jstep at hs
  dsimp only at hs
  exact absurd hs jcall_no
theorem g_invokeinterface {n n1 : Nat} (C : jCtx E mi p l s m args meth c) (f1 : decode (jmb mi) pc = .ok (.invokeinterface n n1, len)) (f2 : okL (jnm mi) (jht mi) (jrt mi) (pc, .invokeinterface n n1, len, a, b, w) = true) (f3 : okX1 (jmeths.getD mi jm0) (pc, .invokeinterface n n1, len, a, b, w) = true) (hs : jstep (.invokeinterface n n1, len, a, b, w) pc ls st M = some (.inl (pc1, ls1, st1, M1))) (hr1 : jcells M1 - c0 ≤ R.cells) (hr2 : jslots M1 - s0 ≤ R.slots) (hc0 : c0 ≤ jcells M) (hs0 : s0 ≤ jslots M) (k : jGo E mi p l e R s m args below meth c Q c0 s0 pc1 ls1 st1 M1) : jGo E mi p l e R s m args below meth c Q c0 s0 pc ls st M := by
  unfold jstep at hs
  dsimp only at hs
  exact absurd hs jcall_no
theorem g_ireturn  (C : jCtx E mi p l s m args meth c) (f1 : decode (jmb mi) pc = .ok (.ireturn, len)) (f2 : okL (jnm mi) (jht mi) (jrt mi) (pc, .ireturn, len, a, b, w) = true) (f3 : okX1 (jmeths.getD mi jm0) (pc, .ireturn, len, a, b, w) = true) (hs : jstep (.ireturn, len, a, b, w) pc ls st M = some (.inl (pc1, ls1, st1, M1))) (hr1 : jcells M1 - c0 ≤ R.cells) (hr2 : jslots M1 - s0 ≤ R.slots) (hc0 : c0 ≤ jcells M) (hs0 : s0 ≤ jslots M) (k : jGo E mi p l e R s m args below meth c Q c0 s0 pc1 ls1 st1 M1) : jGo E mi p l e R s m args below meth c Q c0 s0 pc ls st M := by
  unfold jstep at hs
  dsimp only at hs
  split at hs <;> first | (split at hs <;> cases hs) | cases hs
theorem g_areturn  (C : jCtx E mi p l s m args meth c) (f1 : decode (jmb mi) pc = .ok (.areturn, len)) (f2 : okL (jnm mi) (jht mi) (jrt mi) (pc, .areturn, len, a, b, w) = true) (f3 : okX1 (jmeths.getD mi jm0) (pc, .areturn, len, a, b, w) = true) (hs : jstep (.areturn, len, a, b, w) pc ls st M = some (.inl (pc1, ls1, st1, M1))) (hr1 : jcells M1 - c0 ≤ R.cells) (hr2 : jslots M1 - s0 ≤ R.slots) (hc0 : c0 ≤ jcells M) (hs0 : s0 ≤ jslots M) (k : jGo E mi p l e R s m args below meth c Q c0 s0 pc1 ls1 st1 M1) : jGo E mi p l e R s m args below meth c Q c0 s0 pc ls st M := by
  unfold jstep at hs
  dsimp only at hs
  split at hs <;> first | (split at hs <;> cases hs) | cases hs
theorem g_return_  (C : jCtx E mi p l s m args meth c) (f1 : decode (jmb mi) pc = .ok (.return_, len)) (f2 : okL (jnm mi) (jht mi) (jrt mi) (pc, .return_, len, a, b, w) = true) (f3 : okX1 (jmeths.getD mi jm0) (pc, .return_, len, a, b, w) = true) (hs : jstep (.return_, len, a, b, w) pc ls st M = some (.inl (pc1, ls1, st1, M1))) (hr1 : jcells M1 - c0 ≤ R.cells) (hr2 : jslots M1 - s0 ≤ R.slots) (hc0 : c0 ≤ jcells M) (hs0 : s0 ≤ jslots M) (k : jGo E mi p l e R s m args below meth c Q c0 s0 pc1 ls1 st1 M1) : jGo E mi p l e R s m args below meth c Q c0 s0 pc ls st M := by
  unfold jstep at hs
  dsimp only at hs
  split at hs <;> first | (split at hs <;> cases hs) | cases hs
theorem g_nop  (C : jCtx E mi p l s m args meth c) (f1 : decode (jmb mi) pc = .ok (.nop, len)) (f2 : okL (jnm mi) (jht mi) (jrt mi) (pc, .nop, len, a, b, w) = true) (f3 : okX1 (jmeths.getD mi jm0) (pc, .nop, len, a, b, w) = true) (hs : jstep (.nop, len, a, b, w) pc ls st M = some (.inl (pc1, ls1, st1, M1))) (hr1 : jcells M1 - c0 ≤ R.cells) (hr2 : jslots M1 - s0 ≤ R.slots) (hc0 : c0 ≤ jcells M) (hs0 : s0 ≤ jslots M) (k : jGo E mi p l e R s m args below meth c Q c0 s0 pc1 ls1 st1 M1) : jGo E mi p l e R s m args below meth c Q c0 s0 pc ls st M := by
  unfold jstep at hs
  dsimp only at hs
  cases f3
theorem g_invokestatic {n : Nat} (C : jCtx E mi p l s m args meth c) (f1 : decode (jmb mi) pc = .ok (.invokestatic n, len)) (f2 : okL (jnm mi) (jht mi) (jrt mi) (pc, .invokestatic n, len, a, b, w) = true) (f3 : okX1 (jmeths.getD mi jm0) (pc, .invokestatic n, len, a, b, w) = true) (hs : jstep (.invokestatic n, len, a, b, w) pc ls st M = some (.inl (pc1, ls1, st1, M1))) (hR1 : jht mi ≤ R.frames) (hR2 : 33 * jht mi ≤ R.locals)
    (KF : a = 8003 → jfill pc ls st M = some (.inl (pc1, ls1, st1, M1)) → Cond.methodLink (jnm mi).cls n jfillN ∈ jgood → 2 ≤ jht mi → decode (jmb mi) pc = .ok (.invokestatic n, 3) → jGo E mi p l e R s m args below meth c Q c0 s0 pc ls st M) (KS : a = 8004 → jsame pc ls st M = some (.inl (pc1, ls1, st1, M1)) → Cond.methodLink (jnm mi).cls n jequalN ∈ jgood → 5 ≤ jht mi → decode (jmb mi) pc = .ok (.invokestatic n, 3) → jGo E mi p l e R s m args below meth c Q c0 s0 pc ls st M) (k : jGo E mi p l e R s m args below meth c Q c0 s0 pc1 ls1 st1 M1) : jGo E mi p l e R s m args below meth c Q c0 s0 pc ls st M := by
  have hl : len = 3 := by
    have h : (decide (len = 3) && true) = true := f3
    rw [Bool.and_true] at h
    exact of_decide_eq_true h
  subst hl
  replace hs : (if a = 8001 then jcopy pc ls st M else if a = 8003 then jfill pc ls st M else if a = 8004 then jsame pc ls st M else jcall a b false false ls st M) = some (.inl (pc1, ls1, st1, M1)) := hs
  have e2 : (if 9000 ≤ a then true else if a = 8001 then jtw w (.methodLink (jnm mi).cls n arraycopyName) && decide (1 ≤ jht mi) else if a = 8003 then jtw w (.methodLink (jnm mi).cls n jfillN) && decide (2 ≤ jht mi) else if a = 8004 then jtw w (.methodLink (jnm mi).cls n jequalN) && decide (5 ≤ jht mi)
        else decide (a < 275) && (jtw w (.methodLink (jnm mi).cls n (jnm a)) || decide (((jnm mi).cls, n, jnm a, jhost (jnm mi)) ∈ jnests)) && jsta a && decide (jht a + 1 ≤ jht mi) && decide ((parseMethodDescriptor (jnm a).desc).map (fun d => d.parameters.length) = some b)) = true := f2
  by_cases h1 : a = 8001
  · rw [if_pos h1] at hs
    rw [if_neg (by omega), if_pos h1, Bool.and_eq_true] at e2
    have hht := of_decide_eq_true e2.2
    unfold jcopy at hs
    split at hs
    · split at hs
      · rename_i ha hb
        split at hs
        · rename_i hc
          obtain ⟨c1, rfl, c3, c4, c5, c6, c7, c8, c9, c10, c11⟩ := hc
          simp only [jN, Option.some.injEq, Sum.inl.injEq, Prod.mk.injEq] at hs
          obtain ⟨rfl, rfl, rfl, rfl⟩ := hs
          exact j_copy C f1 (jtw_mem e2.1) (by omega) (by omega) c9 c10 ha hb c1 c4 c5 c6 c7 c8 c11 k
        · cases hs
      · cases hs
    · cases hs
  · rw [if_neg h1] at hs
    by_cases h3 : a = 8003
    · rw [if_pos h3] at hs
      rw [if_neg (by omega), if_neg h1, if_pos h3, Bool.and_eq_true] at e2
      exact KF h3 hs (jtw_mem e2.1) (of_decide_eq_true e2.2) f1
    · rw [if_neg h3] at hs
      by_cases h4 : a = 8004
      · rw [if_pos h4] at hs
        rw [if_neg (by omega), if_neg h1, if_neg h3, if_pos h4, Bool.and_eq_true] at e2
        exact KS h4 hs (jtw_mem e2.1) (of_decide_eq_true e2.2) f1
      · rw [if_neg h4] at hs
        exact absurd hs jcall_no
theorem g_invokevirtual {n : Nat} (C : jCtx E mi p l s m args meth c) (f1 : decode (jmb mi) pc = .ok (.invokevirtual n, len)) (f2 : okL (jnm mi) (jht mi) (jrt mi) (pc, .invokevirtual n, len, a, b, w) = true) (f3 : okX1 (jmeths.getD mi jm0) (pc, .invokevirtual n, len, a, b, w) = true) (hs : jstep (.invokevirtual n, len, a, b, w) pc ls st M = some (.inl (pc1, ls1, st1, M1))) (hR1 : jht mi ≤ R.frames) (hR2 : 33 * jht mi ≤ R.locals) (hr1 : jcells M1 - c0 ≤ R.cells) (hr2 : jslots M1 - s0 ≤ R.slots) (hc0 : c0 ≤ jcells M) (hs0 : s0 ≤ jslots M) (k : jGo E mi p l e R s m args below meth c Q c0 s0 pc1 ls1 st1 M1) : jGo E mi p l e R s m args below meth c Q c0 s0 pc ls st M := by
  replace hs : (if a = 8002 then jclone pc ls st M else jcall a b true true ls st M) = some (.inl (pc1, ls1, st1, M1)) := hs
  have e2 : (if 9000 ≤ a then true else if a = 8002 then jtw w (.methodLink (jnm mi).cls n jcloneB) && decide (1 ≤ jht mi)
        else decide (a < 275) && jtw w (.methodLink (jnm mi).cls n (jref a)) && !(jsta a) && decide (jht a + 1 ≤ jht mi) && decide ((parseMethodDescriptor (jnm a).desc).map (fun d => d.parameters.length) = some b)) = true := f2
  by_cases h1 : a = 8002
  · rw [if_pos h1] at hs
    rw [if_neg (by omega), if_pos h1, Bool.and_eq_true] at e2
    have hht := of_decide_eq_true e2.2
    have hl : len = 3 := by
      have h : (decide (len = 3) && (if 8000 ≤ a then true else decide ((jpl a).2.1 ≠ 99999999))) = true := f3
      rw [Bool.and_eq_true] at h
      exact of_decide_eq_true h.1
    subst hl
    unfold jclone at hs
    split at hs
    · split at hs
      · rename_i hsh
        split at hs
        · rename_i hc
          obtain ⟨c1, rfl, c3, c4, c5, c6, c7, c8⟩ := hc
          simp only [jN, Option.some.injEq, Sum.inl.injEq, Prod.mk.injEq] at hs
          obtain ⟨rfl, rfl, rfl, rfl⟩ := hs
          exact j_clone C f1 (jtw_mem e2.1) (by omega) (by omega) c6 c7 hsh c1 c3 c4 c5 c8 hr1 hr2 hc0 hs0 k
        · cases hs
      · cases hs
    · cases hs
  · rw [if_neg h1] at hs
    exact absurd hs jcall_no
theorem jgo_step {x : JI} (C : jCtx E mi p l s m args meth c) (hM : okM (jmeths.getD mi jm0) = true) (hX : okX (jmeths.getD mi jm0) = true) (hc : jcode mi pc = some x) (hs : jstep x pc ls st M = some (.inl (pc1, ls1, st1, M1))) (hR1 : jht mi ≤ R.frames) (hR2 : 33 * jht mi ≤ R.locals) (hr1 : jcells M1 - c0 ≤ R.cells) (hr2 : jslots M1 - s0 ≤ R.slots) (hc0 : c0 ≤ jcells M) (hs0 : s0 ≤ jslots M)
    (KF : ∀ n, jfill pc ls st M = some (.inl (pc1, ls1, st1, M1)) → Cond.methodLink (jnm mi).cls n jfillN ∈ jgood → 2 ≤ jht mi → decode (jmb mi) pc = .ok (.invokestatic n, 3) → jGo E mi p l e R s m args below meth c Q c0 s0 pc ls st M) (KS : ∀ n, jsame pc ls st M = some (.inl (pc1, ls1, st1, M1)) → Cond.methodLink (jnm mi).cls n jequalN ∈ jgood → 5 ≤ jht mi → decode (jmb mi) pc = .ok (.invokestatic n, 3) → jGo E mi p l e R s m args below meth c Q c0 s0 pc ls st M) (k : jGo E mi p l e R s m args below meth c Q c0 s0 pc1 ls1 st1 M1) : jGo E mi p l e R s m args below meth c Q c0 s0 pc ls st M := by
  obtain ⟨f1, f2, f3⟩ := jfacts hM hX hc
  obtain ⟨ins, len, a, b, w⟩ := x
  dsimp only at f1
  cases ins
  case aload_n => exact g_aload_n C f1 f2 f3 hs hr1 hr2 hc0 hs0 k
  case aload => exact g_aload C f1 f2 f3 hs hr1 hr2 hc0 hs0 k
  case iload_n => exact g_iload_n C f1 f2 f3 hs hr1 hr2 hc0 hs0 k
  case iload => exact g_iload C f1 f2 f3 hs hr1 hr2 hc0 hs0 k
  case istore_n => exact g_istore_n C f1 f2 f3 hs hr1 hr2 hc0 hs0 k
  case istore => exact g_istore C f1 f2 f3 hs hr1 hr2 hc0 hs0 k
  case astore_n => exact g_astore_n C f1 f2 f3 hs hr1 hr2 hc0 hs0 k
  case astore => exact g_astore C f1 f2 f3 hs hr1 hr2 hc0 hs0 k
  case iinc => exact g_iinc C f1 f2 f3 hs hr1 hr2 hc0 hs0 k
  case iconst => exact g_iconst C f1 f2 f3 hs hr1 hr2 hc0 hs0 k
  case bipush => exact g_bipush C f1 f2 f3 hs hr1 hr2 hc0 hs0 k
  case sipush => exact g_sipush C f1 f2 f3 hs hr1 hr2 hc0 hs0 k
  case lconst => exact g_lconst C f1 f2 f3 hs hr1 hr2 hc0 hs0 k
  case ldc => exact g_ldc C f1 f2 f3 hs hr1 hr2 hc0 hs0 k
  case ldc_w => exact g_ldc_w C f1 f2 f3 hs hr1 hr2 hc0 hs0 k
  case getstatic => exact g_getstatic C f1 f2 f3 hs hr1 hr2 hc0 hs0 k
  case aconst_null => exact g_aconst_null C f1 f2 f3 hs hr1 hr2 hc0 hs0 k
  case ldc2_w => exact g_ldc2_w C f1 f2 f3 hs hr1 hr2 hc0 hs0 k
  case idiv => exact g_idiv C f1 f2 f3 hs hr1 hr2 hc0 hs0 k
  case irem => exact g_irem C f1 f2 f3 hs hr1 hr2 hc0 hs0 k
  case dup_x1 => exact g_dup_x1 C f1 f2 f3 hs hr1 hr2 hc0 hs0 k
  case checkcast => exact g_checkcast C f1 f2 f3 hs hr1 hr2 hc0 hs0 k
  case if_acmp => exact g_if_acmp C f1 f2 f3 hs hr1 hr2 hc0 hs0 k
  case iadd => exact g_iadd C f1 f2 f3 hs hr1 hr2 hc0 hs0 k
  case isub => exact g_isub C f1 f2 f3 hs hr1 hr2 hc0 hs0 k
  case imul => exact g_imul C f1 f2 f3 hs hr1 hr2 hc0 hs0 k
  case iand => exact g_iand C f1 f2 f3 hs hr1 hr2 hc0 hs0 k
  case ishr => exact g_ishr C f1 f2 f3 hs hr1 hr2 hc0 hs0 k
  case iushr => exact g_iushr C f1 f2 f3 hs hr1 hr2 hc0 hs0 k
  case i2b => exact g_i2b C f1 f2 f3 hs hr1 hr2 hc0 hs0 k
  case i2c => exact g_i2c C f1 f2 f3 hs hr1 hr2 hc0 hs0 k
  case i2l => exact g_i2l C f1 f2 f3 hs hr1 hr2 hc0 hs0 k
  case lcmp => exact g_lcmp C f1 f2 f3 hs hr1 hr2 hc0 hs0 k
  case ior => exact g_ior C f1 f2 f3 hs hr1 hr2 hc0 hs0 k
  case ishl => exact g_ishl C f1 f2 f3 hs hr1 hr2 hc0 hs0 k
  case ladd => exact g_ladd C f1 f2 f3 hs hr1 hr2 hc0 hs0 k
  case lsub => exact g_lsub C f1 f2 f3 hs hr1 hr2 hc0 hs0 k
  case lmul => exact g_lmul C f1 f2 f3 hs hr1 hr2 hc0 hs0 k
  case l2i => exact g_l2i C f1 f2 f3 hs hr1 hr2 hc0 hs0 k
  case dup => exact g_dup C f1 f2 f3 hs hr1 hr2 hc0 hs0 k
  case pop => exact g_pop C f1 f2 f3 hs hr1 hr2 hc0 hs0 k
  case dup2 => exact g_dup2 C f1 f2 f3 hs hr1 hr2 hc0 hs0 k
  case goto => exact g_goto C f1 f2 f3 hs hr1 hr2 hc0 hs0 k
  case ifnull => exact g_ifnull C f1 f2 f3 hs hr1 hr2 hc0 hs0 k
  case ifnonnull => exact g_ifnonnull C f1 f2 f3 hs hr1 hr2 hc0 hs0 k
  case ifCond => exact g_ifCond C f1 f2 f3 hs hr1 hr2 hc0 hs0 k
  case if_icmp => exact g_if_icmp C f1 f2 f3 hs hr1 hr2 hc0 hs0 k
  case getfield => exact g_getfield C f1 f2 f3 hs hr1 hr2 hc0 hs0 k
  case putfield => exact g_putfield C f1 f2 f3 hs hr1 hr2 hc0 hs0 k
  case arraylength => exact g_arraylength C f1 f2 f3 hs hr1 hr2 hc0 hs0 k
  case iaload => exact g_iaload C f1 f2 f3 hs hr1 hr2 hc0 hs0 k
  case baload => exact g_baload C f1 f2 f3 hs hr1 hr2 hc0 hs0 k
  case laload => exact g_laload C f1 f2 f3 hs hr1 hr2 hc0 hs0 k
  case aaload => exact g_aaload C f1 f2 f3 hs hr1 hr2 hc0 hs0 k
  case iastore => exact g_iastore C f1 f2 f3 hs hr1 hr2 hc0 hs0 k
  case lastore => exact g_lastore C f1 f2 f3 hs hr1 hr2 hc0 hs0 k
  case bastore => exact g_bastore C f1 f2 f3 hs hr1 hr2 hc0 hs0 k
  case aastore => exact g_aastore C f1 f2 f3 hs hr1 hr2 hc0 hs0 k
  case new => exact g_new C f1 f2 f3 hs hr1 hr2 hc0 hs0 k
  case newarray => exact g_newarray C f1 f2 f3 hs hr1 hr2 hc0 hs0 k
  case anewarray => exact g_anewarray C f1 f2 f3 hs hr1 hr2 hc0 hs0 k
  case invokespecial => exact g_invokespecial C f1 f2 f3 hs hr1 hr2 hc0 hs0 k
  case invokeinterface => exact g_invokeinterface C f1 f2 f3 hs hr1 hr2 hc0 hs0 k
  case ireturn => exact g_ireturn C f1 f2 f3 hs hr1 hr2 hc0 hs0 k
  case areturn => exact g_areturn C f1 f2 f3 hs hr1 hr2 hc0 hs0 k
  case return_ => exact g_return_ C f1 f2 f3 hs hr1 hr2 hc0 hs0 k
  case nop => exact g_nop C f1 f2 f3 hs hr1 hr2 hc0 hs0 k
  case invokestatic => exact g_invokestatic C f1 f2 f3 hs hR1 hR2 (fun _ => KF _) (fun _ => KS _) k
  case invokevirtual => exact g_invokevirtual C f1 f2 f3 hs hR1 hR2 hr1 hr2 hc0 hs0 k
  all_goals exact absurd (show (none : Option JR) = some (.inl (pc1, ls1, st1, M1)) from hs) (by simp)
end J15
