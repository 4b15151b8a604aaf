def jpl (k : Nat) : Nat × Nat × Nat × Nat := jpls.getD k (0, 0, 0, 0)
def okY (k : Nat) : Bool :=
  jtw (jwp k) (.code (jnm k) (jmb k) (jmaxL k) (jrt k))
  && (if jsta k then jtw (jpl k).1 (.static (jnm k)) else jtw (jpl k).1 (.instanceMethod (jnm k))) && (decide ((jpl k).2.1 = 99999999) || (jtw (jpl k).2.1 (.selects (jrcv k) (jref k) (jnm k)) && (if jref k = jnm k ∧ jrcv k = (jnm k).cls then true else jtw (jpl k).2.2.2 (.sameMethod (jref k).cls (jref k).cls (jref k).name (jref k).desc))))
  && jtw (jpl k).2.2.1 (.initialized (jnm k).cls) && plainName (jnm k).cls && decide ((jnm k).cls ≠ "java/lang/invoke/MethodHandle") && decide ((jnm k).cls ≠ "java/lang/invoke/VarHandle") && decide (jmaxL k ≤ 14) && decide ((jref k).cls ≠ "java/lang/invoke/MethodHandle") && decide ((jref k).cls ≠ "java/lang/invoke/VarHandle")
def jlenI (i : Instr) : Nat := match i with
  | .bipush _ | .ldc _ | .newarray _ | .aload _ | .iload _ | .fload _ | .dload _ | .istore _ | .astore _ | .fstore _ | .dstore _ => 2
  | .iinc _ _ | .sipush _ | .ldc_w _ | .getstatic _ | .goto _ | .ifCond _ _ | .if_icmp _ _ | .if_acmp _ _ | .ifnull _ | .ifnonnull _ | .getfield _ | .putfield _ | .new _ | .anewarray _ | .checkcast _ | .ldc2_w _ | .invokestatic _ | .invokevirtual _ | .invokespecial _ => 3
  | _ => 1
def okX1 (q : JMeth) (r : Nat × JI) : Bool := match r with
  | (pc, ins, len, a, b, _) => match ins with
    | .new _ => decide (len = 3)
    | .invokestatic _ => decide (len = 3) && true
    | .invokevirtual _ => decide (len = 3) && (if 8000 ≤ a then true else decide ((jpl a).2.1 ≠ 99999999))
    | .invokeinterface _ _ => decide (len = 5)
    | .invokespecial i => decide (len = 3) && (if a = 1 then decide (b = 0) else true)
    | .bipush n => decide (len = 2 ∧ -128 ≤ n ∧ n ≤ 127)
    | .sipush n => decide (len = 3 ∧ -32768 ≤ n ∧ n ≤ 32767)
    | .anewarray _ => decide (len = 3)
    | .ldc i => decide (len = 2) && (if b = 0 then decide (a < 4294967296) else if b = 1 then decide ((q.1.cls, i, a) ∈ jstrs) else true)
    | .ldc_w i => decide (len = 3) && (if b = 0 then decide (a < 4294967296) else if b = 1 then decide ((q.1.cls, i, a) ∈ jstrs) else true)
    | .getfield _ => decide (len = 3)
    | .ifnull _ => decide (len = 3)
    | .athrow => true
    | .nop => false
    | i => decide (len = jlenI i)
def okX (q : JMeth) : Bool := q.2.2.2.2.2.2.2.2.2.all (okX1 q) && decide (q.2.2.2.2.2.2.2.2.1 ≤ 30)
theorem okYa_0 : (List.range' (13 * 0) 13).all (fun k => decide (k = 1 ∨ k = 6 ∨ k = 72 ∨ k = 274 ∨ 275 ≤ k) || okY k) = true := by decide +kernel
theorem okYa_1 : (List.range' (13 * 1) 13).all (fun k => decide (k = 1 ∨ k = 6 ∨ k = 72 ∨ k = 274 ∨ 275 ≤ k) || okY k) = true := by decide +kernel
theorem okYa_2 : (List.range' (13 * 2) 13).all (fun k => decide (k = 1 ∨ k = 6 ∨ k = 72 ∨ k = 274 ∨ 275 ≤ k) || okY k) = true := by decide +kernel
theorem okYa_3 : (List.range' (13 * 3) 13).all (fun k => decide (k = 1 ∨ k = 6 ∨ k = 72 ∨ k = 274 ∨ 275 ≤ k) || okY k) = true := by decide +kernel
theorem okYa_4 : (List.range' (13 * 4) 13).all (fun k => decide (k = 1 ∨ k = 6 ∨ k = 72 ∨ k = 274 ∨ 275 ≤ k) || okY k) = true := by decide +kernel
theorem okYa_5 : (List.range' (13 * 5) 13).all (fun k => decide (k = 1 ∨ k = 6 ∨ k = 72 ∨ k = 274 ∨ 275 ≤ k) || okY k) = true := by decide +kernel
theorem okYa_6 : (List.range' (13 * 6) 13).all (fun k => decide (k = 1 ∨ k = 6 ∨ k = 72 ∨ k = 274 ∨ 275 ≤ k) || okY k) = true := by decide +kernel
theorem okYa_7 : (List.range' (13 * 7) 13).all (fun k => decide (k = 1 ∨ k = 6 ∨ k = 72 ∨ k = 274 ∨ 275 ≤ k) || okY k) = true := by decide +kernel
theorem okYa_8 : (List.range' (13 * 8) 13).all (fun k => decide (k = 1 ∨ k = 6 ∨ k = 72 ∨ k = 274 ∨ 275 ≤ k) || okY k) = true := by decide +kernel
theorem okYa_9 : (List.range' (13 * 9) 13).all (fun k => decide (k = 1 ∨ k = 6 ∨ k = 72 ∨ k = 274 ∨ 275 ≤ k) || okY k) = true := by decide +kernel
theorem okYa_10 : (List.range' (13 * 10) 13).all (fun k => decide (k = 1 ∨ k = 6 ∨ k = 72 ∨ k = 274 ∨ 275 ≤ k) || okY k) = true := by decide +kernel
theorem okYa_11 : (List.range' (13 * 11) 13).all (fun k => decide (k = 1 ∨ k = 6 ∨ k = 72 ∨ k = 274 ∨ 275 ≤ k) || okY k) = true := by decide +kernel
theorem okYa_12 : (List.range' (13 * 12) 13).all (fun k => decide (k = 1 ∨ k = 6 ∨ k = 72 ∨ k = 274 ∨ 275 ≤ k) || okY k) = true := by decide +kernel
theorem okYa_13 : (List.range' (13 * 13) 13).all (fun k => decide (k = 1 ∨ k = 6 ∨ k = 72 ∨ k = 274 ∨ 275 ≤ k) || okY k) = true := by decide +kernel
theorem okYa_14 : (List.range' (13 * 14) 13).all (fun k => decide (k = 1 ∨ k = 6 ∨ k = 72 ∨ k = 274 ∨ 275 ≤ k) || okY k) = true := by decide +kernel
theorem okYa_15 : (List.range' (13 * 15) 13).all (fun k => decide (k = 1 ∨ k = 6 ∨ k = 72 ∨ k = 274 ∨ 275 ≤ k) || okY k) = true := by decide +kernel
theorem okYa_16 : (List.range' (13 * 16) 13).all (fun k => decide (k = 1 ∨ k = 6 ∨ k = 72 ∨ k = 274 ∨ 275 ≤ k) || okY k) = true := by decide +kernel
theorem okYa_17 : (List.range' (13 * 17) 13).all (fun k => decide (k = 1 ∨ k = 6 ∨ k = 72 ∨ k = 274 ∨ 275 ≤ k) || okY k) = true := by decide +kernel
theorem okYa_18 : (List.range' (13 * 18) 13).all (fun k => decide (k = 1 ∨ k = 6 ∨ k = 72 ∨ k = 274 ∨ 275 ≤ k) || okY k) = true := by decide +kernel
theorem okYa_19 : (List.range' (13 * 19) 13).all (fun k => decide (k = 1 ∨ k = 6 ∨ k = 72 ∨ k = 274 ∨ 275 ≤ k) || okY k) = true := by decide +kernel
theorem okYa_20 : (List.range' (13 * 20) 13).all (fun k => decide (k = 1 ∨ k = 6 ∨ k = 72 ∨ k = 274 ∨ 275 ≤ k) || okY k) = true := by decide +kernel
theorem okYa_21 : (List.range' (13 * 21) 13).all (fun k => decide (k = 1 ∨ k = 6 ∨ k = 72 ∨ k = 274 ∨ 275 ≤ k) || okY k) = true := by decide +kernel
theorem okYa_l : ∀ i ∈ [0, 1, 2, 3, 4, 5, 6, 7, 8, 9, 10, 11, 12, 13, 14, 15, 16, 17, 18, 19, 20, 21], (List.range' (13 * i) 13).all (fun k => decide (k = 1 ∨ k = 6 ∨ k = 72 ∨ k = 274 ∨ 275 ≤ k) || okY k) = true := List.forall_mem_cons.mpr ⟨okYa_0, List.forall_mem_cons.mpr ⟨okYa_1, List.forall_mem_cons.mpr ⟨okYa_2, List.forall_mem_cons.mpr ⟨okYa_3, List.forall_mem_cons.mpr ⟨okYa_4, List.forall_mem_cons.mpr ⟨okYa_5, List.forall_mem_cons.mpr ⟨okYa_6, List.forall_mem_cons.mpr ⟨okYa_7, List.forall_mem_cons.mpr ⟨okYa_8, List.forall_mem_cons.mpr ⟨okYa_9, List.forall_mem_cons.mpr ⟨okYa_10, List.forall_mem_cons.mpr ⟨okYa_11, List.forall_mem_cons.mpr ⟨okYa_12, List.forall_mem_cons.mpr ⟨okYa_13, List.forall_mem_cons.mpr ⟨okYa_14, List.forall_mem_cons.mpr ⟨okYa_15, List.forall_mem_cons.mpr ⟨okYa_16, List.forall_mem_cons.mpr ⟨okYa_17, List.forall_mem_cons.mpr ⟨okYa_18, List.forall_mem_cons.mpr ⟨okYa_19, List.forall_mem_cons.mpr ⟨okYa_20, List.forall_mem_cons.mpr ⟨okYa_21, fun _ h => absurd h List.not_mem_nil⟩⟩⟩⟩⟩⟩⟩⟩⟩⟩⟩⟩⟩⟩⟩⟩⟩⟩⟩⟩⟩⟩
theorem okY_all {k : Nat} (h : k < 275) : (decide (k = 1 ∨ k = 6 ∨ k = 72 ∨ k = 274 ∨ 275 ≤ k) || okY k) = true := by
  have hm : k / 13 ∈ [0, 1, 2, 3, 4, 5, 6, 7, 8, 9, 10, 11, 12, 13, 14, 15, 16, 17, 18, 19, 20, 21] := by
    rw [show [0, 1, 2, 3, 4, 5, 6, 7, 8, 9, 10, 11, 12, 13, 14, 15, 16, 17, 18, 19, 20, 21] = List.range 22 from rfl]
    exact List.mem_range.mpr (by omega)
  refine List.all_eq_true.mp (okYa_l _ hm) k ?_
  rw [List.mem_range']
  exact ⟨k % 13, Nat.mod_lt _ (by decide), by omega⟩
theorem okXa_0 : (List.range' (13 * 0) 13).all (fun k => decide (k = 25 ∨ 275 ≤ k) || okX (jmeths.getD k jm0)) = true := by decide +kernel
theorem okXa_1 : (List.range' (13 * 1) 13).all (fun k => decide (k = 25 ∨ 275 ≤ k) || okX (jmeths.getD k jm0)) = true := by decide +kernel
theorem okXa_2 : (List.range' (13 * 2) 13).all (fun k => decide (k = 25 ∨ 275 ≤ k) || okX (jmeths.getD k jm0)) = true := by decide +kernel
theorem okXa_3 : (List.range' (13 * 3) 13).all (fun k => decide (k = 25 ∨ 275 ≤ k) || okX (jmeths.getD k jm0)) = true := by decide +kernel
theorem okXa_4 : (List.range' (13 * 4) 13).all (fun k => decide (k = 25 ∨ 275 ≤ k) || okX (jmeths.getD k jm0)) = true := by decide +kernel
theorem okXa_5 : (List.range' (13 * 5) 13).all (fun k => decide (k = 25 ∨ 275 ≤ k) || okX (jmeths.getD k jm0)) = true := by decide +kernel
theorem okXa_6 : (List.range' (13 * 6) 13).all (fun k => decide (k = 25 ∨ 275 ≤ k) || okX (jmeths.getD k jm0)) = true := by decide +kernel
theorem okXa_7 : (List.range' (13 * 7) 13).all (fun k => decide (k = 25 ∨ 275 ≤ k) || okX (jmeths.getD k jm0)) = true := by decide +kernel
theorem okXa_8 : (List.range' (13 * 8) 13).all (fun k => decide (k = 25 ∨ 275 ≤ k) || okX (jmeths.getD k jm0)) = true := by decide +kernel
theorem okXa_9 : (List.range' (13 * 9) 13).all (fun k => decide (k = 25 ∨ 275 ≤ k) || okX (jmeths.getD k jm0)) = true := by decide +kernel
theorem okXa_10 : (List.range' (13 * 10) 13).all (fun k => decide (k = 25 ∨ 275 ≤ k) || okX (jmeths.getD k jm0)) = true := by decide +kernel
theorem okXa_11 : (List.range' (13 * 11) 13).all (fun k => decide (k = 25 ∨ 275 ≤ k) || okX (jmeths.getD k jm0)) = true := by decide +kernel
theorem okXa_12 : (List.range' (13 * 12) 13).all (fun k => decide (k = 25 ∨ 275 ≤ k) || okX (jmeths.getD k jm0)) = true := by decide +kernel
theorem okXa_13 : (List.range' (13 * 13) 13).all (fun k => decide (k = 25 ∨ 275 ≤ k) || okX (jmeths.getD k jm0)) = true := by decide +kernel
theorem okXa_14 : (List.range' (13 * 14) 13).all (fun k => decide (k = 25 ∨ 275 ≤ k) || okX (jmeths.getD k jm0)) = true := by decide +kernel
theorem okXa_15 : (List.range' (13 * 15) 13).all (fun k => decide (k = 25 ∨ 275 ≤ k) || okX (jmeths.getD k jm0)) = true := by decide +kernel
theorem okXa_16 : (List.range' (13 * 16) 13).all (fun k => decide (k = 25 ∨ 275 ≤ k) || okX (jmeths.getD k jm0)) = true := by decide +kernel
theorem okXa_17 : (List.range' (13 * 17) 13).all (fun k => decide (k = 25 ∨ 275 ≤ k) || okX (jmeths.getD k jm0)) = true := by decide +kernel
theorem okXa_18 : (List.range' (13 * 18) 13).all (fun k => decide (k = 25 ∨ 275 ≤ k) || okX (jmeths.getD k jm0)) = true := by decide +kernel
theorem okXa_19 : (List.range' (13 * 19) 13).all (fun k => decide (k = 25 ∨ 275 ≤ k) || okX (jmeths.getD k jm0)) = true := by decide +kernel
theorem okXa_20 : (List.range' (13 * 20) 13).all (fun k => decide (k = 25 ∨ 275 ≤ k) || okX (jmeths.getD k jm0)) = true := by decide +kernel
theorem okXa_21 : (List.range' (13 * 21) 13).all (fun k => decide (k = 25 ∨ 275 ≤ k) || okX (jmeths.getD k jm0)) = true := by decide +kernel
theorem okXa_l : ∀ i ∈ [0, 1, 2, 3, 4, 5, 6, 7, 8, 9, 10, 11, 12, 13, 14, 15, 16, 17, 18, 19, 20, 21], (List.range' (13 * i) 13).all (fun k => decide (k = 25 ∨ 275 ≤ k) || okX (jmeths.getD k jm0)) = true := List.forall_mem_cons.mpr ⟨okXa_0, List.forall_mem_cons.mpr ⟨okXa_1, List.forall_mem_cons.mpr ⟨okXa_2, List.forall_mem_cons.mpr ⟨okXa_3, List.forall_mem_cons.mpr ⟨okXa_4, List.forall_mem_cons.mpr ⟨okXa_5, List.forall_mem_cons.mpr ⟨okXa_6, List.forall_mem_cons.mpr ⟨okXa_7, List.forall_mem_cons.mpr ⟨okXa_8, List.forall_mem_cons.mpr ⟨okXa_9, List.forall_mem_cons.mpr ⟨okXa_10, List.forall_mem_cons.mpr ⟨okXa_11, List.forall_mem_cons.mpr ⟨okXa_12, List.forall_mem_cons.mpr ⟨okXa_13, List.forall_mem_cons.mpr ⟨okXa_14, List.forall_mem_cons.mpr ⟨okXa_15, List.forall_mem_cons.mpr ⟨okXa_16, List.forall_mem_cons.mpr ⟨okXa_17, List.forall_mem_cons.mpr ⟨okXa_18, List.forall_mem_cons.mpr ⟨okXa_19, List.forall_mem_cons.mpr ⟨okXa_20, List.forall_mem_cons.mpr ⟨okXa_21, fun _ h => absurd h List.not_mem_nil⟩⟩⟩⟩⟩⟩⟩⟩⟩⟩⟩⟩⟩⟩⟩⟩⟩⟩⟩⟩⟩⟩
theorem okX_all {k : Nat} (h : k < 275) : (decide (k = 25 ∨ 275 ≤ k) || okX (jmeths.getD k jm0)) = true := by
  have hm : k / 13 ∈ [0, 1, 2, 3, 4, 5, 6, 7, 8, 9, 10, 11, 12, 13, 14, 15, 16, 17, 18, 19, 20, 21] := by
    rw [show [0, 1, 2, 3, 4, 5, 6, 7, 8, 9, 10, 11, 12, 13, 14, 15, 16, 17, 18, 19, 20, 21] = List.range 22 from rfl]
    exact List.mem_range.mpr (by omega)
  refine List.all_eq_true.mp (okXa_l _ hm) k ?_
  rw [List.mem_range']
  exact ⟨k % 13, Nat.mod_lt _ (by decide), by omega⟩
theorem jlk : ∀ {l : List (Nat × JI)} {pc : Nat} {x : JI}, l.lookup pc = some x → (pc, x) ∈ l := by
  intro l
  induction l with
  | nil => intro pc x h; cases h
  | cons q l ih =>
    intro pc x h
    obtain ⟨k, y⟩ := q
    rw [List.lookup_cons] at h
    split at h
    · rename_i hb
      cases h
      rw [beq_iff_eq] at hb
      rw [hb]
      exact List.mem_cons_self
    · exact List.mem_cons_of_mem _ (ih h)
theorem jfacts {mi pc : Nat} {x : JI} (hM : okM (jmeths.getD mi jm0) = true) (hX : okX (jmeths.getD mi jm0) = true) (hc : jcode mi pc = some x) :
    decode (jmb mi) pc = .ok (x.1, x.2.1) ∧ okL (jnm mi) (jht mi) (jrt mi) (pc, x) = true ∧ okX1 (jmeths.getD mi jm0) (pc, x) = true := by
  have hm := jlk hc
  unfold okM at hM
  unfold okX at hX
  rw [Bool.and_eq_true] at hM hX
  refine ⟨?_, List.all_eq_true.mp hM.2 _ hm, List.all_eq_true.mp hX.1 _ hm⟩
  have h := List.all_eq_true.mp hM.1 _ hm
  show decode (jmeths.getD mi jm0).2.1 pc = _
  dsimp only at h
  split at h
  · rename_i r hr
    rw [hr, of_decide_eq_true h]
  · cases h
