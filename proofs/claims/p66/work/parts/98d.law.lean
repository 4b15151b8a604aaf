/-! THE JDK's Arrays.equals AND fill FOR LONGS -/
theorem zw7153 : Cond.code jfillN prog_43_method_101_code 5 none ∈ jgood := jtw_mem (w := 7153) (by decide +kernel)
theorem zw7152 : Cond.static jfillN ∈ jgood := jtw_mem (w := 7152) (by decide +kernel)
def zfiC : Cond := .code jfillN prog_43_method_101_code 5 none
section Z98e
variable {l : Launch}
set_option maxHeartbeats 4000000 in
theorem z_mm {u a b cJ N : Nat} {f : Nat → Int64} : Met l zmm (zmmC :: jgood) (zR 3 86) (va_Pc [.ref a, .ref b, .int 60] (fun U => zW u a b cJ N f U U.heap)) (va_Qi (fun (r : Int32) (_ : Unit) => r = -1) (fun _ t => t.heap.size = N) zFa) 0 0 zFa := by
  refine Met.ofW (cc := prog_51_method_23_code) (maxL := 4) (ret := some .int) (ws' := jgood) (by decide +kernel) rfl fun p e s m args below meth c s₁ B hml hv => ?_
  obtain ⟨rfl, hW⟩ := hv
  have hts0 := atoms_spec (ws := zmmC :: jgood) B.pre
  have hts : ∀ w ∈ jgood, w.before _ s = true := fun w hw => hts0 w (List.mem_cons_of_mem _ hw)
  have hx := B.exec
  have hb := B.bytes
  have hown : s.vm.findClass zAS = some m.cls := findClass_of_methodNamed B.named
  have d0 : decode prog_51_method_23_code 0 = .ok (.iload_n 2, 1) := by decide +kernel
  have d1 : decode prog_51_method_23_code 1 = .ok (.ifCond .ne 5, 3) := by decide +kernel
  have d6 : decode prog_51_method_23_code 6 = .ok (.aload_n 0, 1) := by decide +kernel
  have d7 : decode prog_51_method_23_code 7 = .ok (.iconst 0, 1) := by decide +kernel
  have d8 : decode prog_51_method_23_code 8 = .ok (.laload, 1) := by decide +kernel
  have d9 : decode prog_51_method_23_code 9 = .ok (.aload_n 1, 1) := by decide +kernel
  have d10 : decode prog_51_method_23_code 10 = .ok (.iconst 0, 1) := by decide +kernel
  have d11 : decode prog_51_method_23_code 11 = .ok (.laload, 1) := by decide +kernel
  have d12 : decode prog_51_method_23_code 12 = .ok (.lcmp, 1) := by decide +kernel
  have d13 : decode prog_51_method_23_code 13 = .ok (.ifCond .eq 5, 3) := by decide +kernel
  have d18 : decode prog_51_method_23_code 18 = .ok (.aload_n 0, 1) := by decide +kernel
  have d19 : decode prog_51_method_23_code 19 = .ok (.getstatic 170, 3) := by decide +kernel
  have d22 : decode prog_51_method_23_code 22 = .ok (.i2l, 1) := by decide +kernel
  have d23 : decode prog_51_method_23_code 23 = .ok (.aload_n 1, 1) := by decide +kernel
  have d24 : decode prog_51_method_23_code 24 = .ok (.getstatic 170, 3) := by decide +kernel
  have d27 : decode prog_51_method_23_code 27 = .ok (.i2l, 1) := by decide +kernel
  have d28 : decode prog_51_method_23_code 28 = .ok (.iload_n 2, 1) := by decide +kernel
  have d29 : decode prog_51_method_23_code 29 = .ok (.getstatic 20, 3) := by decide +kernel
  have d32 : decode prog_51_method_23_code 32 = .ok (.invokestatic 122, 3) := by decide +kernel
  have d35 : decode prog_51_method_23_code 35 = .ok (.istore_n 3, 1) := by decide +kernel
  have d36 : decode prog_51_method_23_code 36 = .ok (.iload_n 3, 1) := by decide +kernel
  have d37 : decode prog_51_method_23_code 37 = .ok (.ifCond .lt 7, 3) := by decide +kernel
  have d44 : decode prog_51_method_23_code 44 = .ok (.iconst (-1), 1) := by decide +kernel
  have d45 : decode prog_51_method_23_code 45 = .ok (.ireturn, 1) := by decide +kernel
  rw [lg_entry_eq]
  have hl := lv_entry [.ref a, .ref b, .int 60] (n := 4) (by show 3 ≤ 4; decide)
  generalize (lg_sl [Value.ref a, .ref b, .int 60] ++ List.replicate (4 - (lg_sl [Value.ref a, .ref b, .int 60]).length) Slot.unset).toArray = ls at hl ⊢
  have hl : lv_has ls 4 [(0, .ref a), (1, .ref b), (2, .int 60)] := hl
  obtain ⟨⟨⟨y1, y2, y3⟩, y4, -⟩, hA, hB, hJ, hN⟩ := id hW
  have hS0 : va_S zFa s.heap s.heap [] := va_S.rf
  have hin : ¬ ((0 : Int32) < 0 ∨ (arrV cJ 60 (fun j => Value.long (f j))).slots.size ≤ (0 : Int32).toNatClampNeg) := by
    rw [arrV_size]
    decide
  have hrd : (arrV cJ 60 (fun j => Value.long (f j))).slots[(0 : Int32).toNatClampNeg]? = some (.long (f 0)) := by
    rw [show (0 : Int32).toNatClampNeg = 0 by decide]
    exact arrV_read _ _ (by decide)
  refine lv_iload_n hx hb d0 rfl (lv_at hl 2 rfl) ?_
  refine lv_if_ne (tgt := 6) hx hb d1 (by decide) (fun _ => ?_) (fun h => absurd h (by decide))
  refine lv_aload_n hx hb d6 rfl (lv_at hl 0 rfl) ?_
  refine lv_iconst (v := 0) hx hb d7 (by decide) ?_
  refine W.lald (v := .long (f 0)) hx hb hA (hJ 60 _) (fun q => by cases q) hin hrd rfl rfl d8 ?_
  show W _ _ _ _ _ _ _ _ _ _ _ _ _ _ _ (F0 m 9 ls [.long (f 0)])
  refine lv_aload_n hx hb d9 rfl (lv_at hl 1 rfl) ?_
  refine lv_iconst (v := 0) hx hb d10 (by decide) ?_
  refine W.lald (v := .long (f 0)) hx hb hB (hJ 60 _) (fun q => by cases q) hin hrd rfl rfl d11 ?_
  show W _ _ _ _ _ _ _ _ _ _ _ _ _ _ _ (F0 m 12 ls [.long (f 0), .long (f 0)])
  refine W.lcmp hx hb d12 ?_
  rw [lg_cmp_s]
  refine lv_if_eq (tgt := 18) hx hb d13 (by decide) (fun _ => ?_) (fun h => absurd rfl h)
  refine lv_aload_n hx hb d18 rfl (lv_at hl 0 rfl) ?_
  refine va_gets hx hb y1 hS0 hown (hts _ zw7211) (fun x h => h) d19 ?_
  refine lv_i2l (v := 16) hx hb d22 (by decide) ?_
  refine lv_aload_n hx hb d23 rfl (lv_at hl 1 rfl) ?_
  refine va_gets hx hb y1 hS0 hown (hts _ zw7211) (fun x h => h) d24 ?_
  refine lv_i2l (v := 16) hx hb d27 (by decide) ?_
  refine lv_iload_n hx hb d28 rfl (lv_at hl 2 rfl) ?_
  refine va_gets hx hb y2 hS0 hown (hts _ zw7213) (fun x h => h) d29 ?_
  have hr := va_runS (R := (headSpec (zmmC :: jgood) (zR 3 86)).room) (e := e) (below := below) (meth := meth) (g := F0 m 32 ls [.int 3, .int 60, .long 16, .ref b, .long 16, .ref a]) (rest := []) (As := [.ref a, .long 16, .ref b, .long 16, .int 60, .int 3]) (locs := []) (cells := 0) (slots := 0) ⟨hx, hb, hml, hown, hts⟩ (z_vm (l := l) (u := u) (a := a) (b := b) (cJ := cJ) (N := N) (f := f))
    ⟨callB_of (mc := 0) (ms := 0) 6 hts (z_good zw7217) rfl rfl rfl (hts _ zw1018) (hts _ zw7215) (by decide +kernel) ⟨by show 2 + 1 ≤ 3; decide, by show 8 + (19 + 11) + 48 ≤ 86; decide⟩, hts _ zw7216⟩
    ⟨zW.blind, fun U hU hWm => ⟨rfl, by have hU : U.heap = s.heap := hU; show zW u a b cJ N f U U.heap; rw [hU]; exact hW.mv hWm.alike⟩⟩ rfl rfl hl.1 rfl (by show 2 * 0 + 0 ≤ 8; decide) d32 ⟨Nat.zero_le _, Nat.zero_le _⟩
  refine va_calli hr hS0 (fun _ _ h => h) (fun _ h => h) fun r _ t H1 locs1 ht hal hp hBt hz hq hS1 => ?_
  subst hp
  refine lv_istore_n hx hb d35 rfl hl (by decide) rfl fun ls2 hl2 => ?_
  have hl2 : lv_has ls2 4 [(3, .int (-1)), (0, .ref a), (1, .ref b), (2, .int 60)] := hl2
  refine lv_iload_n hx hb d36 rfl (lv_at hl2 0 rfl) ?_
  refine lv_if_lt (tgt := 44) hx hb d37 (by decide) (fun _ => ?_) (fun h => absurd (by decide) h)
  refine lv_iconst (v := -1) hx hb d44 (by decide) ?_
  exact W.iret hx hb B.returns (fun t2 ht2 _ => ⟨⟨_, (), rfl, rfl, by show t2.heap.size = N; rw [ht2, ← ht]; exact hBt⟩, hS1.F ht2⟩) hS1.2.2 d45
set_option maxHeartbeats 4000000 in
theorem z_eq {u a b cJ N : Nat} {f : Nat → Int64} (hne : a ≠ b) : Met l jequalN (zeqC :: jgood) (zR 4 109) (va_Pc [.ref a, .ref b] (fun U => zW u a b cJ N f U U.heap)) (va_Qi (fun (r : Int32) (_ : Unit) => r = 1) (fun _ t => t.heap.size = N) zFa) 0 0 zFa := by
  refine Met.ofW (cc := prog_43_method_81_code) (maxL := 3) (ret := some .boolean) (ws' := jgood) (by decide +kernel) rfl fun p e s m args below meth c s₁ B hml hv => ?_
  obtain ⟨rfl, hW⟩ := hv
  have hts0 := atoms_spec (ws := zeqC :: jgood) B.pre
  have hts : ∀ w ∈ jgood, w.before _ s = true := fun w hw => hts0 w (List.mem_cons_of_mem _ hw)
  have hx := B.exec
  have hb := B.bytes
  have hown : s.vm.findClass "java/util/Arrays" = some m.cls := findClass_of_methodNamed B.named
  have d0 : decode prog_43_method_81_code 0 = .ok (.aload_n 0, 1) := by decide +kernel
  have d1 : decode prog_43_method_81_code 1 = .ok (.aload_n 1, 1) := by decide +kernel
  have d2 : decode prog_43_method_81_code 2 = .ok (.if_acmp .ne 5, 3) := by decide +kernel
  have d7 : decode prog_43_method_81_code 7 = .ok (.aload_n 0, 1) := by decide +kernel
  have d8 : decode prog_43_method_81_code 8 = .ok (.ifnull 7, 3) := by decide +kernel
  have d11 : decode prog_43_method_81_code 11 = .ok (.aload_n 1, 1) := by decide +kernel
  have d12 : decode prog_43_method_81_code 12 = .ok (.ifnonnull 5, 3) := by decide +kernel
  have d17 : decode prog_43_method_81_code 17 = .ok (.aload_n 0, 1) := by decide +kernel
  have d18 : decode prog_43_method_81_code 18 = .ok (.arraylength, 1) := by decide +kernel
  have d19 : decode prog_43_method_81_code 19 = .ok (.istore_n 2, 1) := by decide +kernel
  have d20 : decode prog_43_method_81_code 20 = .ok (.aload_n 1, 1) := by decide +kernel
  have d21 : decode prog_43_method_81_code 21 = .ok (.arraylength, 1) := by decide +kernel
  have d22 : decode prog_43_method_81_code 22 = .ok (.iload_n 2, 1) := by decide +kernel
  have d23 : decode prog_43_method_81_code 23 = .ok (.if_icmp .eq 5, 3) := by decide +kernel
  have d28 : decode prog_43_method_81_code 28 = .ok (.aload_n 0, 1) := by decide +kernel
  have d29 : decode prog_43_method_81_code 29 = .ok (.aload_n 1, 1) := by decide +kernel
  have d30 : decode prog_43_method_81_code 30 = .ok (.iload_n 2, 1) := by decide +kernel
  have d31 : decode prog_43_method_81_code 31 = .ok (.invokestatic 245, 3) := by decide +kernel
  have d34 : decode prog_43_method_81_code 34 = .ok (.ifCond .ge 7, 3) := by decide +kernel
  have d37 : decode prog_43_method_81_code 37 = .ok (.iconst 1, 1) := by decide +kernel
  have d38 : decode prog_43_method_81_code 38 = .ok (.goto 4, 3) := by decide +kernel
  have d42 : decode prog_43_method_81_code 42 = .ok (.ireturn, 1) := by decide +kernel
  rw [lg_entry_eq]
  have hl := lv_entry [.ref a, .ref b] (n := 3) (by show 2 ≤ 3; decide)
  generalize (lg_sl [Value.ref a, .ref b] ++ List.replicate (3 - (lg_sl [Value.ref a, .ref b]).length) Slot.unset).toArray = ls at hl ⊢
  have hl : lv_has ls 3 [(0, .ref a), (1, .ref b)] := hl
  obtain ⟨-, hA, hB, hJ, hN⟩ := id hW
  have hS0 : va_S zFa s.heap s.heap [] := va_S.rf
  refine lv_aload_n hx hb d0 rfl (lv_at hl 0 rfl) ?_
  refine lv_aload_n hx hb d1 rfl (lv_at hl 1 rfl) ?_
  refine lv_acmp_ne (rx := some a) (ry := some b) (tgt := 7) hx hb d2 (by decide) (fun _ => ?_) (fun h => absurd (Option.some.inj h) hne)
  refine lv_aload_n hx hb d7 rfl (lv_at hl 0 rfl) ?_
  refine lv_ifnull hx hb d8 ?_
  refine lv_aload_n hx hb d11 rfl (lv_at hl 1 rfl) ?_
  refine lv_ifnonnull (tgt := 17) hx hb d12 (by decide) ?_
  refine lv_aload_n hx hb d17 rfl (lv_at hl 0 rfl) ?_
  refine W.alen (n := 60) hx hb hA (hJ 60 _) (by rw [arrV_size]; rfl) rfl rfl d18 ?_
  show W _ _ _ _ _ _ _ _ _ _ _ _ _ _ _ (F0 m 19 ls [.int 60])
  refine lv_istore_n hx hb d19 rfl hl (by decide) rfl fun ls2 hl2 => ?_
  have hl2 : lv_has ls2 3 [(2, .int 60), (0, .ref a), (1, .ref b)] := hl2
  refine lv_aload_n hx hb d20 rfl (lv_at hl2 2 rfl) ?_
  refine W.alen (n := 60) hx hb hB (hJ 60 _) (by rw [arrV_size]; rfl) rfl rfl d21 ?_
  show W _ _ _ _ _ _ _ _ _ _ _ _ _ _ _ (F0 m 22 ls2 [.int 60])
  refine lv_iload_n hx hb d22 rfl (lv_at hl2 0 rfl) ?_
  refine lv_icmp_eq (tgt := 28) hx hb d23 (by decide) (fun _ => ?_) (fun h => absurd rfl h)
  refine lv_aload_n hx hb d28 rfl (lv_at hl2 1 rfl) ?_
  refine lv_aload_n hx hb d29 rfl (lv_at hl2 2 rfl) ?_
  refine lv_iload_n hx hb d30 rfl (lv_at hl2 0 rfl) ?_
  have hr := va_runS (R := (headSpec (zeqC :: jgood) (zR 4 109)).room) (e := e) (below := below) (meth := meth) (g := F0 m 31 ls2 [.int 60, .ref b, .ref a]) (rest := []) (As := [.ref a, .ref b, .int 60]) (locs := []) (cells := 0) (slots := 0) ⟨hx, hb, hml, hown, hts⟩ (z_mm (l := l) (u := u) (a := a) (b := b) (cJ := cJ) (N := N) (f := f))
    ⟨callB_of (mc := 0) (ms := 0) 3 hts (z_good zw7210) rfl rfl rfl (hts _ zw1018) (hts _ zw7208) (by decide +kernel) ⟨by show 3 + 1 ≤ 4; decide, by show 8 + (4 + 11) + 86 ≤ 109; decide⟩, hts _ zw7209⟩
    ⟨zW.blind, fun U hU hWm => ⟨rfl, by have hU : U.heap = s.heap := hU; show zW u a b cJ N f U U.heap; rw [hU]; exact hW.mv hWm.alike⟩⟩ rfl rfl hl2.1 rfl (by show 2 * 0 + 0 ≤ 8; decide) d31 ⟨Nat.zero_le _, Nat.zero_le _⟩
  refine va_calli hr hS0 (fun _ _ h => h) (fun _ h => h) fun r _ t H1 locs1 ht hal hp hBt hz hq hS1 => ?_
  subst hp
  refine lv_if_ge (tgt := 41) hx hb d34 (by decide) (fun h => absurd h (by decide)) (fun _ => ?_)
  refine lv_iconst (v := 1) hx hb d37 (by decide) ?_
  refine lv_goto (tgt := 42) hx hb d38 (by decide) ?_
  exact W.zret hx hb B.returns (by decide +kernel) (fun t2 ht2 _ => ⟨⟨_, (), rfl, rfl, by show t2.heap.size = N; rw [ht2, ← ht]; exact hBt⟩, hS1.F ht2⟩) hS1.2.2 d42
/-- fill: every element becomes v -/
def zV (V : Nat → Value) (v : Int64) (i j : Nat) : Value := if j < i then .long v else V j
set_option maxHeartbeats 4000000 in
theorem z_fill {a cJ n N : Nat} {V : Nat → Value} {v : Int64} (hn : n < 60000000) : Met l jfillN (zfiC :: jgood) (zR 1 25) (va_Pc [.ref a, .long v] (fun U => U.heap[a]? = some (arrV cJ n V) ∧ ArrOfT U cJ .long ∧ U.heap.size = N)) (va_Qv (fun (_ : Unit) => True) (fun _ t => t.heap[a]? = some (arrV cJ n (fun _ => .long v)) ∧ t.heap.size = N) (fun q => q = a)) 0 0 (fun q => q = a) := by
  refine Met.ofW (cc := prog_43_method_101_code) (maxL := 5) (ret := none) (ws' := jgood) (by decide +kernel) rfl fun p e s m args below meth c s₁ B hml hv => ?_
  obtain ⟨rfl, hA, hJ, hN⟩ := hv
  have hx := B.exec
  have hb := B.bytes
  have d0 : decode prog_43_method_101_code 0 = .ok (.iconst 0, 1) := by decide +kernel
  have d1 : decode prog_43_method_101_code 1 = .ok (.istore_n 3, 1) := by decide +kernel
  have d2 : decode prog_43_method_101_code 2 = .ok (.aload_n 0, 1) := by decide +kernel
  have d3 : decode prog_43_method_101_code 3 = .ok (.arraylength, 1) := by decide +kernel
  have d4 : decode prog_43_method_101_code 4 = .ok (.istore 4, 2) := by decide +kernel
  have d6 : decode prog_43_method_101_code 6 = .ok (.iload_n 3, 1) := by decide +kernel
  have d7 : decode prog_43_method_101_code 7 = .ok (.iload 4, 2) := by decide +kernel
  have d9 : decode prog_43_method_101_code 9 = .ok (.if_icmp .ge 13, 3) := by decide +kernel
  have d12 : decode prog_43_method_101_code 12 = .ok (.aload_n 0, 1) := by decide +kernel
  have d13 : decode prog_43_method_101_code 13 = .ok (.iload_n 3, 1) := by decide +kernel
  have d14 : decode prog_43_method_101_code 14 = .ok (.lload_n 1, 1) := by decide +kernel
  have d15 : decode prog_43_method_101_code 15 = .ok (.lastore, 1) := by decide +kernel
  have d16 : decode prog_43_method_101_code 16 = .ok (.iinc 3 1, 3) := by decide +kernel
  have d19 : decode prog_43_method_101_code 19 = .ok (.goto (-13), 3) := by decide +kernel
  have d22 : decode prog_43_method_101_code 22 = .ok (.return_, 1) := by decide +kernel
  rw [lg_entry_eq]
  have hl := lv_entry [.ref a, .long v] (n := 5) (by show 3 ≤ 5; decide)
  generalize (lg_sl [Value.ref a, .long v] ++ List.replicate (5 - (lg_sl [Value.ref a, .long v]).length) Slot.unset).toArray = ls at hl ⊢
  have hl : lv_has ls 5 [(0, .ref a), (1, .long v)] := hl
  have hS0 : va_S (fun q => q = a) s.heap s.heap [] := va_S.rf
  refine lv_iconst (v := Int32.ofNat 0) hx hb d0 (by decide) ?_
  refine lv_istore_n hx hb d1 rfl hl (by decide) rfl fun ls2 hl2 => ?_
  have hl2 : lv_has ls2 5 [(3, .int (Int32.ofNat 0)), (0, .ref a), (1, .long v)] := hl2
  refine lv_aload_n hx hb d2 rfl (lv_at hl2 1 rfl) ?_
  refine W.alen (n := Int32.ofNat n) hx hb hA (hJ n _) (by rw [arrV_size]) rfl rfl d3 ?_
  show W _ _ _ _ _ _ _ _ _ _ _ _ _ _ _ (F0 m 4 ls2 [.int (Int32.ofNat n)])
  refine lv_istore hx hb d4 hl2 (by decide) rfl fun ls3 hl3 => ?_
  have hl3 : lv_has ls3 5 [(4, .int (Int32.ofNat n)), (3, .int (Int32.ofNat 0)), (0, .ref a), (1, .long v)] := hl3
  have ofn : ∀ k : Nat, k < 2147483648 → (Int32.ofNat k).toInt = (k : Int) := fun k hk => by
    rw [Int32.toInt_ofNat_of_lt hk]
  have loop : ∀ (k i : Nat) (ls4 : Array Slot) (H : Heap) (locs : List Loc), i + k = n → lv_has ls4 5 [(3, .int (Int32.ofNat i)), (4, .int (Int32.ofNat n)), (0, .ref a), (1, .long v)] → H[a]? = some (arrV cJ n (zV V v i)) → H.size = N → va_S (fun q => q = a) s.heap H locs → W p l e (headSpec (zfiC :: jgood) (zR 1 25)).room s m #[Value.ref a, .long v] below meth c H locs 0 0 (MQ below (va_Qv (fun (_ : Unit) => True) (fun _ t => t.heap[a]? = some (arrV cJ n (fun _ => .long v)) ∧ t.heap.size = N) (fun q => q = a)) #[Value.ref a, .long v] s 0 0 (fun q => q = a)) (F0 m 6 ls4 []) := by
    intro k
    induction k with
    | zero =>
      intro i ls4 H locs hi hl4 hH hHN hS
      have hi : i = n := by omega
      subst hi
      refine lv_iload_n hx hb d6 rfl (lv_at hl4 0 rfl) ?_
      refine lv_iload hx hb d7 (lv_at hl4 1 rfl) ?_
      refine lv_icmp_ge (tgt := 22) hx hb d9 (by decide) (fun _ => ?_) (fun h => absurd (Int32.le_refl _) h)
      have hfin : arrV cJ i (zV V v i) = arrV cJ i (fun _ => .long v) := by
        have e : (fun j : Fin i => zV V v i j.1) = fun _ : Fin i => Value.long v := funext fun j => if_pos j.2
        unfold arrV
        rw [e]
      exact W.vret hx hb B.returns (fun t ht _ => ⟨⟨(), rfl, trivial, by rw [ht, hH, hfin], by rw [ht]; exact hHN⟩, hS.F ht⟩) hS.2.2 d22
    | succ k ih =>
      intro i ls4 H locs hi hl4 hH hHN hS
      have hin : i < n := by omega
      have hnn : ¬ Int32.ofNat n ≤ Int32.ofNat i := by
        rw [Int32.le_iff_toInt_le, ofn n (by omega), ofn i (by omega)]
        omega
      have hcl : (Int32.ofNat i).toNatClampNeg = i := by
        show (Int32.ofNat i).toInt.toNat = i
        rw [ofn i (by omega), Int.toNat_natCast]
      have hng : ¬ Int32.ofNat i < 0 := by
        rw [Int32.lt_iff_toInt_lt, ofn i (by omega)]
        show ¬ (i : Int) < 0
        omega
      refine lv_iload_n hx hb d6 rfl (lv_at hl4 0 rfl) ?_
      refine lv_iload hx hb d7 (lv_at hl4 1 rfl) ?_
      refine lv_icmp_ge (tgt := 22) hx hb d9 (by decide) (fun h => absurd h hnn) (fun _ => ?_)
      refine lv_aload_n hx hb d12 rfl (lv_at hl4 2 rfl) ?_
      refine lv_iload_n hx hb d13 rfl (lv_at hl4 0 rfl) ?_
      refine lv_lload_n hx hb d14 rfl (lv_at hl4 3 rfl) ?_
      refine W.last hx hb hH (hJ n _) (fun q => by cases q) (by rw [arrV_size, hcl]; exact fun h => h.elim hng (by omega)) rfl rfl d15 fun H1 e1 z1 oq => ?_
      show W _ _ _ _ _ _ _ _ _ _ _ _ _ _ _ (F0 m 16 ls4 [])
      refine lv_iinc (k := 0) (v := Int32.ofNat (i + 1)) hx hb d16 hl4 rfl ?_ (by decide) rfl fun ls5 hl5 => ?_
      · apply Int32.toInt_inj.mp
        rw [Int32.toInt_add, ofn i (by omega), ofn (i + 1) (by omega)]
        rw [show (Int32.ofInt 1).toInt = 1 by decide, Int.bmod_eq_of_le (by omega) (by omega)]
        omega
      · refine lv_goto (tgt := 6) hx hb d19 (by decide) ?_
        refine ih (i + 1) ls5 H1 _ (by omega) hl5 ?_ (z1.trans hHN) (hS.put z1 oq rfl)
        rw [e1, hcl, arrV_store]
        have e : (fun j : Fin n => updV (zV V v i) i (.long v) j.1) = fun j : Fin n => zV V v (i + 1) j.1 := by
          funext j
          unfold updV zV
          by_cases q : j.1 = i
          · rw [if_pos q, if_pos (by omega)]
          · rw [if_neg q]
            by_cases q2 : j.1 < i
            · rw [if_pos q2, if_pos (by omega)]
            · rw [if_neg q2, if_neg (by omega)]
        unfold arrV
        rw [e]
  refine loop n 0 ls3 s.heap [] (by omega) (lv_sub hl3 [1, 0, 2, 3] rfl) ?_ hN hS0
  rw [hA]
  have e : zV V v 0 = V := funext fun j => if_neg (by omega)
  rw [e]
end Z98e
