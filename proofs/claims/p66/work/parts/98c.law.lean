/-! THE JDK's Arrays.equals FOR LONGS: vectorizedMismatch, mismatch, equals -/
theorem zW.sw {u a b cJ N : Nat} {f : Nat → Int64} {U : State} {H : Heap} (h : zW u a b cJ N f U H) : zW u b a cJ N f U H := ⟨h.1, h.2.2.1, h.2.1, h.2.2.2⟩
theorem lg_cmp_s (x : Int64) : lg_cmp x x = 0 := by
  unfold lg_cmp
  rw [if_neg Int64.lt_irrefl, if_pos rfl]
section Z98d
variable {l : Launch}
set_option maxHeartbeats 4000000 in
theorem z_vm {u a b cJ N : Nat} {f : Nat → Int64} : Met l zvm (zvmC :: jgood) (zR 2 48) (va_Pc [.ref a, .long 16, .ref b, .long 16, .int 60, .int 3] (fun U => zW u a b cJ N f U U.heap)) (va_Qi (fun (r : Int32) (_ : Unit) => r = -1) (fun _ t => t.heap.size = N) zFa) 0 0 zFa := by
  refine Met.ofW (cc := prog_51_method_3_code) (maxL := 19) (ret := some .int) (ws' := jgood) (by decide +kernel) rfl fun p e s m args below meth c s₁ B hml hv => ?_
  obtain ⟨rfl, hW0⟩ := hv
  have hts0 := atoms_spec (ws := zvmC :: jgood) B.pre
  have hts : ∀ w ∈ jgood, w.before _ s = true := fun w hw => hts0 w (List.mem_cons_of_mem _ hw)
  have hx := B.exec
  have hb := B.bytes
  have hown : s.vm.findClass zAS = some m.cls := findClass_of_methodNamed B.named
  have d0 : decode prog_51_method_3_code 0 = .ok (.getstatic 20, 3) := by decide +kernel
  have d3 : decode prog_51_method_3_code 3 = .ok (.iload 7, 2) := by decide +kernel
  have d5 : decode prog_51_method_3_code 5 = .ok (.isub, 1) := by decide +kernel
  have d6 : decode prog_51_method_3_code 6 = .ok (.istore 8, 2) := by decide +kernel
  have d8 : decode prog_51_method_3_code 8 = .ok (.iconst 0, 1) := by decide +kernel
  have d9 : decode prog_51_method_3_code 9 = .ok (.istore 9, 2) := by decide +kernel
  have d11 : decode prog_51_method_3_code 11 = .ok (.iload 9, 2) := by decide +kernel
  have d13 : decode prog_51_method_3_code 13 = .ok (.iload 6, 2) := by decide +kernel
  have d15 : decode prog_51_method_3_code 15 = .ok (.iload 8, 2) := by decide +kernel
  have d17 : decode prog_51_method_3_code 17 = .ok (.ishr, 1) := by decide +kernel
  have d18 : decode prog_51_method_3_code 18 = .ok (.if_icmp .ge 104, 3) := by decide +kernel
  have d21 : decode prog_51_method_3_code 21 = .ok (.iload 9, 2) := by decide +kernel
  have d23 : decode prog_51_method_3_code 23 = .ok (.i2l, 1) := by decide +kernel
  have d24 : decode prog_51_method_3_code 24 = .ok (.getstatic 20, 3) := by decide +kernel
  have d27 : decode prog_51_method_3_code 27 = .ok (.lshl, 1) := by decide +kernel
  have d28 : decode prog_51_method_3_code 28 = .ok (.lstore 10, 2) := by decide +kernel
  have d30 : decode prog_51_method_3_code 30 = .ok (.getstatic 26, 3) := by decide +kernel
  have d33 : decode prog_51_method_3_code 33 = .ok (.aload_n 0, 1) := by decide +kernel
  have d34 : decode prog_51_method_3_code 34 = .ok (.lload_n 1, 1) := by decide +kernel
  have d35 : decode prog_51_method_3_code 35 = .ok (.lload 10, 2) := by decide +kernel
  have d37 : decode prog_51_method_3_code 37 = .ok (.ladd, 1) := by decide +kernel
  have d38 : decode prog_51_method_3_code 38 = .ok (.invokevirtual 30, 3) := by decide +kernel
  have d41 : decode prog_51_method_3_code 41 = .ok (.lstore 12, 2) := by decide +kernel
  have d43 : decode prog_51_method_3_code 43 = .ok (.getstatic 26, 3) := by decide +kernel
  have d46 : decode prog_51_method_3_code 46 = .ok (.aload_n 3, 1) := by decide +kernel
  have d47 : decode prog_51_method_3_code 47 = .ok (.lload 4, 2) := by decide +kernel
  have d49 : decode prog_51_method_3_code 49 = .ok (.lload 10, 2) := by decide +kernel
  have d51 : decode prog_51_method_3_code 51 = .ok (.ladd, 1) := by decide +kernel
  have d52 : decode prog_51_method_3_code 52 = .ok (.invokevirtual 30, 3) := by decide +kernel
  have d55 : decode prog_51_method_3_code 55 = .ok (.lstore 14, 2) := by decide +kernel
  have d57 : decode prog_51_method_3_code 57 = .ok (.lload 12, 2) := by decide +kernel
  have d59 : decode prog_51_method_3_code 59 = .ok (.lload 14, 2) := by decide +kernel
  have d61 : decode prog_51_method_3_code 61 = .ok (.lcmp, 1) := by decide +kernel
  have d62 : decode prog_51_method_3_code 62 = .ok (.ifCond .eq 54, 3) := by decide +kernel
  have d116 : decode prog_51_method_3_code 116 = .ok (.iinc 9 1, 3) := by decide +kernel
  have d119 : decode prog_51_method_3_code 119 = .ok (.goto (-108), 3) := by decide +kernel
  have d122 : decode prog_51_method_3_code 122 = .ok (.iload 6, 2) := by decide +kernel
  have d124 : decode prog_51_method_3_code 124 = .ok (.iload 9, 2) := by decide +kernel
  have d126 : decode prog_51_method_3_code 126 = .ok (.iload 8, 2) := by decide +kernel
  have d128 : decode prog_51_method_3_code 128 = .ok (.ishl, 1) := by decide +kernel
  have d129 : decode prog_51_method_3_code 129 = .ok (.isub, 1) := by decide +kernel
  have d130 : decode prog_51_method_3_code 130 = .ok (.istore 10, 2) := by decide +kernel
  have d132 : decode prog_51_method_3_code 132 = .ok (.iload 7, 2) := by decide +kernel
  have d134 : decode prog_51_method_3_code 134 = .ok (.getstatic 51, 3) := by decide +kernel
  have d137 : decode prog_51_method_3_code 137 = .ok (.if_icmp .ge 126, 3) := by decide +kernel
  have d263 : decode prog_51_method_3_code 263 = .ok (.iload 10, 2) := by decide +kernel
  have d265 : decode prog_51_method_3_code 265 = .ok (.iconst (-1), 1) := by decide +kernel
  have d266 : decode prog_51_method_3_code 266 = .ok (.ixor, 1) := by decide +kernel
  have d267 : decode prog_51_method_3_code 267 = .ok (.ireturn, 1) := by decide +kernel
  rw [lg_entry_eq]
  have hl := lv_entry [.ref a, .long 16, .ref b, .long 16, .int 60, .int 3] (n := 19) (by show 8 ≤ 19; decide)
  generalize (lg_sl [Value.ref a, .long 16, .ref b, .long 16, .int 60, .int 3] ++ List.replicate (19 - (lg_sl [Value.ref a, .long 16, .ref b, .long 16, .int 60, .int 3]).length) Slot.unset).toArray = ls at hl ⊢
  have hl : lv_has ls 19 [(0, .ref a), (1, .long 16), (3, .ref b), (4, .long 16), (6, .int 60), (7, .int 3)] := hl
  obtain ⟨⟨⟨-, y2, y3⟩, y4, -⟩, -⟩ := id hW0
  have hS0 : va_S zFa s.heap s.heap [] := va_S.rf
  refine va_gets hx hb y2 hS0 hown (hts _ zw7213) (fun x h => h) d0 ?_
  refine lv_iload hx hb d3 (lv_at hl 5 rfl) ?_
  refine lv_isub hx hb d5 ?_
  refine lv_istore hx hb d6 hl (by decide) rfl fun ls2 hl2 => ?_
  refine lv_iconst hx hb d8 rfl ?_
  refine lv_istore hx hb d9 hl2 (by decide) rfl fun ls3 hl3 => ?_
  have hl3 : lv_has ls3 19 [(9, .int 0), (8, .int 0), (0, .ref a), (1, .long 16), (3, .ref b), (4, .long 16), (6, .int 60), (7, .int 3)] := hl3
  -- the loop
  have loop : ∀ (n i : Nat) (ls4 : Array Slot) (H : Heap) (locs : List Loc), i + n = 60 → lv_has ls4 19 [(9, .int (Int32.ofNat i)), (8, .int 0), (0, .ref a), (1, .long 16), (3, .ref b), (4, .long 16), (6, .int 60), (7, .int 3)] → zW u a b cJ N f s H → va_S zFa s.heap H locs → W p l e (headSpec (zvmC :: jgood) (zR 2 48)).room s m #[Value.ref a, .long 16, .ref b, .long 16, .int 60, .int 3] below meth c H locs 0 0 (MQ below (va_Qi (fun (r : Int32) (_ : Unit) => r = -1) (fun _ t => t.heap.size = N) zFa) #[Value.ref a, .long 16, .ref b, .long 16, .int 60, .int 3] s 0 0 zFa) (F0 m 11 ls4 []) := by
    intro n
    induction n with
    | zero =>
      intro i ls4 H locs hi hl4 hW hS
      have hi : i = 60 := by omega
      subst hi
      refine lv_iload hx hb d11 (lv_at hl4 0 rfl) ?_
      refine lv_iload hx hb d13 (lv_at hl4 6 rfl) ?_
      refine lv_iload hx hb d15 (lv_at hl4 1 rfl) ?_
      refine lv_ishr hx hb d17 ?_
      refine lv_icmp_ge (tgt := 122) hx hb d18 (by decide) (fun _ => ?_) (fun h => absurd (show (60 : Int32) >>> ((0 : Int32) &&& 31) ≤ Int32.ofNat 60 by decide) h)
      refine lv_iload hx hb d122 (lv_at hl4 6 rfl) ?_
      refine lv_iload hx hb d124 (lv_at hl4 0 rfl) ?_
      refine lv_iload hx hb d126 (lv_at hl4 1 rfl) ?_
      refine lv_ishl hx hb d128 ?_
      refine lv_isub hx hb d129 ?_
      refine lv_istore hx hb d130 hl4 (by decide) rfl fun ls5 hl5 => ?_
      have hl5 : lv_has ls5 19 [(10, .int ((60 : Int32) - (Int32.ofNat 60 <<< ((0 : Int32) &&& 31)))), (9, .int (Int32.ofNat 60)), (8, .int 0), (0, .ref a), (1, .long 16), (3, .ref b), (4, .long 16), (6, .int 60), (7, .int 3)] := hl5
      refine lv_iload hx hb d132 (lv_at hl5 8 rfl) ?_
      refine va_gets hx hb y3 hS hown (hts _ zw8049) (fun x h => h) d134 ?_
      refine lv_icmp_ge (tgt := 263) hx hb d137 (by decide) (fun _ => ?_) (fun h => absurd (by decide) h)
      refine lv_iload hx hb d263 (lv_at hl5 0 rfl) ?_
      refine lv_iconst hx hb d265 rfl ?_
      refine lv_ixor hx hb d266 ?_
      exact W.iret hx hb B.returns (fun t ht _ => ⟨⟨_, (), rfl, by decide, by show t.heap.size = N; rw [ht]; exact hW.2.2.2.2⟩, hS.F ht⟩) hS.2.2 d267
    | succ n ih =>
      intro i ls4 H locs hi hl4 hW hS
      have hi60 : i < 60 := by omega
      have c1 : ∀ j : Fin 60, ¬ ((60 : Int32) >>> ((0 : Int32) &&& 31) ≤ Int32.ofNat j) ∧ Int32.ofNat j + Int32.ofInt 1 = Int32.ofNat (j + 1) := by decide +kernel
      obtain ⟨c2, c3⟩ := c1 ⟨i, hi60⟩
      refine lv_iload hx hb d11 (lv_at hl4 0 rfl) ?_
      refine lv_iload hx hb d13 (lv_at hl4 6 rfl) ?_
      refine lv_iload hx hb d15 (lv_at hl4 1 rfl) ?_
      refine lv_ishr hx hb d17 ?_
      refine lv_icmp_ge (tgt := 122) hx hb d18 (by decide) (fun h => absurd h c2) (fun _ => ?_)
      refine lv_iload hx hb d21 (lv_at hl4 0 rfl) ?_
      refine lv_i2l hx hb d23 rfl ?_
      refine va_gets hx hb y2 hS hown (hts _ zw7213) (fun x h => h) d24 ?_
      refine lv_lshl hx hb d27 rfl ?_
      refine lv_lstore hx hb d28 hl4 (by decide) rfl fun ls5 hl5 => ?_
      have hl5 : lv_has ls5 19 [(10, .long ((Int32.ofNat i).toInt64 <<< ((3 : Int32).toInt64 &&& 63))), (9, .int (Int32.ofNat i)), (8, .int 0), (0, .ref a), (1, .long 16), (3, .ref b), (4, .long 16), (6, .int 60), (7, .int 3)] := hl5
      refine va_gets hx hb y4 hS hown (hts _ zw7218) (fun x h => h) d30 ?_
      refine lv_aload_n hx hb d33 rfl (lv_at hl5 3 rfl) ?_
      refine lv_lload_n hx hb d34 rfl (lv_at hl5 4 rfl) ?_
      refine lv_lload hx hb d35 (lv_at hl5 0 rfl) ?_
      refine lv_ladd hx hb d37 ?_
      refine z_rd (l := l) (u := u) (a := a) (b := b) (cJ := cJ) (N := N) (k := i) (f := f) hi60 hx hb hml hl5.1 hown hts hW hS (by show 2 ≤ 2; decide) (by show 48 ≤ 48; decide) ⟨Nat.zero_le _, Nat.zero_le _⟩ d38 fun H1 locs1 hW1 hS1 => ?_
      refine lv_lstore hx hb d41 hl5 (by decide) rfl fun ls6 hl6 => ?_
      have hl6 : lv_has ls6 19 [(12, .long (f i)), (10, .long ((Int32.ofNat i).toInt64 <<< ((3 : Int32).toInt64 &&& 63))), (9, .int (Int32.ofNat i)), (8, .int 0), (0, .ref a), (1, .long 16), (3, .ref b), (4, .long 16), (6, .int 60), (7, .int 3)] := hl6
      refine va_gets hx hb y4 hS1 hown (hts _ zw7218) (fun x h => h) d43 ?_
      refine lv_aload_n hx hb d46 rfl (lv_at hl6 6 rfl) ?_
      refine lv_lload hx hb d47 (lv_at hl6 7 rfl) ?_
      refine lv_lload hx hb d49 (lv_at hl6 1 rfl) ?_
      refine lv_ladd hx hb d51 ?_
      refine z_rd (l := l) (u := u) (a := b) (b := a) (cJ := cJ) (N := N) (k := i) (f := f) hi60 hx hb hml hl6.1 hown hts hW1.sw hS1 (by show 2 ≤ 2; decide) (by show 48 ≤ 48; decide) ⟨Nat.zero_le _, Nat.zero_le _⟩ d52 fun H2 locs2 hW2 hS2 => ?_
      refine lv_lstore hx hb d55 hl6 (by decide) rfl fun ls7 hl7 => ?_
      have hl7 : lv_has ls7 19 [(14, .long (f i)), (12, .long (f i)), (10, .long ((Int32.ofNat i).toInt64 <<< ((3 : Int32).toInt64 &&& 63))), (9, .int (Int32.ofNat i)), (8, .int 0), (0, .ref a), (1, .long 16), (3, .ref b), (4, .long 16), (6, .int 60), (7, .int 3)] := hl7
      refine lv_lload hx hb d57 (lv_at hl7 1 rfl) ?_
      refine lv_lload hx hb d59 (lv_at hl7 0 rfl) ?_
      refine W.lcmp hx hb d61 ?_
      rw [lg_cmp_s]
      refine lv_if_eq (tgt := 116) hx hb d62 (by decide) (fun _ => ?_) (fun h => absurd rfl h)
      refine lv_iinc (k := 3) hx hb d116 hl7 rfl rfl (by decide) rfl fun ls8 hl8 => ?_
      refine lv_goto (tgt := 11) hx hb d119 (by decide) ?_
      refine ih (i + 1) ls8 H2 locs2 (by omega) ?_ hW2.sw hS2
      rw [← c3]
      exact lv_sub hl8 [0, 4, 5, 6, 7, 8, 9, 10] rfl
  exact loop 60 0 ls3 s.heap [] rfl hl3 hW0 hS0
end Z98d
