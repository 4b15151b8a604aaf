/-! THE JDK's Arrays.equals FOR LONGS: the bodies on its road, two rows of 60 that hold the same -/
def zAS : String := "jdk/internal/util/ArraysSupport"
def zgu : MethodName := ⟨zUN, "getLongUnaligned", "(Ljava/lang/Object;J)J"⟩
def zvm : MethodName := ⟨zAS, "vectorizedMismatch", "(Ljava/lang/Object;JLjava/lang/Object;JII)I"⟩
def zmm : MethodName := ⟨zAS, "mismatch", "([J[JI)I"⟩
def zguC : Cond := .code zgu prog_49_method_334_code 4 (some .long)
def zvmC : Cond := .code zvm prog_51_method_3_code 19 (some .int)
def zmmC : Cond := .code zmm prog_51_method_23_code 4 (some .int)
def zeqC : Cond := .code jequalN prog_43_method_81_code 3 (some .boolean)
abbrev zFa : Nat → Prop := fun _ => False
def zR (f lo : Nat) : Room := { frames := f, cells := 0, slots := 0, locals := lo }
/-- the words -/
theorem zw7223 : zguC ∈ jgood := jtw_mem (w := 7223) (by decide +kernel)
theorem zw7217 : zvmC ∈ jgood := jtw_mem (w := 7217) (by decide +kernel)
theorem zw7210 : zmmC ∈ jgood := jtw_mem (w := 7210) (by decide +kernel)
theorem zw7207 : zeqC ∈ jgood := jtw_mem (w := 7207) (by decide +kernel)
theorem zw7221 : Cond.instanceMethod zgu ∈ jgood := jtw_mem (w := 7221) (by decide +kernel)
theorem zw7222 : Cond.selects zUN zgu zgu ∈ jgood := jtw_mem (w := 7222) (by decide +kernel)
theorem zw7220 : Cond.methodLink zAS 30 zgu ∈ jgood := jtw_mem (w := 7220) (by decide +kernel)
theorem zw7224 : Cond.constantLong zUN 696 7 ∈ jgood := jtw_mem (w := 7224) (by decide +kernel)
theorem zw7225 : Cond.methodLink zUN 27 zgl ∈ jgood := jtw_mem (w := 7225) (by decide +kernel)
theorem zw7226 : Cond.instanceMethod zgl ∈ jgood := jtw_mem (w := 7226) (by decide +kernel)
theorem zw7227 : Cond.selects zUN zgl zgl ∈ jgood := jtw_mem (w := 7227) (by decide +kernel)
theorem zw7228 : Cond.native zgl ∈ jgood := jtw_mem (w := 7228) (by decide +kernel)
theorem zw1034 : Cond.initialized zUN ∈ jgood := jtw_mem (w := 1034) (by decide +kernel)
theorem zw1018 : Cond.initialized zAS ∈ jgood := jtw_mem (w := 1018) (by decide +kernel)
theorem zw1019 : Cond.initialized "java/util/Arrays" ∈ jgood := jtw_mem (w := 1019) (by decide +kernel)
theorem zw7213 : Cond.fieldLink zAS 20 zAS "LOG2_ARRAY_LONG_INDEX_SCALE" "I" ∈ jgood := jtw_mem (w := 7213) (by decide +kernel)
theorem zw7218 : Cond.fieldLink zAS 26 zAS "U" "Ljdk/internal/misc/Unsafe;" ∈ jgood := jtw_mem (w := 7218) (by decide +kernel)
theorem zw8049 : Cond.fieldLink zAS 51 zAS "LOG2_ARRAY_INT_INDEX_SCALE" "I" ∈ jgood := jtw_mem (w := 8049) (by decide +kernel)
theorem zw7211 : Cond.fieldLink zAS 170 zUN "ARRAY_LONG_BASE_OFFSET" "I" ∈ jgood := jtw_mem (w := 7211) (by decide +kernel)
theorem zw7216 : Cond.static zvm ∈ jgood := jtw_mem (w := 7216) (by decide +kernel)
theorem zw7215 : Cond.methodLink zAS 122 zvm ∈ jgood := jtw_mem (w := 7215) (by decide +kernel)
theorem zw7209 : Cond.static zmm ∈ jgood := jtw_mem (w := 7209) (by decide +kernel)
theorem zw7208 : Cond.methodLink "java/util/Arrays" 245 zmm ∈ jgood := jtw_mem (w := 7208) (by decide +kernel)
theorem zw7206 : Cond.static jequalN ∈ jgood := jtw_mem (w := 7206) (by decide +kernel)
theorem z_good {w : Cond} (h : w ∈ jgood) : GoodIn jgood (w :: jgood) := by
  intro x hx
  have hx' : x ∈ jgood := by
    rcases List.mem_cons.mp hx with rfl | hx
    · exact h
    · exact hx
  exact ⟨hx', good_of_word (List.mem_filter.mp hx').2⟩
/-- where the k-th long lies -/
def zof (k : Nat) : Int64 := (16 : Int64) + ((Int32.ofNat k).toInt64 <<< ((3 : Int32).toInt64 &&& 63))
theorem zof_ok {k : Nat} (hk : k < 60) : ¬ zof k < 0 ∧ (zof k).toNatClampNeg = 16 + 8 * k ∧ lg_cmp (zof k &&& 7) (Int64.ofNat 0) = 0 := by
  have h : ∀ j : Fin 60, ¬ zof j < 0 ∧ (zof j).toNatClampNeg = 16 + 8 * (j : Nat) ∧ lg_cmp (zof j &&& 7) (Int64.ofNat 0) = 0 := by decide +kernel
  exact h ⟨k, hk⟩
/-- what the road asks of the heap -/
def zF (u : Nat) (U : State) (H : Heap) : Prop := (va_Z "jdk/internal/misc/Unsafe" "ARRAY_LONG_BASE_OFFSET" "I" (.int 16) zFa U H ∧ va_Z "jdk/internal/util/ArraysSupport" "LOG2_ARRAY_LONG_INDEX_SCALE" "I" (.int 3) zFa U H ∧ va_Z "jdk/internal/util/ArraysSupport" "LOG2_ARRAY_INT_INDEX_SCALE" "I" (.int 2) zFa U H) ∧ va_Z "jdk/internal/util/ArraysSupport" "U" "Ljdk/internal/misc/Unsafe;" (.ref u) zFa U H ∧ va_O "jdk/internal/misc/Unsafe" u zFa U H
def zW (u a b cJ N : Nat) (f : Nat → Int64) (U : State) (H : Heap) : Prop := zF u U H ∧ H[a]? = some (arrV cJ 60 (fun j => .long (f j))) ∧ H[b]? = some (arrV cJ 60 (fun j => .long (f j))) ∧ ArrOfT U cJ .long ∧ H.size = N
theorem va_Z_F {C n d : String} {v : Value} {A : Nat → Prop} {U : State} {H : Heap} (h : va_Z C n d v A U H) : va_Z C n d v zFa U H := by
  obtain ⟨cf, kf, fi, f, a, cell, h1, h2, h3, h4, h5, h6, h7, h8⟩ := h
  exact ⟨cf, kf, fi, f, a, cell, h1, h2, h3, h4, h5, h6, h7, id⟩
theorem va_O_F {E : String} {t : Nat} {A : Nat → Prop} {U : State} {H : Heap} (h : va_O E t A U H) : va_O E t zFa U H := by
  obtain ⟨cell, h1, h2, h3, h4⟩ := h
  exact ⟨cell, h1, h2, h3, id⟩
theorem zF.mv {u : Nat} {U U1 : State} {H : Heap} (hvm : U.vm.Alike U1.vm) (h : zF u U H) : zF u U1 H := by
  obtain ⟨⟨h1, h2, h3⟩, h4, h5⟩ := h
  exact ⟨⟨h1.moved hvm, h2.moved hvm, h3.moved hvm⟩, h4.moved hvm, va_O.moved hvm h5⟩
theorem zF.kp {u : Nat} {U : State} {H H1 : Heap} (hq : ∀ q : Nat, q < H.size → H1[q]? = H[q]?) (h : zF u U H) : zF u U H1 := by
  obtain ⟨⟨h1, h2, h3⟩, h4, h5⟩ := h
  have hq' : ∀ q : Nat, q < H.size → ¬ zFa q → H1[q]? = H[q]? := fun q hl _ => hq q hl
  exact ⟨⟨h1.kept hq', h2.kept hq', h3.kept hq'⟩, h4.kept hq', h5.kept hq'⟩
theorem zW.mv {u a b cJ N : Nat} {f : Nat → Int64} {U U1 : State} {H : Heap} (hvm : U.vm.Alike U1.vm) (h : zW u a b cJ N f U H) : zW u a b cJ N f U1 H := ⟨h.1.mv hvm, h.2.1, h.2.2.1, arrOfT_moved hvm h.2.2.2.1, h.2.2.2.2⟩
theorem zW.kp {u a b cJ N : Nat} {f : Nat → Int64} {U : State} {H H1 : Heap} (hq : ∀ q : Nat, q < H.size → H1[q]? = H[q]?) (hz : H1.size = N) (h : zW u a b cJ N f U H) : zW u a b cJ N f U H1 :=
  ⟨h.1.kp hq, (hq a (Array.getElem?_eq_some_iff.mp h.2.1).1).trans h.2.1, (hq b (Array.getElem?_eq_some_iff.mp h.2.2.1).1).trans h.2.2.1, h.2.2.2.1, hz⟩
theorem zW.blind {u a b cJ N : Nat} {f : Nat → Int64} {as : List Value} : FrameBlind (va_Pc as fun U => zW u a b cJ N f U U.heap) := fun aa U g mk h => ⟨h.1, h.2.mv (U1 := U.calling g mk aa) (State.WarmedH.refl U).alike⟩
theorem z_plain : plainFor zgu = true := by
  unfold plainFor
  rw [show (NativeRow.find? Jvm.natives zgu.cls zgu.name zgu.desc).isNone = true from by decide +kernel, Bool.or_true]
theorem z_ofW {l : Launch} {y : MethodName} {ws ws' : List Cond} {rm : Room} {Pc : Array Value → State → Prop} {Qc : Array Value → State → Outcome → State → Prop} {mc ms : Nat} {free : Addr → Prop} {cc : ByteArray} {maxL : Nat} {ret : Option FieldType} (hy : plainFor y = true) (hw : ws = Cond.code y cc maxL ret :: ws')
    (body : ∀ p e s m args below meth c s₁, BodyLoose p l y (headSpec ws rm) cc maxL ret e s m args below meth c s₁ → c.maxLocals = maxL → Pc args s → W p l e (headSpec ws rm).room s m args below meth c s.heap [] 0 0 (MQ below Qc args s mc ms free) (entryFrame m args maxL)) : Met l y ws rm Pc Qc mc ms free :=
  MetFree.of_bodySF (code := cc) (maxLocals := maxL) (ret := ret) hy (fun args s m h hn => by
    obtain ⟨meth, c, h1, h2, h3, h4, h5, h6, -⟩ := Cond.code_spec hn (atoms_spec (ws := ws) h _ (by rw [hw]; exact List.mem_cons_self))
    exact ⟨meth, c, h1, h2, h3, h4, h5, h6⟩) fun p e s m args below meth c s₁ B hml hP _ => by
    have hh : s₁.heap = s.heap := by rw [B.state]; rfl
    obtain ⟨t, a1, o, b1, b2, b3⟩ := body p e s m args below meth c s₁ B hml hP s₁ hh (Stand.of_body B)
    exact ⟨t, o, a1, b1, b2, ⟨b3.1, b3.2⟩⟩
section Z98c
variable {l : Launch}
set_option maxHeartbeats 2000000 in
theorem z_glu {u a b cJ N k : Nat} {f : Nat → Int64} (hk : k < 60) : Met l zgu (zguC :: jgood) (zR 1 25) (va_Pc [.ref u, .ref a, .long (zof k)] (fun U => zW u a b cJ N f U U.heap)) (va_Ql (fun (r : Int64) (_ : Unit) => r = f k) (fun _ t => t.heap.size = N) zFa) 0 0 zFa := by
  refine z_ofW (cc := prog_49_method_334_code) (maxL := 4) (ret := some .long) (ws' := jgood) z_plain rfl fun p e s m args below meth c s₁ B hml hv => ?_
  obtain ⟨rfl, hW⟩ := hv
  have hts0 := atoms_spec (ws := zguC :: jgood) B.pre
  have hts : ∀ w ∈ jgood, w.before _ s = true := fun w hw => hts0 w (List.mem_cons_of_mem _ hw)
  have hx := B.exec
  have hb := B.bytes
  have hown : s.vm.findClass zUN = some m.cls := findClass_of_methodNamed B.named
  have d0 : decode prog_49_method_334_code 0 = .ok (.lload_n 2, 1) := by decide +kernel
  have d1 : decode prog_49_method_334_code 1 = .ok (.ldc2_w 696, 3) := by decide +kernel
  have d4 : decode prog_49_method_334_code 4 = .ok (.land, 1) := by decide +kernel
  have d5 : decode prog_49_method_334_code 5 = .ok (.lconst 0, 1) := by decide +kernel
  have d6 : decode prog_49_method_334_code 6 = .ok (.lcmp, 1) := by decide +kernel
  have d7 : decode prog_49_method_334_code 7 = .ok (.ifCond .ne 10, 3) := by decide +kernel
  have d10 : decode prog_49_method_334_code 10 = .ok (.aload_n 0, 1) := by decide +kernel
  have d11 : decode prog_49_method_334_code 11 = .ok (.aload_n 1, 1) := by decide +kernel
  have d12 : decode prog_49_method_334_code 12 = .ok (.lload_n 2, 1) := by decide +kernel
  have d13 : decode prog_49_method_334_code 13 = .ok (.invokevirtual 27, 3) := by decide +kernel
  have d16 : decode prog_49_method_334_code 16 = .ok (.lreturn, 1) := by decide +kernel
  rw [lg_entry_eq]
  have hl := lv_entry [.ref u, .ref a, .long (zof k)] (n := 4) (by show 4 ≤ 4; decide)
  generalize (lg_sl [Value.ref u, .ref a, .long (zof k)] ++ List.replicate (4 - (lg_sl [Value.ref u, .ref a, .long (zof k)]).length) Slot.unset).toArray = ls at hl ⊢
  have hl : lv_has ls 4 [(0, .ref u), (1, .ref a), (2, .long (zof k))] := hl
  obtain ⟨z1, z2, z3⟩ := zof_ok hk
  obtain ⟨⟨-, -, cellU, o1, o2, o3, -⟩, hA, -, hJ, hN⟩ := hW
  refine lv_lload_n hx hb d0 rfl (lv_at hl 2 rfl) ?_
  refine lv_ldc2 hx hb hown (hts _ zw7224) d1 ?_
  refine lv_land hx hb d4 ?_
  refine lv_lconst hx hb d5 rfl ?_
  refine W.lcmp hx hb d6 ?_
  have e3 : lg_cmp (zof k &&& 7) (Int64.ofNat ((0 : Fin 2) : Nat)) = 0 := z3
  rw [e3]
  refine lv_if_ne (tgt := 17) hx hb d7 (by decide) (fun h => absurd rfl h) (fun _ => ?_)
  refine lv_aload_n hx hb d10 rfl (lv_at hl 0 rfl) ?_
  refine lv_aload_n hx hb d11 rfl (lv_at hl 1 rfl) ?_
  refine lv_lload_n hx hb d12 rfl (lv_at hl 2 rfl) ?_
  refine z_getLong (own := zUN) (rest := []) hx hb (hml.trans hl.1.symm) hown (hts _ zw7225) (hts _ zw7226) (hts _ zw7227) (hts _ zw7228) o1 o2 o3 hA hJ hk z1 z2 (by show 1 ≤ 1; decide) (by show 0 + 17 ≤ 25; decide) d13 ?_
  exact W.lret hx hb B.returns (fun t ht _ => ⟨⟨f k, (), rfl, rfl, by show t.heap.size = N; rw [ht]; exact hN⟩, by rw [ht]; exact Nat.le_refl _, fun q _ _ => by rw [ht]⟩) (fun _ h => nomatch h) d16
/-- a step of the comparing loop: a long is read -/
theorem z_rd {p : Program} {e : Env} {R : Room} {s : State} {m : MethodId} {args : Array Value} {below : List Frame} {meth : Method} {c : Code} {H : Heap} {locs : List Loc} {cells slots : Nat} {Q : State → Prop} {pc : Nat} {ls : Array Slot} {u a b cJ N k : Nat} {f : Nat → Int64} (hk : k < 60) (hx : p.tables.exec = Jvm.exec) (hb : c.code = prog_51_method_3_code) (hml : c.maxLocals = 19) (hls : ls.size = 19) (hown : s.vm.findClass zAS = some m.cls) (hts : ∀ w ∈ jgood, w.before args s = true) (hW : zW u a b cJ N f s H) (hS : va_S zFa s.heap H locs) (hfr : 2 ≤ R.frames) (hlo : 48 ≤ R.locals) (hce : cells ≤ R.cells ∧ slots ≤ R.slots) (hd : decode prog_51_method_3_code pc = .ok (.invokevirtual 30, 3))
    (kk : ∀ (H1 : Heap) (locs1 : List Loc), zW u a b cJ N f s H1 → va_S zFa s.heap H1 locs1 → W p l e R s m args below meth c H1 locs1 cells slots Q (F0 m (pc + 3) ls [.long (f k)])) : W p l e R s m args below meth c H locs cells slots Q (F0 m pc ls [.long (zof k), .ref a, .ref u]) := by
  obtain ⟨⟨-, -, cellU, o1, o2, o3, -⟩, -⟩ := id hW
  have hr := va_runV (e := e) (below := below) (meth := meth) (g := F0 m pc ls [.long (zof k), .ref a, .ref u]) (rest := []) (As := [.ref a, .long (zof k)]) (b := u) (locs := locs) (cells := cells) (slots := slots) ⟨hx, hb, hml, hown, hts⟩ (z_glu (l := l) (b := b) (f := f) (cJ := cJ) (N := N) (u := u) (a := a) hk)
    ⟨callB_of (R := R) (mc := 0) (ms := 0) 2 hts (z_good zw7223) rfl rfl rfl (hts _ zw1034) (hts _ zw7220) (by decide +kernel) ⟨by show 1 + 1 ≤ R.frames; omega, by show 8 + (4 + 11) + 25 ≤ R.locals; omega⟩, hts _ zw7221, hts _ zw7222⟩
    ⟨zW.blind, ⟨cellU, o1, o2, o3⟩, fun U hU hWm => ⟨rfl, by show zW u a b cJ N f U U.heap; rw [hU]; exact hW.mv hWm.alike⟩⟩ rfl rfl hls rfl (by show 2 * 0 + 0 ≤ 8; decide) hd ⟨by omega, by omega⟩
  refine va_calll hr hS (fun _ _ h => h) (fun _ h => h) fun r _ t H1 locs1 ht hal hp hBt hz hq hS1 => ?_
  subst hp
  exact kk H1 locs1 (hW.kp (fun q hl => hq q hl id) (by rw [← ht]; exact hBt)) hS1
end Z98c
