/-! THE PRINTED MACHINE HELD AGAINST THE PURE ONE: literals, switches; all instructions that go on -/
section J11
variable {E : JE} {mi : Nat} {p : Program} {l : Launch} {e : Env} {R : Room} {s : State} {m : MethodId} {args : Array Value} {below : List Frame} {meth : Method} {c : Code} {Q : State → Prop} {c0 s0 pc : Nat} {ls st : List JV} {M : JM}
theorem j_ldcI {n a : Nat} (C : jCtx E mi p l s m args meth c) (hd : decode (jmb mi) pc = .ok (.ldc n, 2)) (hl : Cond.constant (jnm mi).cls n (Int32.ofInt ((a : Int) - 2147483648)) ∈ jgood) (ha : a < 4294967296) (k : jGo E mi p l e R s m args below meth c Q c0 s0 (pc + 2) ls (.inl ((a : Int) - 2147483648) :: st) M) : jGo E mi p l e R s m args below meth c Q c0 s0 pc ls st M := by
  intro lsA H locs I
  exact W.ldc C.1 C.2.1 C.2.2.2.1 (C.2.2.2.2.1 _ hl) rfl hd (k lsA H locs (I.pushI (by omega)))
theorem j_ldcwI {n a : Nat} (C : jCtx E mi p l s m args meth c) (hd : decode (jmb mi) pc = .ok (.ldc_w n, 3)) (hl : Cond.constant (jnm mi).cls n (Int32.ofInt ((a : Int) - 2147483648)) ∈ jgood) (ha : a < 4294967296) (k : jGo E mi p l e R s m args below meth c Q c0 s0 (pc + 3) ls (.inl ((a : Int) - 2147483648) :: st) M) : jGo E mi p l e R s m args below meth c Q c0 s0 pc ls st M := by
  intro lsA H locs I
  exact lv_ldcw C.1 C.2.1 C.2.2.2.1 (C.2.2.2.2.1 _ hl) hd (k lsA H locs (I.pushI (by omega)))
theorem jad_k {i : Nat} (h1 : 2000000 ≤ i) (h2 : i < 3000000) : jad E i = jaK E (i - 2000000) := by
  unfold jad
  rw [if_neg (by omega), if_neg (by omega), if_pos (by omega)]
theorem jad_v {i : Nat} (h1 : 3000000 ≤ i) : jad E i = jaV E (i - 3000000) := by
  unfold jad
  rw [if_neg (by omega), if_neg (by omega), if_neg (by omega)]
theorem j_ldcS {n a : Nat} (C : jCtx E mi p l s m args meth c) (hd : decode (jmb mi) pc = .ok (.ldc n, 2)) (hl : ((jnm mi).cls, n, a) ∈ jstrs) (ha : a < 7) (k : jGo E mi p l e R s m args below meth c Q c0 s0 (pc + 2) ls (.inr (.inl (2000000 + a)) :: st) M) : jGo E mi p l e R s m args below meth c Q c0 s0 pc ls st M := by
  intro lsA H locs I
  have hZ := C.2.2.2.2.2.1.2.2.2.2.1 _ hl
  have kk := k lsA H locs (I.push trivial rfl)
  refine va_ldcS C.1 C.2.1 C.2.2.2.1 hZ hd ?_
  have ee : jad E (2000000 + a) = jaK E a := by rw [jad_k (Nat.le_add_right _ _) (by omega), Nat.add_sub_cancel_left]
  rw [List.map_cons, show jval E (.inr (.inl (2000000 + a))) = .ref (jad E (2000000 + a)) from rfl, ee] at kk
  exact kk
theorem j_ldcwS {n a : Nat} (C : jCtx E mi p l s m args meth c) (hd : decode (jmb mi) pc = .ok (.ldc_w n, 3)) (hl : ((jnm mi).cls, n, a) ∈ jstrs) (ha : a < 7) (k : jGo E mi p l e R s m args below meth c Q c0 s0 (pc + 3) ls (.inr (.inl (2000000 + a)) :: st) M) : jGo E mi p l e R s m args below meth c Q c0 s0 pc ls st M := by
  intro lsA H locs I
  have hZ := C.2.2.2.2.2.1.2.2.2.2.1 _ hl
  have kk := k lsA H locs (I.push trivial rfl)
  have ee : jad E (2000000 + a) = jaK E a := by rw [jad_k (Nat.le_add_right _ _) (by omega), Nat.add_sub_cancel_left]
  rw [List.map_cons, show jval E (.inr (.inl (2000000 + a))) = .ref (jad E (2000000 + a)) from rfl, ee] at kk
  intro T hT X
  obtain ⟨t, a1, b1⟩ := kk T hT X
  refine ⟨t, ?_, b1⟩
  obtain ⟨k9, cf, i, a', hk, hcf, hcp, -, hr, hev'⟩ := Cond.stringRef_spec C.2.2.2.1 hZ.1
  cases hZ.2.symm.trans hev'
  obtain ⟨k', hk', he⟩ := X.warmed.alike.2.2 _ _ hk
  have hr' : k'.resolved[n]? = some (some (.string (jaK E a))) := by
    rcases X.warmed.entry hk hk' n with h | ⟨h, -⟩
    · rw [h]; exact hr
    · rw [hr] at h; cases h
  have hdg : decode c.code pc = .ok (.ldc_w n, 3) := by rw [C.2.1]; exact hd
  jvm_step X.here [C.1, hdg, Op.ldc_w.wp_string (e := e) (s := T) (f := F0 m pc lsA (st.map (jval E))) X.here.top hk' (by rw [he]; exact hcf) hcp hr']
  exact a1
theorem j_getstatic {n b : Nat} (C : jCtx E mi p l s m args meth c) (hd : decode (jmb mi) pc = .ok (.getstatic n, 3)) (hl : Cond.fieldLink (jnm mi).cls n "java/lang/String" "COMPACT_STRINGS" "Z" ∈ jgood) (k : jGo E mi p l e R s m args below meth c Q c0 s0 (pc + 3) ls (.inl 1 :: st) M) : jGo E mi p l e R s m args below meth c Q c0 s0 pc ls st M := by
  intro lsA H locs I
  exact va_gets C.1 C.2.1 C.2.2.2.2.2.1.2.2.2.2.2.2.2.2.1 I.2.2.2 C.2.2.2.1 (C.2.2.2.2.1 _ hl) (fun x h => h) hd (k lsA H locs (I.pushI (by omega)))
theorem j_getfieldV {n i : Nat} (C : jCtx E mi p l s m args meth c) (hd : decode (jmb mi) pc = .ok (.getfield n, 3)) (hl : Cond.fieldLink (jnm mi).cls n "java/lang/String" "value" "[B" ∈ jgood) (h1 : 2000000 ≤ i) (h2 : i < 2000007) (k : jGo E mi p l e R s m args below meth c Q c0 s0 (pc + 3) ls (.inr (.inl (i + 1000000)) :: st) M) : jGo E mi p l e R s m args below meth c Q c0 s0 pc ls (.inr (.inl i) :: st) M := by
  intro lsA H locs I
  have hE := (C.2.2.2.2.2.1.2.2.2.1.1 (i - 2000000) (by omega)).2.2.1
  have kk := k lsA H locs (I.tl.push trivial rfl)
  show W p l e R s m args below meth c H locs _ _ Q (F0 m pc lsA (.ref (jad E i) :: st.map (jval E)))
  rw [jad_k h1 (by omega)]
  refine vk_getf C.1 C.2.1 hE I.2.2.2 C.2.2.2.1 (C.2.2.2.2.1 _ hl) (fun x h => h) hd ?_
  rw [List.map_cons, show jval E (.inr (.inl (i + 1000000))) = .ref (jad E (i + 1000000)) from rfl, jad_v (by omega), show i + 1000000 - 3000000 = i - 2000000 by omega] at kk
  exact kk
theorem j_getfieldC {n i : Nat} (C : jCtx E mi p l s m args meth c) (hd : decode (jmb mi) pc = .ok (.getfield n, 3)) (hl : Cond.fieldLink (jnm mi).cls n "java/lang/String" "coder" "B" ∈ jgood) (h1 : 2000000 ≤ i) (h2 : i < 2000007) (k : jGo E mi p l e R s m args below meth c Q c0 s0 (pc + 3) ls (.inl 0 :: st) M) : jGo E mi p l e R s m args below meth c Q c0 s0 pc ls (.inr (.inl i) :: st) M := by
  intro lsA H locs I
  have hE := (C.2.2.2.2.2.1.2.2.2.1.1 (i - 2000000) (by omega)).2.1
  have kk := k lsA H locs (I.tl.pushI (by omega))
  show W p l e R s m args below meth c H locs _ _ Q (F0 m pc lsA (.ref (jad E i) :: st.map (jval E)))
  rw [jad_k h1 (by omega)]
  exact vk_getf C.1 C.2.1 hE I.2.2.2 C.2.2.2.1 (C.2.2.2.2.1 _ hl) (fun x h => h) hd kk
theorem jlenl_get {q : Nat} (h : q < 7) : jlenl.getD q 0 = (jlit q).length := by
  rcases (show q = 0 ∨ q = 1 ∨ q = 2 ∨ q = 3 ∨ q = 4 ∨ q = 5 ∨ q = 6 by omega) with rfl | rfl | rfl | rfl | rfl | rfl | rfl <;> rfl
theorem jlit_small (q : Nat) : (jlit q).length ≤ 6 := by
  unfold jlit
  split <;> decide
theorem jlit_rng (q j : Nat) : 0 ≤ (jlit q).getD j 0 ∧ (jlit q).getD j 0 ≤ 127 := by
  have h : ∀ (lst : List Int), (lst.all fun z => decide (0 ≤ z ∧ z ≤ 127)) = true → 0 ≤ lst.getD j 0 ∧ lst.getD j 0 ≤ 127 := by
    intro lst hl
    rw [List.getD_eq_getElem?_getD]
    cases hq : lst[j]? with
    | none => simp
    | some z => exact of_decide_eq_true (List.all_eq_true.mp hl z (List.mem_of_getElem? hq))
  unfold jlit
  split <;> exact h _ (by decide)
theorem jbyt_get {q j : Nat} (h : q < 7) (hj : j < (jlit q).length) : (jbyt.getD q []).getD j 0 = Int32.ofInt ((jlit q).getD j 0) := by
  have e : jbyt.getD q [] = (jlit q).map Int32.ofInt := by
    unfold jbyt
    rw [List.getD_eq_getElem?_getD, List.getElem?_map, List.getElem?_range h]
    rfl
  rw [e, List.getD_eq_getElem?_getD, List.getElem?_map, List.getD_eq_getElem?_getD, List.getElem?_eq_getElem hj]
  rfl
theorem j_arraylengthL {i : Nat} (C : jCtx E mi p l s m args meth c) (hd : decode (jmb mi) pc = .ok (.arraylength, 1)) (h1 : 3000000 ≤ i) (h2 : i < 3000007) (k : jGo E mi p l e R s m args below meth c Q c0 s0 (pc + 1) ls (.inl ((jlit (i - 3000000)).length : Int) :: st) M) : jGo E mi p l e R s m args below meth c Q c0 s0 pc ls (.inr (.inl i) :: st) M := by
  intro lsA H locs I
  have hE := (C.2.2.2.2.2.1.2.2.2.1.1 (i - 3000000) (by omega)).2.2.2
  rw [jlenl_get (by omega)] at hE
  have hs := jlit_small (i - 3000000)
  have kk := k lsA H locs (I.tl.pushI (by omega))
  show W p l e R s m args below meth c H locs _ _ Q (F0 m pc lsA (.ref (jad E i) :: st.map (jval E)))
  rw [jad_v h1]
  exact va_tlen C.1 C.2.1 hE I.2.2.2 Int32.ofInt_eq_ofNat.symm hd kk
theorem j_baloadL {i : Nat} {k0 : Int} (C : jCtx E mi p l s m args meth c) (hd : decode (jmb mi) pc = .ok (.baload, 1)) (h1 : 3000000 ≤ i) (h2 : i < 3000007) (h0 : 0 ≤ k0) (h3 : k0.toNat < (jlit (i - 3000000)).length) (k : jGo E mi p l e R s m args below meth c Q c0 s0 (pc + 1) ls (.inl ((jlit (i - 3000000)).getD k0.toNat 0) :: st) M) : jGo E mi p l e R s m args below meth c Q c0 s0 pc ls (.inl k0 :: .inr (.inl i) :: st) M := by
  intro lsA H locs I
  have hE := (C.2.2.2.2.2.1.2.2.2.1.1 (i - 3000000) (by omega)).2.2.2
  rw [jlenl_get (by omega)] at hE
  obtain ⟨b1, b2⟩ := jinb I.hd.1 h0 h3
  have hr := jlit_rng (i - 3000000) k0.toNat
  have kk := k lsA H locs (I.tl.tl.pushI (by omega))
  show W p l e R s m args below meth c H locs _ _ Q (F0 m pc lsA (.int (Int32.ofInt k0) :: .ref (jad E i) :: st.map (jval E)))
  rw [jad_v h1]
  exact va_tb C.1 C.2.1 hE I.2.2.2 b1 (by rw [b2, jbyt_get (by omega) h3]; rfl) hd kk
theorem j_tableswitch {d lo hi : Int} {offs : Array Int} {len pc1 : Nat} {x : Int} (C : jCtx E mi p l s m args meth c) (hd : decode (jmb mi) pc = .ok (.tableswitch d lo hi offs, len)) (h : (x < lo ∨ hi < x) ∧ (pc : Int) + d = (pc1 : Int) ∨ ¬ (x < lo ∨ hi < x) ∧ ∃ o, offs[(x - lo).toNat]? = some o ∧ (pc : Int) + o = (pc1 : Int)) (k : jGo E mi p l e R s m args below meth c Q c0 s0 pc1 ls st M) : jGo E mi p l e R s m args below meth c Q c0 s0 pc ls (.inl x :: st) M := by
  intro lsA H locs I
  have e : (Int32.ofInt x).toInt = x := jofi I.hd.1
  rcases h with ⟨h1, h2⟩ | ⟨h1, o, h2, h3⟩
  · exact lv_tableOut C.1 C.2.1 hd (by rw [e]; exact h1) h2 (k lsA H locs I.tl)
  · exact lv_tableIn C.1 C.2.1 hd (by rw [e]; omega) (by rw [e]; omega) (by rw [e]; exact h2) h3 (k lsA H locs I.tl)
theorem j_lookupswitch {d : Int} {ps : Array (Int × Int)} {len pc1 : Nat} {x : Int} (C : jCtx E mi p l s m args meth c) (hd : decode (jmb mi) pc = .ok (.lookupswitch d ps, len)) (hp : jsorted ps.toList = true) (h : (pc : Int) + Op.lookupswitch.offset ps.toList d x = (pc1 : Int)) (k : jGo E mi p l e R s m args below meth c Q c0 s0 pc1 ls st M) : jGo E mi p l e R s m args below meth c Q c0 s0 pc ls (.inl x :: st) M := by
  intro lsA H locs I
  have e : (Int32.ofInt x).toInt = x := jofi I.hd.1
  exact lv_lookup C.1 C.2.1 hd hp (by rw [e]) h (k lsA H locs I.tl)
end J11
