/-! THE PRINTED MACHINE HELD AGAINST THE PURE ONE: literals, casts, comparisons of references, bytes copied -/
section J11
variable {E : JE} {mi : Nat} {p : Program} {l : Launch} {e : Env} {R : Room} {s : State} {m : MethodId} {args : Array Value} {below : List Frame} {meth : Method} {c : Code} {Q : State → Prop} {c0 s0 pc : Nat} {ls st : List JV} {M : JM}
theorem j_ldcI {n a : Nat} (C : jCtx E mi p l s m args meth c) (hd : decode (jmb mi) pc = .ok (.ldc n, 2)) (hl : Cond.constant (jnm mi).cls n (Int32.ofInt ((a : Int) - 2147483648)) ∈ jgood) (ha : a < 4294967296) (k : jGo E mi p l e R s m args below meth c Q c0 s0 (pc + 2) ls (.inl ((a : Int) - 2147483648) :: st) M) : jGo E mi p l e R s m args below meth c Q c0 s0 pc ls st M := by
  intro lsA H locs I
  exact W.ldc C.1 C.2.1 C.2.2.2.1 (C.2.2.2.2.1 _ hl) rfl hd (k lsA H locs (I.pushI (by omega)))
theorem j_ldcwI {n a : Nat} (C : jCtx E mi p l s m args meth c) (hd : decode (jmb mi) pc = .ok (.ldc_w n, 3)) (hl : Cond.constant (jnm mi).cls n (Int32.ofInt ((a : Int) - 2147483648)) ∈ jgood) (ha : a < 4294967296) (k : jGo E mi p l e R s m args below meth c Q c0 s0 (pc + 3) ls (.inl ((a : Int) - 2147483648) :: st) M) : jGo E mi p l e R s m args below meth c Q c0 s0 pc ls st M := by
  intro lsA H locs I
  exact lv_ldcw C.1 C.2.1 C.2.2.2.1 (C.2.2.2.2.1 _ hl) hd (k lsA H locs (I.pushI (by omega)))
theorem jad_k {i : Nat} (h1 : 2000000 ≤ i) (h2 : i < 3000000) : jad E i = jaK E (i - 2000000) := by
  unfold jad
  rw [if_neg (by omega), if_neg (by omega), if_neg (by omega), if_pos (by omega)]
theorem jad_v {i : Nat} (h1 : 3000000 ≤ i) : jad E i = jaV E (i - 3000000) := by
  unfold jad
  rw [if_neg (by omega), if_neg (by omega), if_neg (by omega), if_neg (by omega)]
theorem jad_e : jad E 1000001 = jem E := by
  unfold jad
  rw [if_neg (by omega), if_neg (by omega), if_pos rfl]
theorem j_ldcS {n a : Nat} (C : jCtx E mi p l s m args meth c) (hd : decode (jmb mi) pc = .ok (.ldc n, 2)) (hl : ((jnm mi).cls, n, a) ∈ jstrs) (ha : a < 14) (k : jGo E mi p l e R s m args below meth c Q c0 s0 (pc + 2) ls (.inr (.inl (2000000 + a)) :: st) M) : jGo E mi p l e R s m args below meth c Q c0 s0 pc ls st M := by
  intro lsA H locs I
  have hZ := C.2.2.2.2.2.1.str _ hl
  have kk := k lsA H locs (I.push trivial rfl)
  refine va_ldcS C.1 C.2.1 C.2.2.2.1 hZ hd ?_
  have ee : jad E (2000000 + a) = jaK E a := by rw [jad_k (Nat.le_add_right _ _) (by omega), Nat.add_sub_cancel_left]
  rw [List.map_cons, show jval E (.inr (.inl (2000000 + a))) = .ref (jad E (2000000 + a)) from rfl, ee] at kk
  exact kk
theorem j_ldcwS {n a : Nat} (C : jCtx E mi p l s m args meth c) (hd : decode (jmb mi) pc = .ok (.ldc_w n, 3)) (hl : ((jnm mi).cls, n, a) ∈ jstrs) (ha : a < 14) (k : jGo E mi p l e R s m args below meth c Q c0 s0 (pc + 3) ls (.inr (.inl (2000000 + a)) :: st) M) : jGo E mi p l e R s m args below meth c Q c0 s0 pc ls st M := by
  intro lsA H locs I
  have hZ := C.2.2.2.2.2.1.str _ hl
  have kk := k lsA H locs (I.push trivial rfl)
  have ee : jad E (2000000 + a) = jaK E a := by rw [jad_k (Nat.le_add_right _ _) (by omega), Nat.add_sub_cancel_left]
  rw [List.map_cons, show jval E (.inr (.inl (2000000 + a))) = .ref (jad E (2000000 + a)) from rfl, ee] at kk
  intro T hT X
  obtain ⟨t, a1, b1⟩ := kk T hT X
  refine ⟨t, ?_, b1⟩
  obtain ⟨k9, cf, i, a', hk, hcf, hcp, -, hr, hev'⟩ := Cond.stringRef_spec C.2.2.2.1 hZ.1
  cases hZ.2.symm.trans hev'
  obtain ⟨k', hk', he⟩ := X.warmed.alike.2.2 _ _ hk
  have hr' : k'.resolved[n]? = some (some (.string (jaK E a))) := by
    rcases X.warmed.entry hk hk' n with h | ⟨h, -⟩
    · rw [h]; exact hr
    · rw [hr] at h; cases h
  have hdg : decode c.code pc = .ok (.ldc_w n, 3) := by rw [C.2.1]; exact hd
  jvm_step X.here [C.1, hdg, Op.ldc_w.wp_string (e := e) (s := T) (f := F0 m pc lsA (st.map (jval E))) X.here.top hk' (by rw [he]; exact hcf) hcp hr']
  exact a1
theorem j_getstatic {n : Nat} (C : jCtx E mi p l s m args meth c) (hd : decode (jmb mi) pc = .ok (.getstatic n, 3)) (hl : Cond.fieldLink (jnm mi).cls n "java/lang/String" "COMPACT_STRINGS" "Z" ∈ jgood) (k : jGo E mi p l e R s m args below meth c Q c0 s0 (pc + 3) ls (.inl 1 :: st) M) : jGo E mi p l e R s m args below meth c Q c0 s0 pc ls st M := by
  intro lsA H locs I
  exact va_gets C.1 C.2.1 C.2.2.2.2.2.1.compact I.2.2.2 C.2.2.2.1 (C.2.2.2.2.1 _ hl) (fun x h => h) hd (k lsA H locs (I.pushI (by omega)))
theorem j_getstaticE {n : Nat} (C : jCtx E mi p l s m args meth c) (hd : decode (jmb mi) pc = .ok (.getstatic n, 3)) (hl : Cond.fieldLink (jnm mi).cls n "java/util/ArrayList" "DEFAULTCAPACITY_EMPTY_ELEMENTDATA" "[Ljava/lang/Object;" ∈ jgood) (k : jGo E mi p l e R s m args below meth c Q c0 s0 (pc + 3) ls (.inr (.inl 1000001) :: st) M) : jGo E mi p l e R s m args below meth c Q c0 s0 pc ls st M := by
  intro lsA H locs I
  have kk := k lsA H locs (I.push (v := .inr (.inl 1000001)) trivial rfl)
  rw [List.map_cons, show jval E (.inr (.inl 1000001)) = .ref (jad E 1000001) from rfl, jad_e] at kk
  exact va_gets C.1 C.2.1 C.2.2.2.2.2.1.emp.1 I.2.2.2 C.2.2.2.1 (C.2.2.2.2.1 _ hl) (fun x h => h) hd kk
theorem j_arraylengthE (C : jCtx E mi p l s m args meth c) (hd : decode (jmb mi) pc = .ok (.arraylength, 1)) (k : jGo E mi p l e R s m args below meth c Q c0 s0 (pc + 1) ls (.inl 0 :: st) M) : jGo E mi p l e R s m args below meth c Q c0 s0 pc ls (.inr (.inl 1000001) :: st) M := by
  intro lsA H locs I
  have kk := k lsA H locs (I.tl.pushI (by omega))
  show W p l e R s m args below meth c H locs _ _ Q (F0 m pc lsA (.ref (jad E 1000001) :: st.map (jval E)))
  rw [jad_e]
  exact va_tlen C.1 C.2.1 C.2.2.2.2.2.1.emp.2 I.2.2.2 (v := Int32.ofInt 0) (by decide +kernel) hd kk
theorem j_getfieldV {n i : Nat} (C : jCtx E mi p l s m args meth c) (hd : decode (jmb mi) pc = .ok (.getfield n, 3)) (hl : Cond.fieldLink (jnm mi).cls n "java/lang/String" "value" "[B" ∈ jgood) (h1 : 2000000 ≤ i) (h2 : i < 2000014) (k : jGo E mi p l e R s m args below meth c Q c0 s0 (pc + 3) ls (.inr (.inl (i + 1000000)) :: st) M) : jGo E mi p l e R s m args below meth c Q c0 s0 pc ls (.inr (.inl i) :: st) M := by
  intro lsA H locs I
  have hE := (C.2.2.2.2.2.1.lit.1 (i - 2000000) (by omega)).2.2.1
  have kk := k lsA H locs (I.tl.push trivial rfl)
  show W p l e R s m args below meth c H locs _ _ Q (F0 m pc lsA (.ref (jad E i) :: st.map (jval E)))
  rw [jad_k h1 (by omega)]
  refine vk_getf C.1 C.2.1 hE I.2.2.2 C.2.2.2.1 (C.2.2.2.2.1 _ hl) (fun x h => h) hd ?_
  rw [List.map_cons, show jval E (.inr (.inl (i + 1000000))) = .ref (jad E (i + 1000000)) from rfl, jad_v (by omega), show i + 1000000 - 3000000 = i - 2000000 by omega] at kk
  exact kk
theorem j_getfieldC {n i : Nat} (C : jCtx E mi p l s m args meth c) (hd : decode (jmb mi) pc = .ok (.getfield n, 3)) (hl : Cond.fieldLink (jnm mi).cls n "java/lang/String" "coder" "B" ∈ jgood) (h1 : 2000000 ≤ i) (h2 : i < 2000014) (k : jGo E mi p l e R s m args below meth c Q c0 s0 (pc + 3) ls (.inl 0 :: st) M) : jGo E mi p l e R s m args below meth c Q c0 s0 pc ls (.inr (.inl i) :: st) M := by
  intro lsA H locs I
  have hE := (C.2.2.2.2.2.1.lit.1 (i - 2000000) (by omega)).2.1
  have kk := k lsA H locs (I.tl.pushI (by omega))
  show W p l e R s m args below meth c H locs _ _ Q (F0 m pc lsA (.ref (jad E i) :: st.map (jval E)))
  rw [jad_k h1 (by omega)]
  exact vk_getf C.1 C.2.1 hE I.2.2.2 C.2.2.2.1 (C.2.2.2.2.1 _ hl) (fun x h => h) hd kk
theorem jlenl_get {q : Nat} (h : q < 14) : jlenl.getD q 0 = (jlit q).length := by
  unfold jlenl
  rw [List.getD_eq_getElem?_getD, List.getElem?_map, List.getElem?_range h]
  rfl
theorem jlit_small (q : Nat) : (jlit q).length ≤ 50 := by
  unfold jlit
  split <;> decide
theorem jlit_rng (q j : Nat) : 0 ≤ (jlit q).getD j 0 ∧ (jlit q).getD j 0 ≤ 127 := by
  have h : ∀ (lst : List Int), (lst.all fun z => decide (0 ≤ z ∧ z ≤ 127)) = true → 0 ≤ lst.getD j 0 ∧ lst.getD j 0 ≤ 127 := by
    intro lst hl
    rw [List.getD_eq_getElem?_getD]
    cases hq : lst[j]? with
    | none => simp
    | some z => exact of_decide_eq_true (List.all_eq_true.mp hl z (List.mem_of_getElem? hq))
  unfold jlit
  split <;> exact h _ (by decide)
theorem jbyt_get {q j : Nat} (h : q < 14) (hj : j < (jlit q).length) : (jbyt.getD q []).getD j 0 = Int32.ofInt ((jlit q).getD j 0) := by
  have e : jbyt.getD q [] = (jlit q).map Int32.ofInt := by
    unfold jbyt
    rw [List.getD_eq_getElem?_getD, List.getElem?_map, List.getElem?_range h]
    rfl
  rw [e, List.getD_eq_getElem?_getD, List.getElem?_map, List.getD_eq_getElem?_getD, List.getElem?_eq_getElem hj]
  rfl
theorem j_arraylengthL {i : Nat} (C : jCtx E mi p l s m args meth c) (hd : decode (jmb mi) pc = .ok (.arraylength, 1)) (h1 : 3000000 ≤ i) (h2 : i < 3000014) (k : jGo E mi p l e R s m args below meth c Q c0 s0 (pc + 1) ls (.inl ((jlit (i - 3000000)).length : Int) :: st) M) : jGo E mi p l e R s m args below meth c Q c0 s0 pc ls (.inr (.inl i) :: st) M := by
  intro lsA H locs I
  have hE := (C.2.2.2.2.2.1.lit.1 (i - 3000000) (by omega)).2.2.2
  rw [jlenl_get (by omega)] at hE
  have hs := jlit_small (i - 3000000)
  have kk := k lsA H locs (I.tl.pushI (by omega))
  show W p l e R s m args below meth c H locs _ _ Q (F0 m pc lsA (.ref (jad E i) :: st.map (jval E)))
  rw [jad_v h1]
  exact va_tlen C.1 C.2.1 hE I.2.2.2 Int32.ofInt_eq_ofNat.symm hd kk
theorem j_baloadL {i : Nat} {k0 : Int} (C : jCtx E mi p l s m args meth c) (hd : decode (jmb mi) pc = .ok (.baload, 1)) (h1 : 3000000 ≤ i) (h2 : i < 3000014) (h0 : 0 ≤ k0) (h3 : k0.toNat < (jlit (i - 3000000)).length) (k : jGo E mi p l e R s m args below meth c Q c0 s0 (pc + 1) ls (.inl ((jlit (i - 3000000)).getD k0.toNat 0) :: st) M) : jGo E mi p l e R s m args below meth c Q c0 s0 pc ls (.inl k0 :: .inr (.inl i) :: st) M := by
  intro lsA H locs I
  have hE := (C.2.2.2.2.2.1.lit.1 (i - 3000000) (by omega)).2.2.2
  rw [jlenl_get (by omega)] at hE
  obtain ⟨b1, b2⟩ := jinb I.hd.1 h0 h3
  have hr := jlit_rng (i - 3000000) k0.toNat
  have kk := k lsA H locs (I.tl.tl.pushI (by omega))
  show W p l e R s m args below meth c H locs _ _ Q (F0 m pc lsA (.int (Int32.ofInt k0) :: .ref (jad E i) :: st.map (jval E)))
  rw [jad_v h1]
  exact va_tb C.1 C.2.1 hE I.2.2.2 b1 (by rw [b2, jbyt_get (by omega) h3]; rfl) hd kk
/-- references compared -/
def jrf (E : JE) (v : JV) : Option Nat := match v with
  | .inr (.inl i) => some (jad E i)
  | _ => none
theorem jrf_val {v : JV} (h : jnl v = true) : jval E v = va_rf (jrf E v) := by
  rcases v with z | z | z
  · cases h
  · rfl
  · cases z <;> first | rfl | cases h
theorem jrf_eq {v w : JV} (hv : jnl v = true) (hw : jnl w = true) (ha : jap w v = true) : jrf E w = jrf E v ↔ jeqr w v = true := by
  rcases v with z | z | z
  · cases hv
  · rcases w with y | y | y
    · cases hw
    · have ha := of_decide_eq_true ha
      unfold jrf jeqr
      dsimp only
      rw [Option.some.injEq, decide_eq_true_eq]
      constructor
      · intro h
        rcases ha with q | ⟨q1, q2⟩
        · exact q
        · rw [jad_i q1, jad_i q2] at h
          omega
      · intro h
        rw [h]
    · cases y <;> first | (unfold jrf jeqr; simp; done) | cases hw
  · cases z <;> first
    | (rcases w with y | y | y
       · cases hw
       · unfold jrf jeqr; simp
       · cases y <;> first | (unfold jrf jeqr; simp; done) | cases hw)
    | cases hv
theorem j_acmpE {off : Int} {a : Nat} {v w : JV} (C : jCtx E mi p l s m args meth c) (hd : decode (jmb mi) pc = .ok (.if_acmp .eq off, 3)) (ht : (pc : Int) + off = (a : Int)) (hv : jnl v = true) (hw : jnl w = true) (ha : jap w v = true) (k1 : jeqr w v = true → jGo E mi p l e R s m args below meth c Q c0 s0 a ls st M) (k2 : jeqr w v = false → jGo E mi p l e R s m args below meth c Q c0 s0 (pc + 3) ls st M) : jGo E mi p l e R s m args below meth c Q c0 s0 pc ls (v :: w :: st) M := by
  intro lsA H locs I
  have he := jrf_eq (E := E) hv hw ha
  show W p l e R s m args below meth c H locs _ _ Q (F0 m pc lsA (jval E v :: jval E w :: st.map (jval E)))
  rw [jrf_val hv, jrf_val hw]
  exact lv_acmp_eq C.1 C.2.1 hd ht (fun h => k1 (he.mp h) lsA H locs I.tl.tl) (fun h => k2 (Bool.eq_false_iff.mpr fun hq => h (he.mpr hq)) lsA H locs I.tl.tl)
theorem j_acmpN {off : Int} {a : Nat} {v w : JV} (C : jCtx E mi p l s m args meth c) (hd : decode (jmb mi) pc = .ok (.if_acmp .ne off, 3)) (ht : (pc : Int) + off = (a : Int)) (hv : jnl v = true) (hw : jnl w = true) (ha : jap w v = true) (k1 : (!jeqr w v) = true → jGo E mi p l e R s m args below meth c Q c0 s0 a ls st M) (k2 : (!jeqr w v) = false → jGo E mi p l e R s m args below meth c Q c0 s0 (pc + 3) ls st M) : jGo E mi p l e R s m args below meth c Q c0 s0 pc ls (v :: w :: st) M := by
  intro lsA H locs I
  have he := jrf_eq (E := E) hv hw ha
  show W p l e R s m args below meth c H locs _ _ Q (F0 m pc lsA (jval E v :: jval E w :: st.map (jval E)))
  rw [jrf_val hv, jrf_val hw]
  exact lv_acmp_ne C.1 C.2.1 hd ht (fun h => k1 (by rw [show jeqr w v = false from Bool.eq_false_iff.mpr fun hq => h (he.mpr hq)]; rfl) lsA H locs I.tl.tl) (fun h => k2 (by rw [he.mp h]; rfl) lsA H locs I.tl.tl)
theorem jbr_inv {cb : Bool} {p1 p2 q1 : Nat} {la lb sa sb : List JV} {Ma Mb : JM} (h : jbr cb p1 p2 la sa Ma = some (.inl (q1, lb, sb, Mb))) : (cb = true ∧ p1 = q1 ∧ la = lb ∧ sa = sb ∧ Ma = Mb) ∨ (cb = false ∧ p2 = q1 ∧ la = lb ∧ sa = sb ∧ Ma = Mb) := by
  cases cb with
  | true =>
    have h : jN p1 la sa Ma = _ := h
    simp only [jN, Option.some.injEq, Sum.inl.injEq, Prod.mk.injEq] at h
    exact Or.inl ⟨rfl, h⟩
  | false =>
    have h : jN p2 la sa Ma = _ := h
    simp only [jN, Option.some.injEq, Sum.inl.injEq, Prod.mk.injEq] at h
    exact Or.inr ⟨rfl, h⟩
/-- casts -/
theorem j_cast {n i a : Nat} (C : jCtx E mi p l s m args meth c) (hd : decode (jmb mi) pc = .ok (.checkcast n, 3)) (hl : Cond.classLink (jnm mi).cls n (jcasn a) ∈ jgood) (ha : a = 101 ∨ a = 116 ∨ a = 11) (ht : jtag M i = a) (hi : i < 1000000) (k : jGo E mi p l e R s m args below meth c Q c0 s0 (pc + 3) ls (.inr (.inl i) :: st) M) : jGo E mi p l e R s m args below meth c Q c0 s0 pc ls (.inr (.inl i) :: st) M := by
  intro lsA H locs I
  have kk := k lsA H locs I
  obtain ⟨t, nn, hs⟩ : ∃ t nn, jsh M i = some (t, nn) := by
    unfold jtag at ht
    rw [if_pos hi] at ht
    cases hq : jsh M i with
    | none => rw [hq] at ht; simp at ht; omega
    | some q => exact ⟨q.1, q.2, rfl⟩
  have hta : t = a := by
    unfold jtag at ht
    rw [if_pos hi, hs] at ht
    exact ht
  subst hta
  have hcell := (I.2.1.1 i t nn hs).1
  unfold jcellAt at hcell
  have hv : ∃ cv : Cell, H[jB E + i]? = some cv ∧ cv.vm = .none ∧ s.vm.findClass (jcasn t) = some cv.cls := by
    rcases ha with rfl | rfl | rfl
    · rw [if_neg (by omega)] at hcell
      have hcn : "[" ++ (jfty 101).toString = jcasn 101 := by decide +kernel
      exact ⟨_, hcell.2, rfl, by rw [← hcn]; exact (jmust hcell.1 C).2.1⟩
    · rw [if_neg (by omega)] at hcell
      have hcn : "[" ++ (jfty 116).toString = jcasn 116 := by decide +kernel
      exact ⟨_, hcell.2, rfl, by rw [← hcn]; exact (jmust hcell.1 C).2.1⟩
    · rw [if_pos (by omega)] at hcell
      obtain ⟨-, cv, v1, v2, v3, -⟩ := hcell
      have hcls := (C.2.2.2.2.2.1.1.1 11 _ (jcl_get (by omega))).2
      have hcn : jclsn 11 = jcasn 11 := by decide +kernel
      exact ⟨cv, v1, v3, by rw [v2, ← hcn]; exact hcls.1⟩
  obtain ⟨cv, v1, v3, v4⟩ := hv
  show W p l e R s m args below meth c H locs _ _ Q (F0 m pc lsA (.ref (jad E i) :: st.map (jval E)))
  rw [List.map_cons, show jval E (.inr (.inl i)) = .ref (jad E i) from rfl] at kk
  rw [jad_i hi] at kk ⊢
  intro T hT X
  obtain ⟨vm', X', stp⟩ := X.checkcastYes C.1 C.2.2.2.1 (C.2.2.2.2.1 _ hl) (by rw [hT]; exact v1) (by rw [v3]; rfl) v4 (va_asg _ _) (g := F0 m pc lsA (.ref (jB E + i) :: st.map (jval E))) rfl rfl (by rw [C.2.1]; exact hd)
  obtain ⟨t2, a1, b1⟩ := kk (T.setVm vm') hT X'
  exact ⟨t2, stp t2 a1, b1⟩
/-- bytes copied -/
theorem jcpw : (jtw 6033 (.native arraycopyName) && jtw 6032 (.static arraycopyName) && jtw 1020 (.initialized "java/lang/System")) = true := by decide +kernel
theorem jnfw : nativeFrameWords "java/lang/System" "arraycopy" 5 ≤ 19 := by decide +kernel
theorem jcatw {rest : List JV} (h : (rest.all fun v => !jc2 v) = true) : ((rest.map (jval E)).map fun v => v.category).sum = rest.length := by
  induction rest with
  | nil => rfl
  | cons v r ih =>
    simp only [List.all_cons, Bool.and_eq_true, Bool.not_eq_true'] at h
    have h2 := ih h.2
    simp only [List.map_cons, List.sum_cons, List.length_cons]
    rw [jval_c2 h.1, h2]
    omega
theorem jclamp {z : Int} (hz : jok (.inl z)) (h0 : 0 ≤ z) : ¬ Int32.ofInt z < 0 ∧ (Int32.ofInt z).toInt = z ∧ (Int32.ofInt z).toNatClampNeg = z.toNat := by
  have e : (Int32.ofInt z).toInt = z := jofi hz
  refine ⟨?_, e, ?_⟩
  · rw [Int32.lt_iff_toInt_lt, e]; simp; omega
  · show (Int32.ofInt z).toInt.toNat = z.toNat
    rw [e]
theorem jRel_cell {H H1 : Heap} (h : jRel E M H) {i t n : Nat} {f : Nat → JV} (hs : jsh M i = some (t, n)) (hf : ∀ k, k < n → jok (f k)) (hc : jcellAt E (jB E + i) t n (fun k => jval E (f k)) H1) (z : H1.size = H.size) (o : ∀ q : Nat, q ≠ jB E + i → H1[q]? = H[q]?) : jRel E (M.1, (fun a j => if a = i then f j else M.2.1 a j), M.2.2) H1 := by
  refine ⟨fun j t1 n1 hj => ?_, fun c => z.trans (h.2.1 c), h.2.2⟩
  have hj' : jsh M j = some (t1, n1) := hj
  obtain ⟨h1, h2, h3⟩ := h.1 j t1 n1 hj'
  by_cases hij : j = i
  · subst hij
    rw [hs] at hj'
    cases hj'
    refine ⟨jcellAt_to hc fun k hk => ?_, fun k hk => ?_, h3⟩
    · unfold jget; simp
    · unfold jget; simp only [if_true]; exact hf k hk
  · have e : ∀ k, jget (M.1, (fun a j => if a = i then f j else M.2.1 a j), M.2.2) j k = jget M j k := fun k => by
      unfold jget
      simp [hij]
    refine ⟨jcellAt_to (jcellAt_kept h1 (o _ (by omega))) fun k _ => by rw [e], fun k hk => by rw [e]; exact h2 k hk, h3⟩
theorem jcopied_eq {src sp dst dp n : Nat} : jcopied M src sp dst dp n = (M.1, (fun a j => if a = dst then (if dp ≤ j ∧ j < dp + n then jsrc M src (sp + (j - dp)) else jget M dst j) else M.2.1 a j), M.2.2) := by
  unfold jcopied
  congr 1
  congr 1
  funext a j
  by_cases h : a = dst
  · subst h
    by_cases h2 : dp ≤ j ∧ j < dp + n
    · rw [if_pos ⟨rfl, h2⟩, if_pos rfl, if_pos h2]
    · rw [if_neg (fun q => h2 q.2), if_pos rfl, if_neg h2]
      rfl
  · rw [if_neg (fun q => h q.1), if_neg h]
theorem j_copyG {idx src dst b n0 aS : Nat} {n dp sp : Int} {cs : Cell} (C : jCtx E mi p l s m args meth c) (hd : decode (jmb mi) pc = .ok (.invokestatic idx, 3)) (hl : Cond.methodLink (jnm mi).cls idx arraycopyName ∈ jgood) (hR1 : 1 ≤ R.frames) (hR2 : 33 ≤ R.locals) (hst3 : st.length ≤ 3) (hc2 : (st.all fun v => !jc2 v) = true)
    (hsd : jsh M dst = some (101, b)) (hdst : dst < 1000000) (h0 : 0 ≤ n) (h1 : 0 ≤ sp) (h2 : 0 ≤ dp) (h3 : sp + n ≤ (n0 : Int)) (h4 : dp + n ≤ (b : Int)) (hby : ((List.range n.toNat).all fun k => jby1 (jsrc M src (sp.toNat + k))) = true)
    (k : jGo E mi p l e R s m args below meth c Q c0 s0 (pc + 3) ls st (jcopied M src sp.toNat dst dp.toNat n.toNat)) {lsA : Array Slot} {H : Heap} {locs : List Loc} (I : jInv E mi s lsA H locs ls (.inl n :: .inl dp :: .inr (.inl dst) :: .inl sp :: .inr (.inl src) :: st) M)
    (hc0 : H[aS]? = some cs) (hs6 : s.isArrayOf cs .byte) (hs3 : cs.vm ≠ .unknown) (hs4 : n0 ≤ cs.slots.size) (hs5 : ∀ j, j < n0 → cs.slots[j]? = some (jval E (jsrc M src j))) : W p l e R s m args below meth c H locs (jcells M - c0) (jslots M - s0) Q (F0 m pc lsA (.int (Int32.ofInt n) :: .int (Int32.ofInt dp) :: .ref (jB E + dst) :: .int (Int32.ofInt sp) :: .ref aS :: st.map (jval E))) := by
  have hts := C.2.2.2.2.1
  have hw := jcpw
  simp only [Bool.and_eq_true] at hw
  obtain ⟨⟨w1, w2⟩, w3⟩ := hw
  obtain ⟨n1, n2, n3⟩ := jclamp I.hd.1 h0
  obtain ⟨d1, d2, d3⟩ := jclamp I.tl.hd.1 h2
  obtain ⟨p1, p2, p3⟩ := jclamp I.tl.tl.tl.hd.1 h1
  obtain ⟨g1, g2⟩ := jarr I.2.1 hsd (by omega)
  obtain ⟨hs7, k0, hk0, cm0, hkk0⟩ := hs6
  obtain ⟨-, k1, hk1, cm1, hkk1⟩ := (jmust g1 C).1 b (fun k => jval E (jget M dst k))
  have hfty : jfty 101 = .byte := rfl
  rw [hfty] at hkk1
  have hby' : ∀ i, i < n.toNat → ∃ z, jsrc M src (sp.toNat + i) = .inl z ∧ -128 ≤ z ∧ z ≤ 127 := by
    intro i hi
    have := List.all_eq_true.mp hby i (List.mem_range.mpr hi)
    unfold jby1 at this
    split at this
    · rename_i z hz
      exact ⟨z, hz, of_decide_eq_true this⟩
    · cases this
  intro T hT X
  obtain ⟨vm', X', step⟩ := X.arraycopy C.1 C.2.2.2.1 (hts _ hl) (hts _ (jtw_mem w1)) (hts _ (jtw_mem w2)) (hts _ (jtw_mem w3)) (src := aS) (dst := jB E + dst) (cs := cs) (cd := arrV (jC E 101) b (fun k => jval E (jget M dst k))) (srcPos := Int32.ofInt sp) (destPos := Int32.ofInt dp) (n := Int32.ofInt n) (by rw [hT]; exact hc0) (by rw [hT]; exact g2)
    hs7 (fun _ h => by cases h) hs3 (fun h => by cases h) hk0 hk1 hkk0 hkk1 (by simp [refKind]) p1 d1 n1
    (by rw [p2, n2]; omega)
    (by rw [d2, n2, arrV_size]; omega)
    (fun vm₁ _ i hi => by
      rw [n3] at hi
      rw [p3]
      obtain ⟨z, z1, z2⟩ := hby' i hi
      have e : cs.slots.getD (sp.toNat + i) .null = .int (Int32.ofInt z) := by
        rw [Array.getD_eq_getD_getElem?, hs5 _ (by omega), z1]
        rfl
      refine ⟨?_, ?_⟩
      · rw [e]
        exact jfits_b z2
      · rw [e]
        exact trivial)
    (g := F0 m pc lsA (.int (Int32.ofInt n) :: .int (Int32.ofInt dp) :: .ref (jB E + dst) :: .int (Int32.ofInt sp) :: .ref aS :: st.map (jval E))) rfl (by rw [C.2.2.1]; exact I.1.1) (rest := st.map (jval E)) rfl (by rw [C.2.1]; exact hd) hR1 (by show 2 * 0 + _ + _ ≤ _; have := jcatw (E := E) hc2; have := jnfw; omega)
  have e1 : copied cs (arrV (jC E 101) b (fun k => jval E (jget M dst k))) (Int32.ofInt sp) (Int32.ofInt dp) (Int32.ofInt n) = arrV (jC E 101) b (fun j => jval E (va_cpy (fun j => jsrc M src j) (fun j => jget M dst j) sp.toNat dp.toNat n.toNat j)) := by
    have h := va_copiedX (fun z : JV => jval E z) cs (jC E 101) (n0 := n0) (n1 := b) (sp := sp.toNat) (dp := dp.toNat) (n := n.toNat) (fun j => jsrc M src j) (fun j => jget M dst j) hs5 (by omega)
    unfold copied
    rw [p3, d3, n3]
    exact h
  rw [e1] at X' step
  generalize hF : (fun j => va_cpy (fun j => jsrc M src j) (fun j => jget M dst j) sp.toNat dp.toNat n.toNat j) = F at X' step
  have hFe : jcopied M src sp.toNat dst dp.toNat n.toNat = (M.1, (fun a j => if a = dst then F j else M.2.1 a j), M.2.2) := by
    rw [jcopied_eq, ← hF]
    rfl
  have hFj : ∀ j, va_cpy (fun j => jsrc M src j) (fun j => jget M dst j) sp.toNat dp.toNat n.toNat j = F j := fun j => congrFun hF j
  simp only [hFj] at X' step
  have hlt : jB E + dst < H.size := (Array.getElem?_eq_some_iff.mp g2).1
  have hheap : ((T.setVm vm').setCell (jB E + dst) (arrV (jC E 101) b (fun j => jval E (F j)))).heap = H.setIfInBounds (jB E + dst) (arrV (jC E 101) b (fun j => jval E (F j))) := by rw [← hT]; rfl
  have oq : ∀ q : Nat, q ≠ jB E + dst → (H.setIfInBounds (jB E + dst) (arrV (jC E 101) b (fun j => jval E (F j))))[q]? = H[q]? := fun q hq => by simp [Array.getElem?_setIfInBounds, Ne.symm hq]
  have hz : (H.setIfInBounds (jB E + dst) (arrV (jC E 101) b (fun j => jval E (F j)))).size = H.size := by simp
  have hok : ∀ j, j < b → jok (F j) := by
    intro j hj
    rw [← hFj]
    unfold va_cpy
    split
    · rename_i hq
      obtain ⟨z, z1, z2, z3⟩ := hby' (j - dp.toNat) (by omega)
      dsimp only
      rw [z1]
      show -2147483648 ≤ z ∧ z ≤ 2147483647
      omega
    · exact (I.2.1.1 dst 101 b hsd).2.1 j hj
  obtain ⟨t, a1, b1⟩ := k lsA _ _ ⟨I.1, by rw [hFe]; exact jRel_cell I.2.1 hsd hok (by
      unfold jcellAt
      rw [if_neg (by omega)]
      exact ⟨g1, by simp [Array.getElem?_setIfInBounds, hlt]⟩) hz oq, I.tl.tl.tl.tl.tl.2.2.1, ⟨by rw [hz]; exact I.2.2.2.1, fun q q1 q2 => by
        rw [oq q (fun e => q2 (by rw [e]; exact Nat.le_add_right _ _))]
        exact I.2.2.2.2.1 q q1 q2, fun q hq => by
        rcases List.mem_append.mp hq with h | h
        · exact I.2.2.2.2.2 q h
        · obtain ⟨z, -, hz⟩ := List.mem_map.mp h
          rw [← hz]
          exact Nat.le_add_right _ _⟩⟩ _ hheap X'
  exact ⟨t, step t a1, b1⟩
theorem j_copy {idx src dst a b : Nat} {n dp sp : Int} (C : jCtx E mi p l s m args meth c) (hd : decode (jmb mi) pc = .ok (.invokestatic idx, 3)) (hl : Cond.methodLink (jnm mi).cls idx arraycopyName ∈ jgood) (hR1 : 1 ≤ R.frames) (hR2 : 33 ≤ R.locals) (hst3 : st.length ≤ 3) (hc2 : (st.all fun v => !jc2 v) = true)
    (hss : jbytes M src = some a) (hsd : jsh M dst = some (101, b)) (hdst : dst < 1000000) (h0 : 0 ≤ n) (h1 : 0 ≤ sp) (h2 : 0 ≤ dp) (h3 : sp + n ≤ (a : Int)) (h4 : dp + n ≤ (b : Int)) (hby : ((List.range n.toNat).all fun k => jby1 (jsrc M src (sp.toNat + k))) = true)
    (k : jGo E mi p l e R s m args below meth c Q c0 s0 (pc + 3) ls st (jcopied M src sp.toNat dst dp.toNat n.toNat)) : jGo E mi p l e R s m args below meth c Q c0 s0 pc ls (.inl n :: .inl dp :: .inr (.inl dst) :: .inl sp :: .inr (.inl src) :: st) M := by
  intro lsA H locs I
  show W p l e R s m args below meth c H locs _ _ Q (F0 m pc lsA (.int (Int32.ofInt n) :: .int (Int32.ofInt dp) :: .ref (jad E dst) :: .int (Int32.ofInt sp) :: .ref (jad E src) :: st.map (jval E)))
  rw [jad_i hdst]
  unfold jbytes at hss
  by_cases hlit : 3000000 ≤ src ∧ src < 3000014
  · rw [if_pos hlit] at hss
    have hE := ((C.2.2.2.2.2.1.lit.kept I.2.2.2.2.1).1 (src - 3000000) (by omega)).2.2.2
    rw [jlenl_get (by omega)] at hE
    obtain ⟨cs, e1, e2, e3, e4, -, e5, -⟩ := hE
    rw [jad_v hlit.1]
    have ha : a = (jlit (src - 3000000)).length := (Option.some.inj hss).symm
    refine j_copyG C hd hl hR1 hR2 hst3 hc2 hsd hdst h0 h1 h2 h3 h4 hby k I e1 e2 e3 (by rw [ha]; exact e4) fun j hj => ?_
    rw [e5 j (by rw [← ha]; exact hj)]
    show some (Value.int ((jbyt.getD (src - 3000000) []).getD j 0)) = _
    rw [jbyt_get (by omega) (by rw [← ha]; exact hj)]
    unfold jsrc
    rw [if_pos hlit]
    rfl
  · rw [if_neg hlit] at hss
    split at hss
    · rename_i t nn hsh
      split at hss
      · rename_i hq
        obtain ⟨hq1, rfl⟩ := hq
        obtain rfl := Option.some.inj hss
        obtain ⟨g1, g2⟩ := jarr I.2.1 hsh (by omega)
        rw [jad_i hq1]
        refine j_copyG C hd hl hR1 hR2 hst3 hc2 hsd hdst h0 h1 h2 h3 h4 hby k I g2 ((jmust g1 C).1 _ _) (fun h => by cases h) (by rw [arrV_size]; exact Nat.le_refl _) fun j hj => ?_
        unfold jsrc
        rw [if_neg hlit]
        exact arrV_read _ _ hj
      · cases hss
    · cases hss
/-- a row of bytes cloned -/
theorem jclw : (jtw 6091 (.native jcloneN) && jtw 6092 (.instanceMethod jcloneN) && jtw 6093 (.selects "[B" jcloneB jcloneN) && jtw 6090 (.sameMethod "[B" "java/lang/Object" "clone" "()Ljava/lang/Object;")) = true := by decide +kernel
theorem j_clone {idx i n : Nat} (C : jCtx E mi p l s m args meth c) (hd : decode (jmb mi) pc = .ok (.invokevirtual idx, 3)) (hl : Cond.methodLink (jnm mi).cls idx jcloneB ∈ jgood) (hR1 : 1 ≤ R.frames) (hR2 : 33 ≤ R.locals) (hst3 : st.length ≤ 3) (hc2 : (st.all fun v => !jc2 v) = true) (hs : jsh M i = some (101, n)) (hi : i < 1000000) (hn : n < 60000000) (hc : jclean M = true) (hm : M.1.length < 1000000) (hby : ((List.range n).all fun k => jby1 (jget M i k)) = true)
    (hr1 : jcells M + 1 - c0 ≤ R.cells) (hr2 : jslots M + n - s0 ≤ R.slots) (hc0 : c0 ≤ jcells M) (hs0 : s0 ≤ jslots M) (k : jGo E mi p l e R s m args below meth c Q c0 s0 (pc + 3) ls (.inr (.inl M.1.length) :: st) (jpush M 101 n (fun k => jget M i k))) : jGo E mi p l e R s m args below meth c Q c0 s0 pc ls (.inr (.inl i) :: st) M := by
  intro lsA H locs I
  have hts := C.2.2.2.2.1
  have hw := jclw
  simp only [Bool.and_eq_true] at hw
  obtain ⟨⟨⟨w1, w2⟩, w3⟩, w4⟩ := hw
  have hz := I.2.1.2.1 hc
  obtain ⟨g1, g2⟩ := jarr I.2.1 hs (by omega)
  obtain ⟨m1, m2, m3⟩ := jmust g1 C
  have hnmB : "[" ++ (jfty 101).toString = "[B" := by decide +kernel
  rw [hnmB] at m2
  have hfty : jfty 101 = .byte := rfl
  rw [hfty] at m1
  obtain ⟨c9, t9, f1, f2, f3⟩ := Cond.castable_spec (va_Nw.use (A := args) rfl C.2.2.2.2.2.1.clo)
  cases m2.symm.trans f1
  have hby' : ∀ j, j < n → ∃ z, jget M i j = .inl z ∧ -128 ≤ z ∧ z ≤ 127 := by
    intro j hj
    have := List.all_eq_true.mp hby j (List.mem_range.mpr hj)
    unfold jby1 at this
    split at this
    · rename_i z hz
      exact ⟨z, hz, of_decide_eq_true this⟩
    · cases this
  show W p l e R s m args below meth c H locs _ _ Q (F0 m pc lsA (.ref (jad E i) :: st.map (jval E)))
  rw [jad_i hi]
  generalize hcell : arrV (jC E 101) n (fun k => jval E (jget M i k)) = cell at g2
  have hsz : cell.slots.size = n := by rw [← hcell]; exact arrV_size _ _ _
  have hvm0 : cell.vm = .none := by rw [← hcell]; rfl
  have hcl0 : cell.cls = jC E 101 := by rw [← hcell]; rfl
  have hcellE : ({ cls := cell.cls, slots := cell.slots } : Cell) = cell := by rw [← hcell]; rfl
  intro T hT X
  have hcellT : T.heap[jB E + i]? = some cell := by rw [hT]; exact g2
  obtain ⟨-, kA, hkA, comp, hkind⟩ := State.isArrayOf_alike X.warmed.alike (m1 0 (fun _ => .null))
  obtain ⟨-, kS, hkS, compS, hkindS⟩ := m1 0 (fun _ => .null)
  obtain ⟨vm', X', stp⟩ := X.cloneArray C.1 C.2.2.2.1 (hts _ hl) (hts _ (jtw_mem w4)) (hts _ (jtw_mem w1)) (hts _ (jtw_mem w2)) (hts _ (jtw_mem w3)) (a := jB E + i) (cell := cell) hcellT (fun k h => by rw [hvm0] at h; cases h) (by rw [hvm0]; exact fun h => by cases h) (by rw [hcl0]; exact m2) f2 (by rw [hcl0]; exact f3)
    (fun j v hv => by
      rw [hcl0]
      have hk' : T.vm.classes[jC E 101]? = some kA := hkA
      have hj : j < n := by rw [← hsz]; exact (Array.getElem?_eq_some_iff.mp hv).1
      obtain ⟨z, z1, z2⟩ := hby' j hj
      have hv2 : v = .int (Int32.ofInt z) := by
        rw [← hcell, arrV_read _ _ hj, z1] at hv
        exact (Option.some.inj hv).symm
      have hfb := jfits_b z2
      rw [← hv2] at hfb
      simpa [State.fitsSlot, State.slotType?, hk', hkind] using hfb)
    (g := F0 m pc lsA (.ref (jB E + i) :: st.map (jval E))) rfl (by rw [C.2.2.1]; exact I.1.1) rfl (by rw [C.2.1]; exact hd) hR1 (by show 2 * 0 + _ + 14 ≤ _; have := jcatw (E := E) hc2; omega) (by omega) (by rw [hsz]; omega) (hloader := by rw [hcl0]; exact Vm.clonesLoader_of_array hkS hkindS)
  rw [hcellE, hsz] at X'
  generalize hH1 : H.push cell = H1
  have z1 : H1.size = H.size + 1 := by rw [← hH1, Array.size_push]
  have e1 : H1[H.size]? = some cell := by rw [← hH1, Array.getElem?_push_size]
  have o1 : ∀ q : Nat, q < H.size → H1[q]? = H[q]? := fun q hq => by rw [← hH1, Array.getElem?_push, if_neg (Nat.ne_of_lt hq)]
  have kk := k lsA H1 locs ⟨I.1, jRel_push I.2.1 hc (fun j hj => (I.2.1.1 i 101 n hs).2.1 j hj) (by omega) (by
      unfold jcellAt
      rw [if_neg (by omega)]
      exact ⟨g1, by rw [e1, ← hcell]⟩) z1 o1, fun v hv => (List.mem_cons.mp hv).elim (fun q => by rw [q]; exact ⟨trivial, rfl⟩) (I.tl.2.2.1 v), ⟨Nat.le_trans I.2.2.2.1 (by omega), fun q h1 h2 => (o1 q (Nat.lt_of_lt_of_le h1 I.2.2.2.1)).trans (I.2.2.2.2.1 q h1 h2), I.2.2.2.2.2⟩⟩
  have ee1 : ∀ f, jcells (jpush M 101 n f) - c0 = jcells M - c0 + 1 := fun f => by show jcells M + 1 - c0 = _; omega
  have ee2 : ∀ f, jslots (jpush M 101 n f) - s0 = jslots M - s0 + n := fun f => by show jslots M + n - s0 = _; omega
  rw [ee1, ee2] at kk
  have e3 : jval E (.inr (.inl M.1.length)) = .ref H.size := by
    show Value.ref (jad E M.1.length) = _
    rw [jad_i hm, hz]
  rw [List.map_cons, e3] at kk
  obtain ⟨t, b1, b2⟩ := kk ((T.setVm vm').pushCell cell) (by rw [← hH1, ← hT]; rfl) X'
  refine ⟨t, stp t ?_, b2⟩
  rw [hcellE, hT]
  exact b1
end J11
