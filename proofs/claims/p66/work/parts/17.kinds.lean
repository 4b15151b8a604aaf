/-! THE PRINTED MACHINE HELD AGAINST THE PURE ONE: each kind of call -/
def okZ (k : Nat) : Bool := decide (jht k ≤ 30) && decide ((jnm k).name ≠ "law") && (match parseMethodDescriptor (jnm k).desc with | some d => decide (d.parameters.length + (if jsta k then 0 else 1) ≤ jmaxL k) | none => false)
theorem okZa_0 : (List.range' (33 * 0) 33).all (fun k => decide (k = 274 ∨ 275 ≤ k) || okZ k) = true := by decide +kernel
theorem okZa_1 : (List.range' (33 * 1) 33).all (fun k => decide (k = 274 ∨ 275 ≤ k) || okZ k) = true := by decide +kernel
theorem okZa_2 : (List.range' (33 * 2) 33).all (fun k => decide (k = 274 ∨ 275 ≤ k) || okZ k) = true := by decide +kernel
theorem okZa_3 : (List.range' (33 * 3) 33).all (fun k => decide (k = 274 ∨ 275 ≤ k) || okZ k) = true := by decide +kernel
theorem okZa_4 : (List.range' (33 * 4) 33).all (fun k => decide (k = 274 ∨ 275 ≤ k) || okZ k) = true := by decide +kernel
theorem okZa_5 : (List.range' (33 * 5) 33).all (fun k => decide (k = 274 ∨ 275 ≤ k) || okZ k) = true := by decide +kernel
theorem okZa_6 : (List.range' (33 * 6) 33).all (fun k => decide (k = 274 ∨ 275 ≤ k) || okZ k) = true := by decide +kernel
theorem okZa_7 : (List.range' (33 * 7) 33).all (fun k => decide (k = 274 ∨ 275 ≤ k) || okZ k) = true := by decide +kernel
theorem okZa_8 : (List.range' (33 * 8) 33).all (fun k => decide (k = 274 ∨ 275 ≤ k) || okZ k) = true := by decide +kernel
theorem okZa_l : ∀ i ∈ [0, 1, 2, 3, 4, 5, 6, 7, 8], (List.range' (33 * i) 33).all (fun k => decide (k = 274 ∨ 275 ≤ k) || okZ k) = true := List.forall_mem_cons.mpr ⟨okZa_0, List.forall_mem_cons.mpr ⟨okZa_1, List.forall_mem_cons.mpr ⟨okZa_2, List.forall_mem_cons.mpr ⟨okZa_3, List.forall_mem_cons.mpr ⟨okZa_4, List.forall_mem_cons.mpr ⟨okZa_5, List.forall_mem_cons.mpr ⟨okZa_6, List.forall_mem_cons.mpr ⟨okZa_7, List.forall_mem_cons.mpr ⟨okZa_8, fun _ h => absurd h List.not_mem_nil⟩⟩⟩⟩⟩⟩⟩⟩⟩
theorem okZ_all {k : Nat} (h : k < 275) : (decide (k = 274 ∨ 275 ≤ k) || okZ k) = true := by
  have hm : k / 33 ∈ [0, 1, 2, 3, 4, 5, 6, 7, 8] := by
    rw [show [0, 1, 2, 3, 4, 5, 6, 7, 8] = List.range 9 from rfl]
    exact List.mem_range.mpr (by omega)
  refine List.all_eq_true.mp (okZa_l _ hm) k ?_
  rw [List.mem_range']
  exact ⟨k % 33, Nat.mod_lt _ (by decide), by omega⟩
theorem jY {y : Nat} (h : okY y = true) : jcw1 y ∈ jgood ∧ (if jsta y = true then Cond.static (jnm y) ∈ jgood else Cond.instanceMethod (jnm y) ∈ jgood) ∧ ((jpl y).2.1 = 99999999 ∨ (Cond.selects (jrcv y) (jref y) (jnm y) ∈ jgood ∧ ((jref y = jnm y ∧ jrcv y = (jnm y).cls) ∨ Cond.sameMethod (jref y).cls (jref y).cls (jref y).name (jref y).desc ∈ jgood))) ∧ Cond.initialized (jnm y).cls ∈ jgood ∧ plainName (jnm y).cls = true ∧ ((jnm y).cls ≠ "java/lang/invoke/MethodHandle" ∧ (jnm y).cls ≠ "java/lang/invoke/VarHandle") ∧ jmaxL y ≤ 14 ∧ ((jref y).cls ≠ "java/lang/invoke/MethodHandle" ∧ (jref y).cls ≠ "java/lang/invoke/VarHandle") := by
  unfold okY at h
  simp only [Bool.and_eq_true, Bool.or_eq_true, decide_eq_true_eq] at h
  obtain ⟨⟨⟨⟨⟨⟨⟨⟨⟨h1, h2⟩, h3⟩, h4⟩, h5⟩, h6⟩, h7⟩, h8⟩, h9⟩, h10⟩ := h
  refine ⟨jtw_mem h1, ?_, h3.imp id fun q => ⟨jtw_mem q.1, ?_⟩, jtw_mem h4, h5, ⟨h6, h7⟩, h8, h9, h10⟩
  · split
    · rename_i hs
      rw [if_pos hs] at h2
      exact jtw_mem h2
    · rename_i hs
      rw [if_neg hs] at h2
      exact jtw_mem h2
  · have q2 := q.2
    split at q2
    · rename_i hc
      exact Or.inl hc
    · exact Or.inr (jtw_mem q2)
section J17
variable {E : JE} {mi : Nat} {p : Program} {l : Launch} {e : Env} {R : Room} {s : State} {m : MethodId} {args : Array Value} {below : List Frame} {meth : Method} {c : Code} {Q : State → Prop} {c0 s0 pc : Nat} {ls st : List JV} {M M1 : JM}
theorem jcat {rest : List JV} : ((rest.map (jval E)).map fun v => v.category).sum = jwds rest := by
  induction rest with
  | nil => rfl
  | cons v r ih =>
    unfold jwds at ih ⊢
    simp only [List.map_cons, List.sum_cons]
    rw [ih]
    by_cases h : jc2 v = true
    · rw [if_pos h]
      rcases v with z | z | z
      · cases h
      · cases h
      · cases z <;> first | rfl | cases h
    · rw [if_neg h, jval_c2 (by simpa using h)]
theorem j_fin {v : Option JV} {lsA : Array Slot} {H : Heap} {locs : List Loc} {st0 : List Value} {rest : List JV} {a : Array Value} (I : jInv E mi s lsA H locs ls st M) (hrs : ∀ v ∈ rest, jok v ∧ jkn v = true) (hle : jle M M1) (hc0 : c0 ≤ jcells M) (hs0 : s0 ≤ jslots M)
    (hr : va_Run p l e R s m args below meth c H locs (jcells M - c0) (jslots M - s0) (jcells M1 - jcells M) (jslots M1 - jslots M) (F0 m pc lsA st0) (rest.map (jval E)) (jQc E M1 v a) (jA E))
    (kk : jGo E mi p l e R s m args below meth c Q c0 s0 (pc + 3) ls (v.toList ++ rest) M1) :
    W p l e R s m args below meth c H locs (jcells M - c0) (jslots M - s0) Q (F0 m pc lsA st0) := by
  have e1 : jcells M - c0 + (jcells M1 - jcells M) = jcells M1 - c0 := by have := hle.1; omega
  have e2 : jslots M - s0 + (jslots M1 - jslots M) = jslots M1 - s0 := by have := hle.2; omega
  refine j_after hr I.2.2.2 fun H1 locs1 hR hS hok => ?_
  rw [e1, e2]
  have h := kk lsA H1 locs1 ⟨I.1, hR, fun w hw => (List.mem_append.mp hw).elim (fun q => by
      have q2 := hok w (by cases v with
        | none => cases q
        | some x => rw [List.mem_singleton.mp q])
      exact ⟨q2, jok_kn q2⟩) (hrs w), hS⟩
  rw [List.map_append] at h
  cases v <;> exact h
theorem j_fin5 {v : Option JV} {lsA : Array Slot} {H : Heap} {locs : List Loc} {st0 : List Value} {rest : List JV} {a : Array Value} (I : jInv E mi s lsA H locs ls st M) (hrs : ∀ v ∈ rest, jok v ∧ jkn v = true) (hle : jle M M1) (hc0 : c0 ≤ jcells M) (hs0 : s0 ≤ jslots M)
    (hr : va_Run5 p l e R s m args below meth c H locs (jcells M - c0) (jslots M - s0) (jcells M1 - jcells M) (jslots M1 - jslots M) (F0 m pc lsA st0) (rest.map (jval E)) (jQc E M1 v a) (jA E))
    (kk : jGo E mi p l e R s m args below meth c Q c0 s0 (pc + 5) ls (v.toList ++ rest) M1) :
    W p l e R s m args below meth c H locs (jcells M - c0) (jslots M - s0) Q (F0 m pc lsA st0) := by
  have e1 : jcells M - c0 + (jcells M1 - jcells M) = jcells M1 - c0 := by have := hle.1; omega
  have e2 : jslots M - s0 + (jslots M1 - jslots M) = jslots M1 - s0 := by have := hle.2; omega
  refine j_after5 hr I.2.2.2 fun H1 locs1 hR hS hok => ?_
  rw [e1, e2]
  have h := kk lsA H1 locs1 ⟨I.1, hR, fun w hw => (List.mem_append.mp hw).elim (fun q => by
      have q2 := hok w (by cases v with
        | none => cases q
        | some x => rw [List.mem_singleton.mp q])
      exact ⟨q2, jok_kn q2⟩) (hrs w), hS⟩
  rw [List.map_append] at h
  cases v <;> exact h
/-- the room and the words of a callee -/
theorem jB0 {y : Nat} (C : jCtx E mi p l s m args meth c) (hY : okY y = true) (hht : jht y + 1 ≤ jht mi) (hR1 : jht mi ≤ R.frames) (hR2 : 33 * jht mi ≤ R.locals) : (jrm y M M1).cells = jcells M1 - jcells M ∧ (jrm y M M1).slots = jslots M1 - jslots M ∧ (jrm y M M1).frames + 1 ≤ R.frames ∧ 8 + (jmaxL y + 11) + (jrm y M M1).locals ≤ R.locals ∧ (∀ w ∈ jws y, ∀ (a' : Array Value) (U : State), s.WarmedH U.vm → w.before a' U = true) ∧ Cond.code (jnm y) (jmb y) (jmaxL y) (jrt y) ∈ jws y := by
  obtain ⟨y1, y2, y3, y4, y5, y6, y7, y8⟩ := jY hY
  refine ⟨rfl, rfl, ?_, ?_, jws_warm y1 C, List.mem_cons_self⟩
  · show jht y + 1 ≤ R.frames; omega
  · show 8 + (jmaxL y + 11) + 33 * jht y ≤ R.locals; omega
theorem jpars {x : MethodName} {b : Nat} (hpar : (parseMethodDescriptor x.desc).map (fun d => d.parameters.length) = some b) : ∀ sig, parseMethodDescriptor x.desc = some sig → b = sig.parameters.length := fun sig h => by
  rw [h] at hpar
  exact (Option.some.inj hpar).symm
theorem jB_of {y i b : Nat} (C : jCtx E mi p l s m args meth c) (hY : okY y = true) (hht : jht y + 1 ≤ jht mi) (hR1 : jht mi ≤ R.frames) (hR2 : 33 * jht mi ≤ R.locals) (hpar : (parseMethodDescriptor (jnm y).desc).map (fun d => d.parameters.length) = some b) (hl : Cond.methodLink (jnm mi).cls i (jnm y) ∈ jgood) : CallB R s args (jnm mi).cls i (jnm y) (jmb y) (jmaxL y) (jrt y) (jws y) (jrm y M M1) (jcells M1 - jcells M) (jslots M1 - jslots M) b := by
  obtain ⟨y1, y2, y3, y4, y5, y6, y7, y8⟩ := jY hY
  have hts := C.2.2.2.2.1
  obtain ⟨b1, b2, b3, b4, b5, b6⟩ := jB0 (M := M) (M1 := M1) C hY hht hR1 hR2
  exact ⟨b1, b2, b3, b4, b5, b6, hts _ y1, hts _ y4, y6, jpars hpar, hts _ hl⟩
theorem jN_of {y i b : Nat} {host : String} (C : jCtx E mi p l s m args meth c) (hY : okY y = true) (hht : jht y + 1 ≤ jht mi) (hR1 : jht mi ≤ R.frames) (hR2 : 33 * jht mi ≤ R.locals) (hpar : (parseMethodDescriptor (jnm y).desc).map (fun d => d.parameters.length) = some b) (hl : ((jnm mi).cls, i, jnm y, host) ∈ jnests) : va_CN R s args (jnm mi).cls i (jnm y) host (jmb y) (jmaxL y) (jrt y) (jws y) (jrm y M M1) (jcells M1 - jcells M) (jslots M1 - jslots M) b := by
  obtain ⟨y1, y2, y3, y4, y5, y6, y7, y8⟩ := jY hY
  have hts := C.2.2.2.2.1
  exact ⟨jB0 C hY hht hR1 hR2, hts _ y1, hts _ y4, y6, jpars hpar, va_Nw.use (A := args) rfl (C.2.2.2.2.2.1.nest _ hl)⟩
/-- the receiver -/
theorem jrecv {y i : Nat} {lsA : Array Slot} {H : Heap} {locs : List Loc} (C : jCtx E mi p l s m args meth c) (I : jInv E mi s lsA H locs ls st M) (htag : jtag M i = jcls y) (h99 : jtag M i < 16) : ∃ cellB : Cell, H[jad E i]? = some cellB ∧ cellB.vm.isStatics = false ∧ s.vm.findClass (jrcv y) = some cellB.cls := by
  have hcn : jclsn (jtag M i) = jrcv y := by
    rw [htag] at h99 ⊢
    unfold jcls at h99 ⊢
    unfold jrcv
    split
    · rename_i hq
      have hq : (jnm y).cls = "java/lang/AbstractStringBuilder" := hq
      rw [if_pos hq]
      decide +kernel
    · rename_i hq
      rw [if_neg hq] at h99
      have hq : ¬ (jnm y).cls = "java/lang/AbstractStringBuilder" := hq
      rw [if_neg hq]
      have h12 : jFs.length = 16 := by decide +kernel
      have hfi : jFs.findIdx (fun q => q.1 == jown y) < jFs.length := by omega
      have hg := List.findIdx_getElem (w := hfi)
      have hg : (jFs[jFs.findIdx (fun q => q.1 == jown y)]).1 = jown y := by simpa using hg
      unfold jclsn
      rw [List.getD_eq_getElem?_getD, List.getElem?_eq_getElem hfi]
      exact hg
  rw [← hcn]
  by_cases hi : i < 1000000
  · obtain ⟨q, hq⟩ : ∃ q, jsh M i = some q := by
      unfold jtag at h99
      rw [if_pos hi] at h99
      cases hq : jsh M i with
      | none => rw [hq] at h99; simp at h99
      | some q => exact ⟨q, rfl⟩
    have hq1 : jtag M i = q.1 := by
      unfold jtag
      rw [if_pos hi, hq]
      rfl
    rw [hq1] at h99 ⊢
    have h1 := (I.2.1.1 i q.1 q.2 hq).1
    unfold jcellAt at h1
    rw [if_pos h99] at h1
    obtain ⟨-, cell, g1, g2, g3, -⟩ := h1
    rw [jad_i hi]
    refine ⟨cell, g1, by rw [g3]; rfl, ?_⟩
    have hcl := (C.2.2.2.2.2.1.1.1 q.1 _ (jcl_get h99)).2.1
    rw [g2, ← hcl]
  · have hl : 2000000 ≤ i ∧ i < 2000014 := by
      unfold jtag at h99
      rw [if_neg hi] at h99
      split at h99
      · assumption
      · omega
    have ht : jtag M i = 15 := by
      unfold jtag
      rw [if_neg hi, if_pos hl]
    rw [ht, show jclsn 15 = "java/lang/String" by decide +kernel, jad_k hl.1 (by omega)]
    exact vk_recv C.2.2.2.2.2.1.lit (by omega) I.2.2.2
theorem jargs_ok {as rest : List JV} {M : JM} {lsA : Array Slot} {H : Heap} {locs : List Loc} (I : jInv E mi s lsA H locs ls (as.reverse ++ rest) M) (hc2 : (as.reverse.all fun v => !jc2 v) = true) : ∀ v ∈ as, jok v ∧ jc2 v = false := by
  intro v hv
  have hmem : v ∈ as.reverse := List.mem_reverse.mpr hv
  have := List.all_eq_true.mp hc2 v hmem
  exact ⟨(I.2.2.1 v (List.mem_append_left _ hmem)).1, by simpa using this⟩
theorem j_callV {n y idx i b : Nat} {as rest : List JV} {v : Option JV} (C : jCtx E mi p l s m args meth c) (hM : jMet l n y) (hd : decode (jmb mi) pc = .ok (.invokevirtual idx, 3)) (hl : Cond.methodLink (jnm mi).cls idx (jref y) ∈ jgood) (hY : okY y = true) (hYr : okY (jrefn y) = true) (hrs9 : jsta (jrefn y) = false) (hsel : (jpl y).2.1 ≠ 99999999) (hsta : jsta y = false) (hht : jht y + 1 ≤ jht mi) (hR1 : jht mi ≤ R.frames) (hR2 : 33 * jht mi ≤ R.locals) (hpar : (parseMethodDescriptor (jref y).desc).map (fun d => d.parameters.length) = some b) (hb : as.length = b) (hmx : as.length + 1 ≤ jmaxL y)
    (htag : jtag M i = jcls y) (h99 : jtag M i < 16) (hrun : jrun n y 0 (jargs y (.inr (.inl i) :: as)) [] M = some (.inl v, M1)) (h8 : jwds rest ≤ 8) (hc2 : ((.inr (.inl i) :: as : List JV).reverse.all fun v => !jc2 v) = true) (hr1 : jcells M1 - c0 ≤ R.cells) (hr2 : jslots M1 - s0 ≤ R.slots) (hc0 : c0 ≤ jcells M) (hs0 : s0 ≤ jslots M)
    (kk : jGo E mi p l e R s m args below meth c Q c0 s0 (pc + 3) ls (v.toList ++ rest) M1) :
    jGo E mi p l e R s m args below meth c Q c0 s0 pc ls (as.reverse ++ .inr (.inl i) :: rest) M := by
  intro lsA H locs I
  have hle := jrun_le hrun
  have hts := C.2.2.2.2.1
  obtain ⟨y1, y2, y3, y4, y5, y6, y7, y8⟩ := jY hY
  rw [hsta, if_neg Bool.false_ne_true] at y2
  have estk : as.reverse ++ (.inr (.inl i) : JV) :: rest = (.inr (.inl i) :: as : List JV).reverse ++ rest := by simp
  have ha : ∀ w ∈ (.inr (.inl i) : JV) :: as, jok w ∧ jc2 w = false := jargs_ok (rest := rest) (by rw [← estk]; exact I) hc2
  have hrecv := jrecv C I htag h99
  have hM1 := hM E (.inr (.inl i) :: as) M M1 v hrun hmx
  obtain ⟨y31, y32⟩ := y3.resolve_left hsel
  by_cases hown : jref y = jnm y ∧ jrcv y = (jnm y).cls
  · rw [hown.1] at hl hpar y31
    rw [hown.2] at y31 hrecv
    have hr := va_runV (e := e) (below := below) (meth := meth) (g := F0 m pc lsA ((as.reverse ++ .inr (.inl i) :: rest).map (jval E))) (rest := rest.map (jval E)) (As := as.map (jval E)) (b := jad E i) (locs := locs) (cells := jcells M - c0) (slots := jslots M - s0) ⟨C.1, C.2.1, C.2.2.1, C.2.2.2.1, hts⟩ hM1 ⟨jB_of C hY hht hR1 hR2 hpar hl, hts _ y2, hts _ y31⟩ ⟨jPc_blind, hrecv, jPc_at C I ha⟩ rfl (by rw [List.length_map]; exact hb) I.1.1 (by rw [List.map_append, List.map_reverse]; rfl) (by show 2 * 0 + _ ≤ 8; rw [jcat]; omega) hd ⟨by have := hle.1; omega, by have := hle.2; omega⟩
    exact j_fin I (fun w hw => I.2.2.1 w (List.mem_append_right _ (List.mem_cons_of_mem _ hw))) hle hc0 hs0 hr kk
  · have y33 := y32.resolve_left hown
    obtain ⟨x1, x2, x3, x4, x5, x6, x7, x8⟩ := jY hYr
    rw [hrs9, if_neg Bool.false_ne_true] at x2
    have hdecl : va_Decl s ⟨(jref y).cls, (jref y).name, (jref y).desc⟩ := va_Decl.of (args := args) (x := jnm (jrefn y)) (b := jmb (jrefn y)) (m := jmaxL (jrefn y)) (ret := jrt (jrefn y)) (hts _ x2) (hts _ x1)
    have hr := va_runU (e := e) (below := below) (meth := meth) (x := jref y) (y := jnm y) (owner := (jref y).cls) (C := jrcv y) (bytes := jmb y) (maxL := jmaxL y) (ret := jrt y) (own := (jnm mi).cls) (g := F0 m pc lsA ((as.reverse ++ .inr (.inl i) :: rest).map (jval E))) (rest := rest.map (jval E)) (As := as.map (jval E)) (b := jad E i) (locs := locs) (cells := jcells M - c0) (slots := jslots M - s0) ⟨C.1, C.2.1, C.2.2.1, C.2.2.2.1, hts⟩ hM1 ⟨jB0 C hY hht hR1 hR2, hts _ y1, hts _ y4, y8, jpars hpar, hts _ hl, hts _ y33, hdecl, hts _ y31, hts _ y2⟩ ⟨jPc_blind, hrecv, jPc_at C I ha⟩ rfl (by rw [List.length_map]; exact hb) I.1.1 (by rw [List.map_append, List.map_reverse]; rfl) (by show 2 * 0 + _ ≤ 8; rw [jcat]; omega) hd ⟨by have := hle.1; omega, by have := hle.2; omega⟩
    exact j_fin I (fun w hw => I.2.2.1 w (List.mem_append_right _ (List.mem_cons_of_mem _ hw))) hle hc0 hs0 hr kk
theorem j_callS {n y idx b : Nat} {as rest : List JV} {v : Option JV} (C : jCtx E mi p l s m args meth c) (hM : jMet l n y) (hd : decode (jmb mi) pc = .ok (.invokestatic idx, 3)) (hl : Cond.methodLink (jnm mi).cls idx (jnm y) ∈ jgood ∨ ∃ host, ((jnm mi).cls, idx, jnm y, host) ∈ jnests) (hY : okY y = true) (hsta : jsta y = true) (hht : jht y + 1 ≤ jht mi) (hR1 : jht mi ≤ R.frames) (hR2 : 33 * jht mi ≤ R.locals) (hpar : (parseMethodDescriptor (jnm y).desc).map (fun d => d.parameters.length) = some b) (hb : as.length = b) (hmx : as.length ≤ jmaxL y)
    (hrun : jrun n y 0 (jargs y as) [] M = some (.inl v, M1)) (h8 : jwds rest ≤ 8) (hc2 : (as.reverse.all fun v => !jc2 v) = true) (hr1 : jcells M1 - c0 ≤ R.cells) (hr2 : jslots M1 - s0 ≤ R.slots) (hc0 : c0 ≤ jcells M) (hs0 : s0 ≤ jslots M)
    (kk : jGo E mi p l e R s m args below meth c Q c0 s0 (pc + 3) ls (v.toList ++ rest) M1) :
    jGo E mi p l e R s m args below meth c Q c0 s0 pc ls (as.reverse ++ rest) M := by
  intro lsA H locs I
  have hle := jrun_le hrun
  have hts := C.2.2.2.2.1
  obtain ⟨y1, y2, y3, y4, y5, y6, y7, y8⟩ := jY hY
  rw [hsta, if_pos rfl] at y2
  have ha := jargs_ok I hc2
  have hM1 := hM E as M M1 v hrun hmx
  have hrs : ∀ w ∈ rest, jok w ∧ jkn w = true := fun w hw => I.2.2.1 w (List.mem_append_right _ hw)
  rcases hl with hl | ⟨host, hl⟩
  · have hr := va_runS (e := e) (below := below) (meth := meth) (g := F0 m pc lsA ((as.reverse ++ rest).map (jval E))) (rest := rest.map (jval E)) (As := as.map (jval E)) (locs := locs) (cells := jcells M - c0) (slots := jslots M - s0) ⟨C.1, C.2.1, C.2.2.1, C.2.2.2.1, hts⟩ hM1 ⟨jB_of C hY hht hR1 hR2 hpar hl, hts _ y2⟩ ⟨jPc_blind, jPc_at C I ha⟩ rfl (by rw [List.length_map]; exact hb) I.1.1 (by rw [List.map_append, List.map_reverse]) (by show 2 * 0 + _ ≤ 8; rw [jcat]; omega) hd ⟨by have := hle.1; omega, by have := hle.2; omega⟩
    exact j_fin I hrs hle hc0 hs0 hr kk
  · have hr := va_runSN (e := e) (below := below) (meth := meth) (host := host) (bytes := jmb y) (maxL := jmaxL y) (ret := jrt y) (own := (jnm mi).cls) (g := F0 m pc lsA ((as.reverse ++ rest).map (jval E))) (rest := rest.map (jval E)) (As := as.map (jval E)) (locs := locs) (cells := jcells M - c0) (slots := jslots M - s0) ⟨C.1, C.2.1, C.2.2.1, C.2.2.2.1, hts⟩ hM1 ⟨jN_of C hY hht hR1 hR2 hpar hl, hts _ y2, trivial⟩ ⟨jPc_blind, jPc_at C I ha⟩ rfl (by rw [List.length_map]; exact hb) I.1.1 (by rw [List.map_append, List.map_reverse]) (by show 2 * 0 + _ ≤ 8; rw [jcat]; omega) hd ⟨by have := hle.1; omega, by have := hle.2; omega⟩
    exact j_fin I hrs hle hc0 hs0 hr kk
theorem j_callI {n y idx b i : Nat} {as rest : List JV} {v : Option JV} (C : jCtx E mi p l s m args meth c) (hM : jMet l n y) (hd : decode (jmb mi) pc = .ok (.invokespecial idx, 3)) (hl : Cond.methodLink (jnm mi).cls idx (jnm y) ∈ jgood ∨ ∃ host, ((jnm mi).cls, idx, jnm y, host) ∈ jnests) (hY : okY y = true) (hsta : jsta y = false) (hht : jht y + 1 ≤ jht mi) (hR1 : jht mi ≤ R.frames) (hR2 : 33 * jht mi ≤ R.locals) (hin : (jnm y).name = "<init>") (hrt : jrt y = none) (hpar : (parseMethodDescriptor (jnm y).desc).map (fun d => d.parameters.length) = some b) (hb : as.length = b) (hmx : as.length + 1 ≤ jmaxL y)
    (hrun : jrun n y 0 (jargs y (.inr (.inl i) :: as)) [] M = some (.inl v, M1)) (h8 : jwds rest ≤ 8) (hc2 : ((.inr (.inl i) :: as : List JV).reverse.all fun v => !jc2 v) = true) (hr1 : jcells M1 - c0 ≤ R.cells) (hr2 : jslots M1 - s0 ≤ R.slots) (hc0 : c0 ≤ jcells M) (hs0 : s0 ≤ jslots M)
    (kk : jGo E mi p l e R s m args below meth c Q c0 s0 (pc + 3) ls (v.toList ++ rest) M1) :
    jGo E mi p l e R s m args below meth c Q c0 s0 pc ls (as.reverse ++ .inr (.inl i) :: rest) M := by
  intro lsA H locs I
  have hle := jrun_le hrun
  have hts := C.2.2.2.2.1
  obtain ⟨y1, y2, y3, y4, y5, y6, y7, y8⟩ := jY hY
  rw [hsta, if_neg Bool.false_ne_true] at y2
  have estk : as.reverse ++ (.inr (.inl i) : JV) :: rest = (.inr (.inl i) :: as : List JV).reverse ++ rest := by simp
  have ha : ∀ w ∈ (.inr (.inl i) : JV) :: as, jok w ∧ jc2 w = false := jargs_ok (rest := rest) (by rw [← estk]; exact I) hc2
  have hM1 := hM E (.inr (.inl i) :: as) M M1 v hrun hmx
  have hrs : ∀ w ∈ rest, jok w ∧ jkn w = true := fun w hw => I.2.2.1 w (List.mem_append_right _ (List.mem_cons_of_mem _ hw))
  rcases hl with hl | ⟨host, hl⟩
  · have hB := jB_of (M := M) (M1 := M1) C hY hht hR1 hR2 hpar hl
    rw [hrt] at hB
    have hr := va_runI (e := e) (below := below) (meth := meth) (g := F0 m pc lsA ((as.reverse ++ .inr (.inl i) :: rest).map (jval E))) (rest := rest.map (jval E)) (As := as.map (jval E)) (b := jad E i) (locs := locs) (cells := jcells M - c0) (slots := jslots M - s0) ⟨C.1, C.2.1, C.2.2.1, C.2.2.2.1, hts⟩ hM1 ⟨hB, hin, hts _ y2⟩ ⟨jPc_blind, jPc_at C I ha⟩ rfl (by rw [List.length_map]; exact hb) I.1.1 (by rw [List.map_append, List.map_reverse]; rfl) (by show 2 * 0 + _ ≤ 8; rw [jcat]; omega) hd ⟨by have := hle.1; omega, by have := hle.2; omega⟩
    exact j_fin I hrs hle hc0 hs0 hr kk
  · have hB := jN_of (M := M) (M1 := M1) C hY hht hR1 hR2 hpar hl
    rw [hrt] at hB
    have hr := va_runIN (e := e) (below := below) (meth := meth) (host := host) (g := F0 m pc lsA ((as.reverse ++ .inr (.inl i) :: rest).map (jval E))) (rest := rest.map (jval E)) (As := as.map (jval E)) (b := jad E i) (locs := locs) (cells := jcells M - c0) (slots := jslots M - s0) ⟨C.1, C.2.1, C.2.2.1, C.2.2.2.1, hts⟩ hM1 ⟨hB, hin, hts _ y2⟩ ⟨jPc_blind, jPc_at C I ha⟩ rfl (by rw [List.length_map]; exact hb) I.1.1 (by rw [List.map_append, List.map_reverse]; rfl) (by show 2 * 0 + _ ≤ 8; rw [jcat]; omega) hd ⟨by have := hle.1; omega, by have := hle.2; omega⟩
    exact j_fin I hrs hle hc0 hs0 hr kk
/-- super's own method, on a StringBuilder -/
theorem jsuw : (jtw 6071 (.superclass "java/lang/StringBuilder" "java/lang/AbstractStringBuilder") && ([179, 197, 248] : List Nat).all (fun y => decide ((jnm y).cls = "java/lang/AbstractStringBuilder") && decide ((jnm y).name ≠ "<init>") && jtw (jpl y).2.2.2 (.sameMethod (jnm y).cls (jnm y).cls (jnm y).name (jnm y).desc))) = true := by decide +kernel
theorem j_callU {n y idx b i : Nat} {as rest : List JV} {v : Option JV} (C : jCtx E mi p l s m args meth c) (hM : jMet l n y) (hd : decode (jmb mi) pc = .ok (.invokespecial idx, 3)) (hl : Cond.methodLink (jnm mi).cls idx (jnm y) ∈ jgood) (hyu : y ∈ ([179, 197, 248] : List Nat)) (hmc : (jnm mi).cls = "java/lang/StringBuilder") (hY : okY y = true) (hsta : jsta y = false) (hht : jht y + 1 ≤ jht mi) (hR1 : jht mi ≤ R.frames) (hR2 : 33 * jht mi ≤ R.locals) (hpar : (parseMethodDescriptor (jnm y).desc).map (fun d => d.parameters.length) = some b) (hb : as.length = b) (hmx : as.length + 1 ≤ jmaxL y) (htag : jtag M i = jcls y) (h99 : jtag M i < 16)
    (hrun : jrun n y 0 (jargs y (.inr (.inl i) :: as)) [] M = some (.inl v, M1)) (h8 : jwds rest ≤ 8) (hc2 : ((.inr (.inl i) :: as : List JV).reverse.all fun v => !jc2 v) = true) (hr1 : jcells M1 - c0 ≤ R.cells) (hr2 : jslots M1 - s0 ≤ R.slots) (hc0 : c0 ≤ jcells M) (hs0 : s0 ≤ jslots M)
    (kk : jGo E mi p l e R s m args below meth c Q c0 s0 (pc + 3) ls (v.toList ++ rest) M1) :
    jGo E mi p l e R s m args below meth c Q c0 s0 pc ls (as.reverse ++ .inr (.inl i) :: rest) M := by
  intro lsA H locs I
  have hle := jrun_le hrun
  have hts := C.2.2.2.2.1
  obtain ⟨y1, y2, y3, y4, y5, y6, y7, y8⟩ := jY hY
  rw [hsta, if_neg Bool.false_ne_true] at y2
  have hw := jsuw
  rw [Bool.and_eq_true] at hw
  have hw2 := List.all_eq_true.mp hw.2 y hyu
  simp only [Bool.and_eq_true, decide_eq_true_eq] at hw2
  obtain ⟨⟨w1, w2⟩, w3⟩ := hw2
  have estk : as.reverse ++ (.inr (.inl i) : JV) :: rest = (.inr (.inl i) :: as : List JV).reverse ++ rest := by simp
  have ha : ∀ w ∈ (.inr (.inl i) : JV) :: as, jok w ∧ jc2 w = false := jargs_ok (rest := rest) (by rw [← estk]; exact I) hc2
  have hM1 := hM E (.inr (.inl i) :: as) M M1 v hrun hmx
  have hrs : ∀ w ∈ rest, jok w ∧ jkn w = true := fun w hw => I.2.2.1 w (List.mem_append_right _ (List.mem_cons_of_mem _ hw))
  have hrecv := jrecv C I htag h99
  have hrc : jrcv y = "java/lang/StringBuilder" := by unfold jrcv; rw [if_pos w1]
  rw [hrc] at hrecv
  have hat : ClassAt s "java/lang/StringBuilder" ((jD E).1 14) := by
    have := (C.2.2.2.2.2.1.1.1 14 _ (jcl_get (by omega))).2
    rw [show jclsn 14 = "java/lang/StringBuilder" by decide +kernel] at this
    exact this
  have hr := va_runSU (e := e) (below := below) (meth := meth) (bytes := jmb y) (maxL := jmaxL y) (ret := jrt y) (own := (jnm mi).cls) (C := "java/lang/StringBuilder") (g := F0 m pc lsA ((as.reverse ++ .inr (.inl i) :: rest).map (jval E))) (rest := rest.map (jval E)) (As := as.map (jval E)) (b := jad E i) (locs := locs) (cells := jcells M - c0) (slots := jslots M - s0) hat ⟨C.1, C.2.1, C.2.2.1, C.2.2.2.1, hts⟩ hM1 ⟨jB0 C hY hht hR1 hR2, hts _ hl, hts _ (jtw_mem w3), by rw [hmc, w1]; exact hts _ (jtw_mem hw.1), hts _ y2, hts _ y4, hts _ y1, w2, jpars hpar⟩ ⟨jPc_blind, hrecv, jPc_at C I ha⟩ rfl (by rw [List.length_map]; exact hb) I.1.1 (by rw [List.map_append, List.map_reverse]; rfl) (by show 2 * 0 + _ ≤ 8; rw [jcat]; omega) hd ⟨by have := hle.1; omega, by have := hle.2; omega⟩
  exact j_fin I hrs hle hc0 hs0 hr kk
/-- by an interface, on a String -/
theorem jifw : (jtw 7082 (.selects "java/lang/String" (jcsN "length" "()I") (jstN "length" "()I")) && jtw 7093 (.selects "java/lang/String" (jcsN "charAt" "(I)C") (jstN "charAt" "(I)C")) && decide (jnm 20 = jstN "length" "()I") && decide (jnm 22 = jstN "charAt" "(I)C")) = true := by decide +kernel
theorem j_callF {n y idx b i nn : Nat} {as rest : List JV} {v : Option JV} (C : jCtx E mi p l s m args meth c) (hM : jMet l n y) (hd : decode (jmb mi) pc = .ok (.invokeinterface idx nn, 5)) (hl : Cond.methodLink (jnm mi).cls idx (jcsN (jnm y).name (jnm y).desc) ∈ jgood) (hyf : y = 20 ∨ y = 22) (hY : okY y = true) (hsta : jsta y = false) (hht : jht y + 1 ≤ jht mi) (hR1 : jht mi ≤ R.frames) (hR2 : 33 * jht mi ≤ R.locals) (hpar : (parseMethodDescriptor (jnm y).desc).map (fun d => d.parameters.length) = some b) (hb : as.length = b) (hmx : as.length + 1 ≤ jmaxL y) (htag : jtag M i = jcls y) (h99 : jtag M i < 16)
    (hrun : jrun n y 0 (jargs y (.inr (.inl i) :: as)) [] M = some (.inl v, M1)) (h8 : jwds rest ≤ 8) (hc2 : ((.inr (.inl i) :: as : List JV).reverse.all fun v => !jc2 v) = true) (hr1 : jcells M1 - c0 ≤ R.cells) (hr2 : jslots M1 - s0 ≤ R.slots) (hc0 : c0 ≤ jcells M) (hs0 : s0 ≤ jslots M)
    (kk : jGo E mi p l e R s m args below meth c Q c0 s0 (pc + 5) ls (v.toList ++ rest) M1) :
    jGo E mi p l e R s m args below meth c Q c0 s0 pc ls (as.reverse ++ .inr (.inl i) :: rest) M := by
  intro lsA H locs I
  have hle := jrun_le hrun
  have hts := C.2.2.2.2.1
  obtain ⟨y1, y2, y3, y4, y5, y6, y7, y8⟩ := jY hY
  rw [hsta, if_neg Bool.false_ne_true] at y2
  have estk : as.reverse ++ (.inr (.inl i) : JV) :: rest = (.inr (.inl i) :: as : List JV).reverse ++ rest := by simp
  have ha : ∀ w ∈ (.inr (.inl i) : JV) :: as, jok w ∧ jc2 w = false := jargs_ok (rest := rest) (by rw [← estk]; exact I) hc2
  have hM1 := hM E (.inr (.inl i) :: as) M M1 v hrun hmx
  have hrs : ∀ w ∈ rest, jok w ∧ jkn w = true := fun w hw => I.2.2.1 w (List.mem_append_right _ (List.mem_cons_of_mem _ hw))
  have hrecv := jrecv C I htag h99
  have hw := jifw
  simp only [Bool.and_eq_true, decide_eq_true_eq] at hw
  obtain ⟨⟨⟨w1, w2⟩, w3⟩, w4⟩ := hw
  obtain ⟨q, hq, hn, hs9⟩ : ∃ q ∈ jifs, jnm y = jstN q.1 q.2 ∧ Cond.selects "java/lang/String" (jcsN q.1 q.2) (jstN q.1 q.2) ∈ jgood := by
    rcases hyf with rfl | rfl
    · exact ⟨("length", "()I"), by simp [jifs], w3, jtw_mem w1⟩
    · exact ⟨("charAt", "(I)C"), by simp [jifs], w4, jtw_mem w2⟩
  have hF := C.2.2.2.2.2.1.ifs q hq
  have hrc : jrcv y = "java/lang/String" := by
    unfold jrcv
    rw [hn]
    rfl
  rw [hrc] at hrecv
  have hat : ClassAt s "java/lang/String" ((jD E).1 15) := by
    have := (C.2.2.2.2.2.1.1.1 15 _ (jcl_get (by omega))).2
    rw [show jclsn 15 = "java/lang/String" by decide +kernel] at this
    exact this
  have en : jcsN (jnm y).name (jnm y).desc = jcsN q.1 q.2 := by rw [hn]; rfl
  rw [en] at hl
  rw [← hn] at hs9 hF
  obtain ⟨f1, f2, f3, f4, f5⟩ := hF
  have an : ∀ {w : Cond}, w.onTables = true → w.before #[] s = true → w.before args s = true := fun h1 h2 => va_tabs h1 rfl h2
  have hr := va_runF (e := e) (below := below) (meth := meth) (x := jcsN q.1 q.2) (y := jnm y) (bytes := jmb y) (maxL := jmaxL y) (ret := jrt y) (own := (jnm mi).cls) (C := "java/lang/String") (g := F0 m pc lsA ((as.reverse ++ .inr (.inl i) :: rest).map (jval E))) (rest := rest.map (jval E)) (As := as.map (jval E)) (b := jad E i) (locs := locs) (cells := jcells M - c0) (slots := jslots M - s0) hat ⟨C.1, C.2.1, C.2.2.1, C.2.2.2.1, hts⟩ hM1 ⟨jB0 C hY hht hR1 hR2, hts _ hl, an rfl f1, an rfl f2, hts _ hs9, hts _ y2, an rfl f3, an rfl f4, an rfl f5, hts _ y4, hts _ y1, jifs_cls, by rw [hn] at hpar; exact jpars (x := jcsN q.1 q.2) hpar⟩ ⟨jPc_blind, hrecv, jPc_at C I ha⟩ rfl (by rw [List.length_map]; exact hb) I.1.1 (by rw [List.map_append, List.map_reverse]; rfl) (by show 2 * 0 + _ ≤ 8; rw [jcat]; omega) hd ⟨by have := hle.1; omega, by have := hle.2; omega⟩
  exact j_fin5 I hrs hle hc0 hs0 hr kk
end J17
