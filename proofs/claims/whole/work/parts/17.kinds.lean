/-! THE PRINTED MACHINE HELD AGAINST THE PURE ONE: each kind of call, a caught throw -/
def okH (k : Nat) : Bool := decide ((jhh k).length = (jcnm k).length) && ((jhh k).zip (jcnm k)).all (fun z => decide ((z.1.2.2.2, z.2) ∈ ([(13, 1), (15, 2), (21, 0)] : List (Nat × Nat)))) && ((jhh k).isEmpty || decide ((jnm k).cls = "OverlapBenchLaw"))
def okZ (k : Nat) : Bool := decide (jht k ≤ 14) && decide ((jnm k).name ≠ "law") && (match parseMethodDescriptor (jnm k).desc with | some d => decide (d.parameters.length + (if jsta k then 0 else 1) ≤ jmaxL k) | none => false)
theorem okHa_0 : (List.range' (33 * 0) 33).all (fun k => decide (429 ≤ k) || okH k) = true := by decide +kernel
theorem okHa_1 : (List.range' (33 * 1) 33).all (fun k => decide (429 ≤ k) || okH k) = true := by decide +kernel
theorem okHa_2 : (List.range' (33 * 2) 33).all (fun k => decide (429 ≤ k) || okH k) = true := by decide +kernel
theorem okHa_3 : (List.range' (33 * 3) 33).all (fun k => decide (429 ≤ k) || okH k) = true := by decide +kernel
theorem okHa_4 : (List.range' (33 * 4) 33).all (fun k => decide (429 ≤ k) || okH k) = true := by decide +kernel
theorem okHa_5 : (List.range' (33 * 5) 33).all (fun k => decide (429 ≤ k) || okH k) = true := by decide +kernel
theorem okHa_6 : (List.range' (33 * 6) 33).all (fun k => decide (429 ≤ k) || okH k) = true := by decide +kernel
theorem okHa_7 : (List.range' (33 * 7) 33).all (fun k => decide (429 ≤ k) || okH k) = true := by decide +kernel
theorem okHa_8 : (List.range' (33 * 8) 33).all (fun k => decide (429 ≤ k) || okH k) = true := by decide +kernel
theorem okHa_9 : (List.range' (33 * 9) 33).all (fun k => decide (429 ≤ k) || okH k) = true := by decide +kernel
theorem okHa_10 : (List.range' (33 * 10) 33).all (fun k => decide (429 ≤ k) || okH k) = true := by decide +kernel
theorem okHa_11 : (List.range' (33 * 11) 33).all (fun k => decide (429 ≤ k) || okH k) = true := by decide +kernel
theorem okHa_12 : (List.range' (33 * 12) 33).all (fun k => decide (429 ≤ k) || okH k) = true := by decide +kernel
theorem okHa_l : ∀ i ∈ [0, 1, 2, 3, 4, 5, 6, 7, 8, 9, 10, 11, 12], (List.range' (33 * i) 33).all (fun k => decide (429 ≤ k) || okH k) = true := List.forall_mem_cons.mpr ⟨okHa_0, List.forall_mem_cons.mpr ⟨okHa_1, List.forall_mem_cons.mpr ⟨okHa_2, List.forall_mem_cons.mpr ⟨okHa_3, List.forall_mem_cons.mpr ⟨okHa_4, List.forall_mem_cons.mpr ⟨okHa_5, List.forall_mem_cons.mpr ⟨okHa_6, List.forall_mem_cons.mpr ⟨okHa_7, List.forall_mem_cons.mpr ⟨okHa_8, List.forall_mem_cons.mpr ⟨okHa_9, List.forall_mem_cons.mpr ⟨okHa_10, List.forall_mem_cons.mpr ⟨okHa_11, List.forall_mem_cons.mpr ⟨okHa_12, fun _ h => absurd h List.not_mem_nil⟩⟩⟩⟩⟩⟩⟩⟩⟩⟩⟩⟩⟩
theorem okH_all {k : Nat} (h : k < 429) : (decide (429 ≤ k) || okH k) = true := by
  have hm : k / 33 ∈ [0, 1, 2, 3, 4, 5, 6, 7, 8, 9, 10, 11, 12] := by
    rw [show [0, 1, 2, 3, 4, 5, 6, 7, 8, 9, 10, 11, 12] = List.range 13 from rfl]
    exact List.mem_range.mpr (by omega)
  refine List.all_eq_true.mp (okHa_l _ hm) k ?_
  rw [List.mem_range']
  exact ⟨k % 33, Nat.mod_lt _ (by decide), by omega⟩
theorem okZa_0 : (List.range' (33 * 0) 33).all (fun k => decide (k = 428 ∨ 429 ≤ k) || okZ k) = true := by decide +kernel
theorem okZa_1 : (List.range' (33 * 1) 33).all (fun k => decide (k = 428 ∨ 429 ≤ k) || okZ k) = true := by decide +kernel
theorem okZa_2 : (List.range' (33 * 2) 33).all (fun k => decide (k = 428 ∨ 429 ≤ k) || okZ k) = true := by decide +kernel
theorem okZa_3 : (List.range' (33 * 3) 33).all (fun k => decide (k = 428 ∨ 429 ≤ k) || okZ k) = true := by decide +kernel
theorem okZa_4 : (List.range' (33 * 4) 33).all (fun k => decide (k = 428 ∨ 429 ≤ k) || okZ k) = true := by decide +kernel
theorem okZa_5 : (List.range' (33 * 5) 33).all (fun k => decide (k = 428 ∨ 429 ≤ k) || okZ k) = true := by decide +kernel
theorem okZa_6 : (List.range' (33 * 6) 33).all (fun k => decide (k = 428 ∨ 429 ≤ k) || okZ k) = true := by decide +kernel
theorem okZa_7 : (List.range' (33 * 7) 33).all (fun k => decide (k = 428 ∨ 429 ≤ k) || okZ k) = true := by decide +kernel
theorem okZa_8 : (List.range' (33 * 8) 33).all (fun k => decide (k = 428 ∨ 429 ≤ k) || okZ k) = true := by decide +kernel
theorem okZa_9 : (List.range' (33 * 9) 33).all (fun k => decide (k = 428 ∨ 429 ≤ k) || okZ k) = true := by decide +kernel
theorem okZa_10 : (List.range' (33 * 10) 33).all (fun k => decide (k = 428 ∨ 429 ≤ k) || okZ k) = true := by decide +kernel
theorem okZa_11 : (List.range' (33 * 11) 33).all (fun k => decide (k = 428 ∨ 429 ≤ k) || okZ k) = true := by decide +kernel
theorem okZa_12 : (List.range' (33 * 12) 33).all (fun k => decide (k = 428 ∨ 429 ≤ k) || okZ k) = true := by decide +kernel
theorem okZa_l : ∀ i ∈ [0, 1, 2, 3, 4, 5, 6, 7, 8, 9, 10, 11, 12], (List.range' (33 * i) 33).all (fun k => decide (k = 428 ∨ 429 ≤ k) || okZ k) = true := List.forall_mem_cons.mpr ⟨okZa_0, List.forall_mem_cons.mpr ⟨okZa_1, List.forall_mem_cons.mpr ⟨okZa_2, List.forall_mem_cons.mpr ⟨okZa_3, List.forall_mem_cons.mpr ⟨okZa_4, List.forall_mem_cons.mpr ⟨okZa_5, List.forall_mem_cons.mpr ⟨okZa_6, List.forall_mem_cons.mpr ⟨okZa_7, List.forall_mem_cons.mpr ⟨okZa_8, List.forall_mem_cons.mpr ⟨okZa_9, List.forall_mem_cons.mpr ⟨okZa_10, List.forall_mem_cons.mpr ⟨okZa_11, List.forall_mem_cons.mpr ⟨okZa_12, fun _ h => absurd h List.not_mem_nil⟩⟩⟩⟩⟩⟩⟩⟩⟩⟩⟩⟩⟩
theorem okZ_all {k : Nat} (h : k < 429) : (decide (k = 428 ∨ 429 ≤ k) || okZ k) = true := by
  have hm : k / 33 ∈ [0, 1, 2, 3, 4, 5, 6, 7, 8, 9, 10, 11, 12] := by
    rw [show [0, 1, 2, 3, 4, 5, 6, 7, 8, 9, 10, 11, 12] = List.range 13 from rfl]
    exact List.mem_range.mpr (by omega)
  refine List.all_eq_true.mp (okZa_l _ hm) k ?_
  rw [List.mem_range']
  exact ⟨k % 33, Nat.mod_lt _ (by decide), by omega⟩
theorem jhw : ([(13, 1), (15, 2), (21, 0)] : List (Nat × Nat)).all (fun z => decide (Cond.classLink "OverlapBenchLaw" z.1 (jexc z.2) ∈ lw_tbl) && goodWord (Cond.classLink "OverlapBenchLaw" z.1 (jexc z.2)) && decide (z.1 ≠ 0)) = true := by decide +kernel
theorem jcst : ([0, 1, 2] : List Nat).all (fun k => decide (Cond.castable (jexc k) (jexc k) ∈ jcast)) = true := by decide +kernel
theorem jY {y : Nat} (h : okY y = true) : jcw1 y ∈ jgood ∧ (if jsta y = true then Cond.static (jnm y) ∈ jgood else Cond.instanceMethod (jnm y) ∈ jgood) ∧ ((jpl y).2.1 = 99999999 ∨ Cond.selects (jnm y).cls (jnm y) (jnm y) ∈ jgood) ∧ Cond.initialized (jnm y).cls ∈ jgood ∧ plainName (jnm y).cls = true ∧ ((jnm y).cls ≠ "java/lang/invoke/MethodHandle" ∧ (jnm y).cls ≠ "java/lang/invoke/VarHandle") ∧ jmaxL y ≤ 14 := by
  unfold okY at h
  simp only [Bool.and_eq_true, Bool.or_eq_true, decide_eq_true_eq] at h
  obtain ⟨⟨⟨⟨⟨⟨⟨h1, h2⟩, h3⟩, h4⟩, h5⟩, h6⟩, h7⟩, h8⟩ := h
  refine ⟨jtw_mem h1, ?_, h3.imp id jtw_mem, jtw_mem h4, h5, ⟨h6, h7⟩, h8⟩
  split
  · rename_i hs
    rw [if_pos hs] at h2
    exact jtw_mem h2
  · rename_i hs
    rw [if_neg hs] at h2
    exact jtw_mem h2
section J17
variable {E : JE} {mi : Nat} {p : Program} {l : Launch} {e : Env} {R : Room} {s : State} {m : MethodId} {args : Array Value} {below : List Frame} {meth : Method} {c : Code} {Q : State → Prop} {c0 s0 pc : Nat} {ls st : List JV} {M M1 : JM}
theorem jcat {rest : List JV} (h : (rest.all fun v => !jc2 v) = true) : ((rest.map (jval E)).map fun v => v.category).sum = rest.length := by
  induction rest with
  | nil => rfl
  | cons v r ih =>
    simp only [List.all_cons, Bool.and_eq_true, Bool.not_eq_true'] at h
    have h2 := ih h.2
    simp only [List.map_cons, List.sum_cons, List.length_cons]
    rw [jval_c2 h.1, h2]
    omega
theorem j_fin {o : JO} {lsA : Array Slot} {H : Heap} {locs : List Loc} {st0 : List Value} {rest : List JV} {a : Array Value} (I : jInv E mi s lsA H locs ls st M) (hrs : ∀ v ∈ rest, jok v ∧ jkn v = true) (hle : jle M M1) (hc0 : c0 ≤ jcells M) (hs0 : s0 ≤ jslots M)
    (hr : vx_Run p l e R s m args below meth c H locs (jcells M - c0) (jslots M - s0) (jcells M1 - jcells M) (jslots M1 - jslots M) (F0 m pc lsA st0) (rest.map (jval E)) (jQc E M1 o a) (jXc E M1 o) (jA E))
    (kk : ∀ v, o = .inl v → jGo E mi p l e R s m args below meth c Q c0 s0 (pc + 3) ls (v.toList ++ rest) M1)
    (kx : ∀ k, k < 3 → o = .inr k → ∀ (lsA : Array Slot) (H1 : Heap) (locs1 : List Loc) (q9 : Addr) (ce : Cell), jInv E mi s lsA H1 locs1 ls [] M1 → H1[q9]? = some ce → ce.vm = .none → s.vm.findClass (jexc k) = some ce.cls → vx_W p l e R s m args below meth c H1 locs1 (jcells M1 - c0) (jslots M1 - s0) Q (F0 m pc lsA (rest.map (jval E))) q9) :
    W p l e R s m args below meth c H locs (jcells M - c0) (jslots M - s0) Q (F0 m pc lsA st0) := by
  have e1 : jcells M - c0 + (jcells M1 - jcells M) = jcells M1 - c0 := by have := hle.1; omega
  have e2 : jslots M - s0 + (jslots M1 - jslots M) = jslots M1 - s0 := by have := hle.2; omega
  refine j_after hr I.2.2.2 (fun v hv H1 locs1 hR hS hok => ?_) (fun k hk3 hk H1 locs1 q9 ce hR hS h1 h2 h3 => ?_)
  · rw [e1, e2]
    have h := kk v hv lsA H1 locs1 ⟨I.1, hR, fun w hw => (List.mem_append.mp hw).elim (fun q => by
      have q2 := hok w (by cases v with
        | none => cases q
        | some x => rw [List.mem_singleton.mp q])
      exact ⟨q2, jok_kn q2⟩) (hrs w), hS⟩
    rw [List.map_append] at h
    cases v <;> exact h
  · rw [e1, e2]
    exact kx k hk3 hk lsA H1 locs1 q9 ce ⟨I.1, hR, (fun _ hv => nomatch hv), hS⟩ h1 h2 h3
theorem jB_of {y i b : Nat} (C : jCtx E mi p l s m args meth c) (hY : okY y = true) (hhe : (jhh y).isEmpty = true) (hht : jht y + 1 ≤ jht mi) (hR1 : jht mi ≤ R.frames) (hR2 : 33 * jht mi ≤ R.locals) (hpar : (parseMethodDescriptor (jnm y).desc).map (fun d => d.parameters.length) = some b) (hl : Cond.methodLink (jnm mi).cls i (jnm y) ∈ jgood) : CallB R s args (jnm mi).cls i (jnm y) (jmb y) (jmaxL y) (jrt y) (jws y) (jrm y M M1) (jcells M1 - jcells M) (jslots M1 - jslots M) b := by
  obtain ⟨y1, y2, y3, y4, y5, y6, y7⟩ := jY hY
  have hcw : jcw1 y = .code (jnm y) (jmb y) (jmaxL y) (jrt y) := by unfold jcw1; rw [if_pos hhe]
  have hts := C.2.2.2.2.1
  refine ⟨rfl, rfl, ?_, ?_, jws_warm y1 C, by rw [← hcw]; exact List.mem_cons_self, by rw [← hcw]; exact hts _ y1, hts _ y4, y6, fun sig h => ?_, hts _ hl⟩
  · show jht y + 1 ≤ R.frames; omega
  · show 8 + (jmaxL y + 11) + 33 * jht y ≤ R.locals; omega
  · rw [h] at hpar
    exact (Option.some.inj hpar).symm
theorem j_callV {n y idx i b : Nat} {as rest : List JV} {o : JO} (C : jCtx E mi p l s m args meth c) (hM : jMet l n y) (hd : decode (jmb mi) pc = .ok (.invokevirtual idx, 3)) (hl : Cond.methodLink (jnm mi).cls idx (jnm y) ∈ jgood) (hY : okY y = true) (hsel : (jpl y).2.1 ≠ 99999999) (hsta : jsta y = false) (hhe : (jhh y).isEmpty = true) (hht : jht y + 1 ≤ jht mi) (hR1 : jht mi ≤ R.frames) (hR2 : 33 * jht mi ≤ R.locals) (hpar : (parseMethodDescriptor (jnm y).desc).map (fun d => d.parameters.length) = some b) (hb : as.length = b) (hmx : as.length + 1 ≤ jmaxL y)
    (htag : jtag M i = jcls y) (hrun : jrun n y 0 (jargs y (.inr (.inl i) :: as)) [] M = some (o, M1)) (h8 : rest.length ≤ 8) (hc2 : ((as.reverse ++ .inr (.inl i) :: rest).all fun v => !jc2 v) = true) (hr1 : jcells M1 - c0 ≤ R.cells) (hr2 : jslots M1 - s0 ≤ R.slots) (hc0 : c0 ≤ jcells M) (hs0 : s0 ≤ jslots M)
    (kk : ∀ v, o = .inl v → jGo E mi p l e R s m args below meth c Q c0 s0 (pc + 3) ls (v.toList ++ rest) M1)
    (kx : ∀ k, k < 3 → o = .inr k → ∀ (lsA : Array Slot) (H1 : Heap) (locs1 : List Loc) (q9 : Addr) (ce : Cell), jInv E mi s lsA H1 locs1 ls [] M1 → H1[q9]? = some ce → ce.vm = .none → s.vm.findClass (jexc k) = some ce.cls → vx_W p l e R s m args below meth c H1 locs1 (jcells M1 - c0) (jslots M1 - s0) Q (F0 m pc lsA (rest.map (jval E))) q9) :
    jGo E mi p l e R s m args below meth c Q c0 s0 pc ls (as.reverse ++ .inr (.inl i) :: rest) M := by
  intro lsA H locs I
  have hle := jrun_le hrun
  have hts := C.2.2.2.2.1
  obtain ⟨y1, y2, y3, y4, y5, y6, y7⟩ := jY hY
  rw [hsta, if_neg Bool.false_ne_true] at y2
  have hc2r : (rest.all fun v => !jc2 v) = true := by
    rw [List.all_append, List.all_cons, Bool.and_eq_true, Bool.and_eq_true] at hc2
    exact hc2.2.2
  have ha : ∀ v ∈ (.inr (.inl i) : JV) :: as, jok v ∧ jc2 v = false := by
    intro v hv
    have hmem : v ∈ as.reverse ++ (.inr (.inl i) : JV) :: rest := by
      rcases List.mem_cons.mp hv with q | q
      · rw [q]; exact List.mem_append_right _ List.mem_cons_self
      · exact List.mem_append_left _ (List.mem_reverse.mpr q)
    have := List.all_eq_true.mp hc2 v hmem
    exact ⟨(I.2.2.1 v hmem).1, by simpa using this⟩
  have hrecv : ∃ cellB : Cell, H[jad E i]? = some cellB ∧ cellB.vm.isStatics = false ∧ s.vm.findClass (jnm y).cls = some cellB.cls := by
    unfold jcls at htag
    split at htag
    · rename_i hstr
      have hstr : (jnm y).cls = "java/lang/String" := hstr
      rw [hstr]
      have hi : 2000000 ≤ i ∧ i < 2000007 := by
        unfold jtag at htag
        split at htag
        · rename_i hi
          cases hq : jsh M i with
          | none => rw [hq] at htag; simp at htag
          | some q =>
            rw [hq] at htag
            have h1 := (I.2.1.1 i q.1 q.2 hq).1
            have hq1 : q.1 = 50 := htag
            unfold jcellAt at h1
            rw [if_neg (by omega)] at h1
            have := h1.1
            unfold jtagok at this
            omega
        · split at htag
          · assumption
          · omega
      rw [jad_k hi.1 (by omega)]
      exact vk_recv C.2.2.2.2.2.1.2.2.2.1 (by omega) I.2.2.2
    · have hlen : jFs.findIdx (fun q => q.1 == jown y) ≤ 12 := by
        have := List.findIdx_le_length (p := fun q : String × List (String × String × String × Bool) => q.1 == jown y) (xs := jFs)
        have h12 : jFs.length = 12 := by decide +kernel
        omega
      have hi : i < 1000000 ∧ ∃ q, jsh M i = some q ∧ q.1 = jFs.findIdx (fun q => q.1 == jown y) := by
        unfold jtag at htag
        split at htag
        · rename_i hi
          refine ⟨hi, ?_⟩
          cases hq : jsh M i with
          | none => rw [hq] at htag; simp at htag; omega
          | some q => rw [hq] at htag; exact ⟨q, rfl, htag⟩
        · split at htag <;> omega
      obtain ⟨hi, q, hq, hq1⟩ := hi
      have h1 := (I.2.1.1 i q.1 q.2 hq).1
      unfold jcellAt at h1
      have hq12 : q.1 < 12 := by
        rcases Nat.lt_or_ge q.1 12 with g | g
        · exact g
        · rw [if_neg (by omega)] at h1
          have := h1.1
          unfold jtagok at this
          omega
      rw [if_pos hq12] at h1
      obtain ⟨-, cell, g1, g2, g3, -⟩ := h1
      rw [jad_i hi]
      refine ⟨cell, g1, by rw [g3]; rfl, ?_⟩
      have hcl := (C.2.2.2.2.2.1.1.1 q.1 _ (jcl_get hq12)).2.1
      rw [g2, ← hcl]
      have h12 : jFs.length = 12 := by decide +kernel
      have hfi : jFs.findIdx (fun q => q.1 == jown y) < jFs.length := by omega
      have hg := List.findIdx_getElem (w := hfi)
      have hg : (jFs[jFs.findIdx (fun q => q.1 == jown y)]).1 = jown y := by simpa using hg
      have : jclsn q.1 = jown y := by
        unfold jclsn
        rw [hq1, List.getD_eq_getElem?_getD, List.getElem?_eq_getElem hfi]
        exact hg
      show s.vm.findClass (jown y) = s.vm.findClass (jclsn q.1)
      rw [this]
  have hr := vx_runV (e := e) (below := below) (meth := meth) (g := F0 m pc lsA ((as.reverse ++ .inr (.inl i) :: rest).map (jval E))) (rest := rest.map (jval E)) (As := as.map (jval E)) (b := jad E i) (locs := locs) (cells := jcells M - c0) (slots := jslots M - s0) ⟨C.1, C.2.1, C.2.2.1, C.2.2.2.1, hts⟩ (hM E (.inr (.inl i) :: as) M M1 o hrun hmx (Or.inl hhe)) ⟨jB_of C hY hhe hht hR1 hR2 hpar hl, hts _ y2, hts _ (y3.resolve_left hsel)⟩ ⟨jPc_blind, hrecv, jPc_at C I ha⟩ rfl (by rw [List.length_map]; exact hb) I.1.1 (by rw [List.map_append, List.map_reverse]; rfl) (by show 2 * 0 + _ ≤ 8; rw [jcat hc2r]; omega) hd ⟨by have := hle.1; omega, by have := hle.2; omega⟩
  exact j_fin I (fun v hv => I.2.2.1 v (List.mem_append_right _ (List.mem_cons_of_mem _ hv))) hle hc0 hs0 hr kk kx
theorem j_callS {n y idx b : Nat} {as rest : List JV} {o : JO} (C : jCtx E mi p l s m args meth c) (hM : jMet l n y) (hd : decode (jmb mi) pc = .ok (.invokestatic idx, 3)) (hl : Cond.methodLink (jnm mi).cls idx (jnm y) ∈ jgood) (hY : okY y = true) (hsta : jsta y = true) (hhe : (jhh y).isEmpty = true ∨ ∃ v, o = .inl v) (hht : jht y + 1 ≤ jht mi) (hR1 : jht mi ≤ R.frames) (hR2 : 33 * jht mi ≤ R.locals) (hpar : (parseMethodDescriptor (jnm y).desc).map (fun d => d.parameters.length) = some b) (hb : as.length = b) (hmx : as.length ≤ jmaxL y)
    (hrun : jrun n y 0 (jargs y as) [] M = some (o, M1)) (h8 : rest.length ≤ 8) (hc2 : ((as.reverse ++ rest).all fun v => !jc2 v) = true) (hr1 : jcells M1 - c0 ≤ R.cells) (hr2 : jslots M1 - s0 ≤ R.slots) (hc0 : c0 ≤ jcells M) (hs0 : s0 ≤ jslots M)
    (kk : ∀ v, o = .inl v → jGo E mi p l e R s m args below meth c Q c0 s0 (pc + 3) ls (v.toList ++ rest) M1)
    (kx : ∀ k, k < 3 → o = .inr k → ∀ (lsA : Array Slot) (H1 : Heap) (locs1 : List Loc) (q9 : Addr) (ce : Cell), jInv E mi s lsA H1 locs1 ls [] M1 → H1[q9]? = some ce → ce.vm = .none → s.vm.findClass (jexc k) = some ce.cls → vx_W p l e R s m args below meth c H1 locs1 (jcells M1 - c0) (jslots M1 - s0) Q (F0 m pc lsA (rest.map (jval E))) q9) :
    jGo E mi p l e R s m args below meth c Q c0 s0 pc ls (as.reverse ++ rest) M := by
  intro lsA H locs I
  have hle := jrun_le hrun
  have hts := C.2.2.2.2.1
  obtain ⟨y1, y2, y3, y4, y5, y6, y7⟩ := jY hY
  rw [hsta, if_pos rfl] at y2
  have hc2r : (rest.all fun v => !jc2 v) = true := by
    rw [List.all_append, Bool.and_eq_true] at hc2
    exact hc2.2
  have ha : ∀ v ∈ as, jok v ∧ jc2 v = false := by
    intro v hv
    have hmem : v ∈ as.reverse ++ rest := List.mem_append_left _ (List.mem_reverse.mpr hv)
    have := List.all_eq_true.mp hc2 v hmem
    exact ⟨(I.2.2.1 v hmem).1, by simpa using this⟩
  have hM1 := hM E as M M1 o hrun hmx hhe
  have hrs : ∀ v ∈ rest, jok v ∧ jkn v = true := fun v hv => I.2.2.1 v (List.mem_append_right _ hv)
  have hlo : 8 + (jmaxL y + 11) + (jrm y M M1).locals ≤ R.locals := by show 8 + (jmaxL y + 11) + 33 * jht y ≤ R.locals; omega
  have hfr : (jrm y M M1).frames + 1 ≤ R.frames := by show jht y + 1 ≤ R.frames; omega
  have hps : ∀ sig, parseMethodDescriptor (jnm y).desc = some sig → b = sig.parameters.length := fun sig h => by
    rw [h] at hpar
    exact (Option.some.inj hpar).symm
  by_cases hh : (jhh y).isEmpty = true
  · have hr := vx_runS (e := e) (below := below) (meth := meth) (g := F0 m pc lsA ((as.reverse ++ rest).map (jval E))) (rest := rest.map (jval E)) (As := as.map (jval E)) (locs := locs) (cells := jcells M - c0) (slots := jslots M - s0) ⟨C.1, C.2.1, C.2.2.1, C.2.2.2.1, hts⟩ hM1 ⟨jB_of C hY hh hht hR1 hR2 hpar hl, hts _ y2⟩ ⟨jPc_blind, jPc_at C I ha⟩ rfl (by rw [List.length_map]; exact hb) I.1.1 (by rw [List.map_append, List.map_reverse]) (by show 2 * 0 + _ ≤ 8; rw [jcat hc2r]; omega) hd ⟨by have := hle.1; omega, by have := hle.2; omega⟩
    exact j_fin I hrs hle hc0 hs0 hr kk kx
  · have hcw : jcw1 y = .codeWith (jnm y) (jmb y) (jmaxL y) (jrt y) (jhh y) := by unfold jcw1; rw [if_neg hh]
    have hr := vx_runSX (e := e) (below := below) (meth := meth) (hh := jhh y) (bytes := jmb y) (maxL := jmaxL y) (ret := jrt y) (own := (jnm mi).cls) (g := F0 m pc lsA ((as.reverse ++ rest).map (jval E))) (rest := rest.map (jval E)) (As := as.map (jval E)) (locs := locs) (cells := jcells M - c0) (slots := jslots M - s0) ⟨C.1, C.2.1, C.2.2.1, C.2.2.2.1, hts⟩ hM1 ⟨⟨rfl, rfl, hfr, hlo, jws_warm y1 C, by rw [← hcw]; exact List.mem_cons_self⟩, by rw [← hcw]; exact hts _ y1, hts _ y4, y6, hps, hts _ hl, hts _ y2⟩ ⟨jPc_blind, jPc_at C I ha⟩ rfl (by rw [List.length_map]; exact hb) I.1.1 (by rw [List.map_append, List.map_reverse]) (by show 2 * 0 + _ ≤ 8; rw [jcat hc2r]; omega) hd ⟨by have := hle.1; omega, by have := hle.2; omega⟩
    exact j_fin I hrs hle hc0 hs0 hr kk kx
theorem j_callI {n y idx b w : Nat} {v0 : Nat} {as rest : List JV} {o : JO} (C : jCtx E mi p l s m args meth c) (hM : jMet l n y) (hd : decode (jmb mi) pc = .ok (.invokespecial idx, 3)) (hl : Cond.methodLink (jnm mi).cls idx (jnm y) ∈ jgood ∨ ((jnm mi).cls, idx, jnm y) ∈ jnests) (hY : okY y = true) (hsta : jsta y = false) (hhe : (jhh y).isEmpty = true) (hht : jht y + 1 ≤ jht mi) (hR1 : jht mi ≤ R.frames) (hR2 : 33 * jht mi ≤ R.locals) (hin : (jnm y).name = "<init>") (hrt : jrt y = none) (hpar : (parseMethodDescriptor (jnm y).desc).map (fun d => d.parameters.length) = some b) (hb : as.length = b) (hmx : as.length + 1 ≤ jmaxL y)
    (hrun : jrun n y 0 (jargs y (.inr (.inl v0) :: as)) [] M = some (o, M1)) (h8 : rest.length ≤ 8) (hc2 : ((as.reverse ++ .inr (.inl v0) :: rest).all fun v => !jc2 v) = true) (hr1 : jcells M1 - c0 ≤ R.cells) (hr2 : jslots M1 - s0 ≤ R.slots) (hc0 : c0 ≤ jcells M) (hs0 : s0 ≤ jslots M)
    (kk : ∀ v, o = .inl v → jGo E mi p l e R s m args below meth c Q c0 s0 (pc + 3) ls (v.toList ++ rest) M1)
    (kx : ∀ k, k < 3 → o = .inr k → ∀ (lsA : Array Slot) (H1 : Heap) (locs1 : List Loc) (q9 : Addr) (ce : Cell), jInv E mi s lsA H1 locs1 ls [] M1 → H1[q9]? = some ce → ce.vm = .none → s.vm.findClass (jexc k) = some ce.cls → vx_W p l e R s m args below meth c H1 locs1 (jcells M1 - c0) (jslots M1 - s0) Q (F0 m pc lsA (rest.map (jval E))) q9) :
    jGo E mi p l e R s m args below meth c Q c0 s0 pc ls (as.reverse ++ .inr (.inl v0) :: rest) M := by
  intro lsA H locs I
  have hle := jrun_le hrun
  have hts := C.2.2.2.2.1
  obtain ⟨y1, y2, y3, y4, y5, y6, y7⟩ := jY hY
  rw [hsta, if_neg Bool.false_ne_true] at y2
  have hc2r : (rest.all fun v => !jc2 v) = true := by
    rw [List.all_append, List.all_cons, Bool.and_eq_true, Bool.and_eq_true] at hc2
    exact hc2.2.2
  have ha : ∀ v ∈ (.inr (.inl v0) : JV) :: as, jok v ∧ jc2 v = false := by
    intro v hv
    have hmem : v ∈ as.reverse ++ (.inr (.inl v0) : JV) :: rest := by
      rcases List.mem_cons.mp hv with q | q
      · rw [q]; exact List.mem_append_right _ List.mem_cons_self
      · exact List.mem_append_left _ (List.mem_reverse.mpr q)
    have := List.all_eq_true.mp hc2 v hmem
    exact ⟨(I.2.2.1 v hmem).1, by simpa using this⟩
  have hM1 := hM E (.inr (.inl v0) :: as) M M1 o hrun hmx (Or.inl hhe)
  have hrs : ∀ v ∈ rest, jok v ∧ jkn v = true := fun v hv => I.2.2.1 v (List.mem_append_right _ (List.mem_cons_of_mem _ hv))
  rcases hl with hl | hl
  · have hB := jB_of (M := M) (M1 := M1) C hY hhe hht hR1 hR2 hpar hl
    rw [hrt] at hB
    have hr := vx_runI (e := e) (below := below) (meth := meth) (g := F0 m pc lsA ((as.reverse ++ .inr (.inl v0) :: rest).map (jval E))) (rest := rest.map (jval E)) (As := as.map (jval E)) (b := jad E v0) (locs := locs) (cells := jcells M - c0) (slots := jslots M - s0) ⟨C.1, C.2.1, C.2.2.1, C.2.2.2.1, hts⟩ hM1 ⟨hB, hin, hts _ y2⟩ ⟨jPc_blind, jPc_at C I ha⟩ rfl (by rw [List.length_map]; exact hb) I.1.1 (by rw [List.map_append, List.map_reverse]; rfl) (by show 2 * 0 + _ ≤ 8; rw [jcat hc2r]; omega) hd ⟨by have := hle.1; omega, by have := hle.2; omega⟩
    exact j_fin I hrs hle hc0 hs0 hr kk kx
  · have hcw : jcw1 y = .code (jnm y) (jmb y) (jmaxL y) none := by unfold jcw1; rw [if_pos hhe, hrt]
    have hN := C.2.2.2.2.2.1.2.2.2.2.2.1 _ hl
    have hG : GoodIn jgood (jws y) := fun w hw => by
      have hg : w ∈ jgood := (List.mem_cons.mp hw).elim (fun q => q ▸ y1) id
      exact ⟨hg, good_of_word (List.mem_filter.mp hg).2⟩
    have hB := va_cnB (R := R) (own := (jnm mi).cls) (host := "OverlapBench") (index := idx) (y := jnm y) (bytes := jmb y) (maxL := jmaxL y) (ret := none) (ws := jws y) (ws' := jgood) (rm := jrm y M M1) (mc := jcells M1 - jcells M) (ms := jslots M1 - jslots M) b hts hG (by unfold jws; rw [hcw]) rfl rfl hN (hts _ y4) ⟨y6.1, y6.2, hpar⟩ ⟨by show jht y + 1 ≤ R.frames; omega, by show 8 + (jmaxL y + 11) + 33 * jht y ≤ R.locals; omega⟩
    have hr := vx_runIN (e := e) (below := below) (meth := meth) (g := F0 m pc lsA ((as.reverse ++ .inr (.inl v0) :: rest).map (jval E))) (rest := rest.map (jval E)) (As := as.map (jval E)) (b := jad E v0) (locs := locs) (cells := jcells M - c0) (slots := jslots M - s0) ⟨C.1, C.2.1, C.2.2.1, C.2.2.2.1, hts⟩ hM1 ⟨hB, hin, hts _ y2⟩ ⟨jPc_blind, jPc_at C I ha⟩ rfl (by rw [List.length_map]; exact hb) I.1.1 (by rw [List.map_append, List.map_reverse]; rfl) (by show 2 * 0 + _ ≤ 8; rw [jcat hc2r]; omega) hd ⟨by have := hle.1; omega, by have := hle.2; omega⟩
    exact j_fin I hrs hle hc0 hs0 hr kk kx
end J17
