/-! THE CLAIM OUT OF ONE WALK OF THE LAW'S BODY. Your part is whole_start (and what it stands on); all else here is the same for every law, but numbers. -/
def R_law : String := "OverlapBenchLaw"
def lw_P (b : Addr) (xs : List Int32) (args : Array Value) (s : State) : Prop := args = #[.ref b] ∧ s.IntsAt b xs ∧ xs.length ≤ 3072 ∧ (Jvm.Cond.and given_1 narrow_1).before args s = true
/-- what a walk over the start with the record d0 says of its end, said of the start itself -/
theorem lw_closed {s t : State} {o : Outcome} {d0 : Drawn} {L : List Loc} {k n : Nat} (hd0 : s.drawn.sameBut d0 lw_cs) (hv : ∃ v, o = .returned v) (hW : (s.setDrawn d0).WarmedH t.vm) (hs : (s.setDrawn d0).sameButNew ({ t with vm := s.vm } : State) L k n) : State.butDraws s t lw_cs (fun t1 => Framed s o t1 L k n) := by
  have h2 : t.drawn = d0 := congrArg State.drawn hs.1
  refine ⟨⟨hv, hW, State.sameButNew.setDrawn hs s.drawn⟩, ?_, by decide⟩
  rw [h2]
  exact hd0
def lw_Q (_ : Array Value) (s : State) (o : Outcome) (t : State) : Prop := o = .returned (some (.int 1)) ∧ State.butDraws s t lw_cs (fun t1 => Framed s o t1 [] 601024 7293034)
def lw_Z (below : List Frame) (a : Array Value) (s : State) : State → Prop := fun t => ∃ o, t.status = .running ∧ Ended t below o ∧ lw_Q a s o t
/-- the law's own end, with 1 on the stack, nothing written that was there before, its room as the claim has it; d0: the record of draws at this point (at the entry s.drawn: begin with 'refine W.base ?_' and 'have hd0 := Drawn.sameBut.refl s.drawn lw_cs') -/
theorem lw_ret {p : Program} {l : Launch} {e : Env} {s : State} {m : MethodId} {below : List Frame} {meth : Method} {c : Code} {b : Nat} {d0 : Drawn} (hd0 : s.drawn.sameBut d0 lw_cs) (hx : p.tables.exec = Jvm.exec) (hb : c.code = code) (hr : meth.sig.returnType = ret) (hlocks : meth.locks = false) {pc : Nat} {H : Heap} {ls : Array Slot} (hdg : decode code pc = .ok (.ireturn, 1)) : W p l e room_1 (s.setDrawn d0) m #[Value.ref b] below meth c H [] 601024 7293034 (lw_Z below #[Value.ref b] s) (F0 m pc ls [.int 1]) := by
  intro T hT X
  obtain ⟨fs, hret, hrun, hended, hW, hframe⟩ := X.leave (v := some (.int 1)) (hlocks := hlocks) (fun h => by rw [hr] at h; cases h)
  have hmeth' : T.vm.method? m = some meth := X.method'
  refine ⟨T.setFrames fs, ?_, .returned (some (.int 1)), hrun, hended, rfl, lw_closed hd0 ⟨_, rfl⟩ hW hframe⟩
  jvm_step X.here [X.here.top, hx, hb, hdg, hmeth', hr, ret, narrow_b1]
  (try refine ⟨rfl, ?_⟩); (try refine ⟨rfl, ?_⟩)
  first | (intro acts; rw [hret _ acts rfl rfl rfl]) | rw [hret _ _ rfl rfl rfl]
  exact Steps.refl _
/-- what holds at the law's entry: the machine, the code, the tables' words (any of lw_tbl by 'hts w (by decide +kernel)'), the script of L ints xs at the cell b, what the Statement gives of the start (any of its parts by flat_of_before) -/
def lw_At (p : Program) (s : State) (m : MethodId) (meth : Method) (c : Code) (b L : Nat) (xs : Nat → Int32) : Prop :=
  p.tables.exec = Jvm.exec ∧ c.code = code ∧ meth.sig.returnType = ret ∧ c.maxLocals = 9 ∧ s.vm.findClass R_law = some m.cls ∧ (∀ w ∈ lw_tbl, w.before #[Value.ref b] s = true) ∧ va_X b L xs s s.heap ∧ b < s.heap.size ∧ meth.locks = false ∧ (Jvm.Cond.and given_1 narrow_1).before #[Value.ref b] s = true ∧ meth.name = "law" ∧ ∀ x ∈ c.exceptionTable.toList, False
theorem j428 : jmeths.getD 428 jm0 = jm_428 := rfl
theorem j428c : jmb 428 = code := by unfold jmb; rw [j428]; rfl
theorem j428n : jnm 428 = ⟨"OverlapBenchLaw", "law", "([I)Z"⟩ := by unfold jnm; rw [j428]; rfl
theorem j428l : jmaxL 428 = 9 := by decide +kernel
theorem j428t : jht 428 = 14 := by decide +kernel
theorem j428h : jhh 428 = [] := by decide +kernel
def w23 : List Cond := flatC (Jvm.Cond.and given_1 narrow_1)
def tm23 (i : Nat) : Jvm.Term := .string "OverlapBench$Parser" ([70, 80, 86, 91, 96, 101, 106].getD i 0)
def um23 (i : Nat) : Jvm.Term := .string "OverlapBenchModel" ([256, 222, 231, 236, 241, 246, 251].getD i 0)
def vm23 (i : Nat) : Jvm.Term := .field (tm23 i) "java/lang/String" "value" "[B"
def sw23 (i : Nat) : Bool := decide (Cond.exactly (tm23 i) "java/lang/String" ∈ w23) && (decide (Cond.eq (.field (tm23 i) "java/lang/String" "coder" "B") (.int 0) ∈ w23) && (decide (Cond.arrayOf (vm23 i) .byte ∈ w23) && (decide (Cond.eq (.length (vm23 i)) (.int (Int32.ofNat (jlenl.getD i 0))) ∈ w23)
  && ((List.range (jlenl.getD i 0)).all (fun j => decide (Cond.eq (.elem (vm23 i) (.int (Int32.ofNat j))) (.int ((jbyt.getD i []).getD j 0)) ∈ w23)) && (decide (Cond.eq (tm23 i) (um23 i) ∈ w23) && (decide (jlenl.getD i 0 < 2 ^ 31)
  && (List.range 7).all (fun j => decide (i = j) || (decide (Cond.not (Cond.eq (tm23 i) (tm23 j)) ∈ w23) || decide (Cond.not (Cond.eq (tm23 j) (tm23 i)) ∈ w23)))))))))
theorem sw23_all : (List.range 7).all sw23 = true := by decide +kernel
theorem tw23_strs : jstrs.all (fun q => decide (Cond.stringRef q.1 q.2.1 (jtext q.2.2) ∈ lw_tbl)) = true := by decide +kernel
theorem tw23_nests : jnests.all (fun q => decide (Cond.methodLinkNest q.1 q.2.1 q.2.2 "OverlapBench" ∈ lw_tbl)) = true := by decide +kernel
theorem tw23_cast : jcast.all (fun w => decide (w ∈ lw_tbl) && w.onTables) = true := by decide +kernel
theorem tw23_arr : ([100, 101, 102, 103, 104] : List Nat).all (fun t => decide (Cond.arrayClass (jfty t) ∈ lw_tbl)) = true := by decide +kernel
theorem tw23_obj : ([5, 7, 8] : List Nat).all (fun t => decide (Cond.arrayOver (.object (jclsn t)) ∈ lw_tbl) && decide (jfty (105 + t) = .object (jclsn t))) = true := by decide +kernel
theorem tw23_sta : (decide (Cond.laysStatic Bundle.tN "UNASSIGNED_STACK" Bundle.steD ∈ lw_tbl) && decide (Cond.laysStatic Bundle.tN "SUPPRESSED_SENTINEL" Bundle.listD ∈ lw_tbl) && decide (Cond.laysStatic "java/lang/String" "COMPACT_STRINGS" "Z" ∈ lw_tbl) && decide (Cond.laysStatic "jdk/internal/util/Preconditions" "SIOOBE_FORMATTER" "Ljava/util/function/BiFunction;" ∈ lw_tbl)
  && decide (Cond.initialized Bundle.tN ∈ lw_tbl) && decide (Cond.initialized "java/lang/String" ∈ lw_tbl) && decide (Cond.initialized "jdk/internal/util/Preconditions" ∈ lw_tbl)) = true := by decide +kernel
theorem sw23_sta : (decide (Cond.isRef (.static Bundle.tN "UNASSIGNED_STACK" Bundle.steD) ∈ w23) && decide (Cond.isRef (.static Bundle.tN "SUPPRESSED_SENTINEL" Bundle.listD) ∈ w23) && decide (Cond.eq (.static "java/lang/String" "COMPACT_STRINGS" "Z") (.int 1) ∈ w23) && decide (Cond.isRef (.static "jdk/internal/util/Preconditions" "SIOOBE_FORMATTER" "Ljava/util/function/BiFunction;") ∈ w23)
  && (List.range 3).all (fun a => (List.range 3).all fun b => decide (a = b) || decide (Cond.not (.castable (jexc a) (jexc b)) ∈ w23))) = true := by decide +kernel
theorem jstrs_in {q : String × Nat × Nat} (hq : q ∈ jstrs) : q.2.2 < 7 ∧ (Jvm.Term.string q.1 q.2.1 = tm23 q.2.2 ∨ Jvm.Term.string q.1 q.2.1 = um23 q.2.2) := by
  have : jstrs.all (fun q => decide (q.2.2 < 7 ∧ (Jvm.Term.string q.1 q.2.1 = tm23 q.2.2 ∨ Jvm.Term.string q.1 q.2.1 = um23 q.2.2))) = true := by decide +kernel
  exact of_decide_eq_true (List.all_eq_true.mp this q hq)
set_option maxHeartbeats 4000000 in
theorem j_start {s : State} {b L : Nat} {xs : Nat → Int32} (hts : ∀ w ∈ lw_tbl, w.before #[Value.ref b] s = true) (hX : va_X b L xs s s.heap) (hb : b < s.heap.size) (hw : ∀ w ∈ w23, w.before #[Value.ref b] s = true) :
    ∃ E : JE, jB E = s.heap.size ∧ jbs E = b ∧ jLx E = L ∧ jsx E = xs ∧ jFx E s s.heap := by
  have hA : ∀ a : Nat, a < s.heap.size → ¬ (fun q : Nat => s.heap.size ≤ q) a := fun a h => Nat.not_le.mpr h
  have hgd : ∀ w ∈ jgood, w.before #[Value.ref b] s = true := fun w h => hts w (List.mem_filter.mp h).1
  have hK : ∀ a : Nat, ∃ q : ClassId × (Nat → Nat), a < 12 → u_Kn s (jclsn a) (fun k => jfd a k) (jfields a).length q.1 q.2 := by
    intro a
    by_cases ha : a < 12
    · obtain ⟨c, i, h⟩ := u_known (C := jclsn a) (T := fun k => jfd a k) (N := (jfields a).length) hgd (jcw ha).1 (hgd _ (jcw ha).2.1)
      exact ⟨(c, i), fun _ => h⟩
    · exact ⟨(0, fun _ => 0), fun h => absurd h ha⟩
  obtain ⟨fk, hfk⟩ := Classical.axiomOfChoice hK
  have hR : ∀ t : Nat, ∃ cA : ClassId, jtagok t → ArrOfT s cA (jfty t) ∧ s.vm.findClass ("[" ++ (jfty t).toString) = some cA ∧ (105 ≤ t → va_RA s cA (jfty t)) := by
    intro t
    by_cases ht : jtagok t
    · rcases ht with ht | ht
      · have hm : t ∈ ([100, 101, 102, 103, 104] : List Nat) := by
          simp; omega
        have h1 := hts _ (of_decide_eq_true (List.all_eq_true.mp tw23_arr t hm))
        obtain ⟨c, k, comp, g1, g2, g3⟩ := Cond.arrayClass_spec (args := #[Value.ref b]) (first := s) (o := none) (s := s) (idx := []) h1
        exact ⟨c, fun _ => ⟨fun n z => ⟨fun k h => (by cases h), k, g2, comp, g3⟩, g1, fun h => by omega⟩⟩
      · obtain ⟨y, hy, rfl⟩ : ∃ y, y ∈ ([5, 7, 8] : List Nat) ∧ t = 105 + y := by
          rcases ht with rfl | rfl | rfl
          · exact ⟨5, by simp, rfl⟩
          · exact ⟨7, by simp, rfl⟩
          · exact ⟨8, by simp, rfl⟩
        have h0 := List.all_eq_true.mp tw23_obj y hy
        rw [Bool.and_eq_true] at h0
        have h1 := hts _ (of_decide_eq_true h0.1)
        have h2 := of_decide_eq_true h0.2
        obtain ⟨comp, c, k, g1, g2, g3, g4, g5⟩ := Cond.arrayOver_spec (args := #[Value.ref b]) (first := s) (o := none) (s := s) (idx := []) h1
        rw [h2]
        exact ⟨c, fun _ => ⟨fun n z => ⟨fun k h => (by cases h), k, g3, comp, g4⟩, g5, fun _ => ⟨k, comp, g3, g4, g1, g5⟩⟩⟩
    · exact ⟨0, fun h => absurd h ht⟩
  obtain ⟨ra, hra⟩ := Classical.axiomOfChoice hR
  have hs : ∀ i : Nat, i < 7 → sw23 i = true := fun i hi => List.all_eq_true.mp sw23_all i (List.mem_range.mpr hi)
  unfold sw23 at hs
  simp only [Bool.and_eq_true, decide_eq_true_eq, List.all_eq_true, List.mem_range, Bool.or_eq_true] at hs
  obtain ⟨adK, adV, hS, hev⟩ := vk_Sof (args := #[Value.ref b]) (s := s) (N := 7) (tm := tm23) (len := jlenl) (byt := jbyt) (A := fun q : Nat => s.heap.size ≤ q) (fun i hi => (hs i hi).2.2.2.2.2.2.1) (fun i hi => hw _ (hs i hi).1) (fun i hi => hw _ (hs i hi).2.1) (fun i hi => hw _ (hs i hi).2.2.1) (fun i hi => hw _ (hs i hi).2.2.2.1)
    (fun i hi j hj => hw _ ((hs i hi).2.2.2.2.1 j hj)) (fun i j hi hj hij => by
      rcases (hs i hi).2.2.2.2.2.2.2 j hj with h | h | h
      · exact absurd h hij
      · exact Or.inl (hw _ h)
      · exact Or.inr (hw _ h)) hA
  have hu : ∀ i : Nat, i < 7 → (um23 i).eval #[Value.ref b] s none [] s = some (.ref (adK i)) := fun i hi => va_eqR (hw _ (hs i hi).2.2.2.2.2.1) (hev i hi)
  have h4 := tw23_sta
  have h5 := sw23_sta
  simp only [Bool.and_eq_true, decide_eq_true_eq, List.all_eq_true, List.mem_range, Bool.or_eq_true] at h4 h5
  obtain ⟨⟨⟨⟨⟨⟨t1, t2⟩, t3⟩, t4⟩, t5⟩, t6⟩, t7⟩ := h4
  obtain ⟨⟨⟨⟨u1, u2⟩, u3⟩, u4⟩, u5⟩ := h5
  refine ⟨((fun a => (fk a).1, fun a => (fk a).2), ra, s.heap.size, b, L, xs, adK, adV), rfl, rfl, rfl, rfl, ⟨fun c q hq => ?_, fun k q hq => by simp at hq⟩, hra, ⟨hX, hA b hb⟩, hS, ?_, ?_, ?_, ?_, ?_, ?_, ?_, Nat.le_refl _, ?_, ?_⟩
  · by_cases hc : c < 12
    · rw [jcl_get hc] at hq
      cases hq
      exact hfk c hc
    · have hl : jcl.length = 12 := by decide +kernel
      rw [List.getElem?_eq_none (by omega)] at hq
      cases hq
  · intro q hq
    obtain ⟨g1, g2⟩ := jstrs_in hq
    refine vk_R.of (A := #[Value.ref b]) (hts _ (of_decide_eq_true (List.all_eq_true.mp tw23_strs q hq))) ?_
    rcases g2 with g | g
    · rw [g]; exact hev _ g1
    · rw [g]; exact hu _ g1
  · exact fun q hq => va_Nw.of rfl (hts _ (of_decide_eq_true (List.all_eq_true.mp tw23_nests q hq)))
  · exact vx_Zqof (hts _ t1) (hts _ t5) (hw _ u1) hA
  · exact vx_Zqof (hts _ t2) (hts _ t5) (hw _ u2) hA
  · exact va_Zof (hts _ t3) (hts _ t6) (va_eqt (hw _ u3)) hA
  · exact va_Zqof (hts _ t4) (hts _ t7) (hw _ u4) hA
  · intro a c ha hc hac
    rcases u5 a ha c hc with h | h
    · exact absurd h hac
    · exact va_Nc.of (hw _ h)
  · intro a ha
    by_cases h : a = 5 ∨ a = 7 ∨ a = 8
    · left
      have h0 := List.all_eq_true.mp tw23_obj a (by simpa using h)
      rw [Bool.and_eq_true] at h0
      exact va_AO.of (hts _ (of_decide_eq_true h0.1))
    · right
      omega
  · intro w hq
    have h0 := List.all_eq_true.mp tw23_cast w hq
    rw [Bool.and_eq_true] at h0
    exact va_Nw.of h0.2 (hts _ (of_decide_eq_true h0.1))
/-- the pure machine's memory at the law's entry -/
def jm00 (L : Nat) (xs : Nat → Int32) : JM := ([], fun _ _ => .inl 0, 0, 0, true, (L, fun k => (xs k).toInt))
set_option maxHeartbeats 4000000 in
/-- the printed law out of a run of the pure one -/
theorem law_W {p : Program} {e : Env} {s : State} {m : MethodId} {below : List Frame} {meth : Method} {c : Code} (l : Launch) (hflags : l.flags = flags0) {b L : Nat} {xs : Nat → Int32} (C0 : lw_At p s m meth c b L xs) {n : Nat} {Mf : JM} (hrun : jrun n 428 0 (jargs 428 [.inr (.inl 1000000)]) [] (jm00 L xs) = some (.inl (some (.inl 1)), Mf)) (hc : jcells Mf ≤ 601024) (hs : jslots Mf ≤ 7293034) :
    W p l e room_1 s m #[Value.ref b] below meth c s.heap [] 0 0 (lw_Z below #[Value.ref b] s) (entryFrame m ([Value.ref b] : List Value).toArray 9) := by
  obtain ⟨c1, c2, c3, c4, c5, c6, c7, c8, c9, c10, c11, c12⟩ := C0
  obtain ⟨E, e1, e2, e3, e4, hFx⟩ := j_start c6 c7 c8 (flat_of_before _ c10)
  have C : jCtx E 428 p l s m #[Value.ref b] meth c := ⟨c1, by rw [j428c]; exact c2, by rw [j428l]; exact c4, by rw [j428n]; exact c5, fun w h => c6 w (List.mem_filter.mp h).1, hFx, c9, by rw [j428n]; exact c11, hflags, by rw [e1]; exact Nat.le_refl _⟩
  obtain ⟨hM, hX⟩ := okMof (show 428 < 429 by omega) (by omega) hrun
  have hval : ([.inr (.inl 1000000)] : List JV).map (jval E) = [Value.ref b] := by
    show [Value.ref (jad E 1000000)] = _
    unfold jad
    rw [if_neg (by omega), if_pos rfl, e2]
  have hL := jLoc_entry (E := E) (y := 428) (as := [.inr (.inl 1000000)]) (by rw [j428l]; decide) (fun v hv => by
    rw [List.mem_singleton.mp hv]
    exact ⟨trivial, rfl⟩)
  rw [hval] at hL
  have he : entryFrame m ([Value.ref b] : List Value).toArray 9 = F0 m 0 ((lg_sl [Value.ref b] ++ List.replicate (jmaxL 428 - (lg_sl [Value.ref b]).length) Slot.unset).toArray) [] := by
    rw [j428l]
    exact lg_entry_eq ..
  rw [he]
  have hRel : jRel E (jm00 L xs) s.heap := ⟨fun i t n hi => (by have h0 : jsh (jm00 L xs) i = none := rfl; rw [h0] at hi; cases hi), fun _ => (by rw [e1]; rfl), e3.symm, fun k _ => (by rw [e4]; rfl)⟩
  have hgo := jwalk (E := E) (mi := 428) (p := p) (l := l) (e := e) (R := room_1) (s := s) (m := m) (args := #[Value.ref b]) (below := below) (meth := meth) (c := c) (Q := lw_Z below #[Value.ref b] s) (c0 := 0) (s0 := 0) (N := n) (fun k hk y h1 h2 h3 h4 => jmet_all hflags n k hk y h1 h2 h3 h4) C (by omega) hM hX (okHof (by omega))
    (by rw [j428h]; exact List.eq_nil_iff_forall_not_mem.mpr fun x hx => c12 x hx) (by rw [j428t]; exact Nat.le_refl _) (by rw [j428t]; decide) (by rw [j428t]; decide) (o := .inl (some (.inl 1))) (Mf := Mf) hc hs (fun _ => ⟨⟨_, rfl⟩, j428h⟩)
    (fun pc ls st x M v hx hst ho => by
      obtain ⟨f1, f2, f3⟩ := jfacts hM hX hx
      cases ho
      intro lsA H locs I
      rcases jstep_fin hst with hi | hi | hi | hi | hi | hi | ⟨k, hi⟩
      · obtain ⟨ins, len, a, b1, w⟩ := x
        dsimp only at hi
        subst hi
        have hl : len = 1 := of_decide_eq_true f3
        subst hl
        unfold jstep at hst
        dsimp only at hst
        split at hst
        · rename_i z
          split at hst
          · unfold jF at hst
            cases Option.some.inj hst
            refine va_forget (fun q hq => ?_) (W.widen (k := 601024) (n := 7293034) hc hs ?_)
            · have := I.2.2.2.2.2 q hq
              unfold jA at this
              rw [e1] at this
              exact this
            · rw [j428c] at f1
              exact lw_ret (d0 := s.drawn) (Drawn.sameBut.refl s.drawn lw_cs) c1 c2 c3 c9 f1
          · cases hst
        · cases hst
      all_goals
        exfalso
        obtain ⟨ins, len, a, b1, w⟩ := x
        dsimp only at hi
        subst hi
        unfold jstep at hst
        dsimp only at hst
        repeat' (split at hst)
        all_goals first
          | (cases hst; done)
          | (unfold jF at hst; cases Option.some.inj hst; done)
          | (unfold jN at hst; cases Option.some.inj hst; done)
          | (cases Option.some.inj hst; done))
    (fun pc ls st x M k hx hst ho _ _ => by cases ho)
    (fun pc ls rest k ho _ _ => by cases ho)
    n (Nat.le_refl _) 0 (jargs 428 [.inr (.inl 1000000)]) [] (jm00 L xs) hrun (Nat.zero_le _) (Nat.zero_le _) _ s.heap [] ⟨hL, hRel, (fun _ h => nomatch h), va_S.rf⟩
  exact hgo
