/-! THE CLAIM OUT OF ONE WALK OF THE LAW'S BODY. Your part is whole_start (and what it stands on); all else here is the same for every law, but numbers. -/
def R_law : String := "OverlapBenchLaw"
def lw_P (b : Addr) (xs : List Int32) (args : Array Value) (s : State) : Prop := args = #[.ref b] ∧ s.IntsAt b xs ∧ xs.length ≤ 260 ∧ (Jvm.Cond.and given_1 narrow_1).before args s = true
def lw_Q (_ : Array Value) (s : State) (o : Outcome) (t : State) : Prop := o = .returned (some (.int 1)) ∧ Framed s o t [] 600086 7301442
def lw_Z (below : List Frame) (a : Array Value) (s : State) : State → Prop := fun t => ∃ o, t.status = .running ∧ Ended t below o ∧ lw_Q a s o t
/-- the law's own end, with 1 on the stack, nothing written that was there before, its room as the claim has it -/
theorem lw_ret {p : Program} {l : Launch} {e : Env} {s : State} {m : MethodId} {below : List Frame} {meth : Method} {c : Code} {b : Nat} (hx : p.tables.exec = Jvm.exec) (hb : c.code = code) (hr : meth.sig.returnType = ret) (hlocks : meth.locks = false) {pc : Nat} {H : Heap} {ls : Array Slot} (hdg : decode code pc = .ok (.ireturn, 1)) : W p l e room_1 s m #[Value.ref b] below meth c H [] 600086 7301442 (lw_Z below #[Value.ref b] s) (F0 m pc ls [.int 1]) := by
  intro T hT X
  obtain ⟨fs, hret, hrun, hended, hW, hframe⟩ := X.leave (v := some (.int 1)) (hlocks := hlocks) (fun h => by rw [hr] at h; cases h)
  have hmeth' : T.vm.method? m = some meth := X.method'
  refine ⟨T.setFrames fs, ?_, .returned (some (.int 1)), hrun, hended, rfl, ⟨_, rfl⟩, hW, hframe⟩
  jvm_step X.here [X.here.top, hx, hb, hdg, hmeth', hr, ret, narrow_b1]
  (try refine ⟨rfl, ?_⟩); (try refine ⟨rfl, ?_⟩)
  first | (intro acts; rw [hret _ acts rfl rfl rfl]) | rw [hret _ _ rfl rfl rfl]
  exact Steps.refl _
/-- what holds at the law's entry: the machine, the code, the tables' words (any of lw_tbl by 'hts w (by decide +kernel)'), the script of L ints xs at the cell b, what the Statement gives of the start (any of its parts by flat_of_before) -/
def lw_At (p : Program) (s : State) (m : MethodId) (meth : Method) (c : Code) (b L : Nat) (xs : Nat → Int32) : Prop :=
  p.tables.exec = Jvm.exec ∧ c.code = code ∧ meth.sig.returnType = ret ∧ c.maxLocals = 16 ∧ s.vm.findClass R_law = some m.cls ∧ (∀ w ∈ lw_tbl, w.before #[Value.ref b] s = true) ∧ va_X b L xs s s.heap ∧ b < s.heap.size ∧ meth.locks = false ∧ (Jvm.Cond.and given_1 narrow_1).before #[Value.ref b] s = true ∧ meth.name = "law"
theorem j274 : jmeths.getD 274 jm0 = jm_274 := rfl
theorem j274c : jmb 274 = code := by unfold jmb; rw [j274]; rfl
theorem j274n : jnm 274 = ⟨"OverlapBenchLaw", "law", "([I)Z"⟩ := by unfold jnm; rw [j274]; rfl
theorem j274l : jmaxL 274 = 16 := by decide +kernel
theorem j274t : jht 274 = 18 := by decide +kernel
def w23 : List Cond := flatC (Jvm.Cond.and given_1 narrow_1)
def sq23 (i : Nat) : String × Nat × Nat := jstrs.getD i ("", 0, 0)
def tm23 (i : Nat) : Jvm.Term := .string (sq23 i).1 (sq23 i).2.1
def vm23 (i : Nat) : Jvm.Term := .field (tm23 i) "java/lang/String" "value" "[B"
def lo23 : List (Nat × Nat) := [(103, 10), (113, 11), (124, 10), (134, 11), (145, 12), (157, 13), (170, 14), (184, 61), (245, 18), (263, 17), (280, 17), (297, 21), (318, 23), (341, 24)]
def gs23 (i : Nat) : List Cond := (w23.drop (lo23.getD i (0, 0)).1).take (lo23.getD i (0, 0)).2
theorem gs23_in {i : Nat} {w : Cond} (h : w ∈ gs23 i) : w ∈ w23 := List.mem_of_mem_drop (List.mem_of_mem_take h)
def sw23 (i : Nat) : Bool := decide (Cond.exactly (tm23 i) "java/lang/String" ∈ gs23 i) && (decide (Cond.eq (.field (tm23 i) "java/lang/String" "coder" "B") (.int 0) ∈ gs23 i) && (decide (Cond.arrayOf (vm23 i) .byte ∈ gs23 i) && (decide (Cond.eq (.length (vm23 i)) (.int (Int32.ofNat (jlenl.getD i 0))) ∈ gs23 i)
  && ((List.range (jlenl.getD i 0)).all (fun j => decide (Cond.eq (.elem (vm23 i) (.int (Int32.ofNat j))) (.int ((jbyt.getD i []).getD j 0)) ∈ gs23 i)) && (decide (jlenl.getD i 0 < 2 ^ 31)
  && (List.range i).all (fun j => decide (Cond.not (Cond.eq (tm23 j) (tm23 i)) ∈ gs23 i)))))))
theorem sw23_0 : sw23 0 = true := by decide +kernel
theorem sw23_1 : sw23 1 = true := by decide +kernel
theorem sw23_2 : sw23 2 = true := by decide +kernel
theorem sw23_3 : sw23 3 = true := by decide +kernel
theorem sw23_4 : sw23 4 = true := by decide +kernel
theorem sw23_5 : sw23 5 = true := by decide +kernel
theorem sw23_6 : sw23 6 = true := by decide +kernel
theorem sw23_7 : sw23 7 = true := by decide +kernel
theorem sw23_8 : sw23 8 = true := by decide +kernel
theorem sw23_9 : sw23 9 = true := by decide +kernel
theorem sw23_10 : sw23 10 = true := by decide +kernel
theorem sw23_11 : sw23 11 = true := by decide +kernel
theorem sw23_12 : sw23 12 = true := by decide +kernel
theorem sw23_13 : sw23 13 = true := by decide +kernel
theorem sw23_all : ∀ i : Nat, i < 14 → sw23 i = true := by
  intro i hi
  match i, hi with
  | 0, _ => exact sw23_0
  | 1, _ => exact sw23_1
  | 2, _ => exact sw23_2
  | 3, _ => exact sw23_3
  | 4, _ => exact sw23_4
  | 5, _ => exact sw23_5
  | 6, _ => exact sw23_6
  | 7, _ => exact sw23_7
  | 8, _ => exact sw23_8
  | 9, _ => exact sw23_9
  | 10, _ => exact sw23_10
  | 11, _ => exact sw23_11
  | 12, _ => exact sw23_12
  | 13, _ => exact sw23_13
theorem tw23_strs : jstrs.all (fun q => decide (Cond.stringRef q.1 q.2.1 (jtext q.2.2) ∈ lw_tbl)) = true := by decide +kernel
theorem tw23_nests : jnests.all (fun q => decide (Cond.methodLinkNest q.1 q.2.1 q.2.2.1 q.2.2.2 ∈ lw_tbl)) = true := by decide +kernel
def fn23 (q : String × Nat × Nat × Nat) : Cond := .fieldLinkNest q.1 q.2.1 (jfd q.2.2.1 q.2.2.2).1 (jfd q.2.2.1 q.2.2.2).2.1 (jfd q.2.2.1 q.2.2.2).2.2.1 "OverlapBenchLaw"
theorem tw23_fnests : jfnests.all (fun q => decide (fn23 q ∈ lw_tbl)) = true := by decide +kernel
theorem tw23_cast : jobjs.all (fun q => decide (Cond.castable q "java/lang/Object" ∈ lw_tbl) && (Cond.castable q "java/lang/Object").onTables) = true := by decide +kernel
theorem tw23_clo : (decide (Cond.castable "[B" "java/lang/Cloneable" ∈ lw_tbl) && (Cond.castable "[B" "java/lang/Cloneable").onTables) = true := by decide +kernel
theorem tw23_ifs : jifs.all (fun q => decide (Cond.declares (jcsN q.1 q.2) ∈ lw_tbl) && (decide (Cond.interfaceMethod (jcsN q.1 q.2).cls (jcsN q.1 q.2).cls (jcsN q.1 q.2).name (jcsN q.1 q.2).desc ∈ lw_tbl) && (decide (Cond.publicMethod (jstN q.1 q.2) ∈ lw_tbl) && (decide (Cond.unhidden "java/lang/String" (jcsN q.1 q.2).name (jcsN q.1 q.2).desc ∈ lw_tbl) && decide (Cond.castable "java/lang/String" (jcsN q.1 q.2).cls ∈ lw_tbl))))) = true := by decide +kernel
theorem tw23_arr : ([100, 101, 102, 103] : List Nat).all (fun t => decide (Cond.arrayClass (jfty t) ∈ lw_tbl)) = true := by decide +kernel
def ob23 : List (Nat × String) := [(110, jclsn 5), (112, jclsn 7), (113, jclsn 8), (116, jclsn 11), (199, "java/lang/Object")]
theorem tw23_obj : ob23.all (fun q => decide (Cond.arrayOver (.object q.2) ∈ lw_tbl) && decide (jfty q.1 = .object q.2)) = true := by decide +kernel
def st23 : List (String × String × String) := [("java/lang/String", "COMPACT_STRINGS", "Z"), ("jdk/internal/util/Preconditions", "SIOOBE_FORMATTER", "Ljava/util/function/BiFunction;"), ("java/util/ArrayList", "DEFAULTCAPACITY_EMPTY_ELEMENTDATA", "[Ljava/lang/Object;"), ("jdk/internal/misc/Unsafe", "ARRAY_LONG_BASE_OFFSET", "I"), ("jdk/internal/util/ArraysSupport", "LOG2_ARRAY_LONG_INDEX_SCALE", "I"), ("jdk/internal/util/ArraysSupport", "LOG2_ARRAY_INT_INDEX_SCALE", "I"), ("jdk/internal/util/ArraysSupport", "U", "Ljdk/internal/misc/Unsafe;")]
theorem tw23_sta : st23.all (fun q => decide (Cond.laysStatic q.1 q.2.1 q.2.2 ∈ lw_tbl) && decide (Cond.initialized q.1 ∈ lw_tbl)) = true := by decide +kernel
theorem st23_of {C n d : String} (h : decide ((C, n, d) ∈ st23) = true) : Cond.laysStatic C n d ∈ lw_tbl ∧ Cond.initialized C ∈ lw_tbl := by
  have := List.all_eq_true.mp tw23_sta _ (of_decide_eq_true h)
  simp only [Bool.and_eq_true, decide_eq_true_eq] at this
  exact this
def em23 : Jvm.Term := .static "java/util/ArrayList" "DEFAULTCAPACITY_EMPTY_ELEMENTDATA" "[Ljava/lang/Object;"
def us23 : Jvm.Term := .static "jdk/internal/util/ArraysSupport" "U" "Ljdk/internal/misc/Unsafe;"
theorem sv23_1 : Cond.eq (.static "java/lang/String" "COMPACT_STRINGS" "Z") (.int 1) ∈ w23 := by decide +kernel
theorem sv23_2 : Cond.isRef (.static "jdk/internal/util/Preconditions" "SIOOBE_FORMATTER" "Ljava/util/function/BiFunction;") ∈ w23 := by decide +kernel
theorem sv23_3 : Cond.arrayOf em23 (.object "java/lang/Object") ∈ w23 := by decide +kernel
theorem sv23_4 : Cond.eq (.length em23) (.int (Int32.ofNat 0)) ∈ w23 := by decide +kernel
theorem sv23_5 : Cond.eq (.static "jdk/internal/misc/Unsafe" "ARRAY_LONG_BASE_OFFSET" "I") (.int 16) ∈ w23 := by decide +kernel
theorem sv23_6 : Cond.eq (.static "jdk/internal/util/ArraysSupport" "LOG2_ARRAY_LONG_INDEX_SCALE" "I") (.int 3) ∈ w23 := by decide +kernel
theorem sv23_7 : Cond.eq (.static "jdk/internal/util/ArraysSupport" "LOG2_ARRAY_INT_INDEX_SCALE" "I") (.int 2) ∈ w23 := by decide +kernel
theorem sv23_8 : Cond.exactly us23 "jdk/internal/misc/Unsafe" ∈ w23 := by decide +kernel
theorem jstrs_in {q : String × Nat × Nat} (hq : q ∈ jstrs) : q.2.2 < 14 ∧ Jvm.Term.string q.1 q.2.1 = tm23 q.2.2 := by
  have : jstrs.all (fun q => decide (q.2.2 < 14 ∧ Jvm.Term.string q.1 q.2.1 = tm23 q.2.2)) = true := by decide +kernel
  exact of_decide_eq_true (List.all_eq_true.mp this q hq)
set_option maxHeartbeats 4000000 in
theorem j_start {s : State} {b L : Nat} {xs : Nat → Int32} (hts : ∀ w ∈ lw_tbl, w.before #[Value.ref b] s = true) (hX : va_X b L xs s s.heap) (hb : b < s.heap.size) (hw : ∀ w ∈ w23, w.before #[Value.ref b] s = true) :
    ∃ E : JE, jB E = s.heap.size ∧ jbs E = b ∧ jLx E = L ∧ jsx E = xs ∧ jFx E s s.heap := by
  have hA : ∀ a : Nat, a < s.heap.size → ¬ (fun q : Nat => s.heap.size ≤ q) a := fun a h => Nat.not_le.mpr h
  have hgd : ∀ w ∈ jgood, w.before #[Value.ref b] s = true := fun w h => lw_tbl2_ok hts w (List.mem_filter.mp h).1
  have hK : ∀ a : Nat, ∃ q : ClassId × (Nat → Nat), a < 16 → u_Kn s (jclsn a) (fun k => jfd a k) (jfields a).length q.1 q.2 := by
    intro a
    by_cases ha : a < 16
    · obtain ⟨c, i, h⟩ := u_known (C := jclsn a) (T := fun k => jfd a k) (N := (jfields a).length) hgd (jcw ha).1 (hgd _ (jcw ha).2.1)
      exact ⟨(c, i), fun _ => h⟩
    · exact ⟨(0, fun _ => 0), fun h => absurd h ha⟩
  obtain ⟨fk, hfk⟩ := Classical.axiomOfChoice hK
  have hob : ∀ q ∈ ob23, (Cond.arrayOver (.object q.2)).before #[Value.ref b] s = true ∧ jfty q.1 = .object q.2 := fun q hq => by
    have h0 := List.all_eq_true.mp tw23_obj q hq
    rw [Bool.and_eq_true] at h0
    exact ⟨hts _ (of_decide_eq_true h0.1), of_decide_eq_true h0.2⟩
  have hR : ∀ t : Nat, ∃ cA : ClassId, jtagok t → ArrOfT s cA (jfty t) ∧ s.vm.findClass ("[" ++ (jfty t).toString) = some cA ∧ (105 ≤ t → va_RA s cA (jfty t)) := by
    intro t
    by_cases ht : jtagok t
    · rcases ht with ht | ht
      · have hm : t ∈ ([100, 101, 102, 103] : List Nat) := by
          simp; omega
        have h1 := hts _ (of_decide_eq_true (List.all_eq_true.mp tw23_arr t hm))
        obtain ⟨c, k, comp, g1, g2, g3⟩ := Cond.arrayClass_spec (args := #[Value.ref b]) (first := s) (o := none) (s := s) (idx := []) h1
        exact ⟨c, fun _ => ⟨fun n z => ⟨fun k h => (by cases h), k, g2, comp, g3⟩, g1, fun h => by omega⟩⟩
      · obtain ⟨q, hq, rfl⟩ : ∃ q, q ∈ ob23 ∧ t = q.1 := by
          unfold ob23
          rcases ht with rfl | rfl | rfl | rfl | rfl
          · exact ⟨_, List.mem_cons_self, rfl⟩
          · exact ⟨_, List.mem_cons_of_mem _ List.mem_cons_self, rfl⟩
          · exact ⟨_, List.mem_cons_of_mem _ (List.mem_cons_of_mem _ List.mem_cons_self), rfl⟩
          · exact ⟨_, List.mem_cons_of_mem _ (List.mem_cons_of_mem _ (List.mem_cons_of_mem _ List.mem_cons_self)), rfl⟩
          · exact ⟨_, List.mem_cons_of_mem _ (List.mem_cons_of_mem _ (List.mem_cons_of_mem _ (List.mem_cons_of_mem _ List.mem_cons_self))), rfl⟩
        obtain ⟨h1, h2⟩ := hob q hq
        obtain ⟨comp, c, k, g1, g2, g3, g4, g5⟩ := Cond.arrayOver_spec (args := #[Value.ref b]) (first := s) (o := none) (s := s) (idx := []) h1
        rw [h2]
        exact ⟨c, fun _ => ⟨fun n z => ⟨fun k h => (by cases h), k, g3, comp, g4⟩, g5, fun _ => ⟨k, comp, g3, g4, g1, g5⟩⟩⟩
    · exact ⟨0, fun h => absurd h ht⟩
  obtain ⟨ra, hra⟩ := Classical.axiomOfChoice hR
  have hs := sw23_all
  unfold sw23 at hs
  simp only [Bool.and_eq_true, decide_eq_true_eq, List.all_eq_true, List.mem_range] at hs
  obtain ⟨adK, adV, hS, hev⟩ := vk_Sof (args := #[Value.ref b]) (s := s) (N := 14) (tm := tm23) (len := jlenl) (byt := jbyt) (A := fun q : Nat => s.heap.size ≤ q) (fun i hi => (hs i hi).2.2.2.2.2.1) (fun i hi => hw _ (gs23_in (hs i hi).1)) (fun i hi => hw _ (gs23_in (hs i hi).2.1)) (fun i hi => hw _ (gs23_in (hs i hi).2.2.1)) (fun i hi => hw _ (gs23_in (hs i hi).2.2.2.1))
    (fun i hi j hj => hw _ (gs23_in ((hs i hi).2.2.2.2.1 j hj))) (fun i j hi hj hij => by
      rcases Nat.lt_or_gt_of_ne hij with h | h
      · exact Or.inl (hw _ (gs23_in ((hs j hj).2.2.2.2.2.2 i h)))
      · exact Or.inr (hw _ (gs23_in ((hs i hi).2.2.2.2.2.2 j h)))) hA
  obtain ⟨em, hem, hemT⟩ := va_Tof (args := #[Value.ref b]) (s := s) (tm := em23) (ty := .object "java/lang/Object") (N := 0) (f := fun _ => .null) (A := fun q : Nat => s.heap.size ≤ q) (by decide) (hw _ sv23_3) (va_eqt (hw _ sv23_4)) (fun j hj => absurd hj (Nat.not_lt_zero j)) hA
  obtain ⟨u, cu, cellu, ku, hu, -⟩ := Cond.exactly_spec (args := #[Value.ref b]) (first := s) (o := none) (s := s) (idx := []) (hw _ sv23_8)
  have huO := va_Oof (A := fun q : Nat => s.heap.size ≤ q) (hw _ sv23_8) hu hA
  have zof : ∀ {C n d : String} {v : Value}, decide ((C, n, d) ∈ st23) = true → (Jvm.Term.static C n d).eval #[Value.ref b] s none [] s = some v → va_Z C n d v (fun q : Nat => s.heap.size ≤ q) s s.heap := fun h hv => va_Zof (hts _ (st23_of h).1) (hts _ (st23_of h).2) hv hA
  have hifs : ∀ q ∈ jifs, va_Fw "java/lang/String" (jcsN q.1 q.2) (jstN q.1 q.2) s := fun q hq => by
    have h0 := List.all_eq_true.mp tw23_ifs q hq
    simp only [Bool.and_eq_true, decide_eq_true_eq] at h0
    exact va_Fw.of (hts _ h0.1) (hts _ h0.2.1) (hts _ h0.2.2.1) (hts _ h0.2.2.2.1) (hts _ h0.2.2.2.2)
  have hclo : va_Nw (.castable "[B" "java/lang/Cloneable") s := by
    have h0 := tw23_clo
    rw [Bool.and_eq_true] at h0
    exact va_Nw.of h0.2 (hts _ (of_decide_eq_true h0.1))
  have hsio := va_Zqof (A := fun q : Nat => s.heap.size ≤ q) (hts _ (st23_of (C := "jdk/internal/util/Preconditions") (n := "SIOOBE_FORMATTER") (d := "Ljava/util/function/BiFunction;") (by decide +kernel)).1) (hts _ (st23_of (C := "jdk/internal/util/Preconditions") (n := "SIOOBE_FORMATTER") (d := "Ljava/util/function/BiFunction;") (by decide +kernel)).2) (hw _ sv23_2) hA
  refine ⟨((fun a => (fk a).1, fun a => (fk a).2), ra, s.heap.size, b, L, xs, adK, adV, em), rfl, rfl, rfl, rfl, ⟨fun c q hq => ?_, fun k q hq => by simp at hq⟩, hra, ⟨hX, hA b hb⟩, hS, ?_, ?_, ?_, ⟨zof (by decide +kernel) hem, hemT⟩, zof (by decide +kernel) (va_eqt (hw _ sv23_1)), hsio, ⟨?_, hifs, hclo⟩, ⟨Nat.le_refl _, ?_, va_AO.of (hob _ (List.mem_cons_of_mem _ (List.mem_cons_of_mem _ (List.mem_cons_of_mem _ (List.mem_cons_of_mem _ List.mem_cons_self))))).1⟩, ⟨zof (by decide +kernel) (va_eqt (hw _ sv23_5)), zof (by decide +kernel) (va_eqt (hw _ sv23_6)), zof (by decide +kernel) (va_eqt (hw _ sv23_7))⟩, u, zof (by decide +kernel) hu, huO⟩
  · by_cases hc : c < 16
    · rw [jcl_get hc] at hq
      cases hq
      exact hfk c hc
    · have hl : jcl.length = 16 := by decide +kernel
      rw [List.getElem?_eq_none (by omega)] at hq
      cases hq
  · intro q hq
    obtain ⟨g1, g2⟩ := jstrs_in hq
    refine vk_R.of (A := #[Value.ref b]) (hts _ (of_decide_eq_true (List.all_eq_true.mp tw23_strs q hq))) ?_
    rw [g2]
    exact hev _ g1
  · exact fun q hq => va_Nw.of rfl (hts _ (of_decide_eq_true (List.all_eq_true.mp tw23_nests q hq)))
  · exact fun q hq => va_Nw.of rfl (hts _ (of_decide_eq_true (List.all_eq_true.mp tw23_fnests q hq)))
  · intro q hq
    have h0 := List.all_eq_true.mp tw23_cast q hq
    rw [Bool.and_eq_true] at h0
    exact va_Nw.of h0.2 (hts _ (of_decide_eq_true h0.1))
  · intro a ha
    by_cases h5 : a = 5
    · left; rw [h5]; exact va_AO.of (hob _ List.mem_cons_self).1
    by_cases h7 : a = 7
    · left; rw [h7]; exact va_AO.of (hob _ (List.mem_cons_of_mem _ List.mem_cons_self)).1
    by_cases h8 : a = 8
    · left; rw [h8]; exact va_AO.of (hob _ (List.mem_cons_of_mem _ (List.mem_cons_of_mem _ List.mem_cons_self))).1
    by_cases h11 : a = 11
    · left; rw [h11]; exact va_AO.of (hob _ (List.mem_cons_of_mem _ (List.mem_cons_of_mem _ (List.mem_cons_of_mem _ List.mem_cons_self)))).1
    exact Or.inr ⟨h5, h7, h8, h11⟩
/-- the pure machine's memory at the law's entry -/
def jm00 (L : Nat) (xs : Nat → Int32) : JM := ([], fun _ _ => .inl 0, 0, 0, true, (L, fun k => (xs k).toInt))
set_option maxHeartbeats 4000000 in
/-- the printed law out of a run of the pure one -/
theorem law_W {p : Program} {e : Env} {s : State} {m : MethodId} {below : List Frame} {meth : Method} {c : Code} (l : Launch) (hflags : l.flags = flags0) {b L : Nat} {xs : Nat → Int32} (C0 : lw_At p s m meth c b L xs) {n : Nat} {Mf : JM} (hrun : jrun n 274 0 (jargs 274 [.inr (.inl 1000000)]) [] (jm00 L xs) = some (.inl (some (.inl 1)), Mf)) (hc : jcells Mf ≤ 600086) (hs : jslots Mf ≤ 7301442) :
    W p l e room_1 s m #[Value.ref b] below meth c s.heap [] 0 0 (lw_Z below #[Value.ref b] s) (entryFrame m ([Value.ref b] : List Value).toArray 16) := by
  obtain ⟨c1, c2, c3, c4, c5, c6, c7, c8, c9, c10, c11⟩ := C0
  obtain ⟨E, e1, e2, e3, e4, hFx⟩ := j_start c6 c7 c8 (flat_of_before _ c10)
  have C : jCtx E 274 p l s m #[Value.ref b] meth c := ⟨c1, by rw [j274c]; exact c2, by rw [j274l]; exact c4, by rw [j274n]; exact c5, fun w h => lw_tbl2_ok c6 w (List.mem_filter.mp h).1, hFx, c9, by rw [j274n]; exact c11, hflags, by rw [e1]; exact Nat.le_refl _⟩
  obtain ⟨hM, hX⟩ := okMof (show 274 < 275 by omega) (by omega) hrun
  have hval : ([.inr (.inl 1000000)] : List JV).map (jval E) = [Value.ref b] := by
    show [Value.ref (jad E 1000000)] = _
    unfold jad
    rw [if_neg (by omega), if_pos rfl, e2]
  have hL := jLoc_entry (E := E) (y := 274) (as := [.inr (.inl 1000000)]) (by rw [j274l]; decide) (fun v hv => by
    rw [List.mem_singleton.mp hv]
    exact ⟨trivial, rfl⟩)
  rw [hval] at hL
  have he : entryFrame m ([Value.ref b] : List Value).toArray 16 = F0 m 0 ((lg_sl [Value.ref b] ++ List.replicate (jmaxL 274 - (lg_sl [Value.ref b]).length) Slot.unset).toArray) [] := by
    rw [j274l]
    exact lg_entry_eq ..
  rw [he]
  have hRel : jRel E (jm00 L xs) s.heap := ⟨fun i t n hi => (by have h0 : jsh (jm00 L xs) i = none := rfl; rw [h0] at hi; cases hi), fun _ => (by rw [e1]; rfl), e3.symm, fun k _ => (by rw [e4]; rfl)⟩
  have hgo := jwalk (E := E) (mi := 274) (p := p) (l := l) (e := e) (R := room_1) (s := s) (m := m) (args := #[Value.ref b]) (below := below) (meth := meth) (c := c) (Q := lw_Z below #[Value.ref b] s) (c0 := 0) (s0 := 0) (N := n) z_spec (jmet_all hflags z_spec n) C (by omega) hM hX (by rw [j274t]; decide) (by rw [j274t]; decide) (by rw [j274t]; decide) (v := some (.inl 1)) (Mf := Mf) hc hs
    (fun pc ls st x M hx hst => by
      obtain ⟨f1, f2, f3⟩ := jfacts hM hX hx
      intro lsA H locs I
      rcases jstep_fin hst with hi | hi | hi | hi | ⟨k, hi⟩
      · obtain ⟨ins, len, a, b1, w⟩ := x
        dsimp only at hi
        subst hi
        have hl : len = 1 := of_decide_eq_true f3
        subst hl
        unfold jstep at hst
        dsimp only at hst
        split at hst
        · rename_i z
          split at hst
          · unfold jF at hst
            cases Option.some.inj hst
            refine va_forget (fun q hq => ?_) (W.widen (k := 600086) (n := 7301442) hc hs ?_)
            · have := I.2.2.2.2.2 q hq
              unfold jA at this
              rw [e1] at this
              exact this
            · rw [j274c] at f1
              exact lw_ret c1 c2 c3 c9 f1
          · cases hst
        · cases hst
      all_goals
        exfalso
        obtain ⟨ins, len, a, b1, w⟩ := x
        dsimp only at hi
        subst hi
        unfold jstep at hst
        dsimp only at hst
        repeat' (split at hst)
        all_goals first
          | (cases hst; done)
          | (unfold jF at hst; cases Option.some.inj hst; done)
          | (unfold jN at hst; cases Option.some.inj hst; done)
          | (cases Option.some.inj hst; done))
    n (Nat.le_refl _) 0 (jargs 274 [.inr (.inl 1000000)]) [] (jm00 L xs) hrun (Nat.zero_le _) (Nat.zero_le _) _ s.heap [] ⟨hL, hRel, (fun _ h => nomatch h), va_S.rf⟩
  exact hgo
