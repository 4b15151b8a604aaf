/-! THE PRINTED MACHINE HELD AGAINST THE PURE ONE: what they have in common -/
def jcl : List vw_C := jFs.map fun q => (q.1, (fun k => q.2.getD k ("", "", "", false)), q.2.length)
theorem jcl_get {t : Nat} (ht : t < 16) : jcl[t]? = some (jclsn t, (fun k => jfd t k), (jfields t).length) := by
  have hl : t < jFs.length := by have : jFs.length = 16 := by decide +kernel
                                 omega
  unfold jcl jclsn jfd jfields
  rw [List.getElem?_map, List.getElem?_eq_getElem hl]
  simp only [Option.map_some, List.getD_eq_getElem?_getD, List.getElem?_eq_getElem hl, Option.getD_some]
/-- the types of arrays by their tags -/
def jfty : Nat → FieldType
  | 100 => .int
  | 101 => .byte
  | 102 => .boolean
  | 103 => .long
  | 116 => .object "OverlapBenchLaw$Node"
  | 199 => .object "java/lang/Object"
  | 110 => .object "OverlapBench$Rule"
  | 112 => .object "OverlapBench$State"
  | _ => .object "OverlapBench$Term"
def jtagok (t : Nat) : Prop := (100 ≤ t ∧ t < 104) ∨ (t = 110 ∨ t = 112 ∨ t = 113 ∨ t = 116 ∨ t = 199)
/-- what the run has fixed: the classes' numbers, the arrays' classes, the first cell, the script's place and contents, the literals' places, the empty row of lists -/
abbrev JE : Type := va_G × (Nat → ClassId) × Nat × Nat × Nat × (Nat → Int32) × (Nat → Nat) × (Nat → Nat) × Nat
def jD (E : JE) : va_G := E.1
def jC (E : JE) : Nat → ClassId := E.2.1
def jB (E : JE) : Nat := E.2.2.1
def jbs (E : JE) : Nat := E.2.2.2.1
def jLx (E : JE) : Nat := E.2.2.2.2.1
def jsx (E : JE) : Nat → Int32 := E.2.2.2.2.2.1
def jaK (E : JE) : Nat → Nat := E.2.2.2.2.2.2.1
def jaV (E : JE) : Nat → Nat := E.2.2.2.2.2.2.2.1
def jem (E : JE) : Nat := E.2.2.2.2.2.2.2.2
def jA (E : JE) : Nat → Prop := fun q => jB E ≤ q
def jad (E : JE) (i : Nat) : Nat := if i < 1000000 then jB E + i else if i = 1000000 then jbs E else if i = 1000001 then jem E else if i < 3000000 then jaK E (i - 2000000) else jaV E (i - 3000000)
def jval (E : JE) (v : JV) : Value := match v with
  | .inl z => .int (Int32.ofInt z)
  | .inr (.inl i) => .ref (jad E i)
  | .inr (.inr v) => v
def jok (v : JV) : Prop := match v with
  | .inl z => -2147483648 ≤ z ∧ z ≤ 2147483647
  | .inr (.inr (.retAddr _)) => False
  | _ => True
theorem jad_i {E : JE} {i : Nat} (h : i < 1000000) : jad E i = jB E + i := if_pos h
def jbyt : List (List Int32) := (List.range 14).map fun k => (jlit k).map Int32.ofInt
def jlenl : List Nat := (List.range 14).map fun k => (jlit k).length
/-- what may be put into a row of objects -/
def jobjs : List String := ["OverlapBenchLaw$Node", "[LOverlapBenchLaw$Node;"]
def jcsN (nm d : String) : MethodName := ⟨"java/lang/CharSequence", nm, d⟩
def jstN (nm d : String) : MethodName := ⟨"java/lang/String", nm, d⟩
def jifs : List (String × String) := [("length", "()I"), ("charAt", "(I)C")]
/-- what Arrays.equals asks of the rows' class -/
def jFz (A : Nat → Prop) (s : State) (H : Heap) : Prop := (va_Z "jdk/internal/misc/Unsafe" "ARRAY_LONG_BASE_OFFSET" "I" (.int 16) A s H ∧ va_Z "jdk/internal/util/ArraysSupport" "LOG2_ARRAY_LONG_INDEX_SCALE" "I" (.int 3) A s H ∧ va_Z "jdk/internal/util/ArraysSupport" "LOG2_ARRAY_INT_INDEX_SCALE" "I" (.int 2) A s H) ∧ (∃ u, va_Z "jdk/internal/util/ArraysSupport" "U" "Ljdk/internal/misc/Unsafe;" (.ref u) A s H ∧ va_O "jdk/internal/misc/Unsafe" u A s H)
/-- what lies outside the run's own cells, at a state and a heap -/
def jFx (E : JE) (s : State) (H : Heap) : Prop :=
  va_K (jD E) jcl [] s ∧ (∀ t, jtagok t → ArrOfT s (jC E t) (jfty t) ∧ s.vm.findClass ("[" ++ (jfty t).toString) = some (jC E t) ∧ (105 ≤ t → va_RA s (jC E t) (jfty t)))
  ∧ (va_X (jbs E) (jLx E) (jsx E) s H ∧ ¬ jA E (jbs E)) ∧ vk_S 14 jlenl jbyt (jaK E) (jaV E) (jA E) s H
  ∧ (∀ q ∈ jstrs, vk_R q.1 q.2.1 (jtext q.2.2) (jaK E q.2.2) s) ∧ (∀ q ∈ jnests, va_Nw (.methodLinkNest q.1 q.2.1 q.2.2.1 q.2.2.2) s)
  ∧ (∀ q ∈ jfnests, va_Nw (.fieldLinkNest q.1 q.2.1 (jfd q.2.2.1 q.2.2.2).1 (jfd q.2.2.1 q.2.2.2).2.1 (jfd q.2.2.1 q.2.2.2).2.2.1 "OverlapBenchLaw") s)
  ∧ (va_Z "java/util/ArrayList" "DEFAULTCAPACITY_EMPTY_ELEMENTDATA" "[Ljava/lang/Object;" (.ref (jem E)) (jA E) s H ∧ va_T (.object "java/lang/Object") (jem E) 0 (fun _ => .null) (jA E) s H)
  ∧ va_Z "java/lang/String" "COMPACT_STRINGS" "Z" (.int 1) (jA E) s H ∧ va_Zq "jdk/internal/util/Preconditions" "SIOOBE_FORMATTER" "Ljava/util/function/BiFunction;" (jA E) s H
  ∧ ((∀ q ∈ jobjs, va_Nw (.castable q "java/lang/Object") s) ∧ (∀ q ∈ jifs, va_Fw "java/lang/String" (jcsN q.1 q.2) (jstN q.1 q.2) s) ∧ va_Nw (.castable "[B" "java/lang/Cloneable") s) ∧ (jB E ≤ H.size ∧ (∀ a, a < 12 → va_AO (jclsn a) s ∨ (a ≠ 5 ∧ a ≠ 7 ∧ a ≠ 8 ∧ a ≠ 11)) ∧ va_AO "java/lang/Object" s) ∧ jFz (jA E) s H
theorem va_X_moved {b L : Nat} {xs : Nat → Int32} {s U : State} {H : Heap} (hvm : s.vm.Alike U.vm) (h : va_X b L xs s H) : va_X b L xs U H := by
  obtain ⟨scr, h1, h2, h3⟩ := h
  exact ⟨scr, h1, State.isArrayOf_alike hvm h2, h3⟩
theorem va_X_kept {b L : Nat} {xs : Nat → Int32} {s : State} {H H1 : Heap} (hq : H1[b]? = H[b]?) (h : va_X b L xs s H) : va_X b L xs s H1 := by
  obtain ⟨scr, h1, h3⟩ := h
  exact ⟨scr, hq.trans h1, h3⟩
theorem jFx.scr {E : JE} {s : State} {H : Heap} (h : jFx E s H) : va_X (jbs E) (jLx E) (jsx E) s H ∧ ¬ jA E (jbs E) := h.2.2.1
theorem jFx.lit {E : JE} {s : State} {H : Heap} (h : jFx E s H) : vk_S 14 jlenl jbyt (jaK E) (jaV E) (jA E) s H := h.2.2.2.1
theorem jFx.str {E : JE} {s : State} {H : Heap} (h : jFx E s H) : ∀ q ∈ jstrs, vk_R q.1 q.2.1 (jtext q.2.2) (jaK E q.2.2) s := h.2.2.2.2.1
theorem jFx.nest {E : JE} {s : State} {H : Heap} (h : jFx E s H) : ∀ q ∈ jnests, va_Nw (.methodLinkNest q.1 q.2.1 q.2.2.1 q.2.2.2) s := h.2.2.2.2.2.1
theorem jFx.fnest {E : JE} {s : State} {H : Heap} (h : jFx E s H) : ∀ q ∈ jfnests, va_Nw (.fieldLinkNest q.1 q.2.1 (jfd q.2.2.1 q.2.2.2).1 (jfd q.2.2.1 q.2.2.2).2.1 (jfd q.2.2.1 q.2.2.2).2.2.1 "OverlapBenchLaw") s := h.2.2.2.2.2.2.1
theorem jFx.emp {E : JE} {s : State} {H : Heap} (h : jFx E s H) : va_Z "java/util/ArrayList" "DEFAULTCAPACITY_EMPTY_ELEMENTDATA" "[Ljava/lang/Object;" (.ref (jem E)) (jA E) s H ∧ va_T (.object "java/lang/Object") (jem E) 0 (fun _ => .null) (jA E) s H := h.2.2.2.2.2.2.2.1
theorem jFx.compact {E : JE} {s : State} {H : Heap} (h : jFx E s H) : va_Z "java/lang/String" "COMPACT_STRINGS" "Z" (.int 1) (jA E) s H := h.2.2.2.2.2.2.2.2.1
theorem jFx.sio {E : JE} {s : State} {H : Heap} (h : jFx E s H) : va_Zq "jdk/internal/util/Preconditions" "SIOOBE_FORMATTER" "Ljava/util/function/BiFunction;" (jA E) s H := h.2.2.2.2.2.2.2.2.2.1
theorem jFx.cast {E : JE} {s : State} {H : Heap} (h : jFx E s H) : ∀ q ∈ jobjs, va_Nw (.castable q "java/lang/Object") s := h.2.2.2.2.2.2.2.2.2.2.1.1
theorem jFx.ifs {E : JE} {s : State} {H : Heap} (h : jFx E s H) : ∀ q ∈ jifs, va_Fw "java/lang/String" (jcsN q.1 q.2) (jstN q.1 q.2) s := h.2.2.2.2.2.2.2.2.2.2.1.2.1
theorem jFx.clo {E : JE} {s : State} {H : Heap} (h : jFx E s H) : va_Nw (.castable "[B" "java/lang/Cloneable") s := h.2.2.2.2.2.2.2.2.2.2.1.2.2
theorem jFx.size {E : JE} {s : State} {H : Heap} (h : jFx E s H) : jB E ≤ H.size := h.2.2.2.2.2.2.2.2.2.2.2.1.1
theorem jFx.ao {E : JE} {s : State} {H : Heap} (h : jFx E s H) : ∀ a, a < 12 → va_AO (jclsn a) s ∨ (a ≠ 5 ∧ a ≠ 7 ∧ a ≠ 8 ∧ a ≠ 11) := h.2.2.2.2.2.2.2.2.2.2.2.1.2.1
theorem jFx.aoO {E : JE} {s : State} {H : Heap} (h : jFx E s H) : va_AO "java/lang/Object" s := h.2.2.2.2.2.2.2.2.2.2.2.1.2.2
theorem jFx.fz {E : JE} {s : State} {H : Heap} (h : jFx E s H) : jFz (jA E) s H := h.2.2.2.2.2.2.2.2.2.2.2.2
theorem jFz_moved {A : Nat → Prop} {s U : State} {H : Heap} (hvm : s.vm.Alike U.vm) (h : jFz A s H) : jFz A U H := by
  obtain ⟨⟨h1, h2, h5⟩, u, h3, h4⟩ := h
  exact ⟨⟨h1.moved hvm, h2.moved hvm, h5.moved hvm⟩, u, h3.moved hvm, va_O.moved hvm h4⟩
theorem jFz_kept {A : Nat → Prop} {s : State} {H H1 : Heap} (hq : ∀ a : Nat, a < H.size → ¬ A a → H1[a]? = H[a]?) (h : jFz A s H) : jFz A s H1 := by
  obtain ⟨⟨h1, h2, h5⟩, u, h3, h4⟩ := h
  exact ⟨⟨h1.kept hq, h2.kept hq, h5.kept hq⟩, u, h3.kept hq, h4.kept hq⟩
theorem jifs_cls {q : String × String} : (jcsN q.1 q.2).cls ≠ "java/lang/invoke/MethodHandle" ∧ (jcsN q.1 q.2).cls ≠ "java/lang/invoke/VarHandle" := by
  show "java/lang/CharSequence" ≠ "java/lang/invoke/MethodHandle" ∧ "java/lang/CharSequence" ≠ "java/lang/invoke/VarHandle"
  decide +kernel
theorem jFx_warm {E : JE} {s U : State} {H : Heap} (hW : s.WarmedH U.vm) (h : jFx E s H) : jFx E U H := by
  obtain ⟨h1, h2, ⟨h3, h3'⟩, h4, h5, h6, h7, ⟨h8, h8'⟩, h9, h10, ⟨h11, h11', h11''⟩, ⟨h12, h13, h14⟩, h15⟩ := h
  have hvm := hW.alike
  exact ⟨va_K.moved hvm h1, fun t ht => ⟨arrOfT_moved hvm (h2 t ht).1, by rw [hvm.findClass]; exact (h2 t ht).2.1, fun z => va_RA.moved hvm ((h2 t ht).2.2 z)⟩, ⟨va_X_moved hvm h3, h3'⟩, vk_S.moved hvm h4, fun q hq => (h5 q hq).warm hW, fun q hq => va_Nw.warmM hW (h6 q hq), fun q hq => va_Nw.warmF hW (h7 q hq), ⟨h8.moved hvm, va_T.moved hvm h8'⟩, h9.moved hvm, va_Zq.moved hvm h10, ⟨fun q hq => va_Nw.warmC hW (h11 q hq), fun q hq => va_Fw.moved jifs_cls hvm (h11' q hq), va_Nw.warmC hW h11''⟩, ⟨h12, fun a ha => (h13 a ha).imp (va_AO.moved hvm) id, va_AO.moved hvm h14⟩, jFz_moved hvm h15⟩
theorem jFx_kept {E : JE} {s : State} {H H1 : Heap} (hq : ∀ a : Nat, a < H.size → ¬ jA E a → H1[a]? = H[a]?) (hs : H.size ≤ H1.size) (h : jFx E s H) : jFx E s H1 := by
  obtain ⟨h1, h2, ⟨h3, h3'⟩, h4, h5, h6, h7, ⟨h8, h8'⟩, h9, h10, h11, ⟨h12, h13⟩, h15⟩ := h
  have hb : jbs E < H.size := Nat.lt_of_lt_of_le (Nat.not_le.mp h3') h12
  exact ⟨h1, h2, ⟨va_X_kept (hq _ hb h3') h3, h3'⟩, h4.kept hq, h5, h6, h7, ⟨h8.kept hq, h8'.kept hq⟩, h9.kept hq, va_Zq.kept h10 hq, h11, ⟨Nat.le_trans h12 hs, h13⟩, jFz_kept hq h15⟩
/-- one cell -/
def jcellAt (E : JE) (a t n : Nat) (V : Nat → Value) (H : Heap) : Prop :=
  if t < 16 then n = (jfields t).length ∧ t_OB a ((jD E).1 t) n ((jD E).2 t) H V else jtagok t ∧ H[a]? = some (arrV (jC E t) n V)
theorem jcellAt_kept {E : JE} {a t n : Nat} {V : Nat → Value} {H H1 : Heap} (h : jcellAt E a t n V H) (hq : H1[a]? = H[a]?) : jcellAt E a t n V H1 := by
  unfold jcellAt at h ⊢
  by_cases ht : t < 16
  · rw [if_pos ht] at h ⊢
    exact ⟨h.1, h.2.kept hq⟩
  · rw [if_neg ht] at h ⊢
    exact ⟨h.1, hq.trans h.2⟩
theorem jcellAt_to {E : JE} {a t n : Nat} {V V1 : Nat → Value} {H : Heap} (h : jcellAt E a t n V H) (hv : ∀ k, k < n → V k = V1 k) : jcellAt E a t n V1 H := by
  unfold jcellAt at h ⊢
  by_cases ht : t < 16
  · rw [if_pos ht] at h ⊢
    exact ⟨h.1, h.2.to hv⟩
  · rw [if_neg ht] at h ⊢
    refine ⟨h.1, h.2.trans ?_⟩
    have e : (fun j : Fin n => V j.1) = fun j : Fin n => V1 j.1 := funext fun j => hv j.1 j.2
    unfold arrV
    rw [e]
theorem jcellAt_lt {E : JE} {a t n : Nat} {V : Nat → Value} {H : Heap} (h : jcellAt E a t n V H) : a < H.size := by
  unfold jcellAt at h
  split at h
  · obtain ⟨-, cell, h1, -⟩ := h
    exact (Array.getElem?_eq_some_iff.mp h1).1
  · exact (Array.getElem?_eq_some_iff.mp h.2).1
/-- the memory is what the heap holds -/
def jRel (E : JE) (M : JM) (H : Heap) : Prop :=
  (∀ i t n, jsh M i = some (t, n) → jcellAt E (jB E + i) t n (fun k => jval E (jget M i k)) H ∧ (∀ k, k < n → jok (jget M i k)) ∧ n < 2147483648) ∧ (jclean M = true → H.size = jB E + M.1.length) ∧ (jL M = jLx E ∧ ∀ k, k < jLx E → jxs M k = (jsx E k).toInt)
theorem jRel_kept {E : JE} {M : JM} {H H1 : Heap} (h : jRel E M H) (hq : ∀ q : Nat, q < H.size → H1[q]? = H[q]?) (hc : jclean M = true → H1.size = H.size) : jRel E M H1 := by
  refine ⟨fun i t n hi => ?_, fun c => (hc c).trans (h.2.1 c), h.2.2⟩
  obtain ⟨h1, h2⟩ := h.1 i t n hi
  exact ⟨jcellAt_kept h1 (hq _ (jcellAt_lt h1)), h2⟩
/-- the locals -/
def jLoc (E : JE) (lsA : Array Slot) (nL : Nat) (ls : List JV) : Prop := lsA.size = nL ∧ ls.length = nL ∧ lv_wf lsA ∧ ∀ (i : Nat) (v : JV), ls[i]? = some v → (∀ q, v ≠ .inr (.inr (.retAddr q))) → lsA[i]? = some (Slot.val (jval E v)) ∧ jok v
def jkn (v : JV) : Bool := match v with
  | .inr (.inr (.retAddr _)) => false
  | _ => true
theorem jkn_iff {v : JV} : jkn v = true ↔ ∀ q, v ≠ .inr (.inr (.retAddr q)) := by
  rcases v with z | z | z
  · simp [jkn]
  · simp [jkn]
  · cases z <;> simp [jkn]
def jlv (E : JE) : Nat → List JV → List (Nat × Value)
  | _, [] => []
  | i, v :: r => if jkn v = true then (i, jval E v) :: jlv E (i + 1) r else jlv E (i + 1) r
theorem jlv_mem {E : JE} : ∀ (ls : List JV) (i : Nat) (q : Nat × Value), q ∈ jlv E i ls ↔ ∃ (k : Nat) (v : JV), ls[k]? = some v ∧ jkn v = true ∧ q = (i + k, jval E v) := by
  intro ls
  induction ls with
  | nil => intro i q; simp [jlv]
  | cons v r ih =>
    intro i q
    have key : (∃ (k : Nat) (w : JV), (v :: r)[k]? = some w ∧ jkn w = true ∧ q = (i + k, jval E w)) ↔ (jkn v = true ∧ q = (i, jval E v)) ∨ ∃ (k : Nat) (w : JV), r[k]? = some w ∧ jkn w = true ∧ q = (i + 1 + k, jval E w) := by
      constructor
      · rintro ⟨k, w, h1, h2, h3⟩
        cases k with
        | zero => simp at h1; subst h1; exact Or.inl ⟨h2, h3⟩
        | succ k => exact Or.inr ⟨k, w, by simpa using h1, h2, by rw [h3]; congr 1; omega⟩
      · rintro (⟨h1, h2⟩ | ⟨k, w, h1, h2, h3⟩)
        · exact ⟨0, v, rfl, h1, h2⟩
        · exact ⟨k + 1, w, by simpa using h1, h2, by rw [h3]; congr 1; omega⟩
    rw [key, jlv]
    split
    · rename_i hv
      rw [List.mem_cons, ih]
      simp [hv]
    · rename_i hv
      rw [ih]
      simp [hv]
theorem jLoc_has {E : JE} {lsA : Array Slot} {nL : Nat} {ls : List JV} (h : jLoc E lsA nL ls) : lv_has lsA nL (jlv E 0 ls) := by
  refine ⟨h.1, h.2.2.1, fun q hq => ?_⟩
  obtain ⟨k, v, h1, h2, h3⟩ := (jlv_mem ls 0 q).mp hq
  subst h3
  rw [Nat.zero_add]
  exact (h.2.2.2 k v h1 (jkn_iff.mp h2)).1
theorem jLoc_of {E : JE} {lsA : Array Slot} {nL : Nat} {ls : List JV} {lv : List (Nat × Value)} (h : lv_has lsA nL lv) (hn : ls.length = nL) (hm : ∀ (i : Nat) (v : JV), ls[i]? = some v → jkn v = true → (i, jval E v) ∈ lv ∧ jok v) : jLoc E lsA nL ls :=
  ⟨h.1, hn, h.2.1, fun i v hv hk => ⟨h.2.2 _ (hm i v hv (jkn_iff.mpr hk)).1, (hm i v hv (jkn_iff.mpr hk)).2⟩⟩
theorem jLoc_at {E : JE} {lsA : Array Slot} {nL : Nat} {ls : List JV} (h : jLoc E lsA nL ls) {i : Nat} {v : JV} (hv : jld ls i = v) (hk : jkn v = true) : lsA[i]? = some (Slot.val (jval E v)) ∧ jok v := by
  unfold jld at hv
  rw [List.getD_eq_getElem?_getD] at hv
  cases hg : ls[i]? with
  | none => rw [hg] at hv; subst hv; cases hk
  | some w => rw [hg] at hv; simp at hv; subst hv; exact h.2.2.2 i w hg (jkn_iff.mp hk)
/-- the locals behind a store -/
theorem jLoc_sto {E : JE} {nL i : Nat} {ls ls1 : List JV} {v : JV} {lsA : Array Slot} (h : jLoc E lsA nL ls) (hs : jsto ls i v = some ls1) (hv : jok v) {ls' : Array Slot} (h' : lv_has ls' nL ((i, jval E v) :: (jlv E 0 ls).filter (fun q => !(q.1 == i) && !(q.1 + 1 == i && q.2.category == 2)))) : jLoc E ls' nL ls1 := by
  unfold jsto at hs
  split at hs
  · rename_i hc
    cases hs
    refine jLoc_of h' (by rw [List.length_set]; exact h.2.1) fun k w hw hk => ?_
    by_cases hki : k = i
    · subst hki
      rw [List.getElem?_set_self hc.2] at hw
      cases hw
      exact ⟨List.mem_cons_self, hv⟩
    · rw [List.getElem?_set_ne (Ne.symm hki)] at hw
      have hok := (h.2.2.2 k w hw (jkn_iff.mp hk)).2
      refine ⟨List.mem_cons_of_mem _ (List.mem_filter.mpr ⟨(jlv_mem ls 0 _).mpr ⟨k, w, hw, hk, by rw [Nat.zero_add]⟩, ?_⟩), hok⟩
      simp only [beq_iff_eq, Bool.and_eq_true, Bool.not_eq_true', Bool.and_eq_false_iff, beq_eq_false_iff_ne, ne_eq]
      refine ⟨hki, ?_⟩
      by_cases hk1 : k + 1 = i
      · right
        subst hk1
        have e : jc2 w = false := by
          have := hc.1
          rw [List.getD_eq_getElem?_getD, List.getElem?_cons_succ, hw] at this
          exact this
        rcases w with z | z | z
        · simp [jval, Value.category]
        · simp [jval, Value.category]
        · cases z <;> simp_all [jval, Value.category, jc2]
      · exact Or.inl hk1
  · cases hs
theorem jLoc_sto2 {E : JE} {nL i : Nat} {ls ls1 : List JV} {x : UInt64} {lsA : Array Slot} (h : jLoc E lsA nL ls) (hs : jsto2 ls i (jX (.double x)) = some ls1) {ls' : Array Slot} (h' : lv_has ls' nL ((i, Value.double x) :: (jlv E 0 ls).filter (fun q => !(q.1 == i) && (!(q.1 == i + 1) && !(q.1 + 1 == i && q.2.category == 2))))) : jLoc E ls' nL ls1 := by
  unfold jsto2 at hs
  split at hs
  · rename_i hc
    cases hs
    refine jLoc_of h' (by simp only [List.length_set]; exact h.2.1) fun k w hw hk => ?_
    by_cases hk2 : k = i + 1
    · subst hk2
      rw [List.getElem?_set_self (by simp; exact hc.2)] at hw
      cases hw
      cases hk
    · rw [List.getElem?_set_ne (Ne.symm hk2)] at hw
      by_cases hki : k = i
      · subst hki
        rw [List.getElem?_set_self (Nat.lt_of_succ_lt hc.2)] at hw
        cases hw
        exact ⟨List.mem_cons_self, trivial⟩
      · rw [List.getElem?_set_ne (Ne.symm hki)] at hw
        have hok := (h.2.2.2 k w hw (jkn_iff.mp hk)).2
        refine ⟨List.mem_cons_of_mem _ (List.mem_filter.mpr ⟨(jlv_mem ls 0 _).mpr ⟨k, w, hw, hk, by rw [Nat.zero_add]⟩, ?_⟩), hok⟩
        simp only [beq_iff_eq, Bool.and_eq_true, Bool.not_eq_true', Bool.and_eq_false_iff, beq_eq_false_iff_ne, ne_eq]
        refine ⟨hki, hk2, ?_⟩
        by_cases hk1 : k + 1 = i
        · right
          subst hk1
          have e : jc2 w = false := by
            have := hc.1
            rw [List.getD_eq_getElem?_getD, List.getElem?_cons_succ, hw] at this
            exact this
          rcases w with z | z | z
          · simp [jval, Value.category]
          · simp [jval, Value.category]
          · cases z <;> simp_all [jval, Value.category, jc2]
        · exact Or.inl hk1
  · cases hs
theorem jval_c2 {E : JE} {v : JV} (h : jc2 v = false) : (jval E v).category = 1 := by
  rcases v with z | z | z
  · rfl
  · rfl
  · cases z <;> simp_all [jval, Value.category, jc2]
theorem jwr_ok (x : Int32) : -2147483648 ≤ x.toInt ∧ x.toInt ≤ 2147483647 := by
  have h1 := x.le_toInt
  have h2 := x.toInt_lt
  omega
theorem jofi {z : Int} (h : -2147483648 ≤ z ∧ z ≤ 2147483647) : (Int32.ofInt z).toInt = z := by
  rw [Int32.toInt_ofInt, show Int32.size = 4294967296 from rfl, Int.bmod_eq_of_le (by omega) (by omega)]
theorem jof_toInt (x : Int32) : Int32.ofInt x.toInt = x := Int32.ofInt_toInt x
theorem jofi_add (x y : Int) : Int32.ofInt x + Int32.ofInt y = Int32.ofInt (wr (x + y)) := by
  apply Int32.toInt_inj.mp
  simp only [Int32.toInt_add, Int32.toInt_ofInt, wr]
  simp [Int.bmod_add_bmod, Int.add_bmod_bmod]
