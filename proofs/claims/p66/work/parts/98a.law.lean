/-! THE JDK's Arrays.equals FOR LONGS: Unsafe.getLong reads an element -/
theorem fnd {α : Type 1} {f : α → Bool} {A B : List α} {r : α} (hA : (A.find? f).isNone = true) (hB : B.find? f = some r) : (A ++ B).find? f = some r := by
  rw [List.find?_append, Option.isNone_iff_eq_none.mp hA, hB]
  rfl
theorem fndL {α : Type 1} {f : α → Bool} {A B : List α} {r : α} (hA : A.find? f = some r) : (A ++ B).find? f = some r := by
  rw [List.find?_append, hA]
  rfl
def zUN : String := "jdk/internal/misc/Unsafe"
def zgl : MethodName := ⟨zUN, "getLong", "(Ljava/lang/Object;J)J"⟩
def zglR : NativeRow := Native.jdk_internal_misc_Unsafe.memory.getRow "Long" "J" .long "" .plain
set_option maxRecDepth 1000000 in
theorem z_row0 : NativeRow.find? Jvm.natives "jdk/internal/misc/Unsafe" "getLong" "(Ljava/lang/Object;J)J" = some zglR := by
  unfold NativeRow.find? Jvm.natives
  iterate 29 refine fndL ?_
  exact fnd (by decide +kernel) rfl
theorem z_row (p : Program) : NativeRow.find? p.tables.natives zgl.cls zgl.name zgl.desc = some zglR := by
  cases p <;> exact z_row0
theorem z_desc : parseMethodDescriptor zgl.desc = some { parameters := [.object "java/lang/Object", .long], returnType := some .long } := by decide +kernel
section Z98
variable {E : CtlPost} {e : Env} {d : Bool} {acts : List Action} {s : State}
theorem z_get {a cJ n k : Nat} {f : Nat → Int64} {off : Int64} {Q : Value → Pre} (hA : s.heap[a]? = some (arrV cJ n (fun j => .long (f j)))) (hJ : ArrOfT s cJ .long) (hk : k < n) (hneg : ¬ off < 0) (hoff : off.toNatClampNeg = 16 + 8 * k) (hQ : ∀ d' acts', Q (.long (f k)) d' acts' s) : wp (Jvm.UnsafeMem.get .long (.ref a) off .plain) Q E e d acts s := by
  obtain ⟨-, kA, hkA, comp, hkind⟩ := hJ n (fun j => .long (f j))
  have hr : (arrV cJ n (fun j => .long (f j))).slots[k]? = some (.long (f k)) := arrV_read _ _ hk
  have hvm : (arrV cJ n (fun j => .long (f j))).vm = .none := rfl
  have hcl : (arrV cJ n (fun j => .long (f j))).cls = cJ := rfl
  generalize arrV cJ n (fun j => .long (f j)) = A at hA hr hvm hcl hkA
  have hkA' : s.vm.classes[A.cls]? = some kA := by first | exact hkA | (rw [hcl]; exact hkA)
  simp [Jvm.UnsafeMem.get, Jvm.UnsafeMem.locate, Jvm.UnsafeMem.handedOut, hneg, hoff, hA, Cell.info, hvm, hkA', hkind, Jvm.UnsafeMem.arrayBase, Jvm.UnsafeMem.scaleOf, Jvm.UnsafeMem.isRefType, hr]
  exact hQ _ _
end Z98
section Z98b
variable {p : Program} {l : Launch} {e : Env} {R : Room} {s : State} {m : MethodId} {args : Array Value} {below : List Frame} {meth : Method} {c : Code} {H : Heap} {locs : List Loc} {cells slots : Nat} {Q : State → Prop}
variable {pc : Nat} {ls : Array Slot} {rest : List Value} {cc : ByteArray}
theorem z_getLong {own : String} {index u a cJ n k : Nat} {f : Nat → Int64} {off : Int64} {cellU : Cell} (hexec : p.tables.exec = Jvm.exec) (hb : c.code = cc) (hml : c.maxLocals = ls.size) (hown : s.vm.findClass own = some m.cls) (hlink : (Cond.methodLink own index zgl).before args s = true) (hinst : (Cond.instanceMethod zgl).before args s = true) (hsel : (Cond.selects zUN zgl zgl).before args s = true) (hnat : (Cond.native zgl).before args s = true)
    (hu : H[u]? = some cellU) (hobj : cellU.vm.isStatics = false) (hcls : s.vm.findClass zUN = some cellU.cls) (hA : H[a]? = some (arrV cJ n (fun j => .long (f j)))) (hJ : ArrOfT s cJ .long) (hk : k < n) (hneg : ¬ off < 0) (hoff : off.toNatClampNeg = 16 + 8 * k) (hfr : 1 ≤ R.frames) (hlo : (rest.map fun v => v.category).sum + 17 ≤ R.locals) (hdg : decode cc pc = .ok (.invokevirtual index, 3))
    (kk : W p l e R s m args below meth c H locs cells slots Q (F0 m (pc + 3) ls (.long (f k) :: rest))) : W p l e R s m args below meth c H locs cells slots Q (F0 m pc ls (.long off :: .ref a :: .ref u :: rest)) := by
  intro T hT X
  have hy : zgl.cls ≠ "java/lang/invoke/MethodHandle" ∧ zgl.cls ≠ "java/lang/invoke/VarHandle" := by decide +kernel
  have hK : Back l R p e below s args zgl 3 (rest.map fun v => v.category).sum (fun A aa => ∃ _ : Unit, aa = #[.ref u, .ref a, .long off] ∧ A.U.heap[a]? = some (arrV cJ n (fun j => .long (f j))) ∧ ArrOfT A.U cJ .long) (fun A aa v B => B = A ∧ ∀ _ : Unit, (aa = #[.ref u, .ref a, .long off] ∧ A.U.heap[a]? = some (arrV cJ n (fun j => .long (f j))) ∧ ArrOfT A.U cJ .long) → v = some (.long (f k))) :=
    Jvm.Free.Back.of_nativeQ (G := Unit) (P := fun _ aa U => aa = #[.ref u, .ref a, .long off] ∧ U.heap[a]? = some (arrV cJ n (fun j => .long (f j))) ∧ ArrOfT U cJ .long) (val := fun _ => some (.long (f k))) (words := 4) (z_row p) (Jvm.Free.nativeInstance hnat hinst z_desc) hfr (by rw [show nativeFrameWords zgl.cls zgl.name 4 = 6 from by decide +kernel]; omega) fun g U aa x _ hst hps hP => by
      obtain ⟨rfl, h1, h2⟩ := hP
      refine ⟨rfl, by simp [seenByNative, hst, hps, narrow], fun fs Q hq => ?_⟩
      show wp (do let v ← Jvm.UnsafeMem.get .long (.ref a) off .plain; mark "nat.jdk_internal_misc_Unsafe.get"; Pure.pure (some v)) Q _ e false [] (U.setFrames fs)
      simp only [wp_bind']
      refine z_get (s := U.setFrames fs) h1 h2 hk hneg hoff fun d' acts' => ?_
      simp
      exact hq _ _
  obtain ⟨mk, methM, hnamed, hmethM, hstM, habM⟩ := Cond.instanceMethod_spec hinst
  obtain ⟨mk2, methM2, hnamed2, hmethM2, -, -, -, hsigM⟩ := Cond.native_spec hnat
  cases hnamed.symm.trans hnamed2
  cases hmethM.symm.trans hmethM2
  obtain ⟨c2, r2, m2, q1, q2, q3, q4, kP, hkP, hkPi⟩ := Cond.selects_spec hsel
  cases hcls.symm.trans q1
  cases (State.methodFound?_of_named hnamed hy).symm.trans q2
  cases hnamed.symm.trans q3
  have hselP : selectMethod e.platform s.vm cellU.cls mk = .method mk := by rw [Launch.admits_selectMethod X.admits]; exact q4
  have hps : methM.sig.parameters.length = 2 := by
    rw [z_desc] at hsigM
    rw [← Option.some.inj hsigM]
    rfl
  obtain ⟨vm₁, X₁, hstep₁⟩ := X.invokevirtual hexec hown hlink hnamed hmethM hstM hkP hkPi hy (a := u) (cell := cellU) (by rw [hT]; exact hu)
    (fun z h => by rw [h] at hobj; cases hobj) hselP hmethM habM hkP hkPi (g := F0 m pc ls (.long off :: .ref a :: .ref u :: rest)) rfl (argsL := [.ref a, .long off]) (rest := rest) (by rw [hps]; rfl) rfl (by rw [hb]; exact hdg)
  obtain ⟨v, B, X', ⟨hB, hv⟩, hsteps⟩ := hK m meth c ⟨T.setVm vm₁, locs, cells, slots⟩ (F0 m pc ls rest) (.invokevirtual index) mk (Value.ref u :: [.ref a, .long off]).toArray X₁ rfl (by show ls.size = _; exact hml.symm) (by rw [hb]; exact hdg) (by rw [show (F0 m pc ls rest).stack = rest from rfl, show (F0 m pc ls rest).monitorRoom = 0 from rfl]; omega) (X₁.named hnamed) ⟨(), rfl, by show T.heap[a]? = _; rw [hT]; exact hA, arrOfT_moved X₁.warmed.alike hJ⟩
  subst hB
  obtain rfl := hv () ⟨rfl, by show T.heap[a]? = _; rw [hT]; exact hA, arrOfT_moved X₁.warmed.alike hJ⟩
  obtain ⟨t, a1, b1⟩ := kk (T.setVm vm₁) hT X'
  exact ⟨t, hstep₁ _ fun acts => by rw [doInvoke_state]; exact hsteps.trans a1, b1⟩
end Z98b
