/-! THE PRINTED MACHINE HELD AGAINST THE PURE ONE: ends, all methods' contracts -/
set_option maxHeartbeats 4000000 in
theorem jstep_fin {x : JI} {pc : Nat} {ls st : List JV} {M : JM} {y : JO × JM} (hs : jstep x pc ls st M = some (.inr (.inr y))) :
    x.1 = .ireturn ∨ x.1 = .areturn ∨ x.1 = .freturn ∨ x.1 = .dreturn ∨ x.1 = .return_ ∨ x.1 = .nop ∨ ∃ n, x.1 = .new n := by
  have hN : ∀ {pc : Nat} {ls st : List JV} {M1 : JM}, jN pc ls st M1 = some (.inr (.inr y)) → False := fun e => by cases Option.some.inj e
  have hNo : ∀ {pc : Nat} {q : Option (List JV)} {st : List JV}, jNo pc q st M = some (.inr (.inr y)) → False := fun {pc q st} e => by
    cases q with
    | none => cases e
    | some ls => exact hN e
  have h1 : ∀ {x : JV} {st : List JV} {pc : Nat}, jld1 x st pc ls M = some (.inr (.inr y)) → False := fun {x st pc} e => by
    unfold jld1 at e; split at e
    · exact hN e
    · cases e
  have h2 : ∀ {x : JV} {st : List JV} {pc : Nat}, jld2 x st pc ls M = some (.inr (.inr y)) → False := fun {x st pc} e => by
    unfold jld2 at e; split at e
    · exact hN e
    · cases e
  have h3 : ∀ {x : JV} {st : List JV} {pc : Nat}, jldf x st pc ls M = some (.inr (.inr y)) → False := fun {x st pc} e => by
    unfold jldf at e; split at e
    · exact hN e
    · cases e
  have h4 : ∀ {x : JV} {st : List JV} {pc : Nat}, jldd x st pc ls M = some (.inr (.inr y)) → False := fun {x st pc} e => by
    unfold jldd at e; split at e
    · exact hN e
    · cases e
  have h5 : ∀ {i pc : Nat} {st : List JV}, jst1 i st pc ls M = some (.inr (.inr y)) → False := fun {i pc st} e => by
    unfold jst1 at e; split at e
    · exact hNo e
    · cases e
  have h6 : ∀ {i pc : Nat} {st : List JV}, jst2 i st pc ls M = some (.inr (.inr y)) → False := fun {i pc st} e => by
    unfold jst2 at e; split at e
    · exact hNo e
    · cases e
  have h7 : ∀ {cc : Bool} {t f : Nat} {st : List JV}, jbr cc t f ls st M = some (.inr (.inr y)) → False := fun {cc t f st} e => by
    unfold jbr at e; split at e
    · exact hN e
    · exact hN e
  have h8 : ∀ {t i pc : Nat} {k : Int} {st : List JV}, jread t i k pc ls st M = some (.inr (.inr y)) → False := fun {t i pc k st} e => by
    unfold jread at e; split at e
    · split at e
      · exact hN e
      · cases e
    · cases e
  have h9 : ∀ {t i pc : Nat} {k : Int} {v : JV} {st : List JV}, jwrite t i k v pc ls st M = some (.inr (.inr y)) → False := fun {t i pc k v st} e => by
    unfold jwrite at e; split at e
    · split at e
      · exact hN e
      · cases e
    · cases e
  have h10 : ∀ {q n : Nat} {virt recv : Bool}, jcall q n virt recv ls st M = some (.inr (.inr y)) → False := fun {q n virt recv} e => by
    unfold jcall at e
    dsimp only at e
    generalize (if recv = true then n + 1 else n) = k0 at e
    split at e
    · split at e
      · split at e
        · cases Option.some.inj e
        · cases e
      · cases e
      · cases Option.some.inj e
    · cases e
  obtain ⟨ins, len, a, b, w⟩ := x
  cases ins
  case ireturn => exact Or.inl rfl
  case areturn => exact Or.inr (Or.inl rfl)
  case freturn => exact Or.inr (Or.inr (Or.inl rfl))
  case dreturn => exact Or.inr (Or.inr (Or.inr (Or.inl rfl)))
  case return_ => exact Or.inr (Or.inr (Or.inr (Or.inr (Or.inl rfl))))
  case nop => exact Or.inr (Or.inr (Or.inr (Or.inr (Or.inr (Or.inl rfl)))))
  case new n => exact Or.inr (Or.inr (Or.inr (Or.inr (Or.inr (Or.inr ⟨n, rfl⟩)))))
  all_goals
    exfalso
    unfold jstep at hs
    dsimp only at hs
    repeat' (split at hs)
    all_goals first
      | exact h1 hs
      | exact h2 hs
      | exact h3 hs
      | exact h4 hs
      | exact h5 hs
      | exact h6 hs
      | exact h7 hs
      | exact h8 hs
      | exact h9 hs
      | exact h10 hs
      | exact hNo hs
      | exact hN hs
      | (cases Option.some.inj hs; done)
      | (cases hs; done)
theorem jbyte_n {z : Int} (h : -128 ≤ z ∧ z ≤ 127) : narrow .byte (.int (Int32.ofInt z)) = .int (Int32.ofInt z) := by
  show Value.int (Int32.ofInt z).toInt8.toInt32 = _
  congr 1
  apply Int32.toInt_inj.mp
  rw [Int8.toInt_toInt32, Int32.toInt_toInt8, jofi (by omega), Int.bmod_eq_of_le (by omega) (by omega)]
theorem jchar_n {z : Int} (h : 0 ≤ z ∧ z ≤ 65535) : narrow .char (.int (Int32.ofInt z)) = .int (Int32.ofInt z) := by
  obtain ⟨q, rfl⟩ := Int.eq_ofNat_of_zero_le h.1
  rw [Int32.ofInt_eq_ofNat]
  exact (pk_charN (q := q) (by omega)).1
theorem jret_ty {rt : Option FieldType} {a pc len b w ht : Nat} {z : Int} {y : MethodName} (f2 : okL y ht rt (pc, .ireturn, len, a, b, w) = true) (hz : jret a z = true) : ∃ ty, rt = some ty ∧ narrow ty (.int (Int32.ofInt z)) = .int (Int32.ofInt z) :=
  match a, f2, hz with
  | 0, f2, _ => ⟨.int, of_decide_eq_true f2, rfl⟩
  | 1, f2, hz => ⟨.boolean, of_decide_eq_true f2, by
      simp only [jret, Bool.or_eq_true, beq_iff_eq] at hz
      rcases hz with rfl | rfl <;> decide +kernel⟩
  | 2, f2, hz => ⟨.byte, of_decide_eq_true f2, jbyte_n (of_decide_eq_true hz)⟩
  | _ + 3, f2, hz => ⟨.char, of_decide_eq_true f2, jchar_n (of_decide_eq_true hz)⟩
theorem jtraces {l : Launch} (h : l.flags = flags0) : l.stackTraces = false := by
  unfold Launch.stackTraces
  rw [h]
  decide +kernel
section J20
variable {E : JE} {mi : Nat} {p : Program} {l : Launch} {e : Env} {R : Room} {s : State} {m : MethodId} {args : Array Value} {below : List Frame} {meth : Method} {c : Code} {Q : State → Prop} {c0 s0 : Nat}
/-- a return -/
theorem j_ret {o : JO} {Mf : JM} {pc : Nat} {ls st : List JV} {x : JI} {M : JM} {v : Option JV} (C : jCtx E mi p l s m args meth c) (hr : meth.sig.returnType = jrt mi) (hM : okM (jmeths.getD mi jm0) = true) (hX : okX (jmeths.getD mi jm0) = true) (hx : jcode mi pc = some x) (hs : jstep x pc ls st M = some (.inr (.inr (.inl v, Mf)))) (ho : o = .inl v) :
    jGo E mi p l e R s m args below meth c (vx_MQ below (jQc E Mf o) (jXc E Mf o) args s (jcells Mf - c0) (jslots Mf - s0) (jA E)) c0 s0 pc ls st M := by
  obtain ⟨f1, f2, f3⟩ := jfacts hM hX hx
  have hlk := C.2.2.2.2.2.2.1
  intro lsA H locs I
  have fin : ∀ (v1 : Option JV), v = v1 → (∀ x, v1 = some x → jok x) → M = Mf → ∀ t : State, t.heap = H → s.WarmedH t.vm → jQc E Mf o args s (.returned (v1.map (jval E))) t := by
    intro v1 h1 h2 h3 t ht _
    subst h1 h3
    exact ⟨⟨v, ho, rfl, h2, by rw [ht]; exact I.2.1⟩, I.2.2.2.F ht⟩
  rcases jstep_fin hs with hi | hi | hi | hi | hi | hi | ⟨n, hi⟩
  · obtain ⟨ins, len, a, b, w⟩ := x
    dsimp only at hi
    subst hi
    have hl : len = 1 := of_decide_eq_true f3
    subst hl
    unfold jstep at hs
    dsimp only at hs
    split at hs
    · rename_i z
      split at hs
      · rename_i hz
        unfold jF at hs
        cases Option.some.inj hs
        have hok : jok (.inl z) := I.hd.1
        obtain ⟨ty, hty, hn⟩ := jret_ty f2 hz
        exact vx_ret (W.zret C.1 C.2.1 (hr.trans hty) hn (fin (some (.inl z)) rfl (fun y hy => by cases hy; exact hok) rfl) I.2.2.2.2.2 f1 hlk)
      · cases hs
    · cases hs
  · obtain ⟨ins, len, a, b, w⟩ := x
    dsimp only at hi
    subst hi
    have hl : len = 1 := of_decide_eq_true f3
    subst hl
    unfold jstep at hs
    dsimp only at hs
    split at hs
    · rename_i z
      unfold jF at hs
      cases Option.some.inj hs
      have e2 : (match jrt mi with | some (.object _) => true | _ => false) = true := f2
      obtain ⟨q, hq⟩ : ∃ q, jrt mi = some (.object q) := by
        split at e2
        · rename_i q hq
          exact ⟨q, hq⟩
        · cases e2
      exact vx_ret (W.aret C.1 C.2.1 (hr.trans hq) (Or.inl ⟨q, rfl⟩) (Or.inr ⟨_, rfl⟩) (fin (some (.inr (.inl z))) rfl (fun y hy => by cases hy; trivial) rfl) I.2.2.2.2.2 f1 hlk)
    · cases hs
  · obtain ⟨ins, len, a, b, w⟩ := x
    dsimp only at hi
    subst hi
    have hl : len = 1 := of_decide_eq_true f3
    subst hl
    unfold jstep at hs
    dsimp only at hs
    split at hs
    · rename_i z
      unfold jF at hs
      cases Option.some.inj hs
      exact vx_ret (W.fret C.1 C.2.1 (hr.trans (of_decide_eq_true f2)) (fin (some (.inr (.inr (.float z)))) rfl (fun y hy => by cases hy; trivial) rfl) I.2.2.2.2.2 f1 hlk)
    · cases hs
  · obtain ⟨ins, len, a, b, w⟩ := x
    dsimp only at hi
    subst hi
    have hl : len = 1 := of_decide_eq_true f3
    subst hl
    unfold jstep at hs
    dsimp only at hs
    split at hs
    · rename_i z
      unfold jF at hs
      cases Option.some.inj hs
      exact vx_ret (W.dret C.1 C.2.1 (hr.trans (of_decide_eq_true f2)) (fin (some (.inr (.inr (.double z)))) rfl (fun y hy => by cases hy; trivial) rfl) I.2.2.2.2.2 f1 hlk)
    · cases hs
  · obtain ⟨ins, len, a, b, w⟩ := x
    dsimp only at hi
    subst hi
    have hl : len = 1 := of_decide_eq_true f3
    subst hl
    unfold jstep at hs
    dsimp only at hs
    split at hs
    · rename_i hst
      subst hst
      unfold jF at hs
      cases Option.some.inj hs
      exact vx_ret (W.vret C.1 C.2.1 (hr.trans (of_decide_eq_true f2)) (fin none rfl (fun y hy => by cases hy) rfl) I.2.2.2.2.2 f1 hlk)
    · cases hs
  · obtain ⟨ins, len, a, b, w⟩ := x
    dsimp only at hi
    subst hi
    cases f3
  · obtain ⟨ins, len, a, b, w⟩ := x
    dsimp only at hi
    subst hi
    unfold jstep at hs
    dsimp only at hs
    split at hs
    · split at hs
      · cases Option.some.inj hs
      · cases hs
    · split at hs
      · cases Option.some.inj hs
      · cases hs
theorem jRel_throw {M : JM} {H H1 : Heap} (h : jRel E M H) (hq : ∀ q : Nat, q < H.size → H1[q]? = H[q]?) : jRel E (jthrow M) H1 := by
  refine ⟨fun i t n hi => ?_, fun c => (by cases c), h.2.2⟩
  obtain ⟨h1, h2⟩ := h.1 i t n hi
  exact ⟨jcellAt_kept h1 (hq _ (jcellAt_lt h1)), h2⟩
/-- a throw -/
theorem j_thr {o : JO} {Mf : JM} {pc : Nat} {ls st : List JV} {x : JI} {M : JM} {k : Nat} (C : jCtx E mi p l s m args meth c) (hT : ∀ x ∈ c.exceptionTable.toList, False) (hM : okM (jmeths.getD mi jm0) = true) (hX : okX (jmeths.getD mi jm0) = true) (hR1 : jht mi ≤ R.frames) (hR2 : 33 * jht mi ≤ R.locals) (hf1 : jcells Mf - c0 ≤ R.cells) (hf2 : jslots Mf - s0 ≤ R.slots) (hx : jcode mi pc = some x) (hs : jstep x pc ls st M = some (.inr (.inr (.inr k, Mf)))) (ho : o = .inr k) (hc0 : c0 ≤ jcells M) (hs0 : s0 ≤ jslots M) :
    jGo E mi p l e R s m args below meth c (vx_MQ below (jQc E Mf o) (jXc E Mf o) args s (jcells Mf - c0) (jslots Mf - s0) (jA E)) c0 s0 pc ls st M := by
  obtain ⟨f1, f2, f3⟩ := jfacts hM hX hx
  have hlk := C.2.2.2.2.2.2.1
  have hts := C.2.2.2.2.1
  have hFx := C.2.2.2.2.2.1
  rcases jstep_fin hs with hi | hi | hi | hi | hi | hi | ⟨n, hi⟩
  · obtain ⟨ins, len, a, b, w⟩ := x
    dsimp only at hi
    subst hi
    unfold jstep at hs
    dsimp only at hs
    split at hs
    · split at hs
      · unfold jF at hs; cases Option.some.inj hs
      · cases hs
    · cases hs
  · obtain ⟨ins, len, a, b, w⟩ := x
    dsimp only at hi
    subst hi
    unfold jstep at hs
    dsimp only at hs
    split at hs
    · unfold jF at hs; cases Option.some.inj hs
    · cases hs
  · obtain ⟨ins, len, a, b, w⟩ := x
    dsimp only at hi
    subst hi
    unfold jstep at hs
    dsimp only at hs
    split at hs
    · unfold jF at hs; cases Option.some.inj hs
    · cases hs
  · obtain ⟨ins, len, a, b, w⟩ := x
    dsimp only at hi
    subst hi
    unfold jstep at hs
    dsimp only at hs
    split at hs
    · unfold jF at hs; cases Option.some.inj hs
    · cases hs
  · obtain ⟨ins, len, a, b, w⟩ := x
    dsimp only at hi
    subst hi
    unfold jstep at hs
    dsimp only at hs
    split at hs
    · unfold jF at hs; cases Option.some.inj hs
    · cases hs
  · obtain ⟨ins, len, a, b, w⟩ := x
    dsimp only at hi
    subst hi
    cases f3
  · obtain ⟨ins, len, a, b, w⟩ := x
    dsimp only at hi
    subst hi
    have e3 : (decide (len = 3) && (if a < 100 then true else (jhh mi).isEmpty && decide ((a = 101 ∧ b = 103) ∨ (a = 102 ∧ b = 110) ∨ (a = 100 ∧ b = 333)) && decide ((jnm mi).cls = "OverlapBench")
        && decide (((jbody mi).lookup (pc + 3)).map (fun x => (x.1, x.2.1)) = some (.dup, 1)) && decide (((jbody mi).lookup (pc + 4)).map (fun x => (x.1, x.2.1)) = some (.invokespecial b, 3)) && decide (((jbody mi).lookup (pc + 7)).map (fun x => (x.1, x.2.1)) = some (.athrow, 1)))) = true := f3
    have e2 : (if a < 100 then decide (a < 12) && jtw w (.classLink (jnm mi).cls n (jclsn a)) else jtw w (.classLink (jnm mi).cls n (jexc (a - 100))) && decide (a < 103) && decide (6 ≤ jht mi)) = true := f2
    unfold jstep at hs
    dsimp only at hs
    split at hs
    · split at hs
      · unfold jN at hs; cases Option.some.inj hs
      · cases hs
    · rename_i ha
      rw [if_neg ha] at e2 e3
      simp only [Bool.and_eq_true, decide_eq_true_eq] at e2 e3
      obtain ⟨hl3, ⟨⟨⟨⟨⟨d1, d2⟩, d3⟩, d4⟩, d5⟩, d6⟩⟩ := e3
      obtain ⟨⟨g1, g2⟩, g3⟩ := e2
      subst hl3
      split at hs
      · rename_i hst
        subst hst
        cases Option.some.inj hs
        have dec : ∀ (pc' : Nat) (i : Instr) (ln : Nat), ((jbody mi).lookup pc').map (fun x => (x.1, x.2.1)) = some (i, ln) → decode (jmb mi) pc' = .ok (i, ln) := by
          intro pc' i ln h
          cases hq : (jbody mi).lookup pc' with
          | none => rw [hq] at h; cases h
          | some x9 =>
            rw [hq] at h
            have h := Option.some.inj h
            have hc : jcode mi pc' = some x9 := hq
            have h9 := (jfacts hM hX hc).1
            rw [h9]
            cases h
            rfl
        have hmem : (b, a - 100) ∈ jthl := by
          rcases d2 with ⟨rfl, rfl⟩ | ⟨rfl, rfl⟩ | ⟨rfl, rfl⟩ <;> decide
        have hk3 : a - 100 < 3 := by omega
        have w1 := List.all_eq_true.mp jthw _ hmem
        have w2 := List.all_eq_true.mp jthw_ot _ hmem
        have w3 := List.all_eq_true.mp jthi (a - 100) (by simp; omega)
        simp only [Bool.and_eq_true, decide_eq_true_eq] at w2 w3
        have hat : ∀ w ∈ vx_at0 "OverlapBench" b (jexc (a - 100)) jnames, w.before args s = true := by
          intro w hw
          by_cases hg : goodWord w = true
          · have := List.all_eq_true.mp w1 w hw
            rw [hg] at this
            exact hts w (List.mem_filter.mpr ⟨of_decide_eq_true (by simpa using this), hg⟩)
          · have hot := List.all_eq_true.mp w2.1.1 w hw
            unfold vx_ot at hot
            rw [Bool.or_eq_true] at hot
            refine va_Nw.use (hot.resolve_right hg) (hFx.2.2.2.2.2.2.2.2.2.2.2.2.2 w (List.mem_filter.mpr ⟨List.mem_flatMap.mpr ⟨_, hmem, hw⟩, ?_⟩))
            simp [hg]
        have hk := jtw_mem g1
        intro lsA H locs I
        refine vx_throw0 (own := "OverlapBench") (cls := jexc (a - 100)) (names := jnames) (ik := n) (ic := b) C.1 C.2.1 (jtraces C.2.2.2.2.2.2.2.2.1) (by rw [← d3]; exact C.2.2.2.1) w2.1.2 (by decide +kernel) (by rw [← d3]; exact hts _ hk) (hts _ (List.mem_filter.mpr w3)) hat (fun w hw => ?_) hFx.2.2.2.2.2.2.1 hFx.2.2.2.2.2.2.2.1 I.2.2.2 (I.1.1.trans C.2.2.1.symm) f1 (dec _ _ _ d4) (dec _ _ _ d5) (dec _ _ _ d6) (fun x hx => (hT x hx).elim) (by show 2 + 3 < R.frames; omega) (by show 0 + (13 * (2 + 1) + 42) ≤ R.locals; omega) (by have : jcells (jthrow M) = jcells M + 1 := rfl; omega) (by have : jslots (jthrow M) = jslots M + 6 := rfl; omega) hlk (fun t _ ht1 ht2 => ?_) I.2.2.2.2.2 (by have : jcells (jthrow M) = jcells M + 1 := rfl; omega) (by have : jslots (jthrow M) = jslots M + 6 := rfl; omega)
        · rcases List.mem_cons.mp hw with q | q
          · rw [q, ← d3]
            unfold vx_ot
            rw [(List.mem_filter.mp hk).2, Bool.or_true]
          · rcases List.mem_cons.mp q with q | q
            · rw [q]; exact w2.2
            · exact List.all_eq_true.mp w2.1.1 w q
        · refine ⟨⟨a - 100, hk3, ho, rfl, jRel_throw I.2.1 ht2⟩, Nat.le_trans I.2.2.2.1 ht1, fun q h1 h2 => ?_⟩
          rw [ht2 q (Nat.lt_of_lt_of_le h1 I.2.2.2.1)]
          exact I.2.2.2.2.1 q h1 h2
      · cases hs
end J20
