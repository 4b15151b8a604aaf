/-! THE PRINTED MACHINE HELD AGAINST THE PURE ONE: Math, Object, throws, the walk of a body -/
theorem jmw : ([6, 72] : List Nat).all (fun k => jtw (jwp k) (.code (jnm k) (jmb k) 2 (some .int)) && jtw (jpl k).1 (.static (jnm k)) && jtw (jpl k).2.2.1 (.initialized (jnm k).cls)) = true := by decide +kernel
theorem jmx6 : jnm 6 = Jvm.Lib.Math.max.name ∧ jmb 6 = Jvm.Lib.Math.max.code := by decide +kernel
theorem jmx72 : jnm 72 = Jvm.Lib.Math.min.name ∧ jmb 72 = Jvm.Lib.Math.min.code := by decide +kernel
theorem jow : (jtw (jpl 1).1 (.instanceMethod Jvm.Lib.objectInit) && jtw (jwp 1) (.code Jvm.Lib.objectInit ⟨#[0xb1]⟩ 1 none)) = true := by decide +kernel
theorem jon : jnm 1 = Jvm.Lib.objectInit := by decide +kernel
theorem jobj {n : Nat} {v : JV} {M M1 : JM} {o : JO} (h : jrun n 1 0 (jargs 1 [v]) [] M = some (o, M1)) : o = .inl none ∧ M1 = M := by
  have e0 : jcode 1 0 = some (.return_, 1, 0, 0, 0) := by decide +kernel
  cases n with
  | zero => cases h
  | succ n =>
    rw [jrun, e0] at h
    simp only [jstep, if_true, jF, Option.some.injEq, Prod.mk.injEq] at h
    exact ⟨h.1.symm, h.2.symm⟩
theorem jrun_no {n y pc : Nat} {ls st : List JV} {M : JM} (h : jcode y pc = none) : jrun n y pc ls st M = none := by
  cases n with
  | zero => rfl
  | succ n => rw [jrun, h]
theorem jmax_run {n : Nat} {v1 v2 : JV} {M M1 : JM} {o : JO} (h : jrun n 6 0 (jargs 6 [v1, v2]) [] M = some (o, M1)) : ∃ x y : Int, v1 = .inl x ∧ v2 = .inl y ∧ o = .inl (some (.inl (if x < y then y else x))) ∧ M1 = M := by
  have e0 : jcode 6 0 = some (.iload_n 0, 1, 0, 0, 0) := by decide +kernel
  have e1 : jcode 6 1 = some (.iload_n 1, 1, 0, 0, 0) := by decide +kernel
  have e2 : jcode 6 2 = some (.if_icmp .lt 7, 3, 9, 0, 0) := by decide +kernel
  have e5 : jcode 6 5 = some (.iload_n 0, 1, 0, 0, 0) := by decide +kernel
  have e6 : jcode 6 6 = some (.goto 4, 3, 10, 0, 0) := by decide +kernel
  have e9 : jcode 6 9 = some (.iload_n 1, 1, 0, 0, 0) := by decide +kernel
  have e10 : jcode 6 10 = some (.ireturn, 1, 0, 0, 0) := by decide +kernel
  have ea : jargs 6 [v1, v2] = [v1, v2] := by
    unfold jargs
    rw [show jmaxL 6 = 2 by decide +kernel]
    rfl
  rw [ea] at h
  rcases v1 with x | v1
  · rcases v2 with y | v2
    · refine ⟨x, y, rfl, rfl, ?_⟩
      by_cases hxy : x < y
      · rcases n with _ | _ | _ | _ | _ | n <;> simp [jrun, e0, e1, e2, e5, e6, e9, e10, jstep, jld1, jld, jN, jbr, jcond, jF, jret, hxy] at h
        rw [if_pos hxy]
        exact ⟨h.1.symm, h.2.symm⟩
      · rcases n with _ | _ | _ | _ | _ | _ | n <;> simp [jrun, e0, e1, e2, e5, e6, e9, e10, jstep, jld1, jld, jN, jbr, jcond, jF, jret, hxy] at h
        rw [if_neg hxy]
        exact ⟨h.1.symm, h.2.symm⟩
    · rcases n with _ | _ | n <;> simp [jrun, e0, e1, jstep, jld1, jld, jN] at h
  · rcases n with _ | n <;> simp [jrun, e0, jstep, jld1, jld, jN] at h
theorem jmin_run {n : Nat} {v1 v2 : JV} {M M1 : JM} {o : JO} (h : jrun n 72 0 (jargs 72 [v1, v2]) [] M = some (o, M1)) : ∃ x y : Int, v1 = .inl x ∧ v2 = .inl y ∧ o = .inl (some (.inl (if y < x then y else x))) ∧ M1 = M := by
  have e0 : jcode 72 0 = some (.iload_n 0, 1, 0, 0, 0) := by decide +kernel
  have e1 : jcode 72 1 = some (.iload_n 1, 1, 0, 0, 0) := by decide +kernel
  have e2 : jcode 72 2 = some (.if_icmp .gt 7, 3, 9, 0, 0) := by decide +kernel
  have e5 : jcode 72 5 = some (.iload_n 0, 1, 0, 0, 0) := by decide +kernel
  have e6 : jcode 72 6 = some (.goto 4, 3, 10, 0, 0) := by decide +kernel
  have e9 : jcode 72 9 = some (.iload_n 1, 1, 0, 0, 0) := by decide +kernel
  have e10 : jcode 72 10 = some (.ireturn, 1, 0, 0, 0) := by decide +kernel
  have ea : jargs 72 [v1, v2] = [v1, v2] := by
    unfold jargs
    rw [show jmaxL 72 = 2 by decide +kernel]
    rfl
  rw [ea] at h
  rcases v1 with x | v1
  · rcases v2 with y | v2
    · refine ⟨x, y, rfl, rfl, ?_⟩
      by_cases hxy : y < x
      · rcases n with _ | _ | _ | _ | _ | n <;> simp [jrun, e0, e1, e2, e5, e6, e9, e10, jstep, jld1, jld, jN, jbr, jcond, jF, jret, hxy] at h
        rw [if_pos hxy]
        exact ⟨h.1.symm, h.2.symm⟩
      · rcases n with _ | _ | _ | _ | _ | _ | n <;> simp [jrun, e0, e1, e2, e5, e6, e9, e10, jstep, jld1, jld, jN, jbr, jcond, jF, jret, hxy] at h
        rw [if_neg hxy]
        exact ⟨h.1.symm, h.2.symm⟩
    · rcases n with _ | _ | n <;> simp [jrun, e0, e1, jstep, jld1, jld, jN] at h
  · rcases n with _ | n <;> simp [jrun, e0, jstep, jld1, jld, jN] at h
section J18
variable {E : JE} {mi : Nat} {p : Program} {l : Launch} {e : Env} {R : Room} {s : State} {m : MethodId} {args : Array Value} {below : List Frame} {meth : Method} {c : Code} {Q : State → Prop} {c0 s0 pc : Nat} {ls st : List JV} {M M1 : JM}
theorem j_max {idx : Nat} {x y : Int} {rest : List JV} (C : jCtx E mi p l s m args meth c) (hd : decode (jmb mi) pc = .ok (.invokestatic idx, 3)) (hl : Cond.methodLink (jnm mi).cls idx (jnm 6) ∈ jgood) (hR1 : 1 ≤ R.frames) (hR2 : 33 ≤ R.locals) (h8 : jwds rest ≤ 8) (hr1 : jcells M - c0 ≤ R.cells) (hr2 : jslots M - s0 ≤ R.slots) (k : jGo E mi p l e R s m args below meth c Q c0 s0 (pc + 3) ls (.inl (if x < y then y else x) :: rest) M) : jGo E mi p l e R s m args below meth c Q c0 s0 pc ls (.inl y :: .inl x :: rest) M := by
  intro lsA H locs I
  have hts := C.2.2.2.2.1
  have hw := List.all_eq_true.mp jmw 6 (by simp)
  simp only [Bool.and_eq_true] at hw
  obtain ⟨⟨w1, w2⟩, w3⟩ := hw
  have w1 := hts _ (jtw_mem w1)
  have w2 := hts _ (jtw_mem w2)
  have w3 := hts _ (jtw_mem w3)
  have hl := hts _ hl
  rw [jmx6.1] at w1 w2 w3 hl
  rw [jmx6.2] at w1
  have kk := k lsA H locs (I.tl.tl.push (v := .inl (if x < y then y else x)) (by split; exact I.hd.1; exact I.tl.hd.1) rfl)
  refine va_mmax C.1 C.2.1 (C.2.2.1.trans I.1.1.symm) C.2.2.2.1 hl w2 w3 w1 hR1 (by rw [jcat]; omega) hr1 hr2 hd ?_
  rw [show (if Int32.ofInt x < Int32.ofInt y then Int32.ofInt y else Int32.ofInt x) = Int32.ofInt (if x < y then y else x) by
    by_cases hxy : x < y
    · rw [if_pos hxy, if_pos ((jlt_iff I.tl.hd.1 I.hd.1).mpr hxy)]
    · rw [if_neg hxy, if_neg (fun h => hxy ((jlt_iff I.tl.hd.1 I.hd.1).mp h))]]
  exact kk
theorem j_min {idx : Nat} {x y : Int} {rest : List JV} (C : jCtx E mi p l s m args meth c) (hd : decode (jmb mi) pc = .ok (.invokestatic idx, 3)) (hl : Cond.methodLink (jnm mi).cls idx (jnm 72) ∈ jgood) (hR1 : 1 ≤ R.frames) (hR2 : 33 ≤ R.locals) (h8 : jwds rest ≤ 8) (hr1 : jcells M - c0 ≤ R.cells) (hr2 : jslots M - s0 ≤ R.slots) (k : jGo E mi p l e R s m args below meth c Q c0 s0 (pc + 3) ls (.inl (if y < x then y else x) :: rest) M) : jGo E mi p l e R s m args below meth c Q c0 s0 pc ls (.inl y :: .inl x :: rest) M := by
  intro lsA H locs I
  have hts := C.2.2.2.2.1
  have hw := List.all_eq_true.mp jmw 72 (by simp)
  simp only [Bool.and_eq_true] at hw
  obtain ⟨⟨w1, w2⟩, w3⟩ := hw
  have w1 := hts _ (jtw_mem w1)
  have w2 := hts _ (jtw_mem w2)
  have w3 := hts _ (jtw_mem w3)
  have hl := hts _ hl
  rw [jmx72.1] at w1 w2 w3 hl
  rw [jmx72.2] at w1
  have kk := k lsA H locs (I.tl.tl.push (v := .inl (if y < x then y else x)) (by split; exact I.hd.1; exact I.tl.hd.1) rfl)
  refine va_mmin C.1 C.2.1 (C.2.2.1.trans I.1.1.symm) C.2.2.2.1 hl w2 w3 w1 hR1 (by rw [jcat]; omega) hr1 hr2 hd ?_
  rw [show (if Int32.ofInt y < Int32.ofInt x then Int32.ofInt y else Int32.ofInt x) = Int32.ofInt (if y < x then y else x) by
    by_cases hxy : y < x
    · rw [if_pos hxy, if_pos ((jlt_iff I.hd.1 I.tl.hd.1).mpr hxy)]
    · rw [if_neg hxy, if_neg (fun h => hxy ((jlt_iff I.hd.1 I.tl.hd.1).mp h))]]
  exact kk
theorem j_objInit {idx v0 : Nat} {rest : List JV} (C : jCtx E mi p l s m args meth c) (hd : decode (jmb mi) pc = .ok (.invokespecial idx, 3)) (hl : Cond.methodLink (jnm mi).cls idx (jnm 1) ∈ jgood) (hR1 : 1 ≤ R.frames) (hR2 : 33 ≤ R.locals) (h8 : jwds rest ≤ 8) (k : jGo E mi p l e R s m args below meth c Q c0 s0 (pc + 3) ls rest M) : jGo E mi p l e R s m args below meth c Q c0 s0 pc ls (.inr (.inl v0) :: rest) M := by
  intro lsA H locs I
  have hts := C.2.2.2.2.1
  have hw := jow
  rw [Bool.and_eq_true] at hw
  have hl := hts _ hl
  rw [jon] at hl
  exact W.objInit C.1 C.2.1 C.2.2.2.1 hl (hts _ (jtw_mem hw.1)) (hts _ (jtw_mem hw.2)) rfl (I.1.1.trans C.2.2.1.symm) (g := F0 m pc lsA (.ref (jad E v0) :: rest.map (jval E))) rfl hd hR1 (by show 2 * 0 + _ + 12 ≤ R.locals; rw [jcat]; omega) (k lsA H locs I.tl)
end J18
