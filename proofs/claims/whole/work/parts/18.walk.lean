/-! THE PRINTED MACHINE HELD AGAINST THE PURE ONE: Math, Object, throws, the walk of a body -/
theorem jmw : ([6, 79] : List Nat).all (fun k => jtw (jwp k) (.code (jnm k) (jmb k) 2 (some .int)) && jtw (jpl k).1 (.static (jnm k)) && jtw (jpl k).2.2 (.initialized (jnm k).cls)) = true := by decide +kernel
theorem jmx6 : jnm 6 = Jvm.Lib.Math.max.name ∧ jmb 6 = Jvm.Lib.Math.max.code := by decide +kernel
theorem jmx79 : jnm 79 = Jvm.Lib.Math.min.name ∧ jmb 79 = Jvm.Lib.Math.min.code := by decide +kernel
theorem jow : (jtw (jpl 1).1 (.instanceMethod Jvm.Lib.objectInit) && jtw (jwp 1) (.code Jvm.Lib.objectInit ⟨#[0xb1]⟩ 1 none)) = true := by decide +kernel
theorem jon : jnm 1 = Jvm.Lib.objectInit := by decide +kernel
theorem jobj {n : Nat} {v : JV} {M M1 : JM} {o : JO} (h : jrun n 1 0 (jargs 1 [v]) [] M = some (o, M1)) : o = .inl none ∧ M1 = M := by
  have e0 : jcode 1 0 = some (.return_, 1, 0, 0, 0) := by decide +kernel
  cases n with
  | zero => cases h
  | succ n =>
    rw [jrun, e0] at h
    simp only [jstep, if_true, jF, Option.some.injEq, Prod.mk.injEq] at h
    exact ⟨h.1.symm, h.2.symm⟩
theorem jrun_no {n y pc : Nat} {ls st : List JV} {M : JM} (h : jcode y pc = none) : jrun n y pc ls st M = none := by
  cases n with
  | zero => rfl
  | succ n => rw [jrun, h]
theorem jmax_run {n : Nat} {v1 v2 : JV} {M M1 : JM} {o : JO} (h : jrun n 6 0 (jargs 6 [v1, v2]) [] M = some (o, M1)) : ∃ x y : Int, v1 = .inl x ∧ v2 = .inl y ∧ o = .inl (some (.inl (if x < y then y else x))) ∧ M1 = M := by
  have e0 : jcode 6 0 = some (.iload_n 0, 1, 0, 0, 0) := by decide +kernel
  have e1 : jcode 6 1 = some (.iload_n 1, 1, 0, 0, 0) := by decide +kernel
  have e2 : jcode 6 2 = some (.if_icmp .lt 7, 3, 9, 0, 0) := by decide +kernel
  have e5 : jcode 6 5 = some (.iload_n 0, 1, 0, 0, 0) := by decide +kernel
  have e6 : jcode 6 6 = some (.goto 4, 3, 10, 0, 0) := by decide +kernel
  have e9 : jcode 6 9 = some (.iload_n 1, 1, 0, 0, 0) := by decide +kernel
  have e10 : jcode 6 10 = some (.ireturn, 1, 0, 0, 0) := by decide +kernel
  have ea : jargs 6 [v1, v2] = [v1, v2] := by
    unfold jargs
    rw [show jmaxL 6 = 2 by decide +kernel]
    rfl
  rw [ea] at h
  rcases v1 with x | v1
  · rcases v2 with y | v2
    · refine ⟨x, y, rfl, rfl, ?_⟩
      by_cases hxy : x < y
      · rcases n with _ | _ | _ | _ | _ | n <;> simp [jrun, e0, e1, e2, e5, e6, e9, e10, jstep, jld1, jld, jN, jbr, jcond, jF, jret, hxy] at h
        rw [if_pos hxy]
        exact ⟨h.1.symm, h.2.symm⟩
      · rcases n with _ | _ | _ | _ | _ | _ | n <;> simp [jrun, e0, e1, e2, e5, e6, e9, e10, jstep, jld1, jld, jN, jbr, jcond, jF, jret, hxy] at h
        rw [if_neg hxy]
        exact ⟨h.1.symm, h.2.symm⟩
    · rcases n with _ | _ | n <;> simp [jrun, e0, e1, jstep, jld1, jld, jN] at h
  · rcases n with _ | n <;> simp [jrun, e0, jstep, jld1, jld, jN] at h
theorem jmin_run {n : Nat} {v1 v2 : JV} {M M1 : JM} {o : JO} (h : jrun n 79 0 (jargs 79 [v1, v2]) [] M = some (o, M1)) : ∃ x y : Int, v1 = .inl x ∧ v2 = .inl y ∧ o = .inl (some (.inl (if y < x then y else x))) ∧ M1 = M := by
  have e0 : jcode 79 0 = some (.iload_n 0, 1, 0, 0, 0) := by decide +kernel
  have e1 : jcode 79 1 = some (.iload_n 1, 1, 0, 0, 0) := by decide +kernel
  have e2 : jcode 79 2 = some (.if_icmp .gt 7, 3, 9, 0, 0) := by decide +kernel
  have e5 : jcode 79 5 = some (.iload_n 0, 1, 0, 0, 0) := by decide +kernel
  have e6 : jcode 79 6 = some (.goto 4, 3, 10, 0, 0) := by decide +kernel
  have e9 : jcode 79 9 = some (.iload_n 1, 1, 0, 0, 0) := by decide +kernel
  have e10 : jcode 79 10 = some (.ireturn, 1, 0, 0, 0) := by decide +kernel
  have ea : jargs 79 [v1, v2] = [v1, v2] := by
    unfold jargs
    rw [show jmaxL 79 = 2 by decide +kernel]
    rfl
  rw [ea] at h
  rcases v1 with x | v1
  · rcases v2 with y | v2
    · refine ⟨x, y, rfl, rfl, ?_⟩
      by_cases hxy : y < x
      · rcases n with _ | _ | _ | _ | _ | n <;> simp [jrun, e0, e1, e2, e5, e6, e9, e10, jstep, jld1, jld, jN, jbr, jcond, jF, jret, hxy] at h
        rw [if_pos hxy]
        exact ⟨h.1.symm, h.2.symm⟩
      · rcases n with _ | _ | _ | _ | _ | _ | n <;> simp [jrun, e0, e1, e2, e5, e6, e9, e10, jstep, jld1, jld, jN, jbr, jcond, jF, jret, hxy] at h
        rw [if_neg hxy]
        exact ⟨h.1.symm, h.2.symm⟩
    · rcases n with _ | _ | n <;> simp [jrun, e0, e1, jstep, jld1, jld, jN] at h
  · rcases n with _ | n <;> simp [jrun, e0, jstep, jld1, jld, jN] at h
section J18
variable {E : JE} {mi : Nat} {p : Program} {l : Launch} {e : Env} {R : Room} {s : State} {m : MethodId} {args : Array Value} {below : List Frame} {meth : Method} {c : Code} {Q : State → Prop} {c0 s0 pc : Nat} {ls st : List JV} {M M1 : JM}
theorem j_max {idx : Nat} {x y : Int} {rest : List JV} (C : jCtx E mi p l s m args meth c) (hd : decode (jmb mi) pc = .ok (.invokestatic idx, 3)) (hl : Cond.methodLink (jnm mi).cls idx (jnm 6) ∈ jgood) (hR1 : 1 ≤ R.frames) (hR2 : 33 ≤ R.locals) (h8 : rest.length ≤ 8) (hc2 : (rest.all fun v => !jc2 v) = true) (hr1 : jcells M - c0 ≤ R.cells) (hr2 : jslots M - s0 ≤ R.slots) (k : jGo E mi p l e R s m args below meth c Q c0 s0 (pc + 3) ls (.inl (if x < y then y else x) :: rest) M) : jGo E mi p l e R s m args below meth c Q c0 s0 pc ls (.inl y :: .inl x :: rest) M := by
  intro lsA H locs I
  have hts := C.2.2.2.2.1
  have hw := List.all_eq_true.mp jmw 6 (by simp)
  simp only [Bool.and_eq_true] at hw
  obtain ⟨⟨w1, w2⟩, w3⟩ := hw
  have w1 := hts _ (jtw_mem w1)
  have w2 := hts _ (jtw_mem w2)
  have w3 := hts _ (jtw_mem w3)
  have hl := hts _ hl
  rw [jmx6.1] at w1 w2 w3 hl
  rw [jmx6.2] at w1
  have kk := k lsA H locs (I.tl.tl.push (v := .inl (if x < y then y else x)) (by split; exact I.hd.1; exact I.tl.hd.1) rfl)
  refine va_mmax C.1 C.2.1 (C.2.2.1.trans I.1.1.symm) C.2.2.2.1 hl w2 w3 w1 hR1 (by rw [jcat hc2]; omega) hr1 hr2 hd ?_
  rw [show (if Int32.ofInt x < Int32.ofInt y then Int32.ofInt y else Int32.ofInt x) = Int32.ofInt (if x < y then y else x) by
    by_cases hxy : x < y
    · rw [if_pos hxy, if_pos ((jlt_iff I.tl.hd.1 I.hd.1).mpr hxy)]
    · rw [if_neg hxy, if_neg (fun h => hxy ((jlt_iff I.tl.hd.1 I.hd.1).mp h))]]
  exact kk
theorem j_min {idx : Nat} {x y : Int} {rest : List JV} (C : jCtx E mi p l s m args meth c) (hd : decode (jmb mi) pc = .ok (.invokestatic idx, 3)) (hl : Cond.methodLink (jnm mi).cls idx (jnm 79) ∈ jgood) (hR1 : 1 ≤ R.frames) (hR2 : 33 ≤ R.locals) (h8 : rest.length ≤ 8) (hc2 : (rest.all fun v => !jc2 v) = true) (hr1 : jcells M - c0 ≤ R.cells) (hr2 : jslots M - s0 ≤ R.slots) (k : jGo E mi p l e R s m args below meth c Q c0 s0 (pc + 3) ls (.inl (if y < x then y else x) :: rest) M) : jGo E mi p l e R s m args below meth c Q c0 s0 pc ls (.inl y :: .inl x :: rest) M := by
  intro lsA H locs I
  have hts := C.2.2.2.2.1
  have hw := List.all_eq_true.mp jmw 79 (by simp)
  simp only [Bool.and_eq_true] at hw
  obtain ⟨⟨w1, w2⟩, w3⟩ := hw
  have w1 := hts _ (jtw_mem w1)
  have w2 := hts _ (jtw_mem w2)
  have w3 := hts _ (jtw_mem w3)
  have hl := hts _ hl
  rw [jmx79.1] at w1 w2 w3 hl
  rw [jmx79.2] at w1
  have kk := k lsA H locs (I.tl.tl.push (v := .inl (if y < x then y else x)) (by split; exact I.hd.1; exact I.tl.hd.1) rfl)
  refine va_mmin C.1 C.2.1 (C.2.2.1.trans I.1.1.symm) C.2.2.2.1 hl w2 w3 w1 hR1 (by rw [jcat hc2]; omega) hr1 hr2 hd ?_
  rw [show (if Int32.ofInt y < Int32.ofInt x then Int32.ofInt y else Int32.ofInt x) = Int32.ofInt (if y < x then y else x) by
    by_cases hxy : y < x
    · rw [if_pos hxy, if_pos ((jlt_iff I.hd.1 I.tl.hd.1).mpr hxy)]
    · rw [if_neg hxy, if_neg (fun h => hxy ((jlt_iff I.hd.1 I.tl.hd.1).mp h))]]
  exact kk
theorem j_objInit {idx v0 : Nat} {rest : List JV} (C : jCtx E mi p l s m args meth c) (hd : decode (jmb mi) pc = .ok (.invokespecial idx, 3)) (hl : Cond.methodLink (jnm mi).cls idx (jnm 1) ∈ jgood) (hR1 : 1 ≤ R.frames) (hR2 : 33 ≤ R.locals) (h8 : rest.length ≤ 8) (hc2 : (rest.all fun v => !jc2 v) = true) (k : jGo E mi p l e R s m args below meth c Q c0 s0 (pc + 3) ls rest M) : jGo E mi p l e R s m args below meth c Q c0 s0 pc ls (.inr (.inl v0) :: rest) M := by
  intro lsA H locs I
  have hts := C.2.2.2.2.1
  have hw := jow
  rw [Bool.and_eq_true] at hw
  have hl := hts _ hl
  rw [jon] at hl
  exact W.objInit C.1 C.2.1 C.2.2.2.1 hl (hts _ (jtw_mem hw.1)) (hts _ (jtw_mem hw.2)) rfl (I.1.1.trans C.2.2.1.symm) (g := F0 m pc lsA (.ref (jad E v0) :: rest.map (jval E))) rfl hd hR1 (by show 2 * 0 + _ + 12 ≤ R.locals; rw [jcat hc2]; omega) (k lsA H locs I.tl)
/-- caught here -/
theorem j_catch {k hpc kl pc1 : Nat} (C : jCtx E mi p l s m args meth c) (hT : c.exceptionTable.toList = tableOf (jhh mi)) (hM : okM (jmeths.getD mi jm0) = true) (hX : okX (jmeths.getD mi jm0) = true) (hH : okH mi = true) (hk : k < 3) (hc : jcatch (jhh mi) (jcnm mi) pc k = some hpc) (hh : jhand mi hpc = some (kl, pc1)) (hlt : kl < ls.length ∧ jc2 ((jU :: ls).getD kl jU) = false) (kk : jGo E mi p l e R s m args below meth c Q c0 s0 pc1 (ls.set kl jU) [] M) : ∀ (lsA : Array Slot) (H1 : Heap) (locs1 : List Loc) (q9 : Addr) (ce : Cell) (rest : List Value), jInv E mi s lsA H1 locs1 ls [] M → H1[q9]? = some ce → ce.vm = .none → s.vm.findClass (jexc k) = some ce.cls → vx_W p l e R s m args below meth c H1 locs1 (jcells M - c0) (jslots M - s0) Q (F0 m pc lsA rest) q9 := by
  intro lsA H1 locs1 q9 ce rest I h1 h2 h3
  have hts := C.2.2.2.2.1
  unfold okH at hH
  simp only [Bool.and_eq_true, Bool.or_eq_true, decide_eq_true_eq, List.all_eq_true] at hH
  obtain ⟨⟨g1, g2⟩, g3⟩ := hH
  have hcls : (jnm mi).cls = "OverlapBenchLaw" := by
    rcases g3 with g | g
    · have : jhh mi = [] := List.isEmpty_iff.mp g
      rw [this] at hc
      cases hc
    · exact g
  have hword : ∀ z : (Nat × Nat × Nat × Nat) × Nat, z ∈ (jhh mi).zip (jcnm mi) → (Cond.classLink (jnm mi).cls z.1.2.2.2 (jexc z.2)).before args s = true ∧ z.1.2.2.2 ≠ 0 ∧ z.2 < 3 := by
    intro z hz
    have hm := g2 z hz
    have hw := List.all_eq_true.mp jhw _ hm
    simp only [Bool.and_eq_true, decide_eq_true_eq] at hw
    rw [hcls]
    refine ⟨hts _ (List.mem_filter.mpr ⟨hw.1.1, hw.1.2⟩), hw.2, ?_⟩
    simp at hm
    omega
  have hsplit : ∀ (hs : List (Nat × Nat × Nat × Nat)) (ns : List Nat), jcatch hs ns pc k = some hpc → ∃ (pre : List (Nat × Nat × Nat × Nat)) (x : Nat × Nat × Nat × Nat) (suf : List (Nat × Nat × Nat × Nat)), hs = pre ++ x :: suf ∧ x.1 ≤ pc ∧ pc < x.2.1 ∧ x.2.2.1 = hpc ∧ (x, k) ∈ hs.zip ns ∧ ∀ z ∈ pre, ¬ (z.1 ≤ pc ∧ pc < z.2.1) ∨ ∃ n, n ≠ k ∧ (z, n) ∈ hs.zip ns := by
    intro hs
    induction hs with
    | nil => intro ns h; cases h
    | cons a r ih =>
      intro ns h
      cases ns with
      | nil => cases h
      | cons n ns =>
        unfold jcatch at h
        split at h
        · rename_i hcd
          cases h
          exact ⟨[], a, r, rfl, hcd.1, hcd.2.1, rfl, by rw [← hcd.2.2]; exact List.mem_cons_self, fun _ h => nomatch h⟩
        · rename_i hcd
          obtain ⟨pre, x, suf, i1, i2, i3, i4, i5, i6⟩ := ih ns h
          refine ⟨a :: pre, x, suf, by rw [i1]; rfl, i2, i3, i4, List.mem_cons_of_mem _ i5, fun z hz => ?_⟩
          rcases List.mem_cons.mp hz with q | q
          · subst q
            by_cases hcv : z.1 ≤ pc ∧ pc < z.2.1
            · exact Or.inr ⟨n, fun hn => hcd ⟨hcv.1, hcv.2, hn⟩, List.mem_cons_self⟩
            · exact Or.inl hcv
          · rcases i6 z q with w | ⟨n2, w1, w2⟩
            · exact Or.inl w
            · exact Or.inr ⟨n2, w1, List.mem_cons_of_mem _ w2⟩
  obtain ⟨pre, x, suf, i1, i2, i3, i4, i5, i6⟩ := hsplit _ _ hc
  have hxw := hword _ i5
  have hcast : (Cond.castable (jexc k) (jexc k)).before args s = true := by
    have h0 := List.all_eq_true.mp jcst k (by simp; omega)
    exact va_Nw.use (A := args) rfl (C.2.2.2.2.2.1.2.2.2.2.2.2.2.2.2.2.2.2.2 _ (of_decide_eq_true h0))
  have hNc := C.2.2.2.2.2.1.2.2.2.2.2.2.2.2.2.2.1
  refine vx_catch C.2.2.2.1 (tableOf pre) ⟨x.1, x.2.1, x.2.2.1, x.2.2.2⟩ (tableOf suf) (by rw [hT, i1]; unfold tableOf; rw [List.map_append, List.map_cons]) (fun z hz => ?_) (by unfold covers; simp [i2, i3]) hxw.2.1 hxw.1 hcast h1 h2 h3 ?_
  · obtain ⟨z0, hz0, rfl⟩ := List.mem_map.mp hz
    rcases i6 z0 hz0 with w | ⟨n, w1, w2⟩
    · refine Or.inl ?_
      unfold covers
      rw [← Bool.decide_and]
      exact decide_eq_false w
    · have := hword _ w2
      exact Or.inr ⟨this.2.1, _, this.1, hNc k n hk this.2.2 (Ne.symm w1)⟩
  · show W p l e R s m args below meth c H1 locs1 _ _ Q (F0 m x.2.2.1 lsA [.ref q9])
    rw [i4]
    unfold jhand at hh
    split at hh
    · rename_i kf x9 hcode
      cases hh
      obtain ⟨f1, f2, f3⟩ := jfacts hM hX hcode
      have hl : x9.1 = 1 := of_decide_eq_true f3
      rw [hl] at f1
      exact lv_astore_n C.1 C.2.1 f1 rfl (jLoc_has I.1) (by rw [← I.1.2.1]; exact hlt.1) rfl fun ls9 h9 => kk ls9 H1 locs1 ⟨jLoc_hide I.1 hlt.1 hlt.2 h9, I.2.1, I.2.2.1, I.2.2.2⟩
    · rename_i kf x9 hcode
      cases hh
      obtain ⟨f1, f2, f3⟩ := jfacts hM hX hcode
      have hl : x9.1 = 2 := of_decide_eq_true f3
      rw [hl] at f1
      exact lv_astore C.1 C.2.1 f1 (jLoc_has I.1) (by rw [← I.1.2.1]; exact hlt.1) rfl fun ls9 h9 => kk ls9 H1 locs1 ⟨jLoc_hide I.1 hlt.1 hlt.2 h9, I.2.1, I.2.2.1, I.2.2.2⟩
    · cases hh
end J18
