/-! THE PRINTED MACHINE HELD AGAINST THE PURE ONE: the walk of a body, all methods' contracts -/
set_option maxHeartbeats 4000000 in
theorem jstep_call {x : JI} {pc : Nat} {ls st : List JV} {M : JM} {y : Nat × List JV × List JV} (hs : jstep x pc ls st M = some (.inr (.inl y))) :
    (∃ i, x.1 = .invokestatic i ∧ jcall x.2.2.1 x.2.2.2.1 false false ls st M = some (.inr (.inl y))) ∨ (∃ i, x.1 = .invokevirtual i ∧ jcall x.2.2.1 x.2.2.2.1 true true ls st M = some (.inr (.inl y))) ∨ (∃ i, x.1 = .invokespecial i ∧ jcall x.2.2.1 (x.2.2.2.1 % 100) (jsup x.2.2.1) true ls st M = some (.inr (.inl y))) ∨ ∃ i n, x.1 = .invokeinterface i n ∧ jcall x.2.2.1 x.2.2.2.1 true true ls st M = some (.inr (.inl y)) := by
  have hN : ∀ {pc : Nat} {ls st : List JV} {M1 : JM}, jN pc ls st M1 = some (.inr (.inl y)) → False := fun e => by cases Option.some.inj e
  have hNo : ∀ {pc : Nat} {q : Option (List JV)} {st : List JV}, jNo pc q st M = some (.inr (.inl y)) → False := fun {pc q st} e => by
    cases q with
    | none => cases e
    | some ls => exact hN e
  have hF : ∀ {v : Option JV}, jF v M = some (.inr (.inl y)) → False := fun e => by cases Option.some.inj e
  have h1 : ∀ {x : JV} {st : List JV} {pc : Nat}, jld1 x st pc ls M = some (.inr (.inl y)) → False := fun {x st pc} e => by
    unfold jld1 at e; split at e
    · exact hN e
    · cases e
  have h2 : ∀ {x : JV} {st : List JV} {pc : Nat}, jld2 x st pc ls M = some (.inr (.inl y)) → False := fun {x st pc} e => by
    unfold jld2 at e; split at e
    · exact hN e
    · exact hN e
    · cases e
  have h5 : ∀ {i pc : Nat} {st : List JV}, jst1 i st pc ls M = some (.inr (.inl y)) → False := fun {i pc st} e => by
    unfold jst1 at e; split at e
    · exact hNo e
    · cases e
  have h6 : ∀ {i pc : Nat} {st : List JV}, jst2 i st pc ls M = some (.inr (.inl y)) → False := fun {i pc st} e => by
    unfold jst2 at e; split at e
    · exact hNo e
    · exact hNo e
    · cases e
  have h7 : ∀ {cc : Bool} {t f : Nat} {st : List JV}, jbr cc t f ls st M = some (.inr (.inl y)) → False := fun {cc t f st} e => by
    unfold jbr at e; split at e
    · exact hN e
    · exact hN e
  have h8 : ∀ {t i pc : Nat} {k : Int} {st : List JV}, jread t i k pc ls st M = some (.inr (.inl y)) → False := fun {t i pc k st} e => by
    unfold jread at e; split at e
    · split at e
      · exact hN e
      · cases e
    · cases e
  have h9 : ∀ {t i pc : Nat} {k : Int} {v : JV} {st : List JV}, jwrite t i k v pc ls st M = some (.inr (.inl y)) → False := fun {t i pc k v st} e => by
    unfold jwrite at e; split at e
    · split at e
      · exact hN e
      · cases e
    · cases e
  obtain ⟨ins, len, a, b, w⟩ := x
  cases ins
  case invokestatic n =>
    refine Or.inl ⟨n, rfl, ?_⟩
    have hs : (if a = 8001 then jcopy pc ls st M else if a = 8003 then jfill pc ls st M else if a = 8004 then jsame pc ls st M else jcall a b false false ls st M) = some (.inr (.inl y)) := hs
    split at hs
    · unfold jcopy at hs
      repeat' (split at hs)
      all_goals first | exact (hN hs).elim | (cases hs; done)
    · split at hs
      · unfold jfill at hs
        repeat' (split at hs)
        all_goals first | exact (hN hs).elim | (cases hs; done)
      · split at hs
        · unfold jsame at hs
          repeat' (split at hs)
          all_goals first | exact (hN hs).elim | (cases hs; done)
        · exact hs
  case invokevirtual n =>
    refine Or.inr (Or.inl ⟨n, rfl, ?_⟩)
    have hs : (if a = 8002 then jclone pc ls st M else jcall a b true true ls st M) = some (.inr (.inl y)) := hs
    split at hs
    · unfold jclone at hs
      repeat' (split at hs)
      all_goals first | exact (hN hs).elim | (cases hs; done)
    · exact hs
  case invokespecial n => exact Or.inr (Or.inr (Or.inl ⟨n, rfl, hs⟩))
  case invokeinterface n n1 => exact Or.inr (Or.inr (Or.inr ⟨n, n1, rfl, hs⟩))
  all_goals
    exfalso
    unfold jstep at hs
    dsimp only at hs
    repeat' (split at hs)
    all_goals first
      | exact h1 hs
      | exact h2 hs
      | exact h5 hs
      | exact h6 hs
      | exact h7 hs
      | exact h8 hs
      | exact h9 hs
      | exact hNo hs
      | exact hF hs
      | exact hN hs
      | (cases Option.some.inj hs; done)
      | (cases hs; done)
theorem jcall_rec {y n : Nat} {virt : Bool} {ls st as st1 : List JV} {y1 : Nat} {M : JM} (h : jcall y n virt true ls st M = some (.inr (.inl (y1, as, st1)))) : y1 = y ∧ ∃ (i : Nat) (as' : List JV), as = .inr (.inl i) :: as' ∧ st = as'.reverse ++ .inr (.inl i) :: st1 ∧ as'.length = n ∧ jwds st1 ≤ 8 ∧ (as.reverse.all fun v => !jc2 v) = true ∧ (virt = false ∨ jtag M i = jcls y) := by
  unfold jcall at h
  dsimp only at h
  rw [if_pos rfl] at h
  split at h
  · rename_i hc
    obtain ⟨c1, c2, c3⟩ := hc
    generalize hrev : (st.take (n + 1)).reverse = rv at h
    rcases rv with _ | ⟨v0, tl⟩
    · cases h
    · rcases v0 with z | z
      · cases h
      · rcases z with i | z
        · dsimp only at h
          split at h
          · rename_i ht
            cases Option.some.inj h
            refine ⟨rfl, i, tl, rfl, ?_, ?_, c2, by rw [← hrev, List.reverse_reverse]; exact c3, ht⟩
            · have h1 : st.take (n + 1) = (.inr (.inl i) :: tl).reverse := by rw [← hrev, List.reverse_reverse]
              rw [List.reverse_cons] at h1
              calc st = st.take (n + 1) ++ st.drop (n + 1) := (List.take_append_drop _ _).symm
                _ = _ := by rw [h1, List.append_assoc]; rfl
            · have h1 := congrArg List.length hrev
              rw [List.length_reverse, List.length_take, List.length_cons] at h1
              omega
          · cases h
        · cases h
  · cases h
theorem jcall_sta {y n : Nat} {ls st as st1 : List JV} {y1 : Nat} {M : JM} (h : jcall y n false false ls st M = some (.inr (.inl (y1, as, st1)))) : y1 = y ∧ st = as.reverse ++ st1 ∧ as.length = n ∧ jwds st1 ≤ 8 ∧ (as.reverse.all fun v => !jc2 v) = true := by
  unfold jcall at h
  dsimp only at h
  rw [if_neg Bool.false_ne_true] at h
  split at h
  · rename_i hc
    obtain ⟨c1, c2, c3⟩ := hc
    cases Option.some.inj h
    refine ⟨rfl, ?_, ?_, c2, by rw [List.reverse_reverse]; exact c3⟩
    · rw [List.reverse_reverse, List.take_append_drop]
    · rw [List.length_reverse, List.length_take]; omega
  · cases h
theorem jcode_no {y : Nat} (h : 275 ≤ y) (pc : Nat) : jcode y pc = none := by
  unfold jcode
  rw [List.getD_eq_getElem?_getD, List.getElem?_eq_none (by rw [jmeths_len]; exact h)]
  rfl
theorem jYof {y : Nat} (h : y < 274) (h1 : y ≠ 1) (h6 : y ≠ 6) (h79 : y ≠ 72) : okY y = true := by
  have := okY_all (show y < 275 by omega)
  rw [Bool.or_eq_true] at this
  rcases this with q | q
  · have := of_decide_eq_true q; omega
  · exact q
theorem jZof {y : Nat} (h : y < 274) : (jht y ≤ 30 ∧ (jnm y).name ≠ "law") ∧ ∃ d, parseMethodDescriptor (jnm y).desc = some d ∧ d.parameters.length + (if jsta y then 0 else 1) ≤ jmaxL y := by
  have := okZ_all (show y < 275 by omega)
  rw [Bool.or_eq_true] at this
  rcases this with q | q
  · have := of_decide_eq_true q; omega
  · unfold okZ at q
    rw [Bool.and_eq_true, Bool.and_eq_true] at q
    refine ⟨⟨of_decide_eq_true q.1.1, of_decide_eq_true q.1.2⟩, ?_⟩
    have q2 := q.2
    split at q2
    · rename_i d hd
      exact ⟨d, hd, of_decide_eq_true q2⟩
    · cases q2
theorem jrefn_lt {y : Nat} (h : y < 274) : jrefn y < 274 ∧ (jrefn y = y ∨ (jrefn y ≠ 1 ∧ jrefn y ≠ 6 ∧ jrefn y ≠ 72 ∧ jsta (jrefn y) = false)) := by
  unfold jrefn
  split
  · exact ⟨by omega, Or.inr ⟨by omega, by omega, by omega, by decide +kernel⟩⟩
  · split
    · exact ⟨by omega, Or.inr ⟨by omega, by omega, by omega, by decide +kernel⟩⟩
    · exact ⟨h, Or.inl rfl⟩
theorem jrefn_par {y b : Nat} (h : (parseMethodDescriptor (jnm y).desc).map (fun d => d.parameters.length) = some b) : (parseMethodDescriptor (jref y).desc).map (fun d => d.parameters.length) = some b := by
  unfold jref jrefn
  split
  · rename_i q
    subst q
    have e : (parseMethodDescriptor (jnm 177).desc).map (fun d => d.parameters.length) = (parseMethodDescriptor (jnm 179).desc).map (fun d => d.parameters.length) := by decide +kernel
    rw [← e]; exact h
  · split
    · rename_i q
      subst q
      have e : (parseMethodDescriptor (jnm 247).desc).map (fun d => d.parameters.length) = (parseMethodDescriptor (jnm 248).desc).map (fun d => d.parameters.length) := by decide +kernel
      rw [← e]; exact h
    · exact h
theorem jtag_own {y : Nat} (h : y < 275) (hs : jsta y = false) (hi : (jnm y).name ≠ "<init>") : jcls y < 16 := by
  have h0 : (List.range 275).all (fun y => jsta y || (decide ((jnm y).name = "<init>") || decide (jcls y < 16))) = true := by decide +kernel
  have := List.all_eq_true.mp h0 y (List.mem_range.mpr h)
  simp only [Bool.or_eq_true, decide_eq_true_eq] at this
  rcases this with q | q | q
  · rw [hs] at q; cases q
  · exact absurd q hi
  · exact q
theorem jnest_no {c : String} {i : Nat} {y : Nat} {host : String} (hy : y < 275) (h : y = 6 ∨ y = 72) : (c, i, jnm y, host) ∉ jnests := by
  intro q
  have h0 : jnests.all (fun q => decide (q.2.2.1 ≠ jnm 6) && decide (q.2.2.1 ≠ jnm 72)) = true := by decide +kernel
  have := List.all_eq_true.mp h0 _ q
  simp only [Bool.and_eq_true, decide_eq_true_eq] at this
  rcases h with rfl | rfl
  · exact this.1 rfl
  · exact this.2 rfl
section J19
variable {E : JE} {mi : Nat} {p : Program} {l : Launch} {e : Env} {R : Room} {s : State} {m : MethodId} {args : Array Value} {below : List Frame} {meth : Method} {c : Code} {Q : State → Prop} {c0 s0 : Nat}
def jSpec (l : Launch) : Prop := (∀ (E : JE) (M M1 : JM) (pc pc1 : Nat) (ls st ls1 st1 : List JV) {mi : Nat} {p : Program} {e : Env} {R : Room} {s : State} {m : MethodId} {args : Array Value} {below : List Frame} {meth : Method} {c : Code} {Q : State → Prop} {c0 s0 n : Nat}, jCtx E mi p l s m args meth c → jfill pc ls st M = some (.inl (pc1, ls1, st1, M1)) → Cond.methodLink (jnm mi).cls n jfillN ∈ jgood → 2 ≤ jht mi → jht mi ≤ R.frames → 33 * jht mi ≤ R.locals → c0 ≤ jcells M → s0 ≤ jslots M → jcells M1 - c0 ≤ R.cells → jslots M1 - s0 ≤ R.slots → decode (jmb mi) pc = .ok (.invokestatic n, 3) → jGo E mi p l e R s m args below meth c Q c0 s0 pc1 ls1 st1 M1 → jGo E mi p l e R s m args below meth c Q c0 s0 pc ls st M)
  ∧ (∀ (E : JE) (M M1 : JM) (pc pc1 : Nat) (ls st ls1 st1 : List JV) {mi : Nat} {p : Program} {e : Env} {R : Room} {s : State} {m : MethodId} {args : Array Value} {below : List Frame} {meth : Method} {c : Code} {Q : State → Prop} {c0 s0 n : Nat}, jCtx E mi p l s m args meth c → jsame pc ls st M = some (.inl (pc1, ls1, st1, M1)) → Cond.methodLink (jnm mi).cls n jequalN ∈ jgood → 5 ≤ jht mi → jht mi ≤ R.frames → 33 * jht mi ≤ R.locals → c0 ≤ jcells M → s0 ≤ jslots M → jcells M1 - c0 ≤ R.cells → jslots M1 - s0 ≤ R.slots → decode (jmb mi) pc = .ok (.invokestatic n, 3) → jGo E mi p l e R s m args below meth c Q c0 s0 pc1 ls1 st1 M1 → jGo E mi p l e R s m args below meth c Q c0 s0 pc ls st M)
set_option maxHeartbeats 4000000 in
theorem jwalk {N : Nat} (HS : jSpec l) (IH : ∀ k, k < N → ∀ y, y < 274 → y ≠ 1 → y ≠ 6 → y ≠ 72 → jMet l k y) (C : jCtx E mi p l s m args meth c) (hmi : mi < 275) (hM : okM (jmeths.getD mi jm0) = true) (hX : okX (jmeths.getD mi jm0) = true) (hh14 : jht mi ≤ 30) (hR1 : jht mi ≤ R.frames) (hR2 : 33 * jht mi ≤ R.locals) {v : Option JV} {Mf : JM} (hf1 : jcells Mf - c0 ≤ R.cells) (hf2 : jslots Mf - s0 ≤ R.slots)
    (HR : ∀ (pc : Nat) (ls st : List JV) (x : JI) (M : JM), jcode mi pc = some x → jstep x pc ls st M = some (.inr (.inr (.inl v, Mf))) → jGo E mi p l e R s m args below meth c Q c0 s0 pc ls st M) :
    ∀ (n : Nat), n ≤ N → ∀ (pc : Nat) (ls st : List JV) (M : JM), jrun n mi pc ls st M = some (.inl v, Mf) → c0 ≤ jcells M → s0 ≤ jslots M → jGo E mi p l e R s m args below meth c Q c0 s0 pc ls st M := by
  intro n
  induction n with
  | zero => intro _ pc ls st M h; cases h
  | succ n ih =>
    intro hn pc ls st M h hc0 hs0
    rw [jrun] at h
    split at h
    · cases h
    · rename_i x hx
      split at h
      · cases h
      · rename_i pc1 ls1 st1 M1 hj
        have hle : jle M M1 := jstep_le hj
        have hle2 := jrun_le h
        have a1 := hle.1
        have a2 := hle.2
        have a3 := hle2.1
        have a4 := hle2.2
        have kk := ih (by omega) _ _ _ _ h (by omega) (by omega)
        exact jgo_step C hM hX hx hj hR1 hR2 (by omega) (by omega) hc0 hs0 (fun n q1 q2 q3 q4 => HS.1 E M M1 pc pc1 ls st ls1 st1 C q1 q2 q3 hR1 hR2 hc0 hs0 (by omega) (by omega) q4 kk) (fun n q1 q2 q3 q4 => HS.2 E M M1 pc pc1 ls st ls1 st1 C q1 q2 q3 hR1 hR2 hc0 hs0 (by omega) (by omega) q4 kk) kk
      · rename_i r hj
        obtain rfl := Option.some.inj h
        exact HR pc ls st x M hx hj
      · rename_i y as st1 hj
        obtain ⟨f1, f2, f3⟩ := jfacts hM hX hx
        obtain ⟨w, M1, hy, h⟩ : ∃ (w : Option JV) (M1 : JM), jrun n y 0 (jargs y as) [] M = some (.inl w, M1) ∧ jrun n mi (pc + jrl x) ls (w.toList ++ st1) M1 = some (.inl v, Mf) := by
          split at h
          · cases h
          · rename_i w M1 hy
            exact ⟨_, _, hy, h⟩
          · cases h
        have hle : jle M M1 := jrun_le hy
        have hle2 : jle M1 Mf := jrun_le h
        have a1 := hle.1
        have a2 := hle.2
        have a3 := hle2.1
        have a4 := hle2.2
        have kk : jGo E mi p l e R s m args below meth c Q c0 s0 (pc + jrl x) ls (w.toList ++ st1) M1 := ih (by omega) _ _ _ _ h (by omega) (by omega)
        rcases jstep_call hj with ⟨i, hi, hcl⟩ | ⟨i, hi, hcl⟩ | ⟨i, hi, hcl⟩ | ⟨i, nn, hi, hcl⟩
        · obtain ⟨ins, len, a, b, w9⟩ := x
          dsimp only at hi
          subst hi
          obtain ⟨hya, b2, b3, b4, b5⟩ := jcall_sta hcl
          dsimp only at hya
          have hya := hya.symm
          subst hya
          dsimp only at f1 b3 b4 hy
          have e3 : (decide (len = 3) && true) = true := f3
          rw [Bool.and_true] at e3
          have e2 : (if 9000 ≤ a then true else if a = 8001 then jtw w9 (.methodLink (jnm mi).cls i arraycopyName) && decide (1 ≤ jht mi) else if a = 8003 then jtw w9 (.methodLink (jnm mi).cls i jfillN) && decide (2 ≤ jht mi) else if a = 8004 then jtw w9 (.methodLink (jnm mi).cls i jequalN) && decide (5 ≤ jht mi)
        else decide (a < 275) && (jtw w9 (.methodLink (jnm mi).cls i (jnm a)) || decide (((jnm mi).cls, i, jnm a, jhost (jnm mi)) ∈ jnests)) && jsta a && decide (jht a + 1 ≤ jht mi) && decide ((parseMethodDescriptor (jnm a).desc).map (fun d => d.parameters.length) = some b)) = true := f2
          by_cases h8 : 275 ≤ a
          · rw [jrun_no (jcode_no h8 0)] at hy
            cases hy
          · rw [if_neg (by omega), if_neg (by omega), if_neg (by omega), if_neg (by omega)] at e2
            simp only [Bool.and_eq_true, Bool.or_eq_true, decide_eq_true_eq] at e2
            have hl3 := of_decide_eq_true e3
            subst hl3
            obtain ⟨⟨⟨⟨d1, d2⟩, d3⟩, d4⟩, d5⟩ := e2
            have ha : a < 274 := by
              rcases Nat.lt_or_ge a 274 with g | g
              · exact g
              · have : a = 274 := by omega
                subst this
                have h9 : (parseMethodDescriptor (jnm 274).desc).map (fun d => d.parameters.length) = some 1 := by decide +kernel
                have h10 : jht 274 = 18 := by decide +kernel
                have h11 : (List.range 275).all (fun y => decide (y = 274) || decide (jht y < 18)) = true := by decide +kernel
                have h12 := List.all_eq_true.mp h11 mi (List.mem_range.mpr hmi)
                simp only [Bool.or_eq_true, decide_eq_true_eq] at h12
                rcases h12 with q | q
                · rw [q] at d4; omega
                · omega
            have d2' : Cond.methodLink (jnm mi).cls i (jnm a) ∈ jgood ∨ ∃ host, ((jnm mi).cls, i, jnm a, host) ∈ jnests := d2.imp jtw_mem fun q => ⟨_, q⟩
            subst b2
            have ha1 : a ≠ 1 := fun q => by
              subst q
              have : jsta 1 = false := by decide +kernel
              rw [this] at d3
              cases d3
            have kk : jGo E mi p l e R s m args below meth c Q c0 s0 (pc + 3) ls (w.toList ++ st1) M1 := kk
            by_cases ha6 : a = 6
            · subst ha6
              have hb : b = 2 := by
                have : (parseMethodDescriptor (jnm 6).desc).map (fun d => d.parameters.length) = some 2 := by decide +kernel
                rw [this] at d5
                exact (Option.some.inj d5).symm
              rw [hb] at b3
              match as, b3 with
              | [v1, v2], _ =>
                obtain ⟨x, y, rfl, rfl, r3, r4⟩ := jmax_run hy
                subst r4
                cases r3
                have hl : Cond.methodLink (jnm mi).cls i (jnm 6) ∈ jgood := by
                  rcases d2' with q | ⟨host, q⟩
                  · exact q
                  · exact absurd q (jnest_no (by omega) (Or.inl rfl))
                exact j_max C f1 hl (by omega) (by omega) b4 (by omega) (by omega) kk
            · by_cases ha79 : a = 72
              · subst ha79
                have hb : b = 2 := by
                  have : (parseMethodDescriptor (jnm 72).desc).map (fun d => d.parameters.length) = some 2 := by decide +kernel
                  rw [this] at d5
                  exact (Option.some.inj d5).symm
                rw [hb] at b3
                match as, b3 with
                | [v1, v2], _ =>
                  obtain ⟨x, y, rfl, rfl, r3, r4⟩ := jmin_run hy
                  subst r4
                  cases r3
                  have hl : Cond.methodLink (jnm mi).cls i (jnm 72) ∈ jgood := by
                    rcases d2' with q | ⟨host, q⟩
                    · exact q
                    · exact absurd q (jnest_no (by omega) (Or.inr rfl))
                  exact j_min C f1 hl (by omega) (by omega) b4 (by omega) (by omega) kk
              · obtain ⟨z1, d, z2, z3⟩ := jZof ha
                rw [if_pos d3] at z3
                have hmx : as.length ≤ jmaxL a := by
                  rw [z2] at d5
                  have hq : d.parameters.length = b := Option.some.inj d5
                  omega
                exact j_callS C (IH n (by omega) a ha ha1 ha6 ha79) f1 d2' (jYof ha ha1 ha6 ha79) d3 d4 hR1 hR2 d5 b3 hmx hy b4 b5 (by omega) (by omega) hc0 hs0 kk
        · obtain ⟨ins, len, a, b, w9⟩ := x
          dsimp only at hi
          subst hi
          obtain ⟨hya, i0, as', b2, b3, b4, b5, b6, b7⟩ := jcall_rec hcl
          dsimp only at hya
          have hya := hya.symm
          subst hya
          dsimp only at f1 b4 b7 hy
          have e3 : (decide (len = 3) && (if 8000 ≤ a then true else decide ((jpl a).2.1 ≠ 99999999))) = true := f3
          have e2 : (if 9000 ≤ a then true else if a = 8002 then jtw w9 (.methodLink (jnm mi).cls i jcloneB) && decide (1 ≤ jht mi)
        else decide (a < 275) && jtw w9 (.methodLink (jnm mi).cls i (jref a)) && !(jsta a) && decide (jht a + 1 ≤ jht mi) && decide ((parseMethodDescriptor (jnm a).desc).map (fun d => d.parameters.length) = some b)) = true := f2
          by_cases h8 : 275 ≤ a
          · rw [jrun_no (jcode_no h8 0)] at hy
            cases hy
          · rw [if_neg (by omega), if_neg (by omega)] at e2
            rw [if_neg (by omega)] at e3
            simp only [Bool.and_eq_true, decide_eq_true_eq, Bool.not_eq_true'] at e2 e3
            obtain ⟨⟨⟨⟨d1, d2⟩, d3⟩, d5⟩, d6⟩ := e2
            obtain ⟨hl3, d7⟩ := e3
            subst hl3
            have ha : a < 274 := by
              rcases Nat.lt_or_ge a 274 with g | g
              · exact g
              · have : a = 274 := by omega
                subst this
                have : jsta 274 = true := by decide +kernel
                rw [this] at d3; cases d3
            have ha1 : a ≠ 1 := fun q => by
              subst q
              have : (jpl 1).2.1 = 99999999 := by decide +kernel
              exact d7 this
            have ha6 : a ≠ 6 := fun q => by
              subst q
              have : jsta 6 = true := by decide +kernel
              rw [this] at d3; cases d3
            have ha79 : a ≠ 72 := fun q => by
              subst q
              have : jsta 72 = true := by decide +kernel
              rw [this] at d3; cases d3
            obtain ⟨z1, d, z2, z3⟩ := jZof ha
            rw [d3, if_neg Bool.false_ne_true] at z3
            subst b2 b3
            have hmx : as'.length + 1 ≤ jmaxL a := by
              rw [z2] at d6
              have hq : d.parameters.length = b := Option.some.inj d6
              omega
            have hY := jYof ha ha1 ha6 ha79
            have hrl := jrefn_lt ha
            have hYr : okY (jrefn a) = true ∧ jsta (jrefn a) = false := by
              rcases hrl.2 with q | ⟨q1, q2, q3, q4⟩
              · rw [q]; exact ⟨hY, d3⟩
              · exact ⟨jYof hrl.1 q1 q2 q3, q4⟩
            have htag := b7.resolve_left (by simp)
            have kk : jGo E mi p l e R s m args below meth c Q c0 s0 (pc + 3) ls (w.toList ++ st1) M1 := kk
            have h16 : jtag M i0 < 16 := by
              rw [htag]
              refine jtag_own (by omega) d3 fun q => ?_
              have hz : (List.range 275).all (fun y => decide ((jpl y).2.1 = 99999999) || decide ((jnm y).name ≠ "<init>")) = true := by decide +kernel
              have := List.all_eq_true.mp hz a (List.mem_range.mpr (by omega))
              simp only [Bool.or_eq_true, decide_eq_true_eq] at this
              rcases this with r | r
              · exact d7 r
              · exact r q
            exact j_callV C (IH n (by omega) a ha ha1 ha6 ha79) f1 (jtw_mem d2) hY hYr.1 hYr.2 d7 d3 d5 hR1 hR2 (jrefn_par d6) b4 hmx htag h16 hy b5 b6 (by omega) (by omega) hc0 hs0 kk
        · obtain ⟨ins, len, a, b, w9⟩ := x
          dsimp only at hi
          subst hi
          obtain ⟨hya, i0, as', b2, b3, b4, b5, b6, b7⟩ := jcall_rec hcl
          dsimp only at hya
          have hya := hya.symm
          subst hya
          dsimp only at f1 b4 b7 hy
          have e3 : (decide (len = 3) && (if a = 1 then decide (b = 0) else true)) = true := f3
          have e2 : (if 9000 ≤ a then true else decide (a < 275) && (if b < 100 then jtw w9 (.methodLink (jnm mi).cls i (jnm a)) else decide (((jnm mi).cls, i, jnm a, jhost (jnm mi)) ∈ jnests)) && !(jsta a) && decide (jht a + 1 ≤ jht mi) && decide ((parseMethodDescriptor (jnm a).desc).map (fun d => d.parameters.length) = some (b % 100)) && ((decide ((jnm a).name = "<init>") && decide (jrt a = none)) || (decide (a = 179 ∨ a = 197 ∨ a = 248) && decide ((jnm mi).cls = "java/lang/StringBuilder") && decide (b < 100)))) = true := f2
          by_cases h8 : 275 ≤ a
          · rw [jrun_no (jcode_no h8 0)] at hy
            cases hy
          · rw [if_neg (by omega)] at e2
            simp only [Bool.and_eq_true, Bool.or_eq_true, decide_eq_true_eq, Bool.not_eq_true'] at e2 e3
            obtain ⟨⟨⟨⟨⟨d1, d2⟩, d3⟩, d5⟩, d7⟩, d8⟩ := e2
            obtain ⟨hl3, d10⟩ := e3
            subst hl3
            subst b2 b3
            have kk : jGo E mi p l e R s m args below meth c Q c0 s0 (pc + 3) ls (w.toList ++ st1) M1 := kk
            by_cases ha1 : a = 1
            · subst ha1
              rw [if_pos rfl] at d10
              have d10 := of_decide_eq_true d10
              subst d10
              match as', b4 with
              | [], _ =>
                obtain ⟨r3, r4⟩ := jobj hy
                subst r4
                cases r3
                rw [if_pos (by decide)] at d2
                exact j_objInit C f1 (jtw_mem d2) (by omega) (by omega) b5 kk
            · have ha : a < 274 := by
                rcases Nat.lt_or_ge a 274 with g | g
                · exact g
                · have : a = 274 := by omega
                  subst this
                  have : jsta 274 = true := by decide +kernel
                  rw [this] at d3; cases d3
              have ha6 : a ≠ 6 := fun q => by
                subst q
                have : jsta 6 = true := by decide +kernel
                rw [this] at d3; cases d3
              have ha79 : a ≠ 72 := fun q => by
                subst q
                have : jsta 72 = true := by decide +kernel
                rw [this] at d3; cases d3
              obtain ⟨z1, d, z2, z3⟩ := jZof ha
              rw [d3, if_neg Bool.false_ne_true] at z3
              have hmx : as'.length + 1 ≤ jmaxL a := by
                rw [z2] at d7
                have hq : d.parameters.length = b % 100 := Option.some.inj d7
                omega
              rcases d8 with ⟨d8, d9⟩ | ⟨⟨d8, d9⟩, d11⟩
              · have hl : Cond.methodLink (jnm mi).cls i (jnm a) ∈ jgood ∨ ∃ host, ((jnm mi).cls, i, jnm a, host) ∈ jnests := by
                  by_cases hb : b < 100
                  · rw [if_pos hb] at d2
                    exact Or.inl (jtw_mem d2)
                  · rw [if_neg hb] at d2
                    exact Or.inr ⟨_, of_decide_eq_true d2⟩
                exact j_callI C (IH n (by omega) a ha ha1 ha6 ha79) f1 hl (jYof ha ha1 ha6 ha79) d3 d5 hR1 hR2 d8 d9 d7 b4 hmx hy b5 b6 (by omega) (by omega) hc0 hs0 kk
              · rw [if_pos d11] at d2
                have hyu : a ∈ ([179, 197, 248] : List Nat) := by
                  rcases d8 with rfl | rfl | rfl <;> simp
                have hja : jsup a = true := by
                  rcases d8 with rfl | rfl | rfl <;> rfl
                have htag := b7.resolve_left (by rw [hja]; simp)
                have h16 : jtag M i0 < 16 := by
                  rw [htag]
                  refine jtag_own (by omega) d3 fun q => ?_
                  rcases d8 with rfl | rfl | rfl
                  · revert q; decide +kernel
                  · revert q; decide +kernel
                  · revert q; decide +kernel
                exact j_callU C (IH n (by omega) a ha ha1 ha6 ha79) f1 (jtw_mem d2) hyu d9 (jYof ha ha1 ha6 ha79) d3 d5 hR1 hR2 d7 b4 hmx htag h16 hy b5 b6 (by omega) (by omega) hc0 hs0 kk
        · obtain ⟨ins, len, a, b, w9⟩ := x
          dsimp only at hi
          subst hi
          obtain ⟨hya, i0, as', b2, b3, b4, b5, b6, b7⟩ := jcall_rec hcl
          dsimp only at hya
          have hya := hya.symm
          subst hya
          dsimp only at f1 b4 b7 hy
          have e3 : decide (len = 5) = true := f3
          have e2 : (decide (a < 275) && jtw w9 (.methodLink (jnm mi).cls i ⟨"java/lang/CharSequence", (jnm a).name, (jnm a).desc⟩) && !(jsta a) && decide (jht a + 1 ≤ jht mi) && decide ((parseMethodDescriptor (jnm a).desc).map (fun d => d.parameters.length) = some b) && decide (a = 20 ∨ a = 22) && decide (nn = b + 1)) = true := f2
          simp only [Bool.and_eq_true, decide_eq_true_eq, Bool.not_eq_true'] at e2
          obtain ⟨⟨⟨⟨⟨⟨d1, d2⟩, d3⟩, d5⟩, d6⟩, d8⟩, d9⟩ := e2
          have hl3 := of_decide_eq_true e3
          subst hl3
          have ha : a < 274 := by omega
          obtain ⟨z1, d, z2, z3⟩ := jZof ha
          rw [d3, if_neg Bool.false_ne_true] at z3
          subst b2 b3
          have hmx : as'.length + 1 ≤ jmaxL a := by
            rw [z2] at d6
            have hq : d.parameters.length = b := Option.some.inj d6
            omega
          have htag := b7.resolve_left (by simp)
          have h16 : jtag M i0 < 16 := by
            rw [htag]
            refine jtag_own (by omega) d3 fun q => ?_
            rcases d8 with rfl | rfl
            · revert q; decide +kernel
            · revert q; decide +kernel
          have kk : jGo E mi p l e R s m args below meth c Q c0 s0 (pc + 5) ls (w.toList ++ st1) M1 := kk
          exact j_callF C (IH n (by omega) a ha (by omega) (by omega) (by omega)) f1 (jtw_mem d2) d8 (jYof ha (by omega) (by omega) (by omega)) d3 d5 hR1 hR2 d6 b4 hmx htag h16 hy b5 b6 (by omega) (by omega) hc0 hs0 kk
end J19
