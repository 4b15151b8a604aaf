/-! THE PRINTED MACHINE HELD AGAINST THE PURE ONE: the walk of a body, all methods' contracts -/
set_option maxHeartbeats 4000000 in
theorem jstep_call {x : JI} {pc : Nat} {ls st : List JV} {M : JM} {y : Nat × List JV × List JV} (hs : jstep x pc ls st M = some (.inr (.inl y))) :
    (∃ i, x.1 = .invokestatic i ∧ jcall x.2.2.1 x.2.2.2.1 false false ls st M = some (.inr (.inl y))) ∨ (∃ i, x.1 = .invokevirtual i ∧ jcall x.2.2.1 x.2.2.2.1 true true ls st M = some (.inr (.inl y))) ∨ ∃ i, x.1 = .invokespecial i ∧ jcall x.2.2.1 (x.2.2.2.1 % 100) false true ls st M = some (.inr (.inl y)) := by
  have hN : ∀ {pc : Nat} {ls st : List JV} {M1 : JM}, jN pc ls st M1 = some (.inr (.inl y)) → False := fun e => by cases Option.some.inj e
  have hNo : ∀ {pc : Nat} {q : Option (List JV)} {st : List JV}, jNo pc q st M = some (.inr (.inl y)) → False := fun {pc q st} e => by
    cases q with
    | none => cases e
    | some ls => exact hN e
  have hF : ∀ {v : Option JV}, jF v M = some (.inr (.inl y)) → False := fun e => by cases Option.some.inj e
  have h1 : ∀ {x : JV} {st : List JV} {pc : Nat}, jld1 x st pc ls M = some (.inr (.inl y)) → False := fun {x st pc} e => by
    unfold jld1 at e; split at e
    · exact hN e
    · cases e
  have h2 : ∀ {x : JV} {st : List JV} {pc : Nat}, jld2 x st pc ls M = some (.inr (.inl y)) → False := fun {x st pc} e => by
    unfold jld2 at e; split at e
    · exact hN e
    · cases e
  have h3 : ∀ {x : JV} {st : List JV} {pc : Nat}, jldf x st pc ls M = some (.inr (.inl y)) → False := fun {x st pc} e => by
    unfold jldf at e; split at e
    · exact hN e
    · cases e
  have h4 : ∀ {x : JV} {st : List JV} {pc : Nat}, jldd x st pc ls M = some (.inr (.inl y)) → False := fun {x st pc} e => by
    unfold jldd at e; split at e
    · exact hN e
    · cases e
  have h5 : ∀ {i pc : Nat} {st : List JV}, jst1 i st pc ls M = some (.inr (.inl y)) → False := fun {i pc st} e => by
    unfold jst1 at e; split at e
    · exact hNo e
    · cases e
  have h6 : ∀ {i pc : Nat} {st : List JV}, jst2 i st pc ls M = some (.inr (.inl y)) → False := fun {i pc st} e => by
    unfold jst2 at e; split at e
    · exact hNo e
    · cases e
  have h7 : ∀ {cc : Bool} {t f : Nat} {st : List JV}, jbr cc t f ls st M = some (.inr (.inl y)) → False := fun {cc t f st} e => by
    unfold jbr at e; split at e
    · exact hN e
    · exact hN e
  have h8 : ∀ {t i pc : Nat} {k : Int} {st : List JV}, jread t i k pc ls st M = some (.inr (.inl y)) → False := fun {t i pc k st} e => by
    unfold jread at e; split at e
    · split at e
      · exact hN e
      · cases e
    · cases e
  have h9 : ∀ {t i pc : Nat} {k : Int} {v : JV} {st : List JV}, jwrite t i k v pc ls st M = some (.inr (.inl y)) → False := fun {t i pc k v st} e => by
    unfold jwrite at e; split at e
    · split at e
      · exact hN e
      · cases e
    · cases e
  obtain ⟨ins, len, a, b, w⟩ := x
  cases ins
  case invokestatic n => exact Or.inl ⟨n, rfl, hs⟩
  case invokevirtual n => exact Or.inr (Or.inl ⟨n, rfl, hs⟩)
  case invokespecial n => exact Or.inr (Or.inr ⟨n, rfl, hs⟩)
  all_goals
    exfalso
    unfold jstep at hs
    dsimp only at hs
    repeat' (split at hs)
    all_goals first
      | exact h1 hs
      | exact h2 hs
      | exact h3 hs
      | exact h4 hs
      | exact h5 hs
      | exact h6 hs
      | exact h7 hs
      | exact h8 hs
      | exact h9 hs
      | exact hNo hs
      | exact hF hs
      | exact hN hs
      | (cases Option.some.inj hs; done)
      | (cases hs; done)
theorem jcall_rec {y n : Nat} {virt : Bool} {ls st as st1 : List JV} {y1 : Nat} {M : JM} (h : jcall y n virt true ls st M = some (.inr (.inl (y1, as, st1)))) : y1 = y ∧ ∃ (i : Nat) (as' : List JV), as = .inr (.inl i) :: as' ∧ st = as'.reverse ++ .inr (.inl i) :: st1 ∧ as'.length = n ∧ st1.length ≤ 8 ∧ (st.all fun v => !jc2 v) = true ∧ (virt = false ∨ jtag M i = jcls y) := by
  unfold jcall at h
  dsimp only at h
  rw [if_pos rfl] at h
  split at h
  · rename_i hc
    obtain ⟨c1, c2, c3⟩ := hc
    generalize hrev : (st.take (n + 1)).reverse = rv at h
    rcases rv with _ | ⟨v0, tl⟩
    · cases h
    · rcases v0 with z | z
      · cases h
      · rcases z with i | z
        · dsimp only at h
          split at h
          · rename_i ht
            cases Option.some.inj h
            refine ⟨rfl, i, tl, rfl, ?_, ?_, ?_, c3, ht⟩
            · have h1 : st.take (n + 1) = (.inr (.inl i) :: tl).reverse := by rw [← hrev, List.reverse_reverse]
              rw [List.reverse_cons] at h1
              calc st = st.take (n + 1) ++ st.drop (n + 1) := (List.take_append_drop _ _).symm
                _ = _ := by rw [h1, List.append_assoc]; rfl
            · have h1 := congrArg List.length hrev
              rw [List.length_reverse, List.length_take, List.length_cons] at h1
              omega
            · rw [List.length_drop]; omega
          · cases h
        · cases h
  · cases h
theorem jcall_sta {y n : Nat} {ls st as st1 : List JV} {y1 : Nat} {M : JM} (h : jcall y n false false ls st M = some (.inr (.inl (y1, as, st1)))) : y1 = y ∧ st = as.reverse ++ st1 ∧ as.length = n ∧ st1.length ≤ 8 ∧ (st.all fun v => !jc2 v) = true := by
  unfold jcall at h
  dsimp only at h
  rw [if_neg Bool.false_ne_true] at h
  split at h
  · rename_i hc
    obtain ⟨c1, c2, c3⟩ := hc
    cases Option.some.inj h
    refine ⟨rfl, ?_, ?_, ?_, c3⟩
    · rw [List.reverse_reverse, List.take_append_drop]
    · rw [List.length_reverse, List.length_take]; omega
    · rw [List.length_drop]; omega
  · cases h
theorem jcode_no {y : Nat} (h : 429 ≤ y) (pc : Nat) : jcode y pc = none := by
  unfold jcode
  rw [show jmeths.getD y jm0 = jm0 by rw [List.getD_eq_getElem?_getD, List.getElem?_eq_none (by rw [jmeths_len]; exact h)]; rfl]
  rfl
theorem jYof {y : Nat} (h : y < 428) (h1 : y ≠ 1) (h6 : y ≠ 6) (h79 : y ≠ 79) : okY y = true := by
  have := okY_all (show y < 429 by omega)
  rw [Bool.or_eq_true] at this
  rcases this with q | q
  · have := of_decide_eq_true q; omega
  · exact q
theorem jZof {y : Nat} (h : y < 428) : (jht y ≤ 14 ∧ (jnm y).name ≠ "law") ∧ ∃ d, parseMethodDescriptor (jnm y).desc = some d ∧ d.parameters.length + (if jsta y then 0 else 1) ≤ jmaxL y := by
  have := okZ_all (show y < 429 by omega)
  rw [Bool.or_eq_true] at this
  rcases this with q | q
  · have := of_decide_eq_true q; omega
  · unfold okZ at q
    rw [Bool.and_eq_true, Bool.and_eq_true] at q
    refine ⟨⟨of_decide_eq_true q.1.1, of_decide_eq_true q.1.2⟩, ?_⟩
    have q2 := q.2
    split at q2
    · rename_i d hd
      exact ⟨d, hd, of_decide_eq_true q2⟩
    · cases q2
section J19
variable {E : JE} {mi : Nat} {p : Program} {l : Launch} {e : Env} {R : Room} {s : State} {m : MethodId} {args : Array Value} {below : List Frame} {meth : Method} {c : Code} {Q : State → Prop} {c0 s0 : Nat}
set_option maxHeartbeats 4000000 in
theorem jwalk {N : Nat} (IH : ∀ k, k < N → ∀ y, y < 428 → y ≠ 1 → y ≠ 6 → y ≠ 79 → jMet l k y) (C : jCtx E mi p l s m args meth c) (hmi : mi < 429) (hM : okM (jmeths.getD mi jm0) = true) (hX : okX (jmeths.getD mi jm0) = true) (hH : okH mi = true) (hT : c.exceptionTable.toList = tableOf (jhh mi)) (hh14 : jht mi ≤ 14) (hR1 : jht mi ≤ R.frames) (hR2 : 33 * jht mi ≤ R.locals) {o : JO} {Mf : JM} (hf1 : jcells Mf - c0 ≤ R.cells) (hf2 : jslots Mf - s0 ≤ R.slots) (hlaw : (jnm mi).name = "law" → (∃ v, o = .inl v) ∧ jhh mi = [])
    (HR : ∀ (pc : Nat) (ls st : List JV) (x : JI) (M : JM) (v : Option JV), jcode mi pc = some x → jstep x pc ls st M = some (.inr (.inr (.inl v, Mf))) → o = .inl v → jGo E mi p l e R s m args below meth c Q c0 s0 pc ls st M)
    (HT : ∀ (pc : Nat) (ls st : List JV) (x : JI) (M : JM) (k : Nat), jcode mi pc = some x → jstep x pc ls st M = some (.inr (.inr (.inr k, Mf))) → o = .inr k → c0 ≤ jcells M → s0 ≤ jslots M → jGo E mi p l e R s m args below meth c Q c0 s0 pc ls st M)
    (HU : ∀ (pc : Nat) (ls rest : List JV) (k : Nat), o = .inr k → k < 3 → jcatch (jhh mi) (jcnm mi) pc k = none → ∀ (lsA : Array Slot) (H1 : Heap) (locs1 : List Loc) (q9 : Addr) (ce : Cell), jInv E mi s lsA H1 locs1 ls [] Mf → H1[q9]? = some ce → ce.vm = .none → s.vm.findClass (jexc k) = some ce.cls → vx_W p l e R s m args below meth c H1 locs1 (jcells Mf - c0) (jslots Mf - s0) Q (F0 m pc lsA (rest.map (jval E))) q9) :
    ∀ (n : Nat), n ≤ N → ∀ (pc : Nat) (ls st : List JV) (M : JM), jrun n mi pc ls st M = some (o, Mf) → c0 ≤ jcells M → s0 ≤ jslots M → jGo E mi p l e R s m args below meth c Q c0 s0 pc ls st M := by
  intro n
  induction n with
  | zero => intro _ pc ls st M h; cases h
  | succ n ih =>
    intro hn pc ls st M h hc0 hs0
    rw [jrun] at h
    split at h
    · cases h
    · rename_i x hx
      split at h
      · cases h
      · rename_i pc1 ls1 st1 M1 hj
        have hle : jle M M1 := jstep_le hj
        have hle2 := jrun_le h
        have a1 := hle.1
        have a2 := hle.2
        have a3 := hle2.1
        have a4 := hle2.2
        exact jgo_step C hM hX hx hj (by omega) (by omega) hc0 hs0 (ih (by omega) _ _ _ _ h (by omega) (by omega))
      · rename_i r hj
        obtain rfl := Option.some.inj h
        cases o with
        | inl v => exact HR pc ls st x M v hx hj rfl
        | inr k => exact HT pc ls st x M k hx hj rfl hc0 hs0
      · rename_i y as st1 hj
        obtain ⟨f1, f2, f3⟩ := jfacts hM hX hx
        obtain ⟨oy, M1, hy, hgo⟩ : ∃ (oy : JO) (M1 : JM), jrun n y 0 (jargs y as) [] M = some (oy, M1) ∧ ((∃ v, oy = .inl v ∧ jrun n mi (pc + 3) ls (v.toList ++ st1) M1 = some (o, Mf)) ∨ ∃ k, oy = .inr k ∧ ((jcatch (jhh mi) (jcnm mi) pc k = none ∧ o = .inr k ∧ Mf = M1) ∨ ∃ hpc kl pc1, jcatch (jhh mi) (jcnm mi) pc k = some hpc ∧ jhand mi hpc = some (kl, pc1) ∧ (kl < ls.length ∧ jc2 ((jU :: ls).getD kl jU) = false) ∧ jrun n mi pc1 (ls.set kl jU) [] M1 = some (o, Mf))) := by
          split at h
          · cases h
          · rename_i v M1 hy
            exact ⟨_, _, hy, Or.inl ⟨v, rfl, h⟩⟩
          · rename_i k M1 hy
            refine ⟨_, _, hy, Or.inr ⟨k, rfl, ?_⟩⟩
            split at h
            · rename_i hcn
              cases Option.some.inj h
              exact Or.inl ⟨hcn, rfl, rfl⟩
            · rename_i hpc hcn
              split at h
              · cases h
              · rename_i kl pc1 hhd
                split at h
                · rename_i hlt
                  exact Or.inr ⟨hpc, kl, pc1, hcn, hhd, hlt, h⟩
                · cases h
        have hle : jle M M1 := jrun_le hy
        have hle2 : jle M1 Mf := by
          rcases hgo with ⟨v, -, h⟩ | ⟨k, -, ⟨-, -, h⟩ | ⟨_, _, _, -, -, -, h⟩⟩
          · exact jrun_le h
          · rw [h]; exact jle_rf
          · exact jrun_le h
        have a1 := hle.1
        have a2 := hle.2
        have a3 := hle2.1
        have a4 := hle2.2
        have kk : ∀ v, oy = .inl v → jGo E mi p l e R s m args below meth c Q c0 s0 (pc + 3) ls (v.toList ++ st1) M1 := by
          intro v hv
          rcases hgo with ⟨v1, g1, g2⟩ | ⟨k, g1, -⟩
          · rw [hv] at g1
            cases g1
            exact ih (by omega) _ _ _ _ g2 (by omega) (by omega)
          · rw [hv] at g1; cases g1
        have kx : ∀ k, k < 3 → oy = .inr k → ∀ (lsA : Array Slot) (H1 : Heap) (locs1 : List Loc) (q9 : Addr) (ce : Cell), jInv E mi s lsA H1 locs1 ls [] M1 → H1[q9]? = some ce → ce.vm = .none → s.vm.findClass (jexc k) = some ce.cls → vx_W p l e R s m args below meth c H1 locs1 (jcells M1 - c0) (jslots M1 - s0) Q (F0 m pc lsA (st1.map (jval E))) q9 := by
          intro k hk hv lsA H1 locs1 q9 ce I h1 h2 h3
          rcases hgo with ⟨v1, g1, g2⟩ | ⟨k1, g1, g2⟩
          · rw [hv] at g1; cases g1
          · rw [hv] at g1
            cases g1
            rcases g2 with ⟨g3, g4, g5⟩ | ⟨hpc, kl, pc1, g3, g4, g5, g6⟩
            · subst g5
              exact HU pc ls st1 k g4 hk g3 lsA H1 locs1 q9 ce I h1 h2 h3
            · exact j_catch C hT hM hX hH hk g3 g4 g5 (ih (by omega) _ _ _ _ g6 (by omega) (by omega)) lsA H1 locs1 q9 ce _ I h1 h2 h3
        rcases jstep_call hj with ⟨i, hi, hcl⟩ | ⟨i, hi, hcl⟩ | ⟨i, hi, hcl⟩
        · obtain ⟨ins, len, a, b, w⟩ := x
          dsimp only at hi
          subst hi
          obtain ⟨hya, b2, b3, b4, b5⟩ := jcall_sta hcl
          dsimp only at hya
          have hya := hya.symm
          subst hya
          dsimp only at f1 b3 b4 hy
          have e3 : (decide (len = 3) && (if 9000 ≤ a then true else decide ((jhh a).isEmpty = true ∨ (jnm mi).name = "law"))) = true := f3
          have e2 : (if 9000 ≤ a then true else decide (a < 429) && jtw w (.methodLink (jnm mi).cls i (jnm a)) && jsta a && decide (jht a + 1 ≤ jht mi) && decide ((parseMethodDescriptor (jnm a).desc).map (fun d => d.parameters.length) = some b)) = true := f2
          by_cases h9 : 9000 ≤ a
          · rw [jrun_no (jcode_no (by omega) 0)] at hy
            cases hy
          · rw [if_neg h9] at e2 e3
            simp only [Bool.and_eq_true, decide_eq_true_eq] at e2 e3
            obtain ⟨⟨⟨⟨d1, d2⟩, d3⟩, d4⟩, d5⟩ := e2
            obtain ⟨hl3, d6⟩ := e3
            subst hl3
            have ha : a < 428 := by
              rcases Nat.lt_or_ge a 428 with g | g
              · exact g
              · have : a = 428 := by omega
                subst this
                have : jht 428 = 14 := by decide +kernel
                omega
            subst b2
            have hc2r : (st1.all fun v => !jc2 v) = true := by
              rw [List.all_append, Bool.and_eq_true] at b5
              exact b5.2
            have ha1 : a ≠ 1 := fun q => by
              subst q
              have : jsta 1 = false := by decide +kernel
              rw [this] at d3
              cases d3
            by_cases ha6 : a = 6
            · subst ha6
              have hb : b = 2 := by
                have : (parseMethodDescriptor (jnm 6).desc).map (fun d => d.parameters.length) = some 2 := by decide +kernel
                rw [this] at d5
                exact (Option.some.inj d5).symm
              rw [hb] at b3
              match as, b3 with
              | [v1, v2], _ =>
                obtain ⟨x, y, rfl, rfl, r3, r4⟩ := jmax_run hy
                subst r4
                exact j_max C f1 (jtw_mem d2) (by omega) (by omega) b4 hc2r (by omega) (by omega) (kk _ r3)
            · by_cases ha79 : a = 79
              · subst ha79
                have hb : b = 2 := by
                  have : (parseMethodDescriptor (jnm 79).desc).map (fun d => d.parameters.length) = some 2 := by decide +kernel
                  rw [this] at d5
                  exact (Option.some.inj d5).symm
                rw [hb] at b3
                match as, b3 with
                | [v1, v2], _ =>
                  obtain ⟨x, y, rfl, rfl, r3, r4⟩ := jmin_run hy
                  subst r4
                  exact j_min C f1 (jtw_mem d2) (by omega) (by omega) b4 hc2r (by omega) (by omega) (kk _ r3)
              · obtain ⟨z1, d, z2, z3⟩ := jZof ha
                rw [if_pos d3] at z3
                have hmx : as.length ≤ jmaxL a := by
                  rw [z2] at d5
                  have hq : d.parameters.length = b := Option.some.inj d5
                  omega
                refine j_callS C (IH n (by omega) a ha ha1 ha6 ha79) f1 (jtw_mem d2) (jYof ha ha1 ha6 ha79) d3 ?_ d4 hR1 hR2 d5 b3 hmx hy b4 b5 (by omega) (by omega) hc0 hs0 kk kx
                rcases d6 with g | g
                · exact Or.inl g
                · refine Or.inr ?_
                  obtain ⟨⟨v, hv⟩, hnil⟩ := hlaw g
                  rcases hgo with ⟨v1, g1, g2⟩ | ⟨k, g1, ⟨-, g3, -⟩ | ⟨hpc, kl, pc1, g3, -⟩⟩
                  · exact ⟨v1, g1⟩
                  · rw [hv] at g3; cases g3
                  · rw [hnil] at g3; cases g3
        · obtain ⟨ins, len, a, b, w⟩ := x
          dsimp only at hi
          subst hi
          obtain ⟨hya, i0, as', b2, b3, b4, b5, b6, b7⟩ := jcall_rec hcl
          dsimp only at hya
          have hya := hya.symm
          subst hya
          dsimp only at f1 b4 b7 hy
          have e3 : (decide (len = 3) && decide ((jpl a).2.1 ≠ 99999999)) = true := f3
          have e2 : (decide (a < 429) && jtw w (.methodLink (jnm mi).cls i (jnm a)) && !(jsta a) && (jhh a).isEmpty && decide (jht a + 1 ≤ jht mi) && decide ((parseMethodDescriptor (jnm a).desc).map (fun d => d.parameters.length) = some b)) = true := f2
          simp only [Bool.and_eq_true, decide_eq_true_eq, Bool.not_eq_true'] at e2 e3
          obtain ⟨⟨⟨⟨⟨d1, d2⟩, d3⟩, d4⟩, d5⟩, d6⟩ := e2
          obtain ⟨hl3, d7⟩ := e3
          subst hl3
          have ha : a < 428 := by
            rcases Nat.lt_or_ge a 428 with g | g
            · exact g
            · have : a = 428 := by omega
              subst this
              have : jht 428 = 14 := by decide +kernel
              omega
          have ha1 : a ≠ 1 := fun q => by
            subst q
            have : (jpl 1).2.1 = 99999999 := by decide +kernel
            exact d7 this
          have ha6 : a ≠ 6 := fun q => by
            subst q
            have : jsta 6 = true := by decide +kernel
            rw [this] at d3; cases d3
          have ha79 : a ≠ 79 := fun q => by
            subst q
            have : jsta 79 = true := by decide +kernel
            rw [this] at d3; cases d3
          obtain ⟨z1, d, z2, z3⟩ := jZof ha
          rw [d3, if_neg Bool.false_ne_true] at z3
          subst b2 b3
          have hmx : as'.length + 1 ≤ jmaxL a := by
            rw [z2] at d6
            have hq : d.parameters.length = b := Option.some.inj d6
            omega
          exact j_callV C (IH n (by omega) a ha ha1 ha6 ha79) f1 (jtw_mem d2) (jYof ha ha1 ha6 ha79) d7 d3 d4 d5 hR1 hR2 d6 b4 hmx (b7.resolve_left (by simp)) hy b5 b6 (by omega) (by omega) hc0 hs0 kk kx
        · obtain ⟨ins, len, a, b, w⟩ := x
          dsimp only at hi
          subst hi
          obtain ⟨hya, i0, as', b2, b3, b4, b5, b6, b7⟩ := jcall_rec hcl
          dsimp only at hya
          have hya := hya.symm
          subst hya
          dsimp only at f1 b4 b7 hy
          have e3 : (decide (len = 3) && (if b < 100 then true else decide (((jnm mi).cls, i, jnm a) ∈ jnests)) && (if a = 1 then decide (b = 0) else true)) = true := f3
          have e2 : (if 9000 ≤ a then true else decide (a < 429) && (if b < 100 then jtw w (.methodLink (jnm mi).cls i (jnm a)) else decide (jtab w = some (.methodLinkNest (jnm mi).cls i (jnm a) "OverlapBench"))) && !(jsta a) && (jhh a).isEmpty && decide (jht a + 1 ≤ jht mi) && decide ((jnm a).name = "<init>") && decide ((parseMethodDescriptor (jnm a).desc).map (fun d => d.parameters.length) = some (b % 100)) && decide (jrt a = none)) = true := f2
          by_cases h9 : 9000 ≤ a
          · rw [jrun_no (jcode_no (by omega) 0)] at hy
            cases hy
          · rw [if_neg h9] at e2
            simp only [Bool.and_eq_true, decide_eq_true_eq, Bool.not_eq_true'] at e2 e3
            obtain ⟨⟨⟨⟨⟨⟨⟨d1, d2⟩, d3⟩, d4⟩, d5⟩, d6⟩, d7⟩, d8⟩ := e2
            obtain ⟨⟨hl3, d9⟩, d10⟩ := e3
            subst hl3
            subst b2 b3
            have hc2r : (st1.all fun v => !jc2 v) = true := by
              rw [List.all_append, List.all_cons, Bool.and_eq_true, Bool.and_eq_true] at b6
              exact b6.2.2
            by_cases ha1 : a = 1
            · subst ha1
              rw [if_pos rfl] at d10
              have d10 := of_decide_eq_true d10
              subst d10
              match as', b4 with
              | [], _ =>
                obtain ⟨r3, r4⟩ := jobj hy
                subst r4
                rw [if_pos (by decide)] at d2
                exact j_objInit C f1 (jtw_mem d2) (by omega) (by omega) b5 hc2r (kk _ r3)
            · have ha : a < 428 := by
                rcases Nat.lt_or_ge a 428 with g | g
                · exact g
                · have : a = 428 := by omega
                  subst this
                  have : jht 428 = 14 := by decide +kernel
                  omega
              have ha6 : a ≠ 6 := fun q => by
                subst q
                have : jsta 6 = true := by decide +kernel
                rw [this] at d3; cases d3
              have ha79 : a ≠ 79 := fun q => by
                subst q
                have : jsta 79 = true := by decide +kernel
                rw [this] at d3; cases d3
              obtain ⟨z1, d, z2, z3⟩ := jZof ha
              rw [d3, if_neg Bool.false_ne_true] at z3
              have hmx : as'.length + 1 ≤ jmaxL a := by
                rw [z2] at d7
                have hq : d.parameters.length = b % 100 := Option.some.inj d7
                omega
              have hl : Cond.methodLink (jnm mi).cls i (jnm a) ∈ jgood ∨ ((jnm mi).cls, i, jnm a) ∈ jnests := by
                by_cases hb : b < 100
                · rw [if_pos hb] at d2
                  exact Or.inl (jtw_mem d2)
                · rw [if_neg hb] at d9
                  exact Or.inr (of_decide_eq_true d9)
              exact j_callI (w := w) C (IH n (by omega) a ha ha1 ha6 ha79) f1 hl (jYof ha ha1 ha6 ha79) d3 d4 d5 hR1 hR2 d6 d8 d7 b4 hmx hy b5 b6 (by omega) (by omega) hc0 hs0 kk kx
end J19
