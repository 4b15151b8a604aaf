/-! THE JDK's Arrays.equals AND fill FOR LONGS: what the pure machine says of them -/
theorem z_oq {H H1 : Heap} {a : Nat} (hz : H1.size = H.size) (hq : ∀ q : Nat, q < H.size → ¬ q = a → H1[q]? = H[q]?) : ∀ q : Nat, q ≠ a → H1[q]? = H[q]? := by
  intro q hne
  by_cases hl : q < H.size
  · exact hq q hl hne
  · rw [Array.getElem?_eq_none (by omega), Array.getElem?_eq_none (by omega)]
theorem z_fill_spec {l : Launch} (E : JE) (M M1 : JM) (pc pc1 : Nat) (ls st ls1 st1 : List JV) {mi : Nat} {p : Program} {e : Env} {R : Room} {s : State} {m : MethodId} {args : Array Value} {below : List Frame} {meth : Method} {c : Code} {Q : State → Prop} {c0 s0 n : Nat} (C : jCtx E mi p l s m args meth c) (h : jfill pc ls st M = some (.inl (pc1, ls1, st1, M1))) (hl : Cond.methodLink (jnm mi).cls n jfillN ∈ jgood) (hh : 2 ≤ jht mi) (hR1 : jht mi ≤ R.frames) (hR2 : 33 * jht mi ≤ R.locals) (_hc0 : c0 ≤ jcells M) (_hs0 : s0 ≤ jslots M) (hr1 : jcells M1 - c0 ≤ R.cells) (hr2 : jslots M1 - s0 ≤ R.slots) (hd : decode (jmb mi) pc = .ok (.invokestatic n, 3)) (k : jGo E mi p l e R s m args below meth c Q c0 s0 pc1 ls1 st1 M1) : jGo E mi p l e R s m args below meth c Q c0 s0 pc ls st M := by
  unfold jfill at h
  split at h
  · rename_i v i r
    split at h
    · rename_i t nn hsh
      split at h
      · rename_i hc
        obtain ⟨hi, ht, hn, hrr⟩ := hc
        subst ht hrr
        unfold jN at h
        cases Option.some.inj h
        intro lsA H locs I
        have hts := C.2.2.2.2.1
        obtain ⟨g1, g2⟩ := jarr I.2.1 hsh (by omega)
        have hJ : ArrOfT s (jC E 103) .long := (jmust g1 C).1
        show W p l e R s m args below meth c H locs (jcells M - c0) (jslots M - s0) Q (F0 m pc lsA [.long v, .ref (jad E i)])
        rw [jad_i hi]
        have hr := va_runS (R := R) (e := e) (below := below) (meth := meth) (g := F0 m pc lsA [.long v, .ref (jB E + i)]) (rest := []) (As := [.ref (jB E + i), .long v]) (locs := locs) (cells := jcells M - c0) (slots := jslots M - s0) ⟨C.1, C.2.1, C.2.2.1, C.2.2.2.1, hts⟩ (z_fill (l := l) (a := jB E + i) (cJ := jC E 103) (n := nn) (N := H.size) (V := fun k => jval E (jget M i k)) (v := v) hn)
          ⟨callB_of (mc := 0) (ms := 0) 2 hts (z_good zw7153) rfl rfl rfl (hts _ zw1019) (hts _ hl) (by decide +kernel) ⟨by show 1 + 1 ≤ R.frames; omega, by show 8 + (5 + 11) + 25 ≤ R.locals; omega⟩, hts _ zw7152⟩
          ⟨fun aa U g mk h => ⟨h.1, h.2.1, arrOfT_moved (State.WarmedH.refl U).alike h.2.2.1, h.2.2.2⟩, fun U hU hWm => ⟨rfl, by have hU : U.heap = H := hU; rw [hU]; exact g2, arrOfT_moved hWm.alike hJ, by have hU : U.heap = H := hU; rw [hU]⟩⟩ rfl rfl I.1.1 rfl (by show 2 * 0 + 0 ≤ 8; decide) hd ⟨hr1, hr2⟩
        refine va_callv hr I.2.2.2 (fun q _ hq => by rw [hq]; exact Nat.le_add_right _ _) (fun q hq => by rw [hq]; exact Nat.le_add_right _ _) fun _ t H1 locs1 ht hal _ hB hz hq hS1 => ?_
        obtain ⟨hB1, hB2⟩ := hB
        rw [ht] at hB1 hB2
        have hFe : jfilled M i (jX (.long v)) = (M.1, (fun a j => if a = i then (fun _ : Nat => jX (.long v)) j else M.2.1 a j), M.2.2) := rfl
        refine k lsA H1 locs1 ⟨I.1, by
          rw [hFe]
          exact jRel_cell I.2.1 hsh (fun j _ => trivial) (by
            unfold jcellAt
            rw [if_neg (by omega)]
            exact ⟨g1, hB1⟩) hB2 (z_oq hB2 hq), I.tl.tl.2.2.1, hS1⟩
      · cases h
    · cases h
  · cases h
theorem z_same_spec {l : Launch} (E : JE) (M M1 : JM) (pc pc1 : Nat) (ls st ls1 st1 : List JV) {mi : Nat} {p : Program} {e : Env} {R : Room} {s : State} {m : MethodId} {args : Array Value} {below : List Frame} {meth : Method} {c : Code} {Q : State → Prop} {c0 s0 n : Nat} (C : jCtx E mi p l s m args meth c) (h : jsame pc ls st M = some (.inl (pc1, ls1, st1, M1))) (hl : Cond.methodLink (jnm mi).cls n jequalN ∈ jgood) (hh : 5 ≤ jht mi) (hR1 : jht mi ≤ R.frames) (hR2 : 33 * jht mi ≤ R.locals) (_hc0 : c0 ≤ jcells M) (_hs0 : s0 ≤ jslots M) (hr1 : jcells M1 - c0 ≤ R.cells) (hr2 : jslots M1 - s0 ≤ R.slots) (hd : decode (jmb mi) pc = .ok (.invokestatic n, 3)) (k : jGo E mi p l e R s m args below meth c Q c0 s0 pc1 ls1 st1 M1) : jGo E mi p l e R s m args below meth c Q c0 s0 pc ls st M := by
  unfold jsame at h
  split at h
  · rename_i j i r
    split at h
    · rename_i hc
      obtain ⟨h1, h2, hij, hj, hrr, hall⟩ := hc
      subst hrr
      unfold jN at h
      cases Option.some.inj h
      intro lsA H locs I
      have hts := C.2.2.2.2.1
      obtain ⟨g1, g2⟩ := jarr I.2.1 h1 (by omega)
      obtain ⟨g3, g4⟩ := jarr I.2.1 h2 (by omega)
      have hJ : ArrOfT s (jC E 103) .long := (jmust g1 C).1
      have hlong : ∀ q, q < 60 → ∃ x, jget M i q = jX (.long x) ∧ jget M j q = jX (.long x) := by
        intro q hq
        have := List.all_eq_true.mp hall q (List.mem_range.mpr hq)
        unfold jleq at this
        split at this
        · rename_i x y hx hy
          have hxy := of_decide_eq_true this
          subst hxy
          exact ⟨x, hx, hy⟩
        · cases this
      have hf : ∃ f : Nat → Int64, ∀ q, q < 60 → jget M i q = jX (.long (f q)) ∧ jget M j q = jX (.long (f q)) := by
        refine ⟨fun q => match jget M i q with | .inr (.inr (.long x)) => x | _ => 0, fun q hq => ?_⟩
        obtain ⟨x, hx, hy⟩ := hlong q hq
        dsimp only
        rw [hx]
        exact ⟨rfl, hy⟩
      obtain ⟨f, hf⟩ := hf
      have eA : arrV (jC E 103) 60 (fun q => jval E (jget M i q)) = arrV (jC E 103) 60 (fun q => .long (f q)) := by
        have e : (fun q : Fin 60 => jval E (jget M i q.1)) = fun q : Fin 60 => Value.long (f q.1) := funext fun q => by
          rw [(hf q.1 q.2).1]
          rfl
        unfold arrV
        rw [e]
      have eB : arrV (jC E 103) 60 (fun q => jval E (jget M j q)) = arrV (jC E 103) 60 (fun q => .long (f q)) := by
        have e : (fun q : Fin 60 => jval E (jget M j q.1)) = fun q : Fin 60 => Value.long (f q.1) := funext fun q => by
          rw [(hf q.1 q.2).2]
          rfl
        unfold arrV
        rw [e]
      rw [eA] at g2
      rw [eB] at g4
      show W p l e R s m args below meth c H locs (jcells M - c0) (jslots M - s0) Q (F0 m pc lsA [.ref (jad E j), .ref (jad E i)])
      rw [jad_i hj, jad_i (by omega)]
      obtain ⟨⟨f1, f2, f3⟩, u, f4, f5⟩ := jFz_kept (H := s.heap) (H1 := H) I.2.2.2.2.1 C.2.2.2.2.2.1.fz
      have hW : zW u (jB E + i) (jB E + j) (jC E 103) H.size f s H := ⟨⟨⟨va_Z_F f1, va_Z_F f2, va_Z_F f3⟩, va_Z_F f4, va_O_F f5⟩, g2, g4, hJ, rfl⟩
      have hr := va_runS (R := R) (e := e) (below := below) (meth := meth) (g := F0 m pc lsA [.ref (jB E + j), .ref (jB E + i)]) (rest := []) (As := [.ref (jB E + i), .ref (jB E + j)]) (locs := locs) (cells := jcells M - c0) (slots := jslots M - s0) ⟨C.1, C.2.1, C.2.2.1, C.2.2.2.1, hts⟩ (z_eq (l := l) (u := u) (a := jB E + i) (b := jB E + j) (cJ := jC E 103) (N := H.size) (f := f) (by omega))
        ⟨callB_of (mc := 0) (ms := 0) 2 hts (z_good zw7207) rfl rfl rfl (hts _ zw1019) (hts _ hl) (by decide +kernel) ⟨by show 4 + 1 ≤ R.frames; omega, by show 8 + (3 + 11) + 109 ≤ R.locals; omega⟩, hts _ zw7206⟩
        ⟨zW.blind, fun U hU hWm => ⟨rfl, by have hU : U.heap = H := hU; show zW u (jB E + i) (jB E + j) (jC E 103) H.size f U U.heap; rw [hU]; exact hW.mv hWm.alike⟩⟩ rfl rfl I.1.1 rfl (by show 2 * 0 + 0 ≤ 8; decide) hd ⟨hr1, hr2⟩
      refine va_calli hr I.2.2.2 (fun _ _ h => h.elim) (fun _ h => h.elim) fun r t0 t H1 locs1 ht hal hp hB hz hq hS1 => ?_
      subst hp
      rw [ht] at hB
      exact k lsA H1 locs1 ⟨I.1, jRel_kept I.2.1 (fun q hl => hq q hl id) (fun _ => hB), fun v hv => by
        rw [List.mem_singleton.mp hv]
        exact ⟨⟨by decide, by decide⟩, rfl⟩, hS1⟩
    · cases h
  · cases h
theorem z_spec {l : Launch} : jSpec l := ⟨fun E M M1 pc pc1 ls st ls1 st1 {_ _ _ _ _ _ _ _ _ _ _ _ _ _} => z_fill_spec E M M1 pc pc1 ls st ls1 st1, fun E M M1 pc pc1 ls st ls1 st1 {_ _ _ _ _ _ _ _ _ _ _ _ _ _} => z_same_spec E M M1 pc pc1 ls st ls1 st1⟩
