set_option maxHeartbeats 4000000 in
theorem jmet_step {l : Launch} (hfl : l.flags = flags0) (HS : jSpec l) {N : Nat} (IH : ∀ k, k < N → ∀ y, y < 274 → y ≠ 1 → y ≠ 6 → y ≠ 72 → jMet l k y) {y : Nat} (hy : y < 274) (h1 : y ≠ 1) (h6 : y ≠ 6) (h79 : y ≠ 72) (h32 : y ≠ 25) : jMet l N y := by
  intro E as M M1 v hrun hmx
  obtain ⟨hM, hX⟩ := okMof (show y < 275 by omega) h32 hrun
  have hYk := jYof hy h1 h6 h79
  obtain ⟨y1, y2, y3, y4, y5, y6, y7, y8⟩ := jY hYk
  obtain ⟨⟨z1, z0⟩, -⟩ := jZof hy
  refine Met.ofW (cc := jmb y) (maxL := jmaxL y) (ret := jrt y) (ws' := jgood) y5 rfl fun p e s m args below meth c s₁ B hml hv => ?_
  obtain ⟨rfl, hFx, hRel, hargs⟩ := hv
  have hts0 := atoms_spec (ws := jws y) B.pre
  have C : jCtx E y p l s m (as.map (jval E)).toArray meth c := ⟨B.exec, B.bytes, hml, findClass_of_methodNamed B.named, fun w hw => hts0 w (List.mem_cons_of_mem _ hw), hFx, B.notSynchronized, (name_of_methodNamed B.named B.method).1, hfl, hFx.size⟩
  rw [lg_entry_eq]
  have hL := jLoc_entry (E := E) (y := y) hmx hargs
  generalize (lg_sl (as.map (jval E)) ++ List.replicate (jmaxL y - (lg_sl (as.map (jval E))).length) Slot.unset).toArray = ls0 at hL ⊢
  have hr : meth.sig.returnType = jrt y := B.returns
  have hgo := jwalk (E := E) (mi := y) (p := p) (l := l) (e := e) (R := jrm y M M1) (s := s) (m := m) (args := (as.map (jval E)).toArray) (below := below) (meth := meth) (c := c) (Q := MQ below (jQc E M1 v) (as.map (jval E)).toArray s (jcells M1 - jcells M) (jslots M1 - jslots M) (jA E)) (c0 := jcells M) (s0 := jslots M) HS IH C (show y < 275 by omega) hM hX z1 (Nat.le_refl _) (Nat.le_refl _) (v := v) (Mf := M1) (Nat.le_refl _) (Nat.le_refl _)
    (fun pc ls st x M' hx hs => j_ret C hr hM hX hx hs)
    N (Nat.le_refl _) 0 (jargs y as) [] M hrun (Nat.le_refl _) (Nat.le_refl _) ls0 s.heap [] ⟨hL, hRel, (fun _ h => nomatch h), va_S.rf⟩
  rw [Nat.sub_self, Nat.sub_self] at hgo
  exact hgo
/-! String.checkIndex: its own walk, in range -/
theorem jpre_l1 : Cond.fieldLink (jnm 25).cls 1053 "jdk/internal/util/Preconditions" "SIOOBE_FORMATTER" "Ljava/util/function/BiFunction;" ∈ jgood := jtw_mem (w := 3027) (by decide +kernel)
theorem jpre_l2 : Cond.methodLink (jnm 25).cls 1059 (jnm 26) ∈ jgood := jtw_mem (w := 3029) (by decide +kernel)
theorem jmet_pre {l : Launch} (hfl : l.flags = flags0) {E : JE} {M : JM} {x y : Int} {v : Value} (hx : jok (.inl x)) (hy : jok (.inl y)) (h0 : 0 ≤ x) (h1 : x < y) (hv : v.category = 1) : Met l (jnm 26) (jws 26) (jrm 26 M M) (va_Pc [.int (Int32.ofInt x), .int (Int32.ofInt y), v] fun U => jFx E U U.heap ∧ jRel E M U.heap) (jQc E M (some (.inl x))) (jcells M - jcells M) (jslots M - jslots M) (jA E) := by
  have hcw : jcw1 26 = .code (jnm 26) (jmb 26) 3 (some .int) := by
    unfold jcw1
    rw [show jmaxL 26 = 3 by decide +kernel, show jrt 26 = some .int by decide +kernel]
  have hY := jYof (y := 26) (by decide) (by decide) (by decide) (by decide)
  obtain ⟨y1, y2, y3, y4, y5, y6, y7, y8⟩ := jY hY
  refine Met.ofW (cc := jmb 26) (maxL := 3) (ret := some .int) (ws' := jgood) y5 (by unfold jws; rw [hcw]) fun p e s m args below meth c s₁ B hml hv1 => ?_
  obtain ⟨rfl, hFx, hRel⟩ := hv1
  have hx0 := B.exec
  have hb := B.bytes
  have hr := B.returns
  have hlocks := B.notSynchronized
  have d0 : decode (jmb 26) 0 = .ok (.iload_n 0, 1) := by decide +kernel
  have d1 : decode (jmb 26) 1 = .ok (.ifCond .lt 8, 3) := by decide +kernel
  have d4 : decode (jmb 26) 4 = .ok (.iload_n 0, 1) := by decide +kernel
  have d5 : decode (jmb 26) 5 = .ok (.iload_n 1, 1) := by decide +kernel
  have d6 : decode (jmb 26) 6 = .ok (.if_icmp .lt 10, 3) := by decide +kernel
  have d16 : decode (jmb 26) 16 = .ok (.iload_n 0, 1) := by decide +kernel
  have d17 : decode (jmb 26) 17 = .ok (.ireturn, 1) := by decide +kernel
  have hc3 : ∀ w ∈ [Value.int (Int32.ofInt x), .int (Int32.ofInt y), v], w.category = 1 := fun w hw => by
    simp only [List.mem_cons, List.not_mem_nil, or_false] at hw
    rcases hw with rfl | rfl | rfl
    · rfl
    · rfl
    · exact hv
  have hl := lv_entry ([.int (Int32.ofInt x), .int (Int32.ofInt y), v]) (n := 3) (by rw [lg_sl_len _ hc3]; exact Nat.le_refl 3)
  rw [lg_entry_eq]
  generalize (lg_sl ([.int (Int32.ofInt x), .int (Int32.ofInt y), v]) ++ List.replicate (3 - (lg_sl ([.int (Int32.ofInt x), .int (Int32.ofInt y), v])).length) Slot.unset).toArray = ls at hl ⊢
  have g0 : ls[0]? = some (.val (.int (Int32.ofInt x))) := hl.2.2 (0, _) List.mem_cons_self
  have g1 : ls[1]? = some (.val (.int (Int32.ofInt y))) := hl.2.2 (1, _) (by show _ ∈ (0, Value.int (Int32.ofInt x)) :: (1, Value.int (Int32.ofInt y)) :: _; exact List.mem_cons_of_mem _ List.mem_cons_self)
  refine lv_iload_n hx0 hb d0 rfl g0 ?_
  refine lv_if_lt (tgt := 9) hx0 hb d1 (by decide) (fun hc => ?_) (fun _ => ?_)
  · rw [Int32.lt_iff_toInt_lt, jofi hx] at hc
    simp at hc
    omega
  refine lv_iload_n hx0 hb d4 rfl g0 ?_
  refine lv_iload_n hx0 hb d5 rfl g1 ?_
  refine lv_icmp_lt (tgt := 16) hx0 hb d6 (by decide) (fun _ => ?_) (fun hc => absurd ((jlt_iff hx hy).mpr h1) hc)
  refine lv_iload_n hx0 hb d16 rfl g0 ?_
  rw [Nat.sub_self, Nat.sub_self]
  exact W.iret hx0 hb hr (fun t ht _ => ⟨⟨rfl, (fun q hq => by cases hq; exact hx), by rw [ht]; exact hRel⟩, by rw [ht]; exact Nat.le_refl _, fun q _ _ => by rw [ht]⟩) (fun _ h => nomatch h) d17 hlocks
set_option maxHeartbeats 4000000 in
theorem jmet_check {l : Launch} (hfl : l.flags = flags0) {n : Nat} : jMet l n 25 := by
  intro E as M M1 v0 hrun hmx
  have e0 : jcode 25 0 = some (.nop, 1, 0, 0, 99999999) := by decide +kernel
  have hm2 : jmaxL 25 = 2 := by decide +kernel
  obtain ⟨x, y, rfl, h0, h1, rfl, rfl⟩ : ∃ x y : Int, as = [.inl x, .inl y] ∧ 0 ≤ x ∧ x < y ∧ v0 = none ∧ M = M1 := by
    cases n with
    | zero => cases hrun
    | succ n =>
      rw [jrun, e0] at hrun
      have hj : ∀ ls : List JV, jstep (.nop, 1, 0, 0, 99999999) 0 ls [] M = match ls with | [.inl k, .inl n] => (if 0 ≤ k ∧ k < n then jF none M else none) | _ => none := fun _ => rfl
      simp only [hj] at hrun
      unfold jargs at hrun
      rw [hm2] at hrun hmx
      match as, hmx with
      | [], _ => simp [jU, jX] at hrun
      | [a], _ =>
        simp only [List.length_cons, List.length_nil] at hrun
        rcases a with z | z <;> simp [jU, jX] at hrun
      | [a, b], _ =>
        simp only [List.length_cons, List.length_nil] at hrun
        rcases a with z | z
        · rcases b with w | w
          · simp only [List.append_nil, List.replicate, Nat.sub_self, Nat.reduceAdd] at hrun
            by_cases hc : 0 ≤ z ∧ z < w
            · rw [if_pos hc] at hrun
              unfold jF at hrun
              dsimp only at hrun
              cases Option.some.inj hrun
              exact ⟨z, w, rfl, hc.1, hc.2, rfl, rfl⟩
            · rw [if_neg hc] at hrun
              cases hrun
          · simp [jU, jX] at hrun
        · simp [jU, jX] at hrun
  have hcw : jcw1 25 = .code (jnm 25) (jmb 25) 2 none := by
    unfold jcw1
    rw [show jmaxL 25 = 2 by decide +kernel, show jrt 25 = none by decide +kernel]
  have hY := jYof (y := 25) (by decide) (by decide) (by decide) (by decide)
  obtain ⟨y1, y2, y3, y4, y5, y6, y7, y8⟩ := jY hY
  refine Met.ofW (cc := jmb 25) (maxL := 2) (ret := none) (ws' := jgood) y5 (by unfold jws; rw [hcw]) fun p e s m args below meth c s₁ B hml hv1 => ?_
  obtain ⟨rfl, hFx, hRel, hargs⟩ := hv1
  have hx : jok (.inl x) := (hargs _ List.mem_cons_self).1
  have hy : jok (.inl y) := (hargs _ (List.mem_cons_of_mem _ List.mem_cons_self)).1
  have hts0 := atoms_spec (ws := jws 25) B.pre
  have C : jCtx E 25 p l s m (([.inl x, .inl y] : List JV).map (jval E)).toArray meth c := ⟨B.exec, B.bytes, by rw [hml, hm2], findClass_of_methodNamed B.named, fun w hw => hts0 w (List.mem_cons_of_mem _ hw), hFx, B.notSynchronized, (name_of_methodNamed B.named B.method).1, hfl, hFx.size⟩
  have hts := C.2.2.2.2.1
  have hx0 := B.exec
  have hb := B.bytes
  have hr := B.returns
  have hlocks := B.notSynchronized
  have d0 : decode (jmb 25) 0 = .ok (.iload_n 0, 1) := by decide +kernel
  have d1 : decode (jmb 25) 1 = .ok (.iload_n 1, 1) := by decide +kernel
  have d2 : decode (jmb 25) 2 = .ok (.getstatic 1053, 3) := by decide +kernel
  have d5 : decode (jmb 25) 5 = .ok (.invokestatic 1059, 3) := by decide +kernel
  have d8 : decode (jmb 25) 8 = .ok (.pop, 1) := by decide +kernel
  have d9 : decode (jmb 25) 9 = .ok (.return_, 1) := by decide +kernel
  have hL := jLoc_entry (E := E) (y := 25) hmx hargs
  rw [hm2] at hL
  rw [lg_entry_eq]
  generalize (lg_sl (([.inl x, .inl y] : List JV).map (jval E)) ++ List.replicate (2 - (lg_sl (([.inl x, .inl y] : List JV).map (jval E))).length) Slot.unset).toArray = ls at hL ⊢
  have ha : jargs 25 [.inl x, .inl y] = [.inl x, .inl y] := by
    unfold jargs
    rw [hm2]
    rfl
  rw [ha] at hL
  have g0 : ls[0]? = some (.val (.int (Int32.ofInt x))) := (jLoc_at (i := 0) (v := .inl x) hL rfl rfl).1
  have g1 : ls[1]? = some (.val (.int (Int32.ofInt y))) := (jLoc_at (i := 1) (v := .inl y) hL rfl rfl).1
  refine lv_iload_n hx0 hb d0 rfl g0 ?_
  refine lv_iload_n hx0 hb d1 rfl g1 ?_
  have hS : va_S (jA E) s.heap s.heap [] := va_S.rf
  have hown := C.2.2.2.1
  have rest : ∀ v : Value, v.category = 1 → W p l e (jrm 25 M M) s m (([.inl x, .inl y] : List JV).map (jval E)).toArray below meth c s.heap [] 0 0 (MQ below (jQc E M none) (([.inl x, .inl y] : List JV).map (jval E)).toArray s (jcells M - jcells M) (jslots M - jslots M) (jA E)) (F0 m 5 ls [v, .int (Int32.ofInt y), .int (Int32.ofInt x)]) := by
    intro v hvc
    have hY3 := jYof (y := 26) (by decide) (by decide) (by decide) (by decide)
    obtain ⟨w1, w2, w3, w4, w5, w6, w7, w8⟩ := jY hY3
    have hsta : jsta 26 = true := by decide +kernel
    rw [hsta, if_pos rfl] at w2
    have hcb := jB_of (R := jrm 25 M M) (M := M) (M1 := M) (i := 1059) (b := 3) C hY3 (by decide +kernel) (Nat.le_refl _) (Nat.le_refl _) (by decide +kernel) jpre_l2
    have hblind : FrameBlind (va_Pc [.int (Int32.ofInt x), .int (Int32.ofInt y), v] fun U => jFx E U U.heap ∧ jRel E M U.heap) := by
      intro a U g mk h
      exact ⟨h.1, jFx_warm (U := U.calling g mk a) (State.WarmedH.refl U) h.2.1, h.2.2⟩
    have hrn := va_runS (e := e) (below := below) (meth := meth) (g := F0 m 5 ls [v, .int (Int32.ofInt y), .int (Int32.ofInt x)]) (rest := []) (As := [.int (Int32.ofInt x), .int (Int32.ofInt y), v]) (locs := []) (cells := 0) (slots := 0) (nL := jmaxL 25) ⟨hx0, C.2.1, C.2.2.1, hown, hts⟩ (jmet_pre (l := l) hfl (E := E) (M := M) (v := v) hx hy h0 h1 hvc) ⟨hcb, hts _ w2⟩ ⟨hblind, fun U hU hW => ⟨rfl, by rw [hU]; exact jFx_warm hW hFx, by rw [hU]; exact hRel⟩⟩ rfl rfl (by rw [hm2]; exact hL.1) rfl (by show 2 * 0 + 0 ≤ 8; omega) d5 ⟨by simp, by simp⟩
    refine j_after hrn hS fun H1 locs1 hR1 hS1 _ => ?_
    refine lv_pop hx0 hb d8 rfl ?_
    refine W.widen (k := jcells M - jcells M) (n := jslots M - jslots M) (by simp) (by simp) ?_
    exact W.vret hx0 hb hr (fun t ht _ => ⟨⟨rfl, (fun q hq => by cases hq), by rw [ht]; exact hR1⟩, hS1.F ht⟩) hS1.2.2 d9 hlocks
  rcases hFx.sio with hZ | ⟨t, hZ⟩
  · exact va_gets hx0 hb hZ hS hown (hts _ jpre_l1) (fun x h => h) d2 (rest .null rfl)
  · exact va_gets hx0 hb hZ hS hown (hts _ jpre_l1) (fun x h => h) d2 (rest (.ref t) rfl)
theorem jmet_all {l : Launch} (hfl : l.flags = flags0) (HS : jSpec l) : ∀ (N k : Nat), k < N → ∀ y, y < 274 → y ≠ 1 → y ≠ 6 → y ≠ 72 → jMet l k y := by
  intro N
  induction N with
  | zero => intro k hk; omega
  | succ N ih =>
    intro k hk y hy h1 h6 h79
    by_cases h32 : y = 25
    · subst h32
      exact jmet_check hfl
    · exact jmet_step hfl HS (N := k) (fun j hj => ih j (by omega)) hy h1 h6 h79 h32
