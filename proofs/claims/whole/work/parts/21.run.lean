/-! THE PRINTED MACHINE HELD AGAINST THE PURE ONE: all methods' contracts, out of their bodies' walks -/
theorem lv_args_mem : ∀ (vs : List Value) (j : Nat), (∀ v ∈ vs, v.category = 1) → ∀ (i : Nat) (v : Value), vs[i]? = some v → (j + i, v) ∈ lv_args j vs := by
  intro vs
  induction vs with
  | nil => intro j _ i v h; simp at h
  | cons a r ih =>
    intro j hc i v h
    have ha : a.category = 1 := hc a List.mem_cons_self
    rw [lv_args, if_neg (by rw [ha]; decide)]
    cases i with
    | zero => simp at h; subst h; exact List.mem_cons_self
    | succ i =>
      have := ih (j + 1) (fun v hv => hc v (List.mem_cons_of_mem _ hv)) i v (by simpa using h)
      rw [show j + 1 + i = j + (i + 1) by omega] at this
      exact List.mem_cons_of_mem _ this
theorem lg_sl_len : ∀ (vs : List Value), (∀ v ∈ vs, v.category = 1) → (lg_sl vs).length = vs.length := by
  intro vs
  induction vs with
  | nil => intro _; rfl
  | cons a r ih =>
    intro hc
    have ha : a.category = 1 := hc a List.mem_cons_self
    have := ih fun v hv => hc v (List.mem_cons_of_mem _ hv)
    unfold lg_sl at this ⊢
    rw [List.flatMap_cons, List.length_append, this, if_neg (by rw [ha]; decide)]
    simp
    omega
theorem jLoc_entry {E : JE} {y : Nat} {as : List JV} (hmx : as.length ≤ jmaxL y) (ha : ∀ v ∈ as, jok v ∧ jc2 v = false) : jLoc E ((lg_sl (as.map (jval E)) ++ List.replicate (jmaxL y - (lg_sl (as.map (jval E))).length) Slot.unset).toArray) (jmaxL y) (jargs y as) := by
  have hc : ∀ v ∈ as.map (jval E), v.category = 1 := fun v hv => by
    obtain ⟨w, hw, rfl⟩ := List.mem_map.mp hv
    exact jval_c2 (ha w hw).2
  have hl := lv_entry (as.map (jval E)) (n := jmaxL y) (by rw [lg_sl_len _ hc, List.length_map]; exact hmx)
  refine jLoc_of hl ?_ fun i v hv hk => ?_
  · unfold jargs
    rw [List.length_append, List.length_replicate]
    omega
  · unfold jargs at hv
    by_cases hi : i < as.length
    · rw [List.getElem?_append_left hi] at hv
      refine ⟨?_, (ha v (List.mem_of_getElem? hv)).1⟩
      have := lv_args_mem (as.map (jval E)) 0 hc i (jval E v) (by rw [List.getElem?_map, hv]; rfl)
      rwa [Nat.zero_add] at this
    · rw [List.getElem?_append_right (by omega)] at hv
      have := List.mem_of_getElem? hv
      rw [(List.mem_replicate.mp this).2] at hk
      cases hk
theorem okMof {y n : Nat} {as : List JV} {M M1 : JM} {o : JO} (h : y < 429) (h32 : y ≠ 32) (hrun : jrun n y 0 as [] M = some (o, M1)) : okM (jmeths.getD y jm0) = true ∧ okX (jmeths.getD y jm0) = true := by
  have hX := okX_all h
  rw [Bool.or_eq_true] at hX
  have hX : okX (jmeths.getD y jm0) = true := by
    rcases hX with q | q
    · have := of_decide_eq_true q; omega
    · exact q
  refine ⟨?_, hX⟩
  rcases oks _ (jm_mem h) with q | q | q
  · exact q
  · rw [q] at hX
    have : okX jm_32 = false := by decide +kernel
    rw [this] at hX; cases hX
  · have hc : jcode y 0 = none := by
      unfold jcode
      rw [q]
      rfl
    rw [jrun_no hc] at hrun
    cases hrun
theorem okHof {y : Nat} (h : y < 429) : okH y = true := by
  have := okH_all h
  rw [Bool.or_eq_true] at this
  rcases this with q | q
  · have := of_decide_eq_true q; omega
  · exact q
set_option maxHeartbeats 4000000 in
theorem jmet_step {l : Launch} (hfl : l.flags = flags0) {N : Nat} (IH : ∀ k, k < N → ∀ y, y < 428 → y ≠ 1 → y ≠ 6 → y ≠ 79 → jMet l k y) {y : Nat} (hy : y < 428) (h1 : y ≠ 1) (h6 : y ≠ 6) (h79 : y ≠ 79) (h32 : y ≠ 32) : jMet l N y := by
  intro E as M M1 o hrun hmx hhh
  obtain ⟨hM, hX⟩ := okMof (show y < 429 by omega) h32 hrun
  have hYk := jYof hy h1 h6 h79
  obtain ⟨y1, y2, y3, y4, y5, y6, y7⟩ := jY hYk
  obtain ⟨⟨z1, z0⟩, -⟩ := jZof hy
  have body : ∀ (p : Program) (e : Env) (s : State) (m : MethodId) (args : Array Value) (below : List Frame) (meth : Method) (c : Code) (s₁ : State), BodyLoose p l (jnm y) (headSpec (jws y) (jrm y M M1)) (jmb y) (jmaxL y) (jrt y) e s m args below meth c s₁ → c.maxLocals = jmaxL y → c.exceptionTable.toList = tableOf (jhh y) → jPc E M as args s →
      W p l e (jrm y M M1) s m args below meth c s.heap [] 0 0 (vx_MQ below (jQc E M1 o) (jXc E M1 o) args s (jcells M1 - jcells M) (jslots M1 - jslots M) (jA E)) (entryFrame m args (jmaxL y)) := by
    intro p e s m args below meth c s₁ B hml hT hv
    obtain ⟨rfl, hFx, hRel, hargs⟩ := hv
    have hts0 := atoms_spec (ws := jws y) B.pre
    have C : jCtx E y p l s m (as.map (jval E)).toArray meth c := ⟨B.exec, B.bytes, hml, findClass_of_methodNamed B.named, fun w hw => hts0 w (List.mem_cons_of_mem _ hw), hFx, B.notSynchronized, (name_of_methodNamed B.named B.method).1, hfl, hFx.2.2.2.2.2.2.2.2.2.2.2.1⟩
    rw [lg_entry_eq]
    have hL := jLoc_entry (E := E) (y := y) hmx hargs
    generalize (lg_sl (as.map (jval E)) ++ List.replicate (jmaxL y - (lg_sl (as.map (jval E))).length) Slot.unset).toArray = ls0 at hL ⊢
    have hr : meth.sig.returnType = jrt y := B.returns
    have hgo := jwalk (E := E) (mi := y) (p := p) (l := l) (e := e) (R := jrm y M M1) (s := s) (m := m) (args := (as.map (jval E)).toArray) (below := below) (meth := meth) (c := c) (Q := vx_MQ below (jQc E M1 o) (jXc E M1 o) (as.map (jval E)).toArray s (jcells M1 - jcells M) (jslots M1 - jslots M) (jA E)) (c0 := jcells M) (s0 := jslots M) IH C (show y < 429 by omega) hM hX (okHof (by omega)) hT z1 (Nat.le_refl _) (Nat.le_refl _) (o := o) (Mf := M1) (Nat.le_refl _) (Nat.le_refl _) (fun q => absurd q z0)
      (fun pc ls st x M' v hx hs ho => j_ret C hr hM hX hx hs ho)
      (fun pc ls st x M' k hx hs ho hc0 hs0 => j_thr C (fun q hq => by
        rcases hhh with g | ⟨v, g⟩
        · rw [List.isEmpty_iff.mp g] at hT
          rw [hT] at hq
          cases hq
        · rw [g] at ho; cases ho) hM hX (Nat.le_refl _) (Nat.le_refl _) (Nat.le_refl _) (Nat.le_refl _) hx hs ho hc0 hs0)
      (fun pc ls rest k ho hk hcn lsA H1 locs1 q9 ce I g1 g2 g3 => by
        rcases hhh with g | ⟨v, g⟩
        · refine vx_out (fun q hq => ?_) B.notSynchronized g1 g2 g3 (fun t ht _ => ⟨⟨k, hk, ho, rfl, by rw [ht]; exact I.2.1⟩, I.2.2.2.F ht⟩) I.2.2.2.2.2 (Nat.le_refl _) (Nat.le_refl _)
          rw [List.isEmpty_iff.mp g] at hT
          rw [hT] at hq
          cases hq
        · rw [g] at ho; cases ho)
      N (Nat.le_refl _) 0 (jargs y as) [] M hrun (Nat.le_refl _) (Nat.le_refl _) ls0 s.heap [] ⟨hL, hRel, (fun _ h => nomatch h), va_S.rf⟩
    rw [Nat.sub_self, Nat.sub_self] at hgo
    exact hgo
  by_cases hh : (jhh y).isEmpty = true
  · have hcw : jcw1 y = .code (jnm y) (jmb y) (jmaxL y) (jrt y) := by unfold jcw1; rw [if_pos hh]
    refine vx_ofW (cc := jmb y) (maxL := jmaxL y) (ret := jrt y) (ws' := jgood) y5 (by unfold jws; rw [hcw]) fun p e s m args below meth c s₁ B hml hno hv => body p e s m args below meth c s₁ B hml ?_ hv
    rw [List.isEmpty_iff.mp hh]
    exact List.eq_nil_iff_forall_not_mem.mpr fun x hx => hno x hx
  · have hcw : jcw1 y = .codeWith (jnm y) (jmb y) (jmaxL y) (jrt y) (jhh y) := by unfold jcw1; rw [if_neg hh]
    exact vx_ofWH (cc := jmb y) (maxL := jmaxL y) (ret := jrt y) (hh := jhh y) (ws' := jgood) y5 (by unfold jws; rw [hcw]) fun p e s m args below meth c s₁ B hml hv => body p e s m args below meth c s₁ B hml (vx_table (x := jnm y) B (by rw [← hcw]; exact atoms_spec (ws := jws y) B.pre _ List.mem_cons_self)) hv
