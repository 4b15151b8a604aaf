/-! THE PRINTED MACHINE HELD AGAINST THE PURE ONE: calls, ends, throws -/
/-- what a step makes is not taken back -/
def jle (M M1 : JM) : Prop := jcells M ≤ jcells M1 ∧ jslots M ≤ jslots M1
theorem jle_rf {M : JM} : jle M M := ⟨Nat.le_refl _, Nat.le_refl _⟩
theorem jle_tr {M M1 M2 : JM} (h : jle M M1) (k : jle M1 M2) : jle M M2 := ⟨Nat.le_trans h.1 k.1, Nat.le_trans h.2 k.2⟩
theorem jle_set {M : JM} {i k : Nat} {v : JV} : jle M (jset M i k v) := ⟨Nat.le_refl _, Nat.le_refl _⟩
theorem jle_push {M : JM} {t n : Nat} {f : Nat → JV} : jle M (jpush M t n f) := ⟨Nat.le_add_right _ _, Nat.le_add_right _ _⟩
theorem jle_throw {M : JM} : jle M (jthrow M) := ⟨Nat.le_add_right _ _, Nat.le_add_right _ _⟩
def jleR (M : JM) (r : JR) : Prop := match r with
  | .inl (_, _, _, M1) => jle M M1
  | .inr (.inl _) => True
  | .inr (.inr (_, M1)) => jle M M1
set_option maxHeartbeats 4000000 in
theorem jstep_le {x : JI} {pc : Nat} {ls st : List JV} {M : JM} {r : JR} (hs : jstep x pc ls st M = some r) : jleR M r := by
  have hN : ∀ {pc : Nat} {ls st : List JV} {M1 : JM}, jle M M1 → jN pc ls st M1 = some r → jleR M r := fun h e => by
    cases Option.some.inj e; exact h
  have hNo : ∀ {pc : Nat} {q : Option (List JV)} {st : List JV}, jNo pc q st M = some r → jleR M r := fun {pc q st} e => by
    cases q with
    | none => cases e
    | some ls => exact hN jle_rf e
  have hF : ∀ {v : Option JV}, jF v M = some r → jleR M r := fun e => by cases Option.some.inj e; exact jle_rf
  have h1 : ∀ {x : JV} {st : List JV} {pc : Nat}, jld1 x st pc ls M = some r → jleR M r := fun {x st pc} e => by
    unfold jld1 at e; split at e
    · exact hN jle_rf e
    · cases e
  have h2 : ∀ {x : JV} {st : List JV} {pc : Nat}, jld2 x st pc ls M = some r → jleR M r := fun {x st pc} e => by
    unfold jld2 at e; split at e
    · exact hN jle_rf e
    · cases e
  have h3 : ∀ {x : JV} {st : List JV} {pc : Nat}, jldf x st pc ls M = some r → jleR M r := fun {x st pc} e => by
    unfold jldf at e; split at e
    · exact hN jle_rf e
    · cases e
  have h4 : ∀ {x : JV} {st : List JV} {pc : Nat}, jldd x st pc ls M = some r → jleR M r := fun {x st pc} e => by
    unfold jldd at e; split at e
    · exact hN jle_rf e
    · cases e
  have h5 : ∀ {i pc : Nat} {st : List JV}, jst1 i st pc ls M = some r → jleR M r := fun {i pc st} e => by
    unfold jst1 at e; split at e
    · exact hNo e
    · cases e
  have h6 : ∀ {i pc : Nat} {st : List JV}, jst2 i st pc ls M = some r → jleR M r := fun {i pc st} e => by
    unfold jst2 at e; split at e
    · exact hNo e
    · cases e
  have h7 : ∀ {cc : Bool} {t f : Nat} {st : List JV}, jbr cc t f ls st M = some r → jleR M r := fun {cc t f st} e => by
    unfold jbr at e; split at e
    · exact hN jle_rf e
    · exact hN jle_rf e
  have h8 : ∀ {t i pc : Nat} {k : Int} {st : List JV}, jread t i k pc ls st M = some r → jleR M r := fun {t i pc k st} e => by
    unfold jread at e; split at e
    · split at e
      · exact hN jle_rf e
      · cases e
    · cases e
  have h9 : ∀ {t i pc : Nat} {k : Int} {v : JV} {st : List JV}, jwrite t i k v pc ls st M = some r → jleR M r := fun {t i pc k v st} e => by
    unfold jwrite at e; split at e
    · split at e
      · exact hN jle_set e
      · cases e
    · cases e
  have h10 : ∀ {y n : Nat} {virt recv : Bool}, jcall y n virt recv ls st M = some r → jleR M r := fun {y n virt recv} e => by
    unfold jcall at e
    dsimp only at e
    generalize (if recv = true then n + 1 else n) = k0 at e
    split at e
    · split at e
      · split at e
        · cases Option.some.inj e; trivial
        · cases e
      · cases e
      · cases Option.some.inj e; trivial
    · cases e
  obtain ⟨ins, len, a, b, w⟩ := x
  unfold jstep at hs
  dsimp only at hs
  repeat' (split at hs)
  all_goals first
    | exact h1 hs
    | exact h2 hs
    | exact h3 hs
    | exact h4 hs
    | exact h5 hs
    | exact h6 hs
    | exact h7 hs
    | exact h8 hs
    | exact h9 hs
    | exact h10 hs
    | exact hNo hs
    | exact hF hs
    | exact hN jle_rf hs
    | exact hN jle_set hs
    | exact hN jle_push hs
    | (cases Option.some.inj hs; exact jle_throw)
    | (cases hs; done)
theorem jrun_le : ∀ {n mi pc : Nat} {ls st : List JV} {M : JM} {o : JO} {M1 : JM}, jrun n mi pc ls st M = some (o, M1) → jle M M1 := by
  intro n
  induction n with
  | zero => intro mi pc ls st M o M1 h; cases h
  | succ n ih =>
    intro mi pc ls st M o M1 h
    rw [jrun] at h
    split at h
    · cases h
    · split at h
      · cases h
      · rename_i hj
        have := jstep_le hj
        exact jle_tr this (ih h)
      · rename_i hj
        have := jstep_le hj
        cases Option.some.inj h
        exact this
      · rename_i hj
        split at h
        · cases h
        · rename_i hy
          exact jle_tr (ih hy) (ih h)
        · rename_i hy
          split at h
          · cases Option.some.inj h
            exact ih hy
          · split at h
            · cases h
            · split at h
              · exact jle_tr (ih hy) (ih h)
              · cases h
/-- a method's contract at one run of the pure machine -/
def jPc (E : JE) (M : JM) (as : List JV) : Array Value → State → Prop := va_Pc (as.map (jval E)) fun U => jFx E U U.heap ∧ jRel E M U.heap ∧ ∀ v ∈ as, jok v ∧ jc2 v = false
def jQc (E : JE) (M1 : JM) (o : JO) : Array Value → State → Outcome → State → Prop := fun _ st oc t =>
  (∃ v : Option JV, o = .inl v ∧ oc = .returned (v.map (jval E)) ∧ (∀ x, v = some x → jok x) ∧ jRel E M1 t.heap) ∧ va_F (jA E) st t
def jXc (E : JE) (M1 : JM) (o : JO) : String → State → State → Prop := fun nm st t => (∃ k, k < 3 ∧ o = .inr k ∧ nm = jexc k ∧ jRel E M1 t.heap) ∧ va_F (jA E) st t
def jcw1 (y : Nat) : Cond := if (jhh y).isEmpty then .code (jnm y) (jmb y) (jmaxL y) (jrt y) else .codeWith (jnm y) (jmb y) (jmaxL y) (jrt y) (jhh y)
def jws (y : Nat) : List Cond := jcw1 y :: jgood
def jrm (y : Nat) (M M1 : JM) : Room := { frames := jht y, cells := jcells M1 - jcells M, slots := jslots M1 - jslots M, locals := 33 * jht y }
def jMet (l : Launch) (n y : Nat) : Prop := ∀ (E : JE) (as : List JV) (M M1 : JM) (o : JO), jrun n y 0 (jargs y as) [] M = some (o, M1) → as.length ≤ jmaxL y → ((jhh y).isEmpty = true ∨ ∃ v, o = .inl v) →
  vx_Met l (jnm y) (jws y) (jrm y M M1) (jPc E M as) (jQc E M1 o) (jXc E M1 o) (jcells M1 - jcells M) (jslots M1 - jslots M) (jA E)
theorem jPc_blind {E : JE} {M : JM} {as : List JV} : FrameBlind (jPc E M as) := by
  intro a U g mk h
  exact ⟨h.1, jFx_warm (U := U.calling g mk a) (State.WarmedH.refl U) h.2.1, h.2.2.1, h.2.2.2⟩
theorem jok_kn {v : JV} (h : jok v) : jkn v = true := jkn_ok h
section J16
variable {E : JE} {mi : Nat} {p : Program} {l : Launch} {e : Env} {R : Room} {s : State} {m : MethodId} {args : Array Value} {below : List Frame} {meth : Method} {c : Code} {Q : State → Prop} {c0 s0 pc : Nat} {ls st : List JV} {M M1 : JM}
/-- behind a call -/
theorem j_after {H : Heap} {locs : List Loc} {cells slots mc ms : Nat} {lsA : Array Slot} {st0 rest : List Value} {o : JO} {a : Array Value} (hr : vx_Run p l e R s m args below meth c H locs cells slots mc ms (F0 m pc lsA st0) rest (jQc E M1 o a) (jXc E M1 o) (jA E)) (hS : va_S (jA E) s.heap H locs)
    (kk : ∀ v, o = .inl v → ∀ (H1 : Heap) (locs1 : List Loc), jRel E M1 H1 → va_S (jA E) s.heap H1 locs1 → (∀ x, v = some x → jok x) → W p l e R s m args below meth c H1 locs1 (cells + mc) (slots + ms) Q (F0 m (pc + 3) lsA ((v.map (jval E)).toList ++ rest)))
    (kx : ∀ k, k < 3 → o = .inr k → ∀ (H1 : Heap) (locs1 : List Loc) (q9 : Addr) (ce : Cell), jRel E M1 H1 → va_S (jA E) s.heap H1 locs1 → H1[q9]? = some ce → ce.vm = .none → s.vm.findClass (jexc k) = some ce.cls → vx_W p l e R s m args below meth c H1 locs1 (cells + mc) (slots + ms) Q (F0 m pc lsA rest) q9) :
    W p l e R s m args below meth c H locs cells slots Q (F0 m pc lsA st0) := by
  intro T hT X
  rcases hr T hT X with ⟨v, st₀, t, T', L, h0, X', hL, e1, e2, ⟨⟨v1, hv, hp, hok, hR⟩, hF⟩, st⟩ | ⟨q, st₀, t, T', L, E', ce, h0, X', hL, e1, e2, ⟨⟨k, hk3, hk, hnm, hR⟩, hF⟩, hce, hcv, hcl, st⟩
  · cases hp
    obtain ⟨k1, k2, k3⟩ := vx_keep h0 e1 hS (fun _ _ h => h) (fun _ h => h) hL hF
    obtain ⟨t2, a1, b1⟩ := kk v1 hv T'.heap (locs ++ L) (by rw [e1]; exact hR) k3 hok T' rfl X'
    exact ⟨t2, st t2 a1, b1⟩
  · obtain ⟨k1, k2, k3⟩ := vx_keep h0 e1 hS (fun _ _ h => h) (fun _ h => h) hL hF
    subst hnm
    obtain ⟨t2, a1, b1⟩ := kx k hk3 hk T'.heap (locs ++ L) q ce (by rw [e1]; exact hR) k3 (by rw [e1]; exact hce) hcv hcl T' rfl X'
    exact ⟨t2, st.trans a1, b1⟩
/-- the words of a callee -/
theorem jws_warm {y : Nat} (hy : jcw1 y ∈ jgood) (C : jCtx E mi p l s m args meth c) : ∀ w ∈ jws y, ∀ (a' : Array Value) (U : State), s.WarmedH U.vm → w.before a' U = true := by
  intro w hw a' U hW
  have hg : w ∈ jgood := (List.mem_cons.mp hw).elim (fun q => q ▸ hy) id
  exact word_at hW (good_of_word (List.mem_filter.mp hg).2) (C.2.2.2.2.1 w hg)
theorem jPc_at {H : Heap} {as : List JV} {lsA : Array Slot} {locs : List Loc} (C : jCtx E mi p l s m args meth c) (I : jInv E mi s lsA H locs ls st M) (ha : ∀ v ∈ as, jok v ∧ jc2 v = false) : ∀ U : State, U.heap = H → s.WarmedH U.vm → jPc E M as (as.map (jval E)).toArray U := by
  intro U hU hW
  refine ⟨rfl, ?_, by rw [hU]; exact I.2.1, ha⟩
  rw [hU]
  exact jFx_kept I.2.2.2.2.1 I.2.2.2.1 (jFx_warm hW C.2.2.2.2.2.1)
/-- an exception is put away -/
theorem jLoc_hide {nL i : Nat} {v : Value} {lsA : Array Slot} (h : jLoc E lsA nL ls) (hi : i < ls.length) (hc : jc2 ((jU :: ls).getD i jU) = false) {ls' : Array Slot} (h' : lv_has ls' nL ((i, v) :: (jlv E 0 ls).filter (fun q => !(q.1 == i) && !(q.1 + 1 == i && q.2.category == 2)))) : jLoc E ls' nL (ls.set i jU) := by
  refine ⟨h'.1, by rw [List.length_set]; exact h.2.1, h'.2.1, fun k w hw hk => ?_⟩
  by_cases hki : k = i
  · subst hki
    rw [List.getElem?_set_self hi] at hw
    cases hw
    exact absurd rfl (hk 0)
  · rw [List.getElem?_set_ne (Ne.symm hki)] at hw
    obtain ⟨hs, hok⟩ := h.2.2.2 k w hw hk
    refine ⟨h'.2.2 (k, jval E w) (List.mem_cons_of_mem _ (List.mem_filter.mpr ⟨(jlv_mem ls 0 _).mpr ⟨k, w, hw, jkn_iff.mpr hk, by rw [Nat.zero_add]⟩, ?_⟩)), hok⟩
    simp only [beq_iff_eq, Bool.and_eq_true, Bool.not_eq_true', Bool.and_eq_false_iff, beq_eq_false_iff_ne, ne_eq]
    refine ⟨hki, ?_⟩
    by_cases hk1 : k + 1 = i
    · right
      subst hk1
      have e : jc2 w = false := by
        rw [List.getD_eq_getElem?_getD, List.getElem?_cons_succ, hw] at hc
        exact hc
      rcases w with z | z | z
      · simp [jval, Value.category]
      · simp [jval, Value.category]
      · cases z <;> simp_all [jval, Value.category, jc2]
    · exact Or.inl hk1
end J16
