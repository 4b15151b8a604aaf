/-! THE PRINTED MACHINE HELD AGAINST THE PURE ONE: calls, ends -/
/-- what a step makes is not taken back -/
def jle (M M1 : JM) : Prop := jcells M ≤ jcells M1 ∧ jslots M ≤ jslots M1
theorem jle_rf {M : JM} : jle M M := ⟨Nat.le_refl _, Nat.le_refl _⟩
theorem jle_tr {M M1 M2 : JM} (h : jle M M1) (k : jle M1 M2) : jle M M2 := ⟨Nat.le_trans h.1 k.1, Nat.le_trans h.2 k.2⟩
theorem jle_set {M : JM} {i k : Nat} {v : JV} : jle M (jset M i k v) := ⟨Nat.le_refl _, Nat.le_refl _⟩
theorem jle_copied {M : JM} {a b c d n : Nat} : jle M (jcopied M a b c d n) := ⟨Nat.le_refl _, Nat.le_refl _⟩
theorem jle_filled {M : JM} {i : Nat} {v : JV} : jle M (jfilled M i v) := ⟨Nat.le_refl _, Nat.le_refl _⟩
theorem jle_push {M : JM} {t n : Nat} {f : Nat → JV} : jle M (jpush M t n f) := ⟨Nat.le_add_right _ _, Nat.le_add_right _ _⟩
theorem jle_throw {M : JM} : jle M (jthrow M) := ⟨Nat.le_add_right _ _, Nat.le_add_right _ _⟩
def jleR (M : JM) (r : JR) : Prop := match r with
  | .inl (_, _, _, M1) => jle M M1
  | .inr (.inl _) => True
  | .inr (.inr (_, M1)) => jle M M1
set_option maxHeartbeats 4000000 in
theorem jstep_le {x : JI} {pc : Nat} {ls st : List JV} {M : JM} {r : JR} (hs : jstep x pc ls st M = some r) : jleR M r := by
  have hN : ∀ {pc : Nat} {ls st : List JV} {M1 : JM}, jle M M1 → jN pc ls st M1 = some r → jleR M r := fun h e => by
    cases Option.some.inj e; exact h
  have hNo : ∀ {pc : Nat} {q : Option (List JV)} {st : List JV}, jNo pc q st M = some r → jleR M r := fun {pc q st} e => by
    cases q with
    | none => cases e
    | some ls => exact hN jle_rf e
  have hF : ∀ {v : Option JV}, jF v M = some r → jleR M r := fun e => by cases Option.some.inj e; exact jle_rf
  have h1 : ∀ {x : JV} {st : List JV} {pc : Nat}, jld1 x st pc ls M = some r → jleR M r := fun {x st pc} e => by
    unfold jld1 at e; split at e
    · exact hN jle_rf e
    · cases e
  have h2 : ∀ {x : JV} {st : List JV} {pc : Nat}, jld2 x st pc ls M = some r → jleR M r := fun {x st pc} e => by
    unfold jld2 at e; split at e
    · exact hN jle_rf e
    · exact hN jle_rf e
    · cases e
  have h5 : ∀ {i pc : Nat} {st : List JV}, jst1 i st pc ls M = some r → jleR M r := fun {i pc st} e => by
    unfold jst1 at e; split at e
    · exact hNo e
    · cases e
  have h6 : ∀ {i pc : Nat} {st : List JV}, jst2 i st pc ls M = some r → jleR M r := fun {i pc st} e => by
    unfold jst2 at e; split at e
    · exact hNo e
    · exact hNo e
    · cases e
  have h7 : ∀ {cc : Bool} {t f : Nat} {st : List JV}, jbr cc t f ls st M = some r → jleR M r := fun {cc t f st} e => by
    unfold jbr at e; split at e
    · exact hN jle_rf e
    · exact hN jle_rf e
  have h8 : ∀ {t i pc : Nat} {k : Int} {st : List JV}, jread t i k pc ls st M = some r → jleR M r := fun {t i pc k st} e => by
    unfold jread at e; split at e
    · split at e
      · exact hN jle_rf e
      · cases e
    · cases e
  have h9 : ∀ {t i pc : Nat} {k : Int} {v : JV} {st : List JV}, jwrite t i k v pc ls st M = some r → jleR M r := fun {t i pc k v st} e => by
    unfold jwrite at e; split at e
    · split at e
      · exact hN jle_set e
      · cases e
    · cases e
  have h10 : ∀ {y n : Nat} {virt recv : Bool}, jcall y n virt recv ls st M = some r → jleR M r := fun {y n virt recv} e => by
    unfold jcall at e
    dsimp only at e
    generalize (if recv = true then n + 1 else n) = k0 at e
    split at e
    · split at e
      · split at e
        · cases Option.some.inj e; trivial
        · cases e
      · cases e
      · cases Option.some.inj e; trivial
    · cases e
  have h11 : jcopy pc ls st M = some r → jleR M r := fun e => by
    unfold jcopy at e
    split at e
    · split at e
      · split at e
        · exact hN jle_copied e
        · cases e
      · cases e
    · cases e
  have h12 : jclone pc ls st M = some r → jleR M r := fun e => by
    unfold jclone at e
    split at e
    · split at e
      · split at e
        · exact hN jle_push e
        · cases e
      · cases e
    · cases e
  have h13 : jfill pc ls st M = some r → jleR M r := fun e => by
    unfold jfill at e
    split at e
    · split at e
      · split at e
        · exact hN jle_filled e
        · cases e
      · cases e
    · cases e
  have h14 : jsame pc ls st M = some r → jleR M r := fun e => by
    unfold jsame at e
    split at e
    · split at e
      · exact hN jle_rf e
      · cases e
    · cases e
  obtain ⟨ins, len, a, b, w⟩ := x
  unfold jstep at hs
  dsimp only at hs
  repeat' (split at hs)
  all_goals first
    | exact h1 hs
    | exact h2 hs
    | exact h5 hs
    | exact h6 hs
    | exact h7 hs
    | exact h8 hs
    | exact h9 hs
    | exact h10 hs
    | exact h11 hs
    | exact h12 hs
    | exact h13 hs
    | exact h14 hs
    | exact hNo hs
    | exact hF hs
    | exact hN jle_rf hs
    | exact hN jle_set hs
    | exact hN jle_push hs
    | (cases Option.some.inj hs; exact jle_throw)
    | (cases hs; done)
theorem jrun_le : ∀ {n mi pc : Nat} {ls st : List JV} {M : JM} {o : JO} {M1 : JM}, jrun n mi pc ls st M = some (o, M1) → jle M M1 := by
  intro n
  induction n with
  | zero => intro mi pc ls st M o M1 h; cases h
  | succ n ih =>
    intro mi pc ls st M o M1 h
    rw [jrun] at h
    split at h
    · cases h
    · split at h
      · cases h
      · rename_i hj
        have := jstep_le hj
        exact jle_tr this (ih h)
      · rename_i hj
        have := jstep_le hj
        cases Option.some.inj h
        exact this
      · rename_i hj
        split at h
        · cases h
        · rename_i hy
          exact jle_tr (ih hy) (ih h)
        · rename_i hy
          cases Option.some.inj h
          exact ih hy
/-- a method's contract at one run of the pure machine that ends without a throw -/
def jPc (E : JE) (M : JM) (as : List JV) : Array Value → State → Prop := va_Pc (as.map (jval E)) fun U => jFx E U U.heap ∧ jRel E M U.heap ∧ ∀ v ∈ as, jok v ∧ jc2 v = false
def jQc (E : JE) (M1 : JM) (v : Option JV) : Array Value → State → Outcome → State → Prop := fun _ st oc t =>
  (oc = .returned (v.map (jval E)) ∧ (∀ x, v = some x → jok x) ∧ jRel E M1 t.heap) ∧ va_F (jA E) st t
def jcw1 (y : Nat) : Cond := .code (jnm y) (jmb y) (jmaxL y) (jrt y)
def jws (y : Nat) : List Cond := jcw1 y :: jgood
def jrm (y : Nat) (M M1 : JM) : Room := { frames := jht y, cells := jcells M1 - jcells M, slots := jslots M1 - jslots M, locals := 33 * jht y }
def jMet (l : Launch) (n y : Nat) : Prop := ∀ (E : JE) (as : List JV) (M M1 : JM) (v : Option JV), jrun n y 0 (jargs y as) [] M = some (.inl v, M1) → as.length ≤ jmaxL y →
  Met l (jnm y) (jws y) (jrm y M M1) (jPc E M as) (jQc E M1 v) (jcells M1 - jcells M) (jslots M1 - jslots M) (jA E)
theorem jPc_blind {E : JE} {M : JM} {as : List JV} : FrameBlind (jPc E M as) := by
  intro a U g mk h
  exact ⟨h.1, jFx_warm (U := U.calling g mk a) (State.WarmedH.refl U) h.2.1, h.2.2.1, h.2.2.2⟩
theorem jok_kn {v : JV} (h : jok v) : jkn v = true := jkn_ok h
section J16
variable {E : JE} {mi : Nat} {p : Program} {l : Launch} {e : Env} {R : Room} {s : State} {m : MethodId} {args : Array Value} {below : List Frame} {meth : Method} {c : Code} {Q : State → Prop} {c0 s0 pc : Nat} {ls st : List JV} {M M1 : JM}
theorem j_keep {H : Heap} {locs : List Loc} {st₀ t T' : State} {L : List Loc} (h0 : st₀.heap = H) (e1 : T'.heap = t.heap) (hS : va_S (jA E) s.heap H locs) (hL : ∀ q ∈ L, jA E q.base) (hF : va_F (jA E) st₀ t) : va_S (jA E) s.heap T'.heap (locs ++ L) := by
  obtain ⟨hz, hk⟩ := hF
  rw [h0] at hz hk
  exact ⟨Nat.le_trans hS.1 (by rw [e1]; exact hz), fun q h1 h2 => by rw [e1, hk q (Nat.lt_of_lt_of_le h1 hS.1) h2]; exact hS.2.1 q h1 h2, fun q hq => by
      rcases List.mem_append.mp hq with h | h
      · exact hS.2.2 q h
      · exact hL q h⟩
/-- behind a call -/
theorem j_after {H : Heap} {locs : List Loc} {cells slots mc ms : Nat} {lsA : Array Slot} {st0 rest : List Value} {v : Option JV} {a : Array Value} (hr : va_Run p l e R s m args below meth c H locs cells slots mc ms (F0 m pc lsA st0) rest (jQc E M1 v a) (jA E)) (hS : va_S (jA E) s.heap H locs)
    (kk : ∀ (H1 : Heap) (locs1 : List Loc), jRel E M1 H1 → va_S (jA E) s.heap H1 locs1 → (∀ x, v = some x → jok x) → W p l e R s m args below meth c H1 locs1 (cells + mc) (slots + ms) Q (F0 m (pc + 3) lsA ((v.map (jval E)).toList ++ rest))) :
    W p l e R s m args below meth c H locs cells slots Q (F0 m pc lsA st0) := by
  intro T hT X
  obtain ⟨v1, st₀, t, T', L, h0, X', hL, e1, e2, ⟨⟨hv, hok, hR⟩, hF⟩, stp⟩ := hr T hT X
  cases hv
  obtain ⟨t2, a1, b1⟩ := kk T'.heap (locs ++ L) (by rw [e1]; exact hR) (j_keep h0 e1 hS hL hF) hok T' rfl X'
  exact ⟨t2, stp t2 a1, b1⟩
theorem j_after5 {H : Heap} {locs : List Loc} {cells slots mc ms : Nat} {lsA : Array Slot} {st0 rest : List Value} {v : Option JV} {a : Array Value} (hr : va_Run5 p l e R s m args below meth c H locs cells slots mc ms (F0 m pc lsA st0) rest (jQc E M1 v a) (jA E)) (hS : va_S (jA E) s.heap H locs)
    (kk : ∀ (H1 : Heap) (locs1 : List Loc), jRel E M1 H1 → va_S (jA E) s.heap H1 locs1 → (∀ x, v = some x → jok x) → W p l e R s m args below meth c H1 locs1 (cells + mc) (slots + ms) Q (F0 m (pc + 5) lsA ((v.map (jval E)).toList ++ rest))) :
    W p l e R s m args below meth c H locs cells slots Q (F0 m pc lsA st0) := by
  intro T hT X
  obtain ⟨v1, st₀, t, T', L, h0, X', hL, e1, e2, ⟨⟨hv, hok, hR⟩, hF⟩, stp⟩ := hr T hT X
  cases hv
  obtain ⟨t2, a1, b1⟩ := kk T'.heap (locs ++ L) (by rw [e1]; exact hR) (j_keep h0 e1 hS hL hF) hok T' rfl X'
  exact ⟨t2, stp t2 a1, b1⟩
/-- the words of a callee -/
theorem jws_warm {y : Nat} (hy : jcw1 y ∈ jgood) (C : jCtx E mi p l s m args meth c) : ∀ w ∈ jws y, ∀ (a' : Array Value) (U : State), s.WarmedH U.vm → w.before a' U = true := by
  intro w hw a' U hW
  have hg : w ∈ jgood := (List.mem_cons.mp hw).elim (fun q => q ▸ hy) id
  exact word_at hW (good_of_word (List.mem_filter.mp hg).2) (C.2.2.2.2.1 w hg)
theorem jPc_at {H : Heap} {as : List JV} {lsA : Array Slot} {locs : List Loc} (C : jCtx E mi p l s m args meth c) (I : jInv E mi s lsA H locs ls st M) (ha : ∀ v ∈ as, jok v ∧ jc2 v = false) : ∀ U : State, U.heap = H → s.WarmedH U.vm → jPc E M as (as.map (jval E)).toArray U := by
  intro U hU hW
  refine ⟨rfl, ?_, by rw [hU]; exact I.2.1, ha⟩
  rw [hU]
  exact jFx_kept I.2.2.2.2.1 I.2.2.2.1 (jFx_warm hW C.2.2.2.2.2.1)
end J16
