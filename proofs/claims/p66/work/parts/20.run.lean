/-! THE PRINTED MACHINE HELD AGAINST THE PURE ONE: ends, all methods' contracts -/
set_option maxHeartbeats 4000000 in
theorem jstep_fin {x : JI} {pc : Nat} {ls st : List JV} {M : JM} {y : JO × JM} (hs : jstep x pc ls st M = some (.inr (.inr y))) :
    x.1 = .ireturn ∨ x.1 = .areturn ∨ x.1 = .return_ ∨ x.1 = .nop ∨ ∃ n, x.1 = .new n := by
  have hN : ∀ {pc : Nat} {ls st : List JV} {M1 : JM}, jN pc ls st M1 = some (.inr (.inr y)) → False := fun e => by cases Option.some.inj e
  have hNo : ∀ {pc : Nat} {q : Option (List JV)} {st : List JV}, jNo pc q st M = some (.inr (.inr y)) → False := fun {pc q st} e => by
    cases q with
    | none => cases e
    | some ls => exact hN e
  have h1 : ∀ {x : JV} {st : List JV} {pc : Nat}, jld1 x st pc ls M = some (.inr (.inr y)) → False := fun {x st pc} e => by
    unfold jld1 at e; split at e
    · exact hN e
    · cases e
  have h2 : ∀ {x : JV} {st : List JV} {pc : Nat}, jld2 x st pc ls M = some (.inr (.inr y)) → False := fun {x st pc} e => by
    unfold jld2 at e; split at e
    · exact hN e
    · exact hN e
    · cases e
  have h5 : ∀ {i pc : Nat} {st : List JV}, jst1 i st pc ls M = some (.inr (.inr y)) → False := fun {i pc st} e => by
    unfold jst1 at e; split at e
    · exact hNo e
    · cases e
  have h6 : ∀ {i pc : Nat} {st : List JV}, jst2 i st pc ls M = some (.inr (.inr y)) → False := fun {i pc st} e => by
    unfold jst2 at e; split at e
    · exact hNo e
    · exact hNo e
    · cases e
  have h7 : ∀ {cc : Bool} {t f : Nat} {st : List JV}, jbr cc t f ls st M = some (.inr (.inr y)) → False := fun {cc t f st} e => by
    unfold jbr at e; split at e
    · exact hN e
    · exact hN e
  have h8 : ∀ {t i pc : Nat} {k : Int} {st : List JV}, jread t i k pc ls st M = some (.inr (.inr y)) → False := fun {t i pc k st} e => by
    unfold jread at e; split at e
    · split at e
      · exact hN e
      · cases e
    · cases e
  have h9 : ∀ {t i pc : Nat} {k : Int} {v : JV} {st : List JV}, jwrite t i k v pc ls st M = some (.inr (.inr y)) → False := fun {t i pc k v st} e => by
    unfold jwrite at e; split at e
    · split at e
      · exact hN e
      · cases e
    · cases e
  have h10 : ∀ {y9 n9 : Nat} {virt recv : Bool}, jcall y9 n9 virt recv ls st M = some (.inr (.inr y)) → False := fun {y9 n9 virt recv} e => by
    unfold jcall at e
    dsimp only at e
    generalize (if recv = true then n9 + 1 else n9) = k0 at e
    split at e
    · split at e
      · split at e <;> cases e
      · cases e
      · cases e
    · cases e
  have h11 : jcopy pc ls st M = some (.inr (.inr y)) → False := fun e => by
    unfold jcopy at e
    repeat' (split at e)
    all_goals first | exact hN e | (cases e; done)
  have h12 : jclone pc ls st M = some (.inr (.inr y)) → False := fun e => by
    unfold jclone at e
    repeat' (split at e)
    all_goals first | exact hN e | (cases e; done)
  have h13 : jfill pc ls st M = some (.inr (.inr y)) → False := fun e => by
    unfold jfill at e
    repeat' (split at e)
    all_goals first | exact hN e | (cases e; done)
  have h14 : jsame pc ls st M = some (.inr (.inr y)) → False := fun e => by
    unfold jsame at e
    repeat' (split at e)
    all_goals first | exact hN e | (cases e; done)
  obtain ⟨ins, len, a, b, w⟩ := x
  cases ins
  case ireturn => exact Or.inl rfl
  case areturn => exact Or.inr (Or.inl rfl)
  case return_ => exact Or.inr (Or.inr (Or.inl rfl))
  case nop => exact Or.inr (Or.inr (Or.inr (Or.inl rfl)))
  case new n => exact Or.inr (Or.inr (Or.inr (Or.inr ⟨n, rfl⟩)))
  all_goals
    exfalso
    unfold jstep at hs
    dsimp only at hs
    repeat' (split at hs)
    all_goals first
      | exact h1 hs
      | exact h2 hs
      | exact h5 hs
      | exact h6 hs
      | exact h7 hs
      | exact h8 hs
      | exact h9 hs
      | exact h10 hs
      | exact h11 hs
      | exact h12 hs
      | exact h13 hs
      | exact h14 hs
      | exact hNo hs
      | exact hN hs
      | (cases Option.some.inj hs; done)
      | (cases hs; done)
theorem jbyte_n {z : Int} (h : -128 ≤ z ∧ z ≤ 127) : narrow .byte (.int (Int32.ofInt z)) = .int (Int32.ofInt z) := by
  show Value.int (Int32.ofInt z).toInt8.toInt32 = _
  congr 1
  apply Int32.toInt_inj.mp
  rw [Int8.toInt_toInt32, Int32.toInt_toInt8, jofi (by omega), Int.bmod_eq_of_le (by omega) (by omega)]
theorem jchar_n {z : Int} (h : 0 ≤ z ∧ z ≤ 65535) : narrow .char (.int (Int32.ofInt z)) = .int (Int32.ofInt z) := by
  obtain ⟨q, rfl⟩ := Int.eq_ofNat_of_zero_le h.1
  rw [Int32.ofInt_eq_ofNat]
  exact (pk_charN (q := q) (by omega)).1
theorem jret_ty {rt : Option FieldType} {a pc len b w ht : Nat} {z : Int} {y : MethodName} (f2 : okL y ht rt (pc, .ireturn, len, a, b, w) = true) (hz : jret a z = true) : ∃ ty, rt = some ty ∧ narrow ty (.int (Int32.ofInt z)) = .int (Int32.ofInt z) :=
  match a, f2, hz with
  | 0, f2, _ => ⟨.int, of_decide_eq_true f2, rfl⟩
  | 1, f2, hz => ⟨.boolean, of_decide_eq_true f2, by
      simp only [jret, Bool.or_eq_true, beq_iff_eq] at hz
      rcases hz with rfl | rfl <;> decide +kernel⟩
  | 2, f2, hz => ⟨.byte, of_decide_eq_true f2, jbyte_n (of_decide_eq_true hz)⟩
  | _ + 3, f2, hz => ⟨.char, of_decide_eq_true f2, jchar_n (of_decide_eq_true hz)⟩
section J20
variable {E : JE} {mi : Nat} {p : Program} {l : Launch} {e : Env} {R : Room} {s : State} {m : MethodId} {args : Array Value} {below : List Frame} {meth : Method} {c : Code} {Q : State → Prop} {c0 s0 : Nat}
/-- a return -/
theorem j_ret {Mf : JM} {pc : Nat} {ls st : List JV} {x : JI} {M : JM} {v : Option JV} (C : jCtx E mi p l s m args meth c) (hr : meth.sig.returnType = jrt mi) (hM : okM (jmeths.getD mi jm0) = true) (hX : okX (jmeths.getD mi jm0) = true) (hx : jcode mi pc = some x) (hs : jstep x pc ls st M = some (.inr (.inr (.inl v, Mf)))) :
    jGo E mi p l e R s m args below meth c (MQ below (jQc E Mf v) args s (jcells Mf - c0) (jslots Mf - s0) (jA E)) c0 s0 pc ls st M := by
  obtain ⟨f1, f2, f3⟩ := jfacts hM hX hx
  have hlk := C.2.2.2.2.2.2.1
  intro lsA H locs I
  have fin : ∀ (v1 : Option JV), v = v1 → (∀ x, v1 = some x → jok x) → M = Mf → ∀ t : State, t.heap = H → s.WarmedH t.vm → jQc E Mf v args s (.returned (v1.map (jval E))) t := by
    intro v1 h1 h2 h3 t ht _
    subst h1 h3
    exact ⟨⟨rfl, h2, by rw [ht]; exact I.2.1⟩, I.2.2.2.F ht⟩
  rcases jstep_fin hs with hi | hi | hi | hi | ⟨n, hi⟩
  · obtain ⟨ins, len, a, b, w⟩ := x
    dsimp only at hi
    subst hi
    have hl : len = 1 := of_decide_eq_true f3
    subst hl
    unfold jstep at hs
    dsimp only at hs
    split at hs
    · rename_i z
      split at hs
      · rename_i hz
        unfold jF at hs
        cases Option.some.inj hs
        have hok : jok (.inl z) := I.hd.1
        obtain ⟨ty, hty, hn⟩ := jret_ty f2 hz
        exact W.zret C.1 C.2.1 (hr.trans hty) hn (fin (some (.inl z)) rfl (fun y hy => by cases hy; exact hok) rfl) I.2.2.2.2.2 f1 hlk
      · cases hs
    · cases hs
  · obtain ⟨ins, len, a, b, w⟩ := x
    dsimp only at hi
    subst hi
    have hl : len = 1 := of_decide_eq_true f3
    subst hl
    have e2 : (match jrt mi with | some (.object _) => true | some (.array _) => true | _ => false) = true := f2
    have hrt : ∃ q, jrt mi = some q ∧ ((∃ n, q = .object n) ∨ ∃ t, q = .array t) := by
      split at e2
      · rename_i q hq
        exact ⟨_, hq, Or.inl ⟨q, rfl⟩⟩
      · rename_i q hq
        exact ⟨_, hq, Or.inr ⟨q, rfl⟩⟩
      · cases e2
    obtain ⟨q, hq, hq2⟩ := hrt
    unfold jstep at hs
    dsimp only at hs
    split at hs
    · rename_i z
      unfold jF at hs
      cases Option.some.inj hs
      exact W.aret C.1 C.2.1 (hr.trans hq) hq2 (Or.inr ⟨_, rfl⟩) (fin (some (.inr (.inl z))) rfl (fun y hy => by cases hy; trivial) rfl) I.2.2.2.2.2 f1 hlk
    · unfold jF at hs
      cases Option.some.inj hs
      exact W.aret C.1 C.2.1 (hr.trans hq) hq2 (Or.inl rfl) (fin (some (.inr (.inr .null))) rfl (fun y hy => by cases hy; trivial) rfl) I.2.2.2.2.2 f1 hlk
    · cases hs
  · obtain ⟨ins, len, a, b, w⟩ := x
    dsimp only at hi
    subst hi
    have hl : len = 1 := of_decide_eq_true f3
    subst hl
    unfold jstep at hs
    dsimp only at hs
    split at hs
    · rename_i hst
      subst hst
      unfold jF at hs
      cases Option.some.inj hs
      exact W.vret C.1 C.2.1 (hr.trans (of_decide_eq_true f2)) (fin none rfl (fun y hy => by cases hy) rfl) I.2.2.2.2.2 f1 hlk
    · cases hs
  · obtain ⟨ins, len, a, b, w⟩ := x
    dsimp only at hi
    subst hi
    cases f3
  · obtain ⟨ins, len, a, b, w⟩ := x
    dsimp only at hi
    subst hi
    unfold jstep at hs
    dsimp only at hs
    split at hs
    · split at hs
      · cases Option.some.inj hs
      · cases hs
    · split at hs
      · cases Option.some.inj hs
      · cases hs
end J20
