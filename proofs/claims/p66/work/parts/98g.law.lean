/-! THE FIRST MEMORY: a table of the cells that the constructors make -/
abbrev TR : Type := (Nat × Nat × Nat) × List (Nat × JV)
abbrev TS : Type := (Nat × List JV × List JV × Nat × List TR) ⊕ ((Nat × List JV × List JV) ⊕ Option JV)
def tdf (t d j : Nat) : JV := if d = 0 then .inl 0 else if d = 1 then jX .null else if d = 2 then jX (.long 0) else if d = 3 then jX (.double 0) else jdef t j
def trow (r : TR) (j : Nat) : JV := match r.2.lookup j with
  | some v => v
  | none => tdf r.1.1 r.1.2.2 j
def tcont : List TR → Nat → Nat → JV
  | [], _, _ => .inl 0
  | r :: rs, a, j => if a = rs.length then trow r j else tcont rs a j
def tslots : List TR → Nat
  | [] => 0
  | r :: rs => tslots rs + r.1.2.1
def tput : List TR → Nat → Nat → JV → List TR
  | [], _, _, _ => []
  | r :: rs, 0, j, v => (r.1, (j, v) :: r.2) :: rs
  | r :: rs, p + 1, j, v => r :: tput rs p j v
def tnth : List TR → Nat → Option TR
  | [], _ => none
  | r :: _, 0 => some r
  | _ :: rs, p + 1 => tnth rs p
def tsh (r : TR) : Nat × Nat := (r.1.1, r.1.2.1)
abbrev JE1 : Type := Nat × (Nat → Int)
def tmem (E : JE1) (rows : List TR) : JM := ((rows.map tsh).reverse, tcont rows, rows.length, tslots rows, true, E)
section T84
variable {E : JE1} {rows : List TR} {r : TR} {i j k p : Nat} {v : JV}
theorem tnth_e : ∀ (rows : List TR) (p : Nat), tnth rows p = rows[p]? := by
  intro rows
  induction rows with
  | nil => intro p; rfl
  | cons r rs ih => intro p; cases p with
    | zero => rfl
    | succ p => exact ih p
theorem tmem_sh (hi : i < rows.length) : jsh (tmem E rows) i = (tnth rows (rows.length - 1 - i)).map tsh := by
  show ((rows.map tsh).reverse)[i]? = _
  rw [List.getElem?_reverse (by rw [List.length_map]; exact hi), List.length_map, List.getElem?_map, tnth_e]
theorem tput_len : ∀ (rows : List TR) (p : Nat), (tput rows p j v).length = rows.length := by
  intro rows
  induction rows with
  | nil => intro p; rfl
  | cons r rs ih => intro p; cases p with
    | zero => rfl
    | succ p => exact congrArg (· + 1) (ih p)
theorem tput_sh : ∀ (rows : List TR) (p : Nat), (tput rows p j v).map tsh = rows.map tsh := by
  intro rows
  induction rows with
  | nil => intro p; rfl
  | cons r rs ih => intro p; cases p with
    | zero => rfl
    | succ p => exact congrArg (tsh r :: ·) (ih p)
theorem tput_sl : ∀ (rows : List TR) (p : Nat), tslots (tput rows p j v) = tslots rows := by
  intro rows
  induction rows with
  | nil => intro p; rfl
  | cons r rs ih => intro p; cases p with
    | zero => rfl
    | succ p =>
      show tslots (tput rs p j v) + r.1.2.1 = tslots rs + r.1.2.1
      rw [ih p]
theorem trow_put {b : Nat} : trow (r.1, (j, v) :: r.2) b = if b = j then v else trow r b := by
  unfold trow
  rw [List.lookup_cons]
  by_cases q : b = j
  · rw [if_pos q, show (b == j) = true by simpa using q]
  · rw [if_neg q, show (b == j) = false by simpa using q]
theorem tcont_ge : ∀ (rows : List TR) (a b : Nat), rows.length ≤ a → tcont rows a b = .inl 0 := by
  intro rows
  induction rows with
  | nil => intro a b h; rfl
  | cons r rs ih =>
    intro a b h
    rw [List.length_cons] at h
    rw [tcont, if_neg (by omega)]
    exact ih a b (by omega)
theorem tcont_put : ∀ (rows : List TR) (i p : Nat), i + p + 1 = rows.length → ∀ a b, tcont (tput rows p j v) a b = if a = i ∧ b = j then v else tcont rows a b := by
  intro rows
  induction rows with
  | nil => intro i p h; cases h
  | cons r rs ih =>
    intro i p h a b
    rw [List.length_cons] at h
    cases p with
    | zero =>
      rw [tput, tcont, tcont, trow_put]
      by_cases q : a = rs.length
      · rw [if_pos q, if_pos q]
        by_cases q2 : b = j
        · rw [if_pos q2, if_pos ⟨by omega, q2⟩]
        · rw [if_neg q2, if_neg (fun g => q2 g.2)]
      · rw [if_neg q, if_neg q, if_neg (fun g => q (by omega))]
    | succ p =>
      rw [tput, tcont, tcont, tput_len, ih i p (by omega)]
      by_cases q : a = rs.length
      · rw [if_pos q, if_pos q, if_neg (fun g => by omega)]
      · rw [if_neg q, if_neg q]
theorem tcont_at : ∀ (rows : List TR) (i p : Nat) (r : TR), i + p + 1 = rows.length → tnth rows p = some r → ∀ b, tcont rows i b = trow r b := by
  intro rows
  induction rows with
  | nil => intro i p r h; cases h
  | cons r0 rs ih =>
    intro i p r h hn b
    rw [List.length_cons] at h
    cases p with
    | zero =>
      rw [tnth] at hn
      cases hn
      rw [tcont, if_pos (by omega)]
    | succ p =>
      rw [tnth] at hn
      rw [tcont, if_neg (by omega)]
      exact ih i p r (by omega) hn b
theorem tmem_set (hi : i + p + 1 = rows.length) : jset (tmem E rows) i j v = tmem E (tput rows p j v) := by
  have e : (fun a b => if a = i ∧ b = j then v else tcont rows a b) = tcont (tput rows p j v) := funext fun a => funext fun b => (tcont_put rows i p hi a b).symm
  show (_, (fun a b => if a = i ∧ b = j then v else tcont rows a b), _) = _
  rw [e]
  unfold tmem
  rw [tput_sh, tput_sl, tput_len]
theorem tmem_push {t n d : Nat} {f : Nat → JV} (hf : f = tdf t d) : jpush (tmem E rows) t n f = tmem E (((t, n, d), []) :: rows) := by
  subst hf
  have e : (fun a j => if a = (rows.map tsh).reverse.length then tdf t d j else tcont rows a j) = tcont (((t, n, d), []) :: rows) := by
    funext a j
    rw [tcont, List.length_reverse, List.length_map]
    rfl
  show (_, (fun a j => if a = (rows.map tsh).reverse.length then tdf t d j else tcont rows a j), _) = _
  rw [e]
  unfold tmem
  rw [List.map_cons, List.reverse_cons]
  rfl
end T84
def tnx (pc : Nat) (ls st : List JV) (k : Nat) (rows : List TR) : Option TS := some (.inl (pc, ls, st, k, rows))
def tnxo (pc : Nat) (o : Option (List JV)) (st : List JV) (k : Nat) (rows : List TR) : Option TS := match o with
  | some ls => tnx pc ls st k rows
  | none => none
def tstep (ins : Jvm.ClassFile.Instr) (a b pc : Nat) (ls st : List JV) (k : Nat) (rows : List TR) : Option TS := match ins with
  | .aload_n i => (match jld ls i with | .inr (.inl z) => tnx (pc + 1) ls (.inr (.inl z) :: st) k rows | _ => none)
  | .iload_n i => (match jld ls i with | .inl z => tnx (pc + 1) ls (.inl z :: st) k rows | _ => none)
  | .istore_n i => (match st with | .inl z :: r => tnxo (pc + 1) (jsto ls i (.inl z)) r k rows | _ => none)
  | .istore i => (match st with | .inl z :: r => tnxo (pc + 2) (jsto ls i (.inl z)) r k rows | _ => none)
  | .astore_n i => (match st with | .inr (.inl z) :: r => tnxo (pc + 1) (jsto ls i (.inr (.inl z))) r k rows | _ => none)
  | .astore i => (match st with | .inr (.inl z) :: r => tnxo (pc + 2) (jsto ls i (.inr (.inl z))) r k rows | _ => none)
  | .iconst n => tnx (pc + 1) ls (jI n :: st) k rows
  | .bipush n => tnx (pc + 2) ls (jI n :: st) k rows
  | .sipush n => tnx (pc + 3) ls (jI n :: st) k rows
  | .dup => (match st with | v :: r => if jc2 v = false then tnx (pc + 1) ls (v :: v :: r) k rows else none | _ => none)
  | .goto _ => tnx a ls st k rows
  | .if_icmp c _ => (match st with | .inl y :: .inl x :: r => if jcond c x y = true then tnx a ls r k rows else tnx (pc + 3) ls r k rows | _ => none)
  | .iinc i n => (match jld ls i with | .inl z => tnxo (pc + 3) (jsto ls i (.inl (wr (z + n)))) st k rows | _ => none)
  | .putfield _ => (match st with
    | v :: .inr (.inl i) :: r => if i < k ∧ k ≤ 1000000 then (match tnth rows (k - 1 - i) with | some q => if q.1.1 = a % 100 ∧ b < q.1.2.1 ∧ jfit (a / 100) v = true then tnx (pc + 3) ls r k (tput rows (k - 1 - i) b v) else none | none => none) else none
    | _ => none)
  | .getfield _ => (match st with
    | .inr (.inl i) :: r => if i < k ∧ k ≤ 1000000 then (match tnth rows (k - 1 - i) with | some q => if q.1.1 = a % 100 ∧ b < q.1.2.1 then tnx (pc + 3) ls (trow q b :: r) k rows else none | none => none) else none
    | _ => none)
  | .aastore => (match st with
    | .inr (.inl j) :: .inl z :: .inr (.inl i) :: r => if i < k ∧ j < k ∧ k ≤ 1000000 then (match tnth rows (k - 1 - i), tnth rows (k - 1 - j) with
      | some q, some q2 => if q.1.1 = 105 + q2.1.1 ∧ q2.1.1 < 13 ∧ 0 ≤ z ∧ z.toNat < q.1.2.1 then tnx (pc + 1) ls r k (tput rows (k - 1 - i) z.toNat (.inr (.inl j))) else none
      | _, _ => none) else none
    | _ => none)
  | .new _ => if a < 100 ∧ k < 1000000 then tnx (pc + 3) ls (jR k :: st) (k + 1) (((a, (jfields a).length, 4), []) :: rows) else none
  | .newarray _ => (match st with
    | .inl z :: r => if k < 1000000 ∧ 0 ≤ z ∧ z < 60000000 then tnx (pc + 2) ls (jR k :: r) (k + 1) (((a, z.toNat, if a = 103 then 2 else if a = 104 then 3 else 0), []) :: rows) else none
    | _ => none)
  | .anewarray _ => (match st with
    | .inl z :: r => if k < 1000000 ∧ 0 ≤ z ∧ z < 60000000 then tnx (pc + 3) ls (jR k :: r) (k + 1) (((a, z.toNat, 1), []) :: rows) else none
    | _ => none)
  | .invokestatic _ => if 8000 ≤ a then none else (match jcall a b false false ls st (tmem (0, fun _ => 0) []) with | some (.inr (.inl c)) => some (.inr (.inl c)) | _ => none)
  | .invokespecial _ => if jsup a = true then none else (match jcall a (b % 100) false true ls st (tmem (0, fun _ => 0) []) with | some (.inr (.inl c)) => some (.inr (.inl c)) | _ => none)
  | .ireturn => (match st with | [.inl z] => if jret a z = true then some (.inr (.inr (some (.inl z)))) else none | _ => none)
  | .return_ => if st = [] then some (.inr (.inr none)) else none
  | _ => none
def tconv (E : JE1) (rows : List TR) : TS → JR
  | .inl (pc, ls, st, _, rows') => .inl (pc, ls, st, tmem E rows')
  | .inr (.inl c) => .inr (.inl c)
  | .inr (.inr o) => .inr (.inr (.inl o, tmem E rows))
def tinv : TS → Prop
  | .inl (_, _, _, k, rows) => k = rows.length
  | _ => True
section S84
variable {E : JE1} {rows : List TR} {a b pc k len w : Nat} {ls st : List JV} {r : TS}
theorem tnxo_ok {pc1 : Nat} {o : Option (List JV)} {st1 : List JV} {rows1 : List TR} (hk : k = rows1.length) (h : tnxo pc1 o st1 k rows1 = some r) : jNo pc1 o st1 (tmem E rows1) = some (tconv E rows r) ∧ tinv r := by
  cases o with
  | none => cases h
  | some l =>
    cases h
    exact ⟨rfl, hk⟩
theorem jcall_M {y n : Nat} {recv : Bool} {M M' : JM} : jcall y n false recv ls st M = jcall y n false recv ls st M' := by
  unfold jcall
  simp only [true_or, if_true]
theorem tcall_ok {y n : Nat} {recv : Bool} (h : (match jcall y n false recv ls st (tmem (0, fun _ => 0) []) with | some (.inr (.inl c)) => some (.inr (.inl c)) | _ => none) = some r) : jcall y n false recv ls st (tmem E rows) = some (tconv E rows r) ∧ tinv r := by
  rw [jcall_M (M' := tmem (0, fun _ => 0) [])]
  split at h
  · rename_i c hc
    cases h
    exact ⟨hc, trivial⟩
  · cases h
theorem tstep_ok {ins : Jvm.ClassFile.Instr} (hk : k = rows.length) (h : tstep ins a b pc ls st k rows = some r) : jstep (ins, len, a, b, w) pc ls st (tmem E rows) = some (tconv E rows r) ∧ tinv r := by
  cases ins with
  | aload_n i =>
    dsimp only [tstep] at h
    show jld2 (jld ls i) st (pc + 1) ls (tmem E rows) = _ ∧ _
    split at h
    · rename_i z hz
      cases h
      rw [hz]
      exact ⟨rfl, hk⟩
    · cases h
  | iload_n i =>
    dsimp only [tstep] at h
    show jld1 (jld ls i) st (pc + 1) ls (tmem E rows) = _ ∧ _
    split at h
    · rename_i z hz
      cases h
      rw [hz]
      exact ⟨rfl, hk⟩
    · cases h
  | istore_n i =>
    dsimp only [tstep] at h
    split at h
    · exact tnxo_ok hk h
    · cases h
  | istore i =>
    dsimp only [tstep] at h
    split at h
    · exact tnxo_ok hk h
    · cases h
  | astore_n i =>
    dsimp only [tstep] at h
    split at h
    · exact tnxo_ok hk h
    · cases h
  | astore i =>
    dsimp only [tstep] at h
    split at h
    · exact tnxo_ok hk h
    · cases h
  | iconst n =>
    cases h
    exact ⟨rfl, hk⟩
  | bipush n =>
    cases h
    exact ⟨rfl, hk⟩
  | sipush n =>
    cases h
    exact ⟨rfl, hk⟩
  | dup =>
    dsimp only [tstep] at h
    split at h
    · rename_i v r0
      split at h
      · rename_i g
        cases h
        exact ⟨if_pos g, hk⟩
      · cases h
    · cases h
  | goto o =>
    cases h
    exact ⟨rfl, hk⟩
  | if_icmp c o =>
    dsimp only [tstep] at h
    split at h
    · rename_i y x r0
      show jbr (jcond c x y) a (pc + 3) ls r0 (tmem E rows) = _ ∧ _
      unfold jbr
      split at h
      · rename_i g
        cases h
        rw [if_pos g]
        exact ⟨rfl, hk⟩
      · rename_i g
        cases h
        rw [if_neg g]
        exact ⟨rfl, hk⟩
    · cases h
  | iinc i n =>
    dsimp only [tstep] at h
    split at h
    · rename_i z hz
      show (match jld ls i with | .inl z => jNo (pc + 3) (jsto ls i (.inl (wr (z + n)))) st (tmem E rows) | _ => none) = _ ∧ _
      rw [hz]
      exact tnxo_ok hk h
    · cases h
  | putfield o =>
    dsimp only [tstep] at h
    split at h
    · rename_i v i r0
      split at h
      · rename_i g
        split at h
        · rename_i q hq
          split at h
          · rename_i g2
            cases h
            show (match jsh (tmem E rows) i with | some (t, n) => if i < 1000000 ∧ t = a % 100 ∧ b < n ∧ jfit (a / 100) v = true then jN (pc + 3) ls r0 (jset (tmem E rows) i b v) else none | none => none) = _ ∧ _
            rw [tmem_sh (by omega), ← hk, hq]
            dsimp only [Option.map, tsh]
            rw [if_pos ⟨by omega, g2⟩, tmem_set (p := k - 1 - i) (by omega)]
            exact ⟨rfl, by rw [hk]; exact (tput_len ..).symm⟩
          · cases h
        · cases h
      · cases h
    · cases h
  | getfield o =>
    dsimp only [tstep] at h
    split at h
    · rename_i i r0
      split at h
      · rename_i g
        split at h
        · rename_i q hq
          split at h
          · rename_i g2
            cases h
            show (if a = 15 ∧ 2000000 ≤ i ∧ i < 2000014 then _ else (match jsh (tmem E rows) i with | some (t, n) => if i < 1000000 ∧ t = a % 100 ∧ b < n then jN (pc + 3) ls (jget (tmem E rows) i b :: r0) (tmem E rows) else none | none => none)) = _ ∧ _
            rw [if_neg (by omega), tmem_sh (by omega), ← hk, hq]
            dsimp only [Option.map, tsh]
            rw [if_pos ⟨by omega, g2⟩, show jget (tmem E rows) i b = trow q b from tcont_at rows i (k - 1 - i) q (by omega) hq b]
            exact ⟨rfl, hk⟩
          · cases h
        · cases h
      · cases h
    · cases h
  | aastore =>
    dsimp only [tstep] at h
    split at h
    · rename_i j z i r0
      split at h
      · rename_i g
        split at h
        · rename_i q q2 hq hq2
          split at h
          · rename_i g2
            cases h
            have t1 : jtag (tmem E rows) i = q.1.1 := by
              unfold jtag
              rw [if_pos (by omega), tmem_sh (by omega), ← hk, hq]
              rfl
            have t2 : jtag (tmem E rows) j = q2.1.1 := by
              unfold jtag
              rw [if_pos (by omega), tmem_sh (by omega), ← hk, hq2]
              rfl
            show (if (jtag (tmem E rows) i = 105 + jtag (tmem E rows) j ∧ jtag (tmem E rows) j < 13) ∨ (jtag (tmem E rows) i = 199 ∧ j < 1000000 ∧ (jtag (tmem E rows) j = 11 ∨ jtag (tmem E rows) j = 116)) then jwrite (jtag (tmem E rows) i) i z (.inr (.inl j)) (pc + 1) ls r0 (tmem E rows) else none) = _ ∧ _
            rw [t1, t2, if_pos (Or.inl ⟨g2.1, g2.2.1⟩)]
            unfold jwrite
            rw [tmem_sh (by omega), ← hk, hq]
            dsimp only [Option.map, tsh]
            rw [if_pos ⟨by omega, rfl, g2.2.2⟩, tmem_set (p := k - 1 - i) (by omega)]
            exact ⟨rfl, by rw [hk]; exact (tput_len ..).symm⟩
          · cases h
        · cases h
      · cases h
    · cases h
  | new o =>
    dsimp only [tstep] at h
    split at h
    · rename_i g
      cases h
      have hl : (tmem E rows).1.length = k := by
        show (rows.map tsh).reverse.length = k
        rw [List.length_reverse, List.length_map, hk]
      show (if a < 100 then (if jclean (tmem E rows) = true ∧ (tmem E rows).1.length < 1000000 then jN (pc + 3) ls (jR (tmem E rows).1.length :: st) (jpush (tmem E rows) a (jfields a).length (jdef a)) else none) else _) = _ ∧ _
      rw [if_pos g.1, hl, if_pos ⟨rfl, g.2⟩, tmem_push (d := 4) (f := jdef a) rfl]
      exact ⟨rfl, congrArg (· + 1) hk⟩
    · cases h
  | newarray o =>
    dsimp only [tstep] at h
    split at h
    · rename_i z r0
      split at h
      · rename_i g
        cases h
        have hl : (tmem E rows).1.length = k := by
          show (rows.map tsh).reverse.length = k
          rw [List.length_reverse, List.length_map, hk]
        show (if jclean (tmem E rows) = true ∧ (tmem E rows).1.length < 1000000 ∧ 0 ≤ z ∧ z < 60000000 then jN (pc + 2) ls (jR (tmem E rows).1.length :: r0) (jpush (tmem E rows) a z.toNat (fun _ => if a = 103 then jX (.long 0) else if a = 104 then jX (.double 0) else jI 0)) else none) = _ ∧ _
        rw [hl, if_pos ⟨rfl, g⟩, tmem_push (d := if a = 103 then 2 else if a = 104 then 3 else 0) (by
          funext j
          unfold tdf
          by_cases q : a = 103
          · rw [if_pos q, if_pos q]
            rfl
          · rw [if_neg q, if_neg q]
            by_cases q2 : a = 104
            · rw [if_pos q2, if_pos q2]
              rfl
            · rw [if_neg q2, if_neg q2]
              rfl)]
        exact ⟨rfl, congrArg (· + 1) hk⟩
      · cases h
    · cases h
  | anewarray o =>
    dsimp only [tstep] at h
    split at h
    · rename_i z r0
      split at h
      · rename_i g
        cases h
        have hl : (tmem E rows).1.length = k := by
          show (rows.map tsh).reverse.length = k
          rw [List.length_reverse, List.length_map, hk]
        show (if jclean (tmem E rows) = true ∧ (tmem E rows).1.length < 1000000 ∧ 0 ≤ z ∧ z < 60000000 then jN (pc + 3) ls (jR (tmem E rows).1.length :: r0) (jpush (tmem E rows) a z.toNat (fun _ => jX .null)) else none) = _ ∧ _
        rw [hl, if_pos ⟨rfl, g⟩, tmem_push (d := 1) (f := fun _ => jX .null) rfl]
        exact ⟨rfl, congrArg (· + 1) hk⟩
      · cases h
    · cases h
  | invokestatic o =>
    dsimp only [tstep] at h
    split at h
    · cases h
    · rename_i g
      show (if a = 8001 then jcopy pc ls st (tmem E rows) else if a = 8003 then jfill pc ls st (tmem E rows) else if a = 8004 then jsame pc ls st (tmem E rows) else jcall a b false false ls st (tmem E rows)) = _ ∧ _
      rw [if_neg (by omega), if_neg (by omega), if_neg (by omega)]
      exact tcall_ok h
  | invokespecial o =>
    dsimp only [tstep] at h
    split at h
    · cases h
    · rename_i g
      show jcall a (b % 100) (jsup a) true ls st (tmem E rows) = _ ∧ _
      rw [show jsup a = false from Bool.eq_false_iff.mpr g]
      exact tcall_ok h
  | ireturn =>
    dsimp only [tstep] at h
    split at h
    · rename_i z
      split at h
      · rename_i g
        cases h
        exact ⟨if_pos g, trivial⟩
      · cases h
    · cases h
  | return_ =>
    dsimp only [tstep] at h
    split at h
    · rename_i g
      cases h
      exact ⟨if_pos g, trivial⟩
    · cases h
  | _ => cases h
end S84
