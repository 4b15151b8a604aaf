/-! decoding is local: a method's code may be read by pieces -/
def DS (c1 c2 : ByteArray) (d : Nat) : Prop := c2.size + d ≤ c1.size ∧ ∀ (i : Nat) (h : i < c2.size) (h1 : i + d < c1.size), c1[i + d] = c2[i]
def Sh {α : Type} (c1 c2 : ByteArray) (d : Nat) (r1 r2 : Jvm.ClassFile.Reader Jvm.ClassFile.DecodeError α) : Prop := ∀ (p : Nat) (x : α) (q : Nat), r2 c2 p = .ok (x, q) → r1 c1 (p + d) = .ok (x, q + d)
section SH
variable {c1 c2 : ByteArray} {d : Nat}
theorem Sh_pure {α : Type} (x : α) : Sh c1 c2 d (Pure.pure x) (Pure.pure x) := by
  intro p y q h
  cases h
  rfl
theorem Sh_bind {α β : Type} {r1 r2 : Jvm.ClassFile.Reader Jvm.ClassFile.DecodeError α} {f1 f2 : α → Jvm.ClassFile.Reader Jvm.ClassFile.DecodeError β} (h : Sh c1 c2 d r1 r2) (hf : ∀ a, Sh c1 c2 d (f1 a) (f2 a)) : Sh c1 c2 d (r1 >>= f1) (r2 >>= f2) := by
  intro p y q hq
  have e2 : (r2 >>= f2) c2 p = (r2 c2 p).bind (fun z => f2 z.1 c2 z.2) := rfl
  have e1 : (r1 >>= f1) c1 (p + d) = (r1 c1 (p + d)).bind (fun z => f1 z.1 c1 z.2) := rfl
  rw [e2] at hq
  rw [e1]
  cases hr : r2 c2 p with
  | error e => rw [hr] at hq; cases hq
  | ok z =>
    rw [hr] at hq
    rw [h p z.1 z.2 hr]
    exact hf z.1 z.2 y q hq
theorem Sh_throw {α : Type} {r1 : Jvm.ClassFile.Reader Jvm.ClassFile.DecodeError α} {e : Jvm.ClassFile.DecodeError} : Sh c1 c2 d r1 (throw e) := by
  intro p y q h
  cases h
theorem u1_eq (c : ByteArray) (p : Nat) : (Jvm.ClassFile.Reader.u1 : Jvm.ClassFile.Reader Jvm.ClassFile.DecodeError Nat) c p = if h : p < c.size then .ok (c[p].toNat, p + 1) else .error (Jvm.ClassFile.HasTruncated.truncated p) := by
    have e0 : (Jvm.ClassFile.Reader.u1 : Jvm.ClassFile.Reader Jvm.ClassFile.DecodeError Nat) c p = (dite (p < c.size) (fun h => ((do set (p + 1); Pure.pure c[p].toNat) : Jvm.ClassFile.Reader Jvm.ClassFile.DecodeError Nat)) (fun _ => (throw (Jvm.ClassFile.HasTruncated.truncated p) : Jvm.ClassFile.Reader Jvm.ClassFile.DecodeError Nat))) c p := rfl
    rw [e0]
    by_cases h : p < c.size
    · rw [dif_pos h, dif_pos h]
      rfl
    · rw [dif_neg h, dif_neg h]
      rfl
theorem Sh_u1 (h : DS c1 c2 d) : Sh c1 c2 d Jvm.ClassFile.Reader.u1 Jvm.ClassFile.Reader.u1 := by
  intro p y q hq
  rw [u1_eq] at hq
  rw [u1_eq]
  split at hq
  · rename_i hp
    cases hq
    have hp1 : p + d < c1.size := by have := h.1; omega
    rw [dif_pos hp1, h.2 p hp hp1]
    congr 2
    omega
  · cases hq
theorem Sh_map {α β : Type} {r1 r2 : Jvm.ClassFile.Reader Jvm.ClassFile.DecodeError α} {f : α → β} (h : Sh c1 c2 d r1 r2) : Sh c1 c2 d (f <$> r1) (f <$> r2) := Sh_bind (f1 := fun a => Pure.pure (f a)) (f2 := fun a => Pure.pure (f a)) h fun a => Sh_pure _
theorem Sh_u2 (h : DS c1 c2 d) : Sh c1 c2 d Jvm.ClassFile.Reader.u2 Jvm.ClassFile.Reader.u2 := Sh_bind (Sh_u1 h) fun _ => Sh_bind (Sh_u1 h) fun _ => Sh_pure _
theorem Sh_u4 (h : DS c1 c2 d) : Sh c1 c2 d Jvm.ClassFile.Reader.u4 Jvm.ClassFile.Reader.u4 := Sh_bind (Sh_u2 h) fun _ => Sh_bind (Sh_u2 h) fun _ => Sh_pure _
theorem Sh_s1 (h : DS c1 c2 d) : Sh c1 c2 d Jvm.ClassFile.Reader.s1 Jvm.ClassFile.Reader.s1 := Sh_map (Sh_u1 h)
theorem Sh_s2 (h : DS c1 c2 d) : Sh c1 c2 d Jvm.ClassFile.Reader.s2 Jvm.ClassFile.Reader.s2 := Sh_map (Sh_u2 h)
theorem Sh_s4 (h : DS c1 c2 d) : Sh c1 c2 d Jvm.ClassFile.Reader.s4 Jvm.ClassFile.Reader.s4 := Sh_map (Sh_u4 h)
theorem Sh_ite {α : Type} {b : Prop} [Decidable b] {r1 r2 s1 s2 : Jvm.ClassFile.Reader Jvm.ClassFile.DecodeError α} (h1 : Sh c1 c2 d r1 r2) (h2 : Sh c1 c2 d s1 s2) : Sh c1 c2 d (if b then r1 else s1) (if b then r2 else s2) := by
  split
  · exact h1
  · exact h2
theorem Sh_padding (h : DS c1 c2 d) (h4 : d % 4 = 0) : Sh c1 c2 d Jvm.ClassFile.Decoder.padding Jvm.ClassFile.Decoder.padding := by
  have e : ∀ (c : ByteArray) (p : Nat), Jvm.ClassFile.Decoder.padding c p = if p + (4 - p % 4) % 4 ≤ c.size then .ok ((), p + (4 - p % 4) % 4) else .error (Jvm.ClassFile.HasTruncated.truncated c.size) := by
    intro c p
    have e0 : Jvm.ClassFile.Decoder.padding c p = ((ite (p + (4 - p % 4) % 4 ≤ c.size) ((do set (p + (4 - p % 4) % 4); Pure.pure (c.extract p (p + (4 - p % 4) % 4))) : Jvm.ClassFile.Reader Jvm.ClassFile.DecodeError ByteArray) (throw (Jvm.ClassFile.HasTruncated.truncated c.size) : Jvm.ClassFile.Reader Jvm.ClassFile.DecodeError ByteArray)) c p).bind (fun z => .ok ((), z.2)) := rfl
    rw [e0]
    by_cases hc : p + (4 - p % 4) % 4 ≤ c.size
    · rw [if_pos hc, if_pos hc]
      rfl
    · rw [if_neg hc, if_neg hc]
      rfl
  intro p y q hq
  rw [e] at hq ⊢
  have e2 : (p + d) % 4 = p % 4 := by omega
  rw [e2]
  split at hq
  · rename_i hp
    cases hq
    rw [if_pos (by have := h.1; omega)]
    congr 2
    omega
  · cases hq
theorem Sh_go {α : Type} {r1 r2 : Jvm.ClassFile.Reader Jvm.ClassFile.DecodeError α} (h : Sh c1 c2 d r1 r2) : ∀ (k : Nat) (acc : Array α), Sh c1 c2 d (Jvm.ClassFile.Reader.times.go r1 k acc) (Jvm.ClassFile.Reader.times.go r2 k acc) := by
  intro k
  induction k with
  | zero => intro acc; exact Sh_pure _
  | succ k ih => intro acc; exact Sh_bind h fun a => ih _
theorem Sh_tableswitch (h : DS c1 c2 d) (h4 : d % 4 = 0) (p1 p2 : Nat) : Sh c1 c2 d (Jvm.ClassFile.Decoder.tableswitch p1) (Jvm.ClassFile.Decoder.tableswitch p2) := by
  unfold Jvm.ClassFile.Decoder.tableswitch
  refine Sh_bind (Sh_padding h h4) fun _ => Sh_bind (Sh_s4 h) fun _ => Sh_bind (Sh_s4 h) fun lo => Sh_bind (Sh_s4 h) fun hi => ?_
  by_cases hl : lo ≤ hi
  · simp only [hl, not_true_eq_false, if_true, if_false]
    exact Sh_bind (Sh_go (Sh_s4 h) _ _) fun _ => Sh_pure _
  · intro p y q hq
    simp only [hl, not_false_eq_true, if_true, if_false] at hq
    cases hq
theorem Sh_newarray (h : DS c1 c2 d) (p1 p2 : Nat) : Sh c1 c2 d (Jvm.ClassFile.Decoder.newarray p1) (Jvm.ClassFile.Decoder.newarray p2) := by
  unfold Jvm.ClassFile.Decoder.newarray
  refine Sh_bind (Sh_u1 h) fun b => ?_
  split <;> first | exact Sh_pure _ | (intro p y q hq; cases hq; done)
theorem Sh_first {α : Type} {f1 f2 : Nat → Jvm.ClassFile.Reader Jvm.ClassFile.DecodeError α} {ok : Nat → Prop} (h : DS c1 c2 d) (hf : ∀ a, ok a → Sh c1 c2 d (f1 a) (f2 a)) {p q : Nat} {y : α} (hb : ∀ hp : p < c2.size, ok c2[p].toNat) (hq : (Jvm.ClassFile.Reader.u1 >>= f2) c2 p = .ok (y, q)) : (Jvm.ClassFile.Reader.u1 >>= f1) c1 (p + d) = .ok (y, q + d) := by
  have e2 : (Jvm.ClassFile.Reader.u1 >>= f2) c2 p = ((Jvm.ClassFile.Reader.u1 : Jvm.ClassFile.Reader Jvm.ClassFile.DecodeError Nat) c2 p).bind (fun z => f2 z.1 c2 z.2) := rfl
  have e1 : (Jvm.ClassFile.Reader.u1 >>= f1) c1 (p + d) = ((Jvm.ClassFile.Reader.u1 : Jvm.ClassFile.Reader Jvm.ClassFile.DecodeError Nat) c1 (p + d)).bind (fun z => f1 z.1 c1 z.2) := rfl
  rw [e2] at hq
  rw [e1]
  cases hr : (Jvm.ClassFile.Reader.u1 : Jvm.ClassFile.Reader Jvm.ClassFile.DecodeError Nat) c2 p with
  | error e => rw [hr] at hq; cases hq
  | ok z =>
    rw [hr] at hq
    rw [Sh_u1 h p z.1 z.2 hr]
    have hz : ok z.1 := by
      rw [u1_eq] at hr
      split at hr
      · rename_i hp
        have := hb hp
        cases hr
        exact this
      · cases hr
    exact hf z.1 hz z.2 y q hq
set_option maxRecDepth 100000 in
set_option maxHeartbeats 4000000 in
theorem decode_local (h : DS c1 c2 d) {p len : Nat} {i : Instr} (hb : ∀ hp : p < c2.size, (fun b : Nat => (b = 170 → d % 4 = 0) ∧ b ≠ 171 ∧ b ≠ 185 ∧ b ≠ 186 ∧ b ≠ 196 ∧ b ≠ 197) c2[p].toNat) (hd : decode c2 p = .ok (i, len)) : decode c1 (p + d) = .ok (i, len) := by
  have e : ∀ (c : ByteArray) (p : Nat), decode c p = (Jvm.ClassFile.Decoder.instr p c p).bind (fun z => .ok (z.1, z.2 - p)) := fun _ _ => rfl
  rw [e] at hd ⊢
  cases hr : Jvm.ClassFile.Decoder.instr p c2 p with
  | error e => rw [hr] at hd; cases hd
  | ok z =>
    rw [hr] at hd
    have hk : Jvm.ClassFile.Decoder.instr (p + d) c1 (p + d) = .ok (z.1, z.2 + d) := by
      unfold Jvm.ClassFile.Decoder.instr at hr ⊢
      refine Sh_first h (ok := fun b : Nat => (b = 170 → d % 4 = 0) ∧ b ≠ 171 ∧ b ≠ 185 ∧ b ≠ 186 ∧ b ≠ 196 ∧ b ≠ 197) (fun a ha => ?_) hb hr
      obtain ⟨h1, h2, h3, h4, h5, h6⟩ := ha
      intro p0 y q0 hq
      split at hq
      all_goals first
        | (cases hq; done)
        | (cases hq; rfl)
        | exact Sh_tableswitch h (h1 rfl) _ _ p0 y q0 hq
        | exact absurd rfl h2
        | exact absurd rfl h3
        | exact absurd rfl h4
        | exact absurd rfl h5
        | exact absurd rfl h6
        | exact Sh_bind (Sh_u1 h) (fun _ => Sh_pure _) p0 y q0 hq
        | exact Sh_bind (Sh_s1 h) (fun _ => Sh_pure _) p0 y q0 hq
        | exact Sh_bind (Sh_u2 h) (fun _ => Sh_pure _) p0 y q0 hq
        | exact Sh_bind (Sh_s2 h) (fun _ => Sh_pure _) p0 y q0 hq
        | exact Sh_bind (Sh_s4 h) (fun _ => Sh_pure _) p0 y q0 hq
        | exact Sh_bind (Sh_u1 h) (fun _ => Sh_bind (Sh_s1 h) (fun _ => Sh_pure _)) p0 y q0 hq
        | exact Sh_newarray h _ _ p0 y q0 hq
        | exact Sh_map (Sh_u1 h) p0 y q0 hq
        | exact Sh_map (Sh_u2 h) p0 y q0 hq
        | exact Sh_map (Sh_s2 h) p0 y q0 hq
    rw [hk]
    cases hd
    show Except.ok (z.1, z.2 + d - (p + d)) = _
    rw [Nat.add_sub_add_right]
end SH
def okDs (c2 : ByteArray) (d : Nat) (l : List (Nat × JI)) : Bool := l.all fun q => decide (d ≤ q.1) && (match c2[q.1 - d]? with | some b => (b.toNat != 170 || d % 4 == 0) && b.toNat != 171 && b.toNat != 185 && b.toNat != 186 && b.toNat != 196 && b.toNat != 197 | none => false) && (match decode c2 (q.1 - d) with | .ok r => decide (r = (q.2.1, q.2.2.1)) | .error _ => false)
theorem okD_of {c1 c2 : ByteArray} {d : Nat} {l : List (Nat × JI)} (h : DS c1 c2 d) (hk : okDs c2 d l = true) : okD c1 l = true := by
  unfold okD
  rw [List.all_eq_true]
  intro q hq
  have hk := List.all_eq_true.mp hk q hq
  rw [Bool.and_eq_true, Bool.and_eq_true] at hk
  obtain ⟨⟨k1, k2⟩, k3⟩ := hk
  have k1 := of_decide_eq_true k1
  split at k3
  · rename_i r hr
    have hb : ∀ hp : q.1 - d < c2.size, (fun b : Nat => (b = 170 → d % 4 = 0) ∧ b ≠ 171 ∧ b ≠ 185 ∧ b ≠ 186 ∧ b ≠ 196 ∧ b ≠ 197) c2[q.1 - d].toNat := by
      intro hp
      rw [getElem?_pos c2 (q.1 - d) hp] at k2
      simp only [Bool.and_eq_true, Bool.or_eq_true, bne_iff_ne, beq_iff_eq] at k2
      obtain ⟨⟨⟨⟨⟨g1, g2⟩, g3⟩, g4⟩, g5⟩, g6⟩ := k2
      exact ⟨fun e => g1.resolve_left (fun n => n e), g2, g3, g4, g5, g6⟩
    have := decode_local h hb hr
    rw [Nat.sub_add_cancel k1] at this
    rw [this]
    exact k3
  · cases k3
def chkDS (c1 c2 : ByteArray) (d : Nat) : Bool := decide ((c1.data.toList.drop d).take c2.data.toList.length = c2.data.toList)
theorem DS_of {c1 c2 : ByteArray} {d : Nat} (h : chkDS c1 c2 d = true) (h0 : 0 < c2.data.toList.length) : DS c1 c2 d := by
  have h := of_decide_eq_true h
  have hl : c2.data.toList.length + d ≤ c1.data.toList.length := by
    have := congrArg List.length h
    simp only [List.length_take, List.length_drop] at this
    omega
  refine ⟨hl, fun i hi hi1 => ?_⟩
  have e1 : c1[i + d] = c1.data.toList[i + d]'hi1 := rfl
  have e2 : c2[i] = c2.data.toList[i]'hi := rfl
  rw [e1, e2]
  have hi : i < c2.data.toList.length := hi
  have h3 : ((c1.data.toList.drop d).take c2.data.toList.length)[i]? = c2.data.toList[i]? := by rw [h]
  rw [List.getElem?_take_of_lt hi, List.getElem?_drop, List.getElem?_eq_getElem (by rw [Nat.add_comm]; exact hi1), List.getElem?_eq_getElem hi] at h3
  have h4 := Option.some.inj h3
  rw [← h4]
  congr 1
  omega
