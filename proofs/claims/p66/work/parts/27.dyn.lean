/-! THE LAW'S OWN CELLS: rules by which a printed method is read over the law's own cells and the class's memory together -/
abbrev LSt : Type := JE2 × Mem
/-- the memory of the pure machine is this state; nothing was thrown -/
def R2 (s : LSt) (M : JM) : Prop := Rl s.1 M s.2 ∧ s.2 797 0 = 0 ∧ s.1.2.1.1.length ≤ 900000
def dS (s : LSt) : List (Nat × Nat) := s.1.2.1.1
def dV (s : LSt) : Nat → Nat → JV := s.1.2.1.2
/-- the next cell's number -/
def dn (s : LSt) : Nat := 772 + (dS s).length
def dh (s : LSt) (i : Nat) : Option (Nat × Nat) := if 772 ≤ i then (dS s)[i - 772]? else none
def dlen (s : LSt) (i : Nat) : Option Nat := if i = 1000000 then some s.1.1.1 else if i = 1000001 then some 0 else if 3000000 ≤ i ∧ i < 3000014 then some (jlit (i - 3000000)).length else match dh s i with
  | some (t, n) => if 100 ≤ t then some n else none
  | none => none
def upC (s : LSt) (i k : Nat) (v : JV) : LSt := ((s.1.1, (s.1.2.1.1, fun a j => if a = i ∧ j = k then v else s.1.2.1.2 a j), s.1.2.2), s.2)
def mk (s : LSt) (t n : Nat) (f : Nat → JV) : LSt := ((s.1.1, (s.1.2.1.1 ++ [(t, n)], fun a j => if a = 772 + s.1.2.1.1.length then f j else s.1.2.1.2 a j), (s.1.2.2.1 + 1, s.1.2.2.2 + n)), s.2)
/-- all values of one cell -/
def upA (s : LSt) (i : Nat) (f : Nat → JV) : LSt := ((s.1.1, (s.1.2.1.1, fun a j => if a = i then f j else s.1.2.1.2 a j), s.1.2.2), s.2)
theorem rsl_l : rsl.length = 772 := rsl_len
section L27
variable {s : LSt} {M : JM} {mi pc : Nat} {ls st : List JV} {P : JO → JM → Prop} {l a b w : Nat}
theorem R2_len (h : R2 s M) : M.1.length = dn s := by
  rw [h.1.1, List.length_append, List.length_map, rsl_l]
  rfl
theorem R2_lt (h : R2 s M) {i : Nat} {q : Nat × Nat} (hi : dh s i = some q) : jsh M i = some q ∧ 772 ≤ i ∧ i < 1000000 := by
  unfold dh at hi
  split at hi
  · rename_i h7
    have hl := (List.getElem?_eq_some_iff.mp hi).1
    have h9 := h.2.2
    unfold dS at hl hi
    refine ⟨?_, h7, by omega⟩
    unfold jsh
    rw [h.1.1, List.getElem?_append_right (by rw [List.length_map, rsl_l]; exact h7), List.length_map, rsl_l]
    exact hi
  · cases hi
theorem R2_get (h : R2 s M) {i k : Nat} (hi : 772 ≤ i) : jget M i k = dV s i k := h.1.2.2.2.2.1 i k hi
theorem R2_clean (h : R2 s M) : jclean M = true := h.1.2.2.2.2.2 h.2.1
theorem R2_scr (h : R2 s M) : jL M = s.1.1.1 ∧ jxs M = s.1.1.2 := by
  unfold jL jxs
  rw [h.1.2.2.2.1]
  exact ⟨rfl, rfl⟩
theorem ln_hi {a : Nat} (h : 772 ≤ a) : ln a = 0 := by
  unfold ln
  rw [List.getD_eq_getElem?_getD, List.getElem?_eq_none (by rw [rsl_l]; exact h)]
  rfl
theorem R2_upA (h : R2 s M) {i : Nat} {f : Nat → JV} (hi : 772 ≤ i) : R2 (upA s i f) (M.1, (fun a j => if a = i then f j else M.2.1 a j), M.2.2) := by
  obtain ⟨⟨h1, h2, h3, h4, h5, h6⟩, h7, h8⟩ := h
  refine ⟨⟨h1, fun a j hj => ?_, h3, h4, fun a j ha => ?_, h6⟩, h7, h8⟩
  · have : a ≠ i := by
      rintro rfl
      rw [ln_hi hi] at hj
      omega
    show (if a = i then f j else M.2.1 a j) = _
    rw [if_neg this]
    exact h2 a j hj
  · show (if a = i then f j else M.2.1 a j) = (if a = i then f j else s.1.2.1.2 a j)
    by_cases q : a = i
    · rw [if_pos q, if_pos q]
    · rw [if_neg q, if_neg q]
      exact h5 a j ha
theorem R2_up (h : R2 s M) {i k : Nat} {v : JV} (hi : 772 ≤ i) : R2 (upC s i k v) (jset M i k v) := by
  obtain ⟨⟨h1, h2, h3, h4, h5, h6⟩, h7, h8⟩ := h
  refine ⟨⟨h1, fun a j hj => ?_, h3, h4, fun a j ha => ?_, h6⟩, h7, h8⟩
  · have : ¬ (a = i ∧ j = k) := by
      rintro ⟨rfl, rfl⟩
      rw [ln_hi hi] at hj
      omega
    show (if a = i ∧ j = k then v else M.2.1 a j) = _
    rw [if_neg this]
    exact h2 a j hj
  · show (if a = i ∧ j = k then v else M.2.1 a j) = (if a = i ∧ j = k then v else s.1.2.1.2 a j)
    by_cases q : a = i ∧ j = k
    · rw [if_pos q, if_pos q]
    · rw [if_neg q, if_neg q]
      exact h5 a j ha
theorem R2_mk (h : R2 s M) {t n : Nat} {f : Nat → JV} (hl : (dS s).length < 900000) : R2 (mk s t n f) (jpush M t n f) := by
  have hlen := R2_len h
  obtain ⟨⟨h1, h2, ⟨h3, h3', h3''⟩, h4, h5, h6⟩, h7, h8⟩ := h
  unfold dn at hlen
  refine ⟨⟨?_, fun a j hj => ?_, ⟨h3, ?_, ?_⟩, h4, fun a j ha => ?_, h6⟩, h7, ?_⟩
  · show M.1 ++ [(t, n)] = _
    rw [h1, List.append_assoc]
    rfl
  · have : a ≠ M.1.length := by
      rintro rfl
      rw [ln_hi (by omega)] at hj
      omega
    show (if a = M.1.length then f j else M.2.1 a j) = _
    rw [if_neg this]
    exact h2 a j hj
  · show M.2.2.1 + 1 = s.1.2.2.1 + 1 + (s.2 797 0).toNat
    rw [h3']
    omega
  · show M.2.2.2.1 + n = s.1.2.2.2 + n + 6 * (s.2 797 0).toNat
    rw [h3'']
    omega
  · show (if a = M.1.length then f j else M.2.1 a j) = (if a = 772 + s.1.2.1.1.length then f j else s.1.2.1.2 a j)
    rw [hlen]
    unfold dS
    by_cases q : a = 772 + s.1.2.1.1.length
    · rw [if_pos q, if_pos q]
    · rw [if_neg q, if_neg q]
      exact h5 a j ha
  · show (s.1.2.1.1 ++ [(t, n)]).length ≤ 900000
    rw [List.length_append]
    unfold dS at hl
    simp
    omega
/-! the words of the texts -/
def cN (v : JV) (A : Prop) (B : Nat → Prop) : Prop := match v with
  | .inr (.inr .null) => A
  | .inr (.inl i) => B i
  | _ => False
def cR (v : JV) (B : Nat → Prop) : Prop := match v with
  | .inr (.inl i) => B i
  | _ => False
def fI (s : LSt) (i c k : Nat) (K : Int → Prop) : Prop := ∃ n z, dh s i = some (c, n) ∧ k < n ∧ dV s i k = .inl z ∧ K z
def fV (s : LSt) (i c k : Nat) (K : JV → Prop) : Prop := ∃ n x, dh s i = some (c, n) ∧ k < n ∧ dV s i k = x ∧ jnl x = true ∧ K x
def fSv (s : LSt) (i : Nat) (K : JV → Prop) : Prop := ((2000000 ≤ i ∧ i < 2000014) ∧ K (jR (i + 1000000))) ∨ fV s i 15 0 K
def fSc (s : LSt) (i : Nat) (K : Int → Prop) : Prop := ((2000000 ≤ i ∧ i < 2000014) ∧ K 0) ∨ fI s i 15 1 K
def pF (s : LSt) (i c k f : Nat) (v : JV) (K : LSt → Prop) : Prop := ∃ n, dh s i = some (c, n) ∧ k < n ∧ jfit f v = true ∧ K (upC s i k v)
def aLn (s : LSt) (i : Nat) (K : Int → Prop) : Prop := ∃ n : Nat, dlen s i = some n ∧ n < 2147483648 ∧ K n
def rI (s : LSt) (i : Nat) (k : Int) (K : Int → Prop) : Prop := (i = 1000000 ∧ 0 ≤ k ∧ k < s.1.1.1 ∧ K (s.1.1.2 k.toNat)) ∨ ∃ n z, dh s i = some (100, n) ∧ 0 ≤ k ∧ k.toNat < n ∧ dV s i k.toNat = .inl z ∧ K z
def rB (s : LSt) (i : Nat) (k : Int) (K : Int → Prop) : Prop := ((3000000 ≤ i ∧ i < 3000014) ∧ 0 ≤ k ∧ k.toNat < (jlit (i - 3000000)).length ∧ K ((jlit (i - 3000000)).getD k.toNat 0)) ∨ ∃ n z, dh s i = some (101, n) ∧ 0 ≤ k ∧ k.toNat < n ∧ dV s i k.toNat = .inl z ∧ K z
def rJ (s : LSt) (i : Nat) (k : Int) (K : Int64 → Prop) : Prop := ∃ n x, dh s i = some (103, n) ∧ 0 ≤ k ∧ k.toNat < n ∧ dV s i k.toNat = jX (.long x) ∧ K x
def rV (s : LSt) (i : Nat) (k : Int) (K : JV → Prop) : Prop := ∃ t n x, dh s i = some (t, n) ∧ 105 ≤ t ∧ 0 ≤ k ∧ k.toNat < n ∧ dV s i k.toNat = x ∧ jnl x = true ∧ K x
def wA (s : LSt) (i t : Nat) (k : Int) (v : JV) (K : LSt → Prop) : Prop := ∃ n, dh s i = some (t, n) ∧ 0 ≤ k ∧ k.toNat < n ∧ K (upC s i k.toNat v)
/-- what a row of references may take -/
def okv (s : LSt) (t : Nat) (v : JV) : Prop := match v with
  | .inr (.inl j) => ∃ tj nj, dh s j = some (tj, nj) ∧ ((t = 116 ∧ tj = 11) ∨ (t = 199 ∧ (tj = 11 ∨ tj = 116)))
  | .inr (.inr .null) => t = 116
  | _ => False
def wV (s : LSt) (i : Nat) (k : Int) (v : JV) (K : LSt → Prop) : Prop := ∃ t n, dh s i = some (t, n) ∧ 0 ≤ k ∧ k.toNat < n ∧ okv s t v ∧ K (upC s i k.toNat v)
def nC (s : LSt) (c : Nat) (K : Nat → LSt → Prop) : Prop := (dS s).length < 900000 ∧ K (dn s) (mk s c (jfields c).length (jdef c))
def nA (s : LSt) (t : Nat) (z : Int) (v : JV) (K : Nat → LSt → Prop) : Prop := (dS s).length < 900000 ∧ 0 ≤ z ∧ z < 60000000 ∧ K (dn s) (mk s t z.toNat (fun _ => v))
def cT (s : LSt) (v : JV) (t : Nat) (K : Prop) : Prop := (match v with
  | .inr (.inl i) => ∃ n, dh s i = some (t, n)
  | .inr (.inr .null) => True
  | _ => False) ∧ K
def cE (v w : JV) (A B : Prop) : Prop := jap v w = true ∧ if jeqr v w = true then A else B
/-- bytes of a row: a literal's, or a cell's -/
def bL (s : LSt) (i : Nat) : Option Nat := if 3000000 ≤ i ∧ i < 3000014 then some (jlit (i - 3000000)).length else match dh s i with
  | some (t, n) => if t = 101 then some n else none
  | none => none
def bV (s : LSt) (i k : Nat) : JV := if 3000000 ≤ i ∧ i < 3000014 then jI ((jlit (i - 3000000)).getD k 0) else dV s i k
def cpy (s : LSt) (n dp dst sp src : Nat) : LSt := upA s dst (fun j => if dp ≤ j ∧ j < dp + n then bV s src (sp + (j - dp)) else dV s dst j)
def aCp (s : LSt) (n dp sp : Int) (dst src : Nat) (K : LSt → Prop) : Prop := ∃ x y, bL s src = some x ∧ dh s dst = some (101, y) ∧ src ≠ dst ∧ 0 ≤ n ∧ 0 ≤ sp ∧ 0 ≤ dp ∧ sp + n ≤ (x : Int) ∧ dp + n ≤ (y : Int) ∧ (∀ k, k < n.toNat → jby1 (bV s src (sp.toNat + k)) = true) ∧ K (cpy s n.toNat dp.toNat dst sp.toNat src)
def aK (s : LSt) (i : Nat) (K : Nat → LSt → Prop) : Prop := ∃ n, dh s i = some (101, n) ∧ n < 60000000 ∧ (dS s).length < 900000 ∧ (∀ k, k < n → jby1 (dV s i k) = true) ∧ K (dn s) (mk s 101 n (fun k => dV s i k))
def aF (s : LSt) (i : Nat) (v : Int64) (K : LSt → Prop) : Prop := ∃ n, dh s i = some (103, n) ∧ n < 60000000 ∧ K (upA s i (fun _ => jX (.long v)))
def aSm (s : LSt) (i j : Nat) (K : Prop) : Prop := dh s i = some (103, 60) ∧ dh s j = some (103, 60) ∧ i < j ∧ (∀ k, k < 60 → jleq (dV s i k) (dV s j k) = true) ∧ K
def P2 (QQ : Option JV → LSt → Prop) : JO → JM → Prop := fun o M' => match o with
  | .inl v => ∃ s', R2 s' M' ∧ QQ v s'
  | .inr _ => False
def QI2 (Q : Int → LSt → Prop) : Option JV → LSt → Prop := fun v s => ∃ z : Int, v = some (.inl z) ∧ Q z s
def QV2 (Q : JV → LSt → Prop) : Option JV → LSt → Prop := fun v s => ∃ x : JV, v = some x ∧ jnl x = true ∧ Q x s
def QN2 (Q : LSt → Prop) : Option JV → LSt → Prop := fun v s => v = none ∧ Q s
/-! the rules -/
theorem jnl_c {v : JV} (h : jnl v = true) : (∃ i, v = jR i) ∨ v = jX .null := by
  rcases v with z | z | z
  · cases h
  · exact Or.inl ⟨z, rfl⟩
  · cases z <;> first | exact Or.inr rfl | cases h
theorem E_ald {i : Nat} {v : JV} (hc : jcode mi pc = some (.aload i, l, a, b, w)) (hl : jld ls i = v) (hv : jnl v = true) (h : JX mi (pc + 2) ls (v :: st) M P) : JX mi pc ls st M P := by
  refine L_go hc ?_ h
  show jld2 (jld ls i) st (pc + 2) ls M = _
  rw [hl]
  rcases jnl_c hv with ⟨j, rfl⟩ | rfl <;> rfl
theorem E_aldn {i : Fin 4} {v : JV} (hc : jcode mi pc = some (.aload_n i, l, a, b, w)) (hl : jld ls i = v) (hv : jnl v = true) (h : JX mi (pc + 1) ls (v :: st) M P) : JX mi pc ls st M P := by
  refine L_go hc ?_ h
  show jld2 (jld ls i) st (pc + 1) ls M = _
  rw [hl]
  rcases jnl_c hv with ⟨j, rfl⟩ | rfl <;> rfl
theorem E_ast {i : Nat} {v : JV} {ls1 : List JV} (hc : jcode mi pc = some (.astore i, l, a, b, w)) (hg : jc2 ((jU :: ls).getD i jU) = false) (hi : i < ls.length) (hv : jnl v = true) (hs : ls.set i v = ls1) (h : JX mi (pc + 2) ls1 st M P) : JX mi pc ls (v :: st) M P := by
  subst hs
  refine L_go hc ?_ h
  rcases jnl_c hv with ⟨j, rfl⟩ | rfl
  · show jNo (pc + 2) (jsto ls i (jR j)) st M = _
    rw [jsto_of hg hi]; rfl
  · show jNo (pc + 2) (jsto ls i (jX .null)) st M = _
    rw [jsto_of hg hi]; rfl
theorem E_astn {i : Fin 4} {v : JV} {ls1 : List JV} (hc : jcode mi pc = some (.astore_n i, l, a, b, w)) (hg : jc2 ((jU :: ls).getD i jU) = false) (hi : i < ls.length) (hv : jnl v = true) (hs : ls.set i v = ls1) (h : JX mi (pc + 1) ls1 st M P) : JX mi pc ls (v :: st) M P := by
  subst hs
  refine L_go hc ?_ h
  rcases jnl_c hv with ⟨j, rfl⟩ | rfl
  · show jNo (pc + 1) (jsto ls i (jR j)) st M = _
    rw [jsto_of hg hi]; rfl
  · show jNo (pc + 1) (jsto ls i (jX .null)) st M = _
    rw [jsto_of hg hi]; rfl
theorem jnl_c2 {v : JV} (h : jnl v = true) : jc2 v = false := by
  rcases jnl_c h with ⟨j, rfl⟩ | rfl <;> rfl
theorem E_dup {v : JV} (hc : jcode mi pc = some (.dup, l, a, b, w)) (hv : jnl v = true) (h : JX mi (pc + 1) ls (v :: v :: st) M P) : JX mi pc ls (v :: st) M P := by
  refine L_go hc ?_ h
  show (if jc2 v = false then jN (pc + 1) ls (v :: v :: st) M else none) = _
  rw [if_pos (jnl_c2 hv)]
  rfl
theorem E_pop {v : JV} (hc : jcode mi pc = some (.pop, l, a, b, w)) (hv : jnl v = true) (h : JX mi (pc + 1) ls st M P) : JX mi pc ls (v :: st) M P := by
  refine L_go hc ?_ h
  show (if jc2 v = false then jN (pc + 1) ls st M else none) = _
  rw [if_pos (jnl_c2 hv)]
  rfl
theorem E_dup2 {v x : JV} (hc : jcode mi pc = some (.dup2, l, a, b, w)) (hv : jc2 v = false) (hx : jc2 x = false) (h : JX mi (pc + 1) ls (v :: x :: v :: x :: st) M P) : JX mi pc ls (v :: x :: st) M P := L_go hc (if_pos ⟨hv, hx⟩) h
theorem E_dupx {v x : JV} (hc : jcode mi pc = some (.dup_x1, l, a, b, w)) (hv : jc2 v = false) (hx : jc2 x = false) (h : JX mi (pc + 1) ls (v :: x :: v :: st) M P) : JX mi pc ls (v :: x :: st) M P := L_go hc (if_pos ⟨hv, hx⟩) h
/-- null tests: null on the left -/
theorem E_ifn {off : Int} {v : JV} {A : Prop} {B : Nat → Prop} (hc : jcode mi pc = some (.ifnull off, l, a, b, w)) (h : cN v A B) (k1 : v = jX .null → A → JX mi a ls st M P) (k2 : ∀ i, v = jR i → B i → JX mi (pc + 3) ls st M P) : JX mi pc ls (v :: st) M P := by
  unfold cN at h
  split at h
  · exact L_go hc rfl (k1 rfl h)
  · exact L_go hc rfl (k2 _ rfl h)
  · exact h.elim
theorem E_ifnn {off : Int} {v : JV} {A : Prop} {B : Nat → Prop} (hc : jcode mi pc = some (.ifnonnull off, l, a, b, w)) (h : cN v A B) (k1 : v = jX .null → A → JX mi (pc + 3) ls st M P) (k2 : ∀ i, v = jR i → B i → JX mi a ls st M P) : JX mi pc ls (v :: st) M P := by
  unfold cN at h
  split at h
  · exact L_go hc rfl (k1 rfl h)
  · exact L_go hc rfl (k2 _ rfl h)
  · exact h.elim
theorem cR_of {v : JV} {B : Nat → Prop} (h : cR v B) : ∃ i, v = jR i ∧ B i := by
  unfold cR at h
  split at h
  · exact ⟨_, rfl, h⟩
  · exact h.elim
theorem E_fld {n i c k t : Nat} (hc : jcode mi pc = some (.getfield n, l, c, k, w)) (hM : R2 s M) (hd : dh s i = some (c, t)) (hk : k < t) (hc2 : c < 100) (h : JX mi (pc + 3) ls (dV s i k :: st) M P) : JX mi pc ls (.inr (.inl i) :: st) M P := by
  obtain ⟨h1, h2, h3⟩ := R2_lt hM hd
  refine L_go hc ?_ h
  show (if c = 15 ∧ 2000000 ≤ i ∧ i < 2000014 then _ else _) = _
  rw [if_neg (by omega), h1]
  show (if _ then _ else _) = _
  rw [if_pos ⟨h3, by rw [Nat.mod_eq_of_lt hc2], hk⟩, R2_get hM h2]
  rfl
theorem E_fI {n i c k : Nat} {K : Int → Prop} (hc : jcode mi pc = some (.getfield n, l, c, k, w)) (hM : R2 s M) (hc2 : c < 100) (h : fI s i c k K) (hk : ∀ z, K z → JX mi (pc + 3) ls (.inl z :: st) M P) : JX mi pc ls (.inr (.inl i) :: st) M P := by
  obtain ⟨t, z, h1, h2, h3, h4⟩ := h
  exact E_fld hc hM h1 h2 hc2 (by rw [h3]; exact hk z h4)
theorem E_fV {n i c k : Nat} {K : JV → Prop} (hc : jcode mi pc = some (.getfield n, l, c, k, w)) (hM : R2 s M) (hc2 : c < 100) (h : fV s i c k K) (hk : ∀ x, jnl x = true → K x → JX mi (pc + 3) ls (x :: st) M P) : JX mi pc ls (.inr (.inl i) :: st) M P := by
  obtain ⟨t, z, h1, h2, h3, h4, h5⟩ := h
  exact E_fld hc hM h1 h2 hc2 (by rw [h3]; exact hk z h4 h5)
theorem E_fSv {n i : Nat} {K : JV → Prop} (hc : jcode mi pc = some (.getfield n, l, 15, 0, w)) (hM : R2 s M) (h : fSv s i K) (hk : ∀ x, jnl x = true → K x → JX mi (pc + 3) ls (x :: st) M P) : JX mi pc ls (.inr (.inl i) :: st) M P := by
  rcases h with ⟨h1, h2⟩ | h
  · refine L_go hc ?_ (hk _ rfl h2)
    rw [jst_getS rfl h1 (by decide)]
    rfl
  · exact E_fV hc hM (by decide) h hk
theorem E_fSc {n i : Nat} {K : Int → Prop} (hc : jcode mi pc = some (.getfield n, l, 15, 1, w)) (hM : R2 s M) (h : fSc s i K) (hk : ∀ z, K z → JX mi (pc + 3) ls (.inl z :: st) M P) : JX mi pc ls (.inr (.inl i) :: st) M P := by
  rcases h with ⟨h1, h2⟩ | h
  · refine L_go hc ?_ (hk _ h2)
    rw [jst_getS rfl h1 (by decide)]
    rfl
  · exact E_fI hc hM (by decide) h hk
theorem E_pF {n i c k f t : Nat} {v : JV} {K : LSt → Prop} (hc : jcode mi pc = some (.putfield n, l, t, k, w)) (hM : R2 s M) (ht : t % 100 = c ∧ t / 100 = f) (h : pF s i c k f v K) (hk : ∀ M' s', R2 s' M' → K s' → s' = upC s i k v → JX mi (pc + 3) ls st M' P) : JX mi pc ls (v :: .inr (.inl i) :: st) M P := by
  obtain ⟨n9, h1, h2, h3, h4⟩ := h
  obtain ⟨g1, g2, g3⟩ := R2_lt hM h1
  refine L_goM hc ?_ (hk _ _ (R2_up hM g2) h4 rfl)
  show (match jsh M i with | some (t', n) => if i < 1000000 ∧ t' = t % 100 ∧ k < n ∧ jfit (t / 100) v = true then jN (pc + 3) ls st (jset M i k v) else none | none => none) = _
  rw [g1]
  show (if _ then _ else _) = _
  rw [if_pos ⟨g3, ht.1.symm, h2, by rw [ht.2]; exact h3⟩]
  rfl
theorem E_aL {i : Nat} {K : Int → Prop} (hc : jcode mi pc = some (.arraylength, l, a, b, w)) (hM : R2 s M) (h : aLn s i K) (hk : ∀ z, K z → JX mi (pc + 1) ls (.inl z :: st) M P) : JX mi pc ls (.inr (.inl i) :: st) M P := by
  obtain ⟨n, h1, h2, h3⟩ := h
  have e : jlen M i = some n := by
    unfold dlen at h1
    unfold jlen
    split at h1
    · rename_i q
      subst q
      rw [if_neg (by omega), if_pos rfl, (R2_scr hM).1]
      exact h1
    · rename_i q
      split at h1
      · rename_i q2
        subst q2
        rw [if_neg (by omega), if_neg (by omega), if_pos rfl]
        exact h1
      · split at h1
        · rename_i q2 q3
          rw [if_neg (by omega), if_neg (by omega), if_neg (by omega), if_pos q3]
          exact h1
        · split at h1
          · rename_i t n9 hd
            obtain ⟨g1, g2, g3⟩ := R2_lt hM hd
            rw [if_pos g3, g1]
            exact h1
          · cases h1
  refine L_go hc ?_ (hk _ h3)
  show (match jlen M i with | some n => if n < 2147483648 then jN (pc + 1) ls (jI n :: st) M else none | none => none) = _
  rw [e]
  show (if _ then _ else _) = _
  rw [if_pos h2]
  rfl
theorem E_rd {i t n pc1 : Nat} {k : Int} (hM : R2 s M) (hd : dh s i = some (t, n)) (h0 : 0 ≤ k) (h1 : k.toNat < n) : jread t i k pc1 ls st M = some (.inl (pc1, ls, dV s i k.toNat :: st, M)) := by
  obtain ⟨g1, g2, g3⟩ := R2_lt hM hd
  unfold jread
  rw [g1]
  show (if _ then _ else _) = _
  rw [if_pos ⟨g3, rfl, h0, h1⟩, R2_get hM g2]
  rfl
theorem E_wr {i t n pc1 : Nat} {k : Int} {v : JV} (hM : R2 s M) (hd : dh s i = some (t, n)) (h0 : 0 ≤ k) (h1 : k.toNat < n) : jwrite t i k v pc1 ls st M = some (.inl (pc1, ls, st, jset M i k.toNat v)) := by
  obtain ⟨g1, g2, g3⟩ := R2_lt hM hd
  unfold jwrite
  rw [g1]
  show (if _ then _ else _) = _
  rw [if_pos ⟨g3, rfl, h0, h1⟩]
  rfl
theorem R2_tag (hM : R2 s M) {i t n : Nat} (hd : dh s i = some (t, n)) : jtag M i = t := by
  obtain ⟨g1, g2, g3⟩ := R2_lt hM hd
  unfold jtag
  rw [if_pos g3, g1]
  rfl
theorem E_rI {i : Nat} {k : Int} {K : Int → Prop} (hc : jcode mi pc = some (.iaload, l, a, b, w)) (hM : R2 s M) (h : rI s i k K) (hk : ∀ z, K z → JX mi (pc + 1) ls (.inl z :: st) M P) : JX mi pc ls (.inl k :: .inr (.inl i) :: st) M P := by
  rcases h with ⟨h1, h2, h3, h4⟩ | ⟨n, z, h1, h2, h3, h4, h5⟩
  · refine L_go hc ?_ (hk _ h4)
    show (if i = 1000000 then (if 0 ≤ k ∧ k < (jL M : Int) then jN (pc + 1) ls (jI (jxs M k.toNat) :: st) M else none) else _) = _
    rw [if_pos h1, (R2_scr hM).1, (R2_scr hM).2, if_pos ⟨h2, h3⟩]
    rfl
  · obtain ⟨g1, g2, g3⟩ := R2_lt hM h1
    refine L_go hc ?_ (hk _ h5)
    show (if i = 1000000 then _ else _) = _
    rw [if_neg (by omega), E_rd hM h1 h2 h3, h4]
theorem E_rB {i : Nat} {k : Int} {K : Int → Prop} (hc : jcode mi pc = some (.baload, l, a, b, w)) (hM : R2 s M) (h : rB s i k K) (hk : ∀ z, K z → JX mi (pc + 1) ls (.inl z :: st) M P) : JX mi pc ls (.inl k :: .inr (.inl i) :: st) M P := by
  rcases h with ⟨h1, h2, h3, h4⟩ | ⟨n, z, h1, h2, h3, h4, h5⟩
  · refine L_go hc ?_ (hk _ h4)
    show (if 3000000 ≤ i ∧ i < 3000014 then (if 0 ≤ k ∧ k.toNat < (jlit (i - 3000000)).length then jN (pc + 1) ls (jI ((jlit (i - 3000000)).getD k.toNat 0) :: st) M else none) else _) = _
    rw [if_pos h1, if_pos ⟨h2, h3⟩]
    rfl
  · obtain ⟨g1, g2, g3⟩ := R2_lt hM h1
    refine L_go hc ?_ (hk _ h5)
    show (if 3000000 ≤ i ∧ i < 3000014 then _ else _) = _
    rw [if_neg (by omega), R2_tag hM h1, if_pos rfl, E_rd hM h1 h2 h3, h4]
theorem E_rJ {i : Nat} {k : Int} {K : Int64 → Prop} (hc : jcode mi pc = some (.laload, l, a, b, w)) (hM : R2 s M) (h : rJ s i k K) (hk : ∀ z, K z → JX mi (pc + 1) ls (jX (.long z) :: st) M P) : JX mi pc ls (.inl k :: .inr (.inl i) :: st) M P := by
  obtain ⟨n, z, h1, h2, h3, h4, h5⟩ := h
  refine L_go hc ?_ (hk _ h5)
  show jread 103 i k (pc + 1) ls st M = _
  rw [E_rd hM h1 h2 h3, h4]
theorem E_rV {i : Nat} {k : Int} {K : JV → Prop} (hc : jcode mi pc = some (.aaload, l, a, b, w)) (hM : R2 s M) (h : rV s i k K) (hk : ∀ x, jnl x = true → K x → JX mi (pc + 1) ls (x :: st) M P) : JX mi pc ls (.inl k :: .inr (.inl i) :: st) M P := by
  obtain ⟨t, n, x, h1, h0, h2, h3, h4, h5, h6⟩ := h
  refine L_go hc ?_ (hk _ h5 h6)
  show (if 105 ≤ jtag M i then jread (jtag M i) i k (pc + 1) ls st M else none) = _
  rw [R2_tag hM h1, if_pos h0, E_rd hM h1 h2 h3, h4]
theorem E_wI {i : Nat} {k z : Int} {K : LSt → Prop} (hc : jcode mi pc = some (.iastore, l, a, b, w)) (hM : R2 s M) (h : wA s i 100 k (.inl z) K) (hk : ∀ M' s', R2 s' M' → K s' → JX mi (pc + 1) ls st M' P) : JX mi pc ls (.inl z :: .inl k :: .inr (.inl i) :: st) M P := by
  obtain ⟨n, h1, h2, h3, h4⟩ := h
  obtain ⟨g1, g2, g3⟩ := R2_lt hM h1
  exact L_goM hc (E_wr hM h1 h2 h3) (hk _ _ (R2_up hM g2) h4)
theorem E_wB {i : Nat} {k z : Int} {K : LSt → Prop} (hc : jcode mi pc = some (.bastore, l, a, b, w)) (hM : R2 s M) (h : wA s i 101 k (.inl (jb8 z)) K) (hk : ∀ M' s', R2 s' M' → K s' → JX mi (pc + 1) ls st M' P) : JX mi pc ls (.inl z :: .inl k :: .inr (.inl i) :: st) M P := by
  obtain ⟨n, h1, h2, h3, h4⟩ := h
  obtain ⟨g1, g2, g3⟩ := R2_lt hM h1
  refine L_goM hc ?_ (hk _ _ (R2_up hM g2) h4)
  show (if jtag M i = 101 then _ else _) = _
  rw [R2_tag hM h1, if_pos rfl]
  exact E_wr hM h1 h2 h3
theorem E_wJ {i : Nat} {k : Int} {z : Int64} {K : LSt → Prop} (hc : jcode mi pc = some (.lastore, l, a, b, w)) (hM : R2 s M) (h : wA s i 103 k (jX (.long z)) K) (hk : ∀ M' s', R2 s' M' → K s' → JX mi (pc + 1) ls st M' P) : JX mi pc ls (jX (.long z) :: .inl k :: .inr (.inl i) :: st) M P := by
  obtain ⟨n, h1, h2, h3, h4⟩ := h
  obtain ⟨g1, g2, g3⟩ := R2_lt hM h1
  exact L_goM hc (E_wr hM h1 h2 h3) (hk _ _ (R2_up hM g2) h4)
theorem E_wV {i : Nat} {k : Int} {v : JV} {K : LSt → Prop} (hc : jcode mi pc = some (.aastore, l, a, b, w)) (hM : R2 s M) (h : wV s i k v K) (hk : ∀ M' s', R2 s' M' → K s' → JX mi (pc + 1) ls st M' P) : JX mi pc ls (v :: .inl k :: .inr (.inl i) :: st) M P := by
  obtain ⟨t, n, h1, h2, h3, h4, h5⟩ := h
  obtain ⟨g1, g2, g3⟩ := R2_lt hM h1
  have ht := R2_tag hM h1
  refine L_goM hc ?_ (hk _ _ (R2_up hM g2) h5)
  unfold okv at h4
  split at h4
  · rename_i j
    obtain ⟨tj, nj, q1, q2⟩ := h4
    obtain ⟨f1, f2, f3⟩ := R2_lt hM q1
    have hj := R2_tag hM q1
    show (if (jtag M i = 105 + jtag M j ∧ jtag M j < 13) ∨ (jtag M i = 199 ∧ j < 1000000 ∧ (jtag M j = 11 ∨ jtag M j = 116)) then jwrite (jtag M i) i k (.inr (.inl j)) (pc + 1) ls st M else none) = _
    rw [ht, hj, if_pos (by omega)]
    exact E_wr hM h1 h2 h3
  · subst h4
    show (if jtag M i = 116 then jwrite 116 i k (jX .null) (pc + 1) ls st M else none) = _
    rw [ht, if_pos rfl]
    exact E_wr hM h1 h2 h3
  · exact h4.elim
theorem E_nC {n c : Nat} {K : Nat → LSt → Prop} (hc : jcode mi pc = some (.new n, l, c, b, w)) (hM : R2 s M) (hc2 : c < 100) (h : nC s c K) (hk : ∀ (i : Nat) M' s', R2 s' M' → K i s' → JX mi (pc + 3) ls (.inr (.inl i) :: st) M' P) : JX mi pc ls st M P := by
  obtain ⟨h1, h2⟩ := h
  have hl := R2_len hM
  unfold dn dS at hl
  have h9 := hM.2.2
  refine L_goM hc ?_ (hk _ _ _ (R2_mk hM h1) h2)
  show (if c < 100 then (if jclean M = true ∧ M.1.length < 1000000 then jN (pc + 3) ls (jR M.1.length :: st) (jpush M c (jfields c).length (jdef c)) else none) else _) = _
  rw [if_pos hc2, if_pos ⟨R2_clean hM, by omega⟩, R2_len hM]
  rfl
theorem E_nA {n : ArrayType} {t : Nat} {z : Int} {K : Nat → LSt → Prop} (hc : jcode mi pc = some (.newarray n, l, t, b, w)) (hM : R2 s M) (h : nA s t z (if t = 103 then jX (.long 0) else if t = 104 then jX (.double 0) else jI 0) K) (hk : ∀ (i : Nat) M' s', R2 s' M' → K i s' → JX mi (pc + 2) ls (.inr (.inl i) :: st) M' P) : JX mi pc ls (.inl z :: st) M P := by
  obtain ⟨h1, h2, h3, h4⟩ := h
  have hl := R2_len hM
  unfold dn dS at hl
  have h9 := hM.2.2
  refine L_goM hc ?_ (hk _ _ _ (R2_mk hM h1) h4)
  show (if jclean M = true ∧ M.1.length < 1000000 ∧ 0 ≤ z ∧ z < 60000000 then jN (pc + 2) ls (jR M.1.length :: st) (jpush M t z.toNat (fun _ => if t = 103 then jX (.long 0) else if t = 104 then jX (.double 0) else jI 0)) else none) = _
  rw [if_pos ⟨R2_clean hM, by omega, h2, h3⟩, R2_len hM]
  rfl
theorem E_nN {n t : Nat} {z : Int} {K : Nat → LSt → Prop} (hc : jcode mi pc = some (.anewarray n, l, t, b, w)) (hM : R2 s M) (h : nA s t z (jX .null) K) (hk : ∀ (i : Nat) M' s', R2 s' M' → K i s' → JX mi (pc + 3) ls (.inr (.inl i) :: st) M' P) : JX mi pc ls (.inl z :: st) M P := by
  obtain ⟨h1, h2, h3, h4⟩ := h
  have hl := R2_len hM
  unfold dn dS at hl
  have h9 := hM.2.2
  refine L_goM hc ?_ (hk _ _ _ (R2_mk hM h1) h4)
  show (if jclean M = true ∧ M.1.length < 1000000 ∧ 0 ≤ z ∧ z < 60000000 then jN (pc + 3) ls (jR M.1.length :: st) (jpush M t z.toNat (fun _ => jX .null)) else none) = _
  rw [if_pos ⟨R2_clean hM, by omega, h2, h3⟩, R2_len hM]
  rfl
theorem E_cT {n t : Nat} {v : JV} {K : Prop} (hc : jcode mi pc = some (.checkcast n, l, t, b, w)) (hM : R2 s M) (h : cT s v t K) (hk : K → JX mi (pc + 3) ls (v :: st) M P) : JX mi pc ls (v :: st) M P := by
  obtain ⟨h1, h2⟩ := h
  split at h1
  · rename_i i
    obtain ⟨n9, h3⟩ := h1
    obtain ⟨f1, f2, f3⟩ := R2_lt hM h3
    refine L_go hc ?_ (hk h2)
    show (if jtag M i = t ∧ i < 1000000 then _ else _) = _
    rw [if_pos ⟨R2_tag hM h3, f3⟩]
    rfl
  · exact L_go hc rfl (hk h2)
  · exact h1.elim
theorem E_cE {off : Int} {v x : JV} {A B : Prop} (hc : jcode mi pc = some (.if_acmp .eq off, l, a, b, w)) (hv : jnl v = true) (hx : jnl x = true) (h : cE x v A B) (k1 : A → JX mi a ls st M P) (k2 : B → JX mi (pc + 3) ls st M P) : JX mi pc ls (v :: x :: st) M P := by
  obtain ⟨h1, h2⟩ := h
  have e : jstep (.if_acmp .eq off, l, a, b, w) pc ls (v :: x :: st) M = jbr (jeqr x v) a (pc + 3) ls st M := by
    show (if jnl v = true ∧ jnl x = true ∧ jap x v = true then jbr (jeqr x v) a (pc + 3) ls st M else none) = _
    rw [if_pos ⟨hv, hx, h1⟩]
  exact L_br hc e rfl h2 k1 k2
theorem E_cNE {off : Int} {v x : JV} {A B : Prop} (hc : jcode mi pc = some (.if_acmp .ne off, l, a, b, w)) (hv : jnl v = true) (hx : jnl x = true) (h : cE x v A B) (k1 : A → JX mi (pc + 3) ls st M P) (k2 : B → JX mi a ls st M P) : JX mi pc ls (v :: x :: st) M P := by
  obtain ⟨h1, h2⟩ := h
  have e : jstep (.if_acmp .ne off, l, a, b, w) pc ls (v :: x :: st) M = jbr (!jeqr x v) a (pc + 3) ls st M := by
    show (if jnl v = true ∧ jnl x = true ∧ jap x v = true then jbr (!jeqr x v) a (pc + 3) ls st M else none) = _
    rw [if_pos ⟨hv, hx, h1⟩]
  refine L_nb (C := jeqr x v = true) hc e ?_ h2 k1 k2
  cases jeqr x v <;> simp
theorem E_div {x y : Int} (hc : jcode mi pc = some (.idiv, l, a, b, w)) (hy : 0 < y ∧ y < 2147483648) (h : JX mi (pc + 1) ls (.inl (jdiv x y) :: st) M P) : JX mi pc ls (.inl y :: .inl x :: st) M P := L_go hc (if_pos hy) h
theorem E_rem {x y : Int} (hc : jcode mi pc = some (.irem, l, a, b, w)) (hy : 0 < y ∧ y < 2147483648) (h : JX mi (pc + 1) ls (.inl (jrem x y) :: st) M P) : JX mi pc ls (.inl y :: .inl x :: st) M P := L_go hc (if_pos hy) h
theorem bL_of (hM : R2 s M) {i n : Nat} (h : bL s i = some n) : jbytes M i = some n ∧ ∀ k, jsrc M i k = bV s i k := by
  unfold bL at h
  unfold jbytes jsrc bV
  by_cases q : 3000000 ≤ i ∧ i < 3000014
  · rw [if_pos q] at h ⊢
    exact ⟨h, fun k => by rw [if_pos q, if_pos q]⟩
  · rw [if_neg q] at h ⊢
    split at h
    · rename_i t n9 hd
      split at h
      · rename_i ht
        obtain ⟨f1, f2, f3⟩ := R2_lt hM hd
        refine ⟨?_, fun k => by rw [if_neg q, if_neg q]; exact R2_get hM f2⟩
        rw [f1]
        show (if _ then _ else _) = _
        rw [if_pos ⟨f3, ht⟩]
        exact h
      · cases h
    · cases h
theorem jst_static {n : Nat} : jstep (.invokestatic n, l, a, b, w) pc ls st M = (if a = 8001 then jcopy pc ls st M else if a = 8003 then jfill pc ls st M else if a = 8004 then jsame pc ls st M else jcall a b false false ls st M) := rfl
theorem jst_virtual {n : Nat} : jstep (.invokevirtual n, l, a, b, w) pc ls st M = (if a = 8002 then jclone pc ls st M else jcall a b true true ls st M) := rfl
theorem jst_ret {z : Int} : jstep (.ireturn, l, a, b, w) pc ls [.inl z] M = (if jret a z = true then jF (some (.inl z)) M else none) := rfl
theorem E_aC {n : Nat} {z dp sp : Int} {dst src : Nat} {K : LSt → Prop} (hc : jcode mi pc = some (.invokestatic n, l, 8001, b, w)) (hM : R2 s M) (hr : st.length ≤ 3) (hr2 : (st.all fun v => !jc2 v) = true) (h : aCp s z dp sp dst src K) (hk : ∀ M' s', R2 s' M' → K s' → JX mi (pc + 3) ls st M' P) : JX mi pc ls (.inl z :: .inl dp :: .inr (.inl dst) :: .inl sp :: .inr (.inl src) :: st) M P := by
  obtain ⟨x, y, h1, h2, h3, h4, h5, h6, h7, h8, h9, h10⟩ := h
  obtain ⟨f1, f2, f3⟩ := R2_lt hM h2
  obtain ⟨b1, b2⟩ := bL_of hM h1
  have hR : R2 (cpy s z.toNat dp.toNat dst sp.toNat src) (jcopied M src sp.toNat dst dp.toNat z.toNat) := by
    rw [jcopied_eq]
    have := R2_upA hM (i := dst) (f := fun j => if dp.toNat ≤ j ∧ j < dp.toNat + z.toNat then bV s src (sp.toNat + (j - dp.toNat)) else dV s dst j) f2
    have e : (fun (a : Nat) (j : Nat) => if a = dst then (if dp.toNat ≤ j ∧ j < dp.toNat + z.toNat then jsrc M src (sp.toNat + (j - dp.toNat)) else jget M dst j) else M.2.1 a j) = (fun a j => if a = dst then (fun j => if dp.toNat ≤ j ∧ j < dp.toNat + z.toNat then bV s src (sp.toNat + (j - dp.toNat)) else dV s dst j) j else M.2.1 a j) := by
      funext a j
      by_cases q : a = dst
      · rw [if_pos q, if_pos q]
        dsimp only
        rw [b2, R2_get hM f2]
      · rw [if_neg q, if_neg q]
    rw [e]
    exact this
  refine L_goM hc ?_ (hk _ _ hR h10)
  rw [jst_static, if_pos rfl]
  unfold jcopy
  dsimp only
  rw [b1, f1]
  dsimp only
  rw [if_pos ⟨f3, rfl, h3, h4, h5, h6, h7, h8, hr, hr2, List.all_eq_true.mpr fun k hk => by rw [b2]; exact h9 k (List.mem_range.mp hk)⟩]
  rfl
theorem E_aK {n i : Nat} {K : Nat → LSt → Prop} (hc : jcode mi pc = some (.invokevirtual n, l, 8002, b, w)) (hM : R2 s M) (hr : st.length ≤ 3) (hr2 : (st.all fun v => !jc2 v) = true) (h : aK s i K) (hk : ∀ (i : Nat) M' s', R2 s' M' → K i s' → JX mi (pc + 3) ls (.inr (.inl i) :: st) M' P) : JX mi pc ls (.inr (.inl i) :: st) M P := by
  obtain ⟨n9, h1, h2, h3, h4, h5⟩ := h
  obtain ⟨f1, f2, f3⟩ := R2_lt hM h1
  have hl := R2_len hM
  unfold dn dS at hl
  have h9 := hM.2.2
  have hR : R2 (mk s 101 n9 (fun k => dV s i k)) (jpush M 101 n9 (fun k => jget M i k)) := by
    have e : (fun k => jget M i k) = fun k => dV s i k := funext fun k => R2_get hM f2
    rw [e]
    exact R2_mk hM h3
  refine L_goM hc ?_ (hk _ _ _ hR h5)
  rw [jst_virtual, if_pos rfl]
  unfold jclone
  dsimp only
  rw [f1]
  dsimp only
  rw [if_pos ⟨f3, rfl, h2, R2_clean hM, by omega, hr, hr2, List.all_eq_true.mpr fun k hk => by rw [R2_get hM f2]; exact h4 k (List.mem_range.mp hk)⟩, R2_len hM]
  rfl
theorem E_aF {n i : Nat} {v : Int64} {K : LSt → Prop} (hc : jcode mi pc = some (.invokestatic n, l, 8003, b, w)) (hM : R2 s M) (h : aF s i v K) (hk : ∀ M' s', R2 s' M' → K s' → JX mi (pc + 3) ls [] M' P) : JX mi pc ls [jX (.long v), .inr (.inl i)] M P := by
  obtain ⟨n9, h1, h2, h3⟩ := h
  obtain ⟨f1, f2, f3⟩ := R2_lt hM h1
  refine L_goM hc ?_ (hk _ _ (R2_upA hM f2) h3)
  rw [jst_static, if_neg (by decide), if_pos rfl]
  unfold jfill
  dsimp only
  rw [f1]
  dsimp only
  rw [if_pos ⟨f3, rfl, h2, rfl⟩]
  rfl
theorem E_aS {n i j : Nat} {K : Prop} (hc : jcode mi pc = some (.invokestatic n, l, 8004, b, w)) (hM : R2 s M) (h : aSm s i j K) (hk : K → JX mi (pc + 3) ls [.inl 1] M P) : JX mi pc ls [.inr (.inl j), .inr (.inl i)] M P := by
  obtain ⟨h1, h2, h3, h4, h5⟩ := h
  obtain ⟨f1, f2, f3⟩ := R2_lt hM h1
  obtain ⟨g1, g2, g3⟩ := R2_lt hM h2
  refine L_go hc ?_ (hk h5)
  rw [jst_static, if_neg (by decide), if_neg (by decide), if_pos rfl]
  unfold jsame
  dsimp only
  rw [if_pos ⟨f1, g1, h3, g3, rfl, List.all_eq_true.mpr fun k hk => by rw [R2_get hM f2, R2_get hM g2]; exact h4 k (List.mem_range.mp hk)⟩]
  rfl
/-- returns -/
theorem E_retV {v : JV} (hc : jcode mi pc = some (.areturn, l, a, b, w)) (hv : jnl v = true) (h : P (.inl (some v)) M) : JX mi pc ls [v] M P := by
  refine L_end hc ?_ h
  rcases jnl_c hv with ⟨j, rfl⟩ | rfl <;> rfl
theorem E_retZ {z : Int} (hc : jcode mi pc = some (.ireturn, l, 1, b, w)) (hz : bz z) (h : P (.inl (some (.inl z))) M) : JX mi pc ls [.inl z] M P := L_retB hc hz h
theorem E_retB {z : Int} (hc : jcode mi pc = some (.ireturn, l, 2, b, w)) (hz : -128 ≤ z ∧ z ≤ 127) (h : P (.inl (some (.inl z))) M) : JX mi pc ls [.inl z] M P := by
  refine L_end hc ?_ h
  rw [jst_ret, if_pos (show jret 2 z = true from decide_eq_true hz)]
  rfl
theorem E_retC {z : Int} (hc : jcode mi pc = some (.ireturn, l, 3, b, w)) (hz : 0 ≤ z ∧ z ≤ 65535) (h : P (.inl (some (.inl z))) M) : JX mi pc ls [.inl z] M P := by
  refine L_end hc ?_ h
  rw [jst_ret, if_pos (show jret 3 z = true from decide_eq_true hz)]
  rfl
/-- calls of the law's own and the library's methods -/
theorem E_cI {x : JI} {y : Nat} {as st1 : List JV} {Q : Int → LSt → Prop} {pc1 : Nat} (hc : jcode mi pc = some x) (hs : jstep x pc ls st M = some (.inr (.inl (y, as, st1)))) (hp : pc + jrl x = pc1) (hy : JX y 0 (jargs y as) [] M (P2 (QI2 Q))) (hk : ∀ z M' s', R2 s' M' → Q z s' → JX mi pc1 ls (.inl z :: st1) M' P) : JX mi pc ls st M P := by
  subst hp
  refine JX_call hc hs hy (fun v M1 ho => ?_) fun k M1 ho => ho.elim
  obtain ⟨s', h1, z, rfl, h2⟩ := ho
  exact hk z M1 s' h1 h2
theorem E_cV {x : JI} {y : Nat} {as st1 : List JV} {Q : JV → LSt → Prop} {pc1 : Nat} (hc : jcode mi pc = some x) (hs : jstep x pc ls st M = some (.inr (.inl (y, as, st1)))) (hp : pc + jrl x = pc1) (hy : JX y 0 (jargs y as) [] M (P2 (QV2 Q))) (hk : ∀ z M' s', R2 s' M' → jnl z = true → Q z s' → JX mi pc1 ls (z :: st1) M' P) : JX mi pc ls st M P := by
  subst hp
  refine JX_call hc hs hy (fun v M1 ho => ?_) fun k M1 ho => ho.elim
  obtain ⟨s', h1, z, rfl, h3, h2⟩ := ho
  exact hk z M1 s' h1 h3 h2
theorem E_cN {x : JI} {y : Nat} {as st1 : List JV} {Q : LSt → Prop} {pc1 : Nat} (hc : jcode mi pc = some x) (hs : jstep x pc ls st M = some (.inr (.inl (y, as, st1)))) (hp : pc + jrl x = pc1) (hy : JX y 0 (jargs y as) [] M (P2 (QN2 Q))) (hk : ∀ M' s', R2 s' M' → Q s' → JX mi pc1 ls st1 M' P) : JX mi pc ls st M P := by
  subst hp
  refine JX_call hc hs hy (fun v M1 ho => ?_) fun k M1 ho => ho.elim
  obtain ⟨s', h1, rfl, h2⟩ := ho
  exact hk M1 s' h1 h2
theorem R2_ob (hM : R2 s M) : jtag M 0 = 10 := by
  have := Rl_tag hM.1 (i := 0) (t := 10) (by decide +kernel) (by decide)
  rw [this]
  decide
end L27
