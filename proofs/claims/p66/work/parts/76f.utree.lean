/-! THE CLASS: the term of a class of places -/
/-- each class lies above its arguments' classes -/
def Ord (P : List Int) (R od : Nat → Nat) : Prop := ∀ i, i < P.length → R i = i → ∀ x, x ∈ kids P (i + 1) (ar (P.getD i 0)) → od (R x) < od i
def Tn (P : List Int) (R : Nat → Nat) : Nat → Nat → List Int
  | 0, _ => []
  | n + 1, r => if P.getD r 0 < 0 then [P.getD r 0] else P.getD r 0 :: (kids P (r + 1) (ar (P.getD r 0))).flatMap fun x => Tn P R n (R x)
def Tr (P : List Int) (R od : Nat → Nat) (r : Nat) : List Int := Tn P R (od r + 1) r
section T76
variable {P : List Int} {R od : Nat → Nat} {d a b : Nat}
theorem fm_congr {f g : Nat → List Int} : ∀ K : List Nat, (∀ x, x ∈ K → f x = g x) → K.flatMap f = K.flatMap g := by
  intro K
  induction K with
  | nil => intro _; rfl
  | cons x K ih =>
    intro h
    rw [List.flatMap_cons, List.flatMap_cons, h x (List.mem_cons_self ..), ih fun y hy => h y (List.mem_cons_of_mem _ hy)]
theorem Tn_st (hw : wl P d = true) (ho : Ord P R od) (hR : ∀ i, i < P.length → R i < P.length ∧ R (R i) = R i) : ∀ n m r, r < P.length → R r = r → od r < n → od r < m → Tn P R n r = Tn P R m r := by
  intro n
  induction n with
  | zero => intro m r _ _ h; omega
  | succ n ih =>
    intro m r hr hRr h1 h2
    cases m with
    | zero => omega
    | succ m =>
      rw [Tn, Tn]
      by_cases k : P.getD r 0 < 0
      · rw [if_pos k, if_pos k]
      · rw [if_neg k, if_neg k]
        congr 1
        refine fm_congr _ fun x hx => ?_
        have hxN := kids_in _ _ (Pk.args hw hr) x hx
        have := ho r hr hRr x hx
        exact ih m (R x) (hR x hxN).1 (hR x hxN).2 (by omega) (by omega)
theorem Tr_eq (hw : wl P d = true) (ho : Ord P R od) (hR : ∀ i, i < P.length → R i < P.length ∧ R (R i) = R i) {r : Nat} (hr : r < P.length) (hRr : R r = r) : Tr P R od r = if P.getD r 0 < 0 then [P.getD r 0] else P.getD r 0 :: (kids P (r + 1) (ar (P.getD r 0))).flatMap fun x => Tr P R od (R x) := by
  unfold Tr
  rw [Tn]
  by_cases k : P.getD r 0 < 0
  · rw [if_pos k, if_pos k]
  · rw [if_neg k, if_neg k]
    congr 1
    refine fm_congr _ fun x hx => ?_
    have hxN := kids_in _ _ (Pk.args hw hr) x hx
    have := ho r hr hRr x hx
    exact Tn_st hw ho hR _ _ _ (hR x hxN).1 (hR x hxN).2 this (by omega)
/-- unifiers give each class's term the value of its places -/
theorem sv_Tr (hw : wl P d = true) (ho : Ord P R od) (hR : ∀ i, i < P.length → R i < P.length ∧ R (R i) = R i) {σ : Int → List Int} (hs : vlR P σ R) : ∀ n r, od r = n → r < P.length → R r = r → sv σ (Tr P R od r) = vl σ P r := by
  intro n
  induction n using Nat.strongRecOn with
  | _ n ih =>
    intro r hn hr hRr
    rw [Tr_eq hw ho hR hr hRr]
    by_cases k : P.getD r 0 < 0
    · rw [if_pos k, vl_var hr k, sv_cons, if_pos k, sv_nil, List.append_nil]
    · rw [if_neg k, vl_fun hr k, sv_cons, if_neg k, va_kids, List.singleton_append]
      congr 1
      unfold fvl
      have key : ∀ K : List Nat, (∀ x, x ∈ K → x < P.length ∧ od (R x) < n) → sv σ (K.flatMap fun x => Tr P R od (R x)) = K.flatMap fun y => vl σ P y := by
        intro K
        induction K with
        | nil => intro _; rfl
        | cons x K ihK =>
          intro h
          have hx := h x (List.mem_cons_self ..)
          rw [List.flatMap_cons, List.flatMap_cons, sv_app, ihK fun y hy => h y (List.mem_cons_of_mem _ hy), ih _ hx.2 (R x) rfl (hR x hx.1).1 (hR x hx.1).2, ← hs x hx.1]
      exact key _ fun x hx => ⟨kids_in _ _ (Pk.args hw hr) x hx, by rw [← hn]; exact ho r hr hRr x hx⟩
end T76

