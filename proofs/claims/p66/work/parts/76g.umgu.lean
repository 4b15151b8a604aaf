/-! THE CLASS: a most general unifier out of the classes of places -/
theorem idx_get : ∀ (L : List Int) (c : Int), c ∈ L → L.idxOf c < L.length ∧ L.getD (L.idxOf c) 0 = c := by
  intro L
  induction L with
  | nil => intro c h; cases h
  | cons x r ih =>
    intro c h
    rw [List.idxOf_cons]
    by_cases e : x = c
    · rw [beq_iff_eq.mpr e, cond_true, List.length_cons]
      exact ⟨by omega, e⟩
    · have hm : c ∈ r := by
        rcases List.mem_cons.mp h with k | k
        · exact absurd k.symm e
        · exact k
      have := ih c hm
      rw [beq_eq_false_iff_ne.mpr e, cond_false, List.length_cons]
      exact ⟨by omega, this.2⟩
theorem fm_wl {f : Nat → List Int} : ∀ K : List Nat, (∀ x, x ∈ K → wl (f x) 1 = true) → wl (K.flatMap f) K.length = true := by
  intro K
  induction K with
  | nil => intro _; rfl
  | cons x K ih =>
    intro h
    rw [List.flatMap_cons, List.length_cons, Nat.add_comm]
    exact wl_app _ _ 1 _ (h x (List.mem_cons_self ..)) (ih fun y hy => h y (List.mem_cons_of_mem _ hy))
theorem fm_map {g : Nat → List Int} {R : Nat → Nat} : ∀ K : List Nat, (K.flatMap fun x => g (R x)) = (K.map R).flatMap g := by
  intro K
  induction K with
  | nil => rfl
  | cons x K ih => rw [List.flatMap_cons, List.map_cons, List.flatMap_cons, ih]
theorem kids_ge {P : List Int} : ∀ (n p : Nat), ∀ x, x ∈ kids P p n → p ≤ x := by
  intro n
  induction n with
  | zero => intro p x h; cases h
  | succ n ih =>
    intro p x h
    rw [kids] at h
    rcases List.mem_cons.mp h with e | e
    · omega
    · have := ih _ x e
      have : p ≤ en P p := by unfold en; omega
      omega
def thR (P : List Int) (R od : Nat → Nat) : Int → List Int := fun c => if c ∈ P then Tr P R od (R (P.idxOf c)) else [c]
section G76g
variable {P : List Int} {R od : Nat → Nat} {d a b : Nat}
theorem Tr_wl (hw : wl P d = true) (ho : Ord P R od) (hR : ∀ i, i < P.length → R i < P.length ∧ R (R i) = R i) : ∀ n r, od r = n → r < P.length → R r = r → wl (Tr P R od r) 1 = true := by
  intro n
  induction n using Nat.strongRecOn with
  | _ n ih =>
    intro r hn hr hRr
    rw [Tr_eq hw ho hR hr hRr]
    by_cases k : P.getD r 0 < 0
    · rw [if_pos k]
      show wl [P.getD r 0] (0 + 1) = true
      rw [wl_cons, ar_neg k]
      rfl
    · rw [if_neg k]
      have h := fm_wl (f := fun x => Tr P R od (R x)) (kids P (r + 1) (ar (P.getD r 0))) fun x hx => by
        have hxN := kids_in _ _ (Pk.args hw hr) x hx
        have := ho r hr hRr x hx
        exact ih _ (by omega) (R x) rfl (hR x hxN).1 (hR x hxN).2
      rw [kids_len] at h
      show wl (_ :: _) (0 + 1) = true
      rw [wl_cons, Nat.zero_add]
      exact h
theorem thR_gd (hw : wl P d = true) (ho : Ord P R od) (hR : ∀ i, i < P.length → R i < P.length ∧ R (R i) = R i) : gdS (thR P R od) := by
  intro c hc
  unfold thR
  by_cases k : c ∈ P
  · rw [if_pos k]
    have := hR _ (idx_get P c k).1
    exact Tr_wl hw ho hR _ _ rfl this.1 this.2
  · rw [if_neg k]
    show wl [c] (0 + 1) = true
    rw [wl_cons, ar_neg hc]
    rfl
theorem thR_vl (hw : wl P d = true) (ho : Ord P R od) (hR : ∀ i, i < P.length → R i < P.length ∧ R (R i) = R i) (hM : MGI P a b R []) : ∀ n i, P.length - i = n → i < P.length → vl (thR P R od) P i = Tr P R od (R i) := by
  intro n
  induction n using Nat.strongRecOn with
  | _ n ih =>
    intro i hn hi
    by_cases k : P.getD i 0 < 0
    · have hm := gm0 hi
      have hg := idx_get P _ hm
      rw [vl_var hi k]
      unfold thR
      rw [if_pos hm, hM.2.2.2 _ i hg.1 hi hg.2 (by rw [hg.2]; exact k)]
    · have e1 := hM.1 i hi k
      have hRi := hR i hi
      rw [vl_fun hi k, va_kids, Tr_eq hw ho hR hRi.1 hRi.2, e1, if_neg k]
      congr 1
      have e2 := hM.2.2.1 i hi k R (fun j hj => (hR j hj).2.symm) (fun x hx => by cases hx)
      unfold fvl
      rw [fm_congr (g := fun x => Tr P R od (R x)) _ fun x hx => ?_]
      · rw [fm_map (g := fun x => Tr P R od x), e2, ← fm_map (g := fun x => Tr P R od x)]
      · have h1 := kids_in _ _ (Pk.args hw hi) x hx
        have h2 := kids_ge _ _ x hx
        exact ih _ (by omega) x rfl h1
theorem thR_mgu (hw : wl P d = true) (ho : Ord P R od) (hR : ∀ i, i < P.length → R i < P.length ∧ R (R i) = R i) (hM : MGI P a b R []) : mgu (thR P R od) (sb P a) (sb P b) := by
  have hg := thR_gd hw ho hR
  have hv : ∀ i, i < P.length → vl (thR P R od) P i = Tr P R od (R i) := fun i hi => thR_vl hw ho hR hM _ i rfl hi
  refine ⟨⟨hg, (hM.2.1 _ hg).mpr ⟨fun i hi => ?_, fun x hx => by cases hx⟩⟩, fun σ hu c hc => ?_⟩
  · rw [hv i hi, hv _ (hR i hi).1, (hR i hi).2]
  · have hs := ((hM.2.1 σ hu.1).mp hu.2).1
    unfold thR
    by_cases k : c ∈ P
    · have hi := idx_get P c k
      have hr := hR _ hi.1
      rw [if_pos k, sv_Tr hw ho hR hs _ _ rfl hr.1 hr.2, ← hs _ hi.1, vl_var hi.1 (by rw [hi.2]; exact hc), hi.2]
    · rw [if_neg k, sv_cons, if_pos hc, sv_nil, List.append_nil]
end G76g

