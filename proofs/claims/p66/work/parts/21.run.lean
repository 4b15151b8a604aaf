/-! THE PRINTED MACHINE HELD AGAINST THE PURE ONE: all methods' contracts, out of their bodies' walks -/
theorem lv_args_mem : ∀ (vs : List Value) (j : Nat), (∀ v ∈ vs, v.category = 1) → ∀ (i : Nat) (v : Value), vs[i]? = some v → (j + i, v) ∈ lv_args j vs := by
  intro vs
  induction vs with
  | nil => intro j _ i v h; simp at h
  | cons a r ih =>
    intro j hc i v h
    have ha : a.category = 1 := hc a List.mem_cons_self
    rw [lv_args, if_neg (by rw [ha]; decide)]
    cases i with
    | zero => simp at h; subst h; exact List.mem_cons_self
    | succ i =>
      have := ih (j + 1) (fun v hv => hc v (List.mem_cons_of_mem _ hv)) i v (by simpa using h)
      rw [show j + 1 + i = j + (i + 1) by omega] at this
      exact List.mem_cons_of_mem _ this
theorem lg_sl_len : ∀ (vs : List Value), (∀ v ∈ vs, v.category = 1) → (lg_sl vs).length = vs.length := by
  intro vs
  induction vs with
  | nil => intro _; rfl
  | cons a r ih =>
    intro hc
    have ha : a.category = 1 := hc a List.mem_cons_self
    have := ih fun v hv => hc v (List.mem_cons_of_mem _ hv)
    unfold lg_sl at this ⊢
    rw [List.flatMap_cons, List.length_append, this, if_neg (by rw [ha]; decide)]
    simp
    omega
theorem jLoc_entry {E : JE} {y : Nat} {as : List JV} (hmx : as.length ≤ jmaxL y) (ha : ∀ v ∈ as, jok v ∧ jc2 v = false) : jLoc E ((lg_sl (as.map (jval E)) ++ List.replicate (jmaxL y - (lg_sl (as.map (jval E))).length) Slot.unset).toArray) (jmaxL y) (jargs y as) := by
  have hc : ∀ v ∈ as.map (jval E), v.category = 1 := fun v hv => by
    obtain ⟨w, hw, rfl⟩ := List.mem_map.mp hv
    exact jval_c2 (ha w hw).2
  have hl := lv_entry (as.map (jval E)) (n := jmaxL y) (by rw [lg_sl_len _ hc, List.length_map]; exact hmx)
  refine jLoc_of hl ?_ fun i v hv hk => ?_
  · unfold jargs
    rw [List.length_append, List.length_replicate]
    omega
  · unfold jargs at hv
    by_cases hi : i < as.length
    · rw [List.getElem?_append_left hi] at hv
      refine ⟨?_, (ha v (List.mem_of_getElem? hv)).1⟩
      have := lv_args_mem (as.map (jval E)) 0 hc i (jval E v) (by rw [List.getElem?_map, hv]; rfl)
      rwa [Nat.zero_add] at this
    · rw [List.getElem?_append_right (by omega)] at hv
      have := List.mem_of_getElem? hv
      rw [(List.mem_replicate.mp this).2] at hk
      cases hk
theorem okMof {y n : Nat} {as : List JV} {M M1 : JM} {o : JO} (h : y < 275) (h32 : y ≠ 25) (hrun : jrun n y 0 as [] M = some (o, M1)) : okM (jmeths.getD y jm0) = true ∧ okX (jmeths.getD y jm0) = true := by
  have hX := okX_all h
  rw [Bool.or_eq_true] at hX
  have hX : okX (jmeths.getD y jm0) = true := by
    rcases hX with q | q
    · have := of_decide_eq_true q; omega
    · exact q
  refine ⟨?_, hX⟩
  rcases oks _ (jm_mem h) with q | q
  · exact q
  · rw [q] at hX
    have : okX jm_25 = false := by decide +kernel
    rw [this] at hX; cases hX
