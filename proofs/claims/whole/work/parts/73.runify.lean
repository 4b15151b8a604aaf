/-! THE REFERENCE: unify -/
theorem sb_full {T : List Int} (h : wl T 1 = true) : sb T 0 = T := by
  unfold sb
  rw [List.drop_zero, sk_wl T 1 h, List.take_of_length_le (Nat.le_refl _)]
theorem sb_appL {A B : List Int} {p d : Nat} (h : wl A d = true) (hp : p < A.length) : sb (A ++ B) p = sb A p := by
  have hw := (sb_wl h hp).1
  have e : (A ++ B).drop p = sb A p ++ (A.drop (en A p) ++ B) := by rw [List.drop_append_of_le_length (by omega), ← List.append_assoc, sb_drop]
  rw [show sb (A ++ B) p = ((A ++ B).drop p).take (sk ((A ++ B).drop p) 1) from rfl, e, sk_app _ _ _ hw, List.take_left]
theorem sb_appR (A B : List Int) (p : Nat) : sb (A ++ B) (A.length + p) = sb B p := by
  unfold sb
  rw [← List.drop_drop, List.drop_left]
abbrev uR4 : List Nat := [784, 785, 786, 787, 788, 789]
abbrev uF4 : List Nat := [35, 36]
noncomputable def uni (s t : List Int) : Bool := (mguOf s t).isSome
theorem uni_t {s t : List Int} {θ : Int → List Int} (h : mgu θ s t) : uni s t = true := by
  obtain ⟨η, e, _⟩ := mguOf_some h
  unfold uni
  rw [e]
  rfl
theorem uni_f {s t : List Int} (h : ∀ σ, ¬ isU σ s t) : uni s t = false := by
  unfold uni
  rw [mguOf_none h]
  rfl
theorem okt_okn {ars : List Nat} {m n : Nat} {T : List Int} (h : okt ars m n T) : ∀ c, c ∈ T → okn ars m c := h.2.2
section Z73
variable {μ : Mem} {A : AS}
theorem c_unifiesTerms {i j : Nat} {Q : Bool → Mem → Prop} (hI : MI μ A) (hA : AOK A) (hi : i < (aT A).length) (hj : j < (aT A).length)
    (kT : ∀ μ' β θ, Gm uR4 uF4 μ μ' → PoM μ' ((aT A).getD i [] ++ shv ((aT A).getD j [])) → MBd μ' β → BdIn ((aT A).getD i [] ++ shv ((aT A).getD j [])) β → RI ((aT A).getD i [] ++ shv ((aT A).getD j [])) β θ → (∃ rk, RK ((aT A).getD i [] ++ shv ((aT A).getD j [])) β rk) → mgu θ ((aT A).getD i []) (shv ((aT A).getD j [])) → Q true μ')
    (kF : ∀ μ', Gm uR4 uF4 μ μ' → (∀ σ, ¬ isU σ ((aT A).getD i []) (shv ((aT A).getD j []))) → Q false μ') : d_Md_unifiesTerms (i : Int) (j : Int) μ Q := by
  unfold d_Md_unifiesTerms
  have h6 := hA.t6
  have hAR := hI.AR hA
  have h8 : (arS (aS A)).length ≤ 8 := hAR.1
  have hoi := hA.term hi
  have hoj := hA.term hj
  have hli := hoi.2.1
  have hlj := hoj.2.1
  have hmi := hI.term hi
  have hmj := hI.term hj
  have hsi := hI.size hi
  have hsj := hI.size hj
  generalize (aT A).getD i [] = S at *
  generalize (aT A).getD j [] = T at *
  refine c_empties fun μ1 g1 p1 z1 => ?_
  have e1 : μ1 773 = μ 773 := g1.1 773 (by decide) (by decide)
  refine c_sizeOf (by omega) ?_
  rw [e1, hsi]
  have ev : ∀ n : Nat, n < 6 → wr (wr (223 + wr (81 * (n : Int))) + 1) = ((224 + 81 * n : Nat) : Int) := fun n hn => by
    simp (disch := omega) only [wr_id]
    omega
  rw [ev i (by omega)]
  refine c_pools (ars := arS (aS A)) rfl rfl p1 (by rw [e1]; exact hmi) (by omega) (by rw [List.length_nil]; omega) hoi.2.2 h8 fun μ2 g2 p2 => ?_
  have e2 : μ2 773 = μ 773 := by rw [g2.1 773 (by decide) (by decide), e1]
  refine c_sizeOf (by omega) ?_
  rw [e2, hsj, ev j (by omega)]
  rw [List.nil_append, show shb 0 S = S from if_pos rfl] at p2
  refine c_pools (ars := arS (aS A)) rfl rfl p2 (by rw [e2]; exact hmj) (by omega) (by omega) hoj.2.2 h8 fun μ3 g3 p3 => ?_
  have eT : shb 1 T = shv T := if_neg (by decide)
  have okS := shb_okn (v := 0) hoi.2.2
  have okT := shb_okn (v := 1) hoj.2.2
  rw [eT] at p3 okT
  rw [show shb 0 S = S from if_pos rfl] at okS
  have hlT : (shv T).length = T.length := by rw [← eT]; exact shb_len 1 T
  have hwT : wl (shv T) 1 = true := by rw [wl_shv]; exact hoj.1
  have hG : Gm uR4 uF4 μ μ3 := ((g1.tr g2 (r := uR4) (f := uF4) (by decide) (by decide) (by decide) (by decide)).tr g3 (by decide) (by decide) (by decide) (by decide))
  have hok : pok (arS (aS A)) (S ++ shv T) 2 := ⟨h8, wl_app _ _ 1 1 hoi.1 hwT, by rw [List.length_append]; omega, fun c hc => by
    rcases List.mem_append.mp hc with q | q
    · exact okS c q
    · exact okT c q⟩
  have hS0 := wl_len (d := 0) hoi.1
  have hT0 := wl_len (d := 0) hwT
  have s1 : sb (S ++ shv T) 0 = S := by rw [sb_appL hoi.1 (by omega), sb_full hoi.1]
  have s2 : sb (S ++ shv T) S.length = shv T := by
    have := sb_appR S (shv T) 0
    rw [Nat.add_zero, sb_full hwT] at this
    exact this
  have z3 : ∀ k, k < 16 → μ3 785 k = -1 := fun k hk => by rw [g3.1 785 (by decide) (by decide), g2.1 785 (by decide) (by decide)]; exact z1 k hk
  refine c_unifies (a := 0) (b := S.length) p3 hok (hAR.gm (hG.1 773 (by decide) (by decide))) z3 (by rw [List.length_append]; omega) (by rw [List.length_append]; omega) (fun μ' β θ q1 q2 q3 q4 q5 q6 => ?_) (fun μ' q1 q2 => ?_)
  · rw [s1, s2] at q6
    exact kT μ' β θ (hG.tr q1 (by decide) (by decide) (by decide) (by decide)) (p3.gm q1) q2 q3 q4 q5 q6
  · rw [s1, s2] at q2
    exact kF μ' (hG.tr q1 (by decide) (by decide) (by decide) (by decide)) q2
noncomputable def sp_unify (A : AS) (v1 v2 : Int) : Int × Int := g1 (aL A) (decide ((0 ≤ v1 ∧ v1 < ((aT A).length : Int)) ∧ 0 ≤ v2 ∧ v2 < ((aT A).length : Int))) (b2i (uni ((aT A).getD v1.toNat []) (shv ((aT A).getD v2.toNat []))))
theorem mm_unify {Q : Bool → Mem → Prop} {v1 v2 : Int} (hI : MI μ A) (hA : AOK A) (h : MQB μ A (sp_unify A v1 v2) Q) : d_Md_unify v1 v2 μ Q := by
  unfold d_Md_unify
  unfold sp_unify at h
  refine c_mayTerms hI hA (fun e => ?_) (fun e en => ?_) (fun e i k hv hk hi hkl => ?_)
  · rw [e] at h
    exact h.t1 hI
  · rw [e, decide_eq_false en] at h
    exact h.t2 hI
  · subst hv hk
    rw [e, decide_eq_true (by omega)] at h
    simp only [Int.toNat_natCast] at h
    have hI0 : MI (mup μ 772 0 0) A := hI.f0 (by decide)
    rw [if_pos rfl]
    refine c_unifiesTerms hI0 hA hi hkl (fun μ' β θ hG _ _ _ _ _ hm => ?_) (fun μ' hG hu => ?_)
    · rw [if_pos rfl]
      rw [uni_t hm] at h
      exact h.ok hI (hG.mono (by decide) (by decide)) rfl
    · rw [if_neg (by decide)]
      rw [uni_f hu] at h
      exact h.ok hI (hG.mono (by decide) (by decide)) rfl
end Z73
