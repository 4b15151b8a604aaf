/-! THE CLASS: unites, unify -/
section P76
variable {μ : Mem} {A : AS}
theorem c_unites {v0 v1 v2 : Nat} {S T : List Int} {ars : List Nat} {Q : Bool → Mem → Prop} (hln1 : ln (v0 + 1) = 160) (hln5 : ln (v0 + 5) = 16) (h8 : ars.length ≤ 8) (hS : IsT μ v1 S) (hT : IsT μ v2 T) (okS : okt ars 8 80 S) (okT : okt ars 8 80 T) (hv1 : v1 + 1 < v0 ∨ v0 + 6 ≤ v1) (hv2 : v2 + 1 < v0 ∨ v0 + 6 ≤ v2)
    (kT : ∀ μ' par R dp od, (∀ x, x < v0 ∨ v0 + 7 ≤ x → μ' x = μ x) → CPl μ' v0 (S ++ shv T) → Par μ' v0 (S ++ shv T).length par → UF (S ++ shv T).length par R dp → MGI (S ++ shv T) 0 S.length R [] → Ord (S ++ shv T) R od → Q true μ')
    (kF : ∀ μ', (∀ x, x < v0 ∨ v0 + 7 ≤ x → μ' x = μ x) → (∀ σ, ¬ isU σ S (shv T)) → Q false μ') : d_Unifier_unites v0 v1 v2 μ Q := by
  unfold d_Unifier_unites
  have hok := pok_two h8 okS okT
  have eT : shb 8 T = shv T := if_neg (by decide)
  have eS : shb 0 S = S := if_pos rfl
  have hlT := shb_len 8 T
  rw [eT] at hlT
  have hlS := okS.2.1
  have hlT8 := okT.2.1
  have hS0 := wl_len (d := 0) okS.1
  have hT0 := wl_len (d := 0) okT.1
  have hlen : (S ++ shv T).length = S.length + T.length := by rw [List.length_append, hlT]
  have hP : (S ++ shv T).length ≤ 160 := by omega
  have h32 := okt_p32 h8 hok.2.2.2
  refine c_uclear (P := S ++ shv T) hln5 fun μ1 l1 f1 => ?_
  have hS1 : IsT μ1 v1 S := hS.fr (f1 _ (by omega) (by omega)) (f1 _ (by omega) (by omega))
  refine c_loadT (A := []) (B := shv T) (v2 := 0) (T := S) (by rw [eS]; rfl) hln1 hS1 h8 okS hv1 l1 hP (Or.inl rfl) fun μ2 l2 f2 g2 => ?_
  rw [eS, List.nil_append] at l2
  have hT2 : IsT μ2 v2 T := by
    refine hT.fr ?_ ?_
    · rw [f2 _ (by omega), f1 _ (by omega) (by omega)]
    · rw [f2 _ (by omega), f1 _ (by omega) (by omega)]
  refine c_loadT (A := S) (B := []) (v2 := 8) (T := T) (by rw [eT, List.append_nil]) hln1 hT2 h8 okT hv2 l2 hP (Or.inr rfl) fun μ3 l3 f3 g3 => ?_
  rw [eT] at l3
  have hf : ∀ x, x < v0 ∨ v0 + 7 ≤ x → μ3 x = μ x := fun x hx => by rw [f3 x (by omega), f2 x (by omega), f1 x (by omega) (by omega)]
  have s1 : sb (S ++ shv T) 0 = S := by rw [sb_appL okS.1 (by omega), sb_full okS.1]
  have s2 : sb (S ++ shv T) S.length = shv T := by
    have := sb_appR S (shv T) 0
    rw [Nat.add_zero, sb_full (by rw [wl_shv]; exact okT.1)] at this
    exact this
  refine c_solve (a := 0) (b := S.length) rfl rfl l3 hok.2.1 hP h32 (by omega) (by omega) (fun μ' par R dp od k1 k2 k3 k4 k5 k6 => ?_) (fun μ' k1 k2 => ?_)
  · exact kT μ' par R dp od (fun x hx => by rw [k1 x hx, hf x hx]) k2 k3 k4 k5 k6
  · refine kF μ' (fun x hx => by rw [k1 x hx, hf x hx]) fun σ hu => k2 σ hu.1 ?_
    have := hu.2
    unfold vl
    rw [s1, s2]
    exact this
theorem un_mgu {S T : List Int} {R dp par od : Nat → Nat} {ars : List Nat} (h8 : ars.length ≤ 8) (okS : okt ars 8 80 S) (okT : okt ars 8 80 T) (hu : UF (S ++ shv T).length par R dp) (hM : MGI (S ++ shv T) 0 S.length R []) (ho : Ord (S ++ shv T) R od) : mgu (thR (S ++ shv T) R od) S (shv T) := by
  have hok := pok_two h8 okS okT
  have hS0 := wl_len (d := 0) okS.1
  have s1 : sb (S ++ shv T) 0 = S := by rw [sb_appL okS.1 (by omega), sb_full okS.1]
  have s2 : sb (S ++ shv T) S.length = shv T := by
    have := sb_appR S (shv T) 0
    rw [Nat.add_zero, sb_full (by rw [wl_shv]; exact okT.1)] at this
    exact this
  have := thR_mgu hok.2.1 ho hu.1 hM
  rw [s1, s2] at this
  exact this
theorem ln65 : ln (65 + 1) = 160 ∧ ln (65 + 5) = 16 := by decide +kernel
theorem w_unify {Q : Int → Mem → Prop} {v1 v2 : Int} (hI : CI μ A) (hA : AOK A) (h : WQ μ A (sp_unify A v1 v2) Q) : d_Lw_unify v1 v2 μ Q := by
  unfold d_Lw_unify d_OB_unify
  unfold sp_unify at h
  refine c_reqTerm hI (fun e => ?_) (fun e en => ?_) (fun e i hv hi => c_reqTerm hI (fun e => ?_) (fun e en => ?_) (fun e k hk hkl => ?_))
  · rw [e] at h
    exact h.t1 hI Fq.rfl'
  · rw [e, decide_eq_false (fun q => en q.1)] at h
    exact h.t2 hI Fq.rfl'
  · rw [e] at h
    exact h.t1 hI Fq.rfl'
  · rw [e, decide_eq_false (fun q => en q.2)] at h
    exact h.t2 hI Fq.rfl'
  · subst hv hk
    rw [e, decide_eq_true (by omega)] at h
    simp only [Int.toNat_natCast] at h
    have h6 := hA.t6
    have t1 := tc5r i (by omega)
    have t2 := tc5r k (by omega)
    have hq : ∀ μ' : Mem, (∀ x, x < 65 ∨ 65 + 7 ≤ x → μ' x = μ x) → Fq μ μ' := fun μ' f b hb => f b (by omega)
    refine c_unites ln65.1 ln65.2 hA.ars (hI.term hi) (hI.term hkl) (hA.term hi) (hA.term hkl) (by omega) (by omega) (fun μ' par R dp od f1 f2 f3 f4 f5 f6 => ?_) (fun μ' f1 f2 => ?_)
    · rw [uni_t (un_mgu hA.ars (hA.term hi) (hA.term hkl) f4 f5 f6)] at h
      exact h.okB (b := true) ((hq μ' f1).ci hI) (hq μ' f1) (fun _ q => And.intro (by decide) q)
    · rw [uni_f f2] at h
      exact h.okB (b := false) ((hq μ' f1).ci hI) (hq μ' f1) (fun _ q => And.intro (by decide) q)
end P76

