/-! THE CLASS: unifiedSize -/
section W76
variable {μ : Mem} {A : AS}
theorem w_unifiedSize {Q : Int → Mem → Prop} {v1 v2 : Int} (hI : CI μ A) (hA : AOK A) (h : WQ μ A (sp_unifiedSize A v1 v2) Q) : d_Lw_unifiedSize v1 v2 μ Q := by
  unfold d_Lw_unifiedSize d_OB_unifiedSize
  unfold sp_unifiedSize at h
  refine c_reqTerm hI (fun e => ?_) (fun e en => ?_) (fun e i hv hi => c_reqTerm hI (fun e => ?_) (fun e en => ?_) (fun e k hk hkl => ?_))
  · rw [e] at h
    exact h.t1 hI Fq.rfl'
  · rw [e, decide_eq_false (fun q => en q.1)] at h
    exact h.t2 hI Fq.rfl'
  · rw [e] at h
    exact h.t1 hI Fq.rfl'
  · rw [e, decide_eq_false (fun q => en q.2)] at h
    exact h.t2 hI Fq.rfl'
  · subst hv hk
    rw [e, decide_eq_true (by omega)] at h
    simp only [Int.toNat_natCast] at h
    have h6 := hA.t6
    have t1 := tc5r i (by omega)
    have t2 := tc5r k (by omega)
    have hq : ∀ μ' : Mem, (∀ x, x < 65 ∨ 65 + 7 ≤ x → μ' x = μ x) → Fq μ μ' := fun μ' f b hb => f b (by omega)
    have oS := hA.term hi
    have oT := hA.term hkl
    refine c_unites ln65.1 ln65.2 hA.ars (hI.term hi) (hI.term hkl) oS oT (by omega) (by omega) (fun μ' par R dp od f1 f2 f3 f4 f5 f6 => ?_) (fun μ' f1 f2 => ?_)
    · have hm := un_mgu hA.ars oS oT f4 f5 f6
      rw [usz_t hm] at h
      have hok := pok_two hA.ars oS oT
      have hS0 := wl_len (d := 0) oS.1
      have hsl := shb_len 8 ((aT A).getD k [])
      rw [show shb 8 ((aT A).getD k []) = shv ((aT A).getD k []) from if_neg (by decide)] at hsl
      have hlS := oS.2.1
      have hlT := oT.2.1
      generalize (aT A).getD i [] = S at *
      generalize (aT A).getD k [] = T at *
      rw [if_pos rfl]
      have hlen : (S ++ shv T).length = S.length + T.length := by rw [List.length_append, hsl]
      unfold d_Term_clear
      have l80 : ln (769 + 1) = 80 := by decide +kernel
      have e0 : IsT (mup μ' 769 1 0) 769 [] := ⟨by rw [mup_s]; rfl, Nat.zero_le _, Sg.nil⟩
      have r0 : ∀ b, b ≠ 769 → mup μ' 769 1 0 b = μ' b := fun b hb => mup_r hb
      have hvl : vl (thR (S ++ shv T) R od) (S ++ shv T) 0 = sv (thR (S ++ shv T) R od) S := by
        unfold vl
        rw [sb_appL oS.1 (by omega), sb_full oS.1]
      have fq : ∀ μ2, Fex 65 769 (mup μ' 769 1 0) μ2 → Fq μ μ2 := fun μ2 g b hb => by
        rw [g.1 b (by omega) (by omega) (by omega) (by omega), r0 b (by omega)]
        exact f1 b (by omega)
      refine c_expand (q := 0) (X := []) (od := od) rfl (f2.fr (by rw [r0 _ (by omega)]) (r0 _ (by omega)) (r0 _ (by omega))) (f3.fr (r0 _ (by omega))) f4 f5 f6 hok.2.1 (by omega) (okt_p32 hA.ars hok.2.2.2) (by omega) e0 l80 (by omega) (fun μ2 g1 g2 => ?_) (fun μ2 g1 g2 => ?_)
      · rw [if_pos rfl, g2.1]
        have g3 := g2.2.1
        rw [l80] at g3
        rw [List.nil_append, hvl] at g3 ⊢
        rw [if_pos g3] at h
        exact h.ok ((fq μ2 g1).ci hI) (fq μ2 g1) rfl
      · rw [if_neg (by decide)]
        rw [List.nil_append, hvl] at g2
        rw [if_neg (by omega)] at h
        exact h.ok ((fq μ2 g1).ci hI) (fq μ2 g1) rfl
    · rw [usz_f f2] at h
      rw [if_neg (by decide)]
      exact h.ok ((hq μ' f1).ci hI) (hq μ' f1) rfl
end W76

