/-! THE REFERENCE: unification, its turns -/
def unb (μ : Mem) : Nat := smN (fun j => if μ 785 j = -1 then 1 else 0) 16
abbrev uR : List Nat := [785, 786, 787, 788, 789]
section E70
variable {P : List Int} {β : Bd} {θ : Int → List Int} {rk : Int → Nat} {c : Int} {q d : Nat} {ars : List Nat} {μ : Mem} {S : Ps}
theorem RsB.bd {σ : Int → List Int} (hb : β c = none) (hc : c < 0) : RsB P (bdS β c q) σ ↔ RsB P β σ ∧ σ c = vl σ P q := by
  constructor
  · intro h
    exact ⟨h.old hb, h c q hc (by unfold bdS; rw [if_pos rfl])⟩
  · rintro ⟨h1, h2⟩ w r hw e
    unfold bdS at e
    by_cases k : w = c
    · rw [if_pos k] at e
      injection e with e
      rw [k, ← e]
      exact h2
    · rw [if_neg k] at e
      exact h1 w r hw e
theorem c_means {x y : Nat} {Q : Bool → Mem → Prop} (hI : RI P β θ) (hpo : PoM μ P) (hok : pok ars P d) (hA : AR μ ars) (hbd : MBd μ β) (hin : BdIn P β) (hk : RK P β rk) (hx : x < P.length) (hc : P.getD x 0 < 0) (hcb : β (P.getD x 0) = none) (hy : y < P.length)
    (kT : ∀ μ', Gm uR [36] μ μ' → μ' 772 = μ 772 → μ' 786 = μ 786 → μ' 787 = μ 787 → MBd μ' (bdS β (P.getD x 0) y) → unb μ' + 1 = unb μ → ¬ P.getD x 0 ∈ vl θ P y → Q true μ')
    (kF : ∀ μ', Gm uR [36] μ μ' → P.getD x 0 ∈ vl θ P y → Q false μ') : d_Md_means (x : Int) (y : Int) μ Q := by
  unfold d_Md_means
  have h400 := hok.2.2.1
  have hcn := hok.2.2.2 _ (gm0 hx)
  have h16 := hcn.1 hc
  rw [Int.toNat_natCast, meg hpo.2 hx]
  refine ⟨by omega, c_occurs hI hpo hok hA hbd hin hk hc hcn hcb hy fun μ2 hG => ?_⟩
  have hG' : Gm uR [36] μ μ2 := hG.mono (by decide) (by decide)
  by_cases ho : P.getD x 0 ∈ vl θ P y
  · rw [decide_eq_true ho, if_pos rfl]
    exact kF μ2 hG' ho
  · rw [decide_eq_false ho, if_neg (by decide)]
    rw [hG.1 784 (by decide) (by decide), meg hpo.2 hx, enc_neg hc]
    rw [show wr (99 - P.getD x 0 - 100) = -1 - P.getD x 0 by rw [wr_id (by omega) (by omega)]; omega]
    have e785 : μ2 785 = μ 785 := hG.1 785 (by decide) (by decide)
    have hb := hbd.at hc (by omega)
    rw [hcb] at hb
    dsimp only at hb
    refine ⟨by omega, by omega, kT _ (hG'.tr (Gm.upR (a := 785) (by decide)) (by decide) (by decide) (by decide) (by decide)) ?_ ?_ ?_ ?_ ?_ ho⟩
    · rw [mup_r (by decide)]
      exact funext fun j => hG.2 j (by simp)
    · rw [mup_r (by decide), hG.1 786 (by decide) (by decide)]
    · rw [mup_r (by decide), hG.1 787 (by decide) (by decide)]
    · intro j hj
      unfold bdS
      by_cases e : j = (-1 - P.getD x 0).toNat
      · rw [e, mup_s, if_pos (show (-1 - (((-1 - P.getD x 0).toNat : Nat) : Int)) = P.getD x 0 by omega)]
      · rw [mup_k e, e785, if_neg (show ¬ (-1 - (j : Int)) = P.getD x 0 by omega)]
        exact hbd j hj
    · unfold unb
      refine smN_upd (j := (-1 - P.getD x 0).toNat) 16 (by omega) ?_ fun i hi => ?_
      · have hy1 : ¬ ((y : Nat) : Int) = -1 := by omega
        rw [mup_s, if_neg hy1, if_pos hb]
      · rw [mup_k hi, e785]
theorem UStk.same {μ' : Mem} (h : UStk μ S) (h1 : μ' 772 = μ 772) (h2 : μ' 786 = μ 786) (h3 : μ' 787 = μ 787) : UStk μ' S := by
  unfold UStk at *
  rw [h1, h2, h3]
  exact h
theorem vl_pos {σ : Int → List Int} (hok : wl P d = true) (hg : gdS σ) (hq : q < P.length) : 0 < (vl σ P q).length := wl_len (d := 0) (vl_wl hg (n := 0) (Pk.one hok hq))
theorem c_isEqualTo {a b r s : Nat} {Q : Bool → Mem → Prop} (hI : RI P β θ) (hpo : PoM μ P) (hok : pok ars P d) (hA : AR μ ars) (hbd : MBd μ β) (hin : BdIn P β) (hk : RK P β rk) (hU : UStk μ S) (hS : InS P S) (hsb : SufB P β S) (hanc : S.length ≤ 3 * anc P β a)
    (ha : a < P.length) (hr : r < P.length) (hs : s < P.length) (her : ∀ σ, RsB P β σ → vl σ P r = vl σ P a) (hes : ∀ σ, RsB P β σ → vl σ P s = vl σ P b) (hnr : P.getD r 0 < 0 → β (P.getD r 0) = none) (hns : P.getD s 0 < 0 → β (P.getD s 0) = none)
    (kT : ∀ μ' β' θ' S', Gm uR [36] μ μ' → MBd μ' β' → BdIn P β' → RI P β' θ' → (∃ rk', RK P β' rk') → UStk μ' S' → InS P S' → SufB P β' S' → (∀ σ, gdS σ → ((RsB P β' σ ∧ AllE P σ S') ↔ (RsB P β σ ∧ vl σ P a = vl σ P b ∧ AllE P σ S))) → (unb μ' < unb μ ∨ (unb μ' = unb μ ∧ θ' = θ ∧ szS P θ S' < (vl θ P a).length + szS P θ S)) → Q true μ')
    (kF : ∀ μ', Gm uR [36] μ μ' → (∀ σ, gdS σ → RsB P β σ → ¬ vl σ P a = vl σ P b) → Q false μ') : d_Md_isEqualTo (r : Int) (s : Int) μ Q := by
  unfold d_Md_isEqualTo d_Md_isEqualTo_j33
  have h400 := hok.2.2.1
  have hcr := hok.2.2.2 _ (gm0 hr)
  have hcs := hok.2.2.2 _ (gm0 hs)
  have hla := vl_pos hok.2.1 hI.1 ha
  have hanl := anc_le P β a
  -- the same place or the same variable
  have same : (∀ σ, gdS σ → RsB P β σ → vl σ P a = vl σ P b) → Q true μ := fun h =>
    kT μ β θ S Gm.rfl' hbd hin hI ⟨rk, hk⟩ hU hS hsb (fun σ hσ => ⟨fun q => ⟨q.1, h σ hσ q.1, q.2⟩, fun q => ⟨q.1, q.2.2⟩⟩) (Or.inr ⟨rfl, rfl, by omega⟩)
  -- a variable gets a meaning
  have vrB : ∀ x y : Nat, x < P.length → y < P.length → (hc : P.getD x 0 < 0) → β (P.getD x 0) = none → (P.getD y 0 < 0 → β (P.getD y 0) = none) → ¬ P.getD x 0 = P.getD y 0 → (∀ σ, RsB P β σ → (vl σ P x = vl σ P y ↔ vl σ P a = vl σ P b)) → d_Md_means (x : Int) (y : Int) μ Q := by
    intro x y hx hy hc hcb hyb hne hxy
    refine c_means hI hpo hok hA hbd hin hk hx hc hcb hy (fun μ' hG h2 h6 h7 hb hu ho => ?_) (fun μ' hG ho => ?_)
    · refine kT μ' _ _ S hG hb ?_ (hI.bind hok.2.1 hc hcb hy ho) (hk.bind hI hc hcb ho) (hU.same h2 h6 h7) hS (hsb.mono fun σ h => h.old hcb) (fun σ hσ => ?_) (Or.inl (by omega))
      · intro w z e
        unfold bdS at e
        by_cases k : w = P.getD x 0
        · rw [if_pos k] at e
          injection e with e
          rw [← e]; exact hy
        · rw [if_neg k] at e
          exact hin w z e
      · rw [RsB.bd hcb hc, ← vl_var (σ := σ) hx hc]
        constructor
        · rintro ⟨⟨q1, q2⟩, q3⟩
          exact ⟨q1, (hxy σ q1).mp q2, q3⟩
        · rintro ⟨q1, q2, q3⟩
          exact ⟨⟨q1, (hxy σ q1).mpr q2⟩, q3⟩
    · refine kF μ' hG fun σ hσ hs' e => ?_
      have e2 := (hxy σ hs').mpr e
      rw [vl_var hx hc] at e2
      by_cases n : P.getD y 0 < 0
      · rw [vl_var hy n, hI.2.1 _ n (hyb n)] at ho
        exact hne (List.mem_singleton.mp ho)
      · exact hI.occ hc hy n ho hσ hs' e2
  by_cases ers : r = s
  · subst ers
    rw [if_pos rfl]
    exact same fun σ _ h => by rw [← her σ h, ← hes σ h]
  · rw [if_neg (by omega), Int.toNat_natCast, Int.toNat_natCast, meg hpo.2 hr, meg hpo.2 hs]
    refine ⟨by omega, ?_⟩
    by_cases n : P.getD r 0 < 0
    · have e1 := enc_neg n
      have hlr := enc_lt hcr hok.1
      rw [if_neg (by omega)]
      refine ⟨by omega, by omega, ?_⟩
      by_cases ev : P.getD r 0 = P.getD s 0
      · rw [if_pos (by rw [ev])]
        exact same fun σ _ h => by rw [← her σ h, ← hes σ h, vl_var hr n, vl_var hs (by rw [← ev]; exact n), ev]
      · rw [if_neg (fun k => ev ((enc_inj hcr hcs hok.1).mp k))]
        refine ⟨by omega, ?_⟩
        rw [if_neg (by omega)]
        exact vrB r s hr hs n (hnr n) hns ev fun σ h => by rw [her σ h, hes σ h]
    · have hlr := enc_lt hcr hok.1
      rw [if_pos (by omega)]
      refine ⟨by omega, ?_⟩
      rw [if_pos (by omega)]
      refine ⟨by omega, ?_⟩
      by_cases m : P.getD s 0 < 0
      · have hls := enc_lt hcs hok.1
        rw [if_neg (by omega)]
        exact vrB s r hs hr m (hns m) hnr (fun k => n (by rw [← k]; exact m)) fun σ h => by rw [her σ h, hes σ h]; exact ⟨fun q => q.symm, fun q => q.symm⟩
      · have hls := enc_lt hcs hok.1
        rw [if_pos (by omega)]
        refine ⟨by omega, by omega, ?_⟩
        by_cases eh : P.getD r 0 = P.getD s 0
        · rw [if_pos (by rw [eh])]
          have hvr : ∀ σ, vl σ P r = P.getD r 0 :: va σ P (r + 1) (ar (P.getD r 0)) := fun σ => vl_fun hr n
          refine c_owesArgs hpo hok hA hr hs eh hU hS (by omega) hI.1 hsb (fun x hx hl => ?_) (fun μ' S' u1 u2 u3 u4 u5 u6 => ?_)
          · have := anc_child (a := a) hI hr her (x := x) fun σ hσ => by
              have := hl σ hσ
              rw [hvr, List.length_cons]
              omega
            omega
          · have e785 : μ' 785 = μ 785 := u2.1 785 (by decide) (by decide)
            refine kT μ' β θ S' (u2.mono (by decide) (by decide)) (by unfold MBd; rw [e785]; exact hbd) hin hI ⟨rk, hk⟩ u1 u3 u4 (fun σ hσ => ?_) (Or.inr ⟨by unfold unb; rw [e785], rfl, ?_⟩)
            · rw [u6 σ hσ]
              have hv := vl_eq_fun (σ := σ) hr hs n m
              rw [← eh] at hv
              constructor
              · rintro ⟨q1, q2, q3⟩
                exact ⟨q1, by rw [← her σ q1, ← hes σ q1]; exact hv.mpr ⟨rfl, q3⟩, q2⟩
              · rintro ⟨q1, q2, q3⟩
                rw [← her σ q1, ← hes σ q1] at q2
                exact ⟨q1, q3, (hv.mp q2).2⟩
            · have := congrArg List.length (hvr θ)
              rw [her θ hI.2.2.1, List.length_cons] at this
              omega
        · rw [if_neg (fun k => eh ((enc_inj hcr hcs hok.1).mp k))]
          refine kF μ Gm.rfl' fun σ hσ h e => ?_
          rw [← her σ h, ← hes σ h] at e
          exact eh ((vl_eq_fun hr hs n m).mp e).1
end E70
