/-! THE REFERENCE: unification, all its turns -/
section F71
variable {P : List Int} {d : Nat} {ars : List Nat} {μ : Mem}
theorem PoM.gm {μ' : Mem} (h : PoM μ P) (hG : Gm uR [36] μ μ') : PoM μ' P := by
  unfold PoM
  rw [hG.1 784 (by decide) (by decide), hG.2 35 (by decide)]
  exact h
theorem c_unifies {a b : Nat} {Q : Bool → Mem → Prop} (hpo : PoM μ P) (hok : pok ars P d) (hA : AR μ ars) (h0 : ∀ j, j < 16 → μ 785 j = -1) (ha : a < P.length) (hb : b < P.length)
    (kT : ∀ μ' β θ, Gm uR [36] μ μ' → MBd μ' β → BdIn P β → RI P β θ → (∃ rk, RK P β rk) → mgu θ (sb P a) (sb P b) → Q true μ')
    (kF : ∀ μ', Gm uR [36] μ μ' → (∀ σ, ¬ isU σ (sb P a) (sb P b)) → Q false μ') : d_Md_unifies (a : Int) (b : Int) μ Q := by
  unfold d_Md_unifies
  have h400 := hok.2.2.1
  have nn : ∀ f : Nat → Int, Nst f [] := fun f i hi => absurd hi (by simp)
  have hU00 : UStk (mup μ 772 36 0) [] := ⟨mup_s, nn _, nn _⟩
  refine c_owes hU00 (by simp) fun μ0 hU0 hG0 => ?_
  have hG1 : Gm uR [36] μ μ0 := (Gm.upF (k := 36)).tr hG0 (by decide) (by decide) (by decide) (by decide)
  intro W hW
  have key : ∀ (n m : Nat) (μ1 : Mem) (β : Bd) (θ : Int → List Int) (S : Ps), unb μ1 = n → szS P θ S = m → Gm uR [36] μ μ1 → MBd μ1 β → BdIn P β → RI P β θ → (∃ rk, RK P β rk) → UStk μ1 S → InS P S → SufB P β S → (∀ σ, gdS σ → (vl σ P a = vl σ P b ↔ RsB P β σ ∧ AllE P σ S)) → W μ1 := by
    intro n
    induction n using Nat.strongRecOn with
    | _ n ihn =>
      intro m
      induction m using Nat.strongRecOn with
      | _ m ihm =>
        intro μ1 β θ S hn hm hG hbd hin hI hrk hU hS hsb hE
        obtain ⟨rk, hk⟩ := hrk
        refine hW μ1 ?_
        unfold d_Md_unifies_b11
        rw [hU.1]
        cases S with
        | nil =>
          rw [if_neg (by simp)]
          refine kT μ1 β θ hG hbd hin hI ⟨rk, hk⟩ ⟨⟨hI.1, (hE θ hI.1).mpr ⟨hI.2.2.1, fun x hx => by cases hx⟩⟩, fun σ hu => hI.2.2.2 σ hu.1 ((hE σ hu.1).mp hu.2).1⟩
        | cons x S =>
          rw [if_pos (by simp)]
          have hanl := anc_le P β x.1
          have hsl : S.length ≤ 3 * anc P β x.1 := hsb.1
          have e1 : wr ((((x :: S).length : Nat) : Int) - 1) = ((S.length : Nat) : Int) := by rw [List.length_cons, wr_id (by omega) (by omega)]; omega
          rw [e1]
          have e6 : mup μ1 772 36 ((S.length : Nat) : Int) 786 = μ1 786 := mup_r (by decide)
          have e7 : mup μ1 772 36 ((S.length : Nat) : Int) 787 = μ1 787 := mup_r (by decide)
          rw [mup_s, e6, e7, Int.toNat_natCast]
          have t6 := hU.2.1.top
          have t7 := hU.2.2.top
          rw [List.length_map] at t6 t7
          rw [t6, t7]
          have hx := hS x (List.mem_cons_self ..)
          have hG2 : Gm uR [36] μ (mup μ1 772 36 ((S.length : Nat) : Int)) := hG.tr (Gm.upF (k := 36)) (by decide) (by decide) (by decide) (by decide)
          have hU2 : UStk (mup μ1 772 36 ((S.length : Nat) : Int)) S := ⟨mup_s, by rw [e6]; exact hU.2.1.pop, by rw [e7]; exact hU.2.2.pop⟩
          have e5 : mup μ1 772 36 ((S.length : Nat) : Int) 785 = μ1 785 := mup_r (by decide)
          have hbd2 : MBd (mup μ1 772 36 ((S.length : Nat) : Int)) β := by unfold MBd; rw [e5]; exact hbd
          have hub : unb (mup μ1 772 36 ((S.length : Nat) : Int)) = unb μ1 := by unfold unb; rw [e5]
          have hpo2 := hpo.gm hG2
          have hA2 := hA.gm (hG2.1 773 (by decide) (by decide))
          refine ⟨by omega, c_ends hpo2 hok hbd2 hin hk hx.1 fun r hr her hnr => ⟨by omega, c_ends hpo2 hok hbd2 hin hk hx.2 fun s hs hes hns => ?_⟩⟩
          refine c_isEqualTo hI hpo2 hok hA2 hbd2 hin hk hU2 (fun y hy => hS y (List.mem_cons_of_mem _ hy)) hsb.2 hsl hx.1 hr hs her hes hnr hns (fun μ' β' θ' S' k1 k2 k3 k4 k5 k6 k7 k8 k9 k10 => ?_) (fun μ' k1 k2 => ?_)
          · rw [if_pos rfl]
            have hE' : ∀ σ, gdS σ → (vl σ P a = vl σ P b ↔ RsB P β' σ ∧ AllE P σ S') := fun σ hσ => by rw [hE σ hσ, AllE.cons, k9 σ hσ]
            have hG3 := hG2.same k1
            rcases k10 with q | ⟨q1, q2, q3⟩
            · exact ihn (unb μ') (by omega) _ μ' β' θ' S' rfl rfl hG3 k2 k3 k4 k5 k6 k7 k8 hE'
            · subst q2
              exact ihm (szS P θ' S') (by rw [szS] at hm; omega) μ' β' θ' S' (by omega) rfl hG3 k2 k3 k4 k5 k6 k7 k8 hE'
          · rw [if_neg (by decide)]
            refine kF μ' (hG2.same k1) fun σ hu => ?_
            have := (hE σ hu.1).mp hu.2
            rw [AllE.cons] at this
            exact k2 σ hu.1 this.1 this.2.1
  have e785 : μ0 785 = μ 785 := by
    rw [hG0.1 785 (by decide) (by decide)]
    exact mup_r (by decide)
  refine key _ _ μ0 (fun _ => none) (fun c => [c]) [(a, b)] rfl rfl hG1 (fun j hj => by rw [e785]; exact h0 j hj) (fun c q e => by cases e) RI.init ⟨fun _ => 0, fun c q w _ e => by cases e⟩ hU0 (fun x hx => by rw [List.mem_singleton.mp hx]; exact ⟨ha, hb⟩) ⟨Nat.zero_le _, trivial⟩ fun σ _ => ?_
  rw [AllE.cons]
  exact ⟨fun q => ⟨(fun c r _ e => by cases e), q, fun x hx => by cases hx⟩, fun q => q.2.1⟩
end F71
