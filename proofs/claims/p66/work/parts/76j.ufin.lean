/-! THE CLASS: isFinite -/
theorem uns_set {g g' : Nat → Int} {j N : Nat} (hj : j < N) (h0 : g j = 0) (h1 : g' j = 1) (h2 : ∀ i, i ≠ j → g' i = g i) : uns g' N + 1 = uns g N := by
  refine smN_upd N hj ?_ fun i hi => ?_
  · show (if g' j = 0 then 1 else 0) + 1 = if g j = 0 then 1 else 0
    rw [if_neg (by omega), if_pos h0]
  · rw [h2 i hi]
section J76
variable {μ : Mem} {v0 d a b : Nat} {P : List Int} {par R dp : Nat → Nat}
theorem c_isFinite {Q : Bool → Mem → Prop} (hC : CPl μ v0 P) (hw : wl P d = true) (hP : P.length ≤ 160) (h32 : ∀ c, c ∈ P → c < 32) (hp : Par μ v0 P.length par) (hu : UF P.length par R dp) (hM : MGI P a b R [])
    (kT : ∀ μ' od, (∀ x, x ≠ v0 + 4 → μ' x = μ x) → Ord P R od → Q true μ')
    (kF : ∀ μ', (∀ x, x ≠ v0 + 4 → μ' x = μ x) → (∀ σ, gdS σ → ¬ vl σ P a = vl σ P b) → Q false μ') : d_Unifier_isFinite v0 μ Q := by
  unfold d_Unifier_isFinite
  have hR := hu.1
  refine i_Unifier_isFinite_l2 (Inv := fun v1 μ1 => 0 ≤ v1 ∧ v1 ≤ 160 ∧ (∀ x, x ≠ v0 + 4 → μ1 x = μ x) ∧ ∀ i : Nat, (i : Int) < v1 → μ1 (v0 + 4) i = 0) (fun v1 _ => 160 - v1.toNat) ?_ 0 μ ⟨Int.le_refl _, by decide, fun _ _ => rfl, fun i hi => by omega⟩
  rintro v1 μ1 ⟨h0, h1, hf, hz⟩ W hW
  unfold d_Unifier_isFinite_b2
  by_cases hv : v1 < 160
  · rw [if_pos hv, wr_id (by omega) (by omega)]
    refine ⟨by omega, hW _ _ ⟨by omega, by omega, fun x hx => by rw [mup_r hx]; exact hf x hx, fun i hi => ?_⟩ (by omega)⟩
    by_cases e : i = v1.toNat
    · rw [e, mup_s]
    · rw [mup_k e]
      exact hz i (by omega)
  · rw [if_neg hv, hf v0 (by omega), hC.1]
    have hz' : ∀ i, i < P.length → μ1 (v0 + 4) i = 0 := fun i hi => hz i (by omega)
    have hun0 : uns (μ1 (v0 + 4)) P.length = P.length := by
      have : ∀ n, n ≤ P.length → uns (μ1 (v0 + 4)) n = n := by
        intro n
        induction n with
        | zero => intro _; rfl
        | succ n ih =>
          intro hn
          have e := ih (by omega)
          unfold uns at e ⊢
          rw [smN, e, if_pos (hz' n (by omega))]
      exact this _ (Nat.le_refl _)
    have hin : ∀ i, i < P.length → R i = i → ∀ x, x ∈ kids P (i + 1) (ar (P.getD i 0)) → R x < P.length := fun i hi _ x hx => (hR x (kids_in _ _ (Pk.args hw hi) x hx)).1
    refine i_Unifier_isFinite_l31 (Inv := fun v1 v2 v3 μ2 => (∀ x, x ≠ v0 + 4 → μ2 x = μ x) ∧ (∃ od c, Sto P R (μ2 (v0 + 4)) od c) ∧ v1 = (uns (μ2 (v0 + 4)) P.length : Nat) ∧ 0 ≤ v3 ∧ v3 ≤ (P.length : Int) + 1 ∧ (v2 = 0 → ∀ q, q < P.length → μ2 (v0 + 4) q = 0 → stl (μ2 (v0 + 4)) P R q = false) ∧ (v2 ≠ 0 → v1 + v3 ≤ (P.length : Int))) (fun _ _ v3 _ => 162 - v3.toNat) ?_ _ 1 0 μ1 ⟨hf, ⟨fun _ => 0, 0, fun i hi n => absurd (hz' i hi) n⟩, by rw [hun0], Int.le_refl _, by omega, fun q => absurd q (by decide), fun _ => by omega⟩
    rintro v1 v2 v3 μ2 ⟨g1, ⟨od, c, g2⟩, g3, g4, g5, g6, g7⟩ W2 hW2
    unfold d_Unifier_isFinite_b31 d_Unifier_isFinite_j99
    rw [g1 v0 (by omega), hC.1]
    have fin : v2 = 0 → (if v1 = 0 then Q true μ2 else Q false μ2) := by
      intro hv2
      by_cases e : v1 = 0
      · rw [if_pos e]
        exact kT μ2 od g1 (g2.ord hw (uns_0 (by omega)))
      · rw [if_neg e]
        refine kF μ2 g1 fun σ hσ q => ?_
        have hs := ((hM.2.1 σ hσ).mp q).1
        have : ∃ q, q < P.length ∧ μ2 (v0 + 4) q = 0 := by
          by_cases h : ∃ q, q < P.length ∧ μ2 (v0 + 4) q = 0
          · exact h
          · exfalso
            have h2 : uns (μ2 (v0 + 4)) P.length ≤ P.length * 0 := smN_le P.length fun i hi => by
              rw [if_neg (fun k => h ⟨i, hi, k⟩)]
              exact Nat.le_refl _
            omega
        obtain ⟨q, hq, hq0⟩ := this
        exact stuck hw hR hs (g6 hv2) hq hq0
    by_cases k1 : (P.length : Int) < v3
    · rw [if_pos k1]
      refine fin ?_
      by_cases e : v2 = 0
      · exact e
      · have := g7 e
        omega
    · rw [if_neg k1]
      by_cases k2 : v2 = 0
      · rw [if_pos k2]
        exact fin k2
      · rw [if_neg k2]
        have g7' := g7 k2
        refine i_Unifier_isFinite_l53 (Inv := fun v1' v2' v4 μ3 => (∀ x, x ≠ v0 + 4 → μ3 x = μ x) ∧ (∃ od c, Sto P R (μ3 (v0 + 4)) od c) ∧ v1' = (uns (μ3 (v0 + 4)) P.length : Nat) ∧ -1 ≤ v4 ∧ v4 < (P.length : Int) ∧ v1' ≤ v1 ∧ (v2' = 0 → ∀ q : Nat, v4 < q → q < P.length → μ3 (v0 + 4) q = 0 → stl (μ3 (v0 + 4)) P R q = false) ∧ (v2' ≠ 0 → v1' + 1 ≤ v1)) (fun _ _ v4 _ => (v4 + 1).toNat) ?_ _ _ _ μ2 ⟨g1, ⟨od, c, g2⟩, g3, by rw [wr_id (by omega) (by omega)]; omega, by rw [wr_id (by omega) (by omega)]; omega, Int.le_refl _, fun _ q hq1 hq2 => by rw [wr_id (by omega) (by omega)] at hq1; omega, fun q => absurd rfl q⟩
        rintro v1' v2' v4 μ3 ⟨f1, ⟨od', c', f2⟩, f3, f4, f5, f6, f7, f8⟩ W3 hW3
        unfold d_Unifier_isFinite_b53 d_Unifier_isFinite_j87
        by_cases k4 : v4 < 0
        · rw [if_pos k4, wr_id (by omega) (by omega)]
          exact hW2 _ _ _ _ ⟨f1, ⟨od', c', f2⟩, f3, by omega, by omega, fun e q hq hq0 => f7 e q (by omega) hq hq0, fun e => by have := f8 e; omega⟩ (by omega)
        · rw [if_neg k4]
          obtain ⟨q, hq⟩ : ∃ q : Nat, v4 = q := ⟨v4.toNat, by omega⟩
          have hqN : q < P.length := by omega
          have hC3 : CPl μ3 v0 P := hC.fr (by rw [f1 _ (by omega)]) (f1 _ (by omega)) (f1 _ (by omega))
          have hp3 : Par μ3 v0 P.length par := hp.fr (f1 _ (by omega))
          have nxt : wr (v4 + -1) = v4 - 1 := by rw [wr_id (by omega) (by omega)]; omega
          refine c_isSettled hq (by omega) ?_
          by_cases s : μ3 (v0 + 4) q = 0
          · rw [decide_eq_false (fun k => k s), if_neg (by decide)]
            refine c_settles hq hC3 hw hP h32 hp3 hu hqN ?_
            by_cases t : stl (μ3 (v0 + 4)) P R q = true
            · rw [if_pos t]
              unfold d_Unifier_settle
              rw [if_neg (by omega), if_pos (by omega), show v4.toNat = q by omega, nxt]
              have hun := uns_set (g := μ3 (v0 + 4)) (g' := mup μ3 (v0 + 4) q 1 (v0 + 4)) hqN s mup_s (fun i hi => mup_k hi)
              have nx1 : wr (v1' + -1) = v1' - 1 := by rw [wr_id (by omega) (by omega)]; omega
              rw [nx1]
              refine ⟨by omega, hW3 _ _ _ _ ⟨fun x hx => by rw [mup_r hx]; exact f1 x hx, ⟨_, _, f2.settle s t mup_s (fun i hi => mup_k hi) (fun i hi n => (f2 i hi n).1) hin⟩, by omega, by omega, by omega, by omega, fun e => absurd e (by decide), fun _ => by omega⟩ (by omega)⟩
            · rw [if_neg t, nxt]
              exact hW3 _ _ _ _ ⟨f1, ⟨od', c', f2⟩, f3, by omega, by omega, f6, fun e x hx1 hx2 hx3 => by
                by_cases k : x = q
                · rw [k]; exact Bool.eq_false_iff.mpr t
                · exact f7 e x (by omega) hx2 hx3, f8⟩ (by omega)
          · rw [decide_eq_true s, if_pos rfl, nxt]
            exact hW3 _ _ _ _ ⟨f1, ⟨od', c', f2⟩, f3, by omega, by omega, f6, fun e x hx1 hx2 hx3 => by
              by_cases k : x = q
              · rw [k] at hx3; exact absurd hx3 s
              · exact f7 e x (by omega) hx2 hx3, f8⟩ (by omega)
end J76

