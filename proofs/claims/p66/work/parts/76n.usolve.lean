/-! THE CLASS: solve -/
section N76
variable {μ : Mem} {v0 d a b : Nat} {P : List Int}
theorem PLd.cpl (h : PLd μ v0 P P.length) : CPl μ v0 P ∧ Par μ v0 P.length (R0 P) := ⟨⟨h.1, fun i hi => ⟨(h.2.1 i hi).1, (h.2.1 i hi).2.1⟩⟩, fun i hi => (h.2.1 i hi).2.2⟩
theorem c_solve {v w : Int} {Q : Bool → Mem → Prop} (hv : v = (a : Int)) (hw' : w = (b : Int)) (hL : PLd μ v0 P P.length) (hw : wl P d = true) (hP : P.length ≤ 160) (h32 : ∀ c, c ∈ P → c < 32) (ha : a < P.length) (hb : b < P.length)
    (kT : ∀ μ' par R dp od, (∀ x, x < v0 ∨ v0 + 7 ≤ x → μ' x = μ x) → CPl μ' v0 P → Par μ' v0 P.length par → UF P.length par R dp → MGI P a b R [] → Ord P R od → Q true μ')
    (kF : ∀ μ', (∀ x, x < v0 ∨ v0 + 7 ≤ x → μ' x = μ x) → (∀ σ, gdS σ → ¬ vl σ P a = vl σ P b) → Q false μ') : d_Unifier_solve v0 v w μ Q := by
  unfold d_Unifier_solve
  obtain ⟨hC, hp⟩ := hL.cpl
  refine c_merge hv hw' hC hw hP h32 hp UF0 MGI0 ha hb (fun μ1 par R dp f1 p1 u1 m1 => ?_) (fun μ1 f1 n1 => ?_)
  · rw [if_pos rfl]
    have hC1 := hC.mg f1
    have hfr : ∀ x, x < v0 ∨ v0 + 7 ≤ x → μ1 x = μ x := fun x hx => f1.1 x (by omega) (by omega) (by omega)
    refine c_isFinite hC1 hw hP h32 p1 u1 m1 (fun μ2 od f2 o2 => ?_) (fun μ2 f2 n2 => ?_)
    · rw [if_pos rfl]
      exact kT μ2 par R dp od (fun x hx => by rw [f2 x (by omega)]; exact hfr x hx) (hC1.fr (by rw [f2 _ (by omega)]) (f2 _ (by omega)) (f2 _ (by omega))) (p1.fr (f2 _ (by omega))) u1 m1 o2
    · rw [if_neg (by decide)]
      exact kF μ2 (fun x hx => by rw [f2 x (by omega)]; exact hfr x hx) n2
  · rw [if_neg (by decide)]
    exact kF μ1 (fun x hx => f1.1 x (by omega) (by omega) (by omega)) n1
theorem c_uclear {Q : Mem → Prop} (hln : ln (v0 + 5) = 16) (k : ∀ μ', PLd μ' v0 P 0 → (∀ x, x ≠ v0 → x ≠ v0 + 5 → μ' x = μ x) → Q μ') : d_Unifier_clear v0 μ Q := by
  unfold d_Unifier_clear
  refine c_Arrays_fill fun μ1 h1 h2 => k μ1 ⟨?_, fun i hi => by omega, fun j hj => ?_⟩ fun x hx hx5 => ?_
  · rw [h2 v0 (by omega), mup_s]
    rfl
  · rw [h1 j (by omega), if_neg (by omega)]
  · rw [h2 x (by omega), mup_r hx]
end N76

