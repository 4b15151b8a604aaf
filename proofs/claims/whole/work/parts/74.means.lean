/-! THE REFERENCE: what a place means is built -/
def kids (P : List Int) : Nat → Nat → List Nat
  | _, 0 => []
  | p, n + 1 => p :: kids P (en P p) n
theorem kids_len (P : List Int) : ∀ (n p : Nat), (kids P p n).length = n := by
  intro n
  induction n with
  | zero => intro p; rfl
  | succ n ih => intro p; rw [kids, List.length_cons, ih]
def fvl (θ : Int → List Int) (P : List Int) (K : List Nat) : List Int := K.flatMap fun y => vl θ P y
theorem fvl_cons {θ : Int → List Int} {P : List Int} {x : Nat} {K : List Nat} : fvl θ P (x :: K) = vl θ P x ++ fvl θ P K := by
  unfold fvl
  rw [List.flatMap_cons]
theorem fvl_app {θ : Int → List Int} {P : List Int} {K K' : List Nat} : fvl θ P (K ++ K') = fvl θ P K ++ fvl θ P K' := by
  unfold fvl
  rw [List.flatMap_append]
theorem va_kids {θ : Int → List Int} {P : List Int} : ∀ (n p : Nat), va θ P p n = fvl θ P (kids P p n) := by
  intro n
  induction n with
  | zero => intro p; rw [va_zero]; rfl
  | succ n ih => intro p; rw [va_succ, kids, fvl_cons, ih]
theorem kids_in {P : List Int} : ∀ (n p : Nat), Pk P p n → ∀ x, x ∈ kids P p n → x < P.length := by
  intro n
  induction n with
  | zero => intro p _ x h; cases h
  | succ n ih =>
    intro p hp x h
    rw [kids] at h
    rcases List.mem_cons.mp h with e | e
    · rw [e]; exact hp.lt
    · exact ih _ hp.next x e
section M74
variable {P : List Int} {β : Bd} {θ : Int → List Int} {rk : Int → Nat} {d : Nat} {ars : List Nat} {μ : Mem}
theorem c_pushKids {K : List Nat} {p0 a : Nat} {v2 v4 v5 v6 : Int} {W9 : Int → Mem → Prop} {Q : Mem → Prop} (hM : Me (μ 784) 0 P) (hok : pok ars P d) (hA : AR μ ars) (hK : Nst (μ 788) K) (hl : K.length ≤ 1000) (ha : a ≤ 3) (hp : Pk P p0 a) (h2 : v2 = (K.length : Nat)) (h4 : v4 = a) (h5 : v5 = p0) (h6 : v6 = (a : Int) - 1)
    (k : ∀ μ', Gm [788] [] μ μ' → Nst (μ' 788) (kids P p0 a ++ K) → W9 (((kids P p0 a ++ K).length : Nat) : Int) μ') : d_Md_buildsMeaning_l69 v2 v4 v5 v6 μ W9 Q := by
  subst h2 h4 h5 h6
  have h400 := hok.2.2.1
  have hkl := kids_len P a p0
  refine i_Md_buildsMeaning_l69 (Inv := fun v5 v6 μ1 => ∃ p n : Nat, v5 = p ∧ v6 = (n : Int) - 1 ∧ n ≤ a ∧ Pk P p n ∧ (kids P p0 a).drop (a - n) = kids P p n ∧ Gm [788] [] μ μ1 ∧ (∀ i, i < K.length → μ1 788 i = μ 788 i) ∧ ∀ t, t < a - n → μ1 788 (K.length + a - 1 - t) = (((kids P p0 a).getD t 0 : Nat) : Int)) (fun _ v6 _ => (v6 + 1).toNat) ?_ _ _ μ ⟨p0, a, rfl, rfl, Nat.le_refl _, hp, by rw [Nat.sub_self, List.drop_zero], Gm.rfl', fun _ _ => rfl, fun t ht => by omega⟩
  rintro _ _ μ1 ⟨p, n, rfl, rfl, hna, g1, g2, g3, g4, g5⟩ W hW
  unfold d_Md_buildsMeaning_b69
  cases n with
  | zero =>
    rw [if_pos (by omega), wr_id (by omega) (by omega)]
    have := k μ1 g3 (fun i hi => ?_)
    · rw [List.length_append, hkl] at this
      rw [show (K.length : Int) + (a : Int) = ((a + K.length : Nat) : Int) by omega]
      exact this
    · rw [List.length_append, hkl] at hi ⊢
      by_cases e : i < K.length
      · rw [g4 i e, hK i e, List.getD_eq_getElem?_getD, List.getD_eq_getElem?_getD, List.getElem?_append_right (by omega), hkl, show a + K.length - 1 - i - a = K.length - 1 - i by omega]
      · have := g5 (a + K.length - 1 - i) (by omega)
        rw [show K.length + a - 1 - (a + K.length - 1 - i) = i by omega] at this
        rw [this, List.getD_eq_getElem?_getD, List.getD_eq_getElem?_getD, List.getElem?_append_left (by omega)]
  | succ n =>
    have e1 : wr ((K.length : Int) + (((n + 1 : Nat) : Int) - 1)) = ((K.length + n : Nat) : Int) := by rw [wr_id (by omega) (by omega)]; omega
    rw [if_neg (by omega), e1, Int.toNat_natCast]
    have hG : Gm [788] [] μ (mup μ1 788 (K.length + n) (p : Int)) := g3.same (Gm.upR (a := 788) (by decide))
    refine ⟨by omega, c_behind (hA.gm (hG.1 773 (by decide) (by decide))) (by rw [hG.1 784 (by decide) (by decide)]; exact hM) (by rw [show ln 784 = 400 by decide +kernel]; exact h400) hok.2.2.2 g1.pred ?_⟩
    rw [wr_id (by omega) (by omega)]
    refine hW _ _ _ ⟨en P p, n, rfl, by omega, by omega, g1.next, ?_, hG, fun i hi => by rw [mup_k (by omega)]; exact g4 i hi, fun t ht => ?_⟩ (by omega)
    · rw [show a - n = (a - (n + 1)) + 1 by omega, ← List.drop_drop, g2]
      rfl
    · by_cases e : t = a - (n + 1)
      · have : (kids P p0 a).getD t 0 = p := by
          have h := congrArg (fun L => L.getD 0 0) g2
          rw [kids, List.getD_eq_getElem?_getD, List.getElem?_drop, Nat.add_zero, ← List.getD_eq_getElem?_getD, ← e] at h
          exact h
        rw [this, show K.length + a - 1 - t = K.length + n by omega, mup_s]
      · rw [mup_k (by omega)]
        exact g5 t (by omega)
theorem c_buildsMeaning {q : Nat} {X : List Int} {Q : Mem → Prop} (hI : RI P β θ) (hpo : PoM μ P) (hok : pok ars P d) (hA : AR μ ars) (hbd : MBd μ β) (hin : BdIn P β) (hk : RK P β rk) (hq : q < P.length) (hX : BL μ X) (hXl : X.length ≤ 100)
    (k : ∀ μ' Y R, Gm [781, 788] [26] μ μ' → BL μ' Y → Y ++ R = X ++ vl θ P q → (Y.length ≤ 80 → R = []) → Y.length ≤ 100 → Q μ') : d_Md_buildsMeaning (q : Int) μ Q := by
  unfold d_Md_buildsMeaning
  have h400 := hok.2.2.1
  have hX0 : BL (mup μ 788 0 (q : Int)) X := by unfold BL; rw [mup_r (by decide), mup_r (by decide)]; exact hX
  refine i_Md_buildsMeaning_l9 (Inv := fun v2 μ1 => ∃ (K : List Nat) (Y : List Int), v2 = (K.length : Nat) ∧ Gm [781, 788] [26] μ μ1 ∧ BL μ1 Y ∧ Nst (μ1 788) K ∧ (∀ x, x ∈ K → x < P.length) ∧ Y ++ fvl θ P K = X ++ vl θ P q ∧ K.length ≤ 1 + 2 * Y.length ∧ Y.length ≤ 100) (fun _ μ1 => 81 - (μ1 772 26).toNat) ?_ 1 _ ⟨[q], X, rfl, (Gm.upR (a := 788) (by decide)).mono (by decide) (by decide), hX0, fun i hi => ?_, fun x hx => by rw [List.mem_singleton.mp hx]; exact hq, by rw [fvl_cons]; exact congrArg _ (List.append_nil _), by rw [List.length_singleton]; omega, hXl⟩
  · rintro _ μ1 ⟨K, Y, rfl, hG, hY, hst, hK, hE, hKl, hYl⟩ W hW
    unfold d_Md_buildsMeaning_b9
    cases K with
    | nil =>
      rw [if_neg (by simp)]
      exact k μ1 Y [] hG hY hE (fun _ => rfl) hYl
    | cons x K =>
      rw [if_pos (by simp), hY.1]
      by_cases h80 : 80 < Y.length
      · rw [if_pos (by omega)]
        exact k μ1 Y _ hG hY hE (fun q => by omega) hYl
      · rw [if_neg (by omega)]
        rw [List.length_cons] at hKl
        have e0 : wr ((((x :: K).length : Nat) : Int) + (-1)) = (K.length : Nat) := by rw [List.length_cons, wr_id (by omega) (by omega)]; omega
        rw [e0, Int.toNat_natCast, hst.top]
        have hb1 : MBd μ1 β := by unfold MBd; rw [hG.1 785 (by decide) (by decide)]; exact hbd
        have hp1 : PoM μ1 P := by unfold PoM; rw [hG.1 784 (by decide) (by decide), hG.2 35 (by decide)]; exact hpo
        refine ⟨by omega, c_ends hp1 hok hb1 hin hk (hK x (List.mem_cons_self ..)) fun r hr hv hnb => ?_⟩
        rw [Int.toNat_natCast, meg hp1.2 hr]
        have hcr := hok.2.2.2 _ (gm0 hr)
        have hvx : vl θ P x = P.getD r 0 :: fvl θ P (kids P (r + 1) (ar (P.getD r 0))) := by
          rw [← hv θ hI.2.2.1, ← va_kids]
          by_cases n : P.getD r 0 < 0
          · rw [vl_var hr n, hI.2.1 _ n (hnb n), ar_neg n, va_zero]
          · rw [vl_fun hr n]
        refine ⟨by omega, c_builds hY (by omega) rfl fun μ2 hY2 hG2 => ?_⟩
        have hG3 : Gm [781, 788] [26] μ μ2 := hG.tr hG2 (by decide) (by decide) (by decide) (by decide)
        have hM2 : Me (μ2 784) 0 P := by rw [hG3.1 784 (by decide) (by decide)]; exact hpo.2
        have hA2 := hA.gm (hG3.1 773 (by decide) (by decide))
        rw [meg hM2 hr]
        refine ⟨by omega, c_mArityOf hA2 hcr ?_⟩
        have har := ar_le (P.getD r 0)
        refine c_pushKids (K := K) (p0 := r + 1) (a := ar (P.getD r 0)) hM2 hok hA2 (by rw [hG2.1 788 (by decide) (by decide)]; exact hst.pop) (by omega) har (Pk.args hok.2.1 hr) rfl rfl (by rw [wr_id (by omega) (by omega)]; omega) (by rw [wr_id (by omega) (by omega)]) fun μ3 hG4 hst4 => ?_
        have e26 : μ3 772 26 = ((Y.length + 1 : Nat) : Int) := by rw [hG4.2 26 (by decide), hY2.1, List.length_append, List.length_singleton]
        refine hW _ _ ⟨_, Y ++ [P.getD r 0], rfl, hG3.tr hG4 (by decide) (by decide) (by decide) (by decide), ?_, hst4, fun y hy => ?_, ?_, ?_, by rw [List.length_append, List.length_singleton]; omega⟩ (by rw [e26, hY.1]; omega)
        · unfold BL
          rw [hG4.1 781 (by decide) (by decide), hG4.2 26 (by decide)]
          exact hY2
        · rcases List.mem_append.mp hy with e | e
          · exact kids_in _ _ (Pk.args hok.2.1 hr) y e
          · exact hK y (List.mem_cons_of_mem _ e)
        · rw [← hE, fvl_cons, hvx, fvl_app]
          simp only [List.append_assoc, List.cons_append, List.nil_append]
        · rw [List.length_append, List.length_append, kids_len, List.length_singleton]
          omega
  · rw [List.length_singleton] at hi
    have : i = 0 := by omega
    subst this
    rw [mup_s]
    rfl
end M74
