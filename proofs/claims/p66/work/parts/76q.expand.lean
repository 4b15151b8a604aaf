/-! THE CLASS: expanding a class of places -/
/-- rows that expanding may use -/
def Fex (v0 v2 : Nat) (μ μ' : Mem) : Prop := (∀ b, b ≠ v0 → b ≠ v0 + 6 → b ≠ v2 → b ≠ v2 + 1 → μ' b = μ b) ∧ ∀ j, j ≠ 7 → μ' v0 j = μ v0 j
section X76
variable {μ : Mem} {v0 d : Nat} {P : List Int} {K : List Nat}
theorem c_uendA {v : Int} {i : Nat} {Q : Int → Prop} (hv : v = (i : Int)) (h : CPl μ v0 P) (hP : P.length ≤ 160) (k : ∀ w : Int, (i < P.length → w = ((en P i : Nat) : Int)) → Q w) : d_Unifier_end v0 v μ Q := by
  unfold d_Unifier_end
  rw [if_neg (by omega)]
  by_cases h1 : i < P.length
  · rw [if_pos (by omega), show v.toNat = i by omega, (h.2 i h1).2]
    exact ⟨by omega, k _ fun _ => rfl⟩
  · by_cases h2 : v < 160
    · rw [if_pos h2]
      exact ⟨by omega, k _ fun q => absurd q h1⟩
    · rw [if_neg h2]
      exact k _ fun q => absurd q h1
theorem c_upushRev {r : Nat} {v : Int} {Q : Mem → Prop} (hv : v = (r : Int)) (hC : CPl μ v0 P) (hw : wl P d = true) (hP : P.length ≤ 160) (h32 : ∀ c, c ∈ P → c < 32) (hr : r < P.length) (hU : NK μ v0 K) (hl : K.length ≤ 900)
    (k : ∀ μ', NK μ' v0 (kids P (r + 1) (ar (P.getD r 0)) ++ K) → Fst v0 μ μ' → Q μ') : d_Unifier_pushReversed v0 v μ Q := by
  unfold d_Unifier_pushReversed
  refine c_ulabel hv hC hP hr ?_
  refine c_arityOf (h32 _ (gm0 hr)) ?_
  have e1 : wr (v + 1) = ((r + 1 : Nat) : Int) := by rw [wr_id (by omega) (by omega)]; omega
  have hk : Pk P (r + 1) (ar (P.getD r 0)) := Pk.args hw hr
  have har := ar_le (P.getD r 0)
  generalize ar (P.getD r 0) = n at *
  refine c_uendA e1 hC hP fun w hwn => ?_
  have s41 : ∀ (μ1 : Mem) (K1 : List Nat), NK μ1 v0 K1 → Fst v0 μ μ1 → K1.length ≤ 950 → (n = 0 → K1 = K) → (0 < n → K1 = kids P (en P (r + 1)) (n - 1) ++ K) → d_Unifier_pushReversed_j41 v0 v (n : Int) μ1 Q := by
    intro μ1 K1 u1 u2 u3 u4 u5
    unfold d_Unifier_pushReversed_j41
    by_cases hn : 0 < n
    · rw [if_pos (by omega)]
      refine c_upush e1 u1 (by omega) fun μ2 w1 w2 w3 => ?_
      obtain ⟨m, rfl⟩ : ∃ m, n = m + 1 := ⟨n - 1, by omega⟩
      rw [u5 hn] at w1
      exact k μ2 w1 (u2.tr ⟨w2, w3⟩)
    · rw [if_neg (by omega)]
      have h0 : n = 0 := by omega
      rw [u4 h0] at u1
      subst h0
      exact k μ1 u1 u2
  have s31 : ∀ (μ1 : Mem) (K1 : List Nat), NK μ1 v0 K1 → Fst v0 μ μ1 → K1.length ≤ 940 → (n ≤ 2 → K1 = K) → (n = 3 → K1 = kids P (en P (en P (r + 1))) 1 ++ K) → d_Unifier_pushReversed_j31 v0 v (n : Int) w μ1 Q := by
    intro μ1 K1 u1 u2 u3 u4 u5
    unfold d_Unifier_pushReversed_j31
    by_cases hn : 1 < n
    · rw [if_pos (by omega)]
      have hx : r + 1 < P.length := by
        obtain ⟨m, rfl⟩ : ∃ m, n = m + 1 := ⟨n - 1, by omega⟩
        exact hk.lt
      refine c_upush (hwn hx) u1 (by omega) fun μ2 w1 w2 w3 => ?_
      refine s41 μ2 _ w1 (u2.tr ⟨w2, w3⟩) (by rw [List.length_cons]; omega) (fun q => by omega) fun _ => ?_
      rcases Nat.lt_or_ge n 3 with q | q
      · have h2 : n = 2 := by omega
        rw [u4 (by omega), h2]
        rfl
      · have h3 : n = 3 := by omega
        rw [u5 h3, h3]
        rfl
    · rw [if_neg (by omega)]
      refine s41 μ1 K1 u1 u2 (by omega) (fun _ => u4 (by omega)) fun q => ?_
      have h1 : n = 1 := by omega
      rw [u4 (by omega), h1]
      rfl
  by_cases hn : 2 < n
  · rw [if_pos (by omega)]
    have h3 : n = 3 := by omega
    subst h3
    have l1 : r + 1 < P.length := hk.lt
    have l2 : en P (r + 1) < P.length := hk.next.lt
    refine c_uendA (hwn l1) hC hP fun w2 hw2 => ?_
    refine c_upush (hw2 l2) hU (by omega) fun μ1 u1 u2 u3 => ?_
    exact s31 μ1 _ u1 ⟨u2, u3⟩ (by rw [List.length_cons]; omega) (fun q => by omega) fun _ => rfl
  · rw [if_neg (by omega)]
    exact s31 μ K hU Fst.rfl' (by omega) (fun _ => rfl) fun q => by omega
end X76
section X77
variable {μ : Mem} {v0 v2 d a b : Nat} {P X : List Int} {par R dp od : Nat → Nat}
theorem vl_rt (hw : wl P d = true) (ho : Ord P R od) (hR : ∀ i, i < P.length → R i < P.length ∧ R (R i) = R i) (hM : MGI P a b R []) {x : Nat} (hx : x < P.length) : vl (thR P R od) P x = P.getD (R x) 0 :: fvl (thR P R od) P (kids P (R x + 1) (ar (P.getD (R x) 0))) := by
  have hr := hR x hx
  have e1 := thR_vl hw ho hR hM _ x rfl hx
  have e2 := thR_vl hw ho hR hM _ (R x) rfl hr.1
  rw [hr.2] at e2
  rw [e1]
  by_cases n : P.getD (R x) 0 < 0
  · rw [Tr_eq hw ho hR hr.1 hr.2, if_pos n, ar_neg n]
    rfl
  · rw [← e2, vl_fun hr.1 n, va_kids]
theorem c_expand {q : Nat} {v : Int} {Q : Bool → Mem → Prop} (hv : v = (q : Int)) (hC : CPl μ v0 P) (hp : Par μ v0 P.length par) (hu : UF P.length par R dp) (hM : MGI P a b R []) (ho : Ord P R od) (hw : wl P d = true) (hP : P.length ≤ 160) (h32 : ∀ c, c ∈ P → c < 32) (hq : q < P.length) (hT : IsT μ v2 X) (hc : ln (v2 + 1) = 80) (h2 : v2 + 1 < v0 ∨ v0 + 7 ≤ v2)
    (kT : ∀ μ', Fex v0 v2 μ μ' → IsT μ' v2 (X ++ vl (thR P R od) P q) → Q true μ')
    (kF : ∀ μ', Fex v0 v2 μ μ' → 80 < (X ++ vl (thR P R od) P q).length → Q false μ') : d_Unifier_expand v0 v v2 μ Q := by
  unfold d_Unifier_expand
  have nn : NK (mup μ v0 7 0) v0 [] := ⟨mup_s, fun i hi => absurd hi (by simp)⟩
  refine c_upush hv nn (by simp) fun μa a1 a2 a3 => ?_
  have hFa : Fex v0 v2 μ μa := ⟨fun x k1 k2 _ _ => by rw [a2 x k1 k2, mup_r k1], fun j hj => by rw [a3 j hj, mup_k hj]⟩
  have hTa : IsT μa v2 X := hT.fr (by rw [a2 _ (by omega) (by omega), mup_r (by omega)]) (by rw [a2 _ (by omega) (by omega), mup_r (by omega)])
  refine i_Unifier_expand_l12 (Inv := fun v3 μ1 => ∃ (K : List Nat) (Y : List Int), 0 ≤ v3 ∧ v3.toNat ≤ Y.length ∧ NK μ1 v0 K ∧ (∀ x, x ∈ K → x < P.length) ∧ IsT μ1 v2 Y ∧ Y ++ fvl (thR P R od) P K = X ++ vl (thR P R od) P q ∧ K.length ≤ 1 + 2 * Y.length ∧ Fex v0 v2 μ μ1) (fun v3 _ => 81 - v3.toNat) ?_ 0 μa ⟨[q], X, Int.le_refl _, Nat.zero_le _, a1, fun x hx => by rw [List.mem_singleton.mp hx]; exact hq, hTa, by rw [fvl_cons]; exact congrArg _ (List.append_nil _), by rw [List.length_singleton]; omega, hFa⟩
  rintro v3 μ1 ⟨K, Y, h0, h3, hK, hin, hY, hE, hKl, hF⟩ W hW
  unfold d_Unifier_expand_b12
  have hYl := hY.2.1
  rw [hc] at hYl
  rw [if_neg (by omega), hK.1]
  cases K with
  | nil =>
    rw [if_neg (by simp)]
    unfold d_Unifier_expand_j62
    rw [if_pos (by rw [hK.1]; rfl)]
    have : fvl (thR P R od) P [] = [] := rfl
    rw [this, List.append_nil] at hE
    rw [hE] at hY
    exact kT μ1 hF hY
  | cons x K =>
    rw [if_pos (by rw [List.length_cons]; omega)]
    rw [List.length_cons] at hKl
    have hx := hin x (List.mem_cons_self ..)
    refine c_upopV hK (by omega) fun w3 μ2 e3 c1 c2 => ?_
    have hp2 : Par μ2 v0 P.length par := hp.fr (by rw [c2.1 _ (by omega) (by omega), hF.1 _ (by omega) (by omega) (by omega) (by omega)])
    have hC1 : CPl μ1 v0 P := hC.fr (hF.2 0 (by decide)) (hF.1 _ (by omega) (by omega) (by omega) (by omega)) (hF.1 _ (by omega) (by omega) (by omega) (by omega))
    have hC2 := hC1.st c2
    refine c_rootV e3 hu hp2 hP hx fun w5 (e5 : w5 = ((R x : Nat) : Int)) => ?_
    have hRx := hu.1 x hx
    refine c_ulabel e5 hC2 hP hRx.1 ?_
    have hY2 : IsT μ2 v2 Y := hY.fr (c2.1 _ (by omega) (by omega)) (c2.1 _ (by omega) (by omega))
    have hF2 : Fex v0 v2 μ μ2 := ⟨fun y k1 k2 k3 k4 => by rw [c2.1 y k1 k2, hF.1 y k1 k2 k3 k4], fun j hj => by rw [c2.2 j hj, hF.2 j hj]⟩
    have hvx := vl_rt hw ho hu.1 hM hx
    rw [fvl_cons, hvx] at hE
    refine c_Term_add hY2 (fun g μ3 hY3 hf3 => ?_) (fun g => ?_)
    · rw [if_pos rfl]
      have hF3 : Fex v0 v2 μ μ3 := ⟨fun y k1 k2 k3 k4 => by rw [hf3 y (by omega), hF2.1 y k1 k2 k3 k4], fun j hj => by rw [hf3 v0 (by omega), hF2.2 j hj]⟩
      have hC3 : CPl μ3 v0 P := hC2.fr (by rw [hf3 _ (by omega)]) (hf3 _ (by omega)) (hf3 _ (by omega))
      have hK3 : NK μ3 v0 K := ⟨by rw [hf3 _ (by omega)]; exact c1.1, by rw [hf3 _ (by omega)]; exact c1.2⟩
      have har := ar_le (P.getD (R x) 0)
      refine c_upushRev e5 hC3 hw hP h32 hRx.1 hK3 (by omega) fun μ4 k1 k2 => ?_
      rw [hc] at g
      rw [wr_id (by omega) (by omega)]
      refine hW _ _ ⟨_, Y ++ [P.getD (R x) 0], by omega, by rw [List.length_append, List.length_singleton]; omega, k1, fun y hy => ?_, hY3.fr (k2.1 _ (by omega) (by omega)) (k2.1 _ (by omega) (by omega)), ?_, ?_, ⟨fun y j1 j2 j3 j4 => by rw [k2.1 y j1 j2, hF3.1 y j1 j2 j3 j4], fun j hj => by rw [k2.2 j hj, hF3.2 j hj]⟩⟩ (by omega)
      · rcases List.mem_append.mp hy with e | e
        · exact kids_in _ _ (Pk.args hw hRx.1) y e
        · exact hin y (List.mem_cons_of_mem _ e)
      · rw [← hE, fvl_app]
        simp only [List.append_assoc, List.cons_append, List.nil_append]
      · rw [List.length_append, List.length_append, kids_len, List.length_singleton]
        omega
    · rw [if_neg (by decide)]
      refine kF μ2 hF2 ?_
      rw [hc] at g
      rw [← hE, List.length_append, List.cons_append, List.length_cons]
      omega
end X77

