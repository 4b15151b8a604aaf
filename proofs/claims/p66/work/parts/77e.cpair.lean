/-! THE CLASS: a pair's terms -/
section C77
variable {μ : Mem} {n : Nat}
theorem c_pairEnd {A B : List Int} {Q : Bool → Mem → Prop} (hn : n < 20) (hA : IsT μ (f1 n) A) (hB : IsT μ (f2 n) B) (l1 : A.length ≤ 80) (l2 : B.length ≤ 80) (a16 : ∀ c, c ∈ A → c < 0 → -16 ≤ c) (b16 : ∀ c, c ∈ B → c < 0 → -16 ≤ c)
    (k : ∀ μ', IsT μ' (f1 n) (A.map (cnm (nms A B))) → IsT μ' (f2 n) (B.map (cnm (nms A B))) → FB n μ μ' → Q true μ') : d_PairList_buildPair_j234 (f1 n) (f2 n) 1 μ Q := by
  unfold d_PairList_buildPair_j234
  have hf := f_eq n
  refine c_Arrays_fill fun μ1 h1 h2 => ?_
  rw [if_neg (by decide)]
  have hN0 : NmC μ1 [] := fun j hj => by rw [h1 j (by rw [ln163]; omega), if_neg (by simp)]
  have hvl := vord_len A []
  rw [List.length_nil] at hvl
  refine c_nameVars (V := []) rfl (hA.fr (h2 _ (by omega)) (h2 _ (by omega))) (by omega) a16 (by simp) l1 hN0 fun w2 μ2 e2 n2 t2 g2 => ?_
  refine c_nameVars (V := vord A []) e2 (hB.fr (by rw [g2 _ (by omega) (by omega) (by omega), h2 _ (by omega)]) (by rw [g2 _ (by omega) (by omega) (by omega), h2 _ (by omega)])) (by omega) b16 (by omega) l2 n2 fun w3 μ3 e3 n3 t3 g3 => ?_
  rw [if_neg (by omega)]
  refine k μ3 ?_ t3 fun b hb => by rw [g3 b (by omega) (by omega) (by omega), g2 b (by omega) (by omega) (by omega), h2 b (by omega)]
  rw [map_nms]
  exact t2.fr (g3 _ (by omega) (by omega) (by omega)) (g3 _ (by omega) (by omega) (by omega))
theorem c_pairEnd0 {a b : Nat} {Q : Bool → Mem → Prop} (k : ∀ μ', FB n μ μ' → Q false μ') : d_PairList_buildPair_j234 a b 0 μ Q := by
  unfold d_PairList_buildPair_j234
  refine c_Arrays_fill fun μ1 h1 h2 => ?_
  rw [if_pos rfl]
  exact k μ1 fun b hb => h2 b (by omega)
end C77
section D77
variable {μ : Mem} {n p v1 : Nat} {r1 r2 : Rl2} {ars : List Nat} {par R dq od : Nat → Nat}
theorem Fex.fb {a : Nat} {μ μ1 μ2 : Mem} (h : FB n μ μ1) (h2 : Fex 140 a μ1 μ2) (ha : a = f1 n ∨ a = f2 n) : FB n μ μ2 := by
  have hf := f_eq n
  exact h.tr fun b hb => h2.1 b (by omega) (by omega) (by omega) (by omega)
theorem c_pairLoop {v3 v4 v7 : Int} {Q : Bool → Mem → Prop} (hv3 : v3 = (p : Int)) (hv4 : v4 = 0) (hv7 : v7 = ((r1.1.length + r2.1.length + r1.2.length : Nat) : Int)) (h8 : ars.length ≤ 8) (o1 : okr ars r1) (o2 : okr ars r2) (hp : p < r1.1.length) (hc1 : v1 < 100) (hn : n < 20)
    (i1 : IsT μ (dp (μ v1 0)) r1.1) (d1 : dp (μ v1 0) < 100) (hu : UF (pp r1 r2).length par R dq) (hM : MGI (pp r1 r2) p r1.1.length R []) (ho : Ord (pp r1 r2) R od)
    (kT : ∀ μ' X, pr1 r1 r2 p = some X → IsT μ' (f1 n) X.1 → IsT μ' (f2 n) X.2 → FB n μ μ' → Q true μ')
    (kF : ∀ μ', pr1 r1 r2 p = none → FB n μ μ' → Q false μ') (v10 v11 : Int) (μa : Mem) (hFa : FB n μ μa)
    (hs : (v10 = 0 ∧ pr1 r1 r2 p = none) ∨ (v10 = 1 ∧ v11 = 0 ∧ IsT μa (f2 n) [] ∧ IsT μa (f1 n) (sv (thR (pp r1 r2) R od) r1.2) ∧ CPl μa 140 (pp r1 r2) ∧ Par μa 140 (pp r1 r2).length par)) :
    d_PairList_buildPair_l129 v1 v3 v4 v7 (f1 n) (f2 n) v10 v11 μa Q := by
  obtain ⟨hok, hlen, h48⟩ := pp_ok h8 o1 o2
  obtain ⟨s1, s2, s3, s4⟩ := pp_sb o1 o2 hp
  have hm : mgu (thR (pp r1 r2) R od) (sb r1.1 p) (shv r2.1) := by
    have := thR_mgu hok.2.1 ho hu.1 hM
    rw [s1, s2] at this
    exact this
  have epr := pr1_t hm
  have on1 := pu_okn hm o1 o2 (X := r1.2) fun c hc => okn_16 (o1.2.1.2.2 c hc)
  have on2 := pu_okn hm o1 o2 (sec_okn (p := p) o1 o2)
  have h32 := okt_p32 h8 hok.2.2.2
  have hR20 := wl_len (d := 0) o2.2.1.1
  have hf := f_eq n
  obtain ⟨q1, q2, q3, q4⟩ := f12 hn
  have hvar : ∀ k, k < r1.1.length → r1.1.getD k 0 < 0 → vl (thR (pp r1 r2) R od) (pp r1 r2) k = thR (pp r1 r2) R od (r1.1.getD k 0) := fun k hk hk0 => by
    have e := pp_var (r1 := r1) (r2 := r2) hk
    rw [vl_var (by omega) (by rw [e]; exact hk0), e]
  have hv4' : vl (thR (pp r1 r2) R od) (pp r1 r2) (r1.1.length + r2.1.length + r1.2.length) = sv (thR (pp r1 r2) R od) (shv r2.2) := by
    unfold vl
    rw [s4]
  have hno : ∀ Y Z : List Int, 80 < Y.length → Y ++ Z = sv (thR (pp r1 r2) R od) (sec r1.1 (shv r2.2) p) → pr1 r1 r2 p = none := fun Y Z hY hE => by
    rw [epr, if_neg]
    intro q
    have := q.2
    rw [← hE, List.length_append] at this
    omega
  generalize hθ : thR (pp r1 r2) R od = θ at *
  refine i_PairList_buildPair_l129 (Inv := fun v10 v11 μ1 => FB n μ μ1 ∧ ((v10 = 0 ∧ pr1 r1 r2 p = none) ∨ (v10 = 1 ∧ ∃ (k : Nat) (Y : List Int), v11 = k ∧ k ≤ r1.1.length ∧ IsT μ1 (f2 n) Y ∧ Y ++ sv θ (rst r1.1 (shv r2.2) p k) = sv θ (sec r1.1 (shv r2.2) p) ∧ IsT μ1 (f1 n) (sv θ r1.2) ∧ CPl μ1 140 (pp r1 r2) ∧ Par μ1 140 (pp r1 r2).length par))) (fun v10 v11 _ => if v10 = 0 then 0 else r1.1.length + 1 - v11.toNat) ?_ v10 v11 μa ⟨hFa, ?_⟩
  · rintro v10 v11 μ1 ⟨hF, hcase⟩ W hW
    unfold d_PairList_buildPair_b129
    rcases hcase with ⟨e0, hnone⟩ | ⟨e1, k, Y, h11, hk, hY, hE, hA, hC, hpar⟩
    · rw [if_pos e0, e0]
      exact c_pairEnd0 fun μ' h => kF μ' hnone (hF.tr h)
    · have ne : ¬ v10 = 0 := by omega
      rw [if_neg ne]
      have ev : μ1 v1 = μ v1 := hF v1 (by omega)
      have hL : IsT μ1 (dp (μ v1 0)) r1.1 := i1.fr (hF _ (by omega)) (hF _ (by omega))
      rw [ev, hL.1]
      have hms : ∀ (x : Int) (b : Bool) (k' : Nat), x = (k' : Int) → k < k' → (if b2i b = 0 then 0 else r1.1.length + 1 - x.toNat) < (if v10 = 0 then 0 else r1.1.length + 1 - v11.toNat) := fun x b k' hx hk' => by
        rw [if_neg ne]
        split <;> omega
      by_cases hkl : k < r1.1.length
      · rw [if_pos (by omega)]
        by_cases hkp : k = p
        · rw [if_pos (by omega)]
          subst hkp
          rw [rst_p hp, sv_app] at hE
          have tail : ∀ (b : Bool) (μ2 : Mem), Fex 140 (f2 n) μ1 μ2 → (b = true → IsT μ2 (f2 n) (Y ++ sv θ (shv r2.2))) → (b = false → pr1 r1 r2 k = none) → d_Term_end (dp (μ2 v1 0)) v11 μ2 (fun r31 => d_Math_max v11 (wr (r31 - 1)) μ2 (fun r33 => d_PairList_buildPair_j228 v1 v3 v4 v7 (f1 n) (f2 n) (b2i b) r33 μ2 W Q)) := by
            intro b μ2 g1 g2 g3
            have hF2 := Fex.fb hF g1 (Or.inr rfl)
            have ev2 : μ2 v1 = μ v1 := hF2 v1 (by omega)
            have hen := en_gt hp
            have hel := en_le (L := r1.1) (p := k) (by omega)
            have h12 := o1.1.2.1
            rw [ev2, h11]
            refine c_Term_end (i1.fr (hF2 _ (by omega)) (hF2 _ (by omega))) (okt_32 h8 o1.1) (by omega) ?_
            have ew : wr (((en r1.1 k : Nat) : Int) - 1) = ((en r1.1 k : Nat) : Int) - 1 := wr_id (by omega) (by omega)
            rw [ew]
            refine c_Math_max fun z hz hz1 hz2 => ?_
            unfold d_PairList_buildPair_j228
            have ez : wr (z + 1) = ((en r1.1 k : Nat) : Int) := by rw [wr_id (by omega) (by omega)]; omega
            rw [ez]
            cases b with
            | true => exact hW _ _ _ ⟨hF2, Or.inr ⟨rfl, en r1.1 k, _, rfl, hel, g2 rfl, by rw [List.append_assoc]; exact hE, hA.fr (g1.1 _ (by omega) (by omega) (by omega) (by omega)) (g1.1 _ (by omega) (by omega) (by omega) (by omega)), hC.fr (g1.2 0 (by decide)) (g1.1 _ (by omega) (by omega) (by omega) (by omega)) (g1.1 _ (by omega) (by omega) (by omega) (by omega)), hpar.fr (g1.1 _ (by omega) (by omega) (by omega) (by omega))⟩⟩ (hms _ true _ rfl hen)
            | false => exact hW _ _ _ ⟨hF2, Or.inl ⟨rfl, g3 rfl⟩⟩ (hms _ false _ rfl hen)
          refine c_expand (q := r1.1.length + r2.1.length + r1.2.length) (od := od) hv7 hC hpar hu hM ho hok.2.1 (by omega) h32 (by omega) hY q2 (by omega) (fun μ2 g1 g2 => ?_) (fun μ2 g1 g2 => ?_)
          · rw [hθ, hv4'] at g2
            exact tail true μ2 g1 (fun _ => g2) fun q => by cases q
          · rw [hθ, hv4'] at g2
            exact tail false μ2 g1 (fun q => by cases q) fun _ => hno _ _ g2 (by rw [List.append_assoc]; exact hE)
        · rw [if_neg (by omega)]
          rw [rst_lt hkp hp hkl, sv_cons] at hE
          rw [h11]
          refine c_Term_getN hL hkl ?_
          have h12 := o1.1.2.1
          have tail : ∀ (b : Bool) (μ2 : Mem), Fex 140 (f2 n) μ1 μ2 → (b = true → ∃ Y', IsT μ2 (f2 n) Y' ∧ Y' ++ sv θ (rst r1.1 (shv r2.2) p (k + 1)) = sv θ (sec r1.1 (shv r2.2) p)) → (b = false → pr1 r1 r2 p = none) → d_PairList_buildPair_j226 v1 v3 v4 v7 (f1 n) (f2 n) (k : Int) (b2i b) μ2 W Q := by
            intro b μ2 g1 g2 g3
            have hF2 := Fex.fb hF g1 (Or.inr rfl)
            unfold d_PairList_buildPair_j226 d_PairList_buildPair_j228
            have ez : wr ((k : Int) + 1) = ((k + 1 : Nat) : Int) := by rw [wr_id (by omega) (by omega)]; omega
            rw [ez]
            cases b with
            | true =>
              obtain ⟨Y', y1, y2⟩ := g2 rfl
              exact hW _ _ _ ⟨hF2, Or.inr ⟨rfl, k + 1, Y', rfl, Nat.succ_le_of_lt hkl, y1, y2, hA.fr (g1.1 _ (by omega) (by omega) (by omega) (by omega)) (g1.1 _ (by omega) (by omega) (by omega) (by omega)), hC.fr (g1.2 0 (by decide)) (g1.1 _ (by omega) (by omega) (by omega) (by omega)) (g1.1 _ (by omega) (by omega) (by omega) (by omega)), hpar.fr (g1.1 _ (by omega) (by omega) (by omega) (by omega))⟩⟩ (hms _ true _ rfl (Nat.lt_succ_self k))
            | false => exact hW _ _ _ ⟨hF2, Or.inl ⟨rfl, g3 rfl⟩⟩ (hms _ false _ rfl (Nat.lt_succ_self k))
          by_cases n0 : r1.1.getD k 0 < 0
          · rw [if_pos n0]
            rw [if_pos n0] at hE
            have ewk : wr (v4 + (k : Int)) = (k : Int) := by rw [hv4, wr_id (by omega) (by omega)]; omega
            rw [ewk]
            refine c_expand (q := k) (od := od) rfl hC hpar hu hM ho hok.2.1 (by omega) h32 (by omega) hY q2 (by omega) (fun μ2 g1 g2 => ?_) (fun μ2 g1 g2 => ?_)
            · rw [hθ, hvar k hkl n0] at g2
              exact tail true μ2 g1 (fun _ => ⟨_, g2, by rw [List.append_assoc]; exact hE⟩) fun q => by cases q
            · rw [hθ, hvar k hkl n0] at g2
              exact tail false μ2 g1 (fun q => by cases q) fun _ => hno _ _ g2 (by rw [List.append_assoc]; exact hE)
          · rw [if_neg n0]
            rw [if_neg n0] at hE
            refine c_Term_add hY (fun g μ2 y2 g2 => ?_) (fun g => ?_)
            · exact tail true μ2 ⟨fun b _ _ k3 k4 => g2 b (by omega), fun j _ => by rw [g2 140 (by omega)]⟩ (fun _ => ⟨_, y2, by rw [List.append_assoc]; exact hE⟩) fun q => by cases q
            · refine tail false μ1 ⟨fun b _ _ _ _ => rfl, fun j _ => rfl⟩ (fun q => by cases q) fun _ => ?_
              rw [q2] at g
              exact hno (Y ++ [r1.1.getD k 0]) _ (by rw [List.length_append, List.length_singleton]; omega) (by rw [List.append_assoc]; exact hE)
      · rw [if_neg (by omega)]
        rw [rst_end hp (by omega), sv_nil, List.append_nil] at hE
        rw [hE] at hY
        have l1 := hA.2.1
        have l2 := hY.2.1
        rw [q1] at l1
        rw [q2] at l2
        rw [if_pos ⟨l1, l2⟩] at epr
        rw [e1]
        refine c_pairEnd hn hA hY l1 l2 (fun c hc nc => ?_) (fun c hc nc => ?_) fun μ' t1 t2 g => kT μ' _ epr t1 t2 (hF.tr g)
        · have := (on1 c hc).1 nc
          omega
        · have := (on2 c hc).1 nc
          omega
  · rcases hs with h | ⟨h1, h2, h3, h4, h5, h6⟩
    · exact Or.inl h
    · exact Or.inr ⟨h1, 0, [], h2, Nat.zero_le _, h3, by rw [rst_0, List.nil_append], h4, h5, h6⟩
theorem c_buildPair {v2 : Nat} {v3 : Int} {Q : Bool → Mem → Prop} (hv3 : v3 = (p : Int)) (h8 : ars.length ≤ 8) (o1 : okr ars r1) (o2 : okr ars r2) (hp : p < r1.1.length) (hc1 : v1 < 100) (hc2 : v2 < 100) (hn : n < 20) (hcnt : μ 139 1 = (n : Int))
    (i1 : IsT μ (dp (μ v1 0)) r1.1) (i2 : IsT μ (dp (μ v1 1)) r1.2) (i3 : IsT μ (dp (μ v2 0)) r2.1) (i4 : IsT μ (dp (μ v2 1)) r2.2) (d1 : dp (μ v1 0) < 100) (d2 : dp (μ v1 1) < 100) (d3 : dp (μ v2 0) < 100) (d4 : dp (μ v2 1) < 100)
    (kT : ∀ μ' X, pr1 r1 r2 p = some X → IsT μ' (f1 n) X.1 → IsT μ' (f2 n) X.2 → FB n μ μ' → Q true μ')
    (kF : ∀ μ', pr1 r1 r2 p = none → FB n μ μ' → Q false μ') : d_PairList_buildPair v1 v2 v3 μ Q := by
  unfold d_PairList_buildPair
  obtain ⟨hok, hlen, h48⟩ := pp_ok h8 o1 o2
  obtain ⟨s1, s2, s3, s4⟩ := pp_sb o1 o2 hp
  have hf := f_eq n
  obtain ⟨q1, q2, q3, q4⟩ := f12 hn
  have hR10 := wl_len (d := 0) o1.2.1.1
  have hFB : ∀ μ' : Mem, (∀ x, x < 140 ∨ 147 ≤ x → μ' x = μ x) → FB n μ μ' := fun μ' h b hb => h b (by omega)
  refine c_pairSolve (K := fun w1 w2 w3 w4 b μ12 => if b = true then (d_PairList_firstTerm (μ12 139 1) μ12 (fun r13 => d_PairList_secondTerm (μ12 139 1) μ12 (fun r15 => d_Term_clear r13 μ12 (fun μ18 => d_Term_clear r15 μ18 (fun μ20 => d_Unifier_expand 140 w3 r13 μ20 (fun r21 μ22 => d_PairList_buildPair_l129 v1 v3 w1 w4 r13 r15 (b2i r21) 0 μ22 Q)))))) else (Q false μ12))
    (Q := fun b μ12 => ∀ w1 w3 w4 : Int, w1 = 0 → w3 = ((r1.1.length + r2.1.length : Nat) : Int) → w4 = ((r1.1.length + r2.1.length + r1.2.length : Nat) : Int) → if b = true then (d_PairList_firstTerm (μ12 139 1) μ12 (fun r13 => d_PairList_secondTerm (μ12 139 1) μ12 (fun r15 => d_Term_clear r13 μ12 (fun μ18 => d_Term_clear r15 μ18 (fun μ20 => d_Unifier_expand 140 w3 r13 μ20 (fun r21 μ22 => d_PairList_buildPair_l129 v1 v3 w1 w4 r13 r15 (b2i r21) 0 μ22 Q)))))) else (Q false μ12))
    hv3 h8 o1 o2 hp hc1 hc2 i1 i2 i3 i4 d1 d2 d3 d4 (fun μ1 par R dq od k1 k2 k3 k4 k5 k6 w1 w3 w4 e1 e3 e4 => ?_) (fun μ1 k1 k2 w1 w3 w4 e1 e3 e4 => ?_) (fun w1 w2 w3 w4 b μ' e1 e2 e3 e4 hq => hq w1 w3 w4 e1 e3 e4)
  · rw [if_pos rfl]
    have e139 : μ1 139 = μ 139 := k1 139 (by omega)
    rw [e139]
    refine c_firstTerm hcnt hn (c_secondTerm hcnt hn ?_)
    unfold d_Term_clear
    dsimp only
    have r0 : ∀ b, b ≠ f1 n → b ≠ f2 n → mup (mup μ1 (f1 n) 1 0) (f2 n) 1 0 b = μ1 b := fun b g1 g2 => by rw [mup_r g2, mup_r g1]
    have ef : f1 n ≠ f2 n := by omega
    have t1 : IsT (mup (mup μ1 (f1 n) 1 0) (f2 n) 1 0) (f1 n) [] := ⟨by rw [mup_r ef, mup_s]; rfl, Nat.zero_le _, Sg.nil⟩
    have t2 : IsT (mup (mup μ1 (f1 n) 1 0) (f2 n) 1 0) (f2 n) [] := ⟨by rw [mup_s]; rfl, Nat.zero_le _, Sg.nil⟩
    have hF0 : FB n μ (mup (mup μ1 (f1 n) 1 0) (f2 n) 1 0) := (hFB μ1 k1).tr fun b hb => r0 b (by omega) (by omega)
    have hC0 : CPl (mup (mup μ1 (f1 n) 1 0) (f2 n) 1 0) 140 (pp r1 r2) := k2.fr (by rw [r0 _ (by omega) (by omega)]) (r0 _ (by omega) (by omega)) (r0 _ (by omega) (by omega))
    have hp0 : Par (mup (mup μ1 (f1 n) 1 0) (f2 n) 1 0) 140 (pp r1 r2).length par := k3.fr (r0 _ (by omega) (by omega))
    generalize mup (mup μ1 (f1 n) 1 0) (f2 n) 1 0 = μ2 at *
    have hv1 : vl (thR (pp r1 r2) R od) (pp r1 r2) (r1.1.length + r2.1.length) = sv (thR (pp r1 r2) R od) r1.2 := by
      unfold vl
      rw [s3]
    refine c_expand (q := r1.1.length + r2.1.length) (od := od) e3 hC0 hp0 k4 k5 k6 hok.2.1 (by omega) (okt_p32 h8 hok.2.2.2) (by omega) t1 q1 (by omega) (fun μ3 g1 g2 => ?_) (fun μ3 g1 g2 => ?_)
    · rw [hv1, List.nil_append] at g2
      have hF3 := Fex.fb hF0 g1 (Or.inl rfl)
      have g : ∀ b, b ≠ 140 → b ≠ 140 + 6 → b ≠ f1 n → b ≠ f1 n + 1 → μ3 b = μ2 b := g1.1
      refine c_pairLoop (μ := μ) hv3 e1 e4 h8 o1 o2 hp hc1 hn i1 d1 k4 k5 k6 kT kF _ _ μ3 hF3 (Or.inr ⟨rfl, rfl, t2.fr (g _ (by omega) (by omega) (by omega) (by omega)) (g _ (by omega) (by omega) (by omega) (by omega)), g2, hC0.fr (g1.2 0 (by decide)) (g _ (by omega) (by omega) (by omega) (by omega)) (g _ (by omega) (by omega) (by omega) (by omega)), hp0.fr (g _ (by omega) (by omega) (by omega) (by omega))⟩)
    · rw [hv1, List.nil_append] at g2
      have hm : mgu (thR (pp r1 r2) R od) (sb r1.1 p) (shv r2.1) := by
        have := thR_mgu hok.2.1 k6 k4.1 k5
        rw [s1, s2] at this
        exact this
      have epr := pr1_t hm
      rw [if_neg (fun q => by have := q.1; omega)] at epr
      exact c_pairLoop (μ := μ) hv3 e1 e4 h8 o1 o2 hp hc1 hn i1 d1 k4 k5 k6 kT kF _ _ μ3 (Fex.fb hF0 g1 (Or.inl rfl)) (Or.inl ⟨rfl, epr⟩)
  · rw [if_neg (by decide)]
    exact kF μ1 k2 (hFB μ1 k1)
end D77

