/-! THE REFERENCE: findsPair -/
section J77
variable {μ : Mem} {r1 r2 : Rl2} {ars : List Nat} {p : Nat}
theorem Gm.tr' {r f r1 f1 r2 f2 : List Nat} {μ μ1 μ2 : Mem} (h1 : Gm r1 f1 μ μ1) (h2 : Gm r2 f2 μ1 μ2) (a1 : ∀ x, x ∈ r1 → x ∈ r) (a2 : ∀ x, x ∈ r2 → x ∈ r) (b1 : ∀ x, x ∈ f1 → x ∈ f) (b2 : ∀ x, x ∈ f2 → x ∈ f) : Gm r f μ μ2 := h1.tr h2 a1 a2 b1 b2
/-- after the pool is solved -/
theorem c_findRest {i j n : Nat} {v1 v2 v3 v6 v8 v9 : Int} {β : Bd} {θ : Int → List Int} {rk : Int → Nat} {rs : List Rl2} {Q : Mem → Prop} (hi : i < rs.length) (hj : j < rs.length) (e1 : v1 = (i : Int)) (e2 : v2 = (j : Int)) (e3 : v3 = (p : Int)) (e6 : v6 = 0) (e8 : v8 = (((rs.getD i ([], [])).1.length + (rs.getD j ([], [])).1.length : Nat) : Int)) (e9 : v9 = (((rs.getD i ([], [])).1.length + (rs.getD j ([], [])).1.length + (rs.getD i ([], [])).2.length : Nat) : Int))
    (hA : AR μ ars) (hR : MRs μ rs) (o1 : okr ars (rs.getD i ([], []))) (o2 : okr ars (rs.getD j ([], []))) (hp : p < (rs.getD i ([], [])).1.length) (hcnt : μ 772 41 = (n : Int)) (hn : n < 20)
    (hI : RI (pp (rs.getD i ([], [])) (rs.getD j ([], []))) β θ) (hpo : PoM μ (pp (rs.getD i ([], [])) (rs.getD j ([], [])))) (hbd : MBd μ β) (hin : BdIn (pp (rs.getD i ([], [])) (rs.getD j ([], []))) β) (hk : RK (pp (rs.getD i ([], [])) (rs.getD j ([], []))) β rk) (hm : mgu θ (sb (rs.getD i ([], [])).1 p) (shv (rs.getD j ([], [])).1))
    (kS : ∀ μ' X, pr1 (rs.getD i ([], [])) (rs.getD j ([], [])) p = some X → FM n μ μ' → μ' 772 41 = ((n + 1 : Nat) : Int) → NtM μ' n i j p X → Q μ')
    (kN : ∀ μ', pr1 (rs.getD i ([], [])) (rs.getD j ([], [])) p = none → FM n μ μ' → μ' 772 41 = (n : Int) → Q μ') : d_Md_findsPair_l109 v1 v2 v3 v6 v8 v9 0 μ Q := by
  have h8 := hA.1
  have hMRi := hR.2.2 i hi
  generalize rs.getD i ([], []) = r1 at *
  generalize rs.getD j ([], []) = r2 at *
  obtain ⟨hok, hlen, h48⟩ := pp_ok h8 o1 o2
  obtain ⟨s1, s2, s3, s4⟩ := pp_sb o1 o2 hp
  have epr := pr1_t hm
  have on1 := pu_okn hm o1 o2 (X := r1.2) fun c hc => okn_16 (o1.2.1.2.2 c hc)
  have on2 := pu_okn hm o1 o2 (sec_okn (p := p) o1 o2)
  have hR10 := wl_len (d := 0) o1.2.1.1
  refine i_Md_findsPair_l109 (Inv := fun v10 μ1 => ∃ q : Nat, v10 = q ∧ q ≤ 16 ∧ (∀ x, x < q → μ1 793 x = -1) ∧ Gm [793] [] μ μ1) (fun v10 _ => 16 - v10.toNat) ?_ 0 μ ⟨0, rfl, Nat.zero_le _, fun x hx => by omega, Gm.rfl'⟩
  rintro v10 μ1 ⟨q, e10, hq, hz, hG1⟩ W hW
  unfold d_Md_findsPair_b109
  by_cases hq16 : q < 16
  · rw [if_pos (by omega), show v10.toNat = q by omega]
    have ew : wr (v10 + 1) = ((q + 1 : Nat) : Int) := by rw [wr_id (by omega) (by omega)]; omega
    rw [ew]
    refine ⟨by omega, hW _ _ ⟨q + 1, rfl, by omega, fun x hx => ?_, hG1.same (Gm.upR (a := 793) (by decide))⟩ (by omega)⟩
    by_cases e : x = q
    · rw [e, mup_s]
    · rw [mup_k e]
      exact hz x (by omega)
  · rw [if_neg (by omega)]
    have hG2 : Gm [793] [26, 42] μ (mup (mup μ1 772 42 0) 772 26 0) := ((hG1.tr (Gm.upF (k := 42)) (r := [793]) (f := [42]) (by decide) (by decide) (by decide) (by decide)).tr (Gm.upF (k := 26)) (by decide) (by decide) (by decide) (by decide))
    have hN2 : NmM (mup (mup μ1 772 42 0) 772 26 0) [] := ⟨by rw [mup_k (by decide), mup_s]; rfl, fun x hx => by rw [mup_r (by decide), mup_r (by decide), hz x (by omega), if_neg (by simp)]⟩
    have hB2 : BL (mup (mup μ1 772 42 0) 772 26 0) [] := BL.nil
    generalize mup (mup μ1 772 42 0) 772 26 0 = μ2 at *
    have hpo2 : PoM μ2 (pp r1 r2) := by unfold PoM; rw [hG2.1 784 (by decide) (by decide), hG2.2 35 (by decide)]; exact hpo
    have hbd2 : MBd μ2 β := by unfold MBd; rw [hG2.1 785 (by decide) (by decide)]; exact hbd
    have hv1 : vl θ (pp r1 r2) (r1.1.length + r2.1.length) = sv θ r1.2 := by
      unfold vl
      rw [s3]
    rw [e8]
    refine c_buildsMeaning (q := r1.1.length + r2.1.length) hI hpo2 hok (hA.gm (hG2.1 773 (by decide) (by decide))) hbd2 hin hk (by omega) hB2 (Nat.zero_le _) fun μ3 Y R g1 hY hE hRn hYl => ?_
    rw [hv1, List.nil_append] at hE
    have hG3 : Gm [781, 788, 793] [26, 42] μ μ3 := hG2.tr g1 (by decide) (by decide) (by decide) (by decide)
    have c3 : μ3 772 41 = (n : Int) := by rw [hG3.2 41 (by decide)]; exact hcnt
    have hel := congrArg List.length hE
    rw [List.length_append] at hel
    rw [hY.1, c3]
    by_cases h80 : 80 < Y.length
    · rw [if_pos (by omega)]
      rw [if_neg (fun q => by have := q.1; omega)] at epr
      exact kN μ3 epr (FM.of (hG3.mono (by decide) (by decide))) c3
    · rw [if_neg (by omega)]
      have hR0 := hRn (by omega)
      rw [hR0, List.append_nil] at hE
      have eA : wr (2 * (n : Int)) = ((2 * n : Nat) : Int) := by rw [wr_id (by omega) (by omega)]; omega
      rw [eA]
      have hN3 : NmM μ3 [] := hN2.gm (g1.1 793 (by decide) (by decide)) (g1.2 42 (by decide))
      refine c_keepsTerm (pl := 2 * n) rfl (by omega) h8 hY (by omega) (by rw [hE]; exact on1) hN3 (Nat.zero_le _) fun μ4 n4 a4 m4 x4 y4 g4 => ?_
      have hG4 : Gm [781, 788, 791, 792, 793] [26, 42] μ μ4 := hG3.tr g4 (by decide) (by decide) (by decide) (by decide)
      have e773 : μ4 773 = μ 773 := hG4.1 773 (by decide) (by decide)
      rw [e1]
      refine c_ofRule (k := 0) hMRi.1 (by omega) ?_
      rw [e773, Nat.add_zero, hMRi.2.2.2.1]
      have hpo4 : PoM μ4 (pp r1 r2) := by unfold PoM; rw [hG4.1 784 (by decide) (by decide), hG4.2 35 (by decide)]; exact hpo
      have hbd4 : MBd μ4 β := by unfold MBd; rw [hG4.1 785 (by decide) (by decide)]; exact hbd
      refine c_buildsSecond h8 o1 o2 hp e6 rfl e3 e9 hI hpo4 (hA.gm e773) hbd4 hin hk fun μ5 Y2 Z2 g5 hY2 hE2 hZ2 => ?_
      have hG5 : Gm [781, 788, 791, 792, 793] [26, 42] μ μ5 := hG4.tr g5 (by decide) (by decide) (by decide) (by decide)
      have c5 : μ5 772 41 = (n : Int) := by rw [hG5.2 41 (by decide)]; exact hcnt
      have e90 : ∀ x, μ5 790 x = μ 790 x := fun x => by rw [hG5.1 790 (by decide) (by decide)]
      have e91 : ∀ x, x ≠ 2 * n → μ5 791 x = μ 791 x := fun x hx => by rw [g5.1 791 (by decide) (by decide), x4 x hx, hG3.1 791 (by decide) (by decide)]
      have e92 : ∀ x, x < 80 * (2 * n) ∨ 80 * (2 * n) + 80 ≤ x → μ5 792 x = μ 792 x := fun x hx => by rw [g5.1 792 (by decide) (by decide), y4 x hx, hG3.1 792 (by decide) (by decide)]
      have hel2 := congrArg List.length hE2
      rw [List.length_append] at hel2
      rw [hY2.1, c5]
      by_cases h82 : 80 < Y2.length
      · rw [if_pos (by omega)]
        rw [if_neg (fun q => by have := q.2; omega)] at epr
        exact kN μ5 epr ⟨hG5.mono (by decide) (by decide), fun x _ => e90 x, fun x hx => e91 x (by omega), fun x hx => e92 x (by omega)⟩ c5
      · rw [if_neg (by omega)]
        have hZ0 := hZ2 (by omega)
        rw [hZ0, List.append_nil] at hE2
        rw [if_pos ⟨by rw [← hE]; omega, by rw [← hE2]; omega⟩] at epr
        have eB : wr (((2 * n : Nat) : Int) + 1) = ((2 * n + 1 : Nat) : Int) := by rw [wr_id (by omega) (by omega)]; omega
        rw [eA, eB]
        have n5 : NmM μ5 (vord Y []) := n4.gm (g5.1 793 (by decide) (by decide)) (g5.2 42 (by decide))
        have hvl := vord_len Y []
        rw [List.length_nil] at hvl
        refine c_keepsTerm (pl := 2 * n + 1) rfl (by omega) h8 hY2 (by omega) (by rw [hE2]; exact on2) n5 (by omega) fun μ6 n6 a6 m6 x6 y6 g6 => ?_
        have hG6 : Gm [781, 788, 791, 792, 793] [26, 42] μ μ6 := hG5.tr g6 (by decide) (by decide) (by decide) (by decide)
        have c6 : μ6 772 41 = (n : Int) := by rw [hG6.2 41 (by decide)]; exact hcnt
        have f91 : ∀ x, x ≠ 2 * n + 1 → μ6 791 x = μ5 791 x := x6
        have f92 : ∀ x, x < 80 * (2 * n + 1) ∨ 80 * (2 * n + 1) + 80 ≤ x → μ6 792 x = μ5 792 x := y6
        rw [hE] at m4 a4 n4
        rw [hE2] at a6
        rw [hE, hE2] at m6
        refine c_pairNotes (X := ((sv θ r1.2).map (cnm (nms (sv θ r1.2) (sv θ (sec r1.1 (shv r2.2) p)))), (sv θ (sec r1.1 (shv r2.2) p)).map (cnm (nms (sv θ r1.2) (sv θ (sec r1.1 (shv r2.2) p)))))) rfl e2 e3 c6 hn ?_ ?_ ?_ ?_ fun μ7 k1 k2 k3 k4 => ?_
        · rw [f91 _ (by omega), g5.1 791 (by decide) (by decide), a4, List.length_map]
        · rw [a6, List.length_map]
        · rw [map_nms]
          have : Me (μ5 792) (80 * (2 * n)) ((sv θ r1.2).map (cnm (vord (sv θ r1.2) []))) := by rw [g5.1 792 (by decide) (by decide)]; exact m4
          have hl1 : ((sv θ r1.2).map (cnm (vord (sv θ r1.2) []))).length ≤ 80 := by rw [List.length_map, ← hE]; omega
          rw [show 160 * n = 80 * (2 * n) by omega]
          exact this.congr fun x hx => by rw [List.length_map] at hx; exact f92 _ (by omega)
        · rw [show 160 * n + 80 = 80 * (2 * n + 1) by omega]
          exact m6
        · refine kS μ7 _ epr ⟨(hG6.tr k3 (r := fpR) (f := fpF) (by decide) (by decide) (by decide) (by decide)), fun x hx => ?_, fun x hx => ?_, fun x hx => ?_⟩ k2 k1
          · rw [k4 x hx, g6.1 790 (by decide) (by decide)]
            exact e90 x
          · rw [k3.1 791 (by decide) (by decide), f91 x (by omega)]
            exact e91 x (by omega)
          · rw [k3.1 792 (by decide) (by decide), f92 x (by omega)]
            exact e92 x (by omega)
theorem c_findsPair {i j n : Nat} {v1 v2 v3 : Int} {rs : List Rl2} {Q : Mem → Prop} (hi : i < rs.length) (hj : j < rs.length) (e1 : v1 = (i : Int)) (e2 : v2 = (j : Int)) (e3 : v3 = (p : Int))
    (hA : AR μ ars) (hR : MRs μ rs) (hok : ∀ r, r ∈ rs → okr ars r) (hp : p < (rs.getD i ([], [])).1.length) (hcnt : μ 772 41 = (n : Int)) (hn : n < 20)
    (kS : ∀ μ' X, pr1 (rs.getD i ([], [])) (rs.getD j ([], [])) p = some X → FM n μ μ' → μ' 772 41 = ((n + 1 : Nat) : Int) → NtM μ' n i j p X → Q μ')
    (kN : ∀ μ', pr1 (rs.getD i ([], [])) (rs.getD j ([], [])) p = none → FM n μ μ' → μ' 772 41 = (n : Int) → Q μ') : d_Md_findsPair v1 v2 v3 μ Q := by
  unfold d_Md_findsPair
  have h8 := hA.1
  have o1 := hok _ (getD_mem (d := ([], [])) hi)
  have o2 := hok _ (getD_mem (d := ([], [])) hj)
  have mi := hR.2.2 i hi
  have mj := hR.2.2 j hj
  obtain ⟨pk, hlen, h48⟩ := pp_ok h8 o1 o2
  obtain ⟨s1, s2, s3, s4⟩ := pp_sb o1 o2 hp
  have i6 := mi.1
  have j6 := mj.1
  have a1 := mi.2.1
  have a2 := mi.2.2.1
  have b1 := mj.2.1
  have b2 := mj.2.2.1
  rw [e1, e2]
  have ea : ∀ x : Nat, x < 6 → wr (wr (67 + wr (26 * (x : Int))) + 2) = ((67 + 26 * x + 2 : Nat) : Int) := fun x hx => by simp (disch := omega) only [wr_id]; omega
  have eb : ∀ x : Nat, x < 6 → wr (wr (67 + wr (26 * (x : Int))) + 14) = ((67 + 26 * x + 14 : Nat) : Int) := fun x hx => by simp (disch := omega) only [wr_id]; omega
  rw [ea i i6, ea j j6, eb i i6, eb j j6]
  refine c_empties fun μ1 q1 p1 z1 => ?_
  refine c_ofRule (k := 0) i6 (by omega) ?_
  rw [q1.1 773 (by decide) (by decide), Nat.add_zero (67 + 26 * i), mi.2.2.2.1]
  refine c_pools (ars := ars) rfl rfl p1 (by rw [q1.1 773 (by decide) (by decide)]; exact mi.2.2.2.2.2.1) (by omega) (by rw [List.length_nil]; omega) o1.1.2.2 h8 fun μ2 q2 p2 => ?_
  have Q2 : Gm [784, 785] [35] μ μ2 := q1.tr q2 (by decide) (by decide) (by decide) (by decide)
  refine c_ofRule (k := 0) j6 (by omega) ?_
  rw [Q2.1 773 (by decide) (by decide), Nat.add_zero (67 + 26 * j), mj.2.2.2.1]
  have eS : ∀ T : List Int, shb 0 T = T := fun T => if_pos rfl
  have eT : ∀ T : List Int, shb 1 T = shv T := fun T => if_neg (by decide)
  rw [List.nil_append, eS] at p2
  refine c_pools (ars := ars) rfl rfl p2 (by rw [Q2.1 773 (by decide) (by decide)]; exact mj.2.2.2.2.2.1) (by omega) (by omega) o2.1.2.2 h8 fun μ3 q3 p3 => ?_
  have Q3 : Gm [784, 785] [35] μ μ3 := Q2.tr q3 (by decide) (by decide) (by decide) (by decide)
  rw [eT] at p3
  refine c_ofRule (k := 1) i6 (by omega) ?_
  rw [Q3.1 773 (by decide) (by decide), mi.2.2.2.2.1]
  refine c_pools (ars := ars) rfl rfl p3 (by rw [Q3.1 773 (by decide) (by decide)]; exact mi.2.2.2.2.2.2) (by omega) (by rw [List.length_append, shv_len]; omega) o1.2.1.2.2 h8 fun μ4 q4 p4 => ?_
  have Q4 : Gm [784, 785] [35] μ μ4 := Q3.tr q4 (by decide) (by decide) (by decide) (by decide)
  rw [eS] at p4
  refine c_ofRule (k := 1) j6 (by omega) ?_
  rw [Q4.1 773 (by decide) (by decide), mj.2.2.2.2.1]
  refine c_pools (ars := ars) rfl rfl p4 (by rw [Q4.1 773 (by decide) (by decide)]; exact mj.2.2.2.2.2.2) (by omega) (by rw [List.length_append, List.length_append, shv_len]; omega) o2.2.1.2.2 h8 fun μ5 q5 p5 => ?_
  have Q5 : Gm [784, 785] [35] μ μ5 := Q4.tr q5 (by decide) (by decide) (by decide) (by decide)
  rw [eT, List.append_assoc, List.append_assoc] at p5
  have p5 : PoM μ5 (pp (rs.getD i ([], [])) (rs.getD j ([], []))) := p5
  have ew : wr ((((([] : List Int).length : Nat)) : Int) + v3) = (p : Int) := by
    rw [e3, show (((([] : List Int).length : Nat)) : Int) = 0 from rfl, wr_id (by omega) (by omega)]
    omega
  rw [ew]
  have z5 : ∀ x, x < 16 → μ5 785 x = -1 := fun x hx => by rw [q5.1 785 (by decide) (by decide), q4.1 785 (by decide) (by decide), q3.1 785 (by decide) (by decide), q2.1 785 (by decide) (by decide)]; exact z1 x hx
  have hT0 := wl_len (d := 0) o2.1.1
  refine c_unifies (a := p) (b := (rs.getD i ([], [])).1.length) p5 pk (hA.gm (Q5.1 773 (by decide) (by decide))) z5 (by omega) (by omega) (fun μ6 β θ k1 k2 k3 k4 k5 k6 => ?_) (fun μ6 k1 k2 => ?_)
  · rw [if_pos rfl]
    obtain ⟨rk, hrk⟩ := k5
    rw [s1, s2] at k6
    have Q6 : Gm [784, 785, 786, 787, 788, 789] [35, 36] μ μ6 := Q5.tr k1 (by decide) (by decide) (by decide) (by decide)
    have e773 : μ6 773 = μ 773 := Q6.1 773 (by decide) (by decide)
    have c6 : μ6 772 41 = (n : Int) := by rw [Q6.2 41 (by decide)]; exact hcnt
    have hR6 : MRs μ6 rs := ⟨by rw [e773]; exact hR.1, hR.2.1, fun x hx => (hR.2.2 x hx).gm e773⟩
    have hFM : ∀ μ', FM n μ6 μ' → FM n μ μ' := fun μ' h => ⟨Q6.tr h.1 (by decide) (by decide) (by decide) (by decide), fun x hx => by rw [h.2.1 x hx, Q6.1 790 (by decide) (by decide)], fun x hx => by rw [h.2.2.1 x hx, Q6.1 791 (by decide) (by decide)], fun x hx => by rw [h.2.2.2 x hx, Q6.1 792 (by decide) (by decide)]⟩
    refine c_findRest hi hj rfl rfl e3 rfl (by rw [List.length_append, shv_len]) (by rw [List.length_append, List.length_append, shv_len]) (hA.gm e773) hR6 o1 o2 hp c6 hn k4 (p5.gm k1) k2 k3 hrk k6 (fun μ' X g1 g2 g3 g4 => kS μ' X g1 (hFM μ' g2) g3 g4) (fun μ' g1 g2 g3 => kN μ' g1 (hFM μ' g2) g3)
  · rw [if_neg (by decide)]
    have Q6 : Gm [784, 785, 786, 787, 788, 789] [35, 36] μ μ6 := Q5.tr k1 (by decide) (by decide) (by decide) (by decide)
    rw [s1, s2] at k2
    exact kN μ6 (pr1_f k2) (FM.of (Q6.mono (by decide) (by decide))) (by rw [Q6.2 41 (by decide)]; exact hcnt)
end J77
