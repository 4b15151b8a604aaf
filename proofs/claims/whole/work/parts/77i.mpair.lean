/-! THE REFERENCE: a pair is found -/
section I77
variable {μ : Mem} {r1 r2 : Rl2} {ars : List Nat} {p : Nat} {β : Bd} {θ : Int → List Int} {rk : Int → Nat}
theorem c_buildsSecond {v1 v2 v3 v4 : Int} {Q : Mem → Prop} (h8 : ars.length ≤ 8) (o1 : okr ars r1) (o2 : okr ars r2) (hp : p < r1.1.length) (hv1 : v1 = 0) (hv2 : v2 = (r1.1.length : Int)) (hv3 : v3 = (p : Int)) (hv4 : v4 = ((r1.1.length + r2.1.length + r1.2.length : Nat) : Int))
    (hI : RI (pp r1 r2) β θ) (hpo : PoM μ (pp r1 r2)) (hA : AR μ ars) (hbd : MBd μ β) (hin : BdIn (pp r1 r2) β) (hk : RK (pp r1 r2) β rk)
    (k : ∀ μ' Y Z, Gm [781, 788] [26] μ μ' → BL μ' Y → Y ++ Z = sv θ (sec r1.1 (shv r2.2) p) → (Y.length ≤ 80 → Z = []) → Q μ') : d_Md_buildsSecond v1 v2 v3 v4 μ Q := by
  unfold d_Md_buildsSecond
  obtain ⟨hok, hlen, h48⟩ := pp_ok h8 o1 o2
  obtain ⟨s1, s2, s3, s4⟩ := pp_sb o1 o2 hp
  have h12 := o1.1.2.1
  have hR20 := wl_len (d := 0) o2.2.1.1
  have e12 : wr (v1 + v2) = (r1.1.length : Int) := by rw [hv1, hv2, wr_id (by omega) (by omega)]; omega
  have e13 : wr (v1 + v3) = (p : Int) := by rw [hv1, hv3, wr_id (by omega) (by omega)]; omega
  have hv4' : vl θ (pp r1 r2) (r1.1.length + r2.1.length + r1.2.length) = sv θ (shv r2.2) := by
    unfold vl
    rw [s4]
  refine i_Md_buildsSecond_l8 (Inv := fun v5 μ1 => ∃ (n : Nat) (Y Z : List Int), v5 = n ∧ n ≤ r1.1.length ∧ BL μ1 Y ∧ Y.length ≤ 100 ∧ Y ++ Z = sv θ (sec r1.1 (shv r2.2) p) ∧ (Y.length ≤ 80 → Z = sv θ (rst r1.1 (shv r2.2) p n)) ∧ Gm [781, 788] [26] μ μ1) (fun v5 _ => r1.1.length - v5.toNat) ?_ v1 _ ⟨0, [], _, hv1, Nat.zero_le _, BL.nil, Nat.zero_le _, by rw [List.nil_append]; exact congrArg _ rst_0, fun _ => rfl, (Gm.upF (k := 26)).mono (by decide) (by decide)⟩
  rintro v5 μ1 ⟨n, Y, Z, e5, hn, hY, hYl, hE, hZ, hG⟩ W hW
  unfold d_Md_buildsSecond_b8
  rw [e12, e13, hY.1]
  have hpo1 : PoM μ1 (pp r1 r2) := by unfold PoM; rw [hG.1 784 (by decide) (by decide), hG.2 35 (by decide)]; exact hpo
  have hA1 := hA.gm (hG.1 773 (by decide) (by decide))
  have hb1 : MBd μ1 β := by unfold MBd; rw [hG.1 785 (by decide) (by decide)]; exact hbd
  by_cases hkl : n < r1.1.length
  · rw [if_pos (by omega)]
    by_cases h80 : 80 < Y.length
    · rw [if_pos (by omega)]
      exact k μ1 Y Z hG hY hE fun q => by omega
    · rw [if_neg (by omega)]
      have hZ1 := hZ (by omega)
      rw [hZ1] at hE
      by_cases hnp : n = p
      · rw [if_pos (by omega), hv4]
        subst hnp
        rw [rst_p hp, sv_app] at hE
        refine c_buildsMeaning (q := r1.1.length + r2.1.length + r1.2.length) hI hpo1 hok hA1 hb1 hin hk (by omega) hY hYl fun μ2 Y2 R2 g1 g2 g3 g4 g5 => ?_
        rw [hv4'] at g3
        have hG2 : Gm [781, 788] [26] μ μ2 := hG.same g1
        have hel := en_le (L := r1.1) (p := n) (by omega)
        have hen := en_gt hp
        have eP : en (pp r1 r2) n = en r1.1 n := en_appL o1.1.1 hp
        rw [e5]
        refine c_behind (hA.gm (hG2.1 773 (by decide) (by decide))) (L := pp r1 r2) (by rw [hG2.1 784 (by decide) (by decide)]; exact hpo.2) (by rw [ln784]; omega) hok.2.2.2 (Pk.one hok.2.1 (by omega)) ?_
        rw [eP]
        refine hW _ _ ⟨en r1.1 n, Y2, R2 ++ sv θ (rst r1.1 (shv r2.2) n (en r1.1 n)), rfl, hel, g2, g5, ?_, fun q => ?_, hG2⟩ (by omega)
        · rw [← List.append_assoc, g3, List.append_assoc]
          exact hE
        · rw [g4 q, List.nil_append]
      · rw [if_neg (by omega)]
        rw [rst_lt hnp hp hkl, sv_cons] at hE
        have ep := pp_var (r1 := r1) (r2 := r2) hkl
        have hm := meg hpo1.2 (q := n) (by omega)
        rw [ep] at hm
        rw [show v5.toNat = n by omega, hm]
        have okc := okn_16 (o1.1.2.2 _ (gm0 hkl))
        have hlt := enc_lt okc h8
        unfold d_Md_buildsSecond_j86
        have ew : wr (v5 + 1) = ((n + 1 : Nat) : Int) := by rw [wr_id (by omega) (by omega)]; omega
        rw [ew]
        refine ⟨by omega, ?_⟩
        by_cases n0 : r1.1.getD n 0 < 0
        · rw [if_pos n0] at hE
          rw [if_neg (by omega), e5]
          have hvl : vl θ (pp r1 r2) n = θ (r1.1.getD n 0) := by rw [vl_var (by omega) (by rw [ep]; exact n0), ep]
          refine c_buildsMeaning (q := n) hI hpo1 hok hA1 hb1 hin hk (by omega) hY hYl fun μ2 Y2 R2 g1 g2 g3 g4 g5 => ?_
          rw [hvl] at g3
          refine hW _ _ ⟨n + 1, Y2, R2 ++ sv θ (rst r1.1 (shv r2.2) p (n + 1)), rfl, by omega, g2, g5, ?_, fun q => ?_, hG.same g1⟩ (by omega)
          · rw [← List.append_assoc, g3, List.append_assoc]
            exact hE
          · rw [g4 q, List.nil_append]
        · rw [if_neg n0] at hE
          rw [if_pos (by omega)]
          refine ⟨by omega, c_builds hY (by omega) rfl fun μ2 g2 g1 => ?_⟩
          exact hW _ _ ⟨n + 1, Y ++ [r1.1.getD n 0], _, rfl, by omega, g2, by rw [List.length_append, List.length_singleton]; omega, by rw [List.append_assoc]; exact hE, fun _ => rfl, hG.tr g1 (by decide) (by decide) (by decide) (by decide)⟩ (by omega)
  · rw [if_neg (by omega)]
    refine k μ1 Y Z hG hY hE fun q => ?_
    rw [hZ q, rst_end hp (by omega), sv_nil]
/-- rows that finding the pair n may use -/
abbrev fpR : List Nat := [781, 784, 785, 786, 787, 788, 789, 790, 791, 792, 793]
abbrev fpF : List Nat := [26, 35, 36, 41, 42]
def FM (n : Nat) (μ μ' : Mem) : Prop := Gm fpR fpF μ μ' ∧ (∀ x, x < 3 * n → μ' 790 x = μ 790 x) ∧ (∀ x, x < 2 * n → μ' 791 x = μ 791 x) ∧ ∀ x, x < 160 * n → μ' 792 x = μ 792 x
theorem FM.of {n : Nat} {μ μ' : Mem} (h : Gm [781, 784, 785, 786, 787, 788, 789, 793] [26, 35, 36, 42] μ μ') : FM n μ μ' :=
  ⟨h.mono (by decide) (by decide), fun x _ => by rw [h.1 790 (by decide) (by decide)], fun x _ => by rw [h.1 791 (by decide) (by decide)], fun x _ => by rw [h.1 792 (by decide) (by decide)]⟩
/-- what is noted of a pair -/
def NtM (μ : Mem) (n i j p : Nat) (X : List Int × List Int) : Prop := μ 790 (3 * n) = (i : Int) ∧ μ 790 (3 * n + 1) = (j : Int) ∧ μ 790 (3 * n + 2) = (p : Int) ∧ μ 791 (2 * n) = (X.1.length : Int) ∧ μ 791 (2 * n + 1) = (X.2.length : Int) ∧ Me (μ 792) (160 * n) X.1 ∧ Me (μ 792) (160 * n + 80) X.2
theorem c_pairNotes {i j n : Nat} {v1 v2 v3 : Int} {X : List Int × List Int} {Q : Mem → Prop} (h1 : v1 = (i : Int)) (h2 : v2 = (j : Int)) (h3 : v3 = (p : Int)) (hcnt : μ 772 41 = (n : Int)) (hn : n < 20)
    (x1 : μ 791 (2 * n) = (X.1.length : Int)) (x2 : μ 791 (2 * n + 1) = (X.2.length : Int)) (x3 : Me (μ 792) (160 * n) X.1) (x4 : Me (μ 792) (160 * n + 80) X.2)
    (k : ∀ μ', NtM μ' n i j p X → μ' 772 41 = ((n + 1 : Nat) : Int) → Gm [790] [41] μ μ' → (∀ x, x < 3 * n → μ' 790 x = μ 790 x) → Q μ') :
    (0 ≤ wr (3 * (μ 772 41)) ∧ wr (3 * (μ 772 41)) < 60) ∧ (0 ≤ wr ((wr (3 * ((mup μ 790 (wr (3 * (μ 772 41))).toNat v1) 772 41))) + 1) ∧ wr ((wr (3 * ((mup μ 790 (wr (3 * (μ 772 41))).toNat v1) 772 41))) + 1) < 60) ∧ (0 ≤ wr ((wr (3 * ((mup (mup μ 790 (wr (3 * (μ 772 41))).toNat v1) 790 (wr ((wr (3 * ((mup μ 790 (wr (3 * (μ 772 41))).toNat v1) 772 41))) + 1)).toNat v2) 772 41))) + 2) ∧ wr ((wr (3 * ((mup (mup μ 790 (wr (3 * (μ 772 41))).toNat v1) 790 (wr ((wr (3 * ((mup μ 790 (wr (3 * (μ 772 41))).toNat v1) 772 41))) + 1)).toNat v2) 772 41))) + 2) < 60) ∧ Q (mup (mup (mup (mup μ 790 (wr (3 * (μ 772 41))).toNat v1) 790 (wr ((wr (3 * ((mup μ 790 (wr (3 * (μ 772 41))).toNat v1) 772 41))) + 1)).toNat v2) 790 (wr ((wr (3 * ((mup (mup μ 790 (wr (3 * (μ 772 41))).toNat v1) 790 (wr ((wr (3 * ((mup μ 790 (wr (3 * (μ 772 41))).toNat v1) 772 41))) + 1)).toNat v2) 772 41))) + 2)).toNat v3) 772 41 (wr (((mup (mup (mup μ 790 (wr (3 * (μ 772 41))).toNat v1) 790 (wr ((wr (3 * ((mup μ 790 (wr (3 * (μ 772 41))).toNat v1) 772 41))) + 1)).toNat v2) 790 (wr ((wr (3 * ((mup (mup μ 790 (wr (3 * (μ 772 41))).toNat v1) 790 (wr ((wr (3 * ((mup μ 790 (wr (3 * (μ 772 41))).toNat v1) 772 41))) + 1)).toNat v2) 772 41))) + 2)).toNat v3) 772 41) + 1))) := by
  have r1 : ∀ (m : Mem) (a : Nat) (z : Int), mup m 790 a z 772 = m 772 := fun m a z => mup_r (by decide)
  have ea : wr (3 * (n : Int)) = ((3 * n : Nat) : Int) := by rw [wr_id (by omega) (by omega)]; omega
  have eb : wr (((3 * n : Nat) : Int) + 1) = ((3 * n + 1 : Nat) : Int) := by rw [wr_id (by omega) (by omega)]; omega
  have ec : wr (((3 * n : Nat) : Int) + 2) = ((3 * n + 2 : Nat) : Int) := by rw [wr_id (by omega) (by omega)]; omega
  have ed : wr ((n : Int) + 1) = ((n + 1 : Nat) : Int) := by rw [wr_id (by omega) (by omega)]; omega
  simp only [r1, hcnt, ea, eb, ec, ed, Int.toNat_natCast]
  clear ea eb ec ed
  refine ⟨by omega, by omega, by omega, ?_⟩
  have rr : ∀ b, b ≠ 772 → b ≠ 790 → mup (mup (mup (mup μ 790 (3 * n) v1) 790 (3 * n + 1) v2) 790 (3 * n + 2) v3) 772 41 ((n + 1 : Nat) : Int) b = μ b := fun b g1 g2 => by rw [mup_r g1, mup_r g2, mup_r g2, mup_r g2]
  have r90 : mup (mup (mup (mup μ 790 (3 * n) v1) 790 (3 * n + 1) v2) 790 (3 * n + 2) v3) 772 41 ((n + 1 : Nat) : Int) 790 = mup (mup (mup μ 790 (3 * n) v1) 790 (3 * n + 1) v2) 790 (3 * n + 2) v3 790 := mup_r (by decide)
  refine k _ ⟨?_, ?_, ?_, ?_, ?_, ?_, ?_⟩ mup_s ?_ fun x hx => ?_
  · rw [r90, mup_k (by omega), mup_k (by omega), mup_s]; exact h1
  · rw [r90, mup_k (by omega), mup_s]; exact h2
  · rw [r90, mup_s]; exact h3
  · rw [rr _ (by decide) (by decide)]; exact x1
  · rw [rr _ (by decide) (by decide)]; exact x2
  · rw [rr _ (by decide) (by decide)]; exact x3
  · rw [rr _ (by decide) (by decide)]; exact x4
  · exact (((Gm.upR (a := 790) (by decide)).same (Gm.upR (a := 790) (by decide))).same (Gm.upR (a := 790) (by decide))).tr (Gm.upF (k := 41)) (by decide) (by decide) (by decide) (by decide)
  · rw [r90, mup_k (by omega), mup_k (by omega), mup_k (by omega)]
end I77
