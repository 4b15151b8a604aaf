/-! THE CLASS: parseSystem -/
def pErr (A : AS) (e : PE) : AS := (A.1, A.2.1, (([], e.1, ((e.2 : Nat) : Int)), A.2.2.2))
def pNew (A : AS) (S : St) : AS := ((true, S.1, S.2), (([], none, none), (([], 0, -1), A.2.2.2)))
def sp_parseSystem (A : AS) (v : Int) : Int × Int × AS := if ¬ (0 ≤ v ∧ v ≤ ((aB A).length : Int)) then (1, 0, A) else match prsT ((aB A).take v.toNat) with
  | .inl e => (2, 0, pErr A e)
  | .inr S => (0, (S.2.1.length : Int), pNew A S)
section S77
variable {μ : Mem} {A : AS}
theorem c_sigCopy {sy : Sy} {Q : Mem → Prop} (hS : CSg μ 73 sy) (hs : syok sy) (k : ∀ μ', CSg μ' 1 sy → (∀ b, b < 1 ∨ 5 ≤ b → μ' b = μ b) → Q μ') : d_Signature_copyFrom 1 73 μ Q := by
  unfold d_Signature_copyFrom
  have h8 := hs.1
  have r0 : ∀ b, b ≠ 1 → mup μ 1 0 (μ 73 0) b = μ b := fun b hb => mup_r hb
  have z0 : mup μ 1 0 (μ 73 0) 1 0 = (sy.length : Int) := by rw [mup_s]; exact hS.1
  generalize mup μ 1 0 (μ 73 0) = μ0 at *
  refine i_Signature_copyFrom_l10 (Inv := fun v2 μ1 => ∃ n : Nat, v2 = (n : Int) ∧ n ≤ 8 ∧ (∀ i, i < n → μ1 2 i = μ 74 i ∧ μ1 3 i = μ 75 i) ∧ ∀ b, b ≠ 2 → b ≠ 3 → μ1 b = μ0 b) (fun v2 _ => 8 - v2.toNat) ?_ 0 μ0 ⟨0, rfl, Nat.zero_le _, fun i hi => absurd hi (by omega), fun _ _ _ => rfl⟩
  rintro v2 μ1 ⟨n, e2, hn, hc, hF⟩ W hW
  unfold d_Signature_copyFrom_b10
  by_cases h : n < 8
  · rw [if_pos (by omega), show v2.toNat = n by omega]
    refine ⟨by omega, by omega, by omega, by omega, ?_⟩
    rw [wr_eq (n + 1) (show v2 + 1 = ((n + 1 : Nat) : Int) by omega) (by omega)]
    have e74 : μ1 (73 + 1) = μ 74 := by rw [hF (73 + 1) (by decide) (by decide), r0 (73 + 1) (by decide)]
    have e75 : ∀ z : Int, mup μ1 (1 + 1) n z (73 + 2) = μ 75 := fun z => by rw [mup_r (by decide), hF (73 + 2) (by decide) (by decide), r0 (73 + 2) (by decide)]
    refine hW _ _ ⟨n + 1, rfl, by omega, fun i hi => ?_, fun b k1 k2 => by rw [mup_r k2, mup_r k1, hF b k1 k2]⟩ (by rw [Int.toNat_natCast]; omega)
    have a1 : mup (mup μ1 (1 + 1) n (μ1 (73 + 1) n)) (1 + 2) n (mup μ1 (1 + 1) n (μ1 (73 + 1) n) (73 + 2) n) 2 i = mup μ1 (1 + 1) n (μ1 (73 + 1) n) 2 i := by rw [mup_r (by decide)]
    rw [a1, e75, e74]
    by_cases e : i = n
    · rw [e, mup_s, mup_s]
      exact ⟨rfl, rfl⟩
    · have h1 := hc i (by omega)
      rw [mup_k e, mup_k e, mup_r (by decide)]
      exact h1
  · rw [if_neg (by omega)]
    have en : n = 8 := by omega
    subst en
    refine i_Signature_copyFrom_l48 (Inv := fun v2 μ2 => ∃ n : Nat, v2 = (n : Int) ∧ n ≤ 48 ∧ (∀ i, i < n → μ2 4 i = μ 76 i) ∧ ∀ b, b ≠ 4 → μ2 b = μ1 b) (fun v2 _ => 48 - v2.toNat) ?_ 0 μ1 ⟨0, rfl, Nat.zero_le _, fun i hi => absurd hi (by omega), fun _ _ => rfl⟩
    rintro v2 μ2 ⟨n, e2, hn, hc2, hF2⟩ W2 hW2
    unfold d_Signature_copyFrom_b48
    by_cases h : n < 48
    · rw [if_pos (by omega), if_pos (by omega), show v2.toNat = n by omega]
      refine ⟨by omega, by omega, ?_⟩
      rw [wr_eq (n + 1) (show v2 + 1 = ((n + 1 : Nat) : Int) by omega) (by omega)]
      have e76 : μ2 (73 + 3) = μ 76 := by rw [hF2 (73 + 3) (by decide), hF (73 + 3) (by decide) (by decide), r0 (73 + 3) (by decide)]
      refine hW2 _ _ ⟨n + 1, rfl, by omega, fun i hi => ?_, fun b k1 => by rw [mup_r k1, hF2 b k1]⟩ (by rw [Int.toNat_natCast]; omega)
      rw [e76]
      by_cases e : i = n
      · rw [e, mup_s]
      · rw [mup_k e]
        exact hc2 i (by omega)
    · rw [if_neg (by omega)]
      have en : n = 48 := by omega
      subst en
      refine k μ2 ⟨by rw [hF2 1 (by decide), hF 1 (by decide) (by decide)]; exact z0, fun i hi => ?_⟩ fun b hb => by rw [hF2 b (by omega), hF b (by omega) (by omega), r0 b (by omega)]
      obtain ⟨g1, g2, g3⟩ := hS.2 i hi
      have h6 := (hs.2 _ (getD_mem (d := (0, [])) hi)).2.2.1
      have c1 := hc i (by omega)
      rw [show μ2 (1 + 1) = μ1 2 from hF2 2 (by decide), show μ2 (1 + 2) = μ1 3 from hF2 3 (by decide), c1.1, c1.2]
      exact ⟨g1, g2, g3.congr fun x hx => hc2 _ (by omega)⟩
theorem w_parseSystem {v : Int} {Q : Int → Mem → Prop} (hI : CI μ A) (hA : AOK A) (h : WC μ (sp_parseSystem A v) Q) : d_Lw_parseSystem v μ Q := by
  unfold d_Lw_parseSystem d_OB_parseSystem d_OB_parseSystem_j15
  unfold sp_parseSystem at h
  obtain ⟨i1, i2, i3, ⟨i4, i5⟩, ⟨i6, i7⟩, i8, i9, i10⟩ := id hI
  have hb := hA.2.2.2.2.2.2.1.1
  rw [i6.2.2.1]
  have t1 : ¬ (0 ≤ v ∧ v ≤ ((aB A).length : Int)) → Q 1 (thr μ) := fun hn => by
    rw [if_pos hn] at h
    exact h _ hI.thr (Fz.frCt Fz.rfl') (fun q => absurd (show (1 : Int) = 0 from q) (by decide))
  by_cases v0 : v < 0
  · rw [if_pos v0]
    dsimp only
    rw [if_pos rfl]
    exact t1 (by omega)
  rw [if_neg v0]
  by_cases v1 : ((aB A).length : Int) < v
  · rw [if_pos v1]
    dsimp only
    rw [if_pos rfl]
    exact t1 (by omega)
  rw [if_neg v1]
  rw [if_neg (fun q => q ⟨by omega, by omega⟩)] at h
  have hlen : ((aB A).take v.toNat).length = v.toNat := by rw [List.length_take]; omega
  refine c_pRun (n := 0) (B := (aB A).take v.toNat) (by omega) i6.2.2.2.take (by omega) i7 (fun μ1 e he f1 f4 p1 q0 q1 => ?_) (fun μ1 S he f1 f4 s1 q0 q1 => ?_)
  · rw [if_neg (by decide)]
    dsimp only
    rw [if_neg (by decide), if_pos rfl]
    rw [he] at h
    dsimp only at h
    have rr : ∀ b, b ≠ 72 → mup μ1 72 4 0 b = μ1 b := fun b hb => mup_r hb
    have g : ∀ b, b < 72 ∨ 139 ≤ b ∨ b = 129 → mup μ1 72 4 0 b = μ b := fun b hb => by rw [rr b (by omega), f1 b hb]
    have hI2 : CI (mup μ1 72 4 0) (pErr A e) := ⟨by rw [g 0 (by omega)]; exact i1, i2.fr fun b k1 k2 => g b (by omega), Cst.fr (c := aC A) i3 rt_st.1 fun b k1 k2 => g b (by omega), ⟨i4.fr rt_st.2.1 (by rw [g 0 (by omega)]) fun b k1 k2 => g b (by omega), i5.fr rt_st.2.2.1 (by rw [g 0 (by omega)]) fun b k1 k2 => g b (by omega)⟩, ⟨⟨by rw [mup_k (by decide)]; exact q0, by rw [mup_k (by decide)]; exact q1, mup_s, Sg.nil⟩, p1.fr fun b k1 k2 => rr b (by omega)⟩, i8.fr fun b k1 k2 => g b (by omega), i9.fr (g _ (by omega)) (g _ (by omega)), i10.fr fun b k1 k2 => g b (by omega)⟩
    exact h _ hI2.thr (Fz.frCt fun b hb => g b (by omega)) (fun q => absurd (show (2 : Int) = 0 from q) (by decide))
  · rw [if_pos rfl]
    rw [he] at h
    dsimp only at h
    have pok := prsT_ok he
    have rr : ∀ b, b ≠ 72 → b ≠ 0 → mup (mup μ1 72 4 0) 0 0 1 b = μ1 b := fun b k1 k2 => by rw [mup_r k2, mup_r k1]
    have z0 : mup (mup μ1 72 4 0) 0 0 1 0 0 = 1 := mup_s
    have z72 : mup (mup μ1 72 4 0) 0 0 1 72 0 = 0 ∧ mup (mup μ1 72 4 0) 0 0 1 72 1 = -1 ∧ mup (mup μ1 72 4 0) 0 0 1 72 4 = 0 := ⟨by rw [mup_r (by decide), mup_k (by decide)]; exact q0, by rw [mup_r (by decide), mup_k (by decide)]; exact q1, by rw [mup_r (by decide), mup_s]⟩
    have S2 : CSt (mup (mup μ1 72 4 0) 0 0 1) S := ⟨s1.1.fr fun b k1 k2 => rr b (by omega) (by omega), s1.2.fr rt_st.2.2.2.1 fun b k1 k2 => rr b (by omega) (by omega)⟩
    have f2 : ∀ b, b ≠ 0 → b < 72 ∨ 139 ≤ b ∨ b = 129 → mup (mup μ1 72 4 0) 0 0 1 b = μ b := fun b k1 hb => by rw [rr b (by omega) k1, f1 b hb]
    generalize mup (mup μ1 72 4 0) 0 0 1 = μ2 at *
    refine c_sigCopy S2.1 pok.1 fun μ3 s3 f3 => ?_
    have C3 : Cst μ3 77 S.2 := S2.2.fr rt_st.2.2.2.1 fun b k1 k2 => f3 b (by omega)
    refine c_adopt rt_st.2.2.2.1 (by omega) (by omega) (i3.1.fr fun b k1 k2 => by rw [f3 b (by omega), f2 b (by omega) (by omega)]) C3 pok.2 fun μ4 c4 h247 h247' h139 hr => ?_
    have rf : ∀ b, b ≠ 0 → mup (mup μ4 0 11 0) 0 12 0 b = μ4 b := fun b hb => by rw [mup_r hb, mup_r hb]
    have w0 : mup (mup μ4 0 11 0) 0 12 0 0 0 = 1 := by rw [mup_k (by decide), mup_k (by decide), hr 0 (by decide) (by decide) (by decide), f3 0 (by decide)]; exact z0
    have w11 : mup (mup μ4 0 11 0) 0 12 0 0 11 = 0 := by rw [mup_k (by decide), mup_s]
    have w12 : mup (mup μ4 0 11 0) 0 12 0 0 12 = 0 := mup_s
    have g : ∀ b, b ≠ 139 → b ≠ 247 → (57 ≤ b ∧ b < 72) ∨ 139 ≤ b → mup (mup μ4 0 11 0) 0 12 0 b = μ b := fun b k1 k2 hb => by rw [rf b (by omega), hr b k1 k2 (by omega), f3 b (by omega), f2 b (by omega) (by omega)]
    have g2 : ∀ b, b ≠ 0 → b ≠ 139 → b ≠ 247 → b < 5 ∨ 57 ≤ b → mup (mup μ4 0 11 0) 0 12 0 b = μ3 b := fun b k0 k1 k2 hb => by rw [rf b k0, hr b k1 k2 hb]
    have r5 : mup (mup μ4 0 11 0) 0 12 0 5 0 = (S.2.1.length : Int) := by rw [rf 5 (by decide)]; exact c4.2.1.1
    rw [r5]
    have hC5 : Cst (mup (mup μ4 0 11 0) 0 12 0) 5 S.2 := c4.fr rt_st.1 fun b k1 k2 => rf b (by omega)
    have e247 : mup (mup μ4 0 11 0) 0 12 0 247 0 = 0 ∧ mup (mup μ4 0 11 0) 0 12 0 247 1 = μ 247 1 := ⟨by rw [rf 247 (by decide)]; exact h247, by rw [rf 247 (by decide), h247' 1 (by decide), f3 247 (by decide), f2 247 (by decide) (by decide)]⟩
    have e139 : mup (mup μ4 0 11 0) 0 12 0 139 0 = 1 := by rw [rf 139 (by decide)]; exact h139
    generalize mup (mup μ4 0 11 0) 0 12 0 = μ5 at *
    have hH : CHs μ5 [] := by
      obtain ⟨y1, y2, nw, y3, y4, y5⟩ := i10
      exact ⟨e247.1, fun k hk => (y2 k hk).fr fun b k1 k2 => g b (by unfold Jvm.Pilot.@@N@@.hc at k1; omega) (by unfold Jvm.Pilot.@@N@@.hc at k1; omega) (by unfold Jvm.Pilot.@@N@@.hc at k1; omega), nw, y3, by rw [e247.2]; exact y4, fun i hi => absurd hi (by simp)⟩
    have hI2 : CI μ5 (pNew A S) := ⟨w0, s3.fr fun b k1 k2 => g2 b (by omega) (by omega) (by omega) (by omega), hC5, ⟨⟨i4.1.fr fun b k1 k2 => g b (by omega) (by omega) (by omega), w11, fun c hc => by cases hc⟩, ⟨i5.1.fr fun b k1 k2 => g b (by omega) (by omega) (by omega), w12, fun c hc => by cases hc⟩⟩, ⟨⟨by rw [g2 72 (by decide) (by decide) (by decide) (by decide), f3 72 (by decide)]; exact z72.1, by rw [g2 72 (by decide) (by decide) (by decide) (by decide), f3 72 (by decide)]; exact z72.2.1, by rw [g2 72 (by decide) (by decide) (by decide) (by decide), f3 72 (by decide)]; exact z72.2.2, Sg.nil⟩, C3.1.fr fun b k1 k2 => g2 b (by omega) (by omega) (by omega) (by omega)⟩, Or.inl e139, i9.fr (g _ (by omega) (by omega) (by omega)) (g _ (by omega) (by omega) (by omega)), hH⟩
    have hz : Fz μ μ5 := fun b hb => g b (by omega) (by omega) (by omega)
    exact h _ (hI2.mup (by decide)) ⟨fun b h1 h2 => by rw [mup_r (by omega)]; exact hz b (by omega), by rw [mup_r (by omega), hz 797 (by omega)]; omega, by rw [mup_r (by omega), hz 797 (by omega)]; omega⟩ (fun _ => ⟨by first | (rw [mup_s]; done) | (rw [mup_s]; rfl), by rw [mup_r (by omega), hz 797 (by omega)]⟩)
end S77

