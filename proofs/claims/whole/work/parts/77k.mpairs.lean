/-! THE REFERENCE: all pairs are found; the calls of critical pairs -/
def MPD (μ : Mem) (D : List Pr1) : Prop := μ 772 41 = (D.length : Int) ∧ ∀ i, i < D.length → (D.getD i ((0, 0, 0), [], [])).2.1.length ≤ 80 ∧ (D.getD i ((0, 0, 0), [], [])).2.2.length ≤ 80 ∧ NtM μ i (D.getD i ((0, 0, 0), [], [])).1.1 (D.getD i ((0, 0, 0), [], [])).1.2.1 (D.getD i ((0, 0, 0), [], [])).1.2.2 (D.getD i ((0, 0, 0), [], [])).2
theorem NtM.fm {μ μ1 : Mem} {a n i j p : Nat} {X : List Int × List Int} (h : NtM μ a i j p X) (ha : a < n) (l1 : X.1.length ≤ 80) (l2 : X.2.length ≤ 80) (hF : FM n μ μ1) : NtM μ1 a i j p X := by
  obtain ⟨g1, g2, g3, g4, g5, g6, g7⟩ := h
  obtain ⟨_, f0, f1, f2⟩ := hF
  refine ⟨by rw [f0 _ (by omega)]; exact g1, by rw [f0 _ (by omega)]; exact g2, by rw [f0 _ (by omega)]; exact g3, by rw [f1 _ (by omega)]; exact g4, by rw [f1 _ (by omega)]; exact g5, g6.congr fun x hx => ?_, g7.congr fun x hx => ?_⟩
  · rw [List.length_map] at hx
    exact f2 _ (by omega)
  · rw [List.length_map] at hx
    exact f2 _ (by omega)
theorem NtM.same {μ μ1 : Mem} {a i j p : Nat} {X : List Int × List Int} (h : NtM μ a i j p X) (h0 : μ1 790 = μ 790) (h1 : μ1 791 = μ 791) (h2 : μ1 792 = μ 792) : NtM μ1 a i j p X := by
  unfold NtM
  rw [h0, h1, h2]
  exact h
theorem MPD.same {μ μ1 : Mem} {D : List Pr1} (h : MPD μ D) (hc : μ1 772 41 = μ 772 41) (h0 : μ1 790 = μ 790) (h1 : μ1 791 = μ 791) (h2 : μ1 792 = μ 792) : MPD μ1 D := ⟨by rw [hc]; exact h.1, fun i hi => ⟨(h.2 i hi).1, (h.2 i hi).2.1, (h.2 i hi).2.2.same h0 h1 h2⟩⟩
theorem MPD.keep {μ μ1 : Mem} {D : List Pr1} {n : Nat} (h : MPD μ D) (hn : D.length = n) (hF : FM n μ μ1) (hc : μ1 772 41 = (n : Int)) : MPD μ1 D := by
  refine ⟨by rw [hc, hn], fun i hi => ?_⟩
  obtain ⟨l1, l2, g⟩ := h.2 i hi
  exact ⟨l1, l2, g.fm (by omega) l1 l2 hF⟩
theorem MPD.add {μ μ1 : Mem} {D : List Pr1} {n i j p : Nat} {X : List Int × List Int} (h : MPD μ D) (hn : D.length = n) (hF : FM n μ μ1) (hc : μ1 772 41 = ((n + 1 : Nat) : Int)) (l1 : X.1.length ≤ 80) (l2 : X.2.length ≤ 80) (hX : NtM μ1 n i j p X) : MPD μ1 (D ++ [((i, j, p), X)]) := by
  refine ⟨by rw [hc, List.length_append, List.length_singleton, hn], fun a ha => ?_⟩
  rw [List.length_append, List.length_singleton] at ha
  rw [getD_snoc (by omega)]
  by_cases e : a = n
  · rw [if_pos (by omega)]
    subst e
    exact ⟨l1, l2, hX⟩
  · rw [if_neg (by omega)]
    obtain ⟨k1, k2, g⟩ := h.2 a (by omega)
    exact ⟨k1, k2, g.fm (by omega) k1 k2 hF⟩
def MRv (μ μ1 : Mem) (rs : List Rl2) (i j k : Nat) : Prop := Gm fpR fpF μ μ1 ∧ MPD μ1 (FD rs (PLc rs i j k))
section K77
variable {μ : Mem} {ars : List Nat} {rs : List Rl2}
theorem c_findsP {i j : Nat} {v1 v2 : Int} {W7 W19 : Int → Mem → Prop} {Q : Mem → Prop} (hA : AR μ ars) (hR : MRs μ rs) (hok : ∀ r, r ∈ rs → okr ars r) (e1 : v1 = (i : Int)) (e2 : v2 = (j : Int)) (hi : i < rs.length) (hj : j < rs.length)
    (hW : ∀ μ', MRv μ μ' rs i (j + 1) 0 → W19 ((j + 1 : Nat) : Int) μ') (k0 : Nat) (v3 : Int) (h3 : v3 = (k0 : Int)) (μ2 : Mem) (hk0 : k0 ≤ len1 rs i) (hij : i = j → 1 ≤ k0) (hV : MRv μ μ2 rs i j k0) :
    d_Md_findsPairs_l40 v1 v2 v3 μ2 W7 W19 Q := by
  have r6 := hR.2.1
  have oi := hok _ (getD_mem (d := ([], [])) hi)
  have oj := hok _ (getD_mem (d := ([], [])) hj)
  have mi := hR.2.2 i hi
  refine i_Md_findsPairs_l40 (Inv := fun v3 μ3 => ∃ k : Nat, v3 = k ∧ k ≤ len1 rs i ∧ (i = j → 1 ≤ k) ∧ MRv μ μ3 rs i j k) (fun v3 _ => len1 rs i - v3.toNat) ?_ v3 μ2 ⟨k0, h3, hk0, hij, hV⟩
  rintro v3 μ3 ⟨k, e3, hk, hij1, hR3⟩ W40 hW40
  unfold d_Md_findsPairs_b40
  have el : len1 rs i = (rs.getD i ([], [])).1.length := rfl
  have e773 : μ3 773 = μ 773 := hR3.1.1 773 (by decide) (by decide)
  have h12 := mi.2.1
  rw [e1]
  refine c_ofRule (k := 0) mi.1 (by omega) ?_
  rw [e773, Nat.add_zero, mi.2.2.2.1]
  by_cases hkl : k < (rs.getD i ([], [])).1.length
  · rw [if_pos (by omega)]
    have next : ∀ μ4, MRv μ μ4 rs i j (k + 1) → d_Md_findsPairs_j79 (i : Int) v2 v3 μ4 W7 W19 W40 Q := by
      intro μ4 hR4
      unfold d_Md_findsPairs_j79
      have ew : wr (v3 + 1) = ((k + 1 : Nat) : Int) := by rw [wr_id (by omega) (by omega)]; omega
      rw [ew]
      exact hW40 _ _ ⟨k + 1, rfl, by omega, fun _ => by omega, hR4⟩ (by omega)
    have hPk : PLc rs i j (k + 1) = PLc rs i j k ++ [(i, j, k)] := by
      rw [PLc_k, if_neg]
      rintro ⟨a, b⟩
      have := hij1 a
      omega
    have hl20 := FD_len rs (PLc rs i j k)
    rw [hR3.2.1]
    by_cases hn : (FD rs (PLc rs i j k)).length < 20
    · rw [if_pos (by omega)]
      have ew2 : wr (2 + v3) = ((2 + k : Nat) : Int) := by rw [wr_id (by omega) (by omega)]; omega
      rw [ew2]
      refine c_ofRule mi.1 (by omega) ?_
      rw [e773, ← Nat.add_assoc, mi.2.2.2.2.2.1.get hkl]
      have hlt := enc_lt (oi.1.2.2 _ (gm0 hkl)) hA.1
      by_cases n0 : (rs.getD i ([], [])).1.getD k 0 < 0
      · rw [if_neg (by omega)]
        exact next μ3 ⟨hR3.1, by rw [hPk, FD_none (pr2_n fun q => by omega)]; exact hR3.2⟩
      · rw [if_pos (by omega)]
        refine c_findsPair (rs := rs) (n := (FD rs (PLc rs i j k)).length) hi hj rfl e2 e3 (hA.gm e773) (hR.gm e773) hok hkl hR3.2.1 hn (fun μ4 X hX hF hc hN => ?_) (fun μ4 hX hF hc => ?_)
        · have hXo := pr1_ok oi oj hkl hX
          exact next μ4 ⟨hR3.1.same hF.1, by rw [hPk, FD_some hn (pr2_s (by omega) hX)]; exact hR3.2.add rfl hF hc hXo.1.2.1 hXo.2.2.1 hN⟩
        · exact next μ4 ⟨hR3.1.same hF.1, by rw [hPk, FD_none (pr2_n fun _ => hX)]; exact hR3.2.keep rfl hF hc⟩
    · rw [if_neg (by omega)]
      exact next μ3 ⟨hR3.1, by rw [hPk, FD_full (by omega)]; exact hR3.2⟩
  · rw [if_neg (by omega)]
    have ew : wr (v2 + 1) = ((j + 1 : Nat) : Int) := by rw [e2, wr_id (by omega) (by omega)]; omega
    rw [ew]
    have ek : k = len1 rs i := by omega
    unfold MRv at hR3
    rw [ek, PLc_j] at hR3
    exact hW μ3 hR3
theorem c_findsPairs {Q : Mem → Prop} (hA : AR μ ars) (hR : MRs μ rs) (hok : ∀ r, r ∈ rs → okr ars r) (k : ∀ μ', Gm fpR fpF μ μ' → MPD μ' (prs rs) → Q μ') : d_Md_findsPairs μ Q := by
  unfold d_Md_findsPairs
  have r6 := hR.2.1
  have e5 : ∀ μ1 i j k, MRv μ μ1 rs i j k → μ1 773 1 = (rs.length : Int) := fun μ1 i j k hV => by rw [hV.1.1 773 (by decide) (by decide)]; exact hR.1
  refine i_Md_findsPairs_l7 (Inv := fun v1 μ1 => ∃ i : Nat, v1 = i ∧ i ≤ rs.length ∧ MRv μ μ1 rs i 0 0) (fun v1 _ => rs.length - v1.toNat) ?_ 0 _ ⟨0, rfl, Nat.zero_le _, (Gm.upF (k := 41)).mono (by decide) (by decide), ?_⟩
  · rintro v1 μ1 ⟨i, e1, hi, hV⟩ W7 hW7
    unfold d_Md_findsPairs_b7
    rw [e5 _ _ _ _ hV]
    by_cases h : i < rs.length
    · rw [if_pos (by omega)]
      refine i_Md_findsPairs_l19 (Inv := fun v2 μ2 => ∃ j : Nat, v2 = j ∧ j ≤ rs.length ∧ MRv μ μ2 rs i j 0) (fun v2 _ => rs.length - v2.toNat) ?_ 0 μ1 ⟨0, rfl, Nat.zero_le _, hV⟩
      rintro v2 μ2 ⟨j, e2, hj, hV2⟩ W19 hW19
      unfold d_Md_findsPairs_b19
      rw [e5 _ _ _ _ hV2]
      by_cases hjl : j < rs.length
      · rw [if_pos (by omega)]
        unfold d_Md_findsPairs_j39
        have nx : ∀ μ', MRv μ μ' rs i (j + 1) 0 → W19 ((j + 1 : Nat) : Int) μ' := fun μ' hR' => hW19 _ _ ⟨j + 1, rfl, by omega, hR'⟩ (by omega)
        by_cases hij : i = j
        · rw [if_pos (by omega)]
          have hl := wl_len (d := 0) (hok _ (getD_mem (d := ([], [])) h)).1.1
          refine c_findsP hA hR hok e1 e2 h hjl nx 1 1 rfl μ2 hl (fun _ => Nat.le_refl _) ?_
          unfold MRv at hV2 ⊢
          rw [PLc_k, if_pos ⟨hij, rfl⟩, List.append_nil]
          exact hV2
        · rw [if_neg (by omega)]
          exact c_findsP hA hR hok e1 e2 h hjl nx 0 0 rfl μ2 (Nat.zero_le _) (fun q => absurd q hij) hV2
      · rw [if_neg (by omega)]
        have ew : wr (v1 + 1) = ((i + 1 : Nat) : Int) := by rw [wr_id (by omega) (by omega)]; omega
        rw [ew]
        have ej : j = rs.length := by omega
        unfold MRv at hV2
        rw [ej, PLc_i] at hV2
        exact hW7 _ _ ⟨i + 1, rfl, by omega, hV2⟩ (by omega)
    · rw [if_neg (by omega)]
      have ei : i = rs.length := by omega
      unfold MRv at hV
      rw [ei, PLc_all, FD_all] at hV
      exact k μ1 hV.1 hV.2
  · rw [PLc_0, FD_nil]
    exact ⟨mup_s, fun i hi => absurd hi (by simp)⟩
/-- a pair's term is lent -/
theorem c_lendsPair {v : Int} {pl : Nat} {T : List Int} {Q : Int → Mem → Prop} (hv : v = (pl : Int)) (hpl : pl < 40) (h91 : μ 791 pl = (T.length : Int)) (h80 : T.length ≤ 80) (hM : Me (μ 792) (80 * pl) T) (k : ∀ r μ', WK μ' T → Gm [780] [25] μ μ' → Q r μ') : d_Md_lendsPair v μ Q := by
  unfold d_Md_lendsPair
  refine ⟨by omega, ?_⟩
  rw [show v.toNat = pl by omega, h91, mup_s]
  have ew : wr (v * 80) = ((80 * pl : Nat) : Int) := by rw [wr_id (by omega) (by omega)]; omega
  rw [ew]
  refine c_lays (80 * pl) 0 T.length rfl rfl rfl (by rw [ln792]; omega) (by rw [ln780]; omega) (Or.inl (by decide)) (fun μ1 g1 g2 g3 => ?_)
  have hG : Gm [780] [25] μ μ1 := (Gm.upF (k := 25)).tr ⟨fun b k1 k2 => g3 b (by simpa using k2), fun j _ => by rw [g3 772 (by decide)]⟩ (r2 := [780]) (f2 := []) (by decide) (by decide) (by decide) (by decide)
  refine k _ _ ⟨by rw [g3 772 (by decide), mup_s], h80, fun i hi => ?_⟩ hG
  rw [List.length_map] at hi
  rw [g1 i hi, mup_r (by decide)]
  exact hM i (by rw [List.length_map]; exact hi)
abbrev jnR : List Nat := [780, 781, 782, 783]
abbrev jnF : List Nat := [25, 26, 27]
theorem c_mjoins {v : Int} {n i j p : Nat} {X : List Int × List Int} {Q : Bool → Mem → Prop} (hv : v = (n : Int)) (hn : n < 20) (hA : AR μ ars) (hR : MRs μ rs) (hok : ∀ r, r ∈ rs → okr ars r) (hN : NtM μ n i j p X) (o1 : okt ars 16 80 X.1) (o2 : okt ars 16 80 X.2)
    (k : ∀ μ', Gm jnR jnF μ μ' → Q (mee rs 50 X.1 X.2) μ') : d_Md_joins v μ Q := by
  unfold d_Md_joins
  have eA : wr (2 * v) = ((2 * n : Nat) : Int) := by rw [wr_id (by omega) (by omega)]; omega
  have eB : wr (((2 * n : Nat) : Int) + 1) = ((2 * n + 1 : Nat) : Int) := by rw [wr_id (by omega) (by omega)]; omega
  rw [eA, eB]
  obtain ⟨g1, g2, g3, g4, g5, g6, g7⟩ := hN
  refine c_lendsPair (T := X.1) rfl (by omega) g4 o1.2.1 (by rw [show 80 * (2 * n) = 160 * n by omega]; exact g6) fun r μ1 w1 q1 => ?_
  have e1 : μ1 773 = μ 773 := q1.1 773 (by decide) (by decide)
  refine c_reduces (inner := true) (n := 50) (hA.gm e1) w1 o1 (hR.gm e1) hok (by omega) (fun μ2 m Y hY w2 q2 => ?_) (fun μ2 hY q2 => ?_)
  · have Q2 : Gm jnR jnF μ μ2 := q1.tr q2 (by decide) (by decide) (by decide) (by decide)
    rw [if_neg (by omega)]
    have oY := (rdc_ok hok _ _ _ _ o1 hY).1
    refine c_keeps w2 fun μ3 hK w3 q3 => ?_
    have Q3 : Gm jnR jnF μ μ3 := Q2.tr q3 (by decide) (by decide) (by decide) (by decide)
    refine c_lendsPair (T := X.2) rfl (by omega) (by rw [Q3.1 791 (by decide) (by decide)]; exact g5) o2.2.1 (by rw [show 80 * (2 * n + 1) = 160 * n + 80 by omega, Q3.1 792 (by decide) (by decide)]; exact g7) fun r μ4 w4 q4 => ?_
    have Q4 : Gm jnR jnF μ μ4 := Q3.tr q4 (by decide) (by decide) (by decide) (by decide)
    have e4 : μ4 773 = μ 773 := Q4.1 773 (by decide) (by decide)
    refine c_reduces (inner := true) (n := 50) (hA.gm e4) w4 o2 (hR.gm e4) hok (by omega) (fun μ5 m' Z hZ w5 q5 => ?_) (fun μ5 hZ q5 => ?_)
    · have Q5 : Gm jnR jnF μ μ5 := Q4.tr q5 (by decide) (by decide) (by decide) (by decide)
      rw [if_neg (by omega)]
      have oZ := (rdc_ok hok _ _ _ _ o2 hZ).1
      have hK5 : KP μ5 Y := hK.gm (by rw [q5.1 782 (by decide) (by decide), q4.1 782 (by decide) (by decide)]) (by rw [q5.2 27 (by decide), q4.2 27 (by decide)])
      refine c_isKept hA.1 hK5 w5 oY oZ ?_
      have em : mee rs 50 X.1 X.2 = decide (Y = Z) := by
        unfold mee
        rw [hY, hZ]
      have := k μ5 Q5
      rw [em] at this
      by_cases q : Y = Z
      · rw [decide_eq_true q] at this ⊢
        rw [if_pos rfl]
        exact this
      · rw [decide_eq_false q] at this ⊢
        rw [if_neg Bool.false_ne_true]
        exact this
    · rw [if_pos rfl]
      have em : mee rs 50 X.1 X.2 = false := by
        unfold mee
        rw [hY, hZ]
      rw [← em]
      exact k μ5 (Q4.tr q5 (by decide) (by decide) (by decide) (by decide))
  · rw [if_pos rfl]
    have em : mee rs 50 X.1 X.2 = false := by
      unfold mee
      rw [hY]
    rw [← em]
    exact k μ2 (q1.tr q2 (by decide) (by decide) (by decide) (by decide))
end K77
section L77
variable {μ : Mem} {A : AS} {v : Int}
theorem MQI.t2P {Q : Int → Mem → Prop} {r z : Int} {μ1 : Mem} (h : MQI μ A (g1 true false r) Q) (hI : MI μ A) (hG : Gm qmR qmF μ μ1) : Q z (mup μ1 772 0 2) := by
  have hG2 : Gm qmR qmF μ (mup μ1 772 0 2) := hG.tr (Gm.upF (k := 0)) (by decide) (by decide) (by decide) (by decide)
  exact h _ z (hI.gq hG2) hG2.frMq mup_s (fun q => absurd (show (2 : Int) = 0 from q) (by decide))
theorem MQI.okP {Q : Int → Mem → Prop} {r z : Int} {μ1 : Mem} (h : MQI μ A (g1 true true r) Q) (hI : MI μ A) (hG : Gm qmR qmF μ μ1) (h0 : μ1 772 0 = 0) (hz : z = r) : Q z μ1 := h _ z (hI.gq hG) hG.frMq h0 (fun _ => hz)
theorem MQB.t2P {Q : Bool → Mem → Prop} {r : Int} {z : Bool} {μ1 : Mem} (h : MQB μ A (g1 true false r) Q) (hI : MI μ A) (hG : Gm qmR qmF μ μ1) : Q z (mup μ1 772 0 2) := by
  have hG2 : Gm qmR qmF μ (mup μ1 772 0 2) := hG.tr (Gm.upF (k := 0)) (by decide) (by decide) (by decide) (by decide)
  exact h _ z (hI.gq hG2) hG2.frMq mup_s (fun q => absurd (show (2 : Int) = 0 from q) (by decide))
theorem MQB.okP {Q : Bool → Mem → Prop} {r : Int} {z : Bool} {μ1 : Mem} (h : MQB μ A (g1 true true r) Q) (hI : MI μ A) (hG : Gm qmR qmF μ μ1) (h0 : μ1 772 0 = 0) (hz : b2i z = r) : Q z μ1 := h _ z (hI.gq hG) hG.frMq h0 (fun _ => hz)
theorem c_mayPair {Q : Bool → Mem → Prop} (hI : MI μ A) (hA : AOK A) (h0 : aL A = false → Q false (mup μ 772 0 1)) (h1 : aL A = true → prI A v = false → ∀ μ', Gm fpR fpF μ μ' → Q false (mup μ' 772 0 2))
    (h2 : aL A = true → prI A v = true → ∀ (i : Nat) (μ' : Mem), v = (i : Int) → i < (prs (aR A)).length → Gm fpR fpF μ μ' → MPD μ' (prs (aR A)) → Q true (mup μ' 772 0 0)) : d_Md_mayPair v μ Q := by
  unfold d_Md_mayPair
  have hl := prs_len (aR A)
  have h6 : μ 772 6 = b2i (aL A) := hI.1
  cases hL : aL A with
  | false =>
    rw [hL] at h6
    rw [h6, if_pos (by decide)]
    unfold d_Md_mayPair_j11 d_Md_mayPair_j41 d_Md_mayPair_j42
    rw [h6, if_pos (by decide)]
    exact c_mayTwo (b1 := false) (b2 := false) (fun _ => h0 hL) (fun q => by cases q) (fun q => by cases q)
  | true =>
    rw [hL] at h6
    rw [h6, if_neg (by decide)]
    refine c_findsPairs (hI.AR hA) (hI.rules hA) hA.rules fun μ1 g1 d1 => ?_
    unfold d_Md_mayPair_j11 d_Md_mayPair_j41 d_Md_mayPair_j42
    have e6 : μ1 772 6 = b2i true := by rw [g1.2 6 (by decide)]; exact h6
    rw [e6, if_neg (by decide), d1.1]
    have ew : wr (((prs (aR A)).length : Int) - 1) = ((prs (aR A)).length : Int) - 1 := wr_id (by omega) (by omega)
    rw [ew]
    refine c_mIn ?_
    by_cases q : 0 ≤ v ∧ v < ((prs (aR A)).length : Int)
    · rw [decide_eq_true (by omega), if_pos rfl]
      exact c_mayTwo (b1 := true) (b2 := true) (fun g => by cases g) (fun _ g => by cases g) (fun _ _ => h2 hL (decide_eq_true q) v.toNat μ1 (by omega) (by omega) g1 d1)
    · rw [decide_eq_false (by omega), if_neg Bool.false_ne_true]
      exact c_mayTwo (b1 := true) (b2 := false) (fun g => by cases g) (fun _ _ => h1 hL (decide_eq_false q) μ1 g1) (fun _ g => by cases g)
theorem gmP {μ1 : Mem} {z : Int} (g : Gm fpR fpF μ μ1) : Gm qmR qmF μ (mup μ1 772 0 z) := g.tr (Gm.upF (k := 0)) (by decide) (by decide) (by decide) (by decide)
theorem gmP0 {μ1 : Mem} (g : Gm fpR fpF μ μ1) : Gm qmR qmF μ μ1 := g.mono (by decide) (by decide)
theorem MPD.set0 {μ1 : Mem} {z : Int} {D : List Pr1} (h : MPD μ1 D) : MPD (mup μ1 772 0 z) D := h.same (mup_k (by decide)) (mup_r (by decide)) (mup_r (by decide)) (mup_r (by decide))
theorem mm_criticalPairCount {Q : Int → Mem → Prop} (hI : MI μ A) (hA : AOK A) (h : MQI μ A (sp_criticalPairCount A) Q) : d_Md_criticalPairCount μ Q := by
  unfold d_Md_criticalPairCount
  unfold sp_criticalPairCount at h
  refine c_mayLook hI (fun e => ?_) fun e => ?_
  · rw [e] at h
    exact h.t1 hI
  · rw [e] at h
    have hI0 : MI (mup μ 772 0 0) A := hI.f0 (by decide)
    rw [if_pos rfl]
    refine c_findsPairs (hI0.AR hA) (hI0.rules hA) hA.rules fun μ1 q1 d1 => ?_
    rw [d1.1]
    exact h.ok hI (q1.mono (by decide) (by decide)) rfl
theorem mm_pairOuterRule {Q : Int → Mem → Prop} (hI : MI μ A) (hA : AOK A) (h : MQI μ A (sp_pairOuterRule A v) Q) : d_Md_pairOuterRule v μ Q := by
  unfold d_Md_pairOuterRule
  unfold sp_pairOuterRule at h
  refine c_mayPair hI hA (fun e => ?_) (fun e en μ1 q1 => ?_) (fun e en i μ1 hv hi q1 d1 => ?_)
  · rw [e] at h
    exact h.t1 hI
  · rw [e, en] at h
    exact h.t2P hI (gmP0 q1)
  · rw [e, en, prG_i hv] at h
    have hl := prs_len (aR A)
    have d2 := (d1.set0 (z := 0)).2 i hi
    have ew : wr (3 * v) = ((3 * i : Nat) : Int) := by rw [wr_id (by omega) (by omega)]; omega
    rw [if_pos rfl, ew, Int.toNat_natCast, d2.2.2.1]
    exact ⟨by omega, h.okP hI (gmP q1) mup_s rfl⟩
theorem mm_pairInnerRule {Q : Int → Mem → Prop} (hI : MI μ A) (hA : AOK A) (h : MQI μ A (sp_pairInnerRule A v) Q) : d_Md_pairInnerRule v μ Q := by
  unfold d_Md_pairInnerRule
  unfold sp_pairInnerRule at h
  refine c_mayPair hI hA (fun e => ?_) (fun e en μ1 q1 => ?_) (fun e en i μ1 hv hi q1 d1 => ?_)
  · rw [e] at h
    exact h.t1 hI
  · rw [e, en] at h
    exact h.t2P hI (gmP0 q1)
  · rw [e, en, prG_i hv] at h
    have hl := prs_len (aR A)
    have d2 := (d1.set0 (z := 0)).2 i hi
    have ew : wr (wr (3 * v) + 1) = ((3 * i + 1 : Nat) : Int) := by rw [wr_id (z := 3 * v) (by omega) (by omega), wr_id (by omega) (by omega)]; omega
    rw [if_pos rfl, ew, Int.toNat_natCast, d2.2.2.2.1]
    exact ⟨by omega, h.okP hI (gmP q1) mup_s rfl⟩
theorem mm_pairPosition {Q : Int → Mem → Prop} (hI : MI μ A) (hA : AOK A) (h : MQI μ A (sp_pairPosition A v) Q) : d_Md_pairPosition v μ Q := by
  unfold d_Md_pairPosition
  unfold sp_pairPosition at h
  refine c_mayPair hI hA (fun e => ?_) (fun e en μ1 q1 => ?_) (fun e en i μ1 hv hi q1 d1 => ?_)
  · rw [e] at h
    exact h.t1 hI
  · rw [e, en] at h
    exact h.t2P hI (gmP0 q1)
  · rw [e, en, prG_i hv] at h
    have hl := prs_len (aR A)
    have d2 := (d1.set0 (z := 0)).2 i hi
    have ew : wr (wr (3 * v) + 2) = ((3 * i + 2 : Nat) : Int) := by rw [wr_id (z := 3 * v) (by omega) (by omega), wr_id (by omega) (by omega)]; omega
    rw [if_pos rfl, ew, Int.toNat_natCast, d2.2.2.2.2.1]
    exact ⟨by omega, h.okP hI (gmP q1) mup_s rfl⟩
theorem mm_pairJoins {Q : Bool → Mem → Prop} (hI : MI μ A) (hA : AOK A) (h : MQB μ A (sp_pairJoins A v) Q) : d_Md_pairJoins v μ Q := by
  unfold d_Md_pairJoins
  unfold sp_pairJoins at h
  refine c_mayPair hI hA (fun e => ?_) (fun e en μ1 q1 => ?_) (fun e en i μ1 hv hi q1 d1 => ?_)
  · rw [e] at h
    exact h.t1 hI
  · rw [e, en] at h
    exact h.t2P hI (gmP0 q1)
  · rw [e, en, prG_i hv] at h
    have hl := prs_len (aR A)
    have hok := prs_ok hA.rules _ (getD_mem (d := ((0, 0, 0), [], [])) hi)
    have d2 := (d1.set0 (z := 0)).2 i hi
    have hI1 : MI (mup μ1 772 0 0) A := hI.gq (gmP q1)
    rw [if_pos rfl]
    refine c_mjoins hv (by omega) (hI1.AR hA) (hI1.rules hA) hA.rules d2.2.2 hok.1 hok.2 fun μ2 q2 => ?_
    have hG : Gm qmR qmF μ μ2 := (gmP q1).tr q2 (by decide) (by decide) (by decide) (by decide)
    have z2 : μ2 772 0 = 0 := by rw [q2.2 0 (by decide), mup_s]
    cases hm : mee (aR A) 50 ((prs (aR A)).getD i ((0, 0, 0), [], [])).2.1 ((prs (aR A)).getD i ((0, 0, 0), [], [])).2.2 with
    | true =>
      rw [hm] at h
      rw [if_pos rfl]
      exact h.okP hI hG z2 rfl
    | false =>
      rw [hm] at h
      rw [if_neg (by decide)]
      exact h.okP hI hG z2 rfl
theorem mm_unjoinedPairs {Q : Int → Mem → Prop} (hI : MI μ A) (hA : AOK A) (h : MQI μ A (sp_unjoinedPairs A) Q) : d_Md_unjoinedPairs μ Q := by
  unfold d_Md_unjoinedPairs
  unfold sp_unjoinedPairs at h
  refine c_mayLook hI (fun e => ?_) fun e => ?_
  · rw [e] at h
    exact h.t1 hI
  · rw [e] at h
    have hI0 : MI (mup μ 772 0 0) A := hI.f0 (by decide)
    have hl := prs_len (aR A)
    have hul := ujn_le (aR A) (prs (aR A))
    rw [if_pos rfl]
    refine c_findsPairs (hI0.AR hA) (hI0.rules hA) hA.rules fun μ1 q1 d1 => ?_
    refine i_Md_unjoinedPairs_l17 (Inv := fun v1 v2 μ2 => ∃ (n k : Nat), v1 = n ∧ v2 = k ∧ k ≤ (prs (aR A)).length ∧ n + ujn (aR A) ((prs (aR A)).drop k) = ujn (aR A) (prs (aR A)) ∧ Gm qmR qF0 (mup μ 772 0 0) μ2 ∧ MPD μ2 (prs (aR A))) (fun _ v2 _ => (prs (aR A)).length - v2.toNat) ?_ 0 0 μ1 ⟨0, 0, rfl, rfl, Nat.zero_le _, by rw [List.drop_zero, Nat.zero_add], q1.mono (by decide) (by decide), d1⟩
    rintro v1 v2 μ2 ⟨n, k, e1, e2, hk, hn, q2, d2⟩ W hW
    unfold d_Md_unjoinedPairs_b17
    rw [d2.1]
    by_cases hkl : k < (prs (aR A)).length
    · rw [if_pos (by omega)]
      rw [ujn_step hkl] at hn
      have hok := prs_ok hA.rules _ (getD_mem (d := ((0, 0, 0), [], [])) hkl)
      have e773 : μ2 773 = mup μ 772 0 0 773 := q2.1 773 (by decide) (by decide)
      refine c_mjoins e2 (by omega) ((hI0.AR hA).gm e773) ((hI0.rules hA).gm e773) hA.rules (d2.2 k hkl).2.2 hok.1 hok.2 fun μ3 q3 => ?_
      have Q3 : Gm qmR qF0 (mup μ 772 0 0) μ3 := q2.tr q3 (by decide) (by decide) (by decide) (by decide)
      have d3 : MPD μ3 (prs (aR A)) := d2.same (q3.2 41 (by decide)) (q3.1 790 (by decide) (by decide)) (q3.1 791 (by decide) (by decide)) (q3.1 792 (by decide) (by decide))
      unfold d_Md_unjoinedPairs_j39 d_Md_one
      have ew : wr (v2 + 1) = ((k + 1 : Nat) : Int) := by rw [wr_id (by omega) (by omega)]; omega
      have ew0 : wr (v1 + 0) = (n : Int) := by rw [wr_id (by omega) (by omega)]; omega
      have ew1 : wr (v1 + 1) = ((n + 1 : Nat) : Int) := by rw [wr_id (by omega) (by omega)]; omega
      rw [ew]
      cases hm : mee (aR A) 50 ((prs (aR A)).getD k ((0, 0, 0), [], [])).2.1 ((prs (aR A)).getD k ((0, 0, 0), [], [])).2.2 with
      | true =>
        rw [hm, if_pos rfl] at hn
        rw [if_pos rfl, if_pos rfl]
        dsimp only
        rw [ew0]
        exact hW _ _ _ ⟨n, k + 1, rfl, rfl, by omega, by omega, Q3, d3⟩ (by omega)
      | false =>
        rw [hm, if_neg (by decide)] at hn
        rw [if_neg (by decide), if_neg (by decide)]
        dsimp only
        rw [ew1]
        exact hW _ _ _ ⟨n + 1, k + 1, rfl, rfl, by omega, by omega, Q3, d3⟩ (by omega)
    · rw [if_neg (by omega)]
      rw [List.drop_eq_nil_of_le (by omega), show ujn (aR A) [] = 0 from rfl, Nat.add_zero] at hn
      rw [e1, hn]
      exact h.ok hI q2 rfl
theorem mm_writePair {Q : Int → Mem → Prop} (hI : MI μ A) (hA : AOK A) (h : MC μ (sp_writePair A v) Q) : d_Md_writePair v μ Q := by
  unfold d_Md_writePair
  unfold sp_writePair at h
  refine c_mayPair hI hA (fun e => ?_) (fun e en μ1 q1 => ?_) (fun e en i μ1 hv hi q1 d1 => ?_)
  · rw [e] at h
    exact h.e1 hI Gm.rfl'
  · rw [e, en] at h
    exact h.e2 (hI.gq (gmP0 q1)) (q1.mono (by decide) (by decide))
  · rw [e, en, prG_i hv] at h
    have hl := prs_len (aR A)
    have hok := prs_ok hA.rules _ (getD_mem (d := ((0, 0, 0), [], [])) hi)
    have d2 := d1.2 i hi
    generalize (prs (aR A)).getD i ((0, 0, 0), [], []) = X at *
    obtain ⟨l1, l2, g1, g2, g3, g4, g5, g6, g7⟩ := d2
    have eA : wr (2 * v) = ((2 * i : Nat) : Int) := by rw [wr_id (by omega) (by omega)]; omega
    have eB : wr (((2 * i : Nat) : Int) + 1) = ((2 * i + 1 : Nat) : Int) := by rw [wr_id (by omega) (by omega)]; omega
    rw [if_pos rfl, eA, eB, Int.toNat_natCast, Int.toNat_natCast]
    have rr : ∀ b, b ≠ 772 → mup (mup μ1 772 0 0) 772 44 0 b = μ1 b := fun b hb => by rw [mup_r hb, mup_r hb]
    have e773 : mup (mup μ1 772 0 0) 772 44 0 773 = μ 773 := by rw [rr _ (by decide), q1.1 773 (by decide) (by decide)]
    rw [rr 791 (by decide), g4]
    have w1 := wrt_len hA.1 X.2.1 [] hok.1.2.2
    rw [List.length_nil] at w1
    refine ⟨by omega, c_writesRow (p := 160 * i) (T := X.2.1) (by rw [wr_id (by omega) (by omega)]; omega) rfl (by rw [rr _ (by decide)]; exact g6) ⟨by decide, by decide, by decide⟩ (by rw [ln792]; omega) (hI.syg.gm e773) hA.1 MOu.nil hok.1.2.2 l1 (by rw [List.length_nil]; omega) fun μ2 o2 q2 => ?_⟩
    rw [List.nil_append] at o2
    refine c_writesByte o2 (by omega) (by omega) fun μ3 o3 q3 => c_writesByte o3 (by rw [List.length_append, List.length_singleton]; omega) (by omega) fun μ4 o4 q4 => ?_
    have Q4 : Gm [779, 794] [44] (mup (mup μ1 772 0 0) 772 44 0) μ4 := (q2.tr q3 (r := [779, 794]) (f := [44]) (by decide) (by decide) (by decide) (by decide)).tr q4 (by decide) (by decide) (by decide) (by decide)
    have r4 : ∀ b, b ≠ 772 → b ≠ 779 → b ≠ 794 → μ4 b = μ1 b := fun b k1 k2 k3 => by rw [Q4.1 b k1 (by simp [k2, k3]), rr b k1]
    rw [r4 791 (by decide) (by decide) (by decide), g5]
    refine ⟨by omega, c_writesRow (p := 160 * i + 80) (T := X.2.2) (by rw [wr_id (by omega) (by omega)]; omega) rfl (by rw [r4 _ (by decide) (by decide) (by decide)]; exact g7) ⟨by decide, by decide, by decide⟩ (by rw [ln792]; omega) (hI.syg.gm (by rw [Q4.1 773 (by decide) (by decide)]; exact e773)) hA.1 o4 hok.2.2.2 l2 (by rw [List.length_append, List.length_append, List.length_singleton, List.length_singleton]; omega) fun μ5 o5 q5 => ?_⟩
    have Q0 : Gm fpR fpF (mup μ 772 0 0) (mup μ1 772 0 0) := ⟨fun b k1 k2 => by rw [mup_r k1, mup_r k1]; exact q1.1 b k1 k2, fun j hj => by
      by_cases e0 : j = 0
      · rw [e0, mup_s, mup_s]
      · rw [mup_k e0, mup_k e0]
        exact q1.2 j hj⟩
    refine h.okO hI o5 ?_
    have Q1 : Gm owR owF (mup μ 772 0 0) (mup (mup μ1 772 0 0) 772 44 0) := Q0.tr (Gm.upF (k := 44)) (by decide) (by decide) (by decide) (by decide)
    exact (Q1.tr Q4 (r := owR) (f := owF) (by decide) (by decide) (by decide) (by decide)).tr q5 (by decide) (by decide) (by decide) (by decide)
end L77
