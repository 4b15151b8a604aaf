/-! THE REFERENCE: its rows, what is lent, built, matched -/
theorem gm0 {l : List Int} {k : Nat} (h : k < l.length) : l.getD k 0 ∈ l := getD_mem h
def enc (c : Int) : Int := if c < 0 then 99 - c else c / 4
theorem enc_neg {c : Int} (h : c < 0) : enc c = 99 - c := if_pos h
theorem enc_pos {c : Int} (h : 0 ≤ c) : enc c = c / 4 := if_neg (by omega)
theorem enc_lt {ars : List Nat} {m : Nat} {c : Int} (h : okn ars m c) (ha : ars.length ≤ 8) : enc c < 100 ↔ 0 ≤ c := by
  by_cases h0 : c < 0
  · rw [enc_neg h0]; omega
  · have := okn_lt h ha
    rw [enc_pos (by omega)]; omega
theorem okn_eq {ars : List Nat} {m : Nat} {c : Int} (h : okn ars m c) (h0 : 0 ≤ c) : c = 4 * (c / 4) + ((ars.getD (c / 4).toNat 0 : Nat) : Int) := by
  rw [(h.2 h0).2]
  unfold ar
  rw [if_neg (by omega)]
  omega
theorem enc_inj {ars : List Nat} {m m' : Nat} {c d : Int} (hc : okn ars m c) (hd : okn ars m' d) (ha : ars.length ≤ 8) : enc c = enc d ↔ c = d := by
  refine ⟨fun h => ?_, fun h => by rw [h]⟩
  have l1 := enc_lt hc ha
  have l2 := enc_lt hd ha
  by_cases h0 : c < 0
  · have : d < 0 := by omega
    rw [enc_neg h0, enc_neg this] at h
    omega
  · have h0' : 0 ≤ d := by omega
    rw [enc_pos (by omega), enc_pos h0'] at h
    have e1 := okn_eq hc (by omega)
    have e2 := okn_eq hd h0'
    rw [h] at e1
    omega
/-- of the reference's rows and fields only these change -/
def Gm (rows flds : List Nat) (μ μ' : Mem) : Prop := (∀ b, b ≠ 772 → b ∉ rows → μ' b = μ b) ∧ ∀ j, j ∉ flds → μ' 772 j = μ 772 j
theorem Gm.rfl' {r f : List Nat} {μ : Mem} : Gm r f μ μ := ⟨fun _ _ _ => rfl, fun _ _ => rfl⟩
theorem Gm.tr {r f r1 f1 r2 f2 : List Nat} {μ μ1 μ2 : Mem} (h1 : Gm r1 f1 μ μ1) (h2 : Gm r2 f2 μ1 μ2) (a1 : ∀ x, x ∈ r1 → x ∈ r) (a2 : ∀ x, x ∈ r2 → x ∈ r) (b1 : ∀ x, x ∈ f1 → x ∈ f) (b2 : ∀ x, x ∈ f2 → x ∈ f) : Gm r f μ μ2 :=
  ⟨fun b g1 g2 => by rw [h2.1 b g1 (fun q => g2 (a2 b q)), h1.1 b g1 (fun q => g2 (a1 b q))], fun j g => by rw [h2.2 j (fun q => g (b2 j q)), h1.2 j (fun q => g (b1 j q))]⟩
theorem Gm.mono {r f r1 f1 : List Nat} {μ μ1 : Mem} (h1 : Gm r1 f1 μ μ1) (a1 : ∀ x, x ∈ r1 → x ∈ r) (b1 : ∀ x, x ∈ f1 → x ∈ f) : Gm r f μ μ1 := h1.tr (Gm.rfl' (r := []) (f := [])) a1 (fun _ q => by cases q) b1 (fun _ q => by cases q)
theorem Gm.same {r f : List Nat} {μ μ1 μ2 : Mem} (h1 : Gm r f μ μ1) (h2 : Gm r f μ1 μ2) : Gm r f μ μ2 := h1.tr h2 (fun _ q => q) (fun _ q => q) (fun _ q => q) (fun _ q => q)
theorem Gm.upF {μ : Mem} {k : Nat} {z : Int} : Gm [] [k] μ (mup μ 772 k z) := ⟨fun b g _ => mup_r g, fun j g => mup_k (by simpa using g)⟩
theorem Gm.upR {μ : Mem} {a k : Nat} {z : Int} (h : a ≠ 772) : Gm [a] [] μ (mup μ a k z) := ⟨fun b _ g => mup_r (by simpa using g), fun j _ => by rw [mup_r (fun q => h q.symm)]⟩
theorem c_lays {a b : Nat} {vi vj vn : Int} {μ : Mem} {Q : Mem → Prop} (i j n : Nat) (hi : vi = i) (hj : vj = j) (hn : vn = n) (h1 : i + n ≤ ln a) (h2 : j + n ≤ ln b) (hab : a ≠ b ∨ j ≤ i)
    (h : ∀ μ', (∀ k, k < n → μ' b (j + k) = μ a (i + k)) → (∀ x, x < j ∨ j + n ≤ x → μ' b x = μ b x) → (∀ c, c ≠ b → μ' c = μ c) → Q μ') : d_Md_lays a vi b vj vn μ Q := by
  subst hi hj hn
  have l1 := ln_le a
  have l2 := ln_le b
  unfold d_Md_lays
  refine i_Md_lays_l3 (Inv := fun v5 μ1 => ∃ k : Nat, v5 = k ∧ k ≤ n ∧ (∀ q, q < k → μ1 b (j + q) = μ a (i + q)) ∧ (∀ x, x < j ∨ j + k ≤ x → μ1 b x = μ b x) ∧ ∀ c, c ≠ b → μ1 c = μ c) (fun v5 _ => n - v5.toNat) ?_ 0 μ ⟨0, rfl, Nat.zero_le _, fun q hq => absurd hq (by omega), fun _ _ => rfl, fun _ _ => rfl⟩
  rintro _ μ1 ⟨k, rfl, hk, g1, g2, g3⟩ W hW
  unfold d_Md_lays_b3
  by_cases hkn : k < n
  · rw [if_pos (by omega)]
    simp (disch := omega) only [wr_id]
    refine ⟨by omega, by omega, ?_⟩
    have e : μ1 a ((i : Int) + (k : Int)).toNat = μ a (i + k) := by
      rw [show ((i : Int) + (k : Int)).toNat = i + k by omega]
      by_cases hc : a = b
      · subst hc
        rcases hab with q | q
        · exact absurd rfl q
        · exact g2 _ (by omega)
      · rw [g3 a hc]
    rw [e, show ((j : Int) + (k : Int)).toNat = j + k by omega]
    refine hW _ _ ⟨k + 1, by omega, by omega, fun q hq => ?_, fun x hx => ?_, fun c hc => ?_⟩ (by omega)
    · rw [mup_a]
      by_cases e2 : j + q = j + k
      · rw [if_pos e2, show q = k by omega]
      · rw [if_neg e2]
        exact g1 q (by omega)
    · rw [mup_k (by omega)]
      exact g2 x (by omega)
    · rw [mup_r hc]
      exact g3 c hc
  · rw [if_neg (by omega)]
    obtain rfl : k = n := by omega
    exact h _ g1 g2 g3
/-- the arities stand in the reference's row -/
def AR (μ : Mem) (ars : List Nat) : Prop := ars.length ≤ 8 ∧ ∀ i, i < ars.length → μ 773 (3 + 8 * i) = ((ars.getD i 0 : Nat) : Int) ∧ ars.getD i 0 ≤ 3
theorem AR.gm {μ μ' : Mem} {ars : List Nat} (h : AR μ ars) (h1 : μ' 773 = μ 773) : AR μ' ars := ⟨h.1, fun i hi => by rw [h1]; exact h.2 i hi⟩
theorem c_ofSymbol {μ : Mem} {i k : Nat} {Q : Int → Prop} (hi : i < 8) (hk : k < 8) (h : Q (μ 773 (3 + 8 * i + k))) : d_Md_ofSymbol (i : Int) (k : Int) μ Q := by
  unfold d_Md_ofSymbol
  simp (disch := omega) only [wr_id]
  refine ⟨by omega, ?_⟩
  rw [show (3 + 8 * (i : Int) + (k : Int)).toNat = 3 + 8 * i + k by omega]
  exact h
theorem c_ofRule {μ : Mem} {i k : Nat} {Q : Int → Prop} (hi : i < 6) (hk : k < 26) (h : Q (μ 773 (67 + 26 * i + k))) : d_Md_ofRule (i : Int) (k : Int) μ Q := by
  unfold d_Md_ofRule
  simp (disch := omega) only [wr_id]
  refine ⟨by omega, ?_⟩
  rw [show (67 + 26 * (i : Int) + (k : Int)).toNat = 67 + 26 * i + k by omega]
  exact h
theorem c_sizeOf {μ : Mem} {i : Nat} {Q : Int → Prop} (hi : i < 6) (h : Q (μ 773 (223 + 81 * i))) : d_Md_sizeOf (i : Int) μ Q := by
  unfold d_Md_sizeOf
  simp (disch := omega) only [wr_id]
  refine ⟨by omega, ?_⟩
  rw [show (223 + 81 * (i : Int) + 0).toNat = 223 + 81 * i by omega]
  exact h
section M40
variable {μ : Mem} {ars : List Nat} {m : Nat}
theorem c_mArityOf {c : Int} {Q : Int → Prop} (hA : AR μ ars) (hc : okn ars m c) (h : Q (ar c : Nat)) : d_Md_arityOf (enc c) μ Q := by
  unfold d_Md_arityOf
  by_cases h0 : 0 ≤ c
  · rw [if_pos ((enc_lt hc hA.1).mpr h0)]
    obtain ⟨h1, h2⟩ := hc.2 h0
    have := hA.1
    rw [enc_pos h0, show c / 4 = (((c / 4).toNat : Nat) : Int) by omega]
    refine c_ofSymbol (k := 0) (by omega) (by omega) ?_
    rw [Nat.add_zero, (hA.2 _ h1).1, h2]
    exact h
  · rw [if_neg (fun q => h0 ((enc_lt hc hA.1).mp q))]
    rw [ar_neg (by omega)] at h
    exact h
theorem sk_pos {c : Int} {r : List Int} {d : Nat} : sk (c :: r) (d + 1) = 1 + sk r (d + ar c) := rfl
/-- a row of nodes as the reference has it -/
def Me (f : Nat → Int) (o : Nat) (L : List Int) : Prop := Sg f o (L.map enc)
theorem Me.get {f : Nat → Int} {o k : Nat} {L : List Int} (h : Me f o L) (hk : k < L.length) : f (o + k) = enc (L.getD k 0) := by
  rw [h k (by rw [List.length_map]; exact hk)]
  exact getD_map hk
theorem Me.get0 {f : Nat → Int} {k : Nat} {L : List Int} (h : Me f 0 L) (hk : k < L.length) : f k = enc (L.getD k 0) := by
  have := h.get hk
  rwa [Nat.zero_add] at this
theorem c_behind {a p : Nat} {L : List Int} {Q : Int → Prop} (hA : AR μ ars) (hL : Me (μ a) 0 L) (hl : L.length ≤ ln a) (hok : ∀ c, c ∈ L → okn ars m c) (hw : ∃ e, wl (L.drop p) (1 + e) = true) (h : Q ((en L p : Nat) : Int)) : d_Md_behind a (p : Int) μ Q := by
  unfold d_Md_behind
  have hln := ln_le a
  obtain ⟨e, he⟩ := hw
  have hp : p < L.length := by
    rcases Nat.lt_or_ge p L.length with g | g
    · exact g
    · rw [List.drop_eq_nil_of_le g, Nat.add_comm] at he
      cases he
  refine i_Md_behind_l5 (Inv := fun v3 v4 => ∃ d k : Nat, v3 = d ∧ v4 = k ∧ d ≤ 1 + 3 * k ∧ k ≤ L.length ∧ wl (L.drop k) (d + e) = true ∧ en L p = k + sk (L.drop k) d) (fun v3 v4 => L.length - v4.toNat) ?_ 1 p ⟨1, p, rfl, rfl, by omega, by omega, he, rfl⟩
  rintro _ _ ⟨d, k, rfl, rfl, hd, hk, hwk, hen⟩ W hW
  unfold d_Md_behind_b5
  cases d with
  | zero =>
    rw [if_neg (by omega)]
    rw [sk_zero] at hen
    rw [hen] at h
    exact h
  | succ d =>
    rw [if_pos (by omega)]
    have hkl : k < L.length := by
      rcases Nat.lt_or_ge k L.length with g | g
      · exact g
      · rw [List.drop_eq_nil_of_le g, show d + 1 + e = (d + e) + 1 by omega] at hwk
        cases hwk
    refine ⟨by omega, ?_⟩
    rw [Int.toNat_natCast, hL.get0 hkl]
    rw [dropc hkl, show d + 1 + e = (d + e) + 1 by omega, wl_cons] at hwk
    rw [dropc hkl, sk_cons] at hen
    have har := ar_le (L.getD k 0)
    refine c_mArityOf hA (hok _ (getD_mem hkl)) ?_
    simp (disch := omega) only [wr_id]
    exact hW _ _ ⟨d + ar (L.getD k 0), k + 1, by omega, by omega, by omega, by omega, by rw [show d + ar (L.getD k 0) + e = d + e + ar (L.getD k 0) by omega]; exact hwk, by omega⟩ (by omega)
/-- what is lent: the work -/
def WK (μ : Mem) (T : List Int) : Prop := μ 772 25 = (T.length : Int) ∧ T.length ≤ 80 ∧ Me (μ 780) 0 T
theorem WK.gm {μ' : Mem} {T : List Int} (h : WK μ T) (h1 : μ' 780 = μ 780) (h2 : μ' 772 25 = μ 772 25) : WK μ' T := by
  unfold WK at *
  rw [h1, h2]
  exact h
theorem okt_drop {n p : Nat} {T : List Int} (h : okt ars m n T) (hp : p < T.length) : ∃ e, wl (T.drop p) (1 + e) = true := by
  obtain ⟨e, h1, h2⟩ := wl_drop T 1 h.1 p (by omega)
  have := h2 hp
  exact ⟨e - 1, by rw [show 1 + (e - 1) = e by omega]; exact h1⟩
theorem c_behindW {p : Nat} {T : List Int} {Q : Int → Prop} (hA : AR μ ars) (hW : WK μ T) (hT : okt ars m 80 T) (hp : p < T.length) (h : Q ((en T p : Nat) : Int)) : d_Md_behind 780 (p : Int) μ Q :=
  c_behind hA hW.2.2 (by rw [ln780]; exact hW.2.1) hT.2.2 (okt_drop hT hp) h
theorem c_areSame {x y n : Nat} {T : List Int} {Q : Bool → Prop} (hA : ars.length ≤ 8) (hW : WK μ T) (hT : okt ars m 80 T) (hx : x + n ≤ T.length) (hy : y + n ≤ T.length) (h : Q (decide ((T.drop x).take n = (T.drop y).take n))) : d_Md_areSame (x : Int) (y : Int) (n : Int) μ Q := by
  unfold d_Md_areSame
  have h80 := hW.2.1
  refine i_Md_areSame_l3 (Inv := fun v4 => ∃ k : Nat, v4 = k ∧ k ≤ n ∧ decide ((T.drop x).take n = (T.drop y).take n) = decide ((T.drop (x + k)).take (n - k) = (T.drop (y + k)).take (n - k))) (fun v4 => n - v4.toNat) ?_ 0 ⟨0, rfl, Nat.zero_le _, rfl⟩
  rintro _ ⟨k, rfl, hk, e⟩ W hW'
  unfold d_Md_areSame_b3
  by_cases hkn : k < n
  · rw [if_pos (by omega)]
    simp (disch := omega) only [wr_id]
    refine ⟨by omega, by omega, ?_⟩
    rw [show ((x : Int) + (k : Int)).toNat = x + k by omega, show ((y : Int) + (k : Int)).toNat = y + k by omega, hW.2.2.get0 (by omega), hW.2.2.get0 (by omega)]
    have inj := enc_inj (hT.2.2 _ (gm0 (show x + k < T.length by omega))) (hT.2.2 _ (gm0 (show y + k < T.length by omega))) hA
    rw [dropc (show x + k < T.length by omega), dropc (show y + k < T.length by omega), show n - k = (n - (k + 1)) + 1 by omega, List.take_succ_cons, List.take_succ_cons] at e
    by_cases hc : T.getD (x + k) 0 = T.getD (y + k) 0
    · rw [if_pos (inj.mpr hc)]
      refine hW' _ ⟨k + 1, by omega, by omega, ?_⟩ (by omega)
      rw [e, hc]
      simp only [List.cons.injEq, true_and]
      rfl
    · rw [if_neg (fun q => hc (inj.mp q))]
      rw [e, decide_eq_false (fun q => hc (List.cons.inj q).1)] at h
      exact h
  · rw [if_neg (by omega)]
    rw [show n - k = 0 by omega, List.take_zero, List.take_zero, decide_eq_true rfl] at e
    rw [e] at h
    exact h
def BM (μ : Mem) (b : Nat → Int) : Prop := ∀ v, v < 8 → μ 783 v = b v
/-- a rule in the reference's row -/
def MR (μ : Mem) (i : Nat) (r : Rl2) : Prop := i < 6 ∧ r.1.length ≤ 12 ∧ r.2.length ≤ 12 ∧ μ 773 (67 + 26 * i) = (r.1.length : Int) ∧ μ 773 (67 + 26 * i + 1) = (r.2.length : Int) ∧ Me (μ 773) (67 + 26 * i + 2) r.1 ∧ Me (μ 773) (67 + 26 * i + 14) r.2
theorem MR.gm {μ' : Mem} {i : Nat} {r : Rl2} (h : MR μ i r) (h1 : μ' 773 = μ 773) : MR μ' i r := by
  unfold MR at *
  rw [h1]
  exact h
theorem sb_eq_iff {T : List Int} {x y : Nat} (hx : x ≤ T.length) (hy : y ≤ T.length) : sb T x = sb T y ↔ (en T x - x = en T y - y ∧ (T.drop x).take (en T y - y) = (T.drop y).take (en T y - y)) := by
  have e1 : sb T x = (T.drop x).take (en T x - x) := by unfold sb en; congr 1; omega
  have e2 : sb T y = (T.drop y).take (en T y - y) := by unfold sb en; congr 1; omega
  constructor
  · intro h
    have l := congrArg List.length h
    rw [sb_len, sb_len] at l
    exact ⟨l, by rw [← e2, ← h, e1, l]⟩
  · rintro ⟨h1, h2⟩
    rw [e1, e2, h1, h2]
theorem c_matchesAt {i p : Nat} {r : Rl2} {T : List Int} {Q : Bool → Mem → Prop} (hA : AR μ ars) (hW : WK μ T) (hT : okt ars m 80 T) (hR : MR μ i r) (hr : okr ars r) (hp : p < T.length)
    (h1 : ∀ μ' b, mb r.1 T p = some b → BM μ' b → Gm [783] [] μ μ' → Q true μ') (h2 : ∀ μ', mb r.1 T p = none → Gm [783] [] μ μ' → Q false μ') : d_Md_matchesAt (i : Int) (p : Int) μ Q := by
  unfold d_Md_matchesAt
  obtain ⟨hi, hl1, hl2, e1, e2, m1, m2⟩ := hR
  have h80 := hW.2.1
  have h8 := hA.1
  have keepW : ∀ μ1, Gm [783] [] μ μ1 → WK μ1 T := fun μ1 g => hW.gm (g.1 780 (by decide) (by decide)) (g.2 25 (by decide))
  have keep3 : ∀ μ1, Gm [783] [] μ μ1 → μ1 773 = μ 773 := fun μ1 g => g.1 773 (by decide) (by decide)
  refine i_Md_matchesAt_l2 (Inv := fun v3 μ1 => ∃ k : Nat, v3 = k ∧ k ≤ 8 ∧ (∀ v, v < k → μ1 783 v = -1) ∧ Gm [783] [] μ μ1) (fun v3 _ => 8 - v3.toNat) ?_ 0 μ ⟨0, rfl, by omega, fun v hv => absurd hv (by omega), Gm.rfl'⟩
  rintro _ μ1 ⟨k, rfl, hk, hb, hG⟩ W hWW
  unfold d_Md_matchesAt_b2
  by_cases hk8 : k < 8
  · rw [if_pos (by omega)]
    refine ⟨by omega, ?_⟩
    rw [wr_id (by omega) (by omega), Int.toNat_natCast]
    refine hWW _ _ ⟨k + 1, by omega, by omega, fun v hv => ?_, hG.same (Gm.upR (by decide))⟩ (by omega)
    rw [mup_a]
    split
    · rfl
    · exact hb v (by omega)
  · rw [if_neg (by omega)]
    obtain rfl : k = 8 := by omega
    clear hWW W
    refine i_Md_matchesAt_l26 (Inv := fun v3 v4 μ1 => ∃ (q k : Nat) (b : Nat → Int), v3 = q ∧ v4 = k ∧ k ≤ r.1.length ∧ BM μ1 b ∧ Gm [783] [] μ μ1 ∧ fitp T (r.1.drop k) q ∧ bok T b ∧ mb r.1 T p = mt T (r.1.drop k) q b) (fun _ v4 _ => r.1.length - v4.toNat) ?_ p 0 μ1 ⟨p, 0, nb, rfl, rfl, Nat.zero_le _, fun v hv => hb v hv, hG, fitp_start hr.1.1 hT.1 hp, bok_nb T, rfl⟩
    rintro _ _ μ2 ⟨q, k, b, rfl, rfl, hk, hB, hF, hfit, hbok, hmb⟩ W hWW
    unfold d_Md_matchesAt_b26
    have hW2 := keepW μ2 hF
    have e3 := keep3 μ2 hF
    have hA2 : AR μ2 ars := hA.gm e3
    refine c_ofRule (k := 0) hi (by omega) ?_
    rw [e3, Nat.add_zero, e1]
    by_cases hkl : k < r.1.length
    · rw [if_pos (by omega), wr_id (by omega) (by omega), show (2 : Int) + (k : Int) = ((2 + k : Nat) : Int) by omega]
      refine c_ofRule hi (by omega) ?_
      rw [e3, ← Nat.add_assoc, m1.get hkl]
      rw [dropc hkl] at hfit hmb
      have hq := fitp_lt hfit
      have hmem : r.1.getD k 0 ∈ r.1 := getD_mem hkl
      have hok := hr.1.2.2 _ hmem
      have hlt := enc_lt hok h8
      rw [mt] at hmb
      by_cases hc0 : r.1.getD k 0 < 0
      · rw [if_pos hc0] at hmb
        rw [if_neg (by omega), enc_neg hc0]
        have hv := hok.1 hc0
        have ev : wr (99 - r.1.getD k 0 - 100) = ((vn (r.1.getD k 0) : Nat) : Int) := by
          unfold vn
          rw [wr_id (by omega) (by omega)]
          omega
        have hvn : vn (r.1.getD k 0) < 8 := by unfold vn; omega
        rw [ev]
        unfold d_Md_binds
        refine ⟨by omega, ?_⟩
        rw [Int.toNat_natCast, hB _ hvn]
        by_cases hbv : b (vn (r.1.getD k 0)) = -1
        · rw [if_pos hbv] at hmb
          rw [if_pos hbv]
          refine ⟨by omega, ?_⟩
          dsimp only
          rw [if_pos rfl]
          have hF2 : Gm [783] [] μ (mup μ2 783 (vn (r.1.getD k 0)) (q : Int)) := hF.same (Gm.upR (by decide))
          refine c_behindW (hA.gm (keep3 _ hF2)) (keepW _ hF2) hT hq ?_
          unfold d_Md_matchesAt_j99
          rw [wr_id (by omega) (by omega)]
          refine hWW _ _ _ ⟨en T q, k + 1, up b (vn (r.1.getD k 0)) q, rfl, by omega, by omega, fun v hv8 => ?_, hF2, fitp_var hfit hc0, bok_up hbok hq, hmb⟩ (by omega)
          rw [mup_a]
          unfold up
          split
          · rfl
          · exact hB v hv8
        · rw [if_neg hbv] at hmb
          rw [if_neg hbv]
          obtain ⟨g1, g2⟩ := hbok _ hbv
          have ebv : b (vn (r.1.getD k 0)) = (((b (vn (r.1.getD k 0))).toNat : Nat) : Int) := by omega
          refine c_behindW hA2 hW2 hT hq ⟨by omega, ?_⟩
          rw [ebv]
          refine c_behindW hA2 hW2 hT g2 ⟨by omega, ?_⟩
          have n1 := en_le (L := T) (p := q) (by omega)
          have n2 := en_le (L := T) (p := (b (vn (r.1.getD k 0))).toNat) (by omega)
          have n3 := en_gt hq
          have n4 := en_gt g2
          rw [wr_id (by omega) (by omega), wr_id (by omega) (by omega)]
          have hiff := sb_eq_iff (T := T) (x := (b (vn (r.1.getD k 0))).toNat) (y := q) (by omega) (by omega)
          by_cases hlen : en T (b (vn (r.1.getD k 0))).toNat - (b (vn (r.1.getD k 0))).toNat = en T q - q
          · rw [if_pos (by omega)]
            refine ⟨by omega, ?_⟩
            rw [show ((en T q : Nat) : Int) - (q : Int) = ((en T q - q : Nat) : Int) by omega]
            refine c_areSame h8 hW2 hT (by omega) (by omega) ?_
            by_cases hsame : sb T (b (vn (r.1.getD k 0))).toNat = sb T q
            · rw [if_pos hsame] at hmb
              rw [decide_eq_true (hiff.mp hsame).2, if_pos rfl]
              dsimp only
              rw [if_pos rfl]
              refine c_behindW hA2 hW2 hT hq ?_
              unfold d_Md_matchesAt_j99
              rw [wr_id (by omega) (by omega)]
              exact hWW _ _ _ ⟨en T q, k + 1, b, rfl, by omega, by omega, hB, hF, fitp_var hfit hc0, hbok, hmb⟩ (by omega)
            · rw [if_neg hsame] at hmb
              rw [decide_eq_false (fun g => hsame (hiff.mpr ⟨hlen, g⟩)), if_neg Bool.false_ne_true]
              dsimp only
              rw [if_neg Bool.false_ne_true]
              exact h2 _ hmb hF
          · rw [if_neg (by omega)]
            dsimp only
            rw [if_neg Bool.false_ne_true]
            rw [if_neg (fun g => hlen (hiff.mp g).1)] at hmb
            exact h2 _ hmb hF
      · rw [if_neg hc0] at hmb
        rw [if_pos (by omega)]
        refine ⟨by omega, ?_⟩
        rw [Int.toNat_natCast, hW2.2.2.get0 hq]
        have inj := enc_inj (hT.2.2 _ (gm0 hq)) hok h8
        by_cases he : T.getD q 0 = r.1.getD k 0
        · rw [if_pos he] at hmb
          rw [if_pos (inj.mpr he)]
          unfold d_Md_matchesAt_j99
          rw [wr_id (by omega) (by omega), wr_id (by omega) (by omega)]
          exact hWW _ _ _ ⟨q + 1, k + 1, b, by omega, by omega, by omega, hB, hF, fitp_sym hfit he, hbok, hmb⟩ (by omega)
        · rw [if_neg he] at hmb
          rw [if_neg (fun g => he (inj.mp g))]
          exact h2 _ hmb hF
    · rw [if_neg (by omega)]
      rw [List.drop_eq_nil_of_le (by omega), mt] at hmb
      exact h1 _ _ hmb hB hF
end M40
