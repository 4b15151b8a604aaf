/-! THE REFERENCE: tokens -/
def kM (k : Int) : Int := if k = 0 then 1 else if k = 97 then 2 else if k = 65 then 3 else if k = 48 then 4 else if k = 59 then 5 else if k = 61 then 6 else if k = 44 then 7 else if k = 40 then 8 else if k = 41 then 9 else 0
theorem kM_iff (k : Int) : (kM k = 1 ↔ k = 0) ∧ (kM k = 2 ↔ k = 97) ∧ (kM k = 3 ↔ k = 65) ∧ (kM k = 4 ↔ k = 48) ∧ (kM k = 5 ↔ k = 59) ∧ (kM k = 6 ↔ k = 61) ∧ (kM k = 7 ↔ k = 44) ∧ (kM k = 8 ↔ k = 40) ∧ (kM k = 9 ↔ k = 41) := by
  unfold kM
  by_cases h0 : k = 0
  · rw [if_pos h0]; omega
  rw [if_neg h0]
  by_cases h1 : k = 97
  · rw [if_pos h1]; omega
  rw [if_neg h1]
  by_cases h2 : k = 65
  · rw [if_pos h2]; omega
  rw [if_neg h2]
  by_cases h3 : k = 48
  · rw [if_pos h3]; omega
  rw [if_neg h3]
  by_cases h4 : k = 59
  · rw [if_pos h4]; omega
  rw [if_neg h4]
  by_cases h5 : k = 61
  · rw [if_pos h5]; omega
  rw [if_neg h5]
  by_cases h6 : k = 44
  · rw [if_pos h6]; omega
  rw [if_neg h6]
  by_cases h7 : k = 40
  · rw [if_pos h7]; omega
  rw [if_neg h7]
  by_cases h8 : k = 41
  · rw [if_pos h8]; omega
  rw [if_neg h8]
  omega
def PMx (μ : Mem) (B : List Int) : Prop := μ 772 12 = (B.length : Int) ∧ Sg (μ 778) 0 (B.map sg8) ∧ B.length ≤ 500 ∧ ∀ c, c ∈ B → 0 ≤ c ∧ c ≤ 255
def TkM (μ : Mem) (t : Tk) : Prop := μ 772 15 = kM t.1 ∧ μ 772 14 = ((t.2.1 : Nat) : Int) ∧ μ 772 13 = ((t.2.2 : Nat) : Int)
def ER (μ : Mem) (e : PE) : Prop := μ 772 10 = e.1 ∧ μ 772 11 = ((e.2 : Nat) : Int) ∧ 0 < e.1
/-- rows and fields of the reference's reading -/
abbrev pmR : List Nat := [773, 779, 780, 781, 783]
abbrev pmF : List Nat := [10, 11, 13, 14, 15, 17, 18, 19, 20, 21, 25, 26]
abbrev pmG : List Nat := [13, 14, 15, 17, 18, 19, 20, 21, 25, 26]
theorem PMx.gm {μ μ' : Mem} {B : List Int} {r f : List Nat} (h : PMx μ B) (hg : Gm r f μ μ') (hr : 778 ∉ r) (hf : 12 ∉ f) : PMx μ' B := ⟨by rw [hg.2 12 hf]; exact h.1, by rw [hg.1 778 (by decide) hr]; exact h.2.1, h.2.2⟩
section T77
variable {μ : Mem} {B : List Int} {t : Tk} {e : PE}
theorem PMx.byte (h : PMx μ B) {k : Nat} (hk : k < B.length) : μ 778 k = sg8 (B.getD k 0) ∧ 0 ≤ B.getD k 0 ∧ B.getD k 0 ≤ 255 := by
  have := h.2.1.get0 (i := k) (by rw [List.length_map]; exact hk)
  rw [getD_map hk] at this
  exact ⟨this, h.2.2.2 _ (gm0 hk)⟩
theorem sg8_lo {c : Int} (h : c < 128) : sg8 c = c := if_pos h
theorem sg8_hi {c : Int} (h : ¬ c < 128) : sg8 c = c - 256 := if_neg h
theorem c_mInS {v lo hi c : Int} {Q : Bool → Prop} (hv : v = sg8 c) (hc : 0 ≤ c ∧ c ≤ 255) (h0 : 0 ≤ lo) (h1 : hi < 128) (h : Q (decide (lo ≤ c ∧ c ≤ hi))) : d_Md_in v lo hi μ Q := by
  refine c_mIn ?_
  by_cases k : c < 128
  · rw [hv, sg8_lo k]
    exact h
  · rw [hv, sg8_hi k, decide_eq_false (by omega)]
    rw [decide_eq_false (by omega)] at h
    exact h
theorem c_isSmall {v : Int} {k : Nat} {Q : Bool → Prop} (hv : v = (k : Int)) (hB : PMx μ B) (h1 : k < B.length → Q (isL (B.getD k 0))) (h2 : B.length ≤ k → Q false) : d_Md_isSmall v μ Q := by
  unfold d_Md_isSmall
  have h500 := hB.2.2.1
  rw [hB.1]
  by_cases hk : k < B.length
  · obtain ⟨b1, b2⟩ := hB.byte hk
    rw [if_pos (by omega), show v.toNat = k by omega]
    refine ⟨by omega, c_mInS b1 b2 (by decide) (by decide) ?_⟩
    have := h1 hk
    unfold isL at this
    by_cases q : 97 ≤ B.getD k 0 ∧ B.getD k 0 ≤ 122
    · rw [decide_eq_true q] at this ⊢
      rw [if_pos rfl]
      exact this
    · rw [decide_eq_false q] at this ⊢
      rw [if_neg (by decide)]
      exact this
  · rw [if_neg (by omega)]
    exact h2 (by omega)
theorem c_signOf {v c : Int} {Q : Int → Prop} (hv : v = sg8 c) (hc : 0 ≤ c ∧ c ≤ 255) (h : Q (kM (kb c))) : d_Md_signOf v μ Q := by
  unfold d_Md_signOf
  unfold kb at h
  refine c_mInS hv hc (by decide) (by decide) ?_
  by_cases a : 65 ≤ c ∧ c ≤ 72
  · rw [if_pos a] at h
    rw [decide_eq_true a, if_pos rfl]
    exact h
  rw [if_neg a] at h
  rw [decide_eq_false a, if_neg (by decide)]
  refine c_mInS hv hc (by decide) (by decide) ?_
  by_cases b : 48 ≤ c ∧ c ≤ 57
  · rw [if_pos b] at h
    rw [decide_eq_true b, if_pos rfl]
    exact h
  rw [if_neg b] at h
  rw [decide_eq_false b, if_neg (by decide)]
  by_cases g : c = 59 ∨ c = 61 ∨ c = 44 ∨ c = 40 ∨ c = 41
  · rw [if_pos g] at h
    rw [sg8_lo (by omega)] at hv
    subst hv
    by_cases q1 : v = 40
    · rw [if_pos q1]; rw [q1] at h; exact h
    rw [if_neg q1]
    by_cases q2 : v = 41
    · rw [if_pos q2]; rw [q2] at h; exact h
    rw [if_neg q2]
    by_cases q3 : v = 44
    · rw [if_pos q3]; rw [q3] at h; exact h
    rw [if_neg q3]
    by_cases q4 : v = 59
    · rw [if_pos q4]; rw [q4] at h; exact h
    rw [if_neg q4]
    have q5 : v = 61 := by omega
    rw [if_pos q5]; rw [q5] at h; exact h
  · rw [if_neg g] at h
    have hn : v ≠ 40 ∧ v ≠ 41 ∧ v ≠ 44 ∧ v ≠ 59 ∧ v ≠ 61 := by
      by_cases k : c < 128
      · rw [sg8_lo k] at hv; omega
      · rw [sg8_hi k] at hv; omega
    rw [if_neg hn.1, if_neg hn.2.1, if_neg hn.2.2.1, if_neg hn.2.2.2.1, if_neg hn.2.2.2.2]
    exact h
theorem c_goes {p : Nat} {Q : Mem → Prop} (hB : PMx μ B) (h0 : μ 772 10 = 0) (h13 : μ 772 13 = (p : Int)) (hp : p ≤ B.length) (k : ∀ μ', TkM μ' (nx B p) → Gm [] [13, 14, 15] μ μ' → Q μ') : d_Md_goes μ Q := by
  unfold d_Md_goes
  have h500 := hB.2.2.1
  rw [if_neg (by omega)]
  unfold nx at k
  refine i_Md_goes_l8 (Inv := fun μ1 => ∃ q : Nat, μ1 772 13 = (q : Int) ∧ q ≤ B.length ∧ q + spn isSp (B.drop q) = p + spn isSp (B.drop p) ∧ Gm [] [13, 14, 15] μ μ1) (fun μ1 => B.length - (μ1 772 13).toNat) ?_ _ ⟨p, h13, hp, rfl, Gm.rfl'⟩
  rintro μ1 ⟨q, g13, hq, hsp, hF⟩ W hW
  unfold d_Md_goes_b8
  have hB1 := hB.gm hF (by decide) (by decide)
  have fin : spn isSp (B.drop q) = 0 → d_Md_goes_j46 μ1 Q := by
    intro hz
    unfold d_Md_goes_j46
    rw [hz, Nat.add_zero] at hsp
    rw [← hsp] at k
    unfold nx1 at k
    have m13 : mup μ1 772 14 (μ1 772 13) 772 13 = (q : Int) := by rw [mup_k (by decide)]; exact g13
    have m12 : mup μ1 772 14 (μ1 772 13) 772 12 = (B.length : Int) := by rw [mup_k (by decide)]; exact hB1.1
    have m14 : mup μ1 772 14 (μ1 772 13) 772 14 = (q : Int) := by rw [mup_s]; exact g13
    have hF2 : Gm [] [13, 14, 15] μ (mup μ1 772 14 (μ1 772 13)) := hF.tr (Gm.upF (k := 14)) (by decide) (by decide) (by decide) (by decide)
    have hB2 := hB.gm hF2 (by decide) (by decide)
    generalize mup μ1 772 14 (μ1 772 13) = μ2 at *
    rw [m13, m12]
    by_cases hql : q = B.length
    · rw [if_pos (by omega)]
      have z : spn isL (B.drop q) = 0 := spn_end (by omega)
      rw [z, if_neg (by decide), if_neg (by omega)] at k
      exact k _ ⟨mup_s, by rw [mup_k (by decide)]; exact m14, by rw [mup_k (by decide)]; exact m13⟩ (hF2.tr (Gm.upF (k := 15)) (by decide) (by decide) (by decide) (by decide))
    · rw [if_neg (by omega)]
      have hql2 : q < B.length := by omega
      refine c_isSmall rfl hB2 (fun _ => ?_) (fun g => by omega)
      have hsc := spn_cons (f := isL) hql2
      by_cases hL : isL (B.getD q 0) = true
      · rw [if_pos hL] at hsc ⊢
        rw [if_pos (by omega)] at k
        refine i_Md_goes_l84 (Inv := fun μ3 => ∃ w : Nat, μ3 772 14 = (q : Int) ∧ μ3 772 13 = ((q + w : Nat) : Int) ∧ q + w ≤ B.length ∧ w + spn isL (B.drop (q + w)) = spn isL (B.drop q) ∧ Gm [] [13, 14, 15] μ μ3) (fun μ3 => B.length - (μ3 772 13).toNat) ?_ _ ⟨0, m14, m13, hq, by rw [Nat.zero_add]; rfl, hF2⟩
        rintro μ3 ⟨w, x14, x13, xl, xw, xF⟩ W2 hW2
        unfold d_Md_goes_b84
        have hB3 := hB.gm xF (by decide) (by decide)
        have done : spn isL (B.drop (q + w)) = 0 → (if 6 < wr ((μ3 772 13) - (μ3 772 14)) then (d_Md_goes_j128 0 μ3 Q) else (d_Md_goes_j128 2 μ3 Q)) := by
          intro z
          rw [x13, x14, wr_eq w (show ((q + w : Nat) : Int) - (q : Int) = (w : Int) by omega) (by omega)]
          unfold d_Md_goes_j128
          have ew : spn isL (B.drop q) = w := by omega
          rw [ew] at k
          by_cases h6 : 6 < w
          · rw [if_pos h6] at k
            rw [if_pos (by omega)]
            exact k _ ⟨mup_s, by rw [mup_k (by decide)]; exact x14, by rw [mup_k (by decide)]; exact x13⟩ (xF.tr (Gm.upF (k := 15)) (by decide) (by decide) (by decide) (by decide))
          · rw [if_neg h6] at k
            rw [if_neg (by omega)]
            exact k _ ⟨mup_s, by rw [mup_k (by decide)]; exact x14, by rw [mup_k (by decide)]; exact x13⟩ (xF.tr (Gm.upF (k := 15)) (by decide) (by decide) (by decide) (by decide))
        refine c_isSmall (k := q + w) x13 hB3 (fun hl => ?_) (fun hl => ?_)
        · have hsc2 := spn_cons (f := isL) hl
          by_cases hL2 : isL (B.getD (q + w) 0) = true
          · rw [if_pos hL2] at hsc2
            rw [if_pos hL2, x13, wr_eq (q + (w + 1)) (show ((q + w : Nat) : Int) + 1 = ((q + (w + 1) : Nat) : Int) by omega) (by omega)]
            refine hW2 _ ⟨w + 1, by rw [mup_k (by decide)]; exact x14, mup_s, by omega, ?_, xF.tr (Gm.upF (k := 13)) (by decide) (by decide) (by decide) (by decide)⟩ (by rw [mup_s, x13, Int.toNat_natCast, Int.toNat_natCast]; omega)
            rw [show q + (w + 1) = q + w + 1 by omega]
            omega
          · rw [if_neg hL2] at hsc2
            rw [if_neg hL2]
            exact done hsc2
        · rw [if_neg (by decide)]
          exact done (spn_end hl)
      · rw [if_neg hL] at hsc ⊢
        rw [hsc, if_neg (by decide), if_pos hql2] at k
        obtain ⟨b1, b2⟩ := hB2.byte hql2
        rw [Int.toNat_natCast]
        refine ⟨by omega, c_signOf b1 b2 ?_⟩
        have x13 : ∀ z : Int, mup μ2 772 15 z 772 13 = (q : Int) := fun z => by rw [mup_k (by decide)]; exact m13
        rw [x13, wr_eq (q + 1) (show (q : Int) + 1 = ((q + 1 : Nat) : Int) by omega) (by omega)]
        exact k _ ⟨by rw [mup_k (by decide), mup_s], by rw [mup_k (by decide), mup_k (by decide)]; exact m14, mup_s⟩ ((hF2.tr (Gm.upF (k := 15)) (r := []) (f := [13, 14, 15]) (by decide) (by decide) (by decide) (by decide)).tr (Gm.upF (k := 13)) (by decide) (by decide) (by decide) (by decide))
  rw [g13, hB1.1]
  by_cases hl : q < B.length
  · obtain ⟨b1, b2⟩ := hB1.byte hl
    have hsc := spn_cons (f := isSp) hl
    rw [if_pos (by omega), Int.toNat_natCast, b1]
    refine ⟨by omega, ?_⟩
    have e32 : sg8 (B.getD q 0) = 32 ↔ B.getD q 0 = 32 := by
      by_cases k2 : B.getD q 0 < 128
      · rw [sg8_lo k2]
      · rw [sg8_hi k2]; omega
    by_cases c1 : B.getD q 0 = 32
    · rw [if_pos (by unfold isSp; rw [decide_eq_true c1])] at hsc
      rw [if_pos (e32.mpr c1), wr_eq (q + 1) (show (q : Int) + 1 = ((q + 1 : Nat) : Int) by omega) (by omega)]
      exact hW _ ⟨q + 1, mup_s, by omega, by omega, hF.tr (Gm.upF (k := 13)) (by decide) (by decide) (by decide) (by decide)⟩ (by rw [mup_s, g13, Int.toNat_natCast, Int.toNat_natCast]; omega)
    · rw [if_neg (by unfold isSp; rw [decide_eq_false c1]; decide)] at hsc
      rw [if_neg (fun q => c1 (e32.mp q))]
      exact fin hsc
  · rw [if_neg (by omega)]
    exact fin (spn_end (by omega))
theorem c_goesT {Q : Mem → Prop} (hB : PMx μ B) (h0 : μ 772 10 = 0) (ht : TkM μ t) (tok : tkok B t) (k : ∀ μ', TkM μ' (nx B t.2.2) → Gm [] [13, 14, 15] μ μ' → Q μ') : d_Md_goes μ Q := c_goes hB h0 ht.2.2 tok.2.1 k
theorem e_goes {Q : Mem → Prop} (h : ER μ e) (k : Q μ) : d_Md_goes μ Q := by
  unfold d_Md_goes
  have := h.2.2
  rw [if_pos (by rw [h.1]; exact this)]
  exact k
theorem e_faults {c : Int} {Q : Mem → Prop} (h : ER μ e) (k : Q μ) : d_Md_faults c μ Q := by
  unfold d_Md_faults
  rw [if_pos (by rw [h.1]; exact h.2.2)]
  exact k
theorem e_is {v : Int} {Q : Bool → Prop} (h : ER μ e) (k : Q false) : d_Md_is v μ Q := by
  unfold d_Md_is
  have := h.2.2
  rw [if_neg (by rw [h.1]; omega)]
  exact k
theorem e_wants {v : Int} {Q : Mem → Prop} (h : ER μ e) (k : Q μ) : d_Md_wants v μ Q := by
  unfold d_Md_wants d_Md_wants_j13
  refine e_is h ?_
  rw [if_neg (by decide)]
  exact e_faults h (e_goes h k)
theorem e_digitHere {v : Int} {Q : Int → Mem → Prop} (h : ER μ e) (k : Q 0 μ) : d_Md_digitHere v μ Q := by
  unfold d_Md_digitHere d_Md_digitHere_j37
  refine e_is h ?_
  rw [if_neg (by decide)]
  refine e_faults h ?_
  rw [if_pos (by rw [h.1]; exact h.2.2)]
  exact k
theorem c_faults {c : Int} {Q : Mem → Prop} (h0 : μ 772 10 = 0) (ht : TkM μ t) (hc : 0 < c) (k : ∀ μ', ER μ' (c, t.2.1) → Gm [] [10, 11] μ μ' → Q μ') : d_Md_faults c μ Q := by
  unfold d_Md_faults
  rw [if_neg (by omega)]
  have e14 : mup μ 772 10 c 772 14 = ((t.2.1 : Nat) : Int) := by rw [mup_k (by decide)]; exact ht.2.1
  rw [e14]
  exact k _ ⟨by rw [mup_k (by decide), mup_s], mup_s, hc⟩ ((Gm.upF (k := 10)).tr (Gm.upF (k := 11)) (by decide) (by decide) (by decide) (by decide))
theorem c_is {v : Int} {Q : Bool → Prop} (h0 : μ 772 10 = 0) (ht : TkM μ t) (h1 : kM t.1 = v → Q true) (h2 : kM t.1 ≠ v → Q false) : d_Md_is v μ Q := by
  unfold d_Md_is
  rw [if_pos h0, ht.1]
  by_cases k : kM t.1 = v
  · rw [if_pos k]; exact h1 k
  · rw [if_neg k]; exact h2 k
theorem c_wants {v : Int} {Q : Mem → Prop} (hB : PMx μ B) (h0 : μ 772 10 = 0) (ht : TkM μ t) (tok : tkok B t) (k1 : kM t.1 = v → ∀ μ', TkM μ' (nx B t.2.2) → Gm [] [13, 14, 15] μ μ' → Q μ') (k2 : kM t.1 ≠ v → ∀ μ', ER μ' (1, t.2.1) → Gm [] [10, 11] μ μ' → Q μ') : d_Md_wants v μ Q := by
  unfold d_Md_wants d_Md_wants_j13
  refine c_is h0 ht (fun h => ?_) (fun h => ?_)
  · rw [if_pos rfl]
    exact c_goesT hB h0 ht tok (k1 h)
  · rw [if_neg (by decide)]
    exact c_faults h0 ht (by decide) fun μ' h' g' => e_goes h' (k2 h μ' h' g')
theorem c_isWordM {v : Nat} {Q : Bool → Prop} (hB : PMx μ B) (h0 : μ 772 10 = 0) (ht : TkM μ t) (tok : tkok B t) (hl : (jlit v).length ≤ 6) (h7 : ∀ c, c ∈ jlit v → 0 ≤ c ∧ c < 128) (h : Q (isW B t (jlit v))) : d_Md_isWord v μ Q := by
  unfold d_Md_isWord d_String_length
  have h500 := hB.2.2.1
  have hwl := wd_len tok
  obtain ⟨t1, t2, t3, _⟩ := id tok
  unfold isW at h
  have k97 := (kM_iff t.1).2.1
  refine c_is h0 ht (fun hk => ?_) (fun hk => ?_)
  · have hk := k97.mp hk
    rw [if_pos rfl, ht.2.1, ht.2.2, wr_eq (wd B t).length (show ((t.2.2 : Nat) : Int) - ((t.2.1 : Nat) : Int) = (((wd B t).length : Nat) : Int) by omega) (by omega)]
    dsimp only
    by_cases he : (wd B t).length = (jlit v).length
    · rw [if_pos (by omega)]
      refine i_Md_isWord_l28 (Inv := fun v2 => ∃ k : Nat, v2 = k ∧ k ≤ (jlit v).length ∧ ((wd B t = jlit v) ↔ (wd B t).drop k = (jlit v).drop k)) (fun v2 => (jlit v).length - v2.toNat) ?_ 0 ⟨0, rfl, Nat.zero_le _, by rw [List.drop_zero, List.drop_zero]⟩
      rintro v2 ⟨k, e2, hk2, hiff⟩ W hW
      unfold d_Md_isWord_b28 d_String_length d_String_charAt
      dsimp only
      by_cases hkl : k < (jlit v).length
      · obtain ⟨b1, b2⟩ := hB.byte (k := t.2.1 + k) (by omega)
        have hj := h7 _ (gm0 hkl)
        rw [if_pos (by omega), ht.2.1, wr_eq (t.2.1 + k) (show ((t.2.1 : Nat) : Int) + v2 = ((t.2.1 + k : Nat) : Int) by omega) (by omega), Int.toNat_natCast, b1, show v2.toNat = k by omega]
        refine ⟨by omega, by omega, ?_⟩
        rw [dropc (show k < (wd B t).length by omega), dropc hkl, List.cons_eq_cons] at hiff
        rw [← wd_get (B := B) (t := t) (k := k) (by omega)] at b2 ⊢
        have es : sg8 ((wd B t).getD k 0) = (jlit v).getD k 0 ↔ (wd B t).getD k 0 = (jlit v).getD k 0 := by
          by_cases k2 : (wd B t).getD k 0 < 128
          · rw [sg8_lo k2]
          · rw [sg8_hi k2]; omega
        by_cases hc : (wd B t).getD k 0 = (jlit v).getD k 0
        · rw [if_pos (es.mpr hc), wr_eq (k + 1) (show v2 + 1 = ((k + 1 : Nat) : Int) by omega) (by omega)]
          exact hW _ ⟨k + 1, by omega, by omega, by rw [hiff]; exact ⟨fun q => q.2, fun q => ⟨hc, q⟩⟩⟩ (by rw [Int.toNat_natCast]; omega)
        · rw [if_neg (fun q => hc (es.mp q))]
          rw [decide_eq_false (fun q => hc (hiff.mp q.2).1)] at h
          exact h
      · rw [if_neg (by omega)]
        rw [List.drop_eq_nil_of_le (show (wd B t).length ≤ k by omega), List.drop_eq_nil_of_le (show (jlit v).length ≤ k by omega)] at hiff
        rw [decide_eq_true ⟨hk, hiff.mpr rfl⟩] at h
        exact h
    · rw [if_neg (by omega)]
      rw [decide_eq_false (fun q => he (by rw [q.2]))] at h
      exact h
  · rw [if_neg (by decide)]
    rw [decide_eq_false (fun q => hk (k97.mpr q.1))] at h
    exact h
variable {sy : Sy}
theorem c_isNamedHere {v : Int} {i : Nat} {Q : Bool → Prop} (hv : v = (i : Int)) (hB : PMx μ B) (ht : TkM μ t) (tok : tkok B t) (hS : MSy μ sy) (hs : syok sy) (hi : i < sy.length) (h : Q (decide ((sy.getD i (0, [])).2 = wd B t))) : d_Md_isNamedHere v μ Q := by
  unfold d_Md_isNamedHere
  subst hv
  have h500 := hB.2.2.1
  have hwl := wd_len tok
  obtain ⟨t1, t2, t3, _⟩ := id tok
  have hq := hs.2 _ (getD_mem (d := (0, [])) hi)
  have h8 := hs.1
  obtain ⟨m1, m2, m3⟩ := hS i hi
  refine c_ofSymbol (k := 1) (by omega) (by omega) ?_
  rw [show 3 + 8 * i + 1 = 4 + 8 * i by omega, m2]
  generalize (sy.getD i (0, [])).2 = w at *
  rw [ht.2.1, ht.2.2, wr_eq (wd B t).length (show ((t.2.2 : Nat) : Int) - ((t.2.1 : Nat) : Int) = (((wd B t).length : Nat) : Int) by omega) (by omega)]
  by_cases he : (wd B t).length = w.length
  · rw [if_pos (by omega)]
    refine i_Md_isNamedHere_l22 (Inv := fun v2 => ∃ k : Nat, v2 = (k : Int) ∧ k ≤ w.length ∧ ((w = wd B t) ↔ w.drop k = (wd B t).drop k)) (fun v2 => w.length - v2.toNat) ?_ _ ⟨0, rfl, Nat.zero_le _, by rw [List.drop_zero, List.drop_zero]⟩
    rintro v2 ⟨k, e2, hk2, hiff⟩ W hW
    unfold d_Md_isNamedHere_b22
    rw [ht.2.1, ht.2.2, wr_eq (wd B t).length (show ((t.2.2 : Nat) : Int) - ((t.2.1 : Nat) : Int) = (((wd B t).length : Nat) : Int) by omega) (by omega)]
    by_cases hkl : k < w.length
    · rw [if_pos (by omega), wr_eq (2 + k) (show (2 : Int) + v2 = ((2 + k : Nat) : Int) by omega) (by omega)]
      refine c_ofSymbol (by omega) (by omega) ?_
      obtain ⟨b1, b2⟩ := hB.byte (k := t.2.1 + k) (by omega)
      rw [show 3 + 8 * i + (2 + k) = 5 + 8 * i + k by omega, m3.get hkl, wr_eq (t.2.1 + k) (show ((t.2.1 : Nat) : Int) + v2 = ((t.2.1 + k : Nat) : Int) by omega) (by omega), Int.toNat_natCast, b1]
      refine ⟨by omega, ?_⟩
      rw [dropc hkl, dropc (show k < (wd B t).length by omega), List.cons_eq_cons] at hiff
      rw [← wd_get (B := B) (t := t) (k := k) (by omega)] at b2 ⊢
      have hwc := hq.2.2.2 _ (gm0 hkl)
      have es : w.getD k 0 = sg8 ((wd B t).getD k 0) ↔ w.getD k 0 = (wd B t).getD k 0 := by
        by_cases k2 : (wd B t).getD k 0 < 128
        · rw [sg8_lo k2]
        · rw [sg8_hi k2]; omega
      by_cases hc : w.getD k 0 = (wd B t).getD k 0
      · rw [if_pos (es.mpr hc), wr_eq (k + 1) (show v2 + 1 = ((k + 1 : Nat) : Int) by omega) (by omega)]
        exact hW _ ⟨k + 1, by omega, by omega, by rw [hiff]; exact ⟨fun q => q.2, fun q => ⟨hc, q⟩⟩⟩ (by rw [Int.toNat_natCast]; omega)
      · rw [if_neg (fun q => hc (es.mp q))]
        rw [decide_eq_false (fun q => hc (hiff.mp q).1)] at h
        exact h
    · rw [if_neg (by omega)]
      rw [List.drop_eq_nil_of_le (show w.length ≤ k by omega), List.drop_eq_nil_of_le (show (wd B t).length ≤ k by omega)] at hiff
      rw [decide_eq_true (hiff.mpr rfl)] at h
      exact h
  · rw [if_neg (by omega)]
    rw [decide_eq_false (fun q => he (by rw [← q]))] at h
    exact h
theorem c_symbolHere {Q : Int → Prop} (hB : PMx μ B) (ht : TkM μ t) (tok : tkok B t) (hS : MSy μ sy) (hs : syok sy) (hn : μ 773 0 = (sy.length : Int)) (h : Q (fnS sy (wd B t) 0)) : d_Md_symbolHere μ Q := by
  unfold d_Md_symbolHere
  have h8 := hs.1
  refine i_Md_symbolHere_l2 (Inv := fun v1 => ∃ i : Nat, v1 = i ∧ i ≤ sy.length ∧ fnS (sy.drop i) (wd B t) i = fnS sy (wd B t) 0) (fun v1 => sy.length - v1.toNat) ?_ 0 ⟨0, rfl, Nat.zero_le _, by rw [List.drop_zero]⟩
  rintro v1 ⟨i, e1, hi, he⟩ W hW
  unfold d_Md_symbolHere_b2
  rw [hn]
  by_cases hil : i < sy.length
  · rw [if_pos (by omega)]
    rw [fnS_step hil] at he
    refine c_isNamedHere e1 hB ht tok hS hs hil ?_
    by_cases hc : (sy.getD i (0, [])).2 = wd B t
    · rw [decide_eq_true hc, if_pos rfl]
      rw [if_pos hc] at he
      rw [e1, he]
      exact h
    · rw [decide_eq_false hc, if_neg (by decide)]
      rw [if_neg hc] at he
      rw [wr_eq (i + 1) (show v1 + 1 = ((i + 1 : Nat) : Int) by omega) (by omega)]
      exact hW _ ⟨i + 1, rfl, by omega, he⟩ (by rw [Int.toNat_natCast]; omega)
  · rw [if_neg (by omega)]
    rw [List.drop_eq_nil_of_le (by omega), fnS] at he
    rw [he]
    exact h
theorem c_digitHere {v : Int} {m : Nat} {Q : Int → Mem → Prop} (hv : v = (m : Int) - 1) (hB : PMx μ B) (h0 : μ 772 10 = 0) (ht : TkM μ t) (tok : tkok B t) (htv : tkv B t) (k1 : dgt B m t = 0 → Q (dgv B t) μ) (k2 : dgt B m t ≠ 0 → ∀ μ', ER μ' (dgt B m t, t.2.1) → Gm [] [10, 11] μ μ' → Q 0 μ') : d_Md_digitHere v μ Q := by
  unfold d_Md_digitHere
  have h500 := hB.2.2.1
  have k48 := (kM_iff t.1).2.2.2.1
  have er : ∀ (μ' : Mem) (c : Int), c = dgt B m t → c ≠ 0 → ER μ' (c, t.2.1) → Gm [] [10, 11] μ μ' → d_Md_digitHere_j37 μ' Q := by
    intro μ' c hc hc0 he hg
    unfold d_Md_digitHere_j37
    rw [if_pos (by rw [he.1]; exact he.2.2)]
    rw [hc] at he hc0
    exact k2 hc0 μ' he hg
  refine c_is h0 ht (fun hk => ?_) (fun hk => ?_)
  · have hk := k48.mp hk
    have e0 : dgt B m t = if dgv B t < (m : Int) then 0 else 2 := by
      unfold dgt
      rw [if_neg (fun q => q hk)]
    have h1 := tok.2.2.2.1 (by rw [hk]; decide)
    have h2 := tok.2.1
    have h3 := htv.2 hk
    obtain ⟨b1, b2⟩ := hB.byte (k := t.2.1) (by omega)
    have ed : wr (μ 778 t.2.1 - 48) = dgv B t := by
      rw [b1, sg8_lo (by omega), wr_id (by omega) (by omega)]
      rfl
    rw [if_pos rfl, ht.2.1, Int.toNat_natCast, ed]
    refine ⟨by omega, ?_⟩
    by_cases hd : dgv B t < (m : Int)
    · rw [if_pos hd] at e0
      rw [if_neg (by omega)]
      unfold d_Md_digitHere_j37
      rw [if_neg (by omega), ht.2.1, Int.toNat_natCast, ed]
      exact ⟨by omega, k1 e0⟩
    · rw [if_neg hd] at e0
      rw [if_pos (by omega)]
      exact c_faults h0 ht (by decide) fun μ' h' g' => er μ' 2 e0.symm (by decide) h' g'
  · have e0 : dgt B m t = 1 := by
      unfold dgt
      rw [if_pos (fun q => hk (k48.mpr q))]
    rw [if_neg (by decide)]
    exact c_faults h0 ht (by decide) fun μ' h' g' => er μ' 1 e0.symm (by decide) h' g'
end T77
