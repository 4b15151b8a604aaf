/-! THE REFERENCE: rewriting -/
section M41
variable {μ : Mem} {ars : List Nat} {m : Nat}
/-- the reference's rules -/
def MRs (μ : Mem) (rs : List Rl2) : Prop := μ 773 1 = (rs.length : Int) ∧ rs.length ≤ 6 ∧ ∀ i, i < rs.length → MR μ i (rs.getD i ([], []))
theorem MRs.gm {μ' : Mem} {rs : List Rl2} (h : MRs μ rs) (h1 : μ' 773 = μ 773) : MRs μ' rs := ⟨by rw [h1]; exact h.1, h.2.1, fun i hi => (h.2.2 i hi).gm h1⟩
theorem c_mFirstRule {p : Nat} {rs : List Rl2} {T : List Int} {Q : Int → Mem → Prop} (hA : AR μ ars) (hW : WK μ T) (hT : okt ars m 80 T) (hR : MRs μ rs) (hr : ∀ r, r ∈ rs → okr ars r) (hp : p < T.length)
    (h : ∀ μ', Gm [783] [] μ μ' → (∀ k, fi T p rs 0 = ((k : Nat) : Int) → ∃ b, mb (rs.getD k ([], [])).1 T p = some b ∧ BM μ' b) → Q (fi T p rs 0) μ') : d_Md_firstRule (p : Int) μ Q := by
  unfold d_Md_firstRule
  have hlen := hR.2.1
  refine i_Md_firstRule_l2 (Inv := fun v2 μ1 => ∃ k : Nat, v2 = k ∧ k ≤ rs.length ∧ Gm [783] [] μ μ1 ∧ fi T p rs 0 = fi T p (rs.drop k) k) (fun v2 _ => rs.length - v2.toNat) ?_ 0 μ ⟨0, rfl, Nat.zero_le _, Gm.rfl', rfl⟩
  rintro _ μ1 ⟨k, rfl, hk, hF, hfi⟩ W hWW
  unfold d_Md_firstRule_b2
  have e3 : μ1 773 = μ 773 := hF.1 773 (by decide) (by decide)
  have hR1 : MRs μ1 rs := hR.gm e3
  rw [hR1.1]
  by_cases hkl : k < rs.length
  · rw [if_pos (by omega)]
    have e : rs.drop k = rs.getD k ([], []) :: rs.drop (k + 1) := by
      rw [List.drop_eq_getElem_cons hkl, List.getD_eq_getElem?_getD, List.getElem?_eq_getElem hkl]
      rfl
    rw [e, fi] at hfi
    refine c_matchesAt (hA.gm e3) (hW.gm (hF.1 780 (by decide) (by decide)) (hF.2 25 (by decide))) hT (hR1.2.2 k hkl) (hr _ (getD_mem hkl)) hp (fun μ2 b hb hB hF2 => ?_) (fun μ2 hb hF2 => ?_)
    · rw [if_pos rfl]
      rw [hb, if_pos (show (some b).isSome = true from rfl)] at hfi
      rw [← hfi]
      refine h _ (hF.same hF2) fun k' hk' => ?_
      rw [hfi] at hk'
      have : k' = k := by omega
      subst this
      exact ⟨b, hb, hB⟩
    · rw [if_neg (by decide)]
      rw [hb, if_neg (by decide)] at hfi
      rw [wr_id (by omega) (by omega)]
      exact hWW _ _ ⟨k + 1, by omega, by omega, hF.same hF2, hfi⟩ (by omega)
  · rw [if_neg (by omega)]
    rw [List.drop_eq_nil_of_le (by omega), fi] at hfi
    have := h μ1 hF (fun k' hk' => by rw [hfi] at hk'; omega)
    rw [hfi] at this
    exact this
theorem c_mOutermost {rs : List Rl2} {T : List Int} {Q : Int → Mem → Prop} (hA : AR μ ars) (hW : WK μ T) (hT : okt ars m 80 T) (hR : MRs μ rs) (hr : ∀ r, r ∈ rs → okr ars r)
    (h : ∀ μ', Gm [783] [] μ μ' → Q (ouF (rx rs T) T.length 0) μ') : d_Md_outermost μ Q := by
  unfold d_Md_outermost
  have h80 := hW.2.1
  refine i_Md_outermost_l2 (Inv := fun v1 μ1 => ∃ k : Nat, v1 = k ∧ k ≤ T.length ∧ Gm [783] [] μ μ1 ∧ ouF (rx rs T) T.length 0 = ouF (rx rs T) (T.length - k) k) (fun v1 _ => T.length - v1.toNat) ?_ 0 μ ⟨0, rfl, Nat.zero_le _, Gm.rfl', rfl⟩
  rintro _ μ1 ⟨k, rfl, hk, hF, hx⟩ W hWW
  unfold d_Md_outermost_b2
  have e3 : μ1 773 = μ 773 := hF.1 773 (by decide) (by decide)
  have hW1 := hW.gm (hF.1 780 (by decide) (by decide)) (hF.2 25 (by decide))
  rw [hW1.1]
  by_cases hkl : k < T.length
  · rw [if_pos (by omega)]
    refine c_mFirstRule (hA.gm e3) hW1 hT (hR.gm e3) hr hkl fun μ2 hF2 _ => ?_
    rw [show T.length - k = (T.length - (k + 1)) + 1 by omega, ouF] at hx
    by_cases hf : fi T k rs 0 = -1
    · have hfx : rx rs T k = false := by unfold rx; simp [hf]
      rw [hfx, if_neg Bool.false_ne_true] at hx
      rw [if_pos hf, wr_id (by omega) (by omega)]
      exact hWW _ _ ⟨k + 1, by omega, by omega, hF.same hF2, hx⟩ (by omega)
    · have hfx : rx rs T k = true := by unfold rx; simp [hf]
      rw [hfx, if_pos rfl] at hx
      rw [if_neg hf, ← hx]
      exact h _ (hF.same hF2)
  · rw [if_neg (by omega)]
    rw [show T.length - k = 0 by omega] at hx
    have := h _ hF
    rw [hx] at this
    exact this
theorem c_mInnermost {rs : List Rl2} {T : List Int} {Q : Int → Mem → Prop} (hA : AR μ ars) (hW : WK μ T) (hT : okt ars m 80 T) (hR : MRs μ rs) (hr : ∀ r, r ∈ rs → okr ars r)
    (h : ∀ μ', Gm [783] [] μ μ' → Q (px rs true T) μ') : d_Md_innermost μ Q := by
  unfold d_Md_innermost
  have h80 := hW.2.1
  refine c_mOutermost hA hW hT hR hr fun μ0 hF0 => ?_
  have hpx : px rs true T = inF (rx rs T) (en T) T.length 0 T.length (-1) := rfl
  rw [inF_ou T.length 0 T.length (by omega)] at hpx
  by_cases h1 : ouF (rx rs T) T.length 0 = -1
  · rw [if_pos h1]
    rw [if_pos h1] at hpx
    rw [← hpx]
    exact h _ hF0
  · rw [if_neg h1]
    rw [if_neg h1] at hpx
    obtain ⟨k0, e0, e1, e2⟩ := ouF_get _ _ h1
    rw [Nat.zero_add] at e0
    rw [e0] at hpx ⊢
    rw [Int.toNat_natCast] at hpx
    refine i_Md_innermost_l16 (Inv := fun v1 v2 μ1 => ∃ b k : Nat, v1 = b ∧ v2 = k ∧ b < T.length ∧ k ≤ T.length ∧ Gm [783] [] μ μ1 ∧ px rs true T = inF (rx rs T) (en T) (T.length - k) k (en T b) (b : Int)) (fun _ v2 _ => T.length - v2.toNat) ?_ k0 _ μ0 ⟨k0, k0 + 1, rfl, by rw [wr_id (by omega) (by omega)]; omega, e1, by omega, hF0, hpx⟩
    rintro _ _ μ1 ⟨b, k, rfl, rfl, hb, hk, hF, hx⟩ W hWW
    unfold d_Md_innermost_b16
    have e3 : μ1 773 = μ 773 := hF.1 773 (by decide) (by decide)
    have hW1 := hW.gm (hF.1 780 (by decide) (by decide)) (hF.2 25 (by decide))
    have hen := en_le (L := T) (p := b) (by omega)
    refine c_behindW (hA.gm e3) hW1 hT hb ?_
    by_cases hke : k < en T b
    · rw [if_pos (by omega)]
      refine c_mFirstRule (hA.gm e3) hW1 hT (hR.gm e3) hr (by omega) fun μ2 hF2 _ => ?_
      rw [show T.length - k = (T.length - (k + 1)) + 1 by omega, inF, if_pos hke] at hx
      by_cases hf : fi T k rs 0 = -1
      · have hfx : rx rs T k = false := by unfold rx; simp [hf]
        rw [hfx, if_neg Bool.false_ne_true] at hx
        rw [if_pos hf]
        unfold d_Md_innermost_j40
        rw [wr_id (by omega) (by omega)]
        exact hWW _ _ _ ⟨b, k + 1, rfl, by omega, hb, by omega, hF.same hF2, hx⟩ (by omega)
      · have hfx : rx rs T k = true := by unfold rx; simp [hf]
        rw [hfx, if_pos rfl] at hx
        rw [if_neg hf]
        unfold d_Md_innermost_j40
        rw [wr_id (by omega) (by omega)]
        exact hWW _ _ _ ⟨k, k + 1, rfl, by omega, by omega, by omega, hF.same hF2, hx⟩ (by omega)
    · rw [if_neg (by omega)]
      have : px rs true T = (b : Int) := by
        rw [hx]
        cases T.length - k with
        | zero => rfl
        | succ n => rw [inF, if_neg hke]
      rw [← this]
      exact h _ hF
theorem c_mRedex {inner : Bool} {rs : List Rl2} {T : List Int} {Q : Int → Mem → Prop} (hA : AR μ ars) (hW : WK μ T) (hT : okt ars m 80 T) (hR : MRs μ rs) (hr : ∀ r, r ∈ rs → okr ars r)
    (h : ∀ μ', Gm [783] [] μ μ' → Q (px rs inner T) μ') : d_Md_redex (b2i inner) μ Q := by
  unfold d_Md_redex
  cases inner with
  | false =>
    rw [if_pos (show b2i false = 0 from rfl)]
    exact c_mOutermost hA hW hT hR hr h
  | true =>
    rw [if_neg (show ¬ b2i true = 0 by decide)]
    exact c_mInnermost hA hW hT hR hr h
theorem c_mRedexes {rs : List Rl2} {T : List Int} {Q : Int → Mem → Prop} (hA : AR μ ars) (hW : WK μ T) (hT : okt ars m 80 T) (hR : MRs μ rs) (hr : ∀ r, r ∈ rs → okr ars r)
    (h : ∀ μ', Gm [783] [] μ μ' → Q (((List.range T.length).countP (rx rs T) : Nat) : Int) μ') : d_Md_redexes μ Q := by
  unfold d_Md_redexes
  have h80 := hW.2.1
  refine i_Md_redexes_l4 (Inv := fun v1 v2 μ1 => ∃ k : Nat, v2 = k ∧ k ≤ T.length ∧ Gm [783] [] μ μ1 ∧ v1 = (((List.range k).countP (rx rs T) : Nat) : Int)) (fun _ v2 _ => T.length - v2.toNat) ?_ 0 0 μ ⟨0, rfl, Nat.zero_le _, Gm.rfl', rfl⟩
  rintro _ _ μ1 ⟨k, rfl, hk, hF, rfl⟩ W hWW
  unfold d_Md_redexes_b4
  have e3 : μ1 773 = μ 773 := hF.1 773 (by decide) (by decide)
  have hW1 := hW.gm (hF.1 780 (by decide) (by decide)) (hF.2 25 (by decide))
  rw [hW1.1]
  have hcl := List.countP_le_length (p := rx rs T) (l := List.range k)
  rw [List.length_range] at hcl
  by_cases hkl : k < T.length
  · rw [if_pos (by omega)]
    refine c_mFirstRule (hA.gm e3) hW1 hT (hR.gm e3) hr hkl fun μ2 hF2 _ => ?_
    have e : (List.range (k + 1)).countP (rx rs T) = (List.range k).countP (rx rs T) + (if rx rs T k = true then 1 else 0) := by
      rw [List.range_succ, List.countP_append, List.countP_cons, List.countP_nil, Nat.zero_add]
    unfold rx at e
    by_cases hf : fi T k rs 0 = -1
    · rw [if_pos hf]
      unfold d_Md_redexes_j27 d_Md_one
      rw [if_pos rfl]
      simp (disch := omega) only [wr_id]
      refine hWW _ _ _ ⟨k + 1, by omega, by omega, hF.same hF2, ?_⟩ (by omega)
      unfold rx
      rw [e]
      simp [hf]
    · rw [if_neg hf]
      unfold d_Md_redexes_j27 d_Md_one
      rw [if_neg (by decide)]
      simp (disch := omega) only [wr_id]
      refine hWW _ _ _ ⟨k + 1, by omega, by omega, hF.same hF2, ?_⟩ (by omega)
      unfold rx
      rw [e]
      simp [hf]
  · rw [if_neg (by omega)]
    obtain rfl : k = T.length := by omega
    exact h _ hF
/-- what is built: a list of which the first 80 nodes stand in the row -/
def BL (μ : Mem) (X : List Int) : Prop := μ 772 26 = (X.length : Int) ∧ Me (μ 781) 0 (X.take 80)
theorem BL.gm {μ' : Mem} {X : List Int} (h : BL μ X) (h1 : μ' 781 = μ 781) (h2 : μ' 772 26 = μ 772 26) : BL μ' X := by
  unfold BL at *
  rw [h1, h2]
  exact h
theorem BL.nil {μ : Mem} : BL (mup μ 772 26 0) [] := ⟨mup_s, Sg.nil⟩
theorem c_builds {c z : Int} {X : List Int} {Q : Mem → Prop} (hX : BL μ X) (hl : X.length < 1000000) (hz : z = enc c) (h : ∀ μ', BL μ' (X ++ [c]) → Gm [781] [26] μ μ' → Q μ') : d_Md_builds z μ Q := by
  subst hz
  unfold d_Md_builds
  rw [hX.1]
  by_cases h80 : X.length < 80
  · rw [if_pos (by omega)]
    refine ⟨by omega, ?_⟩
    unfold d_Md_builds_j19
    rw [mup_r (by omega), hX.1, wr_id (by omega) (by omega), Int.toNat_natCast]
    refine h _ ⟨by rw [mup_s]; simp, ?_⟩ ((Gm.upR (a := 781) (by decide)).tr Gm.upF (by decide) (by decide) (by decide) (by decide))
    rw [mup_r (by omega), List.take_of_length_le (by simp; omega)]
    unfold Me
    rw [List.map_append]
    have hm := hX.2
    rw [List.take_of_length_le (by omega)] at hm
    refine Sg.app (hm.congr fun i hi => ?_) (Sg.one ?_)
    · rw [List.length_map] at hi
      exact mup_k (by omega)
    · rw [List.length_map, Nat.zero_add, mup_s]
  · rw [if_neg (by omega)]
    unfold d_Md_builds_j19
    rw [hX.1, wr_id (by omega) (by omega)]
    refine h _ ⟨by rw [mup_s]; simp, ?_⟩ (Gm.upF.mono (by decide) (by decide))
    rw [mup_r (by omega), List.take_append_of_le_length (by omega)]
    exact hX.2
theorem c_buildsFrom {a f t : Nat} {vf vt : Int} {S X : List Int} {Q : Mem → Prop} (hf' : vf = f) (ht' : vt = t) (hX : BL μ X) (hS : Me (μ a) 0 S) (ha : a ≠ 781 ∧ a ≠ 772) (hf : f ≤ t) (ht : t ≤ S.length) (hln : S.length ≤ ln a) (hl : X.length + (t - f) < 1000000)
    (h : ∀ μ', BL μ' (X ++ (S.drop f).take (t - f)) → Gm [781] [26] μ μ' → Q μ') : d_Md_buildsFrom a vf vt μ Q := by
  subst hf' ht'
  unfold d_Md_buildsFrom
  have l1 := ln_le a
  refine i_Md_buildsFrom_l3 (Inv := fun v4 μ1 => ∃ k : Nat, v4 = k ∧ f ≤ k ∧ k ≤ t ∧ BL μ1 (X ++ (S.drop f).take (k - f)) ∧ Gm [781] [26] μ μ1) (fun v4 _ => t - v4.toNat) ?_ f μ ⟨f, rfl, Nat.le_refl _, hf, by rw [Nat.sub_self, List.take_zero, List.append_nil]; exact hX, Gm.rfl'⟩
  rintro _ μ1 ⟨k, rfl, h3, h4, h5, h6⟩ W hWW
  unfold d_Md_buildsFrom_b3
  by_cases hk : k < t
  · rw [if_pos (by omega)]
    refine ⟨by omega, ?_⟩
    have ea : μ1 a = μ a := h6.1 a ha.2 (by simpa using ha.1)
    refine c_builds (c := S.getD k 0) h5 (by rw [List.length_append, List.length_take, List.length_drop]; omega) (by rw [ea, Int.toNat_natCast, hS.get0 (by omega)]) (fun μ2 h7 h8 => ?_)
    rw [wr_id (by omega) (by omega)]
    refine hWW _ _ ⟨k + 1, by omega, by omega, by omega, ?_, h6.same h8⟩ (by omega)
    rw [List.append_assoc] at h7
    rw [show k + 1 - f = (k - f) + 1 by omega, take_1r (by rw [List.length_drop]; omega), getD_drop, show f + (k - f) = k by omega]
    exact h7
  · rw [if_neg (by omega)]
    obtain rfl : k = t := by omega
    exact h _ h5 h6
theorem c_takesBuilt {X : List Int} {Q : Bool → Mem → Prop} (hX : BL μ X) (h1 : X.length ≤ 80 → ∀ μ', WK μ' X → Gm [780] [25] μ μ' → Q true μ') (h2 : 80 < X.length → Q false μ) : d_Md_takesBuilt μ Q := by
  unfold d_Md_takesBuilt
  rw [hX.1]
  by_cases h80 : X.length ≤ 80
  · rw [if_neg (by omega), mup_k (by decide), hX.1]
    refine c_lays 0 0 X.length rfl rfl rfl (by rw [ln781]; omega) (by rw [ln780]; omega) (Or.inl (by decide)) (fun μ1 g1 g2 g3 => ?_)
    have hG : Gm [780] [25] μ μ1 := (Gm.upF (k := 25)).tr ⟨fun b k1 k2 => g3 b (by simpa using k2), fun j _ => by rw [g3 772 (by decide)]⟩ (r2 := [780]) (f2 := []) (by decide) (by decide) (by decide) (by decide)
    refine h1 h80 _ ⟨by rw [g3 772 (by decide), mup_s], h80, fun i hi => ?_⟩ hG
    rw [List.length_map] at hi
    rw [g1 i hi, mup_r (by decide)]
    have hm := hX.2
    rw [List.take_of_length_le h80] at hm
    exact hm i (by rw [List.length_map]; exact hi)
  · rw [if_pos (by omega)]
    exact h2 (by omega)
theorem c_rewritesAt {i p : Nat} {r : Rl2} {T : List Int} {b : Nat → Int} {Q : Bool → Mem → Prop} (hA : AR μ ars) (hW : WK μ T) (hT : okt ars m 80 T) (hR : MR μ i r) (hr : okr ars r) (hp : p < T.length) (hb : mb r.1 T p = some b) (hB : BM μ b)
    (h1 : ∀ μ' Y, rw1 r T p = some Y → WK μ' Y → Gm [780, 781] [25, 26] μ μ' → Q true μ') (h2 : ∀ μ', rw1 r T p = none → Gm [780, 781] [25, 26] μ μ' → WK μ' T → Q false μ') : d_Md_rewritesAt (i : Int) (p : Int) μ Q := by
  unfold d_Md_rewritesAt
  obtain ⟨hi, hl1, hl2, e1, e2, m1, m2⟩ := hR
  have h80 := hW.2.1
  have h8 := hA.1
  obtain ⟨k1, k2, k3⟩ := mt_some _ _ _ _ (fitp_start hr.1.1 hT.1 hp) (bok_nb T) hb
  have hG0 : Gm [781] [26] μ (mup μ 772 26 0) := Gm.upF.mono (by decide) (by decide)
  have keepW : ∀ μ1, Gm [781] [26] μ μ1 → WK μ1 T := fun μ1 g => hW.gm (g.1 780 (by decide) (by decide)) (g.2 25 (by decide))
  have keep3 : ∀ μ1, Gm [781] [26] μ μ1 → μ1 773 = μ 773 := fun μ1 g => g.1 773 (by decide) (by decide)
  have keepB : ∀ μ1, Gm [781] [26] μ μ1 → BM μ1 b := fun μ1 g v hv => by rw [g.1 783 (by decide) (by decide)]; exact hB v hv
  have hW0 := keepW _ hG0
  have bsl : ∀ c, (bs T b c).length ≤ 80 := by
    intro c
    unfold bs sb
    rw [List.length_take, List.length_drop]
    omega
  refine c_buildsFrom (f := 0) (t := p) rfl rfl BL.nil hW0.2.2 ⟨by decide, by decide⟩ (Nat.zero_le _) (by omega) (by rw [ln780]; omega) (by simp only [List.length_nil]; omega) (fun μ1 hX1 hG1 => ?_)
  rw [List.nil_append, List.drop_zero, Nat.sub_zero] at hX1
  refine i_Md_rewritesAt_l17 (Inv := fun v3 μ1 => ∃ k : Nat, v3 = k ∧ k ≤ r.2.length ∧ Gm [781] [26] μ μ1 ∧ BL μ1 (T.take p ++ sv (bs T b) (r.2.take k)) ∧ (sv (bs T b) (r.2.take k)).length ≤ 80 * k) (fun v3 _ => r.2.length - v3.toNat) ?_ 0 μ1 ⟨0, rfl, Nat.zero_le _, hG0.same hG1, by simpa [sv] using hX1, by simp [sv]⟩
  rintro _ μ2 ⟨k, rfl, hk, hG, hX, hlen⟩ W hWW
  unfold d_Md_rewritesAt_b17
  have e3 := keep3 _ hG
  have hA2 := hA.gm e3
  have hW2 := keepW _ hG
  have hlt : (T.take p).length ≤ 80 := by rw [List.length_take]; omega
  refine c_ofRule (k := 1) hi (by omega) ?_
  rw [e3, e2]
  by_cases hkl : k < r.2.length
  · rw [if_pos (by omega), wr_id (by omega) (by omega), show (14 : Int) + (k : Int) = ((14 + k : Nat) : Int) by omega]
    refine c_ofRule hi (by omega) ?_
    rw [e3, ← Nat.add_assoc, m2.get hkl]
    have hmem : r.2.getD k 0 ∈ r.2 := getD_mem hkl
    have hok := hr.2.1.2.2 _ hmem
    have hlt' := enc_lt hok h8
    have etk : sv (bs T b) (r.2.take (k + 1)) = sv (bs T b) (r.2.take k) ++ (if r.2.getD k 0 < 0 then bs T b (r.2.getD k 0) else [r.2.getD k 0]) := by
      rw [take_1r hkl, sv_app, sv_cons, sv_nil, List.append_nil]
    by_cases hc0 : r.2.getD k 0 < 0
    · rw [if_neg (by omega), enc_neg hc0]
      rw [if_pos hc0] at etk
      have hv := hok.1 hc0
      have ev : wr (99 - r.2.getD k 0 - 100) = ((vn (r.2.getD k 0) : Nat) : Int) := by
        unfold vn
        rw [wr_id (by omega) (by omega)]
        omega
      have hvn : vn (r.2.getD k 0) < 8 := by unfold vn; omega
      rw [ev]
      refine ⟨by omega, by omega, ?_⟩
      rw [Int.toNat_natCast, keepB _ hG _ hvn]
      have hbv := k3 _ (hr.2.2.2 _ hmem hc0) hc0
      obtain ⟨q1, q2⟩ := k1 _ hbv
      have ebv : b (vn (r.2.getD k 0)) = (((b (vn (r.2.getD k 0))).toNat : Nat) : Int) := by omega
      rw [ebv]
      refine c_behindW hA2 hW2 hT q2 ?_
      have hen := en_le (L := T) (p := (b (vn (r.2.getD k 0))).toNat) (by omega)
      have hgt := en_gt q2
      have esb : (T.drop (b (vn (r.2.getD k 0))).toNat).take (en T (b (vn (r.2.getD k 0))).toNat - (b (vn (r.2.getD k 0))).toNat) = bs T b (r.2.getD k 0) := by
        unfold bs sb
        congr 1
        unfold en
        omega
      refine c_buildsFrom rfl rfl hX hW2.2.2 ⟨by decide, by decide⟩ (by omega) hen (by rw [ln780]; omega) (by rw [List.length_append]; omega) (fun μ3 hX3 hG3 => ?_)
      unfold d_Md_rewritesAt_j90
      rw [wr_id (by omega) (by omega)]
      rw [esb, List.append_assoc, ← etk] at hX3
      refine hWW _ _ ⟨k + 1, by omega, by omega, hG.same hG3, hX3, ?_⟩ (by omega)
      rw [etk, List.length_append]
      have := bsl (r.2.getD k 0)
      omega
    · rw [if_pos (by omega)]
      rw [if_neg hc0] at etk
      refine c_builds hX (by rw [List.length_append]; omega) rfl (fun μ3 hX3 hG3 => ?_)
      unfold d_Md_rewritesAt_j90
      rw [wr_id (by omega) (by omega)]
      rw [List.append_assoc, ← etk] at hX3
      refine hWW _ _ ⟨k + 1, by omega, by omega, hG.same hG3, hX3, ?_⟩ (by omega)
      rw [etk, List.length_append, List.length_singleton]
      omega
  · rw [if_neg (by omega)]
    refine c_behindW hA2 hW2 hT hp ?_
    rw [hW2.1]
    rw [List.take_of_length_le (show r.2.length ≤ k by omega)] at hX hlen
    have hen := en_le (L := T) (p := p) (by omega)
    have edr : (T.drop (en T p)).take (T.length - en T p) = T.drop (en T p) := List.take_of_length_le (by rw [List.length_drop]; omega)
    refine c_buildsFrom rfl rfl hX hW2.2.2 ⟨by decide, by decide⟩ hen (Nat.le_refl _) (by rw [ln780]; omega) (by rw [List.length_append]; omega) (fun μ3 hX3 hG3 => ?_)
    rw [edr] at hX3
    have hX4 : BL μ3 (bd r.2 T p b) := hX3
    have hG4 := hG.same hG3
    refine c_takesBuilt hX4 (fun h80 μ4 hW4 hG5 => ?_) (fun h80 => ?_)
    · refine h1 _ _ ?_ hW4 (hG4.tr hG5 (by decide) (by decide) (by decide) (by decide))
      unfold rw1
      rw [hb]
      exact if_pos h80
    · refine h2 _ ?_ (hG4.mono (by decide) (by decide)) (keepW _ hG4)
      unfold rw1
      rw [hb]
      exact if_neg (by omega)
theorem c_stepsAt {p : Nat} {rs : List Rl2} {T : List Int} {Q : Bool → Mem → Prop} (hA : AR μ ars) (hW : WK μ T) (hT : okt ars m 80 T) (hR : MRs μ rs) (hr : ∀ r, r ∈ rs → okr ars r) (hp : p < T.length) (hx : rx rs T p = true)
    (h1 : ∀ μ' Y, st1 rs T p = some Y → WK μ' Y → Gm [780, 781, 783] [25, 26] μ μ' → Q true μ') (h2 : ∀ μ', st1 rs T p = none → Gm [780, 781, 783] [25, 26] μ μ' → WK μ' T → Q false μ') : d_Md_stepsAt (p : Int) μ Q := by
  unfold d_Md_stepsAt
  refine c_mFirstRule hA hW hT hR hr hp fun μ1 hG1 hk => ?_
  have hf : fi T p rs 0 ≠ -1 := by unfold rx at hx; simpa using hx
  obtain ⟨k, e1, e2, e3⟩ := fi_get _ _ hf
  rw [Nat.zero_add] at e1
  obtain ⟨b, hb, hB⟩ := hk k e1
  have k3 : μ1 773 = μ 773 := hG1.1 773 (by decide) (by decide)
  have es : st1 rs T p = rw1 (rs.getD k ([], [])) T p := by
    unfold st1
    rw [if_neg hf, e1, Int.toNat_natCast]
  rw [e1]
  refine c_rewritesAt (hA.gm k3) (hW.gm (hG1.1 780 (by decide) (by decide)) (hG1.2 25 (by decide))) hT ((hR.gm k3).2.2 k e2) (hr _ (getD_mem e2)) hp hb hB (fun μ2 Y hY hW2 hG2 => ?_) (fun μ2 hY hG2 hW2 => ?_)
  · exact h1 _ Y (by rw [es]; exact hY) hW2 (hG1.tr hG2 (by decide) (by decide) (by decide) (by decide))
  · exact h2 _ (by rw [es]; exact hY) (hG1.tr hG2 (by decide) (by decide) (by decide) (by decide)) hW2
/-- the rows that rewriting uses -/
abbrev gmR : List Nat := [780, 781, 783]
abbrev gmF : List Nat := [25, 26]
theorem c_reduces {inner : Bool} {n : Nat} {rs : List Rl2} {T : List Int} {Q : Int → Mem → Prop} (hA : AR μ ars) (hW : WK μ T) (hT : okt ars m 80 T) (hR : MRs μ rs) (hr : ∀ r, r ∈ rs → okr ars r) (hn : n ≤ 200)
    (h1 : ∀ μ' k Y, rdc rs inner n T = some (k, Y) → WK μ' Y → Gm gmR gmF μ μ' → Q (k : Int) μ')
    (h2 : ∀ μ', rdc rs inner n T = none → Gm gmR gmF μ μ' → Q (-1) μ') : d_Md_reduces (b2i inner) (n : Int) μ Q := by
  unfold d_Md_reduces
  refine i_Md_reduces_l2 (Inv := fun v3 μ1 => ∃ (k : Nat) (X : List Int), v3 = k ∧ k ≤ n ∧ WK μ1 X ∧ okt ars m 80 X ∧ Gm gmR gmF μ μ1 ∧ rdc rs inner n T = addk k (rdc rs inner (n - k) X)) (fun v3 _ => n + 1 - v3.toNat) ?_ 0 μ ⟨0, T, rfl, Nat.zero_le _, hW, hT, Gm.rfl', ?_⟩
  · rintro _ μ2 ⟨k, X, rfl, hk, hX, wX, hG, hd⟩ W hWW
    unfold d_Md_reduces_b2
    rw [if_neg (by omega)]
    have e3 : μ2 773 = μ 773 := hG.1 773 (by decide) (by decide)
    refine c_mRedex (hA.gm e3) hX wX (hR.gm e3) hr fun μ3 hG3 => ?_
    have hG3' : Gm gmR gmF μ μ3 := hG.tr hG3 (by decide) (by decide) (by decide) (by decide)
    have hX3 : WK μ3 X := hX.gm (hG3.1 780 (by decide) (by decide)) (hG3.2 25 (by decide))
    by_cases hx : px rs inner X = -1
    · rw [if_pos hx]
      have e : rdc rs inner (n - k) X = some (0, X) := by
        cases n - k with
        | zero => rw [rdc, if_pos hx]
        | succ j => rw [rdc, if_pos hx]
      rw [e] at hd
      refine h1 _ k X ?_ hX3 hG3'
      rw [hd]
      show some (0 + k, X) = some (k, X)
      rw [Nat.zero_add]
    · rw [if_neg hx]
      by_cases hkn : k = n
      · rw [if_pos (by omega)]
        refine h2 _ ?_ hG3'
        rw [hd, hkn, Nat.sub_self, rdc, if_neg hx]
        rfl
      · rw [if_neg (by omega)]
        obtain ⟨q, e1, e2, e4⟩ := px_get hx
        rw [show n - k = (n - (k + 1)) + 1 by omega, rdc, if_neg hx, e1, Int.toNat_natCast] at hd
        rw [e1]
        have e33 : μ3 773 = μ 773 := hG3'.1 773 (by decide) (by decide)
        refine c_stepsAt (hA.gm e33) hX3 wX (hR.gm e33) hr e2 e4 (fun μ4 Y hY hXY hG4 => ?_) (fun μ4 hY hG4 _ => ?_)
        · rw [if_pos rfl]
          have hoY := st1_ok hr wX e2 hY
          rw [wr_id (by omega) (by omega)]
          refine hWW _ _ ⟨k + 1, Y, by omega, by omega, hXY, hoY, hG3'.same hG4, ?_⟩ (by omega)
          rw [hd, hY]
          dsimp only
          cases rdc rs inner (n - (k + 1)) Y with
          | none => rfl
          | some o =>
            obtain ⟨j, Z⟩ := o
            unfold addk
            dsimp only
            congr 2
            omega
        · rw [if_neg (by decide)]
          refine h2 _ ?_ (hG3'.same hG4)
          rw [hd, hY]
          rfl
  · unfold addk
    rw [Nat.sub_zero]
    cases rdc rs inner n T with
    | none => rfl
    | some o => rfl
/-- what is kept -/
def KP (μ : Mem) (X : List Int) : Prop := μ 772 27 = (X.length : Int) ∧ X.length ≤ 80 ∧ Me (μ 782) 0 X
theorem KP.gm {μ' : Mem} {X : List Int} (h : KP μ X) (h1 : μ' 782 = μ 782) (h2 : μ' 772 27 = μ 772 27) : KP μ' X := by
  unfold KP at *
  rw [h1, h2]
  exact h
theorem c_keeps {T : List Int} {Q : Mem → Prop} (hW : WK μ T) (h : ∀ μ', KP μ' T → WK μ' T → Gm [782] [27] μ μ' → Q μ') : d_Md_keeps μ Q := by
  unfold d_Md_keeps
  obtain ⟨h1, h2, h3⟩ := hW
  rw [mup_k (by decide), h1]
  refine c_lays 0 0 T.length rfl rfl rfl (by rw [ln780]; omega) (by rw [ln782]; omega) (Or.inl (by decide)) (fun μ1 g1 g2 g3 => ?_)
  have hG : Gm [782] [27] μ μ1 := (Gm.upF (k := 27)).tr ⟨fun b k1 k2 => g3 b (by simpa using k2), fun j _ => by rw [g3 772 (by decide)]⟩ (r2 := [782]) (f2 := []) (by decide) (by decide) (by decide) (by decide)
  refine h _ ⟨by rw [g3 772 (by decide), mup_s], h2, fun i hi => ?_⟩ ⟨by rw [hG.2 25 (by decide)]; exact h1, h2, by rw [hG.1 780 (by decide) (by decide)]; exact h3⟩ hG
  rw [List.length_map] at hi
  rw [g1 i hi, mup_r (by decide)]
  exact h3 i (by rw [List.length_map]; exact hi)
theorem c_isKept {A B : List Int} {m' : Nat} {Q : Bool → Prop} (ha : ars.length ≤ 8) (hK : KP μ A) (hW : WK μ B) (oA : okt ars m' 80 A) (oB : okt ars m 80 B) (h : Q (decide (A = B))) : d_Md_isKept μ Q := by
  unfold d_Md_isKept
  rw [hK.1, hW.1]
  have h80 := hK.2.1
  by_cases hlen : A.length = B.length
  · rw [if_pos (by omega)]
    refine i_Md_isKept_l15 (Inv := fun v1 => ∃ k : Nat, v1 = k ∧ k ≤ A.length ∧ decide (A = B) = decide (A.drop k = B.drop k)) (fun v1 => A.length - v1.toNat) ?_ 0 ⟨0, rfl, Nat.zero_le _, by simp⟩
    rintro _ ⟨k, rfl, h1, h2⟩ W hWW
    unfold d_Md_isKept_b15
    rw [hW.1]
    by_cases hk : k < A.length
    · rw [if_pos (by omega)]
      refine ⟨by omega, by omega, ?_⟩
      rw [Int.toNat_natCast, hK.2.2.get0 hk, hW.2.2.get0 (by omega)]
      have inj := enc_inj (oA.2.2 _ (gm0 hk)) (oB.2.2 _ (gm0 (show k < B.length by omega))) ha
      rw [dropc hk, dropc (show k < B.length by omega)] at h2
      by_cases hcc : A.getD k 0 = B.getD k 0
      · rw [if_pos (inj.mpr hcc), wr_id (by omega) (by omega)]
        refine hWW _ ⟨k + 1, by omega, by omega, ?_⟩ (by omega)
        rw [h2, hcc]
        simp only [List.cons.injEq, true_and]
      · rw [if_neg (fun g => hcc (inj.mp g))]
        rw [h2, decide_eq_false (fun e => hcc (List.cons.inj e).1)] at h
        exact h
    · rw [if_neg (by omega)]
      rw [List.drop_eq_nil_of_le (show A.length ≤ k by omega), List.drop_eq_nil_of_le (show B.length ≤ k by omega), decide_eq_true rfl] at h2
      rw [h2] at h
      exact h
  · rw [if_neg (by omega)]
    rw [decide_eq_false (fun e : A = B => hlen (by rw [e]))] at h
    exact h
end M41
