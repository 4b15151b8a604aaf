/-! CALLS THAT WRITE -/
section P60
variable {μ μ' : Mem} {A : AS} {Q : Int → Mem → Prop} {v1 : Int}
theorem CI.setO {o : List Int} (hI : CI μ A) (ho : COu μ' o) (hf : ∀ b, b < 57 ∨ (72 ≤ b ∧ b < 244) ∨ (247 ≤ b ∧ b < 769) → μ' b = μ b) : CI μ' (wO A o) := by
  obtain ⟨h1, h2, h3, ⟨h4, h5⟩, ⟨h6, h7⟩, h8, h9, h10⟩ := hI
  have e0 := hf 0 (by omega)
  exact ⟨by rw [e0]; exact h1, h2.fr fun b g1 g2 => hf b (by omega), Cst.fr (c := aC A) h3 rt_st.1 fun b g1 g2 => hf b (by omega), ⟨h4.fr rt_st.2.1 (by rw [e0]) fun b g1 g2 => hf b (by omega), h5.fr rt_st.2.2.1 (by rw [e0]) fun b g1 g2 => hf b (by omega)⟩, ⟨h6.fr (hf _ (by omega)) (hf _ (by omega)), h7.fr fun b g1 g2 => hf b (by omega)⟩, h8.fr fun b g1 g2 => hf b (by omega), ho, h10.fr fun b g1 g2 => hf b (by omega)⟩
/-- rows and fields of the reference's writing calls -/
abbrev owR : List Nat := [779, 780, 781, 782, 783, 784, 785, 786, 787, 788, 789, 790, 791, 792, 793, 794]
abbrev owF : List Nat := [25, 26, 27, 35, 36, 41, 42, 44]
theorem MI.setO {o : List Int} (hI : MI μ A) (ho : MOu μ' o) (hg : Gm owR (0 :: owF) μ μ') : MI μ' (wO A o) := by
  obtain ⟨i1, i2, ⟨k1, k2⟩, ⟨⟨j1, j2⟩, j3, j4⟩, ⟨j5, j6, j7, j8⟩, _⟩ := hI
  exact ⟨by rw [hg.2 6 (by decide)]; exact i1, by rw [hg.1 773 (by decide) (by decide)]; exact i2, ⟨by rw [hg.2 7 (by decide)]; exact k1, fun i hi => by rw [hg.1 775 (by decide) (by decide)]; exact k2 i hi⟩, ⟨⟨by rw [hg.1 777 (by decide) (by decide)]; exact j1, fun c hc => by rw [hg.1 776 (by decide) (by decide)]; exact j2 c hc⟩, ⟨by rw [hg.1 777 (by decide) (by decide)]; exact j3, fun c hc => by rw [hg.1 776 (by decide) (by decide)]; exact j4 c hc⟩⟩, ⟨by rw [hg.2 10 (by decide)]; exact j5, by rw [hg.2 11 (by decide)]; exact j6, by rw [hg.2 9 (by decide)]; exact j7, by rw [hg.1 778 (by decide) (by decide)]; exact j8⟩, ho⟩
theorem okt_16 {ars : List Nat} {n : Nat} {T : List Int} (h : okt ars 8 n T) : ∀ c, c ∈ T → okn ars 16 c := fun c hc => ⟨fun h0 => by have := (h.2.2 c hc).1 h0; omega, (h.2.2 c hc).2⟩
/-- the class writes: the end of a call -/
theorem WC.okO {o : List Int} {μ1 : Mem} (h : WC μ (g4 true true (some ((o.length : Int), wO A o)) A) Q) (hI : CI μ A) (ho : COu μ1 o) (hf : ∀ b, b < 57 ∨ (72 ≤ b ∧ b < 244) ∨ (247 ≤ b ∧ b < 769) ∨ 772 ≤ b → μ1 b = μ b) : Q 0 (mup μ1 795 0 (l64 (μ1 244 0))) := by
  rw [ho.1]
  exact h.ok4 (hI.setO ho fun b hb => hf b (by omega)) (fun b hb => hf b (by omega)) rfl
theorem MC.okO {o : List Int} {μ1 : Mem} (h : MC μ (g4 true true (some ((o.length : Int), wO A o)) A) Q) (hI : MI μ A) (ho : MOu μ1 o) (hg : Gm owR owF (mup μ 772 0 0) μ1) : Q (μ1 772 44) μ1 := by
  rw [ho.1]
  have hG : Gm owR (0 :: owF) μ μ1 := (Gm.upF (k := 0)).tr hg (by decide) (by decide) (by decide) (by decide)
  exact h.ok4 (hI.setO ho hG) (hG.frM (by decide)) (by rw [hg.2 0 (by decide), mup_s]) rfl
theorem COu.nil {μ : Mem} : COu (mup μ 244 0 0) [] := ⟨mup_s, Sg.nil⟩
theorem MOu.nil {μ : Mem} : MOu (mup μ 772 44 0) [] := ⟨mup_s, Sg.nil⟩
def sp_writeTerm (A : AS) (v1 : Int) : Int × Int × AS := g4 (aL A) (decide (0 ≤ v1 ∧ v1 < ((aT A).length : Int))) (some (((wrt (aS A) ((aT A).getD v1.toNat []) []).length : Int), wO A (wrt (aS A) ((aT A).getD v1.toNat []) []))) A
def wrR (sy : Sy) (r : Rl2) : List Int := wrt sy r.1 [] ++ [61] ++ wrt sy r.2 []
def sp_writeRule (A : AS) (v1 : Int) : Int × Int × AS := g4 (aL A) (decide (0 ≤ v1 ∧ v1 < ((aR A).length : Int))) (some (((wrR (aS A) ((aR A).getD v1.toNat ([], []))).length : Int), wO A (wrR (aS A) ((aR A).getD v1.toNat ([], []))))) A
theorem w_writeRule (hI : CI μ A) (hA : AOK A) (h : WC μ (sp_writeRule A v1) Q) : d_Lw_writeRule v1 μ Q := by
  unfold d_Lw_writeRule d_OB_writeRule
  unfold sp_writeRule wrR at h
  refine c_reqRule hI (fun e => ?_) (fun e en => ?_) (fun e i hv hi => ?_)
  · rw [e] at h
    exact h.e1 hI Fz.rfl'
  · rw [e, decide_eq_false en] at h
    exact h.e2 hI Fz.rfl'
  · subst hv
    rw [e, decide_eq_true (by omega)] at h
    simp only [Int.toNat_natCast] at h
    have h6 := hA.r6
    have ok := hA.rule hi
    have l1 := ok.1.2.1
    have l2 := ok.2.1.2.1
    have q1 := side58 hI (i := i) (j := 0) (by omega) (by omega)
    have q2 := side58 hI (i := i) (j := 1) (by omega) (by omega)
    have q3 := rc_eq 5 i
    have r0 : ∀ b, b ≠ 244 → mup μ 244 0 0 b = μ b := fun b hb => mup_r hb
    rw [r0 (rc 5 i) (by omega)]
    have len1 := wrt_len hA.1 _ [] (okt_16 ok.1)
    refine c_addTerm ((hI.ruleL hi).fr (r0 _ (by omega)) (r0 _ (by omega))) (dp_rt _) (by omega) (hI.2.1.fr fun b g1 g2 => r0 b (by omega)) hA.1 COu.nil (okt_16 ok.1) (by omega) (by rw [List.length_nil]; omega) fun μ1 ho hF => ?_
    rw [List.nil_append] at ho
    rw [List.length_nil, Nat.add_zero] at len1
    refine c_addByte ho (by omega) fun μ2 ho2 hF2 => ?_
    have r2 : ∀ b, b < 244 ∨ 247 ≤ b → μ2 b = μ b := fun b hb => by rw [hF2 b (by omega), hF b (by omega), r0 b (by omega)]
    rw [r2 (rc 5 i) (by omega)]
    refine c_addTerm ((hI.ruleR hi).fr (r2 _ (by omega)) (r2 _ (by omega))) (dp_rt _) (by omega) (hI.2.1.fr fun b g1 g2 => r2 b (by omega)) hA.1 ho2 (okt_16 ok.2.1) (by omega) (by rw [List.length_append, List.length_singleton]; omega) fun μ3 ho3 hF3 => ?_
    exact h.okO hI ho3 fun b hb => by rw [hF3 b (by omega), r2 b (by omega)]
def wrN (sy : Sy) (o : Option (Nat × List Int)) : List Int := match o with
  | none => [63]
  | some (_, Y) => wrt sy Y []
def sp_writeNormalForm (A : AS) (v1 : Int) : Int × Int × AS := g4 (aL A) (decide (0 ≤ v1 ∧ v1 < ((aT A).length : Int))) (some (((wrN (aS A) (rdc (aR A) true 200 ((aT A).getD v1.toNat []))).length : Int), wO A (wrN (aS A) (rdc (aR A) true 200 ((aT A).getD v1.toNat []))))) A
end P60

