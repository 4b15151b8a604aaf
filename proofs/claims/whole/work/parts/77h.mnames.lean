/-! THE REFERENCE: the names of the variables of a pair -/
def NmM (μ : Mem) (V : List Int) : Prop := μ 772 42 = (V.length : Int) ∧ ∀ j, j < 16 → μ 793 j = if (-1 - (j : Int)) ∈ V then 100 + ((V.idxOf (-1 - (j : Int)) : Nat) : Int) else -1
theorem NmM.gm {μ μ' : Mem} {V : List Int} (h : NmM μ V) (h1 : μ' 793 = μ 793) (h2 : μ' 772 42 = μ 772 42) : NmM μ' V := by
  unfold NmM
  rw [h1, h2]
  exact h
theorem enc_cnm {V : List Int} {c : Int} (n : c < 0) : enc (cnm V c) = 100 + ((V.idxOf c : Nat) : Int) := by
  unfold cnm
  rw [if_pos n, enc_neg (by omega)]
  omega
section H77
variable {μ : Mem} {V : List Int} {ars : List Nat}
theorem c_nameOf {c v : Int} {Q : Int → Mem → Prop} (n : c < 0) (h16 : -16 ≤ c) (hv : v = -1 - c) (hN : NmM μ V) (hl : V.length ≤ 1000)
    (k : ∀ μ', NmM μ' (vord [c] V) → Gm [793] [42] μ μ' → Q (100 + (((vord [c] V).idxOf c : Nat) : Int)) μ') : d_Md_nameOf v μ Q := by
  unfold d_Md_nameOf
  have hj : v.toNat < 16 := by omega
  have ej : -1 - ((v.toNat : Nat) : Int) = c := by omega
  have hb : 0 ≤ v ∧ v < 16 := by omega
  have hNj := hN.2 _ hj
  rw [ej] at hNj
  refine ⟨hb, ?_⟩
  unfold d_Md_nameOf_j33
  generalize v.toNat = j at *
  by_cases hm : c ∈ V
  · have e1 : vord [c] V = V := by rw [vord, if_neg (fun q => q.2 hm)]; rfl
    rw [e1] at k
    rw [if_pos hm] at hNj
    rw [hNj, if_neg (by omega)]
    exact ⟨hb, k μ hN Gm.rfl'⟩
  · have e1 : vord [c] V = V ++ [c] := by rw [vord, if_pos ⟨n, hm⟩]; rfl
    rw [e1] at k
    rw [if_neg hm] at hNj
    rw [hNj, if_pos rfl]
    have r1 : ∀ z : Int, mup μ 793 j z 772 = μ 772 := fun z => mup_r (by decide)
    have r2 : ∀ z z' : Int, mup (mup μ 793 j z) 772 42 z' 793 = mup μ 793 j z 793 := fun z z' => mup_r (by decide)
    refine ⟨hb, hb, ?_⟩
    rw [r2, r1, mup_s, hN.1]
    have ew : wr (100 + (V.length : Int)) = 100 + (V.length : Int) := wr_id (by omega) (by omega)
    have ew2 : wr ((V.length : Int) + 1) = ((V.length + 1 : Nat) : Int) := by rw [wr_id (by omega) (by omega)]; omega
    rw [ew, ew2]
    have := k (mup (mup μ 793 j (100 + (V.length : Int))) 772 42 ((V.length + 1 : Nat) : Int)) ⟨by rw [mup_s, List.length_append, List.length_singleton], fun i hi => ?_⟩ ((Gm.upR (a := 793) (by decide)).tr (Gm.upF (k := 42)) (by decide) (by decide) (by decide) (by decide))
    · rw [idx_new V c hm] at this
      exact this
    · rw [r2]
      by_cases e : i = j
      · rw [e, mup_s, ej, if_pos (List.mem_append.mpr (Or.inr (List.mem_singleton.mpr rfl))), idx_new V c hm]
      · rw [mup_k e, hN.2 i hi]
        have hne : -1 - (i : Int) ≠ c := by omega
        by_cases q : (-1 - (i : Int)) ∈ V
        · rw [if_pos q, if_pos (List.mem_append.mpr (Or.inl q)), idx_app _ _ _ q]
        · rw [if_neg q, if_neg fun g => ?_]
          rcases List.mem_append.mp g with g | g
          · exact q g
          · exact hne (List.mem_singleton.mp g)
theorem c_keepsTerm {v : Int} {pl : Nat} {T : List Int} {Q : Mem → Prop} (hv : v = (pl : Int)) (hpl : pl < 40) (h8 : ars.length ≤ 8) (hB : BL μ T) (h80 : T.length ≤ 80) (ok : ∀ c, c ∈ T → okn ars 16 c) (hN : NmM μ V) (hV : V.length ≤ 900)
    (k : ∀ μ', NmM μ' (vord T V) → μ' 791 pl = (T.length : Int) → Me (μ' 792) (80 * pl) (T.map (cnm (vord T V))) → (∀ x, x ≠ pl → μ' 791 x = μ 791 x) → (∀ x, x < 80 * pl ∨ 80 * pl + 80 ≤ x → μ' 792 x = μ 792 x) → Gm [791, 792, 793] [42] μ μ' → Q μ') : d_Md_keepsTerm v μ Q := by
  unfold d_Md_keepsTerm
  refine ⟨by omega, ?_⟩
  rw [show v.toNat = pl by omega, hB.1]
  have hBt := hB.2
  rw [List.take_of_length_le h80] at hBt
  have r7 : ∀ b, b ≠ 791 → mup μ 791 pl (T.length : Int) b = μ b := fun b hb => mup_r hb
  refine i_Md_keepsTerm_l12 (Inv := fun v2 μ1 => ∃ n : Nat, v2 = n ∧ n ≤ T.length ∧ NmM μ1 (vord (T.take n) V) ∧ Me (μ1 792) (80 * pl) ((T.take n).map (cnm (vord T V))) ∧ (∀ x, x < 80 * pl ∨ 80 * pl + 80 ≤ x → μ1 792 x = μ 792 x) ∧ μ1 791 = mup μ 791 pl (T.length : Int) 791 ∧ Gm [791, 792, 793] [42] μ μ1) (fun v2 _ => T.length - v2.toNat) ?_ 0 _ ⟨0, rfl, Nat.zero_le _, hN.gm (r7 _ (by decide)) (by rw [r7 _ (by decide)]), Sg.nil, fun x _ => by rw [r7 _ (by decide)], rfl, (Gm.upR (a := 791) (by decide)).mono (by decide) (by decide)⟩
  rintro v2 μ1 ⟨n, e2, hn, hN1, hM1, hO1, h91, hG⟩ W hW
  unfold d_Md_keepsTerm_b12
  have e26 : μ1 772 26 = (T.length : Int) := by rw [hG.2 26 (by decide)]; exact hB.1
  have e81 : μ1 781 = μ 781 := hG.1 781 (by decide) (by decide)
  rw [e26, e81]
  by_cases hk : n < T.length
  · rw [if_pos (by omega), show v2.toNat = n by omega, hBt.get0 hk]
    refine ⟨by omega, ?_⟩
    have okc := ok _ (gm0 hk)
    have hlt := enc_lt okc h8
    have e1 := vord_app (T.take n) [T.getD n 0] V
    rw [← take_1r hk] at e1
    have ex := vord_app (T.take (n + 1)) (T.drop (n + 1)) V
    rw [List.take_append_drop] at ex
    obtain ⟨Wx, eW⟩ := vord_pre (T.drop (n + 1)) (vord (T.take (n + 1)) V)
    rw [eW] at ex
    have hvl := vord_len (T.take n) V
    rw [List.length_take] at hvl
    have ea : wr (wr (v * 80) + v2) = ((80 * pl + n : Nat) : Int) := by
      rw [wr_id (z := v * 80) (by omega) (by omega), wr_id (by omega) (by omega)]
      omega
    rw [ea]
    have hlt2 : ((T.take n).map (cnm (vord T V))).length = n := by rw [List.length_map, List.length_take]; omega
    have fin : ∀ (μ2 : Mem) (z : Int), z = enc (cnm (vord T V) (T.getD n 0)) → NmM μ2 (vord (T.take (n + 1)) V) → Gm [793] [42] μ1 μ2 → d_Md_keepsTerm_j63 v v2 ((80 * pl + n : Nat) : Int) z μ2 W Q := by
      intro μ2 z hz hN2 hG2
      unfold d_Md_keepsTerm_j63
      have ew : wr (v2 + 1) = ((n + 1 : Nat) : Int) := by rw [wr_id (by omega) (by omega)]; omega
      rw [ew, Int.toNat_natCast]
      refine ⟨by omega, ?_⟩
      have r92 : ∀ b, b ≠ 792 → mup μ2 792 (80 * pl + n) z b = μ2 b := fun b hb => mup_r hb
      have e92 : μ2 792 = μ1 792 := hG2.1 792 (by decide) (by decide)
      refine hW _ _ ⟨n + 1, rfl, by omega, hN2.gm (r92 _ (by decide)) (by rw [r92 _ (by decide)]), ?_, fun x hx => ?_, ?_, ?_⟩ (by omega)
      · rw [take_1r hk, List.map_append]
        unfold Me
        rw [List.map_append]
        refine Sg.app (hM1.congr fun i hi => ?_) (Sg.one ?_)
        · rw [List.length_map, hlt2] at hi
          rw [mup_k (by omega), e92]
        · rw [List.length_map, hlt2, mup_s]
          exact hz
      · rw [mup_k (by omega), e92]
        exact hO1 x hx
      · rw [r92 _ (by decide), hG2.1 791 (by decide) (by decide)]
        exact h91
      · exact (hG.tr hG2 (r := [791, 792, 793]) (f := [42]) (by decide) (by decide) (by decide) (by decide)).tr (Gm.upR (a := 792) (by decide)) (by decide) (by decide) (by decide) (by decide)
    by_cases n0 : T.getD n 0 < 0
    · have e4 := enc_neg n0
      have h16 := okc.1 n0
      rw [if_neg (by omega)]
      refine ⟨by omega, ?_⟩
      have ev : wr (enc (T.getD n 0) - 100) = -1 - T.getD n 0 := by rw [e4, wr_id (by omega) (by omega)]; omega
      refine c_nameOf n0 (by omega) ev hN1 (by omega) fun μ2 hN2 hG2 => ?_
      rw [← e1] at hN2
      refine fin μ2 _ ?_ hN2 hG2
      have hm : T.getD n 0 ∈ vord (T.take (n + 1)) V := vord_all _ _ _ n0 (Or.inr (by rw [take_1r hk]; exact List.mem_append.mpr (Or.inr (List.mem_singleton.mpr rfl))))
      rw [enc_cnm n0, ex, idx_app _ _ _ hm, e1]
    · rw [if_pos (by omega)]
      refine ⟨by omega, fin μ1 _ ?_ ?_ Gm.rfl'⟩
      · unfold cnm
        rw [if_neg n0]
      · rw [e1, vord, if_neg (fun q => n0 q.1)]
        exact hN1
  · rw [if_neg (by omega)]
    have en : n = T.length := by omega
    rw [en, List.take_length] at hN1 hM1
    exact k μ1 hN1 (by rw [h91, mup_s]) hM1 (fun x hx => by rw [h91, mup_k hx]) hO1 hG
end H77
