/-! that the printed tables do what the texts say (written by wip/gen/dec.py), 1 -/
theorem k_Term_sameParts_j101 {E : JE2} {v0 : Nat} {v4 : Int} {v5 : Int} {t0 : Int} {t1 : Int} {μ : Mem} {M : JM} {P : JO → JM → Prop} {g1 : JV} {g2 : JV} {g3 : JV} {W8 : Int → Int → Int → Prop} {Q : Bool → Prop} (hg2 : jc2 g2 = false) (hg3 : jc2 g3 = false) (hv0 : rt v0 = 8) (hM : Rl E M μ) (hQ : ∀ (r : Bool) (M1 : JM), Rl E M1 μ → Q r → P (.inl (some (.inl (b2i r)))) M1) (hW8 : ∀ (v3 : Int) (v4 : Int) (v5 : Int) (g1 : JV) (g2 : JV) (M1 : JM), jc2 g2 = false → Rl E M1 μ → W8 v3 v4 v5 → JX 67 8 [jR v0, g1, g2, jI v3, jI v4, jI v5] [] M1 P) (h : d_Term_sameParts_j101 v0 v4 v5 t0 t1 μ W8 Q) : JX 67 101 [jR v0, g1, g2, g3, jI v4, jI v5] [jI t1, jI t0] M P := by
  unfold d_Term_sameParts_j101 at h
  refine L_ps c67 (n := 1) (pc1 := 102) (ls1 := [jR v0, g1, g2, g3, jI v4, jI v5]) (st1 := [jI (wr (t0 + t1))]) rfl ?_
  refine L_istn (c67 102 rfl) (hg2) (Nat.le_of_ble_eq_true rfl) ?_
  show JX 67 103 [jR v0, g1, g2, jI (wr (t0 + t1)), jI v4, jI v5] [] M P
  refine L_ps c67 (n := 1) (pc1 := 104) (ls1 := [jR v0, g1, g2, jI (wr (t0 + t1)), jI v4, jI v5]) (st1 := [jI (wr (t0 + t1))]) rfl ?_
  refine L_nb (p1 := 109) (p2 := 107) (c67 104 rfl) rfl jc_ne h (fun h => ?_) (fun h => ?_)
  · refine L_ps c67 (n := 1) (pc1 := 108) (ls1 := [jR v0, g1, g2, jI (wr (t0 + t1)), jI v4, jI v5]) (st1 := [jI 1]) rfl ?_
    exact L_retB (c67 108 rfl) (Or.inr rfl) (hQ true _ hM h)
  · refine L_ps c67 (n := 3) (pc1 := 8) (ls1 := [jR v0, g1, g2, jI (wr (t0 + t1)), jI (wr (v4 + 1)), jI (wr (v5 + 1))]) (st1 := []) rfl ?_
    exact hW8 _ _ _ _ _ _ hg2 hM h
theorem k_Term_sameParts_b8 {E : JE2} {v0 : Nat} {v3 : Int} {v4 : Int} {v5 : Int} {μ : Mem} {M : JM} {P : JO → JM → Prop} {g1 : JV} {g2 : JV} {W8 : Int → Int → Int → Prop} {Q : Bool → Prop} (hg2 : jc2 g2 = false) (hv0 : rt v0 = 8) (hM : Rl E M μ) (hQ : ∀ (r : Bool) (M1 : JM), Rl E M1 μ → Q r → P (.inl (some (.inl (b2i r)))) M1) (hW8 : ∀ (v3 : Int) (v4 : Int) (v5 : Int) (g1 : JV) (g2 : JV) (M1 : JM), jc2 g2 = false → Rl E M1 μ → W8 v3 v4 v5 → JX 67 8 [jR v0, g1, g2, jI v3, jI v4, jI v5] [] M1 P) (h : d_Term_sameParts_b8 v0 v3 v4 v5 μ W8 Q) : JX 67 8 [jR v0, g1, g2, jI v3, jI v4, jI v5] [] M P := by
  unfold d_Term_sameParts_b8 at h
  refine L_ps c67 (n := 1) (pc1 := 10) (ls1 := [jR v0, g1, g2, jI v3, jI v4, jI v5]) (st1 := [jI v5]) rfl ?_
  refine L_br (p1 := 118) (p2 := 13) (c67 10 rfl) rfl jc_lt h (fun h => ?_) (fun h => ?_)
  · refine L_ps c67 (n := 1) (pc1 := 119) (ls1 := [jR v0, g1, g2, jI v3, jI v4, jI v5]) (st1 := [jI 0]) rfl ?_
    exact L_retB (c67 119 rfl) (Or.inl rfl) (hQ false _ hM h)
  · refine L_ps c67 (n := 2) (pc1 := 16) (ls1 := [jR v0, g1, g2, jI v3, jI v4, jI v5]) (st1 := [jR v0, jI v5]) rfl ?_
    refine L_getI (c67 16 rfl) hM hv0 rfl ?_
    refine L_nb (p1 := 118) (p2 := 22) (c67 19 rfl) rfl jc_ge h (fun h => ?_) (fun h => ?_)
    · refine L_ps c67 (n := 2) (pc1 := 25) (ls1 := [jR v0, g1, g2, jI v3, jI v4, jI v5]) (st1 := [jR v0, jI v5]) rfl ?_
      refine L_getP (d := 1) (c67 25 rfl) hM hv0 rfl ?_
      refine L_alen (n := ln (v0 + 1)) (z := (ln (v0 + 1) : Int)) (c67 28 rfl) hM (rp_8_1 hv0) (by decide) rfl (ln_small _) rfl ?_
      refine L_nb (p1 := 118) (p2 := 32) (c67 29 rfl) rfl jc_ge h (fun h => ?_) (fun h => ?_)
      · refine L_ps c67 (n := 1) (pc1 := 34) (ls1 := [jR v0, g1, g2, jI v3, jI v4, jI v5]) (st1 := [jI v4]) rfl ?_
        refine L_br (p1 := 73) (p2 := 37) (c67 34 rfl) rfl jc_lt h (fun h => ?_) (fun h => ?_)
        · refine L_ps c67 (n := 1) (pc1 := 74) (ls1 := [jR v0, g1, g2, jI v3, jI v4, jI v5]) (st1 := [jI 0]) rfl ?_
          exact L_retB (c67 74 rfl) (Or.inl rfl) (hQ false _ hM h)
        · refine L_ps c67 (n := 2) (pc1 := 40) (ls1 := [jR v0, g1, g2, jI v3, jI v4, jI v5]) (st1 := [jR v0, jI v4]) rfl ?_
          refine L_getI (c67 40 rfl) hM hv0 rfl ?_
          refine L_nb (p1 := 73) (p2 := 46) (c67 43 rfl) rfl jc_ge h (fun h => ?_) (fun h => ?_)
          · refine L_ps c67 (n := 2) (pc1 := 49) (ls1 := [jR v0, g1, g2, jI v3, jI v4, jI v5]) (st1 := [jR v0, jI v4]) rfl ?_
            refine L_getP (d := 1) (c67 49 rfl) hM hv0 rfl ?_
            refine L_alen (n := ln (v0 + 1)) (z := (ln (v0 + 1) : Int)) (c67 52 rfl) hM (rp_8_1 hv0) (by decide) rfl (ln_small _) rfl ?_
            refine L_nb (p1 := 73) (p2 := 56) (c67 53 rfl) rfl jc_ge h (fun h => ?_) (fun h => ?_)
            · refine L_ps c67 (n := 1) (pc1 := 57) (ls1 := [jR v0, g1, g2, jI v3, jI v4, jI v5]) (st1 := [jR v0]) rfl ?_
              refine L_getP (d := 1) (c67 57 rfl) hM hv0 rfl ?_
              refine L_ps c67 (n := 1) (pc1 := 62) (ls1 := [jR v0, g1, g2, jI v3, jI v4, jI v5]) (st1 := [jI v5, jR (v0 + 1)]) rfl ?_
              obtain ⟨hb, h⟩ := h
              refine L_iald (c67 62 rfl) hM (rp_8_1 hv0) rfl hb ?_
              refine L_ps c67 (n := 1) (pc1 := 64) (ls1 := [jR v0, g1, g2, jI v3, jI v4, jI v5]) (st1 := [jR v0, jI (μ (v0 + 1) v5.toNat)]) rfl ?_
              refine L_getP (d := 1) (c67 64 rfl) hM hv0 rfl ?_
              refine L_ps c67 (n := 1) (pc1 := 69) (ls1 := [jR v0, g1, g2, jI v3, jI v4, jI v5]) (st1 := [jI v4, jR (v0 + 1), jI (μ (v0 + 1) v5.toNat)]) rfl ?_
              obtain ⟨hb, h⟩ := h
              refine L_iald (c67 69 rfl) hM (rp_8_1 hv0) rfl hb ?_
              refine L_br (p1 := 75) (p2 := 73) (c67 70 rfl) rfl jc_eq h (fun h => ?_) (fun h => ?_)
              · refine L_ps c67 (n := 2) (pc1 := 77) (ls1 := [jR v0, g1, g2, jI v3, jI v4, jI v5]) (st1 := [jR v0, jI v3]) rfl ?_
                refine L_getP (d := 1) (c67 77 rfl) hM hv0 rfl ?_
                refine L_ps c67 (n := 1) (pc1 := 82) (ls1 := [jR v0, g1, g2, jI v3, jI v4, jI v5]) (st1 := [jI v5, jR (v0 + 1), jI v3]) rfl ?_
                obtain ⟨hb, h⟩ := h
                refine L_iald (c67 82 rfl) hM (rp_8_1 hv0) rfl hb ?_
                refine L_nb (p1 := 90) (p2 := 86) (c67 83 rfl) rfl jc_ge h (fun h => ?_) (fun h => ?_)
                · refine L_ps c67 (n := 2) (pc1 := 101) (ls1 := [jR v0, g1, g2, jI v3, jI v4, jI v5]) (st1 := [jI (-1), jI v3]) rfl ?_
                  exact k_Term_sameParts_j101 hg2 rfl hv0 hM hQ hW8 h
                · refine L_ps c67 (n := 1) (pc1 := 91) (ls1 := [jR v0, g1, g2, jI v3, jI v4, jI v5]) (st1 := [jR v0, jI v3]) rfl ?_
                  refine L_getP (d := 1) (c67 91 rfl) hM hv0 rfl ?_
                  refine L_ps c67 (n := 1) (pc1 := 96) (ls1 := [jR v0, g1, g2, jI v3, jI v4, jI v5]) (st1 := [jI v5, jR (v0 + 1), jI v3]) rfl ?_
                  obtain ⟨hb, h⟩ := h
                  refine L_iald (c67 96 rfl) hM (rp_8_1 hv0) rfl hb ?_
                  refine L_ps c67 (n := 4) (pc1 := 101) (ls1 := [jR v0, g1, g2, jI v3, jI v4, jI v5]) (st1 := [jI (wr ((jand (μ (v0 + 1) v5.toNat) 3) - 1)), jI v3]) rfl ?_
                  exact k_Term_sameParts_j101 hg2 rfl hv0 hM hQ hW8 h
              · refine L_ps c67 (n := 1) (pc1 := 74) (ls1 := [jR v0, g1, g2, jI v3, jI v4, jI v5]) (st1 := [jI 0]) rfl ?_
                exact L_retB (c67 74 rfl) (Or.inl rfl) (hQ false _ hM h)
            · refine L_ps c67 (n := 1) (pc1 := 74) (ls1 := [jR v0, g1, g2, jI v3, jI v4, jI v5]) (st1 := [jI 0]) rfl ?_
              exact L_retB (c67 74 rfl) (Or.inl rfl) (hQ false _ hM h)
          · refine L_ps c67 (n := 1) (pc1 := 74) (ls1 := [jR v0, g1, g2, jI v3, jI v4, jI v5]) (st1 := [jI 0]) rfl ?_
            exact L_retB (c67 74 rfl) (Or.inl rfl) (hQ false _ hM h)
      · refine L_ps c67 (n := 1) (pc1 := 119) (ls1 := [jR v0, g1, g2, jI v3, jI v4, jI v5]) (st1 := [jI 0]) rfl ?_
        exact L_retB (c67 119 rfl) (Or.inl rfl) (hQ false _ hM h)
    · refine L_ps c67 (n := 1) (pc1 := 119) (ls1 := [jR v0, g1, g2, jI v3, jI v4, jI v5]) (st1 := [jI 0]) rfl ?_
      exact L_retB (c67 119 rfl) (Or.inl rfl) (hQ false _ hM h)
theorem k_Term_sameParts_l8 {E : JE2} {v0 : Nat} {v3 : Int} {v4 : Int} {v5 : Int} {μ : Mem} {M : JM} {P : JO → JM → Prop} {g1 : JV} {g2 : JV} {Q : Bool → Prop} (hg2 : jc2 g2 = false) (hv0 : rt v0 = 8) (hM : Rl E M μ) (hQ : ∀ (r : Bool) (M1 : JM), Rl E M1 μ → Q r → P (.inl (some (.inl (b2i r)))) M1) (h : d_Term_sameParts_l8 v0 v3 v4 v5 μ Q) : JX 67 8 [jR v0, g1, g2, jI v3, jI v4, jI v5] [] M P := by
  refine h (fun v3 v4 v5 => ∀ (g1 : JV) (g2 : JV) (M : JM), jc2 g2 = false → Rl E M μ → JX 67 8 [jR v0, g1, g2, jI v3, jI v4, jI v5] [] M P) ?_ _ _ _ hg2 hM
  intro v3 v4 v5 h g1 g2 M hg2 hM
  exact k_Term_sameParts_b8 hg2 hv0 hM hQ (fun v3 v4 v5 g1 g2 M hg2 hM h => h g1 g2 M hg2 hM) h
theorem k_Term_sameParts {E : JE2} {v0 : Nat} {v1 : Int} {v2 : Int} {μ : Mem} {M : JM} {Q : Bool → Prop} (hv0 : rt v0 = 8) (hM : Rl E M μ) (h : d_Term_sameParts v0 v1 v2 μ Q) : JX 67 0 (jargs 67 [jR v0, jI v1, jI v2]) [] M (PO E (pQB μ Q) XN) := by
  unfold d_Term_sameParts at h
  show JX 67 0 [jR v0, jI v1, jI v2, jU, jU, jU] [] M (PO E (pQB μ Q) XN)
  generalize hP : PO E (pQB μ Q) XN = P
  have hQ : ∀ (r : Bool) (M1 : JM), Rl E M1 μ → Q r → P (.inl (some (.inl (b2i r)))) M1 := by rw [← hP]; exact fun r M1 a b => ⟨μ, a, rfl, r, rfl, b⟩
  clear hP
  refine L_ps c67 (n := 6) (pc1 := 8) (ls1 := [jR v0, jI v1, jI v2, jI 1, jI v2, jI v1]) (st1 := []) rfl ?_
  exact k_Term_sameParts_l8 rfl hv0 hM hQ h
theorem k_Term_end_j49 {E : JE2} {v0 : Nat} {v3 : Int} {t0 : Int} {t1 : Int} {μ : Mem} {M : JM} {P : JO → JM → Prop} {g1 : JV} {g2 : JV} {g4 : JV} {W4 : Int → Int → Prop} {Q : Int → Prop} (hg1 : jc2 g1 = false) (hg2 : jc2 g2 = false) (hv0 : rt v0 = 8) (hM : Rl E M μ) (hQ : ∀ (r : Int) (M1 : JM), Rl E M1 μ → Q r → P (.inl (some (.inl r))) M1) (hW4 : ∀ (v2 : Int) (v3 : Int) (g1 : JV) (g4 : JV) (M1 : JM), jc2 g1 = false → Rl E M1 μ → W4 v2 v3 → JX 68 4 [jR v0, g1, jI v2, jI v3, g4] [] M1 P) (h : d_Term_end_j49 v0 v3 t0 t1 μ W4 Q) : JX 68 49 [jR v0, g1, g2, jI v3, g4] [jI t1, jI t0] M P := by
  unfold d_Term_end_j49 at h
  refine L_ps c68 (n := 1) (pc1 := 50) (ls1 := [jR v0, g1, g2, jI v3, g4]) (st1 := [jI (wr (t0 + t1))]) rfl ?_
  refine L_istn (c68 50 rfl) (hg1) (Nat.le_of_ble_eq_true rfl) ?_
  show JX 68 51 [jR v0, g1, jI (wr (t0 + t1)), jI v3, g4] [] M P
  refine L_ps c68 (n := 1) (pc1 := 52) (ls1 := [jR v0, g1, jI (wr (t0 + t1)), jI v3, g4]) (st1 := [jI (wr (t0 + t1))]) rfl ?_
  refine L_nb (p1 := 59) (p2 := 55) (c68 52 rfl) rfl jc_ne h (fun h => ?_) (fun h => ?_)
  · refine L_ps c68 (n := 3) (pc1 := 58) (ls1 := [jR v0, g1, jI (wr (t0 + t1)), jI v3, g4]) (st1 := [jI (wr (v3 + 1))]) rfl ?_
    exact L_retI (c68 58 rfl) (hQ _ _ hM h)
  · refine L_ps c68 (n := 2) (pc1 := 4) (ls1 := [jR v0, g1, jI (wr (t0 + t1)), jI (wr (v3 + 1)), g4]) (st1 := []) rfl ?_
    exact hW4 _ _ _ _ _ hg1 hM h
theorem k_Term_end_b4 {E : JE2} {v0 : Nat} {v2 : Int} {v3 : Int} {μ : Mem} {M : JM} {P : JO → JM → Prop} {g1 : JV} {g4 : JV} {W4 : Int → Int → Prop} {Q : Int → Prop} (hg1 : jc2 g1 = false) (hv0 : rt v0 = 8) (hM : Rl E M μ) (hQ : ∀ (r : Int) (M1 : JM), Rl E M1 μ → Q r → P (.inl (some (.inl r))) M1) (hW4 : ∀ (v2 : Int) (v3 : Int) (g1 : JV) (g4 : JV) (M1 : JM), jc2 g1 = false → Rl E M1 μ → W4 v2 v3 → JX 68 4 [jR v0, g1, jI v2, jI v3, g4] [] M1 P) (h : d_Term_end_b4 v0 v2 v3 μ W4 Q) : JX 68 4 [jR v0, g1, jI v2, jI v3, g4] [] M P := by
  unfold d_Term_end_b4 at h
  refine L_ps c68 (n := 1) (pc1 := 5) (ls1 := [jR v0, g1, jI v2, jI v3, g4]) (st1 := [jI v3]) rfl ?_
  refine L_br (p1 := 65) (p2 := 8) (c68 5 rfl) rfl jc_lt h (fun h => ?_) (fun h => ?_)
  · refine L_ps c68 (n := 1) (pc1 := 66) (ls1 := [jR v0, g1, jI v2, jI v3, g4]) (st1 := [jR v0]) rfl ?_
    refine L_getI (c68 66 rfl) hM hv0 rfl ?_
    exact L_retI (c68 69 rfl) (hQ _ _ hM h)
  · refine L_ps c68 (n := 2) (pc1 := 10) (ls1 := [jR v0, g1, jI v2, jI v3, g4]) (st1 := [jR v0, jI v3]) rfl ?_
    refine L_getI (c68 10 rfl) hM hv0 rfl ?_
    refine L_nb (p1 := 65) (p2 := 16) (c68 13 rfl) rfl jc_ge h (fun h => ?_) (fun h => ?_)
    · refine L_ps c68 (n := 2) (pc1 := 18) (ls1 := [jR v0, g1, jI v2, jI v3, g4]) (st1 := [jR v0, jI v3]) rfl ?_
      refine L_getP (d := 1) (c68 18 rfl) hM hv0 rfl ?_
      refine L_alen (n := ln (v0 + 1)) (z := (ln (v0 + 1) : Int)) (c68 21 rfl) hM (rp_8_1 hv0) (by decide) rfl (ln_small _) rfl ?_
      refine L_nb (p1 := 65) (p2 := 25) (c68 22 rfl) rfl jc_ge h (fun h => ?_) (fun h => ?_)
      · refine L_ps c68 (n := 1) (pc1 := 26) (ls1 := [jR v0, g1, jI v2, jI v3, g4]) (st1 := [jR v0]) rfl ?_
        refine L_getP (d := 1) (c68 26 rfl) hM hv0 rfl ?_
        refine L_ps c68 (n := 1) (pc1 := 30) (ls1 := [jR v0, g1, jI v2, jI v3, g4]) (st1 := [jI v3, jR (v0 + 1)]) rfl ?_
        obtain ⟨hb, h⟩ := h
        refine L_iald (c68 30 rfl) hM (rp_8_1 hv0) rfl hb ?_
        refine L_ps c68 (n := 3) (pc1 := 36) (ls1 := [jR v0, g1, jI v2, jI v3, jI (μ (v0 + 1) v3.toNat)]) (st1 := [jI (μ (v0 + 1) v3.toNat), jI v2]) rfl ?_
        refine L_nb (p1 := 43) (p2 := 39) (c68 36 rfl) rfl jc_ge h (fun h => ?_) (fun h => ?_)
        · refine L_ps c68 (n := 2) (pc1 := 49) (ls1 := [jR v0, g1, jI v2, jI v3, jI (μ (v0 + 1) v3.toNat)]) (st1 := [jI (-1), jI v2]) rfl ?_
          exact k_Term_end_j49 hg1 rfl hv0 hM hQ hW4 h
        · refine L_ps c68 (n := 5) (pc1 := 49) (ls1 := [jR v0, g1, jI v2, jI v3, jI (μ (v0 + 1) v3.toNat)]) (st1 := [jI (wr ((jand (μ (v0 + 1) v3.toNat) 3) - 1)), jI v2]) rfl ?_
          exact k_Term_end_j49 hg1 rfl hv0 hM hQ hW4 h
      · refine L_ps c68 (n := 1) (pc1 := 66) (ls1 := [jR v0, g1, jI v2, jI v3, g4]) (st1 := [jR v0]) rfl ?_
        refine L_getI (c68 66 rfl) hM hv0 rfl ?_
        exact L_retI (c68 69 rfl) (hQ _ _ hM h)
    · refine L_ps c68 (n := 1) (pc1 := 66) (ls1 := [jR v0, g1, jI v2, jI v3, g4]) (st1 := [jR v0]) rfl ?_
      refine L_getI (c68 66 rfl) hM hv0 rfl ?_
      exact L_retI (c68 69 rfl) (hQ _ _ hM h)
theorem k_Term_end_l4 {E : JE2} {v0 : Nat} {v2 : Int} {v3 : Int} {μ : Mem} {M : JM} {P : JO → JM → Prop} {g1 : JV} {g4 : JV} {Q : Int → Prop} (hg1 : jc2 g1 = false) (hv0 : rt v0 = 8) (hM : Rl E M μ) (hQ : ∀ (r : Int) (M1 : JM), Rl E M1 μ → Q r → P (.inl (some (.inl r))) M1) (h : d_Term_end_l4 v0 v2 v3 μ Q) : JX 68 4 [jR v0, g1, jI v2, jI v3, g4] [] M P := by
  refine h (fun v2 v3 => ∀ (g1 : JV) (g4 : JV) (M : JM), jc2 g1 = false → Rl E M μ → JX 68 4 [jR v0, g1, jI v2, jI v3, g4] [] M P) ?_ _ _ _ hg1 hM
  intro v2 v3 h g1 g4 M hg1 hM
  exact k_Term_end_b4 hg1 hv0 hM hQ (fun v2 v3 g1 g4 M hg1 hM h => h g1 g4 M hg1 hM) h
theorem k_Term_end {E : JE2} {v0 : Nat} {v1 : Int} {μ : Mem} {M : JM} {Q : Int → Prop} (hv0 : rt v0 = 8) (hM : Rl E M μ) (h : d_Term_end v0 v1 μ Q) : JX 68 0 (jargs 68 [jR v0, jI v1]) [] M (PO E (pQI μ Q) XN) := by
  unfold d_Term_end at h
  show JX 68 0 [jR v0, jI v1, jU, jU, jU] [] M (PO E (pQI μ Q) XN)
  generalize hP : PO E (pQI μ Q) XN = P
  have hQ : ∀ (r : Int) (M1 : JM), Rl E M1 μ → Q r → P (.inl (some (.inl r))) M1 := by rw [← hP]; exact fun r M1 a b => ⟨μ, a, rfl, r, rfl, b⟩
  clear hP
  refine L_ps c68 (n := 4) (pc1 := 4) (ls1 := [jR v0, jI v1, jI 1, jI v1, jU]) (st1 := []) rfl ?_
  exact k_Term_end_l4 rfl hv0 hM hQ h
theorem k_Rewriter_match_j135 {E : JE2} {v0 : Nat} {v2 : Nat} {v4 : Nat} {v5 : Int} {v6 : Int} {μ : Mem} {M : JM} {P : JO → JM → Prop} {g1 : JV} {g3 : JV} {g7 : JV} {g8 : JV} {W20 : Int → Int → Mem → Prop} {Q : Bool → Mem → Prop} (hg3 : jc2 g3 = false) (hg7 : jc2 g7 = false) (hv0 : rt v0 = 4) (hv2 : rt v2 = 8) (hv4 : rt v4 = 8) (hM : Rl E M μ) (hQ : ∀ (r : Bool) (M1 : JM) (μ1 : Mem), Rl E M1 μ1 → Q r μ1 → P (.inl (some (.inl (b2i r)))) M1) (hW20 : ∀ (v5 : Int) (v6 : Int) (g1 : JV) (g3 : JV) (g7 : JV) (g8 : JV) (M1 : JM) (μ1 : Mem), jc2 g3 = false → jc2 g7 = false → Rl E M1 μ1 → W20 v5 v6 μ1 → JX 65 20 [jR v0, g1, jR v2, g3, jR v4, jI v5, jI v6, g7, g8] [] M1 P) (h : d_Rewriter_match_j135 v0 v2 v4 v5 v6 μ W20 Q) : JX 65 135 [jR v0, g1, jR v2, g3, jR v4, jI v5, jI v6, g7, g8] [] M P := by
  unfold d_Rewriter_match_j135 at h
  refine L_ps c65 (n := 2) (pc1 := 20) (ls1 := [jR v0, g1, jR v2, g3, jR v4, jI v5, jI (wr (v6 + 1)), g7, g8]) (st1 := []) rfl ?_
  exact hW20 _ _ _ _ _ _ _ _ hg3 hg7 hM h
theorem k_Rewriter_match_j127 {E : JE2} {v0 : Nat} {v2 : Nat} {v4 : Nat} {v5 : Int} {v6 : Int} {μ : Mem} {M : JM} {P : JO → JM → Prop} {g1 : JV} {g3 : JV} {g7 : JV} {g8 : JV} {W20 : Int → Int → Mem → Prop} {Q : Bool → Mem → Prop} (hg3 : jc2 g3 = false) (hg7 : jc2 g7 = false) (hv0 : rt v0 = 4) (hv2 : rt v2 = 8) (hv4 : rt v4 = 8) (hM : Rl E M μ) (hQ : ∀ (r : Bool) (M1 : JM) (μ1 : Mem), Rl E M1 μ1 → Q r μ1 → P (.inl (some (.inl (b2i r)))) M1) (hW20 : ∀ (v5 : Int) (v6 : Int) (g1 : JV) (g3 : JV) (g7 : JV) (g8 : JV) (M1 : JM) (μ1 : Mem), jc2 g3 = false → jc2 g7 = false → Rl E M1 μ1 → W20 v5 v6 μ1 → JX 65 20 [jR v0, g1, jR v2, g3, jR v4, jI v5, jI v6, g7, g8] [] M1 P) (h : d_Rewriter_match_j127 v0 v2 v4 v5 v6 μ W20 Q) : JX 65 127 [jR v0, g1, jR v2, g3, jR v4, jI v5, jI v6, g7, g8] [] M P := by
  unfold d_Rewriter_match_j127 at h
  refine L_ps c65 (n := 2) (pc1 := 130) (ls1 := [jR v0, g1, jR v2, g3, jR v4, jI v5, jI v6, g7, g8]) (st1 := [jI v5, jR v2]) rfl ?_
  refine L_cpI (c65 130 rfl) (js_v rfl ((Rl_tag hM hv2 (by decide)).trans js68)) hh65 (k_Term_end hv2 hM h) (fun r5 M hM h => ?_) (fun _ _ _ _ f => f.elim)
  refine L_ps c65 (n := 1) (pc1 := 135) (ls1 := [jR v0, g1, jR v2, g3, jR v4, jI r5, jI v6, g7, g8]) (st1 := []) rfl ?_
  exact k_Rewriter_match_j135 hg3 hg7 hv0 hv2 hv4 hM hQ hW20 h
theorem k_Rewriter_match_b20 {E : JE2} {v0 : Nat} {v2 : Nat} {v4 : Nat} {v5 : Int} {v6 : Int} {μ : Mem} {M : JM} {P : JO → JM → Prop} {g1 : JV} {g3 : JV} {g7 : JV} {g8 : JV} {W20 : Int → Int → Mem → Prop} {Q : Bool → Mem → Prop} (hg3 : jc2 g3 = false) (hg7 : jc2 g7 = false) (hv0 : rt v0 = 4) (hv2 : rt v2 = 8) (hv4 : rt v4 = 8) (hM : Rl E M μ) (hQ : ∀ (r : Bool) (M1 : JM) (μ1 : Mem), Rl E M1 μ1 → Q r μ1 → P (.inl (some (.inl (b2i r)))) M1) (hW20 : ∀ (v5 : Int) (v6 : Int) (g1 : JV) (g3 : JV) (g7 : JV) (g8 : JV) (M1 : JM) (μ1 : Mem), jc2 g3 = false → jc2 g7 = false → Rl E M1 μ1 → W20 v5 v6 μ1 → JX 65 20 [jR v0, g1, jR v2, g3, jR v4, jI v5, jI v6, g7, g8] [] M1 P) (h : d_Rewriter_match_b20 v0 v2 v4 v5 v6 μ W20 Q) : JX 65 20 [jR v0, g1, jR v2, g3, jR v4, jI v5, jI v6, g7, g8] [] M P := by
  unfold d_Rewriter_match_b20 at h
  refine L_ps c65 (n := 2) (pc1 := 24) (ls1 := [jR v0, g1, jR v2, g3, jR v4, jI v5, jI v6, g7, g8]) (st1 := [jR v4, jI v6]) rfl ?_
  refine L_getI (c65 24 rfl) hM hv4 rfl ?_
  refine L_nb (p1 := 141) (p2 := 30) (c65 27 rfl) rfl jc_ge h (fun h => ?_) (fun h => ?_)
  · refine L_ps c65 (n := 2) (pc1 := 34) (ls1 := [jR v0, g1, jR v2, g3, jR v4, jI v5, jI v6, g7, g8]) (st1 := [jI v6, jR v4]) rfl ?_
    refine L_cpI (c65 34 rfl) (js_v rfl ((Rl_tag hM hv4 (by decide)).trans js46)) hh65 (k_Term_get hv4 hM h) (fun r3 M hM h => ?_) (fun _ _ _ _ f => f.elim)
    refine L_ps c65 (n := 2) (pc1 := 41) (ls1 := [jR v0, g1, jR v2, g3, jR v4, jI v5, jI v6, jI r3, g8]) (st1 := [jI r3]) rfl ?_
    refine L_br (p1 := 63) (p2 := 44) (c65 41 rfl) rfl jc_lt h (fun h => ?_) (fun h => ?_)
    · refine L_ps c65 (n := 5) (pc1 := 71) (ls1 := [jR v0, g1, jR v2, g3, jR v4, jI v5, jI v6, jI r3, jI (wr ((-1) - r3))]) (st1 := [jI (wr ((-1) - r3))]) rfl ?_
      refine L_br (p1 := 84) (p2 := 74) (c65 71 rfl) rfl jc_lt h (fun h => ?_) (fun h => ?_)
      · refine L_ps c65 (n := 1) (pc1 := 85) (ls1 := [jR v0, g1, jR v2, g3, jR v4, jI v5, jI v6, jI r3, jI (wr ((-1) - r3))]) (st1 := [jI 0]) rfl ?_
        exact L_retB (c65 85 rfl) (Or.inl rfl) (hQ false _ _ hM h)
      · refine L_ps c65 (n := 2) (pc1 := 77) (ls1 := [jR v0, g1, jR v2, g3, jR v4, jI v5, jI v6, jI r3, jI (wr ((-1) - r3))]) (st1 := [jR v0, jI (wr ((-1) - r3))]) rfl ?_
        refine L_getP (d := 7) (c65 77 rfl) hM hv0 rfl ?_
        refine L_alen (n := 8) (z := 8) (c65 80 rfl) hM (rp_4_7 hv0) (by decide) (lp_4_7 hv0) (by decide) rfl ?_
        refine L_br (p1 := 86) (p2 := 84) (c65 81 rfl) rfl jc_lt h (fun h => ?_) (fun h => ?_)
        · refine L_ps c65 (n := 1) (pc1 := 87) (ls1 := [jR v0, g1, jR v2, g3, jR v4, jI v5, jI v6, jI r3, jI (wr ((-1) - r3))]) (st1 := [jR v0]) rfl ?_
          refine L_getP (d := 7) (c65 87 rfl) hM hv0 rfl ?_
          refine L_ps c65 (n := 1) (pc1 := 92) (ls1 := [jR v0, g1, jR v2, g3, jR v4, jI v5, jI v6, jI r3, jI (wr ((-1) - r3))]) (st1 := [jI (wr ((-1) - r3)), jR (v0 + 7)]) rfl ?_
          obtain ⟨hb, h⟩ := h
          refine L_iald (c65 92 rfl) hM (rp_4_7 hv0) (lp_4_7 hv0) hb ?_
          refine L_ps c65 (n := 1) (pc1 := 94) (ls1 := [jR v0, g1, jR v2, g3, jR v4, jI v5, jI v6, jI r3, jI (wr ((-1) - r3))]) (st1 := [jI (-1), jI (μ (v0 + 7) (wr ((-1) - r3)).toNat)]) rfl ?_
          refine L_nb (p1 := 109) (p2 := 97) (c65 94 rfl) rfl jc_ne h (fun h => ?_) (fun h => ?_)
          · refine L_ps c65 (n := 1) (pc1 := 98) (ls1 := [jR v0, g1, jR v2, g3, jR v4, jI v5, jI v6, jI r3, jI (wr ((-1) - r3))]) (st1 := [jR v0]) rfl ?_
            refine L_getP (d := 7) (c65 98 rfl) hM hv0 rfl ?_
            refine L_ps c65 (n := 2) (pc1 := 105) (ls1 := [jR v0, g1, jR v2, g3, jR v4, jI v5, jI v6, jI r3, jI (wr ((-1) - r3))]) (st1 := [jI v5, jI (wr ((-1) - r3)), jR (v0 + 7)]) rfl ?_
            obtain ⟨hb, h⟩ := h
            refine L_iast (c65 105 rfl) hM (rp_4_7 hv0) (lp_4_7 hv0) hb (fun M hM => ?_)
            refine L_ps c65 (n := 1) (pc1 := 127) (ls1 := [jR v0, g1, jR v2, g3, jR v4, jI v5, jI v6, jI r3, jI (wr ((-1) - r3))]) (st1 := []) rfl ?_
            exact k_Rewriter_match_j127 hg3 rfl hv0 hv2 hv4 hM hQ hW20 h
          · refine L_ps c65 (n := 2) (pc1 := 111) (ls1 := [jR v0, g1, jR v2, g3, jR v4, jI v5, jI v6, jI r3, jI (wr ((-1) - r3))]) (st1 := [jR v0, jR v2]) rfl ?_
            refine L_getP (d := 7) (c65 111 rfl) hM hv0 rfl ?_
            refine L_ps c65 (n := 1) (pc1 := 116) (ls1 := [jR v0, g1, jR v2, g3, jR v4, jI v5, jI v6, jI r3, jI (wr ((-1) - r3))]) (st1 := [jI (wr ((-1) - r3)), jR (v0 + 7), jR v2]) rfl ?_
            obtain ⟨hb, h⟩ := h
            refine L_iald (c65 116 rfl) hM (rp_4_7 hv0) (lp_4_7 hv0) hb ?_
            refine L_ps c65 (n := 1) (pc1 := 119) (ls1 := [jR v0, g1, jR v2, g3, jR v4, jI v5, jI v6, jI r3, jI (wr ((-1) - r3))]) (st1 := [jI v5, jI (μ (v0 + 7) (wr ((-1) - r3)).toNat), jR v2]) rfl ?_
            refine L_cpB (c65 119 rfl) (js_v rfl ((Rl_tag hM hv2 (by decide)).trans js67)) hh65 (k_Term_sameParts hv2 hM h) (fun r7 M hM h => ?_) (fun _ _ _ _ f => f.elim)
            refine L_br (p1 := 127) (p2 := 125) (c65 122 rfl) rfl jc_neb h (fun h => ?_) (fun h => ?_)
            · exact k_Rewriter_match_j127 hg3 rfl hv0 hv2 hv4 hM hQ hW20 h
            · refine L_ps c65 (n := 1) (pc1 := 126) (ls1 := [jR v0, g1, jR v2, g3, jR v4, jI v5, jI v6, jI r3, jI (wr ((-1) - r3))]) (st1 := [jI 0]) rfl ?_
              exact L_retB (c65 126 rfl) (Or.inl rfl) (hQ false _ _ hM h)
        · refine L_ps c65 (n := 1) (pc1 := 85) (ls1 := [jR v0, g1, jR v2, g3, jR v4, jI v5, jI v6, jI r3, jI (wr ((-1) - r3))]) (st1 := [jI 0]) rfl ?_
          exact L_retB (c65 85 rfl) (Or.inl rfl) (hQ false _ _ hM h)
    · refine L_ps c65 (n := 2) (pc1 := 47) (ls1 := [jR v0, g1, jR v2, g3, jR v4, jI v5, jI v6, jI r3, g8]) (st1 := [jI v5, jR v2]) rfl ?_
      refine L_cpI (c65 47 rfl) (js_v rfl ((Rl_tag hM hv2 (by decide)).trans js46)) hh65 (k_Term_get hv2 hM h) (fun r9 M hM h => ?_) (fun _ _ _ _ f => f.elim)
      refine L_ps c65 (n := 1) (pc1 := 52) (ls1 := [jR v0, g1, jR v2, g3, jR v4, jI v5, jI v6, jI r3, g8]) (st1 := [jI r3, jI r9]) rfl ?_
      refine L_br (p1 := 57) (p2 := 55) (c65 52 rfl) rfl jc_eq h (fun h => ?_) (fun h => ?_)
      · refine L_ps c65 (n := 2) (pc1 := 135) (ls1 := [jR v0, g1, jR v2, g3, jR v4, jI (wr (v5 + 1)), jI v6, jI r3, g8]) (st1 := []) rfl ?_
        exact k_Rewriter_match_j135 hg3 rfl hv0 hv2 hv4 hM hQ hW20 h
      · refine L_ps c65 (n := 1) (pc1 := 56) (ls1 := [jR v0, g1, jR v2, g3, jR v4, jI v5, jI v6, jI r3, g8]) (st1 := [jI 0]) rfl ?_
        exact L_retB (c65 56 rfl) (Or.inl rfl) (hQ false _ _ hM h)
  · refine L_ps c65 (n := 1) (pc1 := 142) (ls1 := [jR v0, g1, jR v2, g3, jR v4, jI v5, jI v6, g7, g8]) (st1 := [jI 1]) rfl ?_
    exact L_retB (c65 142 rfl) (Or.inr rfl) (hQ true _ _ hM h)
theorem k_Rewriter_match_l20 {E : JE2} {v0 : Nat} {v2 : Nat} {v4 : Nat} {v5 : Int} {v6 : Int} {μ : Mem} {M : JM} {P : JO → JM → Prop} {g1 : JV} {g3 : JV} {g7 : JV} {g8 : JV} {Q : Bool → Mem → Prop} (hg3 : jc2 g3 = false) (hg7 : jc2 g7 = false) (hv0 : rt v0 = 4) (hv2 : rt v2 = 8) (hv4 : rt v4 = 8) (hM : Rl E M μ) (hQ : ∀ (r : Bool) (M1 : JM) (μ1 : Mem), Rl E M1 μ1 → Q r μ1 → P (.inl (some (.inl (b2i r)))) M1) (h : d_Rewriter_match_l20 v0 v2 v4 v5 v6 μ Q) : JX 65 20 [jR v0, g1, jR v2, g3, jR v4, jI v5, jI v6, g7, g8] [] M P := by
  refine h (fun v5 v6 μ => ∀ (g1 : JV) (g3 : JV) (g7 : JV) (g8 : JV) (M : JM), jc2 g3 = false → jc2 g7 = false → Rl E M μ → JX 65 20 [jR v0, g1, jR v2, g3, jR v4, jI v5, jI v6, g7, g8] [] M P) ?_ _ _ _ _ _ hg3 hg7 hM
  intro v5 v6 μ h g1 g3 g7 g8 M hg3 hg7 hM
  exact k_Rewriter_match_b20 hg3 hg7 hv0 hv2 hv4 hM hQ (fun v5 v6 g1 g3 g7 g8 M μ hg3 hg7 hM h => h g1 g3 g7 g8 M hg3 hg7 hM) h
theorem k_Rewriter_match {E : JE2} {v0 : Nat} {v1 : Nat} {v2 : Nat} {v3 : Int} {μ : Mem} {M : JM} {Q : Bool → Mem → Prop} (hv0 : rt v0 = 4) (hv1 : rt v1 = 5) (hv2 : rt v2 = 8) (hM : Rl E M μ) (h : d_Rewriter_match v0 v1 v2 v3 μ Q) : JX 65 0 (jargs 65 [jR v0, jR v1, jR v2, jI v3]) [] M (PO E (QB Q) XN) := by
  unfold d_Rewriter_match at h
  show JX 65 0 [jR v0, jR v1, jR v2, jI v3, jU, jU, jU, jU, jU] [] M (PO E (QB Q) XN)
  generalize hP : PO E (QB Q) XN = P
  have hQ : ∀ (r : Bool) (M1 : JM) (μ1 : Mem), Rl E M1 μ1 → Q r μ1 → P (.inl (some (.inl (b2i r)))) M1 := by rw [← hP]; exact fun r M1 μ1 a b => ⟨μ1, a, r, rfl, b⟩
  clear hP
  refine L_ps c65 (n := 1) (pc1 := 1) (ls1 := [jR v0, jR v1, jR v2, jI v3, jU, jU, jU, jU, jU]) (st1 := [jR v0]) rfl ?_
  refine L_getP (d := 7) (c65 1 rfl) hM hv0 rfl ?_
  refine L_ps c65 (n := 1) (pc1 := 5) (ls1 := [jR v0, jR v1, jR v2, jI v3, jU, jU, jU, jU, jU]) (st1 := [jI (-1), jR (v0 + 7)]) rfl ?_
  refine L_cV (c65 5 rfl) (js_t rfl) hh65 (k_Arrays_fill (rp_4_7 hv0) hM h) (fun M μ2 hM h => ?_) (fun _ _ _ _ f => f.elim)
  refine L_ps c65 (n := 1) (pc1 := 9) (ls1 := [jR v0, jR v1, jR v2, jI v3, jU, jU, jU, jU, jU]) (st1 := [jR v1]) rfl ?_
  refine L_getD (c65 9 rfl) hM hv1 (by decide) ?_
  refine L_ps c65 (n := 5) (pc1 := 20) (ls1 := [jR v0, jR v1, jR v2, jI v3, jR (dp (μ2 v1 0)), jI v3, jI 0, jU, jU]) (st1 := []) rfl ?_
  exact k_Rewriter_match_l20 rfl rfl hv0 hv2 (dp_rt _) hM hQ h
theorem k_Rewriter_firstRule_b3 {E : JE2} {v0 : Nat} {v1 : Nat} {v2 : Nat} {v3 : Int} {v4 : Int} {μ : Mem} {M : JM} {P : JO → JM → Prop} {W3 : Int → Mem → Prop} {Q : Int → Mem → Prop} (hv0 : rt v0 = 4) (hv1 : rt v1 = 7) (hv2 : rt v2 = 8) (hM : Rl E M μ) (hQ : ∀ (r : Int) (M1 : JM) (μ1 : Mem), Rl E M1 μ1 → Q r μ1 → P (.inl (some (.inl r))) M1) (hW3 : ∀ (v4 : Int) (M1 : JM) (μ1 : Mem), Rl E M1 μ1 → W3 v4 μ1 → JX 64 3 [jR v0, jR v1, jR v2, jI v3, jI v4] [] M1 P) (h : d_Rewriter_firstRule_b3 v0 v1 v2 v3 v4 μ W3 Q) : JX 64 3 [jR v0, jR v1, jR v2, jI v3, jI v4] [] M P := by
  unfold d_Rewriter_firstRule_b3 at h
  refine L_ps c64 (n := 2) (pc1 := 6) (ls1 := [jR v0, jR v1, jR v2, jI v3, jI v4]) (st1 := [jR v1, jI v4]) rfl ?_
  refine L_getI (c64 6 rfl) hM hv1 rfl ?_
  refine L_nb (p1 := 36) (p2 := 12) (c64 9 rfl) rfl jc_ge h (fun h => ?_) (fun h => ?_)
  · refine L_ps c64 (n := 3) (pc1 := 16) (ls1 := [jR v0, jR v1, jR v2, jI v3, jI v4]) (st1 := [jI v4, jR v1, jR v0]) rfl ?_
    refine L_cpR (c64 16 rfl) (js_v rfl ((Rl_tag hM hv1 (by decide)).trans js39)) hh64 (k_State_rule hv1 hM h) (fun r1 M hM hr1 h => ?_) (fun _ _ _ _ f => f.elim)
    refine L_ps c64 (n := 2) (pc1 := 21) (ls1 := [jR v0, jR v1, jR v2, jI v3, jI v4]) (st1 := [jI v3, jR v2, jR r1, jR v0]) rfl ?_
    refine L_cB (c64 21 rfl) (js_v rfl ((Rl_tag hM hv0 (by decide)).trans js65)) hh64 (k_Rewriter_match hv0 hr1 hv2 hM h) (fun r3 M μ4 hM h => ?_) (fun _ _ _ _ f => f.elim)
    refine L_nb (p1 := 30) (p2 := 27) (c64 24 rfl) rfl jc_eqb h (fun h => ?_) (fun h => ?_)
    · refine L_ps c64 (n := 1) (pc1 := 29) (ls1 := [jR v0, jR v1, jR v2, jI v3, jI v4]) (st1 := [jI v4]) rfl ?_
      exact L_retI (c64 29 rfl) (hQ _ _ _ hM h)
    · refine L_ps c64 (n := 2) (pc1 := 3) (ls1 := [jR v0, jR v1, jR v2, jI v3, jI (wr (v4 + 1))]) (st1 := []) rfl ?_
      exact hW3 _ _ _ hM h
  · refine L_ps c64 (n := 1) (pc1 := 37) (ls1 := [jR v0, jR v1, jR v2, jI v3, jI v4]) (st1 := [jI (-1)]) rfl ?_
    exact L_retI (c64 37 rfl) (hQ _ _ _ hM h)
theorem k_Rewriter_firstRule_l3 {E : JE2} {v0 : Nat} {v1 : Nat} {v2 : Nat} {v3 : Int} {v4 : Int} {μ : Mem} {M : JM} {P : JO → JM → Prop} {Q : Int → Mem → Prop} (hv0 : rt v0 = 4) (hv1 : rt v1 = 7) (hv2 : rt v2 = 8) (hM : Rl E M μ) (hQ : ∀ (r : Int) (M1 : JM) (μ1 : Mem), Rl E M1 μ1 → Q r μ1 → P (.inl (some (.inl r))) M1) (h : d_Rewriter_firstRule_l3 v0 v1 v2 v3 v4 μ Q) : JX 64 3 [jR v0, jR v1, jR v2, jI v3, jI v4] [] M P := by
  refine h (fun v4 μ => ∀ (M : JM), Rl E M μ → JX 64 3 [jR v0, jR v1, jR v2, jI v3, jI v4] [] M P) ?_ _ hM
  intro v4 μ h M hM
  exact k_Rewriter_firstRule_b3 hv0 hv1 hv2 hM hQ (fun v4 M μ hM h => h M hM) h
theorem k_Rewriter_firstRule {E : JE2} {v0 : Nat} {v1 : Nat} {v2 : Nat} {v3 : Int} {μ : Mem} {M : JM} {Q : Int → Mem → Prop} (hv0 : rt v0 = 4) (hv1 : rt v1 = 7) (hv2 : rt v2 = 8) (hM : Rl E M μ) (h : d_Rewriter_firstRule v0 v1 v2 v3 μ Q) : JX 64 0 (jargs 64 [jR v0, jR v1, jR v2, jI v3]) [] M (PO E (QI Q) XN) := by
  unfold d_Rewriter_firstRule at h
  show JX 64 0 [jR v0, jR v1, jR v2, jI v3, jU] [] M (PO E (QI Q) XN)
  generalize hP : PO E (QI Q) XN = P
  have hQ : ∀ (r : Int) (M1 : JM) (μ1 : Mem), Rl E M1 μ1 → Q r μ1 → P (.inl (some (.inl r))) M1 := by rw [← hP]; exact fun r M1 μ1 a b => ⟨μ1, a, r, rfl, b⟩
  clear hP
  refine L_ps c64 (n := 2) (pc1 := 3) (ls1 := [jR v0, jR v1, jR v2, jI v3, jI 0]) (st1 := []) rfl ?_
  exact k_Rewriter_firstRule_l3 hv0 hv1 hv2 hM hQ h
theorem k_Rewriter_redex_j59 {E : JE2} {v0 : Nat} {v1 : Nat} {v2 : Nat} {v3 : Int} {v4 : Int} {v5 : Int} {v6 : Int} {μ : Mem} {M : JM} {P : JO → JM → Prop} {W12 : Int → Int → Int → Mem → Prop} {Q : Int → Mem → Prop} (hv0 : rt v0 = 4) (hv1 : rt v1 = 7) (hv2 : rt v2 = 8) (hM : Rl E M μ) (hQ : ∀ (r : Int) (M1 : JM) (μ1 : Mem), Rl E M1 μ1 → Q r μ1 → P (.inl (some (.inl r))) M1) (hW12 : ∀ (v4 : Int) (v5 : Int) (v6 : Int) (M1 : JM) (μ1 : Mem), Rl E M1 μ1 → W12 v4 v5 v6 μ1 → JX 63 12 [jR v0, jR v1, jR v2, jI v3, jI v4, jI v5, jI v6] [] M1 P) (h : d_Rewriter_redex_j59 v0 v1 v2 v3 v4 v5 v6 μ W12 Q) : JX 63 59 [jR v0, jR v1, jR v2, jI v3, jI v4, jI v5, jI v6] [] M P := by
  unfold d_Rewriter_redex_j59 at h
  refine L_ps c63 (n := 2) (pc1 := 12) (ls1 := [jR v0, jR v1, jR v2, jI v3, jI v4, jI v5, jI (wr (v6 + 1))]) (st1 := []) rfl ?_
  exact hW12 _ _ _ _ _ hM h
theorem k_Rewriter_redex_b12 {E : JE2} {v0 : Nat} {v1 : Nat} {v2 : Nat} {v3 : Int} {v4 : Int} {v5 : Int} {v6 : Int} {μ : Mem} {M : JM} {P : JO → JM → Prop} {W12 : Int → Int → Int → Mem → Prop} {Q : Int → Mem → Prop} (hv0 : rt v0 = 4) (hv1 : rt v1 = 7) (hv2 : rt v2 = 8) (hM : Rl E M μ) (hQ : ∀ (r : Int) (M1 : JM) (μ1 : Mem), Rl E M1 μ1 → Q r μ1 → P (.inl (some (.inl r))) M1) (hW12 : ∀ (v4 : Int) (v5 : Int) (v6 : Int) (M1 : JM) (μ1 : Mem), Rl E M1 μ1 → W12 v4 v5 v6 μ1 → JX 63 12 [jR v0, jR v1, jR v2, jI v3, jI v4, jI v5, jI v6] [] M1 P) (h : d_Rewriter_redex_b12 v0 v1 v2 v3 v4 v5 v6 μ W12 Q) : JX 63 12 [jR v0, jR v1, jR v2, jI v3, jI v4, jI v5, jI v6] [] M P := by
  unfold d_Rewriter_redex_b12 at h
  refine L_ps c63 (n := 2) (pc1 := 15) (ls1 := [jR v0, jR v1, jR v2, jI v3, jI v4, jI v5, jI v6]) (st1 := [jR v2, jI v6]) rfl ?_
  refine L_getI (c63 15 rfl) hM hv2 rfl ?_
  refine L_nb (p1 := 65) (p2 := 21) (c63 18 rfl) rfl jc_ge h (fun h => ?_) (fun h => ?_)
  · refine L_ps c63 (n := 2) (pc1 := 25) (ls1 := [jR v0, jR v1, jR v2, jI v3, jI v4, jI v5, jI v6]) (st1 := [jI v5, jI v6]) rfl ?_
    refine L_nb (p1 := 65) (p2 := 28) (c63 25 rfl) rfl jc_ge h (fun h => ?_) (fun h => ?_)
    · refine L_ps c63 (n := 4) (pc1 := 33) (ls1 := [jR v0, jR v1, jR v2, jI v3, jI v4, jI v5, jI v6]) (st1 := [jI v6, jR v2, jR v1, jR v0]) rfl ?_
      refine L_cI (c63 33 rfl) (js_v rfl ((Rl_tag hM hv0 (by decide)).trans js64)) hh63 (k_Rewriter_firstRule hv0 hv1 hv2 hM h) (fun r1 M μ2 hM h => ?_) (fun _ _ _ _ f => f.elim)
      refine L_ps c63 (n := 1) (pc1 := 37) (ls1 := [jR v0, jR v1, jR v2, jI v3, jI v4, jI v5, jI v6]) (st1 := [jI (-1), jI r1]) rfl ?_
      refine L_br (p1 := 59) (p2 := 40) (c63 37 rfl) rfl jc_eq h (fun h => ?_) (fun h => ?_)
      · exact k_Rewriter_redex_j59 hv0 hv1 hv2 hM hQ hW12 h
      · refine L_ps c63 (n := 1) (pc1 := 41) (ls1 := [jR v0, jR v1, jR v2, jI v3, jI v4, jI v5, jI v6]) (st1 := [jI v3]) rfl ?_
        refine L_nb (p1 := 47) (p2 := 44) (c63 41 rfl) rfl jc_ne h (fun h => ?_) (fun h => ?_)
        · refine L_ps c63 (n := 1) (pc1 := 46) (ls1 := [jR v0, jR v1, jR v2, jI v3, jI v4, jI v5, jI v6]) (st1 := [jI v6]) rfl ?_
          exact L_retI (c63 46 rfl) (hQ _ _ _ hM h)
        · refine L_ps c63 (n := 4) (pc1 := 54) (ls1 := [jR v0, jR v1, jR v2, jI v3, jI v6, jI v5, jI v6]) (st1 := [jI v6, jR v2]) rfl ?_
          refine L_cpI (c63 54 rfl) (js_v rfl ((Rl_tag hM hv2 (by decide)).trans js68)) hh63 (k_Term_end hv2 hM h) (fun r3 M hM h => ?_) (fun _ _ _ _ f => f.elim)
          refine L_ps c63 (n := 1) (pc1 := 59) (ls1 := [jR v0, jR v1, jR v2, jI v3, jI v6, jI r3, jI v6]) (st1 := []) rfl ?_
          exact k_Rewriter_redex_j59 hv0 hv1 hv2 hM hQ hW12 h
    · refine L_ps c63 (n := 1) (pc1 := 67) (ls1 := [jR v0, jR v1, jR v2, jI v3, jI v4, jI v5, jI v6]) (st1 := [jI v4]) rfl ?_
      exact L_retI (c63 67 rfl) (hQ _ _ _ hM h)
  · refine L_ps c63 (n := 1) (pc1 := 67) (ls1 := [jR v0, jR v1, jR v2, jI v3, jI v4, jI v5, jI v6]) (st1 := [jI v4]) rfl ?_
    exact L_retI (c63 67 rfl) (hQ _ _ _ hM h)
theorem k_Rewriter_redex_l12 {E : JE2} {v0 : Nat} {v1 : Nat} {v2 : Nat} {v3 : Int} {v4 : Int} {v5 : Int} {v6 : Int} {μ : Mem} {M : JM} {P : JO → JM → Prop} {Q : Int → Mem → Prop} (hv0 : rt v0 = 4) (hv1 : rt v1 = 7) (hv2 : rt v2 = 8) (hM : Rl E M μ) (hQ : ∀ (r : Int) (M1 : JM) (μ1 : Mem), Rl E M1 μ1 → Q r μ1 → P (.inl (some (.inl r))) M1) (h : d_Rewriter_redex_l12 v0 v1 v2 v3 v4 v5 v6 μ Q) : JX 63 12 [jR v0, jR v1, jR v2, jI v3, jI v4, jI v5, jI v6] [] M P := by
  refine h (fun v4 v5 v6 μ => ∀ (M : JM), Rl E M μ → JX 63 12 [jR v0, jR v1, jR v2, jI v3, jI v4, jI v5, jI v6] [] M P) ?_ _ hM
  intro v4 v5 v6 μ h M hM
  exact k_Rewriter_redex_b12 hv0 hv1 hv2 hM hQ (fun v4 v5 v6 M μ hM h => h M hM) h
theorem k_Rewriter_redex {E : JE2} {v0 : Nat} {v1 : Nat} {v2 : Nat} {v3 : Int} {μ : Mem} {M : JM} {Q : Int → Mem → Prop} (hv0 : rt v0 = 4) (hv1 : rt v1 = 7) (hv2 : rt v2 = 8) (hM : Rl E M μ) (h : d_Rewriter_redex v0 v1 v2 v3 μ Q) : JX 63 0 (jargs 63 [jR v0, jR v1, jR v2, jI v3]) [] M (PO E (QI Q) XN) := by
  unfold d_Rewriter_redex at h
  show JX 63 0 [jR v0, jR v1, jR v2, jI v3, jU, jU, jU] [] M (PO E (QI Q) XN)
  generalize hP : PO E (QI Q) XN = P
  have hQ : ∀ (r : Int) (M1 : JM) (μ1 : Mem), Rl E M1 μ1 → Q r μ1 → P (.inl (some (.inl r))) M1 := by rw [← hP]; exact fun r M1 μ1 a b => ⟨μ1, a, r, rfl, b⟩
  clear hP
  refine L_ps c63 (n := 3) (pc1 := 4) (ls1 := [jR v0, jR v1, jR v2, jI v3, jI (-1), jU, jU]) (st1 := [jR v2]) rfl ?_
  refine L_getI (c63 4 rfl) hM hv2 rfl ?_
  refine L_ps c63 (n := 3) (pc1 := 12) (ls1 := [jR v0, jR v1, jR v2, jI v3, jI (-1), jI (μ v2 1), jI 0]) (st1 := []) rfl ?_
  exact k_Rewriter_redex_l12 hv0 hv1 hv2 hM hQ h
theorem k_Rewriter_build_j153 {E : JE2} {v0 : Nat} {v2 : Nat} {v3 : Int} {v4 : Int} {μ : Mem} {M : JM} {P : JO → JM → Prop} {g1 : JV} {g5 : JV} {g6 : JV} {g7 : JV} {g8 : JV} {Q : Bool → Mem → Prop} (hg5 : jc2 g5 = false) (hg6 : jc2 g6 = false) (hg7 : jc2 g7 = false) (hv0 : rt v0 = 4) (hv2 : rt v2 = 8) (hM : Rl E M μ) (hQ : ∀ (r : Bool) (M1 : JM) (μ1 : Mem), Rl E M1 μ1 → Q r μ1 → P (.inl (some (.inl (b2i r)))) M1) (h : d_Rewriter_build_j153 v0 v2 v3 v4 μ Q) : JX 70 153 [jR v0, g1, jR v2, jI v3, jI v4, g5, g6, g7, g8] [] M P := by
  unfold d_Rewriter_build_j153 at h
  refine L_ps c70 (n := 1) (pc1 := 155) (ls1 := [jR v0, g1, jR v2, jI v3, jI v4, g5, g6, g7, g8]) (st1 := [jI v4]) rfl ?_
  refine L_br (p1 := 182) (p2 := 158) (c70 155 rfl) rfl jc_eq h (fun h => ?_) (fun h => ?_)
  · refine L_ps c70 (n := 1) (pc1 := 183) (ls1 := [jR v0, g1, jR v2, jI v3, jI v4, g5, g6, g7, g8]) (st1 := [jI 0]) rfl ?_
    exact L_retB (c70 183 rfl) (Or.inl rfl) (hQ false _ _ hM h)
  · refine L_ps c70 (n := 1) (pc1 := 159) (ls1 := [jR v0, g1, jR v2, jI v3, jI v4, g5, g6, g7, g8]) (st1 := [jR v0]) rfl ?_
    refine L_getP (d := 1) (c70 159 rfl) hM hv0 rfl ?_
    refine L_ps c70 (n := 3) (pc1 := 165) (ls1 := [jR v0, g1, jR v2, jI v3, jI v4, g5, g6, g7, g8]) (st1 := [jI v3, jR v2, jR v2, jR (v0 + 1)]) rfl ?_
    refine L_cpI (c70 165 rfl) (js_v rfl ((Rl_tag hM hv2 (by decide)).trans js68)) hh70 (k_Term_end hv2 hM h) (fun r7 M hM h => ?_) (fun _ _ _ _ f => f.elim)
    refine L_ps c70 (n := 1) (pc1 := 169) (ls1 := [jR v0, g1, jR v2, jI v3, jI v4, g5, g6, g7, g8]) (st1 := [jR v2, jI r7, jR v2, jR (v0 + 1)]) rfl ?_
    refine L_getI (c70 169 rfl) hM hv2 rfl ?_
    refine L_cB (c70 172 rfl) (js_v rfl ((Rl_tag hM (rp_4_1 hv0) (by decide)).trans js57)) hh70 (k_Term_addPart (rp_4_1 hv0) hv2 hM h) (fun r9 M μ10 hM h => ?_) (fun _ _ _ _ f => f.elim)
    refine L_nb (p1 := 182) (p2 := 178) (c70 175 rfl) rfl jc_eqb h (fun h => ?_) (fun h => ?_)
    · refine L_ps c70 (n := 2) (pc1 := 183) (ls1 := [jR v0, g1, jR v2, jI v3, jI v4, g5, g6, g7, g8]) (st1 := [jI 1]) rfl ?_
      exact L_retB (c70 183 rfl) (Or.inr rfl) (hQ true _ _ hM h)
    · refine L_ps c70 (n := 1) (pc1 := 183) (ls1 := [jR v0, g1, jR v2, jI v3, jI v4, g5, g6, g7, g8]) (st1 := [jI 0]) rfl ?_
      exact L_retB (c70 183 rfl) (Or.inl rfl) (hQ false _ _ hM h)
theorem k_Rewriter_build_j147 {E : JE2} {v0 : Nat} {v1 : Nat} {v2 : Nat} {v3 : Int} {v4 : Int} {v5 : Int} {μ : Mem} {M : JM} {P : JO → JM → Prop} {g6 : JV} {g7 : JV} {g8 : JV} {W34 : Int → Int → Mem → Prop} {Q : Bool → Mem → Prop} (hg6 : jc2 g6 = false) (hg7 : jc2 g7 = false) (hv0 : rt v0 = 4) (hv1 : rt v1 = 5) (hv2 : rt v2 = 8) (hM : Rl E M μ) (hQ : ∀ (r : Bool) (M1 : JM) (μ1 : Mem), Rl E M1 μ1 → Q r μ1 → P (.inl (some (.inl (b2i r)))) M1) (hW34 : ∀ (v4 : Int) (v5 : Int) (g6 : JV) (g7 : JV) (g8 : JV) (M1 : JM) (μ1 : Mem), jc2 g6 = false → jc2 g7 = false → Rl E M1 μ1 → W34 v4 v5 μ1 → JX 70 34 [jR v0, jR v1, jR v2, jI v3, jI v4, jI v5, g6, g7, g8] [] M1 P) (h : d_Rewriter_build_j147 v0 v1 v2 v3 v4 v5 μ W34 Q) : JX 70 147 [jR v0, jR v1, jR v2, jI v3, jI v4, jI v5, g6, g7, g8] [] M P := by
  unfold d_Rewriter_build_j147 at h
  refine L_ps c70 (n := 2) (pc1 := 34) (ls1 := [jR v0, jR v1, jR v2, jI v3, jI v4, jI (wr (v5 + 1)), g6, g7, g8]) (st1 := []) rfl ?_
  exact hW34 _ _ _ _ _ _ _ hg6 hg7 hM h
theorem k_Rewriter_build_j145 {E : JE2} {v0 : Nat} {v1 : Nat} {v2 : Nat} {v3 : Int} {v5 : Int} {t0 : Int} {μ : Mem} {M : JM} {P : JO → JM → Prop} {g4 : JV} {g6 : JV} {g7 : JV} {g8 : JV} {W34 : Int → Int → Mem → Prop} {Q : Bool → Mem → Prop} (hg4 : jc2 g4 = false) (hg6 : jc2 g6 = false) (hg7 : jc2 g7 = false) (hv0 : rt v0 = 4) (hv1 : rt v1 = 5) (hv2 : rt v2 = 8) (hM : Rl E M μ) (hQ : ∀ (r : Bool) (M1 : JM) (μ1 : Mem), Rl E M1 μ1 → Q r μ1 → P (.inl (some (.inl (b2i r)))) M1) (hW34 : ∀ (v4 : Int) (v5 : Int) (g6 : JV) (g7 : JV) (g8 : JV) (M1 : JM) (μ1 : Mem), jc2 g6 = false → jc2 g7 = false → Rl E M1 μ1 → W34 v4 v5 μ1 → JX 70 34 [jR v0, jR v1, jR v2, jI v3, jI v4, jI v5, g6, g7, g8] [] M1 P) (h : d_Rewriter_build_j145 v0 v1 v2 v3 v5 t0 μ W34 Q) : JX 70 145 [jR v0, jR v1, jR v2, jI v3, g4, jI v5, g6, g7, g8] [jI t0] M P := by
  unfold d_Rewriter_build_j145 at h
  refine L_ps c70 (n := 1) (pc1 := 147) (ls1 := [jR v0, jR v1, jR v2, jI v3, jI t0, jI v5, g6, g7, g8]) (st1 := []) rfl ?_
  exact k_Rewriter_build_j147 hg6 hg7 hv0 hv1 hv2 hM hQ hW34 h
theorem k_Rewriter_build_j144 {E : JE2} {v0 : Nat} {v1 : Nat} {v2 : Nat} {v3 : Int} {v5 : Int} {μ : Mem} {M : JM} {P : JO → JM → Prop} {g4 : JV} {g6 : JV} {g7 : JV} {g8 : JV} {W34 : Int → Int → Mem → Prop} {Q : Bool → Mem → Prop} (hg4 : jc2 g4 = false) (hg6 : jc2 g6 = false) (hg7 : jc2 g7 = false) (hv0 : rt v0 = 4) (hv1 : rt v1 = 5) (hv2 : rt v2 = 8) (hM : Rl E M μ) (hQ : ∀ (r : Bool) (M1 : JM) (μ1 : Mem), Rl E M1 μ1 → Q r μ1 → P (.inl (some (.inl (b2i r)))) M1) (hW34 : ∀ (v4 : Int) (v5 : Int) (g6 : JV) (g7 : JV) (g8 : JV) (M1 : JM) (μ1 : Mem), jc2 g6 = false → jc2 g7 = false → Rl E M1 μ1 → W34 v4 v5 μ1 → JX 70 34 [jR v0, jR v1, jR v2, jI v3, jI v4, jI v5, g6, g7, g8] [] M1 P) (h : d_Rewriter_build_j144 v0 v1 v2 v3 v5 μ W34 Q) : JX 70 144 [jR v0, jR v1, jR v2, jI v3, g4, jI v5, g6, g7, g8] [] M P := by
  unfold d_Rewriter_build_j144 at h
  refine L_ps c70 (n := 1) (pc1 := 145) (ls1 := [jR v0, jR v1, jR v2, jI v3, g4, jI v5, g6, g7, g8]) (st1 := [jI 0]) rfl ?_
  exact k_Rewriter_build_j145 hg4 hg6 hg7 hv0 hv1 hv2 hM hQ hW34 h
theorem k_Rewriter_build_j113 {E : JE2} {v0 : Nat} {v1 : Nat} {v2 : Nat} {v3 : Int} {v5 : Int} {t0 : Int} {μ : Mem} {M : JM} {P : JO → JM → Prop} {g4 : JV} {g6 : JV} {g7 : JV} {g8 : JV} {W34 : Int → Int → Mem → Prop} {Q : Bool → Mem → Prop} (hg4 : jc2 g4 = false) (hg6 : jc2 g6 = false) (hg7 : jc2 g7 = false) (hv0 : rt v0 = 4) (hv1 : rt v1 = 5) (hv2 : rt v2 = 8) (hM : Rl E M μ) (hQ : ∀ (r : Bool) (M1 : JM) (μ1 : Mem), Rl E M1 μ1 → Q r μ1 → P (.inl (some (.inl (b2i r)))) M1) (hW34 : ∀ (v4 : Int) (v5 : Int) (g6 : JV) (g7 : JV) (g8 : JV) (M1 : JM) (μ1 : Mem), jc2 g6 = false → jc2 g7 = false → Rl E M1 μ1 → W34 v4 v5 μ1 → JX 70 34 [jR v0, jR v1, jR v2, jI v3, jI v4, jI v5, g6, g7, g8] [] M1 P) (h : d_Rewriter_build_j113 v0 v1 v2 v3 v5 t0 μ W34 Q) : JX 70 113 [jR v0, jR v1, jR v2, jI v3, g4, jI v5, g6, g7, g8] [jI t0] M P := by
  unfold d_Rewriter_build_j113 at h
  refine L_ist (c70 113 rfl) (hg7) (Nat.le_of_ble_eq_true rfl) ?_
  show JX 70 115 [jR v0, jR v1, jR v2, jI v3, g4, jI v5, g6, g7, jI t0] [] M P
  refine L_ps c70 (n := 2) (pc1 := 118) (ls1 := [jR v0, jR v1, jR v2, jI v3, g4, jI v5, g6, g7, jI t0]) (st1 := [jI (-1), jI t0]) rfl ?_
  refine L_br (p1 := 144) (p2 := 121) (c70 118 rfl) rfl jc_eq h (fun h => ?_) (fun h => ?_)
  · exact k_Rewriter_build_j144 hg4 hg6 hg7 hv0 hv1 hv2 hM hQ hW34 h
  · refine L_ps c70 (n := 1) (pc1 := 122) (ls1 := [jR v0, jR v1, jR v2, jI v3, g4, jI v5, g6, g7, jI t0]) (st1 := [jR v0]) rfl ?_
    refine L_getP (d := 1) (c70 122 rfl) hM hv0 rfl ?_
    refine L_ps c70 (n := 4) (pc1 := 131) (ls1 := [jR v0, jR v1, jR v2, jI v3, g4, jI v5, g6, g7, jI t0]) (st1 := [jI t0, jR v2, jI t0, jR v2, jR (v0 + 1)]) rfl ?_
    refine L_cpI (c70 131 rfl) (js_v rfl ((Rl_tag hM hv2 (by decide)).trans js68)) hh70 (k_Term_end hv2 hM h) (fun r13 M hM h => ?_) (fun _ _ _ _ f => f.elim)
    refine L_cB (c70 134 rfl) (js_v rfl ((Rl_tag hM (rp_4_1 hv0) (by decide)).trans js57)) hh70 (k_Term_addPart (rp_4_1 hv0) hv2 hM h) (fun r15 M μ16 hM h => ?_) (fun _ _ _ _ f => f.elim)
    refine L_nb (p1 := 144) (p2 := 140) (c70 137 rfl) rfl jc_eqb h (fun h => ?_) (fun h => ?_)
    · refine L_ps c70 (n := 2) (pc1 := 145) (ls1 := [jR v0, jR v1, jR v2, jI v3, g4, jI v5, g6, g7, jI t0]) (st1 := [jI 1]) rfl ?_
      exact k_Rewriter_build_j145 hg4 hg6 hg7 hv0 hv1 hv2 hM hQ hW34 h
    · exact k_Rewriter_build_j144 hg4 hg6 hg7 hv0 hv1 hv2 hM hQ hW34 h
theorem k_Rewriter_build_j112 {E : JE2} {v0 : Nat} {v1 : Nat} {v2 : Nat} {v3 : Int} {v5 : Int} {μ : Mem} {M : JM} {P : JO → JM → Prop} {g4 : JV} {g6 : JV} {g7 : JV} {g8 : JV} {W34 : Int → Int → Mem → Prop} {Q : Bool → Mem → Prop} (hg4 : jc2 g4 = false) (hg6 : jc2 g6 = false) (hg7 : jc2 g7 = false) (hv0 : rt v0 = 4) (hv1 : rt v1 = 5) (hv2 : rt v2 = 8) (hM : Rl E M μ) (hQ : ∀ (r : Bool) (M1 : JM) (μ1 : Mem), Rl E M1 μ1 → Q r μ1 → P (.inl (some (.inl (b2i r)))) M1) (hW34 : ∀ (v4 : Int) (v5 : Int) (g6 : JV) (g7 : JV) (g8 : JV) (M1 : JM) (μ1 : Mem), jc2 g6 = false → jc2 g7 = false → Rl E M1 μ1 → W34 v4 v5 μ1 → JX 70 34 [jR v0, jR v1, jR v2, jI v3, jI v4, jI v5, g6, g7, g8] [] M1 P) (h : d_Rewriter_build_j112 v0 v1 v2 v3 v5 μ W34 Q) : JX 70 112 [jR v0, jR v1, jR v2, jI v3, g4, jI v5, g6, g7, g8] [] M P := by
  unfold d_Rewriter_build_j112 at h
  refine L_ps c70 (n := 1) (pc1 := 113) (ls1 := [jR v0, jR v1, jR v2, jI v3, g4, jI v5, g6, g7, g8]) (st1 := [jI (-1)]) rfl ?_
  exact k_Rewriter_build_j113 hg4 hg6 hg7 hv0 hv1 hv2 hM hQ hW34 h
theorem k_Rewriter_build_b34 {E : JE2} {v0 : Nat} {v1 : Nat} {v2 : Nat} {v3 : Int} {v4 : Int} {v5 : Int} {μ : Mem} {M : JM} {P : JO → JM → Prop} {g6 : JV} {g7 : JV} {g8 : JV} {W34 : Int → Int → Mem → Prop} {Q : Bool → Mem → Prop} (hg6 : jc2 g6 = false) (hg7 : jc2 g7 = false) (hv0 : rt v0 = 4) (hv1 : rt v1 = 5) (hv2 : rt v2 = 8) (hM : Rl E M μ) (hQ : ∀ (r : Bool) (M1 : JM) (μ1 : Mem), Rl E M1 μ1 → Q r μ1 → P (.inl (some (.inl (b2i r)))) M1) (hW34 : ∀ (v4 : Int) (v5 : Int) (g6 : JV) (g7 : JV) (g8 : JV) (M1 : JM) (μ1 : Mem), jc2 g6 = false → jc2 g7 = false → Rl E M1 μ1 → W34 v4 v5 μ1 → JX 70 34 [jR v0, jR v1, jR v2, jI v3, jI v4, jI v5, g6, g7, g8] [] M1 P) (h : d_Rewriter_build_b34 v0 v1 v2 v3 v4 v5 μ W34 Q) : JX 70 34 [jR v0, jR v1, jR v2, jI v3, jI v4, jI v5, g6, g7, g8] [] M P := by
  unfold d_Rewriter_build_b34 at h
  refine L_ps c70 (n := 1) (pc1 := 36) (ls1 := [jR v0, jR v1, jR v2, jI v3, jI v4, jI v5, g6, g7, g8]) (st1 := [jI v4]) rfl ?_
  refine L_br (p1 := 153) (p2 := 39) (c70 36 rfl) rfl jc_eq h (fun h => ?_) (fun h => ?_)
  · exact k_Rewriter_build_j153 rfl hg6 hg7 hv0 hv2 hM hQ h
  · refine L_ps c70 (n := 2) (pc1 := 42) (ls1 := [jR v0, jR v1, jR v2, jI v3, jI v4, jI v5, g6, g7, g8]) (st1 := [jR v1, jI v5]) rfl ?_
    refine L_getD (c70 42 rfl) hM hv1 (by decide) ?_
    refine L_getI (c70 45 rfl) hM (dp_rt _) rfl ?_
    refine L_nb (p1 := 153) (p2 := 51) (c70 48 rfl) rfl jc_ge h (fun h => ?_) (fun h => ?_)
    · refine L_ps c70 (n := 1) (pc1 := 52) (ls1 := [jR v0, jR v1, jR v2, jI v3, jI v4, jI v5, g6, g7, g8]) (st1 := [jR v1]) rfl ?_
      refine L_getD (c70 52 rfl) hM hv1 (by decide) ?_
      refine L_ps c70 (n := 1) (pc1 := 57) (ls1 := [jR v0, jR v1, jR v2, jI v3, jI v4, jI v5, g6, g7, g8]) (st1 := [jI v5, jR (dp (μ v1 1))]) rfl ?_
      refine L_cpI (c70 57 rfl) (js_v rfl ((Rl_tag hM (dp_rt _) (by decide)).trans js46)) hh70 (k_Term_get (dp_rt _) hM h) (fun r11 M hM h => ?_) (fun _ _ _ _ f => f.elim)
      refine L_ps c70 (n := 2) (pc1 := 64) (ls1 := [jR v0, jR v1, jR v2, jI v3, jI v4, jI v5, jI r11, g7, g8]) (st1 := [jI r11]) rfl ?_
      refine L_br (p1 := 81) (p2 := 67) (c70 64 rfl) rfl jc_lt h (fun h => ?_) (fun h => ?_)
      · refine L_ps c70 (n := 5) (pc1 := 89) (ls1 := [jR v0, jR v1, jR v2, jI v3, jI v4, jI v5, jI r11, jI (wr ((-1) - r11)), g8]) (st1 := [jI (wr ((-1) - r11))]) rfl ?_
        refine L_br (p1 := 112) (p2 := 92) (c70 89 rfl) rfl jc_lt h (fun h => ?_) (fun h => ?_)
        · exact k_Rewriter_build_j112 rfl rfl rfl hv0 hv1 hv2 hM hQ hW34 h
        · refine L_ps c70 (n := 2) (pc1 := 95) (ls1 := [jR v0, jR v1, jR v2, jI v3, jI v4, jI v5, jI r11, jI (wr ((-1) - r11)), g8]) (st1 := [jR v0, jI (wr ((-1) - r11))]) rfl ?_
          refine L_getP (d := 7) (c70 95 rfl) hM hv0 rfl ?_
          refine L_alen (n := 8) (z := 8) (c70 98 rfl) hM (rp_4_7 hv0) (by decide) (lp_4_7 hv0) (by decide) rfl ?_
          refine L_nb (p1 := 112) (p2 := 102) (c70 99 rfl) rfl jc_ge h (fun h => ?_) (fun h => ?_)
          · refine L_ps c70 (n := 1) (pc1 := 103) (ls1 := [jR v0, jR v1, jR v2, jI v3, jI v4, jI v5, jI r11, jI (wr ((-1) - r11)), g8]) (st1 := [jR v0]) rfl ?_
            refine L_getP (d := 7) (c70 103 rfl) hM hv0 rfl ?_
            refine L_ps c70 (n := 1) (pc1 := 108) (ls1 := [jR v0, jR v1, jR v2, jI v3, jI v4, jI v5, jI r11, jI (wr ((-1) - r11)), g8]) (st1 := [jI (wr ((-1) - r11)), jR (v0 + 7)]) rfl ?_
            obtain ⟨hb, h⟩ := h
            refine L_iald (c70 108 rfl) hM (rp_4_7 hv0) (lp_4_7 hv0) hb ?_
            refine L_ps c70 (n := 1) (pc1 := 113) (ls1 := [jR v0, jR v1, jR v2, jI v3, jI v4, jI v5, jI r11, jI (wr ((-1) - r11)), g8]) (st1 := [jI (μ (v0 + 7) (wr ((-1) - r11)).toNat)]) rfl ?_
            exact k_Rewriter_build_j113 rfl rfl rfl hv0 hv1 hv2 hM hQ hW34 h
          · exact k_Rewriter_build_j112 rfl rfl rfl hv0 hv1 hv2 hM hQ hW34 h
      · refine L_ps c70 (n := 1) (pc1 := 68) (ls1 := [jR v0, jR v1, jR v2, jI v3, jI v4, jI v5, jI r11, g7, g8]) (st1 := [jR v0]) rfl ?_
        refine L_getP (d := 1) (c70 68 rfl) hM hv0 rfl ?_
        refine L_ps c70 (n := 1) (pc1 := 73) (ls1 := [jR v0, jR v1, jR v2, jI v3, jI v4, jI v5, jI r11, g7, g8]) (st1 := [jI r11, jR (v0 + 1)]) rfl ?_
        refine L_cB (c70 73 rfl) (js_v rfl ((Rl_tag hM (rp_4_1 hv0) (by decide)).trans js50)) hh70 (k_Term_add (rp_4_1 hv0) hM h) (fun r17 M μ18 hM h => ?_) (fun _ _ _ _ f => f.elim)
        refine L_ps c70 (n := 2) (pc1 := 147) (ls1 := [jR v0, jR v1, jR v2, jI v3, jI (b2i r17), jI v5, jI r11, g7, g8]) (st1 := []) rfl ?_
        exact k_Rewriter_build_j147 rfl hg7 hv0 hv1 hv2 hM hQ hW34 h
    · exact k_Rewriter_build_j153 rfl hg6 hg7 hv0 hv2 hM hQ h
theorem k_Rewriter_build_l34 {E : JE2} {v0 : Nat} {v1 : Nat} {v2 : Nat} {v3 : Int} {v4 : Int} {v5 : Int} {μ : Mem} {M : JM} {P : JO → JM → Prop} {g6 : JV} {g7 : JV} {g8 : JV} {Q : Bool → Mem → Prop} (hg6 : jc2 g6 = false) (hg7 : jc2 g7 = false) (hv0 : rt v0 = 4) (hv1 : rt v1 = 5) (hv2 : rt v2 = 8) (hM : Rl E M μ) (hQ : ∀ (r : Bool) (M1 : JM) (μ1 : Mem), Rl E M1 μ1 → Q r μ1 → P (.inl (some (.inl (b2i r)))) M1) (h : d_Rewriter_build_l34 v0 v1 v2 v3 v4 v5 μ Q) : JX 70 34 [jR v0, jR v1, jR v2, jI v3, jI v4, jI v5, g6, g7, g8] [] M P := by
  refine h (fun v4 v5 μ => ∀ (g6 : JV) (g7 : JV) (g8 : JV) (M : JM), jc2 g6 = false → jc2 g7 = false → Rl E M μ → JX 70 34 [jR v0, jR v1, jR v2, jI v3, jI v4, jI v5, g6, g7, g8] [] M P) ?_ _ _ _ _ hg6 hg7 hM
  intro v4 v5 μ h g6 g7 g8 M hg6 hg7 hM
  exact k_Rewriter_build_b34 hg6 hg7 hv0 hv1 hv2 hM hQ (fun v4 v5 g6 g7 g8 M μ hg6 hg7 hM h => h g6 g7 g8 M hg6 hg7 hM) h
theorem k_Rewriter_build {E : JE2} {v0 : Nat} {v1 : Nat} {v2 : Nat} {v3 : Int} {μ : Mem} {M : JM} {Q : Bool → Mem → Prop} (hv0 : rt v0 = 4) (hv1 : rt v1 = 5) (hv2 : rt v2 = 8) (hM : Rl E M μ) (h : d_Rewriter_build v0 v1 v2 v3 μ Q) : JX 70 0 (jargs 70 [jR v0, jR v1, jR v2, jI v3]) [] M (PO E (QB Q) XN) := by
  unfold d_Rewriter_build at h
  show JX 70 0 [jR v0, jR v1, jR v2, jI v3, jU, jU, jU, jU, jU] [] M (PO E (QB Q) XN)
  generalize hP : PO E (QB Q) XN = P
  have hQ : ∀ (r : Bool) (M1 : JM) (μ1 : Mem), Rl E M1 μ1 → Q r μ1 → P (.inl (some (.inl (b2i r)))) M1 := by rw [← hP]; exact fun r M1 μ1 a b => ⟨μ1, a, r, rfl, b⟩
  clear hP
  refine L_ps c70 (n := 4) (pc1 := 4) (ls1 := [jR v0, jR v1, jR v2, jI v3, jU, jU, jU, jU, jU]) (st1 := [jI v3, jR v2, jR v1, jR v0]) rfl ?_
  refine L_cB (c70 4 rfl) (js_v rfl ((Rl_tag hM hv0 (by decide)).trans js65)) hh70 (k_Rewriter_match hv0 hv1 hv2 hM h) (fun r1 M μ2 hM h => ?_) (fun _ _ _ _ f => f.elim)
  refine L_br (p1 := 12) (p2 := 10) (c70 7 rfl) rfl jc_neb h (fun h => ?_) (fun h => ?_)
  · refine L_ps c70 (n := 1) (pc1 := 13) (ls1 := [jR v0, jR v1, jR v2, jI v3, jU, jU, jU, jU, jU]) (st1 := [jR v0]) rfl ?_
    refine L_getP (d := 1) (c70 13 rfl) hM hv0 rfl ?_
    refine L_cV (c70 16 rfl) (js_v rfl ((Rl_tag hM (rp_4_1 hv0) (by decide)).trans js41)) hh70 (k_Term_clear (rp_4_1 hv0) hM h) (fun M μ4 hM h => ?_) (fun _ _ _ _ f => f.elim)
    refine L_ps c70 (n := 1) (pc1 := 20) (ls1 := [jR v0, jR v1, jR v2, jI v3, jU, jU, jU, jU, jU]) (st1 := [jR v0]) rfl ?_
    refine L_getP (d := 1) (c70 20 rfl) hM hv0 rfl ?_
    refine L_ps c70 (n := 3) (pc1 := 26) (ls1 := [jR v0, jR v1, jR v2, jI v3, jU, jU, jU, jU, jU]) (st1 := [jI v3, jI 0, jR v2, jR (v0 + 1)]) rfl ?_
    refine L_cB (c70 26 rfl) (js_v rfl ((Rl_tag hM (rp_4_1 hv0) (by decide)).trans js57)) hh70 (k_Term_addPart (rp_4_1 hv0) hv2 hM h) (fun r5 M μ6 hM h => ?_) (fun _ _ _ _ f => f.elim)
    refine L_ps c70 (n := 3) (pc1 := 34) (ls1 := [jR v0, jR v1, jR v2, jI v3, jI (b2i r5), jI 0, jU, jU, jU]) (st1 := []) rfl ?_
    exact k_Rewriter_build_l34 rfl rfl hv0 hv1 hv2 hM hQ h
  · refine L_ps c70 (n := 1) (pc1 := 11) (ls1 := [jR v0, jR v1, jR v2, jI v3, jU, jU, jU, jU, jU]) (st1 := [jI 0]) rfl ?_
    exact L_retB (c70 11 rfl) (Or.inl rfl) (hQ false _ _ hM h)
theorem k_Rewriter_buildFirst {E : JE2} {v0 : Nat} {v1 : Nat} {v2 : Nat} {v3 : Int} {μ : Mem} {M : JM} {Q : Bool → Mem → Prop} (hv0 : rt v0 = 4) (hv1 : rt v1 = 7) (hv2 : rt v2 = 8) (hM : Rl E M μ) (h : d_Rewriter_buildFirst v0 v1 v2 v3 μ Q) : JX 69 0 (jargs 69 [jR v0, jR v1, jR v2, jI v3]) [] M (PO E (QB Q) XN) := by
  unfold d_Rewriter_buildFirst at h
  show JX 69 0 [jR v0, jR v1, jR v2, jI v3, jU] [] M (PO E (QB Q) XN)
  generalize hP : PO E (QB Q) XN = P
  have hQ : ∀ (r : Bool) (M1 : JM) (μ1 : Mem), Rl E M1 μ1 → Q r μ1 → P (.inl (some (.inl (b2i r)))) M1 := by rw [← hP]; exact fun r M1 μ1 a b => ⟨μ1, a, r, rfl, b⟩
  clear hP
  refine L_ps c69 (n := 4) (pc1 := 4) (ls1 := [jR v0, jR v1, jR v2, jI v3, jU]) (st1 := [jI v3, jR v2, jR v1, jR v0]) rfl ?_
  refine L_cI (c69 4 rfl) (js_v rfl ((Rl_tag hM hv0 (by decide)).trans js64)) hh69 (k_Rewriter_firstRule hv0 hv1 hv2 hM h) (fun r1 M μ2 hM h => ?_) (fun _ _ _ _ f => f.elim)
  refine L_ps c69 (n := 3) (pc1 := 12) (ls1 := [jR v0, jR v1, jR v2, jI v3, jI r1]) (st1 := [jI (-1), jI r1]) rfl ?_
  refine L_br (p1 := 34) (p2 := 15) (c69 12 rfl) rfl jc_eq h (fun h => ?_) (fun h => ?_)
  · refine L_ps c69 (n := 1) (pc1 := 35) (ls1 := [jR v0, jR v1, jR v2, jI v3, jI r1]) (st1 := [jI 0]) rfl ?_
    exact L_retB (c69 35 rfl) (Or.inl rfl) (hQ false _ _ hM h)
  · refine L_ps c69 (n := 3) (pc1 := 19) (ls1 := [jR v0, jR v1, jR v2, jI v3, jI r1]) (st1 := [jI r1, jR v1, jR v0]) rfl ?_
    refine L_cpR (c69 19 rfl) (js_v rfl ((Rl_tag hM hv1 (by decide)).trans js39)) hh69 (k_State_rule hv1 hM h) (fun r3 M hM hr3 h => ?_) (fun _ _ _ _ f => f.elim)
    refine L_ps c69 (n := 2) (pc1 := 24) (ls1 := [jR v0, jR v1, jR v2, jI v3, jI r1]) (st1 := [jI v3, jR v2, jR r3, jR v0]) rfl ?_
    refine L_cB (c69 24 rfl) (js_v rfl ((Rl_tag hM hv0 (by decide)).trans js70)) hh69 (k_Rewriter_build hv0 hr3 hv2 hM h) (fun r5 M μ6 hM h => ?_) (fun _ _ _ _ f => f.elim)
    refine L_nb (p1 := 34) (p2 := 30) (c69 27 rfl) rfl jc_eqb h (fun h => ?_) (fun h => ?_)
    · refine L_ps c69 (n := 2) (pc1 := 35) (ls1 := [jR v0, jR v1, jR v2, jI v3, jI r1]) (st1 := [jI 1]) rfl ?_
      exact L_retB (c69 35 rfl) (Or.inr rfl) (hQ true _ _ hM h)
    · refine L_ps c69 (n := 1) (pc1 := 35) (ls1 := [jR v0, jR v1, jR v2, jI v3, jI r1]) (st1 := [jI 0]) rfl ?_
      exact L_retB (c69 35 rfl) (Or.inl rfl) (hQ false _ _ hM h)
theorem k_Rewriter_step {E : JE2} {v0 : Nat} {v1 : Nat} {v2 : Nat} {v3 : Int} {μ : Mem} {M : JM} {Q : Int → Mem → Prop} (hv0 : rt v0 = 4) (hv1 : rt v1 = 7) (hv2 : rt v2 = 8) (hM : Rl E M μ) (h : d_Rewriter_step v0 v1 v2 v3 μ Q) : JX 62 0 (jargs 62 [jR v0, jR v1, jR v2, jI v3]) [] M (PO E (QI Q) XN) := by
  unfold d_Rewriter_step at h
  show JX 62 0 [jR v0, jR v1, jR v2, jI v3, jU] [] M (PO E (QI Q) XN)
  generalize hP : PO E (QI Q) XN = P
  have hQ : ∀ (r : Int) (M1 : JM) (μ1 : Mem), Rl E M1 μ1 → Q r μ1 → P (.inl (some (.inl r))) M1 := by rw [← hP]; exact fun r M1 μ1 a b => ⟨μ1, a, r, rfl, b⟩
  clear hP
  refine L_ps c62 (n := 4) (pc1 := 4) (ls1 := [jR v0, jR v1, jR v2, jI v3, jU]) (st1 := [jI v3, jR v2, jR v1, jR v0]) rfl ?_
  refine L_cI (c62 4 rfl) (js_v rfl ((Rl_tag hM hv0 (by decide)).trans js63)) hh62 (k_Rewriter_redex hv0 hv1 hv2 hM h) (fun r1 M μ2 hM h => ?_) (fun _ _ _ _ f => f.elim)
  refine L_ps c62 (n := 3) (pc1 := 12) (ls1 := [jR v0, jR v1, jR v2, jI v3, jI r1]) (st1 := [jI (-1), jI r1]) rfl ?_
  refine L_br (p1 := 31) (p2 := 15) (c62 12 rfl) rfl jc_eq h (fun h => ?_) (fun h => ?_)
  · refine L_ps c62 (n := 1) (pc1 := 32) (ls1 := [jR v0, jR v1, jR v2, jI v3, jI r1]) (st1 := [jI (-1)]) rfl ?_
    exact L_retI (c62 32 rfl) (hQ _ _ _ hM h)
  · refine L_ps c62 (n := 4) (pc1 := 20) (ls1 := [jR v0, jR v1, jR v2, jI v3, jI r1]) (st1 := [jI r1, jR v2, jR v1, jR v0]) rfl ?_
    refine L_cB (c62 20 rfl) (js_v rfl ((Rl_tag hM hv0 (by decide)).trans js69)) hh62 (k_Rewriter_buildFirst hv0 hv1 hv2 hM h) (fun r3 M μ4 hM h => ?_) (fun _ _ _ _ f => f.elim)
    refine L_nb (p1 := 31) (p2 := 26) (c62 23 rfl) rfl jc_eqb h (fun h => ?_) (fun h => ?_)
    · refine L_ps c62 (n := 2) (pc1 := 32) (ls1 := [jR v0, jR v1, jR v2, jI v3, jI r1]) (st1 := [jI r1]) rfl ?_
      exact L_retI (c62 32 rfl) (hQ _ _ _ hM h)
    · refine L_ps c62 (n := 1) (pc1 := 32) (ls1 := [jR v0, jR v1, jR v2, jI v3, jI r1]) (st1 := [jI (-1)]) rfl ?_
      exact L_retI (c62 32 rfl) (hQ _ _ _ hM h)
theorem k_Term_copyFrom_b15 {E : JE2} {v0 : Nat} {v1 : Nat} {v2 : Int} {v3 : Int} {μ : Mem} {M : JM} {P : JO → JM → Prop} {W15 : Int → Mem → Prop} {Q : Mem → Prop} (hv0 : rt v0 = 8) (hv1 : rt v1 = 8) (hM : Rl E M μ) (hQ : ∀ (M1 : JM) (μ1 : Mem), Rl E M1 μ1 → Q μ1 → P (.inl none) M1) (hW15 : ∀ (v3 : Int) (M1 : JM) (μ1 : Mem), Rl E M1 μ1 → W15 v3 μ1 → JX 71 15 [jR v0, jR v1, jI v2, jI v3] [] M1 P) (h : d_Term_copyFrom_b15 v0 v1 v2 v3 μ W15 Q) : JX 71 15 [jR v0, jR v1, jI v2, jI v3] [] M P := by
  unfold d_Term_copyFrom_b15 at h
  refine L_ps c71 (n := 2) (pc1 := 17) (ls1 := [jR v0, jR v1, jI v2, jI v3]) (st1 := [jI v2, jI v3]) rfl ?_
  refine L_nb (p1 := 37) (p2 := 20) (c71 17 rfl) rfl jc_ge h (fun h => ?_) (fun h => ?_)
  · refine L_ps c71 (n := 1) (pc1 := 21) (ls1 := [jR v0, jR v1, jI v2, jI v3]) (st1 := [jR v0]) rfl ?_
    refine L_getP (d := 1) (c71 21 rfl) hM hv0 rfl ?_
    refine L_ps c71 (n := 3) (pc1 := 27) (ls1 := [jR v0, jR v1, jI v2, jI v3]) (st1 := [jI v3, jR v1, jI v3, jR (v0 + 1)]) rfl ?_
    refine L_cpI (c71 27 rfl) (js_v rfl ((Rl_tag hM hv1 (by decide)).trans js46)) hh71 (k_Term_get hv1 hM h) (fun r3 M hM h => ?_) (fun _ _ _ _ f => f.elim)
    obtain ⟨hb, h⟩ := h
    refine L_iast (c71 30 rfl) hM (rp_8_1 hv0) rfl hb (fun M hM => ?_)
    refine L_ps c71 (n := 2) (pc1 := 15) (ls1 := [jR v0, jR v1, jI v2, jI (wr (v3 + 1))]) (st1 := []) rfl ?_
    exact hW15 _ _ _ hM h
  · refine L_ps c71 (n := 2) (pc1 := 39) (ls1 := [jR v0, jR v1, jI v2, jI v3]) (st1 := [jI v2, jR v0]) rfl ?_
    refine L_putI (c71 39 rfl) hM hv0 rfl (fun M hM => ?_)
    exact L_end (c71 42 rfl) rfl (hQ _ _ hM h)
theorem k_Term_copyFrom_l15 {E : JE2} {v0 : Nat} {v1 : Nat} {v2 : Int} {v3 : Int} {μ : Mem} {M : JM} {P : JO → JM → Prop} {Q : Mem → Prop} (hv0 : rt v0 = 8) (hv1 : rt v1 = 8) (hM : Rl E M μ) (hQ : ∀ (M1 : JM) (μ1 : Mem), Rl E M1 μ1 → Q μ1 → P (.inl none) M1) (h : d_Term_copyFrom_l15 v0 v1 v2 v3 μ Q) : JX 71 15 [jR v0, jR v1, jI v2, jI v3] [] M P := by
  refine h (fun v3 μ => ∀ (M : JM), Rl E M μ → JX 71 15 [jR v0, jR v1, jI v2, jI v3] [] M P) ?_ _ hM
  intro v3 μ h M hM
  exact k_Term_copyFrom_b15 hv0 hv1 hM hQ (fun v3 M μ hM h => h M hM) h
theorem k_Term_copyFrom {E : JE2} {v0 : Nat} {v1 : Nat} {μ : Mem} {M : JM} {Q : Mem → Prop} (hv0 : rt v0 = 8) (hv1 : rt v1 = 8) (hM : Rl E M μ) (h : d_Term_copyFrom v0 v1 μ Q) : JX 71 0 (jargs 71 [jR v0, jR v1]) [] M (PO E (QV Q) XN) := by
  unfold d_Term_copyFrom at h
  show JX 71 0 [jR v0, jR v1, jU, jU] [] M (PO E (QV Q) XN)
  generalize hP : PO E (QV Q) XN = P
  have hQ : ∀ (M1 : JM) (μ1 : Mem), Rl E M1 μ1 → Q μ1 → P (.inl none) M1 := by rw [← hP]; exact fun M1 μ1 a b => ⟨μ1, a, rfl, b⟩
  clear hP
  refine L_ps c71 (n := 1) (pc1 := 1) (ls1 := [jR v0, jR v1, jU, jU]) (st1 := [jR v1]) rfl ?_
  refine L_getI (c71 1 rfl) hM hv1 rfl ?_
  refine L_ps c71 (n := 1) (pc1 := 5) (ls1 := [jR v0, jR v1, jU, jU]) (st1 := [jR v0, jI (μ v1 1)]) rfl ?_
  refine L_getP (d := 1) (c71 5 rfl) hM hv0 rfl ?_
  refine L_alen (n := ln (v0 + 1)) (z := (ln (v0 + 1) : Int)) (c71 8 rfl) hM (rp_8_1 hv0) (by decide) rfl (ln_small _) rfl ?_
  refine L_cpI (c71 9 rfl) (js_t rfl) hh71 (k_Math_min hM h) (fun r1 M hM h => ?_) (fun _ _ _ _ f => f.elim)
  refine L_ps c71 (n := 3) (pc1 := 15) (ls1 := [jR v0, jR v1, jI r1, jI 0]) (st1 := []) rfl ?_
  exact k_Term_copyFrom_l15 hv0 hv1 hM hQ h
theorem k_Parser_readStep {E : JE2} {μ : Mem} {M : JM} {Q : Bool → Mem → Prop} (hM : Rl E M μ) (h : d_Parser_readStep μ Q) : JX 61 0 (jargs 61 [jR 72]) [] M (PO E (QB Q) XN) := by
  unfold d_Parser_readStep at h
  show JX 61 0 [jR 72, jU] [] M (PO E (QB Q) XN)
  generalize hP : PO E (QB Q) XN = P
  have hQ : ∀ (r : Bool) (M1 : JM) (μ1 : Mem), Rl E M1 μ1 → Q r μ1 → P (.inl (some (.inl (b2i r)))) M1 := by rw [← hP]; exact fun r M1 μ1 a b => ⟨μ1, a, r, rfl, b⟩
  clear hP
  refine L_ps c61 (n := 1) (pc1 := 1) (ls1 := [jR 72, jU]) (st1 := [jR 72]) rfl ?_
  refine L_cV (c61 1 rfl) (js_v rfl ((Rl_tag hM rt72 (by decide)).trans js16)) hh61 (k_Parser_next hM h) (fun M μ2 hM h => ?_) (fun _ _ _ _ f => f.elim)
  refine L_ps c61 (n := 2) (pc1 := 6) (ls1 := [jR 72, jU]) (st1 := [jR 72, jR 72]) rfl ?_
  refine L_getP (d := 5) (c61 6 rfl) hM rt72 rfl ?_
  refine L_getI (c61 9 rfl) hM rt77 rfl ?_
  refine L_cB (c61 12 rfl) (js_v rfl ((Rl_tag hM rt72 (by decide)).trans js35)) hh61 (k_Parser_readDigit hM h) (fun r3 M μ4 hM h => ?_) (fun _ _ _ _ f => f.elim)
  refine L_br (p1 := 20) (p2 := 18) (c61 15 rfl) rfl jc_neb h (fun h => ?_) (fun h => ?_)
  · refine L_ps c61 (n := 1) (pc1 := 21) (ls1 := [jR 72, jU]) (st1 := [jR 72]) rfl ?_
    refine L_getP (d := 5) (c61 21 rfl) hM rt72 rfl ?_
    refine L_ps c61 (n := 1) (pc1 := 25) (ls1 := [jR 72, jU]) (st1 := [jR 72, jR 77]) rfl ?_
    refine L_cpI (c61 25 rfl) (js_v rfl ((Rl_tag hM rt72 (by decide)).trans js36)) hh61 (k_Parser_digit hM h) (fun r5 M hM h => ?_) (fun _ _ _ _ f => f.elim)
    refine L_cpR (c61 28 rfl) (js_v rfl ((Rl_tag hM rt77 (by decide)).trans js54)) hh61 (k_State_term rt77 hM h) (fun r7 M hM hr7 h => ?_) (fun _ _ _ _ f => f.elim)
    refine L_ps c61 (n := 2) (pc1 := 33) (ls1 := [jR 72, jR r7]) (st1 := [jR 72]) rfl ?_
    refine L_getP (d := 58) (c61 33 rfl) hM rt72 rfl ?_
    refine L_ps c61 (n := 1) (pc1 := 37) (ls1 := [jR 72, jR r7]) (st1 := [jR 72, jR 130]) rfl ?_
    refine L_getP (d := 5) (c61 37 rfl) hM rt72 rfl ?_
    refine L_ps c61 (n := 2) (pc1 := 42) (ls1 := [jR 72, jR r7]) (st1 := [jI 1, jR r7, jR 77, jR 130]) rfl ?_
    refine L_cI (c61 42 rfl) (js_v rfl ((Rl_tag hM rt130 (by decide)).trans js62)) hh61 (k_Rewriter_step rt130 rt77 hr7 hM h) (fun r9 M μ10 hM h => ?_) (fun _ _ _ _ f => f.elim)
    refine L_ps c61 (n := 1) (pc1 := 46) (ls1 := [jR 72, jR r7]) (st1 := [jI (-1), jI r9]) rfl ?_
    refine L_nb (p1 := 55) (p2 := 49) (c61 46 rfl) rfl jc_ne h (fun h => ?_) (fun h => ?_)
    · refine L_ps c61 (n := 2) (pc1 := 51) (ls1 := [jR 72, jR r7]) (st1 := [jI 4, jR 72]) rfl ?_
      refine L_cB (c61 51 rfl) (js_v rfl ((Rl_tag hM rt72 (by decide)).trans js27)) hh61 (k_Parser_fail hM h) (fun r11 M μ12 hM h => ?_) (fun _ _ _ _ f => f.elim)
      exact L_retB (c61 54 rfl) (bz_b _) (hQ _ _ _ hM h)
    · refine L_ps c61 (n := 2) (pc1 := 57) (ls1 := [jR 72, jR r7]) (st1 := [jR 72, jR r7]) rfl ?_
      refine L_getP (d := 58) (c61 57 rfl) hM rt72 rfl ?_
      refine L_getP (d := 1) (c61 60 rfl) hM rt130 rfl ?_
      refine L_cV (c61 63 rfl) (js_v rfl ((Rl_tag hM hr7 (by decide)).trans js71)) hh61 (k_Term_copyFrom hr7 rt131 hM h) (fun M μ14 hM h => ?_) (fun _ _ _ _ f => f.elim)
      refine L_ps c61 (n := 1) (pc1 := 67) (ls1 := [jR 72, jR r7]) (st1 := [jR 72]) rfl ?_
      refine L_cV (c61 67 rfl) (js_v rfl ((Rl_tag hM rt72 (by decide)).trans js16)) hh61 (k_Parser_next hM h) (fun M μ16 hM h => ?_) (fun _ _ _ _ f => f.elim)
      refine L_ps c61 (n := 1) (pc1 := 71) (ls1 := [jR 72, jR r7]) (st1 := [jI 1]) rfl ?_
      exact L_retB (c61 71 rfl) (Or.inr rfl) (hQ true _ _ hM h)
  · refine L_ps c61 (n := 1) (pc1 := 19) (ls1 := [jR 72, jU]) (st1 := [jI 0]) rfl ?_
    exact L_retB (c61 19 rfl) (Or.inl rfl) (hQ false _ _ hM h)
theorem k_Parser_run_j194 {E : JE2} {v2 : Int} {t0 : Int} {μ : Mem} {M : JM} {P : JO → JM → Prop} {g1 : JV} {g3 : JV} {W60 : Int → Mem → Prop} {Q : Bool → Mem → Prop} (hg1 : jc2 g1 = false) (hM : Rl E M μ) (hQ : ∀ (r : Bool) (M1 : JM) (μ1 : Mem), Rl E M1 μ1 → Q r μ1 → P (.inl (some (.inl (b2i r)))) M1) (hW60 : ∀ (v2 : Int) (g1 : JV) (g3 : JV) (M1 : JM) (μ1 : Mem), jc2 g1 = false → Rl E M1 μ1 → W60 v2 μ1 → JX 14 60 [jR 72, g1, jI v2, g3] [] M1 P) (h : d_Parser_run_j194 v2 t0 μ W60 Q) : JX 14 194 [jR 72, g1, jI v2, g3] [jI t0] M P := by
  unfold d_Parser_run_j194 at h
  refine L_ps c14 (n := 2) (pc1 := 196) (ls1 := [jR 72, g1, jI v2, jI t0]) (st1 := [jI t0]) rfl ?_
  refine L_nb (p1 := 201) (p2 := 199) (c14 196 rfl) rfl jc_ne h (fun h => ?_) (fun h => ?_)
  · refine L_ps c14 (n := 1) (pc1 := 200) (ls1 := [jR 72, g1, jI v2, jI t0]) (st1 := [jI 0]) rfl ?_
    exact L_retB (c14 200 rfl) (Or.inl rfl) (hQ false _ _ hM h)
  · refine L_iinc (c14 201 rfl) (hg1) (Nat.le_of_ble_eq_true rfl) rfl ?_
    show JX 14 204 [jR 72, g1, jI (wr (v2 + 1)), jI t0] [] M P
    refine L_ps c14 (n := 1) (pc1 := 60) (ls1 := [jR 72, g1, jI (wr (v2 + 1)), jI t0]) (st1 := []) rfl ?_
    exact hW60 _ _ _ _ _ hg1 hM h
theorem k_Parser_run_b60 {E : JE2} {v2 : Int} {μ : Mem} {M : JM} {P : JO → JM → Prop} {g1 : JV} {g3 : JV} {W60 : Int → Mem → Prop} {Q : Bool → Mem → Prop} (hg1 : jc2 g1 = false) (hM : Rl E M μ) (hQ : ∀ (r : Bool) (M1 : JM) (μ1 : Mem), Rl E M1 μ1 → Q r μ1 → P (.inl (some (.inl (b2i r)))) M1) (hW60 : ∀ (v2 : Int) (g1 : JV) (g3 : JV) (M1 : JM) (μ1 : Mem), jc2 g1 = false → Rl E M1 μ1 → W60 v2 μ1 → JX 14 60 [jR 72, g1, jI v2, g3] [] M1 P) (h : d_Parser_run_b60 v2 μ W60 Q) : JX 14 60 [jR 72, g1, jI v2, g3] [] M P := by
  unfold d_Parser_run_b60 at h
  refine L_ps c14 (n := 2) (pc1 := 64) (ls1 := [jR 72, g1, jI v2, g3]) (st1 := [jI 500, jI v2]) rfl ?_
  refine L_br (p1 := 207) (p2 := 67) (c14 64 rfl) rfl jc_gt h (fun h => ?_) (fun h => ?_)
  · refine L_ps c14 (n := 1) (pc1 := 208) (ls1 := [jR 72, g1, jI v2, g3]) (st1 := [jI 1]) rfl ?_
    exact L_retB (c14 208 rfl) (Or.inr rfl) (hQ true _ _ hM h)
  · refine L_ps c14 (n := 1) (pc1 := 68) (ls1 := [jR 72, g1, jI v2, g3]) (st1 := [jR 72]) rfl ?_
    refine L_getI (c14 68 rfl) hM rt72 rfl ?_
    refine L_br (p1 := 207) (p2 := 74) (c14 71 rfl) rfl jc_eq h (fun h => ?_) (fun h => ?_)
    · refine L_ps c14 (n := 1) (pc1 := 208) (ls1 := [jR 72, g1, jI v2, g3]) (st1 := [jI 1]) rfl ?_
      exact L_retB (c14 208 rfl) (Or.inr rfl) (hQ true _ _ hM h)
    · refine L_ps c14 (n := 1) (pc1 := 75) (ls1 := [jR 72, g1, jI v2, g3]) (st1 := [jR 72]) rfl ?_
      refine L_getI (c14 75 rfl) hM rt72 rfl ?_
      refine L_ps c14 (n := 1) (pc1 := 80) (ls1 := [jR 72, g1, jI v2, g3]) (st1 := [jI 59, jI (μ 72 9)]) rfl ?_
      refine L_br (p1 := 89) (p2 := 83) (c14 80 rfl) rfl jc_eq h (fun h => ?_) (fun h => ?_)
      · refine L_ps c14 (n := 1) (pc1 := 90) (ls1 := [jR 72, g1, jI v2, g3]) (st1 := [jR 72]) rfl ?_
        refine L_cV (c14 90 rfl) (js_v rfl ((Rl_tag hM rt72 (by decide)).trans js16)) hh14 (k_Parser_next hM h) (fun M μ10 hM h => ?_) (fun _ _ _ _ f => f.elim)
        refine L_ps c14 (n := 2) (pc1 := 96) (ls1 := [jR 72, g1, jI v2, g3]) (st1 := [jR (2000000 + 1), jR 72]) rfl ?_
        refine L_cpB (c14 96 rfl) (js_v rfl ((Rl_tag hM rt72 (by decide)).trans js19)) hh14 (k_Parser_isWord (by decide) hM h) (fun r11 M hM h => ?_) (fun _ _ _ _ f => f.elim)
        refine L_nb (p1 := 109) (p2 := 102) (c14 99 rfl) rfl jc_eqb h (fun h => ?_) (fun h => ?_)
        · refine L_ps c14 (n := 1) (pc1 := 103) (ls1 := [jR 72, g1, jI v2, g3]) (st1 := [jR 72]) rfl ?_
          refine L_cB (c14 103 rfl) (js_v rfl ((Rl_tag hM rt72 (by decide)).trans js28)) hh14 (k_Parser_readSymbol hM h) (fun r13 M μ14 hM h => ?_) (fun _ _ _ _ f => f.elim)
          refine L_ps c14 (n := 1) (pc1 := 194) (ls1 := [jR 72, g1, jI v2, g3]) (st1 := [jI (b2i r13)]) rfl ?_
          exact k_Parser_run_j194 hg1 hM hQ hW60 h
        · refine L_ps c14 (n := 2) (pc1 := 112) (ls1 := [jR 72, g1, jI v2, g3]) (st1 := [jR (2000000 + 2), jR 72]) rfl ?_
          refine L_cpB (c14 112 rfl) (js_v rfl ((Rl_tag hM rt72 (by decide)).trans js19)) hh14 (k_Parser_isWord (by decide) hM h) (fun r15 M hM h => ?_) (fun _ _ _ _ f => f.elim)
          refine L_nb (p1 := 125) (p2 := 118) (c14 115 rfl) rfl jc_eqb h (fun h => ?_) (fun h => ?_)
          · refine L_ps c14 (n := 1) (pc1 := 119) (ls1 := [jR 72, g1, jI v2, g3]) (st1 := [jR 72]) rfl ?_
            refine L_cB (c14 119 rfl) (js_v rfl ((Rl_tag hM rt72 (by decide)).trans js38)) hh14 (k_Parser_readRule hM h) (fun r17 M μ18 hM h => ?_) (fun _ _ _ _ f => f.elim)
            refine L_ps c14 (n := 1) (pc1 := 194) (ls1 := [jR 72, g1, jI v2, g3]) (st1 := [jI (b2i r17)]) rfl ?_
            exact k_Parser_run_j194 hg1 hM hQ hW60 h
          · refine L_ps c14 (n := 2) (pc1 := 128) (ls1 := [jR 72, g1, jI v2, g3]) (st1 := [jR (2000000 + 3), jR 72]) rfl ?_
            refine L_cpB (c14 128 rfl) (js_v rfl ((Rl_tag hM rt72 (by decide)).trans js19)) hh14 (k_Parser_isWord (by decide) hM h) (fun r19 M hM h => ?_) (fun _ _ _ _ f => f.elim)
            refine L_nb (p1 := 141) (p2 := 134) (c14 131 rfl) rfl jc_eqb h (fun h => ?_) (fun h => ?_)
            · refine L_ps c14 (n := 1) (pc1 := 135) (ls1 := [jR 72, g1, jI v2, g3]) (st1 := [jR 72]) rfl ?_
              refine L_cB (c14 135 rfl) (js_v rfl ((Rl_tag hM rt72 (by decide)).trans js53)) hh14 (k_Parser_readPlainTerm hM h) (fun r21 M μ22 hM h => ?_) (fun _ _ _ _ f => f.elim)
              refine L_ps c14 (n := 1) (pc1 := 194) (ls1 := [jR 72, g1, jI v2, g3]) (st1 := [jI (b2i r21)]) rfl ?_
              exact k_Parser_run_j194 hg1 hM hQ hW60 h
            · refine L_ps c14 (n := 2) (pc1 := 144) (ls1 := [jR 72, g1, jI v2, g3]) (st1 := [jR (2000000 + 4), jR 72]) rfl ?_
              refine L_cpB (c14 144 rfl) (js_v rfl ((Rl_tag hM rt72 (by decide)).trans js19)) hh14 (k_Parser_isWord (by decide) hM h) (fun r23 M hM h => ?_) (fun _ _ _ _ f => f.elim)
              refine L_nb (p1 := 157) (p2 := 150) (c14 147 rfl) rfl jc_eqb h (fun h => ?_) (fun h => ?_)
              · refine L_ps c14 (n := 1) (pc1 := 151) (ls1 := [jR 72, g1, jI v2, g3]) (st1 := [jR 72]) rfl ?_
                refine L_cB (c14 151 rfl) (js_v rfl ((Rl_tag hM rt72 (by decide)).trans js55)) hh14 (k_Parser_readCopy hM h) (fun r25 M μ26 hM h => ?_) (fun _ _ _ _ f => f.elim)
                refine L_ps c14 (n := 1) (pc1 := 194) (ls1 := [jR 72, g1, jI v2, g3]) (st1 := [jI (b2i r25)]) rfl ?_
                exact k_Parser_run_j194 hg1 hM hQ hW60 h
              · refine L_ps c14 (n := 2) (pc1 := 160) (ls1 := [jR 72, g1, jI v2, g3]) (st1 := [jR (2000000 + 5), jR 72]) rfl ?_
                refine L_cpB (c14 160 rfl) (js_v rfl ((Rl_tag hM rt72 (by decide)).trans js19)) hh14 (k_Parser_isWord (by decide) hM h) (fun r27 M hM h => ?_) (fun _ _ _ _ f => f.elim)
                refine L_nb (p1 := 173) (p2 := 166) (c14 163 rfl) rfl jc_eqb h (fun h => ?_) (fun h => ?_)
                · refine L_ps c14 (n := 1) (pc1 := 167) (ls1 := [jR 72, g1, jI v2, g3]) (st1 := [jR 72]) rfl ?_
                  refine L_cB (c14 167 rfl) (js_v rfl ((Rl_tag hM rt72 (by decide)).trans js58)) hh14 (k_Parser_readFlip hM h) (fun r29 M μ30 hM h => ?_) (fun _ _ _ _ f => f.elim)
                  refine L_ps c14 (n := 1) (pc1 := 194) (ls1 := [jR 72, g1, jI v2, g3]) (st1 := [jI (b2i r29)]) rfl ?_
                  exact k_Parser_run_j194 hg1 hM hQ hW60 h
                · refine L_ps c14 (n := 2) (pc1 := 176) (ls1 := [jR 72, g1, jI v2, g3]) (st1 := [jR (2000000 + 6), jR 72]) rfl ?_
                  refine L_cpB (c14 176 rfl) (js_v rfl ((Rl_tag hM rt72 (by decide)).trans js19)) hh14 (k_Parser_isWord (by decide) hM h) (fun r31 M hM h => ?_) (fun _ _ _ _ f => f.elim)
                  refine L_nb (p1 := 189) (p2 := 182) (c14 179 rfl) rfl jc_eqb h (fun h => ?_) (fun h => ?_)
                  · refine L_ps c14 (n := 1) (pc1 := 183) (ls1 := [jR 72, g1, jI v2, g3]) (st1 := [jR 72]) rfl ?_
                    refine L_cB (c14 183 rfl) (js_v rfl ((Rl_tag hM rt72 (by decide)).trans js61)) hh14 (k_Parser_readStep hM h) (fun r33 M μ34 hM h => ?_) (fun _ _ _ _ f => f.elim)
                    refine L_ps c14 (n := 1) (pc1 := 194) (ls1 := [jR 72, g1, jI v2, g3]) (st1 := [jI (b2i r33)]) rfl ?_
                    exact k_Parser_run_j194 hg1 hM hQ hW60 h
                  · refine L_ps c14 (n := 2) (pc1 := 191) (ls1 := [jR 72, g1, jI v2, g3]) (st1 := [jI 1, jR 72]) rfl ?_
                    refine L_cB (c14 191 rfl) (js_v rfl ((Rl_tag hM rt72 (by decide)).trans js27)) hh14 (k_Parser_fail hM h) (fun r35 M μ36 hM h => ?_) (fun _ _ _ _ f => f.elim)
                    exact k_Parser_run_j194 hg1 hM hQ hW60 h
      · refine L_ps c14 (n := 2) (pc1 := 85) (ls1 := [jR 72, g1, jI v2, g3]) (st1 := [jI 1, jR 72]) rfl ?_
        refine L_cB (c14 85 rfl) (js_v rfl ((Rl_tag hM rt72 (by decide)).trans js27)) hh14 (k_Parser_fail hM h) (fun r37 M μ38 hM h => ?_) (fun _ _ _ _ f => f.elim)
        exact L_retB (c14 88 rfl) (bz_b _) (hQ _ _ _ hM h)
theorem k_Parser_run_l60 {E : JE2} {v2 : Int} {μ : Mem} {M : JM} {P : JO → JM → Prop} {g1 : JV} {g3 : JV} {Q : Bool → Mem → Prop} (hg1 : jc2 g1 = false) (hM : Rl E M μ) (hQ : ∀ (r : Bool) (M1 : JM) (μ1 : Mem), Rl E M1 μ1 → Q r μ1 → P (.inl (some (.inl (b2i r)))) M1) (h : d_Parser_run_l60 v2 μ Q) : JX 14 60 [jR 72, g1, jI v2, g3] [] M P := by
  refine h (fun v2 μ => ∀ (g1 : JV) (g3 : JV) (M : JM), jc2 g1 = false → Rl E M μ → JX 14 60 [jR 72, g1, jI v2, g3] [] M P) ?_ _ _ _ hg1 hM
  intro v2 μ h g1 g3 M hg1 hM
  exact k_Parser_run_b60 hg1 hM hQ (fun v2 g1 g3 M μ hg1 hM h => h g1 g3 M hg1 hM) h
theorem k_Parser_run {E : JE2} {v1 : Int} {μ : Mem} {M : JM} {Q : Bool → Mem → Prop} (hM : Rl E M μ) (h : d_Parser_run v1 μ Q) : JX 14 0 (jargs 14 [jR 72, jI v1]) [] M (PO E (QB Q) XN) := by
  unfold d_Parser_run at h
  show JX 14 0 [jR 72, jI v1, jU, jU] [] M (PO E (QB Q) XN)
  generalize hP : PO E (QB Q) XN = P
  have hQ : ∀ (r : Bool) (M1 : JM) (μ1 : Mem), Rl E M1 μ1 → Q r μ1 → P (.inl (some (.inl (b2i r)))) M1 := by rw [← hP]; exact fun r M1 μ1 a b => ⟨μ1, a, r, rfl, b⟩
  clear hP
  refine L_ps c14 (n := 2) (pc1 := 2) (ls1 := [jR 72, jI v1, jU, jU]) (st1 := [jI v1, jR 72]) rfl ?_
  refine L_putI (c14 2 rfl) hM rt72 rfl (fun M hM => ?_)
  refine L_ps c14 (n := 2) (pc1 := 7) (ls1 := [jR 72, jI v1, jU, jU]) (st1 := [jI 0, jR 72]) rfl ?_
  refine L_putI (c14 7 rfl) hM rt72 rfl (fun M hM => ?_)
  refine L_ps c14 (n := 2) (pc1 := 12) (ls1 := [jR 72, jI v1, jU, jU]) (st1 := [jI 0, jR 72]) rfl ?_
  refine L_putI (c14 12 rfl) hM rt72 rfl (fun M hM => ?_)
  refine L_ps c14 (n := 2) (pc1 := 17) (ls1 := [jR 72, jI v1, jU, jU]) (st1 := [jI (-1), jR 72]) rfl ?_
  refine L_putI (c14 17 rfl) hM rt72 rfl (fun M hM => ?_)
  refine L_ps c14 (n := 1) (pc1 := 21) (ls1 := [jR 72, jI v1, jU, jU]) (st1 := [jR 72]) rfl ?_
  refine L_getP (d := 1) (c14 21 rfl) hM rt72 rfl ?_
  refine L_ps c14 (n := 1) (pc1 := 25) (ls1 := [jR 72, jI v1, jU, jU]) (st1 := [jI 0, jR 73]) rfl ?_
  refine L_putI (c14 25 rfl) hM rt73 rfl (fun M hM => ?_)
  refine L_ps c14 (n := 1) (pc1 := 29) (ls1 := [jR 72, jI v1, jU, jU]) (st1 := [jR 72]) rfl ?_
  refine L_getP (d := 5) (c14 29 rfl) hM rt72 rfl ?_
  refine L_cV (c14 32 rfl) (js_v rfl ((Rl_tag hM rt77 (by decide)).trans js15)) hh14 (k_State_clear rt77 hM h) (fun M μ2 hM h => ?_) (fun _ _ _ _ f => f.elim)
  refine L_ps c14 (n := 1) (pc1 := 36) (ls1 := [jR 72, jI v1, jU, jU]) (st1 := [jR 72]) rfl ?_
  refine L_cV (c14 36 rfl) (js_v rfl ((Rl_tag hM rt72 (by decide)).trans js16)) hh14 (k_Parser_next hM h) (fun M μ4 hM h => ?_) (fun _ _ _ _ f => f.elim)
  refine L_ps c14 (n := 2) (pc1 := 42) (ls1 := [jR 72, jI v1, jU, jU]) (st1 := [jR (2000000 + 0), jR 72]) rfl ?_
  refine L_cpB (c14 42 rfl) (js_v rfl ((Rl_tag hM rt72 (by decide)).trans js19)) hh14 (k_Parser_isWord (by decide) hM h) (fun r5 M hM h => ?_) (fun _ _ _ _ f => f.elim)
  refine L_br (p1 := 54) (p2 := 48) (c14 45 rfl) rfl jc_neb h (fun h => ?_) (fun h => ?_)
  · refine L_ps c14 (n := 1) (pc1 := 55) (ls1 := [jR 72, jI v1, jU, jU]) (st1 := [jR 72]) rfl ?_
    refine L_cV (c14 55 rfl) (js_v rfl ((Rl_tag hM rt72 (by decide)).trans js16)) hh14 (k_Parser_next hM h) (fun M μ8 hM h => ?_) (fun _ _ _ _ f => f.elim)
    refine L_ps c14 (n := 2) (pc1 := 60) (ls1 := [jR 72, jI v1, jI 0, jU]) (st1 := []) rfl ?_
    exact k_Parser_run_l60 rfl hM hQ h
  · refine L_ps c14 (n := 2) (pc1 := 50) (ls1 := [jR 72, jI v1, jU, jU]) (st1 := [jI 1, jR 72]) rfl ?_
    refine L_cB (c14 50 rfl) (js_v rfl ((Rl_tag hM rt72 (by decide)).trans js27)) hh14 (k_Parser_fail hM h) (fun r39 M μ40 hM h => ?_) (fun _ _ _ _ f => f.elim)
    exact L_retB (c14 53 rfl) (bz_b _) (hQ _ _ _ hM h)
theorem k_Signature_copyFrom_b48 {E : JE2} {v0 : Nat} {v1 : Nat} {v2 : Int} {μ : Mem} {M : JM} {P : JO → JM → Prop} {W48 : Int → Mem → Prop} {Q : Mem → Prop} (hv0 : rt v0 = 6) (hv1 : rt v1 = 6) (hM : Rl E M μ) (hQ : ∀ (M1 : JM) (μ1 : Mem), Rl E M1 μ1 → Q μ1 → P (.inl none) M1) (hW48 : ∀ (v2 : Int) (M1 : JM) (μ1 : Mem), Rl E M1 μ1 → W48 v2 μ1 → JX 73 48 [jR v0, jR v1, jI v2] [] M1 P) (h : d_Signature_copyFrom_b48 v0 v1 v2 μ W48 Q) : JX 73 48 [jR v0, jR v1, jI v2] [] M P := by
  unfold d_Signature_copyFrom_b48 at h
  refine L_ps c73 (n := 2) (pc1 := 50) (ls1 := [jR v0, jR v1, jI v2]) (st1 := [jR v0, jI v2]) rfl ?_
  refine L_getP (d := 3) (c73 50 rfl) hM hv0 rfl ?_
  refine L_alen (n := 48) (z := 48) (c73 53 rfl) hM (rp_6_3 hv0) (by decide) (lp_6_3 hv0) (by decide) rfl ?_
  refine L_nb (p1 := 84) (p2 := 57) (c73 54 rfl) rfl jc_ge h (fun h => ?_) (fun h => ?_)
  · refine L_ps c73 (n := 2) (pc1 := 59) (ls1 := [jR v0, jR v1, jI v2]) (st1 := [jR v1, jI v2]) rfl ?_
    refine L_getP (d := 3) (c73 59 rfl) hM hv1 rfl ?_
    refine L_alen (n := 48) (z := 48) (c73 62 rfl) hM (rp_6_3 hv1) (by decide) (lp_6_3 hv1) (by decide) rfl ?_
    refine L_nb (p1 := 84) (p2 := 66) (c73 63 rfl) rfl jc_ge h (fun h => ?_) (fun h => ?_)
    · refine L_ps c73 (n := 1) (pc1 := 67) (ls1 := [jR v0, jR v1, jI v2]) (st1 := [jR v0]) rfl ?_
      refine L_getP (d := 3) (c73 67 rfl) hM hv0 rfl ?_
      refine L_ps c73 (n := 2) (pc1 := 72) (ls1 := [jR v0, jR v1, jI v2]) (st1 := [jR v1, jI v2, jR (v0 + 3)]) rfl ?_
      refine L_getP (d := 3) (c73 72 rfl) hM hv1 rfl ?_
      refine L_ps c73 (n := 1) (pc1 := 76) (ls1 := [jR v0, jR v1, jI v2]) (st1 := [jI v2, jR (v1 + 3), jI v2, jR (v0 + 3)]) rfl ?_
      obtain ⟨hb, h⟩ := h
      refine L_iald (c73 76 rfl) hM (rp_6_3 hv1) (lp_6_3 hv1) hb ?_
      obtain ⟨hb, h⟩ := h
      refine L_iast (c73 77 rfl) hM (rp_6_3 hv0) (lp_6_3 hv0) hb (fun M hM => ?_)
      refine L_ps c73 (n := 2) (pc1 := 48) (ls1 := [jR v0, jR v1, jI (wr (v2 + 1))]) (st1 := []) rfl ?_
      exact hW48 _ _ _ hM h
    · exact L_end (c73 84 rfl) rfl (hQ _ _ hM h)
  · exact L_end (c73 84 rfl) rfl (hQ _ _ hM h)
theorem k_Signature_copyFrom_l48 {E : JE2} {v0 : Nat} {v1 : Nat} {v2 : Int} {μ : Mem} {M : JM} {P : JO → JM → Prop} {Q : Mem → Prop} (hv0 : rt v0 = 6) (hv1 : rt v1 = 6) (hM : Rl E M μ) (hQ : ∀ (M1 : JM) (μ1 : Mem), Rl E M1 μ1 → Q μ1 → P (.inl none) M1) (h : d_Signature_copyFrom_l48 v0 v1 v2 μ Q) : JX 73 48 [jR v0, jR v1, jI v2] [] M P := by
  refine h (fun v2 μ => ∀ (M : JM), Rl E M μ → JX 73 48 [jR v0, jR v1, jI v2] [] M P) ?_ _ hM
  intro v2 μ h M hM
  exact k_Signature_copyFrom_b48 hv0 hv1 hM hQ (fun v2 M μ hM h => h M hM) h
theorem k_Signature_copyFrom_b10 {E : JE2} {v0 : Nat} {v1 : Nat} {v2 : Int} {μ : Mem} {M : JM} {P : JO → JM → Prop} {W10 : Int → Mem → Prop} {Q : Mem → Prop} (hv0 : rt v0 = 6) (hv1 : rt v1 = 6) (hM : Rl E M μ) (hQ : ∀ (M1 : JM) (μ1 : Mem), Rl E M1 μ1 → Q μ1 → P (.inl none) M1) (hW10 : ∀ (v2 : Int) (M1 : JM) (μ1 : Mem), Rl E M1 μ1 → W10 v2 μ1 → JX 73 10 [jR v0, jR v1, jI v2] [] M1 P) (h : d_Signature_copyFrom_b10 v0 v1 v2 μ W10 Q) : JX 73 10 [jR v0, jR v1, jI v2] [] M P := by
  unfold d_Signature_copyFrom_b10 at h
  refine L_ps c73 (n := 2) (pc1 := 13) (ls1 := [jR v0, jR v1, jI v2]) (st1 := [jI 8, jI v2]) rfl ?_
  refine L_nb (p1 := 46) (p2 := 16) (c73 13 rfl) rfl jc_ge h (fun h => ?_) (fun h => ?_)
  · refine L_ps c73 (n := 1) (pc1 := 17) (ls1 := [jR v0, jR v1, jI v2]) (st1 := [jR v0]) rfl ?_
    refine L_getP (d := 1) (c73 17 rfl) hM hv0 rfl ?_
    refine L_ps c73 (n := 2) (pc1 := 22) (ls1 := [jR v0, jR v1, jI v2]) (st1 := [jR v1, jI v2, jR (v0 + 1)]) rfl ?_
    refine L_getP (d := 1) (c73 22 rfl) hM hv1 rfl ?_
    refine L_ps c73 (n := 1) (pc1 := 26) (ls1 := [jR v0, jR v1, jI v2]) (st1 := [jI v2, jR (v1 + 1), jI v2, jR (v0 + 1)]) rfl ?_
    obtain ⟨hb, h⟩ := h
    refine L_iald (c73 26 rfl) hM (rp_6_1 hv1) (lp_6_1 hv1) hb ?_
    obtain ⟨hb, h⟩ := h
    refine L_iast (c73 27 rfl) hM (rp_6_1 hv0) (lp_6_1 hv0) hb (fun M hM => ?_)
    refine L_ps c73 (n := 1) (pc1 := 29) (ls1 := [jR v0, jR v1, jI v2]) (st1 := [jR v0]) rfl ?_
    refine L_getP (d := 2) (c73 29 rfl) hM hv0 rfl ?_
    refine L_ps c73 (n := 2) (pc1 := 34) (ls1 := [jR v0, jR v1, jI v2]) (st1 := [jR v1, jI v2, jR (v0 + 2)]) rfl ?_
    refine L_getP (d := 2) (c73 34 rfl) hM hv1 rfl ?_
    refine L_ps c73 (n := 1) (pc1 := 38) (ls1 := [jR v0, jR v1, jI v2]) (st1 := [jI v2, jR (v1 + 2), jI v2, jR (v0 + 2)]) rfl ?_
    obtain ⟨hb, h⟩ := h
    refine L_iald (c73 38 rfl) hM (rp_6_2 hv1) (lp_6_2 hv1) hb ?_
    obtain ⟨hb, h⟩ := h
    refine L_iast (c73 39 rfl) hM (rp_6_2 hv0) (lp_6_2 hv0) hb (fun M hM => ?_)
    refine L_ps c73 (n := 2) (pc1 := 10) (ls1 := [jR v0, jR v1, jI (wr (v2 + 1))]) (st1 := []) rfl ?_
    exact hW10 _ _ _ hM h
  · refine L_ps c73 (n := 2) (pc1 := 48) (ls1 := [jR v0, jR v1, jI 0]) (st1 := []) rfl ?_
    exact k_Signature_copyFrom_l48 hv0 hv1 hM hQ h
theorem k_Signature_copyFrom_l10 {E : JE2} {v0 : Nat} {v1 : Nat} {v2 : Int} {μ : Mem} {M : JM} {P : JO → JM → Prop} {Q : Mem → Prop} (hv0 : rt v0 = 6) (hv1 : rt v1 = 6) (hM : Rl E M μ) (hQ : ∀ (M1 : JM) (μ1 : Mem), Rl E M1 μ1 → Q μ1 → P (.inl none) M1) (h : d_Signature_copyFrom_l10 v0 v1 v2 μ Q) : JX 73 10 [jR v0, jR v1, jI v2] [] M P := by
  refine h (fun v2 μ => ∀ (M : JM), Rl E M μ → JX 73 10 [jR v0, jR v1, jI v2] [] M P) ?_ _ hM
  intro v2 μ h M hM
  exact k_Signature_copyFrom_b10 hv0 hv1 hM hQ (fun v2 M μ hM h => h M hM) h
theorem k_Signature_copyFrom {E : JE2} {v0 : Nat} {v1 : Nat} {μ : Mem} {M : JM} {Q : Mem → Prop} (hv0 : rt v0 = 6) (hv1 : rt v1 = 6) (hM : Rl E M μ) (h : d_Signature_copyFrom v0 v1 μ Q) : JX 73 0 (jargs 73 [jR v0, jR v1]) [] M (PO E (QV Q) XN) := by
  unfold d_Signature_copyFrom at h
  show JX 73 0 [jR v0, jR v1, jU] [] M (PO E (QV Q) XN)
  generalize hP : PO E (QV Q) XN = P
  have hQ : ∀ (M1 : JM) (μ1 : Mem), Rl E M1 μ1 → Q μ1 → P (.inl none) M1 := by rw [← hP]; exact fun M1 μ1 a b => ⟨μ1, a, rfl, b⟩
  clear hP
  refine L_ps c73 (n := 2) (pc1 := 2) (ls1 := [jR v0, jR v1, jU]) (st1 := [jR v1, jR v0]) rfl ?_
  refine L_getI (c73 2 rfl) hM hv1 rfl ?_
  refine L_putI (c73 5 rfl) hM hv0 rfl (fun M hM => ?_)
  refine L_ps c73 (n := 2) (pc1 := 10) (ls1 := [jR v0, jR v1, jI 0]) (st1 := []) rfl ?_
  exact k_Signature_copyFrom_l10 hv0 hv1 hM hQ h
theorem k_Rule_copyFrom {E : JE2} {v0 : Nat} {v1 : Nat} {μ : Mem} {M : JM} {Q : Mem → Prop} (hv0 : rt v0 = 5) (hv1 : rt v1 = 5) (hM : Rl E M μ) (h : d_Rule_copyFrom v0 v1 μ Q) : JX 76 0 (jargs 76 [jR v0, jR v1]) [] M (PO E (QV Q) XN) := by
  unfold d_Rule_copyFrom at h
  show JX 76 0 [jR v0, jR v1] [] M (PO E (QV Q) XN)
  generalize hP : PO E (QV Q) XN = P
  have hQ : ∀ (M1 : JM) (μ1 : Mem), Rl E M1 μ1 → Q μ1 → P (.inl none) M1 := by rw [← hP]; exact fun M1 μ1 a b => ⟨μ1, a, rfl, b⟩
  clear hP
  refine L_ps c76 (n := 1) (pc1 := 1) (ls1 := [jR v0, jR v1]) (st1 := [jR v0]) rfl ?_
  refine L_getD (c76 1 rfl) hM hv0 (by decide) ?_
  refine L_ps c76 (n := 1) (pc1 := 5) (ls1 := [jR v0, jR v1]) (st1 := [jR v1, jR (dp (μ v0 0))]) rfl ?_
  refine L_getD (c76 5 rfl) hM hv1 (by decide) ?_
  refine L_cV (c76 8 rfl) (js_v rfl ((Rl_tag hM (dp_rt _) (by decide)).trans js71)) hh76 (k_Term_copyFrom (dp_rt _) (dp_rt _) hM h) (fun M μ2 hM h => ?_) (fun _ _ _ _ f => f.elim)
  refine L_ps c76 (n := 1) (pc1 := 12) (ls1 := [jR v0, jR v1]) (st1 := [jR v0]) rfl ?_
  refine L_getD (c76 12 rfl) hM hv0 (by decide) ?_
  refine L_ps c76 (n := 1) (pc1 := 16) (ls1 := [jR v0, jR v1]) (st1 := [jR v1, jR (dp (μ2 v0 1))]) rfl ?_
  refine L_getD (c76 16 rfl) hM hv1 (by decide) ?_
  refine L_cV (c76 19 rfl) (js_v rfl ((Rl_tag hM (dp_rt _) (by decide)).trans js71)) hh76 (k_Term_copyFrom (dp_rt _) (dp_rt _) hM h) (fun M μ4 hM h => ?_) (fun _ _ _ _ f => f.elim)
  exact L_end (c76 22 rfl) rfl (hQ _ _ hM h)
theorem k_State_copyFrom_b47 {E : JE2} {v0 : Nat} {v1 : Nat} {v2 : Int} {μ : Mem} {M : JM} {P : JO → JM → Prop} {W47 : Int → Mem → Prop} {Q : Mem → Prop} (hv0 : rt v0 = 7) (hv1 : rt v1 = 7) (hM : Rl E M μ) (hQ : ∀ (M1 : JM) (μ1 : Mem), Rl E M1 μ1 → Q μ1 → P (.inl none) M1) (hW47 : ∀ (v2 : Int) (M1 : JM) (μ1 : Mem), Rl E M1 μ1 → W47 v2 μ1 → JX 75 47 [jR v0, jR v1, jI v2] [] M1 P) (h : d_State_copyFrom_b47 v0 v1 v2 μ W47 Q) : JX 75 47 [jR v0, jR v1, jI v2] [] M P := by
  unfold d_State_copyFrom_b47 at h
  refine L_ps c75 (n := 2) (pc1 := 49) (ls1 := [jR v0, jR v1, jI v2]) (st1 := [jR v0, jI v2]) rfl ?_
  refine L_getI (c75 49 rfl) hM hv0 rfl ?_
  refine L_nb (p1 := 74) (p2 := 55) (c75 52 rfl) rfl jc_ge h (fun h => ?_) (fun h => ?_)
  · refine L_ps c75 (n := 2) (pc1 := 57) (ls1 := [jR v0, jR v1, jI v2]) (st1 := [jI v2, jR v0]) rfl ?_
    refine L_cpR (c75 57 rfl) (js_v rfl ((Rl_tag hM hv0 (by decide)).trans js54)) hh75 (k_State_term hv0 hM h) (fun r7 M hM hr7 h => ?_) (fun _ _ _ _ f => f.elim)
    refine L_ps c75 (n := 2) (pc1 := 62) (ls1 := [jR v0, jR v1, jI v2]) (st1 := [jI v2, jR v1, jR r7]) rfl ?_
    refine L_cpR (c75 62 rfl) (js_v rfl ((Rl_tag hM hv1 (by decide)).trans js54)) hh75 (k_State_term hv1 hM h) (fun r9 M hM hr9 h => ?_) (fun _ _ _ _ f => f.elim)
    refine L_cV (c75 65 rfl) (js_v rfl ((Rl_tag hM hr7 (by decide)).trans js71)) hh75 (k_Term_copyFrom hr7 hr9 hM h) (fun M μ12 hM h => ?_) (fun _ _ _ _ f => f.elim)
    refine L_ps c75 (n := 2) (pc1 := 47) (ls1 := [jR v0, jR v1, jI (wr (v2 + 1))]) (st1 := []) rfl ?_
    exact hW47 _ _ _ hM h
  · exact L_end (c75 74 rfl) rfl (hQ _ _ hM h)
theorem k_State_copyFrom_l47 {E : JE2} {v0 : Nat} {v1 : Nat} {v2 : Int} {μ : Mem} {M : JM} {P : JO → JM → Prop} {Q : Mem → Prop} (hv0 : rt v0 = 7) (hv1 : rt v1 = 7) (hM : Rl E M μ) (hQ : ∀ (M1 : JM) (μ1 : Mem), Rl E M1 μ1 → Q μ1 → P (.inl none) M1) (h : d_State_copyFrom_l47 v0 v1 v2 μ Q) : JX 75 47 [jR v0, jR v1, jI v2] [] M P := by
  refine h (fun v2 μ => ∀ (M : JM), Rl E M μ → JX 75 47 [jR v0, jR v1, jI v2] [] M P) ?_ _ hM
  intro v2 μ h M hM
  exact k_State_copyFrom_b47 hv0 hv1 hM hQ (fun v2 M μ hM h => h M hM) h
theorem k_State_copyFrom_b18 {E : JE2} {v0 : Nat} {v1 : Nat} {v2 : Int} {μ : Mem} {M : JM} {P : JO → JM → Prop} {W18 : Int → Mem → Prop} {Q : Mem → Prop} (hv0 : rt v0 = 7) (hv1 : rt v1 = 7) (hM : Rl E M μ) (hQ : ∀ (M1 : JM) (μ1 : Mem), Rl E M1 μ1 → Q μ1 → P (.inl none) M1) (hW18 : ∀ (v2 : Int) (M1 : JM) (μ1 : Mem), Rl E M1 μ1 → W18 v2 μ1 → JX 75 18 [jR v0, jR v1, jI v2] [] M1 P) (h : d_State_copyFrom_b18 v0 v1 v2 μ W18 Q) : JX 75 18 [jR v0, jR v1, jI v2] [] M P := by
  unfold d_State_copyFrom_b18 at h
  refine L_ps c75 (n := 2) (pc1 := 20) (ls1 := [jR v0, jR v1, jI v2]) (st1 := [jR v0, jI v2]) rfl ?_
  refine L_getI (c75 20 rfl) hM hv0 rfl ?_
  refine L_nb (p1 := 45) (p2 := 26) (c75 23 rfl) rfl jc_ge h (fun h => ?_) (fun h => ?_)
  · refine L_ps c75 (n := 2) (pc1 := 28) (ls1 := [jR v0, jR v1, jI v2]) (st1 := [jI v2, jR v0]) rfl ?_
    refine L_cpR (c75 28 rfl) (js_v rfl ((Rl_tag hM hv0 (by decide)).trans js39)) hh75 (k_State_rule hv0 hM h) (fun r1 M hM hr1 h => ?_) (fun _ _ _ _ f => f.elim)
    refine L_ps c75 (n := 2) (pc1 := 33) (ls1 := [jR v0, jR v1, jI v2]) (st1 := [jI v2, jR v1, jR r1]) rfl ?_
    refine L_cpR (c75 33 rfl) (js_v rfl ((Rl_tag hM hv1 (by decide)).trans js39)) hh75 (k_State_rule hv1 hM h) (fun r3 M hM hr3 h => ?_) (fun _ _ _ _ f => f.elim)
    refine L_cV (c75 36 rfl) (js_v rfl ((Rl_tag hM hr1 (by decide)).trans js76)) hh75 (k_Rule_copyFrom hr1 hr3 hM h) (fun M μ6 hM h => ?_) (fun _ _ _ _ f => f.elim)
    refine L_ps c75 (n := 2) (pc1 := 18) (ls1 := [jR v0, jR v1, jI (wr (v2 + 1))]) (st1 := []) rfl ?_
    exact hW18 _ _ _ hM h
  · refine L_ps c75 (n := 2) (pc1 := 47) (ls1 := [jR v0, jR v1, jI 0]) (st1 := []) rfl ?_
    exact k_State_copyFrom_l47 hv0 hv1 hM hQ h
theorem k_State_copyFrom_l18 {E : JE2} {v0 : Nat} {v1 : Nat} {v2 : Int} {μ : Mem} {M : JM} {P : JO → JM → Prop} {Q : Mem → Prop} (hv0 : rt v0 = 7) (hv1 : rt v1 = 7) (hM : Rl E M μ) (hQ : ∀ (M1 : JM) (μ1 : Mem), Rl E M1 μ1 → Q μ1 → P (.inl none) M1) (h : d_State_copyFrom_l18 v0 v1 v2 μ Q) : JX 75 18 [jR v0, jR v1, jI v2] [] M P := by
  refine h (fun v2 μ => ∀ (M : JM), Rl E M μ → JX 75 18 [jR v0, jR v1, jI v2] [] M P) ?_ _ hM
  intro v2 μ h M hM
  exact k_State_copyFrom_b18 hv0 hv1 hM hQ (fun v2 M μ hM h => h M hM) h
theorem k_State_copyFrom {E : JE2} {v0 : Nat} {v1 : Nat} {μ : Mem} {M : JM} {Q : Mem → Prop} (hv0 : rt v0 = 7) (hv1 : rt v1 = 7) (hM : Rl E M μ) (h : d_State_copyFrom v0 v1 μ Q) : JX 75 0 (jargs 75 [jR v0, jR v1]) [] M (PO E (QV Q) XN) := by
  unfold d_State_copyFrom at h
  show JX 75 0 [jR v0, jR v1, jU] [] M (PO E (QV Q) XN)
  generalize hP : PO E (QV Q) XN = P
  have hQ : ∀ (M1 : JM) (μ1 : Mem), Rl E M1 μ1 → Q μ1 → P (.inl none) M1 := by rw [← hP]; exact fun M1 μ1 a b => ⟨μ1, a, rfl, b⟩
  clear hP
  refine L_ps c75 (n := 2) (pc1 := 2) (ls1 := [jR v0, jR v1, jU]) (st1 := [jR v1, jR v0]) rfl ?_
  refine L_getI (c75 2 rfl) hM hv1 rfl ?_
  refine L_putI (c75 5 rfl) hM hv0 rfl (fun M hM => ?_)
  refine L_ps c75 (n := 2) (pc1 := 10) (ls1 := [jR v0, jR v1, jU]) (st1 := [jR v1, jR v0]) rfl ?_
  refine L_getI (c75 10 rfl) hM hv1 rfl ?_
  refine L_putI (c75 13 rfl) hM hv0 rfl (fun M hM => ?_)
  refine L_ps c75 (n := 2) (pc1 := 18) (ls1 := [jR v0, jR v1, jI 0]) (st1 := []) rfl ?_
  exact k_State_copyFrom_l18 hv0 hv1 hM hQ h
theorem k_OB_adopt {E : JE2} {v1 : Nat} {μ : Mem} {M : JM} {Q : Mem → Prop} (hv1 : rt v1 = 7) (hM : Rl E M μ) (h : d_OB_adopt v1 μ Q) : JX 74 0 (jargs 74 [jR 0, jR v1]) [] M (PO E (QV Q) XN) := by
  unfold d_OB_adopt at h
  show JX 74 0 [jR 0, jR v1] [] M (PO E (QV Q) XN)
  generalize hP : PO E (QV Q) XN = P
  have hQ : ∀ (M1 : JM) (μ1 : Mem), Rl E M1 μ1 → Q μ1 → P (.inl none) M1 := by rw [← hP]; exact fun M1 μ1 a b => ⟨μ1, a, rfl, b⟩
  clear hP
  refine L_ps c74 (n := 1) (pc1 := 1) (ls1 := [jR 0, jR v1]) (st1 := [jR 0]) rfl ?_
  refine L_getP (d := 5) (c74 1 rfl) hM rt0 rfl ?_
  refine L_ps c74 (n := 1) (pc1 := 5) (ls1 := [jR 0, jR v1]) (st1 := [jR v1, jR 5]) rfl ?_
  refine L_cV (c74 5 rfl) (js_v rfl ((Rl_tag hM rt5 (by decide)).trans js75)) hh74 (k_State_copyFrom rt5 hv1 hM h) (fun M μ2 hM h => ?_) (fun _ _ _ _ f => f.elim)
  refine L_ps c74 (n := 1) (pc1 := 9) (ls1 := [jR 0, jR v1]) (st1 := [jR 0]) rfl ?_
  refine L_getP (d := 247) (c74 9 rfl) hM rt0 rfl ?_
  refine L_ps c74 (n := 1) (pc1 := 13) (ls1 := [jR 0, jR v1]) (st1 := [jI 0, jR 247]) rfl ?_
  refine L_putI (c74 13 rfl) hM rt247 rfl (fun M hM => ?_)
  refine L_ps c74 (n := 1) (pc1 := 17) (ls1 := [jR 0, jR v1]) (st1 := [jR 0]) rfl ?_
  refine L_getP (d := 139) (c74 17 rfl) hM rt0 rfl ?_
  refine L_ps c74 (n := 1) (pc1 := 21) (ls1 := [jR 0, jR v1]) (st1 := [jI 1, jR 139]) rfl ?_
  refine L_putB (t := 2) (c74 21 rfl) hM rt139 rfl (Or.inr rfl) (fun M hM => ?_)
  exact L_end (c74 24 rfl) rfl (hQ _ _ hM h)
theorem k_OB_parseSystem_j15 {E : JE2} {μ : Mem} {M : JM} {P : JO → JM → Prop} {g0 : JV} {g1 : JV} {g2 : JV} {Q : Int → Mem → Prop} {X : Nat → Mem → Prop} (hg1 : jc2 g1 = false) (hM : Rl E M μ) (hQ : ∀ (r : Int) (M1 : JM) (μ1 : Mem), Rl E M1 μ1 → Q r μ1 → P (.inl (some (.inl r))) M1) (hX : ∀ (k : Nat) (M1 : JM) (μ1 : Mem), Rl E M1 μ1 → X k μ1 → P (.inr k) M1) (h : d_OB_parseSystem_j15 μ Q X) : JX 13 15 [g0, g1, g2] [] M P := by
  unfold d_OB_parseSystem_j15 at h
  exact L_throw (k := 1) (c13 15 rfl) (hX _ _ _ (Rl_throw hM) h)
theorem k_OB_parseSystem {E : JE2} {v1 : Int} {μ : Mem} {M : JM} {Q : Int → Mem → Prop} {X : Nat → Mem → Prop} (hM : Rl E M μ) (h : d_OB_parseSystem v1 μ Q X) : JX 13 0 (jargs 13 [jR 0, jI v1]) [] M (PO E (QI Q) X) := by
  unfold d_OB_parseSystem at h
  show JX 13 0 [jR 0, jI v1, jU] [] M (PO E (QI Q) X)
  generalize hP : PO E (QI Q) X = P
  have hQ : ∀ (r : Int) (M1 : JM) (μ1 : Mem), Rl E M1 μ1 → Q r μ1 → P (.inl (some (.inl r))) M1 := by rw [← hP]; exact fun r M1 μ1 a b => ⟨μ1, a, r, rfl, b⟩
  have hX : ∀ (k : Nat) (M1 : JM) (μ1 : Mem), Rl E M1 μ1 → X k μ1 → P (.inr k) M1 := by rw [← hP]; exact fun k M1 μ1 a b => ⟨μ1, a, b⟩
  clear hP
  refine L_ps c13 (n := 1) (pc1 := 1) (ls1 := [jR 0, jI v1, jU]) (st1 := [jI v1]) rfl ?_
  refine L_br (p1 := 15) (p2 := 4) (c13 1 rfl) rfl jc_lt h (fun h => ?_) (fun h => ?_)
  · exact k_OB_parseSystem_j15 rfl hM hQ hX h
  · refine L_ps c13 (n := 2) (pc1 := 6) (ls1 := [jR 0, jI v1, jU]) (st1 := [jR 0, jI v1]) rfl ?_
    refine L_getP (d := 72) (c13 6 rfl) hM rt0 rfl ?_
    refine L_getI (c13 9 rfl) hM rt72 rfl ?_
    refine L_nb (p1 := 23) (p2 := 15) (c13 12 rfl) rfl jc_le h (fun h => ?_) (fun h => ?_)
    · exact k_OB_parseSystem_j15 rfl hM hQ hX h
    · refine L_ps c13 (n := 1) (pc1 := 24) (ls1 := [jR 0, jI v1, jU]) (st1 := [jR 0]) rfl ?_
      refine L_getP (d := 72) (c13 24 rfl) hM rt0 rfl ?_
      refine L_ps c13 (n := 1) (pc1 := 28) (ls1 := [jR 0, jI v1, jU]) (st1 := [jI v1, jR 72]) rfl ?_
      refine L_cB (c13 28 rfl) (js_v rfl ((Rl_tag hM rt72 (by decide)).trans js14)) hh13 (k_Parser_run hM h) (fun r1 M μ2 hM h => ?_) (fun _ _ _ _ f => f.elim)
      refine L_ps c13 (n := 2) (pc1 := 33) (ls1 := [jR 0, jI v1, jI (b2i r1)]) (st1 := [jR 0]) rfl ?_
      refine L_getP (d := 72) (c13 33 rfl) hM rt0 rfl ?_
      refine L_ps c13 (n := 1) (pc1 := 37) (ls1 := [jR 0, jI v1, jI (b2i r1)]) (st1 := [jI 0, jR 72]) rfl ?_
      refine L_putI (c13 37 rfl) hM rt72 rfl (fun M hM => ?_)
      refine L_ps c13 (n := 1) (pc1 := 41) (ls1 := [jR 0, jI v1, jI (b2i r1)]) (st1 := [jI (b2i r1)]) rfl ?_
      refine L_br (p1 := 52) (p2 := 44) (c13 41 rfl) rfl jc_neb h (fun h => ?_) (fun h => ?_)
      · refine L_ps c13 (n := 2) (pc1 := 54) (ls1 := [jR 0, jI v1, jI (b2i r1)]) (st1 := [jI 1, jR 0]) rfl ?_
        refine L_putB (t := 10) (c13 54 rfl) hM rt0 rfl (Or.inr rfl) (fun M hM => ?_)
        refine L_ps c13 (n := 1) (pc1 := 58) (ls1 := [jR 0, jI v1, jI (b2i r1)]) (st1 := [jR 0]) rfl ?_
        refine L_getP (d := 1) (c13 58 rfl) hM rt0 rfl ?_
        refine L_ps c13 (n := 1) (pc1 := 62) (ls1 := [jR 0, jI v1, jI (b2i r1)]) (st1 := [jR 0, jR 1]) rfl ?_
        refine L_getP (d := 72) (c13 62 rfl) hM rt0 rfl ?_
        refine L_getP (d := 1) (c13 65 rfl) hM rt72 rfl ?_
        refine L_cV (c13 68 rfl) (js_v rfl ((Rl_tag hM rt1 (by decide)).trans js73)) hh13 (k_Signature_copyFrom rt1 rt73 hM h) (fun M μ4 hM h => ?_) (fun _ _ _ _ f => f.elim)
        refine L_ps c13 (n := 2) (pc1 := 73) (ls1 := [jR 0, jI v1, jI (b2i r1)]) (st1 := [jR 0, jR 0]) rfl ?_
        refine L_getP (d := 72) (c13 73 rfl) hM rt0 rfl ?_
        refine L_getP (d := 5) (c13 76 rfl) hM rt72 rfl ?_
        refine L_cV (c13 79 rfl) (js_v rfl ((Rl_tag hM rt0 (by decide)).trans js74)) hh13 (k_OB_adopt rt77 hM h) (fun M μ6 hM h => ?_) (fun _ _ _ _ f => f.elim)
        refine L_ps c13 (n := 2) (pc1 := 84) (ls1 := [jR 0, jI v1, jI (b2i r1)]) (st1 := [jI 0, jR 0]) rfl ?_
        refine L_putB (t := 10) (c13 84 rfl) hM rt0 rfl (Or.inl rfl) (fun M hM => ?_)
        refine L_ps c13 (n := 2) (pc1 := 89) (ls1 := [jR 0, jI v1, jI (b2i r1)]) (st1 := [jI 0, jR 0]) rfl ?_
        refine L_putB (t := 10) (c13 89 rfl) hM rt0 rfl (Or.inl rfl) (fun M hM => ?_)
        refine L_ps c13 (n := 1) (pc1 := 93) (ls1 := [jR 0, jI v1, jI (b2i r1)]) (st1 := [jR 0]) rfl ?_
        refine L_getP (d := 5) (c13 93 rfl) hM rt0 rfl ?_
        refine L_getI (c13 96 rfl) hM rt5 rfl ?_
        exact L_retI (c13 99 rfl) (hQ _ _ _ hM h)
      · exact L_throw (k := 2) (c13 44 rfl) (hX _ _ _ (Rl_throw hM) h)
theorem k_OB_requireSystem {E : JE2} {μ : Mem} {M : JM} {Q : Mem → Prop} {X : Nat → Mem → Prop} (hM : Rl E M μ) (h : d_OB_requireSystem μ Q X) : JX 78 0 (jargs 78 [jR 0]) [] M (PO E (QV Q) X) := by
  unfold d_OB_requireSystem at h
  show JX 78 0 [jR 0] [] M (PO E (QV Q) X)
  generalize hP : PO E (QV Q) X = P
  have hQ : ∀ (M1 : JM) (μ1 : Mem), Rl E M1 μ1 → Q μ1 → P (.inl none) M1 := by rw [← hP]; exact fun M1 μ1 a b => ⟨μ1, a, rfl, b⟩
  have hX : ∀ (k : Nat) (M1 : JM) (μ1 : Mem), Rl E M1 μ1 → X k μ1 → P (.inr k) M1 := by rw [← hP]; exact fun k M1 μ1 a b => ⟨μ1, a, b⟩
  clear hP
  refine L_ps c78 (n := 1) (pc1 := 1) (ls1 := [jR 0]) (st1 := [jR 0]) rfl ?_
  refine L_getI (c78 1 rfl) hM rt0 rfl ?_
  refine L_nb (p1 := 15) (p2 := 7) (c78 4 rfl) rfl jc_ne h (fun h => ?_) (fun h => ?_)
  · exact L_throw (k := 0) (c78 7 rfl) (hX _ _ _ (Rl_throw hM) h)
  · exact L_end (c78 15 rfl) rfl (hQ _ _ hM h)
theorem k_OB_ruleCount {E : JE2} {μ : Mem} {M : JM} {Q : Int → Mem → Prop} {X : Nat → Mem → Prop} (hM : Rl E M μ) (h : d_OB_ruleCount μ Q X) : JX 77 0 (jargs 77 [jR 0]) [] M (PO E (QI Q) X) := by
  unfold d_OB_ruleCount at h
  show JX 77 0 [jR 0] [] M (PO E (QI Q) X)
  generalize hP : PO E (QI Q) X = P
  have hQ : ∀ (r : Int) (M1 : JM) (μ1 : Mem), Rl E M1 μ1 → Q r μ1 → P (.inl (some (.inl r))) M1 := by rw [← hP]; exact fun r M1 μ1 a b => ⟨μ1, a, r, rfl, b⟩
  have hX : ∀ (k : Nat) (M1 : JM) (μ1 : Mem), Rl E M1 μ1 → X k μ1 → P (.inr k) M1 := by rw [← hP]; exact fun k M1 μ1 a b => ⟨μ1, a, b⟩
  clear hP
  refine L_ps c77 (n := 1) (pc1 := 1) (ls1 := [jR 0]) (st1 := [jR 0]) rfl ?_
  refine L_cV (c77 1 rfl) (js_v rfl ((Rl_tag hM rt0 (by decide)).trans js78)) hh77 (k_OB_requireSystem hM h) (fun M μ2 hM h => ?_) (fun k M μx hM hx => hX _ _ _ hM hx)
  refine L_ps c77 (n := 1) (pc1 := 5) (ls1 := [jR 0]) (st1 := [jR 0]) rfl ?_
  refine L_getP (d := 5) (c77 5 rfl) hM rt0 rfl ?_
  refine L_getI (c77 8 rfl) hM rt5 rfl ?_
  exact L_retI (c77 11 rfl) (hQ _ _ _ hM h)
theorem k_OB_termCount {E : JE2} {μ : Mem} {M : JM} {Q : Int → Mem → Prop} {X : Nat → Mem → Prop} (hM : Rl E M μ) (h : d_OB_termCount μ Q X) : JX 79 0 (jargs 79 [jR 0]) [] M (PO E (QI Q) X) := by
  unfold d_OB_termCount at h
  show JX 79 0 [jR 0] [] M (PO E (QI Q) X)
  generalize hP : PO E (QI Q) X = P
  have hQ : ∀ (r : Int) (M1 : JM) (μ1 : Mem), Rl E M1 μ1 → Q r μ1 → P (.inl (some (.inl r))) M1 := by rw [← hP]; exact fun r M1 μ1 a b => ⟨μ1, a, r, rfl, b⟩
  have hX : ∀ (k : Nat) (M1 : JM) (μ1 : Mem), Rl E M1 μ1 → X k μ1 → P (.inr k) M1 := by rw [← hP]; exact fun k M1 μ1 a b => ⟨μ1, a, b⟩
  clear hP
  refine L_ps c79 (n := 1) (pc1 := 1) (ls1 := [jR 0]) (st1 := [jR 0]) rfl ?_
  refine L_cV (c79 1 rfl) (js_v rfl ((Rl_tag hM rt0 (by decide)).trans js78)) hh79 (k_OB_requireSystem hM h) (fun M μ2 hM h => ?_) (fun k M μx hM hx => hX _ _ _ hM hx)
  refine L_ps c79 (n := 1) (pc1 := 5) (ls1 := [jR 0]) (st1 := [jR 0]) rfl ?_
  refine L_getP (d := 5) (c79 5 rfl) hM rt0 rfl ?_
  refine L_getI (c79 8 rfl) hM rt5 rfl ?_
  exact L_retI (c79 11 rfl) (hQ _ _ _ hM h)
theorem k_OB_requireIndex_j9 {E : JE2} {μ : Mem} {M : JM} {P : JO → JM → Prop} {g0 : JV} {g1 : JV} {g2 : JV} {Q : Mem → Prop} {X : Nat → Mem → Prop} (hM : Rl E M μ) (hQ : ∀ (M1 : JM) (μ1 : Mem), Rl E M1 μ1 → Q μ1 → P (.inl none) M1) (hX : ∀ (k : Nat) (M1 : JM) (μ1 : Mem), Rl E M1 μ1 → X k μ1 → P (.inr k) M1) (h : d_OB_requireIndex_j9 μ Q X) : JX 82 9 [g0, g1, g2] [] M P := by
  unfold d_OB_requireIndex_j9 at h
  exact L_throw (k := 1) (c82 9 rfl) (hX _ _ _ (Rl_throw hM) h)
theorem k_OB_requireIndex {E : JE2} {v1 : Int} {v2 : Int} {μ : Mem} {M : JM} {Q : Mem → Prop} {X : Nat → Mem → Prop} (hM : Rl E M μ) (h : d_OB_requireIndex v1 v2 μ Q X) : JX 82 0 (jargs 82 [jR 0, jI v1, jI v2]) [] M (PO E (QV Q) X) := by
  unfold d_OB_requireIndex at h
  show JX 82 0 [jR 0, jI v1, jI v2] [] M (PO E (QV Q) X)
  generalize hP : PO E (QV Q) X = P
  have hQ : ∀ (M1 : JM) (μ1 : Mem), Rl E M1 μ1 → Q μ1 → P (.inl none) M1 := by rw [← hP]; exact fun M1 μ1 a b => ⟨μ1, a, rfl, b⟩
  have hX : ∀ (k : Nat) (M1 : JM) (μ1 : Mem), Rl E M1 μ1 → X k μ1 → P (.inr k) M1 := by rw [← hP]; exact fun k M1 μ1 a b => ⟨μ1, a, b⟩
  clear hP
  refine L_ps c82 (n := 1) (pc1 := 1) (ls1 := [jR 0, jI v1, jI v2]) (st1 := [jI v1]) rfl ?_
  refine L_br (p1 := 9) (p2 := 4) (c82 1 rfl) rfl jc_lt h (fun h => ?_) (fun h => ?_)
  · exact k_OB_requireIndex_j9 hM hQ hX h
  · refine L_ps c82 (n := 2) (pc1 := 6) (ls1 := [jR 0, jI v1, jI v2]) (st1 := [jI v2, jI v1]) rfl ?_
    refine L_br (p1 := 17) (p2 := 9) (c82 6 rfl) rfl jc_lt h (fun h => ?_) (fun h => ?_)
    · exact L_end (c82 17 rfl) rfl (hQ _ _ hM h)
    · exact k_OB_requireIndex_j9 hM hQ hX h
theorem k_OB_requireTerm {E : JE2} {v1 : Int} {μ : Mem} {M : JM} {Q : Nat → Mem → Prop} {X : Nat → Mem → Prop} (hM : Rl E M μ) (h : d_OB_requireTerm v1 μ Q X) : JX 81 0 (jargs 81 [jR 0, jI v1]) [] M (PO E (QR 8 Q) X) := by
  unfold d_OB_requireTerm at h
  show JX 81 0 [jR 0, jI v1] [] M (PO E (QR 8 Q) X)
  generalize hP : PO E (QR 8 Q) X = P
  have hQ : ∀ (r : Nat) (M1 : JM) (μ1 : Mem), Rl E M1 μ1 → rt r = 8 → Q r μ1 → P (.inl (some (.inr (.inl r)))) M1 := by rw [← hP]; exact fun r M1 μ1 a c b => ⟨μ1, a, r, rfl, c, b⟩
  have hX : ∀ (k : Nat) (M1 : JM) (μ1 : Mem), Rl E M1 μ1 → X k μ1 → P (.inr k) M1 := by rw [← hP]; exact fun k M1 μ1 a b => ⟨μ1, a, b⟩
  clear hP
  refine L_ps c81 (n := 1) (pc1 := 1) (ls1 := [jR 0, jI v1]) (st1 := [jR 0]) rfl ?_
  refine L_cV (c81 1 rfl) (js_v rfl ((Rl_tag hM rt0 (by decide)).trans js78)) hh81 (k_OB_requireSystem hM h) (fun M μ2 hM h => ?_) (fun k M μx hM hx => hX _ _ _ hM hx)
  refine L_ps c81 (n := 3) (pc1 := 7) (ls1 := [jR 0, jI v1]) (st1 := [jR 0, jI v1, jR 0]) rfl ?_
  refine L_getP (d := 5) (c81 7 rfl) hM rt0 rfl ?_
  refine L_getI (c81 10 rfl) hM rt5 rfl ?_
  refine L_cV (c81 13 rfl) (js_v rfl ((Rl_tag hM rt0 (by decide)).trans js82)) hh81 (k_OB_requireIndex hM h) (fun M μ4 hM h => ?_) (fun k M μx hM hx => hX _ _ _ hM hx)
  refine L_ps c81 (n := 1) (pc1 := 17) (ls1 := [jR 0, jI v1]) (st1 := [jR 0]) rfl ?_
  refine L_getP (d := 5) (c81 17 rfl) hM rt0 rfl ?_
  refine L_ps c81 (n := 1) (pc1 := 21) (ls1 := [jR 0, jI v1]) (st1 := [jI v1, jR 5]) rfl ?_
  refine L_cpR (c81 21 rfl) (js_v rfl ((Rl_tag hM rt5 (by decide)).trans js54)) hh81 (k_State_term rt5 hM h) (fun r5 M hM hr5 h => ?_) (fun _ _ _ _ f => f.elim)
  exact L_end (c81 24 rfl) rfl (hQ _ _ _ hM hr5 h)
theorem k_OB_termSize {E : JE2} {v1 : Int} {μ : Mem} {M : JM} {Q : Int → Mem → Prop} {X : Nat → Mem → Prop} (hM : Rl E M μ) (h : d_OB_termSize v1 μ Q X) : JX 80 0 (jargs 80 [jR 0, jI v1]) [] M (PO E (QI Q) X) := by
  unfold d_OB_termSize at h
  show JX 80 0 [jR 0, jI v1] [] M (PO E (QI Q) X)
  generalize hP : PO E (QI Q) X = P
  have hQ : ∀ (r : Int) (M1 : JM) (μ1 : Mem), Rl E M1 μ1 → Q r μ1 → P (.inl (some (.inl r))) M1 := by rw [← hP]; exact fun r M1 μ1 a b => ⟨μ1, a, r, rfl, b⟩
  have hX : ∀ (k : Nat) (M1 : JM) (μ1 : Mem), Rl E M1 μ1 → X k μ1 → P (.inr k) M1 := by rw [← hP]; exact fun k M1 μ1 a b => ⟨μ1, a, b⟩
  clear hP
  refine L_ps c80 (n := 2) (pc1 := 2) (ls1 := [jR 0, jI v1]) (st1 := [jI v1, jR 0]) rfl ?_
  refine L_cR (c80 2 rfl) (js_v rfl ((Rl_tag hM rt0 (by decide)).trans js81)) hh80 (k_OB_requireTerm hM h) (fun r1 M μ2 hM hr1 h => ?_) (fun k M μx hM hx => hX _ _ _ hM hx)
  refine L_getI (c80 5 rfl) hM hr1 rfl ?_
  exact L_retI (c80 8 rfl) (hQ _ _ _ hM h)
theorem k_OB_requireNode {E : JE2} {v1 : Int} {v2 : Int} {μ : Mem} {M : JM} {Q : Nat → Mem → Prop} {X : Nat → Mem → Prop} (hM : Rl E M μ) (h : d_OB_requireNode v1 v2 μ Q X) : JX 84 0 (jargs 84 [jR 0, jI v1, jI v2]) [] M (PO E (QR 8 Q) X) := by
  unfold d_OB_requireNode at h
  show JX 84 0 [jR 0, jI v1, jI v2, jU] [] M (PO E (QR 8 Q) X)
  generalize hP : PO E (QR 8 Q) X = P
  have hQ : ∀ (r : Nat) (M1 : JM) (μ1 : Mem), Rl E M1 μ1 → rt r = 8 → Q r μ1 → P (.inl (some (.inr (.inl r)))) M1 := by rw [← hP]; exact fun r M1 μ1 a c b => ⟨μ1, a, r, rfl, c, b⟩
  have hX : ∀ (k : Nat) (M1 : JM) (μ1 : Mem), Rl E M1 μ1 → X k μ1 → P (.inr k) M1 := by rw [← hP]; exact fun k M1 μ1 a b => ⟨μ1, a, b⟩
  clear hP
  refine L_ps c84 (n := 2) (pc1 := 2) (ls1 := [jR 0, jI v1, jI v2, jU]) (st1 := [jI v1, jR 0]) rfl ?_
  refine L_cR (c84 2 rfl) (js_v rfl ((Rl_tag hM rt0 (by decide)).trans js81)) hh84 (k_OB_requireTerm hM h) (fun r1 M μ2 hM hr1 h => ?_) (fun k M μx hM hx => hX _ _ _ hM hx)
  refine L_ps c84 (n := 4) (pc1 := 9) (ls1 := [jR 0, jI v1, jI v2, jR r1]) (st1 := [jR r1, jI v2, jR 0]) rfl ?_
  refine L_getI (c84 9 rfl) hM hr1 rfl ?_
  refine L_cV (c84 12 rfl) (js_v rfl ((Rl_tag hM rt0 (by decide)).trans js82)) hh84 (k_OB_requireIndex hM h) (fun M μ4 hM h => ?_) (fun k M μx hM hx => hX _ _ _ hM hx)
  refine L_ps c84 (n := 1) (pc1 := 16) (ls1 := [jR 0, jI v1, jI v2, jR r1]) (st1 := [jR r1]) rfl ?_
  exact L_end (c84 16 rfl) rfl (hQ _ _ _ hM hr1 h)
theorem k_OB_subtermSize {E : JE2} {v1 : Int} {v2 : Int} {μ : Mem} {M : JM} {Q : Int → Mem → Prop} {X : Nat → Mem → Prop} (hM : Rl E M μ) (h : d_OB_subtermSize v1 v2 μ Q X) : JX 83 0 (jargs 83 [jR 0, jI v1, jI v2]) [] M (PO E (QI Q) X) := by
  unfold d_OB_subtermSize at h
  show JX 83 0 [jR 0, jI v1, jI v2] [] M (PO E (QI Q) X)
  generalize hP : PO E (QI Q) X = P
  have hQ : ∀ (r : Int) (M1 : JM) (μ1 : Mem), Rl E M1 μ1 → Q r μ1 → P (.inl (some (.inl r))) M1 := by rw [← hP]; exact fun r M1 μ1 a b => ⟨μ1, a, r, rfl, b⟩
  have hX : ∀ (k : Nat) (M1 : JM) (μ1 : Mem), Rl E M1 μ1 → X k μ1 → P (.inr k) M1 := by rw [← hP]; exact fun k M1 μ1 a b => ⟨μ1, a, b⟩
  clear hP
  refine L_ps c83 (n := 3) (pc1 := 3) (ls1 := [jR 0, jI v1, jI v2]) (st1 := [jI v2, jI v1, jR 0]) rfl ?_
  refine L_cR (c83 3 rfl) (js_v rfl ((Rl_tag hM rt0 (by decide)).trans js84)) hh83 (k_OB_requireNode hM h) (fun r1 M μ2 hM hr1 h => ?_) (fun k M μx hM hx => hX _ _ _ hM hx)
  refine L_ps c83 (n := 1) (pc1 := 7) (ls1 := [jR 0, jI v1, jI v2]) (st1 := [jI v2, jR r1]) rfl ?_
  refine L_cpI (c83 7 rfl) (js_v rfl ((Rl_tag hM hr1 (by decide)).trans js68)) hh83 (k_Term_end hr1 hM h) (fun r3 M hM h => ?_) (fun _ _ _ _ f => f.elim)
  refine L_ps c83 (n := 2) (pc1 := 12) (ls1 := [jR 0, jI v1, jI v2]) (st1 := [jI (wr (r3 - v2))]) rfl ?_
  exact L_retI (c83 12 rfl) (hQ _ _ _ hM h)
theorem k_OB_requireRule {E : JE2} {v1 : Int} {μ : Mem} {M : JM} {Q : Nat → Mem → Prop} {X : Nat → Mem → Prop} (hM : Rl E M μ) (h : d_OB_requireRule v1 μ Q X) : JX 86 0 (jargs 86 [jR 0, jI v1]) [] M (PO E (QR 5 Q) X) := by
  unfold d_OB_requireRule at h
  show JX 86 0 [jR 0, jI v1] [] M (PO E (QR 5 Q) X)
  generalize hP : PO E (QR 5 Q) X = P
  have hQ : ∀ (r : Nat) (M1 : JM) (μ1 : Mem), Rl E M1 μ1 → rt r = 5 → Q r μ1 → P (.inl (some (.inr (.inl r)))) M1 := by rw [← hP]; exact fun r M1 μ1 a c b => ⟨μ1, a, r, rfl, c, b⟩
  have hX : ∀ (k : Nat) (M1 : JM) (μ1 : Mem), Rl E M1 μ1 → X k μ1 → P (.inr k) M1 := by rw [← hP]; exact fun k M1 μ1 a b => ⟨μ1, a, b⟩
  clear hP
  refine L_ps c86 (n := 1) (pc1 := 1) (ls1 := [jR 0, jI v1]) (st1 := [jR 0]) rfl ?_
  refine L_cV (c86 1 rfl) (js_v rfl ((Rl_tag hM rt0 (by decide)).trans js78)) hh86 (k_OB_requireSystem hM h) (fun M μ2 hM h => ?_) (fun k M μx hM hx => hX _ _ _ hM hx)
  refine L_ps c86 (n := 3) (pc1 := 7) (ls1 := [jR 0, jI v1]) (st1 := [jR 0, jI v1, jR 0]) rfl ?_
  refine L_getP (d := 5) (c86 7 rfl) hM rt0 rfl ?_
  refine L_getI (c86 10 rfl) hM rt5 rfl ?_
  refine L_cV (c86 13 rfl) (js_v rfl ((Rl_tag hM rt0 (by decide)).trans js82)) hh86 (k_OB_requireIndex hM h) (fun M μ4 hM h => ?_) (fun k M μx hM hx => hX _ _ _ hM hx)
  refine L_ps c86 (n := 1) (pc1 := 17) (ls1 := [jR 0, jI v1]) (st1 := [jR 0]) rfl ?_
  refine L_getP (d := 5) (c86 17 rfl) hM rt0 rfl ?_
  refine L_ps c86 (n := 1) (pc1 := 21) (ls1 := [jR 0, jI v1]) (st1 := [jI v1, jR 5]) rfl ?_
  refine L_cpR (c86 21 rfl) (js_v rfl ((Rl_tag hM rt5 (by decide)).trans js39)) hh86 (k_State_rule rt5 hM h) (fun r5 M hM hr5 h => ?_) (fun _ _ _ _ f => f.elim)
  exact L_end (c86 24 rfl) rfl (hQ _ _ _ hM hr5 h)
theorem k_OB_matches {E : JE2} {v1 : Int} {v2 : Int} {v3 : Int} {μ : Mem} {M : JM} {Q : Bool → Mem → Prop} {X : Nat → Mem → Prop} (hM : Rl E M μ) (h : d_OB_matches v1 v2 v3 μ Q X) : JX 85 0 (jargs 85 [jR 0, jI v1, jI v2, jI v3]) [] M (PO E (QB Q) X) := by
  unfold d_OB_matches at h
  show JX 85 0 [jR 0, jI v1, jI v2, jI v3, jU] [] M (PO E (QB Q) X)
  generalize hP : PO E (QB Q) X = P
  have hQ : ∀ (r : Bool) (M1 : JM) (μ1 : Mem), Rl E M1 μ1 → Q r μ1 → P (.inl (some (.inl (b2i r)))) M1 := by rw [← hP]; exact fun r M1 μ1 a b => ⟨μ1, a, r, rfl, b⟩
  have hX : ∀ (k : Nat) (M1 : JM) (μ1 : Mem), Rl E M1 μ1 → X k μ1 → P (.inr k) M1 := by rw [← hP]; exact fun k M1 μ1 a b => ⟨μ1, a, b⟩
  clear hP
  refine L_ps c85 (n := 2) (pc1 := 2) (ls1 := [jR 0, jI v1, jI v2, jI v3, jU]) (st1 := [jI v1, jR 0]) rfl ?_
  refine L_cR (c85 2 rfl) (js_v rfl ((Rl_tag hM rt0 (by decide)).trans js86)) hh85 (k_OB_requireRule hM h) (fun r1 M μ2 hM hr1 h => ?_) (fun k M μx hM hx => hX _ _ _ hM hx)
  refine L_ps c85 (n := 2) (pc1 := 8) (ls1 := [jR 0, jI v1, jI v2, jI v3, jR r1]) (st1 := [jR 0]) rfl ?_
  refine L_getP (d := 57) (c85 8 rfl) hM rt0 rfl ?_
  refine L_ps c85 (n := 4) (pc1 := 16) (ls1 := [jR 0, jI v1, jI v2, jI v3, jR r1]) (st1 := [jI v3, jI v2, jR 0, jR r1, jR 57]) rfl ?_
  refine L_cR (c85 16 rfl) (js_v rfl ((Rl_tag hM rt0 (by decide)).trans js84)) hh85 (k_OB_requireNode hM h) (fun r3 M μ4 hM hr3 h => ?_) (fun k M μx hM hx => hX _ _ _ hM hx)
  refine L_ps c85 (n := 1) (pc1 := 20) (ls1 := [jR 0, jI v1, jI v2, jI v3, jR r1]) (st1 := [jI v3, jR r3, jR r1, jR 57]) rfl ?_
  refine L_cB (c85 20 rfl) (js_v rfl ((Rl_tag hM rt57 (by decide)).trans js65)) hh85 (k_Rewriter_match rt57 hr1 hr3 hM h) (fun r5 M μ6 hM h => ?_) (fun _ _ _ _ f => f.elim)
  exact L_retB (c85 23 rfl) (bz_b _) (hQ _ _ _ hM h)
theorem k_OB_ruleAt {E : JE2} {v1 : Int} {v2 : Int} {μ : Mem} {M : JM} {Q : Int → Mem → Prop} {X : Nat → Mem → Prop} (hM : Rl E M μ) (h : d_OB_ruleAt v1 v2 μ Q X) : JX 87 0 (jargs 87 [jR 0, jI v1, jI v2]) [] M (PO E (QI Q) X) := by
  unfold d_OB_ruleAt at h
  show JX 87 0 [jR 0, jI v1, jI v2] [] M (PO E (QI Q) X)
  generalize hP : PO E (QI Q) X = P
  have hQ : ∀ (r : Int) (M1 : JM) (μ1 : Mem), Rl E M1 μ1 → Q r μ1 → P (.inl (some (.inl r))) M1 := by rw [← hP]; exact fun r M1 μ1 a b => ⟨μ1, a, r, rfl, b⟩
  have hX : ∀ (k : Nat) (M1 : JM) (μ1 : Mem), Rl E M1 μ1 → X k μ1 → P (.inr k) M1 := by rw [← hP]; exact fun k M1 μ1 a b => ⟨μ1, a, b⟩
  clear hP
  refine L_ps c87 (n := 1) (pc1 := 1) (ls1 := [jR 0, jI v1, jI v2]) (st1 := [jR 0]) rfl ?_
  refine L_getP (d := 57) (c87 1 rfl) hM rt0 rfl ?_
  refine L_ps c87 (n := 1) (pc1 := 5) (ls1 := [jR 0, jI v1, jI v2]) (st1 := [jR 0, jR 57]) rfl ?_
  refine L_getP (d := 5) (c87 5 rfl) hM rt0 rfl ?_
  refine L_ps c87 (n := 3) (pc1 := 11) (ls1 := [jR 0, jI v1, jI v2]) (st1 := [jI v2, jI v1, jR 0, jR 5, jR 57]) rfl ?_
  refine L_cR (c87 11 rfl) (js_v rfl ((Rl_tag hM rt0 (by decide)).trans js84)) hh87 (k_OB_requireNode hM h) (fun r1 M μ2 hM hr1 h => ?_) (fun k M μx hM hx => hX _ _ _ hM hx)
  refine L_ps c87 (n := 1) (pc1 := 15) (ls1 := [jR 0, jI v1, jI v2]) (st1 := [jI v2, jR r1, jR 5, jR 57]) rfl ?_
  refine L_cI (c87 15 rfl) (js_v rfl ((Rl_tag hM rt57 (by decide)).trans js64)) hh87 (k_Rewriter_firstRule rt57 rt5 hr1 hM h) (fun r3 M μ4 hM h => ?_) (fun _ _ _ _ f => f.elim)
  exact L_retI (c87 18 rfl) (hQ _ _ _ hM h)
theorem k_Rewriter_countRedexes_j29 {E : JE2} {v0 : Nat} {v1 : Nat} {v2 : Nat} {v3 : Int} {v4 : Int} {μ : Mem} {M : JM} {P : JO → JM → Prop} {W5 : Int → Int → Mem → Prop} {Q : Int → Mem → Prop} (hv0 : rt v0 = 4) (hv1 : rt v1 = 7) (hv2 : rt v2 = 8) (hM : Rl E M μ) (hQ : ∀ (r : Int) (M1 : JM) (μ1 : Mem), Rl E M1 μ1 → Q r μ1 → P (.inl (some (.inl r))) M1) (hW5 : ∀ (v3 : Int) (v4 : Int) (M1 : JM) (μ1 : Mem), Rl E M1 μ1 → W5 v3 v4 μ1 → JX 89 5 [jR v0, jR v1, jR v2, jI v3, jI v4] [] M1 P) (h : d_Rewriter_countRedexes_j29 v0 v1 v2 v3 v4 μ W5 Q) : JX 89 29 [jR v0, jR v1, jR v2, jI v3, jI v4] [] M P := by
  unfold d_Rewriter_countRedexes_j29 at h
  refine L_ps c89 (n := 2) (pc1 := 5) (ls1 := [jR v0, jR v1, jR v2, jI v3, jI (wr (v4 + 1))]) (st1 := []) rfl ?_
  exact hW5 _ _ _ _ hM h
theorem k_Rewriter_countRedexes_b5 {E : JE2} {v0 : Nat} {v1 : Nat} {v2 : Nat} {v3 : Int} {v4 : Int} {μ : Mem} {M : JM} {P : JO → JM → Prop} {W5 : Int → Int → Mem → Prop} {Q : Int → Mem → Prop} (hv0 : rt v0 = 4) (hv1 : rt v1 = 7) (hv2 : rt v2 = 8) (hM : Rl E M μ) (hQ : ∀ (r : Int) (M1 : JM) (μ1 : Mem), Rl E M1 μ1 → Q r μ1 → P (.inl (some (.inl r))) M1) (hW5 : ∀ (v3 : Int) (v4 : Int) (M1 : JM) (μ1 : Mem), Rl E M1 μ1 → W5 v3 v4 μ1 → JX 89 5 [jR v0, jR v1, jR v2, jI v3, jI v4] [] M1 P) (h : d_Rewriter_countRedexes_b5 v0 v1 v2 v3 v4 μ W5 Q) : JX 89 5 [jR v0, jR v1, jR v2, jI v3, jI v4] [] M P := by
  unfold d_Rewriter_countRedexes_b5 at h
  refine L_ps c89 (n := 2) (pc1 := 8) (ls1 := [jR v0, jR v1, jR v2, jI v3, jI v4]) (st1 := [jR v2, jI v4]) rfl ?_
  refine L_getI (c89 8 rfl) hM hv2 rfl ?_
  refine L_nb (p1 := 35) (p2 := 14) (c89 11 rfl) rfl jc_ge h (fun h => ?_) (fun h => ?_)
  · refine L_ps c89 (n := 4) (pc1 := 19) (ls1 := [jR v0, jR v1, jR v2, jI v3, jI v4]) (st1 := [jI v4, jR v2, jR v1, jR v0]) rfl ?_
    refine L_cI (c89 19 rfl) (js_v rfl ((Rl_tag hM hv0 (by decide)).trans js64)) hh89 (k_Rewriter_firstRule hv0 hv1 hv2 hM h) (fun r1 M μ2 hM h => ?_) (fun _ _ _ _ f => f.elim)
    refine L_ps c89 (n := 1) (pc1 := 23) (ls1 := [jR v0, jR v1, jR v2, jI v3, jI v4]) (st1 := [jI (-1), jI r1]) rfl ?_
    refine L_br (p1 := 29) (p2 := 26) (c89 23 rfl) rfl jc_eq h (fun h => ?_) (fun h => ?_)
    · exact k_Rewriter_countRedexes_j29 hv0 hv1 hv2 hM hQ hW5 h
    · refine L_ps c89 (n := 1) (pc1 := 29) (ls1 := [jR v0, jR v1, jR v2, jI (wr (v3 + 1)), jI v4]) (st1 := []) rfl ?_
      exact k_Rewriter_countRedexes_j29 hv0 hv1 hv2 hM hQ hW5 h
  · refine L_ps c89 (n := 1) (pc1 := 36) (ls1 := [jR v0, jR v1, jR v2, jI v3, jI v4]) (st1 := [jI v3]) rfl ?_
    exact L_retI (c89 36 rfl) (hQ _ _ _ hM h)
theorem k_Rewriter_countRedexes_l5 {E : JE2} {v0 : Nat} {v1 : Nat} {v2 : Nat} {v3 : Int} {v4 : Int} {μ : Mem} {M : JM} {P : JO → JM → Prop} {Q : Int → Mem → Prop} (hv0 : rt v0 = 4) (hv1 : rt v1 = 7) (hv2 : rt v2 = 8) (hM : Rl E M μ) (hQ : ∀ (r : Int) (M1 : JM) (μ1 : Mem), Rl E M1 μ1 → Q r μ1 → P (.inl (some (.inl r))) M1) (h : d_Rewriter_countRedexes_l5 v0 v1 v2 v3 v4 μ Q) : JX 89 5 [jR v0, jR v1, jR v2, jI v3, jI v4] [] M P := by
  refine h (fun v3 v4 μ => ∀ (M : JM), Rl E M μ → JX 89 5 [jR v0, jR v1, jR v2, jI v3, jI v4] [] M P) ?_ _ hM
  intro v3 v4 μ h M hM
  exact k_Rewriter_countRedexes_b5 hv0 hv1 hv2 hM hQ (fun v3 v4 M μ hM h => h M hM) h
theorem k_Rewriter_countRedexes {E : JE2} {v0 : Nat} {v1 : Nat} {v2 : Nat} {μ : Mem} {M : JM} {Q : Int → Mem → Prop} (hv0 : rt v0 = 4) (hv1 : rt v1 = 7) (hv2 : rt v2 = 8) (hM : Rl E M μ) (h : d_Rewriter_countRedexes v0 v1 v2 μ Q) : JX 89 0 (jargs 89 [jR v0, jR v1, jR v2]) [] M (PO E (QI Q) XN) := by
  unfold d_Rewriter_countRedexes at h
  show JX 89 0 [jR v0, jR v1, jR v2, jU, jU] [] M (PO E (QI Q) XN)
  generalize hP : PO E (QI Q) XN = P
  have hQ : ∀ (r : Int) (M1 : JM) (μ1 : Mem), Rl E M1 μ1 → Q r μ1 → P (.inl (some (.inl r))) M1 := by rw [← hP]; exact fun r M1 μ1 a b => ⟨μ1, a, r, rfl, b⟩
  clear hP
  refine L_ps c89 (n := 4) (pc1 := 5) (ls1 := [jR v0, jR v1, jR v2, jI 0, jI 0]) (st1 := []) rfl ?_
  exact k_Rewriter_countRedexes_l5 hv0 hv1 hv2 hM hQ h
theorem k_OB_redexCount {E : JE2} {v1 : Int} {μ : Mem} {M : JM} {Q : Int → Mem → Prop} {X : Nat → Mem → Prop} (hM : Rl E M μ) (h : d_OB_redexCount v1 μ Q X) : JX 88 0 (jargs 88 [jR 0, jI v1]) [] M (PO E (QI Q) X) := by
  unfold d_OB_redexCount at h
  show JX 88 0 [jR 0, jI v1] [] M (PO E (QI Q) X)
  generalize hP : PO E (QI Q) X = P
  have hQ : ∀ (r : Int) (M1 : JM) (μ1 : Mem), Rl E M1 μ1 → Q r μ1 → P (.inl (some (.inl r))) M1 := by rw [← hP]; exact fun r M1 μ1 a b => ⟨μ1, a, r, rfl, b⟩
  have hX : ∀ (k : Nat) (M1 : JM) (μ1 : Mem), Rl E M1 μ1 → X k μ1 → P (.inr k) M1 := by rw [← hP]; exact fun k M1 μ1 a b => ⟨μ1, a, b⟩
  clear hP
  refine L_ps c88 (n := 1) (pc1 := 1) (ls1 := [jR 0, jI v1]) (st1 := [jR 0]) rfl ?_
  refine L_getP (d := 57) (c88 1 rfl) hM rt0 rfl ?_
  refine L_ps c88 (n := 1) (pc1 := 5) (ls1 := [jR 0, jI v1]) (st1 := [jR 0, jR 57]) rfl ?_
  refine L_getP (d := 5) (c88 5 rfl) hM rt0 rfl ?_
  refine L_ps c88 (n := 2) (pc1 := 10) (ls1 := [jR 0, jI v1]) (st1 := [jI v1, jR 0, jR 5, jR 57]) rfl ?_
  refine L_cR (c88 10 rfl) (js_v rfl ((Rl_tag hM rt0 (by decide)).trans js81)) hh88 (k_OB_requireTerm hM h) (fun r1 M μ2 hM hr1 h => ?_) (fun k M μx hM hx => hX _ _ _ hM hx)
  refine L_cI (c88 13 rfl) (js_v rfl ((Rl_tag hM rt57 (by decide)).trans js89)) hh88 (k_Rewriter_countRedexes rt57 rt5 hr1 hM h) (fun r3 M μ4 hM h => ?_) (fun _ _ _ _ f => f.elim)
  exact L_retI (c88 16 rfl) (hQ _ _ _ hM h)
theorem k_OB_innermostRedex {E : JE2} {v1 : Int} {μ : Mem} {M : JM} {Q : Int → Mem → Prop} {X : Nat → Mem → Prop} (hM : Rl E M μ) (h : d_OB_innermostRedex v1 μ Q X) : JX 90 0 (jargs 90 [jR 0, jI v1]) [] M (PO E (QI Q) X) := by
  unfold d_OB_innermostRedex at h
  show JX 90 0 [jR 0, jI v1] [] M (PO E (QI Q) X)
  generalize hP : PO E (QI Q) X = P
  have hQ : ∀ (r : Int) (M1 : JM) (μ1 : Mem), Rl E M1 μ1 → Q r μ1 → P (.inl (some (.inl r))) M1 := by rw [← hP]; exact fun r M1 μ1 a b => ⟨μ1, a, r, rfl, b⟩
  have hX : ∀ (k : Nat) (M1 : JM) (μ1 : Mem), Rl E M1 μ1 → X k μ1 → P (.inr k) M1 := by rw [← hP]; exact fun k M1 μ1 a b => ⟨μ1, a, b⟩
  clear hP
  refine L_ps c90 (n := 1) (pc1 := 1) (ls1 := [jR 0, jI v1]) (st1 := [jR 0]) rfl ?_
  refine L_getP (d := 57) (c90 1 rfl) hM rt0 rfl ?_
  refine L_ps c90 (n := 1) (pc1 := 5) (ls1 := [jR 0, jI v1]) (st1 := [jR 0, jR 57]) rfl ?_
  refine L_getP (d := 5) (c90 5 rfl) hM rt0 rfl ?_
  refine L_ps c90 (n := 2) (pc1 := 10) (ls1 := [jR 0, jI v1]) (st1 := [jI v1, jR 0, jR 5, jR 57]) rfl ?_
  refine L_cR (c90 10 rfl) (js_v rfl ((Rl_tag hM rt0 (by decide)).trans js81)) hh90 (k_OB_requireTerm hM h) (fun r1 M μ2 hM hr1 h => ?_) (fun k M μx hM hx => hX _ _ _ hM hx)
  refine L_ps c90 (n := 1) (pc1 := 14) (ls1 := [jR 0, jI v1]) (st1 := [jI 1, jR r1, jR 5, jR 57]) rfl ?_
  refine L_cI (c90 14 rfl) (js_v rfl ((Rl_tag hM rt57 (by decide)).trans js63)) hh90 (k_Rewriter_redex rt57 rt5 hr1 hM h) (fun r3 M μ4 hM h => ?_) (fun _ _ _ _ f => f.elim)
  exact L_retI (c90 17 rfl) (hQ _ _ _ hM h)
theorem k_OB_outermostRedex {E : JE2} {v1 : Int} {μ : Mem} {M : JM} {Q : Int → Mem → Prop} {X : Nat → Mem → Prop} (hM : Rl E M μ) (h : d_OB_outermostRedex v1 μ Q X) : JX 91 0 (jargs 91 [jR 0, jI v1]) [] M (PO E (QI Q) X) := by
  unfold d_OB_outermostRedex at h
  show JX 91 0 [jR 0, jI v1] [] M (PO E (QI Q) X)
  generalize hP : PO E (QI Q) X = P
  have hQ : ∀ (r : Int) (M1 : JM) (μ1 : Mem), Rl E M1 μ1 → Q r μ1 → P (.inl (some (.inl r))) M1 := by rw [← hP]; exact fun r M1 μ1 a b => ⟨μ1, a, r, rfl, b⟩
  have hX : ∀ (k : Nat) (M1 : JM) (μ1 : Mem), Rl E M1 μ1 → X k μ1 → P (.inr k) M1 := by rw [← hP]; exact fun k M1 μ1 a b => ⟨μ1, a, b⟩
  clear hP
  refine L_ps c91 (n := 1) (pc1 := 1) (ls1 := [jR 0, jI v1]) (st1 := [jR 0]) rfl ?_
  refine L_getP (d := 57) (c91 1 rfl) hM rt0 rfl ?_
  refine L_ps c91 (n := 1) (pc1 := 5) (ls1 := [jR 0, jI v1]) (st1 := [jR 0, jR 57]) rfl ?_
  refine L_getP (d := 5) (c91 5 rfl) hM rt0 rfl ?_
  refine L_ps c91 (n := 2) (pc1 := 10) (ls1 := [jR 0, jI v1]) (st1 := [jI v1, jR 0, jR 5, jR 57]) rfl ?_
  refine L_cR (c91 10 rfl) (js_v rfl ((Rl_tag hM rt0 (by decide)).trans js81)) hh91 (k_OB_requireTerm hM h) (fun r1 M μ2 hM hr1 h => ?_) (fun k M μx hM hx => hX _ _ _ hM hx)
  refine L_ps c91 (n := 1) (pc1 := 14) (ls1 := [jR 0, jI v1]) (st1 := [jI 0, jR r1, jR 5, jR 57]) rfl ?_
  refine L_cI (c91 14 rfl) (js_v rfl ((Rl_tag hM rt57 (by decide)).trans js63)) hh91 (k_Rewriter_redex rt57 rt5 hr1 hM h) (fun r3 M μ4 hM h => ?_) (fun _ _ _ _ f => f.elim)
  exact L_retI (c91 17 rfl) (hQ _ _ _ hM h)
theorem k_OB_isNormalForm {E : JE2} {v1 : Int} {μ : Mem} {M : JM} {Q : Bool → Mem → Prop} {X : Nat → Mem → Prop} (hM : Rl E M μ) (h : d_OB_isNormalForm v1 μ Q X) : JX 92 0 (jargs 92 [jR 0, jI v1]) [] M (PO E (QB Q) X) := by
  unfold d_OB_isNormalForm at h
  show JX 92 0 [jR 0, jI v1] [] M (PO E (QB Q) X)
  generalize hP : PO E (QB Q) X = P
  have hQ : ∀ (r : Bool) (M1 : JM) (μ1 : Mem), Rl E M1 μ1 → Q r μ1 → P (.inl (some (.inl (b2i r)))) M1 := by rw [← hP]; exact fun r M1 μ1 a b => ⟨μ1, a, r, rfl, b⟩
  have hX : ∀ (k : Nat) (M1 : JM) (μ1 : Mem), Rl E M1 μ1 → X k μ1 → P (.inr k) M1 := by rw [← hP]; exact fun k M1 μ1 a b => ⟨μ1, a, b⟩
  clear hP
  refine L_ps c92 (n := 1) (pc1 := 1) (ls1 := [jR 0, jI v1]) (st1 := [jR 0]) rfl ?_
  refine L_getP (d := 57) (c92 1 rfl) hM rt0 rfl ?_
  refine L_ps c92 (n := 1) (pc1 := 5) (ls1 := [jR 0, jI v1]) (st1 := [jR 0, jR 57]) rfl ?_
  refine L_getP (d := 5) (c92 5 rfl) hM rt0 rfl ?_
  refine L_ps c92 (n := 2) (pc1 := 10) (ls1 := [jR 0, jI v1]) (st1 := [jI v1, jR 0, jR 5, jR 57]) rfl ?_
  refine L_cR (c92 10 rfl) (js_v rfl ((Rl_tag hM rt0 (by decide)).trans js81)) hh92 (k_OB_requireTerm hM h) (fun r1 M μ2 hM hr1 h => ?_) (fun k M μx hM hx => hX _ _ _ hM hx)
  refine L_ps c92 (n := 1) (pc1 := 14) (ls1 := [jR 0, jI v1]) (st1 := [jI 0, jR r1, jR 5, jR 57]) rfl ?_
  refine L_cI (c92 14 rfl) (js_v rfl ((Rl_tag hM rt57 (by decide)).trans js63)) hh92 (k_Rewriter_redex rt57 rt5 hr1 hM h) (fun r3 M μ4 hM h => ?_) (fun _ _ _ _ f => f.elim)
  refine L_ps c92 (n := 1) (pc1 := 18) (ls1 := [jR 0, jI v1]) (st1 := [jI (-1), jI r3]) rfl ?_
  refine L_nb (p1 := 25) (p2 := 21) (c92 18 rfl) rfl jc_ne h (fun h => ?_) (fun h => ?_)
  · refine L_ps c92 (n := 2) (pc1 := 26) (ls1 := [jR 0, jI v1]) (st1 := [jI 1]) rfl ?_
    exact L_retB (c92 26 rfl) (Or.inr rfl) (hQ true _ _ hM h)
  · refine L_ps c92 (n := 1) (pc1 := 26) (ls1 := [jR 0, jI v1]) (st1 := [jI 0]) rfl ?_
    exact L_retB (c92 26 rfl) (Or.inl rfl) (hQ false _ _ hM h)
theorem k_Rewriter_reduce_b11 {E : JE2} {v0 : Nat} {v1 : Nat} {v3 : Int} {v4 : Int} {v5 : Int} {μ : Mem} {M : JM} {P : JO → JM → Prop} {g2 : JV} {g6 : JV} {W11 : Int → Mem → Prop} {Q : Int → Mem → Prop} (hv0 : rt v0 = 4) (hv1 : rt v1 = 7) (hM : Rl E M μ) (hQ : ∀ (r : Int) (M1 : JM) (μ1 : Mem), Rl E M1 μ1 → Q r μ1 → P (.inl (some (.inl r))) M1) (hW11 : ∀ (v5 : Int) (g2 : JV) (g6 : JV) (M1 : JM) (μ1 : Mem), Rl E M1 μ1 → W11 v5 μ1 → JX 94 11 [jR v0, jR v1, g2, jI v3, jI v4, jI v5, g6] [] M1 P) (h : d_Rewriter_reduce_b11 v0 v1 v3 v4 v5 μ W11 Q) : JX 94 11 [jR v0, jR v1, g2, jI v3, jI v4, jI v5, g6] [] M P := by
  unfold d_Rewriter_reduce_b11 at h
  refine L_ps c94 (n := 2) (pc1 := 15) (ls1 := [jR v0, jR v1, g2, jI v3, jI v4, jI v5, g6]) (st1 := [jI v4, jI v5]) rfl ?_
  refine L_br (p1 := 79) (p2 := 18) (c94 15 rfl) rfl jc_gt h (fun h => ?_) (fun h => ?_)
  · refine L_ps c94 (n := 1) (pc1 := 80) (ls1 := [jR v0, jR v1, g2, jI v3, jI v4, jI v5, g6]) (st1 := [jI (-1)]) rfl ?_
    exact L_retI (c94 80 rfl) (hQ _ _ _ hM h)
  · refine L_ps c94 (n := 3) (pc1 := 21) (ls1 := [jR v0, jR v1, g2, jI v3, jI v4, jI v5, g6]) (st1 := [jR v0, jR v1, jR v0]) rfl ?_
    refine L_getP (d := 3) (c94 21 rfl) hM hv0 rfl ?_
    refine L_ps c94 (n := 1) (pc1 := 25) (ls1 := [jR v0, jR v1, g2, jI v3, jI v4, jI v5, g6]) (st1 := [jI v3, jR (v0 + 3), jR v1, jR v0]) rfl ?_
    refine L_cI (c94 25 rfl) (js_v rfl ((Rl_tag hM hv0 (by decide)).trans js63)) hh94 (k_Rewriter_redex hv0 hv1 (rp_4_3 hv0) hM h) (fun r3 M μ4 hM h => ?_) (fun _ _ _ _ f => f.elim)
    refine L_ps c94 (n := 3) (pc1 := 33) (ls1 := [jR v0, jR v1, g2, jI v3, jI v4, jI v5, jI r3]) (st1 := [jI (-1), jI r3]) rfl ?_
    refine L_nb (p1 := 39) (p2 := 36) (c94 33 rfl) rfl jc_ne h (fun h => ?_) (fun h => ?_)
    · refine L_ps c94 (n := 1) (pc1 := 38) (ls1 := [jR v0, jR v1, g2, jI v3, jI v4, jI v5, jI r3]) (st1 := [jI v5]) rfl ?_
      exact L_retI (c94 38 rfl) (hQ _ _ _ hM h)
    · refine L_ps c94 (n := 2) (pc1 := 43) (ls1 := [jR v0, jR v1, g2, jI v3, jI v4, jI v5, jI r3]) (st1 := [jI v4, jI v5]) rfl ?_
      refine L_br (p1 := 60) (p2 := 46) (c94 43 rfl) rfl jc_eq h (fun h => ?_) (fun h => ?_)
      · refine L_ps c94 (n := 1) (pc1 := 61) (ls1 := [jR v0, jR v1, g2, jI v3, jI v4, jI v5, jI r3]) (st1 := [jI (-1)]) rfl ?_
        exact L_retI (c94 61 rfl) (hQ _ _ _ hM h)
      · refine L_ps c94 (n := 3) (pc1 := 49) (ls1 := [jR v0, jR v1, g2, jI v3, jI v4, jI v5, jI r3]) (st1 := [jR v0, jR v1, jR v0]) rfl ?_
        refine L_getP (d := 3) (c94 49 rfl) hM hv0 rfl ?_
        refine L_ps c94 (n := 1) (pc1 := 54) (ls1 := [jR v0, jR v1, g2, jI v3, jI v4, jI v5, jI r3]) (st1 := [jI r3, jR (v0 + 3), jR v1, jR v0]) rfl ?_
        refine L_cB (c94 54 rfl) (js_v rfl ((Rl_tag hM hv0 (by decide)).trans js69)) hh94 (k_Rewriter_buildFirst hv0 hv1 (rp_4_3 hv0) hM h) (fun r5 M μ6 hM h => ?_) (fun _ _ _ _ f => f.elim)
        refine L_br (p1 := 62) (p2 := 60) (c94 57 rfl) rfl jc_neb h (fun h => ?_) (fun h => ?_)
        · refine L_ps c94 (n := 1) (pc1 := 63) (ls1 := [jR v0, jR v1, g2, jI v3, jI v4, jI v5, jI r3]) (st1 := [jR v0]) rfl ?_
          refine L_getP (d := 3) (c94 63 rfl) hM hv0 rfl ?_
          refine L_ps c94 (n := 1) (pc1 := 67) (ls1 := [jR v0, jR v1, g2, jI v3, jI v4, jI v5, jI r3]) (st1 := [jR v0, jR (v0 + 3)]) rfl ?_
          refine L_getP (d := 1) (c94 67 rfl) hM hv0 rfl ?_
          refine L_cV (c94 70 rfl) (js_v rfl ((Rl_tag hM (rp_4_3 hv0) (by decide)).trans js71)) hh94 (k_Term_copyFrom (rp_4_3 hv0) (rp_4_1 hv0) hM h) (fun M μ8 hM h => ?_) (fun _ _ _ _ f => f.elim)
          refine L_ps c94 (n := 2) (pc1 := 11) (ls1 := [jR v0, jR v1, g2, jI v3, jI v4, jI (wr (v5 + 1)), jI r3]) (st1 := []) rfl ?_
          exact hW11 _ _ _ _ _ hM h
        · refine L_ps c94 (n := 1) (pc1 := 61) (ls1 := [jR v0, jR v1, g2, jI v3, jI v4, jI v5, jI r3]) (st1 := [jI (-1)]) rfl ?_
          exact L_retI (c94 61 rfl) (hQ _ _ _ hM h)
theorem k_Rewriter_reduce_l11 {E : JE2} {v0 : Nat} {v1 : Nat} {v3 : Int} {v4 : Int} {v5 : Int} {μ : Mem} {M : JM} {P : JO → JM → Prop} {g2 : JV} {g6 : JV} {Q : Int → Mem → Prop} (hv0 : rt v0 = 4) (hv1 : rt v1 = 7) (hM : Rl E M μ) (hQ : ∀ (r : Int) (M1 : JM) (μ1 : Mem), Rl E M1 μ1 → Q r μ1 → P (.inl (some (.inl r))) M1) (h : d_Rewriter_reduce_l11 v0 v1 v3 v4 v5 μ Q) : JX 94 11 [jR v0, jR v1, g2, jI v3, jI v4, jI v5, g6] [] M P := by
  refine h (fun v5 μ => ∀ (g2 : JV) (g6 : JV) (M : JM), Rl E M μ → JX 94 11 [jR v0, jR v1, g2, jI v3, jI v4, jI v5, g6] [] M P) ?_ _ _ _ hM
  intro v5 μ h g2 g6 M hM
  exact k_Rewriter_reduce_b11 hv0 hv1 hM hQ (fun v5 g2 g6 M μ hM h => h g2 g6 M hM) h
theorem k_Rewriter_reduce {E : JE2} {v0 : Nat} {v1 : Nat} {v2 : Nat} {v3 : Int} {v4 : Int} {μ : Mem} {M : JM} {Q : Int → Mem → Prop} (hv0 : rt v0 = 4) (hv1 : rt v1 = 7) (hv2 : rt v2 = 8) (hM : Rl E M μ) (h : d_Rewriter_reduce v0 v1 v2 v3 v4 μ Q) : JX 94 0 (jargs 94 [jR v0, jR v1, jR v2, jI v3, jI v4]) [] M (PO E (QI Q) XN) := by
  unfold d_Rewriter_reduce at h
  show JX 94 0 [jR v0, jR v1, jR v2, jI v3, jI v4, jU, jU] [] M (PO E (QI Q) XN)
  generalize hP : PO E (QI Q) XN = P
  have hQ : ∀ (r : Int) (M1 : JM) (μ1 : Mem), Rl E M1 μ1 → Q r μ1 → P (.inl (some (.inl r))) M1 := by rw [← hP]; exact fun r M1 μ1 a b => ⟨μ1, a, r, rfl, b⟩
  clear hP
  refine L_ps c94 (n := 1) (pc1 := 1) (ls1 := [jR v0, jR v1, jR v2, jI v3, jI v4, jU, jU]) (st1 := [jR v0]) rfl ?_
  refine L_getP (d := 3) (c94 1 rfl) hM hv0 rfl ?_
  refine L_ps c94 (n := 1) (pc1 := 5) (ls1 := [jR v0, jR v1, jR v2, jI v3, jI v4, jU, jU]) (st1 := [jR v2, jR (v0 + 3)]) rfl ?_
  refine L_cV (c94 5 rfl) (js_v rfl ((Rl_tag hM (rp_4_3 hv0) (by decide)).trans js71)) hh94 (k_Term_copyFrom (rp_4_3 hv0) hv2 hM h) (fun M μ2 hM h => ?_) (fun _ _ _ _ f => f.elim)
  refine L_ps c94 (n := 2) (pc1 := 11) (ls1 := [jR v0, jR v1, jR v2, jI v3, jI v4, jI 0, jU]) (st1 := []) rfl ?_
  exact k_Rewriter_reduce_l11 hv0 hv1 hM hQ h
theorem k_OB_stepsInnermost {E : JE2} {v1 : Int} {μ : Mem} {M : JM} {Q : Int → Mem → Prop} {X : Nat → Mem → Prop} (hM : Rl E M μ) (h : d_OB_stepsInnermost v1 μ Q X) : JX 93 0 (jargs 93 [jR 0, jI v1]) [] M (PO E (QI Q) X) := by
  unfold d_OB_stepsInnermost at h
  show JX 93 0 [jR 0, jI v1] [] M (PO E (QI Q) X)
  generalize hP : PO E (QI Q) X = P
  have hQ : ∀ (r : Int) (M1 : JM) (μ1 : Mem), Rl E M1 μ1 → Q r μ1 → P (.inl (some (.inl r))) M1 := by rw [← hP]; exact fun r M1 μ1 a b => ⟨μ1, a, r, rfl, b⟩
  have hX : ∀ (k : Nat) (M1 : JM) (μ1 : Mem), Rl E M1 μ1 → X k μ1 → P (.inr k) M1 := by rw [← hP]; exact fun k M1 μ1 a b => ⟨μ1, a, b⟩
  clear hP
  refine L_ps c93 (n := 1) (pc1 := 1) (ls1 := [jR 0, jI v1]) (st1 := [jR 0]) rfl ?_
  refine L_getP (d := 57) (c93 1 rfl) hM rt0 rfl ?_
  refine L_ps c93 (n := 1) (pc1 := 5) (ls1 := [jR 0, jI v1]) (st1 := [jR 0, jR 57]) rfl ?_
  refine L_getP (d := 5) (c93 5 rfl) hM rt0 rfl ?_
  refine L_ps c93 (n := 2) (pc1 := 10) (ls1 := [jR 0, jI v1]) (st1 := [jI v1, jR 0, jR 5, jR 57]) rfl ?_
  refine L_cR (c93 10 rfl) (js_v rfl ((Rl_tag hM rt0 (by decide)).trans js81)) hh93 (k_OB_requireTerm hM h) (fun r1 M μ2 hM hr1 h => ?_) (fun k M μx hM hx => hX _ _ _ hM hx)
  refine L_ps c93 (n := 2) (pc1 := 17) (ls1 := [jR 0, jI v1]) (st1 := [jI 200, jI 1, jR r1, jR 5, jR 57]) rfl ?_
  refine L_cI (c93 17 rfl) (js_v rfl ((Rl_tag hM rt57 (by decide)).trans js94)) hh93 (k_Rewriter_reduce rt57 rt5 hr1 hM h) (fun r3 M μ4 hM h => ?_) (fun _ _ _ _ f => f.elim)
  exact L_retI (c93 20 rfl) (hQ _ _ _ hM h)
theorem k_OB_stepsOutermost {E : JE2} {v1 : Int} {μ : Mem} {M : JM} {Q : Int → Mem → Prop} {X : Nat → Mem → Prop} (hM : Rl E M μ) (h : d_OB_stepsOutermost v1 μ Q X) : JX 95 0 (jargs 95 [jR 0, jI v1]) [] M (PO E (QI Q) X) := by
  unfold d_OB_stepsOutermost at h
  show JX 95 0 [jR 0, jI v1] [] M (PO E (QI Q) X)
  generalize hP : PO E (QI Q) X = P
  have hQ : ∀ (r : Int) (M1 : JM) (μ1 : Mem), Rl E M1 μ1 → Q r μ1 → P (.inl (some (.inl r))) M1 := by rw [← hP]; exact fun r M1 μ1 a b => ⟨μ1, a, r, rfl, b⟩
  have hX : ∀ (k : Nat) (M1 : JM) (μ1 : Mem), Rl E M1 μ1 → X k μ1 → P (.inr k) M1 := by rw [← hP]; exact fun k M1 μ1 a b => ⟨μ1, a, b⟩
  clear hP
  refine L_ps c95 (n := 1) (pc1 := 1) (ls1 := [jR 0, jI v1]) (st1 := [jR 0]) rfl ?_
  refine L_getP (d := 57) (c95 1 rfl) hM rt0 rfl ?_
  refine L_ps c95 (n := 1) (pc1 := 5) (ls1 := [jR 0, jI v1]) (st1 := [jR 0, jR 57]) rfl ?_
  refine L_getP (d := 5) (c95 5 rfl) hM rt0 rfl ?_
  refine L_ps c95 (n := 2) (pc1 := 10) (ls1 := [jR 0, jI v1]) (st1 := [jI v1, jR 0, jR 5, jR 57]) rfl ?_
  refine L_cR (c95 10 rfl) (js_v rfl ((Rl_tag hM rt0 (by decide)).trans js81)) hh95 (k_OB_requireTerm hM h) (fun r1 M μ2 hM hr1 h => ?_) (fun k M μx hM hx => hX _ _ _ hM hx)
  refine L_ps c95 (n := 2) (pc1 := 17) (ls1 := [jR 0, jI v1]) (st1 := [jI 200, jI 0, jR r1, jR 5, jR 57]) rfl ?_
  refine L_cI (c95 17 rfl) (js_v rfl ((Rl_tag hM rt57 (by decide)).trans js94)) hh95 (k_Rewriter_reduce rt57 rt5 hr1 hM h) (fun r3 M μ4 hM h => ?_) (fun _ _ _ _ f => f.elim)
  exact L_retI (c95 20 rfl) (hQ _ _ _ hM h)
theorem k_OB_normalFormSize {E : JE2} {v1 : Int} {μ : Mem} {M : JM} {Q : Int → Mem → Prop} {X : Nat → Mem → Prop} (hM : Rl E M μ) (h : d_OB_normalFormSize v1 μ Q X) : JX 96 0 (jargs 96 [jR 0, jI v1]) [] M (PO E (QI Q) X) := by
  unfold d_OB_normalFormSize at h
  show JX 96 0 [jR 0, jI v1, jU] [] M (PO E (QI Q) X)
  generalize hP : PO E (QI Q) X = P
  have hQ : ∀ (r : Int) (M1 : JM) (μ1 : Mem), Rl E M1 μ1 → Q r μ1 → P (.inl (some (.inl r))) M1 := by rw [← hP]; exact fun r M1 μ1 a b => ⟨μ1, a, r, rfl, b⟩
  have hX : ∀ (k : Nat) (M1 : JM) (μ1 : Mem), Rl E M1 μ1 → X k μ1 → P (.inr k) M1 := by rw [← hP]; exact fun k M1 μ1 a b => ⟨μ1, a, b⟩
  clear hP
  refine L_ps c96 (n := 1) (pc1 := 1) (ls1 := [jR 0, jI v1, jU]) (st1 := [jR 0]) rfl ?_
  refine L_getP (d := 57) (c96 1 rfl) hM rt0 rfl ?_
  refine L_ps c96 (n := 1) (pc1 := 5) (ls1 := [jR 0, jI v1, jU]) (st1 := [jR 0, jR 57]) rfl ?_
  refine L_getP (d := 5) (c96 5 rfl) hM rt0 rfl ?_
  refine L_ps c96 (n := 2) (pc1 := 10) (ls1 := [jR 0, jI v1, jU]) (st1 := [jI v1, jR 0, jR 5, jR 57]) rfl ?_
  refine L_cR (c96 10 rfl) (js_v rfl ((Rl_tag hM rt0 (by decide)).trans js81)) hh96 (k_OB_requireTerm hM h) (fun r1 M μ2 hM hr1 h => ?_) (fun k M μx hM hx => hX _ _ _ hM hx)
  refine L_ps c96 (n := 2) (pc1 := 17) (ls1 := [jR 0, jI v1, jU]) (st1 := [jI 200, jI 1, jR r1, jR 5, jR 57]) rfl ?_
  refine L_cI (c96 17 rfl) (js_v rfl ((Rl_tag hM rt57 (by decide)).trans js94)) hh96 (k_Rewriter_reduce rt57 rt5 hr1 hM h) (fun r3 M μ4 hM h => ?_) (fun _ _ _ _ f => f.elim)
  refine L_ps c96 (n := 3) (pc1 := 23) (ls1 := [jR 0, jI v1, jI r3]) (st1 := [jI (-1), jI r3]) rfl ?_
  refine L_nb (p1 := 30) (p2 := 26) (c96 23 rfl) rfl jc_ne h (fun h => ?_) (fun h => ?_)
  · refine L_ps c96 (n := 2) (pc1 := 40) (ls1 := [jR 0, jI v1, jI r3]) (st1 := [jI (-1)]) rfl ?_
    exact L_retI (c96 40 rfl) (hQ _ _ _ hM h)
  · refine L_ps c96 (n := 1) (pc1 := 31) (ls1 := [jR 0, jI v1, jI r3]) (st1 := [jR 0]) rfl ?_
    refine L_getP (d := 57) (c96 31 rfl) hM rt0 rfl ?_
    refine L_getP (d := 3) (c96 34 rfl) hM rt57 rfl ?_
    refine L_getI (c96 37 rfl) hM rt60 rfl ?_
    exact L_retI (c96 40 rfl) (hQ _ _ _ hM h)
theorem k_PairList_has {E : JE2} {v1 : Int} {μ : Mem} {M : JM} {Q : Bool → Prop} (hM : Rl E M μ) (h : d_PairList_has v1 μ Q) : JX 99 0 (jargs 99 [jR 139, jI v1]) [] M (PO E (pQB μ Q) XN) := by
  unfold d_PairList_has at h
  show JX 99 0 [jR 139, jI v1] [] M (PO E (pQB μ Q) XN)
  generalize hP : PO E (pQB μ Q) XN = P
  have hQ : ∀ (r : Bool) (M1 : JM), Rl E M1 μ → Q r → P (.inl (some (.inl (b2i r)))) M1 := by rw [← hP]; exact fun r M1 a b => ⟨μ, a, rfl, r, rfl, b⟩
  clear hP
  refine L_ps c99 (n := 1) (pc1 := 1) (ls1 := [jR 139, jI v1]) (st1 := [jI v1]) rfl ?_
  refine L_br (p1 := 14) (p2 := 4) (c99 1 rfl) rfl jc_lt h (fun h => ?_) (fun h => ?_)
  · refine L_ps c99 (n := 1) (pc1 := 15) (ls1 := [jR 139, jI v1]) (st1 := [jI 0]) rfl ?_
    exact L_retB (c99 15 rfl) (Or.inl rfl) (hQ false _ hM h)
  · refine L_ps c99 (n := 2) (pc1 := 7) (ls1 := [jR 139, jI v1]) (st1 := [jI 20, jI v1]) rfl ?_
    refine L_nb (p1 := 14) (p2 := 10) (c99 7 rfl) rfl jc_ge h (fun h => ?_) (fun h => ?_)
    · refine L_ps c99 (n := 2) (pc1 := 15) (ls1 := [jR 139, jI v1]) (st1 := [jI 1]) rfl ?_
      exact L_retB (c99 15 rfl) (Or.inr rfl) (hQ true _ hM h)
    · refine L_ps c99 (n := 1) (pc1 := 15) (ls1 := [jR 139, jI v1]) (st1 := [jI 0]) rfl ?_
      exact L_retB (c99 15 rfl) (Or.inl rfl) (hQ false _ hM h)
theorem k_Unifier_clear {E : JE2} {v0 : Nat} {μ : Mem} {M : JM} {Q : Mem → Prop} (hv0 : rt v0 = 9) (hM : Rl E M μ) (h : d_Unifier_clear v0 μ Q) : JX 101 0 (jargs 101 [jR v0]) [] M (PO E (QV Q) XN) := by
  unfold d_Unifier_clear at h
  show JX 101 0 [jR v0] [] M (PO E (QV Q) XN)
  generalize hP : PO E (QV Q) XN = P
  have hQ : ∀ (M1 : JM) (μ1 : Mem), Rl E M1 μ1 → Q μ1 → P (.inl none) M1 := by rw [← hP]; exact fun M1 μ1 a b => ⟨μ1, a, rfl, b⟩
  clear hP
  refine L_ps c101 (n := 2) (pc1 := 2) (ls1 := [jR v0]) (st1 := [jI 0, jR v0]) rfl ?_
  refine L_putI (c101 2 rfl) hM hv0 rfl (fun M hM => ?_)
  refine L_ps c101 (n := 1) (pc1 := 6) (ls1 := [jR v0]) (st1 := [jR v0]) rfl ?_
  refine L_getP (d := 5) (c101 6 rfl) hM hv0 rfl ?_
  refine L_ps c101 (n := 1) (pc1 := 10) (ls1 := [jR v0]) (st1 := [jI (-1), jR (v0 + 5)]) rfl ?_
  refine L_cV (c101 10 rfl) (js_t rfl) hh101 (k_Arrays_fill (rp_9_5 hv0) hM h) (fun M μ2 hM h => ?_) (fun _ _ _ _ f => f.elim)
  exact L_end (c101 13 rfl) rfl (hQ _ _ hM h)
theorem k_Unifier_shareVariable_j41 {E : JE2} {v0 : Nat} {v1 : Int} {v2 : Int} {μ : Mem} {M : JM} {P : JO → JM → Prop} {Q : Mem → Prop} (hv0 : rt v0 = 9) (hM : Rl E M μ) (hQ : ∀ (M1 : JM) (μ1 : Mem), Rl E M1 μ1 → Q μ1 → P (.inl none) M1) (h : d_Unifier_shareVariable_j41 v0 v1 v2 μ Q) : JX 103 41 [jR v0, jI v1, jI v2] [] M P := by
  unfold d_Unifier_shareVariable_j41 at h
  refine L_ps c103 (n := 1) (pc1 := 42) (ls1 := [jR v0, jI v1, jI v2]) (st1 := [jR v0]) rfl ?_
  refine L_getP (d := 2) (c103 42 rfl) hM hv0 rfl ?_
  refine L_ps c103 (n := 2) (pc1 := 47) (ls1 := [jR v0, jI v1, jI v2]) (st1 := [jR v0, jI v1, jR (v0 + 2)]) rfl ?_
  refine L_getP (d := 5) (c103 47 rfl) hM hv0 rfl ?_
  refine L_ps c103 (n := 1) (pc1 := 51) (ls1 := [jR v0, jI v1, jI v2]) (st1 := [jI v2, jR (v0 + 5), jI v1, jR (v0 + 2)]) rfl ?_
  obtain ⟨hb, h⟩ := h
  refine L_iald (c103 51 rfl) hM (rp_9_5 hv0) (lp_9_5 hv0) hb ?_
  obtain ⟨hb, h⟩ := h
  refine L_iast (c103 52 rfl) hM (rp_9_2 hv0) (lp_9_2 hv0) hb (fun M hM => ?_)
  exact L_end (c103 53 rfl) rfl (hQ _ _ hM h)
theorem k_Unifier_shareVariable {E : JE2} {v0 : Nat} {v1 : Int} {v2 : Int} {μ : Mem} {M : JM} {Q : Mem → Prop} (hv0 : rt v0 = 9) (hM : Rl E M μ) (h : d_Unifier_shareVariable v0 v1 v2 μ Q) : JX 103 0 (jargs 103 [jR v0, jI v1, jI v2]) [] M (PO E (QV Q) XN) := by
  unfold d_Unifier_shareVariable at h
  show JX 103 0 [jR v0, jI v1, jI v2] [] M (PO E (QV Q) XN)
  generalize hP : PO E (QV Q) XN = P
  have hQ : ∀ (M1 : JM) (μ1 : Mem), Rl E M1 μ1 → Q μ1 → P (.inl none) M1 := by rw [← hP]; exact fun M1 μ1 a b => ⟨μ1, a, rfl, b⟩
  clear hP
  refine L_ps c103 (n := 1) (pc1 := 1) (ls1 := [jR v0, jI v1, jI v2]) (st1 := [jI v2]) rfl ?_
  refine L_br (p1 := 53) (p2 := 4) (c103 1 rfl) rfl jc_lt h (fun h => ?_) (fun h => ?_)
  · exact L_end (c103 53 rfl) rfl (hQ _ _ hM h)
  · refine L_ps c103 (n := 2) (pc1 := 6) (ls1 := [jR v0, jI v1, jI v2]) (st1 := [jR v0, jI v2]) rfl ?_
    refine L_getP (d := 5) (c103 6 rfl) hM hv0 rfl ?_
    refine L_alen (n := 16) (z := 16) (c103 9 rfl) hM (rp_9_5 hv0) (by decide) (lp_9_5 hv0) (by decide) rfl ?_
    refine L_nb (p1 := 53) (p2 := 13) (c103 10 rfl) rfl jc_ge h (fun h => ?_) (fun h => ?_)
    · refine L_ps c103 (n := 1) (pc1 := 14) (ls1 := [jR v0, jI v1, jI v2]) (st1 := [jI v1]) rfl ?_
      refine L_br (p1 := 53) (p2 := 17) (c103 14 rfl) rfl jc_lt h (fun h => ?_) (fun h => ?_)
      · exact L_end (c103 53 rfl) rfl (hQ _ _ hM h)
      · refine L_ps c103 (n := 2) (pc1 := 21) (ls1 := [jR v0, jI v1, jI v2]) (st1 := [jI 160, jI v1]) rfl ?_
        refine L_nb (p1 := 53) (p2 := 24) (c103 21 rfl) rfl jc_ge h (fun h => ?_) (fun h => ?_)
        · refine L_ps c103 (n := 1) (pc1 := 25) (ls1 := [jR v0, jI v1, jI v2]) (st1 := [jR v0]) rfl ?_
          refine L_getP (d := 5) (c103 25 rfl) hM hv0 rfl ?_
          refine L_ps c103 (n := 1) (pc1 := 29) (ls1 := [jR v0, jI v1, jI v2]) (st1 := [jI v2, jR (v0 + 5)]) rfl ?_
          obtain ⟨hb, h⟩ := h
          refine L_iald (c103 29 rfl) hM (rp_9_5 hv0) (lp_9_5 hv0) hb ?_
          refine L_ps c103 (n := 1) (pc1 := 31) (ls1 := [jR v0, jI v1, jI v2]) (st1 := [jI (-1), jI (μ (v0 + 5) v2.toNat)]) rfl ?_
          refine L_nb (p1 := 41) (p2 := 34) (c103 31 rfl) rfl jc_ne h (fun h => ?_) (fun h => ?_)
          · refine L_ps c103 (n := 1) (pc1 := 35) (ls1 := [jR v0, jI v1, jI v2]) (st1 := [jR v0]) rfl ?_
            refine L_getP (d := 5) (c103 35 rfl) hM hv0 rfl ?_
            refine L_ps c103 (n := 2) (pc1 := 40) (ls1 := [jR v0, jI v1, jI v2]) (st1 := [jI v1, jI v2, jR (v0 + 5)]) rfl ?_
            obtain ⟨hb, h⟩ := h
            refine L_iast (c103 40 rfl) hM (rp_9_5 hv0) (lp_9_5 hv0) hb (fun M hM => ?_)
            exact k_Unifier_shareVariable_j41 hv0 hM hQ h
          · exact k_Unifier_shareVariable_j41 hv0 hM hQ h
        · exact L_end (c103 53 rfl) rfl (hQ _ _ hM h)
    · exact L_end (c103 53 rfl) rfl (hQ _ _ hM h)
theorem k_Unifier_load_j110 {E : JE2} {v0 : Nat} {v1 : Nat} {v2 : Int} {v3 : Int} {v4 : Int} {μ : Mem} {M : JM} {P : JO → JM → Prop} {g5 : JV} {g6 : JV} {W8 : Int → Mem → Prop} {Q : Int → Mem → Prop} (hg5 : jc2 g5 = false) (hv0 : rt v0 = 9) (hv1 : rt v1 = 8) (hM : Rl E M μ) (hQ : ∀ (r : Int) (M1 : JM) (μ1 : Mem), Rl E M1 μ1 → Q r μ1 → P (.inl (some (.inl r))) M1) (hW8 : ∀ (v4 : Int) (g5 : JV) (g6 : JV) (M1 : JM) (μ1 : Mem), jc2 g5 = false → Rl E M1 μ1 → W8 v4 μ1 → JX 102 8 [jR v0, jR v1, jI v2, jI v3, jI v4, g5, g6] [] M1 P) (h : d_Unifier_load_j110 v0 v1 v2 v3 v4 μ W8 Q) : JX 102 110 [jR v0, jR v1, jI v2, jI v3, jI v4, g5, g6] [] M P := by
  unfold d_Unifier_load_j110 at h
  refine L_ps c102 (n := 2) (pc1 := 112) (ls1 := [jR v0, jR v1, jI v2, jI v3, jI v4, g5, g6]) (st1 := [jR v0, jR v0]) rfl ?_
  refine L_getI (c102 112 rfl) hM hv0 rfl ?_
  refine L_ps c102 (n := 2) (pc1 := 117) (ls1 := [jR v0, jR v1, jI v2, jI v3, jI v4, g5, g6]) (st1 := [jI (wr ((μ v0 0) + 1)), jR v0]) rfl ?_
  refine L_putI (c102 117 rfl) hM hv0 rfl (fun M hM => ?_)
  refine L_ps c102 (n := 2) (pc1 := 8) (ls1 := [jR v0, jR v1, jI v2, jI v3, jI (wr (v4 + 1)), g5, g6]) (st1 := []) rfl ?_
  exact hW8 _ _ _ _ _ hg5 hM h
theorem k_Unifier_load_j68 {E : JE2} {v0 : Nat} {v1 : Nat} {v2 : Int} {v3 : Int} {v4 : Int} {v5 : Int} {v6 : Int} {t0 : Nat} {t1 : Int} {t2 : Int} {μ : Mem} {M : JM} {P : JO → JM → Prop} {W8 : Int → Mem → Prop} {Q : Int → Mem → Prop} (hv0 : rt v0 = 9) (hv1 : rt v1 = 8) (ht0 : rt t0 = 100) (hM : Rl E M μ) (hQ : ∀ (r : Int) (M1 : JM) (μ1 : Mem), Rl E M1 μ1 → Q r μ1 → P (.inl (some (.inl r))) M1) (hW8 : ∀ (v4 : Int) (g5 : JV) (g6 : JV) (M1 : JM) (μ1 : Mem), jc2 g5 = false → Rl E M1 μ1 → W8 v4 μ1 → JX 102 8 [jR v0, jR v1, jI v2, jI v3, jI v4, g5, g6] [] M1 P) (h : d_Unifier_load_j68 v0 v1 v2 v3 v4 v5 v6 t0 t1 t2 μ W8 Q) : JX 102 68 [jR v0, jR v1, jI v2, jI v3, jI v4, jI v5, jI v6] [jI t2, jI t1, jR t0] M P := by
  unfold d_Unifier_load_j68 at h
  obtain ⟨hb, h⟩ := h
  refine L_iast (c102 68 rfl) hM ht0 rfl hb (fun M hM => ?_)
  refine L_ps c102 (n := 1) (pc1 := 70) (ls1 := [jR v0, jR v1, jI v2, jI v3, jI v4, jI v5, jI v6]) (st1 := [jR v0]) rfl ?_
  refine L_getP (d := 3) (c102 70 rfl) hM hv0 rfl ?_
  refine L_ps c102 (n := 4) (pc1 := 79) (ls1 := [jR v0, jR v1, jI v2, jI v3, jI v4, jI v5, jI v6]) (st1 := [jI v4, jR v1, jI v3, jI v6, jR (v0 + 3)]) rfl ?_
  refine L_cpI (c102 79 rfl) (js_v rfl ((Rl_tag hM hv1 (by decide)).trans js68)) hh102 (k_Term_end hv1 hM h) (fun r3 M hM h => ?_) (fun _ _ _ _ f => f.elim)
  refine L_ps c102 (n := 1) (pc1 := 83) (ls1 := [jR v0, jR v1, jI v2, jI v3, jI v4, jI v5, jI v6]) (st1 := [jI (wr (v3 + r3)), jI v6, jR (v0 + 3)]) rfl ?_
  obtain ⟨hb, h⟩ := h
  refine L_iast (c102 83 rfl) hM (rp_9_3 hv0) (lp_9_3 hv0) hb (fun M hM => ?_)
  refine L_ps c102 (n := 1) (pc1 := 85) (ls1 := [jR v0, jR v1, jI v2, jI v3, jI v4, jI v5, jI v6]) (st1 := [jR v0]) rfl ?_
  refine L_getP (d := 2) (c102 85 rfl) hM hv0 rfl ?_
  refine L_ps c102 (n := 2) (pc1 := 92) (ls1 := [jR v0, jR v1, jI v2, jI v3, jI v4, jI v5, jI v6]) (st1 := [jI v6, jI v6, jR (v0 + 2)]) rfl ?_
  obtain ⟨hb, h⟩ := h
  refine L_iast (c102 92 rfl) hM (rp_9_2 hv0) (lp_9_2 hv0) hb (fun M hM => ?_)
  refine L_ps c102 (n := 1) (pc1 := 95) (ls1 := [jR v0, jR v1, jI v2, jI v3, jI v4, jI v5, jI v6]) (st1 := [jI v5]) rfl ?_
  refine L_nb (p1 := 110) (p2 := 98) (c102 95 rfl) rfl jc_ge h (fun h => ?_) (fun h => ?_)
  · refine L_ps c102 (n := 7) (pc1 := 107) (ls1 := [jR v0, jR v1, jI v2, jI v3, jI v4, jI v5, jI v6]) (st1 := [jI (wr ((wr (v2 - 1)) - v5)), jI v6, jR v0]) rfl ?_
    refine L_cV (c102 107 rfl) (js_v rfl ((Rl_tag hM hv0 (by decide)).trans js103)) hh102 (k_Unifier_shareVariable hv0 hM h) (fun M μ6 hM h => ?_) (fun _ _ _ _ f => f.elim)
    exact k_Unifier_load_j110 rfl hv0 hv1 hM hQ hW8 h
  · exact k_Unifier_load_j110 rfl hv0 hv1 hM hQ hW8 h
theorem k_Unifier_load_b8 {E : JE2} {v0 : Nat} {v1 : Nat} {v2 : Int} {v3 : Int} {v4 : Int} {μ : Mem} {M : JM} {P : JO → JM → Prop} {g5 : JV} {g6 : JV} {W8 : Int → Mem → Prop} {Q : Int → Mem → Prop} (hg5 : jc2 g5 = false) (hv0 : rt v0 = 9) (hv1 : rt v1 = 8) (hM : Rl E M μ) (hQ : ∀ (r : Int) (M1 : JM) (μ1 : Mem), Rl E M1 μ1 → Q r μ1 → P (.inl (some (.inl r))) M1) (hW8 : ∀ (v4 : Int) (g5 : JV) (g6 : JV) (M1 : JM) (μ1 : Mem), jc2 g5 = false → Rl E M1 μ1 → W8 v4 μ1 → JX 102 8 [jR v0, jR v1, jI v2, jI v3, jI v4, g5, g6] [] M1 P) (h : d_Unifier_load_b8 v0 v1 v2 v3 v4 μ W8 Q) : JX 102 8 [jR v0, jR v1, jI v2, jI v3, jI v4, g5, g6] [] M P := by
  unfold d_Unifier_load_b8 at h
  refine L_ps c102 (n := 2) (pc1 := 11) (ls1 := [jR v0, jR v1, jI v2, jI v3, jI v4, g5, g6]) (st1 := [jR v1, jI v4]) rfl ?_
  refine L_getI (c102 11 rfl) hM hv1 rfl ?_
  refine L_nb (p1 := 126) (p2 := 17) (c102 14 rfl) rfl jc_ge h (fun h => ?_) (fun h => ?_)
  · refine L_ps c102 (n := 1) (pc1 := 18) (ls1 := [jR v0, jR v1, jI v2, jI v3, jI v4, g5, g6]) (st1 := [jR v0]) rfl ?_
    refine L_getI (c102 18 rfl) hM hv0 rfl ?_
    refine L_br (p1 := 126) (p2 := 24) (c102 21 rfl) rfl jc_lt h (fun h => ?_) (fun h => ?_)
    · refine L_ps c102 (n := 1) (pc1 := 127) (ls1 := [jR v0, jR v1, jI v2, jI v3, jI v4, g5, g6]) (st1 := [jI v3]) rfl ?_
      exact L_retI (c102 127 rfl) (hQ _ _ _ hM h)
    · refine L_ps c102 (n := 1) (pc1 := 25) (ls1 := [jR v0, jR v1, jI v2, jI v3, jI v4, g5, g6]) (st1 := [jR v0]) rfl ?_
      refine L_getI (c102 25 rfl) hM hv0 rfl ?_
      refine L_ps c102 (n := 1) (pc1 := 31) (ls1 := [jR v0, jR v1, jI v2, jI v3, jI v4, g5, g6]) (st1 := [jI 160, jI (μ v0 0)]) rfl ?_
      refine L_nb (p1 := 126) (p2 := 34) (c102 31 rfl) rfl jc_ge h (fun h => ?_) (fun h => ?_)
      · refine L_ps c102 (n := 2) (pc1 := 37) (ls1 := [jR v0, jR v1, jI v2, jI v3, jI v4, g5, g6]) (st1 := [jI v4, jR v1]) rfl ?_
        refine L_cpI (c102 37 rfl) (js_v rfl ((Rl_tag hM hv1 (by decide)).trans js46)) hh102 (k_Term_get hv1 hM h) (fun r1 M hM h => ?_) (fun _ _ _ _ f => f.elim)
        refine L_ps c102 (n := 2) (pc1 := 43) (ls1 := [jR v0, jR v1, jI v2, jI v3, jI v4, jI r1, g6]) (st1 := [jR v0]) rfl ?_
        refine L_getI (c102 43 rfl) hM hv0 rfl ?_
        refine L_ps c102 (n := 2) (pc1 := 49) (ls1 := [jR v0, jR v1, jI v2, jI v3, jI v4, jI r1, jI (μ v0 0)]) (st1 := [jR v0]) rfl ?_
        refine L_getP (d := 1) (c102 49 rfl) hM hv0 rfl ?_
        refine L_ps c102 (n := 2) (pc1 := 56) (ls1 := [jR v0, jR v1, jI v2, jI v3, jI v4, jI r1, jI (μ v0 0)]) (st1 := [jI r1, jI (μ v0 0), jR (v0 + 1)]) rfl ?_
        refine L_nb (p1 := 66) (p2 := 59) (c102 56 rfl) rfl jc_ge h (fun h => ?_) (fun h => ?_)
        · refine L_ps c102 (n := 4) (pc1 := 68) (ls1 := [jR v0, jR v1, jI v2, jI v3, jI v4, jI r1, jI (μ v0 0)]) (st1 := [jI (wr (r1 - v2)), jI (μ v0 0), jR (v0 + 1)]) rfl ?_
          exact k_Unifier_load_j68 hv0 hv1 (rp_9_1 hv0) hM hQ hW8 h
        · refine L_ps c102 (n := 1) (pc1 := 68) (ls1 := [jR v0, jR v1, jI v2, jI v3, jI v4, jI r1, jI (μ v0 0)]) (st1 := [jI r1, jI (μ v0 0), jR (v0 + 1)]) rfl ?_
          exact k_Unifier_load_j68 hv0 hv1 (rp_9_1 hv0) hM hQ hW8 h
      · refine L_ps c102 (n := 1) (pc1 := 127) (ls1 := [jR v0, jR v1, jI v2, jI v3, jI v4, g5, g6]) (st1 := [jI v3]) rfl ?_
        exact L_retI (c102 127 rfl) (hQ _ _ _ hM h)
  · refine L_ps c102 (n := 1) (pc1 := 127) (ls1 := [jR v0, jR v1, jI v2, jI v3, jI v4, g5, g6]) (st1 := [jI v3]) rfl ?_
    exact L_retI (c102 127 rfl) (hQ _ _ _ hM h)
theorem k_Unifier_load_l8 {E : JE2} {v0 : Nat} {v1 : Nat} {v2 : Int} {v3 : Int} {v4 : Int} {μ : Mem} {M : JM} {P : JO → JM → Prop} {g5 : JV} {g6 : JV} {Q : Int → Mem → Prop} (hg5 : jc2 g5 = false) (hv0 : rt v0 = 9) (hv1 : rt v1 = 8) (hM : Rl E M μ) (hQ : ∀ (r : Int) (M1 : JM) (μ1 : Mem), Rl E M1 μ1 → Q r μ1 → P (.inl (some (.inl r))) M1) (h : d_Unifier_load_l8 v0 v1 v2 v3 v4 μ Q) : JX 102 8 [jR v0, jR v1, jI v2, jI v3, jI v4, g5, g6] [] M P := by
  refine h (fun v4 μ => ∀ (g5 : JV) (g6 : JV) (M : JM), jc2 g5 = false → Rl E M μ → JX 102 8 [jR v0, jR v1, jI v2, jI v3, jI v4, g5, g6] [] M P) ?_ _ _ _ hg5 hM
  intro v4 μ h g5 g6 M hg5 hM
  exact k_Unifier_load_b8 hg5 hv0 hv1 hM hQ (fun v4 g5 g6 M μ hg5 hM h => h g5 g6 M hg5 hM) h
theorem k_Unifier_load {E : JE2} {v0 : Nat} {v1 : Nat} {v2 : Int} {μ : Mem} {M : JM} {Q : Int → Mem → Prop} (hv0 : rt v0 = 9) (hv1 : rt v1 = 8) (hM : Rl E M μ) (h : d_Unifier_load v0 v1 v2 μ Q) : JX 102 0 (jargs 102 [jR v0, jR v1, jI v2]) [] M (PO E (QI Q) XN) := by
  unfold d_Unifier_load at h
  show JX 102 0 [jR v0, jR v1, jI v2, jU, jU, jU, jU] [] M (PO E (QI Q) XN)
  generalize hP : PO E (QI Q) XN = P
  have hQ : ∀ (r : Int) (M1 : JM) (μ1 : Mem), Rl E M1 μ1 → Q r μ1 → P (.inl (some (.inl r))) M1 := by rw [← hP]; exact fun r M1 μ1 a b => ⟨μ1, a, r, rfl, b⟩
  clear hP
  refine L_ps c102 (n := 1) (pc1 := 1) (ls1 := [jR v0, jR v1, jI v2, jU, jU, jU, jU]) (st1 := [jR v0]) rfl ?_
  refine L_getI (c102 1 rfl) hM hv0 rfl ?_
  refine L_ps c102 (n := 3) (pc1 := 8) (ls1 := [jR v0, jR v1, jI v2, jI (μ v0 0), jI 0, jU, jU]) (st1 := []) rfl ?_
  exact k_Unifier_load_l8 rfl hv0 hv1 hM hQ h
