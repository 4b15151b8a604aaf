/-! WHAT THE METHODS DO, as texts over numbers, and that the printed tables do it (written by wip/gen/dec.py), 0 -/
def d_Parser_putFourBytes_j52 (v1 : Int) (v2 : Int) (μ : Mem) (W3 : Int → Mem → Prop) (Q : Mem → Prop) : Prop := W3 (wr (v2 + (-8))) μ
def d_Parser_putFourBytes_b3 (v1 : Int) (v2 : Int) (μ : Mem) (W3 : Int → Mem → Prop) (Q : Mem → Prop) : Prop := if v2 < 0 then (Q μ) else (if μ 72 4 < 0 then (d_Parser_putFourBytes_j52 v1 v2 μ W3 Q) else (if μ 72 4 < 500 then ((0 ≤ μ 72 4 ∧ μ 72 4 < 500) ∧ d_Parser_putFourBytes_j52 v1 v2 (mup (mup μ 129 (μ 72 4).toNat (jand (jushr v1 v2) 255)) 72 4 (wr (((mup μ 129 (μ 72 4).toNat (jand (jushr v1 v2) 255)) 72 4) + 1))) W3 Q) else (d_Parser_putFourBytes_j52 v1 v2 μ W3 Q)))
def d_Parser_putFourBytes_l3 (v1 : Int) (v2 : Int) (μ : Mem) (Q : Mem → Prop) : Prop := ∀ W : Int → Mem → Prop, (∀ (v2 : Int) (μ : Mem), d_Parser_putFourBytes_b3 v1 v2 μ W Q → W v2 μ) → W v2 μ
def d_Parser_putFourBytes (v1 : Int) (μ : Mem) (Q : Mem → Prop) : Prop := d_Parser_putFourBytes_l3 v1 24 μ Q
theorem k_Parser_putFourBytes_j52 {E : JE2} {v1 : Int} {v2 : Int} {μ : Mem} {M : JM} {P : JO → JM → Prop} {W3 : Int → Mem → Prop} {Q : Mem → Prop} (hM : Rl E M μ) (hQ : ∀ (M1 : JM) (μ1 : Mem), Rl E M1 μ1 → Q μ1 → P (.inl none) M1) (hW3 : ∀ (v2 : Int) (M1 : JM) (μ1 : Mem), Rl E M1 μ1 → W3 v2 μ1 → JX 14 3 [jR 72, jI v1, jI v2] [] M1 P) (h : d_Parser_putFourBytes_j52 v1 v2 μ W3 Q) : JX 14 52 [jR 72, jI v1, jI v2] [] M P := by
  unfold d_Parser_putFourBytes_j52 at h
  refine L_ps c14 (n := 2) (pc1 := 3) (ls1 := [jR 72, jI v1, jI (wr (v2 + (-8)))]) (st1 := []) rfl ?_
  exact hW3 _ _ _ hM h
theorem k_Parser_putFourBytes_b3 {E : JE2} {v1 : Int} {v2 : Int} {μ : Mem} {M : JM} {P : JO → JM → Prop} {W3 : Int → Mem → Prop} {Q : Mem → Prop} (hM : Rl E M μ) (hQ : ∀ (M1 : JM) (μ1 : Mem), Rl E M1 μ1 → Q μ1 → P (.inl none) M1) (hW3 : ∀ (v2 : Int) (M1 : JM) (μ1 : Mem), Rl E M1 μ1 → W3 v2 μ1 → JX 14 3 [jR 72, jI v1, jI v2] [] M1 P) (h : d_Parser_putFourBytes_b3 v1 v2 μ W3 Q) : JX 14 3 [jR 72, jI v1, jI v2] [] M P := by
  unfold d_Parser_putFourBytes_b3 at h
  refine L_ps c14 (n := 1) (pc1 := 4) (ls1 := [jR 72, jI v1, jI v2]) (st1 := [jI v2]) rfl ?_
  refine L_br (p1 := 58) (p2 := 7) (c14 4 rfl) rfl jc_lt h (fun h => ?_) (fun h => ?_)
  · exact L_end (c14 58 rfl) rfl (hQ _ _ hM h)
  · refine L_ps c14 (n := 1) (pc1 := 8) (ls1 := [jR 72, jI v1, jI v2]) (st1 := [jR 72]) rfl ?_
    refine L_getI (c14 8 rfl) hM rt72 rfl ?_
    refine L_br (p1 := 52) (p2 := 14) (c14 11 rfl) rfl jc_lt h (fun h => ?_) (fun h => ?_)
    · exact k_Parser_putFourBytes_j52 hM hQ hW3 h
    · refine L_ps c14 (n := 1) (pc1 := 15) (ls1 := [jR 72, jI v1, jI v2]) (st1 := [jR 72]) rfl ?_
      refine L_getI (c14 15 rfl) hM rt72 rfl ?_
      refine L_ps c14 (n := 1) (pc1 := 19) (ls1 := [jR 72, jI v1, jI v2]) (st1 := [jR 72, jI (μ 72 4)]) rfl ?_
      refine L_getP (d := 57) (c14 19 rfl) hM rt72 rfl ?_
      refine L_alen (n := 500) (z := 500) (c14 22 rfl) hM rt129 (by decide) ln129 (by decide) rfl ?_
      refine L_nb (p1 := 52) (p2 := 26) (c14 23 rfl) rfl jc_ge h (fun h => ?_) (fun h => ?_)
      · refine L_ps c14 (n := 1) (pc1 := 27) (ls1 := [jR 72, jI v1, jI v2]) (st1 := [jR 72]) rfl ?_
        refine L_getP (d := 57) (c14 27 rfl) hM rt72 rfl ?_
        refine L_ps c14 (n := 1) (pc1 := 31) (ls1 := [jR 72, jI v1, jI v2]) (st1 := [jR 72, jR 129]) rfl ?_
        refine L_getI (c14 31 rfl) hM rt72 rfl ?_
        refine L_ps c14 (n := 5) (pc1 := 41) (ls1 := [jR 72, jI v1, jI v2]) (st1 := [jI (jand (jushr v1 v2) 255), jI (μ 72 4), jR 129]) rfl ?_
        obtain ⟨hb, h⟩ := h
        refine L_iast (c14 41 rfl) hM rt129 ln129 hb (fun M hM => ?_)
        refine L_ps c14 (n := 2) (pc1 := 44) (ls1 := [jR 72, jI v1, jI v2]) (st1 := [jR 72, jR 72]) rfl ?_
        refine L_getI (c14 44 rfl) hM rt72 rfl ?_
        refine L_ps c14 (n := 2) (pc1 := 49) (ls1 := [jR 72, jI v1, jI v2]) (st1 := [jI (wr (((mup μ 129 (μ 72 4).toNat (jand (jushr v1 v2) 255)) 72 4) + 1)), jR 72]) rfl ?_
        refine L_putI (c14 49 rfl) hM rt72 rfl (fun M hM => ?_)
        exact k_Parser_putFourBytes_j52 hM hQ hW3 h
      · exact k_Parser_putFourBytes_j52 hM hQ hW3 h
theorem i_Parser_putFourBytes_l3 {v1 : Int} {Q : Mem → Prop} {Inv : Int → Mem → Prop} (f : Int → Mem → Nat) (hi : ∀ (v2 : Int) (μ : Mem), Inv v2 μ → ∀ W : Int → Mem → Prop, (∀ (v2' : Int) (μ' : Mem), Inv v2' μ' → f v2' μ' < f v2 μ → W v2' μ') → d_Parser_putFourBytes_b3 v1 v2 μ W Q) : ∀ (v2 : Int) (μ : Mem), Inv v2 μ → d_Parser_putFourBytes_l3 v1 v2 μ Q := by
  intro v2 μ hI W hW
  have key : ∀ (n : Nat) (v2 : Int) (μ : Mem), f v2 μ = n → Inv v2 μ → W v2 μ := by
    intro n
    induction n using Nat.strongRecOn with
    | _ n ih =>
      intro v2 μ hf hI
      exact hW _ _ (hi v2 μ hI W fun v2' μ' hI' hl => ih _ (by omega) v2' μ' rfl hI')
  exact key _ v2 μ rfl hI
theorem k_Parser_putFourBytes_l3 {E : JE2} {v1 : Int} {v2 : Int} {μ : Mem} {M : JM} {P : JO → JM → Prop} {Q : Mem → Prop} (hM : Rl E M μ) (hQ : ∀ (M1 : JM) (μ1 : Mem), Rl E M1 μ1 → Q μ1 → P (.inl none) M1) (h : d_Parser_putFourBytes_l3 v1 v2 μ Q) : JX 14 3 [jR 72, jI v1, jI v2] [] M P := by
  refine h (fun v2 μ => ∀ (M : JM), Rl E M μ → JX 14 3 [jR 72, jI v1, jI v2] [] M P) ?_ _ hM
  intro v2 μ h M hM
  exact k_Parser_putFourBytes_b3 hM hQ (fun v2 M μ hM h => h M hM) h
theorem k_Parser_putFourBytes {E : JE2} {v1 : Int} {μ : Mem} {M : JM} {Q : Mem → Prop} (hM : Rl E M μ) (h : d_Parser_putFourBytes v1 μ Q) : JX 14 0 (jargs 14 [jR 72, jI v1]) [] M (PO E (QV Q) XN) := by
  unfold d_Parser_putFourBytes at h
  show JX 14 0 [jR 72, jI v1, jU] [] M (PO E (QV Q) XN)
  generalize hP : PO E (QV Q) XN = P
  have hQ : ∀ (M1 : JM) (μ1 : Mem), Rl E M1 μ1 → Q μ1 → P (.inl none) M1 := by rw [← hP]; exact fun M1 μ1 a b => ⟨μ1, a, rfl, b⟩
  clear hP
  refine L_ps c14 (n := 2) (pc1 := 3) (ls1 := [jR 72, jI v1, jI 24]) (st1 := []) rfl ?_
  exact k_Parser_putFourBytes_l3 hM hQ h
def d_OB_append (v1 : Int) (v2 : Int) (v3 : Int) (v4 : Int) (v5 : Int) (μ : Mem) (Q : Int → Mem → Prop) : Prop := if 480 < μ 72 4 then (Q (-1) μ) else (d_Parser_putFourBytes v1 μ (fun μ2 => d_Parser_putFourBytes v2 μ2 (fun μ4 => d_Parser_putFourBytes v3 μ4 (fun μ6 => d_Parser_putFourBytes v4 μ6 (fun μ8 => d_Parser_putFourBytes v5 μ8 (fun μ10 => Q (μ10 72 4) μ10))))))
theorem k_OB_append {E : JE2} {v1 : Int} {v2 : Int} {v3 : Int} {v4 : Int} {v5 : Int} {μ : Mem} {M : JM} {Q : Int → Mem → Prop} (hM : Rl E M μ) (h : d_OB_append v1 v2 v3 v4 v5 μ Q) : JX 13 0 (jargs 13 [jR 0, jI v1, jI v2, jI v3, jI v4, jI v5]) [] M (PO E (QI Q) XN) := by
  unfold d_OB_append at h
  show JX 13 0 [jR 0, jI v1, jI v2, jI v3, jI v4, jI v5] [] M (PO E (QI Q) XN)
  generalize hP : PO E (QI Q) XN = P
  have hQ : ∀ (r : Int) (M1 : JM) (μ1 : Mem), Rl E M1 μ1 → Q r μ1 → P (.inl (some (.inl r))) M1 := by rw [← hP]; exact fun r M1 μ1 a b => ⟨μ1, a, r, rfl, b⟩
  clear hP
  refine L_ps c13 (n := 1) (pc1 := 1) (ls1 := [jR 0, jI v1, jI v2, jI v3, jI v4, jI v5]) (st1 := [jR 0]) rfl ?_
  refine L_getP (d := 72) (c13 1 rfl) hM rt0 rfl ?_
  refine L_getI (c13 4 rfl) hM rt72 rfl ?_
  refine L_ps c13 (n := 1) (pc1 := 10) (ls1 := [jR 0, jI v1, jI v2, jI v3, jI v4, jI v5]) (st1 := [jI 480, jI (μ 72 4)]) rfl ?_
  refine L_nb (p1 := 15) (p2 := 13) (c13 10 rfl) rfl jc_le h (fun h => ?_) (fun h => ?_)
  · refine L_ps c13 (n := 1) (pc1 := 14) (ls1 := [jR 0, jI v1, jI v2, jI v3, jI v4, jI v5]) (st1 := [jI (-1)]) rfl ?_
    exact L_retI (c13 14 rfl) (hQ _ _ _ hM h)
  · refine L_ps c13 (n := 1) (pc1 := 16) (ls1 := [jR 0, jI v1, jI v2, jI v3, jI v4, jI v5]) (st1 := [jR 0]) rfl ?_
    refine L_getP (d := 72) (c13 16 rfl) hM rt0 rfl ?_
    refine L_ps c13 (n := 1) (pc1 := 20) (ls1 := [jR 0, jI v1, jI v2, jI v3, jI v4, jI v5]) (st1 := [jI v1, jR 72]) rfl ?_
    refine L_cV (c13 20 rfl) (js_v rfl ((Rl_tag hM rt72 (by decide)).trans js14)) hh13 (k_Parser_putFourBytes hM h) (fun M μ2 hM h => ?_) (fun _ _ _ _ f => f.elim)
    refine L_ps c13 (n := 1) (pc1 := 24) (ls1 := [jR 0, jI v1, jI v2, jI v3, jI v4, jI v5]) (st1 := [jR 0]) rfl ?_
    refine L_getP (d := 72) (c13 24 rfl) hM rt0 rfl ?_
    refine L_ps c13 (n := 1) (pc1 := 28) (ls1 := [jR 0, jI v1, jI v2, jI v3, jI v4, jI v5]) (st1 := [jI v2, jR 72]) rfl ?_
    refine L_cV (c13 28 rfl) (js_v rfl ((Rl_tag hM rt72 (by decide)).trans js14)) hh13 (k_Parser_putFourBytes hM h) (fun M μ4 hM h => ?_) (fun _ _ _ _ f => f.elim)
    refine L_ps c13 (n := 1) (pc1 := 32) (ls1 := [jR 0, jI v1, jI v2, jI v3, jI v4, jI v5]) (st1 := [jR 0]) rfl ?_
    refine L_getP (d := 72) (c13 32 rfl) hM rt0 rfl ?_
    refine L_ps c13 (n := 1) (pc1 := 36) (ls1 := [jR 0, jI v1, jI v2, jI v3, jI v4, jI v5]) (st1 := [jI v3, jR 72]) rfl ?_
    refine L_cV (c13 36 rfl) (js_v rfl ((Rl_tag hM rt72 (by decide)).trans js14)) hh13 (k_Parser_putFourBytes hM h) (fun M μ6 hM h => ?_) (fun _ _ _ _ f => f.elim)
    refine L_ps c13 (n := 1) (pc1 := 40) (ls1 := [jR 0, jI v1, jI v2, jI v3, jI v4, jI v5]) (st1 := [jR 0]) rfl ?_
    refine L_getP (d := 72) (c13 40 rfl) hM rt0 rfl ?_
    refine L_ps c13 (n := 1) (pc1 := 45) (ls1 := [jR 0, jI v1, jI v2, jI v3, jI v4, jI v5]) (st1 := [jI v4, jR 72]) rfl ?_
    refine L_cV (c13 45 rfl) (js_v rfl ((Rl_tag hM rt72 (by decide)).trans js14)) hh13 (k_Parser_putFourBytes hM h) (fun M μ8 hM h => ?_) (fun _ _ _ _ f => f.elim)
    refine L_ps c13 (n := 1) (pc1 := 49) (ls1 := [jR 0, jI v1, jI v2, jI v3, jI v4, jI v5]) (st1 := [jR 0]) rfl ?_
    refine L_getP (d := 72) (c13 49 rfl) hM rt0 rfl ?_
    refine L_ps c13 (n := 1) (pc1 := 54) (ls1 := [jR 0, jI v1, jI v2, jI v3, jI v4, jI v5]) (st1 := [jI v5, jR 72]) rfl ?_
    refine L_cV (c13 54 rfl) (js_v rfl ((Rl_tag hM rt72 (by decide)).trans js14)) hh13 (k_Parser_putFourBytes hM h) (fun M μ10 hM h => ?_) (fun _ _ _ _ f => f.elim)
    refine L_ps c13 (n := 1) (pc1 := 58) (ls1 := [jR 0, jI v1, jI v2, jI v3, jI v4, jI v5]) (st1 := [jR 0]) rfl ?_
    refine L_getP (d := 72) (c13 58 rfl) hM rt0 rfl ?_
    refine L_getI (c13 61 rfl) hM rt72 rfl ?_
    exact L_retI (c13 64 rfl) (hQ _ _ _ hM h)
def d_OB_parseErrorCode (μ : Mem) (Q : Int → Prop) : Prop := Q (μ 72 0)
theorem k_OB_parseErrorCode {E : JE2} {μ : Mem} {M : JM} {Q : Int → Prop} (hM : Rl E M μ) (h : d_OB_parseErrorCode μ Q) : JX 15 0 (jargs 15 [jR 0]) [] M (PO E (pQI μ Q) XN) := by
  unfold d_OB_parseErrorCode at h
  show JX 15 0 [jR 0] [] M (PO E (pQI μ Q) XN)
  generalize hP : PO E (pQI μ Q) XN = P
  have hQ : ∀ (r : Int) (M1 : JM), Rl E M1 μ → Q r → P (.inl (some (.inl r))) M1 := by rw [← hP]; exact fun r M1 a b => ⟨μ, a, rfl, r, rfl, b⟩
  clear hP
  refine L_ps c15 (n := 1) (pc1 := 1) (ls1 := [jR 0]) (st1 := [jR 0]) rfl ?_
  refine L_getP (d := 72) (c15 1 rfl) hM rt0 rfl ?_
  refine L_getI (c15 4 rfl) hM rt72 rfl ?_
  exact L_retI (c15 7 rfl) (hQ _ _ hM h)
def d_OB_parseErrorPosition (μ : Mem) (Q : Int → Prop) : Prop := Q (μ 72 1)
theorem k_OB_parseErrorPosition {E : JE2} {μ : Mem} {M : JM} {Q : Int → Prop} (hM : Rl E M μ) (h : d_OB_parseErrorPosition μ Q) : JX 16 0 (jargs 16 [jR 0]) [] M (PO E (pQI μ Q) XN) := by
  unfold d_OB_parseErrorPosition at h
  show JX 16 0 [jR 0] [] M (PO E (pQI μ Q) XN)
  generalize hP : PO E (pQI μ Q) XN = P
  have hQ : ∀ (r : Int) (M1 : JM), Rl E M1 μ → Q r → P (.inl (some (.inl r))) M1 := by rw [← hP]; exact fun r M1 a b => ⟨μ, a, rfl, r, rfl, b⟩
  clear hP
  refine L_ps c16 (n := 1) (pc1 := 1) (ls1 := [jR 0]) (st1 := [jR 0]) rfl ?_
  refine L_getP (d := 72) (c16 1 rfl) hM rt0 rfl ?_
  refine L_getI (c16 4 rfl) hM rt72 rfl ?_
  exact L_retI (c16 7 rfl) (hQ _ _ hM h)
def d_OB_bufferLength (μ : Mem) (Q : Int → Prop) : Prop := Q (μ 72 4)
theorem k_OB_bufferLength {E : JE2} {μ : Mem} {M : JM} {Q : Int → Prop} (hM : Rl E M μ) (h : d_OB_bufferLength μ Q) : JX 17 0 (jargs 17 [jR 0]) [] M (PO E (pQI μ Q) XN) := by
  unfold d_OB_bufferLength at h
  show JX 17 0 [jR 0] [] M (PO E (pQI μ Q) XN)
  generalize hP : PO E (pQI μ Q) XN = P
  have hQ : ∀ (r : Int) (M1 : JM), Rl E M1 μ → Q r → P (.inl (some (.inl r))) M1 := by rw [← hP]; exact fun r M1 a b => ⟨μ, a, rfl, r, rfl, b⟩
  clear hP
  refine L_ps c17 (n := 1) (pc1 := 1) (ls1 := [jR 0]) (st1 := [jR 0]) rfl ?_
  refine L_getP (d := 72) (c17 1 rfl) hM rt0 rfl ?_
  refine L_getI (c17 4 rfl) hM rt72 rfl ?_
  exact L_retI (c17 7 rfl) (hQ _ _ hM h)
def d_OB_undoCount (μ : Mem) (Q : Int → Prop) : Prop := Q (μ 247 0)
theorem k_OB_undoCount {E : JE2} {μ : Mem} {M : JM} {Q : Int → Prop} (hM : Rl E M μ) (h : d_OB_undoCount μ Q) : JX 18 0 (jargs 18 [jR 0]) [] M (PO E (pQI μ Q) XN) := by
  unfold d_OB_undoCount at h
  show JX 18 0 [jR 0] [] M (PO E (pQI μ Q) XN)
  generalize hP : PO E (pQI μ Q) XN = P
  have hQ : ∀ (r : Int) (M1 : JM), Rl E M1 μ → Q r → P (.inl (some (.inl r))) M1 := by rw [← hP]; exact fun r M1 a b => ⟨μ, a, rfl, r, rfl, b⟩
  clear hP
  refine L_ps c18 (n := 1) (pc1 := 1) (ls1 := [jR 0]) (st1 := [jR 0]) rfl ?_
  refine L_getP (d := 247) (c18 1 rfl) hM rt0 rfl ?_
  refine L_getI (c18 4 rfl) hM rt247 rfl ?_
  exact L_retI (c18 7 rfl) (hQ _ _ hM h)
def d_State_clear (v0 : Nat) (μ : Mem) (Q : Mem → Prop) : Prop := Q (mup (mup μ v0 0 0) v0 1 0)
theorem k_State_clear {E : JE2} {v0 : Nat} {μ : Mem} {M : JM} {Q : Mem → Prop} (hv0 : rt v0 = 7) (hM : Rl E M μ) (h : d_State_clear v0 μ Q) : JX 22 0 (jargs 22 [jR v0]) [] M (PO E (QV Q) XN) := by
  unfold d_State_clear at h
  show JX 22 0 [jR v0] [] M (PO E (QV Q) XN)
  generalize hP : PO E (QV Q) XN = P
  have hQ : ∀ (M1 : JM) (μ1 : Mem), Rl E M1 μ1 → Q μ1 → P (.inl none) M1 := by rw [← hP]; exact fun M1 μ1 a b => ⟨μ1, a, rfl, b⟩
  clear hP
  refine L_ps c22 (n := 2) (pc1 := 2) (ls1 := [jR v0]) (st1 := [jI 0, jR v0]) rfl ?_
  refine L_putI (c22 2 rfl) hM hv0 rfl (fun M hM => ?_)
  refine L_ps c22 (n := 2) (pc1 := 7) (ls1 := [jR v0]) (st1 := [jI 0, jR v0]) rfl ?_
  refine L_putI (c22 7 rfl) hM hv0 rfl (fun M hM => ?_)
  exact L_end (c22 10 rfl) rfl (hQ _ _ hM h)
def d_Parser_byteAt (v1 : Int) (μ : Mem) (Q : Int → Prop) : Prop := if v1 < 0 then (Q (-1)) else (if v1 < μ 72 8 then (if v1 < 500 then ((0 ≤ v1 ∧ v1 < 500) ∧ Q (μ 129 v1.toNat)) else (Q (-1))) else (Q (-1)))
theorem k_Parser_byteAt {E : JE2} {v1 : Int} {μ : Mem} {M : JM} {Q : Int → Prop} (hM : Rl E M μ) (h : d_Parser_byteAt v1 μ Q) : JX 24 0 (jargs 24 [jR 72, jI v1]) [] M (PO E (pQI μ Q) XN) := by
  unfold d_Parser_byteAt at h
  show JX 24 0 [jR 72, jI v1] [] M (PO E (pQI μ Q) XN)
  generalize hP : PO E (pQI μ Q) XN = P
  have hQ : ∀ (r : Int) (M1 : JM), Rl E M1 μ → Q r → P (.inl (some (.inl r))) M1 := by rw [← hP]; exact fun r M1 a b => ⟨μ, a, rfl, r, rfl, b⟩
  clear hP
  refine L_ps c24 (n := 1) (pc1 := 1) (ls1 := [jR 72, jI v1]) (st1 := [jI v1]) rfl ?_
  refine L_br (p1 := 30) (p2 := 4) (c24 1 rfl) rfl jc_lt h (fun h => ?_) (fun h => ?_)
  · refine L_ps c24 (n := 1) (pc1 := 31) (ls1 := [jR 72, jI v1]) (st1 := [jI (-1)]) rfl ?_
    exact L_retI (c24 31 rfl) (hQ _ _ hM h)
  · refine L_ps c24 (n := 2) (pc1 := 6) (ls1 := [jR 72, jI v1]) (st1 := [jR 72, jI v1]) rfl ?_
    refine L_getI (c24 6 rfl) hM rt72 rfl ?_
    refine L_nb (p1 := 30) (p2 := 12) (c24 9 rfl) rfl jc_ge h (fun h => ?_) (fun h => ?_)
    · refine L_ps c24 (n := 2) (pc1 := 14) (ls1 := [jR 72, jI v1]) (st1 := [jR 72, jI v1]) rfl ?_
      refine L_getP (d := 57) (c24 14 rfl) hM rt72 rfl ?_
      refine L_alen (n := 500) (z := 500) (c24 17 rfl) hM rt129 (by decide) ln129 (by decide) rfl ?_
      refine L_nb (p1 := 30) (p2 := 21) (c24 18 rfl) rfl jc_ge h (fun h => ?_) (fun h => ?_)
      · refine L_ps c24 (n := 1) (pc1 := 22) (ls1 := [jR 72, jI v1]) (st1 := [jR 72]) rfl ?_
        refine L_getP (d := 57) (c24 22 rfl) hM rt72 rfl ?_
        refine L_ps c24 (n := 1) (pc1 := 26) (ls1 := [jR 72, jI v1]) (st1 := [jI v1, jR 129]) rfl ?_
        obtain ⟨hb, h⟩ := h
        refine L_iald (c24 26 rfl) hM rt129 ln129 hb ?_
        refine L_ps c24 (n := 1) (pc1 := 31) (ls1 := [jR 72, jI v1]) (st1 := [jI (μ 129 v1.toNat)]) rfl ?_
        exact L_retI (c24 31 rfl) (hQ _ _ hM h)
      · refine L_ps c24 (n := 1) (pc1 := 31) (ls1 := [jR 72, jI v1]) (st1 := [jI (-1)]) rfl ?_
        exact L_retI (c24 31 rfl) (hQ _ _ hM h)
    · refine L_ps c24 (n := 1) (pc1 := 31) (ls1 := [jR 72, jI v1]) (st1 := [jI (-1)]) rfl ?_
      exact L_retI (c24 31 rfl) (hQ _ _ hM h)
def d_Parser_kindOfByte_j65 (v1 : Int) (t0 : Int) (μ : Mem) (Q : Int → Prop) : Prop := if t0 = 0 then (Q 1) else (Q v1)
def d_Parser_kindOfByte_j60 (v1 : Int) (μ : Mem) (Q : Int → Prop) : Prop := d_Parser_kindOfByte_j65 v1 1 μ Q
def d_Parser_kindOfByte_j30 (v1 : Int) (μ : Mem) (Q : Int → Prop) : Prop := if v1 = 59 then (d_Parser_kindOfByte_j60 v1 μ Q) else (if v1 = 61 then (d_Parser_kindOfByte_j60 v1 μ Q) else (if v1 = 44 then (d_Parser_kindOfByte_j60 v1 μ Q) else (if v1 = 40 then (d_Parser_kindOfByte_j60 v1 μ Q) else (if v1 = 41 then (d_Parser_kindOfByte_j60 v1 μ Q) else (d_Parser_kindOfByte_j65 v1 0 μ Q)))))
def d_Parser_kindOfByte_j15 (v1 : Int) (μ : Mem) (Q : Int → Prop) : Prop := if v1 < 48 then (d_Parser_kindOfByte_j30 v1 μ Q) else (if 57 < v1 then (d_Parser_kindOfByte_j30 v1 μ Q) else (Q 48))
def d_Parser_kindOfByte (v1 : Int) (μ : Mem) (Q : Int → Prop) : Prop := if v1 < 65 then (d_Parser_kindOfByte_j15 v1 μ Q) else (if v1 < 73 then (Q 65) else (d_Parser_kindOfByte_j15 v1 μ Q))
theorem k_Parser_kindOfByte_j65 {E : JE2} {v1 : Int} {t0 : Int} {μ : Mem} {M : JM} {P : JO → JM → Prop} {g0 : JV} {g2 : JV} {Q : Int → Prop} (hM : Rl E M μ) (hQ : ∀ (r : Int) (M1 : JM), Rl E M1 μ → Q r → P (.inl (some (.inl r))) M1) (h : d_Parser_kindOfByte_j65 v1 t0 μ Q) : JX 25 65 [g0, jI v1, g2] [jI t0] M P := by
  unfold d_Parser_kindOfByte_j65 at h
  refine L_ps c25 (n := 2) (pc1 := 67) (ls1 := [g0, jI v1, jI t0]) (st1 := [jI t0]) rfl ?_
  refine L_br (p1 := 74) (p2 := 70) (c25 67 rfl) rfl jc_eq h (fun h => ?_) (fun h => ?_)
  · refine L_ps c25 (n := 1) (pc1 := 75) (ls1 := [g0, jI v1, jI t0]) (st1 := [jI 1]) rfl ?_
    exact L_retI (c25 75 rfl) (hQ _ _ hM h)
  · refine L_ps c25 (n := 2) (pc1 := 75) (ls1 := [g0, jI v1, jI t0]) (st1 := [jI v1]) rfl ?_
    exact L_retI (c25 75 rfl) (hQ _ _ hM h)
theorem k_Parser_kindOfByte_j60 {E : JE2} {v1 : Int} {μ : Mem} {M : JM} {P : JO → JM → Prop} {g0 : JV} {g2 : JV} {Q : Int → Prop} (hM : Rl E M μ) (hQ : ∀ (r : Int) (M1 : JM), Rl E M1 μ → Q r → P (.inl (some (.inl r))) M1) (h : d_Parser_kindOfByte_j60 v1 μ Q) : JX 25 60 [g0, jI v1, g2] [] M P := by
  unfold d_Parser_kindOfByte_j60 at h
  refine L_ps c25 (n := 2) (pc1 := 65) (ls1 := [g0, jI v1, g2]) (st1 := [jI 1]) rfl ?_
  exact k_Parser_kindOfByte_j65 hM hQ h
theorem k_Parser_kindOfByte_j30 {E : JE2} {v1 : Int} {μ : Mem} {M : JM} {P : JO → JM → Prop} {g0 : JV} {g2 : JV} {Q : Int → Prop} (hM : Rl E M μ) (hQ : ∀ (r : Int) (M1 : JM), Rl E M1 μ → Q r → P (.inl (some (.inl r))) M1) (h : d_Parser_kindOfByte_j30 v1 μ Q) : JX 25 30 [g0, jI v1, g2] [] M P := by
  unfold d_Parser_kindOfByte_j30 at h
  refine L_ps c25 (n := 2) (pc1 := 33) (ls1 := [g0, jI v1, g2]) (st1 := [jI 59, jI v1]) rfl ?_
  refine L_br (p1 := 60) (p2 := 36) (c25 33 rfl) rfl jc_eq h (fun h => ?_) (fun h => ?_)
  · exact k_Parser_kindOfByte_j60 hM hQ h
  · refine L_ps c25 (n := 2) (pc1 := 39) (ls1 := [g0, jI v1, g2]) (st1 := [jI 61, jI v1]) rfl ?_
    refine L_br (p1 := 60) (p2 := 42) (c25 39 rfl) rfl jc_eq h (fun h => ?_) (fun h => ?_)
    · exact k_Parser_kindOfByte_j60 hM hQ h
    · refine L_ps c25 (n := 2) (pc1 := 45) (ls1 := [g0, jI v1, g2]) (st1 := [jI 44, jI v1]) rfl ?_
      refine L_br (p1 := 60) (p2 := 48) (c25 45 rfl) rfl jc_eq h (fun h => ?_) (fun h => ?_)
      · exact k_Parser_kindOfByte_j60 hM hQ h
      · refine L_ps c25 (n := 2) (pc1 := 51) (ls1 := [g0, jI v1, g2]) (st1 := [jI 40, jI v1]) rfl ?_
        refine L_br (p1 := 60) (p2 := 54) (c25 51 rfl) rfl jc_eq h (fun h => ?_) (fun h => ?_)
        · exact k_Parser_kindOfByte_j60 hM hQ h
        · refine L_ps c25 (n := 2) (pc1 := 57) (ls1 := [g0, jI v1, g2]) (st1 := [jI 41, jI v1]) rfl ?_
          refine L_nb (p1 := 64) (p2 := 60) (c25 57 rfl) rfl jc_ne h (fun h => ?_) (fun h => ?_)
          · exact k_Parser_kindOfByte_j60 hM hQ h
          · refine L_ps c25 (n := 1) (pc1 := 65) (ls1 := [g0, jI v1, g2]) (st1 := [jI 0]) rfl ?_
            exact k_Parser_kindOfByte_j65 hM hQ h
theorem k_Parser_kindOfByte_j15 {E : JE2} {v1 : Int} {μ : Mem} {M : JM} {P : JO → JM → Prop} {g0 : JV} {g2 : JV} {Q : Int → Prop} (hM : Rl E M μ) (hQ : ∀ (r : Int) (M1 : JM), Rl E M1 μ → Q r → P (.inl (some (.inl r))) M1) (h : d_Parser_kindOfByte_j15 v1 μ Q) : JX 25 15 [g0, jI v1, g2] [] M P := by
  unfold d_Parser_kindOfByte_j15 at h
  refine L_ps c25 (n := 2) (pc1 := 18) (ls1 := [g0, jI v1, g2]) (st1 := [jI 48, jI v1]) rfl ?_
  refine L_br (p1 := 30) (p2 := 21) (c25 18 rfl) rfl jc_lt h (fun h => ?_) (fun h => ?_)
  · exact k_Parser_kindOfByte_j30 hM hQ h
  · refine L_ps c25 (n := 2) (pc1 := 24) (ls1 := [g0, jI v1, g2]) (st1 := [jI 57, jI v1]) rfl ?_
    refine L_br (p1 := 30) (p2 := 27) (c25 24 rfl) rfl jc_gt h (fun h => ?_) (fun h => ?_)
    · exact k_Parser_kindOfByte_j30 hM hQ h
    · refine L_ps c25 (n := 1) (pc1 := 29) (ls1 := [g0, jI v1, g2]) (st1 := [jI 48]) rfl ?_
      exact L_retI (c25 29 rfl) (hQ _ _ hM h)
theorem k_Parser_kindOfByte {E : JE2} {v1 : Int} {μ : Mem} {M : JM} {Q : Int → Prop} (hM : Rl E M μ) (h : d_Parser_kindOfByte v1 μ Q) : JX 25 0 (jargs 25 [jR 72, jI v1]) [] M (PO E (pQI μ Q) XN) := by
  unfold d_Parser_kindOfByte at h
  show JX 25 0 [jR 72, jI v1, jU] [] M (PO E (pQI μ Q) XN)
  generalize hP : PO E (pQI μ Q) XN = P
  have hQ : ∀ (r : Int) (M1 : JM), Rl E M1 μ → Q r → P (.inl (some (.inl r))) M1 := by rw [← hP]; exact fun r M1 a b => ⟨μ, a, rfl, r, rfl, b⟩
  clear hP
  refine L_ps c25 (n := 2) (pc1 := 3) (ls1 := [jR 72, jI v1, jU]) (st1 := [jI 65, jI v1]) rfl ?_
  refine L_br (p1 := 15) (p2 := 6) (c25 3 rfl) rfl jc_lt h (fun h => ?_) (fun h => ?_)
  · exact k_Parser_kindOfByte_j15 hM hQ h
  · refine L_ps c25 (n := 2) (pc1 := 9) (ls1 := [jR 72, jI v1, jU]) (st1 := [jI 73, jI v1]) rfl ?_
    refine L_nb (p1 := 15) (p2 := 12) (c25 9 rfl) rfl jc_ge h (fun h => ?_) (fun h => ?_)
    · refine L_ps c25 (n := 1) (pc1 := 14) (ls1 := [jR 72, jI v1, jU]) (st1 := [jI 65]) rfl ?_
      exact L_retI (c25 14 rfl) (hQ _ _ hM h)
    · exact k_Parser_kindOfByte_j15 hM hQ h
def d_Parser_next_j135 (t1 : Int) (μ : Mem) (Q : Mem → Prop) : Prop := Q (mup μ 72 9 t1)
def d_Parser_next_j103 (μ : Mem) (Q : Mem → Prop) : Prop := if μ 72 10 < μ 72 11 then (if 6 < wr ((μ 72 11) - (μ 72 10)) then (d_Parser_next_j135 1 μ Q) else (d_Parser_next_j135 97 μ Q)) else (if μ 72 10 < μ 72 8 then (d_Parser_byteAt (μ 72 10) μ (fun r5 => d_Parser_kindOfByte r5 μ (fun r7 => Q (mup (mup μ 72 9 r7) 72 11 (wr (((mup μ 72 9 r7) 72 10) + 1)))))) else (Q (mup μ 72 9 0)))
def d_Parser_next_b53 (μ : Mem) (W53 : Mem → Prop) (Q : Mem → Prop) : Prop := if μ 72 11 < μ 72 8 then (d_Parser_byteAt (μ 72 11) μ (fun r3 => if r3 < 97 then (d_Parser_next_j103 μ Q) else (d_Parser_byteAt (μ 72 11) μ (fun r9 => if 122 < r9 then (d_Parser_next_j103 μ Q) else (W53 (mup μ 72 11 (wr ((μ 72 11) + 1)))))))) else (d_Parser_next_j103 μ Q)
def d_Parser_next_l53 (μ : Mem) (Q : Mem → Prop) : Prop := ∀ W : Mem → Prop, (∀ (μ : Mem), d_Parser_next_b53 μ W Q → W μ) → W μ
def d_Parser_next_j45 (μ : Mem) (Q : Mem → Prop) : Prop := d_Parser_next_l53 (mup μ 72 11 (μ 72 10)) Q
def d_Parser_next_b8 (μ : Mem) (W8 : Mem → Prop) (Q : Mem → Prop) : Prop := if μ 72 10 < μ 72 8 then (d_Parser_byteAt (μ 72 10) μ (fun r1 => if r1 = 32 then (W8 (mup μ 72 10 (wr ((μ 72 10) + 1)))) else (d_Parser_next_j45 μ Q))) else (d_Parser_next_j45 μ Q)
def d_Parser_next_l8 (μ : Mem) (Q : Mem → Prop) : Prop := ∀ W : Mem → Prop, (∀ (μ : Mem), d_Parser_next_b8 μ W Q → W μ) → W μ
def d_Parser_next (μ : Mem) (Q : Mem → Prop) : Prop := d_Parser_next_l8 (mup μ 72 10 (μ 72 11)) Q
theorem k_Parser_next_j135 {E : JE2} {t1 : Int} {μ : Mem} {M : JM} {P : JO → JM → Prop} {g0 : JV} {Q : Mem → Prop} (hM : Rl E M μ) (hQ : ∀ (M1 : JM) (μ1 : Mem), Rl E M1 μ1 → Q μ1 → P (.inl none) M1) (h : d_Parser_next_j135 t1 μ Q) : JX 23 135 [g0] [jI t1, jR 72] M P := by
  unfold d_Parser_next_j135 at h
  refine L_putI (c23 135 rfl) hM rt72 rfl (fun M hM => ?_)
  refine L_ps c23 (n := 1) (pc1 := 186) (ls1 := [g0]) (st1 := []) rfl ?_
  exact L_end (c23 186 rfl) rfl (hQ _ _ hM h)
theorem k_Parser_next_j103 {E : JE2} {μ : Mem} {M : JM} {P : JO → JM → Prop} {Q : Mem → Prop} (hM : Rl E M μ) (hQ : ∀ (M1 : JM) (μ1 : Mem), Rl E M1 μ1 → Q μ1 → P (.inl none) M1) (h : d_Parser_next_j103 μ Q) : JX 23 103 [jR 72] [] M P := by
  unfold d_Parser_next_j103 at h
  refine L_ps c23 (n := 1) (pc1 := 104) (ls1 := [jR 72]) (st1 := [jR 72]) rfl ?_
  refine L_getI (c23 104 rfl) hM rt72 rfl ?_
  refine L_ps c23 (n := 1) (pc1 := 108) (ls1 := [jR 72]) (st1 := [jR 72, jI (μ 72 11)]) rfl ?_
  refine L_getI (c23 108 rfl) hM rt72 rfl ?_
  refine L_nb (p1 := 141) (p2 := 114) (c23 111 rfl) rfl jc_le h (fun h => ?_) (fun h => ?_)
  · refine L_ps c23 (n := 2) (pc1 := 116) (ls1 := [jR 72]) (st1 := [jR 72, jR 72]) rfl ?_
    refine L_getI (c23 116 rfl) hM rt72 rfl ?_
    refine L_ps c23 (n := 1) (pc1 := 120) (ls1 := [jR 72]) (st1 := [jR 72, jI (μ 72 11), jR 72]) rfl ?_
    refine L_getI (c23 120 rfl) hM rt72 rfl ?_
    refine L_ps c23 (n := 2) (pc1 := 126) (ls1 := [jR 72]) (st1 := [jI 6, jI (wr ((μ 72 11) - (μ 72 10))), jR 72]) rfl ?_
    refine L_nb (p1 := 133) (p2 := 129) (c23 126 rfl) rfl jc_le h (fun h => ?_) (fun h => ?_)
    · refine L_ps c23 (n := 2) (pc1 := 135) (ls1 := [jR 72]) (st1 := [jI 1, jR 72]) rfl ?_
      exact k_Parser_next_j135 hM hQ h
    · refine L_ps c23 (n := 1) (pc1 := 135) (ls1 := [jR 72]) (st1 := [jI 97, jR 72]) rfl ?_
      exact k_Parser_next_j135 hM hQ h
  · refine L_ps c23 (n := 1) (pc1 := 142) (ls1 := [jR 72]) (st1 := [jR 72]) rfl ?_
    refine L_getI (c23 142 rfl) hM rt72 rfl ?_
    refine L_ps c23 (n := 1) (pc1 := 146) (ls1 := [jR 72]) (st1 := [jR 72, jI (μ 72 10)]) rfl ?_
    refine L_getI (c23 146 rfl) hM rt72 rfl ?_
    refine L_br (p1 := 160) (p2 := 152) (c23 149 rfl) rfl jc_lt h (fun h => ?_) (fun h => ?_)
    · refine L_ps c23 (n := 4) (pc1 := 164) (ls1 := [jR 72]) (st1 := [jR 72, jR 72, jR 72, jR 72]) rfl ?_
      refine L_getI (c23 164 rfl) hM rt72 rfl ?_
      refine L_cpI (c23 167 rfl) (js_v rfl ((Rl_tag hM rt72 (by decide)).trans js24)) hh23 (k_Parser_byteAt hM h) (fun r5 M hM h => ?_) (fun _ _ _ _ f => f.elim)
      refine L_cpI (c23 170 rfl) (js_v rfl ((Rl_tag hM rt72 (by decide)).trans js25)) hh23 (k_Parser_kindOfByte hM h) (fun r7 M hM h => ?_) (fun _ _ _ _ f => f.elim)
      refine L_putI (c23 173 rfl) hM rt72 rfl (fun M hM => ?_)
      refine L_ps c23 (n := 2) (pc1 := 178) (ls1 := [jR 72]) (st1 := [jR 72, jR 72]) rfl ?_
      refine L_getI (c23 178 rfl) hM rt72 rfl ?_
      refine L_ps c23 (n := 2) (pc1 := 183) (ls1 := [jR 72]) (st1 := [jI (wr (((mup μ 72 9 r7) 72 10) + 1)), jR 72]) rfl ?_
      refine L_putI (c23 183 rfl) hM rt72 rfl (fun M hM => ?_)
      exact L_end (c23 186 rfl) rfl (hQ _ _ hM h)
    · refine L_ps c23 (n := 2) (pc1 := 154) (ls1 := [jR 72]) (st1 := [jI 0, jR 72]) rfl ?_
      refine L_putI (c23 154 rfl) hM rt72 rfl (fun M hM => ?_)
      refine L_ps c23 (n := 1) (pc1 := 186) (ls1 := [jR 72]) (st1 := []) rfl ?_
      exact L_end (c23 186 rfl) rfl (hQ _ _ hM h)
theorem k_Parser_next_b53 {E : JE2} {μ : Mem} {M : JM} {P : JO → JM → Prop} {W53 : Mem → Prop} {Q : Mem → Prop} (hM : Rl E M μ) (hQ : ∀ (M1 : JM) (μ1 : Mem), Rl E M1 μ1 → Q μ1 → P (.inl none) M1) (hW53 : ∀ (M1 : JM) (μ1 : Mem), Rl E M1 μ1 → W53 μ1 → JX 23 53 [jR 72] [] M1 P) (h : d_Parser_next_b53 μ W53 Q) : JX 23 53 [jR 72] [] M P := by
  unfold d_Parser_next_b53 at h
  refine L_ps c23 (n := 1) (pc1 := 54) (ls1 := [jR 72]) (st1 := [jR 72]) rfl ?_
  refine L_getI (c23 54 rfl) hM rt72 rfl ?_
  refine L_ps c23 (n := 1) (pc1 := 58) (ls1 := [jR 72]) (st1 := [jR 72, jI (μ 72 11)]) rfl ?_
  refine L_getI (c23 58 rfl) hM rt72 rfl ?_
  refine L_nb (p1 := 103) (p2 := 64) (c23 61 rfl) rfl jc_ge h (fun h => ?_) (fun h => ?_)
  · refine L_ps c23 (n := 2) (pc1 := 66) (ls1 := [jR 72]) (st1 := [jR 72, jR 72]) rfl ?_
    refine L_getI (c23 66 rfl) hM rt72 rfl ?_
    refine L_cpI (c23 69 rfl) (js_v rfl ((Rl_tag hM rt72 (by decide)).trans js24)) hh23 (k_Parser_byteAt hM h) (fun r3 M hM h => ?_) (fun _ _ _ _ f => f.elim)
    refine L_ps c23 (n := 1) (pc1 := 74) (ls1 := [jR 72]) (st1 := [jI 97, jI r3]) rfl ?_
    refine L_br (p1 := 103) (p2 := 77) (c23 74 rfl) rfl jc_lt h (fun h => ?_) (fun h => ?_)
    · exact k_Parser_next_j103 hM hQ h
    · refine L_ps c23 (n := 2) (pc1 := 79) (ls1 := [jR 72]) (st1 := [jR 72, jR 72]) rfl ?_
      refine L_getI (c23 79 rfl) hM rt72 rfl ?_
      refine L_cpI (c23 82 rfl) (js_v rfl ((Rl_tag hM rt72 (by decide)).trans js24)) hh23 (k_Parser_byteAt hM h) (fun r9 M hM h => ?_) (fun _ _ _ _ f => f.elim)
      refine L_ps c23 (n := 1) (pc1 := 87) (ls1 := [jR 72]) (st1 := [jI 122, jI r9]) rfl ?_
      refine L_br (p1 := 103) (p2 := 90) (c23 87 rfl) rfl jc_gt h (fun h => ?_) (fun h => ?_)
      · exact k_Parser_next_j103 hM hQ h
      · refine L_ps c23 (n := 2) (pc1 := 92) (ls1 := [jR 72]) (st1 := [jR 72, jR 72]) rfl ?_
        refine L_getI (c23 92 rfl) hM rt72 rfl ?_
        refine L_ps c23 (n := 2) (pc1 := 97) (ls1 := [jR 72]) (st1 := [jI (wr ((μ 72 11) + 1)), jR 72]) rfl ?_
        refine L_putI (c23 97 rfl) hM rt72 rfl (fun M hM => ?_)
        refine L_ps c23 (n := 1) (pc1 := 53) (ls1 := [jR 72]) (st1 := []) rfl ?_
        exact hW53 _ _ hM h
  · exact k_Parser_next_j103 hM hQ h
theorem i_Parser_next_l53 {Q : Mem → Prop} {Inv : Mem → Prop} (f : Mem → Nat) (hi : ∀ (μ : Mem), Inv μ → ∀ W : Mem → Prop, (∀ (μ' : Mem), Inv μ' → f μ' < f μ → W μ') → d_Parser_next_b53 μ W Q) : ∀ (μ : Mem), Inv μ → d_Parser_next_l53 μ Q := by
  intro μ hI W hW
  have key : ∀ (n : Nat) (μ : Mem), f μ = n → Inv μ → W μ := by
    intro n
    induction n using Nat.strongRecOn with
    | _ n ih =>
      intro μ hf hI
      exact hW _ (hi μ hI W fun μ' hI' hl => ih _ (by omega) μ' rfl hI')
  exact key _ μ rfl hI
theorem k_Parser_next_l53 {E : JE2} {μ : Mem} {M : JM} {P : JO → JM → Prop} {Q : Mem → Prop} (hM : Rl E M μ) (hQ : ∀ (M1 : JM) (μ1 : Mem), Rl E M1 μ1 → Q μ1 → P (.inl none) M1) (h : d_Parser_next_l53 μ Q) : JX 23 53 [jR 72] [] M P := by
  refine h (fun μ => ∀ (M : JM), Rl E M μ → JX 23 53 [jR 72] [] M P) ?_ _ hM
  intro μ h M hM
  exact k_Parser_next_b53 hM hQ (fun M μ hM h => h M hM) h
theorem k_Parser_next_j45 {E : JE2} {μ : Mem} {M : JM} {P : JO → JM → Prop} {Q : Mem → Prop} (hM : Rl E M μ) (hQ : ∀ (M1 : JM) (μ1 : Mem), Rl E M1 μ1 → Q μ1 → P (.inl none) M1) (h : d_Parser_next_j45 μ Q) : JX 23 45 [jR 72] [] M P := by
  unfold d_Parser_next_j45 at h
  refine L_ps c23 (n := 2) (pc1 := 47) (ls1 := [jR 72]) (st1 := [jR 72, jR 72]) rfl ?_
  refine L_getI (c23 47 rfl) hM rt72 rfl ?_
  refine L_putI (c23 50 rfl) hM rt72 rfl (fun M hM => ?_)
  exact k_Parser_next_l53 hM hQ h
theorem k_Parser_next_b8 {E : JE2} {μ : Mem} {M : JM} {P : JO → JM → Prop} {W8 : Mem → Prop} {Q : Mem → Prop} (hM : Rl E M μ) (hQ : ∀ (M1 : JM) (μ1 : Mem), Rl E M1 μ1 → Q μ1 → P (.inl none) M1) (hW8 : ∀ (M1 : JM) (μ1 : Mem), Rl E M1 μ1 → W8 μ1 → JX 23 8 [jR 72] [] M1 P) (h : d_Parser_next_b8 μ W8 Q) : JX 23 8 [jR 72] [] M P := by
  unfold d_Parser_next_b8 at h
  refine L_ps c23 (n := 1) (pc1 := 9) (ls1 := [jR 72]) (st1 := [jR 72]) rfl ?_
  refine L_getI (c23 9 rfl) hM rt72 rfl ?_
  refine L_ps c23 (n := 1) (pc1 := 13) (ls1 := [jR 72]) (st1 := [jR 72, jI (μ 72 10)]) rfl ?_
  refine L_getI (c23 13 rfl) hM rt72 rfl ?_
  refine L_nb (p1 := 45) (p2 := 19) (c23 16 rfl) rfl jc_ge h (fun h => ?_) (fun h => ?_)
  · refine L_ps c23 (n := 2) (pc1 := 21) (ls1 := [jR 72]) (st1 := [jR 72, jR 72]) rfl ?_
    refine L_getI (c23 21 rfl) hM rt72 rfl ?_
    refine L_cpI (c23 24 rfl) (js_v rfl ((Rl_tag hM rt72 (by decide)).trans js24)) hh23 (k_Parser_byteAt hM h) (fun r1 M hM h => ?_) (fun _ _ _ _ f => f.elim)
    refine L_ps c23 (n := 1) (pc1 := 29) (ls1 := [jR 72]) (st1 := [jI 32, jI r1]) rfl ?_
    refine L_nb (p1 := 45) (p2 := 32) (c23 29 rfl) rfl jc_ne h (fun h => ?_) (fun h => ?_)
    · refine L_ps c23 (n := 2) (pc1 := 34) (ls1 := [jR 72]) (st1 := [jR 72, jR 72]) rfl ?_
      refine L_getI (c23 34 rfl) hM rt72 rfl ?_
      refine L_ps c23 (n := 2) (pc1 := 39) (ls1 := [jR 72]) (st1 := [jI (wr ((μ 72 10) + 1)), jR 72]) rfl ?_
      refine L_putI (c23 39 rfl) hM rt72 rfl (fun M hM => ?_)
      refine L_ps c23 (n := 1) (pc1 := 8) (ls1 := [jR 72]) (st1 := []) rfl ?_
      exact hW8 _ _ hM h
    · exact k_Parser_next_j45 hM hQ h
  · exact k_Parser_next_j45 hM hQ h
theorem i_Parser_next_l8 {Q : Mem → Prop} {Inv : Mem → Prop} (f : Mem → Nat) (hi : ∀ (μ : Mem), Inv μ → ∀ W : Mem → Prop, (∀ (μ' : Mem), Inv μ' → f μ' < f μ → W μ') → d_Parser_next_b8 μ W Q) : ∀ (μ : Mem), Inv μ → d_Parser_next_l8 μ Q := by
  intro μ hI W hW
  have key : ∀ (n : Nat) (μ : Mem), f μ = n → Inv μ → W μ := by
    intro n
    induction n using Nat.strongRecOn with
    | _ n ih =>
      intro μ hf hI
      exact hW _ (hi μ hI W fun μ' hI' hl => ih _ (by omega) μ' rfl hI')
  exact key _ μ rfl hI
theorem k_Parser_next_l8 {E : JE2} {μ : Mem} {M : JM} {P : JO → JM → Prop} {Q : Mem → Prop} (hM : Rl E M μ) (hQ : ∀ (M1 : JM) (μ1 : Mem), Rl E M1 μ1 → Q μ1 → P (.inl none) M1) (h : d_Parser_next_l8 μ Q) : JX 23 8 [jR 72] [] M P := by
  refine h (fun μ => ∀ (M : JM), Rl E M μ → JX 23 8 [jR 72] [] M P) ?_ _ hM
  intro μ h M hM
  exact k_Parser_next_b8 hM hQ (fun M μ hM h => h M hM) h
theorem k_Parser_next {E : JE2} {μ : Mem} {M : JM} {Q : Mem → Prop} (hM : Rl E M μ) (h : d_Parser_next μ Q) : JX 23 0 (jargs 23 [jR 72]) [] M (PO E (QV Q) XN) := by
  unfold d_Parser_next at h
  show JX 23 0 [jR 72] [] M (PO E (QV Q) XN)
  generalize hP : PO E (QV Q) XN = P
  have hQ : ∀ (M1 : JM) (μ1 : Mem), Rl E M1 μ1 → Q μ1 → P (.inl none) M1 := by rw [← hP]; exact fun M1 μ1 a b => ⟨μ1, a, rfl, b⟩
  clear hP
  refine L_ps c23 (n := 2) (pc1 := 2) (ls1 := [jR 72]) (st1 := [jR 72, jR 72]) rfl ?_
  refine L_getI (c23 2 rfl) hM rt72 rfl ?_
  refine L_putI (c23 5 rfl) hM rt72 rfl (fun M hM => ?_)
  exact k_Parser_next_l8 hM hQ h
def d_Parser_isWord_b29 (v1 : Nat) (v2 : Int) (μ : Mem) (W29 : Int → Prop) (Q : Bool → Prop) : Prop := d_String_length v1 μ (fun r3 => if v2 < r3 then (d_Parser_byteAt (wr ((μ 72 10) + v2)) μ (fun r5 => d_String_charAt v1 v2 μ (fun r7 => if r5 = r7 then (W29 (wr (v2 + 1))) else (Q false)))) else (Q true))
def d_Parser_isWord_l29 (v1 : Nat) (v2 : Int) (μ : Mem) (Q : Bool → Prop) : Prop := ∀ W : Int → Prop, (∀ (v2 : Int), d_Parser_isWord_b29 v1 v2 μ W Q → W v2) → W v2
def d_Parser_isWord (v1 : Nat) (μ : Mem) (Q : Bool → Prop) : Prop := if μ 72 9 = 97 then (d_String_length v1 μ (fun r1 => if wr ((μ 72 11) - (μ 72 10)) = r1 then (d_Parser_isWord_l29 v1 0 μ Q) else (Q false))) else (Q false)
theorem k_Parser_isWord_b29 {E : JE2} {v1 : Nat} {v2 : Int} {μ : Mem} {M : JM} {P : JO → JM → Prop} {W29 : Int → Prop} {Q : Bool → Prop} (hM : Rl E M μ) (hQ : ∀ (r : Bool) (M1 : JM), Rl E M1 μ → Q r → P (.inl (some (.inl (b2i r)))) M1) (hW29 : ∀ (v2 : Int) (M1 : JM), Rl E M1 μ → W29 v2 → JX 26 29 [jR 72, jR (2000000 + v1), jI v2] [] M1 P) (h : d_Parser_isWord_b29 v1 v2 μ W29 Q) : JX 26 29 [jR 72, jR (2000000 + v1), jI v2] [] M P := by
  unfold d_Parser_isWord_b29 at h
  refine L_ps c26 (n := 2) (pc1 := 31) (ls1 := [jR 72, jR (2000000 + v1), jI v2]) (st1 := [jR (2000000 + v1), jI v2]) rfl ?_
  refine L_cpI (c26 31 rfl) (js_v rfl ((str_tag hlit).trans js27)) hh26 (k_String_length hM h) (fun r3 M hM h => ?_) (fun _ _ _ _ f => f.elim)
  refine L_nb (p1 := 63) (p2 := 37) (c26 34 rfl) rfl jc_ge h (fun h => ?_) (fun h => ?_)
  · refine L_ps c26 (n := 2) (pc1 := 39) (ls1 := [jR 72, jR (2000000 + v1), jI v2]) (st1 := [jR 72, jR 72]) rfl ?_
    refine L_getI (c26 39 rfl) hM rt72 rfl ?_
    refine L_ps c26 (n := 2) (pc1 := 44) (ls1 := [jR 72, jR (2000000 + v1), jI v2]) (st1 := [jI (wr ((μ 72 10) + v2)), jR 72]) rfl ?_
    refine L_cpI (c26 44 rfl) (js_v rfl ((Rl_tag hM rt72 (by decide)).trans js24)) hh26 (k_Parser_byteAt hM h) (fun r5 M hM h => ?_) (fun _ _ _ _ f => f.elim)
    refine L_ps c26 (n := 2) (pc1 := 49) (ls1 := [jR 72, jR (2000000 + v1), jI v2]) (st1 := [jI v2, jR (2000000 + v1), jI r5]) rfl ?_
    refine L_cpI (c26 49 rfl) (js_v rfl ((str_tag hlit).trans js29)) hh26 (k_String_charAt hM h) (fun r7 M hM h => ?_) (fun _ _ _ _ f => f.elim)
    refine L_br (p1 := 57) (p2 := 55) (c26 52 rfl) rfl jc_eq h (fun h => ?_) (fun h => ?_)
    · refine L_ps c26 (n := 2) (pc1 := 29) (ls1 := [jR 72, jR (2000000 + v1), jI (wr (v2 + 1))]) (st1 := []) rfl ?_
      exact hW29 _ _ hM h
    · refine L_ps c26 (n := 1) (pc1 := 56) (ls1 := [jR 72, jR (2000000 + v1), jI v2]) (st1 := [jI 0]) rfl ?_
      exact L_retB (c26 56 rfl) (Or.inl rfl) (hQ false _ hM h)
  · refine L_ps c26 (n := 1) (pc1 := 64) (ls1 := [jR 72, jR (2000000 + v1), jI v2]) (st1 := [jI 1]) rfl ?_
    exact L_retB (c26 64 rfl) (Or.inr rfl) (hQ true _ hM h)
theorem i_Parser_isWord_l29 {v1 : Nat} {μ : Mem} {Q : Bool → Prop} {Inv : Int → Prop} (f : Int → Nat) (hi : ∀ (v2 : Int), Inv v2 → ∀ W : Int → Prop, (∀ (v2' : Int), Inv v2' → f v2' < f v2 → W v2') → d_Parser_isWord_b29 v1 v2 μ W Q) : ∀ (v2 : Int), Inv v2 → d_Parser_isWord_l29 v1 v2 μ Q := by
  intro v2 hI W hW
  have key : ∀ (n : Nat) (v2 : Int), f v2 = n → Inv v2 → W v2 := by
    intro n
    induction n using Nat.strongRecOn with
    | _ n ih =>
      intro v2 hf hI
      exact hW _ (hi v2 hI W fun v2' hI' hl => ih _ (by omega) v2' rfl hI')
  exact key _ v2 rfl hI
theorem k_Parser_isWord_l29 {E : JE2} {v1 : Nat} {v2 : Int} {μ : Mem} {M : JM} {P : JO → JM → Prop} {Q : Bool → Prop} (hM : Rl E M μ) (hQ : ∀ (r : Bool) (M1 : JM), Rl E M1 μ → Q r → P (.inl (some (.inl (b2i r)))) M1) (h : d_Parser_isWord_l29 v1 v2 μ Q) : JX 26 29 [jR 72, jR (2000000 + v1), jI v2] [] M P := by
  refine h (fun v2 => ∀ (M : JM), Rl E M μ → JX 26 29 [jR 72, jR (2000000 + v1), jI v2] [] M P) ?_ _ hM
  intro v2 h M hM
  exact k_Parser_isWord_b29 hM hQ (fun v2 M hM h => h M hM) h
theorem k_Parser_isWord {E : JE2} {v1 : Nat} {μ : Mem} {M : JM} {Q : Bool → Prop} (hlit : v1 < 7) (hM : Rl E M μ) (h : d_Parser_isWord v1 μ Q) : JX 26 0 (jargs 26 [jR 72, jR (2000000 + v1)]) [] M (PO E (pQB μ Q) XN) := by
  unfold d_Parser_isWord at h
  show JX 26 0 [jR 72, jR (2000000 + v1), jU] [] M (PO E (pQB μ Q) XN)
  generalize hP : PO E (pQB μ Q) XN = P
  have hQ : ∀ (r : Bool) (M1 : JM), Rl E M1 μ → Q r → P (.inl (some (.inl (b2i r)))) M1 := by rw [← hP]; exact fun r M1 a b => ⟨μ, a, rfl, r, rfl, b⟩
  clear hP
  refine L_ps c26 (n := 1) (pc1 := 1) (ls1 := [jR 72, jR (2000000 + v1), jU]) (st1 := [jR 72]) rfl ?_
  refine L_getI (c26 1 rfl) hM rt72 rfl ?_
  refine L_ps c26 (n := 1) (pc1 := 6) (ls1 := [jR 72, jR (2000000 + v1), jU]) (st1 := [jI 97, jI (μ 72 9)]) rfl ?_
  refine L_nb (p1 := 25) (p2 := 9) (c26 6 rfl) rfl jc_ne h (fun h => ?_) (fun h => ?_)
  · refine L_ps c26 (n := 1) (pc1 := 10) (ls1 := [jR 72, jR (2000000 + v1), jU]) (st1 := [jR 72]) rfl ?_
    refine L_getI (c26 10 rfl) hM rt72 rfl ?_
    refine L_ps c26 (n := 1) (pc1 := 14) (ls1 := [jR 72, jR (2000000 + v1), jU]) (st1 := [jR 72, jI (μ 72 11)]) rfl ?_
    refine L_getI (c26 14 rfl) hM rt72 rfl ?_
    refine L_ps c26 (n := 2) (pc1 := 19) (ls1 := [jR 72, jR (2000000 + v1), jU]) (st1 := [jR (2000000 + v1), jI (wr ((μ 72 11) - (μ 72 10)))]) rfl ?_
    refine L_cpI (c26 19 rfl) (js_v rfl ((str_tag hlit).trans js27)) hh26 (k_String_length hM h) (fun r1 M hM h => ?_) (fun _ _ _ _ f => f.elim)
    refine L_br (p1 := 27) (p2 := 25) (c26 22 rfl) rfl jc_eq h (fun h => ?_) (fun h => ?_)
    · refine L_ps c26 (n := 2) (pc1 := 29) (ls1 := [jR 72, jR (2000000 + v1), jI 0]) (st1 := []) rfl ?_
      exact k_Parser_isWord_l29 hM hQ h
    · refine L_ps c26 (n := 1) (pc1 := 26) (ls1 := [jR 72, jR (2000000 + v1), jU]) (st1 := [jI 0]) rfl ?_
      exact L_retB (c26 26 rfl) (Or.inl rfl) (hQ false _ hM h)
  · refine L_ps c26 (n := 1) (pc1 := 26) (ls1 := [jR 72, jR (2000000 + v1), jU]) (st1 := [jI 0]) rfl ?_
    exact L_retB (c26 26 rfl) (Or.inl rfl) (hQ false _ hM h)
def d_Parser_fail (v1 : Int) (μ : Mem) (Q : Bool → Mem → Prop) : Prop := Q false (mup (mup μ 72 0 v1) 72 1 ((mup μ 72 0 v1) 72 10))
theorem k_Parser_fail {E : JE2} {v1 : Int} {μ : Mem} {M : JM} {Q : Bool → Mem → Prop} (hM : Rl E M μ) (h : d_Parser_fail v1 μ Q) : JX 34 0 (jargs 34 [jR 72, jI v1]) [] M (PO E (QB Q) XN) := by
  unfold d_Parser_fail at h
  show JX 34 0 [jR 72, jI v1] [] M (PO E (QB Q) XN)
  generalize hP : PO E (QB Q) XN = P
  have hQ : ∀ (r : Bool) (M1 : JM) (μ1 : Mem), Rl E M1 μ1 → Q r μ1 → P (.inl (some (.inl (b2i r)))) M1 := by rw [← hP]; exact fun r M1 μ1 a b => ⟨μ1, a, r, rfl, b⟩
  clear hP
  refine L_ps c34 (n := 2) (pc1 := 2) (ls1 := [jR 72, jI v1]) (st1 := [jI v1, jR 72]) rfl ?_
  refine L_putI (c34 2 rfl) hM rt72 rfl (fun M hM => ?_)
  refine L_ps c34 (n := 2) (pc1 := 7) (ls1 := [jR 72, jI v1]) (st1 := [jR 72, jR 72]) rfl ?_
  refine L_getI (c34 7 rfl) hM rt72 rfl ?_
  refine L_putI (c34 10 rfl) hM rt72 rfl (fun M hM => ?_)
  refine L_ps c34 (n := 1) (pc1 := 14) (ls1 := [jR 72, jI v1]) (st1 := [jI 0]) rfl ?_
  exact L_retB (c34 14 rfl) (Or.inl rfl) (hQ false _ _ hM h)
