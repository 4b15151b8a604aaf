/-! THE CLASS: tokens -/
def PTx (μ : Mem) (B : List Int) : Prop := μ 72 8 = (B.length : Int) ∧ Sg (μ 129) 0 B ∧ B.length ≤ 500
def TkC (μ : Mem) (t : Tk) : Prop := μ 72 9 = t.1 ∧ μ 72 10 = ((t.2.1 : Nat) : Int) ∧ μ 72 11 = ((t.2.2 : Nat) : Int)
/-- of the parser only its token changes -/
def Fn (μ μ' : Mem) : Prop := (∀ b, b ≠ 72 → μ' b = μ b) ∧ ∀ j, j ≠ 9 → j ≠ 10 → j ≠ 11 → μ' 72 j = μ 72 j
theorem Fn.rfl' {μ : Mem} : Fn μ μ := ⟨fun _ _ => rfl, fun _ _ _ _ => rfl⟩
theorem Fn.tr {μ μ1 μ2 : Mem} (h1 : Fn μ μ1) (h2 : Fn μ1 μ2) : Fn μ μ2 := ⟨fun b hb => by rw [h2.1 b hb, h1.1 b hb], fun j a b c => by rw [h2.2 j a b c, h1.2 j a b c]⟩
theorem Fn.up {μ : Mem} {j : Nat} {z : Int} (hj : j = 9 ∨ j = 10 ∨ j = 11) : Fn μ (mup μ 72 j z) := ⟨fun b hb => mup_r hb, fun k a b c => mup_k (by omega)⟩
theorem PTx.fn {μ μ' : Mem} {B : List Int} (h : PTx μ B) (hf : Fn μ μ') : PTx μ' B := ⟨by rw [hf.2 8 (by decide) (by decide) (by decide)]; exact h.1, by rw [hf.1 129 (by decide)]; exact h.2.1, h.2.2⟩
section O77
variable {μ : Mem} {B : List Int} {t : Tk}
theorem c_pByte {v : Int} {k : Nat} {Q : Int → Prop} (hv : v = (k : Int)) (hB : PTx μ B) (hk : k < B.length) (h : Q (B.getD k 0)) : d_Parser_byteAt v μ Q := by
  unfold d_Parser_byteAt
  have := hB.2.2
  rw [if_neg (by omega), hB.1, if_pos (by omega), if_pos (by omega), show v.toNat = k by omega, hB.2.1.get0 hk]
  exact ⟨by omega, h⟩
theorem spn_cons {f : Int → Bool} {k : Nat} (hk : k < B.length) : spn f (B.drop k) = if f (B.getD k 0) = true then 1 + spn f (B.drop (k + 1)) else 0 := by
  rw [dropc hk, spn]
theorem spn_end {f : Int → Bool} {k : Nat} (hk : B.length ≤ k) : spn f (B.drop k) = 0 := by
  rw [List.drop_eq_nil_of_le hk]
  rfl
theorem c_kindOfByte {c : Int} {Q : Int → Prop} (h : Q (kb c)) : d_Parser_kindOfByte c μ Q := by
  unfold kb at h
  unfold d_Parser_kindOfByte d_Parser_kindOfByte_j15 d_Parser_kindOfByte_j30 d_Parser_kindOfByte_j60 d_Parser_kindOfByte_j65
  by_cases a : 65 ≤ c ∧ c ≤ 72
  · rw [if_pos a] at h
    rw [if_neg (by omega), if_pos (by omega)]
    exact h
  · rw [if_neg a] at h
    have rest : d_Parser_kindOfByte_j15 c μ Q := by
      unfold d_Parser_kindOfByte_j15 d_Parser_kindOfByte_j30 d_Parser_kindOfByte_j60 d_Parser_kindOfByte_j65
      by_cases b : 48 ≤ c ∧ c ≤ 57
      · rw [if_pos b] at h
        rw [if_neg (by omega), if_neg (by omega)]
        exact h
      · rw [if_neg b] at h
        have rest2 : d_Parser_kindOfByte_j30 c μ Q := by
          unfold d_Parser_kindOfByte_j30 d_Parser_kindOfByte_j60 d_Parser_kindOfByte_j65
          by_cases e : c = 59 ∨ c = 61 ∨ c = 44 ∨ c = 40 ∨ c = 41
          · rw [if_pos e] at h
            rw [if_neg (show ¬ (1 : Int) = 0 by decide)]
            by_cases e1 : c = 59
            · rw [if_pos e1]; exact h
            · rw [if_neg e1]
              by_cases e2 : c = 61
              · rw [if_pos e2]; exact h
              · rw [if_neg e2]
                by_cases e3 : c = 44
                · rw [if_pos e3]; exact h
                · rw [if_neg e3]
                  by_cases e4 : c = 40
                  · rw [if_pos e4]; exact h
                  · rw [if_neg e4, if_pos (by omega)]
                    exact h
          · rw [if_neg e] at h
            rw [if_neg (by omega), if_neg (by omega), if_neg (by omega), if_neg (by omega), if_neg (by omega), if_pos rfl]
            exact h
        unfold d_Parser_kindOfByte_j30 d_Parser_kindOfByte_j60 d_Parser_kindOfByte_j65 at rest2
        by_cases b1 : c < 48
        · rw [if_pos b1]; exact rest2
        · rw [if_neg b1, if_pos (by omega)]; exact rest2
    unfold d_Parser_kindOfByte_j15 d_Parser_kindOfByte_j30 d_Parser_kindOfByte_j60 d_Parser_kindOfByte_j65 at rest
    by_cases a1 : c < 65
    · rw [if_pos a1]; exact rest
    · rw [if_neg a1, if_neg (by omega)]; exact rest
theorem c_nextEnd {s w : Nat} {Q : Mem → Prop} (hB : PTx μ B) (h10 : μ 72 10 = (s : Int)) (h11 : μ 72 11 = ((s + w : Nat) : Int)) (hs : s + w ≤ B.length) (hw : w = spn isL (B.drop s)) (k : ∀ μ', TkC μ' (nx1 B s) → Fn μ μ' → Q μ') : d_Parser_next_j103 μ Q := by
  unfold d_Parser_next_j103 d_Parser_next_j135
  have h500 := hB.2.2
  unfold nx1 at k
  rw [← hw] at k
  rw [h10, h11, hB.1]
  by_cases h : 0 < w
  · rw [if_pos h] at k
    have ew : wr (((s + w : Nat) : Int) - (s : Int)) = (w : Int) := by rw [wr_id (by omega) (by omega)]; omega
    rw [if_pos (by omega), ew]
    by_cases h6 : 6 < w
    · rw [if_pos h6] at k
      rw [if_pos (by omega)]
      exact k _ ⟨mup_s, by rw [mup_k (by decide)]; exact h10, by rw [mup_k (by decide)]; exact h11⟩ (Fn.up (Or.inl rfl))
    · rw [if_neg h6] at k
      rw [if_neg (by omega)]
      exact k _ ⟨mup_s, by rw [mup_k (by decide)]; exact h10, by rw [mup_k (by decide)]; exact h11⟩ (Fn.up (Or.inl rfl))
  · rw [if_neg h] at k
    rw [if_neg (by omega)]
    by_cases hl : s < B.length
    · rw [if_pos hl] at k
      rw [if_pos (by omega)]
      refine c_pByte rfl hB hl (c_kindOfByte ?_)
      have e10 : ∀ z : Int, mup μ 72 9 z 72 10 = (s : Int) := fun z => by rw [mup_k (by decide)]; exact h10
      rw [e10]
      have ew : wr ((s : Int) + 1) = ((s + 1 : Nat) : Int) := by rw [wr_id (by omega) (by omega)]; omega
      rw [ew]
      exact k _ ⟨by rw [mup_k (by decide), mup_s], by rw [mup_k (by decide)]; exact e10 _, mup_s⟩ ((Fn.up (Or.inl rfl)).tr (Fn.up (Or.inr (Or.inr rfl))))
    · rw [if_neg hl] at k
      rw [if_neg (by omega)]
      refine k _ ⟨mup_s, by rw [mup_k (by decide)]; exact h10, ?_⟩ (Fn.up (Or.inl rfl))
      rw [mup_k (by decide), h11]
      dsimp only
      omega
theorem c_next {p : Nat} {Q : Mem → Prop} (hB : PTx μ B) (h11 : μ 72 11 = (p : Int)) (hp : p ≤ B.length) (k : ∀ μ', TkC μ' (nx B p) → Fn μ μ' → Q μ') : d_Parser_next μ Q := by
  unfold d_Parser_next
  have h500 := hB.2.2
  unfold nx at k
  refine i_Parser_next_l8 (Inv := fun μ1 => ∃ q : Nat, μ1 72 10 = (q : Int) ∧ q ≤ B.length ∧ q + spn isSp (B.drop q) = p + spn isSp (B.drop p) ∧ Fn μ μ1) (fun μ1 => B.length - (μ1 72 10).toNat) ?_ _ ⟨p, by rw [mup_s]; exact h11, hp, rfl, Fn.up (Or.inr (Or.inl rfl))⟩
  rintro μ1 ⟨q, h10, hq, hsp, hF⟩ W hW
  unfold d_Parser_next_b8
  have hB1 := hB.fn hF
  -- the spaces are over
  have fin : spn isSp (B.drop q) = 0 → d_Parser_next_j45 μ1 Q := by
    intro h0
    unfold d_Parser_next_j45
    rw [h0, Nat.add_zero] at hsp
    rw [← hsp] at k
    refine i_Parser_next_l53 (Inv := fun μ2 => ∃ w : Nat, μ2 72 10 = (q : Int) ∧ μ2 72 11 = ((q + w : Nat) : Int) ∧ q + w ≤ B.length ∧ w + spn isL (B.drop (q + w)) = spn isL (B.drop q) ∧ Fn μ μ2) (fun μ2 => B.length - (μ2 72 11).toNat) ?_ _ ⟨0, by rw [mup_k (by decide)]; exact h10, by rw [mup_s]; exact h10, hq, by rw [Nat.zero_add]; rfl, hF.tr (Fn.up (Or.inr (Or.inr rfl)))⟩
    rintro μ2 ⟨w, g10, g11, gl, gw, gF⟩ W2 hW2
    unfold d_Parser_next_b53
    have hB2 := hB.fn gF
    rw [g11, hB2.1]
    have done : spn isL (B.drop (q + w)) = 0 → d_Parser_next_j103 μ2 Q := fun z => c_nextEnd hB2 g10 g11 gl (by omega) fun μ' t' f' => k μ' t' (gF.tr f')
    by_cases hl : q + w < B.length
    · rw [if_pos (by omega)]
      have hsc := spn_cons (f := isL) hl
      refine c_pByte rfl hB2 hl ?_
      by_cases c1 : B.getD (q + w) 0 < 97
      · rw [if_pos c1]
        rw [if_neg (by unfold isL; rw [decide_eq_false (by omega)]; decide)] at hsc
        exact done hsc
      · rw [if_neg c1]
        refine c_pByte rfl hB2 hl ?_
        by_cases c2 : 122 < B.getD (q + w) 0
        · rw [if_pos c2]
          rw [if_neg (by unfold isL; rw [decide_eq_false (by omega)]; decide)] at hsc
          exact done hsc
        · rw [if_neg c2]
          rw [if_pos (by unfold isL; rw [decide_eq_true (by omega)])] at hsc
          rw [wr_id (by omega) (by omega)]
          refine hW2 _ ⟨w + 1, by rw [mup_k (by decide)]; exact g10, by rw [mup_s]; omega, by omega, ?_, gF.tr (Fn.up (Or.inr (Or.inr rfl)))⟩ (by rw [mup_s]; omega)
          rw [show q + (w + 1) = q + w + 1 by omega]
          omega
    · rw [if_neg (by omega)]
      exact done (spn_end (by omega))
  rw [h10, hB1.1]
  by_cases hl : q < B.length
  · rw [if_pos (by omega)]
    have hsc := spn_cons (f := isSp) hl
    refine c_pByte rfl hB1 hl ?_
    by_cases c1 : B.getD q 0 = 32
    · rw [if_pos c1]
      rw [if_pos (by unfold isSp; rw [decide_eq_true c1])] at hsc
      rw [wr_id (by omega) (by omega)]
      exact hW _ ⟨q + 1, by rw [mup_s]; omega, by omega, by omega, hF.tr (Fn.up (Or.inr (Or.inl rfl)))⟩ (by rw [mup_s]; omega)
    · rw [if_neg c1]
      rw [if_neg (by unfold isSp; rw [decide_eq_false c1]; decide)] at hsc
      exact fin hsc
  · rw [if_neg (by omega)]
    exact fin (spn_end (by omega))
theorem wd_len (ht : tkok B t) : (wd B t).length = t.2.2 - t.2.1 := by
  obtain ⟨t1, t2, t3, _⟩ := ht
  unfold wd
  rw [List.length_take, List.length_drop]
  omega
theorem wd_get {k : Nat} (hk : k < t.2.2 - t.2.1) : (wd B t).getD k 0 = B.getD (t.2.1 + k) 0 := by
  unfold wd
  rw [getD_take hk, getD_drop]
theorem c_isWord {v : Nat} {Q : Bool → Prop} (hB : PTx μ B) (ht : TkC μ t) (tok : tkok B t) (hl : (jlit v).length ≤ 6) (h : Q (isW B t (jlit v))) : d_Parser_isWord v μ Q := by
  unfold d_Parser_isWord d_String_length
  have h500 := hB.2.2
  have hwl := wd_len tok
  obtain ⟨t1, t2, t3, _⟩ := id tok
  unfold isW at h
  rw [ht.1, ht.2.1, ht.2.2]
  by_cases hk : t.1 = 97
  · rw [if_pos hk]
    have ew : wr (((t.2.2 : Nat) : Int) - ((t.2.1 : Nat) : Int)) = (((wd B t).length : Nat) : Int) := by rw [wr_id (by omega) (by omega)]; omega
    rw [ew]
    dsimp only
    by_cases he : (wd B t).length = (jlit v).length
    · rw [if_pos (by omega)]
      refine i_Parser_isWord_l29 (Inv := fun v2 => ∃ k : Nat, v2 = k ∧ k ≤ (jlit v).length ∧ ((wd B t = jlit v) ↔ (wd B t).drop k = (jlit v).drop k)) (fun v2 => (jlit v).length - v2.toNat) ?_ 0 ⟨0, rfl, Nat.zero_le _, by rw [List.drop_zero, List.drop_zero]⟩
      rintro v2 ⟨k, e2, hk2, hiff⟩ W hW
      unfold d_Parser_isWord_b29 d_String_length d_String_charAt
      dsimp only
      by_cases hkl : k < (jlit v).length
      · rw [if_pos (by omega), ht.2.1]
        have ea : wr (((t.2.1 : Nat) : Int) + v2) = ((t.2.1 + k : Nat) : Int) := by rw [wr_id (by omega) (by omega)]; omega
        refine c_pByte ea hB (by omega) ?_
        rw [show v2.toNat = k by omega, ← wd_get (B := B) (t := t) (k := k) (by omega)]
        refine ⟨by omega, ?_⟩
        rw [dropc (show k < (wd B t).length by omega), dropc hkl, List.cons_eq_cons] at hiff
        by_cases hc : (wd B t).getD k 0 = (jlit v).getD k 0
        · rw [if_pos hc, wr_id (by omega) (by omega)]
          exact hW _ ⟨k + 1, by omega, by omega, by rw [hiff]; exact ⟨fun q => q.2, fun q => ⟨hc, q⟩⟩⟩ (by omega)
        · rw [if_neg hc]
          rw [decide_eq_false (fun q => hc (hiff.mp q.2).1)] at h
          exact h
      · rw [if_neg (by omega)]
        rw [List.drop_eq_nil_of_le (show (wd B t).length ≤ k by omega), List.drop_eq_nil_of_le (show (jlit v).length ≤ k by omega)] at hiff
        rw [decide_eq_true ⟨hk, hiff.mpr rfl⟩] at h
        exact h
    · rw [if_neg (by omega)]
      rw [decide_eq_false (fun q => he (by rw [q.2]))] at h
      exact h
  · rw [if_neg hk]
    rw [decide_eq_false (fun q => hk q.1)] at h
    exact h
variable {sy : Sy}
theorem c_isNamed {v : Int} {i : Nat} {Q : Bool → Prop} (hv : v = (i : Int)) (hB : PTx μ B) (ht : TkC μ t) (tok : tkok B t) (hS : CSg μ 73 sy) (hs : syok sy) (hi : i < sy.length) (h : Q (decide ((sy.getD i (0, [])).2 = wd B t))) : d_Parser_isNamed v μ Q := by
  unfold d_Parser_isNamed
  subst hv
  have h500 := hB.2.2
  have hwl := wd_len tok
  obtain ⟨t1, t2, t3, _⟩ := id tok
  have hq := hs.2 _ (getD_mem (d := (0, [])) hi)
  refine c_sigLen hS hs.1 hi ?_
  generalize hw : (sy.getD i (0, [])).2 = w at *
  rw [ht.2.1, ht.2.2]
  have ew : wr (((t.2.2 : Nat) : Int) - ((t.2.1 : Nat) : Int)) = (((wd B t).length : Nat) : Int) := by rw [wr_id (by omega) (by omega)]; omega
  rw [ew]
  by_cases he : (wd B t).length = w.length
  · rw [if_pos (by omega)]
    refine i_Parser_isNamed_l27 (Inv := fun v2 => ∃ k : Nat, v2 = ((t.2.1 + k : Nat) : Int) ∧ k ≤ w.length ∧ ((w = wd B t) ↔ w.drop k = (wd B t).drop k)) (fun v2 => t.2.2 - v2.toNat) ?_ _ ⟨0, rfl, Nat.zero_le _, by rw [List.drop_zero, List.drop_zero]⟩
    rintro v2 ⟨k, e2, hk2, hiff⟩ W hW
    unfold d_Parser_isNamed_b27
    rw [ht.2.2]
    by_cases hkl : k < w.length
    · rw [if_pos (by omega)]
      refine c_pByte e2 hB (by omega) ?_
      refine c_sigLetter hS hs hi ?_
      rw [hw, ht.2.1]
      have ek : wr (v2 - ((t.2.1 : Nat) : Int)) = (k : Int) := by rw [wr_id (by omega) (by omega)]; omega
      have el : ltr w (k : Int) = w.getD k 0 := by
        unfold ltr
        rw [if_pos (by omega), Int.toNat_natCast]
      rw [ek, el, ← wd_get (B := B) (t := t) (k := k) (by omega)]
      rw [dropc hkl, dropc (show k < (wd B t).length by omega), List.cons_eq_cons] at hiff
      clear ek ew
      by_cases hc : (wd B t).getD k 0 = w.getD k 0
      · rw [if_pos hc, wr_id (by omega) (by omega)]
        exact hW _ ⟨k + 1, by omega, by omega, by rw [hiff]; exact ⟨fun q => q.2, fun q => ⟨hc.symm, q⟩⟩⟩ (by omega)
      · rw [if_neg hc]
        rw [decide_eq_false (fun q => hc (hiff.mp q).1.symm)] at h
        exact h
    · rw [if_neg (by omega)]
      rw [List.drop_eq_nil_of_le (show w.length ≤ k by omega), List.drop_eq_nil_of_le (show (wd B t).length ≤ k by omega)] at hiff
      rw [decide_eq_true (hiff.mpr rfl)] at h
      exact h
  · rw [if_neg (by omega)]
    rw [decide_eq_false (fun q => he (by rw [← q]))] at h
    exact h
theorem fnS_step {w : List Int} {i : Nat} (hi : i < sy.length) : fnS (sy.drop i) w i = if (sy.getD i (0, [])).2 = w then (i : Int) else fnS (sy.drop (i + 1)) w (i + 1) := by
  rw [List.drop_eq_getElem_cons hi, fnS, List.getD_eq_getElem?_getD, List.getElem?_eq_getElem hi]
  rfl
theorem c_symbolOfWord {Q : Int → Prop} (hB : PTx μ B) (ht : TkC μ t) (tok : tkok B t) (hS : CSg μ 73 sy) (hs : syok sy) (h : Q (fnS sy (wd B t) 0)) : d_Parser_symbolOfWord μ Q := by
  unfold d_Parser_symbolOfWord
  have h8 := hs.1
  refine i_Parser_symbolOfWord_l2 (Inv := fun v1 => ∃ i : Nat, v1 = i ∧ i ≤ sy.length ∧ fnS (sy.drop i) (wd B t) i = fnS sy (wd B t) 0) (fun v1 => sy.length - v1.toNat) ?_ 0 ⟨0, rfl, Nat.zero_le _, by rw [List.drop_zero]⟩
  rintro v1 ⟨i, e1, hi, he⟩ W hW
  unfold d_Parser_symbolOfWord_b2
  rw [hS.1]
  by_cases hil : i < sy.length
  · rw [if_pos (by omega)]
    rw [fnS_step hil] at he
    refine c_isNamed e1 hB ht tok hS hs hil ?_
    by_cases hc : (sy.getD i (0, [])).2 = wd B t
    · rw [decide_eq_true hc, if_pos rfl]
      rw [if_pos hc] at he
      rw [e1, he]
      exact h
    · rw [decide_eq_false hc, if_neg (by decide)]
      rw [if_neg hc] at he
      rw [wr_id (by omega) (by omega)]
      exact hW _ ⟨i + 1, by omega, by omega, he⟩ (by omega)
  · rw [if_neg (by omega)]
    rw [List.drop_eq_nil_of_le (by omega), fnS] at he
    rw [he]
    exact h
end O77

