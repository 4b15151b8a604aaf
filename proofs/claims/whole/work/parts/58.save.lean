/-! undo, saved states, the small calls: the reference; the small calls of the class -/
section M58
variable {μ : Mem} {A : AS} {Q : Int → Mem → Prop} {v1 : Int}
theorem mm_undo (hI : MI μ A) (hA : AOK A) (h : MC μ (sp_undo A) Q) : d_Md_undo μ Q := by
  unfold d_Md_undo
  unfold d_Md_undo_j13
  unfold sp_undo unA at h
  obtain ⟨i1, i2, ⟨j1, j2⟩, i4, i5, i6⟩ := id hI
  have hl8 : (aH A).length ≤ 8 := hA.2.2.2.1
  cases hh : aH A with
  | nil =>
    rw [hh] at h j1
    rw [if_neg (by rw [j1]; simp)]
    refine c_may (b1 := false) (b2 := true) (b3 := true) (fun _ => ?_) (fun q => by cases q) (fun q => by cases q) (fun q => by cases q)
    exact h _ 0 (hI.gq (Gm.upF.mono (by decide) (by decide))) ((Gm.upF (k := 0)).frM (by decide)) mup_s (fun q => absurd (show (1 : Int) = 0 from q) (by decide))
  | cons c hs =>
    have oc : okc (arS (aS A)) c := hA.2.2.1 c (by rw [hh]; exact List.mem_cons_self ..)
    rw [hh] at h j1 j2 hl8
    rw [List.length_cons] at j1 j2 hl8
    rw [if_pos (by rw [j1]; omega)]
    refine c_may (b1 := true) (b2 := true) (b3 := true) (fun q => by cases q) (fun _ q => by cases q) (fun _ _ q => by cases q) (fun _ _ _ => ?_)
    have e77 : mup μ 772 0 0 772 7 = ((hs.length + 1 : Nat) : Int) := by rw [mup_k (by decide)]; exact j1
    rw [if_pos rfl, mup_s, e77]
    have e7 : wr (((hs.length + 1 : Nat) : Int) - 1) = (hs.length : Int) := by rw [wr_id (by omega) (by omega)]; omega
    rw [e7]
    generalize hμ1 : mup (mup μ 772 0 0) 772 7 (hs.length : Int) = μ1
    have r1 : ∀ b, b ≠ 772 → μ1 b = μ b := fun b hb => by rw [← hμ1, mup_r hb, mup_r hb]
    have f1 : ∀ j, j ≠ 0 → j ≠ 7 → μ1 772 j = μ 772 j := fun j g1 g2 => by rw [← hμ1, mup_k g2, mup_k g1]
    have f7 : μ1 772 7 = (hs.length : Int) := by rw [← hμ1, mup_s]
    have f0 : μ1 772 0 = 0 := by rw [← hμ1, mup_k (by decide), mup_s]
    have l775 := ln775
    refine c_lays (hs.length * 709) 0 709 (by rw [wr_id (by omega) (by omega)]; omega) rfl rfl (by omega) (by rw [ln773]; omega) (Or.inl (by decide)) fun μ2 g1 g2 g3 => ?_
    have e72 : μ2 772 7 = (hs.length : Int) := by rw [g3 772 (by decide)]; exact f7
    rw [e72]
    have rr : ∀ b, b ≠ 772 → b ≠ 773 → μ2 b = μ b := fun b k1 k2 => by rw [g3 b k2, r1 b k1]
    have ff : ∀ j, j ≠ 0 → j ≠ 7 → μ2 772 j = μ 772 j := fun j k1 k2 => by rw [g3 772 (by decide), f1 j k1 k2]
    have hN : MNw (μ2 773) 0 (aS A) c := by
      have := j2 0 (by omega)
      rw [show hs.length + 1 - 1 - 0 = hs.length by omega] at this
      refine MNw.cp (f := μ 775) this hA.1 oc fun k hk => ?_
      rw [g1 k hk, r1 775 (by decide)]
    have hI2 : MI μ2 ((A.1.1, A.1.2.1, c), (hs, A.2.1.2), A.2.2) := by
      refine ⟨by rw [ff 6 (by decide) (by decide)]; exact i1, hN, ⟨e72, fun i hi => ?_⟩, ⟨⟨by rw [rr 777 (by decide) (by decide)]; exact i4.1.1, fun c hc => by rw [rr 776 (by decide) (by decide)]; exact i4.1.2 c hc⟩, ⟨by rw [rr 777 (by decide) (by decide)]; exact i4.2.1, fun c hc => by rw [rr 776 (by decide) (by decide)]; exact i4.2.2 c hc⟩⟩, ⟨by rw [ff 10 (by decide) (by decide)]; exact i5.1, by rw [ff 11 (by decide) (by decide)]; exact i5.2.1, by rw [ff 9 (by decide) (by decide)]; exact i5.2.2.1, by rw [rr 778 (by decide) (by decide)]; exact i5.2.2.2⟩, by rw [ff 44 (by decide) (by decide)]; exact i6.1, by rw [rr 794 (by decide) (by decide)]; exact i6.2⟩
      have hi' : i < hs.length := hi
      rw [rr 775 (by decide) (by decide)]
      have := j2 (i + 1) (by omega)
      rw [getD_cons, if_neg (by omega), show i + 1 - 1 = i by omega, show hs.length + 1 - 1 - (i + 1) = hs.length - 1 - i by omega] at this
      exact this
    exact h _ _ hI2 (fun b hb => rr b (by omega) (by omega)) (by rw [g3 772 (by decide)]; exact f0) (fun _ => rfl)
theorem MI.svd {μ' : Mem} {s0 s1 : Option Cf} (hI : MI μ A) (h0 : MSv μ' (aS A) 0 s0) (h1 : MSv μ' (aS A) 1 s1) (hr : ∀ b, b ≠ 772 → b ≠ 776 → b ≠ 777 → μ' b = μ b) (hf : ∀ j, j ≠ 0 → μ' 772 j = μ 772 j) : MI μ' (A.1, (A.2.1.1, s0, s1), A.2.2) := by
  obtain ⟨i1, i2, ⟨j1, j2⟩, i4, i5, i6⟩ := hI
  exact ⟨by rw [hf 6 (by decide)]; exact i1, by rw [hr 773 (by decide) (by decide) (by decide)]; exact i2, ⟨by rw [hf 7 (by decide)]; exact j1, fun i hi => by rw [hr 775 (by decide) (by decide) (by decide)]; exact j2 i hi⟩, ⟨h0, h1⟩, ⟨by rw [hf 10 (by decide)]; exact i5.1, by rw [hf 11 (by decide)]; exact i5.2.1, by rw [hf 9 (by decide)]; exact i5.2.2.1, by rw [hr 778 (by decide) (by decide) (by decide)]; exact i5.2.2.2⟩, by rw [hf 44 (by decide)]; exact i6.1, by rw [hr 794 (by decide) (by decide) (by decide)]; exact i6.2⟩
theorem mm_saveState (hI : MI μ A) (hA : AOK A) (h : MC μ (sp_saveState A v1) Q) : d_Md_saveState v1 μ Q := by
  unfold d_Md_saveState d_Md_isSlot
  unfold sp_saveState at h
  refine c_mIn ?_
  rw [hI.1]
  refine c_mayTwo (fun e => ?_) (fun e e2 => ?_) (fun e e2 => ?_)
  · rw [e] at h
    exact h.e1 hI Gm.rfl'
  · have := of_decide_eq_false e2
    rw [e, decide_eq_false (by omega)] at h
    exact h.e2 hI Gm.rfl'
  · have := of_decide_eq_true e2
    rw [e, decide_eq_true (by omega)] at h
    rw [if_pos rfl]
    have ev : v1 = ((v1.toNat : Nat) : Int) := by omega
    have hk : v1.toNat < 2 := by omega
    rw [ev] at h ⊢
    generalize v1.toNat = k at *
    have l776 := ln776
    refine c_lays 0 (k * 709) 709 rfl (by rw [wr_id (by omega) (by omega)]; omega) rfl (by rw [ln773]; omega) (by omega) (Or.inl (by decide)) fun μ2 g1 g2 g3 => ⟨by omega, ?_⟩
    rw [Int.toNat_natCast]
    have r : ∀ b, b ≠ 772 → b ≠ 776 → b ≠ 777 → mup μ2 777 k 1 b = μ b := fun b k1 k2 k3 => by rw [mup_r k3, g3 b k2, mup_r k1]
    have f : ∀ j, j ≠ 0 → mup μ2 777 k 1 772 j = μ 772 j := fun j hj => by rw [mup_r (by decide), g3 772 (by decide), mup_k hj]
    have e2' : mup μ2 777 k 1 773 2 = ((aT A).length : Int) := by rw [r 773 (by decide) (by decide) (by decide)]; exact hI.2.1.2.2.1
    rw [e2']
    obtain ⟨i1, i2, i3, ⟨⟨a1', a2'⟩, b1', b2'⟩, i5, i6⟩ := id hI
    have hcp : MNw (mup μ2 777 k 1 776) (k * 709) (aS A) (aC A) := by
      rw [mup_r (by decide)]
      refine MNw.cp (f := μ 773) (o := 0) i2 hA.1 hA.2.1 fun j hj => ?_
      rw [g1 j hj, mup_r (by decide)]
    have fin : MI (mup μ2 777 k 1) (svA A (k : Int)) := by
      unfold svA
      rcases (by omega : k = 0 ∨ k = 1) with rfl | rfl
      · rw [if_pos (show ((0 : Nat) : Int) = 0 from rfl)]
        refine hI.svd ⟨by rw [mup_s]; rfl, fun c hc => by cases hc; exact hcp⟩ ⟨by rw [mup_k (by decide), g3 777 (by decide), mup_r (by decide)]; exact b1', fun c hc => ?_⟩ r f
        rw [mup_r (by decide)]
        refine MNw.cp (b2' c hc) hA.1 (hA.2.2.2.2.2.1 c hc) fun j hj => ?_
        rw [g2 _ (by omega), mup_r (by decide)]
      · rw [if_neg (by decide)]
        refine hI.svd ⟨by rw [mup_k (by decide), g3 777 (by decide), mup_r (by decide)]; exact a1', fun c hc => ?_⟩ ⟨by rw [mup_s]; rfl, fun c hc => by cases hc; exact hcp⟩ r f
        rw [mup_r (by decide)]
        refine MNw.cp (a2' c hc) hA.1 (hA.2.2.2.2.1 c hc) fun j hj => ?_
        rw [g2 _ (by omega), mup_r (by decide)]
    exact h.ok4 fin (fun b hb => r b (by omega) (by omega) (by omega)) (by rw [mup_r (by decide), g3 772 (by decide), mup_s]) rfl
theorem mm_restoreState (hI : MI μ A) (hA : AOK A) (h : MC μ (sp_restoreState A v1) Q) : d_Md_restoreState v1 μ Q := by
  unfold d_Md_restoreState d_Md_isSlot
  unfold d_Md_restoreState_j24 d_Md_restoreState_j25
  unfold sp_restoreState slA at h
  refine c_mIn ?_
  by_cases q : 0 ≤ v1 ∧ v1 ≤ 1
  · rw [decide_eq_true q]
    dsimp only
    rw [if_pos rfl]
    rw [decide_eq_true (by omega)] at h
    refine ⟨by omega, ?_⟩
    have ev : v1 = ((v1.toNat : Nat) : Int) := by omega
    have hk : v1.toNat < 2 := by omega
    rw [ev] at h ⊢
    generalize v1.toNat = k at *
    rw [Int.toNat_natCast]
    obtain ⟨i1, i2, i3, ⟨⟨a1', a2'⟩, b1', b2'⟩, i5, i6⟩ := id hI
    have l776 := ln776
    have t2 : MC μ (2, 0, A) Q → Q 0 (mup μ 772 0 2) := fun hq => hq _ 0 (hI.gq (Gm.upF.mono (by decide) (by decide))) ((Gm.upF (k := 0)).frM (by decide)) mup_s (fun q => absurd (show (2 : Int) = 0 from q) (by decide))
    have fin : ∀ s : Option Cf, μ 777 k = b2i s.isSome → (∀ c, s = some c → MNw (μ 776) (k * 709) (aS A) c) → (∀ c, s = some c → okc (arS (aS A)) c) → MC μ (g6 true (match s with | none => none | some c => some ((c.2.length : Int), reA A c)) A) Q → (if μ 777 k = 0 then d_Md_mayTwo (b2i true) 0 μ (fun r3 μ4 => if r3 = true then (d_Md_lays 776 (wr ((k : Int) * 709)) 773 0 709 μ4 (fun μ6 => Q ((mup μ6 772 7 0) 773 2) (mup μ6 772 7 0))) else (Q 0 μ4)) else d_Md_mayTwo (b2i true) 1 μ (fun r3 μ4 => if r3 = true then (d_Md_lays 776 (wr ((k : Int) * 709)) 773 0 709 μ4 (fun μ6 => Q ((mup μ6 772 7 0) 773 2) (mup μ6 772 7 0))) else (Q 0 μ4))) := by
      intro s hs hM hok hq
      cases s with
      | none =>
        rw [if_pos (by rw [hs]; rfl)]
        exact c_mayTwo (b1 := true) (b2 := false) (fun q => by cases q) (fun _ _ => t2 hq) (fun _ q => by cases q)
      | some c =>
        rw [if_neg (by rw [hs, Option.isSome_some]; decide)]
        refine c_mayTwo (b1 := true) (b2 := true) (fun q => by cases q) (fun _ q => by cases q) (fun _ _ => ?_)
        rw [if_pos rfl]
        refine c_lays (k * 709) 0 709 (by rw [wr_id (by omega) (by omega)]; omega) rfl rfl (by omega) (by rw [ln773]; omega) (Or.inl (by decide)) fun μ2 g1 g2 g3 => ?_
        have r : ∀ b, b ≠ 772 → b ≠ 773 → mup μ2 772 7 0 b = μ b := fun b k1 k2 => by rw [mup_r k1, g3 b k2, mup_r k1]
        have f : ∀ j, j ≠ 0 → j ≠ 7 → mup μ2 772 7 0 772 j = μ 772 j := fun j k1 k2 => by rw [mup_k k2, g3 772 (by decide), mup_k k1]
        have hN : MNw (mup μ2 772 7 0 773) 0 (aS A) c := by
          rw [mup_r (by decide)]
          refine MNw.cp (f := μ 776) (hM c rfl) hA.1 (hok c rfl) fun j hj => ?_
          rw [g1 j hj, mup_r (by decide)]
        rw [hN.2.2.1]
        have hI2 : MI (mup μ2 772 7 0) (reA A c) := ⟨by rw [f 6 (by decide) (by decide)]; exact i1, hN, ⟨by rw [mup_s]; rfl, fun i hi => absurd hi (by simp [reA, aH])⟩, ⟨⟨by rw [r 777 (by decide) (by decide)]; exact a1', fun c hc => by rw [r 776 (by decide) (by decide)]; exact a2' c hc⟩, ⟨by rw [r 777 (by decide) (by decide)]; exact b1', fun c hc => by rw [r 776 (by decide) (by decide)]; exact b2' c hc⟩⟩, ⟨by rw [f 10 (by decide) (by decide)]; exact i5.1, by rw [f 11 (by decide) (by decide)]; exact i5.2.1, by rw [f 9 (by decide) (by decide)]; exact i5.2.2.1, by rw [r 778 (by decide) (by decide)]; exact i5.2.2.2⟩, by rw [f 44 (by decide) (by decide)]; exact i6.1, by rw [r 794 (by decide) (by decide)]; exact i6.2⟩
        exact hq _ _ hI2 (fun b hb => r b (by omega) (by omega)) (by rw [mup_k (by decide), g3 772 (by decide), mup_s]; rfl) (fun _ => rfl)
    rcases (by omega : k = 0 ∨ k = 1) with rfl | rfl
    · rw [if_pos (show ((0 : Nat) : Int) = 0 from rfl)] at h
      exact fin (a0 A) a1' a2' hA.2.2.2.2.1 h
    · rw [if_neg (show ¬ ((1 : Nat) : Int) = 0 by decide)] at h
      exact fin (a1 A) b1' b2' hA.2.2.2.2.2.1 h
  · rw [decide_eq_false q]
    dsimp only
    rw [if_neg Bool.false_ne_true]
    rw [decide_eq_false (by omega)] at h
    refine c_mayTwo (b1 := false) (b2 := false) (fun _ => ?_) (fun q => by cases q) (fun q => by cases q)
    exact h _ 0 (hI.gq (Gm.upF.mono (by decide) (by decide))) ((Gm.upF (k := 0)).frM (by decide)) mup_s (fun q => absurd (show (1 : Int) = 0 from q) (by decide))
/-- the small calls -/
theorem c_told {z : Int} (hI : MI μ A) (h : ∀ μ', MI μ' A → FrM μ μ' → Q z μ') : d_Md_told z μ Q := by
  unfold d_Md_told
  exact h _ (hI.gq (Gm.upF.mono (by decide) (by decide))) ((Gm.upF (k := 0)).frM (by decide))
theorem mm_small (hI : MI μ A) : (∀ Q : Int → Mem → Prop, (∀ μ', MI μ' A → FrM μ μ' → Q (aE A) μ') → d_Md_parseErrorCode μ Q) ∧ (∀ Q : Int → Mem → Prop, (∀ μ', MI μ' A → FrM μ μ' → Q (aP A) μ') → d_Md_parseErrorPosition μ Q) ∧ (∀ Q : Int → Mem → Prop, (∀ μ', MI μ' A → FrM μ μ' → Q ((aB A).length : Int) μ') → d_Md_bufferLength μ Q) ∧ (∀ Q : Int → Mem → Prop, (∀ μ', MI μ' A → FrM μ μ' → Q ((aH A).length : Int) μ') → d_Md_undoCount μ Q) := by
  obtain ⟨i1, i2, i3, i4, i5, i6⟩ := id hI
  refine ⟨fun Q h => ?_, fun Q h => ?_, fun Q h => ?_, fun Q h => ?_⟩
  · unfold d_Md_parseErrorCode; rw [i5.1]; exact c_told hI h
  · unfold d_Md_parseErrorPosition; rw [i5.2.1]; exact c_told hI h
  · unfold d_Md_bufferLength; rw [i5.2.2.1]; exact c_told hI h
  · unfold d_Md_undoCount; rw [i3.1]; exact c_told hI h
theorem w_small (hI : CI μ A) : (∀ Q : Int → Prop, Q (aE A) → d_OB_parseErrorCode μ Q) ∧ (∀ Q : Int → Prop, Q (aP A) → d_OB_parseErrorPosition μ Q) ∧ (∀ Q : Int → Prop, Q ((aB A).length : Int) → d_OB_bufferLength μ Q) ∧ (∀ Q : Int → Prop, Q ((aH A).length : Int) → d_OB_undoCount μ Q) := by
  obtain ⟨i1, i2, i3, i4, ⟨i6, i7⟩, i8, i9, i10⟩ := hI
  refine ⟨fun Q h => ?_, fun Q h => ?_, fun Q h => ?_, fun Q h => ?_⟩
  · unfold d_OB_parseErrorCode; rw [i6.1]; exact h
  · unfold d_OB_parseErrorPosition; rw [i6.2.1]; exact h
  · unfold d_OB_bufferLength; rw [i6.2.2.1]; exact h
  · unfold d_OB_undoCount; rw [i10.1]; exact h
def sp_outputByte (A : AS) (v1 : Int) : Int × Int := if 0 ≤ v1 ∧ v1 < ((aO A).length : Int) then (0, (aO A).getD v1.toNat 0) else (1, 0)
theorem w_outputByte (hI : CI μ A) (hA : AOK A) (h : WQ μ A (sp_outputByte A v1) Q) : d_Lw_outputByte v1 μ Q := by
  unfold d_Lw_outputByte d_OB_outputByte
  unfold sp_outputByte at h
  obtain ⟨o1, o2⟩ := hI.2.2.2.2.2.2.1
  have ho := hA.2.2.2.2.2.2.2.1.1
  rw [o1]
  refine c_reqIdx (fun en => ?_) (fun i hv hi => ?_)
  · rw [if_neg en] at h
    exact h _ hI.thr (Fq.frCt Fq.rfl') (fun q => absurd (show (1 : Int) = 0 from q) (by decide))
  · subst hv
    rw [if_pos (by omega), Int.toNat_natCast] at h
    unfold d_Output_byteAt
    rw [o1, if_neg (by omega), if_pos (by omega), if_pos (by omega)]
    refine ⟨by omega, ?_⟩
    rw [Int.toNat_natCast, o2.get0 hi]
    exact h _ (hI.mup (by decide)) (FrC.o Fq.rfl' (Or.inl rfl)) (fun _ => by rw [mup_s]; rfl)
theorem mm_outputByte (hI : MI μ A) (hA : AOK A) (h : MQI μ A (sp_outputByte A v1) Q) : d_Md_outputByte v1 μ Q := by
  unfold d_Md_outputByte
  unfold sp_outputByte at h
  obtain ⟨o1, o2⟩ := hI.2.2.2.2.2
  have ho := hA.2.2.2.2.2.2.2.1.1
  rw [o1]
  refine c_mIn ?_
  rw [wr_id (by omega) (by omega)]
  by_cases q : 0 ≤ v1 ∧ v1 < ((aO A).length : Int)
  · rw [if_pos q] at h
    rw [decide_eq_true (by omega)]
    refine c_may (b1 := true) (b2 := true) (b3 := true) (fun q => by cases q) (fun _ q => by cases q) (fun _ _ q => by cases q) (fun _ _ _ => ?_)
    rw [if_pos rfl]
    refine ⟨by omega, ?_⟩
    have e : mup μ 772 0 0 794 v1.toNat = (aO A).getD v1.toNat 0 := by rw [mup_r (by decide)]; exact o2.get0 (by omega)
    rw [e]
    exact h _ _ (hI.gq (Gm.upF.mono (by decide) (by decide))) ((Gm.upF (k := 0)).frM (by decide)) mup_s (fun _ => rfl)
  · rw [if_neg q] at h
    rw [decide_eq_false (by omega)]
    refine c_may (b1 := false) (b2 := true) (b3 := true) (fun _ => ?_) (fun q => by cases q) (fun q => by cases q) (fun q => by cases q)
    exact h _ 0 (hI.gq (Gm.upF.mono (by decide) (by decide))) ((Gm.upF (k := 0)).frM (by decide)) mup_s (fun q => absurd (show (1 : Int) = 0 from q) (by decide))
end M58
