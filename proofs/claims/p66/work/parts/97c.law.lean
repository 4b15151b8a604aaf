/-! THE LAW: isWhole() -/
def LI (s : LSt) (A : AS) : Prop := CI s.2 A ∧ AOK A ∧ s.2 797 0 = 0 ∧ aL A = true ∧ 1 ≤ (aT A).length ∧ 1 ≤ (aR A).length
abbrev trm (A : AS) (t : Int) : List Int := (aT A).getD t.toNat []
section L97c
variable {s : LSt} {A : AS} {t u : Int} {Q : Int → LSt → Prop}
theorem LI.mk' {μ : Mem} (h : LI s A) (hc : CI μ A) (h0 : μ 797 0 = 0) : LI (s.1, μ) A := ⟨hc, h.2.1, h0, h.2.2.2⟩
theorem g1_ok {b1 b2 : Bool} {r : Int} (h1 : b1 = true) (h2 : b2 = true) : g1 b1 b2 r = (0, r) := by
  rw [h1, h2]
  rfl
theorem LI.t1 (h : LI s A) {r : Int} (ht : 0 ≤ t ∧ t < ((aT A).length : Int)) : g1 (aL A) (decide (0 ≤ t ∧ t < ((aT A).length : Int))) r = (0, r) := g1_ok h.2.2.2.1 (decide_eq_true ht)
theorem LI.t2 (h : LI s A) {r : Int} (ht : 0 ≤ t ∧ t < ((aT A).length : Int)) (hu : 0 ≤ u ∧ u < ((aT A).length : Int)) : g1 (aL A) (decide ((0 ≤ t ∧ t < ((aT A).length : Int)) ∧ 0 ≤ u ∧ u < ((aT A).length : Int))) r = (0, r) := g1_ok h.2.2.2.1 (decide_eq_true ⟨ht, hu⟩)
theorem LI.okt (h : LI s A) (ht : 0 ≤ t ∧ t < ((aT A).length : Int)) : Jvm.Pilot.@@N@@.okt (arS (aS A)) 8 80 (trm A t) := h.2.1.term (by omega)
theorem LI.v8 (h : LI s A) (ht : 0 ≤ t ∧ t < ((aT A).length : Int)) : Jvm.Pilot.@@N@@.v8 (trm A t) := fun c hc h0 => ((h.okt ht).2.2 c hc).1 h0
theorem c_isWhole60 (hL : LI s A) (ht : 0 ≤ t ∧ t < ((aT A).length : Int)) (hu : 0 ≤ u ∧ u < ((aT A).length : Int)) {x y : Int} (hxy : x = y) (h : ∀ μ', LI (s.1, μ') A → Q 1 (s.1, μ')) : d_Lw_isWhole_j60 t u x y s Q := by
  have vt := hL.v8 ht
  have vu := hL.v8 hu
  obtain ⟨hI, hA, h0, hl, hT1, hR1⟩ := id hL
  unfold d_Lw_isWhole_j60
  rw [if_pos hxy]
  refine o_unify hI hA h0 (hL.t2 ht hu) fun μ1 c1 z1 => o_unify (s := (s.1, μ1)) c1 hA z1 (hL.t2 hu ht) fun μ2 c2 z2 => ?_
  rw [if_pos (by
    have : uni (trm A t) (shv (trm A u)) = uni (trm A u) (shv (trm A t)) := uni_sym vt vu
    exact congrArg b2i this)]
  refine o_unifiedSize (s := (s.1, μ2)) c2 hA z2 (hL.t2 ht hu) fun μ3 c3 z3 => o_unifiedSize (s := (s.1, μ3)) c3 hA z3 (hL.t2 hu ht) fun μ4 c4 z4 => ?_
  rw [if_pos (show usz (trm A t) (shv (trm A u)) = usz (trm A u) (shv (trm A t)) from usz_sym vt vu)]
  refine o_unify (s := (s.1, μ4)) c4 hA z4 (hL.t2 ht ht) fun μ5 c5 z5 => ?_
  rw [if_pos (show uni (trm A t) (shv (trm A t)) = true from uni_self vt)]
  refine o_areEqual (s := (s.1, μ5)) c5 hA z5 (hL.t2 ht ht) fun μ6 c6 z6 => ?_
  rw [if_pos (decide_eq_true rfl)]
  refine o_areEqual (s := (s.1, μ6)) c6 hA z6 (hL.t2 ht hu) fun μ7 c7 z7 => ?_
  by_cases q : trm A t = trm A u
  · rw [if_pos (show decide (trm A t = trm A u) = true from decide_eq_true q)]
    refine o_stepsInnermost (s := (s.1, μ7)) c7 hA z7 (hL.t1 ht) fun μ8 c8 z8 => o_stepsInnermost (s := (s.1, μ8)) c8 hA z8 (hL.t1 hu) fun μ9 c9 z9 => ?_
    rw [if_pos (show rstep (rdc (aR A) true 200 (trm A t)) = rstep (rdc (aR A) true 200 (trm A u)) by rw [q])]
    exact h μ9 (hL.mk' c9 z9)
  · rw [if_neg (show ¬ decide (trm A t = trm A u) = true by rw [decide_eq_false q]; decide)]
    exact h μ7 (hL.mk' c7 z7)
theorem c_isWhole39 (hL : LI s A) (ht : 0 ≤ t ∧ t < ((aT A).length : Int)) (hu : 0 ≤ u ∧ u < ((aT A).length : Int)) {x y : Int} (hxy : x = y) (h : ∀ μ', LI (s.1, μ') A → Q 1 (s.1, μ')) : d_Lw_isWhole_j39 t u x y s Q := by
  obtain ⟨hI, hA, h0, hl, hT1, hR1⟩ := id hL
  unfold d_Lw_isWhole_j39
  rw [if_pos hxy]
  refine o_isNormalForm hI hA h0 (hL.t1 ht) fun μ1 c1 z1 => o_outermostRedex (s := (s.1, μ1)) c1 hA z1 (hL.t1 ht) fun μ2 c2 z2 => ?_
  by_cases q : px (aR A) false (trm A t) < 0
  · rw [if_pos (show px (aR A) false (trm A t) < 0 from q)]
    exact c_isWhole60 (hL.mk' c2 z2) ht hu (show b2i (decide (px (aR A) false (trm A t) = -1)) = 1 by rw [decide_eq_true (px_nf.mpr (px_lt.mp q))]; rfl) h
  · rw [if_neg (show ¬ px (aR A) false (trm A t) < 0 from q)]
    exact c_isWhole60 (hL.mk' c2 z2) ht hu (show b2i (decide (px (aR A) false (trm A t) = -1)) = 0 by rw [decide_eq_false (fun e => q (px_lt.mpr (px_nf.mp e)))]; rfl) h
theorem c_isWhole18 (hL : LI s A) (ht : 0 ≤ t ∧ t < ((aT A).length : Int)) (hu : 0 ≤ u ∧ u < ((aT A).length : Int)) {x y : Int} (hxy : x = y) (h : ∀ μ', LI (s.1, μ') A → Q 1 (s.1, μ')) : d_Lw_isWhole_j18 t u x y s Q := by
  obtain ⟨hI, hA, h0, hl, hT1, hR1⟩ := id hL
  unfold d_Lw_isWhole_j18
  rw [if_pos hxy]
  refine o_isNormalForm hI hA h0 (hL.t1 ht) fun μ1 c1 z1 => o_innermostRedex (s := (s.1, μ1)) c1 hA z1 (hL.t1 ht) fun μ2 c2 z2 => ?_
  by_cases q : px (aR A) true (trm A t) < 0
  · rw [if_pos (show px (aR A) true (trm A t) < 0 from q)]
    exact c_isWhole39 (hL.mk' c2 z2) ht hu (show b2i (decide (px (aR A) false (trm A t) = -1)) = 1 by rw [decide_eq_true (px_nf.mpr (px_lt.mp q))]; rfl) h
  · rw [if_neg (show ¬ px (aR A) true (trm A t) < 0 from q)]
    exact c_isWhole39 (hL.mk' c2 z2) ht hu (show b2i (decide (px (aR A) false (trm A t) = -1)) = 0 by rw [decide_eq_false (fun e => q (px_lt.mpr (px_nf.mp e)))]; rfl) h
theorem c_isWhole (hL : LI s A) (ht : 0 ≤ t ∧ t < ((aT A).length : Int)) (hu : 0 ≤ u ∧ u < ((aT A).length : Int)) (h : ∀ μ', LI (s.1, μ') A → Q 1 (s.1, μ')) : d_Lw_isWhole t u s Q := by
  obtain ⟨hI, hA, h0, hl, hT1, hR1⟩ := id hL
  unfold d_Lw_isWhole
  refine o_isNormalForm hI hA h0 (hL.t1 ht) fun μ1 c1 z1 => o_redexCount (s := (s.1, μ1)) c1 hA z1 (hL.t1 ht) fun μ2 c2 z2 => ?_
  by_cases q : (((List.range (trm A t).length).countP (rx (aR A) (trm A t)) : Nat) : Int) = 0
  · rw [if_pos (show (((List.range (trm A t).length).countP (rx (aR A) (trm A t)) : Nat) : Int) = 0 from q)]
    exact c_isWhole18 (hL.mk' c2 z2) ht hu (show b2i (decide (px (aR A) false (trm A t) = -1)) = 1 by rw [decide_eq_true (px_nf.mpr (cnt_nf.mp q))]; rfl) h
  · rw [if_neg (show ¬ (((List.range (trm A t).length).countP (rx (aR A) (trm A t)) : Nat) : Int) = 0 from q)]
    exact c_isWhole18 (hL.mk' c2 z2) ht hu (show b2i (decide (px (aR A) false (trm A t) = -1)) = 0 by rw [decide_eq_false (fun e => q (cnt_nf.mpr (px_nf.mp e)))]; rfl) h
end L97c
