/-! THE LAW: sees() -/
def zt (T : List Int) : Nat → Int64
  | 0 => Int64.ofNat 0
  | k + 1 => ((((Int64.ofNat 31) * zt T k) + ((Int64.ofNat 8) * ((Int32.ofInt (wr (symO (T.getD k 0) + 1))).toInt64))) + ((Int32.ofInt (varO (T.getD k 0))).toInt64)) + (Int64.ofNat 2)
def zb (O : List Int) : Nat → Int64
  | 0 => Int64.ofNat 0
  | k + 1 => ((Int64.ofNat 31) * zb O k) + ((Int32.ofInt (O.getD k 0)).toInt64)
/-- what sees() sees of kt terms and kr rules -/
def see2 (sy : Sy) (c : Cf) (kt kr k : Nat) : Int64 := if k = 0 then (Int32.ofInt (c.1.length : Int)).toInt64 else if k = 1 then (Int32.ofInt (c.2.length : Int)).toInt64 else if 10 ≤ k ∧ k < 10 + kt then zt (c.2.getD (k - 10) []) (c.2.getD (k - 10) []).length else if 20 ≤ k ∧ k < 20 + kr then zb (wrR sy (c.1.getD (k - 20) ([], []))) (wrR sy (c.1.getD (k - 20) ([], []))).length else Int64.ofNat 0
def see (sy : Sy) (c : Cf) (k : Nat) : Int64 := see2 sy c c.2.length c.1.length k
def rowJ (s : LSt) (i : Nat) (f : Nat → Int64) : Prop := dh s i = some (103, 60) ∧ ∀ k, k < 60 → dV s i k = jX (.long (f k))
section L97d
variable {s s1 : LSt} {A : AS} {t u : Int} {Q : Int → LSt → Prop} {iw : Nat}
theorem Ft.dh {m i : Nat} (h : Ft m s s1) : Jvm.Pilot.@@N@@.dh s1 i = Jvm.Pilot.@@N@@.dh s i := by
  unfold Jvm.Pilot.@@N@@.dh
  rw [h.1]
theorem rowJ.cg {f g : Nat → Int64} (h : rowJ s iw f) (hg : ∀ k, k < 60 → f k = g k) : rowJ s iw g := ⟨h.1, fun k hk => by rw [← hg k hk]; exact h.2 k hk⟩
theorem rowJ.m {f : Nat → Int64} {μ : Mem} (h : rowJ s iw f) : rowJ (s.1, μ) iw f := h
theorem i_rJ {f : Nat → Int64} {K : Int64 → Prop} {z : Int} {k : Nat} (h : rowJ s iw f) (hz : z = (k : Int)) (hk : k < 60) (hK : K (f k)) : rJ s iw z K := by
  subst hz
  exact ⟨60, f k, h.1, by omega, by rw [Int.toNat_natCast]; exact hk, by rw [Int.toNat_natCast]; exact h.2 k hk, hK⟩
theorem i_wJ {f : Nat → Int64} {K : LSt → Prop} {z : Int} {k : Nat} {x : Int64} (h : rowJ s iw f) (hz : z = (k : Int)) (hk : k < 60) (hK : rowJ (upC s iw k (jX (.long x))) iw (fun j => if j = k then x else f j) → K (upC s iw k (jX (.long x)))) : wA s iw 103 z (jX (.long x)) K := by
  refine i_wA h.1 hz hk (hK ⟨h.1, fun j hj => ?_⟩)
  dsimp only
  by_cases e : j = k
  · subst e
    rw [dV_s, if_pos rfl]
  · rw [dV_n (by omega), if_neg e]
    exact h.2 j hj
theorem LI.up {i k : Nat} {v : JV} (h : LI s A) : LI (upC s i k v) A := h
theorem see2_t {sy : Sy} {c : Cf} {kt k : Nat} (hk : kt < 10) : (if k = 10 + kt then zt (c.2.getD kt []) (c.2.getD kt []).length else see2 sy c kt 0 k) = see2 sy c (kt + 1) 0 k := by
  unfold see2
  by_cases e : k = 10 + kt
  · subst e
    rw [if_pos rfl, if_neg (by omega), if_neg (by omega), if_pos (by omega), Nat.add_sub_cancel_left]
  · rw [if_neg e]
    by_cases e0 : k = 0
    · rw [if_pos e0, if_pos e0]
    · rw [if_neg e0, if_neg e0]
      by_cases e1 : k = 1
      · rw [if_pos e1, if_pos e1]
      · rw [if_neg e1, if_neg e1]
        by_cases e2 : 10 ≤ k ∧ k < 10 + kt
        · rw [if_pos e2, if_pos (by omega)]
        · rw [if_neg e2, if_neg (by omega : ¬ (10 ≤ k ∧ k < 10 + (kt + 1)))]
theorem see2_r {sy : Sy} {c : Cf} {kt kr k : Nat} (ht : kt ≤ 10) : (if k = 20 + kr then zb (wrR sy (c.1.getD kr ([], []))) (wrR sy (c.1.getD kr ([], []))).length else see2 sy c kt kr k) = see2 sy c kt (kr + 1) k := by
  unfold see2
  by_cases e : k = 20 + kr
  · subst e
    rw [if_pos rfl, if_neg (by omega), if_neg (by omega), if_neg (by omega), if_pos (by omega), Nat.add_sub_cancel_left]
  · rw [if_neg e]
    by_cases e0 : k = 0
    · rw [if_pos e0, if_pos e0]
    · rw [if_neg e0, if_neg e0]
      by_cases e1 : k = 1
      · rw [if_pos e1, if_pos e1]
      · rw [if_neg e1, if_neg e1]
        by_cases e2 : 10 ≤ k ∧ k < 10 + kt
        · rw [if_pos e2, if_pos e2]
        · rw [if_neg e2, if_neg e2]
          by_cases e3 : 20 ≤ k ∧ k < 20 + kr
          · rw [if_pos e3, if_pos (by omega)]
          · rw [if_neg e3, if_neg (by omega : ¬ (20 ≤ k ∧ k < 20 + (kr + 1)))]
theorem see2_0t {sy : Sy} {c : Cf} {kt : Nat} : see2 sy c kt 0 (10 + kt) = Int64.ofNat 0 := by
  unfold see2
  rw [if_neg (by omega), if_neg (by omega), if_neg (by omega), if_neg (by omega)]
theorem see2_0r {sy : Sy} {c : Cf} {kt kr : Nat} (ht : kt ≤ 10) : see2 sy c kt kr (20 + kr) = Int64.ofNat 0 := by
  unfold see2
  rw [if_neg (by omega), if_neg (by omega), if_neg (by omega), if_neg (by omega)]
/-- the rules -/
theorem c_sees98 {Q : LSt → Prop} {o0 : List Int} (hL : LI s (wO A o0)) (hw : rowJ s iw (see2 (aS A) (aC A) (aT A).length 0)) (h : ∀ s' o, Ft iw s s' → LI s' (wO A o) → rowJ s' iw (see (aS A) (aC A)) → Q s') : d_Lw_sees_l98 (jR iw) 0 s Q := by
  have hT6 : (aT A).length ≤ 6 := hL.2.1.t6
  have hR6 : (aR A).length ≤ 6 := hL.2.1.r6
  refine i_Lw_sees_l98 (Inv := fun v2 s' => ∃ (kr : Nat) (o : List Int), v2 = (kr : Int) ∧ kr ≤ (aR A).length ∧ Ft iw s s' ∧ LI s' (wO A o) ∧ rowJ s' iw (see2 (aS A) (aC A) (aT A).length kr)) (fun v2 _ => 6 - v2.toNat) ?_ 0 s ⟨0, o0, rfl, by omega, Ft.rfl', hL, hw⟩
  rintro _ s1 ⟨kr, o, rfl, hk, f1, hL1, hw1⟩ W98 hW
  obtain ⟨hI, hA, h0, hl, hT1, hR1⟩ := id hL1
  unfold d_Lw_sees_b98
  refine o_ruleCount hI hA h0 (g1_ok hl rfl) fun μ1 c1 z1 => ?_
  by_cases hc : (kr : Int) < ((aR A).length : Int)
  · rw [if_pos (show (kr : Int) < ((aR (wO A o)).length : Int) from hc)]
    have hs : sp_writeRule (wO A o) (kr : Int) = (0, ((wrR (aS A) ((aR A).getD kr ([], []))).length : Int), wO A (wrR (aS A) ((aR A).getD kr ([], [])))) := by
      unfold sp_writeRule
      rw [hl, decide_eq_true (show 0 ≤ (kr : Int) ∧ (kr : Int) < ((aR (wO A o)).length : Int) from ⟨by omega, hc⟩)]
      rw [Int.toNat_natCast]
      rfl
    have hok : AOK (wO A (wrR (aS A) ((aR A).getD kr ([], [])))) := by
      have := writeRule_ok (v1 := (kr : Int)) hA
      rw [hs] at this
      exact this
    generalize hO : wrR (aS A) ((aR A).getD kr ([], [])) = O at hs hok
    have hO1 : O.length ≤ 1600 := hok.2.2.2.2.2.2.2.1.1
    refine o_writeRule (s := (s1.1, μ1)) c1 hA z1 hs fun μ2 c2 z2 => ?_
    have hL2 : LI (s1.1, μ2) (wO A O) := ⟨c2, hok, z2, hl, hT1, hR1⟩
    refine i_Lw_sees_l115 (Inv := fun v4 s' => ∃ kb : Nat, v4 = (kb : Int) ∧ kb ≤ O.length ∧ Ft iw s s' ∧ LI s' (wO A O) ∧ rowJ s' iw (fun k => if k = 20 + kr then zb O kb else see2 (aS A) (aC A) (aT A).length kr k)) (fun v4 _ => 1600 - v4.toNat) ?_ 0 (s1.1, μ2) ⟨0, rfl, by omega, f1.tr Ft.mem, hL2, rowJ.cg (s := (s1.1, μ2)) hw1 fun k _ => ?_⟩
    · rintro _ s3 ⟨kb, rfl, hkb, f3, hL3, hw3⟩ W115 hW5
      obtain ⟨hI3, hA3, h03, -⟩ := id hL3
      unfold d_Lw_sees_b115
      by_cases hb : (kb : Int) < (O.length : Int)
      · rw [if_pos hb]
        refine i_R (i_rJ (k := 20 + kr) hw3 (by rw [wr_s (by omega)]; omega) (by omega) ?_)
        rw [if_pos rfl]
        refine o_outputByte (A := wO A O) hI3 hA3 h03 (r := O.getD kb 0) ?_ fun μ4 c4 z4 => ?_
        · unfold sp_outputByte
          rw [if_pos (show 0 ≤ (kb : Int) ∧ (kb : Int) < ((aO (wO A O)).length : Int) from ⟨by omega, hb⟩), Int.toNat_natCast]
          rfl
        · refine i_wJ (s := (s3.1, μ4)) (k := 20 + kr) hw3 (by rw [wr_s (by omega)]; omega) (by omega) fun hw4 => ?_
          rw [show wr ((kb : Int) + 1) = ((kb + 1 : Nat) : Int) by rw [wr_s (by omega)]; omega]
          refine hW5 _ _ ⟨kb + 1, rfl, by omega, (f3.tr Ft.mem).tr Ft.up, ⟨c4, hA3, z4, hL3.2.2.2⟩, hw4.cg fun k _ => ?_⟩ (by omega)
          by_cases e : k = 20 + kr
          · rw [if_pos e, if_pos e]
            rfl
          · rw [if_neg e, if_neg e, if_neg e]
      · rw [if_neg hb]
        have : kb = O.length := by omega
        subst this
        rw [show wr ((kr : Int) + 1) = ((kr + 1 : Nat) : Int) by rw [wr_s (by omega)]; omega]
        refine hW _ _ ⟨kr + 1, O, rfl, by omega, f3, hL3, hw3.cg fun k _ => ?_⟩ (by omega)
        rw [← hO]
        exact see2_r (by omega)
    · by_cases e : k = 20 + kr
      · subst e
        rw [if_pos rfl]
        exact see2_0r (by omega)
      · rw [if_neg e]
  · rw [if_neg (show ¬ (kr : Int) < ((aR (wO A o)).length : Int) from hc)]
    have : kr = (aR A).length := by omega
    subst this
    exact h (s1.1, μ1) o (f1.tr Ft.mem) ⟨c1, hA, z1, hL1.2.2.2⟩ hw1
/-- all of it -/
theorem c_sees {Q : LSt → Prop} (hL : LI s A) (hw : dh s iw = some (103, 60)) (h : ∀ s' o, Ft iw s s' → LI s' (wO A o) → rowJ s' iw (see (aS A) (aC A)) → Q s') : d_Lw_sees (jR iw) s Q := by
  have hT6 : (aT A).length ≤ 6 := hL.2.1.t6
  have hR6 : (aR A).length ≤ 6 := hL.2.1.r6
  unfold d_Lw_sees
  refine i_R ⟨60, hw, by decide, ?_⟩
  have w0 : rowJ (upA s iw (fun _ => jX (.long (Int64.ofNat 0)))) iw (fun _ => Int64.ofNat 0) := ⟨hw, fun k hk => by rw [dV_upA, if_pos rfl]⟩
  have f0 : Ft iw s (upA s iw (fun _ => jX (.long (Int64.ofNat 0)))) := ⟨rfl, rfl, rfl, fun i hi => by funext j; rw [dV_upA, if_neg hi]⟩
  have hL0 : LI (upA s iw (fun _ => jX (.long (Int64.ofNat 0)))) A := hL
  generalize upA s iw (fun _ => jX (.long (Int64.ofNat 0))) = s0 at *
  obtain ⟨hI, hA, h0, hl, hT1, hR1⟩ := id hL0
  refine o_ruleCount hI hA h0 (g1_ok hl rfl) fun μ1 c1 z1 => i_wJ (s := (s0.1, μ1)) (k := 0) w0 rfl (by decide) fun w1 => ?_
  refine o_termCount (s := upC (s0.1, μ1) iw 0 _) c1 hA z1 (g1_ok hl rfl) fun μ2 c2 z2 => i_wJ (k := 1) w1 rfl (by decide) fun w2 => ?_
  refine i_Lw_sees_l23 (Inv := fun v2 s' => ∃ kt : Nat, v2 = (kt : Int) ∧ kt ≤ (aT A).length ∧ Ft iw s s' ∧ LI s' A ∧ rowJ s' iw (see2 (aS A) (aC A) kt 0)) (fun v2 _ => 6 - v2.toNat) ?_ 0 _ ⟨0, rfl, by omega, ((f0.tr Ft.mem).tr Ft.up).tr (Ft.mem.tr Ft.up), ⟨c2, hA, z2, hL0.2.2.2⟩, w2.cg fun k hk => ?_⟩
  · rintro _ s1 ⟨kt, rfl, hk, f1, hL1, hw1⟩ W23 hW
    obtain ⟨hI1, hA1, h01, -⟩ := id hL1
    unfold d_Lw_sees_b23
    refine o_termCount hI1 hA1 h01 (g1_ok hl rfl) fun μ3 c3 z3 => ?_
    by_cases hc : (kt : Int) < ((aT A).length : Int)
    · rw [if_pos hc]
      generalize hT : (aT A).getD kt [] = T
      have hT80 : T.length ≤ 80 := by
        rw [← hT]
        exact (hA.term (by omega)).2.1
      have e1 : trm A (kt : Int) = T := by
        unfold trm
        rw [Int.toNat_natCast]
        exact hT
      refine i_Lw_sees_l33 (Inv := fun v3 s' => ∃ kp : Nat, v3 = (kp : Int) ∧ kp ≤ T.length ∧ Ft iw s s' ∧ LI s' A ∧ rowJ s' iw (fun k => if k = 10 + kt then zt T kp else see2 (aS A) (aC A) kt 0 k)) (fun v3 _ => 80 - v3.toNat) ?_ 0 (s1.1, μ3) ⟨0, rfl, by omega, f1.tr Ft.mem, hL1.mk' c3 z3, rowJ.cg (s := (s1.1, μ3)) hw1 fun k _ => ?_⟩
      · rintro _ s4 ⟨kp, rfl, hkp, f4, hL4, hw4⟩ W33 hW3
        obtain ⟨hI4, hA4, h04, -⟩ := id hL4
        unfold d_Lw_sees_b33
        have ht : 0 ≤ (kt : Int) ∧ (kt : Int) < ((aT A).length : Int) := ⟨by omega, hc⟩
        refine o_termSize hI4 hA4 h04 (hL4.t1 ht) fun μ5 c5 z5 => ?_
        have e2 : (((aT A).getD ((kt : Int)).toNat []).length : Int) = (T.length : Int) := by
          rw [show (aT A).getD ((kt : Int)).toNat [] = trm A (kt : Int) from rfl, e1]
        by_cases hp : (kp : Int) < (T.length : Int)
        · rw [if_pos (by rw [e2]; exact hp)]
          refine i_R (i_rJ (s := (s4.1, μ5)) (k := 10 + kt) hw4 (by rw [wr_s (by omega)]; omega) (by omega) ?_)
          rw [if_pos rfl]
          have hN : isN A (kt : Int) (kp : Int) := by
            refine ⟨ht, by omega, ?_⟩
            rw [e2]
            exact hp
          have s1' : sp_symbolAt A (kt : Int) (kp : Int) = (0, symO (T.getD kp 0)) := by
            unfold sp_symbolAt
            rw [g1_ok hl (@decide_eq_true _ (Classical.propDecidable _) hN), show (aT A).getD ((kt : Int)).toNat [] = T from e1, Int.toNat_natCast]
          have s2' : sp_variableAt A (kt : Int) (kp : Int) = (0, varO (T.getD kp 0)) := by
            unfold sp_variableAt
            rw [g1_ok hl (@decide_eq_true _ (Classical.propDecidable _) hN), show (aT A).getD ((kt : Int)).toNat [] = T from e1, Int.toNat_natCast]
          refine o_symbolAt (s := (s4.1, μ5)) c5 hA z5 s1' fun μ6 c6 z6 => o_variableAt (s := (s4.1, μ6)) c6 hA z6 s2' fun μ7 c7 z7 => ?_
          refine i_wJ (s := (s4.1, μ7)) (k := 10 + kt) hw4 (by rw [wr_s (by omega)]; omega) (by omega) fun hw5 => ?_
          rw [show wr ((kp : Int) + 1) = ((kp + 1 : Nat) : Int) by rw [wr_s (by omega)]; omega]
          refine hW3 _ _ ⟨kp + 1, rfl, by omega, (f4.tr Ft.mem).tr Ft.up, ⟨c7, hA, z7, hL4.2.2.2⟩, hw5.cg fun k _ => ?_⟩ (by omega)
          by_cases e : k = 10 + kt
          · rw [if_pos e, if_pos e]
            rfl
          · rw [if_neg e, if_neg e, if_neg e]
        · rw [if_neg (by rw [e2]; exact hp)]
          have : kp = T.length := by omega
          subst this
          rw [show wr ((kt : Int) + 1) = ((kt + 1 : Nat) : Int) by rw [wr_s (by omega)]; omega]
          refine hW _ _ ⟨kt + 1, rfl, by omega, f4.tr Ft.mem, hL4.mk' c5 z5, rowJ.cg (s := (s4.1, μ5)) hw4 fun k _ => ?_⟩ (by omega)
          rw [← hT]
          exact see2_t (by omega)
      · by_cases e : k = 10 + kt
        · subst e
          rw [if_pos rfl]
          exact see2_0t
        · rw [if_neg e]
    · rw [if_neg hc]
      have : kt = (aT A).length := by omega
      subst this
      exact c_sees98 (o0 := aO A) (s := (s1.1, μ3)) (hL1.mk' c3 z3) hw1 fun s' o f' hL' hw' => h s' o ((f1.tr Ft.mem).tr f') hL' hw'
  · unfold see2
    by_cases e1 : k = 1
    · subst e1
      rw [if_pos rfl]
      rfl
    · rw [if_neg e1]
      by_cases e0 : k = 0
      · rw [if_pos e0, if_pos e0]
        rfl
      · rw [if_neg e0, if_neg e0, if_neg e1, if_neg (by omega), if_neg (by omega)]
end L97d
