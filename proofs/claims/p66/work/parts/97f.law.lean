/-! THE LAW: the other branches, the rounds -/
theorem ite_c {P : Prop} [Decidable P] {A B : Prop} (h1 : P → A) (h2 : ¬ P → B) : if P then A else B := by
  by_cases h : P
  · rw [if_pos h]
    exact h1 h
  · rw [if_neg h]
    exact h2 h
section L97f
variable {s s1 s2 : LSt} {A A' : AS} {t u p sl v7 v8 v10 v11 v12 : Int} {Q : Int → LSt → Prop} {W68 : Int → LSt → Prop} {iw iz : Nat} {C : Cf}
theorem LI.isN (_h : LI s A) (ht : 0 ≤ t ∧ t < ((aT A).length : Int)) (hp : 0 ≤ p ∧ p < ((trm A t).length : Int)) : Jvm.Pilot.@@N@@.isN A t p := ⟨ht, hp⟩
theorem LI.dN {P : Prop} (h : P) : @decide P (Classical.propDecidable _) = true := @decide_eq_true _ (Classical.propDecidable _) h
theorem see_1 {sy : Sy} : see sy C 1 = (Int32.ofInt (C.2.length : Int)).toInt64 := rfl
/-- a part is copied -/
theorem c_br4 (h : TI s iw iz sl C A) (hC : C.2.length = (aT A).length) (ht : 0 ≤ t ∧ t < ((aT A).length : Int)) (hp : 0 ≤ p ∧ p < ((trm A t).length : Int)) (hW : ∀ s' A', LI s' A' → Fs s s' → W68 (wr (v7 + 1)) s') : oI (d_OB_termCount s.2) s (fun r74 s75 => if r74 < 6 then (oI (d_OB_copySubterm t p s75.2) s75 (fun r76 s77 => rJ s77 iw 1 (fun y78 => if (lg_cmp ((Int32.ofInt r76).toInt64) y78).toInt = 0 then (rJ s77 iw 1 (fun y79 => oI (d_OB_termSize (y79.toInt32.toInt) s77.2) s77 (fun r80 s81 => oI (d_OB_subtermSize t p s81.2) s81 (fun r82 s83 => if r80 = r82 then (d_Lw_law_j650 (jR iw) (jR iz) v7 v8 sl s83 W68 Q) else (Q 0 s83))))) else (Q 0 s77)))) else (d_Lw_law_j650 (jR iw) (jR iz) v7 v8 sl s75 W68 Q)) := by
  obtain ⟨hI, hA, h0, hl, hT1, hR1⟩ := id h.1
  have h6 : (aT A).length ≤ 6 := hA.t6
  refine o_termCount hI hA h0 (g1_ok hl rfl) fun μ1 c1 z1 => ite_c (fun q => ?_) fun _ => c_tail (h.lk c1 z1) fun s' A' a b => hW s' A' a (Fs.m.tr b)
  have hs : sp_copySubterm A t p = (0, ((aT A).length : Int), wC A (aR A, aT A ++ [sb (trm A t) p.toNat])) := by
    unfold sp_copySubterm
    refine g4_s hl (LI.dN (h.1.isN ht hp)) ?_
    rw [if_pos (by omega)]
  have hok : AOK (wC A (aR A, aT A ++ [sb (trm A t) p.toNat])) := by
    have := copySubterm_ok (v1 := t) (v2 := p) hA
    rw [hs] at this
    exact this
  generalize hA' : wC A (aR A, aT A ++ [sb (trm A t) p.toNat]) = A1 at hs hok
  have eT : aT A1 = aT A ++ [sb (trm A t) p.toNat] := by rw [← hA']; rfl
  have eR : aR A1 = aR A := by rw [← hA']; rfl
  have eS : aS A1 = aS A := by rw [← hA']; rfl
  have eL : aL A1 = true := by rw [← hA']; exact hl
  have eV : slA A1 sl = slA A sl := by rw [← hA']; rfl
  have lT : (aT A1).length = (aT A).length + 1 := by rw [eT, List.length_append]; rfl
  refine o_copySubterm (s := (s.1, μ1)) c1 hA z1 hs fun μ2 c2 z2 => ?_
  have h2 : TI (s.1, μ2) iw iz sl C A1 := h.ch c2 z2 hok eL (by omega) (by rw [eR]; exact hR1) eS eV
  have hw := h2.2.2.2.1
  refine i_rJ (s := (s.1, μ2)) (k := 1) hw rfl (by decide) ?_
  rw [see_1, hC, if_pos (lg_self _)]
  refine i_rJ (s := (s.1, μ2)) (k := 1) hw rfl (by decide) ?_
  rw [see_1, hC, lg_back h6]
  refine o_termSize (s := (s.1, μ2)) c2 hok z2 (h2.1.t1 (t := ((aT A).length : Int)) (by omega)) fun μ3 c3 z3 => ?_
  have e1 : (aT A1).getD (((aT A).length : Int)).toNat [] = sb (trm A t) p.toNat := by
    rw [Int.toNat_natCast, eT, getD_snc]
  rw [e1]
  have e2 : trm A1 t = trm A t := by
    show (aT A1).getD t.toNat [] = (aT A).getD t.toNat []
    rw [eT, getD_app_l (by omega)]
  have hs2 : sp_subtermSize A1 t p = (0, ((en (trm A t) p.toNat : Nat) : Int) - (p.toNat : Nat)) := by
    unfold sp_subtermSize
    rw [g1_ok eL (LI.dN (h2.1.isN (t := t) (p := p) (by omega) (by rw [e2]; exact hp))), show (aT A1).getD t.toNat [] = trm A t from e2]
  refine o_subtermSize (s := (s.1, μ3)) c3 hok z3 hs2 fun μ4 c4 z4 => ?_
  have hen := en_gt (L := trm A t) (p := p.toNat) (by omega)
  rw [sb_len, if_pos (by omega)]
  exact c_tail (h2.lk c4 z4) fun s' A' a b => hW s' A' a (Fs.m.tr b)
/-- a part is replaced -/
theorem c_br5 (h : TI s iw iz sl C A) (ht : 0 ≤ t ∧ t < ((aT A).length : Int)) (hu : 0 ≤ u ∧ u < ((aT A).length : Int)) (hp : 0 ≤ p ∧ p < ((trm A t).length : Int)) (hW : ∀ s' A', LI s' A' → Fs s s' → W68 (wr (v7 + 1)) s') : oI (d_OB_termSize t s.2) s (fun r84 s85 => oI (d_OB_subtermSize t p s85.2) s85 (fun r86 s87 => oI (d_OB_termSize u s87.2) s87 (fun r88 s89 => if 80 < wr ((wr (r84 - r86)) + r88) then (d_Lw_law_j501 (jR iw) (jR iz) v7 v8 sl s89 W68 Q) else (oI (d_OB_replaceSubterm t p u s89.2) s89 (fun r90 s91 => if r90 = wr ((wr (r84 - r86)) + r88) then (d_Lw_law_j501 (jR iw) (jR iz) v7 v8 sl s91 W68 Q) else (Q 0 s91)))))) := by
  obtain ⟨hI, hA, h0, hl, hT1, hR1⟩ := id h.1
  have hT8 : (trm A t).length ≤ 80 := (h.1.okt ht).2.1
  have hU8 : (trm A u).length ≤ 80 := (h.1.okt hu).2.1
  have hs2 : sp_subtermSize A t p = (0, ((en (trm A t) p.toNat : Nat) : Int) - (p.toNat : Nat)) := by
    unfold sp_subtermSize
    rw [g1_ok hl (LI.dN (h.1.isN ht hp))]
  have hen := en_gt (L := trm A t) (p := p.toNat) (by omega)
  have hen2 := en_le (L := trm A t) (p := p.toNat) (by omega)
  refine o_termSize hI hA h0 (h.1.t1 ht) fun μ1 c1 z1 => o_subtermSize (s := (s.1, μ1)) c1 hA z1 hs2 fun μ2 c2 z2 => o_termSize (s := (s.1, μ2)) c2 hA z2 (h.1.t1 hu) fun μ3 c3 z3 => ?_
  have hlen : (rpl (trm A t) (trm A u) p.toNat).length = p.toNat + (trm A u).length + ((trm A t).length - en (trm A t) p.toNat) := by
    unfold rpl
    rw [List.length_append, List.length_append, List.length_take, List.length_drop]
    omega
  have e : wr ((wr (((trm A t).length : Int) - (((en (trm A t) p.toNat : Nat) : Int) - (p.toNat : Nat)))) + ((trm A u).length : Int)) = ((rpl (trm A t) (trm A u) p.toNat).length : Int) := by
    rw [wr_s (z := ((trm A t).length : Int) - (((en (trm A t) p.toNat : Nat) : Int) - (p.toNat : Nat))) (by omega), wr_s (by omega), hlen]
    omega
  have e' : wr ((wr ((((aT A).getD t.toNat []).length : Int) - (((en (trm A t) p.toNat : Nat) : Int) - (p.toNat : Nat)))) + (((aT A).getD u.toNat []).length : Int)) = ((rpl (trm A t) (trm A u) p.toNat).length : Int) := e
  rw [e']
  refine ite_c (fun _ => c_tail (h.lk c3 z3) fun s' A' a b => hW s' A' a (Fs.m.tr b)) fun q => ?_
  have hs : sp_replaceSubterm A t p u = (0, ((rpl (trm A t) (trm A u) p.toNat).length : Int), chT A t.toNat (rpl (trm A t) (trm A u) p.toNat)) := by
    unfold sp_replaceSubterm
    refine g4_s hl (LI.dN ⟨h.1.isN ht hp, hu⟩) ?_
    rw [if_pos (show (rpl ((aT A).getD t.toNat []) ((aT A).getD u.toNat []) p.toNat).length ≤ 80 by
      have q' : ¬ (80 : Int) < ((rpl ((aT A).getD t.toNat []) ((aT A).getD u.toNat []) p.toNat).length : Int) := q
      omega)]
  have hok : AOK (chT A t.toNat (rpl (trm A t) (trm A u) p.toNat)) := by
    have := replaceSubterm_ok (v1 := t) (v2 := p) (v3 := u) hA
    rw [hs] at this
    exact this
  refine o_replaceSubterm (s := (s.1, μ3)) c3 hA z3 hs fun μ4 c4 z4 => ?_
  rw [if_pos rfl]
  exact c_tail ((h.lk c3 z3).set c4 z4 hok) fun s' A' a b => hW s' A' a (Fs.m.tr b)
/-- the rule at a place matches there -/
theorem c_br6 (h : TI s iw iz sl C A) (ht : 0 ≤ t ∧ t < ((aT A).length : Int)) (hp : 0 ≤ p ∧ p < ((trm A t).length : Int)) (hW : ∀ s' A', LI s' A' → Fs s s' → W68 (wr (v7 + 1)) s') : oI (d_OB_ruleAt t p s.2) s (fun r92 s93 => if r92 < 0 then (d_Lw_law_j531 (jR iw) (jR iz) v7 v8 sl t p r92 0 s93 W68 Q) else (d_Lw_law_j531 (jR iw) (jR iz) v7 v8 sl t p r92 1 s93 W68 Q)) := by
  obtain ⟨hI, hA, h0, hl, hT1, hR1⟩ := id h.1
  have hs : sp_ruleAt A t p = (0, fi (trm A t) p.toNat (aR A) 0) := by
    unfold sp_ruleAt
    rw [g1_ok hl (LI.dN (h.1.isN ht hp))]
  refine o_ruleAt hI hA h0 hs fun μ1 c1 z1 => ite_c (fun q => ?_) fun q => ?_
  · unfold d_Lw_law_j531
    rw [if_pos q]
    unfold d_Lw_law_j553 d_Lw_law_j554
    rw [if_pos rfl]
    exact c_tail (h.lk c1 z1) fun s' A' a b => hW s' A' a (Fs.m.tr b)
  · unfold d_Lw_law_j531
    rw [if_neg q]
    obtain ⟨k, hk, hkl, hm⟩ := fi_get (T := trm A t) (p := p.toNat) (aR A) 0 (by omega)
    rw [Nat.zero_add] at hk
    rw [hk]
    have hs2 : sp_matches A (k : Int) t p = (0, b2i true) := by
      unfold sp_matches
      rw [g1_ok hl (LI.dN ⟨⟨by omega, by omega⟩, h.1.isN ht hp⟩), Int.toNat_natCast]
      rw [show (mb ((aR A).getD k ([], [])).1 ((aT A).getD t.toNat []) p.toNat).isSome = true from hm]
    refine o_matches (s := (s.1, μ1)) c1 hA z1 hs2 fun μ2 c2 z2 => ?_
    rw [if_pos rfl]
    unfold d_Lw_law_j554
    rw [if_pos rfl]
    exact c_tail (h.lk c2 z2) fun s' A' a b => hW s' A' a (Fs.m.tr b)
/-- two rules change places; that is undone -/
theorem c_br7 (h : TI s iw iz sl C A) (hW : ∀ s' A', LI s' A' → Fs s s' → W68 (wr (v7 + 1)) s') : oI (d_OB_ruleCount s.2) s (fun r96 s97 => oI (d_OB_swapRules 0 (wr (r96 - 1)) s97.2) s97 (fun r98 s99 => if r98 < 0 then (Q 0 s99) else (oI (d_OB_undo s99.2) s99 (fun r100 s101 => if r100 = 0 then (d_Lw_law_j605 (jR iw) (jR iz) v7 v8 sl s101 W68 Q) else (opI (fun Q _ => d_OB_undoCount s101.2 Q) (fun r102 => if 7 < r102 then (Q 0 s101) else (d_Lw_law_j605 (jR iw) (jR iz) v7 v8 sl s101 W68 Q))))))) := by
  obtain ⟨hI, hA, h0, hl, hT1, hR1⟩ := id h.1
  have h6 : (aR A).length ≤ 6 := hA.r6
  refine o_ruleCount hI hA h0 (g1_ok hl rfl) fun μ1 c1 z1 => ?_
  rw [wr_s (z := ((aR A).length : Int) - 1) (by omega)]
  generalize hv : ((aR A).length : Int) - 1 = v
  have hs : sp_swapRules A 0 v = (0, (sumR (swp (aR A) (0 : Int).toNat v.toNat) (aT A) : Int), wC A (swp (aR A) (0 : Int).toNat v.toNat, aT A)) := by
    unfold sp_swapRules
    exact g4_s hl (decide_eq_true ⟨by omega, by omega⟩) rfl
  have hok : AOK (wC A (swp (aR A) (0 : Int).toNat v.toNat, aT A)) := by
    have := swapRules_ok (v1 := 0) (v2 := v) hA
    rw [hs] at this
    exact this
  refine o_swapRules (s := (s.1, μ1)) c1 hA z1 hs fun μ2 c2 z2 => ?_
  rw [if_neg (by omega)]
  generalize hA1 : wC A (swp (aR A) (0 : Int).toNat v.toNat, aT A) = A1 at hok c2
  have eH : aH A1 = aC A :: (aH A).take 7 := by rw [← hA1]; rfl
  have hs2 : sp_undo A1 = (0, (((aH A).take 7).length : Int), ((A1.1.1, A1.1.2.1, aC A), ((aH A).take 7, A1.2.1.2), A1.2.2)) := by
    unfold sp_undo unA
    rw [eH]
    rfl
  have hok2 : AOK ((A1.1.1, A1.1.2.1, aC A), ((aH A).take 7, A1.2.1.2), A1.2.2) := by
    have := undo_ok hok
    rw [hs2] at this
    exact this
  refine o_undo (s := (s.1, μ2)) c2 hok z2 hs2 fun μ3 c3 z3 => ?_
  have h3 : TI (s.1, μ3) iw iz sl C ((A1.1.1, A1.1.2.1, aC A), ((aH A).take 7, A1.2.1.2), A1.2.2) := by
    refine h.ch c3 z3 hok2 ?_ hT1 hR1 ?_ ?_
    · rw [← hA1]; exact hl
    · rw [← hA1]; rfl
    · rw [← hA1]; rfl
  refine ite_c (fun _ => c_tail h3 fun s' A' a b => hW s' A' a (Fs.m.tr b)) fun _ => o_undoCount (s := (s.1, μ3)) c3 ?_
  have e7 : (((aH A).take 7).length : Int) ≤ 7 := by
    rw [List.length_take]
    omega
  refine ite_c (fun q7 => absurd (show (7 : Int) < (((aH A).take 7).length : Int) from q7) (by omega)) fun _ => ?_
  exact c_tail h3 fun s' A' a b => hW s' A' a (Fs.m.tr b)
/-- a term is taken out -/
theorem c_br8 (h : TI s iw iz sl C A) (hC : C.2.length = (aT A).length) (ht : 0 ≤ t ∧ t < ((aT A).length : Int)) (hW : ∀ s' A', LI s' A' → Fs s s' → W68 (wr (v7 + 1)) s') : oI (d_OB_termCount s.2) s (fun r103 s104 => if 2 < r103 then (oI (d_OB_removeTerm t s104.2) s104 (fun r105 s106 => rJ s106 iw 1 (fun y107 => if (lg_cmp ((Int32.ofInt r105).toInt64) (y107 - (Int64.ofNat 1))).toInt = 0 then (oI (d_OB_termCount s106.2) s106 (fun r108 s109 => rJ s109 iw 1 (fun y110 => if (lg_cmp ((Int32.ofInt r108).toInt64) (y110 - (Int64.ofNat 1))).toInt = 0 then (d_Lw_law_j650 (jR iw) (jR iz) v7 v8 sl s109 W68 Q) else (Q 0 s109)))) else (Q 0 s106)))) else (d_Lw_law_j650 (jR iw) (jR iz) v7 v8 sl s104 W68 Q)) := by
  obtain ⟨hI, hA, h0, hl, hT1, hR1⟩ := id h.1
  have h6 : (aT A).length ≤ 6 := hA.t6
  refine o_termCount hI hA h0 (g1_ok hl rfl) fun μ1 c1 z1 => ite_c (fun q => ?_) fun _ => c_tail (h.lk c1 z1) fun s' A' a b => hW s' A' a (Fs.m.tr b)
  have hs : sp_removeTerm A t = (0, ((aT A).length : Int) - 1, wC A (aR A, (aT A).eraseIdx t.toNat)) := by
    unfold sp_removeTerm
    exact g4_s hl (decide_eq_true ht) rfl
  have hok : AOK (wC A (aR A, (aT A).eraseIdx t.toNat)) := by
    have := removeTerm_ok (v1 := t) hA
    rw [hs] at this
    exact this
  generalize hA' : wC A (aR A, (aT A).eraseIdx t.toNat) = A1 at hs hok
  have eT : aT A1 = (aT A).eraseIdx t.toNat := by rw [← hA']; rfl
  have eR : aR A1 = aR A := by rw [← hA']; rfl
  have eS : aS A1 = aS A := by rw [← hA']; rfl
  have eL : aL A1 = true := by rw [← hA']; exact hl
  have eV : slA A1 sl = slA A sl := by rw [← hA']; rfl
  have lT : (aT A1).length = (aT A).length - 1 := by rw [eT, List.length_eraseIdx_of_lt (by omega)]
  refine o_removeTerm (s := (s.1, μ1)) c1 hA z1 hs fun μ2 c2 z2 => ?_
  have h2 : TI (s.1, μ2) iw iz sl C A1 := h.ch c2 z2 hok eL (by omega) (by rw [eR]; exact hR1) eS eV
  have hw := h2.2.2.2.1
  refine i_rJ (s := (s.1, μ2)) (k := 1) hw rfl (by decide) ?_
  rw [see_1, hC, if_pos (lg_m1 h6)]
  refine o_termCount (s := (s.1, μ2)) c2 hok z2 (g1_ok eL rfl) fun μ3 c3 z3 => i_rJ (s := (s.1, μ3)) (k := 1) hw rfl (by decide) ?_
  rw [see_1, hC, show ((aT A1).length : Int) = ((aT A).length : Int) - 1 by omega, if_pos (lg_m1 h6)]
  exact c_tail (h2.lk c3 z3) fun s' A' a b => hW s' A' a (Fs.m.tr b)
/-- the rounds -/
theorem c_loop (hL0 : LI s A) (hw0 : dh s iw = some (103, 60)) (hz0 : dh s iz = some (103, 60)) (hne : iw < iz) (hX : s.1.1.1 < 1000) (hQ : ∀ s', Fs s s' → s'.2 797 0 = 0 → Q 1 s') : d_Lw_law_l68 (jR iw) (jR iz) 0 s Q := by
  refine i_Lw_law_l68 (Inv := fun v7 s' => ∃ (k : Nat) (A : AS), v7 = (k : Int) ∧ k ≤ 14 ∧ LI s' A ∧ Fs s s') (fun v7 _ => 14 - v7.toNat) ?_ 0 s ⟨0, A, rfl, by omega, hL0, Fs.rfl'⟩
  rintro _ s1 ⟨k, A, rfl, hk, hL, f1⟩ W hWW
  obtain ⟨hI, hA, h0, hl, hT1, hR1⟩ := id hL
  have hT6 : (aT A).length ≤ 6 := hA.t6
  have hw1 : dh s1 iw = some (103, 60) := by rw [f1.dh]; exact hw0
  have hz1 : dh s1 iz = some (103, 60) := by rw [f1.dh]; exact hz0
  unfold d_Lw_law_b68
  refine ite_c (fun q14 => ?_) fun _ => ?_
  · refine c_cell (k := 11 + k) (by rw [wr_s (by omega)]; omega) (by rw [f1.2.1]; exact hX) fun v => ?_
    refine o_termCount hI hA h0 (g1_ok hl rfl) fun μ1 c1 z1 => ⟨by omega, o_termCount (s := (s1.1, μ1)) c1 hA z1 (g1_ok hl rfl) fun μ2 c2 z2 => ⟨by omega, ?_⟩⟩
    have ht := jrem7 (x := jushr v 5) (n := ((aT A).length : Int)) (by omega)
    have hu := jrem7 (x := jushr v 8) (n := ((aT A).length : Int)) (by omega)
    generalize jrem (jand (jushr v 5) 7) ((aT A).length : Int) = t at ht ⊢
    generalize jrem (jand (jushr v 8) 7) ((aT A).length : Int) = u at hu ⊢
    have hL2 : LI (s1.1, μ2) A := hL.mk' c2 z2
    refine o_termSize (s := (s1.1, μ2)) c2 hA z2 (hL2.t1 ht) fun μ3 c3 z3 => ?_
    have hokt := hL.okt ht
    have htl : 0 < ((aT A).getD t.toNat []).length := wl_len (d := 0) hokt.1
    have ht80 : ((aT A).getD t.toNat []).length ≤ 80 := hokt.2.1
    have hp := jrem15 (x := jushr v 11) (n := (((aT A).getD t.toNat []).length : Int)) (by omega)
    generalize jrem (jand (jushr v 11) 15) (((aT A).getD t.toNat []).length : Int) = p at hp ⊢
    refine ⟨by omega, c_sees (s := (s1.1, μ3)) (A := A) (hL.mk' c3 z3) hw1 fun s4 o f4 hL4 hw4 => ?_⟩
    have F4 : Fs s s4 := f1.tr (Fs.m.tr f4.fs)
    have hz4 : dh s4 iz = some (103, 60) := by rw [F4.dh]; exact hz0
    have hsl := jand1 (x := v)
    generalize jand v 1 = sl at hsl ⊢
    have hs : sp_saveState (wO A o) sl = (0, ((aT A).length : Int), svA (wO A o) sl) := by
      unfold sp_saveState
      exact g4_s hl (decide_eq_true ⟨by omega, by omega⟩) rfl
    have hok : AOK (svA (wO A o) sl) := by
      have := saveState_ok (v1 := sl) hL4.2.1
      rw [hs] at this
      exact this
    refine o_saveState (s := s4) hL4.1 hL4.2.1 hL4.2.2.1 hs fun μ5 c5 z5 => i_R (i_rJ (s := (s4.1, μ5)) (k := 1) hw4 rfl (by decide) ?_)
    rw [show see (aS A) (aC A) 1 = (Int32.ofInt ((aT A).length : Int)).toInt64 from rfl, if_pos (lg_self _)]
    have hL5 : LI (s4.1, μ5) (svA (wO A o) sl) := ⟨c5, hok, z5, hl, hT1, hR1⟩
    have hsA : slA (svA (wO A o) sl) sl = some (aC A) := by
      unfold slA svA
      rcases hsl with rfl | rfl
      · rfl
      · rfl
    refine c_isWhole (s := (s4.1, μ5)) hL5 (t := t) (u := u) ht hu fun μ6 hL6 => ?_
    rw [if_neg (by decide)]
    have hT : TI (s4.1, μ6) iw iz sl (aC A) (svA (wO A o) sl) := ⟨hL6, hsA, ⟨hR1, hT1⟩, hw4, hz4, hne, hsl⟩
    have hW : ∀ s' A', LI s' A' → Fs (s4.1, μ6) s' → W (wr ((k : Int) + 1)) s' := fun s' A' a b => by
      rw [show wr ((k : Int) + 1) = ((k + 1 : Nat) : Int) by rw [wr_s (by omega)]; omega]
      exact hWW _ _ ⟨k + 1, A', rfl, by omega, a, F4.tr (Fs.m.tr b)⟩ (by omega)
    exact ite_c (fun _ => c_br1 hT ht hW) fun _ => ite_c (fun _ => c_br2 hT ht hW) fun _ => ite_c (fun _ => c_br3 hT ht hW) fun _ => ite_c (fun _ => c_br4 hT rfl ht hp hW) fun _ => ite_c (fun _ => c_br5 hT ht hu hp hW) fun _ => ite_c (fun _ => c_br6 hT ht hp hW) fun _ => ite_c (fun _ => c_br7 hT hW) fun _ => c_br8 hT rfl ht hW
  · refine o_unjoinedPairs hI hA h0 (g1_ok hl rfl) fun μ1 c1 z1 => o_criticalPairCount (s := (s1.1, μ1)) c1 hA z1 (g1_ok hl rfl) fun μ2 c2 z2 => ?_
    have := ujn_le (aR A) (prs (aR A))
    rw [if_neg (by omega)]
    exact hQ _ (f1.tr Fs.m) z2
end L97f
