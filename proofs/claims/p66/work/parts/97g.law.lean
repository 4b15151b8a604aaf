/-! THE LAW: all of it -/
section L97g
variable {W : Nat → Prop} {c w : Nat} {s s1 : LSt} {A0 : AS} {i k n t a b d ir it aw ar m : Nat} {v x : JV} {L : List Int}
theorem Fm.cnt (h : Fm W c w s s1) : s1.1.2.2.1 ≤ s.1.2.2.1 + c ∧ s1.1.2.2.2 ≤ s.1.2.2.2 + w := by
  obtain ⟨t, -, h2, h3, h4, -⟩ := h
  rw [h4]
  exact ⟨Nat.add_le_add_left h2 _, Nat.add_le_add_left h3 _⟩
theorem isSys.ft (h : isSys s d ir it aw) (hf : Ft m s s1) (hm : dh s m = some (100, 7)) : isSys s1 d ir it aw := by
  obtain ⟨h1, h2, h3, h4, h5⟩ := h
  have e := hf.2.2.2 d (by
    rintro rfl
    rw [h1] at hm
    cases hm)
  exact ⟨by rw [hf.dh]; exact h1, by rw [e]; exact h2, by rw [e]; exact h3, by rw [e]; exact h4, by rw [hf.dh]; exact h5⟩
theorem isAL.ft {f : Nat → JV} (h : isAL s i a n f) (hf : Ft m s s1) (hm : dh s m = some (100, 7)) (hn : 1 ≤ n) : isAL s1 i a n f := by
  obtain ⟨h1, h2, h3, h4, h5, h6⟩ := h
  have ha : dh s a = some (199, 10) ∧ n ≤ 10 := by
    rcases h5 with ⟨e, -⟩ | h5
    · omega
    · exact h5
  have e := hf.2.2.2 i (by
    rintro rfl
    rw [h1] at hm
    cases hm)
  have e' := hf.2.2.2 a (by
    rintro rfl
    rw [ha.1] at hm
    cases hm)
  exact ⟨by rw [hf.dh]; exact h1, by rw [e]; exact h2, by rw [e]; exact h3, by rw [e]; exact h4, Or.inr ⟨by rw [hf.dh]; exact ha.1, ha.2⟩, fun k hk => by rw [e']; exact h6 k hk⟩
theorem c_law {Q : Int → LSt → Prop} (hI : CI s.2 A0) (hA : AOK A0) (h0 : s.2 797 0 = 0) (hB : aB A0 = []) (hd : (dS s).length ≤ 1000) (hX : s.1.1.1 < 1000) (hQ : ∀ s' : LSt, s'.1.2.2.1 ≤ s.1.2.2.1 + 41000 → s'.1.2.2.2 ≤ s.1.2.2.2 + 125000 → s'.2 797 0 = 0 → Q 1 s') : d_Lw_law s Q := by
  unfold d_Lw_law
  have hb0 : dn s ≤ 2000 := by unfold dn; omega
  refine c_row (k := 7) (by omega) rfl (by decide) fun s1 i1 f1 hm1 hv1 hi1 hi1' => ?_
  have l1 := f1.len
  have d1 := f1.dn
  refine c_sys (by rw [f1.scr]; exact hX) (by omega) fun s2 d ir it aw ar tr fr ft Rs Ts f2 hS hR1 hR3 hT2 hT3 => ?_
  have l2 := f2.len
  have d2 := f2.dn
  have hm2 := f2.dh hm1
  have hv2 : dV s2 i1 = dV s1 i1 := f2.dV hm1 id
  refine c_cell (k := 10) rfl (by rw [f2.scr, f1.scr]; exact hX) fun z => ?_
  refine c_text hS hR1 hR3 hT2 hT3 (by omega) fun s3 j b Ss Us E f3 hSs hokR hUs hokT hlen hstr hsy hal hE => ?_
  have l3 := f3.len
  have d3 := f3.dn
  have hm3 := f3.dh hm2
  have hi1W : ¬ (i1 = it ∨ i1 = tr ∨ i1 = aw) := by
    rintro (e | e | e)
    · have h9 := hS.2.2.1.1
      rw [← e, hm2] at h9
      cases h9
    · rcases hS.2.2.1.2.2.2.2.1 with ⟨e9, -⟩ | ⟨e9, -⟩
      · omega
      · rw [← e, hm2] at e9
        cases e9
    · have h9 := hS.1.2.2.2.2
      rw [← e, hm2] at h9
      cases h9
  have hv3 : dV s3 i1 = dV s1 i1 := (f3.dV hm2 hi1W).trans hv2
  have hM : isM s3 i1 [] 0 := by
    refine ⟨hm3, ?_, ?_, by decide, fun _ => 0, fun q _ => ?_, fun q hq => absurd hq (by simp)⟩
    · rw [hv3, hv1]
      rfl
    · rw [hv3, hv1]
      rfl
    · rw [hv3, hv1]
  have hmem : s3.2 = s.2 := by rw [f3.mem, f2.mem, f1.mem]
  have hd3 : dn s3 ≤ 1000000 := by omega
  refine c_told (A0 := A0) hstr hM hB (by rw [hmem]; exact hI) hA (by rw [hmem]; exact h0) hlen hd3 fun s4 Bl f4 hBl hM4 hI4 hA4 h04 hlB => ?_
  generalize hL : txT Ss Us E = L at hlen hstr hI4 hA4 hlB
  have hr : ∀ r, r ∈ Rs → 0 ≤ r.1.getD 0 0 ∧ ∀ c, c ∈ r.2 → c < 0 → c ∈ r.1 := by
    intro r hr
    obtain ⟨q, hq, hqe⟩ := List.getElem_of_mem hr
    obtain ⟨_, _, _, _, _, hroot, hvar⟩ := hS.2.2.2.1 q hq
    have e : Rs.getD q ([], []) = r := by
      rw [List.getD_eq_getElem?_getD, List.getElem?_eq_getElem hq, ← hqe]
      rfl
    rw [e] at hroot hvar
    refine ⟨?_, hvar⟩
    obtain ⟨X, hX' | hX'⟩ := hroot
    · rw [hX']
      exact (by decide : (0 : Int) ≤ 5)
    · rw [hX']
      exact (by decide : (0 : Int) ≤ 2)
  obtain ⟨ts, hprs, htl⟩ := prs_text (Bl := []) hSs hokR hR3 hr hUs hokT hT2 hT3 hE (fun z hz => absurd hz (by simp))
  rw [List.append_nil, hL] at hprs
  have hs : sp_parseSystem (wB A0 (L ++ Bl)) (L.length : Int) = (0, (Rs.length : Int), pNew (wB A0 (L ++ Bl)) (sy4, (Rs, ts))) := by
    unfold sp_parseSystem
    rw [if_neg (show ¬ ¬ (0 ≤ (L.length : Int) ∧ (L.length : Int) ≤ ((aB (wB A0 (L ++ Bl))).length : Int)) by
      rw [wB_aB, List.length_append]
      omega), wB_aB, Int.toNat_natCast, List.take_left, hprs]
  have hok : AOK (pNew (wB A0 (L ++ Bl)) (sy4, (Rs, ts))) := by
    have := parse_ok (v := (L.length : Int)) hA4
    rw [hs] at this
    exact this
  refine o_parseSystem hI4 hA4 h04 hs fun μ5 c5 z5 => ?_
  have hsy4 := hsy.ft f4 hm3
  have hal4 := hal.ft f4 hm3 hR1
  refine i_R (i_fV (s := (s4.1, μ5)) hsy4.1 (by decide) hsy4.2.1 rfl (i_R ⟨i_rcv (s := (s4.1, μ5)) hal4.1, c_AL_size (s := (s4.1, μ5)) hal4 ?_⟩))
  rw [if_pos rfl]
  have l4 : (dS s4).length = (dS s3).length := by rw [f4.1]
  refine c_row (s := (s4.1, μ5)) (k := 60) (by show (dS s4).length < _; omega) rfl (by decide) fun s6 iw f6 hw6 _ hi6 hi6' => ?_
  have l6 : (dS s6).length ≤ (dS s4).length + 1 := f6.len
  refine c_row (k := 60) (by omega) rfl (by decide) fun s7 iz f7 hz7 _ hi7 hi7' => ?_
  have hmem7 : s7.2 = μ5 := by rw [f7.mem, f6.mem]
  refine c_loop (A := pNew (wB A0 (L ++ Bl)) (sy4, (Rs, ts))) ⟨by rw [hmem7]; exact c5, hok, by rw [hmem7]; exact z5, rfl, ?_, ?_⟩ (f7.dh hw6) hz7 (by omega) ?_ fun s' fs h9 => hQ s' ?_ ?_ h9
  · show 1 ≤ ts.length
    omega
  · exact hR1
  · have : s7.1.1 = s.1.1 := by
      rw [f7.scr, f6.scr]
      show s4.1.1 = s.1.1
      rw [f4.2.1, f3.scr, f2.scr, f1.scr]
    rw [this]
    exact hX
  · rw [fs.2.2]
    have a1 := f1.cnt
    have a2 := f2.cnt
    have a3 := f3.cnt
    have a4 : s4.1.2.2 = s3.1.2.2 := f4.2.2.1
    have a6 : s6.1.2.2.1 ≤ s4.1.2.2.1 + 1 := f6.cnt.1
    have a7 := f7.cnt
    rw [a4] at a6
    omega
  · rw [fs.2.2]
    have a1 := f1.cnt
    have a2 := f2.cnt
    have a3 := f3.cnt
    have a4 : s4.1.2.2 = s3.1.2.2 := f4.2.2.1
    have a6 : s6.1.2.2.2 ≤ s4.1.2.2.2 + 60 := f6.cnt.2
    have a7 := f7.cnt
    rw [a4] at a6
    omega
end L97g
