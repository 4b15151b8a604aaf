/-! CALLS THAT CHANGE: the class remembers, its terms and rules anew -/
def sC (A : AS) (c : Cf) : AS := ((A.1.1, A.1.2.1, c), A.2)
theorem okc_fit {ars : List Nat} {c : Cf} (h : okc ars c) : fitr c.1 ∧ fitt c.2 := ⟨fun r hr => ⟨(h.2.2.1 r hr).1.2.1, (h.2.2.1 r hr).2.1.2.1⟩, fun T hT => (h.2.2.2 T hT).2.1⟩
theorem getD_cons {α : Type} {x d : α} {l : List α} {i : Nat} : (x :: l).getD i d = if i = 0 then x else l.getD (i - 1) d := by
  cases i with
  | zero => rw [if_pos rfl]; rfl
  | succ i => rw [if_neg (by omega)]; rfl
section S53
variable {μ μ' : Mem} {A : AS}
theorem hc_rt {k : Nat} (hk : k < 8) : rt (hc k) = 7 := rt_st.2.2.2.2 k hk
theorem CI.cur (hI : CI μ A) : Cst μ 5 (aC A) := hI.2.2.1
theorem c_historyAt {k : Nat} {Q : Nat → Prop} (hk : k < 8) (h : Q (hc k)) : d_History_at (k : Int) μ Q := by
  unfold d_History_at
  rw [if_neg (by omega), if_pos (by omega)]
  refine ⟨by omega, ?_⟩
  rw [Int.toNat_natCast, show 248 + (1 + 52 * k) = hc k by unfold hc; omega]
  exact h
theorem c_remember {Q : Mem → Prop} (hI : CI μ A) (hA : AOK A) (h : ∀ μ', CI μ' (wC A (aC A)) → μ' 139 0 = 1 → (∀ b, b < 139 ∨ (140 ≤ b ∧ b < 247) ∨ 665 ≤ b → μ' b = μ b) → Q μ') : d_OB_remember μ Q := by
  unfold d_OB_remember d_History_keep
  obtain ⟨h1, hsp, nw, hnw, h2, hst⟩ := hI.2.2.2.2.2.2.2
  have hl8 : (aH A).length ≤ 8 := hA.2.2.2.1
  obtain ⟨hfr, hft⟩ := okc_fit hA.2.1
  -- the newest place
  have main : ∀ n1 : Nat, n1 < 8 → (n1 = nw + 1 ∨ (n1 = 0 ∧ nw = 7)) → d_History_keep_j22 5 (n1 : Int) μ (fun μ2 => Q (mup μ2 139 0 1)) := by
    intro n1 hn1 hnn
    unfold d_History_keep_j22
    have e0 : mup μ 247 1 (n1 : Int) 247 0 = ((aH A).length : Int) := by rw [mup_k (by decide)]; exact h1
    rw [e0, wr_id (by omega) (by omega)]
    refine c_Math_min fun z hz hz1 hz2 => ?_
    obtain ⟨m, rfl⟩ : ∃ m : Nat, z = m := ⟨z.toNat, by omega⟩
    have em : m = (aH A).length + 1 ∨ (m = 8 ∧ (aH A).length = 8) := by omega
    generalize hμ1 : mup (mup μ 247 1 (n1 : Int)) 247 0 (m : Int) = μ1
    have r1 : ∀ b, b ≠ 247 → μ1 b = μ b := fun b hb => by rw [← hμ1, mup_r hb, mup_r hb]
    have s1 : μ1 247 1 = (n1 : Int) := by rw [← hμ1, mup_k (by decide), mup_s]
    have s0 : μ1 247 0 = (m : Int) := by rw [← hμ1, mup_s]
    rw [s1]
    refine c_historyAt hn1 ?_
    have sp1 : ∀ k, k < 8 → SP μ1 (hc k) := fun k hk => (hsp k hk).fr fun b g1 g2 => r1 b (by unfold hc at g1; omega)
    have c1 : Cst μ1 5 (aC A) := hI.cur.fr rt_st.1 fun b g1 g2 => r1 b (by omega)
    refine c_State_copyFrom (hc_rt hn1) rt_st.1 (by unfold hc; omega) (sp1 n1 hn1) c1.1 c1.2.1 c1.2.2 hfr hft fun μ2 p2 q2 t2 hF2 => ?_
    have rows : ∀ b, b < 247 ∨ 665 ≤ b → μ2 b = μ b := fun b hb => by rw [hF2 b (by unfold hc; omega), r1 b (by omega)]
    have s12 : μ2 247 1 = (n1 : Int) := by rw [hF2 247 (by unfold hc; omega)]; exact s1
    have s02 : μ2 247 0 = (m : Int) := by rw [hF2 247 (by unfold hc; omega)]; exact s0
    have rows' : ∀ b, b ≠ 139 → mup μ2 139 0 1 b = μ2 b := fun b hb => mup_r hb
    refine h _ ?_ mup_s (fun b hb => by rw [rows' b (by omega)]; exact rows b (by omega))
    obtain ⟨i1, i2, i3, ⟨i4, i5⟩, ⟨i6, i7⟩, i8, i9, i10⟩ := hI
    have q : ∀ b, b ≠ 139 → b < 247 ∨ 665 ≤ b → mup μ2 139 0 1 b = μ b := fun b g1 g2 => by rw [rows' b g1, rows b g2]
    refine ⟨by rw [q 0 (by omega) (by omega)]; exact i1, i2.fr fun b g1 g2 => q b (by omega) (by omega), Cst.fr (c := aC A) i3 rt_st.1 fun b g1 g2 => q b (by omega) (by omega), ⟨i4.fr rt_st.2.1 (by rw [q 0 (by omega) (by omega)]) fun b g1 g2 => q b (by omega) (by omega), i5.fr rt_st.2.2.1 (by rw [q 0 (by omega) (by omega)]) fun b g1 g2 => q b (by omega) (by omega)⟩, ⟨i6.fr (q _ (by omega) (by omega)) (q _ (by omega) (by omega)), i7.fr fun b g1 g2 => q b (by omega) (by omega)⟩, Or.inl mup_s, i9.fr (q _ (by omega) (by omega)) (q _ (by omega) (by omega)), ?_⟩
    have hlen : (aH (wC A (aC A))).length = m := by
      show ((aC A :: aH A).take 8).length = m
      rw [List.length_take, List.length_cons]
      omega
    refine ⟨by rw [rows' _ (by omega), hlen]; exact s02, fun k hk => ?_, n1, hn1, by rw [rows' _ (by omega)]; exact s12, fun i hi => ?_⟩
    · by_cases e : k = n1
      · subst e
        exact p2.fr fun b g1 g2 => rows' b (by unfold hc at g1; omega)
      · exact (sp1 k hk).fr fun b g1 g2 => by
          have g3 : b < hc n1 ∨ hc n1 + 52 ≤ b := by unfold hc at *; omega
          rw [rows' b (by unfold hc at g1; omega), hF2 b g3]
    · rw [hlen] at hi
      have eg : (aH (wC A (aC A))).getD i ([], []) = if i = 0 then aC A else (aH A).getD (i - 1) ([], []) := by
        show ((aC A :: aH A).take 8).getD i ([], []) = _
        rw [getD_take (by omega), getD_cons]
      rw [eg]
      by_cases e : i = 0
      · subst e
        rw [if_pos rfl, show (n1 + 8 - 0) % 8 = n1 by omega]
        exact (Cst.fr (c := aC A) ⟨p2, q2, t2⟩ (hc_rt hn1) fun b g1 g2 => rows' b (by unfold hc at g1; omega)).2
      · rw [if_neg e, show (n1 + 8 - i) % 8 = (nw + 8 - (i - 1)) % 8 by omega]
        have hk : (nw + 8 - (i - 1)) % 8 < 8 := Nat.mod_lt _ (by decide)
        have hne : (nw + 8 - (i - 1)) % 8 ≠ n1 := by omega
        obtain ⟨g1, g2⟩ := hst (i - 1) (by omega)
        generalize (nw + 8 - (i - 1)) % 8 = k at *
        exact (Cst.fr (c := (aH A).getD (i - 1) ([], [])) ⟨hsp k hk, g1, g2⟩ (hc_rt hk) fun b g3 g4 => by
          have g5 : b < hc n1 ∨ hc n1 + 52 ≤ b := by unfold hc at *; omega
          have g6 : b ≠ 247 ∧ b ≠ 139 := by unfold hc at g3; omega
          rw [rows' b g6.2, hF2 b g5, r1 b g6.1]).2
  rw [h2, wr_id (by omega) (by omega)]
  by_cases k : nw + 1 < 8
  · rw [if_pos (by omega), show (nw : Int) + 1 = ((nw + 1 : Nat) : Int) by omega]
    exact main (nw + 1) k (Or.inl rfl)
  · rw [if_neg (by omega)]
    exact main 0 (by omega) (Or.inr ⟨rfl, by omega⟩)
/-- terms anew -/
theorem CI.setT {ts : List (List Int)} (hI : CI μ A) (hT : ST μ' 5 ts) (h0 : μ' 5 0 = μ 5 0) (hf : ∀ b, b ≠ 5 → b < 45 ∨ (72 ≤ b ∧ b < 769) → μ' b = μ b) : CI μ' (sC A (aR A, ts)) := by
  obtain ⟨i1, i2, ⟨p, r, t⟩, ⟨i4, i5⟩, ⟨i6, i7⟩, i8, i9, i10⟩ := hI
  exact ⟨by rw [hf 0 (by omega) (by omega)]; exact i1, i2.fr fun b g1 g2 => hf b (by omega) (by omega), ⟨p.fr fun b g1 g2 => hf b (by omega) (by omega), r.fr p rt_st.1 h0 fun b g1 g2 => hf b (by omega) (by omega), hT⟩, ⟨i4.fr rt_st.2.1 (by rw [hf 0 (by omega) (by omega)]) fun b g1 g2 => hf b (by omega) (by omega), i5.fr rt_st.2.2.1 (by rw [hf 0 (by omega) (by omega)]) fun b g1 g2 => hf b (by omega) (by omega)⟩, ⟨i6.fr (hf _ (by omega) (by omega)) (hf _ (by omega) (by omega)), i7.fr fun b g1 g2 => hf b (by omega) (by omega)⟩, i8.fr fun b g1 g2 => hf b (by omega) (by omega), i9.fr (hf _ (by omega) (by omega)) (hf _ (by omega) (by omega)), i10.fr fun b g1 g2 => hf b (by omega) (by omega)⟩
/-- rules anew, with the pairs stale -/
theorem CI.setR {rs : List Rl2} (hI : CI μ A) (hP : SP μ' 5) (hR : SR μ' 5 rs) (hs : μ 139 0 = 1) (h1 : μ' 5 1 = μ 5 1) (hf : ∀ b, b ≠ 5 → b < 5 ∨ (45 ≤ b ∧ b < 57) ∨ (72 ≤ b ∧ b < 769) → μ' b = μ b) : CI μ' (sC A (rs, aT A)) := by
  obtain ⟨i1, i2, ⟨p, r, t⟩, ⟨i4, i5⟩, ⟨i6, i7⟩, i8, i9, i10⟩ := hI
  exact ⟨by rw [hf 0 (by omega) (by omega)]; exact i1, i2.fr fun b g1 g2 => hf b (by omega) (by omega), ⟨hP, hR, t.fr h1 fun b g1 g2 => hf b (by omega) (by omega)⟩, ⟨i4.fr rt_st.2.1 (by rw [hf 0 (by omega) (by omega)]) fun b g1 g2 => hf b (by omega) (by omega), i5.fr rt_st.2.2.1 (by rw [hf 0 (by omega) (by omega)]) fun b g1 g2 => hf b (by omega) (by omega)⟩, ⟨i6.fr (hf _ (by omega) (by omega)) (hf _ (by omega) (by omega)), i7.fr fun b g1 g2 => hf b (by omega) (by omega)⟩, Or.inl (by rw [hf 139 (by omega) (by omega)]; exact hs), i9.fr (hf _ (by omega) (by omega)) (hf _ (by omega) (by omega)), i10.fr fun b g1 g2 => hf b (by omega) (by omega)⟩
/-- a term becomes what lies in another row -/
theorem c_setTerm {i s : Nat} {Y : List Int} {Q : Mem → Prop} (hI : CI μ A) (hi : i < (aT A).length) (h6 : (aT A).length ≤ 6) (hY : IsT μ s Y) (hs : rt s = 8) (hne : s < 45 ∨ 57 ≤ s) (h80 : Y.length ≤ 80)
    (h : ∀ μ', CI μ' (sC A (aR A, (aT A).set i Y)) → IsT μ' (tc 5 i) Y → (∀ b, b < 45 ∨ 57 ≤ b → μ' b = μ b) → Q μ') : d_Term_copyFrom (tc 5 i) s μ Q := by
  have q1 := tc_eq 5 i
  obtain ⟨t1, t2⟩ := tc_rt rt_st.1 (i := i) (by omega)
  refine c_Term_copyFrom hY t1 hs (by omega) (by rw [t2]; exact h80) fun μ1 hX hF => ?_
  have hTs := hI.2.2.1.2.2
  refine h _ (hI.setT ⟨by rw [hF 5 (by omega), List.length_set]; exact hTs.1, by rw [List.length_set]; exact h6, fun k hk => ?_⟩ (by rw [hF 5 (by omega)]) fun b g1 g2 => hF b (by omega)) hX fun b hb => hF b (by omega)
  rw [List.length_set] at hk
  have q2 := tc_eq 5 k
  rw [getD_set hi]
  by_cases e : k = i
  · subst e
    rw [if_pos rfl]
    exact hX
  · rw [if_neg e]
    exact (hTs.2.2 k hk).frR hF (by omega)
end S53
/-! what is answered -/
def g3 (ok idx third : Bool) (A : AS) (r : Int) (A' : AS) : Int × Int × AS := if ok = false then (1, 0, A) else if idx = false then (2, 0, A) else if third = false then (3, 0, A) else (0, r, A')
def WC (μ : Mem) (sp : Int × Int × AS) (Q : Int → Mem → Prop) : Prop := ∀ μ', CI μ' sp.2.2 → FrC μ μ' → (sp.1 = 0 → μ' 795 0 = l64 sp.2.1 ∧ μ' 797 0 = μ 797 0) → Q sp.1 μ'
def MC (μ : Mem) (sp : Int × Int × AS) (Q : Int → Mem → Prop) : Prop := ∀ μ' b, MI μ' sp.2.2 → FrM μ μ' → μ' 772 0 = sp.1 → (sp.1 = 0 → b = sp.2.1) → Q b μ'
section G53
variable {μ μ1 : Mem} {A A' : AS} {Q : Int → Mem → Prop} {b2 b3 : Bool} {r z : Int}
/-- rows of the reference and beyond stay -/
def Fz (μ μ' : Mem) : Prop := ∀ b, 772 ≤ b → μ' b = μ b
theorem Fz.rfl' : Fz μ μ := fun _ _ => rfl
theorem Fz.tr {μ2 : Mem} (h1 : Fz μ μ1) (h2 : Fz μ1 μ2) : Fz μ μ2 := fun b hb => by rw [h2 b hb, h1 b hb]
theorem Fq.fz (h : Fq μ μ1) : Fz μ μ1 := fun b hb => h b (by omega)
theorem Fz.frCt (h : Fz μ μ1) : FrC μ (thr μ1) := by
  unfold thr
  refine ⟨fun b h1 h2 => by rw [mup_r (by omega)]; exact h b (by omega), ?_, ?_⟩
  · rw [mup_s, h 797 (by omega)]; omega
  · rw [mup_s, h 797 (by omega)]; omega
theorem WC.t1 (h : WC μ (g3 false b2 b3 A r A') Q) (hI : CI μ1 A) (hf : Fz μ μ1) : Q 1 (thr μ1) := h _ hI.thr hf.frCt (fun q => absurd (show (1 : Int) = 0 from q) (by decide))
theorem WC.t2 (h : WC μ (g3 true false b3 A r A') Q) (hI : CI μ1 A) (hf : Fz μ μ1) : Q 2 (thr μ1) := h _ hI.thr hf.frCt (fun q => absurd (show (2 : Int) = 0 from q) (by decide))
theorem WC.ok (h : WC μ (g3 true true true A r A') Q) (hI : CI μ1 A') (hf : Fz μ μ1) (hz : z = l64 r) : Q 0 (mup μ1 795 0 z) :=
  h _ (hI.mup (by decide)) ⟨fun b h1 h2 => by rw [mup_r (by omega)]; exact hf b (by omega), by rw [mup_r (by omega), hf 797 (by omega)]; omega, by rw [mup_r (by omega), hf 797 (by omega)]; omega⟩ (fun _ => ⟨by first | (rw [mup_s]; done) | (rw [mup_s]; exact hz), by rw [mup_r (by omega), hf 797 (by omega)]⟩)
theorem MC.t1 (h : MC μ (g3 false b2 b3 A r A') Q) (hI : MI μ1 A) (hg : Gm qmR qF0 μ μ1) : Q z (mup μ1 772 0 1) :=
  h _ z (hI.gq (Gm.upF.mono (by decide) (by decide))) (((hg.tr (Gm.upF (k := 0)) (r := qmR) (f := qmF) (by decide) (by decide) (by decide) (by decide))).frMq) mup_s (fun q => absurd (show (1 : Int) = 0 from q) (by decide))
theorem MC.t2 (h : MC μ (g3 true false b3 A r A') Q) (hI : MI μ1 A) (hg : Gm qmR qF0 μ μ1) : Q z (mup μ1 772 0 2) :=
  h _ z (hI.gq (Gm.upF.mono (by decide) (by decide))) (((hg.tr (Gm.upF (k := 0)) (r := qmR) (f := qmF) (by decide) (by decide) (by decide) (by decide))).frMq) mup_s (fun q => absurd (show (2 : Int) = 0 from q) (by decide))
theorem MC.ok (h : MC μ (g3 true true true A r A') Q) (hI : MI μ1 A') (hf : FrM μ μ1) (h0 : μ1 772 0 = 0) (hz : z = r) : Q z μ1 :=
  h _ z hI hf h0 (fun _ => hz)
end G53
/-! the reference remembers, stores -/
section M53
variable {μ μ' : Mem} {A : AS} {f g : Nat → Int} {o o' : Nat} {sy : Sy} {c : Cf}
theorem Sg.cp {L : List Int} (h : Sg f o L) (hg : ∀ k, k < L.length → g (o' + k) = f (o + k)) : Sg g o' L := fun i hi => by rw [hg i hi]; exact h i hi
theorem MNw.cp (h : MNw f o sy c) (hs : syok sy) (hc : okc (arS sy) c) (hg : ∀ k, k < 709 → g (o' + k) = f (o + k)) : MNw g o' sy c := by
  obtain ⟨h1, h2, h3, h4, h5, h6⟩ := h
  have hs1 := hs.1
  have hr6 := hc.1
  have ht6 := hc.2.1
  refine ⟨by rw [show o' = o' + 0 from rfl, hg 0 (by omega)]; exact h1, by rw [hg 1 (by omega)]; exact h2, by rw [hg 2 (by omega)]; exact h3, fun i hi => ?_, fun i hi => ?_, fun i hi => ?_⟩
  · obtain ⟨k1, k2, k3⟩ := h4 i hi
    obtain ⟨_, _, s1, _⟩ := hs.2 _ (getD_mem (d := (0, [])) hi)
    rw [show o' + 3 + 8 * i = o' + (3 + 8 * i) by omega, show o' + 4 + 8 * i = o' + (4 + 8 * i) by omega, hg _ (by omega), hg _ (by omega), show o + (3 + 8 * i) = o + 3 + 8 * i by omega, show o + (4 + 8 * i) = o + 4 + 8 * i by omega]
    exact ⟨k1, k2, k3.cp fun k hk => by rw [show o' + 5 + 8 * i + k = o' + (5 + 8 * i + k) by omega, hg _ (by omega)]; congr 1; omega⟩
  · obtain ⟨k1, k2, k3, k4⟩ := h5 i hi
    have hr := hc.2.2.1 _ (getD_mem (d := ([], [])) hi)
    have l1 := hr.1.2.1
    have l2 := hr.2.1.2.1
    rw [show o' + 67 + 26 * i = o' + (67 + 26 * i) by omega, show o' + 68 + 26 * i = o' + (68 + 26 * i) by omega, hg _ (by omega), hg _ (by omega), show o + (67 + 26 * i) = o + 67 + 26 * i by omega, show o + (68 + 26 * i) = o + 68 + 26 * i by omega]
    exact ⟨k1, k2, k3.cp fun k hk => by rw [List.length_map] at hk; rw [show o' + 69 + 26 * i + k = o' + (69 + 26 * i + k) by omega, hg _ (by omega)]; congr 1; omega, k4.cp fun k hk => by rw [List.length_map] at hk; rw [show o' + 81 + 26 * i + k = o' + (81 + 26 * i + k) by omega, hg _ (by omega)]; congr 1; omega⟩
  · obtain ⟨k1, k2⟩ := h6 i hi
    have l1 := (hc.2.2.2 _ (getD_mem (d := []) hi)).2.1
    rw [show o' + 223 + 81 * i = o' + (223 + 81 * i) by omega, hg _ (by omega), show o + (223 + 81 * i) = o + 223 + 81 * i by omega]
    exact ⟨k1, k2.cp fun k hk => by rw [List.length_map] at hk; rw [show o' + 224 + 81 * i + k = o' + (224 + 81 * i + k) by omega, hg _ (by omega)]; congr 1; omega⟩
/-- the reference's row with terms anew -/
theorem MNw.setT {ts : List (List Int)} (h : MNw f 0 sy c) (hs : syok sy) (hc : okc (arS sy) c) (h2 : g 2 = (ts.length : Int)) (hg : ∀ k, k < 223 → k ≠ 2 → g k = f k) (ht : ∀ i, i < ts.length → g (223 + 81 * i) = ((ts.getD i []).length : Int) ∧ Me g (224 + 81 * i) (ts.getD i [])) : MNw g 0 sy (c.1, ts) := by
  obtain ⟨h1, h2', h3, h4, h5, h6⟩ := h
  have hs1 := hs.1
  have hr6 := hc.1
  refine ⟨by rw [hg 0 (by omega) (by omega)]; exact h1, by rw [hg (0 + 1) (by omega) (by omega)]; exact h2', h2, fun i hi => ?_, fun i hi => ?_, fun i hi => ?_⟩
  · obtain ⟨k1, k2, k3⟩ := h4 i hi
    obtain ⟨_, _, s1, _⟩ := hs.2 _ (getD_mem (d := (0, [])) hi)
    rw [hg _ (by omega) (by omega), hg _ (by omega) (by omega)]
    exact ⟨k1, k2, k3.cp fun k hk => hg _ (by omega) (by omega)⟩
  · have hi' : i < c.1.length := hi
    obtain ⟨k1, k2, k3, k4⟩ := h5 i hi
    have hr := hc.2.2.1 _ (getD_mem (d := ([], [])) hi)
    have l1 := hr.1.2.1
    have l2 := hr.2.1.2.1
    rw [hg _ (by omega) (by omega), hg _ (by omega) (by omega)]
    exact ⟨k1, k2, k3.cp fun k hk => by rw [List.length_map] at hk; exact hg _ (by omega) (by omega), k4.cp fun k hk => by rw [List.length_map] at hk; exact hg _ (by omega) (by omega)⟩
  · rw [Nat.zero_add]
    exact ht i hi
theorem MNw.setR {rs : List Rl2} (h : MNw f 0 sy c) (hs : syok sy) (hc : okc (arS sy) c) (h1' : g 1 = (rs.length : Int)) (hg : ∀ k, (k < 67 ∨ 223 ≤ k) → k ≠ 1 → g k = f k) (ht : ∀ i, i < rs.length → g (67 + 26 * i) = ((rs.getD i ([], [])).1.length : Int) ∧ g (68 + 26 * i) = ((rs.getD i ([], [])).2.length : Int) ∧ Me g (69 + 26 * i) (rs.getD i ([], [])).1 ∧ Me g (81 + 26 * i) (rs.getD i ([], [])).2) : MNw g 0 sy (rs, c.2) := by
  obtain ⟨h1, h2', h3, h4, h5, h6⟩ := h
  have hs1 := hs.1
  refine ⟨by rw [hg 0 (by omega) (by omega)]; exact h1, h1', by rw [hg (0 + 2) (by omega) (by omega)]; exact h3, fun i hi => ?_, fun i hi => ?_, fun i hi => ?_⟩
  · obtain ⟨k1, k2, k3⟩ := h4 i hi
    obtain ⟨_, _, s1, _⟩ := hs.2 _ (getD_mem (d := (0, [])) hi)
    rw [hg _ (by omega) (by omega), hg _ (by omega) (by omega)]
    exact ⟨k1, k2, k3.cp fun k hk => hg _ (by omega) (by omega)⟩
  · simp only [Nat.zero_add]
    exact ht i hi
  · obtain ⟨k1, k2⟩ := h6 i hi
    rw [hg _ (by omega) (by omega)]
    exact ⟨k1, k2.cp fun k hk => hg _ (by omega) (by omega)⟩
end M53

