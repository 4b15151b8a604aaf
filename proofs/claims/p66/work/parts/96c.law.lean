/-! THE LAW'S OWN METHODS: rules and terms by hand are made -/
/-- a root that is a symbol with arguments -/
def rootS (L : List Int) : Prop := ∃ X, L = 5 :: X ∨ L = 2 :: X
section L96c
variable {W : Nat → Prop} {c w : Nat} {s s1 : LSt} {i k n t a b d ir it aw ar : Nat} {v x : JV} {L : List Int}
theorem c_mk4 {dp kc : Nat} {zc : Int} {K : JV → LSt → Prop} (hz : zc = (kc : Int)) (hL : s.1.1.1 < 1000) (hl : (dS s).length < 890000) (hd : 0 < dp ∧ dp ≤ 3) (h : ∀ s' x L, Fm (fun _ => False) (1 + tsz dp) (1 + 3 * tsz dp) s s' → IsN (dp + 1) s' x L → rootS L → K x s') : nA s 100 1 (jI 0) (fun i s1 => d_Lw_cell (jR 1000000) zc s1 (fun r s2 => wA s2 i 100 0 (jI (jor r 4)) (fun s3 => d_Lw_tree 5 (jR i) (dp : Int) s3 K))) := by
  have ht : tsz dp ≤ 15 := by
    have : dp = 1 ∨ dp = 2 ∨ dp = 3 := by omega
    rcases this with rfl | rfl | rfl <;> decide
  refine c_row (k := 1) (by omega) rfl (by decide) fun s1 u f1 hu _ hi hi' => c_cell hz (by rw [f1.scr]; exact hL) fun r => i_wA (k := 0) hu rfl (by decide) ?_
  have l1 := f1.len
  refine c_tree dp 5 (by omega) (by omega) (by rw [dh_up]; exact hu) dV_s (by show (dS s1).length + _ ≤ _; omega) fun s2 x L f2 _ hN hr => h s2 x L ?_ hN (hr hd.1 jor4)
  have f3 : Fm (fun j => j = u) 1 1 s (upC s1 u 0 (jI (jor r 4))) := f1.tr (Fm.up (W := fun j => j = u) (c := 0) (w := 0) (Or.inl rfl)) (fun _ _ h => h.elim) (fun _ _ => id) (by omega) (by omega)
  exact f3.tr f2 (fun j hj e => by omega) (fun j hj e => by omega) (by omega) (by omega)
theorem c_mk0 {dp kc : Nat} {zc : Int} {K : JV → LSt → Prop} (hz : zc = (kc : Int)) (hL : s.1.1.1 < 1000) (hl : (dS s).length < 890000) (hd : 0 < dp ∧ dp ≤ 3) (h : ∀ s' x L, Fm (fun _ => False) (1 + tsz dp) (1 + 3 * tsz dp) s s' → IsN (dp + 1) s' x L → K x s') : nA s 100 1 (jI 0) (fun i s1 => d_Lw_cell (jR 1000000) zc s1 (fun r s2 => wA s2 i 100 0 (jI r) (fun s3 => d_Lw_tree 5 (jR i) (dp : Int) s3 K))) := by
  have ht : tsz dp ≤ 15 := by
    have : dp = 1 ∨ dp = 2 ∨ dp = 3 := by omega
    rcases this with rfl | rfl | rfl <;> decide
  refine c_row (k := 1) (by omega) rfl (by decide) fun s1 u f1 hu _ hi hi' => c_cell hz (by rw [f1.scr]; exact hL) fun r => i_wA (k := 0) hu rfl (by decide) ?_
  have l1 := f1.len
  refine c_tree dp 5 (by omega) (by omega) (by rw [dh_up]; exact hu) dV_s (by show (dS s1).length + _ ≤ _; omega) fun s2 x L f2 _ hN _ => h s2 x L ?_ hN
  have f3 : Fm (fun j => j = u) 1 1 s (upC s1 u 0 (jI r)) := f1.tr (Fm.up (W := fun j => j = u) (c := 0) (w := 0) (Or.inl rfl)) (fun _ _ h => h.elim) (fun _ _ => id) (by omega) (by omega)
  exact f3.tr f2 (fun j hj e => by omega) (fun j hj e => by omega) (by omega) (by omega)
/-- a node is put into a row of nodes -/
theorem i_wN {K : LSt → Prop} {z : Int} (h1 : dh s i = some (116, n)) (hz : z = (k : Int)) (hk : k < n) (hN : IsN t s v L) (h : K (upC s i k v)) : wV s i z v K := by
  subst hz
  obtain ⟨-, j, rfl, hj⟩ := hN.nl
  exact ⟨116, n, h1, by omega, by rw [Int.toNat_natCast]; exact hk, ⟨11, 3, hj, Or.inl ⟨rfl, rfl⟩⟩, by rw [Int.toNat_natCast]; exact h⟩
/-- a rule: a row of its two sides -/
def Rok (s : LSt) (v : JV) (p : List Int × List Int) : Prop := ∃ j, v = jR j ∧ dh s j = some (116, 2) ∧ IsN 3 s (dV s j 0) p.1 ∧ IsN 3 s (dV s j 1) p.2 ∧ rootS p.1 ∧ ∀ z, z ∈ p.2 → z < 0 → z ∈ p.1
theorem Rok.fm {p : List Int × List Int} (h : Rok s v p) (hf : Fm W c w s s1) (hW : ∀ i n, dh s i = some (11, n) ∨ dh s i = some (116, n) → ¬ W i) : Rok s1 v p := by
  obtain ⟨j, h1, h2, h3, h4, h5, h6⟩ := h
  have e := hf.dV h2 (hW _ _ (Or.inr h2))
  exact ⟨j, h1, hf.dh h2, by rw [e]; exact h3.fm hf fun i hi => hW _ _ (Or.inl hi), by rw [e]; exact h4.fm hf fun i hi => hW _ _ (Or.inl hi), h5, h6⟩
theorem c_j69 {l : Nat} {fr : Nat → JV} {zk : Int} {W16 : Int → LSt → Prop} {v2 : Int} {Q : JV → LSt → Prop} (hS : isSys s d ir it aw) (hr : isAL s ir ar k fr) (hk : k < 10) (hzk : zk = (k : Int)) (hL : s.1.1.1 < 1000) (hl : (dS s).length < 880000) (hN : IsN 3 s (jR l) L) (hrt : rootS L) (h : ∀ s' ar' row R, Fm (fun j => j = ir ∨ j = ar) 17 56 s s' → isAL s' ir ar' (k + 1) (fun j => if j = k then jR row else fr j) → (ar' = ar ∨ dn s ≤ ar') → Rok s' (jR row) (L, R) → W16 ((k + 1 : Nat) : Int) s') : d_Lw_sys_j69 (jR 1000000) (jR d) v2 zk (jR l) s W16 Q := by
  subst hzk
  obtain ⟨q1, q2, q3, q4, q5⟩ := hS
  have t2 : tsz 2 = 7 := rfl
  unfold d_Lw_sys_j69
  refine i_R (i_fV q1 (by decide) q2 rfl (c_row (k := 2) (by omega) rfl (by decide) fun s1 row f1 h1 _ hi1 hi1' => ?_))
  have N1 := hN.fm f1 fun _ _ => id
  have l1 := f1.len
  have d1 := f1.dn
  refine i_wN (k := 0) h1 rfl (by decide) N1 ?_
  have f2 : Fm (fun j => j = row) 0 0 s1 (upC s1 row 0 (jR l)) := Fm.up (Or.inl rfl)
  have h2 := f2.dh h1
  have v2' : dV (upC s1 row 0 (jR l)) row 0 = jR l := dV_s
  have N2 : IsN 3 (upC s1 row 0 (jR l)) (jR l) L := N1.fm f2 fun j hj e => by
    subst e
    rw [h1] at hj
    cases hj
  have l2 := f2.len
  have d2 := f2.dn
  generalize upC s1 row 0 (jR l) = s2 at *
  have g2 : Fm (fun j => j = row) 1 2 s s2 := f1.tr f2 (fun _ _ h => h.elim) (fun _ _ => id) (by omega) (by omega)
  refine c_mk0 (dp := 2) (kc := 4 + k) (by rw [wr_s (by omega)]; omega) (by rw [g2.scr]; exact hL) (by omega) (by decide) fun s3 y Y f3 hY => ?_
  have N3 := N2.fm f3 fun _ _ => id
  have l3 := f3.len
  have d3 := f3.dn
  refine c_closed 3 5 3 (by decide) (by decide) (by decide) (Or.inr hY) N3 (by omega) fun s4 y' Y' f4 hY' hn hc => ?_
  have N4 := N3.fm f4 fun _ _ => id
  have hyn : y' ≠ jX .null := fun e => hY.nn (hn.mpr e)
  have hY4 := hY'.nz hyn
  have h4 := f4.dh (f3.dh h2)
  have v4 : dV s4 row 0 = jR l := by rw [f4.dV (f3.dh h2) id, f3.dV h2 id]; exact v2'
  have l4 := f4.len
  have d4 := f4.dn
  refine i_wN (k := 1) h4 rfl (by decide) hY4 ?_
  have f5 : Fm (fun j => j = row) 0 0 s4 (upC s4 row 1 y') := Fm.up (Or.inl rfl)
  have h5 := f5.dh h4
  have hne : ∀ j, dh s4 j = some (11, 3) → ¬ j = row := fun j hj e => by
    subst e
    rw [h4] at hj
    cases hj
  have N5 : IsN 3 (upC s4 row 1 y') (dV (upC s4 row 1 y') row 0) L := by
    rw [dV_n (by omega), v4]
    exact N4.fm f5 hne
  have Y5 : IsN 3 (upC s4 row 1 y') (dV (upC s4 row 1 y') row 1) Y' := by
    rw [dV_s]
    exact hY4.fm f5 hne
  have l5 := f5.len
  have d5 := f5.dn
  generalize upC s4 row 1 y' = s5 at *
  have g3 : Fm (fun j => j = row) 9 24 s s3 := g2.tr f3 (fun _ _ => id) (fun _ _ h => h.elim) (by omega) (by omega)
  have g4 : Fm (fun j => j = row) 16 45 s s4 := g3.tr f4 (fun _ _ => id) (fun _ _ h => h.elim) (by omega) (by omega)
  have g5 : Fm (fun _ => False) 16 45 s s5 := g4.tr f5 (fun j hj e => by omega) (fun j hj e => by omega) (by omega) (by omega)
  have hr5 := hr.fm g5 id id
  have R5 : Rok s5 (jR row) (L, Y') := ⟨row, rfl, h5, N5, Y5, hrt, hc⟩
  refine i_R ⟨i_rcv hr5.1, c_AL_add hr5 hk (by omega) ⟨row, 116, 2, rfl, h5, Or.inr rfl⟩ fun s6 ar' f6 hal har => ?_⟩
  rw [show wr ((k : Int) + 1) = ((k + 1 : Nat) : Int) by rw [wr_s (by omega)]; omega]
  refine h s6 ar' row Y' (g5.tr f6 (fun _ _ h => h.elim) (fun _ _ => id) (by omega) (by omega)) hal (by omega) (R5.fm f6 fun j m hj e => ?_)
  have hr1 := hr5.1
  rcases e with rfl | rfl
  · rw [hr1] at hj
    rcases hj with hj | hj <;> cases hj
  · rcases hr5.2.2.2.2.1 with ⟨-, e⟩ | ⟨e, -⟩
    · have hb : dn s5 ≤ 1000000 := by unfold dn; omega
      rcases hj with hj | hj
      · have := dh_lt hj
        omega
      · have := dh_lt hj
        omega
    · rw [e] at hj
      rcases hj with hj | hj <;> cases hj
end L96c
