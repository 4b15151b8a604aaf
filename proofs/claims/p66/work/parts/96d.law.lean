/-! THE LAW'S OWN METHODS: sys() -/
theorem jrem3 {x : Int} : 0 ≤ jrem (jand x 3) 3 ∧ jrem (jand x 3) 3 ≤ 2 := by
  have h : 0 ≤ jand x 3 ∧ jand x 3 ≤ 3 := jand_rng (m := 3) (by decide)
  have k : ∀ j : Fin 4, 0 ≤ jrem ((j : Nat) : Int) 3 ∧ jrem ((j : Nat) : Int) 3 ≤ 2 := by decide +kernel
  have := k ⟨(jand x 3).toNat, by omega⟩
  rw [show ((⟨(jand x 3).toNat, by omega⟩ : Fin 4) : Nat) = (jand x 3).toNat from rfl, show (((jand x 3).toNat : Nat) : Int) = jand x 3 by omega] at this
  exact this
section L96d
variable {W : Nat → Prop} {c w : Nat} {s s1 : LSt} {i k n t a b d ir it aw ar : Nat} {v x : JV} {L : List Int}
/-- another kind of cell is no part of a list -/
theorem isAL.tag {f : Nat → JV} {j m : Nat} (h : isAL s i a n f) (hj : dh s j = some (t, m)) (ht : t ≠ 13 ∧ t ≠ 199) (hl : (dS s).length < 900000) : ¬ (j = i ∨ j = a) := by
  rintro (rfl | rfl)
  · rw [h.1] at hj
    cases hj
    exact ht.1 rfl
  · rcases h.2.2.2.2.1 with ⟨-, e⟩ | ⟨e, -⟩
    · have := dh_lt hj
      unfold dn at this
      omega
    · rw [e] at hj
      cases hj
      exact ht.2 rfl
theorem isAL.fm0 {f : Nat → JV} (h : isAL s i 1000001 0 f) (hf : Fm W c w s s1) (hi : ¬ W i) : isAL s1 i 1000001 0 f := by
  obtain ⟨h1, h2, h3, h4, h5, h6⟩ := h
  have e := hf.dV h1 hi
  exact ⟨hf.dh h1, by rw [e]; exact h2, by rw [e]; exact h3, by rw [e]; exact h4, Or.inl ⟨rfl, rfl⟩, fun k hk => absurd hk (by omega)⟩
/-- the system by hand: rules Rs, terms Ts of at most m levels -/
def SysOk (m : Nat) (s : LSt) (d ir it aw ar tr : Nat) (fr ft : Nat → JV) (Rs : List (List Int × List Int)) (Ts : List (List Int)) : Prop := isSys s d ir it aw ∧ isAL s ir ar Rs.length fr ∧ isAL s it tr Ts.length ft ∧ (∀ k, k < Rs.length → Rok s (fr k) (Rs.getD k ([], []))) ∧ (∀ k, k < Ts.length → IsN m s (ft k) (Ts.getD k []) ∧ rootS (Ts.getD k [])) ∧ ir ≠ it ∧ (ar = tr → ar = 1000001)
theorem root_z (h : IsN (n + 1) s (jR i) L) (hr : rootS L) : dh s i = some (11, 3) ∧ ∃ z : Int, dV s i 0 = jI z ∧ z < 100 := by
  obtain ⟨j, h1, h2, h3⟩ := h
  cases h1
  refine ⟨h2, ?_⟩
  obtain ⟨Z, hr⟩ := hr
  rcases h3 with ⟨k, q, a, b, d, e⟩ | ⟨k, q, a, b, d, e⟩ | ⟨X, a, b, d⟩ | ⟨X, Y, a, b, d, e⟩
  · rw [e] at hr
    rcases hr with hr | hr <;> (have := (List.cons.inj hr).1; omega)
  · exact ⟨_, a, by omega⟩
  · exact ⟨_, a, by decide⟩
  · exact ⟨_, a, by decide⟩
/-- the terms -/
theorem c_sys2 {s0 : LSt} {z : Int} {Q : JV → LSt → Prop} {fr : Nat → JV} {Rs : List (List Int × List Int)} (hR : 1 ≤ Rs.length) (hL : s0.1.1.1 < 1000) (hl : (dS s0).length < 870000) (hd0 : dn s0 ≤ d ∧ dn s0 ≤ ir ∧ dn s0 ≤ it ∧ (ar = 1000001 ∨ dn s0 ≤ ar)) (hF : Fm (fun _ => False) 100 400 s0 s) (hS : ∀ ft, SysOk 4 s d ir it aw ar 1000001 fr ft Rs []) (h : ∀ s' tr ft Ts, Fm (fun _ => False) 200 800 s0 s' → SysOk 4 s' d ir it aw ar tr fr ft Rs Ts → 2 ≤ Ts.length → Ts.length ≤ 3 → Q (jR d) s') : d_Lw_sys_l119 (jR 1000000) (jR d) z 0 s Q := by
  have hj := jand1 (x := jushr z 2)
  have hb0 : dn s0 ≤ 900000 := by unfold dn; omega
  refine i_Lw_sys_l119 (Inv := fun v3 s' => ∃ (kn tr : Nat) (ft : Nat → JV) (Ts : List (List Int)), v3 = (kn : Int) ∧ Ts.length = kn ∧ (kn : Int) ≤ 2 + jand (jushr z 2) 1 ∧ Fm (fun _ => False) (100 + 20 * kn) (400 + 80 * kn) s0 s' ∧ SysOk 4 s' d ir it aw ar tr fr ft Rs Ts ∧ (tr = 1000001 ∨ dn s0 ≤ tr)) (fun v3 _ => 5 - v3.toNat) ?_ 0 s ⟨0, 1000001, fun _ => jU, [], rfl, rfl, by omega, hF, hS _, Or.inl rfl⟩
  rintro _ s1 ⟨kn, tr, ft, Ts, rfl, hT, hk, hF1, hS1, htr⟩ W hW
  unfold d_Lw_sys_b119
  rw [wr_s (z := 1 + jand (jushr z 2) 1) (by omega)]
  by_cases hc : 1 + jand (jushr z 2) 1 < (kn : Int)
  · rw [if_pos hc]
    exact h s1 tr ft Ts (hF1.mono (fun _ _ => id) (by omega) (by omega)) hS1 (by omega) (by omega)
  · rw [if_neg hc]
    obtain ⟨k1, k2, k3, k4, k5, k6, k7⟩ := hS1
    have l1 := hF1.len
    refine i_R (i_fV k1.1 (by decide) k1.2.2.1 rfl ?_)
    refine c_mk4 (dp := 3) (kc := 7 + kn) (by rw [wr_s (by omega)]; omega) (by rw [hF1.scr]; exact hL) (by omega) (by decide) fun s2 x L f2 hN hrt => ?_
    have t3 : tsz 3 = 15 := rfl
    have l2 := f2.len
    have d1 := hF1.dn
    have d2 := f2.dn
    have hal := k3.fm f2 id id
    have har := k2.fm f2 id id
    have hsy := k1.fm f2 id
    rw [hT] at hal
    obtain ⟨-, j, hx, hj11⟩ := hN.nl
    refine i_R ⟨i_rcv hal.1, c_AL_add hal (by omega) (by omega) ⟨j, 11, 3, hx, hj11, Or.inl rfl⟩ fun s3 tr' f3 hal3 htr3 => ?_⟩
    rw [show wr ((kn : Int) + 1) = ((kn + 1 : Nat) : Int) by rw [wr_s (by omega)]; omega]
    have hb2 : (dS s2).length < 900000 := by omega
    have nW : ∀ j m, dh s2 j = some (11, m) ∨ dh s2 j = some (116, m) → ¬ (j = it ∨ j = tr) := fun j m hj => by
      rcases hj with hj | hj
      · exact hal.tag hj (by decide) hb2
      · exact hal.tag hj (by decide) hb2
    have nT : ∀ j, dh s2 j = some (11, 3) → ¬ (j = it ∨ j = tr) := fun j hj => nW j 3 (Or.inl hj)
    refine hW _ _ ⟨kn + 1, tr', fun j => if j = kn then x else ft j, Ts ++ [L], rfl, by rw [List.length_append, hT]; rfl, by omega, ?_, ⟨hsy.fm f3 (hal.tag hsy.1 (by decide) hb2), har.fm f3 ?_ ?_, by rw [List.length_append, hT]; exact hal3, fun q hq => ((k4 q hq).fm f2 fun _ _ _ => id).fm f3 nW, fun q hq => ?_, k6, ?_⟩, by omega⟩ (by omega)
    · exact (hF1.tr f2 (W := fun _ => False) (c := 100 + 20 * kn + 16) (w := 400 + 80 * kn + 46) (fun _ _ => id) (fun _ _ => id) (by omega) (by omega)).tr f3 (fun _ _ => id) (fun q hq e => by omega) (by omega) (by omega)
    · rintro (e | e)
      · exact k6 e
      · have h9 := har.1
        rcases hal.2.2.2.2.1 with ⟨-, e2⟩ | ⟨e2, -⟩
        · have := dh_lt h9
          unfold dn at this
          omega
        · rw [e] at h9
          rw [h9] at e2
          cases e2
    · rintro (e | e)
      · rcases har.2.2.2.2.1 with ⟨-, e2⟩ | ⟨e2, -⟩
        · have := dh_lt hal.1
          unfold dn at this
          omega
        · rw [e, hal.1] at e2
          cases e2
      · have e9 := k7 e
        rcases har.2.2.2.2.1 with ⟨e1, -⟩ | ⟨e2, -⟩
        · omega
        · have := dh_lt e2
          unfold dn at this
          omega
    · rw [List.length_append, hT] at hq
      simp only [List.length_cons, List.length_nil] at hq
      by_cases e : q = kn
      · subst e
        dsimp only
        rw [if_pos rfl, getD_app_r (by omega), hT, Nat.sub_self]
        exact ⟨hN.fm f3 nT, hrt⟩
      · dsimp only
        rw [if_neg e, getD_app_l (by omega)]
        exact ⟨((k5 q (by omega)).1.fm f2 fun _ _ => id).fm f3 nT, (k5 q (by omega)).2⟩
    · intro e
      rcases har.2.2.2.2.1 with ⟨e1, -⟩ | ⟨e2, -⟩
      · omega
      · have := dh_lt e2
        exact k7 (by omega)
/-- the rules, then the terms -/
theorem c_sys {Q : JV → LSt → Prop} (hL : s.1.1.1 < 1000) (hl : (dS s).length < 860000) (h : ∀ s' d ir it aw ar tr fr ft Rs Ts, Fm (fun _ => False) 200 800 s s' → SysOk 4 s' d ir it aw ar tr fr ft Rs Ts → 1 ≤ Rs.length → Rs.length ≤ 3 → 2 ≤ Ts.length → Ts.length ≤ 3 → Q (jR d) s') : d_Lw_sys (jR 1000000) s Q := by
  unfold d_Lw_sys
  have hb0 : dn s ≤ 900000 := by unfold dn; omega
  refine c_Sys (Q := fun x s3 => d_Lw_cell (jR 1000000) 0 s3 (fun r6 s5 => d_Lw_sys_l16 (jR 1000000) x r6 0 s5 Q)) (by omega) fun s1 d ir it aw f1 hS1 hr1 ht1 hne hd hir hit haw => c_cell (k := 0) rfl (by rw [f1.scr]; exact hL) fun z => ?_
  have hj := jrem3 (x := z)
  refine i_Lw_sys_l16 (Inv := fun v3 s' => ∃ (kn ar : Nat) (fr : Nat → JV) (Rs : List (List Int × List Int)), v3 = (kn : Int) ∧ Rs.length = kn ∧ (kn : Int) ≤ 1 + jrem (jand z 3) 3 ∧ Fm (fun _ => False) (5 + 30 * kn) (43 + 90 * kn) s s' ∧ isSys s' d ir it aw ∧ isAL s' ir ar kn fr ∧ (∀ f, isAL s' it 1000001 0 f) ∧ (∀ q, q < kn → Rok s' (fr q) (Rs.getD q ([], []))) ∧ (ar = 1000001 ∨ dn s ≤ ar)) (fun v3 _ => 5 - v3.toNat) ?_ 0 s1 ⟨0, 1000001, fun _ => jU, [], rfl, rfl, by omega, f1, hS1, hr1 _, ht1, fun q hq => absurd hq (by omega), Or.inl rfl⟩
  rintro _ s2 ⟨kn, ar, fr, Rs, rfl, hT, hk, hF, hS, hr, ht, hR, har⟩ W hW
  unfold d_Lw_sys_b16
  have l2 := hF.len
  have d2 := hF.dn
  by_cases hc : jrem (jand z 3) 3 < (kn : Int)
  · rw [if_pos hc]
    refine c_sys2 (s0 := s) (fr := fr) (Rs := Rs) (ar := ar) (ir := ir) (it := it) (aw := aw) (by omega) hL (by omega) ⟨hd, hir, hit, har⟩ (hF.mono (fun _ _ => id) (by omega) (by omega)) (fun ft => ⟨hS, by rw [hT]; exact hr, ht ft, by rw [hT]; exact hR, fun q hq => absurd hq (by simp), hne, id⟩) fun s' tr ft Ts hF' hS' h1 h2 => ?_
    exact h s' d ir it aw ar tr fr ft Rs Ts hF' hS' (by omega) (by omega) h1 h2
  · rw [if_neg hc]
    refine c_mk4 (dp := 2) (kc := 1 + kn) (by rw [wr_s (by omega)]; omega) (by rw [hF.scr]; exact hL) (by omega) (by decide) fun s3 x L f3 hN hrt => ?_
    have t2 : tsz 2 = 7 := rfl
    have l3 := f3.len
    have d3 := f3.dn
    obtain ⟨-, i, hx, hi11⟩ := hN.nl
    subst hx
    obtain ⟨r1, zc, r2, r3⟩ := root_z hN hrt
    refine i_R (i_fI r1 (by decide) r2 ?_)
    rw [if_pos r3]
    have hr3 := hr.fm f3 id id
    have hb3 : (dS s3).length < 900000 := by omega
    refine c_j69 (hS.fm f3 id) hr3 (by omega) rfl (by rw [f3.scr, hF.scr]; exact hL) (by omega) hN hrt fun s4 ar' row R f4 hal har' hrok => ?_
    have hS3 := hS.fm f3 id
    have nW : ∀ j m, dh s3 j = some (11, m) ∨ dh s3 j = some (116, m) → ¬ (j = ir ∨ j = ar) := fun j m hj => by
      rcases hj with hj | hj
      · exact hr3.tag hj (by decide) hb3
      · exact hr3.tag hj (by decide) hb3
    refine hW _ _ ⟨kn + 1, ar', fun j => if j = kn then jR row else fr j, Rs ++ [(L, R)], rfl, by rw [List.length_append, hT]; rfl, by omega, ?_, hS3.fm f4 (hr3.tag hS3.1 (by decide) hb3), hal, fun f => ((ht f).fm f3 id id).fm0 f4 ?_, fun q hq => ?_, by omega⟩ (by omega)
    · exact (hF.tr f3 (W := fun _ => False) (c := 5 + 30 * kn + 8) (w := 43 + 90 * kn + 22) (fun _ _ => id) (fun _ _ => id) (by omega) (by omega)).tr f4 (fun _ _ => id) (fun q hq e => by omega) (by omega) (by omega)
    · rintro (e | e)
      · exact hne e.symm
      · have h9 := ((ht fr).fm f3 id id).1
        rcases hr3.2.2.2.2.1 with ⟨-, e2⟩ | ⟨e2, -⟩
        · have := dh_lt h9
          unfold dn at this
          omega
        · rw [← e, h9] at e2
          cases e2
    · by_cases e : q = kn
      · subst e
        dsimp only
        rw [if_pos rfl, getD_app_r (by omega), hT, Nat.sub_self]
        exact hrok
      · dsimp only
        rw [if_neg e, getD_app_l (by omega)]
        exact ((hR q (by omega)).fm f3 fun _ _ _ => id).fm f4 nW
end L96d
