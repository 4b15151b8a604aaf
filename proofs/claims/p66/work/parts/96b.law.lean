/-! THE LAW'S OWN METHODS: the system by hand is made -/
theorem jf13 : (jfields 13).length = 3 := by decide +kernel
theorem jd13 : jdef 13 2 = jI 0 := by
  unfold jdef
  rw [if_neg (by decide +kernel)]
theorem jf12 : (jfields 12).length = 5 := by decide +kernel
def isSys (s : LSt) (d ir it aw : Nat) : Prop := dh s d = some (12, 5) ∧ dV s d 0 = jR ir ∧ dV s d 1 = jR it ∧ dV s d 2 = jR aw ∧ dh s aw = some (116, 16)
section L96b
variable {W : Nat → Prop} {c w : Nat} {s s1 : LSt} {i k n t a b d ir it aw : Nat} {v x : JV} {L : List Int}
theorem isSys.fm (h : isSys s d ir it aw) (hf : Fm W c w s s1) (hd : ¬ W d) : isSys s1 d ir it aw := by
  obtain ⟨h1, h2, h3, h4, h5⟩ := h
  have e := hf.dV h1 hd
  exact ⟨hf.dh h1, by rw [e]; exact h2, by rw [e]; exact h3, by rw [e]; exact h4, hf.dh h5⟩
theorem c_newAL {Q : Nat → LSt → Prop} (hl : (dS s).length < 900000) (h : ∀ s' i, Fm (fun _ => False) 1 3 s s' → (∀ f, isAL s' i 1000001 0 f) → dn s ≤ i → i < dn s' → Q i s') : nC s 13 (fun i s1 => d_AL_init (jR i) s1 (fun s2 => Q i s2)) := by
  refine ⟨hl, ?_⟩
  rw [jf13]
  refine c_AL_init dh_mk (by rw [dV_mk]; exact jd13) fun s' f hal => h s' (dn s) ?_ hal (Nat.le_refl _) ?_
  · exact (Fm.mk (W := fun _ => False) (c := 1) (w := 3) (by decide) (by decide)).tr f (fun _ _ => id) (fun j hj e => by omega) (by omega) (by omega)
  · have := f.dn
    rw [dn_mk] at this
    omega
theorem c_row {Q : Nat → LSt → Prop} {z : Int} (hl : (dS s).length < 900000) (hz : z = (k : Int)) (hk : k < 60000000) (h : ∀ s' i, Fm (fun _ => False) 1 k s s' → dh s' i = some (t, k) → (∀ j, dV s' i j = v) → dn s ≤ i → i < dn s' → Q i s') : nA s t z v Q :=
  i_nA hl hz hk (h _ _ (Fm.mk (by decide) (Nat.le_refl _)) dh_mk (fun _ => dV_mk) (Nat.le_refl _) (by rw [dn_mk]; omega))
/-- a field of the system is set: W tells of the system's cell alone -/
theorem c_set {K : LSt → Prop} {f : Nat} (h1 : dh s d = some (12, 5)) (hk : k < 5) (hv : jnl v = true) (h : ∀ s', Fm (fun j => j = d) 0 0 s s' → dV s' d k = v → (∀ j, j ≠ k → dV s' d j = dV s d j) → K s') (hf : f = 2) : pF s d 12 k f v K := by
  subst hf
  exact i_pF h1 hk (jfit2 hv) (h _ (Fm.up (Or.inl rfl)) dV_s fun j hj => dV_n fun e => hj e.2)
theorem c_Sys {Q : JV → LSt → Prop} (hl : (dS s).length < 880000) (h : ∀ s' d ir it aw, Fm (fun _ => False) 5 43 s s' → isSys s' d ir it aw → (∀ f, isAL s' ir 1000001 0 f) → (∀ f, isAL s' it 1000001 0 f) → ir ≠ it → dn s ≤ d → dn s ≤ ir → dn s ≤ it → dn s ≤ aw → Q (jR d) s') : nC s 12 (fun i1 s2 => d_Sys_init (jR i1) s2 (fun s3 => Q (jR i1) s3)) := by
  refine ⟨by omega, ?_⟩
  rw [jf12]
  have f1 : Fm (fun _ => False) 1 5 s (mk s 12 5 (jdef 12)) := Fm.mk (by decide) (by decide)
  have g1 : dh (mk s 12 5 (jdef 12)) (dn s) = some (12, 5) := dh_mk
  have d1 : dn (mk s 12 5 (jdef 12)) = dn s + 1 := dn_mk
  have l1 := f1.len
  have hd0 : dn s ≤ 900000 := by unfold dn; omega
  generalize mk s 12 5 (jdef 12) = s1 at *
  generalize hdd : dn s = d at *
  unfold d_Sys_init d_Object_init
  refine i_R (c_newAL (by omega) fun s2 ir f2 hr hi2 hi2' => ?_)
  have l2 := f2.len
  have d2 := f2.dn
  refine c_set (f2.dh g1) (by decide) rfl (fun s3 f3 v3 _ => ?_) rfl
  have g3 := f3.dh (f2.dh g1)
  have hr3 : ∀ f, isAL s3 ir 1000001 0 f := fun f => (hr f).fm f3 (by omega) (by omega)
  have l3 := f3.len
  have d3 := f3.dn
  refine c_newAL (by omega) fun s4 it f4 ht hi4 hi4' => ?_
  have g4 := f4.dh g3
  have v4 : dV s4 d 0 = jR ir := by rw [f4.dV g3 id]; exact v3
  have hr4 : ∀ f, isAL s4 ir 1000001 0 f := fun f => (hr3 f).fm f4 id id
  have l4 := f4.len
  have d4 := f4.dn
  refine c_set g4 (by decide) rfl (fun s5 f5 v5 w5 => ?_) rfl
  have g5 := f5.dh g4
  have v5' : dV s5 d 0 = jR ir := by rw [w5 0 (by decide)]; exact v4
  have hr5 : ∀ f, isAL s5 ir 1000001 0 f := fun f => (hr4 f).fm f5 (by omega) (by omega)
  have ht5 : ∀ f, isAL s5 it 1000001 0 f := fun f => (ht f).fm f5 (by omega) (by omega)
  have l5 := f5.len
  have d5 := f5.dn
  refine c_row (k := 16) (by omega) rfl (by decide) fun s6 aw f6 ha6 _ hi6 hi6' => ?_
  have g6 := f6.dh g5
  have e6 := f6.dV g5 id
  have l6 := f6.len
  have d6 := f6.dn
  refine c_set g6 (by decide) rfl (fun s7 f7 v7 w7 => ?_) rfl
  have g7 := f7.dh g6
  have l7 := f7.len
  have d7 := f7.dn
  refine c_row (k := 16) (by omega) rfl (by decide) fun s8 am f8 _ _ hi8 hi8' => ?_
  have g8 := f8.dh g7
  have e8 := f8.dV g7 id
  refine c_set g8 (by decide) rfl (fun s9 f9 v9 w9 => ?_) rfl
  have t2 : Fm (fun j => j = d) 2 8 s s2 := f1.tr f2 (fun _ _ h => h.elim) (fun _ _ h => h.elim) (by omega) (by omega)
  have t3 : Fm (fun j => j = d) 2 8 s s3 := t2.tr f3 (fun _ _ => id) (fun _ _ => id) (by omega) (by omega)
  have t4 : Fm (fun j => j = d) 3 11 s s4 := t3.tr f4 (fun _ _ => id) (fun _ _ h => h.elim) (by omega) (by omega)
  have t5 : Fm (fun j => j = d) 3 11 s s5 := t4.tr f5 (fun _ _ => id) (fun _ _ => id) (by omega) (by omega)
  have t6 : Fm (fun j => j = d) 4 27 s s6 := t5.tr f6 (fun _ _ => id) (fun _ _ h => h.elim) (by omega) (by omega)
  have t7 : Fm (fun j => j = d) 4 27 s s7 := t6.tr f7 (fun _ _ => id) (fun _ _ => id) (by omega) (by omega)
  have t8 : Fm (fun j => j = d) 5 43 s s8 := t7.tr f8 (fun _ _ => id) (fun _ _ h => h.elim) (by omega) (by omega)
  have t9 : Fm (fun _ => False) 5 43 s s9 := t8.tr f9 (fun j hj e => by omega) (fun j hj e => by omega) (by omega) (by omega)
  refine h s9 d ir it aw t9 ⟨f9.dh g8, ?_, ?_, ?_, f9.dh (f8.dh (f7.dh ha6))⟩ (fun f => ((((hr5 f).fm f6 id id).fm f7 (by omega) (by omega)).fm f8 id id).fm f9 (by omega) (by omega)) (fun f => ((((ht5 f).fm f6 id id).fm f7 (by omega) (by omega)).fm f8 id id).fm f9 (by omega) (by omega)) (by omega) (by omega) (by omega) (by omega) (by omega)
  · rw [w9 0 (by decide), e8, w7 0 (by decide), e6]
    exact v5'
  · rw [w9 1 (by decide), e8, w7 1 (by decide), e6]
    exact v5
  · rw [w9 2 (by decide), e8]
    exact v7
/-- an int of the script, 0 beyond its end -/
theorem c_cell {Q : Int → LSt → Prop} {z : Int} (hz : z = (k : Int)) (hL : s.1.1.1 < 1000) (h : ∀ r, Q r s) : d_Lw_cell (jR 1000000) z s Q := by
  subst hz
  unfold d_Lw_cell
  refine i_R ⟨s.1.1.1, by unfold dlen; rw [if_pos rfl], by omega, ?_⟩
  show ite _ _ _
  by_cases hk : (k : Int) < (s.1.1.1 : Int)
  · rw [if_pos hk]
    exact Or.inl ⟨rfl, by omega, hk, h _⟩
  · rw [if_neg hk]
    exact h _
theorem jor4 {x : Int} : 4 ≤ jand (jor x 4) 7 := by
  have h : jand (jor x 4) 4 = 4 := by
    unfold jand jor
    rw [Int32.ofInt_toInt, ← Int32.toInt_toBitVec, Int32.toBitVec_and, Int32.toBitVec_or]
    have e : ((Int32.ofInt x).toBitVec ||| (Int32.ofInt 4).toBitVec) &&& (Int32.ofInt 4).toBitVec = (Int32.ofInt 4).toBitVec := by
      apply BitVec.eq_of_getLsbD_eq
      intro i hi
      rw [BitVec.getLsbD_and, BitVec.getLsbD_or]
      cases (Int32.ofInt x).toBitVec.getLsbD i <;> cases (Int32.ofInt 4).toBitVec.getLsbD i <;> rfl
    rw [e]
    rfl
  have h7 : 0 ≤ jand (jor x 4) 7 ∧ jand (jor x 4) 7 ≤ 7 := jand_rng (m := 7) (by decide)
  have h2 : jand (jand (jor x 4) 7) 4 = jand (jor x 4) 4 := by
    unfold jand
    rw [Int32.ofInt_toInt]
    congr 1
    apply Int32.toBitVec_inj.mp
    rw [Int32.toBitVec_and, Int32.toBitVec_and, Int32.toBitVec_and]
    apply BitVec.eq_of_getLsbD_eq
    intro i hi
    rw [BitVec.getLsbD_and, BitVec.getLsbD_and, BitVec.getLsbD_and]
    have : (Int32.ofInt 4).toBitVec.getLsbD i = true → (Int32.ofInt 7).toBitVec.getLsbD i = true := by
      have k : ∀ j : Fin 32, (Int32.ofInt 4).toBitVec.getLsbD j = true → (Int32.ofInt 7).toBitVec.getLsbD j = true := by decide +kernel
      exact k ⟨i, hi⟩
    cases h4 : (Int32.ofInt 4).toBitVec.getLsbD i
    · simp
    · rw [this h4]
      simp
  have k : ∀ j : Fin 8, jand ((j : Nat) : Int) 4 = 4 → 4 ≤ ((j : Nat) : Int) := by decide +kernel
  have := k ⟨(jand (jor x 4) 7).toNat, by omega⟩
  rw [show ((⟨(jand (jor x 4) 7).toNat, by omega⟩ : Fin 8) : Nat) = (jand (jor x 4) 7).toNat from rfl, show (((jand (jor x 4) 7).toNat : Nat) : Int) = jand (jor x 4) 7 by omega] at this
  exact this (h2.trans h)
end L96b
