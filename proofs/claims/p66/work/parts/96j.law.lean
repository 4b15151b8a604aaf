/-! THE LAW'S OWN METHODS: text() -/
section L96j
variable {W : Nat → Prop} {c w : Nat} {s s1 : LSt} {i k n t a b d ir it aw ar tr cap q : Nat} {v x : JV} {L : List Int} {fr ft : Nat → JV} {Rs : List (List Int × List Int)} {Ts : List (List Int)}
/-- the texts of rules and terms -/
def rlT (Ss : List (List Int × List Int)) : List Int := Ss.flatMap fun q => jlit 8 ++ (q.1 ++ (jlit 10 ++ q.2))
def tmT (Us : List (List Int)) : List Int := Us.flatMap fun u => jlit 11 ++ u
theorem rlT_app (Ss : List (List Int × List Int)) (x y : List Int) : rlT (Ss ++ [(x, y)]) = rlT Ss ++ (jlit 8 ++ (x ++ (jlit 10 ++ y))) := by
  unfold rlT
  rw [List.flatMap_append]
  simp
theorem tmT_app (Us : List (List Int)) (x : List Int) : tmT (Us ++ [x]) = tmT Us ++ (jlit 11 ++ x) := by
  unfold tmT
  rw [List.flatMap_append]
  simp
def okRl (Rs : List (List Int × List Int)) (Ss : List (List Int × List Int)) : Prop := ∀ k, k < Ss.length → TW 3 (Rs.getD k ([], [])).1 (Ss.getD k ([], [])).1 ∧ TW 3 (Rs.getD k ([], [])).2 (Ss.getD k ([], [])).2
def okTm (Ts : List (List Int)) (Us : List (List Int)) : Prop := ∀ k, k < Us.length → TW 4 (Ts.getD k []) (Us.getD k [])
theorem getD_snc {α : Type} {l : List α} {x dd : α} : (l ++ [x]).getD l.length dd = x := by
  rw [List.getD_eq_getElem?_getD, List.getElem?_append_right (Nat.le_refl _), Nat.sub_self]
  rfl
/-- cells that are no list, no node, no rule, no system -/
def qW (q : Nat × Nat) : Prop := q.1 = 14 ∨ q.1 = 101 ∨ q = (116, 16)
theorem SysOk.fm {m : Nat} (h : SysOk m s d ir it aw ar tr fr ft Rs Ts) (h1 : 1 ≤ Rs.length) (h2 : 1 ≤ Ts.length) (hf : Fm W c w s s1) (hW : ∀ j q, dh s j = some q → W j → qW q) : SysOk m s1 d ir it aw ar tr fr ft Rs Ts := by
  obtain ⟨g1, g2, g3, g4, g5, g6, g7⟩ := h
  have nw : ∀ {j : Nat} {q : Nat × Nat}, dh s j = some q → q.1 ≠ 14 → q.1 ≠ 101 → q ≠ (116, 16) → ¬ W j := fun hj a1 a2 a3 hw => by
    rcases hW _ _ hj hw with e | e | e
    · exact a1 e
    · exact a2 e
    · exact a3 e
  have na : ¬ W ar := by
    rcases g2.2.2.2.2.1 with ⟨e, -⟩ | ⟨e, -⟩
    · omega
    · exact nw e (by decide) (by decide) (by decide)
  have nt : ¬ W tr := by
    rcases g3.2.2.2.2.1 with ⟨e, -⟩ | ⟨e, -⟩
    · omega
    · exact nw e (by decide) (by decide) (by decide)
  refine ⟨g1.fm hf (nw g1.1 (by decide) (by decide) (by decide)), g2.fm hf (nw g2.1 (by decide) (by decide) (by decide)) na, g3.fm hf (nw g3.1 (by decide) (by decide) (by decide)) nt, fun k hk => (g4 k hk).fm2 hf fun j hj => ?_, fun k hk => ⟨(g5 k hk).1.fm hf fun j hj => nw hj (by decide) (by decide) (by decide), (g5 k hk).2⟩, g6, g7⟩
  rcases hj with hj | hj
  · exact nw hj (by decide) (by decide) (by decide)
  · exact nw hj (by decide) (by decide) (by decide)
theorem SysOk.ap {m a1 cap1 : Nat} {X : List Int} (h : SysOk m s d ir it aw ar tr fr ft Rs Ts) (h1 : 1 ≤ Rs.length) (h2 : 1 ≤ Ts.length) (hs : isSB s i a cap L) (hA : Ap s i a cap L s1 a1 cap1 X) : SysOk m s1 d ir it aw ar tr fr ft Rs Ts := h.fm h1 h2 hA.2.1 fun j q hj e => by
  rcases e with rfl | rfl
  · rw [hs.1] at hj
    exact Or.inl (by rw [← Option.some.inj hj])
  · rw [hs.2.2.2.2.1.1] at hj
    exact Or.inr (Or.inl (by rw [← Option.some.inj hj]))
theorem SysOk.sysR {m : Nat} (h : SysOk m s d ir it aw ar tr fr ft Rs Ts) (h1 : 1 ≤ Rs.length) : SysR s d ir it aw ar fr Rs := ⟨h.1, h.2.1, h.2.2.2.1, h1⟩
theorem isSB.fq (h : isSB s i a cap L) (hf : Fm W c w s s1) (hW : ∀ j q, dh s j = some q → W j → q.1 ≠ 14 ∧ q.1 ≠ 101) : isSB s1 i a cap L := h.fm hf (fun e => (hW _ _ h.1 e).1 rfl) (fun e => (hW _ _ h.2.2.2.2.1.1 e).2 rfl)
/-- the builder's own cells are new since s0 -/
def Bdr (s0 s : LSt) (i a cap : Nat) (L : List Int) : Prop := Fm (fun _ => False) (2 + cap) (4 + 3 * cap) s0 s ∧ isSB s i a cap L ∧ dn s0 ≤ i ∧ dn s0 ≤ a
theorem Bdr.ap {s0 : LSt} {a1 cap1 : Nat} {X : List Int} (h : Bdr s0 s i a cap L) (hA : Ap s i a cap L s1 a1 cap1 X) : Bdr s0 s1 i a1 cap1 (L ++ X) := by
  obtain ⟨h1, h2, h3, h4⟩ := h
  obtain ⟨p1, p2, p3, p4⟩ := hA
  have := h1.dn
  exact ⟨h1.tr p2 (fun _ _ => id) (fun j hj e => by omega) (by omega) (by omega), p3, h3, by omega⟩
theorem Bdr.ln {s0 : LSt} (h : Bdr s0 s i a cap L) (hl : (dS s0).length < 860000) : (dS s).length < 890000 ∧ (dS s).length < 870000 + cap := by
  have := h.1.len
  have := h.2.1.2.2.2.2.1.2.2
  omega
/-- all that text() tells -/
def txT (Ss : List (List Int × List Int)) (Us : List (List Int)) (E : List Int) : List Int := jlit 7 ++ (rlT Ss ++ (tmT Us ++ (jlit 12 ++ E)))
theorem flen {α : Type} (f : α → List Int) (g : Nat) : ∀ (l : List α), (∀ x, x ∈ l → (f x).length ≤ g) → (l.flatMap f).length ≤ g * l.length := by
  intro l
  induction l with
  | nil => intro _; simp
  | cons x l ih =>
    intro h
    rw [List.flatMap_cons, List.length_append, List.length_cons]
    have h1 := h x List.mem_cons_self
    have h2 := ih fun y hy => h y (List.mem_cons_of_mem _ hy)
    have : g * (l.length + 1) = g * l.length + g := by rw [Nat.mul_add, Nat.mul_one]
    omega
theorem TWl {m : Nat} {X S : List Int} (h : TW n X S) (hX : IsN m s v X) (hm : m ≤ 4) : S.length ≤ 4 * (2 ^ m - 1) ∧ X.length ≤ 15 := by
  have h1 := h.len
  have h2 := hX.sz.2
  have h3 : 2 ^ m ≤ 2 ^ 4 := Nat.pow_le_pow_right (by decide) hm
  have h4 : (2 : Nat) ^ 4 = 16 := by decide
  omega
/-- the end of text(): a copy, perhaps a step -/
theorem c_text3 {s0 : LSt} {z : Int} {Q : JV → LSt → Prop} (hS : SysOk 4 s d ir it aw ar tr fr ft Rs Ts) (h1 : 1 ≤ Rs.length) (h10 : Rs.length ≤ 3) (h2 : 2 ≤ Ts.length) (h3 : Ts.length ≤ 3) (hB : Bdr s0 s i a cap L) (hL : L.length ≤ 460) (hl : (dS s0).length < 800000) (hw0 : dn s0 ≤ 810000) (hq : ∀ s' j b E, Fm (fun q => q = it ∨ q = tr ∨ q = aw) (cap + 20100) (3 * cap + 61000) s0 s' → isStr s' j b (L ++ (jlit 12 ++ E)) → isSys s' d ir it aw → isAL s' ir ar Rs.length fr → (E = [] ∨ (E = jlit 13 ∧ rdxL Rs (Ts.getD 0 []))) → Q (jR j) s') : cR (jR i) (fun i45 => rcv s i45 14 ∧ d_SB_append (jR i45) (jR 2000012) s (fun x47 s46 => fV s46 d 12 1 (fun x48 => fV s46 d 12 1 (fun x49 => cR x49 (fun i50 => rcv s46 i50 13 ∧ d_AL_get (jR i50) 1 s46 (fun x52 s51 => cT s51 x52 11 (cR x48 (fun i53 => rcv s51 i53 13 ∧ d_AL_add (jR i53) x52 s51 (fun r55 s54 => fV s54 d 12 1 (fun x56 => cR x56 (fun i57 => rcv s54 i57 13 ∧ d_AL_get (jR i57) 0 s54 (fun x59 s58 => cT s58 x59 11 (fV s58 d 12 1 (fun x60 => cR x60 (fun i61 => rcv s58 i61 13 ∧ d_AL_get (jR i61) 0 s58 (fun x63 s62 => cT s62 x63 11 (rcv s62 d 12 ∧ d_Sys_inner 5 (jR d) x63 s62 (fun r65 s64 => rcv s64 d 12 ∧ d_Sys_step (jR d) x59 r65 s64 (fun x67 s66 => if jand z 1 = 0 then (cN x67 (d_Lw_text_j206 (jR i45) s66 Q) (fun i68 => rcv s66 i45 14 ∧ d_SB_append (jR i45) (jR 2000013) s66 (fun x73 s72 => fV s72 d 12 1 (fun x74 => cR x74 (fun i75 => rcv s72 i75 13 ∧ d_AL_set (jR i75) 0 (jR i68) s72 (fun x77 s76 => cT s76 x77 11 (d_Lw_text_j206 (jR i45) s76 Q))))))) else (d_Lw_text_j206 (jR i45) s66 Q)))))))))))))))))))) := by
  have lnB := hB.ln (by omega)
  have l12 : (jlit 12).length ≤ 10 := by decide
  have l13 : (jlit 13).length ≤ 10 := by decide
  refine i_R ⟨i_rcv hB.2.1.1, c_append (q := 12) (by decide) hB.2.1 (by omega) lnB.1 fun s1 a1 cap1 hA => ?_⟩
  have hB1 := hB.ap hA
  have hS1 := hS.ap h1 (by omega) hB.2.1 hA
  have lnB1 := hB1.ln (by omega)
  obtain ⟨p1, p2, p3, p4, p5, p6, p7⟩ := hS1
  have hdn1 : dn s1 ≤ 900000 := by unfold dn; omega
  refine i_fV p1.1 (by decide) p1.2.2.1 rfl (i_fV p1.1 (by decide) p1.2.2.1 rfl (i_R ⟨i_rcv p3.1, c_AL_get (k := 1) p3 (by omega) ?_⟩))
  obtain ⟨t1, t1r⟩ := p5 1 (by omega)
  obtain ⟨-, j1, hj1, hj1d⟩ := t1.nl
  rw [hj1]
  refine ⟨⟨3, hj1d⟩, i_R ⟨i_rcv p3.1, c_AL_add p3 (by omega) (by omega) ⟨j1, 11, 3, rfl, hj1d, Or.inl rfl⟩ fun s2 tr2 f2 hal2 htr2 => ?_⟩⟩
  have htrt : dh s1 tr = some (199, 10) := by
    rcases p3.2.2.2.2.1 with ⟨e, -⟩ | ⟨e, -⟩
    · omega
    · exact e
  have hart : dh s1 ar = some (199, 10) := by
    rcases p2.2.2.2.2.1 with ⟨e, -⟩ | ⟨e, -⟩
    · omega
    · exact e
  have nit : ∀ j q, dh s1 j = some q → (j = it ∨ j = tr) → q = (13, 3) ∨ q = (199, 10) := fun j q hj e => by
    rcases e with rfl | rfl
    · rw [p3.1] at hj
      exact Or.inl (Option.some.inj hj).symm
    · rw [htrt] at hj
      exact Or.inr (Option.some.inj hj).symm
  have hB2 : isSB s2 i a1 cap1 (L ++ jlit 12) := hB1.2.1.fq f2 fun j q hj e => by
    rcases nit j q hj e with rfl | rfl <;> decide
  have q1 : isSys s2 d ir it aw := p1.fm f2 fun e => by
    rcases nit _ _ p1.1 e with e | e <;> cases e
  have hne : ar ≠ tr := fun e => by
    have := p7 e
    have := dh_lt hart
    omega
  have q2 : isAL s2 ir ar Rs.length fr := p2.fm f2 (fun e => by
    rcases e with e | e
    · exact p6 e
    · have h9 := p2.1
      rw [e, htrt] at h9
      cases h9) (fun e => by
    rcases e with e | e
    · rw [e, p3.1] at hart
      cases hart
    · exact hne e)
  have q4 : ∀ k, k < Rs.length → Rok s2 (fr k) (Rs.getD k ([], [])) := fun k hk => (p4 k hk).fm2 f2 fun j hj e => by
    rcases hj with hj | hj <;> rcases nit _ _ hj e with e | e <;> cases e
  have t0 := (p5 0 (by omega)).1.fm f2 fun j hj e => by
    rcases nit _ _ hj e with e | e <;> cases e
  have q4' : SysR s2 d ir it aw ar fr Rs := ⟨q1, q2, q4, h1⟩
  obtain ⟨-, j0, hj0, hj0d⟩ := t0.nl
  have e0 : (if 0 = Ts.length then jR j1 else ft 0) = jR j0 := by
    rw [if_neg (by omega)]
    exact hj0
  have l2 := f2.len
  have hdn2 := f2.dn
  have dcap := hB1.2.1.2.2.2.2.1.2.2
  refine i_fV q1.1 (by decide) q1.2.2.1 rfl (i_R ⟨i_rcv hal2.1, c_AL_get (k := 0) hal2 (by omega) ?_⟩)
  rw [e0]
  refine ⟨⟨3, hj0d⟩, i_fV q1.1 (by decide) q1.2.2.1 rfl (i_R ⟨i_rcv hal2.1, c_AL_get (k := 0) hal2 (by omega) ?_⟩)⟩
  rw [e0]
  rw [hj0] at t0
  refine ⟨⟨3, hj0d⟩, i_rcv q1.1, c_inner 4 5 (by decide) (by decide) q4' (by omega) (Or.inr t0) (by omega) fun s3 r f3 hr => ?_⟩
  have q3 := q4'.fa f3
  have haw := q4'.awd
  have l3 := f3.len
  refine ⟨i_rcv q3.1.1, c_step q3 (by omega) hr (t0.faw f3 haw) (by omega) fun s4 x f4 hx => ?_⟩
  have q5 := q3.fa f4
  have F24 : Fm (fun j => j = aw) 20 60 s2 s4 := f3.tr f4 (fun _ _ => id) (fun _ _ => id) (by omega) (by omega)
  have hB4 : isSB s4 i a1 cap1 (L ++ jlit 12) := hB2.fq F24 fun j q hj e => by
    have := awW haw j q hj e
    subst this
    decide
  have hal4 : isAL s4 it tr2 (Ts.length + 1) (fun k => if k = Ts.length then jR j1 else ft k) := hal2.fm F24 (ndW haw hal2.1 (by decide)) (by
    rcases hal2.2.2.2.2.1 with ⟨e, -⟩ | ⟨e, -⟩
    · omega
    · exact ndW haw e (by decide))
  have l4 := F24.len
  have hdn4 := F24.dn
  -- all that happened, without the builder's growth
  have G1 : Fm (fun _ => False) (2 + cap1) (4 + 3 * cap1) s0 s1 := hB1.1
  have hd1 := G1.dn
  have lg1 := G1.len
  have G4 : Fm (fun q => q = it ∨ q = tr ∨ q = aw) (2 + cap1 + 21) (4 + 3 * cap1 + 70) s0 s4 := (G1.tr f2 (W := fun q => q = it ∨ q = tr ∨ q = aw) (c := 2 + cap1 + 1) (w := 4 + 3 * cap1 + 10) (fun _ _ h => h.elim) (fun j _ e => by omega) (by omega) (by omega)).tr F24 (fun _ _ => id) (fun j _ e => by omega) (by omega) (by omega)
  have fin : ∀ s5 a5 cap5 E, Fm (fun q => q = it ∨ q = tr ∨ q = aw) (2 + cap5 + 21) (4 + 3 * cap5 + 70) s0 s5 → isSB s5 i a5 cap5 (L ++ (jlit 12 ++ E)) → isSys s5 d ir it aw → isAL s5 ir ar Rs.length fr → (E = [] ∨ (E = jlit 13 ∧ rdxL Rs (Ts.getD 0 []))) → d_Lw_text_j206 (jR i) s5 Q := by
    intro s5 a5 cap5 E G5 hB5 y1 y2 hE
    unfold d_Lw_text_j206
    have c5 := hB5.2.2.2.2.1
    have lE : E.length ≤ 10 := by
      rcases hE with rfl | ⟨rfl, -⟩
      · simp
      · exact l13
    have lg5 := G5.len
    refine i_R ⟨i_rcv hB5.1, c_toString hB5 (by omega) (by rw [List.length_append, List.length_append]; omega) fun s6 j b f6 hstr hj hb => ?_⟩
    have d5 := G5.dn
    refine hq s6 j b E (G5.tr f6 (fun _ _ => id) (fun _ _ h => h.elim) (by omega) (by rw [List.length_append, List.length_append]; omega)) hstr (y1.fm f6 id) (y2.fm f6 id id) hE
  by_cases qz : jand z 1 = 0
  · rw [if_pos qz]
    rcases hx with rfl | ⟨U, hU, hrx⟩
    · exact i_N0 (fin s4 a1 cap1 [] G4 (by rw [List.append_nil]; exact hB4) q5.1 q5.2.1 (Or.inl rfl))
    · obtain ⟨-, jx, rfl, hjx⟩ := hU.nl
      refine i_N1 ⟨i_rcv hB4.1, c_append (q := 13) (by decide) hB4 (by rw [List.length_append]; omega) (by omega) fun s5 a5 cap5 hA5 => ?_⟩
      obtain ⟨r1, r2, r3, r4⟩ := hA5
      have nB : ∀ j q, dh s4 j = some q → (j = i ∨ j = a1) → q.1 = 14 ∨ q.1 = 101 := fun j q hj e => by
        rcases e with rfl | rfl
        · rw [hB4.1] at hj
          exact Or.inl (by rw [← Option.some.inj hj])
        · rw [hB4.2.2.2.2.1.1] at hj
          exact Or.inr (by rw [← Option.some.inj hj])
      have y1 : isSys s5 d ir it aw := q5.1.fm r2 fun e => by
        rcases nB _ _ q5.1.1 e with e | e <;> cases e
      have yal : isAL s5 it tr2 (Ts.length + 1) (fun k => if k = Ts.length then jR j1 else ft k) := hal4.fm r2 (fun e => by
        rcases nB _ _ hal4.1 e with e | e <;> cases e) (fun e => by
        rcases hal4.2.2.2.2.1 with ⟨e9, -⟩ | ⟨e9, -⟩
        · omega
        · rcases nB _ _ e9 e with e | e <;> cases e)
      have y2 : isAL s5 ir ar Rs.length fr := q5.2.1.fm r2 (fun e => by
        rcases nB _ _ q5.2.1.1 e with e | e <;> cases e) (fun e => by
        rcases q5.2.1.2.2.2.2.1 with ⟨e9, -⟩ | ⟨e9, -⟩
        · omega
        · rcases nB _ _ e9 e with e | e <;> cases e)
      have hjx5 := r2.dh hjx
      have hB40 := hB1.2.2
      have G5 : Fm (fun q => q = it ∨ q = tr ∨ q = aw) (2 + cap5 + 21) (4 + 3 * cap5 + 70) s0 s5 := G4.tr r2 (fun _ _ => id) (fun j hj e => by
        rcases e with rfl | rfl
        · omega
        · omega) (by omega) (by omega)
      refine i_fV y1.1 (by decide) y1.2.2.1 rfl (i_R ⟨i_rcv yal.1, c_AL_set (k := 0) yal (by omega) ⟨jx, 11, 3, rfl, hjx5, Or.inl rfl⟩ fun s6 f6 _ => ?_⟩)
      rw [e0]
      have dtr : dh s5 tr2 = some (199, 10) := by
        rcases yal.2.2.2.2.1 with ⟨e9, -⟩ | ⟨e9, -⟩
        · omega
        · exact e9
      have n6 : ∀ j q, dh s5 j = some q → j = tr2 → q = (199, 10) := fun j q hj e => by
        rw [e, dtr] at hj
        exact (Option.some.inj hj).symm
      have hj06 : dh s6 j0 = some (11, 3) := f6.dh (r2.dh (F24.dh hj0d))
      have G6 : Fm (fun q => q = it ∨ q = tr ∨ q = aw) (2 + cap5 + 21) (4 + 3 * cap5 + 70) s0 s6 := G5.tr f6 (fun _ _ => id) (fun j hj e => by
        have e' : j = tr2 := e
        rcases htr2 with e9 | e9
        · exact Or.inr (Or.inl (e'.trans e9))
        · exfalso
          subst e'
          exact absurd hj (Nat.not_lt.mpr (Nat.le_trans hd1.1 e9))) (by omega) (by omega)
      refine ⟨⟨3, hj06⟩, fin s6 a5 cap5 (jlit 13) G6 ?_ (y1.fm f6 fun e => by cases n6 _ _ y1.1 e) (y2.fm f6 (fun e => by cases n6 _ _ y2.1 e) fun e => ?_) (Or.inr ⟨rfl, hrx⟩)⟩
      · rw [← List.append_assoc]
        exact r3.fq f6 fun j q hj e => by
          have := n6 j q hj e
          subst this
          decide
      · rw [← e] at htr2
        rcases htr2 with e9 | e9
        · exact hne e9
        · have := (dh_lt hart).2
          omega
  · rw [if_neg qz]
    exact fin s4 a1 cap1 [] G4 (by rw [List.append_nil]; exact hB4) q5.1 q5.2.1 (Or.inl rfl)
/-- the terms are told -/
theorem c_text2 {s0 : LSt} {z : Int} {Q : JV → LSt → Prop} (hS : SysOk 4 s d ir it aw ar tr fr ft Rs Ts) (h1 : 1 ≤ Rs.length) (h10 : Rs.length ≤ 3) (h2 : 2 ≤ Ts.length) (h3 : Ts.length ≤ 3) (hB : Bdr s0 s i a cap L) (hL : L.length ≤ 250) (hl : (dS s0).length < 800000) (hw0 : dn s0 ≤ 810000) (hq : ∀ s' j b Us E, Fm (fun q => q = it ∨ q = tr ∨ q = aw) 40200 122000 s0 s' → Us.length = Ts.length → okTm Ts Us → (tmT Us).length ≤ 210 → isStr s' j b (L ++ (tmT Us ++ (jlit 12 ++ E))) → isSys s' d ir it aw → isAL s' ir ar Rs.length fr → (E = [] ∨ (E = jlit 13 ∧ rdxL Rs (Ts.getD 0 []))) → Q (jR j) s') : d_Lw_text_l79 (jR d) z (jR i) 0 s Q := by
  refine i_Lw_text_l79 (Inv := fun v3 s' => ∃ (kn a cap : Nat) (Us : List (List Int)), v3 = (kn : Int) ∧ kn ≤ Ts.length ∧ Us.length = kn ∧ okTm Ts Us ∧ SysOk 4 s' d ir it aw ar tr fr ft Rs Ts ∧ Bdr s0 s' i a cap (L ++ tmT Us) ∧ (tmT Us).length ≤ 70 * kn) (fun v3 _ => 5 - v3.toNat) ?_ 0 s ⟨0, a, cap, [], rfl, by omega, rfl, fun k hk => absurd hk (by simp), hS, by show Bdr s0 s i a cap (L ++ []); rw [List.append_nil]; exact hB, by simp [tmT]⟩
  rintro _ s1 ⟨kn, a, cap, Us, rfl, hk, hU, hok, hS1, hB1, hlt⟩ W hW
  unfold d_Lw_text_b79
  have lnB := hB1.ln (by omega)
  have hS1' := hS1
  obtain ⟨p1, p2, p3, p4, p5, p6, p7⟩ := hS1'
  refine i_R (i_fV p1.1 (by decide) p1.2.2.1 rfl (i_R ⟨i_rcv p3.1, c_AL_size p3 ?_⟩))
  by_cases hc : (kn : Int) < (Ts.length : Int)
  · rw [if_pos hc]
    have l11 : (jlit 11).length = 6 := rfl
    refine i_R ⟨i_rcv hB1.2.1.1, c_append (q := 11) (by decide) hB1.2.1 (by rw [List.length_append]; omega) lnB.1 fun s2 a2 cap2 hA => ?_⟩
    have hB2 := hB1.ap hA
    have hS2 := hS1.ap h1 (by omega) hB1.2.1 hA
    have lnB2 := hB2.ln (by omega)
    have hS2' := hS2
    obtain ⟨q1, q2, q3, q4, q5, q6, q7⟩ := hS2'
    refine i_fV q1.1 (by decide) q1.2.2.1 rfl (i_R ⟨i_rcv q3.1, c_AL_get q3 (by omega) ?_⟩)
    have hN := (q5 kn (by omega)).1
    have hNs := hN.sz.2
    have h16 : (2 : Nat) ^ 4 = 16 := by decide
    obtain ⟨-, j1, hj1, hj1d⟩ := hN.nl
    rw [hj1] at hN ⊢
    refine ⟨⟨3, hj1d⟩, c_write 4 5 (by decide) (by decide) hN hB2.2.1 (by simp only [List.length_append]; omega) lnB2.2 fun s3 a3 cap3 S hTW hA3 => ?_⟩
    have hB3 := hB2.ap hA3
    have hS3 := hS2.ap h1 (by omega) hB2.2.1 hA3
    have hTl := hTW.len
    rw [show wr ((kn : Int) + 1) = ((kn + 1 : Nat) : Int) by rw [wr_s (by omega)]; omega]
    refine hW _ _ ⟨kn + 1, a3, cap3, Us ++ [S], rfl, by omega, by rw [List.length_append, hU]; rfl, fun q hq => ?_, hS3, ?_, ?_⟩ (by omega)
    · rw [List.length_append, hU] at hq
      simp only [List.length_cons, List.length_nil] at hq
      by_cases e : q = kn
      · subst e
        rw [← hU, getD_snc, hU]
        exact hTW
      · rw [getD_app_l (by omega)]
        exact hok q (by omega)
    · rw [tmT_app, ← List.append_assoc, ← List.append_assoc]
      exact hB3
    · rw [tmT_app]
      simp only [List.length_append]
      omega
  · rw [if_neg hc]
    have hke : kn = Ts.length := by omega
    have c5 := hB1.2.1.2.2.2.2.1.2.2
    refine c_text3 (s0 := s0) (ft := ft) hS1 h1 h10 h2 h3 hB1 (by rw [List.length_append]; omega) hl hw0 fun s' j b E hF hstr y1 y2 hE => ?_
    exact hq s' j b Us E (hF.mono (fun _ _ => id) (by omega) (by omega)) (by omega) hok (by omega) (by rw [← List.append_assoc]; exact hstr) y1 y2 hE
/-- the rules are told; all of text() -/
theorem c_text {z : Int} {Q : JV → LSt → Prop} (hS : SysOk 4 s d ir it aw ar tr fr ft Rs Ts) (h1 : 1 ≤ Rs.length) (h10 : Rs.length ≤ 3) (h2 : 2 ≤ Ts.length) (h3 : Ts.length ≤ 3) (hl : (dS s).length < 800000) (hq : ∀ s' j b Ss Us E, Fm (fun q => q = it ∨ q = tr ∨ q = aw) 40200 122000 s s' → Ss.length = Rs.length → okRl Rs Ss → Us.length = Ts.length → okTm Ts Us → (txT Ss Us E).length ≤ 480 → isStr s' j b (txT Ss Us E) → isSys s' d ir it aw → isAL s' ir ar Rs.length fr → (E = [] ∨ (E = jlit 13 ∧ rdxL Rs (Ts.getD 0 []))) → Q (jR j) s') : d_Lw_text (jR d) z s Q := by
  have hw0 : dn s ≤ 810000 := by unfold dn; omega
  unfold d_Lw_text
  refine c_SB (q := 7) (by decide) (by omega) fun s0 i a cap hcap F0 hB0 hi ha => ?_
  have l7 : (jlit 7).length ≤ 50 := by decide
  have l8 : (jlit 8).length = 6 := rfl
  have l10 : (jlit 10).length = 3 := rfl
  have hS0 := hS.fm h1 (by omega) F0 fun _ _ _ h => h.elim
  refine i_Lw_text_l12 (Inv := fun v3 s' => ∃ (kn a cap : Nat) (Ss : List (List Int × List Int)), v3 = (kn : Int) ∧ kn ≤ Rs.length ∧ Ss.length = kn ∧ okRl Rs Ss ∧ SysOk 4 s' d ir it aw ar tr fr ft Rs Ts ∧ Bdr s s' i a cap (jlit 7 ++ rlT Ss) ∧ (rlT Ss).length ≤ 65 * kn) (fun v3 _ => 5 - v3.toNat) ?_ 0 s0 ⟨0, a, cap, [], rfl, by omega, rfl, fun k hk => absurd hk (by simp), hS0, ⟨F0, by show isSB s0 i a cap (jlit 7 ++ []); rw [List.append_nil]; exact hB0, hi, ha⟩, by simp [rlT]⟩
  rintro _ s1 ⟨kn, a, cap, Ss, rfl, hk, hSl, hok, hS1, hB1, hlt⟩ W hW
  unfold d_Lw_text_b12
  have lnB := hB1.ln (by omega)
  have hS1' := hS1
  obtain ⟨p1, p2, p3, p4, p5, p6, p7⟩ := hS1'
  refine i_R (i_fV p1.1 (by decide) p1.2.1 rfl (i_R ⟨i_rcv p2.1, c_AL_size p2 ?_⟩))
  by_cases hc : (kn : Int) < (Rs.length : Int)
  · rw [if_pos hc]
    refine i_R ⟨i_rcv hB1.2.1.1, c_append (q := 8) (by decide) hB1.2.1 (by rw [List.length_append]; omega) lnB.1 fun s2 a2 cap2 hA => ?_⟩
    have hB2 := hB1.ap hA
    have hS2 := hS1.ap h1 (by omega) hB1.2.1 hA
    have lnB2 := hB2.ln (by omega)
    have hS2' := hS2
    obtain ⟨q1, q2, q3, q4, q5, q6, q7⟩ := hS2'
    refine i_fV q1.1 (by decide) q1.2.1 rfl (i_R ⟨i_rcv q2.1, c_AL_get q2 (by omega) ?_⟩)
    obtain ⟨j, hj, hj2, hNL, hNR, -, -⟩ := q4 kn (by omega)
    rw [hj]
    have h8' : (2 : Nat) ^ 3 = 8 := by decide
    have szL := hNL.sz.2
    have szR := hNR.sz.2
    refine ⟨⟨2, hj2⟩, i_R ⟨116, 2, _, hj2, by decide, by decide, by decide, rfl, hNL.nl.1, ?_⟩⟩
    refine c_write 3 5 (by decide) (by decide) hNL hB2.2.1 (by simp only [List.length_append]; omega) lnB2.2 fun s3 a3 cap3 SL hTL hA3 => ?_
    have hB3 := hB2.ap hA3
    have hS3 := hS2.ap h1 (by omega) hB2.2.1 hA3
    have lnB3 := hB3.ln (by omega)
    have hTLl := hTL.len
    refine ⟨i_rcv hB3.2.1.1, c_append (q := 10) (by decide) hB3.2.1 (by simp only [List.length_append]; omega) lnB3.1 fun s4 a4 cap4 hA4 => ?_⟩
    have hB4 := hB3.ap hA4
    have hS4 := hS3.ap h1 (by omega) hB3.2.1 hA4
    have lnB4 := hB4.ln (by omega)
    have hS4' := hS4
    obtain ⟨r1, r2, r3, r4, r5, r6, r7⟩ := hS4'
    refine i_fV r1.1 (by decide) r1.2.1 rfl (i_R ⟨i_rcv r2.1, c_AL_get r2 (by omega) ?_⟩)
    obtain ⟨j', hj', hj2', hNL', hNR', -, -⟩ := r4 kn (by omega)
    rw [hj']
    refine ⟨⟨2, hj2'⟩, i_R ⟨116, 2, _, hj2', by decide, by decide, by decide, rfl, hNR'.nl.1, ?_⟩⟩
    refine c_write 3 5 (by decide) (by decide) hNR' hB4.2.1 (by simp only [List.length_append]; omega) lnB4.2 fun s5 a5 cap5 SR hTR hA5 => ?_
    have hB5 := hB4.ap hA5
    have hS5 := hS4.ap h1 (by omega) hB4.2.1 hA5
    have hTRl := hTR.len
    rw [show wr ((kn : Int) + 1) = ((kn + 1 : Nat) : Int) by rw [wr_s (by omega)]; omega]
    refine hW _ _ ⟨kn + 1, a5, cap5, Ss ++ [(SL, SR)], rfl, by omega, by rw [List.length_append, hSl]; rfl, fun q hq => ?_, hS5, ?_, ?_⟩ (by omega)
    · rw [List.length_append, hSl] at hq
      simp only [List.length_cons, List.length_nil] at hq
      by_cases e : q = kn
      · subst e
        rw [← hSl, getD_snc, hSl]
        exact ⟨hTL, hTR⟩
      · rw [getD_app_l (by omega)]
        exact hok q (by omega)
    · rw [rlT_app]
      have := hB5
      simp only [List.append_assoc] at this ⊢
      exact this
    · rw [rlT_app]
      simp only [List.length_append]
      omega
  · rw [if_neg hc]
    refine c_text2 (s0 := s) (ft := ft) hS1 h1 h10 h2 h3 hB1 (by rw [List.length_append]; omega) hl hw0 fun s' j b Us E hF hU hokU htl hstr y1 y2 hE => ?_
    have l12 : (jlit 12).length ≤ 7 := by decide
    have lE : E.length ≤ 7 := by
      rcases hE with rfl | ⟨rfl, -⟩
      · simp
      · decide
    refine hq s' j b Ss Us E hF (by omega) hok hU hokU ?_ ?_ y1 y2 hE
    · unfold txT
      simp only [List.length_append]
      omega
    · unfold txT
      rw [← List.append_assoc]
      exact hstr
end L96j
