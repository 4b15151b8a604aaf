/-! DEPTH -/
def lm : List Nat → Nat
  | [] => 0
  | h :: hs => max h (lm hs)
/-- the depths of a row's terms -/
def hts : List Int → List Nat
  | [] => []
  | c :: r => (1 + lm ((hts r).take (ar c))) :: (hts r).drop (ar c)
theorem hts_len : ∀ (L : List Int) (d : Nat), wl L d = true → (hts L).length = d := by
  intro L
  induction L with
  | nil => intro d h; cases d with
    | zero => rfl
    | succ d => cases h
  | cons c r ih =>
    intro d h
    cases d with
    | zero => cases h
    | succ d =>
      rw [wl_cons] at h
      have := ih _ h
      rw [hts, List.length_cons, List.length_drop, this]
      omega
theorem lm_le : ∀ (hs : List Nat) (n : Nat), (∀ x, x ∈ hs → x ≤ n) → lm hs ≤ n := by
  intro hs
  induction hs with
  | nil => intro n _; exact Nat.zero_le _
  | cons h hs ih =>
    intro n k
    have h1 := k h (List.mem_cons_self ..)
    have h2 := ih n fun x hx => k x (List.mem_cons_of_mem _ hx)
    rw [lm]
    omega
theorem hts_le : ∀ (L : List Int), ∀ x, x ∈ hts L → x ≤ L.length := by
  intro L
  induction L with
  | nil => intro x hx; cases hx
  | cons c r ih =>
    intro x hx
    rw [hts] at hx
    rw [List.length_cons]
    rcases List.mem_cons.mp hx with rfl | hx
    · have := lm_le ((hts r).take (ar c)) r.length fun y hy => ih y (List.mem_of_mem_take hy)
      omega
    · have := ih x (List.mem_of_mem_drop hx)
      omega
def dpt (T : List Int) : Nat := (hts T).headD 0
theorem lm_app : ∀ A B : List Nat, lm (A ++ B) = max (lm A) (lm B) := by
  intro A
  induction A with
  | nil => intro B; simp [lm]
  | cons h A ih => intro B; rw [List.cons_append, lm, lm, ih]; omega
section D63
variable {μ : Mem}
/-- a stack of depths in a row -/
def Hst (f : Nat → Int) (s : List Nat) : Prop := ∀ i, i < s.length → f i = ((s.getD (s.length - 1 - i) 0 : Nat) : Int)
theorem c_depthOf {a : Nat} {T : List Int} {Q : Int → Mem → Prop} (hT : IsT μ a T) (ha : a + 1 < 771) (wT : wkt T) (h80 : T.length ≤ 80) (h : ∀ μ', Fr 771 772 μ μ' → Q (dpt T : Nat) μ') : d_OB_depthOf a μ Q := by
  unfold d_OB_depthOf
  have hpos := wl_len (d := 0) wT.1
  rw [hT.1, wr_id (by omega) (by omega)]
  refine i_OB_depthOf_l12 (Inv := fun v2 v3 v4 μ1 => ∃ p : Nat, v4 = (p : Int) - 1 ∧ p ≤ T.length ∧ v2 = ((hts (T.drop p)).length : Nat) ∧ v3 = ((hts (T.drop p)).headD 0 : Nat) ∧ Hst (μ1 771) (hts (T.drop p)) ∧ Fr 771 772 μ μ1) (fun _ _ v4 _ => (v4 + 1).toNat) ?_ 0 0 _ μ ⟨T.length, rfl, Nat.le_refl _, by rw [List.drop_length]; rfl, by rw [List.drop_length]; rfl, by rw [List.drop_length]; exact fun i hi => absurd hi (by simp [hts]), Fr.rfl'⟩
  rintro _ _ _ μ1 ⟨p, rfl, hp, rfl, rfl, hst, hF⟩ W hW
  unfold d_OB_depthOf_b12
  cases p with
  | zero =>
    rw [if_pos (by omega)]
    rw [List.drop_zero]
    exact h _ hF
  | succ p =>
    rw [if_neg (by omega), show ((p + 1 : Nat) : Int) - 1 = (p : Int) by omega]
    have hpl : p < T.length := by omega
    refine c_Term_getN (hT.frR hF (by omega)) hpl ?_
    have h32 := wT.2 _ (gm0 hpl)
    refine c_arityOf h32 ?_
    obtain ⟨e, he1, he2⟩ := wl_drop T 1 wT.1 p (by omega)
    have hd := he1
    rw [dropc hpl] at hd
    have he3 := he2 hpl
    obtain ⟨e, rfl⟩ : ∃ e', e = e' + 1 := ⟨e - 1, by omega⟩
    rw [wl_cons] at hd
    have hlen := hts_len _ _ hd
    have eh : hts (T.drop p) = (1 + lm ((hts (T.drop (p + 1))).take (ar (T.getD p 0)))) :: (hts (T.drop (p + 1))).drop (ar (T.getD p 0)) := by rw [dropc hpl, hts]
    have hle := hts_le (T.drop (p + 1))
    rw [List.length_drop] at hle
    generalize hts (T.drop (p + 1)) = S at *
    generalize ar (T.getD p 0) = n at *
    -- e + n depths stand; each is of a term of its own
    have hS80 : S.length ≤ 79 := by
      have k1 : S.length = e + n := hlen
      have k2 : e + n ≤ T.length - (p + 1) := by
        have : ∀ (L : List Int) (d : Nat), wl L d = true → d ≤ L.length := by
          intro L
          induction L with
          | nil => intro d h; cases d with
            | zero => exact Nat.le_refl _
            | succ d => cases h
          | cons c r ih => intro d h; cases d with
            | zero => exact Nat.zero_le _
            | succ d => have := ih _ h; rw [List.length_cons]; omega
        have := this _ _ hd
        rw [List.length_drop] at this
        omega
      omega
    refine i_OB_depthOf_l30 (Inv := fun v2 v3 v5 => ∃ j : Nat, j ≤ n ∧ v5 = ((n - j : Nat) : Int) ∧ v2 = ((S.length - j : Nat) : Int) ∧ v3 = ((lm (S.take j) : Nat) : Int)) (fun _ _ v5 => v5.toNat) ?_ _ 0 _ ⟨0, Nat.zero_le _, by rw [Nat.sub_zero], by rw [Nat.sub_zero], by rw [List.take_zero]; rfl⟩
    rintro _ _ _ ⟨j, hj, rfl, rfl, rfl⟩ W' hW'
    unfold d_OB_depthOf_b30
    have hlm : lm (S.take j) ≤ 80 := lm_le _ _ fun x hx => by have := hle x (List.mem_of_mem_take hx); omega
    by_cases hjn : j < n
    · rw [if_pos (by omega)]
      simp (disch := omega) only [wr_id]
      rw [if_neg (by omega), if_pos (by omega)]
      refine ⟨by omega, ?_⟩
      have et : μ1 771 (((S.length - j : Nat) : Int) + -1).toNat = ((S.getD j 0 : Nat) : Int) := by
        rw [show (((S.length - j : Nat) : Int) + -1).toNat = S.length - 1 - j by omega, hst _ (by omega), show S.length - 1 - (S.length - 1 - j) = j by omega]
      rw [et]
      refine c_Math_max fun z hz hz1 hz2 => ?_
      unfold d_OB_depthOf_j62
      simp (disch := omega) only [wr_id]
      refine hW' _ _ _ ⟨j + 1, by omega, by omega, by omega, ?_⟩ (by omega)
      have hjS : j < S.length := by omega
      rw [List.take_succ_eq_append_getElem hjS, lm_app, lm, lm]
      have e2 : S.getD j 0 = S[j] := by rw [List.getD_eq_getElem?_getD, List.getElem?_eq_getElem hjS]; rfl
      rw [e2] at hz hz2
      omega
    · rw [if_neg (by omega)]
      obtain rfl : j = n := by omega
      simp (disch := omega) only [wr_id]
      unfold d_OB_depthOf_j91
      simp (disch := omega) only [wr_id]
      have hlt80 : S.length - j < 80 := by omega
      rw [if_neg (by omega), if_pos (by omega)]
      refine ⟨by omega, ?_⟩
      rw [Int.toNat_natCast]
      refine hW _ _ _ _ ⟨p, by omega, by omega, ?_, ?_, ?_, hF.tr (Fr.up (lo := 771) (hi := 772) (by omega)) (by omega) (by omega)⟩ (by omega)
      · rw [eh, List.length_cons, List.length_drop]; omega
      · rw [eh, List.headD_cons]; omega
      · rw [eh]
        intro i hi
        rw [List.length_cons, List.length_drop] at hi ⊢
        rw [getD_cons, mup_a]
        by_cases ei : i = S.length - j
        · rw [if_pos ei, if_pos (by omega)]; omega
        · rw [if_neg ei, if_neg (by omega), hst i (by omega), getD_drop]
          congr 2
          omega
/-- what a stack of counts and the depths of what is to come make of the depth -/
def mx : List Nat → List Nat → Nat
  | [], hs => lm hs
  | n :: s, hs => if n = 0 then mx s hs else max (lm (hs.take n) + (s.length + 1)) (mx s (hs.drop n))
theorem lm_split (hs : List Nat) (n : Nat) : lm hs = max (lm (hs.take n)) (lm (hs.drop n)) := by
  rw [← lm_app, List.take_append_drop]
/-- one node: below a stack whose top is not empty -/
theorem mx_node {n a : Nat} {s hs : List Nat} {D : Nat} (ha : a ≤ hs.length) : max D (mx ((n + 1) :: s) ((1 + lm (hs.take a)) :: hs.drop a)) = max (max D (s.length + 2)) (mx (a :: n :: s) hs) := by
  have e1 : mx (a :: n :: s) hs = (if a = 0 then mx (n :: s) hs else max (lm (hs.take a) + (s.length + 2)) (mx (n :: s) (hs.drop a))) := rfl
  have e2 : ∀ X, mx (n :: s) X = (if n = 0 then mx s X else max (lm (X.take n) + (s.length + 1)) (mx s (X.drop n))) := fun X => rfl
  rw [mx, if_neg (by omega), List.take_succ_cons, List.drop_succ_cons, lm, e1]
  by_cases h0 : a = 0
  · subst h0
    rw [if_pos rfl, List.take_zero, List.drop_zero, e2]
    have : lm [] = 0 := rfl
    by_cases hn : n = 0
    · subst hn
      rw [if_pos rfl, List.take_zero, List.drop_zero]
      omega
    · rw [if_neg hn]
      omega
  · rw [if_neg h0, e2]
    by_cases hn : n = 0
    · subst hn
      rw [if_pos rfl, List.take_zero, List.drop_zero]
      have : lm [] = 0 := rfl
      omega
    · rw [if_neg hn]
      omega
theorem mx_node0 {a : Nat} {hs : List Nat} {D : Nat} (ha : a ≤ hs.length) : max D (mx [] ((1 + lm (hs.take a)) :: hs.drop a)) = max (max D 1) (mx [a] hs) := by
  have e1 : mx [a] hs = (if a = 0 then lm hs else max (lm (hs.take a) + 1) (lm (hs.drop a))) := rfl
  rw [mx, lm, e1]
  by_cases h0 : a = 0
  · subst h0
    rw [if_pos rfl, List.take_zero, List.drop_zero]
    have : lm [] = 0 := rfl
    omega
  · rw [if_neg h0]
    omega
/-- the reference's stack of what is open -/
def Ost (f : Nat → Int) (s : List Nat) : Prop := (∀ i, i < s.length → f i = ((s.getD (s.length - 1 - i) 0 : Nat) : Int)) ∧ ∀ d, d ∈ s → d ≤ 3
theorem Ost.top {f : Nat → Int} {d : Nat} {s : List Nat} (h : Ost f (d :: s)) : f s.length = (d : Int) := by
  have := h.1 s.length (by simp)
  rw [List.length_cons, show s.length + 1 - 1 - s.length = 0 by omega] at this
  exact this
theorem Ost.pop {f g : Nat → Int} {d : Nat} {s : List Nat} (h : Ost f (d :: s)) (hg : ∀ i, i < s.length → g i = f i) : Ost g s := by
  refine ⟨fun i hi => ?_, fun x hx => h.2 x (List.mem_cons_of_mem _ hx)⟩
  rw [hg i hi, h.1 i (by simp; omega), List.length_cons, getD_cons, if_neg (by omega)]
  congr 2
  omega
theorem Ost.push {f g : Nat → Int} {d : Nat} {s : List Nat} (h : Ost f s) (hd : d ≤ 3) (hg : ∀ i, i < s.length → g i = f i) (ht : g s.length = (d : Int)) : Ost g (d :: s) := by
  refine ⟨fun i hi => ?_, fun x hx => ?_⟩
  · rw [List.length_cons] at hi ⊢
    rw [getD_cons]
    by_cases e : i = s.length
    · subst e
      rw [if_pos (by omega)]
      exact ht
    · rw [if_neg (by omega), hg i (by omega), h.1 i (by omega)]
      congr 2
      omega
  · rcases List.mem_cons.mp hx with rfl | hx
    · exact hd
    · exact h.2 x hx
theorem mx_le : ∀ (s hs : List Nat), (∀ x, x ∈ hs → x ≤ 80) → mx s hs ≤ 80 + s.length := by
  intro s
  induction s with
  | nil => intro hs h; have := lm_le hs 80 h; rw [mx, List.length_nil]; omega
  | cons n s ih =>
    intro hs h
    rw [mx, List.length_cons]
    have h1 := ih hs h
    have h2 := ih (hs.drop n) fun x hx => h x (List.mem_of_mem_drop hx)
    have h3 := lm_le (hs.take n) 80 fun x hx => h x (List.mem_of_mem_take hx)
    split <;> omega
end D63
def sp_termDepth (A : AS) (v1 : Int) : Int × Int := g1 (aL A) (decide (0 ≤ v1 ∧ v1 < ((aT A).length : Int))) ((dpt ((aT A).getD v1.toNat []) : Nat) : Int)
theorem w_termDepth {μ : Mem} {A : AS} {Q : Int → Mem → Prop} {v1 : Int} (hI : CI μ A) (hA : AOK A) (h : WQ μ A (sp_termDepth A v1) Q) : d_Lw_termDepth v1 μ Q := by
  unfold d_Lw_termDepth d_OB_termDepth
  unfold sp_termDepth at h
  refine c_reqTerm hI (fun e => ?_) (fun e en => ?_) (fun e i hv hi => ?_)
  · rw [e] at h
    exact h.t1 hI Fq.rfl'
  · rw [e, decide_eq_false en] at h
    exact h.t2 hI Fq.rfl'
  · subst hv
    rw [e, decide_eq_true (by omega)] at h
    simp only [Int.toNat_natCast] at h
    have h6 := hA.t6
    have q1 := tc5r i (by omega)
    refine c_depthOf (hI.term hi) (by omega) (okt_wkt (hA.term hi) hA.ars) (hA.term hi).2.1 fun μ1 hF => ?_
    have hq : Fq μ μ1 := fun b hb => hF b (by omega)
    exact h.ok (hq.ci hI) hq rfl
theorem mm_dnode {μ : Mem} {A : AS} {Q : Int → Mem → Prop} {W : Int → Int → Int → Mem → Prop} {i k D d : Nat} {T : List Int} (hI0 : MI μ A) (hA : AOK A) (hi : i < (aT A).length) (h6 : (aT A).length ≤ 6) (ok : okt (arS (aS A)) 8 80 T) (l80 : T.length ≤ 80) (hm : Me (μ 773) (224 + 81 * i) T) (hkl : k < T.length) (hd : wl (T.drop k) d = true) (hD : D ≤ 81)
    (hW : ∀ (v2' v3' v4' : Int) (μ' : Mem), (∃ (k D : Nat) (s : List Nat), v4' = k ∧ v2' = D ∧ v3' = (s.length : Nat) ∧ k ≤ T.length ∧ s.length ≤ k ∧ D ≤ 81 ∧ Ost (μ' 779) s ∧ Gm [779] [] μ μ' ∧ (∃ d, wl (T.drop k) d = true ∧ d = s.sum + (if k = 0 then 1 else 0)) ∧ dpt T = max D (mx s (hts (T.drop k)))) → T.length - v4'.toNat < T.length - ((k : Int)).toNat → W v2' v3' v4' μ')
    (t' : List Nat) (μ2 : Mem) (v3 : Int) (hv3 : v3 = (t'.length : Int)) (htk' : t'.length ≤ k) (hst2 : Ost (μ2 779) t') (hG2 : Gm [779] [] μ μ2) (hmx : ∀ a : Nat, a ≤ 3 → wl (T.drop (k + 1)) (a + t'.sum) = true → a = ar (T.getD k 0) → dpt T = max (max D (t'.length + 1)) (mx (a :: t') (hts (T.drop (k + 1))))) (hdt : d = t'.sum + 1) : d_Md_termDepth_j64 (i : Int) (D : Int) v3 (k : Int) μ2 W Q := by
  have e773 : ∀ μ2, Gm [779] [] μ μ2 → μ2 773 = μ 773 := fun μ2 g => g.1 773 (by decide) (by decide)
  unfold d_Md_termDepth_j64 d_Md_termDepth_j109
  subst hv3
  rw [wr_id (z := (t'.length : Int) + 1) (by omega) (by omega)]
  refine c_Math_max fun z hz hz1 hz2 => ?_
  have hA2 : AR μ2 (arS (aS A)) := (hI0.AR hA).gm (e773 _ hG2)
  have hm2 : Me (μ2 773) (224 + 81 * i) T := by rw [e773 _ hG2]; exact hm
  have hc := ok.2.2 _ (gm0 hkl)
  have har := ar_le (T.getD k 0)
  refine c_nodeOf (by omega) hkl l80 hm2 (c_mArityOf hA2 hc ?_)
  rw [dropc hkl, hdt, wl_cons] at hd
  have hm3 := hmx (ar (T.getD k 0)) har (by rw [Nat.add_comm (ar (T.getD k 0))]; exact hd) rfl
  obtain ⟨zn, rfl⟩ : ∃ zn : Nat, z = zn := ⟨z.toNat, by omega⟩
  have hzn : zn = max D (t'.length + 1) := by omega
  by_cases h0 : ar (T.getD k 0) = 0
  · rw [if_pos (by omega), wr_id (by omega) (by omega)]
    refine hW _ _ _ _ ⟨k + 1, zn, t', by omega, rfl, rfl, by omega, by omega, by omega, hst2, hG2, ⟨t'.sum, by rw [h0, Nat.add_zero] at hd; exact hd, by rw [if_neg (by omega), Nat.add_zero]⟩, ?_⟩ (by omega)
    rw [hm3, h0, hzn]
    rfl
  · rw [if_neg (by omega)]
    refine c_nodeOf (by omega) hkl l80 hm2 (c_mArityOf hA2 hc ⟨by omega, ?_⟩)
    rw [wr_id (by omega) (by omega), Int.toNat_natCast]
    refine hW _ _ _ _ ⟨k + 1, zn, ar (T.getD k 0) :: t', by omega, rfl, by rw [List.length_cons]; omega, by omega, by rw [List.length_cons]; omega, by omega, hst2.push har (fun j hj => mup_k (by omega)) mup_s, hG2.same (Gm.upR (by decide)), ⟨ar (T.getD k 0) + t'.sum, by rw [Nat.add_comm (ar (T.getD k 0))]; exact hd, by rw [List.sum_cons, if_neg (by omega), Nat.add_zero]⟩, ?_⟩ (by omega)
    rw [hm3, hzn]
theorem mm_dcons {μ : Mem} {n k D d : Nat} {T : List Int} {P : Prop} {t : List Nat} {μ1 : Mem} (hn3 : n + 1 ≤ 3)
    (hP : (n :: t).length ≤ k → Ost (mup μ1 779 t.length (((n + 1 : Nat) : Int) - 1) 779) (n :: t) → Gm [779] [] μ (mup μ1 779 t.length (((n + 1 : Nat) : Int) - 1)) → (∀ a : Nat, a ≤ 3 → wl (T.drop (k + 1)) (a + (n :: t).sum) = true → a = ar (T.getD k 0) → dpt T = max (max D ((n :: t).length + 1)) (mx (a :: n :: t) (hts (T.drop (k + 1))))) → d = (n :: t).sum + 1 → P)
    (hst' : Ost (μ1 779) ((n + 1) :: t)) (htk : t.length + 1 ≤ k) (hds' : d = n + 1 + t.sum) (hx' : dpt T = max D (mx ((n + 1) :: t) (hts (T.drop k)))) (hmlen : (hts (T.drop k)).length = d)
    (eh : hts (T.drop k) = (1 + lm ((hts (T.drop (k + 1))).take (ar (T.getD k 0)))) :: (hts (T.drop (k + 1))).drop (ar (T.getD k 0)))
    (hale : ∀ a : Nat, ∀ q : Nat, wl (T.drop (k + 1)) (a + q) = true → a ≤ (hts (T.drop (k + 1))).length) (hG : Gm [779] [] μ μ1) : P := by
  have hp1 : Ost (mup μ1 779 t.length (((n + 1 : Nat) : Int) - 1) 779) t := hst'.pop fun j hj => mup_k (by omega)
  have hp2 : Ost (mup μ1 779 t.length (((n + 1 : Nat) : Int) - 1) 779) (n :: t) := hp1.push (by omega) (fun _ _ => rfl) (by rw [mup_s]; omega)
  refine hP (by rw [List.length_cons]; omega) hp2 (hG.same (Gm.upR (by decide))) (fun a ha hw haa => ?_) (by rw [List.sum_cons]; omega)
  rw [hx', eh, ← haa, mx_node (hale a _ hw), List.length_cons]
theorem mm_dabs {μ : Mem} {J : Int → Mem → Prop} {k D d : Nat} {T : List Int} (l80 : T.length ≤ 80) (hkl : k < T.length) (hd : wl (T.drop k) d = true)
    (hJ : ∀ (t' : List Nat) (μ2 : Mem) (v3 : Int), v3 = (t'.length : Int) → t'.length ≤ k → Ost (μ2 779) t' → Gm [779] [] μ μ2 → (∀ a : Nat, a ≤ 3 → wl (T.drop (k + 1)) (a + t'.sum) = true → a = ar (T.getD k 0) → dpt T = max (max D (t'.length + 1)) (mx (a :: t') (hts (T.drop (k + 1))))) → d = t'.sum + 1 → J v3 μ2)
    {μ1 : Mem} (hG : Gm [779] [] μ μ1) {t : List Nat} {W' : Int → Prop} (htk : t.length ≤ k) (hst' : Ost (μ1 779) t) (hds' : d = t.sum + (if k = 0 then 1 else 0)) (hx' : dpt T = max D (mx t (hts (T.drop k))))
    (hW' : ∀ v3' : Int, (∃ t : List Nat, v3' = (t.length : Nat) ∧ t.length ≤ k ∧ Ost (μ1 779) t ∧ d = t.sum + (if k = 0 then 1 else 0) ∧ dpt T = max D (mx t (hts (T.drop k)))) → v3'.toNat < ((t.length : Nat) : Int).toNat → W' v3')
    {v3 : Int} (hv3 : v3 = ((t.length : Nat) : Int)) {J48 : Prop} (h48 : J48 = if 0 < v3 then ((0 ≤ wr (v3 - 1) ∧ wr (v3 - 1) < 81) ∧ (0 ≤ wr (v3 - 1) ∧ wr (v3 - 1) < 81) ∧ J v3 (mup μ1 779 (wr (v3 - 1)).toNat (wr ((μ1 779 (wr (v3 - 1)).toNat) - 1)))) else J v3 μ1) :
    if 0 < v3 then ((0 ≤ wr (v3 - 1) ∧ wr (v3 - 1) < 81) ∧ if μ1 779 (wr (v3 - 1)).toNat = 0 then (W' (wr (v3 + (-1)))) else J48) else J48 := by
  subst hv3
  have hmlen := hts_len _ _ hd
  have eh : hts (T.drop k) = (1 + lm ((hts (T.drop (k + 1))).take (ar (T.getD k 0)))) :: (hts (T.drop (k + 1))).drop (ar (T.getD k 0)) := by rw [dropc hkl, hts]
  have hale : ∀ a : Nat, ∀ q : Nat, wl (T.drop (k + 1)) (a + q) = true → a ≤ (hts (T.drop (k + 1))).length := fun a q hw => by rw [hts_len _ _ hw]; omega
  cases t with
  | nil =>
    rw [if_neg (by simp)]
    rw [h48, if_neg (by simp)]
    have hk0 : k = 0 := by
      rw [List.sum_nil, Nat.zero_add] at hds'
      by_cases e : k = 0
      · exact e
      · rw [if_neg e] at hds'
        rw [hds', dropc hkl] at hd
        cases hd
    refine hJ [] μ1 _ rfl (Nat.zero_le _) hst' hG (fun a ha hw haa => ?_) (by rw [hds', List.sum_nil, if_pos hk0])
    rw [hx', eh, ← haa, mx_node0 (hale a _ hw)]
    rfl
  | cons n t =>
    rw [List.length_cons] at htk
    have e0 : wr ((((n :: t).length : Nat) : Int) - 1) = ((t.length : Nat) : Int) := by rw [List.length_cons, wr_id (by omega) (by omega)]; omega
    rw [if_pos (by simp), e0]
    refine ⟨by omega, ?_⟩
    cases n with
    | zero =>
      rw [Int.toNat_natCast, hst'.top]
      rw [if_pos (show ((0 : Nat) : Int) = 0 from rfl), wr_id (by rw [List.length_cons]; omega) (by rw [List.length_cons]; omega)]
      refine hW' _ ⟨t, by rw [List.length_cons]; omega, by omega, hst'.pop fun _ _ => rfl, by rw [List.sum_cons, Nat.zero_add] at hds'; exact hds', ?_⟩ (by rw [List.length_cons]; omega)
      rw [hx']
      rfl
    | succ n =>
      have hn3 : n + 1 ≤ 3 := hst'.2 (n + 1) (List.mem_cons_self ..)
      rw [Int.toNat_natCast, hst'.top, if_neg (by omega), h48, if_pos (by simp), e0]
      refine ⟨by omega, by omega, ?_⟩
      rw [Int.toNat_natCast, hst'.top, wr_id (by omega) (by omega)]
      have hk0 : ¬ k = 0 := by omega
      rw [if_neg hk0, Nat.add_zero, List.sum_cons] at hds'
      have el : (((n + 1) :: t).length : Int) = ((n :: t).length : Int) := by simp
      rw [el]
      refine mm_dcons ?_ ?_ hst' htk hds' hx' hmlen eh hale hG
      · omega
      · intro hl3 hp2 hG3 hz hd3
        exact hJ (n :: t) _ _ rfl hl3 hp2 hG3 hz hd3
theorem mm_dstep {μ : Mem} {A : AS} {Q : Int → Mem → Prop} {W : Int → Int → Int → Mem → Prop} {i k D d : Nat} {T : List Int} (hI0 : MI μ A) (hA : AOK A) (hi : i < (aT A).length) (h6 : (aT A).length ≤ 6) (ok : okt (arS (aS A)) 8 80 T) (l80 : T.length ≤ 80) (hm : Me (μ 773) (224 + 81 * i) T) (hkl : k < T.length) (hd : wl (T.drop k) d = true) (hD : D ≤ 81)
    (hW : ∀ (v2' v3' v4' : Int) (μ' : Mem), (∃ (k D : Nat) (s : List Nat), v4' = k ∧ v2' = D ∧ v3' = (s.length : Nat) ∧ k ≤ T.length ∧ s.length ≤ k ∧ D ≤ 81 ∧ Ost (μ' 779) s ∧ Gm [779] [] μ μ' ∧ (∃ d, wl (T.drop k) d = true ∧ d = s.sum + (if k = 0 then 1 else 0)) ∧ dpt T = max D (mx s (hts (T.drop k)))) → T.length - v4'.toNat < T.length - ((k : Int)).toNat → W v2' v3' v4' μ')
    {μ1 : Mem} (hG : Gm [779] [] μ μ1) {t : List Nat} {W' : Int → Prop} (htk : t.length ≤ k) (hst' : Ost (μ1 779) t) (hds' : d = t.sum + (if k = 0 then 1 else 0)) (hx' : dpt T = max D (mx t (hts (T.drop k))))
    (hW' : ∀ v3' : Int, (∃ t : List Nat, v3' = (t.length : Nat) ∧ t.length ≤ k ∧ Ost (μ1 779) t ∧ d = t.sum + (if k = 0 then 1 else 0) ∧ dpt T = max D (mx t (hts (T.drop k)))) → v3'.toNat < ((t.length : Nat) : Int).toNat → W' v3') : d_Md_termDepth_b27 (i : Int) (D : Int) (k : Int) (t.length : Int) μ1 W W' Q := by
  exact mm_dabs l80 hkl hd (J := fun v3 μ2 => d_Md_termDepth_j64 (i : Int) (D : Int) v3 (k : Int) μ2 W Q) (mm_dnode hI0 hA hi h6 ok l80 hm hkl hd hD hW) hG htk hst' hds' hx' hW' rfl rfl
theorem mm_termDepth {μ : Mem} {A : AS} {Q : Int → Mem → Prop} {v1 : Int} (hI : MI μ A) (hA : AOK A) (h : MQI μ A (sp_termDepth A v1) Q) : d_Md_termDepth v1 μ Q := by
  unfold d_Md_termDepth
  unfold sp_termDepth at h
  refine c_mayTerm hI hA (fun e => ?_) (fun e en => ?_) (fun e i hv hi => ?_)
  · rw [e] at h
    exact h.t1 hI
  · rw [e, decide_eq_false en] at h
    exact h.t2 hI
  · subst hv
    rw [e, decide_eq_true (by omega)] at h
    simp only [Int.toNat_natCast] at h
    have hI0 : MI (mup μ 772 0 0) A := hI.f0 (by decide)
    rw [if_pos rfl]
    have h6 := hA.t6
    have ok := hA.term hi
    have l80 := ok.2.1
    have hm := hI0.term hi
    have hsz := hI0.size hi
    generalize hT : (aT A).getD i [] = T at *
    refine i_Md_termDepth_l17 (Inv := fun v2 v3 v4 μ1 => ∃ (k D : Nat) (s : List Nat), v4 = k ∧ v2 = D ∧ v3 = (s.length : Nat) ∧ k ≤ T.length ∧ s.length ≤ k ∧ D ≤ 81 ∧ Ost (μ1 779) s ∧ Gm [779] [] (mup μ 772 0 0) μ1 ∧ (∃ d, wl (T.drop k) d = true ∧ d = s.sum + (if k = 0 then 1 else 0)) ∧ dpt T = max D (mx s (hts (T.drop k)))) (fun _ _ v4 _ => T.length - v4.toNat) ?_ 0 0 0 _ ⟨0, 0, [], rfl, rfl, rfl, Nat.zero_le _, Nat.le_refl _, by omega, ⟨fun i hi => absurd hi (by simp), fun d hd => by cases hd⟩, Gm.rfl', ⟨1, ok.1, rfl⟩, ?_⟩
    · rintro _ _ _ μ1 ⟨k, D, s, rfl, rfl, rfl, hk, hsk, hD, hst, hG, ⟨d, hd, hds⟩, hx⟩ W hW
      unfold d_Md_termDepth_b17
      have e773 : ∀ μ2, Gm [779] [] (mup μ 772 0 0) μ2 → μ2 773 = mup μ 772 0 0 773 := fun μ2 g => g.1 773 (by decide) (by decide)
      refine c_sizeOf (by omega) ?_
      rw [e773 _ hG, hsz]
      by_cases hkl : k < T.length
      · rw [if_pos (by omega)]
        -- the empty ones leave the stack
        refine i_Md_termDepth_l27 (Inv := fun v3 => ∃ t : List Nat, v3 = (t.length : Nat) ∧ t.length ≤ k ∧ Ost (μ1 779) t ∧ d = t.sum + (if k = 0 then 1 else 0) ∧ dpt T = max D (mx t (hts (T.drop k)))) (fun v3 => v3.toNat) ?_ _ ⟨s, rfl, hsk, hst, hds, hx⟩
        rintro _ ⟨t, rfl, htk, hst', hds', hx'⟩ W' hW'
        exact mm_dstep hI0 hA hi h6 ok l80 hm hkl hd hD hW hG htk hst' hds' hx' hW'
      · rw [if_neg (by omega)]
        have hk' : k = T.length := by omega
        rw [hk', List.drop_length] at hx
        have hz : ∀ s : List Nat, mx s [] ≤ D → True := fun _ _ => trivial
        have hall : mx s (hts []) = 0 := by
          have hw : wl (T.drop k) d = true := hd
          rw [hk', List.drop_length] at hw
          have hd0 : d = 0 := by
            cases d with
            | zero => rfl
            | succ d => cases hw
          have hs0 : s.sum = 0 := by omega
          have : ∀ s : List Nat, s.sum = 0 → mx s [] = 0 := by
            intro s
            induction s with
            | nil => intro _; rfl
            | cons n s ih =>
              intro h
              rw [List.sum_cons] at h
              rw [mx, if_pos (by omega)]
              exact ih (by omega)
          exact this s hs0
        rw [hall] at hx
        exact h.ok hI (hG.mono (by decide) (by decide)) (by rw [hx]; congr 1; omega)
    · rw [List.drop_zero]
      have e1 := hts_len _ _ ok.1
      unfold dpt
      cases hh : hts T with
      | nil => rw [hh] at e1; cases e1
      | cons x xs =>
        rw [hh] at e1
        have : xs = [] := by cases xs with
          | nil => rfl
          | cons y ys => simp at e1
        subst this
        rw [List.headD_cons, mx, lm, lm]
        omega
