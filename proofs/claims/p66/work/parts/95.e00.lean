/-! that the printed tables do what the texts say -/
section L90
variable {s : LSt} {M : JM} {mi pc : Nat} {ls st : List JV} {P : JO → JM → Prop} {l a b w : Nat}
theorem rcv_tag {i c : Nat} (hM : R2 s M) (h : rcv s i c) : jtag M i = c := by
  rcases h with ⟨rfl, h1, h2⟩ | ⟨n, h⟩
  · unfold jtag
    rw [if_neg (by omega), if_pos ⟨h1, h2⟩]
  · exact R2_tag hM h
theorem Rl_sm {E : JE2} {μ μ' : Mem} (g : sm μ μ') (h : Rl E M μ) : Rl E M μ' := by
  obtain ⟨h1, h2, h3, h4, h5, h6⟩ := h
  have e : μ' 797 0 = μ 797 0 := congrFun g.2 0
  refine ⟨h1, fun a j hj => ?_, by rw [e]; exact h3, h4, h5, by rw [e]; exact h6⟩
  have ha : a < 772 := by
    rcases Nat.lt_or_ge a 772 with q | q
    · exact q
    · rw [ln_hi (by omega)] at hj
      omega
  rw [g.1 a ha]
  exact h2 a j hj
theorem PO_w {E : JE2} {y : Nat} {ls2 st2 : List JV} {QQ : Option JV → Mem → Prop} {X : Nat → Mem → Prop} {pc2 : Nat} (h : JX y pc2 ls2 st2 M (PO E QQ XN)) : JX y pc2 ls2 st2 M (PO E QQ X) := by
  obtain ⟨n, o, M1, h1, h2⟩ := h
  refine ⟨n, o, M1, h1, ?_⟩
  rcases o with v | k
  · exact h2
  · obtain ⟨μ1, -, h3⟩ := h2
    exact h3.elim
theorem E_oI {x : JI} {y : Nat} {as st1 : List JV} {D : (Int → Mem → Prop) → (Nat → Mem → Prop) → Prop} {K : Int → LSt → Prop} (hc : jcode mi pc = some x) (hs : jstep x pc ls st M = some (.inr (.inl (y, as, st1)))) (hp : jrl x = 3) (hM : R2 s M) (hy : ∀ Q X, D Q X → JX y 0 (jargs y as) [] M (PO s.1 (QI Q) X)) (h : oI D s K) (hk : ∀ z M' s', R2 s' M' → K z s' → JX mi (pc + 3) ls (.inl z :: st1) M' P) : JX mi pc ls st M P := by
  obtain ⟨Q0, X0, h, hq, hx⟩ := h
  refine JX_call hc hs (hy _ _ h) (fun v M1 ho => ?_) fun k M1 ho => ?_
  · obtain ⟨μ', h1, z, rfl, h2⟩ := ho
    obtain ⟨μ2, g1, g2, g3⟩ := hq _ _ h2
    rw [hp]
    exact hk z M1 (s.1, μ2) ⟨Rl_sm g1 h1, g2, hM.2.2⟩ g3
  · obtain ⟨μ', h1, h2⟩ := ho
    exact (hx _ _ h2).elim
theorem E_oB {x : JI} {y : Nat} {as st1 : List JV} {D : (Bool → Mem → Prop) → (Nat → Mem → Prop) → Prop} {K : Bool → LSt → Prop} (hc : jcode mi pc = some x) (hs : jstep x pc ls st M = some (.inr (.inl (y, as, st1)))) (hp : jrl x = 3) (hM : R2 s M) (hy : ∀ Q X, D Q X → JX y 0 (jargs y as) [] M (PO s.1 (QB Q) X)) (h : oB D s K) (hk : ∀ z M' s', R2 s' M' → K z s' → JX mi (pc + 3) ls (.inl (b2i z) :: st1) M' P) : JX mi pc ls st M P := by
  obtain ⟨Q0, X0, h, hq, hx⟩ := h
  refine JX_call hc hs (hy _ _ h) (fun v M1 ho => ?_) fun k M1 ho => ?_
  · obtain ⟨μ', h1, z, rfl, h2⟩ := ho
    obtain ⟨μ2, g1, g2, g3⟩ := hq _ _ h2
    rw [hp]
    exact hk z M1 (s.1, μ2) ⟨Rl_sm g1 h1, g2, hM.2.2⟩ g3
  · obtain ⟨μ', h1, h2⟩ := ho
    exact (hx _ _ h2).elim
theorem E_opI {x : JI} {y : Nat} {as st1 : List JV} {D : (Int → Prop) → (Nat → Mem → Prop) → Prop} {K : Int → Prop} (hc : jcode mi pc = some x) (hs : jstep x pc ls st M = some (.inr (.inl (y, as, st1)))) (hp : jrl x = 3) (hM : R2 s M) (hy : ∀ Q X, D Q X → JX y 0 (jargs y as) [] M (PO s.1 (pQI s.2 Q) X)) (h : opI D K) (hk : ∀ z M', R2 s M' → K z → JX mi (pc + 3) ls (.inl z :: st1) M' P) : JX mi pc ls st M P := by
  obtain ⟨Q0, X0, h, hq, hx⟩ := h
  refine JX_call hc hs (hy _ _ h) (fun v M1 ho => ?_) fun k M1 ho => ?_
  · obtain ⟨μ', h1, h4, z, rfl, h3⟩ := ho
    rw [hp]
    subst h4
    exact hk z M1 ⟨h1, hM.2⟩ (hq _ h3)
  · obtain ⟨μ', h1, h2⟩ := ho
    exact (hx _ _ h2).elim
theorem E_opB {x : JI} {y : Nat} {as st1 : List JV} {D : (Bool → Prop) → (Nat → Mem → Prop) → Prop} {K : Bool → Prop} (hc : jcode mi pc = some x) (hs : jstep x pc ls st M = some (.inr (.inl (y, as, st1)))) (hp : jrl x = 3) (hM : R2 s M) (hy : ∀ Q X, D Q X → JX y 0 (jargs y as) [] M (PO s.1 (pQB s.2 Q) X)) (h : opB D K) (hk : ∀ z M', R2 s M' → K z → JX mi (pc + 3) ls (.inl (b2i z) :: st1) M' P) : JX mi pc ls st M P := by
  obtain ⟨Q0, X0, h, hq, hx⟩ := h
  refine JX_call hc hs (hy _ _ h) (fun v M1 ho => ?_) fun k M1 ho => ?_
  · obtain ⟨μ', h1, h4, z, rfl, h3⟩ := ho
    rw [hp]
    subst h4
    exact hk z M1 ⟨h1, hM.2⟩ (hq _ h3)
  · obtain ⟨μ', h1, h2⟩ := ho
    exact (hx _ _ h2).elim
theorem al_n : (([] : List JV).all fun v => !jc2 v) = true := rfl
theorem al_c {v : JV} {r : List JV} (h : jc2 v = false) (hr : (r.all fun v => !jc2 v) = true) : ((v :: r).all fun v => !jc2 v) = true := by
  rw [List.all_cons, h, hr]
  rfl
theorem jw_le : ∀ (B : List JV), jwds B ≤ 2 * B.length := by
  intro B
  unfold jwds
  induction B with
  | nil => exact Nat.le_refl _
  | cons v B ih =>
    rw [List.map_cons, List.sum_cons, List.length_cons]
    split <;> omega
theorem ss_v {n : Nat} {A B : List JV} (hn : A.length = n) (hA : (A.all fun v => !jc2 v) = true) (hB : B.length ≤ 4) : ssplit n (A ++ B) = some (A.reverse, B) := by
  subst hn
  unfold ssplit
  have hj := jw_le B
  rw [List.drop_left, List.take_left, if_pos ⟨by rw [List.length_append]; omega, by omega, hA⟩]
theorem vs_v {n i : Nat} {A B : List JV} (hn : A.length = n) (hA : (A.all fun v => !jc2 v) = true) (hB : B.length ≤ 4) : vsplit n (A ++ (jR i :: B)) = some (i, jR i :: A.reverse, B) := by
  subst hn
  unfold vsplit
  have hj := jw_le B
  have e : A ++ (jR i :: B) = (A ++ [jR i]) ++ B := by rw [List.append_assoc]; rfl
  have hl : (A ++ [jR i]).length = A.length + 1 := by rw [List.length_append]; rfl
  rw [e, ← hl, List.drop_left, List.take_left, if_pos ⟨by simp only [List.length_append]; omega, by omega, by rw [List.all_append, hA]; rfl⟩, List.reverse_append]
  rfl
theorem jw_al : ∀ (B : List JV), (B.all fun v => !jc2 v) = true → jwds B ≤ B.length := by
  intro B
  unfold jwds
  induction B with
  | nil => exact fun _ => Nat.le_refl _
  | cons v B ih =>
    intro h
    rw [List.all_cons, Bool.and_eq_true] at h
    have := ih h.2
    have hv : jc2 v = false := by simpa using h.1
    rw [List.map_cons, List.sum_cons, List.length_cons, if_neg (by rw [hv]; decide)]
    omega
theorem ss_w {n : Nat} {A B : List JV} (hn : A.length = n) (hA : (A.all fun v => !jc2 v) = true) (hB2 : (B.all fun v => !jc2 v) = true) (hB : B.length ≤ 8) : ssplit n (A ++ B) = some (A.reverse, B) := by
  subst hn
  unfold ssplit
  have hj := jw_al B hB2
  rw [List.drop_left, List.take_left, if_pos ⟨by rw [List.length_append]; omega, by omega, hA⟩]
theorem vs_w {n i : Nat} {A B : List JV} (hn : A.length = n) (hA : (A.all fun v => !jc2 v) = true) (hB2 : (B.all fun v => !jc2 v) = true) (hB : B.length ≤ 8) : vsplit n (A ++ (jR i :: B)) = some (i, jR i :: A.reverse, B) := by
  subst hn
  unfold vsplit
  have hj := jw_al B hB2
  have e : A ++ (jR i :: B) = (A ++ [jR i]) ++ B := by rw [List.append_assoc]; rfl
  have hl : (A ++ [jR i]).length = A.length + 1 := by rw [List.length_append]; rfl
  rw [e, ← hl, List.drop_left, List.take_left, if_pos ⟨by simp only [List.length_append]; omega, by omega, by rw [List.all_append, hA]; rfl⟩, List.reverse_append]
  rfl
theorem jeqr_c (v w : JV) : jeqr v w = jeqr w v := by
  rcases v with z | z | z <;> rcases w with y | y | y <;> first | rfl | (unfold jeqr; simp [eq_comm]; done) | (cases z <;> rfl) | (cases y <;> rfl) | (cases z <;> cases y <;> rfl)
theorem jap_c (v w : JV) : jap v w = jap w v := by
  rcases v with z | z | z <;> rcases w with y | y | y <;> first | rfl | (unfold jap; simp [eq_comm, and_comm]; done) | (cases z <;> rfl) | (cases y <;> rfl) | (cases z <;> cases y <;> rfl)
theorem cE_c {v w : JV} {A B : Prop} (h : cE v w A B) : cE w v A B := by
  unfold cE at h ⊢
  rw [jap_c, jeqr_c]
  exact h
end L90
theorem k_Object_init {v0 : JV} {s : LSt} {M : JM} {Q : LSt → Prop} (_ : jnl v0 = true) (hM : R2 s M) (h : d_Object_init v0 s Q) : JX 1 0 (jargs 1 [v0]) [] M (P2 (QN2 Q)) :=
  L_end (c1 0 rfl) rfl ⟨s, hM, rfl, h⟩
theorem k_String_checkIndex {v0 v1 : Int} {s : LSt} {M : JM} {Q : LSt → Prop} (hM : R2 s M) (h : d_String_checkIndex v0 v1 s Q) : JX 25 0 (jargs 25 [jI v0, jI v1]) [] M (P2 (QN2 Q)) := by
  refine L_end (c25 0 rfl) (o := .inl none) (M1 := M) ?_ ⟨s, hM, rfl, h.2⟩
  show (if 0 ≤ v0 ∧ v0 < v1 then _ else _) = _
  rw [if_pos h.1]
  rfl
theorem k_YMath_max {v0 v1 : Int} {s : LSt} {M : JM} {Q : Int → LSt → Prop} (hM : R2 s M) (h : d_YMath_max v0 v1 s Q) : JX 6 0 (jargs 6 [jI v0, jI v1]) [] M (P2 (QI2 Q)) := by
  unfold d_YMath_max at h
  show JX 6 0 [jI v0, jI v1] [] M (P2 (QI2 Q))
  refine L_ps c6 (n := 2) (pc1 := 2) (ls1 := [jI v0, jI v1]) (st1 := [jI v1, jI v0]) rfl ?_
  refine L_br (p1 := 9) (p2 := 5) (c6 2 rfl) rfl jc_lt h (fun h => ?_) (fun h => ?_)
  · refine L_ps c6 (n := 1) (pc1 := 10) (ls1 := [jI v0, jI v1]) (st1 := [jI v1]) rfl ?_
    exact L_retI (c6 10 rfl) ⟨s, hM, _, rfl, h⟩
  · refine L_ps c6 (n := 2) (pc1 := 10) (ls1 := [jI v0, jI v1]) (st1 := [jI v0]) rfl ?_
    exact L_retI (c6 10 rfl) ⟨s, hM, _, rfl, h⟩
theorem k_YMath_min {v0 v1 : Int} {s : LSt} {M : JM} {Q : Int → LSt → Prop} (hM : R2 s M) (h : d_YMath_min v0 v1 s Q) : JX 72 0 (jargs 72 [jI v0, jI v1]) [] M (P2 (QI2 Q)) := by
  unfold d_YMath_min at h
  show JX 72 0 [jI v0, jI v1] [] M (P2 (QI2 Q))
  refine L_ps c72 (n := 2) (pc1 := 2) (ls1 := [jI v0, jI v1]) (st1 := [jI v1, jI v0]) rfl ?_
  refine L_br (p1 := 9) (p2 := 5) (c72 2 rfl) rfl jc_gt h (fun h => ?_) (fun h => ?_)
  · refine L_ps c72 (n := 1) (pc1 := 10) (ls1 := [jI v0, jI v1]) (st1 := [jI v1]) rfl ?_
    exact L_retI (c72 10 rfl) ⟨s, hM, _, rfl, h⟩
  · refine L_ps c72 (n := 2) (pc1 := 10) (ls1 := [jI v0, jI v1]) (st1 := [jI v0]) rfl ?_
    exact L_retI (c72 10 rfl) ⟨s, hM, _, rfl, h⟩
theorem jt13 : 10 = jcls 13 := by decide +kernel
theorem jt20 : 15 = jcls 20 := by decide +kernel
theorem jt21 : 15 = jcls 21 := by decide +kernel
theorem jt22 : 15 = jcls 22 := by decide +kernel
theorem jt23 : 15 = jcls 23 := by decide +kernel
theorem jt77 : 10 = jcls 77 := by decide +kernel
theorem jt79 : 10 = jcls 79 := by decide +kernel
theorem jt80 : 10 = jcls 80 := by decide +kernel
theorem jt83 : 10 = jcls 83 := by decide +kernel
theorem jt85 : 10 = jcls 85 := by decide +kernel
theorem jt87 : 10 = jcls 87 := by decide +kernel
theorem jt88 : 10 = jcls 88 := by decide +kernel
theorem jt90 : 10 = jcls 90 := by decide +kernel
theorem jt91 : 10 = jcls 91 := by decide +kernel
theorem jt92 : 10 = jcls 92 := by decide +kernel
theorem jt93 : 10 = jcls 93 := by decide +kernel
theorem jt95 : 10 = jcls 95 := by decide +kernel
theorem jt96 : 10 = jcls 96 := by decide +kernel
theorem jt97 : 10 = jcls 97 := by decide +kernel
theorem jt125 : 10 = jcls 125 := by decide +kernel
theorem jt129 : 10 = jcls 129 := by decide +kernel
theorem jt134 : 10 = jcls 134 := by decide +kernel
theorem jt135 : 10 = jcls 135 := by decide +kernel
theorem jt136 : 10 = jcls 136 := by decide +kernel
theorem jt137 : 10 = jcls 137 := by decide +kernel
theorem jt138 : 10 = jcls 138 := by decide +kernel
theorem jt140 : 10 = jcls 140 := by decide +kernel
theorem jt142 : 10 = jcls 142 := by decide +kernel
theorem jt144 : 10 = jcls 144 := by decide +kernel
theorem jt145 : 10 = jcls 145 := by decide +kernel
theorem jt146 : 10 = jcls 146 := by decide +kernel
theorem jt169 : 13 = jcls 169 := by decide +kernel
theorem jt170 : 13 = jcls 170 := by decide +kernel
theorem jt171 : 13 = jcls 171 := by decide +kernel
theorem jt172 : 13 = jcls 172 := by decide +kernel
theorem jt177 : 14 = jcls 177 := by decide +kernel
theorem jt178 : 14 = jcls 178 := by decide +kernel
theorem jt179 : 14 = jcls 179 := by decide +kernel
theorem jt180 : 14 = jcls 180 := by decide +kernel
theorem jt181 : 14 = jcls 181 := by decide +kernel
theorem jt183 : 14 = jcls 183 := by decide +kernel
theorem jt184 : 14 = jcls 184 := by decide +kernel
theorem jt185 : 14 = jcls 185 := by decide +kernel
theorem jt186 : 15 = jcls 186 := by decide +kernel
theorem jt187 : 13 = jcls 187 := by decide +kernel
theorem jt188 : 13 = jcls 188 := by decide +kernel
theorem jt190 : 13 = jcls 190 := by decide +kernel
theorem jt196 : 14 = jcls 196 := by decide +kernel
theorem jt197 : 14 = jcls 197 := by decide +kernel
theorem jt199 : 12 = jcls 199 := by decide +kernel
theorem jt200 : 12 = jcls 200 := by decide +kernel
theorem jt201 : 12 = jcls 201 := by decide +kernel
theorem jt202 : 12 = jcls 202 := by decide +kernel
theorem jt203 : 12 = jcls 203 := by decide +kernel
theorem jt212 : 12 = jcls 212 := by decide +kernel
theorem jt213 : 12 = jcls 213 := by decide +kernel
theorem jt225 : 12 = jcls 225 := by decide +kernel
theorem jt231 : 12 = jcls 231 := by decide +kernel
theorem jt242 : 13 = jcls 242 := by decide +kernel
theorem jt243 : 14 = jcls 243 := by decide +kernel
theorem jt246 : 14 = jcls 246 := by decide +kernel
theorem jt247 : 14 = jcls 247 := by decide +kernel
theorem jt248 : 14 = jcls 248 := by decide +kernel
theorem jt255 : 10 = jcls 255 := by decide +kernel
theorem jt259 : 10 = jcls 259 := by decide +kernel
theorem jt261 : 10 = jcls 261 := by decide +kernel
theorem jt262 : 10 = jcls 262 := by decide +kernel
theorem jt264 : 10 = jcls 264 := by decide +kernel
theorem jt266 : 10 = jcls 266 := by decide +kernel
theorem jt267 : 10 = jcls 267 := by decide +kernel
theorem jt272 : 10 = jcls 272 := by decide +kernel
