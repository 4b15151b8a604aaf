/-! THE CLASS: a pair is built -/
theorem sb_mid {A T B : List Int} (h : wl T 1 = true) : sb (A ++ (T ++ B)) A.length = T := by
  have := sb_appR A (T ++ B) 0
  rw [Nat.add_zero, sb_appL h (wl_len (d := 0) h), sb_full h] at this
  exact this
theorem f12 {n : Nat} (h : n < 20) : ln (f1 n + 1) = 80 ∧ ln (f2 n + 1) = 80 ∧ rt (f1 n) = 8 ∧ rt (f2 n) = 8 := by
  have k : ∀ i : Fin 20, ln (f1 i + 1) = 80 ∧ ln (f2 i + 1) = 80 ∧ rt (f1 i) = 8 ∧ rt (f2 i) = 8 := by decide +kernel
  exact k ⟨n, h⟩
theorem f_eq (n : Nat) : f1 n = 164 + 4 * n ∧ f2 n = 166 + 4 * n := by unfold f1 f2; omega
theorem c_pHas {v : Int} {n : Nat} {μ : Mem} {Q : Bool → Prop} (hv : v = (n : Int)) (hn : n < 20) (h : Q true) : d_PairList_has v μ Q := by
  unfold d_PairList_has
  rw [if_neg (by omega), if_pos (by omega)]
  exact h
theorem c_firstTerm {v : Int} {n : Nat} {μ : Mem} {Q : Nat → Prop} (hv : v = (n : Int)) (hn : n < 20) (h : Q (f1 n)) : d_PairList_firstTerm v μ Q := by
  unfold d_PairList_firstTerm
  refine c_pHas hv hn ?_
  rw [if_pos rfl]
  refine ⟨by omega, ?_⟩
  unfold d_PairList_firstTerm_j21
  rw [show v.toNat = n by omega]
  exact h
theorem c_secondTerm {v : Int} {n : Nat} {μ : Mem} {Q : Nat → Prop} (hv : v = (n : Int)) (hn : n < 20) (h : Q (f2 n)) : d_PairList_secondTerm v μ Q := by
  unfold d_PairList_secondTerm
  refine c_pHas hv hn ?_
  rw [if_pos rfl]
  refine ⟨by omega, ?_⟩
  unfold d_PairList_secondTerm_j21
  rw [show v.toNat = n by omega]
  exact h
/-- rows that building the pair n may use -/
def FB (n : Nat) (μ μ' : Mem) : Prop := ∀ b, (b < 140 ∨ (147 ≤ b ∧ b ≠ 163 ∧ b ≠ f1 n ∧ b ≠ f1 n + 1 ∧ b ≠ f2 n ∧ b ≠ f2 n + 1)) → μ' b = μ b
theorem FB.tr {n : Nat} {μ μ1 μ2 : Mem} (h1 : FB n μ μ1) (h2 : ∀ b, (b < 140 ∨ (147 ≤ b ∧ b ≠ 163 ∧ b ≠ f1 n ∧ b ≠ f1 n + 1 ∧ b ≠ f2 n ∧ b ≠ f2 n + 1)) → μ2 b = μ1 b) : FB n μ μ2 := fun b hb => by rw [h2 b hb, h1 b hb]
theorem ln140 : ln (140 + 1) = 160 ∧ ln (140 + 5) = 16 := by decide +kernel
/-- the pool of a pair -/
def pp (r1 r2 : Rl2) : List Int := r1.1 ++ (shv r2.1 ++ (r1.2 ++ shv r2.2))
section B77
variable {μ : Mem} {r1 r2 : Rl2} {ars : List Nat} {p : Nat}
theorem shv_len (T : List Int) : (shv T).length = T.length := by
  unfold shv
  rw [List.length_map]
theorem shv_okn {T : List Int} {n : Nat} (h : okt ars 8 n T) : ∀ c, c ∈ shv T → okn ars 16 c := by
  have := shb_okn (v := 1) h.2.2
  rw [show shb 1 T = shv T from if_neg (by decide)] at this
  exact this
theorem pp_ok (h8 : ars.length ≤ 8) (h1 : okr ars r1) (h2 : okr ars r2) : pok ars (pp r1 r2) 4 ∧ (pp r1 r2).length = r1.1.length + (r2.1.length + (r1.2.length + r2.2.length)) ∧ (pp r1 r2).length ≤ 48 := by
  have el : (pp r1 r2).length = r1.1.length + (r2.1.length + (r1.2.length + r2.2.length)) := by
    unfold pp
    rw [List.length_append, List.length_append, List.length_append, shv_len, shv_len]
  have a1 := h1.1.2.1
  have a2 := h1.2.1.2.1
  have a3 := h2.1.2.1
  have a4 := h2.2.1.2.1
  refine ⟨⟨h8, wl_app _ _ 1 3 h1.1.1 (wl_app _ _ 1 2 (by rw [wl_shv]; exact h2.1.1) (wl_app _ _ 1 1 h1.2.1.1 (by rw [wl_shv]; exact h2.2.1.1))), by omega, fun c hc => ?_⟩, el, by omega⟩
  unfold pp at hc
  rcases List.mem_append.mp hc with q | q
  · exact okn_16 (h1.1.2.2 c q)
  · rcases List.mem_append.mp q with q | q
    · exact shv_okn h2.1 c q
    · rcases List.mem_append.mp q with q | q
      · exact okn_16 (h1.2.1.2.2 c q)
      · exact shv_okn h2.2.1 c q
theorem pp_sb (h1 : okr ars r1) (h2 : okr ars r2) (hp : p < r1.1.length) : sb (pp r1 r2) p = sb r1.1 p ∧ sb (pp r1 r2) r1.1.length = shv r2.1 ∧ sb (pp r1 r2) (r1.1.length + r2.1.length) = r1.2 ∧ sb (pp r1 r2) (r1.1.length + r2.1.length + r1.2.length) = shv r2.2 := by
  refine ⟨sb_appL h1.1.1 hp, sb_mid (by rw [wl_shv]; exact h2.1.1), ?_, ?_⟩
  · have := sb_mid (A := r1.1 ++ shv r2.1) (B := shv r2.2) h1.2.1.1
    rw [List.append_assoc, List.length_append, shv_len] at this
    exact this
  · have := sb_mid (A := r1.1 ++ shv r2.1 ++ r1.2) (B := []) (T := shv r2.2) (by rw [wl_shv]; exact h2.2.1.1)
    rw [List.append_nil, List.append_assoc, List.append_assoc, List.length_append, List.length_append, shv_len] at this
    exact this
theorem pp_var (hp : p < r1.1.length) : (pp r1 r2).getD p 0 = r1.1.getD p 0 := getD_app_l hp
/-- the pool is filled and solved -/
theorem c_pairSolve {v1 v2 : Nat} {v3 : Int} {Q : Bool → Mem → Prop} (hv3 : v3 = (p : Int)) (h8 : ars.length ≤ 8) (o1 : okr ars r1) (o2 : okr ars r2) (hp : p < r1.1.length) (hc1 : v1 < 100) (hc2 : v2 < 100)
    (i1 : IsT μ (dp (μ v1 0)) r1.1) (i2 : IsT μ (dp (μ v1 1)) r1.2) (i3 : IsT μ (dp (μ v2 0)) r2.1) (i4 : IsT μ (dp (μ v2 1)) r2.2) (d1 : dp (μ v1 0) < 100) (d2 : dp (μ v1 1) < 100) (d3 : dp (μ v2 0) < 100) (d4 : dp (μ v2 1) < 100)
    (kT : ∀ (μ' : Mem) (par R dq od : Nat → Nat), (∀ x, x < 140 ∨ 147 ≤ x → μ' x = μ x) → CPl μ' 140 (pp r1 r2) → Par μ' 140 (pp r1 r2).length par → UF (pp r1 r2).length par R dq → MGI (pp r1 r2) p r1.1.length R [] → Ord (pp r1 r2) R od → Q true μ')
    (kF : ∀ μ', (∀ x, x < 140 ∨ 147 ≤ x → μ' x = μ x) → pr1 r1 r2 p = none → Q false μ') (K : Int → Int → Int → Int → Bool → Mem → Prop)
    (hK : ∀ w1 w2 w3 w4 b μ', w1 = 0 → w2 = (r1.1.length : Int) → w3 = ((r1.1.length + r2.1.length : Nat) : Int) → w4 = ((r1.1.length + r2.1.length + r1.2.length : Nat) : Int) → Q b μ' → K w1 w2 w3 w4 b μ') :
    d_Unifier_clear 140 μ (fun μ2 => d_Unifier_load 140 (dp (μ2 v1 0)) 0 μ2 (fun r3 μ4 => d_Unifier_load 140 (dp (μ4 v2 0)) 8 μ4 (fun r5 μ6 => d_Unifier_load 140 (dp (μ6 v1 1)) 0 μ6 (fun r7 μ8 => d_Unifier_load 140 (dp (μ8 v2 1)) 8 μ8 (fun r9 μ10 => d_Unifier_solve 140 (wr (r3 + v3)) r5 μ10 (fun r11 μ12 => K r3 r5 r7 r9 r11 μ12)))))) := by
  obtain ⟨hok, hlen, h48⟩ := pp_ok h8 o1 o2
  obtain ⟨s1, s2, s3, s4⟩ := pp_sb o1 o2 hp
  have e0 : ∀ T : List Int, shb 0 T = T := fun T => if_pos rfl
  have eS : ∀ T : List Int, shb 8 T = shv T := fun T => if_neg (by decide)
  refine c_uclear (P := pp r1 r2) ln140.2 fun μ1 l1 f1 => ?_
  have F1 : ∀ x, x < 140 ∨ 147 ≤ x → μ1 x = μ x := fun x hx => f1 x (by omega) (by omega)
  rw [F1 v1 (by omega)]
  refine c_loadT (A := []) (B := shv r2.1 ++ (r1.2 ++ shv r2.2)) (v2 := 0) (T := r1.1) (by rw [e0]; rfl) ln140.1 (i1.fr (F1 _ (by omega)) (F1 _ (by omega))) h8 o1.1 (by omega) l1 (by omega) (Or.inl rfl) fun μ2 l2 f2 g2 => ?_
  have F2 : ∀ x, x < 140 ∨ 147 ≤ x → μ2 x = μ x := fun x hx => by rw [f2 x (by omega), F1 x hx]
  rw [e0, List.nil_append] at l2
  rw [F2 v2 (by omega)]
  refine c_loadT (A := r1.1) (B := r1.2 ++ shv r2.2) (v2 := 8) (T := r2.1) (by rw [eS]; rfl) ln140.1 (i3.fr (F2 _ (by omega)) (F2 _ (by omega))) h8 o2.1 (by omega) l2 (by omega) (Or.inr rfl) fun μ3 l3 f3 g3 => ?_
  have F3 : ∀ x, x < 140 ∨ 147 ≤ x → μ3 x = μ x := fun x hx => by rw [f3 x (by omega), F2 x hx]
  rw [eS] at l3
  rw [F3 v1 (by omega)]
  refine c_loadT (A := r1.1 ++ shv r2.1) (B := shv r2.2) (v2 := 0) (T := r1.2) (by rw [e0, List.append_assoc]; rfl) ln140.1 (i2.fr (F3 _ (by omega)) (F3 _ (by omega))) h8 o1.2.1 (by omega) l3 (by omega) (Or.inl rfl) fun μ4 l4 f4 g4 => ?_
  have F4 : ∀ x, x < 140 ∨ 147 ≤ x → μ4 x = μ x := fun x hx => by rw [f4 x (by omega), F3 x hx]
  rw [e0] at l4
  rw [F4 v2 (by omega)]
  refine c_loadT (A := r1.1 ++ shv r2.1 ++ r1.2) (B := []) (v2 := 8) (T := r2.2) (by rw [eS, List.append_nil, List.append_assoc, List.append_assoc]; rfl) ln140.1 (i4.fr (F4 _ (by omega)) (F4 _ (by omega))) h8 o2.2.1 (by omega) l4 (by omega) (Or.inr rfl) fun μ5 l5 f5 g5 => ?_
  have F5 : ∀ x, x < 140 ∨ 147 ≤ x → μ5 x = μ x := fun x hx => by rw [f5 x (by omega), F4 x hx]
  rw [eS, List.append_assoc, List.append_assoc] at l5
  have w1 : (((List.length ([] : List Int) : Nat)) : Int) = 0 := rfl
  have ew : wr ((((List.length ([] : List Int) : Nat)) : Int) + v3) = (p : Int) := by
    have := o1.1.2.1
    rw [w1, hv3, wr_id (by omega) (by omega)]
    omega
  have n3 : (((r1.1 ++ shv r2.1).length : Nat) : Int) = ((r1.1.length + r2.1.length : Nat) : Int) := by rw [List.length_append, shv_len]
  have n4 : (((r1.1 ++ shv r2.1 ++ r1.2).length : Nat) : Int) = ((r1.1.length + r2.1.length + r1.2.length : Nat) : Int) := by rw [List.length_append, List.length_append, shv_len]
  have hT0 := wl_len (d := 0) o2.1.1
  refine c_solve (a := p) (b := r1.1.length) ew rfl l5 hok.2.1 (by omega) (okt_p32 h8 hok.2.2.2) (by omega) (by omega) (fun μ' par R dq od k1 k2 k3 k4 k5 k6 => ?_) (fun μ' k1 k2 => ?_)
  · exact hK _ _ _ _ _ _ w1 rfl n3 n4 (kT μ' par R dq od (fun x hx => by rw [k1 x hx, F5 x hx]) k2 k3 k4 k5 k6)
  · refine hK _ _ _ _ _ _ w1 rfl n3 n4 (kF μ' (fun x hx => by rw [k1 x hx, F5 x hx]) (pr1_f fun σ hu => k2 σ hu.1 ?_))
    have := hu.2
    unfold vl
    rw [s1, s2]
    exact this
end B77

