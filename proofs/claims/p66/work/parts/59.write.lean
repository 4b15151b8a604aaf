/-! WRITING -/
def nmO (sy : Sy) (c : Int) : List Int := if c < 0 then [65 + (-1 - c)] else (sy.getD (c / 4).toNat (0, [])).2
/-- what follows a whole term: bytes, what stays to be read -/
def clo : List Nat → List Int × List Nat
  | [] => ([], [])
  | d :: s => if 1 < d then ([44], (d - 1) :: s) else (41 :: (clo s).1, (clo s).2)
def wrt (sy : Sy) : List Int → List Nat → List Int
  | [], _ => []
  | c :: r, s => if ar c = 0 then nmO sy c ++ (clo s).1 ++ wrt sy r (clo s).2 else nmO sy c ++ [40] ++ wrt sy r (ar c :: s)
/-- a stack of counts in a row, its top last -/
def Stk (f : Nat → Int) (s : List Nat) : Prop := (∀ i, i < s.length → f i = ((s.getD (s.length - 1 - i) 0 : Nat) : Int)) ∧ ∀ d, d ∈ s → 1 ≤ d ∧ d ≤ 3
theorem Stk.top {f : Nat → Int} {d : Nat} {s : List Nat} (h : Stk f (d :: s)) : f s.length = (d : Int) := by
  have := h.1 s.length (by simp)
  rw [List.length_cons, show s.length + 1 - 1 - s.length = 0 by omega] at this
  exact this
theorem Stk.pop {f g : Nat → Int} {d : Nat} {s : List Nat} (h : Stk f (d :: s)) (hg : ∀ i, i < s.length → g i = f i) : Stk g s := by
  refine ⟨fun i hi => ?_, fun x hx => h.2 x (List.mem_cons_of_mem _ hx)⟩
  rw [hg i hi, h.1 i (by simp; omega), List.length_cons, getD_cons, if_neg (by omega)]
  congr 2
  omega
theorem Stk.push {f g : Nat → Int} {d : Nat} {s : List Nat} (h : Stk f s) (hd : 1 ≤ d ∧ d ≤ 3) (hg : ∀ i, i < s.length → g i = f i) (ht : g s.length = (d : Int)) : Stk g (d :: s) := by
  refine ⟨fun i hi => ?_, fun x hx => ?_⟩
  · rw [List.length_cons] at hi ⊢
    rw [getD_cons]
    by_cases e : i = s.length
    · subst e
      rw [if_pos (by omega)]
      exact ht
    · rw [if_neg (by omega), hg i (by omega), h.1 i (by omega)]
      congr 2
      omega
  · rcases List.mem_cons.mp hx with rfl | hx
    · exact hd
    · exact h.2 x hx
theorem clo_len : ∀ s : List Nat, (clo s).1.length + (clo s).2.length ≤ s.length + 1 ∧ (clo s).2.length ≤ s.length := by
  intro s
  induction s with
  | nil => exact ⟨by decide, by decide⟩
  | cons d s ih =>
    rw [clo]
    split
    · simp only [List.length_cons, List.length_nil]
      omega
    · simp only [List.length_cons]
      omega
theorem wrt_len {sy : Sy} (hs : syok sy) : ∀ (T : List Int) (s : List Nat), (∀ c, c ∈ T → okn (arS sy) 16 c) → (wrt sy T s).length ≤ 8 * T.length + s.length := by
  intro T
  induction T with
  | nil => intro s _; exact Nat.zero_le _
  | cons c r ih =>
    intro s h
    have h1 := h c (List.mem_cons_self ..)
    have hn : (nmO sy c).length ≤ 6 := by
      unfold nmO
      by_cases hc : c < 0
      · rw [if_pos hc]; simp
      · rw [if_neg hc]
        have := (h1.2 (by omega)).1
        unfold arS at this
        rw [List.length_map] at this
        exact (hs.2 _ (getD_mem this)).2.2.1
    rw [wrt]
    split
    · have := ih (clo s).2 fun x hx => h x (List.mem_cons_of_mem _ hx)
      have k := clo_len s
      simp only [List.length_append, List.length_cons]
      omega
    · have := ih (ar c :: s) fun x hx => h x (List.mem_cons_of_mem _ hx)
      simp only [List.length_append, List.length_cons, List.length_nil] at *
      omega
theorem nmO_byte {sy : Sy} (hs : syok sy) {c b : Int} (hc : okn (arS sy) 16 c) (hb : b ∈ nmO sy c) : 0 ≤ b ∧ b ≤ 127 := by
  unfold nmO at hb
  by_cases h0 : c < 0
  · rw [if_pos h0, List.mem_singleton] at hb
    have := hc.1 h0
    omega
  · rw [if_neg h0] at hb
    have := (hc.2 (by omega)).1
    unfold arS at this
    rw [List.length_map] at this
    have := (hs.2 _ (getD_mem (d := (0, [])) this)).2.2.2 b hb
    omega
theorem clo_byte : ∀ (s : List Nat) (b : Int), b ∈ (clo s).1 → 0 ≤ b ∧ b ≤ 127 := by
  intro s
  induction s with
  | nil => intro b hb; cases hb
  | cons d s ih =>
    intro b hb
    rw [clo] at hb
    split at hb
    · rw [List.mem_singleton] at hb; omega
    · rcases List.mem_cons.mp hb with rfl | hb
      · omega
      · exact ih b hb
theorem wrt_byte {sy : Sy} (hs : syok sy) : ∀ (T : List Int) (s : List Nat), (∀ c, c ∈ T → okn (arS sy) 16 c) → ∀ b, b ∈ wrt sy T s → 0 ≤ b ∧ b ≤ 127 := by
  intro T
  induction T with
  | nil => intro s _ b hb; cases hb
  | cons c r ih =>
    intro s h b hb
    have hr : ∀ x, x ∈ r → okn (arS sy) 16 x := fun x hx => h x (List.mem_cons_of_mem _ hx)
    rw [wrt] at hb
    split at hb
    · rcases List.mem_append.mp hb with hb | hb
      · rcases List.mem_append.mp hb with hb | hb
        · exact nmO_byte hs (h c (List.mem_cons_self ..)) hb
        · exact clo_byte s b hb
      · exact ih _ hr b hb
    · rcases List.mem_append.mp hb with hb | hb
      · rcases List.mem_append.mp hb with hb | hb
        · exact nmO_byte hs (h c (List.mem_cons_self ..)) hb
        · rw [List.mem_singleton] at hb; omega
      · exact ih _ hr b hb
section W59
variable {μ : Mem} {sy : Sy}
theorem c_addByte {o : List Int} {z : Int} {Q : Mem → Prop} (ho : COu μ o) (hl : o.length < 1600) (h : ∀ μ', COu μ' (o ++ [z]) → Fr 244 246 μ μ' → Q μ') : d_Output_addByte z μ Q := by
  unfold d_Output_addByte
  obtain ⟨o1, o2⟩ := ho
  rw [o1, if_neg (by omega), if_pos (by omega)]
  refine ⟨by omega, ?_⟩
  rw [mup_r (by decide), o1, Int.toNat_natCast, wr_id (by omega) (by omega)]
  refine h _ ⟨by rw [mup_s]; simp, ?_⟩ ((Fr.up (lo := 244) (hi := 246) (by omega)).tr (Fr.up (lo := 244) (hi := 246) (by omega)) (by omega) (by omega))
  rw [mup_r (by decide)]
  refine Sg.app (fun i hi => ?_) (Sg.one ?_)
  · rw [mup_k (by omega)]; exact o2 i hi
  · rw [Nat.zero_add, mup_s]
theorem COu.frR {μ' : Mem} {o : List Int} (h : COu μ o) {lo hi : Nat} (hf : Fr lo hi μ μ') (hd : 246 ≤ lo ∨ hi ≤ 244) : COu μ' o := h.fr (hf _ (by omega)) (hf _ (by omega))
theorem c_addName {o : List Int} {c : Int} {Q : Mem → Prop} (ho : COu μ o) (hS : CSg μ 1 sy) (hs : syok sy) (hc : okn (arS sy) 16 c) (hl : o.length + 6 ≤ 1600) (h : ∀ μ', COu μ' (o ++ nmO sy c) → Fr 244 246 μ μ' → Q μ') : d_Output_addName c 1 μ Q := by
  unfold d_Output_addName
  unfold nmO at h
  by_cases h0 : c < 0
  · rw [if_pos h0]
    rw [if_pos h0] at h
    unfold d_Term_variableOf
    have := hc.1 h0
    rw [if_pos h0]
    dsimp only
    simp (disch := omega) only [wr_id]
    exact c_addByte ho (by omega) h
  · rw [if_neg h0]
    rw [if_neg h0] at h
    unfold d_Term_symbolOf
    have h32 := okn_lt hc (by unfold arS; rw [List.length_map]; exact hs.1)
    obtain ⟨k1, k2⟩ := hc.2 (by omega)
    unfold arS at k1
    rw [List.length_map] at k1
    rw [if_neg h0, jshr2 (by omega) h32, show c / 4 = (((c / 4).toNat : Nat) : Int) by omega]
    generalize (c / 4).toNat = i at *
    obtain ⟨_, n1, n6, _⟩ := hs.2 _ (getD_mem (d := (0, [])) k1)
    generalize hN : (sy.getD i (0, [])).2 = N at *
    refine i_Output_addName_l24 (Inv := fun v4 μ1 => ∃ k : Nat, v4 = k ∧ k ≤ N.length ∧ COu μ1 (o ++ N.take k) ∧ Fr 244 246 μ μ1) (fun v4 _ => N.length - v4.toNat) ?_ 0 μ ⟨0, rfl, Nat.zero_le _, by rw [List.take_zero, List.append_nil]; exact ho, Fr.rfl'⟩
    rintro _ μ1 ⟨k, rfl, hk, ho1, hF1⟩ W hW
    unfold d_Output_addName_b24
    have hS1 : CSg μ1 1 sy := hS.fr fun b g1 g2 => hF1 b (by omega)
    refine c_sigLen hS1 hs.1 k1 ?_
    rw [hN]
    by_cases hkl : k < N.length
    · rw [if_pos (by omega)]
      refine c_sigLetter hS1 hs k1 ?_
      rw [hN]
      have : ltr N (k : Int) = N.getD k 0 := by
        unfold ltr
        rw [if_pos (by omega), Int.toNat_natCast]
      rw [this]
      refine c_addByte ho1 (by rw [List.length_append, List.length_take]; omega) fun μ2 ho2 hF2 => ?_
      rw [List.append_assoc, ← take_1r hkl] at ho2
      rw [wr_id (by omega) (by omega)]
      exact hW _ _ ⟨k + 1, by omega, by omega, ho2, hF1.tr hF2 (by omega) (by omega)⟩ (by omega)
    · rw [if_neg (by omega)]
      rw [List.take_of_length_le (by omega)] at ho1
      exact h _ ho1 hF1
theorem c_closeBrackets {s : List Nat} : ∀ {μ : Mem} {o : List Int} {Q : Int → Mem → Prop}, Stk (μ 246) s → s.length ≤ 80 → COu μ o → o.length + s.length + 1 ≤ 1600 → (∀ μ', COu μ' (o ++ (clo s).1) → Stk (μ' 246) (clo s).2 → Fr 244 247 μ μ' → Q (((clo s).2.length : Nat) : Int) μ') → d_Output_closeBrackets (s.length : Int) μ Q := by
  intro μ o Q hs h80 ho hl h
  unfold d_Output_closeBrackets
  rw [wr_id (by omega) (by omega)]
  refine i_Output_closeBrackets_l4 (Inv := fun v2 μ1 => ∃ (t : List Nat) (p : List Int), v2 = (t.length : Int) - 1 ∧ t.length ≤ 80 ∧ Stk (μ1 246) t ∧ COu μ1 p ∧ p.length + t.length + 1 ≤ 1600 ∧ p ++ (clo t).1 = o ++ (clo s).1 ∧ (clo t).2 = (clo s).2 ∧ Fr 244 247 μ μ1) (fun v2 _ => (v2 + 1).toNat) ?_ _ μ ⟨s, o, rfl, h80, hs, ho, hl, rfl, rfl, Fr.rfl'⟩
  rintro _ μ1 ⟨t, p, rfl, ht80, ht, hp, hpl, e1, e2, hF⟩ W hW
  unfold d_Output_closeBrackets_b4
  cases t with
  | nil =>
    rw [if_pos (by simp)]
    rw [clo, List.append_nil] at e1
    rw [clo] at e2
    have := h μ1 (by rw [← e1]; exact hp) (by rw [← e2]; exact ht) hF
    rw [← e2] at this
    exact this
  | cons d t =>
    rw [List.length_cons] at ht80 hpl
    have e0 : (((d :: t).length : Nat) : Int) - 1 = ((t.length : Nat) : Int) := by rw [List.length_cons]; omega
    rw [e0, if_neg (by omega), if_pos (by omega)]
    refine ⟨by omega, by omega, by omega, ?_⟩
    rw [Int.toNat_natCast, mup_s, ht.top]
    have hd := ht.2 d (List.mem_cons_self ..)
    rw [wr_id (by omega) (by omega)]
    have hF1 : Fr 244 247 μ (mup μ1 246 t.length ((d : Int) - 1)) := hF.tr (Fr.up (lo := 244) (hi := 247) (by omega)) (by omega) (by omega)
    have hp1 : COu (mup μ1 246 t.length ((d : Int) - 1)) p := hp.fr (mup_r (by decide)) (mup_r (by decide))
    rw [clo] at e1 e2
    by_cases hd1 : 1 < d
    · rw [if_pos (by omega)]
      rw [if_pos hd1] at e1 e2
      refine c_addByte hp1 (by omega) fun μ2 hp2 hF2 => ?_
      have hst : Stk (μ2 246) ((d - 1) :: t) := by
        rw [hF2 246 (by omega)]
        refine (ht.pop (g := mup μ1 246 t.length ((d : Int) - 1) 246) fun i hi => mup_k (by omega)).push (by omega) (fun i hi => rfl) (by rw [mup_s]; omega)
      have := h μ2 (by rw [← e1]; exact hp2) (by rw [← e2]; exact hst) (hF1.tr hF2 (by omega) (by omega))
      rw [← e2] at this
      rw [wr_id (by omega) (by omega), show (t.length : Int) + 1 = (((d - 1) :: t).length : Int) by simp]
      exact this
    · rw [if_neg (by omega)]
      rw [if_neg hd1] at e1 e2
      refine c_addByte hp1 (by omega) fun μ2 hp2 hF2 => ?_
      rw [wr_id (by omega) (by omega)]
      refine hW _ _ ⟨t, p ++ [41], by omega, by omega, ?_, hp2, by simp; omega, by rw [List.append_assoc]; exact e1, e2, hF1.tr hF2 (by omega) (by omega)⟩ (by omega)
      rw [hF2 246 (by omega)]
      exact ht.pop fun i hi => mup_k (by omega)
theorem c_addTerm {a : Nat} {T o : List Int} {Q : Mem → Prop} (hT : IsT μ a T) (ha : rt a = 8) (haf : a < 244 ∨ 247 ≤ a) (hS : CSg μ 1 sy) (hs : syok sy) (ho : COu μ o) (hok : ∀ c, c ∈ T → okn (arS sy) 16 c) (h80 : T.length ≤ 80) (hl : o.length + 8 * T.length ≤ 1590) (h : ∀ μ', COu μ' (o ++ wrt sy T []) → Fr 244 247 μ μ' → Q μ') : d_Output_addTerm a 1 μ Q := by
  unfold d_Output_addTerm
  have e246 : rt 246 = 100 := by decide +kernel
  have ha2 : a + 1 < 244 ∨ 247 ≤ a := by
    rcases haf with g | g
    · rcases Nat.lt_or_ge (a + 1) 244 with k | k
      · exact Or.inl k
      · exfalso
        have : a + 1 = 244 := by omega
        have e := rp_8_1 ha
        rw [this] at e
        exact absurd e (by decide +kernel)
    · exact Or.inr g
  refine i_Output_addTerm_l5 (Inv := fun v3 v4 μ1 => ∃ (k : Nat) (s : List Nat) (p : List Int), v4 = k ∧ v3 = (s.length : Int) ∧ k ≤ T.length ∧ s.length ≤ k ∧ Stk (μ1 246) s ∧ COu μ1 p ∧ p.length + s.length ≤ o.length + 8 * k ∧ p ++ wrt sy (T.drop k) s = o ++ wrt sy T [] ∧ Fr 244 247 μ μ1) (fun _ v4 _ => T.length - v4.toNat) ?_ 0 0 μ ⟨0, [], o, rfl, rfl, Nat.zero_le _, Nat.zero_le _, ⟨fun i hi => absurd hi (by simp), fun d hd => by cases hd⟩, ho, by simp, rfl, Fr.rfl'⟩
  rintro _ _ μ1 ⟨k, s, p, rfl, rfl, hk, hsk, hst, hp, hpl, he, hF⟩ W hW
  unfold d_Output_addTerm_b5
  have hT1 : IsT μ1 a T := hT.frR hF ha2
  have hS1 : CSg μ1 1 sy := hS.fr fun b g1 g2 => hF b (by omega)
  rw [hT1.1]
  by_cases hkl : k < T.length
  · rw [if_pos (by omega)]
    refine c_Term_getN hT1 hkl ?_
    have hmem := gm0 hkl
    have hc := hok _ hmem
    have h32 := okn_lt hc (by unfold arS; rw [List.length_map]; exact hs.1)
    refine c_addName hp hS1 hs hc (by omega) fun μ2 hp2 hF2 => ?_
    refine c_arityOf h32 ?_
    rw [dropc hkl, wrt] at he
    have har := ar_le (T.getD k 0)
    have hn6 : (nmO sy (T.getD k 0)).length ≤ 6 := by
      have := wrt_len hs [T.getD k 0] [] (fun c hc' => by rw [List.mem_singleton] at hc'; rw [hc']; exact hc)
      unfold nmO
      by_cases hc0 : T.getD k 0 < 0
      · rw [if_pos hc0]; simp
      · rw [if_neg hc0]
        have := (hc.2 (by omega)).1
        unfold arS at this
        rw [List.length_map] at this
        exact (hs.2 _ (getD_mem this)).2.2.1
    have hst2 : Stk (μ2 246) s := by rw [hF2 246 (by omega)]; exact hst
    have hF2' : Fr 244 247 μ μ2 := hF.tr hF2 (by omega) (by omega)
    by_cases h0 : ar (T.getD k 0) = 0
    · rw [if_pos (by omega)]
      rw [if_pos h0] at he
      refine c_closeBrackets hst2 (by omega) hp2 (by rw [List.length_append]; omega) fun μ3 hp3 hst3 hF3 => ?_
      unfold d_Output_addTerm_j79
      rw [wr_id (by omega) (by omega)]
      have hcl := clo_len s
      refine hW _ _ _ ⟨k + 1, (clo s).2, _, by omega, rfl, by omega, by omega, hst3, hp3, by rw [List.length_append, List.length_append]; omega, ?_, hF2'.tr hF3 (by omega) (by omega)⟩ (by omega)
      rw [← he]
      simp only [List.append_assoc]
    · rw [if_neg (by omega), if_neg (by omega), if_pos (by omega)]
      rw [if_neg h0] at he
      refine c_addByte hp2 (by rw [List.length_append]; omega) fun μ3 hp3 hF3 => ?_
      refine c_arityOf h32 ⟨by omega, ?_⟩
      unfold d_Output_addTerm_j79
      rw [wr_id (by omega) (by omega), wr_id (by omega) (by omega), Int.toNat_natCast]
      refine hW _ _ _ ⟨k + 1, ar (T.getD k 0) :: s, _, by omega, by simp, by omega, by simp; omega, ?_, hp3.fr (mup_r (by decide)) (mup_r (by decide)), by simp only [List.length_append, List.length_cons, List.length_nil]; omega, ?_, ((hF2'.tr hF3 (lo := 244) (hi := 247) (by omega) (by omega)).tr (Fr.up (lo := 244) (hi := 247) (by omega)) (by omega) (by omega))⟩ (by omega)
      · refine hst2.push (by omega) (fun i hi => ?_) mup_s
        rw [mup_k (by omega), hF3 246 (by omega)]
      · rw [← he]
        simp only [List.append_assoc]
  · rw [if_neg (by omega)]
    rw [List.drop_eq_nil_of_le (by omega), wrt, List.append_nil] at he
    rw [he] at hp
    exact h _ hp hF
/-! the reference writes -/
end W59

