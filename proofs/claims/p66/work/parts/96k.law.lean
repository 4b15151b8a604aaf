/-! THE TEXT IS READ: what text() tells is a system -/
/-- no small letter comes next -/
def nlt (Z : List Int) : Prop := ∀ c r, Z = c :: r → isL c = false
def sy4 : Sy := [(2, [102]), (1, [103]), (0, [97]), (0, [98])]
section L96k
variable {B Z : List Int} {p n : Nat}
theorem drop_at {S : List Int} (h : B.drop p = S ++ Z) : B.drop (p + S.length) = Z := by
  rw [← List.drop_drop, h, List.drop_left]
theorem drop_c {c : Int} (h : B.drop p = c :: Z) : B.drop (p + 1) = Z ∧ B.getD p 0 = c ∧ p < B.length := by
  have hp : p < B.length := by
    rcases Nat.lt_or_ge p B.length with g | g
    · exact g
    · rw [List.drop_eq_nil_of_le g] at h
      cases h
  rw [dropc hp] at h
  exact ⟨(List.cons.inj h).2, (List.cons.inj h).1, hp⟩
theorem nx_sp (h : B.drop p = 32 :: Z) : nx B p = nx B (p + 1) := by
  unfold nx
  rw [h, (drop_c h).1, spn, if_pos (show isSp 32 = true from rfl)]
  congr 1
  omega
theorem nx_ns {c : Int} (h : B.drop p = c :: Z) (hc : isSp c = false) : nx B p = nx1 B p := by
  unfold nx
  rw [h, spn, if_neg (by rw [hc]; decide), Nat.add_zero]
/-- a token of one byte -/
theorem nx_c {c : Int} (h : B.drop p = c :: Z) (hc : isSp c = false) (hl : isL c = false) : nx B p = (kb c, p, p + 1) := by
  rw [nx_ns h hc]
  unfold nx1
  have h2 := drop_c h
  have e : spn isL (c :: Z) = 0 := by rw [spn, if_neg (by rw [hl]; decide)]
  rw [h, e, if_neg (Nat.lt_irrefl 0), if_pos h2.2.2, h2.2.1]
theorem spn_w : ∀ (w : List Int), (∀ c, c ∈ w → isL c = true) → nlt Z → spn isL (w ++ Z) = w.length := by
  intro w
  induction w with
  | nil =>
    intro _ hz
    rw [List.nil_append]
    cases Z with
    | nil => rfl
    | cons c r =>
      rw [spn, if_neg (by rw [hz c r rfl]; decide)]
      rfl
  | cons c w ih =>
    intro hw hz
    rw [List.cons_append, spn, if_pos (hw c List.mem_cons_self), ih (fun x hx => hw x (List.mem_cons_of_mem _ hx)) hz, List.length_cons]
    omega
/-- a word -/
theorem nx_w {w : List Int} (h : B.drop p = w ++ Z) (hw : ∀ c, c ∈ w → isL c = true) (hz : nlt Z) (h1 : 0 < w.length) (h6 : w.length ≤ 6) : nx B p = (97, p, p + w.length) ∧ wd B (97, p, p + w.length) = w := by
  obtain ⟨c, w', rfl⟩ : ∃ c w', w = c :: w' := by
    cases w with
    | nil => simp at h1
    | cons c w' => exact ⟨c, w', rfl⟩
  have hc : isSp c = false := by
    have := hw c List.mem_cons_self
    unfold isL at this
    unfold isSp
    have := of_decide_eq_true this
    exact decide_eq_false (by omega)
  refine ⟨?_, ?_⟩
  · rw [nx_ns h hc]
    unfold nx1
    rw [h, spn_w _ hw hz, if_pos h1, if_neg (by omega)]
  · unfold wd
    dsimp only
    rw [h, Nat.add_sub_cancel_left, List.take_left]
theorem nx_0 : ∀ (Z : List Int) (p : Nat), B.drop p = Z → (∀ z, z ∈ Z → z = 32) → p ≤ B.length → (nx B p).1 = 0 := by
  intro Z
  induction Z with
  | nil =>
    intro p h _ hp
    have hl : B.length ≤ p := by
      have := congrArg List.length h
      rw [List.length_drop] at this
      simp at this
      omega
    unfold nx nx1
    rw [h]
    show (if 0 < spn isL (B.drop (p + 0)) then _ else _ : Tk).1 = 0
    rw [Nat.add_zero, h, if_neg (by decide), if_neg (by omega)]
  | cons c Z ih =>
    intro p h hz hp
    have hc := hz c List.mem_cons_self
    subst hc
    rw [nx_sp h]
    have h2 := drop_c h
    exact ih (p + 1) h2.1 (fun z hz' => hz z (List.mem_cons_of_mem _ hz')) h2.2.2
theorem nlt_c {c : Int} {r : List Int} (h : isL c = false) : nlt (c :: r) := fun a b e => by
  rw [← (List.cons.inj e).1]
  exact h
/-! terms -/
def aft (B : List Int) (sy : Sy) (L : List Int) (lim role n : Nat) (T : List Int) : PE ⊕ (List Nat × Tk) → PE ⊕ (List Int × Tk)
  | .inl e => .inl e
  | .inr ([], t2) => .inr (T, t2)
  | .inr (d :: s2, t2) => rdT B sy L lim role n T (d :: s2) t2
theorem rdT_leaf {sy : Sy} {L T : List Int} {lim role : Nat} {s : List Nat} {t : Tk} (h1 : ftN sy B T L lim role t = 0) (h2 : ar (nod sy B t) = 0) : rdT B sy L lim role (n + 1) T s t = aft B sy L lim role n (T ++ [nod sy B t]) (clB B s (nx B t.2.2)) := by
  rw [rdT, if_neg (by rw [h1]; decide), if_neg (by omega)]
  rcases clB B s (nx B t.2.2) with e | ⟨s2, t2⟩
  · rfl
  · cases s2 <;> rfl
theorem rdT_node {sy : Sy} {L T : List Int} {lim role : Nat} {s : List Nat} {t : Tk} (h1 : ftN sy B T L lim role t = 0) (h2 : 0 < ar (nod sy B t)) (h3 : (nx B t.2.2).1 = 40) : rdT B sy L lim role (n + 1) T s t = rdT B sy L lim role n (T ++ [nod sy B t]) (ar (nod sy B t) :: s) (nx B (nx B t.2.2).2.2) := by
  rw [rdT, if_neg (by rw [h1]; decide), if_pos h2, if_pos h3]
theorem ftN_0 {sy : Sy} {L T : List Int} {lim role : Nat} {t : Tk} (h1 : t.1 = 97 ∨ t.1 = 65) (h2 : t.1 = 97 → fnS sy (wd B t) 0 ≠ -1) (h3 : t.1 = 65 → role = 1 → T.length ≠ 0) (h4 : t.1 = 65 → role = 2 → vnd B t ∈ L) (h5 : T.length < lim) : ftN sy B T L lim role t = 0 := by
  unfold ftN
  rw [if_neg (fun h => h h1), if_neg (fun h => h2 h.1 h.2), if_neg (fun h => h3 h.1 h.2.1 h.2.2), if_neg (fun h => h.2.2 (h4 h.1 h.2.1)), if_neg (by omega)]
theorem letter1 {c : Int} (h : B.drop p = c :: Z) (hc : isL c = true) (hz : nlt Z) : nx B p = (97, p, p + 1) ∧ wd B (97, p, p + 1) = [c] := by
  have := nx_w (w := [c]) (Z := Z) h (fun x hx => by rw [List.mem_singleton.mp hx]; exact hc) hz (by simp) (by simp)
  exact this
theorem rdT_TW {L : List Int} {lim role : Nat} : ∀ (m : Nat) (X S : List Int), TW m X S → ∀ (p : Nat) (Z : List Int) (n : Nat) (T : List Int) (s : List Nat), B.drop p = S ++ Z → nlt Z → T.length + X.length ≤ lim → (role = 1 → T.length = 0 → 0 ≤ X.getD 0 0) → (role = 2 → ∀ c, c ∈ X → c < 0 → c ∈ L) → rdT B sy4 L lim role (n + X.length) T s (nx B p) = aft B sy4 L lim role n (T ++ X) (clB B s (nx B (p + S.length))) := by
  intro m
  induction m with
  | zero => exact fun _ _ h => h.elim
  | succ m ih =>
    rintro X S h p Z n T s hd hz hl hr1 hr2
    rcases h with ⟨k, hk, rfl, rfl⟩ | ⟨k, hk, rfl, rfl⟩ | ⟨X1, S1, h1, rfl, rfl⟩ | ⟨X1, X2, S1, S2, h1, h2, rfl, rfl⟩
    · have hd' : B.drop p = (65 + (k : Int)) :: Z := hd
      have hkb : kb (65 + (k : Int)) = 65 := by
        unfold kb
        rw [if_pos (by omega)]
      have hn : nx B p = (65, p, p + 1) := by
        rw [nx_c hd' (decide_eq_false (by omega)) (decide_eq_false (by omega)), hkb]
      have hv : vnd B (65, p, p + 1) = -1 - (k : Int) := by
        unfold vnd
        dsimp only
        rw [(drop_c hd').2.1]
        omega
      have hno : nod sy4 B (65, p, p + 1) = -1 - (k : Int) := by
        unfold nod
        rw [if_pos rfl, hv]
      have hf : ftN sy4 B T L lim role (65, p, p + 1) = 0 := by
        refine ftN_0 (Or.inr rfl) (fun e => by cases e) (fun _ e1 e2 => ?_) (fun _ e => ?_) ?_
        · have := hr1 e1 e2
          have e3 : ([-1 - (k : Int)] : List Int).getD 0 0 = -1 - (k : Int) := rfl
          rw [e3] at this
          omega
        · rw [hv]
          exact hr2 e _ List.mem_cons_self (by omega)
        · simp only [List.length_cons, List.length_nil] at hl
          omega
      rw [hn]
      show rdT B sy4 L lim role (n + 1) T s (65, p, p + 1) = _
      rw [rdT_leaf hf (by rw [hno]; exact ar_neg (by omega)), hno]
      rfl
    · have hd' : B.drop p = (95 + (k : Int)) :: Z := hd
      have hL : isL (95 + (k : Int)) = true := decide_eq_true (by omega)
      obtain ⟨hn, hw⟩ := letter1 hd' hL hz
      have hno : nod sy4 B (97, p, p + 1) = 4 * (k : Int) ∧ fnS sy4 (wd B (97, p, p + 1)) 0 ≠ -1 ∧ ar (4 * (k : Int)) = 0 := by
        unfold nod
        rw [hw, if_neg (fun e => by cases e)]
        rcases hk with rfl | rfl <;> exact ⟨rfl, by decide, by decide⟩
      have hf : ftN sy4 B T L lim role (97, p, p + 1) = 0 := by
        refine ftN_0 (Or.inl rfl) (fun _ => hno.2.1) (fun e => by cases e) (fun e => by cases e) ?_
        simp only [List.length_cons, List.length_nil] at hl
        omega
      rw [hn]
      show rdT B sy4 L lim role (n + 1) T s (97, p, p + 1) = _
      rw [rdT_leaf hf (by rw [hno.1]; exact hno.2.2), hno.1]
      rfl
    · have hd' : B.drop p = 103 :: 40 :: (S1 ++ (41 :: Z)) := by rw [hd]; simp
      obtain ⟨hn, hw⟩ := letter1 hd' rfl (nlt_c rfl)
      have d1 := (drop_c hd').1
      have d2 := (drop_c d1).1
      have hno : nod sy4 B (97, p, p + 1) = 5 ∧ fnS sy4 (wd B (97, p, p + 1)) 0 ≠ -1 := by
        unfold nod
        rw [hw, if_neg (fun e => by cases e)]
        exact ⟨rfl, by decide⟩
      have hp : nx B (p + 1) = (40, p + 1, p + 1 + 1) := nx_c d1 rfl rfl
      simp only [List.length_cons] at hl
      rw [hn, List.length_cons, ← Nat.add_assoc]
      rw [rdT_node (ftN_0 (Or.inl rfl) (fun _ => hno.2) (fun e => by cases e) (fun e => by cases e) (by omega)) (by rw [hno.1]; decide) (by show (nx B (p + 1)).1 = 40; rw [hp]), hno.1]
      show rdT B sy4 L lim role (n + X1.length) (T ++ [5]) (1 :: s) (nx B (nx B (p + 1)).2.2) = _
      rw [hp]
      show rdT B sy4 L lim role (n + X1.length) (T ++ [5]) (1 :: s) (nx B (p + 1 + 1)) = _
      have d3 := drop_at d2
      rw [ih X1 S1 h1 (p + 1 + 1) (41 :: Z) n (T ++ [5]) (1 :: s) d2 (nlt_c rfl) (by rw [List.length_append]; simp only [List.length_cons, List.length_nil]; omega) (fun _ e => by simp at e) (fun e c hc => hr2 e c (List.mem_cons_of_mem _ hc))]
      have hq : nx B (p + 1 + 1 + S1.length) = (41, p + 1 + 1 + S1.length, p + 1 + 1 + S1.length + 1) := nx_c d3 rfl rfl
      rw [hq, clB, if_neg (by decide), if_pos rfl]
      have hlen : p + ([(103 : Int)] ++ ([(40 : Int)] ++ (S1 ++ [(41 : Int)]))).length = p + 1 + 1 + S1.length + 1 := by
        simp only [List.length_append, List.length_cons, List.length_nil]
        omega
      rw [hlen, List.append_assoc]
      rfl
    · have hd' : B.drop p = 102 :: 40 :: (S1 ++ (44 :: (S2 ++ (41 :: Z)))) := by rw [hd]; simp
      obtain ⟨hn, hw⟩ := letter1 hd' rfl (nlt_c rfl)
      have d1 := (drop_c hd').1
      have d2 := (drop_c d1).1
      have hno : nod sy4 B (97, p, p + 1) = 2 ∧ fnS sy4 (wd B (97, p, p + 1)) 0 ≠ -1 := by
        unfold nod
        rw [hw, if_neg (fun e => by cases e)]
        exact ⟨rfl, by decide⟩
      have hp : nx B (p + 1) = (40, p + 1, p + 1 + 1) := nx_c d1 rfl rfl
      simp only [List.length_cons, List.length_append] at hl
      rw [hn, List.length_cons, List.length_append, show n + (X1.length + X2.length + 1) = n + X2.length + X1.length + 1 by omega]
      rw [rdT_node (ftN_0 (Or.inl rfl) (fun _ => hno.2) (fun e => by cases e) (fun e => by cases e) (by omega)) (by rw [hno.1]; decide) (by show (nx B (p + 1)).1 = 40; rw [hp]), hno.1]
      show rdT B sy4 L lim role (n + X2.length + X1.length) (T ++ [2]) (2 :: s) (nx B (nx B (p + 1)).2.2) = _
      rw [hp]
      show rdT B sy4 L lim role (n + X2.length + X1.length) (T ++ [2]) (2 :: s) (nx B (p + 1 + 1)) = _
      have d3 := drop_at d2
      have d4 := (drop_c d3).1
      have d5 := drop_at d4
      rw [ih X1 S1 h1 (p + 1 + 1) (44 :: (S2 ++ (41 :: Z))) (n + X2.length) (T ++ [2]) (2 :: s) d2 (nlt_c rfl) (by rw [List.length_append]; simp only [List.length_cons, List.length_nil]; omega) (fun _ e => by simp at e) (fun e c hc => hr2 e c (List.mem_cons_of_mem _ (List.mem_append_left _ hc)))]
      have hq : nx B (p + 1 + 1 + S1.length) = (44, p + 1 + 1 + S1.length, p + 1 + 1 + S1.length + 1) := nx_c d3 rfl rfl
      rw [hq, clB, if_pos (by decide), if_pos rfl]
      show rdT B sy4 L lim role (n + X2.length) (T ++ [2] ++ X1) (1 :: s) (nx B (p + 1 + 1 + S1.length + 1)) = _
      rw [ih X2 S2 h2 (p + 1 + 1 + S1.length + 1) (41 :: Z) n (T ++ [2] ++ X1) (1 :: s) d4 (nlt_c rfl) (by simp only [List.length_append, List.length_cons, List.length_nil]; omega) (fun _ e => by simp at e) (fun e c hc => hr2 e c (List.mem_cons_of_mem _ (List.mem_append_right _ hc)))]
      have hq2 : nx B (p + 1 + 1 + S1.length + 1 + S2.length) = (41, p + 1 + 1 + S1.length + 1 + S2.length, p + 1 + 1 + S1.length + 1 + S2.length + 1) := nx_c d5 rfl rfl
      rw [hq2, clB, if_neg (by decide), if_pos rfl]
      have hlen : p + ([(102 : Int)] ++ ([(40 : Int)] ++ (S1 ++ ([(44 : Int)] ++ (S2 ++ [(41 : Int)]))))).length = p + 1 + 1 + S1.length + 1 + S2.length + 1 := by
        simp only [List.length_append, List.length_cons, List.length_nil]
        omega
      rw [hlen, List.append_assoc, List.append_assoc]
      rfl
/-- a whole term -/
theorem rdT_all {L X S : List Int} {lim role m f : Nat} (h : TW m X S) (hd : B.drop p = S ++ Z) (hz : nlt Z) (hl : X.length ≤ lim) (hf : X.length ≤ f) (hr1 : role = 1 → 0 ≤ X.getD 0 0) (hr2 : role = 2 → ∀ c, c ∈ X → c < 0 → c ∈ L) : rdT B sy4 L lim role f [] [] (nx B p) = .inr (X, nx B (p + S.length)) := by
  have := rdT_TW (L := L) (lim := lim) (role := role) m X S h p Z (f - X.length) [] [] hd hz (by simpa using hl) (fun e _ => hr1 e) hr2
  rw [Nat.sub_add_cancel hf] at this
  rw [this]
  rfl
/-! items -/
theorem jlW {q : Nat} (h : q < 7) : (∀ c, c ∈ jlit q → isL c = true) ∧ 0 < (jlit q).length ∧ (jlit q).length ≤ 6 := by
  have k : ∀ i : Fin 7, (∀ c, c ∈ jlit i → isL c = true) ∧ 0 < (jlit i).length ∧ (jlit i).length ≤ 6 := by decide +kernel
  exact k ⟨q, h⟩
/-- an item's first word -/
theorem its_w {q : Nat} {S : St} (hq : q < 7) (h : B.drop p = 59 :: (jlit q ++ Z)) (hz : nlt Z) : its B (n + 1) S (nx B p) = (match itm B S (97, p + 1, p + 1 + (jlit q).length) with
    | .inl e => .inl e
    | .inr (S', t') => its B n S' t') ∧ ∀ q' : Nat, q' < 7 → (isW B (97, p + 1, p + 1 + (jlit q).length) (jlit q') = true ↔ q' = q) := by
  have h1 : nx B p = (59, p, p + 1) := nx_c h rfl rfl
  have d1 := (drop_c h).1
  have hw := jlW hq
  obtain ⟨h2, h3⟩ := nx_w d1 hw.1 hz hw.2.1 hw.2.2
  refine ⟨?_, fun q' hq' => ?_⟩
  · rw [h1, its, if_neg (fun e => by cases e), if_neg (fun e => e rfl)]
    dsimp only
    rw [h2]
    rcases itm B S (97, p + 1, p + 1 + (jlit q).length) with e | ⟨S', t'⟩ <;> rfl
  · unfold isW
    rw [decide_eq_true_iff, h3]
    have k : ∀ i j : Fin 7, ((97 : Int) = 97 ∧ jlit i = jlit j) ↔ (j : Nat) = i := by decide +kernel
    exact k ⟨q, hq⟩ ⟨q', hq'⟩
theorem its_sym {S : St} {c : Int} {a : Nat} (h : B.drop p = 59 :: (jlit 1 ++ (32 :: c :: 32 :: (48 + (a : Int)) :: Z))) (hc : isL c = true) (ha : a < 4) (h8 : S.1.length < 8) (hf : fnS S.1 [c] 0 = -1) : its B (n + 1) S (nx B p) = its B n (S.1 ++ [(a, [c])], S.2) (nx B (p + 11)) := by
  obtain ⟨e1, e2⟩ := its_w (n := n) (S := S) (q := 1) (by decide) h (nlt_c rfl)
  rw [e1]
  unfold itm
  rw [if_pos ((e2 1 (by decide)).mpr rfl)]
  have d1 := (drop_c h).1
  have d2 := drop_at d1
  have l6 : (jlit 1).length = 6 := rfl
  rw [l6] at d2 ⊢
  have d3 := (drop_c d2).1
  have d4 := (drop_c d3).1
  have d5 := (drop_c d4).1
  obtain ⟨w1, w2⟩ := letter1 d3 hc (nlt_c rfl)
  have x1 : nx B (p + 1 + 6) = (97, p + 1 + 6 + 1, p + 1 + 6 + 1 + 1) := by rw [nx_sp d2, w1]
  have hkb : kb (48 + (a : Int)) = 48 := by
    unfold kb
    rw [if_neg (by omega), if_pos (by omega)]
  have x2 : nx B (p + 1 + 6 + 1 + 1) = (48, p + 1 + 6 + 1 + 1 + 1, p + 1 + 6 + 1 + 1 + 1 + 1) := by
    rw [nx_sp d4, nx_c d5 (decide_eq_false (by omega)) (decide_eq_false (by omega)), hkb]
  unfold iSym
  dsimp only
  rw [x1]
  dsimp only
  rw [x2]
  have hdg : dgv B (48, p + 1 + 6 + 1 + 1 + 1, p + 1 + 6 + 1 + 1 + 1 + 1) = (a : Int) := by
    unfold dgv
    dsimp only
    rw [(drop_c d5).2.1]
    omega
  have hdt : dgt B 4 (48, p + 1 + 6 + 1 + 1 + 1, p + 1 + 6 + 1 + 1 + 1 + 1) = 0 := by
    unfold dgt
    rw [if_neg (fun e => e rfl), hdg, if_pos (by omega)]
  rw [if_neg (by omega), if_neg (by decide), w2, if_neg (fun h => h hf), if_neg (fun h => h hdt), hdg, Int.toNat_natCast]
theorem its_rule {rs : List (List Int × List Int)} {ts : List (List Int)} {L R SL SR : List Int} (h : B.drop p = jlit 8 ++ (SL ++ (jlit 10 ++ (SR ++ Z)))) (hz : nlt Z) (hL : TW 3 L SL) (hR : TW 3 R SR) (l1 : L.length ≤ 12) (l2 : R.length ≤ 12) (h6 : rs.length < 6) (hr : 0 ≤ L.getD 0 0) (hv : ∀ c, c ∈ R → c < 0 → c ∈ L) : its B (n + 1) (sy4, (rs, ts)) (nx B p) = its B n (sy4, (rs ++ [(L, R)], ts)) (nx B (p + (jlit 8 ++ (SL ++ (jlit 10 ++ SR))).length)) := by
  have h' : B.drop p = 59 :: (jlit 2 ++ (32 :: (SL ++ (32 :: 61 :: 32 :: (SR ++ Z))))) := h
  obtain ⟨e1, e2⟩ := its_w (n := n) (S := (sy4, (rs, ts))) (q := 2) (by decide) h' (nlt_c rfl)
  rw [e1]
  unfold itm
  rw [if_neg (fun e => by cases (e2 1 (by decide)).mp e), if_pos ((e2 2 (by decide)).mpr rfl)]
  have d1 := (drop_c h').1
  have d2 := drop_at d1
  have l4 : (jlit 2).length = 4 := rfl
  rw [l4] at d2 ⊢
  have d3 := (drop_c d2).1
  have d4 := drop_at d3
  have d5 := (drop_c d4).1
  have d6 := (drop_c d5).1
  have d7 := (drop_c d6).1
  unfold iRul
  dsimp only
  rw [if_neg (by omega), nx_sp d2, rdT_all hL d3 (nlt_c rfl) l1 (by omega) (fun _ => hr) (fun e => by cases e)]
  dsimp only
  have x1 : nx B (p + 1 + 4 + 1 + SL.length) = (61, p + 1 + 4 + 1 + SL.length + 1, p + 1 + 4 + 1 + SL.length + 1 + 1) := by rw [nx_sp d4, nx_c d5 rfl rfl]; rfl
  rw [x1, if_neg (fun e => e rfl)]
  dsimp only
  rw [nx_sp d6, rdT_all hR d7 hz l2 (by omega) (fun e => by cases e) (fun _ => hv)]
  dsimp only
  rw [show p + (jlit 8 ++ (SL ++ (jlit 10 ++ SR))).length = p + 1 + 4 + 1 + SL.length + 1 + 1 + 1 + SR.length by
    rw [List.length_append, List.length_append, List.length_append, show (jlit 8).length = 6 from rfl, show (jlit 10).length = 3 from rfl]
    omega]
theorem its_term {rs : List (List Int × List Int)} {ts : List (List Int)} {X S : List Int} (h : B.drop p = jlit 11 ++ (S ++ Z)) (hz : nlt Z) (hX : TW 4 X S) (l1 : X.length ≤ 40) (h6 : ts.length < 6) : its B (n + 1) (sy4, (rs, ts)) (nx B p) = its B n (sy4, (rs, ts ++ [X])) (nx B (p + (jlit 11 ++ S).length)) := by
  have h' : B.drop p = 59 :: (jlit 3 ++ (32 :: (S ++ Z))) := h
  obtain ⟨e1, e2⟩ := its_w (n := n) (S := (sy4, (rs, ts))) (q := 3) (by decide) h' (nlt_c rfl)
  rw [e1]
  unfold itm
  rw [if_neg (fun e => by cases (e2 1 (by decide)).mp e), if_neg (fun e => by cases (e2 2 (by decide)).mp e), if_pos ((e2 3 (by decide)).mpr rfl)]
  have d1 := (drop_c h').1
  have d2 := drop_at d1
  have l4 : (jlit 3).length = 4 := rfl
  rw [l4] at d2 ⊢
  have d3 := (drop_c d2).1
  unfold iTrm
  dsimp only
  rw [if_neg (by omega), nx_sp d2, rdT_all hX d3 hz l1 (by omega) (fun e => by cases e) (fun e => by cases e)]
  dsimp only
  rw [show p + (jlit 11 ++ S).length = p + 1 + 4 + 1 + S.length by
    rw [List.length_append, show (jlit 11).length = 6 from rfl]
    omega]
theorem dg1 {a : Nat} (h : B.drop p = 32 :: (48 + (a : Int)) :: Z) (ha : a < 10) : nx B p = (48, p + 1, p + 1 + 1) ∧ dgv B (48, p + 1, p + 1 + 1) = (a : Int) ∧ ∀ m : Nat, a < m → dgt B m (48, p + 1, p + 1 + 1) = 0 := by
  have d1 := (drop_c h).1
  have hkb : kb (48 + (a : Int)) = 48 := by
    unfold kb
    rw [if_neg (by omega), if_pos (by omega)]
  have hv : dgv B (48, p + 1, p + 1 + 1) = (a : Int) := by
    unfold dgv
    dsimp only
    rw [(drop_c d1).2.1]
    omega
  refine ⟨by rw [nx_sp h, nx_c d1 (decide_eq_false (by omega)) (decide_eq_false (by omega)), hkb], hv, fun m hm => ?_⟩
  unfold dgt
  rw [if_neg (fun e => e rfl), hv, if_pos (by omega)]
theorem its_copy {rs : List (List Int × List Int)} {ts : List (List Int)} (h : B.drop p = jlit 12 ++ Z) (h6 : ts.length < 6) (h2 : 1 < ts.length) : its B (n + 1) (sy4, (rs, ts)) (nx B p) = its B n (sy4, (rs, ts ++ [ts.getD 1 []])) (nx B (p + 7)) := by
  have h' : B.drop p = 59 :: (jlit 4 ++ (32 :: (48 + ((1 : Nat) : Int)) :: Z)) := h
  obtain ⟨e1, e2⟩ := its_w (n := n) (S := (sy4, (rs, ts))) (q := 4) (by decide) h' (nlt_c rfl)
  rw [e1]
  unfold itm
  rw [if_neg (fun e => by cases (e2 1 (by decide)).mp e), if_neg (fun e => by cases (e2 2 (by decide)).mp e), if_neg (fun e => by cases (e2 3 (by decide)).mp e), if_pos ((e2 4 (by decide)).mpr rfl)]
  have d1 := (drop_c h').1
  have d2 := drop_at d1
  have l4 : (jlit 4).length = 4 := rfl
  rw [l4] at d2 ⊢
  obtain ⟨x1, x2, x3⟩ := dg1 d2 (by decide)
  unfold iCpy
  dsimp only
  rw [if_neg (by omega), x1, x3 _ h2, if_neg (fun h => h rfl), x2]
  rfl
theorem its_step {rs : List (List Int × List Int)} {ts : List (List Int)} {pl : Int} {Y : List Int} (h : B.drop p = jlit 13 ++ Z) (h2 : 0 < ts.length) (hs : stp rs true (ts.getD 0 []) = some (pl, Y)) : its B (n + 1) (sy4, (rs, ts)) (nx B p) = its B n (sy4, (rs, ts.set 0 Y)) (nx B (p + 7)) := by
  have h' : B.drop p = 59 :: (jlit 6 ++ (32 :: (48 + ((0 : Nat) : Int)) :: Z)) := h
  obtain ⟨e1, e2⟩ := its_w (n := n) (S := (sy4, (rs, ts))) (q := 6) (by decide) h' (nlt_c rfl)
  rw [e1]
  unfold itm
  rw [if_neg (fun e => by cases (e2 1 (by decide)).mp e), if_neg (fun e => by cases (e2 2 (by decide)).mp e), if_neg (fun e => by cases (e2 3 (by decide)).mp e), if_neg (fun e => by cases (e2 4 (by decide)).mp e), if_neg (fun e => by cases (e2 5 (by decide)).mp e), if_pos ((e2 6 (by decide)).mpr rfl)]
  have d1 := (drop_c h').1
  have d2 := drop_at d1
  have l4 : (jlit 6).length = 4 := rfl
  rw [l4] at d2 ⊢
  obtain ⟨x1, x2, x3⟩ := dg1 d2 (by decide)
  unfold iStp
  dsimp only
  rw [x1, x3 _ h2, if_neg (fun h => h rfl), x2]
  have e0 : (((0 : Nat) : Int)).toNat = 0 := rfl
  rw [e0, hs]
end L96k
