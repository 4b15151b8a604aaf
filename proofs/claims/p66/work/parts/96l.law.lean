/-! THE TEXT IS READ: all of it -/
theorem TW.sz : ∀ {n : Nat} {L S : List Int}, TW n L S → 1 ≤ L.length ∧ L.length < 2 ^ n := by
  intro n
  induction n with
  | zero => exact fun h => h.elim
  | succ n ih =>
    have hp : 2 ^ (n + 1) = 2 * 2 ^ n := by rw [Nat.pow_succ]; omega
    have hq : 0 < 2 ^ n := Nat.pow_pos (by decide)
    rintro L S (⟨k, _, rfl, rfl⟩ | ⟨k, _, rfl, rfl⟩ | ⟨X, SX, h, rfl, rfl⟩ | ⟨X, Y, SX, SY, h1, h2, rfl, rfl⟩)
    · simp only [List.length_cons, List.length_nil]
      omega
    · simp only [List.length_cons, List.length_nil]
      omega
    · have := ih h
      simp only [List.length_cons]
      omega
    · have := ih h1
      have := ih h2
      simp only [List.length_cons, List.length_append]
      omega
/-- how large a right side gets -/
theorem TW.sv {σ : Int → List Int} {g : Nat} (hg : 1 ≤ g) (hσ : ∀ c, c < 0 → (σ c).length ≤ g) : ∀ {n : Nat} {L S : List Int}, TW (n + 1) L S → (Jvm.Pilot.@@N@@.sv σ L).length ≤ (2 ^ n - 1) + 2 ^ n * g := by
  intro n
  induction n with
  | zero =>
    rintro L S (⟨k, _, rfl, rfl⟩ | ⟨k, _, rfl, rfl⟩ | ⟨X, SX, h, rfl, rfl⟩ | ⟨X, Y, SX, SY, h1, h2, rfl, rfl⟩)
    · rw [sv_cons, if_pos (by omega), sv_nil, List.append_nil]
      have := hσ (-1 - (k : Int)) (by omega)
      omega
    · rw [sv_cons, if_neg (by omega), sv_nil]
      simp only [List.append_nil, List.length_cons, List.length_nil]
      omega
    · exact h.elim
    · exact h1.elim
  | succ n ih =>
    have hp : 2 ^ (n + 1) = 2 * 2 ^ n := by rw [Nat.pow_succ]; omega
    have hq : 0 < 2 ^ n := Nat.pow_pos (by decide)
    have hm : 2 ^ (n + 1) * g = 2 ^ n * g + 2 ^ n * g := by rw [hp, Nat.two_mul, Nat.add_mul]
    have hm2 : g ≤ 2 ^ n * g := Nat.le_mul_of_pos_left g hq
    rintro L S (⟨k, _, rfl, rfl⟩ | ⟨k, _, rfl, rfl⟩ | ⟨X, SX, h, rfl, rfl⟩ | ⟨X, Y, SX, SY, h1, h2, rfl, rfl⟩)
    · rw [sv_cons, if_pos (by omega), sv_nil, List.append_nil]
      have := hσ (-1 - (k : Int)) (by omega)
      omega
    · rw [sv_cons, if_neg (by omega), sv_nil]
      simp only [List.append_nil, List.length_cons, List.length_nil]
      omega
    · have := ih h
      rw [sv_cons, if_neg (by decide), List.length_append]
      simp only [List.length_cons, List.length_nil]
      omega
    · have := ih h1
      have := ih h2
      rw [sv_cons, if_neg (by decide), List.length_append, sv_app, List.length_append]
      simp only [List.length_cons, List.length_nil]
      omega
theorem ouF_ne {f : Nat → Bool} : ∀ (n p k : Nat), k < n → f (p + k) = true → ouF f n p ≠ -1 := by
  intro n
  induction n with
  | zero => intro p k h; omega
  | succ n ih =>
    intro p k hk hf
    rw [ouF]
    by_cases q : f p = true
    · rw [if_pos q]
      omega
    · rw [if_neg q]
      cases k with
      | zero => exact absurd hf q
      | succ k => exact ih (p + 1) k (by omega) (by rw [show p + 1 + k = p + (k + 1) by omega]; exact hf)
theorem px_ne {rs : List Rl2} {inner : Bool} {T : List Int} {p : Nat} (hp : p < T.length) (h : rx rs T p = true) : px rs inner T ≠ -1 := by
  have h1 : ouF (rx rs T) T.length 0 ≠ -1 := ouF_ne _ _ p hp (by rw [Nat.zero_add]; exact h)
  unfold px
  cases inner with
  | false => rw [if_neg (by decide)]; exact h1
  | true =>
    rw [if_pos rfl, inF_ou T.length 0 T.length (by omega), if_neg h1]
    rcases inF_get (f := rx rs T) (E := en T) (T.length - ((ouF (rx rs T) T.length 0).toNat + 1)) ((ouF (rx rs T) T.length 0).toNat + 1) (en T (ouF (rx rs T) T.length 0).toNat) (ouF (rx rs T) T.length 0) with e | ⟨k, e, -⟩
    · rw [e]; exact h1
    · rw [e]; omega
theorem fi_ne {T : List Int} {p : Nat} : ∀ (rs : List Rl2) (i k : Nat), k < rs.length → (mb (rs.getD k ([], [])).1 T p).isSome = true → fi T p rs i ≠ -1 := by
  intro rs
  induction rs with
  | nil => intro i k h; simp at h
  | cons r rs ih =>
    intro i k hk hm
    rw [fi]
    by_cases q : (mb r.1 T p).isSome = true
    · rw [if_pos q]
      omega
    · rw [if_neg q]
      cases k with
      | zero => exact absurd hm q
      | succ k => exact ih (i + 1) k (by simpa using hk) hm
theorem okRl.c {r : List Int × List Int} {q : List Int × List Int} {Rs Ss : List (List Int × List Int)} (h : okRl (r :: Rs) (q :: Ss)) : (TW 3 r.1 q.1 ∧ TW 3 r.2 q.2) ∧ okRl Rs Ss := ⟨h 0 (by simp), fun k hk => h (k + 1) (by simpa using hk)⟩
theorem okTm.c {r q : List Int} {Ts Us : List (List Int)} (h : okTm (r :: Ts) (q :: Us)) : TW 4 r q ∧ okTm Ts Us := ⟨h 0 (by simp), fun k hk => h (k + 1) (by simpa using hk)⟩
/-- a step that was found by hand -/
theorem stp_rdx {Rs Ss : List (List Int × List Int)} {T S : List Int} (hR : okRl Rs Ss) (hl : Ss.length = Rs.length) (hT : TW 4 T S) (h : rdxL Rs T) : ∃ q, stp Rs true T = some q := by
  obtain ⟨r, p, τ, hr, hp, hw, hsv⟩ := h
  have hT15 := hT.sz.2
  have h16 : (2 : Nat) ^ 4 = 16 := by decide
  have hrx : rx Rs T p = true := by
    refine decide_eq_true (fi_ne Rs 0 r hr ?_)
    exact mt_comp (σ := τ) (Z := T.drop (en T p)) _ _ _ (fun c _ => hw c) (fun v hv => absurd rfl hv) (by rw [hsv]; exact (sb_drop T p).symm)
  have hpx : px Rs true T ≠ -1 := px_ne hp hrx
  obtain ⟨k, hk, hkl, hkx⟩ := px_get hpx
  have hfi : fi T k Rs 0 ≠ -1 := of_decide_eq_true hkx
  obtain ⟨j, hj, hjl, hjm⟩ := fi_get Rs 0 hfi
  rw [Nat.zero_add] at hj
  obtain ⟨b, hb⟩ := Option.isSome_iff_exists.mp hjm
  have hlen : (bd (Rs.getD j ([], [])).2 T k b).length ≤ 80 := by
    have hTW := (hR j (by omega)).2
    have hsl : ∀ c, c < 0 → (bs T b c).length ≤ 15 := fun c _ => by
      unfold bs sb
      rw [List.length_take, List.length_drop]
      omega
    have := TW.sv (σ := bs T b) (g := 15) (by decide) hsl hTW
    have e4 : (2 : Nat) ^ 2 = 4 := by decide
    rw [e4] at this
    have hen := en_gt hkl
    have hen2 := en_le (L := T) (p := k) (by omega)
    unfold bd
    rw [List.length_append, List.length_append, List.length_take, List.length_drop]
    omega
  refine ⟨((k : Int), bd (Rs.getD j ([], [])).2 T k b), ?_⟩
  unfold stp
  rw [if_neg hpx, hk, Int.toNat_natCast]
  have : st1 Rs T k = some (bd (Rs.getD j ([], [])).2 T k b) := by
    unfold st1
    rw [if_neg hfi, hj, Int.toNat_natCast]
    unfold rw1
    rw [hb]
    dsimp only
    rw [if_pos hlen]
  rw [this]
section L96l
variable {B Z : List Int} {p n : Nat}
theorem lit8_nl {X : List Int} : nlt (jlit 8 ++ X) := nlt_c rfl
theorem lit11_nl {X : List Int} : nlt (jlit 11 ++ X) := nlt_c rfl
theorem its_rules {ts : List (List Int)} : ∀ (Ss Rs rs : List (List Int × List Int)) (p n : Nat), Ss.length = Rs.length → okRl Rs Ss → rs.length + Rs.length ≤ 6 → (∀ r, r ∈ Rs → 0 ≤ r.1.getD 0 0 ∧ ∀ c, c ∈ r.2 → c < 0 → c ∈ r.1) → B.drop p = rlT Ss ++ Z → nlt Z → its B (n + Ss.length) (sy4, (rs, ts)) (nx B p) = its B n (sy4, (rs ++ Rs, ts)) (nx B (p + (rlT Ss).length)) := by
  intro Ss
  induction Ss with
  | nil =>
    intro Rs rs p n hl _ _ _ hd hz
    have : Rs = [] := List.length_eq_zero_iff.mp (by simpa using hl.symm)
    subst this
    rw [List.append_nil]
    rfl
  | cons q Ss ih =>
    intro Rs rs p n hl hok h6 hr hd hz
    cases Rs with
    | nil => simp at hl
    | cons r Rs =>
      obtain ⟨⟨t1, t2⟩, hok'⟩ := hok.c
      have h8 : (2 : Nat) ^ 3 = 8 := by decide
      have s1 := t1.sz.2
      have s2 := t2.sz.2
      have e : rlT (q :: Ss) = (jlit 8 ++ (q.1 ++ (jlit 10 ++ q.2))) ++ rlT Ss := rfl
      have hd1 : B.drop p = jlit 8 ++ (q.1 ++ (jlit 10 ++ (q.2 ++ (rlT Ss ++ Z)))) := by
        rw [hd, e]
        simp only [List.append_assoc]
      have hnz : nlt (rlT Ss ++ Z) := by
        cases Ss with
        | nil => exact hz
        | cons q2 Ss => exact nlt_c rfl
      have hd2 : B.drop p = (jlit 8 ++ (q.1 ++ (jlit 10 ++ q.2))) ++ (rlT Ss ++ Z) := by
        rw [hd, e]
        simp only [List.append_assoc]
      simp only [List.length_cons] at h6 hl
      rw [List.length_cons, ← Nat.add_assoc, its_rule hd1 hnz t1 t2 (by omega) (by omega) (by omega) (hr r List.mem_cons_self).1 (hr r List.mem_cons_self).2]
      rw [ih Rs (rs ++ [(r.1, r.2)]) _ n (by omega) hok' (by rw [List.length_append]; simp only [List.length_cons, List.length_nil]; omega) (fun x hx => hr x (List.mem_cons_of_mem _ hx)) (drop_at hd2) hz]
      have e2 : (rlT (q :: Ss)).length = (jlit 8 ++ (q.1 ++ (jlit 10 ++ q.2))).length + (rlT Ss).length := by rw [e, List.length_append]
      have e3 : rs ++ [(r.1, r.2)] ++ Rs = rs ++ r :: Rs := by
        rw [List.append_assoc]
        rfl
      rw [e3, e2, Nat.add_assoc]
theorem its_terms {rs : List (List Int × List Int)} : ∀ (Us Ts ts : List (List Int)) (p n : Nat), Us.length = Ts.length → okTm Ts Us → ts.length + Ts.length ≤ 6 → B.drop p = tmT Us ++ Z → nlt Z → its B (n + Us.length) (sy4, (rs, ts)) (nx B p) = its B n (sy4, (rs, ts ++ Ts)) (nx B (p + (tmT Us).length)) := by
  intro Us
  induction Us with
  | nil =>
    intro Ts ts p n hl _ _ hd hz
    have : Ts = [] := List.length_eq_zero_iff.mp (by simpa using hl.symm)
    subst this
    rw [List.append_nil]
    rfl
  | cons q Us ih =>
    intro Ts ts p n hl hok h6 hd hz
    cases Ts with
    | nil => simp at hl
    | cons r Ts =>
      obtain ⟨t1, hok'⟩ := hok.c
      have h16 : (2 : Nat) ^ 4 = 16 := by decide
      have s1 := t1.sz.2
      have e : tmT (q :: Us) = (jlit 11 ++ q) ++ tmT Us := rfl
      have hd1 : B.drop p = jlit 11 ++ (q ++ (tmT Us ++ Z)) := by
        rw [hd, e]
        simp only [List.append_assoc]
      have hnz : nlt (tmT Us ++ Z) := by
        cases Us with
        | nil => exact hz
        | cons q2 Us => exact nlt_c rfl
      have hd2 : B.drop p = (jlit 11 ++ q) ++ (tmT Us ++ Z) := by
        rw [hd, e]
        simp only [List.append_assoc]
      simp only [List.length_cons] at h6 hl
      rw [List.length_cons, ← Nat.add_assoc, its_term hd1 hnz t1 (by omega) (by omega)]
      rw [ih Ts (ts ++ [r]) _ n (by omega) hok' (by rw [List.length_append]; simp only [List.length_cons, List.length_nil]; omega) (drop_at hd2) hz]
      have e2 : (tmT (q :: Us)).length = (jlit 11 ++ q).length + (tmT Us).length := by rw [e, List.length_append]
      have e3 : ts ++ [r] ++ Ts = ts ++ r :: Ts := by
        rw [List.append_assoc]
        rfl
      rw [e3, e2, Nat.add_assoc]
theorem its_end {S : St} (h : B.drop p = Z) (hz : ∀ z, z ∈ Z → z = 32) (hp : p ≤ B.length) : its B n S (nx B p) = .inr S := by
  cases n with
  | zero => rfl
  | succ n => rw [its, if_pos (nx_0 Z p h hz hp)]
theorem blank_nl (hz : ∀ z, z ∈ Z → z = 32) : nlt Z := fun c r e => by
  rw [hz c (by rw [e]; exact List.mem_cons_self)]
  rfl
/-- what text() tells is read -/
theorem prs_text {Rs Ss : List (List Int × List Int)} {Ts Us : List (List Int)} {E Bl : List Int} (hS : Ss.length = Rs.length) (hR : okRl Rs Ss) (h3 : Rs.length ≤ 3) (hr : ∀ r, r ∈ Rs → 0 ≤ r.1.getD 0 0 ∧ ∀ c, c ∈ r.2 → c < 0 → c ∈ r.1) (hU : Us.length = Ts.length) (hT : okTm Ts Us) (h2 : 2 ≤ Ts.length) (h3' : Ts.length ≤ 3) (hE : E = [] ∨ (E = jlit 13 ∧ rdxL Rs (Ts.getD 0 []))) (hBl : ∀ z, z ∈ Bl → z = 32) : ∃ ts, prsT (txT Ss Us E ++ Bl) = .inr (sy4, (Rs, ts)) ∧ ts.length = Ts.length + 1 := by
  generalize hB : txT Ss Us E ++ Bl = B
  have hd0 : B.drop 0 = jlit 0 ++ ([59] ++ jlit 1 ++ [32, 102, 32, 50] ++ ([59] ++ jlit 1 ++ [32, 103, 32, 49] ++ ([59] ++ jlit 1 ++ [32, 97, 32, 48] ++ ([59] ++ jlit 1 ++ [32, 98, 32, 48] ++ (rlT Ss ++ (tmT Us ++ (jlit 12 ++ (E ++ Bl)))))))) := by
    rw [List.drop_zero, ← hB]
    unfold txT
    have : jlit 7 = jlit 0 ++ ([59] ++ jlit 1 ++ [32, 102, 32, 50] ++ ([59] ++ jlit 1 ++ [32, 103, 32, 49] ++ ([59] ++ jlit 1 ++ [32, 97, 32, 48] ++ ([59] ++ jlit 1 ++ [32, 98, 32, 48])))) := rfl
    rw [this]
    simp only [List.append_assoc]
  have w0 := jlW (q := 0) (by decide)
  obtain ⟨n0, n1⟩ := nx_w hd0 w0.1 (nlt_c rfl) w0.2.1 w0.2.2
  unfold prsT
  rw [if_pos (by unfold isW; exact decide_eq_true ⟨by rw [n0], by rw [n0]; exact n1⟩), n0]
  have d1 := drop_at hd0
  have l0 : (jlit 0).length = 6 := rfl
  rw [l0, Nat.zero_add] at d1
  show ∃ ts, its B 501 ([], ([], [])) (nx B (0 + (jlit 0).length)) = .inr (sy4, (Rs, ts)) ∧ ts.length = Ts.length + 1
  rw [l0, Nat.zero_add]
  have s1 := its_sym (B := B) (n := 500) (p := 6) (S := ([], ([], []))) (c := 102) (a := 2) d1 rfl (by decide) (by decide) rfl
  rw [s1]
  have d2 := drop_at (B := B) (S := [59] ++ jlit 1 ++ [32, 102, 32, 50]) d1
  have s2 := its_sym (B := B) (n := 499) (p := 6 + 11) (S := ([(2, [102])], ([], []))) (c := 103) (a := 1) d2 rfl (by decide) (by decide) rfl
  show ∃ ts, its B (499 + 1) ([(2, [102])], ([], [])) (nx B (6 + 11)) = .inr (sy4, (Rs, ts)) ∧ ts.length = Ts.length + 1
  rw [s2]
  have d3 := drop_at (B := B) (S := [59] ++ jlit 1 ++ [32, 103, 32, 49]) d2
  have s3 := its_sym (B := B) (n := 498) (p := 6 + 11 + 11) (S := ([(2, [102]), (1, [103])], ([], []))) (c := 97) (a := 0) d3 rfl (by decide) (by decide) rfl
  show ∃ ts, its B (498 + 1) ([(2, [102]), (1, [103])], ([], [])) (nx B (6 + 11 + 11)) = .inr (sy4, (Rs, ts)) ∧ ts.length = Ts.length + 1
  rw [s3]
  have d4 := drop_at (B := B) (S := [59] ++ jlit 1 ++ [32, 97, 32, 48]) d3
  have s4 := its_sym (B := B) (n := 497) (p := 6 + 11 + 11 + 11) (S := ([(2, [102]), (1, [103]), (0, [97])], ([], []))) (c := 98) (a := 0) d4 rfl (by decide) (by decide) rfl
  show ∃ ts, its B (497 + 1) ([(2, [102]), (1, [103]), (0, [97])], ([], [])) (nx B (6 + 11 + 11 + 11)) = .inr (sy4, (Rs, ts)) ∧ ts.length = Ts.length + 1
  rw [s4]
  have d5 := drop_at (B := B) (S := [59] ++ jlit 1 ++ [32, 98, 32, 48]) d4
  have d5 : B.drop (6 + 11 + 11 + 11 + 11) = rlT Ss ++ (tmT Us ++ (jlit 12 ++ (E ++ Bl))) := d5
  show ∃ ts, its B 497 (sy4, ([], [])) (nx B (6 + 11 + 11 + 11 + 11)) = .inr (sy4, (Rs, ts)) ∧ ts.length = Ts.length + 1
  generalize 6 + 11 + 11 + 11 + 11 = p5 at *
  have hn1 : nlt (tmT Us ++ (jlit 12 ++ (E ++ Bl))) := by
    cases Us with
    | nil => exact nlt_c rfl
    | cons q Us => exact nlt_c rfl
  obtain ⟨nA, hnA⟩ : ∃ nA, 497 = nA + 1 + 1 + Us.length + Ss.length := ⟨495 - Us.length - Ss.length, by omega⟩
  rw [hnA, its_rules Ss Rs [] p5 _ hS hR (by simp; omega) hr d5 hn1, List.nil_append]
  have d6 := drop_at d5
  rw [its_terms Us Ts [] _ _ hU hT (by simp; omega) d6 (nlt_c rfl), List.nil_append]
  have d7 := drop_at d6
  rw [its_copy d7 (by omega) (by omega)]
  have d8 := drop_at d7
  have l12 : (jlit 12).length = 7 := rfl
  rw [l12] at d8
  have hlen : p5 + (rlT Ss).length + (tmT Us).length + 7 ≤ B.length := by
    rcases Nat.lt_or_ge B.length (p5 + (rlT Ss).length + (tmT Us).length + 7) with g | g
    · exfalso
      have e := congrArg List.length d7
      rw [List.length_drop, List.length_append, l12] at e
      omega
    · exact g
  generalize p5 + (rlT Ss).length + (tmT Us).length + 7 = p8 at *
  rcases hE with rfl | ⟨rfl, hrx⟩
  · exact ⟨_, its_end d8 (fun z hz => hBl z (by simpa using hz)) hlen, by rw [List.length_append]; rfl⟩
  · obtain ⟨⟨pl, Y⟩, hst⟩ := stp_rdx hR hS (hT 0 (by omega)) hrx
    have e0 : (Ts ++ [Ts.getD 1 []]).getD 0 [] = Ts.getD 0 [] := getD_app_l (by omega)
    rw [its_step d8 (by rw [List.length_append]; omega) (by rw [e0]; exact hst)]
    have d9 := drop_at d8
    have l13 : (jlit 13).length = 7 := rfl
    rw [l13] at d9
    have hlen9 : p8 + 7 ≤ B.length := by
      have e := congrArg List.length d8
      rw [List.length_drop, List.length_append, l13] at e
      omega
    exact ⟨_, its_end d9 hBl hlen9, by rw [List.length_set, List.length_append]; rfl⟩
end L96l
