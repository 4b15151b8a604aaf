/-! THE LAW'S OWN METHODS: rewriting by hand; a term and its parts as rows -/
/-- matching finds what there is to find -/
theorem mt_comp {T : List Int} {σ : Int → List Int} {Z : List Int} : ∀ (r : List Int) (p : Nat) (b : Nat → Int), (∀ c, c ∈ r → c < 0 → wl (σ c) 1 = true) → (∀ v, b v ≠ -1 → sb T (b v).toNat = σ (-1 - (v : Int))) → T.drop p = sv σ r ++ Z → (mt T r p b).isSome = true := by
  intro r
  induction r with
  | nil => intro p b _ _ _; rfl
  | cons c r ih =>
    intro p b hw hb hd
    rw [sv_cons] at hd
    rw [mt]
    by_cases hc : c < 0
    · rw [if_pos hc] at hd ⊢
      rw [List.append_assoc] at hd
      have hs : sk (T.drop p) 1 = (σ c).length := by rw [hd]; exact sk_app _ _ _ (hw c List.mem_cons_self hc)
      have hsb : sb T p = σ c := by
        unfold sb
        rw [hs, hd, List.take_left]
      have hen : T.drop (en T p) = sv σ r ++ Z := by
        unfold en
        rw [hs, ← List.drop_drop, hd, List.drop_left]
      have hvn : -1 - ((vn c : Nat) : Int) = c := by
        unfold vn
        omega
      have hw' : ∀ x, x ∈ r → x < 0 → wl (σ x) 1 = true := fun x hx => hw x (List.mem_cons_of_mem _ hx)
      by_cases hv : b (vn c) = -1
      · rw [if_pos hv]
        refine ih _ _ hw' (fun v hv' => ?_) hen
        by_cases e : v = vn c
        · subst e
          rw [up_s, hvn, Int.toNat_natCast]
          exact hsb
        · rw [up_n e] at hv' ⊢
          exact hb v hv'
      · rw [if_neg hv, hb _ hv, hvn, hsb, if_pos rfl]
        exact ih _ _ hw' hb hen
    · rw [if_neg hc] at hd ⊢
      have hp : p < T.length := by
        rcases Nat.lt_or_ge p T.length with g | g
        · exact g
        · rw [List.drop_eq_nil_of_le g] at hd
          cases hd
      rw [dropc hp] at hd
      have h1 := (List.cons.inj hd).1
      have h2 := (List.cons.inj hd).2
      rw [if_pos h1]
      exact ih _ _ (fun x hx => hw x (List.mem_cons_of_mem _ hx)) hb h2
theorem sk_app1 {A B : List Int} {e : Nat} (h : wl A (e + 1) = true) : sk (A ++ B) 1 = sk A 1 := by
  obtain ⟨A1, A2, rfl, h1, -⟩ := wl_one_cut h
  rw [List.append_assoc, sk_app _ _ _ h1, sk_app _ _ _ h1]
theorem sb_app_l {X Y : List Int} {d p : Nat} (h : wl X d = true) (hp : p < X.length) : sb (X ++ Y) p = sb X p := by
  obtain ⟨e, h1, h2⟩ := wl_drop X d h p (by omega)
  have h3 := h2 hp
  obtain ⟨e, rfl⟩ : ∃ f, e = f + 1 := ⟨e - 1, by omega⟩
  unfold sb
  rw [List.drop_append_of_le_length (by omega), sk_app1 h1, List.take_append_of_le_length (sk_le _ _)]
theorem sb_app_r {X Y : List Int} {p : Nat} (hp : X.length ≤ p) : sb (X ++ Y) p = sb Y (p - X.length) := by
  unfold sb
  rw [List.drop_append, List.drop_eq_nil_of_le hp, List.nil_append]
theorem sb_cons (c : Int) (L : List Int) (p : Nat) : sb (c :: L) (p + 1) = sb L p := rfl
theorem sb_z {L : List Int} (h : wl L 1 = true) : sb L 0 = L := by
  unfold sb
  rw [List.drop_zero, sk_wl _ _ h, List.take_length]
section L96h
variable {W : Nat → Prop} {c w : Nat} {s s1 : LSt} {i k n t a b d ir it aw ar : Nat} {v x : JV} {L : List Int}
theorem IsN.wl : ∀ {n : Nat} {v : JV} {L : List Int}, IsN n s v L → Jvm.Pilot.@@N@@.wl L 1 = true := by
  intro n
  induction n with
  | zero => exact fun h => h.elim
  | succ n ih =>
    rintro v L ⟨i, h1, h2, h⟩
    rcases h with ⟨k, q, a, b, d, rfl⟩ | ⟨k, q, a, b, d, rfl⟩ | ⟨X, a, b, d, rfl⟩ | ⟨X, Y, a, b, d, rfl⟩
    · rw [wl_cons, ar_neg (by omega)]
      rfl
    · rcases q with rfl | rfl <;> rfl
    · rw [wl_cons]
      exact ih b
    · rw [wl_cons]
      exact wl_app X Y 1 1 (ih b) (ih d)
/-- rows of children -/
theorem IsC.wl {L : List Int} (h : IsC n s v L) : ∃ e, Jvm.Pilot.@@N@@.wl L e = true := by
  rcases h with ⟨-, rfl⟩ | h
  · exact ⟨0, rfl⟩
  · exact ⟨1, h.wl⟩
theorem IsC.nzL {L : List Int} (h : IsC n s v L) (hl : 0 < L.length) : IsN n s v L := by
  rcases h with ⟨-, rfl⟩ | h
  · simp at hl
  · exact h
theorem IsC.le {m : Nat} {L : List Int} (h : IsC n s v L) (hm : n ≤ m) : IsC m s v L := by
  rcases h with h | h
  · exact Or.inl h
  · exact Or.inr (h.le hm)
theorem IsC.nn {L : List Int} (h : IsC n s v L) : v = jX .null ↔ L = [] := by
  rcases h with ⟨h1, h2⟩ | h
  · exact ⟨fun _ => h2, fun _ => h1⟩
  · refine ⟨fun e => absurd e h.nn, fun e => ?_⟩
    have := h.sz.1
    rw [e] at this
    simp at this
/-- the row by which variables are bound -/
def Wt (M : Nat) (s : LSt) (aw : Nat) (f : Nat → Option (List Int)) : Prop := dh s aw = some (116, 16) ∧ ∀ k, k < 16 → (f k = none ∧ dV s aw k = jX .null) ∨ ∃ X, f k = some X ∧ IsN M s (dV s aw k) X
/-- what is bound alike -/
def cpt (f : Nat → Option (List Int)) (τ : Int → List Int) : Prop := ∀ k X, k < 16 → f k = some X → τ (-1 - (k : Int)) = X
theorem ndW {p q : Nat × Nat} (h : dh s aw = some p) (hi : dh s i = some q) (hpq : p ≠ q) : ¬ i = aw := by
  rintro rfl
  rw [h] at hi
  exact hpq (Option.some.inj hi)
theorem IsN.faw {L : List Int} (h : IsN n s v L) (hf : Fm (fun j => j = aw) c w s s1) (ha : dh s aw = some (116, 16)) : IsN n s1 v L := h.fm hf fun _ hi => ndW ha hi (by decide)
theorem IsC.faw {L : List Int} (h : IsC n s v L) (hf : Fm (fun j => j = aw) c w s s1) (ha : dh s aw = some (116, 16)) : IsC n s1 v L := h.fm hf fun _ hi => ndW ha hi (by decide)
theorem Wt.fm {M : Nat} {f : Nat → Option (List Int)} (h : Wt M s aw f) (hf : Fm W c w s s1) (ha : ¬ W aw) (hW : ∀ i, dh s i = some (11, 3) → ¬ W i) : Wt M s1 aw f := by
  refine ⟨hf.dh h.1, fun k hk => ?_⟩
  rw [hf.dV h.1 ha]
  rcases h.2 k hk with h2 | ⟨X, h2, h3⟩
  · exact Or.inl h2
  · exact Or.inr ⟨X, h2, h3.fm hf hW⟩
theorem i_cE {A B : Prop} {v x : JV} (hj : jap v x = true) (h1 : jeqr v x = true → A) (h2 : jeqr v x = false → B) : cE v x A B := by
  refine ⟨hj, ?_⟩
  by_cases q : jeqr v x = true
  · rw [if_pos q]
    exact h1 q
  · rw [if_neg q]
    exact h2 (by simpa using q)
/-- two trees are alike -/
theorem c_same : ∀ (n m : Nat) {s : LSt} {v1 v2 : JV} {X Y : List Int} {Q : Int → LSt → Prop}, n < m → IsC n s v1 X → IsC n s v2 Y → (∀ z, bz z → (z = 1 → X = Y) → Q z s) → d_Lw_same m v1 v2 s Q := by
  intro n
  have nul : ∀ (m : Nat) {s : LSt} {v1 v2 : JV} {X Y : List Int} {Q : Int → LSt → Prop} {N : Nat}, 0 < m → IsC N s v1 X → IsC N s v2 Y → (v1 = jX .null ∨ v2 = jX .null) → (∀ z, bz z → (z = 1 → X = Y) → Q z s) → d_Lw_same m v1 v2 s Q := by
    intro m s v1 v2 X Y Q N hm h1 h2 hn h
    cases m with
    | zero => omega
    | succ m =>
      show d_Lw_same_F (d_Lw_same m) v1 v2 s Q
      unfold d_Lw_same_F d_Lw_same_j8
      rcases h1 with ⟨rfl, rfl⟩ | h1
      · rcases h2 with ⟨rfl, rfl⟩ | h2
        · exact i_N0 (i_cE rfl (fun _ => h 1 (Or.inr rfl) fun _ => rfl) (fun e => by cases e))
        · obtain ⟨-, j, rfl, -⟩ := h2.nl
          exact i_N0 (i_cE rfl (fun e => by cases e) fun _ => h 0 (Or.inl rfl) fun e => by cases e)
      · obtain ⟨-, j, rfl, -⟩ := h1.nl
        rcases h2 with ⟨rfl, rfl⟩ | h2
        · exact i_N1 (i_N0 (i_cE rfl (fun e => by cases e) fun _ => h 0 (Or.inl rfl) fun e => by cases e))
        · obtain ⟨-, j2, rfl, -⟩ := h2.nl
          rcases hn with e | e <;> cases e
  induction n with
  | zero =>
    intro m s v1 v2 X Y Q hm h1 h2 h
    refine nul m (by omega) h1 h2 ?_ h
    rcases h1 with ⟨rfl, -⟩ | h1
    · exact Or.inl rfl
    · exact h1.elim
  | succ n ih =>
    intro m s v1 v2 X Y Q hm h1 h2 h
    by_cases hn : v1 = jX .null ∨ v2 = jX .null
    · exact nul m (by omega) h1 h2 hn h
    · have g1 := h1.nz fun e => hn (Or.inl e)
      have g2 := h2.nz fun e => hn (Or.inr e)
      obtain ⟨i1, z1, X1, X2, rfl, d1, e1, a1, b1, k1, rfl⟩ := g1.ex
      obtain ⟨i2, z2, Y1, Y2, rfl, d2, e2, a2, b2, k2, rfl⟩ := g2.ex
      cases m with
      | zero => omega
      | succ m =>
        show d_Lw_same_F (d_Lw_same m) (jR i1) (jR i2) s Q
        unfold d_Lw_same_F
        refine i_N1 (i_N1 (i_fI d1 (by decide) e1 (i_fI d2 (by decide) e2 ?_)))
        by_cases q : z1 = z2
        · rw [if_pos q]
          subst q
          refine i_fV d1 (by decide) rfl a1.nl (i_fV d2 (by decide) rfl a2.nl (ih m (by omega) a1 a2 fun z hz hz1 => ?_))
          by_cases q0 : z = 0
          · rw [if_pos q0]
            exact h 0 (Or.inl rfl) fun e => by cases e
          · rw [if_neg q0]
            have hX := hz1 (hz.resolve_left q0)
            refine i_fV d1 (by decide) rfl b1.nl (i_fV d2 (by decide) rfl b2.nl (ih m (by omega) b1 b2 fun y hy hy1 => ?_))
            by_cases q1 : y = 0
            · rw [if_pos q1]
              exact h 0 (Or.inl rfl) fun e => by cases e
            · rw [if_neg q1]
              refine h 1 (Or.inr rfl) fun _ => ?_
              rw [hX, hy1 (hy.resolve_left q1)]
        · rw [if_neg q]
          exact h 0 (Or.inl rfl) fun e => by cases e
/-- a left side against a term -/
theorem c_match : ∀ (n m K M : Nat) {s : LSt} {v1 v2 : JV} {L T : List Int} {aw : Nat} {f : Nat → Option (List Int)} {Q : Int → LSt → Prop}, n < m → m ≤ 5 → IsC n s v1 L → IsC K s v2 T → (v1 = jX .null ↔ v2 = jX .null) → (K ≤ M ∨ (K ≤ M + 1 ∧ rootS L)) → M ≤ 4 → Wt M s aw f → (∀ s' f' z, Fm (fun j => j = aw) 0 0 s s' → Wt M s' aw f' → (∀ k X, f k = some X → f' k = some X) → bz z → (z = 1 → (∀ c, c ∈ L → c < 0 → vn c < 16 ∧ f' (vn c) ≠ none) ∧ ∀ τ, cpt f' τ → sv τ L = T) → Q z s') → d_Lw_match m v1 v2 (jR aw) s Q := by
  intro n
  induction n with
  | zero =>
    intro m K M s v1 v2 L T aw f Q hm _ h1 h2 hn _ _ hw h
    rcases h1 with ⟨rfl, rfl⟩ | h1
    · cases m with
      | zero => omega
      | succ m =>
        have := h2.nn.mp (hn.mp rfl)
        subst this
        exact h s f 1 Fm.rfl' hw (fun _ _ => id) (Or.inr rfl) fun _ => ⟨fun c hc => (by cases hc), fun _ _ => rfl⟩
    · exact h1.elim
  | succ n ih =>
    intro m K M s v1 v2 L T aw f Q hm hm5 h1 h2 hn hK hM hw h
    cases m with
    | zero => omega
    | succ m =>
      by_cases hv : v1 = jX .null
      · have e2 := h2.nn.mp (hn.mp hv)
        have e1 := h1.nn.mp hv
        subst hv e1 e2
        exact h s f 1 Fm.rfl' hw (fun _ _ => id) (Or.inr rfl) fun _ => ⟨fun c hc => (by cases hc), fun _ _ => rfl⟩
      · have g1 := h1.nz hv
        have g2 := h2.nz fun e => hv (hn.mpr e)
        cases K with
        | zero => exact g2.elim
        | succ K =>
        obtain ⟨i1, z1, X1, X2, rfl, d1, e1, a1, b1, k1, rfl⟩ := g1.ex
        obtain ⟨i2, z2, Y1, Y2, rfl, d2, e2, a2, b2, k2, rfl⟩ := g2.ex
        have haw := hw.1
        show d_Lw_match_F (d_Lw_match m) (jR i1) (jR i2) (jR aw) s Q
        unfold d_Lw_match_F
        refine i_N1 (i_fI d1 (by decide) e1 ?_)
        by_cases q : z1 < 100
        · rw [if_pos q]
          refine i_fI d1 (by decide) e1 (i_R (i_fI d2 (by decide) e2 ?_))
          by_cases qe : z1 = z2
          · rw [if_pos qe]
            subst qe
            have hnx : dV s i1 1 = jX .null ↔ dV s i2 1 = jX .null := by
              rcases k1 with ⟨r1, r2, r3⟩ | ⟨r1, r2, r3⟩ | ⟨r1, r2, r3⟩ <;> rcases k2 with ⟨t1, t2, t3⟩ | ⟨t1, t2, t3⟩ | ⟨t1, t2, t3⟩ <;> first | omega | exact ⟨fun e => absurd e r2, fun e => absurd e t2⟩ | exact ⟨fun _ => t2, fun _ => r2⟩
            have hny : dV s i1 2 = jX .null ↔ dV s i2 2 = jX .null := by
              rcases k1 with ⟨r1, r2, r3⟩ | ⟨r1, r2, r3⟩ | ⟨r1, r2, r3⟩ <;> rcases k2 with ⟨t1, t2, t3⟩ | ⟨t1, t2, t3⟩ | ⟨t1, t2, t3⟩ <;> first | omega | exact ⟨fun e => absurd e r3, fun e => absurd e t3⟩ | exact ⟨fun _ => t3, fun _ => r3⟩
            have hpos : ¬ ncd z1 < 0 := fun hlt => by
              have := (ncd_neg k1).mp hlt
              omega
            refine i_fV d1 (by decide) rfl a1.nl (i_fV d2 (by decide) rfl a2.nl (ih m K M (by omega) (by omega) a1 a2 hnx (by omega) hM hw fun s1 f1 z hf1 hw1 hx1 hz hz1 => ?_))
            by_cases q0 : z = 0
            · rw [if_pos q0]
              exact h s1 f1 0 hf1 hw1 hx1 (Or.inl rfl) fun e => by cases e
            · rw [if_neg q0]
              obtain ⟨hb1, ht1⟩ := hz1 (hz.resolve_left q0)
              have D1 := hf1.dh d1
              have D2 := hf1.dh d2
              have E1 := hf1.dV d1 (ndW haw d1 (by decide))
              have E2 := hf1.dV d2 (ndW haw d2 (by decide))
              refine i_fV D1 (by decide) (by rw [E1]) b1.nl (i_fV D2 (by decide) (by rw [E2]) b2.nl (ih m K M (by omega) (by omega) (b1.faw hf1 haw) (b2.faw hf1 haw) hny (by omega) hM hw1 fun s2 f2 y hf2 hw2 hx2 hy hy1 => ?_))
              have F2 : Fm (fun j => j = aw) 0 0 s s2 := hf1.tr hf2 (fun _ _ => id) (fun _ _ => id) (by omega) (by omega)
              by_cases q1 : y = 0
              · rw [if_pos q1]
                exact h s2 f2 0 F2 hw2 (fun k X hk => hx2 k X (hx1 k X hk)) (Or.inl rfl) fun e => by cases e
              · rw [if_neg q1]
                obtain ⟨hb2, ht2⟩ := hy1 (hy.resolve_left q1)
                refine h s2 f2 1 F2 hw2 (fun k X hk => hx2 k X (hx1 k X hk)) (Or.inr rfl) fun _ => ⟨fun c hc hc0 => ?_, fun τ hτ => ?_⟩
                · rcases List.mem_cons.mp hc with rfl | hc
                  · exact absurd hc0 hpos
                  · rcases List.mem_append.mp hc with hc | hc
                    · obtain ⟨u1, u2⟩ := hb1 c hc hc0
                      refine ⟨u1, fun e => ?_⟩
                      cases hq : f1 (vn c) with
                      | none => exact u2 hq
                      | some X =>
                        rw [hx2 _ _ hq] at e
                        cases e
                    · exact hb2 c hc hc0
                · rw [sv_cons, if_neg hpos, sv_app, ht1 τ (fun k X hk hkX => hτ k X hk (hx2 k X hkX)), ht2 τ hτ]
                  rfl
          · rw [if_neg qe]
            exact h s f 0 Fm.rfl' hw (fun _ _ => id) (Or.inl rfl) fun e => by cases e
        · rw [if_neg q]
          have hz1 : z1 = 100 ∨ z1 = 101 := by
            rcases k1 with ⟨r1, -⟩ | ⟨r1, -⟩ | ⟨r1, -⟩ <;> omega
          have hnull : X1 = [] ∧ X2 = [] := by
            rcases k1 with ⟨r1, -⟩ | ⟨r1, -⟩ | ⟨r1, r2, r3⟩
            · omega
            · omega
            · exact ⟨a1.nn.mp r2, b1.nn.mp r3⟩
          obtain ⟨rfl, rfl⟩ := hnull
          have hKM : K + 1 ≤ M := by
            rcases hK with hK | ⟨-, Z, hZ⟩
            · exact hK
            · exfalso
              have hlt := (ncd_neg k1).mpr (by omega)
              rcases hZ with hZ | hZ <;> (have := (List.cons.inj hZ).1; omega)
          obtain ⟨kk, hkk, hkz⟩ : ∃ kk : Nat, kk < 2 ∧ z1 = 100 + (kk : Int) := by
            rcases hz1 with rfl | rfl
            · exact ⟨0, by decide, by omega⟩
            · exact ⟨1, by decide, by omega⟩
          have hwr : wr (z1 - 100) = (kk : Int) := by rw [wr_s (by omega)]; omega
          have hnc : ncd z1 = -1 - (kk : Int) := by
            unfold ncd
            rw [if_neg (by omega), if_neg (by omega), if_neg (by omega)]
            omega
          have hvn : vn (-1 - (kk : Int)) = kk := by
            unfold vn
            omega
          rw [hnc] at h
          -- the value is there: is it the same
          have fin : ∀ s' f' X, Fm (fun j => j = aw) 0 0 s s' → Wt M s' aw f' → (∀ k X, f k = some X → f' k = some X) → f' kk = some X → dV s' i1 = dV s i1 → dh s' i1 = some (11, 3) → IsN M s' (dV s' aw kk) X → d_Lw_match_j37 (d_Lw_match m) (jR i1) (jR i2) (jR aw) s' Q := by
            intro s' f' X F' W' hx' hfk hV' hd' hN'
            unfold d_Lw_match_j37
            refine i_R (i_fI hd' (by decide) (by rw [hV']; exact e1) (i_R ⟨116, 16, _, W'.1, by decide, by rw [hwr]; omega, by rw [hwr]; omega, rfl, ?_, ?_⟩))
            · rw [hwr, Int.toNat_natCast]
              exact hN'.nl.1
            · rw [hwr, Int.toNat_natCast]
              refine c_same M 5 (by omega) (Or.inr hN') (Or.inr ((g2.le hKM).faw F' haw)) fun z hz hz1 => ⟨hz, ?_⟩
              refine h s' f' z F' W' hx' hz fun e => ⟨fun c hc hc0 => ?_, fun τ hτ => ?_⟩
              · have : c = -1 - (kk : Int) := by simpa using hc
                rw [this, hvn]
                exact ⟨by omega, by rw [hfk]; exact fun e => by cases e⟩
              · rw [sv_cons, if_pos (by omega), hτ kk X (by omega) hfk, hz1 e]
                show _ ++ [] = _
                rw [List.append_nil]
          refine i_fI d1 (by decide) e1 (i_R ⟨116, 16, _, haw, by decide, by rw [hwr]; omega, by rw [hwr]; omega, rfl, ?_, ?_⟩)
          · rw [hwr, Int.toNat_natCast]
            rcases hw.2 kk (by omega) with ⟨-, e⟩ | ⟨X, -, hX⟩
            · rw [e]
              rfl
            · exact hX.nl.1
          · rw [hwr, Int.toNat_natCast]
            rcases hw.2 kk (by omega) with ⟨e0, e⟩ | ⟨X, hfX, hX⟩
            · rw [e]
              refine i_N0 (i_fI d1 (by decide) e1 ?_)
              rw [hwr]
              refine i_wN (k := kk) haw rfl (by omega) g2 ?_
              have F1 : Fm (fun j => j = aw) 0 0 s (upC s aw kk (jR i2)) := Fm.up (Or.inl rfl)
              have hi1 : ¬ i1 = aw := ndW haw d1 (by decide)
              have V1 : dV (upC s aw kk (jR i2)) i1 = dV s i1 := F1.dV d1 hi1
              have G2 := (g2.le hKM).faw F1 haw
              refine fin _ (fun j => if j = kk then some (ncd z2 :: (Y1 ++ Y2)) else f j) (ncd z2 :: (Y1 ++ Y2)) F1 ⟨haw, fun k hk => ?_⟩ (fun k X hkX => ?_) (if_pos rfl) V1 d1 (by rw [dV_s]; exact G2)
              · by_cases ek : k = kk
                · subst ek
                  dsimp only
                  rw [dV_s, if_pos rfl]
                  exact Or.inr ⟨_, rfl, G2⟩
                · dsimp only
                  rw [dV_n (by omega), if_neg ek]
                  rcases hw.2 k hk with h9 | ⟨X, h9, h10⟩
                  · exact Or.inl h9
                  · exact Or.inr ⟨X, h9, h10.faw F1 haw⟩
              · by_cases ek : k = kk
                · subst ek
                  rw [e0] at hkX
                  cases hkX
                · rw [if_neg ek]
                  exact hkX
            · have hX' := hX
              obtain ⟨-, jx, hjx, -⟩ := hX'.nl
              rw [hjx]
              exact i_N1 (fin s f X Fm.rfl' hw (fun _ _ => id) hfX rfl d1 hX)
/-- the row is emptied -/
theorem c_fillO {Q : LSt → Prop} (h : dh s aw = some (116, 16)) (hd : dn s ≤ 1000000) (hq : ∀ s', Fm (fun j => j = aw) 0 0 s s' → Wt 3 s' aw (fun _ => none) → Q s') : d_Arrays_fillO (jR aw) (jX .null) s Q := by
  unfold d_Arrays_fillO
  refine i_R (i_aL h (by decide) hd (by decide) ?_)
  refine i_Arrays_fillO_l5 (Inv := fun v2 s' => ∃ k : Nat, v2 = (k : Int) ∧ k ≤ 16 ∧ Fm (fun j => j = aw) 0 0 s s' ∧ ∀ q, q < k → dV s' aw q = jX .null) (fun v2 _ => 16 - v2.toNat) ?_ 0 s ⟨0, rfl, by decide, Fm.rfl', fun q hq => absurd hq (by omega)⟩
  rintro _ s1 ⟨k, rfl, hk, f1, hn⟩ W hW
  have h1 := f1.dh h
  unfold d_Arrays_fillO_b5
  by_cases hc : (k : Int) < ((16 : Nat) : Int)
  · rw [if_pos hc]
    refine i_R ⟨116, 16, h1, by omega, by omega, rfl, ?_⟩
    rw [Int.toNat_natCast, show wr ((k : Int) + 1) = ((k + 1 : Nat) : Int) by rw [wr_s (by omega)]; omega]
    refine hW _ _ ⟨k + 1, rfl, by omega, f1.tr (Fm.up (W := fun j => j = aw) (c := 0) (w := 0) (Or.inl rfl)) (fun _ _ => id) (fun _ _ => id) (by omega) (by omega), fun q hq => ?_⟩ (by omega)
    by_cases e : q = k
    · subst e
      exact dV_s
    · rw [dV_n (by omega)]
      exact hn q (by omega)
  · rw [if_neg hc]
    exact hq s1 f1 ⟨h1, fun q hq => Or.inl ⟨rfl, hn q (by omega)⟩⟩
end L96h
