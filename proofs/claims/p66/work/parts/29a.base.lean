/-! THE LAW'S OWN CELLS: what stays, what is new; trees of nodes as rows (f: 2, g: 5, a: 8, b: 12, a variable: -1 - its number) -/
def Fm (W : Nat → Prop) (c w : Nat) (s s' : LSt) : Prop := ∃ t : List (Nat × Nat), dS s' = dS s ++ t ∧ t.length ≤ c ∧ (t.map Prod.snd).sum ≤ w ∧ s'.1.2.2 = (s.1.2.2.1 + t.length, s.1.2.2.2 + (t.map Prod.snd).sum) ∧ s'.1.1 = s.1.1 ∧ s'.2 = s.2 ∧ ∀ i, i < dn s → ¬ W i → dV s' i = dV s i
section L29
variable {W W1 W2 : Nat → Prop} {c c1 c2 w w1 w2 : Nat} {s s1 s2 : LSt} {i k n t : Nat} {q : Nat × Nat} {v x : JV}
theorem Fm.rfl' : Fm W c w s s := ⟨[], by simp, by simp, by simp, by simp, rfl, rfl, fun _ _ _ => rfl⟩
theorem dn_app {t : List (Nat × Nat)} (h : dS s1 = dS s ++ t) : dn s1 = dn s + t.length := by
  unfold dn
  rw [h, List.length_append]
  omega
theorem Fm.dn (h : Fm W c w s s1) : dn s ≤ dn s1 ∧ dn s1 ≤ dn s + c := by
  obtain ⟨t, h1, h2, -⟩ := h
  rw [dn_app h1]
  omega
theorem Fm.tr (h1 : Fm W1 c1 w1 s s1) (h2 : Fm W2 c2 w2 s1 s2) (k1 : ∀ i, i < Jvm.Pilot.@@N@@.dn s → W1 i → W i) (k2 : ∀ i, i < Jvm.Pilot.@@N@@.dn s → W2 i → W i) (hc : c1 + c2 ≤ c) (hw : w1 + w2 ≤ w) : Fm W c w s s2 := by
  obtain ⟨t1, a1, a2, a3, a4, a5, a6, a7⟩ := h1
  obtain ⟨t2, b1, b2, b3, b4, b5, b6, b7⟩ := h2
  have hd := dn_app a1
  refine ⟨t1 ++ t2, by rw [b1, a1, List.append_assoc], by rw [List.length_append]; omega, by rw [List.map_append, List.sum_append]; omega, ?_, b5.trans a5, b6.trans a6, fun i hi hW => ?_⟩
  · rw [b4, a4, List.map_append, List.sum_append, List.length_append]
    simp only [Prod.mk.injEq]
    omega
  · rw [b7 i (by omega) (fun h => hW (k2 i hi h)), a7 i hi fun h => hW (k1 i hi h)]
theorem Fm.mono (h : Fm W1 c1 w1 s s1) (k1 : ∀ i, i < Jvm.Pilot.@@N@@.dn s → W1 i → W i) (hc : c1 ≤ c) (hw : w1 ≤ w) : Fm W c w s s1 := h.tr (W2 := W1) (c2 := 0) (w2 := 0) Fm.rfl' k1 k1 (by omega) (by omega)
theorem Fm.up (hi : W i ∨ Jvm.Pilot.@@N@@.dn s ≤ i) : Fm W c w s (upC s i k v) := by
  refine ⟨[], by rw [List.append_nil]; rfl, by simp, by simp, rfl, rfl, rfl, fun a ha hW => ?_⟩
  funext j
  show (if a = i ∧ j = k then v else dV s a j) = _
  rw [if_neg]
  rintro ⟨rfl, -⟩
  rcases hi with h | h
  · exact hW h
  · omega
theorem Fm.upA {f : Nat → JV} (hi : W i ∨ Jvm.Pilot.@@N@@.dn s ≤ i) : Fm W c w s (upA s i f) := by
  refine ⟨[], by rw [List.append_nil]; rfl, by simp, by simp, rfl, rfl, rfl, fun a ha hW => ?_⟩
  funext j
  show (if a = i then f j else dV s a j) = _
  rw [if_neg]
  rintro rfl
  rcases hi with h | h
  · exact hW h
  · omega
theorem Fm.mk {f : Nat → JV} (hc : 1 ≤ c) (hw : n ≤ w) : Fm W c w s (mk s t n f) := by
  refine ⟨[(t, n)], rfl, hc, by simpa using hw, by simp [Jvm.Pilot.@@N@@.mk], rfl, rfl, fun a ha hW => ?_⟩
  funext j
  show (if a = 772 + s.1.2.1.1.length then f j else dV s a j) = _
  rw [if_neg]
  rintro rfl
  unfold Jvm.Pilot.@@N@@.dn dS at ha
  omega
theorem dh_lt (h : dh s i = some q) : 772 ≤ i ∧ i < dn s := by
  unfold dh at h
  split at h
  · rename_i h7
    have := (List.getElem?_eq_some_iff.mp h).1
    unfold dn
    omega
  · cases h
theorem dh_app {t : List (Nat × Nat)} (h : dS s1 = dS s ++ t) (hi : dh s i = some q) : dh s1 i = some q := by
  have hl := dh_lt hi
  unfold dn at hl
  unfold dh at hi ⊢
  rw [if_pos hl.1] at hi ⊢
  rw [h, List.getElem?_append_left (by omega)]
  exact hi
theorem Fm.dh (h : Fm W c w s s1) (hi : Jvm.Pilot.@@N@@.dh s i = some q) : Jvm.Pilot.@@N@@.dh s1 i = some q := by
  obtain ⟨t, h1, -⟩ := h
  exact dh_app h1 hi
theorem Fm.dV (h : Fm W c w s s1) (hi : Jvm.Pilot.@@N@@.dh s i = some q) (hW : ¬ W i) : Jvm.Pilot.@@N@@.dV s1 i = Jvm.Pilot.@@N@@.dV s i := by
  obtain ⟨t, -, -, -, -, -, -, h1⟩ := h
  exact h1 i (dh_lt hi).2 hW
theorem Fm.scr (h : Fm W c w s s1) : s1.1.1 = s.1.1 := by
  obtain ⟨t, -, -, -, -, h1, -⟩ := h
  exact h1
theorem Fm.mem (h : Fm W c w s s1) : s1.2 = s.2 := by
  obtain ⟨t, -, -, -, -, -, h1, -⟩ := h
  exact h1
theorem Fm.len (h : Fm W c w s s1) : (dS s1).length ≤ (dS s).length + c := by
  obtain ⟨t, h1, h2, -⟩ := h
  rw [h1, List.length_append]
  omega
theorem dh_mk {f : Nat → JV} : dh (mk s t n f) (dn s) = some (t, n) := by
  unfold dh dn
  rw [if_pos (by omega)]
  show (dS s ++ [(t, n)])[772 + (dS s).length - 772]? = _
  rw [Nat.add_sub_cancel_left, List.getElem?_append_right (Nat.le_refl _), Nat.sub_self]
  rfl
theorem dh_up : dh (upC s i k v) = dh s := rfl
theorem dh_upA {f : Nat → JV} : dh (upA s i f) = dh s := rfl
theorem dV_up {a j : Nat} : dV (upC s i k v) a j = if a = i ∧ j = k then v else dV s a j := rfl
theorem dV_s : dV (upC s i k v) i k = v := if_pos ⟨rfl, rfl⟩
theorem dV_n {a j : Nat} (h : ¬ (a = i ∧ j = k)) : dV (upC s i k v) a j = dV s a j := if_neg h
theorem dV_upA {f : Nat → JV} {a j : Nat} : dV (upA s i f) a j = if a = i then f j else dV s a j := rfl
theorem dV_mk {f : Nat → JV} {j : Nat} : dV (mk s t n f) (dn s) j = f j := if_pos rfl
theorem dn_mk {f : Nat → JV} : dn (mk s t n f) = dn s + 1 := dn_app (t := [(t, n)]) rfl
/-! words of the texts -/
theorem i_R {B : Nat → Prop} (h : B i) : cR (jR i) B := h
theorem i_N0 {A : Prop} {B : Nat → Prop} (h : A) : cN (jX .null) A B := h
theorem i_N1 {A : Prop} {B : Nat → Prop} (h : B i) : cN (jR i) A B := h
theorem i_fI {K : Int → Prop} {z : Int} (h1 : dh s i = some (c, n)) (h2 : k < n) (h3 : dV s i k = jI z) (h : K z) : fI s i c k K := ⟨n, z, h1, h2, h3, h⟩
theorem i_fV {K : JV → Prop} (h1 : dh s i = some (c, n)) (h2 : k < n) (h3 : dV s i k = x) (h4 : jnl x = true) (h : K x) : fV s i c k K := ⟨n, x, h1, h2, h3, h4, h⟩
theorem i_pF {K : LSt → Prop} {f : Nat} (h1 : dh s i = some (c, n)) (h2 : k < n) (h3 : jfit f v = true) (h : K (upC s i k v)) : pF s i c k f v K := ⟨n, h1, h2, h3, h⟩
theorem i_rI {K : Int → Prop} {z : Int} {j : Int} (h1 : dh s i = some (100, n)) (h2 : j = (k : Int)) (h3 : k < n) (h4 : dV s i k = jI z) (h : K z) : rI s i j K := by
  subst h2
  exact Or.inr ⟨n, z, h1, by omega, by rw [Int.toNat_natCast]; exact h3, by rw [Int.toNat_natCast]; exact h4, h⟩
theorem i_wA {K : LSt → Prop} {j : Int} (h1 : dh s i = some (t, n)) (h2 : j = (k : Int)) (h3 : k < n) (h : K (upC s i k v)) : wA s i t j v K := by
  subst h2
  exact ⟨n, h1, by omega, by rw [Int.toNat_natCast]; exact h3, by rw [Int.toNat_natCast]; exact h⟩
theorem jf11 : (jfields 11).length = 3 := by decide +kernel
theorem jd11 : jdef 11 0 = jI 0 ∧ jdef 11 1 = jX .null ∧ jdef 11 2 = jX .null := by
  refine ⟨?_, ?_, ?_⟩ <;> (unfold jdef; first | rw [if_pos (by decide +kernel)] | rw [if_neg (by decide +kernel)])
theorem jfit2 {v : JV} (h : jnl v = true) : jfit 2 v = true := by
  rcases jnl_c h with ⟨j, rfl⟩ | rfl <;> rfl
/-! trees: of at most n levels -/
def IsN : Nat → LSt → JV → List Int → Prop
  | 0, _, _, _ => False
  | n + 1, s, v, L => ∃ i, v = jR i ∧ dh s i = some (11, 3) ∧ ((∃ k : Nat, k < 2 ∧ dV s i 0 = jI (100 + (k : Int)) ∧ dV s i 1 = jX .null ∧ dV s i 2 = jX .null ∧ L = [-1 - (k : Int)])
    ∨ (∃ k : Nat, (k = 2 ∨ k = 3) ∧ dV s i 0 = jI (k : Int) ∧ dV s i 1 = jX .null ∧ dV s i 2 = jX .null ∧ L = [4 * (k : Int)])
    ∨ (∃ X, dV s i 0 = jI 1 ∧ IsN n s (dV s i 1) X ∧ dV s i 2 = jX .null ∧ L = 5 :: X)
    ∨ ∃ X Y, dV s i 0 = jI 0 ∧ IsN n s (dV s i 1) X ∧ IsN n s (dV s i 2) Y ∧ L = 2 :: (X ++ Y))
theorem IsN.nl {L : List Int} (h : IsN n s v L) : jnl v = true ∧ ∃ i, v = jR i ∧ dh s i = some (11, 3) := by
  cases n with
  | zero => exact h.elim
  | succ n =>
    obtain ⟨i, rfl, h1, -⟩ := h
    exact ⟨rfl, i, rfl, h1⟩
theorem IsN.up1 : ∀ {n : Nat} {v : JV} {L : List Int}, IsN n s v L → IsN (n + 1) s v L := by
  intro n
  induction n with
  | zero => exact fun h => h.elim
  | succ n ih =>
    rintro v L ⟨i, h1, h2, h⟩
    refine ⟨i, h1, h2, ?_⟩
    rcases h with h | h | ⟨X, a, b, d⟩ | ⟨X, Y, a, b, d, e⟩
    · exact Or.inl h
    · exact Or.inr (Or.inl h)
    · exact Or.inr (Or.inr (Or.inl ⟨X, a, ih b, d⟩))
    · exact Or.inr (Or.inr (Or.inr ⟨X, Y, a, ih b, ih d, e⟩))
theorem IsN.le {n m : Nat} {L : List Int} (h : IsN n s v L) (hm : n ≤ m) : IsN m s v L := by
  induction hm with
  | refl => exact h
  | step _ ih => exact ih.up1
/-- what is known of a cell stays -/
theorem IsN.st : ∀ {n : Nat} {v : JV} {L : List Int}, IsN n s v L → (∀ i, dh s i = some (11, 3) → dh s1 i = some (11, 3) ∧ dV s1 i = dV s i) → IsN n s1 v L := by
  intro n
  induction n with
  | zero => exact fun h => h.elim
  | succ n ih =>
    rintro v L ⟨i, h1, h2, h⟩ hk
    obtain ⟨g1, g2⟩ := hk i h2
    refine ⟨i, h1, g1, ?_⟩
    rw [g2]
    rcases h with h | h | ⟨X, a, b, d⟩ | ⟨X, Y, a, b, d, e⟩
    · exact Or.inl h
    · exact Or.inr (Or.inl h)
    · exact Or.inr (Or.inr (Or.inl ⟨X, a, ih b hk, d⟩))
    · exact Or.inr (Or.inr (Or.inr ⟨X, Y, a, ih b hk, ih d hk, e⟩))
theorem IsN.fm {L : List Int} (h : IsN n s v L) (hf : Fm W c w s s1) (hW : ∀ i, dh s i = some (11, 3) → ¬ W i) : IsN n s1 v L := h.st fun i hi => ⟨hf.dh hi, hf.dV hi (hW i hi)⟩
/-- a node that isn't made yet is in no tree -/
theorem IsN.ne (hs : dh s1 = dh s) (hV : ∀ j, j ≠ i → dV s1 j = dV s j) : ∀ {n : Nat} {v : JV} {L : List Int}, IsN n s v L → dV s i 0 = jI 0 → dV s i 1 = jX .null → IsN n s1 v L := by
  intro n
  induction n with
  | zero => exact fun h => h.elim
  | succ n ih =>
    rintro v L ⟨j, h1, h2, h⟩ e0 e1
    have hj : j ≠ i := by
      rintro rfl
      rcases h with ⟨k, q1, a, b⟩ | ⟨k, q1, a, b⟩ | ⟨X, a, b, d⟩ | ⟨X, Y, a, b, d, e⟩
      · rw [e0] at a
        have a : (0 : Int) = 100 + (k : Int) := Sum.inl.inj a
        omega
      · rw [e0] at a
        have a : (0 : Int) = (k : Int) := Sum.inl.inj a
        omega
      · rw [e0] at a
        have a : (0 : Int) = 1 := Sum.inl.inj a
        omega
      · rw [e1] at b
        obtain ⟨-, z, hz, -⟩ := b.nl
        cases hz
    refine ⟨j, h1, by rw [hs]; exact h2, ?_⟩
    rw [hV j hj]
    rcases h with h | h | ⟨X, a, b, d⟩ | ⟨X, Y, a, b, d, e⟩
    · exact Or.inl h
    · exact Or.inr (Or.inl h)
    · exact Or.inr (Or.inr (Or.inl ⟨X, a, ih b e0 e1, d⟩))
    · exact Or.inr (Or.inr (Or.inr ⟨X, Y, a, ih b e0 e1, ih d e0 e1, e⟩))
/-- the code of a node in its row -/
def ncd (z : Int) : Int := if z = 0 then 2 else if z = 1 then 5 else if z < 100 then 4 * z else 99 - z
/-- children: none, or a tree -/
def IsC (n : Nat) (s : LSt) (v : JV) (L : List Int) : Prop := (v = jX .null ∧ L = []) ∨ IsN n s v L
def ckd (z : Int) (vx vy : JV) : Prop := (z = 0 ∧ vx ≠ jX .null ∧ vy ≠ jX .null) ∨ (z = 1 ∧ vx ≠ jX .null ∧ vy = jX .null) ∨ ((z = 2 ∨ z = 3 ∨ z = 100 ∨ z = 101) ∧ vx = jX .null ∧ vy = jX .null)
theorem IsC.nl {L : List Int} (h : IsC n s v L) : jnl v = true := by
  rcases h with ⟨rfl, -⟩ | h
  · rfl
  · exact h.nl.1
theorem IsC.nz {L : List Int} (h : IsC n s v L) (hv : v ≠ jX .null) : IsN n s v L := by
  rcases h with ⟨e, -⟩ | h
  · exact absurd e hv
  · exact h
theorem IsN.nn {L : List Int} (h : IsN n s v L) : v ≠ jX .null := by
  obtain ⟨-, i, rfl, -⟩ := h.nl
  intro e
  cases e
theorem IsN.ex {L : List Int} (h : IsN (n + 1) s v L) : ∃ i z X Y, v = jR i ∧ dh s i = some (11, 3) ∧ dV s i 0 = jI z ∧ IsC n s (dV s i 1) X ∧ IsC n s (dV s i 2) Y ∧ ckd z (dV s i 1) (dV s i 2) ∧ L = ncd z :: (X ++ Y) := by
  obtain ⟨i, h1, h2, h⟩ := h
  rcases h with ⟨k, q, a, b, d, e⟩ | ⟨k, q, a, b, d, e⟩ | ⟨X, a, b, d, e⟩ | ⟨X, Y, a, b, d, e⟩
  · refine ⟨i, _, [], [], h1, h2, a, Or.inl ⟨b, rfl⟩, Or.inl ⟨d, rfl⟩, Or.inr (Or.inr ⟨by omega, b, d⟩), ?_⟩
    rw [e]
    unfold ncd
    rw [if_neg (by omega), if_neg (by omega), if_neg (by omega)]
    simp
    omega
  · refine ⟨i, _, [], [], h1, h2, a, Or.inl ⟨b, rfl⟩, Or.inl ⟨d, rfl⟩, Or.inr (Or.inr ⟨by omega, b, d⟩), ?_⟩
    rw [e]
    unfold ncd
    rw [if_neg (by omega), if_neg (by omega), if_pos (by omega)]
    rfl
  · exact ⟨i, 1, X, [], h1, h2, a, Or.inr b, Or.inl ⟨d, rfl⟩, Or.inr (Or.inl ⟨rfl, b.nn, d⟩), by rw [e, List.append_nil]; rfl⟩
  · exact ⟨i, 0, X, Y, h1, h2, a, Or.inr b, Or.inr d, Or.inl ⟨rfl, b.nn, d.nn⟩, e⟩
theorem IsN.mk {z : Int} {X Y : List Int} {vx vy : JV} (h2 : dh s i = some (11, 3)) (h0 : dV s i 0 = jI z) (h1 : dV s i 1 = vx) (h1' : dV s i 2 = vy) (hx : IsC n s vx X) (hy : IsC n s vy Y) (hk : ckd z vx vy) : IsN (n + 1) s (jR i) (ncd z :: (X ++ Y)) := by
  subst h1 h1'
  refine ⟨i, rfl, h2, ?_⟩
  rcases hk with ⟨rfl, a, b⟩ | ⟨rfl, a, b⟩ | ⟨hz, a, b⟩
  · exact Or.inr (Or.inr (Or.inr ⟨X, Y, h0, hx.nz a, hy.nz b, rfl⟩))
  · have : Y = [] := by
      rcases hy with ⟨-, e⟩ | h
      · exact e
      · exact absurd b h.nn
    subst this
    exact Or.inr (Or.inr (Or.inl ⟨X, h0, hx.nz a, b, by rw [List.append_nil]; rfl⟩))
  · have ex : X = [] := by
      rcases hx with ⟨-, e⟩ | h
      · exact e
      · exact absurd a h.nn
    have ey : Y = [] := by
      rcases hy with ⟨-, e⟩ | h
      · exact e
      · exact absurd b h.nn
    subst ex ey
    rcases hz with rfl | rfl | rfl | rfl
    · exact Or.inr (Or.inl ⟨2, Or.inl rfl, h0, a, b, rfl⟩)
    · exact Or.inr (Or.inl ⟨3, Or.inr rfl, h0, a, b, rfl⟩)
    · exact Or.inl ⟨0, by decide, h0, a, b, rfl⟩
    · exact Or.inl ⟨1, by decide, h0, a, b, rfl⟩
/-! a node is made -/
theorem c_Node_init {v1 : Int} {vx vy : JV} {Q : LSt → Prop} (h : dh s i = some (11, 3)) (hx : jnl vx = true) (hy : jnl vy = true) (hq : Q (upC (upC (upC s i 0 (jI v1)) i 1 vx) i 2 vy)) : d_Node_init (jR i) v1 vx vy s Q := by
  show pF s i 11 0 0 (jI v1) (fun s4 => pF s4 i 11 1 2 vx (fun s5 => pF s5 i 11 2 2 vy (fun s6 => Q s6)))
  exact (i_pF h (by decide) rfl (i_pF (n := 3) (by rw [dh_up]; exact h) (by decide) (jfit2 hx) (i_pF (n := 3) (by rw [dh_up, dh_up]; exact h) (by decide) (jfit2 hy) hq)))
/-- an allocated node that is made now, children made before it or between -/
theorem N_done {z : Int} {X Y : List Int} {vx vy : JV} (h : dh s i = some (11, 3)) (e0 : dV s i 0 = jI 0) (e1 : dV s i 1 = jX .null) (hx : IsC n s vx X) (hy : IsC n s vy Y) (hk : ckd z vx vy) : IsN (n + 1) (upC (upC (upC s i 0 (jI z)) i 1 vx) i 2 vy) (jR i) (ncd z :: (X ++ Y)) := by
  have key : ∀ {v : JV} {L : List Int}, IsC n s v L → IsC n (upC (upC (upC s i 0 (jI z)) i 1 vx) i 2 vy) v L := by
    intro v L hv
    rcases hv with hv | hv
    · exact Or.inl hv
    · exact Or.inr (IsN.ne (s := s) (s1 := upC (upC (upC s i 0 (jI z)) i 1 vx) i 2 vy) (i := i) rfl (fun j hj => funext fun l => by rw [dV_n (by rintro ⟨g, -⟩; exact hj g), dV_n (by rintro ⟨g, -⟩; exact hj g), dV_n (by rintro ⟨g, -⟩; exact hj g)]) hv e0 e1)
  refine IsN.mk (by rw [dh_up, dh_up, dh_up]; exact h) ?_ ?_ ?_ (key hx) (key hy) hk
  · rw [dV_n (by omega), dV_n (by omega), dV_s]
  · rw [dV_n (by omega), dV_s]
  · rw [dV_s]
end L29
