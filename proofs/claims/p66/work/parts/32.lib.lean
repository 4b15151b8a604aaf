/-! MEMORY: rows that stay, rows that hold a list; the class's rows of nodes -/
theorem wr_id {z : Int} (h1 : -2147483648 ≤ z) (h2 : z ≤ 2147483647) : wr z = z := by
  unfold wr
  rw [Int.bmod_def]
  by_cases h : 0 ≤ z
  · rw [Int.emod_eq_of_lt h (by omega), if_pos (by omega)]
  · have e : z % ((4294967296 : Nat) : Int) = z + 4294967296 := by
      rw [← Int.add_emod_right]
      exact Int.emod_eq_of_lt (by omega) (by omega)
    rw [e, if_neg (by omega)]
    omega
theorem mup_r {μ : Mem} {a k b : Nat} {z : Int} (h : b ≠ a) : mup μ a k z b = μ b := by
  funext j
  exact if_neg (fun q => h q.1)
theorem mup_a {μ : Mem} {a k j : Nat} {z : Int} : mup μ a k z a j = if j = k then z else μ a j := by
  unfold mup
  by_cases h : j = k
  · rw [if_pos ⟨rfl, h⟩, if_pos h]
  · rw [if_neg (fun q => h q.2), if_neg h]
theorem mup_k {μ : Mem} {a k j : Nat} {z : Int} (h : j ≠ k) : mup μ a k z a j = μ a j := by rw [mup_a, if_neg h]
/-- all rows but those from lo to before hi stay -/
def Fr (lo hi : Nat) (μ μ' : Mem) : Prop := ∀ b, b < lo ∨ hi ≤ b → μ' b = μ b
theorem Fr.rfl' {lo hi : Nat} {μ : Mem} : Fr lo hi μ μ := fun _ _ => rfl
theorem Fr.tr {lo hi lo1 hi1 lo2 hi2 : Nat} {μ μ1 μ2 : Mem} (h1 : Fr lo1 hi1 μ μ1) (h2 : Fr lo2 hi2 μ1 μ2) (k1 : lo ≤ lo1 ∧ hi1 ≤ hi) (k2 : lo ≤ lo2 ∧ hi2 ≤ hi) : Fr lo hi μ μ2 := by
  intro b hb
  rw [h2 b (by omega), h1 b (by omega)]
theorem Fr.mono {lo hi lo1 hi1 : Nat} {μ μ1 : Mem} (h1 : Fr lo1 hi1 μ μ1) (k1 : lo ≤ lo1 ∧ hi1 ≤ hi) : Fr lo hi μ μ1 := fun b hb => h1 b (by omega)
theorem Fr.up {lo hi a k : Nat} {z : Int} {μ : Mem} (h : lo ≤ a ∧ a < hi) : Fr lo hi μ (mup μ a k z) := fun b hb => mup_r (by omega)
/-- a row holds a list from a place on -/
def Sg (f : Nat → Int) (o : Nat) (L : List Int) : Prop := ∀ i, i < L.length → f (o + i) = L.getD i 0
theorem Sg.get {f : Nat → Int} {o : Nat} {L : List Int} (h : Sg f o L) {i : Nat} (hi : i < L.length) : f (o + i) = L.getD i 0 := h i hi
theorem Sg.get0 {f : Nat → Int} {L : List Int} (h : Sg f 0 L) {i : Nat} (hi : i < L.length) : f i = L.getD i 0 := by
  have := h i hi
  rwa [Nat.zero_add] at this
theorem Sg.nil {f : Nat → Int} {o : Nat} : Sg f o [] := fun i hi => absurd hi (by simp)
theorem Sg.congr {f g : Nat → Int} {o : Nat} {L : List Int} (h : Sg f o L) (hg : ∀ i, i < L.length → g (o + i) = f (o + i)) : Sg g o L := fun i hi => by rw [hg i hi]; exact h i hi
theorem Sg.take {f : Nat → Int} {o n : Nat} {L : List Int} (h : Sg f o L) : Sg f o (L.take n) := by
  intro i hi
  rw [List.length_take] at hi
  rw [h i (by omega), List.getD_eq_getElem?_getD, List.getD_eq_getElem?_getD, List.getElem?_take, if_pos (by omega)]
theorem Sg.drop {f : Nat → Int} {o n : Nat} {L : List Int} (h : Sg f o L) : Sg f (o + n) (L.drop n) := by
  intro i hi
  rw [List.length_drop] at hi
  rw [Nat.add_assoc, h (n + i) (by omega), List.getD_eq_getElem?_getD, List.getD_eq_getElem?_getD, List.getElem?_drop]
theorem Sg.app {f : Nat → Int} {o : Nat} {A B : List Int} (h1 : Sg f o A) (h2 : Sg f (o + A.length) B) : Sg f o (A ++ B) := by
  intro i hi
  rw [List.length_append] at hi
  rw [List.getD_eq_getElem?_getD]
  by_cases h : i < A.length
  · rw [List.getElem?_append_left h, ← List.getD_eq_getElem?_getD]
    exact h1 i h
  · rw [List.getElem?_append_right (by omega), ← List.getD_eq_getElem?_getD, ← h2 (i - A.length) (by omega)]
    congr 1
    omega
theorem Sg.one {f : Nat → Int} {o : Nat} {z : Int} (h : f o = z) : Sg f o [z] := by
  intro i hi
  have : i = 0 := by simp at hi; omega
  subst this
  exact h
theorem getD_app_l {α : Type} {A B : List α} {i : Nat} {d : α} (h : i < A.length) : (A ++ B).getD i d = A.getD i d := by
  rw [List.getD_eq_getElem?_getD, List.getElem?_append_left h, ← List.getD_eq_getElem?_getD]
theorem getD_app_r {α : Type} {A B : List α} {i : Nat} {d : α} (h : A.length ≤ i) : (A ++ B).getD i d = B.getD (i - A.length) d := by
  rw [List.getD_eq_getElem?_getD, List.getElem?_append_right h, ← List.getD_eq_getElem?_getD]
theorem getD_drop {α : Type} {A : List α} {i n : Nat} {d : α} : (A.drop n).getD i d = A.getD (n + i) d := by
  rw [List.getD_eq_getElem?_getD, List.getElem?_drop, ← List.getD_eq_getElem?_getD]
theorem getD_take {α : Type} {A : List α} {i n : Nat} {d : α} (h : i < n) : (A.take n).getD i d = A.getD i d := by
  rw [List.getD_eq_getElem?_getD, List.getElem?_take, if_pos h, ← List.getD_eq_getElem?_getD]
theorem getD_map {α β : Type} {A : List α} {f : α → β} {i : Nat} {d : α} {d' : β} (h : i < A.length) : (A.map f).getD i d' = f (A.getD i d) := by
  rw [List.getD_eq_getElem?_getD, List.getElem?_map, List.getD_eq_getElem?_getD, List.getElem?_eq_getElem h]
  rfl
theorem take_1r {L : List Int} {k : Nat} (h : k < L.length) : L.take (k + 1) = L.take k ++ [L.getD k 0] := by
  rw [List.take_succ_eq_append_getElem h, List.getD_eq_getElem?_getD, List.getElem?_eq_getElem h]
  rfl
/-- the class's row of nodes at a cell -/
def IsT (μ : Mem) (a : Nat) (L : List Int) : Prop := μ a 1 = (L.length : Int) ∧ L.length ≤ ln (a + 1) ∧ Sg (μ (a + 1)) 0 L
theorem IsT.fr {μ μ' : Mem} {a : Nat} {L : List Int} (h : IsT μ a L) (h1 : μ' a = μ a) (h2 : μ' (a + 1) = μ (a + 1)) : IsT μ' a L := by
  unfold IsT at *
  rw [h1, h2]
  exact h
theorem IsT.frR {μ μ' : Mem} {a lo hi : Nat} {L : List Int} (h : IsT μ a L) (hf : Fr lo hi μ μ') (ho : a + 1 < lo ∨ hi ≤ a) : IsT μ' a L := h.fr (hf _ (by omega)) (hf _ (by omega))
theorem IsT.frT {μ μ' : Mem} {a b : Nat} {L : List Int} (h : IsT μ a L) (hf : Fr b (b + 2) μ μ') (ha : rt a = 8) (hb : rt b = 8) (ho : a ≠ b) : IsT μ' a L := by
  refine h.frR hf ?_
  have h1 := rp_8_1 ha
  have h2 := rp_8_1 hb
  rcases Nat.lt_trichotomy a b with g | g | g
  · refine Or.inl ?_
    rcases Nat.lt_or_ge (a + 1) b with k | k
    · exact k
    · have : a + 1 = b := by omega
      rw [this, hb] at h1
      cases h1
  · exact absurd g ho
  · refine Or.inr ?_
    rcases Nat.lt_or_ge (b + 1) a with k | k
    · exact k
    · have : b + 1 = a := by omega
      rw [this, ha] at h2
      cases h2
theorem rt8_ne {a b : Nat} (ha : rt a = 8) (hb : rt b = 8) : a ≠ b + 1 := by
  intro h
  have := rp_8_1 hb
  rw [← h, ha] at this
  cases this
theorem IsT.lt {μ : Mem} {a : Nat} {L : List Int} (h : IsT μ a L) : L.length < 2147483648 := Nat.lt_of_le_of_lt h.2.1 (ln_small _)
/-- what get answers -/
def gt (L : List Int) (p : Int) : Int := if 0 ≤ p ∧ p < (L.length : Int) then L.getD p.toNat 0 else -2147483648
theorem gt_in {L : List Int} {k : Nat} (h : k < L.length) : gt L (k : Int) = L.getD k 0 := by
  unfold gt
  rw [if_pos (by omega), Int.toNat_natCast]
def nok (L : List Int) : Prop := ∀ c, c ∈ L → c < 32
theorem jand3 {c : Int} (h0 : 0 ≤ c) (h : c < 32) : jand c 3 = c % 4 := by
  have k : ∀ i : Fin 32, jand ((i : Nat) : Int) 3 = ((i : Nat) : Int) % 4 := by decide +kernel
  have := k ⟨c.toNat, by omega⟩
  rw [show ((⟨c.toNat, by omega⟩ : Fin 32) : Nat) = c.toNat from rfl, show ((c.toNat : Nat) : Int) = c by omega] at this
  exact this
theorem jshr2 {c : Int} (h0 : 0 ≤ c) (h : c < 32) : jshr c 2 = c / 4 := by
  have k : ∀ i : Fin 32, jshr ((i : Nat) : Int) 2 = ((i : Nat) : Int) / 4 := by decide +kernel
  have := k ⟨c.toNat, by omega⟩
  rw [show ((⟨c.toNat, by omega⟩ : Fin 32) : Nat) = c.toNat from rfl, show ((c.toNat : Nat) : Int) = c by omega] at this
  exact this
theorem jand3_ar {c : Int} (h0 : ¬ c < 0) (h : c < 32) : jand c 3 = (ar c : Int) := by
  rw [jand3 (by omega) h]
  unfold ar
  rw [if_neg h0]
  omega
theorem ar_le (c : Int) : ar c ≤ 3 := by
  unfold ar
  split
  · omega
  · omega
section T33
variable {μ : Mem} {a s : Nat} {L S : List Int}
theorem c_Term_get {p : Int} {Q : Int → Prop} (hT : IsT μ a L) (h : Q (gt L p)) : d_Term_get a p μ Q := by
  obtain ⟨h1, h2, h3⟩ := hT
  unfold d_Term_get
  unfold gt at h
  rw [h1]
  by_cases k1 : p < 0
  · rw [if_pos k1]
    rw [if_neg (by omega)] at h
    exact h
  · rw [if_neg k1]
    by_cases k2 : p < (L.length : Int)
    · rw [if_pos k2, if_pos (by omega)]
      rw [if_pos ⟨by omega, k2⟩] at h
      refine ⟨⟨by omega, by omega⟩, ?_⟩
      rw [h3.get0 (by omega)]
      exact h
    · rw [if_neg k2]
      rw [if_neg (by omega)] at h
      exact h
theorem c_Term_getN {k : Nat} {Q : Int → Prop} (hT : IsT μ a L) (hk : k < L.length) (h : Q (L.getD k 0)) : d_Term_get a (k : Int) μ Q := c_Term_get hT (by rw [gt_in hk]; exact h)
theorem c_Term_count {c : Int} {Q : Int → Prop} (hT : IsT μ a L) (h : Q (L.count c : Nat)) : d_Term_count a c μ Q := by
  unfold d_Term_count
  have hl := hT.lt
  refine i_Term_count_l4 (Inv := fun v2 v3 => ∃ n k : Nat, v2 = n ∧ v3 = k ∧ k ≤ L.length ∧ n + (L.drop k).count c = L.count c) (fun v2 v3 => L.length - v3.toNat) ?_ 0 0 ⟨0, 0, rfl, rfl, Nat.zero_le _, by simp⟩
  rintro _ _ ⟨n, k, rfl, rfl, hk, hn⟩ W hW
  unfold d_Term_count_b4
  rw [hT.1]
  have hc := List.count_le_length (a := c) (l := L)
  by_cases h1 : k < L.length
  · rw [if_pos (by omega)]
    refine c_Term_getN hT h1 ?_
    rw [dropc h1, List.count_cons] at hn
    by_cases h2 : L.getD k 0 = c
    · rw [if_pos h2]
      rw [h2] at hn
      simp only [beq_self_eq_true, if_true] at hn
      unfold d_Term_count_j24
      rw [wr_id (by omega) (by omega), wr_id (by omega) (by omega)]
      exact hW _ _ ⟨n + 1, k + 1, by omega, by omega, by omega, by omega⟩ (by omega)
    · rw [if_neg h2]
      have : (L.getD k 0 == c) = false := beq_eq_false_iff_ne.mpr h2
      rw [this] at hn
      simp only [Bool.false_eq_true, if_false] at hn
      unfold d_Term_count_j24
      rw [wr_id (by omega) (by omega)]
      exact hW _ _ ⟨n, k + 1, by omega, by omega, by omega, by omega⟩ (by omega)
  · rw [if_neg (by omega)]
    rw [List.drop_eq_nil_of_le (by omega)] at hn
    simp at hn
    rw [hn]
    exact h
theorem IsT.add {z : Int} (hT : IsT μ a L) (h : L.length < ln (a + 1)) : IsT (mup (mup μ (a + 1) L.length z) a 1 ((L.length + 1 : Nat) : Int)) a (L ++ [z]) := by
  obtain ⟨h1, h2, h3⟩ := hT
  refine ⟨by rw [mup_s]; simp, by simp; omega, ?_⟩
  rw [mup_r (by omega)]
  refine Sg.app (fun i hi => ?_) (Sg.one ?_)
  · rw [mup_k (by omega)]
    exact h3 i hi
  · rw [Nat.zero_add, mup_s]
theorem c_Term_add {z : Int} {Q : Bool → Mem → Prop} (hT : IsT μ a L) (h1 : L.length < ln (a + 1) → ∀ μ', IsT μ' a (L ++ [z]) → Fr a (a + 2) μ μ' → Q true μ') (h2 : ln (a + 1) ≤ L.length → Q false μ) : d_Term_add a z μ Q := by
  unfold d_Term_add
  have hl := ln_small (a + 1)
  rw [hT.1, if_neg (by omega)]
  by_cases h : L.length < ln (a + 1)
  · rw [if_pos (by omega)]
    refine ⟨by omega, ?_⟩
    rw [mup_r (by omega), hT.1, wr_id (by omega) (by omega), Int.toNat_natCast]
    refine h1 h _ ?_ ((Fr.up (lo := a) (hi := a + 2) (by omega)).tr (Fr.up (lo := a) (hi := a + 2) (by omega)) (by omega) (by omega))
    have := hT.add (z := z) h
    exact this
  · rw [if_neg (by omega)]
    exact h2 (by omega)
theorem c_Term_addPart {f t : Nat} {Q : Bool → Mem → Prop} (hT : IsT μ a L) (hS : IsT μ s S) (ha : rt a = 8) (hs : rt s = 8) (hne : s ≠ a) (hf : f ≤ t) (ht : t ≤ S.length)
    (h1 : L.length + (t - f) ≤ ln (a + 1) → ∀ μ', IsT μ' a (L ++ (S.drop f).take (t - f)) → Fr a (a + 2) μ μ' → Q true μ')
    (h2 : ln (a + 1) < L.length + (t - f) → ∀ μ' L', IsT μ' a L' → Fr a (a + 2) μ μ' → Q false μ') : d_Term_addPart a s (f : Int) (t : Int) μ Q := by
  unfold d_Term_addPart
  have hl := hS.lt
  refine i_Term_addPart_l3 (Inv := fun v4 μ1 => ∃ k : Nat, v4 = k ∧ f ≤ k ∧ k ≤ t ∧ IsT μ1 a (L ++ (S.drop f).take (k - f)) ∧ Fr a (a + 2) μ μ1) (fun v4 _ => t - v4.toNat) ?_ f μ ⟨f, rfl, Nat.le_refl _, hf, by rw [Nat.sub_self, List.take_zero, List.append_nil]; exact hT, Fr.rfl'⟩
  rintro _ μ1 ⟨k, rfl, h3, h4, h5, h6⟩ W hW
  unfold d_Term_addPart_b3
  have hlen : (L ++ (S.drop f).take (k - f)).length = L.length + (k - f) := by
    rw [List.length_append, List.length_take, List.length_drop]; omega
  by_cases hk : k < t
  · rw [if_pos (by omega)]
    refine c_Term_getN (hS.frT h6 hs ha hne) (by omega) ?_
    refine c_Term_add h5 (fun g μ2 h7 h8 => ?_) (fun g => ?_)
    · rw [if_pos rfl, wr_id (by omega) (by omega)]
      refine hW _ _ ⟨k + 1, by omega, by omega, by omega, ?_, h6.tr h8 (by omega) (by omega)⟩ (by omega)
      rw [List.append_assoc] at h7
      rw [show k + 1 - f = (k - f) + 1 by omega, take_1r (by rw [List.length_drop]; omega), getD_drop, show f + (k - f) = k by omega]
      exact h7
    · rw [if_neg (by decide)]
      rw [hlen] at g
      exact h2 (by omega) _ _ h5 h6
  · rw [if_neg (by omega)]
    have : k = t := by omega
    subst this
    have := h5.2.1
    rw [hlen] at this
    exact h1 this _ h5 h6
theorem c_Math_min {x y : Int} {Q : Int → Prop} (h : ∀ z, (z = x ∨ z = y) → z ≤ x → z ≤ y → Q z) : d_Math_min x y μ Q := by
  unfold d_Math_min
  split
  · exact h _ (Or.inr rfl) (by omega) (by omega)
  · exact h _ (Or.inl rfl) (by omega) (by omega)
theorem c_Math_max {x y : Int} {Q : Int → Prop} (h : ∀ z, (z = x ∨ z = y) → x ≤ z → y ≤ z → Q z) : d_Math_max x y μ Q := by
  unfold d_Math_max
  split
  · exact h _ (Or.inr rfl) (by omega) (by omega)
  · exact h _ (Or.inl rfl) (by omega) (by omega)
theorem c_Term_copyFrom {Q : Mem → Prop} (hS : IsT μ s S) (ha : rt a = 8) (hs : rt s = 8) (hne : s ≠ a) (hc : S.length ≤ ln (a + 1)) (h : ∀ μ', IsT μ' a S → Fr a (a + 2) μ μ' → Q μ') : d_Term_copyFrom a s μ Q := by
  unfold d_Term_copyFrom
  have hl := ln_small (a + 1)
  refine c_Math_min fun z hz hz1 hz2 => ?_
  rw [hS.1] at hz hz1
  obtain rfl : z = (S.length : Int) := by omega
  refine i_Term_copyFrom_l15 (Inv := fun v3 μ1 => ∃ k : Nat, v3 = k ∧ k ≤ S.length ∧ Sg (μ1 (a + 1)) 0 (S.take k) ∧ Fr (a + 1) (a + 2) μ μ1) (fun v3 _ => S.length - v3.toNat) ?_ 0 μ ⟨0, rfl, Nat.zero_le _, by rw [List.take_zero]; exact Sg.nil, Fr.rfl'⟩
  rintro _ μ1 ⟨k, rfl, h3, h4, h5⟩ W hW
  unfold d_Term_copyFrom_b15
  by_cases hk : k < S.length
  · rw [if_pos (by omega)]
    refine c_Term_getN (hS.frT (h5.mono (by omega)) hs ha hne) (by omega) ⟨by omega, ?_⟩
    rw [wr_id (by omega) (by omega)]
    refine hW _ _ ⟨k + 1, by omega, by omega, ?_, h5.tr (Fr.up (lo := a + 1) (hi := a + 2) (by omega)) (by omega) (by omega)⟩ (by omega)
    rw [take_1r hk, Int.toNat_natCast]
    have hlen : (S.take k).length = k := by rw [List.length_take]; omega
    refine Sg.app (h4.congr fun i hi => mup_k (by omega)) (Sg.one ?_)
    rw [hlen, Nat.zero_add, mup_s]
  · rw [if_neg (by omega)]
    have : k = S.length := by omega
    subst this
    rw [List.take_length] at h4
    refine h _ ⟨mup_s, hc, ?_⟩ (h5.tr (Fr.up (lo := a) (hi := a + 2) (by omega)) (by omega) (by omega))
    rw [mup_r (by omega)]
    exact h4
theorem ln_le (i : Nat) : ln i ≤ 7000 := by
  rcases Nat.lt_or_ge i 772 with g | g
  · have h : tall (fun l => decide ((rtS l 0).2 ≤ 7000)) rsl = true := by decide +kernel
    have := of_decide_eq_true (tall_drop h (a := i) (by rw [rsl_len]; exact g))
    rw [rtS_drop] at this
    exact this
  · unfold ln
    rw [List.getD_eq_getElem?_getD, List.getElem?_eq_none (by rw [rsl_len]; exact g)]
    decide
theorem c_Term_end {p : Nat} {Q : Int → Prop} (hT : IsT μ a L) (hn : nok L) (hp : p ≤ L.length) (h : Q ((en L p : Nat) : Int)) : d_Term_end a (p : Int) μ Q := by
  unfold d_Term_end
  have hl := ln_le (a + 1)
  have hc := hT.2.1
  refine i_Term_end_l4 (Inv := fun v2 v3 => ∃ d k : Nat, v2 = d ∧ v3 = k ∧ 1 ≤ d ∧ d ≤ 1 + 3 * k ∧ k ≤ L.length ∧ en L p = k + sk (L.drop k) d) (fun v2 v3 => L.length - v3.toNat) ?_ 1 p ⟨1, p, rfl, rfl, Nat.le_refl _, by omega, hp, rfl⟩
  rintro _ _ ⟨d, k, rfl, rfl, h1, hd, h2, h3⟩ W hW
  unfold d_Term_end_b4
  rw [if_neg (by omega), hT.1]
  by_cases hk : k < L.length
  · rw [if_pos (by omega), if_pos (by omega)]
    refine ⟨by omega, ?_⟩
    rw [Int.toNat_natCast, hT.2.2.get0 hk]
    obtain ⟨d, rfl⟩ : ∃ d', d = d' + 1 := ⟨d - 1, by omega⟩
    rw [dropc hk, sk_cons] at h3
    have har := ar_le (L.getD k 0)
    have step : ∀ t1 : Int, t1 = (ar (L.getD k 0) : Int) - 1 → d_Term_end_j49 a (k : Int) ((d + 1 : Nat) : Int) t1 μ W Q := by
      rintro _ rfl
      unfold d_Term_end_j49
      rw [wr_id (z := ((d + 1 : Nat) : Int) + _) (by omega) (by omega), wr_id (by omega) (by omega)]
      by_cases h0 : d + ar (L.getD k 0) = 0
      · rw [if_pos (by omega)]
        rw [h0, sk_zero] at h3
        rw [h3] at h
        exact h
      · rw [if_neg (by omega)]
        exact hW _ _ ⟨d + ar (L.getD k 0), k + 1, by omega, by omega, by omega, by omega, by omega, by omega⟩ (by omega)
    by_cases hc0 : L.getD k 0 < 0
    · rw [if_pos hc0]
      exact step _ (by rw [ar_neg hc0]; rfl)
    · rw [if_neg hc0, jand3_ar hc0 (hn _ (getD_mem hk)), wr_id (by omega) (by omega)]
      exact step _ rfl
  · rw [if_neg (by omega)]
    rw [List.drop_eq_nil_of_le (by omega), sk_nil] at h3
    rw [h3, show k + 0 = L.length by omega] at h
    exact h
def tk (d : Nat) (X : List Int) : List Int := X.take (sk X d)
theorem tk_cons {d : Nat} {c : Int} {r : List Int} : tk (d + 1) (c :: r) = c :: tk (d + ar c) r := by
  unfold tk
  rw [sk_cons, take_1]
theorem tk_nil {d : Nat} : tk d [] = [] := by
  unfold tk
  rw [List.take_nil]
theorem tk_zero {X : List Int} : tk 0 X = [] := by
  unfold tk
  rw [sk_zero]
  rfl
theorem c_Term_sameParts {x y : Nat} {Q : Bool → Prop} (hT : IsT μ a L) (hn : nok L) (hw : wl L 1 = true) (hx : x < L.length) (hy : y < L.length) (h : Q (decide (sb L x = sb L y))) : d_Term_sameParts a (x : Int) (y : Int) μ Q := by
  unfold d_Term_sameParts
  have hl := ln_le (a + 1)
  have hc := hT.2.1
  refine i_Term_sameParts_l8 (Inv := fun v3 v4 v5 => ∃ d q k : Nat, v3 = d ∧ v4 = q ∧ v5 = k ∧ 1 ≤ d ∧ d ≤ 1 + 3 * k ∧ k ≤ L.length ∧ q ≤ L.length ∧ (∃ e, wl (L.drop k) (d + e) = true) ∧ decide (sb L x = sb L y) = decide (tk d (L.drop k) = tk d (L.drop q))) (fun v3 v4 v5 => L.length - v5.toNat) ?_ 1 y x ⟨1, y, x, rfl, rfl, rfl, Nat.le_refl _, by omega, by omega, by omega, ?_, rfl⟩
  · rintro _ _ _ ⟨d, q, k, rfl, rfl, rfl, h1, hd, h2, h2', ⟨e, he⟩, h3⟩ W hW
    obtain ⟨d, rfl⟩ : ∃ d', d = d' + 1 := ⟨d - 1, by omega⟩
    unfold d_Term_sameParts_b8
    have hk : k < L.length := by
      rcases Nat.lt_or_ge k L.length with g | g
      · exact g
      · rw [List.drop_eq_nil_of_le g, show d + 1 + e = (d + e) + 1 by omega] at he
        cases he
    rw [if_neg (by omega), hT.1, if_pos (by omega), if_pos (by omega), if_neg (by omega)]
    rw [dropc hk, tk_cons] at h3
    by_cases hq : q < L.length
    · rw [if_pos (by omega), if_pos (by omega)]
      refine ⟨by omega, by omega, ?_⟩
      rw [dropc hq, tk_cons] at h3
      rw [Int.toNat_natCast, Int.toNat_natCast, hT.2.2.get0 hk, hT.2.2.get0 hq]
      by_cases hcc : L.getD k 0 = L.getD q 0
      · rw [if_pos hcc]
        refine ⟨by omega, ?_⟩
        have har := ar_le (L.getD k 0)
        rw [← hcc] at h3
        have e1 : (L.getD k 0 :: tk (d + ar (L.getD k 0)) (L.drop (k + 1)) = L.getD k 0 :: tk (d + ar (L.getD k 0)) (L.drop (q + 1))) = (tk (d + ar (L.getD k 0)) (L.drop (k + 1)) = tk (d + ar (L.getD k 0)) (L.drop (q + 1))) := by simp
        simp only [e1] at h3
        rw [dropc hk, show d + 1 + e = (d + e) + 1 by omega, wl_cons] at he
        have step : ∀ t1 : Int, t1 = (ar (L.getD k 0) : Int) - 1 → d_Term_sameParts_j101 a (q : Int) (k : Int) ((d + 1 : Nat) : Int) t1 μ W Q := by
          rintro _ rfl
          unfold d_Term_sameParts_j101
          rw [wr_id (z := ((d + 1 : Nat) : Int) + _) (by omega) (by omega), wr_id (by omega) (by omega), wr_id (by omega) (by omega)]
          by_cases h0 : d + ar (L.getD k 0) = 0
          · rw [if_pos (by omega)]
            rw [h0, tk_zero, tk_zero] at h3
            rw [h3] at h
            simpa using h
          · rw [if_neg (by omega)]
            exact hW _ _ _ ⟨d + ar (L.getD k 0), q + 1, k + 1, by omega, by omega, by omega, by omega, by omega, by omega, by omega, ⟨e, by rw [show d + ar (L.getD k 0) + e = d + e + ar (L.getD k 0) by omega]; exact he⟩, h3⟩ (by omega)
        by_cases hc0 : L.getD k 0 < 0
        · rw [if_pos hc0]
          exact step _ (by rw [ar_neg hc0]; rfl)
        · rw [if_neg hc0, jand3_ar hc0 (hn _ (getD_mem hk)), wr_id (by omega) (by omega)]
          exact ⟨by omega, step _ rfl⟩
      · rw [if_neg hcc]
        rw [h3, decide_eq_false (fun e => hcc (List.cons.inj e).1)] at h
        exact h
    · rw [if_neg (by omega)]
      rw [List.drop_eq_nil_of_le (show L.length ≤ q by omega), tk_nil] at h3
      rw [h3, decide_eq_false (fun e => by cases e)] at h
      exact h
  · obtain ⟨e, h1, h2⟩ := wl_drop L 1 hw x (by omega)
    exact ⟨e - 1, by rw [show 1 + (e - 1) = e by have := h2 hx; omega]; exact h1⟩
theorem c_Term_sameAs {Q : Bool → Prop} (hT : IsT μ a L) (hS : IsT μ s S) (h : Q (decide (L = S))) : d_Term_sameAs a s μ Q := by
  unfold d_Term_sameAs
  have hl := hT.lt
  rw [hT.1, hS.1]
  by_cases hlen : L.length = S.length
  · rw [if_pos (by omega)]
    refine i_Term_sameAs_l15 (Inv := fun v2 => ∃ k : Nat, v2 = k ∧ k ≤ L.length ∧ decide (L = S) = decide (L.drop k = S.drop k)) (fun v2 => L.length - v2.toNat) ?_ 0 ⟨0, rfl, Nat.zero_le _, by simp⟩
    rintro _ ⟨k, rfl, h1, h2⟩ W hW
    unfold d_Term_sameAs_b15
    rw [hT.1]
    by_cases hk : k < L.length
    · rw [if_pos (by omega)]
      refine c_Term_getN hT hk ?_
      refine c_Term_getN hS (by omega) ?_
      rw [dropc hk, dropc (show k < S.length by omega)] at h2
      by_cases hcc : L.getD k 0 = S.getD k 0
      · rw [if_pos hcc, wr_id (by omega) (by omega)]
        refine hW _ ⟨k + 1, by omega, by omega, ?_⟩ (by omega)
        rw [h2, hcc]
        simp only [List.cons.injEq, true_and]
      · rw [if_neg hcc]
        rw [h2, decide_eq_false (fun e => hcc (List.cons.inj e).1)] at h
        exact h
    · rw [if_neg (by omega)]
      rw [List.drop_eq_nil_of_le (show L.length ≤ k by omega), List.drop_eq_nil_of_le (show S.length ≤ k by omega), decide_eq_true rfl] at h2
      rw [h2] at h
      exact h
  · rw [if_neg (by omega)]
    rw [decide_eq_false (fun e : L = S => hlen (by rw [e]))] at h
    exact h
theorem c_Term_set {k : Nat} {z : Int} {Q : Mem → Prop} (hT : IsT μ a L) (hk : k < L.length) (h : ∀ μ', IsT μ' a (L.set k z) → Fr a (a + 2) μ μ' → Q μ') : d_Term_set a (k : Int) z μ Q := by
  unfold d_Term_set
  have hc := hT.2.1
  rw [if_neg (by omega), hT.1, if_pos (by omega), if_pos (by omega)]
  refine ⟨by omega, ?_⟩
  rw [Int.toNat_natCast]
  refine h _ ⟨?_, by rw [List.length_set]; exact hc, ?_⟩ (Fr.up (by omega))
  · rw [mup_r (by omega), List.length_set]
    exact hT.1
  · intro i hi
    rw [List.length_set] at hi
    rw [Nat.zero_add, mup_a, List.getD_eq_getElem?_getD, List.getElem?_set]
    by_cases e : i = k
    · subst e
      rw [if_pos rfl, if_pos rfl, if_pos hk]
      rfl
    · rw [if_neg e, if_neg (fun q => e q.symm), ← List.getD_eq_getElem?_getD]
      exact hT.2.2.get0 hi
theorem c_Arrays_fill {z : Int} {Q : Mem → Prop} (h : ∀ μ', (∀ i, i < ln a → μ' a i = z) → Fr a (a + 1) μ μ' → Q μ') : d_Arrays_fill a z μ Q := by
  unfold d_Arrays_fill
  have hl := ln_le a
  refine i_Arrays_fill_l5 (Inv := fun v2 μ1 => ∃ k : Nat, v2 = k ∧ k ≤ ln a ∧ (∀ i, i < k → μ1 a i = z) ∧ Fr a (a + 1) μ μ1) (fun v2 _ => ln a - v2.toNat) ?_ 0 μ ⟨0, rfl, Nat.zero_le _, fun i hi => absurd hi (by omega), Fr.rfl'⟩
  rintro _ μ1 ⟨k, rfl, h1, h2, h3⟩ W hW
  unfold d_Arrays_fill_b5
  by_cases hk : k < ln a
  · rw [if_pos (by omega)]
    refine ⟨by omega, ?_⟩
    rw [wr_id (by omega) (by omega), Int.toNat_natCast]
    refine hW _ _ ⟨k + 1, by omega, by omega, fun i hi => ?_, h3.tr (Fr.up (lo := a) (hi := a + 1) (by omega)) (by omega) (by omega)⟩ (by omega)
    rw [mup_a]
    split
    · rfl
    · exact h2 i (by omega)
  · rw [if_neg (by omega)]
    have : k = ln a := by omega
    subst this
    exact h _ h2 h3
theorem c_arityOf {c : Int} {Q : Int → Prop} (hc : c < 32) (h : Q (ar c : Nat)) : d_Term_arityOf c μ Q := by
  unfold d_Term_arityOf
  by_cases h0 : c < 0
  · rw [if_pos h0]
    rw [ar_neg h0] at h
    exact h
  · rw [if_neg h0, jand3_ar h0 hc]
    exact h
end T33

