/-! THE REFERENCE: does a variable occur in what a place stands for -/
theorem mem_sbi {P : List Int} {x : Nat} {w : Int} (hx : x < P.length) : w ∈ sb P x ↔ ∃ i, x ≤ i ∧ i < en P x ∧ P.getD i 0 = w := by
  have hl := sb_len P x
  have he := en_le (L := P) (p := x) (by omega)
  have hgt := en_gt hx
  have get : ∀ k, (hk : k < (sb P x).length) → (sb P x)[k] = P.getD (x + k) 0 := by
    intro k hk
    have hk2 : k < sk (P.drop x) 1 := by unfold en at hl; omega
    have h1 : (sb P x)[k]? = P[x + k]? := by
      unfold sb
      rw [List.getElem?_take, if_pos hk2, List.getElem?_drop]
    rw [List.getElem?_eq_getElem hk] at h1
    rw [List.getD_eq_getElem?_getD, ← h1]
    rfl
  constructor
  · intro h
    obtain ⟨k, hk, e⟩ := List.getElem_of_mem h
    exact ⟨x + k, by omega, by omega, by rw [← get k hk]; exact e⟩
  · rintro ⟨i, h1, h2, h3⟩
    have hk : i - x < (sb P x).length := by omega
    have := get (i - x) hk
    rw [show x + (i - x) = i by omega, h3] at this
    rw [← this]
    exact List.getElem_mem hk
theorem smN_upd {f f' : Nat → Nat} {j : Nat} : ∀ n, j < n → f' j + 1 = f j → (∀ i, i ≠ j → f' i = f i) → smN f' n + 1 = smN f n := by
  intro n
  induction n with
  | zero => intro h; omega
  | succ n ih =>
    intro h h1 h2
    rw [smN, smN]
    by_cases e : j = n
    · subst e
      have : ∀ m, m ≤ j → smN f' m = smN f m := by
        intro m
        induction m with
        | zero => intro _; rfl
        | succ m ihm => intro hm; rw [smN, smN, ihm (by omega), h2 m (by omega)]
      rw [this j (by omega)]
      omega
    · have := ih (by omega) h1 h2
      rw [h2 n (fun k => e k.symm)]
      omega
/-- variables that were not seen -/
def un (g : Nat → Int) : Nat := smN (fun j => if g j = 0 then 1 else 0) 16
theorem un_le (g : Nat → Int) : un g ≤ 16 := smN_le (m := 1) 16 fun i _ => by split <;> omega
theorem un_set {g g' : Nat → Int} {j : Nat} (hj : j < 16) (h0 : g j = 0) (h1 : g' j = 1) (h2 : ∀ i, i ≠ j → g' i = g i) : un g' + 1 = un g := by
  refine smN_upd 16 hj ?_ fun i hi => ?_
  · show (if g' j = 0 then 1 else 0) + 1 = if g j = 0 then 1 else 0
    rw [if_neg (by omega), if_pos h0]
  · rw [h2 i hi]
def sn (g : Nat → Int) (u : Int) : Prop := -16 ≤ u ∧ u < 0 ∧ g (-1 - u).toNat = 1
def Nst (f : Nat → Int) (K : List Nat) : Prop := ∀ i, i < K.length → f i = ((K.getD (K.length - 1 - i) 0 : Nat) : Int)
theorem Nst.top {f : Nat → Int} {x : Nat} {K : List Nat} (h : Nst f (x :: K)) : f K.length = (x : Int) := by
  have := h K.length (by rw [List.length_cons]; omega)
  rw [this, List.length_cons, show K.length + 1 - 1 - K.length = 0 by omega]
  rfl
theorem Nst.pop {f : Nat → Int} {x : Nat} {K : List Nat} (h : Nst f (x :: K)) : Nst f K := by
  intro i hi
  have := h i (by rw [List.length_cons]; omega)
  rw [this, List.length_cons, show K.length + 1 - 1 - i = (K.length - 1 - i) + 1 by omega]
  rfl
theorem Nst.push {f g : Nat → Int} {x : Nat} {K : List Nat} (h : Nst f K) (hg : ∀ i, i < K.length → g i = f i) (ht : g K.length = (x : Int)) : Nst g (x :: K) := by
  intro i hi
  rw [List.length_cons] at hi ⊢
  by_cases e : i = K.length
  · rw [e, ht, show K.length + 1 - 1 - K.length = 0 by omega]
    rfl
  · rw [hg i (by omega), h i (by omega), show K.length + 1 - 1 - i = (K.length - 1 - i) + 1 by omega]
    rfl
section O68
variable {P : List Int} {β : Bd} {θ : Int → List Int} {rk : Int → Nat} {c : Int} {q d : Nat} {ars : List Nat} {μ : Mem}
/-- what the search keeps: B: places that are still to be looked at -/
def OcI (P : List Int) (β : Bd) (θ : Int → List Int) (c : Int) (q : Nat) (μ μ1 : Mem) (K : List Nat) (B : Nat → Prop) : Prop :=
  Gm [788, 789] [] μ μ1 ∧ (∀ j, j < 16 → μ1 789 j = 0 ∨ μ1 789 j = 1) ∧ μ1 789 (-1 - c).toNat = 0 ∧ Nst (μ1 788) K ∧ (∀ y, y ∈ K → y < P.length ∧ ∀ z, z < 0 → z ∈ vl θ P y → z ∈ vl θ P q) ∧
  (q ∈ K ∨ B q ∨ ∀ w, w ∈ sb P q → w < 0 → sn (μ1 789) w) ∧ ∀ u, sn (μ1 789) u → ∀ r, β u = some r → r ∈ K ∨ B r ∨ ∀ w, w ∈ sb P r → w < 0 → sn (μ1 789) w
theorem occ_end {μ1 : Mem} (hI : RI P β θ) (hk : RK P β rk) (hc : c < 0) (h : OcI P β θ c q μ μ1 [] (fun _ => False)) : ¬ c ∈ vl θ P q := by
  obtain ⟨-, -, h0, -, -, h5, h6⟩ := h
  have key : ∀ n : Nat, ∀ w, rk w = n → sn (μ1 789) w → ¬ c ∈ θ w := by
    intro n
    induction n using Nat.strongRecOn with
    | _ n ih =>
      intro w hn hs hm
      have hne : w ≠ c := fun e => by rw [e] at hs; have := hs.2.2; omega
      cases hb : β w with
      | none =>
        rw [hI.2.1 w hs.2.1 hb] at hm
        exact hne (List.mem_singleton.mp hm).symm
      | some r =>
        rw [hI.2.2.1 w r hs.2.1 hb] at hm
        obtain ⟨u, hu, hun, hcu⟩ := (mem_sv hc).mp hm
        have hr := hk w r u hs.2.1 hb hu hun
        rcases h6 w hs r hb with a | a | a
        · cases a
        · exact a
        · exact ih _ (by omega) u rfl (a u hu hun) hcu
  intro hm
  obtain ⟨u, hu, hun, hcu⟩ := (mem_sv hc).mp hm
  rcases h5 with a | a | a
  · cases a
  · exact a
  · exact key _ u rfl (a u hu hun) hcu
theorem c_occurs {Q : Bool → Mem → Prop} (hI : RI P β θ) (hpo : PoM μ P) (hok : pok ars P d) (hA : AR μ ars) (hbd : MBd μ β) (hin : BdIn P β) (hk : RK P β rk) (hc : c < 0) (hcn : okn ars 16 c) (hcb : β c = none) (hq : q < P.length)
    (h : ∀ μ', Gm [788, 789] [] μ μ' → Q (decide (c ∈ vl θ P q)) μ') : d_Md_occurs (enc c) (q : Int) μ Q := by
  unfold d_Md_occurs
  have h400 := hok.2.2.1
  have hc16 := hcn.1 hc
  refine i_Md_occurs_l2 (Inv := fun v3 μ1 => Gm [788, 789] [] μ μ1 ∧ ∃ k : Nat, v3 = k ∧ k ≤ 16 ∧ ∀ j, j < k → μ1 789 j = 0) (fun v3 _ => 16 - v3.toNat) ?_ 0 μ ⟨Gm.rfl', 0, rfl, Nat.zero_le _, fun j hj => by omega⟩
  rintro _ μ1 ⟨hG, k, rfl, hk16, hz⟩ W hW
  unfold d_Md_occurs_b2
  by_cases hkl : k < 16
  · rw [if_pos (by omega), wr_id (by omega) (by omega), Int.toNat_natCast]
    refine ⟨by omega, hW _ _ ⟨hG.tr (Gm.upR (a := 789) (by decide)) (by decide) (by decide) (by decide) (by decide), k + 1, by omega, by omega, fun j hj => ?_⟩ (by omega)⟩
    by_cases e : j = k
    · rw [e, mup_s]
    · rw [mup_k e]
      exact hz j (by omega)
  · rw [if_neg (by omega)]
    have hk0 : k = 16 := by omega
    subst hk0
    have hG1 : Gm [788, 789] [] μ (mup μ1 788 0 (q : Int)) := hG.tr (Gm.upR (a := 788) (by decide)) (by decide) (by decide) (by decide) (by decide)
    have e789 : mup μ1 788 0 (q : Int) 789 = μ1 789 := mup_r (by decide)
    refine i_Md_occurs_l30 (Inv := fun v3 μ2 => ∃ K : List Nat, v3 = (K.length : Nat) ∧ K.length + un (μ2 789) ≤ 17 ∧ OcI P β θ c q μ μ2 K (fun _ => False)) (fun v3 μ2 => 2 * un (μ2 789) + v3.toNat) ?_ 1 _ ⟨[q], rfl, by have := un_le (mup μ1 788 0 (q : Int) 789); rw [List.length_singleton]; omega, hG1, fun j hj => Or.inl (by rw [e789]; exact hz j hj), by rw [e789]; exact hz _ (by omega), fun i hi => ?_, fun y hy => ?_, Or.inl (List.mem_singleton.mpr rfl), fun u hu => ?_⟩
    · rintro _ μ2 ⟨K, rfl, hKu, hO⟩ W2 hW2
      unfold d_Md_occurs_b30
      cases K with
      | nil =>
        rw [if_neg (by simp)]
        have hn := occ_end hI hk hc hO
        have := h μ2 hO.1
        rw [decide_eq_false hn] at this
        exact this
      | cons x K =>
        rw [if_pos (by simp)]
        rw [List.length_cons] at hKu
        have e0 : wr ((((x :: K).length : Nat) : Int) + (-1)) = (K.length : Nat) := by rw [List.length_cons, wr_id (by omega) (by omega)]; omega
        rw [e0, Int.toNat_natCast]
        obtain ⟨hG2, hfl, hf0, hst, hKs, hCq, hCu⟩ := hO
        rw [hst.top]
        refine ⟨by omega, ?_⟩
        have hxN := (hKs x (List.mem_cons_self ..)).1
        have hxq := (hKs x (List.mem_cons_self ..)).2
        have m784 : ∀ μ3, Gm [788, 789] [] μ μ3 → Me (μ3 784) 0 P := fun μ3 g => by rw [g.1 784 (by decide) (by decide)]; exact hpo.2
        have m785 : ∀ μ3, Gm [788, 789] [] μ μ3 → MBd μ3 β := fun μ3 g => by unfold MBd; rw [g.1 785 (by decide) (by decide)]; exact hbd
        refine c_behind (hA.gm (hG2.1 773 (by decide) (by decide))) (m784 _ hG2) (by rw [show ln 784 = 400 by decide +kernel]; exact h400) hok.2.2.2 (Pk.one hok.2.1 hxN) ?_
        have hxe := en_le (L := P) (p := x) (by omega)
        have hxg := en_gt hxN
        refine i_Md_occurs_l61 (Inv := fun v3 v6 μ3 => ∃ (K1 : List Nat) (p : Nat), v3 = (K1.length : Nat) ∧ v6 = p ∧ x ≤ p ∧ p ≤ en P x ∧ K1.length + un (μ3 789) ≤ 16 ∧ 2 * un (μ3 789) + K1.length ≤ 2 * un (μ2 789) + K.length ∧ (∀ i, x ≤ i → i < p → P.getD i 0 < 0 → sn (μ3 789) (P.getD i 0)) ∧ OcI P β θ c q μ μ3 K1 (fun y => y = x)) (fun _ v6 _ => en P x - v6.toNat) ?_ _ _ μ2 ⟨K, x, rfl, rfl, Nat.le_refl _, by omega, by omega, Nat.le_refl _, fun i _ _ => by omega, hG2, hfl, hf0, hst.pop, fun y hy => hKs y (List.mem_cons_of_mem _ hy), ?_, fun u hu r hr => ?_⟩
        · rintro _ _ μ3 ⟨K1, p, rfl, rfl, hxp, hpe, hK1, hms, hsn, hO3⟩ W3 hW3
          obtain ⟨hG3, hfl3, hf03, hst3, hKs3, hCq3, hCu3⟩ := hO3
          unfold d_Md_occurs_b61 d_Md_occurs_j176
          by_cases hpl : p < en P x
          · rw [if_pos (by omega), Int.toNat_natCast, meg (m784 _ hG3) (by omega : p < P.length)]
            have hpN : p < P.length := by omega
            have hcp := hok.2.2.2 _ (gm0 hpN)
            have hmem : P.getD p 0 ∈ sb P x := (mem_sbi hxN).mpr ⟨p, hxp, hpl, rfl⟩
            refine ⟨by omega, ?_⟩
            by_cases ec : P.getD p 0 = c
            · rw [if_pos (by rw [ec])]
              have hm : c ∈ vl θ P q := hxq c hc ((mem_sv hc).mpr ⟨c, by rw [← ec]; exact hmem, hc, by rw [hI.2.1 c hc hcb]; exact List.mem_singleton.mpr rfl⟩)
              have := h μ3 hG3
              rw [decide_eq_true hm] at this
              exact this
            · rw [if_neg (fun k => ec ((enc_inj hcp hcn hok.1).mp k))]
              refine ⟨by omega, ?_⟩
              rw [wr_id (z := (p : Int) + 1) (by omega) (by omega)]
              by_cases n : P.getD p 0 < 0
              · have e1 := enc_neg n
                have h16 := hcp.1 n
                rw [if_neg (by omega), e1]
                have ej : wr (99 - P.getD p 0 - 100) = -1 - P.getD p 0 := by rw [wr_id (by omega) (by omega)]; omega
                rw [ej]
                refine ⟨by omega, by omega, ?_⟩
                have nx : ∀ μ4 : Mem, Gm [788, 789] [] μ3 μ4 → μ4 789 = μ3 789 → True := fun _ _ _ => trivial
                by_cases f0 : μ3 789 (-1 - P.getD p 0).toNat = 0
                · rw [if_pos f0]
                  generalize hj : (-1 - P.getD p 0).toNat = j at *
                  have hj16 : j < 16 := by omega
                  have hjc : (-1 - c).toNat ≠ j := by omega
                  have e4 : mup μ3 789 j 1 784 = μ3 784 := mup_r (by decide)
                  have e5 : mup μ3 789 j 1 785 = μ3 785 := mup_r (by decide)
                  have e8 : mup μ3 789 j 1 788 = μ3 788 := mup_r (by decide)
                  have hG4 : Gm [788, 789] [] μ (mup μ3 789 j 1) := hG3.tr (Gm.upR (a := 789) (by decide)) (by decide) (by decide) (by decide) (by decide)
                  rw [e4, e5, meg (m784 _ hG3) hpN, e1, ej, hj]
                  have hb3 := (m785 _ hG3).at n (by omega)
                  rw [hj] at hb3
                  have hun : un (mup μ3 789 j 1 789) + 1 = un (μ3 789) := un_set hj16 f0 mup_s fun i hi => mup_k hi
                  have snm : ∀ w, sn (μ3 789) w → sn (mup μ3 789 j 1 789) w := fun w hw => ⟨hw.1, hw.2.1, by
                    by_cases e : (-1 - w).toNat = j
                    · rw [e, mup_s]
                    · rw [mup_k e]; exact hw.2.2⟩
                  have snj : sn (mup μ3 789 j 1 789) (P.getD p 0) := ⟨by omega, n, by rw [hj, mup_s]⟩
                  have sno : ∀ w, sn (mup μ3 789 j 1 789) w → sn (μ3 789) w ∨ w = P.getD p 0 := fun w hw => by
                    by_cases e : (-1 - w).toNat = j
                    · have := hw.1
                      have := hw.2.1
                      exact Or.inr (by omega)
                    · have := hw.2.2
                      rw [mup_k e] at this
                      exact Or.inl ⟨hw.1, hw.2.1, this⟩
                  have hfl4 : ∀ i, i < 16 → mup μ3 789 j 1 789 i = 0 ∨ mup μ3 789 j 1 789 i = 1 := fun i hi => by
                    by_cases e : i = j
                    · rw [e, mup_s]; exact Or.inr rfl
                    · rw [mup_k e]; exact hfl3 i hi
                  have hsn4 : ∀ i, x ≤ i → i < p + 1 → P.getD i 0 < 0 → sn (mup μ3 789 j 1 789) (P.getD i 0) := fun i h1 h2 h3 => by
                    by_cases e : i = p
                    · rw [e]; exact snj
                    · exact snm _ (hsn i h1 (by omega) h3)
                  refine ⟨by omega, by omega, by omega, by omega, ?_⟩
                  cases hbc : β (P.getD p 0) with
                  | none =>
                    rw [hbc] at hb3
                    rw [if_pos hb3]
                    refine hW3 _ _ _ ⟨K1, p + 1, rfl, by omega, by omega, by omega, by omega, by omega, hsn4, hG4, hfl4, by rw [mup_k hjc]; exact hf03, by rw [e8]; exact hst3, hKs3, ?_, fun u hu r hr => ?_⟩ (by omega)
                    · rcases hCq3 with a | a | a
                      · exact Or.inl a
                      · exact Or.inr (Or.inl a)
                      · exact Or.inr (Or.inr fun w h1 h2 => snm w (a w h1 h2))
                    · rcases sno u hu with hu' | hu'
                      · rcases hCu3 u hu' r hr with a | a | a
                        · exact Or.inl a
                        · exact Or.inr (Or.inl a)
                        · exact Or.inr (Or.inr fun w h1 h2 => snm w (a w h1 h2))
                      · rw [hu', hbc] at hr
                        cases hr
                  | some r0 =>
                    rw [hbc] at hb3
                    dsimp only at hb3
                    have hr1 : ¬ ((r0 : Nat) : Int) = -1 := fun k => by
                      have h0 : (0 : Int) ≤ (r0 : Int) := Int.natCast_nonneg _
                      rw [k] at h0
                      exact absurd h0 (by decide)
                    rw [hb3, if_neg hr1, wr_id (z := (K1.length : Int) + 1) (by omega) (by omega), Int.toNat_natCast]
                    refine ⟨by omega, by omega, by omega, ?_⟩
                    have hr0 := hin _ _ hbc
                    have e9 : mup (mup μ3 789 j 1) 788 K1.length (r0 : Int) 789 = mup μ3 789 j 1 789 := mup_r (by decide)
                    have hG5 : Gm [788, 789] [] μ (mup (mup μ3 789 j 1) 788 K1.length (r0 : Int)) := hG4.tr (Gm.upR (a := 788) (by decide)) (by decide) (by decide) (by decide) (by decide)
                    refine hW3 _ _ _ ⟨r0 :: K1, p + 1, by rw [List.length_cons]; omega, by omega, by omega, by omega, by rw [e9, List.length_cons]; omega, by rw [e9, List.length_cons]; omega, by rw [e9]; exact hsn4, hG5, by rw [e9]; exact hfl4, by rw [e9, mup_k hjc]; exact hf03, ?_, fun y hy => ?_, ?_, fun u hu r hr => ?_⟩ (by omega)
                    · exact hst3.push (fun i hi => by rw [mup_k (by omega), e8]) mup_s
                    · rcases List.mem_cons.mp hy with e | e
                      · subst e
                        refine ⟨hr0, fun z hz hm => hxq z hz ((mem_sv hz).mpr ⟨_, hmem, n, ?_⟩)⟩
                        rw [hI.2.2.1 _ _ n hbc]
                        exact hm
                      · exact hKs3 y e
                    · rw [e9]
                      rcases hCq3 with a | a | a
                      · exact Or.inl (List.mem_cons_of_mem _ a)
                      · exact Or.inr (Or.inl a)
                      · exact Or.inr (Or.inr fun w h1 h2 => snm w (a w h1 h2))
                    · rw [e9] at hu ⊢
                      rcases sno u hu with hu' | hu'
                      · rcases hCu3 u hu' r hr with a | a | a
                        · exact Or.inl (List.mem_cons_of_mem _ a)
                        · exact Or.inr (Or.inl a)
                        · exact Or.inr (Or.inr fun w h1 h2 => snm w (a w h1 h2))
                      · rw [hu', hbc] at hr
                        injection hr with hr
                        rw [← hr]
                        exact Or.inl (List.mem_cons_self ..)
                · rw [if_neg f0]
                  have f1 : μ3 789 (-1 - P.getD p 0).toNat = 1 := by
                    rcases hfl3 _ (show (-1 - P.getD p 0).toNat < 16 by omega) with a | a
                    · exact absurd a f0
                    · exact a
                  refine hW3 _ _ _ ⟨K1, p + 1, rfl, by omega, by omega, by omega, hK1, hms, fun i h1 h2 h3 => ?_, hG3, hfl3, hf03, hst3, hKs3, hCq3, hCu3⟩ (by omega)
                  by_cases e : i = p
                  · rw [e]; exact ⟨by omega, n, f1⟩
                  · exact hsn i h1 (by omega) h3
              · have := enc_lt hcp hok.1
                rw [if_pos (by omega)]
                refine hW3 _ _ _ ⟨K1, p + 1, rfl, by omega, by omega, by omega, hK1, hms, fun i h1 h2 h3 => ?_, hG3, hfl3, hf03, hst3, hKs3, hCq3, hCu3⟩ (by omega)
                by_cases e : i = p
                · rw [e] at h3; exact absurd h3 n
                · exact hsn i h1 (by omega) h3
          · rw [if_neg (by omega)]
            have hp : p = en P x := by omega
            have hall : ∀ w, w ∈ sb P x → w < 0 → sn (μ3 789) w := fun w hw hn => by
              obtain ⟨i, h1, h2, h3⟩ := (mem_sbi hxN).mp hw
              rw [← h3] at hn ⊢
              exact hsn i h1 (by omega) hn
            refine hW2 _ _ ⟨K1, rfl, by omega, hG3, hfl3, hf03, hst3, hKs3, ?_, fun u hu r hr => ?_⟩ (by rw [Int.toNat_natCast, Int.toNat_natCast, List.length_cons]; omega)
            · rcases hCq3 with a | a | a
              · exact Or.inl a
              · subst a
                exact Or.inr (Or.inr hall)
              · exact Or.inr (Or.inr a)
            · rcases hCu3 u hu r hr with a | a | a
              · exact Or.inl a
              · subst a
                exact Or.inr (Or.inr hall)
              · exact Or.inr (Or.inr a)
        · rcases hCq with a | a | a
          · rcases List.mem_cons.mp a with e | e
            · exact Or.inr (Or.inl e)
            · exact Or.inl e
          · exact a.elim
          · exact Or.inr (Or.inr a)
        · rcases hCu u hu r hr with a | a | a
          · rcases List.mem_cons.mp a with e | e
            · exact Or.inr (Or.inl e)
            · exact Or.inl e
          · exact a.elim
          · exact Or.inr (Or.inr a)
    · rw [List.length_singleton] at hi
      have : i = 0 := by omega
      subst this
      rw [mup_s]
      rfl
    · rw [List.mem_singleton] at hy
      subst hy
      exact ⟨hq, fun z _ hz => hz⟩
    · rw [e789] at hu
      have := hz (-1 - u).toNat (by have := hu.1; omega)
      have := hu.2.2
      omega
end O68
