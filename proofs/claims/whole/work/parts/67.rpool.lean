/-! THE REFERENCE'S POOL: following bindings, does a variable occur -/
def PoM (μ : Mem) (P : List Int) : Prop := μ 772 35 = (P.length : Int) ∧ Me (μ 784) 0 P
def MBd (μ : Mem) (β : Bd) : Prop := ∀ j, j < 16 → μ 785 j = (match β (-1 - (j : Int)) with | none => -1 | some q => (q : Int))
def RK (P : List Int) (β : Bd) (rk : Int → Nat) : Prop := ∀ c q w, c < 0 → β c = some q → w ∈ sb P q → w < 0 → rk w < rk c
def BdIn (P : List Int) (β : Bd) : Prop := ∀ c q, β c = some q → q < P.length
def pok (ars : List Nat) (P : List Int) (d : Nat) : Prop := ars.length ≤ 8 ∧ wl P d = true ∧ P.length ≤ 400 ∧ ∀ c, c ∈ P → okn ars 16 c
def smR (rk : Int → Nat) : List Int → Nat
  | [] => 0
  | c :: r => rk c + smR rk r
theorem smR_le {rk : Int → Nat} : ∀ (L : List Int) (c : Int), c ∈ L → rk c ≤ smR rk L := by
  intro L
  induction L with
  | nil => intro c h; cases h
  | cons x r ih =>
    intro c h
    rw [smR]
    rcases List.mem_cons.mp h with h | h
    · rw [h]; omega
    · have := ih c h; omega
theorem mem_sv {σ : Int → List Int} {c : Int} {L : List Int} (hc : c < 0) : c ∈ sv σ L ↔ ∃ u, u ∈ L ∧ u < 0 ∧ c ∈ σ u := by
  unfold sv
  rw [List.mem_flatMap]
  constructor
  · rintro ⟨u, h1, h2⟩
    by_cases n : u < 0
    · rw [if_pos n] at h2
      exact ⟨u, h1, n, h2⟩
    · rw [if_neg n, List.mem_singleton] at h2
      omega
  · rintro ⟨u, h1, h2, h3⟩
    exact ⟨u, h1, by rw [if_pos h2]; exact h3⟩
section R67
variable {P : List Int} {β : Bd} {θ : Int → List Int} {rk : Int → Nat} {c : Int} {q d : Nat} {ars : List Nat} {μ : Mem}
theorem RK.bind (hI : RI P β θ) (hk : RK P β rk) (hc : c < 0) (hb : β c = none) (ho : ¬ c ∈ vl θ P q) : ∃ rk', RK P (bdS β c q) rk' := by
  refine ⟨fun u => rk u + if c ∈ θ u then 1 + smR rk (sb P q) else 0, fun x r w hx e hw hwn => ?_⟩
  dsimp only
  unfold bdS at e
  by_cases k : x = c
  · rw [if_pos k] at e
    injection e with e
    subst e
    have h1 : ¬ c ∈ θ w := fun h => ho ((mem_sv hc).mpr ⟨w, hw, hwn, h⟩)
    have h2 : c ∈ θ x := by rw [k, hI.2.1 c hc hb]; exact List.mem_singleton.mpr rfl
    rw [if_neg h1, if_pos h2]
    have := smR_le (rk := rk) _ w hw
    omega
  · rw [if_neg k] at e
    have h0 := hk x r w hx e hw hwn
    by_cases h1 : c ∈ θ w
    · have h2 : c ∈ θ x := by
        rw [hI.2.2.1 x r hx e]
        exact (mem_sv hc).mpr ⟨w, hw, hwn, h1⟩
      rw [if_pos h1, if_pos h2]
      omega
    · rw [if_neg h1]
      omega
theorem meg {f : Nat → Int} (h : Me f 0 P) (hq : q < P.length) : f q = enc (P.getD q 0) := by
  have := h q (by rw [List.length_map]; exact hq)
  rw [Nat.zero_add] at this
  rw [this, List.getD_eq_getElem?_getD, List.getD_eq_getElem?_getD, List.getElem?_map, List.getElem?_eq_getElem hq]
  rfl
theorem sb_var (hq : q < P.length) (hn : P.getD q 0 < 0) : sb P q = [P.getD q 0] := by
  rw [sb_node hq, ar_neg hn, att_zero]
theorem MBd.at (hb : MBd μ β) (hc : c < 0) (h16 : -16 ≤ c) : μ 785 (-1 - c).toNat = (match β c with | none => -1 | some q => (q : Int)) := by
  have := hb (-1 - c).toNat (by omega)
  rw [show (-1 - (((-1 - c).toNat : Nat) : Int)) = c by omega] at this
  exact this
theorem c_ends {Q : Int → Prop} (hpo : PoM μ P) (hok : pok ars P d) (hb : MBd μ β) (hin : BdIn P β) (hk : RK P β rk) (hq : q < P.length)
    (h : ∀ r : Nat, r < P.length → (∀ σ, RsB P β σ → vl σ P r = vl σ P q) → (P.getD r 0 < 0 → β (P.getD r 0) = none) → Q (r : Int)) : d_Md_ends (q : Int) μ Q := by
  unfold d_Md_ends
  have h400 := hok.2.2.1
  refine i_Md_ends_l2 (Inv := fun v2 => ∃ r : Nat, v2 = r ∧ r < P.length ∧ ∀ σ, RsB P β σ → vl σ P r = vl σ P q) (fun v2 => if P.getD v2.toNat 0 < 0 then rk (P.getD v2.toNat 0) + 1 else 0) ?_ _ ⟨q, rfl, hq, fun _ _ => rfl⟩
  rintro _ ⟨r, rfl, hr, hv⟩ W hW
  unfold d_Md_ends_b2
  rw [Int.toNat_natCast, meg hpo.2 hr]
  have hcr := hok.2.2.2 _ (gm0 hr)
  refine ⟨by omega, ?_⟩
  by_cases n : P.getD r 0 < 0
  · have e1 := enc_neg n
    have h16 := hcr.1 n
    rw [if_neg (by omega), e1]
    rw [show wr (99 - P.getD r 0 - 100) = -1 - P.getD r 0 by rw [wr_id (by omega) (by omega)]; omega]
    refine ⟨by omega, by omega, ?_⟩
    have hm := hb.at n (by omega)
    rw [hm]
    cases hbc : β (P.getD r 0) with
    | none =>
      rw [if_pos rfl]
      exact h r hr hv fun _ => hbc
    | some x =>
      dsimp only
      rw [if_neg (show ¬ ((x : Nat) : Int) = -1 by omega)]
      refine ⟨by omega, by omega, ?_⟩
      have hx := hin _ _ hbc
      refine hW _ ⟨x, rfl, hx, fun σ hs => ?_⟩ ?_
      · rw [← hv σ hs, vl_var hr n]
        exact (hs _ x n hbc).symm
      · rw [Int.toNat_natCast, Int.toNat_natCast, if_pos n]
        by_cases m : P.getD x 0 < 0
        · rw [if_pos m]
          have := hk _ x (P.getD x 0) n hbc (by rw [sb_var hx m]; exact List.mem_singleton.mpr rfl) m
          omega
        · rw [if_neg m]
          omega
  · have := enc_lt hcr hok.1
    rw [if_pos (by omega)]
    exact h r hr hv fun k => absurd k n
end R67
