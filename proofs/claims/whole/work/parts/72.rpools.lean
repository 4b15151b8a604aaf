/-! THE REFERENCE: the pool is filled -/
def shb (v : Int) (T : List Int) : List Int := if v = 0 then T else shv T
theorem shb_len (v : Int) (T : List Int) : (shb v T).length = T.length := by
  unfold shb shv
  split
  · rfl
  · rw [List.length_map]
theorem shb_get {v : Int} {T : List Int} {k : Nat} (hk : k < T.length) : (shb v T).getD k 0 = if v = 0 then T.getD k 0 else if T.getD k 0 < 0 then T.getD k 0 - 8 else T.getD k 0 := by
  unfold shb shv
  by_cases h : v = 0
  · rw [if_pos h, if_pos h]
  · rw [if_neg h, if_neg h, List.getD_eq_getElem?_getD, List.getElem?_map, List.getElem?_eq_getElem hk, List.getD_eq_getElem?_getD, List.getElem?_eq_getElem hk]
    rfl
theorem wl_shv : ∀ (T : List Int) (d : Nat), wl (shv T) d = wl T d := by
  intro T
  induction T with
  | nil => intro d; rfl
  | cons c r ih =>
    intro d
    cases d with
    | zero => rfl
    | succ d =>
      show wl ((if c < 0 then c - 8 else c) :: shv r) (d + 1) = wl (c :: r) (d + 1)
      rw [wl_cons, wl_cons, ih]
      by_cases h : c < 0
      · rw [if_pos h, ar_neg h, ar_neg (by omega)]
      · rw [if_neg h]
theorem wl_shb {v : Int} {T : List Int} {d : Nat} (h : wl T d = true) : wl (shb v T) d = true := by
  unfold shb
  split
  · exact h
  · rw [wl_shv]; exact h
theorem shb_okn {v : Int} {T : List Int} {ars : List Nat} (h : ∀ c, c ∈ T → okn ars 8 c) : ∀ c, c ∈ shb v T → okn ars 16 c := by
  intro c hc
  unfold shb shv at hc
  by_cases e : v = 0
  · rw [if_pos e] at hc
    have := h c hc
    exact ⟨fun n => by have := this.1 n; omega, this.2⟩
  · rw [if_neg e] at hc
    obtain ⟨x, hx, ex⟩ := List.mem_map.mp hc
    have := h x hx
    by_cases n : x < 0
    · rw [if_pos n] at ex
      have h1 := this.1 n
      exact ⟨fun _ => by omega, fun _ => by omega⟩
    · rw [if_neg n] at ex
      rw [← ex]
      exact ⟨fun _ => by omega, this.2⟩
section Q72
variable {P T : List Int} {ars : List Nat} {μ : Mem}
theorem c_empties {Q : Mem → Prop} (k : ∀ μ', Gm [785] [35] μ μ' → PoM μ' [] → (∀ j, j < 16 → μ' 785 j = -1) → Q μ') : d_Md_empties μ Q := by
  unfold d_Md_empties
  refine i_Md_empties_l7 (Inv := fun v1 μ1 => ∃ n : Nat, v1 = n ∧ n ≤ 16 ∧ Gm [785] [35] μ μ1 ∧ μ1 772 35 = 0 ∧ ∀ j, j < n → μ1 785 j = -1) (fun v1 _ => 16 - v1.toNat) ?_ 0 _ ⟨0, rfl, Nat.zero_le _, (Gm.upF (k := 35)).mono (by decide) (by decide), mup_s, fun j hj => by omega⟩
  rintro _ μ1 ⟨n, rfl, hn, hG, h35, hz⟩ W hW
  unfold d_Md_empties_b7
  by_cases h : n < 16
  · rw [if_pos (by omega), wr_id (by omega) (by omega), Int.toNat_natCast]
    refine ⟨by omega, hW _ _ ⟨n + 1, by omega, by omega, hG.tr (Gm.upR (a := 785) (by decide)) (by decide) (by decide) (by decide) (by decide), by rw [mup_r (by decide)]; exact h35, fun j hj => ?_⟩ (by omega)⟩
    by_cases e : j = n
    · rw [e, mup_s]
    · rw [mup_k e]
      exact hz j (by omega)
  · rw [if_neg (by omega)]
    exact k μ1 hG ⟨h35, Sg.nil⟩ fun j hj => hz j (by omega)
theorem c_pools {o : Nat} {v1 v2 v3 : Int} {Q : Int → Mem → Prop} (hv1 : v1 = o) (hv2 : v2 = (T.length : Nat)) (hpo : PoM μ P) (hM : Me (μ 773) o T) (ho : o + T.length ≤ 709) (hl : P.length + T.length ≤ 400) (hT : ∀ c, c ∈ T → okn ars 8 c) (h8 : ars.length ≤ 8)
    (k : ∀ μ', Gm [784] [35] μ μ' → PoM μ' (P ++ shb v3 T) → Q ((P.length : Nat) : Int) μ') : d_Md_pools v1 v2 v3 μ Q := by
  subst hv1 hv2
  unfold d_Md_pools
  rw [hpo.1]
  refine i_Md_pools_l9 (Inv := fun v5 μ1 => ∃ n : Nat, v5 = n ∧ n ≤ T.length ∧ Gm [784] [35] μ μ1 ∧ PoM μ1 (P ++ (shb v3 T).take n)) (fun v5 _ => T.length - v5.toNat) ?_ 0 _ ⟨0, rfl, Nat.zero_le _, Gm.rfl', by rw [List.take_zero, List.append_nil]; exact hpo⟩
  rintro _ μ1 ⟨n, rfl, hn, hG, hp⟩ W hW
  unfold d_Md_pools_b9 d_Md_pools_j56 d_Md_pools_j58
  have hsl := shb_len v3 T
  by_cases h : n < T.length
  · have e1 : wr ((o : Int) + (n : Int)) = ((o + n : Nat) : Int) := by rw [wr_id (by omega) (by omega)]; omega
    rw [if_pos (by omega), e1, Int.toNat_natCast, hG.1 773 (by decide) (by decide), hM.get h]
    have hc := hT _ (gm0 h)
    have hlt := enc_lt hc h8
    have e35 : μ1 772 35 = ((P.length + n : Nat) : Int) := by rw [hp.1, List.length_append, List.length_take, Nat.min_eq_left (by omega)]
    have e772 : ∀ (j : Nat) (z : Int), mup μ1 784 j z 772 35 = μ1 772 35 := fun j z => by rw [mup_r (by decide)]
    have step : ∀ z : Int, z = enc ((shb v3 T).getD n 0) → (0 ≤ μ1 772 35 ∧ μ1 772 35 < 400) ∧ W (wr ((n : Int) + 1)) (mup (mup μ1 784 (μ1 772 35).toNat z) 772 35 (wr ((mup μ1 784 (μ1 772 35).toNat z 772 35) + 1))) := by
      intro z hz
      rw [e772, e35, wr_id (by omega) (by omega), wr_id (by omega) (by omega), Int.toNat_natCast]
      refine ⟨by omega, hW _ _ ⟨n + 1, by omega, by omega, (hG.tr (Gm.upR (a := 784) (by decide)) (by decide) (by decide) (by decide) (by decide) : Gm [784] [35] μ _).tr (Gm.upF (k := 35)) (by decide) (by decide) (by decide) (by decide), ?_, ?_⟩ (by omega)⟩
      · rw [mup_s, List.length_append, List.length_take, Nat.min_eq_left (by omega)]
        omega
      · have e784 : ∀ z' : Int, mup (mup μ1 784 (P.length + n) z) 772 35 z' 784 = mup μ1 784 (P.length + n) z 784 := fun z' => mup_r (by decide)
        rw [e784]
        unfold Me
        have hA := hp.2
        unfold Me at hA
        rw [List.map_append, show (shb v3 T).take (n + 1) = (shb v3 T).take n ++ [(shb v3 T).getD n 0] by rw [List.take_succ, List.getD_eq_getElem?_getD, List.getElem?_eq_getElem (by omega)]; rfl, List.map_append, ← List.append_assoc, ← List.map_append]
        refine Sg.app (hA.congr fun i hi => ?_) (Sg.one ?_)
        · rw [List.length_map, List.length_append, List.length_take, Nat.min_eq_left (by omega)] at hi
          rw [mup_k (by omega)]
        · rw [List.length_map, List.length_append, List.length_take, Nat.min_eq_left (by omega), Nat.zero_add, mup_s]
          exact hz
    have hget := shb_get (v := v3) h
    refine ⟨by omega, ?_⟩
    by_cases n0 : T.getD n 0 < 0
    · have e2 := enc_neg n0
      have h8' := hc.1 n0
      rw [if_neg (by omega)]
      by_cases hv : v3 = 0
      · rw [if_pos hv]
        rw [if_pos hv] at hget
        exact step _ (by rw [hget])
      · rw [if_neg hv]
        rw [if_neg hv, if_pos n0] at hget
        have e3 : wr (enc (T.getD n 0) - 100) = -1 - T.getD n 0 := by rw [e2, wr_id (by omega) (by omega)]; omega
        refine step _ ?_
        rw [e3, hget, enc_neg (by omega), wr_id (by omega) (by omega)]
        omega
    · rw [if_pos (by omega)]
      refine step _ ?_
      rw [hget]
      by_cases hv : v3 = 0
      · rw [if_pos hv]
      · rw [if_neg hv, if_neg n0]
  · rw [if_neg (by omega)]
    have : n = T.length := by omega
    subst this
    rw [List.take_of_length_le (by omega)] at hp
    exact k μ1 hG hp
end Q72
