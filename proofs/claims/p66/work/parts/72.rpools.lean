/-! THE REFERENCE: the pool is filled -/
def shb (v : Int) (T : List Int) : List Int := if v = 0 then T else shv T
theorem shb_len (v : Int) (T : List Int) : (shb v T).length = T.length := by
  unfold shb shv
  split
  · rfl
  · rw [List.length_map]
theorem shb_get {v : Int} {T : List Int} {k : Nat} (hk : k < T.length) : (shb v T).getD k 0 = if v = 0 then T.getD k 0 else if T.getD k 0 < 0 then T.getD k 0 - 8 else T.getD k 0 := by
  unfold shb shv
  by_cases h : v = 0
  · rw [if_pos h, if_pos h]
  · rw [if_neg h, if_neg h, List.getD_eq_getElem?_getD, List.getElem?_map, List.getElem?_eq_getElem hk, List.getD_eq_getElem?_getD, List.getElem?_eq_getElem hk]
    rfl
theorem wl_shv : ∀ (T : List Int) (d : Nat), wl (shv T) d = wl T d := by
  intro T
  induction T with
  | nil => intro d; rfl
  | cons c r ih =>
    intro d
    cases d with
    | zero => rfl
    | succ d =>
      show wl ((if c < 0 then c - 8 else c) :: shv r) (d + 1) = wl (c :: r) (d + 1)
      rw [wl_cons, wl_cons, ih]
      by_cases h : c < 0
      · rw [if_pos h, ar_neg h, ar_neg (by omega)]
      · rw [if_neg h]
theorem wl_shb {v : Int} {T : List Int} {d : Nat} (h : wl T d = true) : wl (shb v T) d = true := by
  unfold shb
  split
  · exact h
  · rw [wl_shv]; exact h
theorem shb_okn {v : Int} {T : List Int} {ars : List Nat} (h : ∀ c, c ∈ T → okn ars 8 c) : ∀ c, c ∈ shb v T → okn ars 16 c := by
  intro c hc
  unfold shb shv at hc
  by_cases e : v = 0
  · rw [if_pos e] at hc
    have := h c hc
    exact ⟨fun n => by have := this.1 n; omega, this.2⟩
  · rw [if_neg e] at hc
    obtain ⟨x, hx, ex⟩ := List.mem_map.mp hc
    have := h x hx
    by_cases n : x < 0
    · rw [if_pos n] at ex
      have h1 := this.1 n
      exact ⟨fun _ => by omega, fun _ => by omega⟩
    · rw [if_neg n] at ex
      rw [← ex]
      exact ⟨fun _ => by omega, this.2⟩
section Q72
variable {P T : List Int} {ars : List Nat} {μ : Mem}
end Q72

