/-! THE CLASS: unify -/
theorem sk_shv : ∀ (T : List Int) (d : Nat), sk (shv T) d = sk T d := by
  intro T
  induction T with
  | nil => intro d; rfl
  | cons c r ih =>
    intro d
    cases d with
    | zero => rfl
    | succ d =>
      show sk ((if c < 0 then c - 8 else c) :: shv r) (d + 1) = sk (c :: r) (d + 1)
      rw [sk_cons, sk_cons, ih]
      by_cases h : c < 0
      · rw [if_pos h, ar_neg h, ar_neg (by omega)]
      · rw [if_neg h]
theorem en_shv (T : List Int) (p : Nat) : en (shv T) p = en T p := by
  unfold en
  rw [show (shv T).drop p = shv (T.drop p) from (List.map_drop ..).symm, sk_shv]
theorem en_shb (v : Int) (T : List Int) (p : Nat) : en (shb v T) p = en T p := by
  unfold shb
  split
  · rfl
  · exact en_shv T p
theorem en_appL {A B : List Int} {p d : Nat} (h : wl A d = true) (hp : p < A.length) : en (A ++ B) p = en A p := by
  have h1 := congrArg List.length (sb_appL (B := B) h hp)
  rw [sb_len, sb_len] at h1
  have h2 := en_gt hp
  have h3 := en_gt (L := A ++ B) (p := p) (by rw [List.length_append]; omega)
  omega
theorem en_appR (A B : List Int) (p : Nat) : en (A ++ B) (A.length + p) = A.length + en B p := by
  unfold en
  rw [← List.drop_drop, List.drop_left]
  omega
theorem okt_32 {ars : List Nat} {m n : Nat} {T : List Int} (h8 : ars.length ≤ 8) (h : okt ars m n T) : nok T := fun c hc => okn_lt (h.2.2 c hc) h8
section O76
variable {μ : Mem} {v0 v1 n0 : Nat} {P T B : List Int} {v2 : Int} {ars : List Nat} {m n d : Nat}
/-- one more term onto the pool: A is there, T comes, B will come -/
theorem c_loadT {A : List Int} {Q : Int → Mem → Prop} (hPe : P = A ++ (shb v2 T ++ B)) (hln : ln (v0 + 1) = 160) (hT : IsT μ v1 T) (h8 : ars.length ≤ 8) (hok : okt ars 8 n T) (hv1 : v1 + 1 < v0 ∨ v0 + 6 ≤ v1) (hL : PLd μ v0 P A.length) (hP : P.length ≤ 160) (hv2 : v2 = 0 ∨ v2 = 8)
    (k : ∀ μ', PLd μ' v0 P (A ++ shb v2 T).length → (∀ b, b < v0 ∨ v0 + 6 ≤ b → μ' b = μ b) → (∀ j, j ≠ 0 → μ' v0 j = μ v0 j) → Q ((A.length : Nat) : Int) μ') : d_Unifier_load v0 v1 v2 μ Q := by
  have hsl := shb_len v2 T
  have hw : wl (shb v2 T) 1 = true := wl_shb hok.1
  refine c_load hln hT (okt_32 h8 hok) hv1 hL (by rw [hPe, List.length_append, List.length_append, hsl]; omega) hP hv2 (fun c hc => by
    by_cases n : c < 0
    · have := (hok.2.2 c hc).1 n
      omega
    · omega) (fun i hi => ?_) (fun i hi => ?_) fun μ' k1 k2 k3 => k μ' (by rw [List.length_append, hsl]; exact k1) k2 k3
  · rw [hPe, List.getD_eq_getElem?_getD, List.getElem?_append_right (by omega), show A.length + i - A.length = i by omega, List.getElem?_append_left (by omega), ← List.getD_eq_getElem?_getD, shb_get hi]
    rcases hv2 with e | e
    · rw [if_pos e, e]
      split <;> omega
    · rw [if_neg (by omega), e]
  · rw [hPe, en_appR, en_appL hw (by omega), en_shb]
theorem okt_p32 (h8 : ars.length ≤ 8) (h : ∀ c, c ∈ P → okn ars 16 c) : ∀ c, c ∈ P → c < 32 := fun c hc => okn_lt (h c hc) h8
end O76

