/-! THE REFERENCE: its rows, what is lent, built, matched -/
theorem gm0 {l : List Int} {k : Nat} (h : k < l.length) : l.getD k 0 ∈ l := getD_mem h
def enc (c : Int) : Int := if c < 0 then 99 - c else c / 4
/-- of the reference's rows and fields only these change -/
def Gm (rows flds : List Nat) (μ μ' : Mem) : Prop := (∀ b, b ≠ 772 → b ∉ rows → μ' b = μ b) ∧ ∀ j, j ∉ flds → μ' 772 j = μ 772 j
theorem Gm.rfl' {r f : List Nat} {μ : Mem} : Gm r f μ μ := ⟨fun _ _ _ => rfl, fun _ _ => rfl⟩
theorem Gm.tr {r f r1 f1 r2 f2 : List Nat} {μ μ1 μ2 : Mem} (h1 : Gm r1 f1 μ μ1) (h2 : Gm r2 f2 μ1 μ2) (a1 : ∀ x, x ∈ r1 → x ∈ r) (a2 : ∀ x, x ∈ r2 → x ∈ r) (b1 : ∀ x, x ∈ f1 → x ∈ f) (b2 : ∀ x, x ∈ f2 → x ∈ f) : Gm r f μ μ2 :=
  ⟨fun b g1 g2 => by rw [h2.1 b g1 (fun q => g2 (a2 b q)), h1.1 b g1 (fun q => g2 (a1 b q))], fun j g => by rw [h2.2 j (fun q => g (b2 j q)), h1.2 j (fun q => g (b1 j q))]⟩
theorem Gm.mono {r f r1 f1 : List Nat} {μ μ1 : Mem} (h1 : Gm r1 f1 μ μ1) (a1 : ∀ x, x ∈ r1 → x ∈ r) (b1 : ∀ x, x ∈ f1 → x ∈ f) : Gm r f μ μ1 := h1.tr (Gm.rfl' (r := []) (f := [])) a1 (fun _ q => by cases q) b1 (fun _ q => by cases q)
theorem Gm.upF {μ : Mem} {k : Nat} {z : Int} : Gm [] [k] μ (mup μ 772 k z) := ⟨fun b g _ => mup_r g, fun j g => mup_k (by simpa using g)⟩
section M40
variable {μ : Mem} {ars : List Nat} {m : Nat}
/-- a row of nodes as the reference has it -/
def Me (f : Nat → Int) (o : Nat) (L : List Int) : Prop := Sg f o (L.map enc)
theorem Me.get {f : Nat → Int} {o k : Nat} {L : List Int} (h : Me f o L) (hk : k < L.length) : f (o + k) = enc (L.getD k 0) := by
  rw [h k (by rw [List.length_map]; exact hk)]
  exact getD_map hk
theorem Me.get0 {f : Nat → Int} {k : Nat} {L : List Int} (h : Me f 0 L) (hk : k < L.length) : f k = enc (L.getD k 0) := by
  have := h.get hk
  rwa [Nat.zero_add] at this
/-- a rule in the reference's row -/
def MR (μ : Mem) (i : Nat) (r : Rl2) : Prop := i < 6 ∧ r.1.length ≤ 12 ∧ r.2.length ≤ 12 ∧ μ 773 (67 + 26 * i) = (r.1.length : Int) ∧ μ 773 (67 + 26 * i + 1) = (r.2.length : Int) ∧ Me (μ 773) (67 + 26 * i + 2) r.1 ∧ Me (μ 773) (67 + 26 * i + 14) r.2
end M40

