/-! A POOL OF NODES, and unification of its terms by bindings of variables -/
theorem mguOf_some {θ : Int → List Int} {s t : List Int} (h : mgu θ s t) : ∃ η, mguOf s t = some η ∧ mgu η s t := by
  unfold mguOf
  have he : ∃ θ, mgu θ s t := ⟨θ, h⟩
  rw [dif_pos he]
  exact ⟨_, rfl, Classical.choose_spec he⟩
theorem mguOf_none {s t : List Int} (h : ∀ σ, ¬ isU σ s t) : mguOf s t = none := by
  unfold mguOf
  have he : ¬ ∃ θ, mgu θ s t := fun ⟨θ, q⟩ => h θ q.1
  rw [dif_neg he]
/-- n terms from a place on -/
def att (P : List Int) (p n : Nat) : List Int := (P.drop p).take (sk (P.drop p) n)
def Pk (P : List Int) (p n : Nat) : Prop := ∃ e, wl (P.drop p) (n + e) = true
theorem att_succ (P : List Int) (p n : Nat) : att P p (n + 1) = sb P p ++ att P (en P p) n := by
  unfold att sb en
  rw [Nat.add_comm n 1, sk_add, List.take_add, List.drop_drop]
theorem att_zero (P : List Int) (p : Nat) : att P p 0 = [] := by
  unfold att
  rw [sk_zero, List.take_zero]
theorem sb_node {P : List Int} {q : Nat} (h : q < P.length) : sb P q = P.getD q 0 :: att P (q + 1) (ar (P.getD q 0)) := by
  unfold sb att
  rw [dropc h, show (sk (P.getD q 0 :: P.drop (q + 1)) 1) = 1 + sk (P.drop (q + 1)) (0 + ar (P.getD q 0)) from rfl, Nat.zero_add, take_1]
theorem Pk.lt {P : List Int} {p n : Nat} (h : Pk P p (n + 1)) : p < P.length := by
  obtain ⟨e, h⟩ := h
  by_cases k : p < P.length
  · exact k
  · rw [List.drop_eq_nil_of_le (by omega), show n + 1 + e = (n + e) + 1 by omega] at h
    cases h
theorem Pk.next {P : List Int} {p n : Nat} (h : Pk P p (n + 1)) : Pk P (en P p) n := by
  obtain ⟨e, h⟩ := h
  refine ⟨e, ?_⟩
  have := (wl_cut (P.drop p) 1 (n + e) (by rw [show 1 + (n + e) = n + 1 + e by omega]; exact h)).2
  rw [List.drop_drop] at this
  exact this
theorem Pk.sb {P : List Int} {p n : Nat} (h : Pk P p (n + 1)) : wl (sb P p) 1 = true := by
  obtain ⟨e, h⟩ := h
  exact (wl_cut (P.drop p) 1 (n + e) (by rw [show 1 + (n + e) = n + 1 + e by omega]; exact h)).1
theorem Pk.one {P : List Int} {d q : Nat} (h : wl P d = true) (hq : q < P.length) : Pk P q 1 := by
  obtain ⟨e, h1, h2⟩ := wl_drop P d h q (by omega)
  have := h2 hq
  exact ⟨e - 1, by rw [show 1 + (e - 1) = e by omega]; exact h1⟩
theorem Pk.args {P : List Int} {d q : Nat} (h : wl P d = true) (hq : q < P.length) : Pk P (q + 1) (ar (P.getD q 0)) := by
  obtain ⟨e, h1⟩ := Pk.one h hq
  rw [dropc hq, Nat.add_comm 1 e, wl_cons] at h1
  exact ⟨e, by rw [Nat.add_comm (ar (P.getD q 0)) e]; exact h1⟩
/-- what a place stands for -/
def vl (σ : Int → List Int) (P : List Int) (q : Nat) : List Int := sv σ (sb P q)
def va (σ : Int → List Int) (P : List Int) (p n : Nat) : List Int := sv σ (att P p n)
section V66
variable {σ : Int → List Int} {P : List Int} {p p' q n d : Nat}
theorem vl_var (hq : q < P.length) (hn : P.getD q 0 < 0) : vl σ P q = σ (P.getD q 0) := by
  unfold vl
  rw [sb_node hq, ar_neg hn, att_zero, sv_cons, if_pos hn, sv_nil, List.append_nil]
theorem vl_fun (hq : q < P.length) (hn : ¬ P.getD q 0 < 0) : vl σ P q = P.getD q 0 :: va σ P (q + 1) (ar (P.getD q 0)) := by
  unfold vl va
  rw [sb_node hq, sv_cons, if_neg hn]
  rfl
theorem va_succ : va σ P p (n + 1) = vl σ P p ++ va σ P (en P p) n := by
  unfold va vl
  rw [att_succ, sv_app]
theorem va_zero : va σ P p 0 = [] := by
  unfold va
  rw [att_zero, sv_nil]
theorem vl_wl (hg : gdS σ) (h : Pk P p (n + 1)) : wl (vl σ P p) 1 = true := wl_sv _ _ h.sb fun c _ hc => hg c hc
theorem va_eq (hg : gdS σ) (h : Pk P p (n + 1)) (h' : Pk P p' (n + 1)) : va σ P p (n + 1) = va σ P p' (n + 1) ↔ vl σ P p = vl σ P p' ∧ va σ P (en P p) n = va σ P (en P p') n := by
  rw [va_succ, va_succ]
  constructor
  · intro e
    exact wl_inj _ _ _ _ 1 (vl_wl hg h) (vl_wl hg h') e
  · rintro ⟨a, b⟩
    rw [a, b]
theorem vl_eq_fun (hq : q < P.length) (hp : p < P.length) (hn : ¬ P.getD q 0 < 0) (hm : ¬ P.getD p 0 < 0) : vl σ P q = vl σ P p ↔ P.getD q 0 = P.getD p 0 ∧ va σ P (q + 1) (ar (P.getD q 0)) = va σ P (p + 1) (ar (P.getD p 0)) := by
  rw [vl_fun hq hn, vl_fun hp hm, List.cons_eq_cons]
end V66
/-! bindings -/
abbrev Bd : Type := Int → Option Nat
/-- the substitution keeps the bindings -/
def RsB (P : List Int) (β : Bd) (σ : Int → List Int) : Prop := ∀ c q, c < 0 → β c = some q → σ c = vl σ P q
section R66
variable {P : List Int} {β : Bd} {θ σ : Int → List Int} {c : Int} {q d : Nat}
end R66

