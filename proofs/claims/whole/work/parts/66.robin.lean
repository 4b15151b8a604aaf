/-! A POOL OF NODES, and unification of its terms by bindings of variables -/
theorem mguOf_some {θ : Int → List Int} {s t : List Int} (h : mgu θ s t) : ∃ η, mguOf s t = some η ∧ mgu η s t := by
  unfold mguOf
  have he : ∃ θ, mgu θ s t := ⟨θ, h⟩
  rw [dif_pos he]
  exact ⟨_, rfl, Classical.choose_spec he⟩
theorem mguOf_none {s t : List Int} (h : ∀ σ, ¬ isU σ s t) : mguOf s t = none := by
  unfold mguOf
  have he : ¬ ∃ θ, mgu θ s t := fun ⟨θ, q⟩ => h θ q.1
  rw [dif_neg he]
/-- n terms from a place on -/
def att (P : List Int) (p n : Nat) : List Int := (P.drop p).take (sk (P.drop p) n)
def Pk (P : List Int) (p n : Nat) : Prop := ∃ e, wl (P.drop p) (n + e) = true
theorem att_succ (P : List Int) (p n : Nat) : att P p (n + 1) = sb P p ++ att P (en P p) n := by
  unfold att sb en
  rw [Nat.add_comm n 1, sk_add, List.take_add, List.drop_drop]
theorem att_zero (P : List Int) (p : Nat) : att P p 0 = [] := by
  unfold att
  rw [sk_zero, List.take_zero]
theorem sb_node {P : List Int} {q : Nat} (h : q < P.length) : sb P q = P.getD q 0 :: att P (q + 1) (ar (P.getD q 0)) := by
  unfold sb att
  rw [dropc h, show (sk (P.getD q 0 :: P.drop (q + 1)) 1) = 1 + sk (P.drop (q + 1)) (0 + ar (P.getD q 0)) from rfl, Nat.zero_add, take_1]
theorem en_node {P : List Int} {q : Nat} (h : q < P.length) : en P q = q + 1 + sk (P.drop (q + 1)) (ar (P.getD q 0)) := by
  unfold en
  rw [dropc h, show (sk (P.getD q 0 :: P.drop (q + 1)) 1) = 1 + sk (P.drop (q + 1)) (0 + ar (P.getD q 0)) from rfl, Nat.zero_add]
  omega
theorem Pk.lt {P : List Int} {p n : Nat} (h : Pk P p (n + 1)) : p < P.length := by
  obtain ⟨e, h⟩ := h
  by_cases k : p < P.length
  · exact k
  · rw [List.drop_eq_nil_of_le (by omega), show n + 1 + e = (n + e) + 1 by omega] at h
    cases h
theorem Pk.next {P : List Int} {p n : Nat} (h : Pk P p (n + 1)) : Pk P (en P p) n := by
  obtain ⟨e, h⟩ := h
  refine ⟨e, ?_⟩
  have := (wl_cut (P.drop p) 1 (n + e) (by rw [show 1 + (n + e) = n + 1 + e by omega]; exact h)).2
  rw [List.drop_drop] at this
  exact this
theorem Pk.sb {P : List Int} {p n : Nat} (h : Pk P p (n + 1)) : wl (sb P p) 1 = true := by
  obtain ⟨e, h⟩ := h
  exact (wl_cut (P.drop p) 1 (n + e) (by rw [show 1 + (n + e) = n + 1 + e by omega]; exact h)).1
theorem Pk.at {P : List Int} {p n : Nat} (h : Pk P p n) : wl (att P p n) n = true := by
  obtain ⟨e, h⟩ := h
  exact (wl_cut (P.drop p) n e h).1
theorem Pk.one {P : List Int} {d q : Nat} (h : wl P d = true) (hq : q < P.length) : Pk P q 1 := by
  obtain ⟨e, h1, h2⟩ := wl_drop P d h q (by omega)
  have := h2 hq
  exact ⟨e - 1, by rw [show 1 + (e - 1) = e by omega]; exact h1⟩
theorem Pk.args {P : List Int} {d q : Nat} (h : wl P d = true) (hq : q < P.length) : Pk P (q + 1) (ar (P.getD q 0)) := by
  obtain ⟨e, h1⟩ := Pk.one h hq
  rw [dropc hq, Nat.add_comm 1 e, wl_cons] at h1
  exact ⟨e, by rw [Nat.add_comm (ar (P.getD q 0)) e]; exact h1⟩
theorem Pk.pred {P : List Int} {p n : Nat} (h : Pk P p (n + 1)) : Pk P p 1 := by
  obtain ⟨e, h⟩ := h
  exact ⟨n + e, by rw [show 1 + (n + e) = n + 1 + e by omega]; exact h⟩
/-- what a place stands for -/
def vl (σ : Int → List Int) (P : List Int) (q : Nat) : List Int := sv σ (sb P q)
def va (σ : Int → List Int) (P : List Int) (p n : Nat) : List Int := sv σ (att P p n)
section V66
variable {σ : Int → List Int} {P : List Int} {p p' q n d : Nat}
theorem vl_var (hq : q < P.length) (hn : P.getD q 0 < 0) : vl σ P q = σ (P.getD q 0) := by
  unfold vl
  rw [sb_node hq, ar_neg hn, att_zero, sv_cons, if_pos hn, sv_nil, List.append_nil]
theorem vl_fun (hq : q < P.length) (hn : ¬ P.getD q 0 < 0) : vl σ P q = P.getD q 0 :: va σ P (q + 1) (ar (P.getD q 0)) := by
  unfold vl va
  rw [sb_node hq, sv_cons, if_neg hn]
  rfl
theorem va_succ : va σ P p (n + 1) = vl σ P p ++ va σ P (en P p) n := by
  unfold va vl
  rw [att_succ, sv_app]
theorem va_zero : va σ P p 0 = [] := by
  unfold va
  rw [att_zero, sv_nil]
theorem vl_wl (hg : gdS σ) (h : Pk P p (n + 1)) : wl (vl σ P p) 1 = true := wl_sv _ _ h.sb fun c _ hc => hg c hc
theorem va_wl (hg : gdS σ) (h : Pk P p n) : wl (va σ P p n) n = true := wl_sv _ _ h.at fun c _ hc => hg c hc
theorem va_eq (hg : gdS σ) (h : Pk P p (n + 1)) (h' : Pk P p' (n + 1)) : va σ P p (n + 1) = va σ P p' (n + 1) ↔ vl σ P p = vl σ P p' ∧ va σ P (en P p) n = va σ P (en P p') n := by
  rw [va_succ, va_succ]
  constructor
  · intro e
    exact wl_inj _ _ _ _ 1 (vl_wl hg h) (vl_wl hg h') e
  · rintro ⟨a, b⟩
    rw [a, b]
theorem vl_eq_fun (hq : q < P.length) (hp : p < P.length) (hn : ¬ P.getD q 0 < 0) (hm : ¬ P.getD p 0 < 0) : vl σ P q = vl σ P p ↔ P.getD q 0 = P.getD p 0 ∧ va σ P (q + 1) (ar (P.getD q 0)) = va σ P (p + 1) (ar (P.getD p 0)) := by
  rw [vl_fun hq hn, vl_fun hp hm, List.cons_eq_cons]
end V66
/-! bindings -/
abbrev Bd : Type := Int → Option Nat
/-- the substitution keeps the bindings -/
def RsB (P : List Int) (β : Bd) (σ : Int → List Int) : Prop := ∀ c q, c < 0 → β c = some q → σ c = vl σ P q
/-- the bindings, and what they stand for -/
def RI (P : List Int) (β : Bd) (θ : Int → List Int) : Prop := gdS θ ∧ (∀ c, c < 0 → β c = none → θ c = [c]) ∧ RsB P β θ ∧ ∀ σ, gdS σ → RsB P β σ → ∀ c, c < 0 → sv σ (θ c) = σ c
def bdS (β : Bd) (c : Int) (q : Nat) : Bd := fun w => if w = c then some q else β w
section R66
variable {P : List Int} {β : Bd} {θ σ : Int → List Int} {c : Int} {q d : Nat}
theorem RI.init : RI P (fun _ => none) (fun c => [c]) := ⟨fun c hc => by
  show wl [c] (0 + 1) = true
  rw [wl_cons, ar_neg hc]
  rfl, fun _ _ _ => rfl, fun _ _ _ h => (by cases h), fun σ _ _ c hc => by rw [sv_cons, if_pos hc, sv_nil, List.append_nil]⟩
theorem vl_sv (hI : RI P β θ) (hg : gdS σ) (hs : RsB P β σ) (q : Nat) : sv σ (vl θ P q) = vl σ P q := by
  unfold vl
  rw [sv_sv]
  exact sv_congr _ fun c _ hc => hI.2.2.2 σ hg hs c hc
theorem RsB.old (h : RsB P (bdS β c q) σ) (hb : β c = none) : RsB P β σ := fun w r hw e => h w r hw (by
  unfold bdS
  rw [if_neg (fun k => by rw [k, hb] at e; cases e)]
  exact e)
theorem RI.bind (hI : RI P β θ) (hP : wl P d = true) (hc : c < 0) (hb : β c = none) (hq : q < P.length) (ho : ¬ c ∈ vl θ P q) : RI P (bdS β c q) (fun w => sv (fun x => if x = c then vl θ P q else [x]) (θ w)) := by
  have hw1 : wl (vl θ P q) 1 = true := vl_wl hI.1 (n := 0) (Pk.one hP hq)
  have gd : gdS (fun x => if x = c then vl θ P q else [x]) := fun x hx => by
    dsimp only
    by_cases e : x = c
    · rw [if_pos e]; exact hw1
    · rw [if_neg e]
      show wl [x] (0 + 1) = true
      rw [wl_cons, ar_neg hx]
      rfl
  have hid : ∀ L : List Int, ¬ c ∈ L → sv (fun x => if x = c then vl θ P q else [x]) L = L := fun L hL => by
    rw [sv_congr (τ := fun x => [x]) L fun x hx _ => if_neg fun e => hL (by rw [← e]; exact hx)]
    exact sv_id L
  have hv : ∀ r, vl (fun w => sv (fun x => if x = c then vl θ P q else [x]) (θ w)) P r = sv (fun x => if x = c then vl θ P q else [x]) (vl θ P r) := fun r => by
    unfold vl
    rw [sv_sv]
  refine ⟨fun w hw => wl_sv _ _ (hI.1 w hw) fun x _ hx => gd x hx, fun w hw e => ?_, fun w r hw e => ?_, fun σ hg hs w hw => ?_⟩
  · unfold bdS at e
    by_cases k : w = c
    · rw [if_pos k] at e
      cases e
    · rw [if_neg k] at e
      dsimp only
      rw [hI.2.1 w hw e, sv_cons, if_pos hw, if_neg k, sv_nil, List.append_nil]
  · rw [hv]
    dsimp only
    unfold bdS at e
    by_cases k : w = c
    · rw [if_pos k] at e
      injection e with e
      subst e
      rw [k, hI.2.1 c hc hb, sv_cons, if_pos hc, if_pos rfl, sv_nil, List.append_nil, hid _ ho]
    · rw [if_neg k] at e
      rw [hI.2.2.1 w r hw e]
  · dsimp only
    have hs0 := hs.old hb
    rw [sv_sv, ← hI.2.2.2 σ hg hs0 w hw]
    refine sv_congr _ fun x _ hx => ?_
    by_cases k : x = c
    · rw [if_pos k, vl_sv hI hg hs0, k]
      exact (hs c q hc (by unfold bdS; rw [if_pos rfl])).symm
    · rw [if_neg k, sv_cons, if_pos hx, sv_nil, List.append_nil]
/-- a variable below the term that it should mean: no unifier -/
theorem RI.occ (hI : RI P β θ) (hc : c < 0) (hq : q < P.length) (hf : ¬ P.getD q 0 < 0) (ho : c ∈ vl θ P q) (hg : gdS σ) (hs : RsB P β σ) : σ c ≠ vl σ P q := by
  intro e
  have h1 := sv_mem_len hg hc _ ho
  rw [vl_sv hI hg hs, ← e] at h1
  have h2 : 2 ≤ (vl θ P q).length := by
    rw [vl_fun hq hf] at ho ⊢
    rw [List.length_cons]
    rcases List.mem_cons.mp ho with k | k
    · omega
    · have := List.length_pos_of_mem k
      omega
  omega
end R66
