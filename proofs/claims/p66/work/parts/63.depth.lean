/-! DEPTH -/
def lm : List Nat → Nat
  | [] => 0
  | h :: hs => max h (lm hs)
/-- the depths of a row's terms -/
def hts : List Int → List Nat
  | [] => []
  | c :: r => (1 + lm ((hts r).take (ar c))) :: (hts r).drop (ar c)
def dpt (T : List Int) : Nat := (hts T).headD 0
section D63
variable {μ : Mem}
/-- the reference's stack of what is open -/
def Ost (f : Nat → Int) (s : List Nat) : Prop := (∀ i, i < s.length → f i = ((s.getD (s.length - 1 - i) 0 : Nat) : Int)) ∧ ∀ d, d ∈ s → d ≤ 3
theorem Ost.top {f : Nat → Int} {d : Nat} {s : List Nat} (h : Ost f (d :: s)) : f s.length = (d : Int) := by
  have := h.1 s.length (by simp)
  rw [List.length_cons, show s.length + 1 - 1 - s.length = 0 by omega] at this
  exact this
theorem Ost.pop {f g : Nat → Int} {d : Nat} {s : List Nat} (h : Ost f (d :: s)) (hg : ∀ i, i < s.length → g i = f i) : Ost g s := by
  refine ⟨fun i hi => ?_, fun x hx => h.2 x (List.mem_cons_of_mem _ hx)⟩
  rw [hg i hi, h.1 i (by simp; omega), List.length_cons, getD_cons, if_neg (by omega)]
  congr 2
  omega
theorem Ost.push {f g : Nat → Int} {d : Nat} {s : List Nat} (h : Ost f s) (hd : d ≤ 3) (hg : ∀ i, i < s.length → g i = f i) (ht : g s.length = (d : Int)) : Ost g (d :: s) := by
  refine ⟨fun i hi => ?_, fun x hx => ?_⟩
  · rw [List.length_cons] at hi ⊢
    rw [getD_cons]
    by_cases e : i = s.length
    · subst e
      rw [if_pos (by omega)]
      exact ht
    · rw [if_neg (by omega), hg i (by omega), h.1 i (by omega)]
      congr 2
      omega
  · rcases List.mem_cons.mp hx with rfl | hx
    · exact hd
    · exact h.2 x hx
end D63
def sp_termDepth (A : AS) (v1 : Int) : Int × Int := g1 (aL A) (decide (0 ≤ v1 ∧ v1 < ((aT A).length : Int))) ((dpt ((aT A).getD v1.toNat []) : Nat) : Int)
