/-! THE REFERENCE: what a place means is built -/
def kids (P : List Int) : Nat → Nat → List Nat
  | _, 0 => []
  | p, n + 1 => p :: kids P (en P p) n
theorem kids_len (P : List Int) : ∀ (n p : Nat), (kids P p n).length = n := by
  intro n
  induction n with
  | zero => intro p; rfl
  | succ n ih => intro p; rw [kids, List.length_cons, ih]
def fvl (θ : Int → List Int) (P : List Int) (K : List Nat) : List Int := K.flatMap fun y => vl θ P y
theorem fvl_cons {θ : Int → List Int} {P : List Int} {x : Nat} {K : List Nat} : fvl θ P (x :: K) = vl θ P x ++ fvl θ P K := by
  unfold fvl
  rw [List.flatMap_cons]
theorem fvl_app {θ : Int → List Int} {P : List Int} {K K' : List Nat} : fvl θ P (K ++ K') = fvl θ P K ++ fvl θ P K' := by
  unfold fvl
  rw [List.flatMap_append]
theorem va_kids {θ : Int → List Int} {P : List Int} : ∀ (n p : Nat), va θ P p n = fvl θ P (kids P p n) := by
  intro n
  induction n with
  | zero => intro p; rw [va_zero]; rfl
  | succ n ih => intro p; rw [va_succ, kids, fvl_cons, ih]
theorem kids_in {P : List Int} : ∀ (n p : Nat), Pk P p n → ∀ x, x ∈ kids P p n → x < P.length := by
  intro n
  induction n with
  | zero => intro p _ x h; cases h
  | succ n ih =>
    intro p hp x h
    rw [kids] at h
    rcases List.mem_cons.mp h with e | e
    · rw [e]; exact hp.lt
    · exact ih _ hp.next x e
section M74
variable {P : List Int} {β : Bd} {θ : Int → List Int} {rk : Int → Nat} {d : Nat} {ars : List Nat} {μ : Mem}
end M74

