/-! averageSize and normalShare -/
def smN (f : Nat → Nat) : Nat → Nat
  | 0 => 0
  | n + 1 => smN f n + f n
theorem smN_le {f : Nat → Nat} {m : Nat} : ∀ n, (∀ i, i < n → f i ≤ m) → smN f n ≤ n * m := by
  intro n
  induction n with
  | zero => intro _; exact Nat.zero_le _
  | succ n ih =>
    intro h
    rw [smN, Nat.succ_mul]
    have := ih fun i hi => h i (by omega)
    have := h n (by omega)
    omega
def sumZ (Ts : List (List Int)) : Nat → Nat := smN fun i => (Ts.getD i []).length
def sumN (rs : List Rl2) (Ts : List (List Int)) : Nat → Nat := smN fun i => if px rs false (Ts.getD i []) = -1 then 1 else 0
def avg (Ts : List (List Int)) : UInt64 := if Ts.length = 0 then FP.dconst0 else FP.ddiv (FP.i2d (Int32.ofInt ((sumZ Ts Ts.length : Nat) : Int))) (FP.i2d (Int32.ofInt ((Ts.length : Nat) : Int)))
def shr (rs : List Rl2) (Ts : List (List Int)) : UInt32 := if Ts.length = 0 then FP.fconst0 else FP.fdiv (FP.i2f (Int32.ofInt ((sumN rs Ts Ts.length : Nat) : Int))) (FP.i2f (Int32.ofInt ((Ts.length : Nat) : Int)))
section A64
variable {μ : Mem} {A : AS}
def g1d {α : Type} (ok : Bool) (z x : α) : Int × α := if ok = false then (1, z) else (0, x)
def sp_averageSize (A : AS) : Int × UInt64 := g1d (aL A) FP.dconst0 (avg (aT A))
def sp_normalShare (A : AS) : Int × UInt32 := g1d (aL A) FP.fconst0 (shr (aR A) (aT A))
end A64

