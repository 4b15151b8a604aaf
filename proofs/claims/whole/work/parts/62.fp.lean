/-! averages: numbers with a point -/
def dokT (x : UInt64) : Bool := jnan64 x && decide ((Op.cmpValue (FP.dcmp x x) .l).toInt = 0)
set_option maxRecDepth 100000 in
theorem avg_ok : ∀ n : Fin 6, ∀ s : Fin 481, dokT (FP.ddiv (FP.i2d (Int32.ofInt ((s : Nat) : Int))) (FP.i2d (Int32.ofInt (((n : Nat) + 1 : Nat) : Int)))) = true := by decide +kernel
theorem avg_0 : dokT FP.dconst0 = true := by decide +kernel
theorem shr_ok : ∀ n : Fin 6, ∀ s : Fin 7, (jnan32 (FP.fdiv (FP.i2f (Int32.ofInt ((s : Nat) : Int))) (FP.i2f (Int32.ofInt (((n : Nat) + 1 : Nat) : Int)))) && dokT (FP.f2d (FP.fdiv (FP.i2f (Int32.ofInt ((s : Nat) : Int))) (FP.i2f (Int32.ofInt (((n : Nat) + 1 : Nat) : Int)))))) = true := by decide +kernel
theorem shr_0 : dokT (FP.f2d FP.fconst0) = true := by decide +kernel
