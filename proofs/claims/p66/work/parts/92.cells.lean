/-! facts of cells -/
theorem rt131 : rt 131 = 8 := by decide +kernel
theorem rt58 : rt 58 = 8 := by decide +kernel
theorem rt60 : rt 60 = 8 := by decide +kernel
