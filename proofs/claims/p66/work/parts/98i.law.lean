/-! THE FIRST MEMORY: the constructors' run, checked -/
theorem tchk_t : tchk = true := by decide +kernel
