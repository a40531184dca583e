/-! The law's code, by the kernel. -/
theorem eqL_0 : eqMp 280 0 400 = true := by decide +kernel
theorem eqL_400 : eqMp 280 400 400 = true := by decide +kernel
theorem eqL_800 : eqMp 280 800 400 = true := by decide +kernel
theorem eqL_1200 : eqMp 280 1200 347 = true := by decide +kernel
