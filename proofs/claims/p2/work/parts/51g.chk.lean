/-! Checks of contracts, by the kernel. -/
theorem kt_469 : kGo kc_469 = true := by decide +kernel
theorem kt_470 : kGo kc_470 = true := by decide +kernel
