/-! Checks of contracts, by the kernel. -/
theorem kt_450 : kGo kc_450 = true := by decide +kernel
theorem kt_451 : kGo kc_451 = true := by decide +kernel
theorem kt_452 : kGo kc_452 = true := by decide +kernel
theorem kt_453 : kGo kc_453 = true := by decide +kernel
theorem kt_454 : kGo kc_454 = true := by decide +kernel
theorem kt_455 : kGo kc_455 = true := by decide +kernel
theorem kt_456 : kGo kc_456 = true := by decide +kernel
theorem kt_457 : kGo kc_457 = true := by decide +kernel
