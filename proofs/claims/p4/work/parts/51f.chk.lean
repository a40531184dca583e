/-! Checks of contracts, by the kernel. -/
theorem kt_446 : kGo kc_446 = true := by decide +kernel
theorem kt_447 : kGo kc_447 = true := by decide +kernel
theorem kt_448 : kGo kc_448 = true := by decide +kernel
theorem kt_449 : kGo kc_449 = true := by decide +kernel
