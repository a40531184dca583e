/-! Checks of contracts, by the kernel. -/
theorem kt_598 : kGo kc_598 = true := by decide +kernel
theorem kt_600 : kGo kc_600 = true := by decide +kernel
theorem kt_602 : kGo kc_602 = true := by decide +kernel
theorem kt_603 : kGo kc_603 = true := by decide +kernel
