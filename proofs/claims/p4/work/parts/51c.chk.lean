/-! Checks of contracts, by the kernel. -/
theorem kt_99 : kGo kc_99 = true := by decide +kernel
theorem kt_100 : kGo kc_100 = true := by decide +kernel
theorem kt_101 : kGo kc_101 = true := by decide +kernel
theorem kt_102 : kGo kc_102 = true := by decide +kernel
theorem kt_103 : kGo kc_103 = true := by decide +kernel
theorem kt_104 : kGo kc_104 = true := by decide +kernel
theorem kt_105 : kGo kc_105 = true := by decide +kernel
