/-! Checks of contracts, by the kernel. -/
theorem kt_106 : kGo kc_106 = true := by decide +kernel
theorem kt_107 : kGo kc_107 = true := by decide +kernel
theorem kt_108 : kGo kc_108 = true := by decide +kernel
theorem kt_109 : kGo kc_109 = true := by decide +kernel
theorem kt_110 : kGo kc_110 = true := by decide +kernel
theorem kt_111 : kGo kc_111 = true := by decide +kernel
