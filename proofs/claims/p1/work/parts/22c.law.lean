/-! The law's run, checked: scripts of six numbers, by what the first one picks. -/
theorem eTK_11 : eTry 6 (eG6 11 11) = true := by decide +kernel
theorem eTK_12 : eTry 6 (eG6 12 12) = true := by decide +kernel
theorem eTK_13 : eTry 6 (eG6 13 13) = true := by decide +kernel
theorem eTK_14 : eTry 6 (eG6 14 14) = true := by decide +kernel
theorem eTK_15 : eTry 6 (eG6 15 15) = true := by decide +kernel
theorem eTK_16 : eTry 6 (eG6 16 16) = true := by decide +kernel
theorem eTK_17 : eTry 6 (eG6 17 17) = true := by decide +kernel
theorem eTK_18 : eTry 6 (eG6 18 18) = true := by decide +kernel
theorem eTK_19 : eTry 6 (eG6 19 19) = true := by decide +kernel
theorem eTK_20 : eTry 6 (eG6 20 20) = true := by decide +kernel
theorem eTK_21 : eTry 6 (eG6 21 21) = true := by decide +kernel
