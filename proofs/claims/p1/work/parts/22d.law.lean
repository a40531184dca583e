/-! The law's run, checked: scripts of six numbers, by what the first one picks. -/
theorem eTK_22 : eTry 6 (eG6 22 22) = true := by decide +kernel
theorem eTK_23 : eTry 6 (eG6 23 23) = true := by decide +kernel
theorem eTK_24 : eTry 6 (eG6 24 24) = true := by decide +kernel
theorem eTK_25 : eTry 6 (eG6 25 25) = true := by decide +kernel
theorem eTK_26 : eTry 6 (eG6 26 26) = true := by decide +kernel
theorem eTK_27 : eTry 6 (eG6 27 27) = true := by decide +kernel
theorem eTK_28 : eTry 6 (eG6 28 28) = true := by decide +kernel
theorem eTK_29 : eTry 6 (eG6 29 29) = true := by decide +kernel
theorem eTK_30 : eTry 6 (eG6 30 30) = true := by decide +kernel
theorem eTK_31 : eTry 6 (eG6 31 31) = true := by decide +kernel
theorem eTK_32 : eTry 6 (eG6 32 32) = true := by decide +kernel
