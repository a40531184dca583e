/-! The law's run, checked: scripts of six numbers, by what the first one picks. -/
theorem eTK_0 : eTry 6 (eG6 0 0) = true := by decide +kernel
theorem eTK_1 : eTry 6 (eG6 1 1) = true := by decide +kernel
theorem eTK_2 : eTry 6 (eG6 2 2) = true := by decide +kernel
theorem eTK_3 : eTry 6 (eG6 3 3) = true := by decide +kernel
theorem eTK_4 : eTry 6 (eG6 4 4) = true := by decide +kernel
theorem eTK_5 : eTry 6 (eG6 5 5) = true := by decide +kernel
theorem eTK_6 : eTry 6 (eG6 6 6) = true := by decide +kernel
theorem eTK_7 : eTry 6 (eG6 7 7) = true := by decide +kernel
theorem eTK_8 : eTry 6 (eG6 8 8) = true := by decide +kernel
theorem eTK_9 : eTry 6 (eG6 9 9) = true := by decide +kernel
theorem eTK_10 : eTry 6 (eG6 10 10) = true := by decide +kernel
