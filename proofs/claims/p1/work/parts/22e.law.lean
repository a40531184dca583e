/-! The law's run, checked: scripts of six numbers, by what the first one picks. -/
theorem eTK_33 : eTry 6 (eG6 33 33) = true := by decide +kernel
theorem eTK_34 : eTry 6 (eG6 34 34) = true := by decide +kernel
theorem eTK_35 : eTry 6 (eG6 35 35) = true := by decide +kernel
theorem eTK_36 : eTry 6 (eG6 36 36) = true := by decide +kernel
theorem eTK_37 : eTry 6 (eG6 37 37) = true := by decide +kernel
theorem eTK_38 : eTry 6 (eG6 38 38) = true := by decide +kernel
theorem eTK_39 : eTry 6 (eG6 39 39) = true := by decide +kernel
theorem eTK_40 : eTry 6 (eG6 40 40) = true := by decide +kernel
theorem eTK_41 : eTry 6 (eG6 41 41) = true := by decide +kernel
theorem eTK_42 : eTry 6 (eG6 42 42) = true := by decide +kernel
theorem eTK_o : eTry 6 (eG6 43 63) = true := by decide +kernel
theorem eTL_0 : eTry 0 (eG0 0) = true := by decide +kernel
theorem eTL_1 : eTry 1 (eG0 1) = true := by decide +kernel
theorem eTL_2 : eTry 2 (eG0 2) = true := by decide +kernel
theorem eTL_3 : eTry 3 (eG0 3) = true := by decide +kernel
theorem eTL_4 : eTry 4 (eG0 4) = true := by decide +kernel
theorem eTL_5 : eTry 5 (eG0 5) = true := by decide +kernel
