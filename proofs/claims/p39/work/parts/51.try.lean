def kGo (c : kC) : Bool := kChk kSOx eMT (kDp kUD) 91 kHKx (kStep kSOx eCL eCT kUD kKW 4) kCS 100000 c
theorem kt_0 : kGo kc_0 = true := by decide +kernel
theorem kt_1 : kGo kc_1 = true := by decide +kernel
theorem kt_2 : kGo kc_2 = true := by decide +kernel
