/-! Checks of contracts, by the kernel. -/
noncomputable section
def kGo (c : kC) : Bool := kChk kSOx eMTg (kDp kUDf) 86 kHKx (kStep kSOx eCL eCT kUDf kKW kKC kKWL kLC kIC 4) kCS 100000 c
theorem kt_0 : kGo kc_0 = true := by decide +kernel
theorem kt_1 : kGo kc_1 = true := by decide +kernel
theorem kt_2 : kGo kc_2 = true := by decide +kernel
theorem kt_3 : kGo kc_3 = true := by decide +kernel
theorem kt_4 : kGo kc_4 = true := by decide +kernel
theorem kt_5 : kGo kc_5 = true := by decide +kernel
theorem kt_6 : kGo kc_6 = true := by decide +kernel
theorem kt_7 : kGo kc_7 = true := by decide +kernel
theorem kt_8 : kGo kc_8 = true := by decide +kernel
theorem kt_9 : kGo kc_9 = true := by decide +kernel
theorem kt_10 : kGo kc_10 = true := by decide +kernel
theorem kt_11 : kGo kc_11 = true := by decide +kernel
theorem kt_12 : kGo kc_12 = true := by decide +kernel
theorem kt_13 : kGo kc_13 = true := by decide +kernel
theorem kt_14 : kGo kc_14 = true := by decide +kernel
theorem kt_15 : kGo kc_15 = true := by decide +kernel
theorem kt_16 : kGo kc_16 = true := by decide +kernel
theorem kt_17 : kGo kc_17 = true := by decide +kernel
theorem kt_18 : kGo kc_18 = true := by decide +kernel
theorem kt_19 : kGo kc_19 = true := by decide +kernel
theorem kt_20 : kGo kc_20 = true := by decide +kernel
theorem kt_21 : kGo kc_21 = true := by decide +kernel
theorem kt_22 : kGo kc_22 = true := by decide +kernel
theorem kt_23 : kGo kc_23 = true := by decide +kernel
theorem kt_24 : kGo kc_24 = true := by decide +kernel
theorem kt_25 : kGo kc_25 = true := by decide +kernel
theorem kt_26 : kGo kc_26 = true := by decide +kernel
theorem kt_27 : kGo kc_27 = true := by decide +kernel
theorem kt_28 : kGo kc_28 = true := by decide +kernel
theorem kt_29 : kGo kc_29 = true := by decide +kernel
theorem kt_30 : kGo kc_30 = true := by decide +kernel
theorem kt_31 : kGo kc_31 = true := by decide +kernel
theorem kt_32 : kGo kc_32 = true := by decide +kernel
theorem kt_33 : kGo kc_33 = true := by decide +kernel
theorem kt_34 : kGo kc_34 = true := by decide +kernel
theorem kt_35 : kGo kc_35 = true := by decide +kernel
theorem kt_36 : kGo kc_36 = true := by decide +kernel
theorem kt_37 : kGo kc_37 = true := by decide +kernel
theorem kt_38 : kGo kc_38 = true := by decide +kernel
theorem kt_39 : kGo kc_39 = true := by decide +kernel
theorem kt_40 : kGo kc_40 = true := by decide +kernel
end
