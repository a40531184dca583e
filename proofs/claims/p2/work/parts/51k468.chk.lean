/-! A case of the law, by pieces. -/
def kStop_468 (pc : Nat) : Bool := decide (pc = 1446)
theorem kPc468_0 : kPiece kSOx eMTg (kDp kUD) 86 kHKx (kStep kSOx eCL eCT kUD kKW kKC kKWL kLC 4) kCS kStop_468 100000 kc_468 0 6 = true := by decide +kernel
theorem kPc468_1 : kPiece kSOx eMTg (kDp kUD) 86 kHKx (kStep kSOx eCL eCT kUD kKW kKC kKWL kLC 4) kCS kStop_468 100000 kc_468 6 6 = true := by decide +kernel
theorem kPc468_2 : kPiece kSOx eMTg (kDp kUD) 86 kHKx (kStep kSOx eCL eCT kUD kKW kKC kKWL kLC 4) kCS kStop_468 100000 kc_468 12 6 = true := by decide +kernel
theorem kPc468_3 : kPiece kSOx eMTg (kDp kUD) 86 kHKx (kStep kSOx eCL eCT kUD kKW kKC kKWL kLC 4) kCS kStop_468 100000 kc_468 18 6 = true := by decide +kernel
theorem kPc468_4 : kPiece kSOx eMTg (kDp kUD) 86 kHKx (kStep kSOx eCL eCT kUD kKW kKC kKWL kLC 4) kCS kStop_468 100000 kc_468 24 6 = true := by decide +kernel
theorem kPc468_5 : kPiece kSOx eMTg (kDp kUD) 86 kHKx (kStep kSOx eCL eCT kUD kKW kKC kKWL kLC 4) kCS kStop_468 100000 kc_468 30 6 = true := by decide +kernel
theorem kPc468_6 : kPiece kSOx eMTg (kDp kUD) 86 kHKx (kStep kSOx eCL eCT kUD kKW kKC kKWL kLC 4) kCS kStop_468 100000 kc_468 36 6 = true := by decide +kernel
theorem kPc468_7 : kPiece kSOx eMTg (kDp kUD) 86 kHKx (kStep kSOx eCL eCT kUD kKW kKC kKWL kLC 4) kCS kStop_468 100000 kc_468 42 6 = true := by decide +kernel
theorem kPc468_8 : kPiece kSOx eMTg (kDp kUD) 86 kHKx (kStep kSOx eCL eCT kUD kKW kKC kKWL kLC 4) kCS kStop_468 100000 kc_468 48 6 = true := by decide +kernel
theorem kPc468_9 : kPiece kSOx eMTg (kDp kUD) 86 kHKx (kStep kSOx eCL eCT kUD kKW kKC kKWL kLC 4) kCS kStop_468 100000 kc_468 54 6 = true := by decide +kernel
theorem kPc468_10 : kRemn kSOx eMTg (kDp kUD) 86 kHKx (kStep kSOx eCL eCT kUD kKW kKC kKWL kLC 4) kCS kStop_468 100000 kc_468 60 = true := by decide +kernel
theorem kPc468_h : kChk0 kc_468 = true := by decide +kernel
theorem kt_468 : kGo kc_468 = true := kChk_cut kPc468_h (kPiece_join kPc468_0 (kPiece_join kPc468_1 (kPiece_join kPc468_2 (kPiece_join kPc468_3 (kPiece_join kPc468_4 (kPiece_join kPc468_5 (kPiece_join kPc468_6 (kPiece_join kPc468_7 (kPiece_join kPc468_8 (kPiece_join kPc468_9 kPc468_10))))))))))
