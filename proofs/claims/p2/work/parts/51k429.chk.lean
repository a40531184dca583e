/-! A case of the law, by pieces. -/
def kStop_429 (pc : Nat) : Bool := decide (pc = 269)
theorem kPc429_0 : kPiece kSOx eMTg (kDp kUD) 86 kHKx (kStep kSOx eCL eCT kUD kKW kKC kKWL kLC 4) kCS kStop_429 100000 kc_429 0 1 = true := by decide +kernel
theorem kPc429_1 : kPiece kSOx eMTg (kDp kUD) 86 kHKx (kStep kSOx eCL eCT kUD kKW kKC kKWL kLC 4) kCS kStop_429 100000 kc_429 1 1 = true := by decide +kernel
theorem kPc429_2 : kPiece kSOx eMTg (kDp kUD) 86 kHKx (kStep kSOx eCL eCT kUD kKW kKC kKWL kLC 4) kCS kStop_429 100000 kc_429 2 1 = true := by decide +kernel
theorem kPc429_3 : kPiece kSOx eMTg (kDp kUD) 86 kHKx (kStep kSOx eCL eCT kUD kKW kKC kKWL kLC 4) kCS kStop_429 100000 kc_429 3 1 = true := by decide +kernel
theorem kPc429_4 : kPiece kSOx eMTg (kDp kUD) 86 kHKx (kStep kSOx eCL eCT kUD kKW kKC kKWL kLC 4) kCS kStop_429 100000 kc_429 4 1 = true := by decide +kernel
theorem kPc429_5 : kPiece kSOx eMTg (kDp kUD) 86 kHKx (kStep kSOx eCL eCT kUD kKW kKC kKWL kLC 4) kCS kStop_429 100000 kc_429 5 1 = true := by decide +kernel
theorem kPc429_6 : kPiece kSOx eMTg (kDp kUD) 86 kHKx (kStep kSOx eCL eCT kUD kKW kKC kKWL kLC 4) kCS kStop_429 100000 kc_429 6 1 = true := by decide +kernel
theorem kPc429_7 : kRemn kSOx eMTg (kDp kUD) 86 kHKx (kStep kSOx eCL eCT kUD kKW kKC kKWL kLC 4) kCS kStop_429 100000 kc_429 7 = true := by decide +kernel
theorem kPc429_h : kChk0 kc_429 = true := by decide +kernel
theorem kt_429 : kGo kc_429 = true := kChk_cut kPc429_h (kPiece_join kPc429_0 (kPiece_join kPc429_1 (kPiece_join kPc429_2 (kPiece_join kPc429_3 (kPiece_join kPc429_4 (kPiece_join kPc429_5 (kPiece_join kPc429_6 kPc429_7)))))))
