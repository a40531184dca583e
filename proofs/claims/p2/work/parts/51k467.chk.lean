/-! A case of the law, by pieces. -/
def kStop_467 (pc : Nat) : Bool := decide (pc = 1398)
theorem kPc467_0 : kPiece kSOx eMTg (kDp kUD) 86 kHKx (kStep kSOx eCL eCT kUD kKW kKC kKWL kLC 4) kCS kStop_467 100000 kc_467 0 1 = true := by decide +kernel
theorem kPc467_1 : kPiece kSOx eMTg (kDp kUD) 86 kHKx (kStep kSOx eCL eCT kUD kKW kKC kKWL kLC 4) kCS kStop_467 100000 kc_467 1 1 = true := by decide +kernel
theorem kPc467_2 : kPiece kSOx eMTg (kDp kUD) 86 kHKx (kStep kSOx eCL eCT kUD kKW kKC kKWL kLC 4) kCS kStop_467 100000 kc_467 2 1 = true := by decide +kernel
theorem kPc467_3 : kPiece kSOx eMTg (kDp kUD) 86 kHKx (kStep kSOx eCL eCT kUD kKW kKC kKWL kLC 4) kCS kStop_467 100000 kc_467 3 1 = true := by decide +kernel
theorem kPc467_4 : kPiece kSOx eMTg (kDp kUD) 86 kHKx (kStep kSOx eCL eCT kUD kKW kKC kKWL kLC 4) kCS kStop_467 100000 kc_467 4 1 = true := by decide +kernel
theorem kPc467_5 : kPiece kSOx eMTg (kDp kUD) 86 kHKx (kStep kSOx eCL eCT kUD kKW kKC kKWL kLC 4) kCS kStop_467 100000 kc_467 5 1 = true := by decide +kernel
theorem kPc467_6 : kPiece kSOx eMTg (kDp kUD) 86 kHKx (kStep kSOx eCL eCT kUD kKW kKC kKWL kLC 4) kCS kStop_467 100000 kc_467 6 1 = true := by decide +kernel
theorem kPc467_7 : kRemn kSOx eMTg (kDp kUD) 86 kHKx (kStep kSOx eCL eCT kUD kKW kKC kKWL kLC 4) kCS kStop_467 100000 kc_467 7 = true := by decide +kernel
theorem kPc467_h : kChk0 kc_467 = true := by decide +kernel
theorem kt_467 : kGo kc_467 = true := kChk_cut kPc467_h (kPiece_join kPc467_0 (kPiece_join kPc467_1 (kPiece_join kPc467_2 (kPiece_join kPc467_3 (kPiece_join kPc467_4 (kPiece_join kPc467_5 (kPiece_join kPc467_6 kPc467_7)))))))
