/-! A case of the law, by pieces. -/
def kStop_466 (pc : Nat) : Bool := decide (pc = 1345)
theorem kPc466_0 : kPiece kSOx eMTg (kDp kUD) 86 kHKx (kStep kSOx eCL eCT kUD kKW kKC kKWL kLC 4) kCS kStop_466 100000 kc_466 0 1 = true := by decide +kernel
theorem kPc466_1 : kPiece kSOx eMTg (kDp kUD) 86 kHKx (kStep kSOx eCL eCT kUD kKW kKC kKWL kLC 4) kCS kStop_466 100000 kc_466 1 1 = true := by decide +kernel
theorem kPc466_2 : kPiece kSOx eMTg (kDp kUD) 86 kHKx (kStep kSOx eCL eCT kUD kKW kKC kKWL kLC 4) kCS kStop_466 100000 kc_466 2 1 = true := by decide +kernel
theorem kPc466_3 : kPiece kSOx eMTg (kDp kUD) 86 kHKx (kStep kSOx eCL eCT kUD kKW kKC kKWL kLC 4) kCS kStop_466 100000 kc_466 3 1 = true := by decide +kernel
theorem kPc466_4 : kPiece kSOx eMTg (kDp kUD) 86 kHKx (kStep kSOx eCL eCT kUD kKW kKC kKWL kLC 4) kCS kStop_466 100000 kc_466 4 1 = true := by decide +kernel
theorem kPc466_5 : kPiece kSOx eMTg (kDp kUD) 86 kHKx (kStep kSOx eCL eCT kUD kKW kKC kKWL kLC 4) kCS kStop_466 100000 kc_466 5 1 = true := by decide +kernel
theorem kPc466_6 : kPiece kSOx eMTg (kDp kUD) 86 kHKx (kStep kSOx eCL eCT kUD kKW kKC kKWL kLC 4) kCS kStop_466 100000 kc_466 6 1 = true := by decide +kernel
theorem kPc466_7 : kRemn kSOx eMTg (kDp kUD) 86 kHKx (kStep kSOx eCL eCT kUD kKW kKC kKWL kLC 4) kCS kStop_466 100000 kc_466 7 = true := by decide +kernel
theorem kPc466_h : kChk0 kc_466 = true := by decide +kernel
theorem kt_466 : kGo kc_466 = true := kChk_cut kPc466_h (kPiece_join kPc466_0 (kPiece_join kPc466_1 (kPiece_join kPc466_2 (kPiece_join kPc466_3 (kPiece_join kPc466_4 (kPiece_join kPc466_5 (kPiece_join kPc466_6 kPc466_7)))))))
