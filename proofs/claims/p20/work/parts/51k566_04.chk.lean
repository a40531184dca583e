/-! The same case, further. -/
theorem kPc566_r : kRemn kSOx eMTg (kDp kUDf) 86 kHKx (kStep kSOx eCL eCT kUDf nKW nKC kKWL kLC nIC 4) kCS kStop_566 100000 kc_566 1 = true := fRemn_ok (by decide +kernel)
theorem kPc566_h : kChk0 kc_566 = true := by decide +kernel
theorem kt_566 : kGo kc_566 = true := kChk_cut kPc566_h (kPiece_join kPc566_0 kPc566_r)
