/-! The same case, further. -/
theorem kPc562_r : kRemn kSOx eMTg (kDp kUDf) 86 kHKx (kStep kSOx eCL eCT kUDf nKW nKC kKWL kLC nIC 4) kCS kStop_562 100000 kc_562 1 = true := fRemn_ok (by decide +kernel)
theorem kPc562_h : kChk0 kc_562 = true := by decide +kernel
theorem kt_562 : kGo kc_562 = true := kChk_cut kPc562_h (kPiece_join kPc562_0 kPc562_r)
