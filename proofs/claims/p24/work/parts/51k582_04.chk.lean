/-! The same case, further. -/
theorem kPc582_r : kRemn kSOx eMTg (kDp kUDf) 86 kHKx (kStep kSOx eCL eCT kUDf nKW nKC kKWL kLC nIC 4) kCS kStop_582 100000 kc_582 1 = true := fRemn_ok (by decide +kernel)
theorem kPc582_h : kChk0 kc_582 = true := by decide +kernel
theorem kt_582 : kGo kc_582 = true := kChk_cut kPc582_h (kPiece_join kPc582_0 kPc582_r)
