/-! The same case, further. -/
theorem kPc528_r : kRemn kSOx eMTg (kDp kUDf) 86 kHKx (kStep kSOx eCL eCT kUDf nKW nKC kKWL kLC nIC 4) kCS kStop_528 100000 kc_528 1 = true := fRemn_ok (by decide +kernel)
theorem kPc528_h : kChk0 kc_528 = true := by decide +kernel
theorem kt_528 : kGo kc_528 = true := kChk_cut kPc528_h (kPiece_join kPc528_0 kPc528_r)
