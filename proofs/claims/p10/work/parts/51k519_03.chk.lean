/-! The same case, further. -/
theorem kPc519_r : kRemn kSOx eMTg (kDp kUDf) 86 kHKx (kStep kSOx eCL eCT kUDf nKW nKC kKWL kLC nIC 4) kCS kStop_519 100000 kc_519 1 = true := fRemn_ok (by decide +kernel)
theorem kPc519_h : kChk0 kc_519 = true := by decide +kernel
theorem kt_519 : kGo kc_519 = true := kChk_cut kPc519_h (kPiece_join kPc519_0 kPc519_r)
