/-! The same case, further. -/
theorem kPc544_r : kRemn kSOx eMTg (kDp kUDf) 86 kHKx (kStep kSOx eCL eCT kUDf nKW nKC kKWL kLC nIC 4) kCS kStop_544 100000 kc_544 1 = true := fRemn_ok (by decide +kernel)
theorem kPc544_h : kChk0 kc_544 = true := by decide +kernel
theorem kt_544 : kGo kc_544 = true := kChk_cut kPc544_h (kPiece_join kPc544_0 kPc544_r)
