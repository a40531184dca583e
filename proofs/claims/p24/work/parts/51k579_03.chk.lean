/-! The same case, further. -/
theorem kPc579_r : kRemn kSOx eMTg (kDp kUDf) 86 kHKx (kStep kSOx eCL eCT kUDf nKW nKC kKWL kLC nIC 4) kCS kStop_579 100000 kc_579 1 = true := fRemn_ok (by decide +kernel)
theorem kPc579_h : kChk0 kc_579 = true := by decide +kernel
theorem kt_579 : kGo kc_579 = true := kChk_cut kPc579_h (kPiece_join kPc579_0 kPc579_r)
