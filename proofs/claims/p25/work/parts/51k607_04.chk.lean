/-! The same case, further. -/
theorem kPc607_r : kRemn kSOx eMTg (kDp kUDf) 86 kHKx (kStep kSOx eCL eCT kUDf nKW nKC kKWL kLC nIC 4) kCS kStop_607 100000 kc_607 1 = true := fRemn_ok (by decide +kernel)
theorem kPc607_h : kChk0 kc_607 = true := by decide +kernel
theorem kt_607 : kGo kc_607 = true := kChk_cut kPc607_h (kPiece_join kPc607_0 kPc607_r)
