/-! The same case, further. -/
theorem kPc536_r : kRemn kSOx eMTg (kDp kUDf) 86 kHKx (kStep kSOx eCL eCT kUDf nKW nKC kKWL kLC nIC 4) kCS kStop_536 100000 kc_536 1 = true := fRemn_ok (by decide +kernel)
theorem kPc536_h : kChk0 kc_536 = true := by decide +kernel
theorem kt_536 : kGo kc_536 = true := kChk_cut kPc536_h (kPiece_join kPc536_0 kPc536_r)
