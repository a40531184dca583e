/-! The same case, further. -/
theorem kPc564_r : kRemn kSOx eMTg (kDp kUDf) 86 kHKx (kStep kSOx eCL eCT kUDf nKW nKC kKWL kLC nIC 4) kCS kStop_564 100000 kc_564 1 = true := fRemn_ok (by decide +kernel)
theorem kPc564_h : kChk0 kc_564 = true := by decide +kernel
theorem kt_564 : kGo kc_564 = true := kChk_cut kPc564_h (kPiece_join kPc564_0 kPc564_r)
