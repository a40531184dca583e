/-! The same case, further. -/
theorem kPc559_r : kRemn kSOx eMTg (kDp kUDf) 86 kHKx (kStep kSOx eCL eCT kUDf nKW nKC kKWL kLC nIC 4) kCS kStop_559 100000 kc_559 64 = true := fRemn_ok (by decide +kernel)
theorem kPc559_h : kChk0 kc_559 = true := by decide +kernel
theorem kt_559 : kGo kc_559 = true := kChk_cut kPc559_h (kPiece_join kPc559_0 (kPiece_join kPc559_19 (kPiece_join kPc559_36 (kPiece_join kPc559_53 kPc559_r))))
