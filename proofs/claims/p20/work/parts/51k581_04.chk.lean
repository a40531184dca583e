/-! The same case, further. -/
theorem kPc581_r : kRemn kSOx eMTg (kDp kUDf) 86 kHKx (kStep kSOx eCL eCT kUDf nKW nKC kKWL kLC nIC 4) kCS kStop_581 100000 kc_581 64 = true := fRemn_ok (by decide +kernel)
theorem kPc581_h : kChk0 kc_581 = true := by decide +kernel
theorem kt_581 : kGo kc_581 = true := kChk_cut kPc581_h (kPiece_join kPc581_0 (kPiece_join kPc581_19 (kPiece_join kPc581_36 (kPiece_join kPc581_53 kPc581_r))))
