/-! The same case, further. -/
theorem kPc542_r : kRemn kSOx eMTg (kDp kUDf) 86 kHKx (kStep kSOx eCL eCT kUDf nKW nKC kKWL kLC nIC 4) kCS kStop_542 100000 kc_542 12 = true := fRemn_ok (by decide +kernel)
theorem kPc542_h : kChk0 kc_542 = true := by decide +kernel
theorem kt_542 : kGo kc_542 = true := kChk_cut kPc542_h (kPiece_join kPc542_0 (kPiece_join kPc542_3 (kPiece_join kPc542_5 (kPiece_join kPc542_7 (kPiece_join kPc542_8 (kPiece_join kPc542_10 kPc542_r))))))
