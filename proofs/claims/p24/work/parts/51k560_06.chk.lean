/-! The same case, further. -/
theorem kPc560_r : kRemn kSOx eMTg (kDp kUDf) 86 kHKx (kStep kSOx eCL eCT kUDf nKW nKC kKWL kLC nIC 4) kCS kStop_560 100000 kc_560 12 = true := fRemn_ok (by decide +kernel)
theorem kPc560_h : kChk0 kc_560 = true := by decide +kernel
theorem kt_560 : kGo kc_560 = true := kChk_cut kPc560_h (kPiece_join kPc560_0 (kPiece_join kPc560_3 (kPiece_join kPc560_5 (kPiece_join kPc560_7 (kPiece_join kPc560_8 (kPiece_join kPc560_10 kPc560_r))))))
