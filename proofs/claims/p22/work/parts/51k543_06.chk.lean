/-! The same case, further. -/
theorem kPc543_r : kRemn kSOx eMTg (kDp kUDf) 86 kHKx (kStep kSOx eCL eCT kUDf nKW nKC kKWL kLC nIC 4) kCS kStop_543 100000 kc_543 12 = true := fRemn_ok (by decide +kernel)
theorem kPc543_h : kChk0 kc_543 = true := by decide +kernel
theorem kt_543 : kGo kc_543 = true := kChk_cut kPc543_h (kPiece_join kPc543_0 (kPiece_join kPc543_3 (kPiece_join kPc543_5 (kPiece_join kPc543_7 (kPiece_join kPc543_8 (kPiece_join kPc543_10 kPc543_r))))))
