/-! The same case, further. -/
theorem kPc522_r : kRemn kSOx eMTg (kDp kUDf) 86 kHKx (kStep kSOx eCL eCT kUDf nKW nKC kKWL kLC nIC 4) kCS kStop_522 100000 kc_522 12 = true := fRemn_ok (by decide +kernel)
theorem kPc522_h : kChk0 kc_522 = true := by decide +kernel
theorem kt_522 : kGo kc_522 = true := kChk_cut kPc522_h (kPiece_join kPc522_0 (kPiece_join kPc522_3 (kPiece_join kPc522_5 (kPiece_join kPc522_7 (kPiece_join kPc522_8 (kPiece_join kPc522_10 kPc522_r))))))
