/-! The same case, further. -/
theorem kPc541_r : kRemn kSOx eMTg (kDp kUDf) 86 kHKx (kStep kSOx eCL eCT kUDf nKW nKC kKWL kLC nIC 4) kCS kStop_541 100000 kc_541 12 = true := fRemn_ok (by decide +kernel)
theorem kPc541_h : kChk0 kc_541 = true := by decide +kernel
theorem kt_541 : kGo kc_541 = true := kChk_cut kPc541_h (kPiece_join kPc541_0 (kPiece_join kPc541_3 (kPiece_join kPc541_5 (kPiece_join kPc541_7 (kPiece_join kPc541_8 (kPiece_join kPc541_10 kPc541_r))))))
