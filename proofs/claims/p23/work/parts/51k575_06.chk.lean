/-! The same case, further. -/
theorem kPc575_r : kRemn kSOx eMTg (kDp kUDf) 86 kHKx (kStep kSOx eCL eCT kUDf nKW nKC kKWL kLC nIC 4) kCS kStop_575 100000 kc_575 12 = true := fRemn_ok (by decide +kernel)
theorem kPc575_h : kChk0 kc_575 = true := by decide +kernel
theorem kt_575 : kGo kc_575 = true := kChk_cut kPc575_h (kPiece_join kPc575_0 (kPiece_join kPc575_3 (kPiece_join kPc575_5 (kPiece_join kPc575_7 (kPiece_join kPc575_8 (kPiece_join kPc575_10 kPc575_r))))))
