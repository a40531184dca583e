/-! The same case, further. -/
theorem kPc538_r : kRemn kSOx eMTg (kDp kUDf) 86 kHKx (kStep kSOx eCL eCT kUDf nKW nKC kKWL kLC nIC 4) kCS kStop_538 100000 kc_538 12 = true := fRemn_ok (by decide +kernel)
theorem kPc538_h : kChk0 kc_538 = true := by decide +kernel
theorem kt_538 : kGo kc_538 = true := kChk_cut kPc538_h (kPiece_join kPc538_0 (kPiece_join kPc538_3 (kPiece_join kPc538_5 (kPiece_join kPc538_7 (kPiece_join kPc538_8 (kPiece_join kPc538_10 kPc538_r))))))
