/-! The same case, further. -/
theorem kPc514_r : kRemn kSOx eMTg (kDp kUDf) 86 kHKx (kStep kSOx eCL eCT kUDf nKW nKC kKWL kLC nIC 4) kCS kStop_514 100000 kc_514 12 = true := fRemn_ok (by decide +kernel)
theorem kPc514_h : kChk0 kc_514 = true := by decide +kernel
theorem kt_514 : kGo kc_514 = true := kChk_cut kPc514_h (kPiece_join kPc514_0 (kPiece_join kPc514_3 (kPiece_join kPc514_5 (kPiece_join kPc514_7 (kPiece_join kPc514_8 (kPiece_join kPc514_10 kPc514_r))))))
