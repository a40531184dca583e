/-! The same case, further. -/
theorem kPc544_r : kRemn kSOx eMTg (kDp kUDf) 86 kHKx (kStep kSOx eCL eCT kUDf nKW nKC kKWL kLC nIC 4) kCS kStop_544 100000 kc_544 12 = true := fRemn_ok (by decide +kernel)
theorem kPc544_h : kChk0 kc_544 = true := by decide +kernel
theorem kt_544 : kGo kc_544 = true := kChk_cut kPc544_h (kPiece_join kPc544_0 (kPiece_join kPc544_3 (kPiece_join kPc544_5 (kPiece_join kPc544_7 (kPiece_join kPc544_8 (kPiece_join kPc544_10 kPc544_r))))))
