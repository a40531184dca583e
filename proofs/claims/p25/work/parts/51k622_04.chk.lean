/-! The same case, further. -/
theorem kPc622_r : kRemn kSOx eMTg (kDp kUDf) 86 kHKx (kStep kSOx eCL eCT kUDf nKW nKC kKWL kLC nIC 4) kCS kStop_622 100000 kc_622 64 = true := fRemn_ok (by decide +kernel)
theorem kPc622_h : kChk0 kc_622 = true := by decide +kernel
theorem kt_622 : kGo kc_622 = true := kChk_cut kPc622_h (kPiece_join kPc622_0 (kPiece_join kPc622_19 (kPiece_join kPc622_36 (kPiece_join kPc622_53 kPc622_r))))
