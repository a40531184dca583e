/-! The same case, further. -/
theorem kPc580_r : kRemn kSOx eMTg (kDp kUDf) 86 kHKx (kStep kSOx eCL eCT kUDf nKW nKC kKWL kLC nIC 4) kCS kStop_580 100000 kc_580 64 = true := fRemn_ok (by decide +kernel)
theorem kPc580_h : kChk0 kc_580 = true := by decide +kernel
theorem kt_580 : kGo kc_580 = true := kChk_cut kPc580_h (kPiece_join kPc580_0 (kPiece_join kPc580_19 (kPiece_join kPc580_36 (kPiece_join kPc580_53 kPc580_r))))
