/-! The same case, further. -/
theorem kPc612_r : kRemn kSOx eMTg (kDp kUDf) 86 kHKx (kStep kSOx eCL eCT kUDf nKW nKC kKWL kLC nIC 4) kCS kStop_612 100000 kc_612 64 = true := fRemn_ok (by decide +kernel)
theorem kPc612_h : kChk0 kc_612 = true := by decide +kernel
theorem kt_612 : kGo kc_612 = true := kChk_cut kPc612_h (kPiece_join kPc612_0 (kPiece_join kPc612_19 (kPiece_join kPc612_36 (kPiece_join kPc612_53 kPc612_r))))
