/-! The same case, further. -/
theorem kPc597_r : kRemn kSOx eMTg (kDp kUDf) 86 kHKx (kStep kSOx eCL eCT kUDf nKW nKC kKWL kLC nIC 4) kCS kStop_597 100000 kc_597 64 = true := fRemn_ok (by decide +kernel)
theorem kPc597_h : kChk0 kc_597 = true := by decide +kernel
theorem kt_597 : kGo kc_597 = true := kChk_cut kPc597_h (kPiece_join kPc597_0 (kPiece_join kPc597_19 (kPiece_join kPc597_36 (kPiece_join kPc597_53 kPc597_r))))
