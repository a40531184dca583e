/-! The same case, further. -/
theorem kPc577_r : kRemn kSOx eMTg (kDp kUDf) 86 kHKx (kStep kSOx eCL eCT kUDf nKW nKC kKWL kLC nIC 4) kCS kStop_577 100000 kc_577 64 = true := fRemn_ok (by decide +kernel)
theorem kPc577_h : kChk0 kc_577 = true := by decide +kernel
theorem kt_577 : kGo kc_577 = true := kChk_cut kPc577_h (kPiece_join kPc577_0 (kPiece_join kPc577_19 (kPiece_join kPc577_36 (kPiece_join kPc577_53 kPc577_r))))
