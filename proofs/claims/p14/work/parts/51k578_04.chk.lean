/-! The same case, further. -/
theorem kPc578_r : kRemn kSOx eMTg (kDp kUDf) 86 kHKx (kStep kSOx eCL eCT kUDf nKW nKC kKWL kLC nIC 4) kCS kStop_578 100000 kc_578 64 = true := fRemn_ok (by decide +kernel)
theorem kPc578_h : kChk0 kc_578 = true := by decide +kernel
theorem kt_578 : kGo kc_578 = true := kChk_cut kPc578_h (kPiece_join kPc578_0 (kPiece_join kPc578_19 (kPiece_join kPc578_36 (kPiece_join kPc578_53 kPc578_r))))
