/-! The same case, further. -/
theorem kPc551_r : kRemn kSOx eMTg (kDp kUDf) 86 kHKx (kStep kSOx eCL eCT kUDf nKW nKC kKWL kLC nIC 4) kCS kStop_551 100000 kc_551 64 = true := fRemn_ok (by decide +kernel)
theorem kPc551_h : kChk0 kc_551 = true := by decide +kernel
theorem kt_551 : kGo kc_551 = true := kChk_cut kPc551_h (kPiece_join kPc551_0 (kPiece_join kPc551_19 (kPiece_join kPc551_36 (kPiece_join kPc551_53 kPc551_r))))
