/-! The same case, further. -/
theorem kPc569_r : kRemn kSOx eMTg (kDp kUDf) 86 kHKx (kStep kSOx eCL eCT kUDf nKW nKC kKWL kLC nIC 4) kCS kStop_569 100000 kc_569 6 = true := fRemn_ok (by decide +kernel)
theorem kPc569_h : kChk0 kc_569 = true := by decide +kernel
theorem kt_569 : kGo kc_569 = true := kChk_cut kPc569_h (kPiece_join kPc569_0 (kPiece_join kPc569_2 (kPiece_join kPc569_3 (kPiece_join kPc569_4 (kPiece_join kPc569_5 kPc569_r)))))
