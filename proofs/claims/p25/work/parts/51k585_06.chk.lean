/-! The same case, further. -/
theorem kPc585_r : kRemn kSOx eMTg (kDp kUDf) 86 kHKx (kStep kSOx eCL eCT kUDf nKW nKC kKWL kLC nIC 4) kCS kStop_585 100000 kc_585 12 = true := fRemn_ok (by decide +kernel)
theorem kPc585_h : kChk0 kc_585 = true := by decide +kernel
theorem kt_585 : kGo kc_585 = true := kChk_cut kPc585_h (kPiece_join kPc585_0 (kPiece_join kPc585_3 (kPiece_join kPc585_5 (kPiece_join kPc585_7 (kPiece_join kPc585_8 (kPiece_join kPc585_10 kPc585_r))))))
