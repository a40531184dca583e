/-! The same case, further. -/
theorem kPc565_r : kRemn kSOx eMTg (kDp kUDf) 86 kHKx (kStep kSOx eCL eCT kUDf nKW nKC kKWL kLC nIC 4) kCS kStop_565 100000 kc_565 1 = true := fRemn_ok (by decide +kernel)
theorem kPc565_h : kChk0 kc_565 = true := by decide +kernel
theorem kt_565 : kGo kc_565 = true := kChk_cut kPc565_h (kPiece_join kPc565_0 kPc565_r)
