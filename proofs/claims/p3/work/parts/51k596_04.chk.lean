/-! The same case, further. -/
theorem kPc596_r : kRemn kSOx eMTg (kDp kUDf) 86 kHKx (kStep kSOx eCL eCT kUDf kKW kKC kKWL kLC kIC 4) kCS kStop_596 100000 kc_596 64 = true := fRemn_ok (by decide +kernel)
theorem kPc596_h : kChk0 kc_596 = true := by decide +kernel
theorem kt_596 : kGo kc_596 = true := kChk_cut kPc596_h (kPiece_join kPc596_0 (kPiece_join kPc596_19 (kPiece_join kPc596_36 (kPiece_join kPc596_53 kPc596_r))))
