/-! The same case, further. -/
theorem kPc460_r : kRemn kSOx eMTg (kDp kUDf) 86 kHKx (kStep kSOx eCL eCT kUDf kKW kKC kKWL kLC kIC 4) kCS kStop_460 100000 kc_460 6 = true := fRemn_ok (by decide +kernel)
theorem kPc460_h : kChk0 kc_460 = true := by decide +kernel
theorem kt_460 : kGo kc_460 = true := kChk_cut kPc460_h (kPiece_join kPc460_0 (kPiece_join kPc460_2 (kPiece_join kPc460_3 (kPiece_join kPc460_4 (kPiece_join kPc460_5 kPc460_r)))))
