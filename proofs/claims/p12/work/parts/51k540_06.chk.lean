/-! The same case, further. -/
theorem kPc540_r : kRemn kSOx eMTg (kDp kUDf) 86 kHKx (kStep kSOx eCL eCT kUDf nKW nKC kKWL kLC nIC 4) kCS kStop_540 100000 kc_540 12 = true := fRemn_ok (by decide +kernel)
theorem kPc540_h : kChk0 kc_540 = true := by decide +kernel
theorem kt_540 : kGo kc_540 = true := kChk_cut kPc540_h (kPiece_join kPc540_0 (kPiece_join kPc540_3 (kPiece_join kPc540_5 (kPiece_join kPc540_7 (kPiece_join kPc540_8 (kPiece_join kPc540_10 kPc540_r))))))
