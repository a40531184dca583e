/-! The same case, further. -/
theorem kPd564_1_8 : kPiece2 kSOx eMTg (kDp kUDf) 86 kHKx (kStep kSOx eCL eCT kUDf nKW nKC kKWL kLC nIC 4) kCS kStop_564 kStoq_564 100000 kc_564 1 8 4 = true := fPiece2_ok (by decide +kernel)
theorem kPd564_1_12 : kRemn2 kSOx eMTg (kDp kUDf) 86 kHKx (kStep kSOx eCL eCT kUDf nKW nKC kKWL kLC nIC 4) kCS kStop_564 kStoq_564 100000 kc_564 1 12 = true := fRemn2_ok (by decide +kernel)
theorem kPc564_1 : kPiece kSOx eMTg (kDp kUDf) 86 kHKx (kStep kSOx eCL eCT kUDf nKW nKC kKWL kLC nIC 4) kCS kStop_564 100000 kc_564 1 1 = true := kPiece_of2 (kPiece2_join kPd564_1_0 (kPiece2_join kPd564_1_4 (kPiece2_join kPd564_1_8 kPd564_1_12)))
