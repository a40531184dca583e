/-! The same case, further. -/
theorem kPd564_0_8 : kPiece2 kSOx eMTg (kDp kUDf) 86 kHKx (kStep kSOx eCL eCT kUDf nKW nKC kKWL kLC nIC 4) kCS kStop_564 kStoq_564 100000 kc_564 0 8 4 = true := fPiece2_ok (by decide +kernel)
theorem kPd564_0_12 : kRemn2 kSOx eMTg (kDp kUDf) 86 kHKx (kStep kSOx eCL eCT kUDf nKW nKC kKWL kLC nIC 4) kCS kStop_564 kStoq_564 100000 kc_564 0 12 = true := fRemn2_ok (by decide +kernel)
theorem kPc564_0 : kPiece kSOx eMTg (kDp kUDf) 86 kHKx (kStep kSOx eCL eCT kUDf nKW nKC kKWL kLC nIC 4) kCS kStop_564 100000 kc_564 0 1 = true := kPiece_of2 (kPiece2_join kPd564_0_0 (kPiece2_join kPd564_0_4 (kPiece2_join kPd564_0_8 kPd564_0_12)))
