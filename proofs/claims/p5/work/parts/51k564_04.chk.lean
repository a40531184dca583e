/-! The same case, further. -/
theorem kPd564_2_0 : kPiece2 kSOx eMTg (kDp kUDf) 86 kHKx (kStep kSOx eCL eCT kUDf nKW nKC kKWL kLC nIC 4) kCS kStop_564 kStoq_564 100000 kc_564 2 0 4 = true := fPiece2_ok (by decide +kernel)
theorem kPd564_2_4 : kPiece2 kSOx eMTg (kDp kUDf) 86 kHKx (kStep kSOx eCL eCT kUDf nKW nKC kKWL kLC nIC 4) kCS kStop_564 kStoq_564 100000 kc_564 2 4 4 = true := fPiece2_ok (by decide +kernel)
