/-! The same case, further. -/
theorem kPd579_0_22 : kPiece2 kSOx eMTg (kDp kUDf) 86 kHKx (kStep kSOx eCL eCT kUDf nKW nKC kKWL kLC nIC 4) kCS kStop_579 kStoq_579 100000 kc_579 0 22 22 = true := fPiece2_ok (by decide +kernel)
