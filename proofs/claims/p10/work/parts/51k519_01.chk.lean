/-! The same case, further. -/
theorem kPd519_0_20 : kPiece2 kSOx eMTg (kDp kUDf) 86 kHKx (kStep kSOx eCL eCT kUDf nKW nKC kKWL kLC nIC 4) kCS kStop_519 kStoq_519 100000 kc_519 0 20 20 = true := fPiece2_ok (by decide +kernel)
