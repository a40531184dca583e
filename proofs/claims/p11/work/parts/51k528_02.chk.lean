/-! The same case, further. -/
theorem kPd528_0_60 : kPiece2 kSOx eMTg (kDp kUDf) 86 kHKx (kStep kSOx eCL eCT kUDf nKW nKC kKWL kLC nIC 4) kCS kStop_528 kStoq_528 100000 kc_528 0 60 30 = true := fPiece2_ok (by decide +kernel)
