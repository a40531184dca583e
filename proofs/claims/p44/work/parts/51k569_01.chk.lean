/-! The same case, further. -/
theorem kPd569_2_0 : kPiece2 kSOx eMTg (kDp kUDf) 86 kHKx (kStep kSOx eCL eCT kUDf nKW nKC kKWL kLC nIC 4) kCS kStop_569 kStoq_569 100000 kc_569 2 0 5 = true := fPiece2_ok (by decide +kernel)
