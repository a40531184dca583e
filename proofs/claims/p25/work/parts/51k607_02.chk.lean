/-! The same case, further. -/
theorem kPd607_0_48 : kPiece2 kSOx eMTg (kDp kUDf) 86 kHKx (kStep kSOx eCL eCT kUDf nKW nKC kKWL kLC nIC 4) kCS kStop_607 kStoq_607 100000 kc_607 0 48 24 = true := fPiece2_ok (by decide +kernel)
