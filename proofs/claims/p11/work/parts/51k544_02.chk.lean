/-! The same case, further. -/
theorem kPd544_0_48 : kPiece2 kSOx eMTg (kDp kUDf) 86 kHKx (kStep kSOx eCL eCT kUDf nKW nKC kKWL kLC nIC 4) kCS kStop_544 kStoq_544 100000 kc_544 0 48 24 = true := fPiece2_ok (by decide +kernel)
