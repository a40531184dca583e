/-! The same case, further. -/
theorem kPc544_8 : kPiece kSOx eMTg (kDp kUDf) 86 kHKx (kStep kSOx eCL eCT kUDf nKW nKC kKWL kLC nIC 4) kCS kStop_544 100000 kc_544 8 2 = true := fPiece_ok (by decide +kernel)
