/-! The same case, further. -/
theorem kPc560_7 : kPiece kSOx eMTg (kDp kUDf) 86 kHKx (kStep kSOx eCL eCT kUDf nKW nKC kKWL kLC nIC 4) kCS kStop_560 100000 kc_560 7 1 = true := fPiece_ok (by decide +kernel)
