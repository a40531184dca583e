/-! The same case, further. -/
theorem kPc560_3 : kPiece kSOx eMTg (kDp kUDf) 86 kHKx (kStep kSOx eCL eCT kUDf nKW nKC kKWL kLC nIC 4) kCS kStop_560 100000 kc_560 3 2 = true := fPiece_ok (by decide +kernel)
