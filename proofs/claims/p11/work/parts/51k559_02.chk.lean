/-! The same case, further. -/
theorem kPc559_36 : kPiece kSOx eMTg (kDp kUDf) 86 kHKx (kStep kSOx eCL eCT kUDf nKW nKC kKWL kLC nIC 4) kCS kStop_559 100000 kc_559 36 17 = true := fPiece_ok (by decide +kernel)
