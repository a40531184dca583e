/-! The same case, further. -/
theorem kPc514_3 : kPiece kSOx eMTg (kDp kUDf) 86 kHKx (kStep kSOx eCL eCT kUDf nKW nKC kKWL kLC nIC 4) kCS kStop_514 100000 kc_514 3 2 = true := fPiece_ok (by decide +kernel)
