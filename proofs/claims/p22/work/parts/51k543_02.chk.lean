/-! The same case, further. -/
theorem kPc543_5 : kPiece kSOx eMTg (kDp kUDf) 86 kHKx (kStep kSOx eCL eCT kUDf nKW nKC kKWL kLC nIC 4) kCS kStop_543 100000 kc_543 5 2 = true := fPiece_ok (by decide +kernel)
