/-! The same case, further. -/
theorem kPc575_7 : kPiece kSOx eMTg (kDp kUDf) 86 kHKx (kStep kSOx eCL eCT kUDf nKW nKC kKWL kLC nIC 4) kCS kStop_575 100000 kc_575 7 1 = true := fPiece_ok (by decide +kernel)
