/-! The same case, further. -/
theorem kPc522_10 : kPiece kSOx eMTg (kDp kUDf) 86 kHKx (kStep kSOx eCL eCT kUDf nKW nKC kKWL kLC nIC 4) kCS kStop_522 100000 kc_522 10 2 = true := fPiece_ok (by decide +kernel)
