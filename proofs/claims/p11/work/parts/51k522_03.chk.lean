/-! The same case, further. -/
theorem kPc522_7 : kPiece kSOx eMTg (kDp kUDf) 86 kHKx (kStep kSOx eCL eCT kUDf nKW nKC kKWL kLC nIC 4) kCS kStop_522 100000 kc_522 7 1 = true := fPiece_ok (by decide +kernel)
