/-! The same case, further. -/
theorem kPc597_19 : kPiece kSOx eMTg (kDp kUDf) 86 kHKx (kStep kSOx eCL eCT kUDf nKW nKC kKWL kLC nIC 4) kCS kStop_597 100000 kc_597 19 17 = true := fPiece_ok (by decide +kernel)
