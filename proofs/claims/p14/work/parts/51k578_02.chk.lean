/-! The same case, further. -/
theorem kPc578_36 : kPiece kSOx eMTg (kDp kUDf) 86 kHKx (kStep kSOx eCL eCT kUDf nKW nKC kKWL kLC nIC 4) kCS kStop_578 100000 kc_578 36 17 = true := fPiece_ok (by decide +kernel)
