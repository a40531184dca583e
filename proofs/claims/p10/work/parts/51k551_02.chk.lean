/-! The same case, further. -/
theorem kPc551_36 : kPiece kSOx eMTg (kDp kUDf) 86 kHKx (kStep kSOx eCL eCT kUDf nKW nKC kKWL kLC nIC 4) kCS kStop_551 100000 kc_551 36 17 = true := fPiece_ok (by decide +kernel)
