/-! The same case, further. -/
theorem kPd536_0_24 : kPiece2 kSOx eMTg (kDp kUDf) 86 kHKx (kStep kSOx eCL eCT kUDf nKW nKC kKWL kLC nIC 4) kCS kStop_536 kStoq_536 100000 kc_536 0 24 24 = true := fPiece2_ok (by decide +kernel)
