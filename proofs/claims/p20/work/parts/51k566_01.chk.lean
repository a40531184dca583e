/-! The same case, further. -/
theorem kPd566_0_24 : kPiece2 kSOx eMTg (kDp kUDf) 86 kHKx (kStep kSOx eCL eCT kUDf nKW nKC kKWL kLC nIC 4) kCS kStop_566 kStoq_566 100000 kc_566 0 24 24 = true := fPiece2_ok (by decide +kernel)
