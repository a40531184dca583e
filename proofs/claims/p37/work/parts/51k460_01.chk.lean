/-! The same case, further. -/
theorem kPd460_2_0 : kPiece2 kSOx eMTg (kDp kUDf) 86 kHKx (kStep kSOx eCL eCT kUDf kKW kKC kKWL kLC kIC 4) kCS kStop_460 kStoq_460 100000 kc_460 2 0 5 = true := fPiece2_ok (by decide +kernel)
