/-! The same case, further. -/
theorem kPd582_0_72 : kRemn2 kSOx eMTg (kDp kUDf) 86 kHKx (kStep kSOx eCL eCT kUDf nKW nKC kKWL kLC nIC 4) kCS kStop_582 kStoq_582 100000 kc_582 0 72 = true := fRemn2_ok (by decide +kernel)
theorem kPc582_0 : kPiece kSOx eMTg (kDp kUDf) 86 kHKx (kStep kSOx eCL eCT kUDf nKW nKC kKWL kLC nIC 4) kCS kStop_582 100000 kc_582 0 1 = true := kPiece_of2 (kPiece2_join kPd582_0_0 (kPiece2_join kPd582_0_24 (kPiece2_join kPd582_0_48 kPd582_0_72)))
