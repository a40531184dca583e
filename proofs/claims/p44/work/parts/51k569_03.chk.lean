/-! The same case, further. -/
theorem kPd569_3_0 : kRemn2 kSOx eMTg (kDp kUDf) 86 kHKx (kStep kSOx eCL eCT kUDf nKW nKC kKWL kLC nIC 4) kCS kStop_569 kStoq_569 100000 kc_569 3 0 = true := fRemn2_ok (by decide +kernel)
theorem kPc569_3 : kPiece kSOx eMTg (kDp kUDf) 86 kHKx (kStep kSOx eCL eCT kUDf nKW nKC kKWL kLC nIC 4) kCS kStop_569 100000 kc_569 3 1 = true := kPiece_of2 kPd569_3_0
