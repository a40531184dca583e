/-! The same case, further. -/
theorem kPd569_4_0 : kRemn2 kSOx eMTg (kDp kUDf) 86 kHKx (kStep kSOx eCL eCT kUDf nKW nKC kKWL kLC nIC 4) kCS kStop_569 kStoq_569 100000 kc_569 4 0 = true := fRemn2_ok (by decide +kernel)
theorem kPc569_4 : kPiece kSOx eMTg (kDp kUDf) 86 kHKx (kStep kSOx eCL eCT kUDf nKW nKC kKWL kLC nIC 4) kCS kStop_569 100000 kc_569 4 1 = true := kPiece_of2 kPd569_4_0
