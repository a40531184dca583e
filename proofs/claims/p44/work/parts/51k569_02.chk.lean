/-! The same case, further. -/
theorem kPd569_2_5 : kRemn2 kSOx eMTg (kDp kUDf) 86 kHKx (kStep kSOx eCL eCT kUDf nKW nKC kKWL kLC nIC 4) kCS kStop_569 kStoq_569 100000 kc_569 2 5 = true := fRemn2_ok (by decide +kernel)
theorem kPc569_2 : kPiece kSOx eMTg (kDp kUDf) 86 kHKx (kStep kSOx eCL eCT kUDf nKW nKC kKWL kLC nIC 4) kCS kStop_569 100000 kc_569 2 1 = true := kPiece_of2 (kPiece2_join kPd569_2_0 kPd569_2_5)
