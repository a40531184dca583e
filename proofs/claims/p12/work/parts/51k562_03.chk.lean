/-! The same case, further. -/
theorem kPd562_0_72 : kRemn2 kSOx eMTg (kDp kUDf) 86 kHKx (kStep kSOx eCL eCT kUDf nKW nKC kKWL kLC nIC 4) kCS kStop_562 kStoq_562 100000 kc_562 0 72 = true := fRemn2_ok (by decide +kernel)
theorem kPc562_0 : kPiece kSOx eMTg (kDp kUDf) 86 kHKx (kStep kSOx eCL eCT kUDf nKW nKC kKWL kLC nIC 4) kCS kStop_562 100000 kc_562 0 1 = true := kPiece_of2 (kPiece2_join kPd562_0_0 (kPiece2_join kPd562_0_24 (kPiece2_join kPd562_0_48 kPd562_0_72)))
