/-! The same case, further. -/
theorem kPd519_0_40 : kRemn2 kSOx eMTg (kDp kUDf) 86 kHKx (kStep kSOx eCL eCT kUDf nKW nKC kKWL kLC nIC 4) kCS kStop_519 kStoq_519 100000 kc_519 0 40 = true := fRemn2_ok (by decide +kernel)
theorem kPc519_0 : kPiece kSOx eMTg (kDp kUDf) 86 kHKx (kStep kSOx eCL eCT kUDf nKW nKC kKWL kLC nIC 4) kCS kStop_519 100000 kc_519 0 1 = true := kPiece_of2 (kPiece2_join kPd519_0_0 (kPiece2_join kPd519_0_20 kPd519_0_40))
