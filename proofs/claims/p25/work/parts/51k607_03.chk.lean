/-! The same case, further. -/
theorem kPd607_0_72 : kRemn2 kSOx eMTg (kDp kUDf) 86 kHKx (kStep kSOx eCL eCT kUDf nKW nKC kKWL kLC nIC 4) kCS kStop_607 kStoq_607 100000 kc_607 0 72 = true := fRemn2_ok (by decide +kernel)
theorem kPc607_0 : kPiece kSOx eMTg (kDp kUDf) 86 kHKx (kStep kSOx eCL eCT kUDf nKW nKC kKWL kLC nIC 4) kCS kStop_607 100000 kc_607 0 1 = true := kPiece_of2 (kPiece2_join kPd607_0_0 (kPiece2_join kPd607_0_24 (kPiece2_join kPd607_0_48 kPd607_0_72)))
