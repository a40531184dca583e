/-! The same case, further. -/
theorem kPd579_0_44 : kRemn2 kSOx eMTg (kDp kUDf) 86 kHKx (kStep kSOx eCL eCT kUDf nKW nKC kKWL kLC nIC 4) kCS kStop_579 kStoq_579 100000 kc_579 0 44 = true := fRemn2_ok (by decide +kernel)
theorem kPc579_0 : kPiece kSOx eMTg (kDp kUDf) 86 kHKx (kStep kSOx eCL eCT kUDf nKW nKC kKWL kLC nIC 4) kCS kStop_579 100000 kc_579 0 1 = true := kPiece_of2 (kPiece2_join kPd579_0_0 (kPiece2_join kPd579_0_22 kPd579_0_44))
