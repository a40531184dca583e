/-! The same case, further. -/
theorem kPd528_0_90 : kRemn2 kSOx eMTg (kDp kUDf) 86 kHKx (kStep kSOx eCL eCT kUDf nKW nKC kKWL kLC nIC 4) kCS kStop_528 kStoq_528 100000 kc_528 0 90 = true := fRemn2_ok (by decide +kernel)
theorem kPc528_0 : kPiece kSOx eMTg (kDp kUDf) 86 kHKx (kStep kSOx eCL eCT kUDf nKW nKC kKWL kLC nIC 4) kCS kStop_528 100000 kc_528 0 1 = true := kPiece_of2 (kPiece2_join kPd528_0_0 (kPiece2_join kPd528_0_30 (kPiece2_join kPd528_0_60 kPd528_0_90)))
