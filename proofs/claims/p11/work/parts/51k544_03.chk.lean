/-! The same case, further. -/
theorem kPd544_0_72 : kRemn2 kSOx eMTg (kDp kUDf) 86 kHKx (kStep kSOx eCL eCT kUDf nKW nKC kKWL kLC nIC 4) kCS kStop_544 kStoq_544 100000 kc_544 0 72 = true := fRemn2_ok (by decide +kernel)
theorem kPc544_0 : kPiece kSOx eMTg (kDp kUDf) 86 kHKx (kStep kSOx eCL eCT kUDf nKW nKC kKWL kLC nIC 4) kCS kStop_544 100000 kc_544 0 1 = true := kPiece_of2 (kPiece2_join kPd544_0_0 (kPiece2_join kPd544_0_24 (kPiece2_join kPd544_0_48 kPd544_0_72)))
