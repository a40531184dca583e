/-! The same case, further. -/
theorem kPd597_0_72 : kRemn2 kSOx eMTg (kDp kUDf) 86 kHKx (kStep kSOx eCL eCT kUDf nKW nKC kKWL kLC nIC 4) kCS kStop_597 kStoq_597 100000 kc_597 0 72 = true := fRemn2_ok (by decide +kernel)
theorem kPc597_0 : kPiece kSOx eMTg (kDp kUDf) 86 kHKx (kStep kSOx eCL eCT kUDf nKW nKC kKWL kLC nIC 4) kCS kStop_597 100000 kc_597 0 1 = true := kPiece_of2 (kPiece2_join kPd597_0_0 (kPiece2_join kPd597_0_24 (kPiece2_join kPd597_0_48 kPd597_0_72)))
