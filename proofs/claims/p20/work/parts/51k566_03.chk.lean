/-! The same case, further. -/
theorem kPd566_0_72 : kRemn2 kSOx eMTg (kDp kUDf) 86 kHKx (kStep kSOx eCL eCT kUDf nKW nKC kKWL kLC nIC 4) kCS kStop_566 kStoq_566 100000 kc_566 0 72 = true := fRemn2_ok (by decide +kernel)
theorem kPc566_0 : kPiece kSOx eMTg (kDp kUDf) 86 kHKx (kStep kSOx eCL eCT kUDf nKW nKC kKWL kLC nIC 4) kCS kStop_566 100000 kc_566 0 1 = true := kPiece_of2 (kPiece2_join kPd566_0_0 (kPiece2_join kPd566_0_24 (kPiece2_join kPd566_0_48 kPd566_0_72)))
