/-! The same case, further. -/
theorem kPd564_0_72 : kRemn2 kSOx eMTg (kDp kUDf) 86 kHKx (kStep kSOx eCL eCT kUDf nKW nKC kKWL kLC nIC 4) kCS kStop_564 kStoq_564 100000 kc_564 0 72 = true := fRemn2_ok (by decide +kernel)
theorem kPc564_0 : kPiece kSOx eMTg (kDp kUDf) 86 kHKx (kStep kSOx eCL eCT kUDf nKW nKC kKWL kLC nIC 4) kCS kStop_564 100000 kc_564 0 1 = true := kPiece_of2 (kPiece2_join kPd564_0_0 (kPiece2_join kPd564_0_24 (kPiece2_join kPd564_0_48 kPd564_0_72)))
