/-! The same case, further. -/
theorem kPd560_0_72 : kRemn2 kSOx eMTg (kDp kUDf) 86 kHKx (kStep kSOx eCL eCT kUDf nKW nKC kKWL kLC nIC 4) kCS kStop_560 kStoq_560 100000 kc_560 0 72 = true := fRemn2_ok (by decide +kernel)
theorem kPc560_0 : kPiece kSOx eMTg (kDp kUDf) 86 kHKx (kStep kSOx eCL eCT kUDf nKW nKC kKWL kLC nIC 4) kCS kStop_560 100000 kc_560 0 1 = true := kPiece_of2 (kPiece2_join kPd560_0_0 (kPiece2_join kPd560_0_24 (kPiece2_join kPd560_0_48 kPd560_0_72)))
