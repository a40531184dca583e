/-! The same case, further. -/
theorem kPd536_0_72 : kRemn2 kSOx eMTg (kDp kUDf) 86 kHKx (kStep kSOx eCL eCT kUDf nKW nKC kKWL kLC nIC 4) kCS kStop_536 kStoq_536 100000 kc_536 0 72 = true := fRemn2_ok (by decide +kernel)
theorem kPc536_0 : kPiece kSOx eMTg (kDp kUDf) 86 kHKx (kStep kSOx eCL eCT kUDf nKW nKC kKWL kLC nIC 4) kCS kStop_536 100000 kc_536 0 1 = true := kPiece_of2 (kPiece2_join kPd536_0_0 (kPiece2_join kPd536_0_24 (kPiece2_join kPd536_0_48 kPd536_0_72)))
