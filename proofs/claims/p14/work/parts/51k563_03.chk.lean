/-! The same case, further. -/
theorem kPd563_0_72 : kRemn2 kSOx eMTg (kDp kUDf) 86 kHKx (kStep kSOx eCL eCT kUDf nKW nKC kKWL kLC nIC 4) kCS kStop_563 kStoq_563 100000 kc_563 0 72 = true := fRemn2_ok (by decide +kernel)
theorem kPc563_0 : kPiece kSOx eMTg (kDp kUDf) 86 kHKx (kStep kSOx eCL eCT kUDf nKW nKC kKWL kLC nIC 4) kCS kStop_563 100000 kc_563 0 1 = true := kPiece_of2 (kPiece2_join kPd563_0_0 (kPiece2_join kPd563_0_24 (kPiece2_join kPd563_0_48 kPd563_0_72)))
