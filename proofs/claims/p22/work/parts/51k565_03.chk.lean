/-! The same case, further. -/
theorem kPd565_0_72 : kRemn2 kSOx eMTg (kDp kUDf) 86 kHKx (kStep kSOx eCL eCT kUDf nKW nKC kKWL kLC nIC 4) kCS kStop_565 kStoq_565 100000 kc_565 0 72 = true := fRemn2_ok (by decide +kernel)
theorem kPc565_0 : kPiece kSOx eMTg (kDp kUDf) 86 kHKx (kStep kSOx eCL eCT kUDf nKW nKC kKWL kLC nIC 4) kCS kStop_565 100000 kc_565 0 1 = true := kPiece_of2 (kPiece2_join kPd565_0_0 (kPiece2_join kPd565_0_24 (kPiece2_join kPd565_0_48 kPd565_0_72)))
