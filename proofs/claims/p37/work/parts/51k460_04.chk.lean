/-! The same case, further. -/
theorem kPd460_4_0 : kRemn2 kSOx eMTg (kDp kUDf) 86 kHKx (kStep kSOx eCL eCT kUDf kKW kKC kKWL kLC kIC 4) kCS kStop_460 kStoq_460 100000 kc_460 4 0 = true := fRemn2_ok (by decide +kernel)
theorem kPc460_4 : kPiece kSOx eMTg (kDp kUDf) 86 kHKx (kStep kSOx eCL eCT kUDf kKW kKC kKWL kLC kIC 4) kCS kStop_460 100000 kc_460 4 1 = true := kPiece_of2 kPd460_4_0
