/-! The same case, further. -/
theorem kPd460_2_5 : kRemn2 kSOx eMTg (kDp kUDf) 86 kHKx (kStep kSOx eCL eCT kUDf kKW kKC kKWL kLC kIC 4) kCS kStop_460 kStoq_460 100000 kc_460 2 5 = true := fRemn2_ok (by decide +kernel)
theorem kPc460_2 : kPiece kSOx eMTg (kDp kUDf) 86 kHKx (kStep kSOx eCL eCT kUDf kKW kKC kKWL kLC kIC 4) kCS kStop_460 100000 kc_460 2 1 = true := kPiece_of2 (kPiece2_join kPd460_2_0 kPd460_2_5)
