/-! The same case, further. -/
theorem kPc596_53 : kPiece kSOx eMTg (kDp kUDf) 86 kHKx (kStep kSOx eCL eCT kUDf kKW kKC kKWL kLC kIC 4) kCS kStop_596 100000 kc_596 53 11 = true := fPiece_ok (by decide +kernel)
