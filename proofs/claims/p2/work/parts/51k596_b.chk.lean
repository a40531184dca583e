/-! The same case, further. -/
noncomputable section
theorem kPc596_32 : kPiece kSOx eMTg (kDp kUDf) 86 kHKx (kStep kSOx eCL eCT kUDf kKW kKC kKWL kLC kIC 4) kCS kStop_596 100000 kc_596 32 8 = true := fPiece_ok (by decide +kernel)
theorem kPc596_40 : kPiece kSOx eMTg (kDp kUDf) 86 kHKx (kStep kSOx eCL eCT kUDf kKW kKC kKWL kLC kIC 4) kCS kStop_596 100000 kc_596 40 8 = true := fPiece_ok (by decide +kernel)
theorem kPc596_48 : kPiece kSOx eMTg (kDp kUDf) 86 kHKx (kStep kSOx eCL eCT kUDf kKW kKC kKWL kLC kIC 4) kCS kStop_596 100000 kc_596 48 8 = true := fPiece_ok (by decide +kernel)
theorem kPc596_56 : kPiece kSOx eMTg (kDp kUDf) 86 kHKx (kStep kSOx eCL eCT kUDf kKW kKC kKWL kLC kIC 4) kCS kStop_596 100000 kc_596 56 8 = true := fPiece_ok (by decide +kernel)
end
