/-! A case of the law, by pieces. -/
noncomputable section
def kStop_601 (pc : Nat) : Bool := decide (pc = 1446)
theorem kPc601_0 : kPiece kSOx eMTg (kDp kUDf) 86 kHKx (kStep kSOx eCL eCT kUDf kKW kKC kKWL kLC kIC 4) kCS kStop_601 100000 kc_601 0 11 = true := by decide +kernel
theorem kPc601_1 : kPiece kSOx eMTg (kDp kUDf) 86 kHKx (kStep kSOx eCL eCT kUDf kKW kKC kKWL kLC kIC 4) kCS kStop_601 100000 kc_601 11 11 = true := by decide +kernel
theorem kPc601_2 : kPiece kSOx eMTg (kDp kUDf) 86 kHKx (kStep kSOx eCL eCT kUDf kKW kKC kKWL kLC kIC 4) kCS kStop_601 100000 kc_601 22 11 = true := by decide +kernel
theorem kPc601_3 : kPiece kSOx eMTg (kDp kUDf) 86 kHKx (kStep kSOx eCL eCT kUDf kKW kKC kKWL kLC kIC 4) kCS kStop_601 100000 kc_601 33 11 = true := by decide +kernel
theorem kPc601_4 : kPiece kSOx eMTg (kDp kUDf) 86 kHKx (kStep kSOx eCL eCT kUDf kKW kKC kKWL kLC kIC 4) kCS kStop_601 100000 kc_601 44 11 = true := by decide +kernel
theorem kPc601_5 : kRemn kSOx eMTg (kDp kUDf) 86 kHKx (kStep kSOx eCL eCT kUDf kKW kKC kKWL kLC kIC 4) kCS kStop_601 100000 kc_601 55 = true := by decide +kernel
theorem kPc601_h : kChk0 kc_601 = true := by decide +kernel
theorem kt_601 : kGo kc_601 = true := kChk_cut kPc601_h (kPiece_join kPc601_0 (kPiece_join kPc601_1 (kPiece_join kPc601_2 (kPiece_join kPc601_3 (kPiece_join kPc601_4 kPc601_5)))))
end
