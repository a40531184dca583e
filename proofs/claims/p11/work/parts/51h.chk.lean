/-! The law's loop: its head's check, by pieces. -/
noncomputable section
def kHeadStop (pc : Nat) : Bool := decide (220 ≤ pc)
theorem kPc_0 : kPiece kSOx eMTg (kDp kUDf) 86 kHKx (kStep kSOx eCL eCT kUDf nKW nKC kKWL kLC nIC 4) kCS kHeadStop 100000 kc_518 0 6 = true := fPiece_ok (by decide +kernel)
theorem kPc_1 : kPiece kSOx eMTg (kDp kUDf) 86 kHKx (kStep kSOx eCL eCT kUDf nKW nKC kKWL kLC nIC 4) kCS kHeadStop 100000 kc_518 6 6 = true := fPiece_ok (by decide +kernel)
theorem kPc_2 : kPiece kSOx eMTg (kDp kUDf) 86 kHKx (kStep kSOx eCL eCT kUDf nKW nKC kKWL kLC nIC 4) kCS kHeadStop 100000 kc_518 12 6 = true := fPiece_ok (by decide +kernel)
theorem kPc_3 : kPiece kSOx eMTg (kDp kUDf) 86 kHKx (kStep kSOx eCL eCT kUDf nKW nKC kKWL kLC nIC 4) kCS kHeadStop 100000 kc_518 18 6 = true := fPiece_ok (by decide +kernel)
theorem kPc_4 : kPiece kSOx eMTg (kDp kUDf) 86 kHKx (kStep kSOx eCL eCT kUDf nKW nKC kKWL kLC nIC 4) kCS kHeadStop 100000 kc_518 24 6 = true := fPiece_ok (by decide +kernel)
theorem kPc_5 : kPiece kSOx eMTg (kDp kUDf) 86 kHKx (kStep kSOx eCL eCT kUDf nKW nKC kKWL kLC nIC 4) kCS kHeadStop 100000 kc_518 30 6 = true := fPiece_ok (by decide +kernel)
theorem kPc_6 : kPiece kSOx eMTg (kDp kUDf) 86 kHKx (kStep kSOx eCL eCT kUDf nKW nKC kKWL kLC nIC 4) kCS kHeadStop 100000 kc_518 36 6 = true := fPiece_ok (by decide +kernel)
theorem kPc_7 : kRemn kSOx eMTg (kDp kUDf) 86 kHKx (kStep kSOx eCL eCT kUDf nKW nKC kKWL kLC nIC 4) kCS kHeadStop 100000 kc_518 42 = true := fRemn_ok (by decide +kernel)
theorem kPc_h : kChk0 kc_518 = true := by decide +kernel
theorem kt_518 : kGo kc_518 = true := kChk_cut kPc_h (kPiece_join kPc_0 (kPiece_join kPc_1 (kPiece_join kPc_2 (kPiece_join kPc_3 (kPiece_join kPc_4 (kPiece_join kPc_5 (kPiece_join kPc_6 kPc_7)))))))
end
