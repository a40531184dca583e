/-! A case of the law, by pieces. -/
noncomputable section
def kStop_579 (pc : Nat) : Bool := decide (pc = 1446)
def kStoq_579 (pc : Nat) : Bool := decide (pc = 1476)
theorem kPc579_0 : kPiece kSOx eMTg (kDp kUDf) 86 kHKx (kStep kSOx eCL eCT kUDf nKW nKC kKWL kLC nIC 4) kCS kStop_579 100000 kc_579 0 7 = true := fPiece_ok (by decide +kernel)
theorem kPc579_7 : kPiece kSOx eMTg (kDp kUDf) 86 kHKx (kStep kSOx eCL eCT kUDf nKW nKC kKWL kLC nIC 4) kCS kStop_579 100000 kc_579 7 8 = true := fPiece_ok (by decide +kernel)
theorem kPc579_15 : kPiece kSOx eMTg (kDp kUDf) 86 kHKx (kStep kSOx eCL eCT kUDf nKW nKC kKWL kLC nIC 4) kCS kStop_579 100000 kc_579 15 6 = true := fPiece_ok (by decide +kernel)
theorem kPc579_21 : kPiece kSOx eMTg (kDp kUDf) 86 kHKx (kStep kSOx eCL eCT kUDf nKW nKC kKWL kLC nIC 4) kCS kStop_579 100000 kc_579 21 6 = true := fPiece_ok (by decide +kernel)
theorem kPc579_27 : kPiece kSOx eMTg (kDp kUDf) 86 kHKx (kStep kSOx eCL eCT kUDf nKW nKC kKWL kLC nIC 4) kCS kStop_579 100000 kc_579 27 6 = true := fPiece_ok (by decide +kernel)
theorem kPc579_33 : kPiece kSOx eMTg (kDp kUDf) 86 kHKx (kStep kSOx eCL eCT kUDf nKW nKC kKWL kLC nIC 4) kCS kStop_579 100000 kc_579 33 6 = true := fPiece_ok (by decide +kernel)
theorem kPc579_39 : kPiece kSOx eMTg (kDp kUDf) 86 kHKx (kStep kSOx eCL eCT kUDf nKW nKC kKWL kLC nIC 4) kCS kStop_579 100000 kc_579 39 6 = true := fPiece_ok (by decide +kernel)
theorem kPc579_45 : kPiece kSOx eMTg (kDp kUDf) 86 kHKx (kStep kSOx eCL eCT kUDf nKW nKC kKWL kLC nIC 4) kCS kStop_579 100000 kc_579 45 6 = true := fPiece_ok (by decide +kernel)
theorem kPc579_51 : kPiece kSOx eMTg (kDp kUDf) 86 kHKx (kStep kSOx eCL eCT kUDf nKW nKC kKWL kLC nIC 4) kCS kStop_579 100000 kc_579 51 6 = true := fPiece_ok (by decide +kernel)
theorem kPc579_57 : kPiece kSOx eMTg (kDp kUDf) 86 kHKx (kStep kSOx eCL eCT kUDf nKW nKC kKWL kLC nIC 4) kCS kStop_579 100000 kc_579 57 6 = true := fPiece_ok (by decide +kernel)
theorem kPc579_63 : kPiece kSOx eMTg (kDp kUDf) 86 kHKx (kStep kSOx eCL eCT kUDf nKW nKC kKWL kLC nIC 4) kCS kStop_579 100000 kc_579 63 1 = true := fPiece_ok (by decide +kernel)
theorem kPc579_r : kRemn kSOx eMTg (kDp kUDf) 86 kHKx (kStep kSOx eCL eCT kUDf nKW nKC kKWL kLC nIC 4) kCS kStop_579 100000 kc_579 64 = true := fRemn_ok (by decide +kernel)
theorem kPc579_h : kChk0 kc_579 = true := by decide +kernel
theorem kt_579 : kGo kc_579 = true := kChk_cut kPc579_h (kPiece_join kPc579_0 (kPiece_join kPc579_7 (kPiece_join kPc579_15 (kPiece_join kPc579_21 (kPiece_join kPc579_27 (kPiece_join kPc579_33 (kPiece_join kPc579_39 (kPiece_join kPc579_45 (kPiece_join kPc579_51 (kPiece_join kPc579_57 (kPiece_join kPc579_63 kPc579_r)))))))))))
end
