/-! A case of the law, by pieces. -/
noncomputable section
def kStop_540 (pc : Nat) : Bool := decide (pc = 269)
def kStoq_540 (pc : Nat) : Bool := decide (pc = 289)
theorem kPc540_0 : kPiece kSOx eMTg (kDp kUDf) 86 kHKx (kStep kSOx eCL eCT kUDf nKW nKC kKWL kLC nIC 4) kCS kStop_540 100000 kc_540 0 3 = true := fPiece_ok (by decide +kernel)
theorem kPc540_3 : kPiece kSOx eMTg (kDp kUDf) 86 kHKx (kStep kSOx eCL eCT kUDf nKW nKC kKWL kLC nIC 4) kCS kStop_540 100000 kc_540 3 2 = true := fPiece_ok (by decide +kernel)
theorem kPc540_5 : kPiece kSOx eMTg (kDp kUDf) 86 kHKx (kStep kSOx eCL eCT kUDf nKW nKC kKWL kLC nIC 4) kCS kStop_540 100000 kc_540 5 2 = true := fPiece_ok (by decide +kernel)
theorem kPc540_7 : kPiece kSOx eMTg (kDp kUDf) 86 kHKx (kStep kSOx eCL eCT kUDf nKW nKC kKWL kLC nIC 4) kCS kStop_540 100000 kc_540 7 1 = true := fPiece_ok (by decide +kernel)
theorem kPc540_r : kRemn kSOx eMTg (kDp kUDf) 86 kHKx (kStep kSOx eCL eCT kUDf nKW nKC kKWL kLC nIC 4) kCS kStop_540 100000 kc_540 8 = true := fRemn_ok (by decide +kernel)
theorem kPc540_h : kChk0 kc_540 = true := by decide +kernel
theorem kt_540 : kGo kc_540 = true := kChk_cut kPc540_h (kPiece_join kPc540_0 (kPiece_join kPc540_3 (kPiece_join kPc540_5 (kPiece_join kPc540_7 kPc540_r))))
end
