/-! A case of the law, by pieces. -/
noncomputable section
def kStop_564 (pc : Nat) : Bool := decide (pc = 1026)
def kStoq_564 (pc : Nat) : Bool := decide (pc = 1041)
theorem kPc564_0 : kPiece kSOx eMTg (kDp kUDf) 86 kHKx (kStep kSOx eCL eCT kUDf nKW nKC kKWL kLC nIC 4) kCS kStop_564 100000 kc_564 0 1 = true := fPiece_ok (by decide +kernel)
theorem kPc564_1 : kPiece kSOx eMTg (kDp kUDf) 86 kHKx (kStep kSOx eCL eCT kUDf nKW nKC kKWL kLC nIC 4) kCS kStop_564 100000 kc_564 1 1 = true := fPiece_ok (by decide +kernel)
theorem kPc564_2 : kPiece kSOx eMTg (kDp kUDf) 86 kHKx (kStep kSOx eCL eCT kUDf nKW nKC kKWL kLC nIC 4) kCS kStop_564 100000 kc_564 2 1 = true := fPiece_ok (by decide +kernel)
theorem kPc564_3 : kPiece kSOx eMTg (kDp kUDf) 86 kHKx (kStep kSOx eCL eCT kUDf nKW nKC kKWL kLC nIC 4) kCS kStop_564 100000 kc_564 3 1 = true := fPiece_ok (by decide +kernel)
theorem kPc564_4 : kPiece kSOx eMTg (kDp kUDf) 86 kHKx (kStep kSOx eCL eCT kUDf nKW nKC kKWL kLC nIC 4) kCS kStop_564 100000 kc_564 4 1 = true := fPiece_ok (by decide +kernel)
theorem kPc564_5 : kPiece kSOx eMTg (kDp kUDf) 86 kHKx (kStep kSOx eCL eCT kUDf nKW nKC kKWL kLC nIC 4) kCS kStop_564 100000 kc_564 5 3 = true := fPiece_ok (by decide +kernel)
theorem kPc564_r : kRemn kSOx eMTg (kDp kUDf) 86 kHKx (kStep kSOx eCL eCT kUDf nKW nKC kKWL kLC nIC 4) kCS kStop_564 100000 kc_564 8 = true := fRemn_ok (by decide +kernel)
theorem kPc564_h : kChk0 kc_564 = true := by decide +kernel
theorem kt_564 : kGo kc_564 = true := kChk_cut kPc564_h (kPiece_join kPc564_0 (kPiece_join kPc564_1 (kPiece_join kPc564_2 (kPiece_join kPc564_3 (kPiece_join kPc564_4 (kPiece_join kPc564_5 kPc564_r))))))
end
