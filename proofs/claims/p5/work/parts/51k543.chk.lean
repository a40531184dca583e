/-! A case of the law, by pieces. -/
noncomputable section
def kStop_543 (pc : Nat) : Bool := decide (pc = 373)
def kStoq_543 (pc : Nat) : Bool := decide (pc = 388)
theorem kPd543_0_0 : kPiece2 kSOx eMTg (kDp kUDf) 86 kHKx (kStep kSOx eCL eCT kUDf nKW nKC kKWL kLC nIC 4) kCS kStop_543 kStoq_543 100000 kc_543 0 0 13 = true := by decide +kernel
theorem kPd543_0_13 : kRemn2 kSOx eMTg (kDp kUDf) 86 kHKx (kStep kSOx eCL eCT kUDf nKW nKC kKWL kLC nIC 4) kCS kStop_543 kStoq_543 100000 kc_543 0 13 = true := by decide +kernel
theorem kPc543_0 : kPiece kSOx eMTg (kDp kUDf) 86 kHKx (kStep kSOx eCL eCT kUDf nKW nKC kKWL kLC nIC 4) kCS kStop_543 100000 kc_543 0 1 = true := kPiece_of2 (kPiece2_join kPd543_0_0 kPd543_0_13)
theorem kPc543_r : kRemn kSOx eMTg (kDp kUDf) 86 kHKx (kStep kSOx eCL eCT kUDf nKW nKC kKWL kLC nIC 4) kCS kStop_543 100000 kc_543 1 = true := fRemn_ok (by decide +kernel)
theorem kPc543_h : kChk0 kc_543 = true := by decide +kernel
theorem kt_543 : kGo kc_543 = true := kChk_cut kPc543_h (kPiece_join kPc543_0 kPc543_r)
end
