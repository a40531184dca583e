/-! A case of the law, by pieces. -/
noncomputable section
def kStop_599 (pc : Nat) : Bool := decide (pc = 1345)
theorem kPc599_0 : kPiece kSOx eMTg (kDp kUDf) 86 kHKx (kStep kSOx eCL eCT kUDf kKW kKC kKWL kLC kIC 4) kCS kStop_599 100000 kc_599 0 4 = true := by decide +kernel
theorem kPc599_1 : kRemn kSOx eMTg (kDp kUDf) 86 kHKx (kStep kSOx eCL eCT kUDf kKW kKC kKWL kLC kIC 4) kCS kStop_599 100000 kc_599 4 = true := by decide +kernel
theorem kPc599_h : kChk0 kc_599 = true := by decide +kernel
theorem kt_599 : kGo kc_599 = true := kChk_cut kPc599_h (kPiece_join kPc599_0 kPc599_1)
end
