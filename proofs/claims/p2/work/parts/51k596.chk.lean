/-! A case of the law, by pieces. -/
noncomputable section
def kStop_596 (pc : Nat) : Bool := decide (pc = 1446)
def kStoq_596 (pc : Nat) : Bool := decide (pc = 1449)
theorem kPc596_0 : kPiece kSOx eMTg (kDp kUDf) 86 kHKx (kStep kSOx eCL eCT kUDf kKW kKC kKWL kLC kIC 4) kCS kStop_596 100000 kc_596 0 46 = true := fPiece_ok (by decide +kernel)
theorem kPc596_46 : kPiece kSOx eMTg (kDp kUDf) 86 kHKx (kStep kSOx eCL eCT kUDf kKW kKC kKWL kLC kIC 4) kCS kStop_596 100000 kc_596 46 18 = true := fPiece_ok (by decide +kernel)
theorem kPc596_r : kRemn kSOx eMTg (kDp kUDf) 86 kHKx (kStep kSOx eCL eCT kUDf kKW kKC kKWL kLC kIC 4) kCS kStop_596 100000 kc_596 64 = true := fRemn_ok (by decide +kernel)
theorem kPc596_h : kChk0 kc_596 = true := by decide +kernel
theorem kt_596 : kGo kc_596 = true := kChk_cut kPc596_h (kPiece_join kPc596_0 (kPiece_join kPc596_46 kPc596_r))
end
