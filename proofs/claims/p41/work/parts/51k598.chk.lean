/-! A case of the law, by pieces. -/
noncomputable section
def kStop_598 (pc : Nat) : Bool := decide (pc = 1398)
def kStoq_598 (pc : Nat) : Bool := decide (pc = 1412)
theorem kPc598_0 : kPiece kSOx eMTg (kDp kUDf) 86 kHKx (kStep kSOx eCL eCT kUDf kKW kKC kKWL kLC kIC 4) kCS kStop_598 100000 kc_598 0 4 = true := fPiece_ok (by decide +kernel)
theorem kPc598_4 : kPiece kSOx eMTg (kDp kUDf) 86 kHKx (kStep kSOx eCL eCT kUDf kKW kKC kKWL kLC kIC 4) kCS kStop_598 100000 kc_598 4 2 = true := fPiece_ok (by decide +kernel)
theorem kPc598_6 : kPiece kSOx eMTg (kDp kUDf) 86 kHKx (kStep kSOx eCL eCT kUDf kKW kKC kKWL kLC kIC 4) kCS kStop_598 100000 kc_598 6 2 = true := fPiece_ok (by decide +kernel)
theorem kPc598_r : kRemn kSOx eMTg (kDp kUDf) 86 kHKx (kStep kSOx eCL eCT kUDf kKW kKC kKWL kLC kIC 4) kCS kStop_598 100000 kc_598 8 = true := fRemn_ok (by decide +kernel)
theorem kPc598_h : kChk0 kc_598 = true := by decide +kernel
theorem kt_598 : kGo kc_598 = true := kChk_cut kPc598_h (kPiece_join kPc598_0 (kPiece_join kPc598_4 (kPiece_join kPc598_6 kPc598_r)))
end
