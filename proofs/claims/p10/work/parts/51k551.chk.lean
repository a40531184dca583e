/-! A case of the law, by pieces. -/
noncomputable section
def kStop_551 (pc : Nat) : Bool := decide (pc = 1446)
def kStoq_551 (pc : Nat) : Bool := decide (pc = 1449)
theorem kPc551_0 : kPiece kSOx eMTg (kDp kUDf) 86 kHKx (kStep kSOx eCL eCT kUDf nKW nKC kKWL kLC nIC 4) kCS kStop_551 100000 kc_551 0 19 = true := fPiece_ok (by decide +kernel)
end
