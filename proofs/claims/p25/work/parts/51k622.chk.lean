/-! A case of the law, by pieces. -/
noncomputable section
def kStop_622 (pc : Nat) : Bool := decide (pc = 1446)
def kStoq_622 (pc : Nat) : Bool := decide (pc = 1449)
theorem kPc622_0 : kPiece kSOx eMTg (kDp kUDf) 86 kHKx (kStep kSOx eCL eCT kUDf nKW nKC kKWL kLC nIC 4) kCS kStop_622 100000 kc_622 0 19 = true := fPiece_ok (by decide +kernel)
end
