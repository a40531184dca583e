/-! A case of the law, by pieces. -/
noncomputable section
def kStop_559 (pc : Nat) : Bool := decide (pc = 1446)
def kStoq_559 (pc : Nat) : Bool := decide (pc = 1449)
theorem kPc559_0 : kPiece kSOx eMTg (kDp kUDf) 86 kHKx (kStep kSOx eCL eCT kUDf nKW nKC kKWL kLC nIC 4) kCS kStop_559 100000 kc_559 0 19 = true := fPiece_ok (by decide +kernel)
end
