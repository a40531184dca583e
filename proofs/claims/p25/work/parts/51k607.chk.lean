/-! A case of the law, by pieces. -/
noncomputable section
def kStop_607 (pc : Nat) : Bool := decide (pc = 1026)
def kStoq_607 (pc : Nat) : Bool := decide (pc = 1029)
theorem kPd607_0_0 : kPiece2 kSOx eMTg (kDp kUDf) 86 kHKx (kStep kSOx eCL eCT kUDf nKW nKC kKWL kLC nIC 4) kCS kStop_607 kStoq_607 100000 kc_607 0 0 24 = true := fPiece2_ok (by decide +kernel)
end
