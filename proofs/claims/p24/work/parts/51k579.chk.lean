/-! A case of the law, by pieces. -/
noncomputable section
def kStop_579 (pc : Nat) : Bool := decide (pc = 912)
def kStoq_579 (pc : Nat) : Bool := decide (pc = 915)
theorem kPd579_0_0 : kPiece2 kSOx eMTg (kDp kUDf) 86 kHKx (kStep kSOx eCL eCT kUDf nKW nKC kKWL kLC nIC 4) kCS kStop_579 kStoq_579 100000 kc_579 0 0 22 = true := fPiece2_ok (by decide +kernel)
end
