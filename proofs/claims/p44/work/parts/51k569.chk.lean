/-! A case of the law, by pieces. -/
noncomputable section
def kStop_569 (pc : Nat) : Bool := decide (pc = 1188)
def kStoq_569 (pc : Nat) : Bool := decide (pc = 1191)
theorem kPc569_0 : kPiece kSOx eMTg (kDp kUDf) 86 kHKx (kStep kSOx eCL eCT kUDf nKW nKC kKWL kLC nIC 4) kCS kStop_569 100000 kc_569 0 2 = true := fPiece_ok (by decide +kernel)
end
