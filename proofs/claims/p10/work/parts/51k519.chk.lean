/-! A case of the law, by pieces. -/
noncomputable section
def kStop_519 (pc : Nat) : Bool := decide (pc = 490)
def kStoq_519 (pc : Nat) : Bool := decide (pc = 493)
theorem kPd519_0_0 : kPiece2 kSOx eMTg (kDp kUDf) 86 kHKx (kStep kSOx eCL eCT kUDf nKW nKC kKWL kLC nIC 4) kCS kStop_519 kStoq_519 100000 kc_519 0 0 20 = true := fPiece2_ok (by decide +kernel)
end
