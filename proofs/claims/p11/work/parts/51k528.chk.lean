/-! A case of the law, by pieces. -/
noncomputable section
def kStop_528 (pc : Nat) : Bool := decide (pc = 528)
def kStoq_528 (pc : Nat) : Bool := decide (pc = 531)
theorem kPd528_0_0 : kPiece2 kSOx eMTg (kDp kUDf) 86 kHKx (kStep kSOx eCL eCT kUDf nKW nKC kKWL kLC nIC 4) kCS kStop_528 kStoq_528 100000 kc_528 0 0 30 = true := fPiece2_ok (by decide +kernel)
end
