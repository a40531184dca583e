/-! A case of the law, by pieces. -/
noncomputable section
def kStop_544 (pc : Nat) : Bool := decide (pc = 1026)
def kStoq_544 (pc : Nat) : Bool := decide (pc = 1029)
theorem kPd544_0_0 : kPiece2 kSOx eMTg (kDp kUDf) 86 kHKx (kStep kSOx eCL eCT kUDf nKW nKC kKWL kLC nIC 4) kCS kStop_544 kStoq_544 100000 kc_544 0 0 24 = true := fPiece2_ok (by decide +kernel)
end
