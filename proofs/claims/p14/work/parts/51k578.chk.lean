/-! A case of the law, by pieces. -/
noncomputable section
def kStop_578 (pc : Nat) : Bool := decide (pc = 1446)
def kStoq_578 (pc : Nat) : Bool := decide (pc = 1449)
theorem kPc578_0 : kPiece kSOx eMTg (kDp kUDf) 86 kHKx (kStep kSOx eCL eCT kUDf nKW nKC kKWL kLC nIC 4) kCS kStop_578 100000 kc_578 0 19 = true := fPiece_ok (by decide +kernel)
end
