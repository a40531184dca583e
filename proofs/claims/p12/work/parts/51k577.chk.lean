/-! A case of the law, by pieces. -/
noncomputable section
def kStop_577 (pc : Nat) : Bool := decide (pc = 1446)
def kStoq_577 (pc : Nat) : Bool := decide (pc = 1449)
theorem kPc577_0 : kPiece kSOx eMTg (kDp kUDf) 86 kHKx (kStep kSOx eCL eCT kUDf nKW nKC kKWL kLC nIC 4) kCS kStop_577 100000 kc_577 0 19 = true := fPiece_ok (by decide +kernel)
end
