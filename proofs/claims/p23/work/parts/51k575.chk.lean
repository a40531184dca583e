/-! A case of the law, by pieces. -/
noncomputable section
def kStop_575 (pc : Nat) : Bool := decide (pc = 335)
def kStoq_575 (pc : Nat) : Bool := decide (pc = 338)
theorem kPc575_0 : kPiece kSOx eMTg (kDp kUDf) 86 kHKx (kStep kSOx eCL eCT kUDf nKW nKC kKWL kLC nIC 4) kCS kStop_575 100000 kc_575 0 3 = true := fPiece_ok (by decide +kernel)
end
