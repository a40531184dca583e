/-! A case of the law, by pieces. -/
noncomputable section
def kStop_522 (pc : Nat) : Bool := decide (pc = 335)
def kStoq_522 (pc : Nat) : Bool := decide (pc = 338)
theorem kPc522_0 : kPiece kSOx eMTg (kDp kUDf) 86 kHKx (kStep kSOx eCL eCT kUDf nKW nKC kKWL kLC nIC 4) kCS kStop_522 100000 kc_522 0 3 = true := fPiece_ok (by decide +kernel)
end
