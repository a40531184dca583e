/-! A case of the law, by pieces. -/
noncomputable section
def kStop_596 (pc : Nat) : Bool := decide (pc = 1446)
def kStoq_596 (pc : Nat) : Bool := decide (pc = 1449)
theorem kPc596_0 : kPiece kSOx eMTg (kDp kUDf) 86 kHKx (kStep kSOx eCL eCT kUDf kKW kKC kKWL kLC kIC 4) kCS kStop_596 100000 kc_596 0 19 = true := fPiece_ok (by decide +kernel)
end
