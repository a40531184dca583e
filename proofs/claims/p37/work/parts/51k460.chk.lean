/-! A case of the law, by pieces. -/
noncomputable section
def kStop_460 (pc : Nat) : Bool := decide (pc = 1188)
def kStoq_460 (pc : Nat) : Bool := decide (pc = 1191)
theorem kPc460_0 : kPiece kSOx eMTg (kDp kUDf) 86 kHKx (kStep kSOx eCL eCT kUDf kKW kKC kKWL kLC kIC 4) kCS kStop_460 100000 kc_460 0 2 = true := fPiece_ok (by decide +kernel)
end
