/-! A case of the law, by pieces. -/
noncomputable section
def kStop_599 (pc : Nat) : Bool := decide (pc = 1447)
def kStoq_599 (pc : Nat) : Bool := decide (pc = 1477)
theorem kPc599_0 : kPiece kSOx eMTg (kDp kUDf) 86 kHKx (kStep kSOx eCL eCT kUDf kKW kKC kKWL kLC kIC 4) kCS kStop_599 100000 kc_599 0 7 = true := fPiece_ok (by decide +kernel)
theorem kPc599_7 : kPiece kSOx eMTg (kDp kUDf) 86 kHKx (kStep kSOx eCL eCT kUDf kKW kKC kKWL kLC kIC 4) kCS kStop_599 100000 kc_599 7 8 = true := fPiece_ok (by decide +kernel)
theorem kPc599_15 : kPiece kSOx eMTg (kDp kUDf) 86 kHKx (kStep kSOx eCL eCT kUDf kKW kKC kKWL kLC kIC 4) kCS kStop_599 100000 kc_599 15 6 = true := fPiece_ok (by decide +kernel)
theorem kPc599_21 : kPiece kSOx eMTg (kDp kUDf) 86 kHKx (kStep kSOx eCL eCT kUDf kKW kKC kKWL kLC kIC 4) kCS kStop_599 100000 kc_599 21 6 = true := fPiece_ok (by decide +kernel)
theorem kPc599_27 : kPiece kSOx eMTg (kDp kUDf) 86 kHKx (kStep kSOx eCL eCT kUDf kKW kKC kKWL kLC kIC 4) kCS kStop_599 100000 kc_599 27 6 = true := fPiece_ok (by decide +kernel)
theorem kPc599_33 : kPiece kSOx eMTg (kDp kUDf) 86 kHKx (kStep kSOx eCL eCT kUDf kKW kKC kKWL kLC kIC 4) kCS kStop_599 100000 kc_599 33 6 = true := fPiece_ok (by decide +kernel)
theorem kPc599_39 : kPiece kSOx eMTg (kDp kUDf) 86 kHKx (kStep kSOx eCL eCT kUDf kKW kKC kKWL kLC kIC 4) kCS kStop_599 100000 kc_599 39 6 = true := fPiece_ok (by decide +kernel)
theorem kPc599_45 : kPiece kSOx eMTg (kDp kUDf) 86 kHKx (kStep kSOx eCL eCT kUDf kKW kKC kKWL kLC kIC 4) kCS kStop_599 100000 kc_599 45 6 = true := fPiece_ok (by decide +kernel)
theorem kPc599_51 : kPiece kSOx eMTg (kDp kUDf) 86 kHKx (kStep kSOx eCL eCT kUDf kKW kKC kKWL kLC kIC 4) kCS kStop_599 100000 kc_599 51 6 = true := fPiece_ok (by decide +kernel)
theorem kPc599_57 : kPiece kSOx eMTg (kDp kUDf) 86 kHKx (kStep kSOx eCL eCT kUDf kKW kKC kKWL kLC kIC 4) kCS kStop_599 100000 kc_599 57 6 = true := fPiece_ok (by decide +kernel)
theorem kPc599_63 : kPiece kSOx eMTg (kDp kUDf) 86 kHKx (kStep kSOx eCL eCT kUDf kKW kKC kKWL kLC kIC 4) kCS kStop_599 100000 kc_599 63 1 = true := fPiece_ok (by decide +kernel)
theorem kPc599_r : kRemn kSOx eMTg (kDp kUDf) 86 kHKx (kStep kSOx eCL eCT kUDf kKW kKC kKWL kLC kIC 4) kCS kStop_599 100000 kc_599 64 = true := fRemn_ok (by decide +kernel)
theorem kPc599_h : kChk0 kc_599 = true := by decide +kernel
theorem kt_599 : kGo kc_599 = true := kChk_cut kPc599_h (kPiece_join kPc599_0 (kPiece_join kPc599_7 (kPiece_join kPc599_15 (kPiece_join kPc599_21 (kPiece_join kPc599_27 (kPiece_join kPc599_33 (kPiece_join kPc599_39 (kPiece_join kPc599_45 (kPiece_join kPc599_51 (kPiece_join kPc599_57 (kPiece_join kPc599_63 kPc599_r)))))))))))
end
