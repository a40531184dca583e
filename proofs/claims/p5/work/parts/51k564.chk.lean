/-! A case of the law, by pieces. -/
noncomputable section
def kStop_564 (pc : Nat) : Bool := decide (pc = 1026)
def kStoq_564 (pc : Nat) : Bool := decide (pc = 1041)
theorem kPd564_0_0 : kPiece2 kSOx eMTg (kDp kUDf) 86 kHKx (kStep kSOx eCL eCT kUDf nKW nKC kKWL kLC nIC 4) kCS kStop_564 kStoq_564 100000 kc_564 0 0 4 = true := by decide +kernel
theorem kPd564_0_4 : kPiece2 kSOx eMTg (kDp kUDf) 86 kHKx (kStep kSOx eCL eCT kUDf nKW nKC kKWL kLC nIC 4) kCS kStop_564 kStoq_564 100000 kc_564 0 4 4 = true := by decide +kernel
theorem kPd564_0_8 : kPiece2 kSOx eMTg (kDp kUDf) 86 kHKx (kStep kSOx eCL eCT kUDf nKW nKC kKWL kLC nIC 4) kCS kStop_564 kStoq_564 100000 kc_564 0 8 4 = true := by decide +kernel
theorem kPd564_0_12 : kRemn2 kSOx eMTg (kDp kUDf) 86 kHKx (kStep kSOx eCL eCT kUDf nKW nKC kKWL kLC nIC 4) kCS kStop_564 kStoq_564 100000 kc_564 0 12 = true := by decide +kernel
theorem kPc564_0 : kPiece kSOx eMTg (kDp kUDf) 86 kHKx (kStep kSOx eCL eCT kUDf nKW nKC kKWL kLC nIC 4) kCS kStop_564 100000 kc_564 0 1 = true := kPiece_of2 (kPiece2_join kPd564_0_0 (kPiece2_join kPd564_0_4 (kPiece2_join kPd564_0_8 kPd564_0_12)))
theorem kPd564_1_0 : kPiece2 kSOx eMTg (kDp kUDf) 86 kHKx (kStep kSOx eCL eCT kUDf nKW nKC kKWL kLC nIC 4) kCS kStop_564 kStoq_564 100000 kc_564 1 0 4 = true := by decide +kernel
theorem kPd564_1_4 : kPiece2 kSOx eMTg (kDp kUDf) 86 kHKx (kStep kSOx eCL eCT kUDf nKW nKC kKWL kLC nIC 4) kCS kStop_564 kStoq_564 100000 kc_564 1 4 4 = true := by decide +kernel
theorem kPd564_1_8 : kPiece2 kSOx eMTg (kDp kUDf) 86 kHKx (kStep kSOx eCL eCT kUDf nKW nKC kKWL kLC nIC 4) kCS kStop_564 kStoq_564 100000 kc_564 1 8 4 = true := by decide +kernel
theorem kPd564_1_12 : kRemn2 kSOx eMTg (kDp kUDf) 86 kHKx (kStep kSOx eCL eCT kUDf nKW nKC kKWL kLC nIC 4) kCS kStop_564 kStoq_564 100000 kc_564 1 12 = true := by decide +kernel
theorem kPc564_1 : kPiece kSOx eMTg (kDp kUDf) 86 kHKx (kStep kSOx eCL eCT kUDf nKW nKC kKWL kLC nIC 4) kCS kStop_564 100000 kc_564 1 1 = true := kPiece_of2 (kPiece2_join kPd564_1_0 (kPiece2_join kPd564_1_4 (kPiece2_join kPd564_1_8 kPd564_1_12)))
theorem kPd564_2_0 : kPiece2 kSOx eMTg (kDp kUDf) 86 kHKx (kStep kSOx eCL eCT kUDf nKW nKC kKWL kLC nIC 4) kCS kStop_564 kStoq_564 100000 kc_564 2 0 4 = true := by decide +kernel
theorem kPd564_2_4 : kPiece2 kSOx eMTg (kDp kUDf) 86 kHKx (kStep kSOx eCL eCT kUDf nKW nKC kKWL kLC nIC 4) kCS kStop_564 kStoq_564 100000 kc_564 2 4 4 = true := by decide +kernel
theorem kPd564_2_8 : kPiece2 kSOx eMTg (kDp kUDf) 86 kHKx (kStep kSOx eCL eCT kUDf nKW nKC kKWL kLC nIC 4) kCS kStop_564 kStoq_564 100000 kc_564 2 8 4 = true := by decide +kernel
theorem kPd564_2_12 : kRemn2 kSOx eMTg (kDp kUDf) 86 kHKx (kStep kSOx eCL eCT kUDf nKW nKC kKWL kLC nIC 4) kCS kStop_564 kStoq_564 100000 kc_564 2 12 = true := by decide +kernel
theorem kPc564_2 : kPiece kSOx eMTg (kDp kUDf) 86 kHKx (kStep kSOx eCL eCT kUDf nKW nKC kKWL kLC nIC 4) kCS kStop_564 100000 kc_564 2 1 = true := kPiece_of2 (kPiece2_join kPd564_2_0 (kPiece2_join kPd564_2_4 (kPiece2_join kPd564_2_8 kPd564_2_12)))
theorem kPd564_3_0 : kPiece2 kSOx eMTg (kDp kUDf) 86 kHKx (kStep kSOx eCL eCT kUDf nKW nKC kKWL kLC nIC 4) kCS kStop_564 kStoq_564 100000 kc_564 3 0 4 = true := by decide +kernel
theorem kPd564_3_4 : kPiece2 kSOx eMTg (kDp kUDf) 86 kHKx (kStep kSOx eCL eCT kUDf nKW nKC kKWL kLC nIC 4) kCS kStop_564 kStoq_564 100000 kc_564 3 4 4 = true := by decide +kernel
theorem kPd564_3_8 : kPiece2 kSOx eMTg (kDp kUDf) 86 kHKx (kStep kSOx eCL eCT kUDf nKW nKC kKWL kLC nIC 4) kCS kStop_564 kStoq_564 100000 kc_564 3 8 4 = true := by decide +kernel
theorem kPd564_3_12 : kRemn2 kSOx eMTg (kDp kUDf) 86 kHKx (kStep kSOx eCL eCT kUDf nKW nKC kKWL kLC nIC 4) kCS kStop_564 kStoq_564 100000 kc_564 3 12 = true := by decide +kernel
theorem kPc564_3 : kPiece kSOx eMTg (kDp kUDf) 86 kHKx (kStep kSOx eCL eCT kUDf nKW nKC kKWL kLC nIC 4) kCS kStop_564 100000 kc_564 3 1 = true := kPiece_of2 (kPiece2_join kPd564_3_0 (kPiece2_join kPd564_3_4 (kPiece2_join kPd564_3_8 kPd564_3_12)))
theorem kPd564_4_0 : kPiece2 kSOx eMTg (kDp kUDf) 86 kHKx (kStep kSOx eCL eCT kUDf nKW nKC kKWL kLC nIC 4) kCS kStop_564 kStoq_564 100000 kc_564 4 0 4 = true := by decide +kernel
theorem kPd564_4_4 : kPiece2 kSOx eMTg (kDp kUDf) 86 kHKx (kStep kSOx eCL eCT kUDf nKW nKC kKWL kLC nIC 4) kCS kStop_564 kStoq_564 100000 kc_564 4 4 4 = true := by decide +kernel
theorem kPd564_4_8 : kPiece2 kSOx eMTg (kDp kUDf) 86 kHKx (kStep kSOx eCL eCT kUDf nKW nKC kKWL kLC nIC 4) kCS kStop_564 kStoq_564 100000 kc_564 4 8 4 = true := by decide +kernel
theorem kPd564_4_12 : kRemn2 kSOx eMTg (kDp kUDf) 86 kHKx (kStep kSOx eCL eCT kUDf nKW nKC kKWL kLC nIC 4) kCS kStop_564 kStoq_564 100000 kc_564 4 12 = true := by decide +kernel
theorem kPc564_4 : kPiece kSOx eMTg (kDp kUDf) 86 kHKx (kStep kSOx eCL eCT kUDf nKW nKC kKWL kLC nIC 4) kCS kStop_564 100000 kc_564 4 1 = true := kPiece_of2 (kPiece2_join kPd564_4_0 (kPiece2_join kPd564_4_4 (kPiece2_join kPd564_4_8 kPd564_4_12)))
theorem kPd564_5_0 : kPiece2 kSOx eMTg (kDp kUDf) 86 kHKx (kStep kSOx eCL eCT kUDf nKW nKC kKWL kLC nIC 4) kCS kStop_564 kStoq_564 100000 kc_564 5 0 4 = true := by decide +kernel
theorem kPd564_5_4 : kPiece2 kSOx eMTg (kDp kUDf) 86 kHKx (kStep kSOx eCL eCT kUDf nKW nKC kKWL kLC nIC 4) kCS kStop_564 kStoq_564 100000 kc_564 5 4 4 = true := by decide +kernel
theorem kPd564_5_8 : kPiece2 kSOx eMTg (kDp kUDf) 86 kHKx (kStep kSOx eCL eCT kUDf nKW nKC kKWL kLC nIC 4) kCS kStop_564 kStoq_564 100000 kc_564 5 8 4 = true := by decide +kernel
theorem kPd564_5_12 : kRemn2 kSOx eMTg (kDp kUDf) 86 kHKx (kStep kSOx eCL eCT kUDf nKW nKC kKWL kLC nIC 4) kCS kStop_564 kStoq_564 100000 kc_564 5 12 = true := by decide +kernel
theorem kPc564_5 : kPiece kSOx eMTg (kDp kUDf) 86 kHKx (kStep kSOx eCL eCT kUDf nKW nKC kKWL kLC nIC 4) kCS kStop_564 100000 kc_564 5 1 = true := kPiece_of2 (kPiece2_join kPd564_5_0 (kPiece2_join kPd564_5_4 (kPiece2_join kPd564_5_8 kPd564_5_12)))
theorem kPc564_6 : kPiece kSOx eMTg (kDp kUDf) 86 kHKx (kStep kSOx eCL eCT kUDf nKW nKC kKWL kLC nIC 4) kCS kStop_564 100000 kc_564 6 2 = true := fPiece_ok (by decide +kernel)
theorem kPc564_r : kRemn kSOx eMTg (kDp kUDf) 86 kHKx (kStep kSOx eCL eCT kUDf nKW nKC kKWL kLC nIC 4) kCS kStop_564 100000 kc_564 8 = true := fRemn_ok (by decide +kernel)
theorem kPc564_h : kChk0 kc_564 = true := by decide +kernel
theorem kt_564 : kGo kc_564 = true := kChk_cut kPc564_h (kPiece_join kPc564_0 (kPiece_join kPc564_1 (kPiece_join kPc564_2 (kPiece_join kPc564_3 (kPiece_join kPc564_4 (kPiece_join kPc564_5 (kPiece_join kPc564_6 kPc564_r)))))))
end
