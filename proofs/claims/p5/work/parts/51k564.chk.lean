/-! A case of the law, by pieces. -/
noncomputable section
def kStop_564 (pc : Nat) : Bool := decide (pc = 1026)
def kStoq_564 (pc : Nat) : Bool := decide (pc = 1041)
theorem kPd564_0_0 : kPiece2 kSOx eMTg (kDp kUDf) 86 kHKx (kStep kSOx eCL eCT kUDf nKW nKC kKWL kLC nIC 4) kCS kStop_564 kStoq_564 100000 kc_564 0 0 3 = true := by decide +kernel
theorem kPd564_0_3 : kPiece2 kSOx eMTg (kDp kUDf) 86 kHKx (kStep kSOx eCL eCT kUDf nKW nKC kKWL kLC nIC 4) kCS kStop_564 kStoq_564 100000 kc_564 0 3 3 = true := by decide +kernel
theorem kPd564_0_6 : kPiece2 kSOx eMTg (kDp kUDf) 86 kHKx (kStep kSOx eCL eCT kUDf nKW nKC kKWL kLC nIC 4) kCS kStop_564 kStoq_564 100000 kc_564 0 6 3 = true := by decide +kernel
theorem kPd564_0_9 : kPiece2 kSOx eMTg (kDp kUDf) 86 kHKx (kStep kSOx eCL eCT kUDf nKW nKC kKWL kLC nIC 4) kCS kStop_564 kStoq_564 100000 kc_564 0 9 3 = true := by decide +kernel
theorem kPd564_0_12 : kRemn2 kSOx eMTg (kDp kUDf) 86 kHKx (kStep kSOx eCL eCT kUDf nKW nKC kKWL kLC nIC 4) kCS kStop_564 kStoq_564 100000 kc_564 0 12 = true := by decide +kernel
theorem kPc564_0 : kPiece kSOx eMTg (kDp kUDf) 86 kHKx (kStep kSOx eCL eCT kUDf nKW nKC kKWL kLC nIC 4) kCS kStop_564 100000 kc_564 0 1 = true := kPiece_of2 (kPiece2_join kPd564_0_0 (kPiece2_join kPd564_0_3 (kPiece2_join kPd564_0_6 (kPiece2_join kPd564_0_9 kPd564_0_12))))
theorem kPd564_1_0 : kPiece2 kSOx eMTg (kDp kUDf) 86 kHKx (kStep kSOx eCL eCT kUDf nKW nKC kKWL kLC nIC 4) kCS kStop_564 kStoq_564 100000 kc_564 1 0 3 = true := by decide +kernel
theorem kPd564_1_3 : kPiece2 kSOx eMTg (kDp kUDf) 86 kHKx (kStep kSOx eCL eCT kUDf nKW nKC kKWL kLC nIC 4) kCS kStop_564 kStoq_564 100000 kc_564 1 3 3 = true := by decide +kernel
theorem kPd564_1_6 : kPiece2 kSOx eMTg (kDp kUDf) 86 kHKx (kStep kSOx eCL eCT kUDf nKW nKC kKWL kLC nIC 4) kCS kStop_564 kStoq_564 100000 kc_564 1 6 3 = true := by decide +kernel
theorem kPd564_1_9 : kPiece2 kSOx eMTg (kDp kUDf) 86 kHKx (kStep kSOx eCL eCT kUDf nKW nKC kKWL kLC nIC 4) kCS kStop_564 kStoq_564 100000 kc_564 1 9 3 = true := by decide +kernel
theorem kPd564_1_12 : kRemn2 kSOx eMTg (kDp kUDf) 86 kHKx (kStep kSOx eCL eCT kUDf nKW nKC kKWL kLC nIC 4) kCS kStop_564 kStoq_564 100000 kc_564 1 12 = true := by decide +kernel
theorem kPc564_1 : kPiece kSOx eMTg (kDp kUDf) 86 kHKx (kStep kSOx eCL eCT kUDf nKW nKC kKWL kLC nIC 4) kCS kStop_564 100000 kc_564 1 1 = true := kPiece_of2 (kPiece2_join kPd564_1_0 (kPiece2_join kPd564_1_3 (kPiece2_join kPd564_1_6 (kPiece2_join kPd564_1_9 kPd564_1_12))))
theorem kPd564_2_0 : kPiece2 kSOx eMTg (kDp kUDf) 86 kHKx (kStep kSOx eCL eCT kUDf nKW nKC kKWL kLC nIC 4) kCS kStop_564 kStoq_564 100000 kc_564 2 0 3 = true := by decide +kernel
theorem kPd564_2_3 : kPiece2 kSOx eMTg (kDp kUDf) 86 kHKx (kStep kSOx eCL eCT kUDf nKW nKC kKWL kLC nIC 4) kCS kStop_564 kStoq_564 100000 kc_564 2 3 3 = true := by decide +kernel
theorem kPd564_2_6 : kPiece2 kSOx eMTg (kDp kUDf) 86 kHKx (kStep kSOx eCL eCT kUDf nKW nKC kKWL kLC nIC 4) kCS kStop_564 kStoq_564 100000 kc_564 2 6 3 = true := by decide +kernel
theorem kPd564_2_9 : kPiece2 kSOx eMTg (kDp kUDf) 86 kHKx (kStep kSOx eCL eCT kUDf nKW nKC kKWL kLC nIC 4) kCS kStop_564 kStoq_564 100000 kc_564 2 9 3 = true := by decide +kernel
theorem kPd564_2_12 : kRemn2 kSOx eMTg (kDp kUDf) 86 kHKx (kStep kSOx eCL eCT kUDf nKW nKC kKWL kLC nIC 4) kCS kStop_564 kStoq_564 100000 kc_564 2 12 = true := by decide +kernel
theorem kPc564_2 : kPiece kSOx eMTg (kDp kUDf) 86 kHKx (kStep kSOx eCL eCT kUDf nKW nKC kKWL kLC nIC 4) kCS kStop_564 100000 kc_564 2 1 = true := kPiece_of2 (kPiece2_join kPd564_2_0 (kPiece2_join kPd564_2_3 (kPiece2_join kPd564_2_6 (kPiece2_join kPd564_2_9 kPd564_2_12))))
theorem kPd564_3_0 : kPiece2 kSOx eMTg (kDp kUDf) 86 kHKx (kStep kSOx eCL eCT kUDf nKW nKC kKWL kLC nIC 4) kCS kStop_564 kStoq_564 100000 kc_564 3 0 3 = true := by decide +kernel
theorem kPd564_3_3 : kPiece2 kSOx eMTg (kDp kUDf) 86 kHKx (kStep kSOx eCL eCT kUDf nKW nKC kKWL kLC nIC 4) kCS kStop_564 kStoq_564 100000 kc_564 3 3 3 = true := by decide +kernel
theorem kPd564_3_6 : kPiece2 kSOx eMTg (kDp kUDf) 86 kHKx (kStep kSOx eCL eCT kUDf nKW nKC kKWL kLC nIC 4) kCS kStop_564 kStoq_564 100000 kc_564 3 6 3 = true := by decide +kernel
theorem kPd564_3_9 : kPiece2 kSOx eMTg (kDp kUDf) 86 kHKx (kStep kSOx eCL eCT kUDf nKW nKC kKWL kLC nIC 4) kCS kStop_564 kStoq_564 100000 kc_564 3 9 3 = true := by decide +kernel
theorem kPd564_3_12 : kRemn2 kSOx eMTg (kDp kUDf) 86 kHKx (kStep kSOx eCL eCT kUDf nKW nKC kKWL kLC nIC 4) kCS kStop_564 kStoq_564 100000 kc_564 3 12 = true := by decide +kernel
theorem kPc564_3 : kPiece kSOx eMTg (kDp kUDf) 86 kHKx (kStep kSOx eCL eCT kUDf nKW nKC kKWL kLC nIC 4) kCS kStop_564 100000 kc_564 3 1 = true := kPiece_of2 (kPiece2_join kPd564_3_0 (kPiece2_join kPd564_3_3 (kPiece2_join kPd564_3_6 (kPiece2_join kPd564_3_9 kPd564_3_12))))
theorem kPd564_4_0 : kPiece2 kSOx eMTg (kDp kUDf) 86 kHKx (kStep kSOx eCL eCT kUDf nKW nKC kKWL kLC nIC 4) kCS kStop_564 kStoq_564 100000 kc_564 4 0 3 = true := by decide +kernel
theorem kPd564_4_3 : kPiece2 kSOx eMTg (kDp kUDf) 86 kHKx (kStep kSOx eCL eCT kUDf nKW nKC kKWL kLC nIC 4) kCS kStop_564 kStoq_564 100000 kc_564 4 3 3 = true := by decide +kernel
theorem kPd564_4_6 : kPiece2 kSOx eMTg (kDp kUDf) 86 kHKx (kStep kSOx eCL eCT kUDf nKW nKC kKWL kLC nIC 4) kCS kStop_564 kStoq_564 100000 kc_564 4 6 3 = true := by decide +kernel
theorem kPd564_4_9 : kPiece2 kSOx eMTg (kDp kUDf) 86 kHKx (kStep kSOx eCL eCT kUDf nKW nKC kKWL kLC nIC 4) kCS kStop_564 kStoq_564 100000 kc_564 4 9 3 = true := by decide +kernel
theorem kPd564_4_12 : kRemn2 kSOx eMTg (kDp kUDf) 86 kHKx (kStep kSOx eCL eCT kUDf nKW nKC kKWL kLC nIC 4) kCS kStop_564 kStoq_564 100000 kc_564 4 12 = true := by decide +kernel
theorem kPc564_4 : kPiece kSOx eMTg (kDp kUDf) 86 kHKx (kStep kSOx eCL eCT kUDf nKW nKC kKWL kLC nIC 4) kCS kStop_564 100000 kc_564 4 1 = true := kPiece_of2 (kPiece2_join kPd564_4_0 (kPiece2_join kPd564_4_3 (kPiece2_join kPd564_4_6 (kPiece2_join kPd564_4_9 kPd564_4_12))))
theorem kPd564_5_0 : kPiece2 kSOx eMTg (kDp kUDf) 86 kHKx (kStep kSOx eCL eCT kUDf nKW nKC kKWL kLC nIC 4) kCS kStop_564 kStoq_564 100000 kc_564 5 0 3 = true := by decide +kernel
theorem kPd564_5_3 : kPiece2 kSOx eMTg (kDp kUDf) 86 kHKx (kStep kSOx eCL eCT kUDf nKW nKC kKWL kLC nIC 4) kCS kStop_564 kStoq_564 100000 kc_564 5 3 3 = true := by decide +kernel
theorem kPd564_5_6 : kPiece2 kSOx eMTg (kDp kUDf) 86 kHKx (kStep kSOx eCL eCT kUDf nKW nKC kKWL kLC nIC 4) kCS kStop_564 kStoq_564 100000 kc_564 5 6 3 = true := by decide +kernel
theorem kPd564_5_9 : kPiece2 kSOx eMTg (kDp kUDf) 86 kHKx (kStep kSOx eCL eCT kUDf nKW nKC kKWL kLC nIC 4) kCS kStop_564 kStoq_564 100000 kc_564 5 9 3 = true := by decide +kernel
theorem kPd564_5_12 : kRemn2 kSOx eMTg (kDp kUDf) 86 kHKx (kStep kSOx eCL eCT kUDf nKW nKC kKWL kLC nIC 4) kCS kStop_564 kStoq_564 100000 kc_564 5 12 = true := by decide +kernel
theorem kPc564_5 : kPiece kSOx eMTg (kDp kUDf) 86 kHKx (kStep kSOx eCL eCT kUDf nKW nKC kKWL kLC nIC 4) kCS kStop_564 100000 kc_564 5 1 = true := kPiece_of2 (kPiece2_join kPd564_5_0 (kPiece2_join kPd564_5_3 (kPiece2_join kPd564_5_6 (kPiece2_join kPd564_5_9 kPd564_5_12))))
theorem kPc564_6 : kPiece kSOx eMTg (kDp kUDf) 86 kHKx (kStep kSOx eCL eCT kUDf nKW nKC kKWL kLC nIC 4) kCS kStop_564 100000 kc_564 6 2 = true := fPiece_ok (by decide +kernel)
theorem kPc564_r : kRemn kSOx eMTg (kDp kUDf) 86 kHKx (kStep kSOx eCL eCT kUDf nKW nKC kKWL kLC nIC 4) kCS kStop_564 100000 kc_564 8 = true := fRemn_ok (by decide +kernel)
theorem kPc564_h : kChk0 kc_564 = true := by decide +kernel
theorem kt_564 : kGo kc_564 = true := kChk_cut kPc564_h (kPiece_join kPc564_0 (kPiece_join kPc564_1 (kPiece_join kPc564_2 (kPiece_join kPc564_3 (kPiece_join kPc564_4 (kPiece_join kPc564_5 (kPiece_join kPc564_6 kPc564_r)))))))
end
