/-! The same case, further. -/
theorem kPc563_r : kRemn kSOx eMTg (kDp kUDf) 86 kHKx (kStep kSOx eCL eCT kUDf nKW nKC kKWL kLC nIC 4) kCS kStop_563 100000 kc_563 1 = true := fRemn_ok (by decide +kernel)
theorem kPc563_h : kChk0 kc_563 = true := by decide +kernel
theorem kt_563 : kGo kc_563 = true := kChk_cut kPc563_h (kPiece_join kPc563_0 kPc563_r)
