theorem eChk_6 : (List.range' 120 20).all eChkM = true := by decide +kernel
theorem eChk_7 : (List.range' 140 20).all eChkM = true := by decide +kernel
theorem eChk_8 : (List.range' 160 20).all eChkM = true := by decide +kernel
