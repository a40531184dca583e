theorem eChk_3 : (List.range' 60 20).all eChkM = true := by decide +kernel
theorem eChk_4 : (List.range' 80 20).all eChkM = true := by decide +kernel
theorem eChk_5 : (List.range' 100 20).all eChkM = true := by decide +kernel
