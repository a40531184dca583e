theorem eChk_12 : (List.range' 240 20).all eChkM = true := by decide +kernel
theorem eChk_13 : (List.range' 260 20).all eChkM = true := by decide +kernel
