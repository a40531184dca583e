theorem eChk_9 : (List.range' 180 20).all eChkM = true := by decide +kernel
theorem eChk_10 : (List.range' 200 20).all eChkM = true := by decide +kernel
theorem eChk_11 : (List.range' 220 20).all eChkM = true := by decide +kernel
