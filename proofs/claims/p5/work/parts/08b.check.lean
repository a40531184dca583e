theorem eChkL_400 : eChkP 280 400 100 = true := by decide +kernel
theorem eChkL_500 : eChkP 280 500 100 = true := by decide +kernel
theorem eChkL_600 : eChkP 280 600 100 = true := by decide +kernel
theorem eChkL_700 : eChkP 280 700 100 = true := by decide +kernel
