theorem eChkL_800 : eChkP 280 800 100 = true := by decide +kernel
theorem eChkL_900 : eChkP 280 900 100 = true := by decide +kernel
theorem eChkL_1000 : eChkP 280 1000 100 = true := by decide +kernel
theorem eChkL_1100 : eChkP 280 1100 100 = true := by decide +kernel
