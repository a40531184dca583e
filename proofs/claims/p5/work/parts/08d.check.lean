theorem eChkL_1200 : eChkP 280 1200 100 = true := by decide +kernel
theorem eChkL_1300 : eChkP 280 1300 100 = true := by decide +kernel
theorem eChkL_1400 : eChkP 280 1400 100 = true := by decide +kernel
theorem eChkL_1500 : eChkP 280 1500 47 = true := by decide +kernel
