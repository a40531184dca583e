theorem eChkL_0 : eChkP 280 0 100 = true := by decide +kernel
theorem eChkL_100 : eChkP 280 100 100 = true := by decide +kernel
theorem eChkL_200 : eChkP 280 200 100 = true := by decide +kernel
theorem eChkL_300 : eChkP 280 300 100 = true := by decide +kernel
