theorem eChkL_800 : eChkP 282 800 100 = true := by decide +kernel
theorem eChkL_900 : eChkP 282 900 100 = true := by decide +kernel
theorem eChkL_1000 : eChkP 282 1000 100 = true := by decide +kernel
theorem eChkL_1100 : eChkP 282 1100 100 = true := by decide +kernel
