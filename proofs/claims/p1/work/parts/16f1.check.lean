theorem eChkL_400 : eChkP 282 400 100 = true := by decide +kernel
theorem eChkL_500 : eChkP 282 500 100 = true := by decide +kernel
theorem eChkL_600 : eChkP 282 600 100 = true := by decide +kernel
theorem eChkL_700 : eChkP 282 700 100 = true := by decide +kernel
