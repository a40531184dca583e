/-- the instructions of a method from a place on -/
def eChkP (mi lo n : Nat) : Bool := match eMTg mi with
  | none => true
  | some M => (List.range' lo n).all (fun pc => match M.2.2.2.2.2 pc with
    | none => true
    | some I => eOkI lw_tbl eNW eCL 5 eSN eNC eMTg M pc I)
theorem eChkL_0 : eChkP 282 0 100 = true := by decide +kernel
theorem eChkL_100 : eChkP 282 100 100 = true := by decide +kernel
theorem eChkL_200 : eChkP 282 200 100 = true := by decide +kernel
theorem eChkL_300 : eChkP 282 300 100 = true := by decide +kernel
