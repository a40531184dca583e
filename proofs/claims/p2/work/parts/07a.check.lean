/-! The tables' checks, by the kernel. -/
noncomputable def eChkM (mi : Nat) : Bool := match eMTg mi with
  | none => true
  | some M => (List.range M.2.2.2.2.1).all (fun pc => match M.2.2.2.2.2 pc with
    | none => true
    | some I => eOkI lw_tbl eNW eCL 5 eSN eNC eMTg M pc I)
/-- the instructions of a method from a place on -/
noncomputable def eChkP (mi lo n : Nat) : Bool := match eMTg mi with
  | none => true
  | some M => (List.range' lo n).all (fun pc => match M.2.2.2.2.2 pc with
    | none => true
    | some I => eOkI lw_tbl eNW eCL 5 eSN eNC eMTg M pc I)
theorem eChk_0 : (List.range' 0 20).all eChkM = true := by decide +kernel
theorem eChk_1 : (List.range' 20 20).all eChkM = true := by decide +kernel
theorem eChk_2 : (List.range' 40 20).all eChkM = true := by decide +kernel
