/-! The methods' table, within its bounds. -/
noncomputable def eMTg (mi : Nat) : Option eM := if mi < 281 then eMT mi else none
