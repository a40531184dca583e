/-! Each method's code stands in the tables. -/
def eCWp (mi : Nat) : Prop := ∀ M : eM, eMTg mi = some M → Cond.code M.1 M.2.1 M.2.2.1 M.2.2.2.1 ∈ lw_tbl
set_option maxRecDepth 100000 in
theorem eCW_0 : eCWp 0 := fun M h => by cases h; exact List.mem_of_getElem? (i := 123) rfl
set_option maxRecDepth 100000 in
theorem eCW_1 : eCWp 1 := fun M h => by cases h; exact List.mem_of_getElem? (i := 427) rfl
set_option maxRecDepth 100000 in
theorem eCW_2 : eCWp 2 := fun M h => by cases h; exact List.mem_of_getElem? (i := 447) rfl
set_option maxRecDepth 100000 in
theorem eCW_3 : eCWp 3 := fun M h => by cases h; exact List.mem_of_getElem? (i := 458) rfl
set_option maxRecDepth 100000 in
theorem eCW_4 : eCWp 4 := fun M h => by cases h; exact List.mem_of_getElem? (i := 466) rfl
set_option maxRecDepth 100000 in
theorem eCW_5 : eCWp 5 := fun M h => by cases h; exact List.mem_of_getElem? (i := 475) rfl
