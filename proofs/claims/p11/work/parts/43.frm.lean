/-! What a step leaves of the heap. -/
noncomputable section
section EFRM
variable {RO : List (Nat × (Nat → Int32))} {CL : List vw_C} {CT : Nat → Nat → FieldType} {nx a b k mL : Nat} {z : Int} {R R' : eR}
theorem f3 (h : e3 nx a b R = some R') : R'.2.2.2.1 = R.2.2.2.1 := by
  obtain ⟨pc, ls, st, G, c, s⟩ := R
  simp only [e3] at h
  repeat' split at h
  all_goals first | (cases h; rfl) | cases h
theorem f4 (h : e4 mL nx a b R = some R') : R'.2.2.2.1 = R.2.2.2.1 := by
  obtain ⟨pc, ls, st, G, c, s⟩ := R
  unfold e4 at h
  repeat' split at h
  all_goals first | (rename_i heq _ _ _; cases heq; cases h; rfl) | (rename_i heq _ _; cases heq; cases h; rfl) | cases h
theorem f5 (h : e5 mL nx a z R = some R') : R'.2.2.2.1 = R.2.2.2.1 := by
  obtain ⟨pc, ls, st, G, c, s⟩ := R
  simp only [e5] at h
  repeat' split at h
  all_goals first | (cases h; rfl) | cases h
theorem f6 (h : e6 nx b R = some R') : R'.2.2.2.1 = R.2.2.2.1 := by
  obtain ⟨pc, ls, st, G, c, s⟩ := R
  unfold e6 at h
  split at h
  · rename_i heq; cases heq
    obtain ⟨v, -, rfl⟩ := Option.map_eq_some_iff.mp h
    rfl
  · cases h
theorem f7 (h : e7 nx b R = some R') : R'.2.2.2.1 = R.2.2.2.1 := by
  obtain ⟨pc, ls, st, G, c, s⟩ := R
  unfold e7 at h
  split at h
  · rename_i heq; cases heq
    obtain ⟨v, -, rfl⟩ := Option.map_eq_some_iff.mp h
    rfl
  · cases h
theorem f8 (h : e8 nx b R = some R') : R'.2.2.2.1 = R.2.2.2.1 := by
  obtain ⟨pc, ls, st, G, c, s⟩ := R
  unfold e8 at h
  split at h
  · rename_i heq; cases heq
    obtain ⟨v, -, rfl⟩ := Option.map_eq_some_iff.mp h
    rfl
  · cases h
theorem f9 (h : e9 nx R = some R') : R'.2.2.2.1 = R.2.2.2.1 := by
  obtain ⟨pc, ls, st, G, c, s⟩ := R
  unfold e9 at h
  split at h
  · rename_i heq; cases heq; cases h; rfl
  · cases h
theorem f10 (h : e10 nx R = some R') : R'.2.2.2.1 = R.2.2.2.1 := by
  obtain ⟨pc, ls, st, G, c, s⟩ := R
  unfold e10 at h
  split at h
  · rename_i heq; cases heq; cases h; rfl
  · cases h
theorem f12 (h : e12 nx a b R = some R') : R'.2.2.2.1 = R.2.2.2.1 := by
  obtain ⟨pc, ls, st, G, c, s⟩ := R
  unfold e12 at h
  split at h
  · rename_i heq; cases heq; cases h; rfl
  · cases h
theorem f13 (h : e13 nx a b R = some R') : R'.2.2.2.1 = R.2.2.2.1 := by
  obtain ⟨pc, ls, st, G, c, s⟩ := R
  unfold e13 at h
  split at h
  · rename_i heq; cases heq; cases h; rfl
  · cases h
theorem f15 {sw : List (Int × Nat)} (h : e15 a sw R = some R') : R'.2.2.2.1 = R.2.2.2.1 := by
  obtain ⟨pc, ls, st, G, c, s⟩ := R
  unfold e15 at h
  split at h
  · rename_i heq; cases heq; cases h; rfl
  · cases h
theorem f16 (h : e16 RO nx b k R = some R') : R'.2.2.2.1 = R.2.2.2.1 := by
  obtain ⟨pc, ls, st, G, c, s⟩ := R
  unfold e16 at h
  split at h
  · rename_i heq; cases heq
    split at h
    · cases h
    split at h
    · split at h
      · obtain ⟨v, -, rfl⟩ := Option.map_eq_some_iff.mp h
        rfl
      · cases h
    · cases h
  · cases h
theorem f18 (h : e18 nx b R = some R') : R'.2.2.2.1 = R.2.2.2.1 := by
  obtain ⟨pc, ls, st, G, c, s⟩ := R
  cases h
  rfl
theorem f19 (h : e19 RO nx b R = some R') : R'.2.2.2.1 = R.2.2.2.1 := by
  obtain ⟨pc, ls, st, G, c, s⟩ := R
  unfold e19 at h
  split at h
  · rename_i heq; cases heq
    repeat' split at h
    all_goals first | (cases h; rfl) | cases h
  · cases h
theorem f21 (h : e21 RO nx R = some R') : R'.2.2.2.1 = R.2.2.2.1 := by
  obtain ⟨pc, ls, st, G, c, s⟩ := R
  unfold e21 at h
  split at h
  · rename_i heq; cases heq
    repeat' split at h
    all_goals first | (cases h; rfl) | cases h
  · cases h
theorem f26 (h : e26 nx b R = some R') : R'.2.2.2.1 = R.2.2.2.1 := by
  obtain ⟨pc, ls, st, G, c, s⟩ := R
  unfold e26 at h
  split at h
  · rename_i heq; cases heq
    repeat' split at h
    all_goals first | (cases h; rfl) | cases h
  · cases h
theorem f30 (h : e30 nx R = some R') : R'.2.2.2.1 = R.2.2.2.1 := by
  obtain ⟨pc, ls, st, G, c, s⟩ := R
  unfold e30 at h
  split at h
  · rename_i heq; cases heq
    repeat' split at h
    all_goals first | (cases h; rfl) | cases h
  · cases h
theorem f32 (h : e32 nx b R = some R') : R'.2.2.2.1 = R.2.2.2.1 := by
  obtain ⟨pc, ls, st, G, c, s⟩ := R
  unfold e32 at h
  split at h
  · rename_i heq; cases heq
    split at h
    · cases h
    · cases h; rfl
  · cases h
/-- the cell that a write goes to -/
theorem f17 {v : Value} {q : Nat} {st : List Value} (h : e17 RO CT nx b k R = some R') (hs : R.2.2.1 = v :: .ref q :: st) : ∃ x, R'.2.2.2.1 = R.2.2.2.1.set (q - RO.length) x := by
  obtain ⟨pc, ls, st', G, c, s⟩ := R
  simp only at hs
  subst hs
  simp only [e17] at h
  repeat' split at h
  all_goals first | (cases h; exact ⟨_, rfl⟩) | cases h
theorem f20 {v w : Value} {q : Nat} {st : List Value} (h : e20 RO CL nx b R = some R') (hs : R.2.2.1 = v :: w :: .ref q :: st) : ∃ x, R'.2.2.2.1 = R.2.2.2.1.set (q - RO.length) x := by
  obtain ⟨pc, ls, st', G, c, s⟩ := R
  simp only at hs
  subst hs
  unfold e20 at h
  split at h
  · rename_i heq; cases heq
    repeat' split at h
    all_goals first | (cases h; exact ⟨_, rfl⟩) | cases h
  · cases h
theorem f31 {v0 v1 v2 v3 : Value} {q : Nat} {st : List Value} (h : e31 RO nx R = some R') (hs : R.2.2.1 = v0 :: v1 :: .ref q :: v2 :: v3 :: st) : ∃ x, R'.2.2.2.1 = R.2.2.2.1.set (q - RO.length) x := by
  obtain ⟨pc, ls, st', G, c, s⟩ := R
  simp only at hs
  subst hs
  unfold e31 at h
  split at h
  · rename_i heq; cases heq
    repeat' split at h
    all_goals first | (cases h; exact ⟨_, rfl⟩) | cases h
  · cases h
theorem f22 (h : e22 RO CL CT nx b R = some R') : ∃ t, R'.2.2.2.1 = R.2.2.2.1 ++ t := by
  obtain ⟨pc, ls, st, G, c, s⟩ := R
  simp only [e22] at h
  repeat' split at h
  all_goals first | (cases h; exact ⟨_, rfl⟩) | cases h
theorem f23 (h : e23 RO nx b R = some R') : ∃ t, R'.2.2.2.1 = R.2.2.2.1 ++ t := by
  obtain ⟨pc, ls, st, G, c, s⟩ := R
  unfold e23 at h
  split at h
  · rename_i heq; cases heq
    split at h
    · cases h
    split at h
    · obtain ⟨v, -, rfl⟩ := Option.map_eq_some_iff.mp h
      exact ⟨_, rfl⟩
    · cases h
  · cases h
theorem f24 (h : e24 RO CL nx b R = some R') : ∃ t, R'.2.2.2.1 = R.2.2.2.1 ++ t := by
  obtain ⟨pc, ls, st, G, c, s⟩ := R
  unfold e24 at h
  split at h
  · rename_i heq; cases heq
    repeat' split at h
    all_goals first | (cases h; exact ⟨_, rfl⟩) | cases h
  · cases h
theorem f25 (h : e25 RO nx R = some R') : ∃ t, R'.2.2.2.1 = R.2.2.2.1 ++ t := by
  obtain ⟨pc, ls, st, G, c, s⟩ := R
  unfold e25 at h
  split at h
  · rename_i heq; cases heq
    repeat' split at h
    all_goals first | (cases h; exact ⟨_, List.append_assoc _ _ _⟩) | cases h
  · cases h
/-- the instructions that leave the heap as it is -/
def kQuiet (op : Nat) : Bool := !(op == 17) && (!(op == 20) && (!(op == 31) && (!(op == 22) && (!(op == 23) && (!(op == 24) && !(op == 25))))))
theorem fQuiet {I : eI} (h : eStep RO CL CT mL I R = some R') (hq : kQuiet I.1 = true) : R'.2.2.2.1 = R.2.2.2.1 := by
  obtain ⟨op, nx, a, b, z, ws, sw⟩ := I
  simp only [kQuiet, Bool.and_eq_true, Bool.not_eq_true', beq_eq_false_iff_ne] at hq
  obtain ⟨q17, q20, q31, q22, q23, q24, q25⟩ := hq
  simp only [eStep] at h
  by_cases o0 : op = 0
  · rw [if_pos o0] at h
    cases h; rfl
  rw [if_neg o0] at h
  by_cases o1 : op = 1
  · rw [if_pos o1] at h
    cases h; rfl
  rw [if_neg o1] at h
  by_cases o3 : op = 3
  · rw [if_pos o3] at h
    exact f3 h
  rw [if_neg o3] at h
  by_cases o4 : op = 4
  · rw [if_pos o4] at h
    exact f4 h
  rw [if_neg o4] at h
  by_cases o5 : op = 5
  · rw [if_pos o5] at h
    exact f5 h
  rw [if_neg o5] at h
  by_cases o6 : op = 6
  · rw [if_pos o6] at h
    exact f6 h
  rw [if_neg o6] at h
  by_cases o7 : op = 7
  · rw [if_pos o7] at h
    exact f7 h
  rw [if_neg o7] at h
  by_cases o8 : op = 8
  · rw [if_pos o8] at h
    exact f8 h
  rw [if_neg o8] at h
  by_cases o9 : op = 9
  · rw [if_pos o9] at h
    exact f9 h
  rw [if_neg o9] at h
  by_cases o10 : op = 10
  · rw [if_pos o10] at h
    exact f10 h
  rw [if_neg o10] at h
  by_cases o12 : op = 12
  · rw [if_pos o12] at h
    exact f12 h
  rw [if_neg o12] at h
  by_cases o13 : op = 13
  · rw [if_pos o13] at h
    exact f13 h
  rw [if_neg o13] at h
  by_cases o14 : op = 14
  · rw [if_pos o14] at h
    cases h; rfl
  rw [if_neg o14] at h
  by_cases o15 : op = 15
  · rw [if_pos o15] at h
    exact f15 h
  rw [if_neg o15] at h
  by_cases o16 : op = 16
  · rw [if_pos o16] at h
    exact f16 h
  rw [if_neg o16] at h
  by_cases o17 : op = 17
  · exact absurd o17 q17
  rw [if_neg o17] at h
  by_cases o18 : op = 18
  · rw [if_pos o18] at h
    exact f18 h
  rw [if_neg o18] at h
  by_cases o19 : op = 19
  · rw [if_pos o19] at h
    exact f19 h
  rw [if_neg o19] at h
  by_cases o20 : op = 20
  · exact absurd o20 q20
  rw [if_neg o20] at h
  by_cases o21 : op = 21
  · rw [if_pos o21] at h
    exact f21 h
  rw [if_neg o21] at h
  by_cases o22 : op = 22
  · exact absurd o22 q22
  rw [if_neg o22] at h
  by_cases o23 : op = 23
  · exact absurd o23 q23
  rw [if_neg o23] at h
  by_cases o24 : op = 24
  · exact absurd o24 q24
  rw [if_neg o24] at h
  by_cases o25 : op = 25
  · exact absurd o25 q25
  rw [if_neg o25] at h
  by_cases o26 : op = 26
  · rw [if_pos o26] at h
    exact f26 h
  rw [if_neg o26] at h
  by_cases o30 : op = 30
  · rw [if_pos o30] at h
    exact f30 h
  rw [if_neg o30] at h
  by_cases o31 : op = 31
  · exact absurd o31 q31
  rw [if_neg o31] at h
  by_cases o32 : op = 32
  · rw [if_pos o32] at h
    exact f32 h
  rw [if_neg o32] at h
  cases h
end EFRM
end
