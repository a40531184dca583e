/-! The whole run: a method that the abstract machine runs to its return, the machine does too. -/
def eLe (R R' : eR) : Prop := R.2.2.2.2.1 ≤ R'.2.2.2.2.1 ∧ R.2.2.2.2.2 ≤ R'.2.2.2.2.2
theorem eLe.rf {R : eR} : eLe R R := ⟨Nat.le_refl _, Nat.le_refl _⟩
section EMONO
variable {RO : List (Nat × (Nat → Int32))} {CL : List vw_C} {CT : Nat → Nat → FieldType} {MT : Nat → Option eM} {R R' : eR} {nx a b mL : Nat} {z : Int} {sw : List (Int × Nat)}
theorem m3 (h : e3 nx a b R = some R') : eLe R R' := by
  obtain ⟨pc, ls0, st0, G, c0, s0⟩ := R
  simp only [e3] at h
  repeat' split at h
  all_goals first | (cases h; exact eLe.rf) | cases h
theorem m4 (h : e4 mL nx a b R = some R') : eLe R R' := by
  unfold e4 at h
  repeat' split at h
  all_goals first | (cases h; exact eLe.rf) | cases h
theorem m5 (h : e5 mL nx a z R = some R') : eLe R R' := by
  unfold e5 at h
  repeat' split at h
  all_goals first | (cases h; exact eLe.rf) | cases h
theorem m6 (h : e6 nx b R = some R') : eLe R R' := by
  unfold e6 at h
  split at h
  · obtain ⟨v, -, rfl⟩ := Option.map_eq_some_iff.mp h
    exact eLe.rf
  · cases h
theorem m7 (h : e7 nx b R = some R') : eLe R R' := by
  unfold e7 at h
  split at h
  · obtain ⟨v, -, rfl⟩ := Option.map_eq_some_iff.mp h
    exact eLe.rf
  · cases h
theorem m8 (h : e8 nx b R = some R') : eLe R R' := by
  unfold e8 at h
  split at h
  · obtain ⟨v, -, rfl⟩ := Option.map_eq_some_iff.mp h
    exact eLe.rf
  · cases h
theorem m9 (h : e9 nx R = some R') : eLe R R' := by
  unfold e9 at h
  split at h
  all_goals first | (cases h; exact eLe.rf) | cases h
theorem m10 (h : e10 nx R = some R') : eLe R R' := by
  unfold e10 at h
  split at h
  all_goals first | (cases h; exact eLe.rf) | cases h
theorem m12 (h : e12 nx a b R = some R') : eLe R R' := by
  unfold e12 at h
  split at h
  all_goals first | (cases h; exact eLe.rf) | cases h
theorem m13 (h : e13 nx a b R = some R') : eLe R R' := by
  unfold e13 at h
  split at h
  all_goals first | (cases h; exact eLe.rf) | cases h
theorem m15 (h : e15 a sw R = some R') : eLe R R' := by
  unfold e15 at h
  split at h
  all_goals first | (cases h; exact eLe.rf) | cases h
theorem m16 {k : Nat} (h : e16 RO nx b k R = some R') : eLe R R' := by
  unfold e16 at h
  repeat' split at h
  all_goals first | (obtain ⟨v, -, rfl⟩ := Option.map_eq_some_iff.mp h; exact eLe.rf) | cases h
theorem m17 {k : Nat} (h : e17 RO CT nx b k R = some R') : eLe R R' := by
  unfold e17 at h
  repeat' split at h
  all_goals first | (cases h; exact eLe.rf) | cases h
theorem m18 (h : e18 nx b R = some R') : eLe R R' := by
  obtain ⟨pc, ls0, st0, G, c0, s0⟩ := R
  cases h
  exact eLe.rf
theorem m19 (h : e19 RO nx b R = some R') : eLe R R' := by
  unfold e19 at h
  repeat' split at h
  all_goals first | (cases h; exact eLe.rf) | cases h
theorem m20 (h : e20 RO CL nx b R = some R') : eLe R R' := by
  unfold e20 at h
  repeat' split at h
  all_goals first | (cases h; exact eLe.rf) | cases h
theorem m21 (h : e21 RO nx R = some R') : eLe R R' := by
  unfold e21 at h
  repeat' split at h
  all_goals first | (cases h; exact eLe.rf) | cases h
theorem m22 (h : e22 RO CL CT nx b R = some R') : eLe R R' := by
  obtain ⟨pc, ls0, st0, G, c0, s0⟩ := R
  simp only [e22] at h
  split at h
  · cases h
    exact ⟨Nat.le_succ _, Nat.le_add_right _ _⟩
  · cases h
theorem m23 (h : e23 RO nx b R = some R') : eLe R R' := by
  unfold e23 at h
  repeat' split at h
  all_goals first | (obtain ⟨v, -, rfl⟩ := Option.map_eq_some_iff.mp h; exact ⟨Nat.le_succ _, Nat.le_add_right _ _⟩) | cases h
theorem m24 (h : e24 RO CL nx b R = some R') : eLe R R' := by
  unfold e24 at h
  repeat' split at h
  all_goals first | (cases h; exact ⟨Nat.le_succ _, Nat.le_add_right _ _⟩) | cases h
theorem m25 (h : e25 RO nx R = some R') : eLe R R' := by
  unfold e25 at h
  repeat' split at h
  all_goals first | (cases h; exact ⟨Nat.le_trans (Nat.le_succ _) (Nat.le_add_right _ _), Nat.le_trans (Nat.le_add_right _ _) (Nat.le_add_right _ _)⟩) | cases h
theorem m26 (h : e26 nx b R = some R') : eLe R R' := by
  unfold e26 at h
  repeat' split at h
  all_goals first | (cases h; exact eLe.rf) | cases h
theorem m30 (h : e30 nx R = some R') : eLe R R' := by
  unfold e30 at h
  repeat' split at h
  all_goals first | (cases h; exact eLe.rf) | cases h
theorem m31 (h : e31 RO nx R = some R') : eLe R R' := by
  unfold e31 at h
  repeat' split at h
  all_goals first | (cases h; exact eLe.rf) | cases h
theorem m32 (h : e32 nx b R = some R') : eLe R R' := by
  unfold e32 at h
  repeat' split at h
  all_goals first | (cases h; exact eLe.rf) | cases h
theorem eStep_mono {I : eI} (h : eStep RO CL CT mL I R = some R') : eLe R R' := by
  obtain ⟨op, nx, a, b, z, ws, sw⟩ := I
  simp only [eStep] at h
  by_cases o0 : op = 0
  · rw [if_pos o0] at h; obtain ⟨pc, ls0, st0, G, c0, s0⟩ := R; cases h; exact eLe.rf
  rw [if_neg o0] at h
  by_cases o1 : op = 1
  · rw [if_pos o1] at h; obtain ⟨pc, ls0, st0, G, c0, s0⟩ := R; cases h; exact eLe.rf
  rw [if_neg o1] at h
  by_cases o3 : op = 3
  · rw [if_pos o3] at h; exact m3 h
  rw [if_neg o3] at h
  by_cases o4 : op = 4
  · rw [if_pos o4] at h; exact m4 h
  rw [if_neg o4] at h
  by_cases o5 : op = 5
  · rw [if_pos o5] at h; exact m5 h
  rw [if_neg o5] at h
  by_cases o6 : op = 6
  · rw [if_pos o6] at h; exact m6 h
  rw [if_neg o6] at h
  by_cases o7 : op = 7
  · rw [if_pos o7] at h; exact m7 h
  rw [if_neg o7] at h
  by_cases o8 : op = 8
  · rw [if_pos o8] at h; exact m8 h
  rw [if_neg o8] at h
  by_cases o9 : op = 9
  · rw [if_pos o9] at h; exact m9 h
  rw [if_neg o9] at h
  by_cases o10 : op = 10
  · rw [if_pos o10] at h; exact m10 h
  rw [if_neg o10] at h
  by_cases o12 : op = 12
  · rw [if_pos o12] at h; exact m12 h
  rw [if_neg o12] at h
  by_cases o13 : op = 13
  · rw [if_pos o13] at h; exact m13 h
  rw [if_neg o13] at h
  by_cases o14 : op = 14
  · rw [if_pos o14] at h; obtain ⟨pc, ls0, st0, G, c0, s0⟩ := R; cases h; exact eLe.rf
  rw [if_neg o14] at h
  by_cases o15 : op = 15
  · rw [if_pos o15] at h; exact m15 h
  rw [if_neg o15] at h
  by_cases o16 : op = 16
  · rw [if_pos o16] at h; exact m16 h
  rw [if_neg o16] at h
  by_cases o17 : op = 17
  · rw [if_pos o17] at h; exact m17 h
  rw [if_neg o17] at h
  by_cases o18 : op = 18
  · rw [if_pos o18] at h; exact m18 h
  rw [if_neg o18] at h
  by_cases o19 : op = 19
  · rw [if_pos o19] at h; exact m19 h
  rw [if_neg o19] at h
  by_cases o20 : op = 20
  · rw [if_pos o20] at h; exact m20 h
  rw [if_neg o20] at h
  by_cases o21 : op = 21
  · rw [if_pos o21] at h; exact m21 h
  rw [if_neg o21] at h
  by_cases o22 : op = 22
  · rw [if_pos o22] at h; exact m22 h
  rw [if_neg o22] at h
  by_cases o23 : op = 23
  · rw [if_pos o23] at h; exact m23 h
  rw [if_neg o23] at h
  by_cases o24 : op = 24
  · rw [if_pos o24] at h; exact m24 h
  rw [if_neg o24] at h
  by_cases o25 : op = 25
  · rw [if_pos o25] at h; exact m25 h
  rw [if_neg o25] at h
  by_cases o26 : op = 26
  · rw [if_pos o26] at h; exact m26 h
  rw [if_neg o26] at h
  by_cases o30 : op = 30
  · rw [if_pos o30] at h; exact m30 h
  rw [if_neg o30] at h
  by_cases o31 : op = 31
  · rw [if_pos o31] at h; exact m31 h
  rw [if_neg o31] at h
  by_cases o32 : op = 32
  · rw [if_pos o32] at h; exact m32 h
  rw [if_neg o32] at h
  cases h
theorem eRun_mono : ∀ (n d mi : Nat) (R Rf : eR), eRun RO CL CT MT n d mi R = some Rf → eLe R Rf
  | 0, _, _, _, _, h => by simp [eRun] at h
  | _ + 1, 0, _, _, _, h => by simp [eRun] at h
  | n + 1, d + 1, mi, R, Rf, h => by
    simp only [eRun] at h
    split at h
    · cases h
    split at h
    · cases h
    split at h
    · cases h
    split at h
    · split at h
      · cases h; exact eLe.rf
      · cases h
    split at h
    · split at h
      · cases h
      split at h
      · cases h
      have ih := eRun_mono n (d + 1) mi _ Rf h
      exact ⟨Nat.le_trans (Nat.le_add_right _ _) ih.1, Nat.le_trans (Nat.le_add_right _ _) ih.2⟩
    · split at h
      · cases h
      rename_i R1 h1
      have q := eStep_mono h1
      have ih := eRun_mono n (d + 1) mi R1 Rf h
      exact ⟨Nat.le_trans q.1 ih.1, Nat.le_trans q.2 ih.2⟩
/-- where a run ends: at a return -/
theorem eRun_end : ∀ (n d mi : Nat) (R Rf : eR), eRun RO CL CT MT n d mi R = some Rf → ∃ M I, MT mi = some M ∧ Rf.1 < M.2.2.2.2.1 ∧ M.2.2.2.2.2 Rf.1 = some I ∧ I.1 = 50 ∧ eAns I.2.2.2.1 M.2.2.2.1 Rf.2.2.1 = true
  | 0, _, _, _, _, h => by simp [eRun] at h
  | _ + 1, 0, _, _, _, h => by simp [eRun] at h
  | n + 1, d + 1, mi, R, Rf, h => by
    simp only [eRun] at h
    split at h
    · cases h
    rename_i M hM
    split at h
    · cases h
    rename_i hlt
    split at h
    · cases h
    rename_i I hI
    split at h
    · rename_i h50
      split at h
      · rename_i ha
        cases h
        exact ⟨M, I, hM, Nat.not_le.mp hlt, hI, h50, ha⟩
      · cases h
    split at h
    · split at h
      · cases h
      split at h
      · cases h
      exact eRun_end n (d + 1) mi _ Rf h
    · split at h
      · cases h
      exact eRun_end n (d + 1) mi _ Rf h
end EMONO
