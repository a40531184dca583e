/-! More fuel and more depth: the same run. -/
noncomputable section
section EUP
variable {RO : List (Nat × (Nat → Int32))} {CL : List vw_C} {CT : Nat → Nat → FieldType} {MT : Nat → Option eM}
theorem eRun_up : ∀ (n d mi : Nat) (R Rf : eR), eRun RO CL CT MT n d mi R = some Rf → ∀ n' d' : Nat, n ≤ n' → d ≤ d' → eRun RO CL CT MT n' d' mi R = some Rf
  | 0, _, _, _, _, h => by simp [eRun] at h
  | _ + 1, 0, _, _, _, h => by simp [eRun] at h
  | n + 1, d + 1, mi, R, Rf, h => by
    intro n' d' hn hd
    obtain ⟨n', rfl⟩ : ∃ k, n' = k + 1 := ⟨n' - 1, by omega⟩
    obtain ⟨d', rfl⟩ : ∃ k, d' = k + 1 := ⟨d' - 1, by omega⟩
    have hn : n ≤ n' := by omega
    have hd : d ≤ d' := by omega
    have ih := fun (dd mj : Nat) (R1 Rg : eR) (q : eRun RO CL CT MT n dd mj R1 = some Rg) (d2 : Nat) (hq : dd ≤ d2) => eRun_up n dd mj R1 Rg q n' d2 hn hq
    simp only [eRun] at h ⊢
    split at h
    · cases h
    rename_i M hM
    split at h
    · cases h
    rename_i hlt
    rw [if_neg hlt]
    split at h
    · cases h
    rename_i I hI
    split at h
    · rename_i h50
      rw [if_pos h50]
      exact h
    rename_i h50
    rw [if_neg h50]
    split at h
    · rename_i h40
      rw [if_pos h40]
      split at h
      · cases h
      rename_i ar har
      split at h
      · cases h
      rename_i R2 hR2
      rw [ih d _ _ R2 hR2 d' hd]
      exact ih (d + 1) mi _ Rf h (d' + 1) (by omega)
    · rename_i h40
      rw [if_neg h40]
      split at h
      · cases h
      rename_i R1 h1
      exact ih (d + 1) mi R1 Rf h (d' + 1) (by omega)
/-- a run that comes to its return -/
def eC (RO : List (Nat × (Nat → Int32))) (CL : List vw_C) (CT : Nat → Nat → FieldType) (MT : Nat → Option eM) (d mi : Nat) (R Rf : eR) : Prop := ∃ n, eRun RO CL CT MT n d mi R = some Rf
theorem eC.up {d d' mi : Nat} {R Rf : eR} (h : eC RO CL CT MT d mi R Rf) (hd : d ≤ d') : eC RO CL CT MT d' mi R Rf := by
  obtain ⟨n, h⟩ := h
  exact ⟨n, eRun_up n d mi R Rf h n d' (Nat.le_refl _) hd⟩
/-- one step, then a run -/
theorem eC.step {d mi : Nat} {R R1 Rf : eR} {M : eM} {I : eI} (hM : MT mi = some M) (hlt : R.1 < M.2.2.2.2.1) (hI : M.2.2.2.2.2 R.1 = some I) (h40 : ¬ 40 ≤ I.1) (hs : eStep RO CL CT M.2.2.1 I R = some R1) (h : eC RO CL CT MT (d + 1) mi R1 Rf) : eC RO CL CT MT (d + 1) mi R Rf := by
  obtain ⟨n, h⟩ := h
  refine ⟨n + 1, ?_⟩
  simp only [eRun]
  rw [hM]
  simp only
  rw [if_neg (Nat.not_le.mpr hlt), hI]
  simp only
  rw [if_neg (by omega), if_neg h40, hs]
  exact h
/-- a call, then a run -/
theorem eC.call {d mi : Nat} {R R2 Rf : eR} {M : eM} {I : eI} {ar : eM × List Value × List Value} (hM : MT mi = some M) (hlt : R.1 < M.2.2.2.2.1) (hI : M.2.2.2.2.2 R.1 = some I) (h50 : ¬ I.1 = 50) (h40 : 40 ≤ I.1) (har : eCallP RO MT I R = some ar)
    (hc : eC RO CL CT MT d I.2.2.2.1 (0, lv_args 0 ar.2.1, [], R.2.2.2.1, 0, 0) R2) (h : eC RO CL CT MT (d + 1) mi (I.2.1, R.2.1, R2.2.2.1 ++ ar.2.2, R2.2.2.2.1, R.2.2.2.2.1 + R2.2.2.2.2.1, R.2.2.2.2.2 + R2.2.2.2.2.2) Rf) : eC RO CL CT MT (d + 1) mi R Rf := by
  obtain ⟨n1, h1⟩ := hc
  obtain ⟨n2, h2⟩ := h
  refine ⟨max n1 n2 + 1, ?_⟩
  have h1 := eRun_up n1 d _ _ _ h1 (max n1 n2) d (Nat.le_max_left _ _) (Nat.le_refl _)
  have h2 := eRun_up n2 (d + 1) _ _ _ h2 (max n1 n2) (d + 1) (Nat.le_max_right _ _) (Nat.le_refl _)
  simp only [eRun]
  rw [hM]
  simp only
  rw [if_neg (Nat.not_le.mpr hlt), hI]
  simp only
  rw [if_neg h50, if_pos h40, har]
  simp only
  rw [h1]
  exact h2
/-- at a return -/
theorem eC.ret {d mi : Nat} {R : eR} {M : eM} {I : eI} (hM : MT mi = some M) (hlt : R.1 < M.2.2.2.2.1) (hI : M.2.2.2.2.2 R.1 = some I) (h50 : I.1 = 50) (ha : eAns I.2.2.2.1 M.2.2.2.1 R.2.2.1 = true) : eC RO CL CT MT (d + 1) mi R R := by
  refine ⟨1, ?_⟩
  simp only [eRun]
  rw [hM]
  simp only
  rw [if_neg (Nat.not_le.mpr hlt), hI]
  simp only
  rw [if_pos h50, if_pos ha]
end EUP
end
