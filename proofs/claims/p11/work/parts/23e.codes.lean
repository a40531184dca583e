/-! All codes. -/
theorem eqCw_chk : (List.range 280).all (fun mi => eqWd eMW mi [9, mi]) = true := by decide +kernel
theorem eCWall : ∀ m, m < 280 → eCWp m := fun m h => eqCw (List.all_eq_true.mp eqCw_chk m (List.mem_range.mpr h))
theorem eMC_ok (mi : Nat) (M : eM) (h : mi < eNC) (hM : eMTg mi = some M) : eMok lw_tbl M := by
  have hw := List.all_eq_true.mp eChkW_ok mi (List.mem_range.mpr h)
  unfold eChkW at hw
  rw [hM] at hw
  simp only [Bool.and_eq_true, decide_eq_true_eq] at hw
  exact ⟨hw.1, List.mem_filter.mpr ⟨eCWall mi h M hM, rfl⟩, hw.2.1, hw.2.2.1, hw.2.2.2⟩
