theorem eI_ok : ∀ (mi : Nat) (M : eM), eMTg mi = some M → ∀ (pc : Nat) (I : eI), pc < M.2.2.2.2.1 → M.2.2.2.2.2 pc = some I → eOkI lw_tbl eNW eCL 5 eSN eNC eMTg M pc I = true := by
  intro mi M hM pc I hpc hI
  have hlt : mi < 281 := by
    unfold eMTg at hM
    split at hM
    · assumption
    · cases hM
  by_cases hl : mi = 280
  · subst hl
    have hlen : M.2.2.2.2.1 = 1547 := by cases hM; rfl
    by_cases h0 : pc < 400
    · exact eqMp_ok eqL_0 hM (by omega) (by omega) hpc hI
    by_cases h400 : pc < 800
    · exact eqMp_ok eqL_400 hM (by omega) (by omega) hpc hI
    by_cases h800 : pc < 1200
    · exact eqMp_ok eqL_800 hM (by omega) (by omega) hpc hI
    exact eqMp_ok eqL_1200 hM (by omega) (by omega) hpc hI
  have key : ∀ (a n : Nat), (List.range' a n).all eqMw = true → a ≤ mi → mi < a + n → eqMw mi = true := fun a n hc h1 h2 => List.all_eq_true.mp hc mi (List.mem_range'_1.mpr ⟨h1, h2⟩)
  have h : eqMw mi = true := by
    by_cases h0 : mi < 40
    · exact key 0 40 eqT_0 (by omega) (by omega)
    by_cases h40 : mi < 80
    · exact key 40 40 eqT_40 (by omega) (by omega)
    by_cases h80 : mi < 120
    · exact key 80 40 eqT_80 (by omega) (by omega)
    by_cases h120 : mi < 160
    · exact key 120 40 eqT_120 (by omega) (by omega)
    by_cases h160 : mi < 200
    · exact key 160 40 eqT_160 (by omega) (by omega)
    by_cases h200 : mi < 240
    · exact key 200 40 eqT_200 (by omega) (by omega)
    exact key 240 40 eqT_240 (by omega) (by omega)
  exact eqMw_ok h hM hpc hI
noncomputable def eChkW (mi : Nat) : Bool := match eMTg mi with
  | none => true
  | some M => decide (plainName M.1.cls = true) && (decide (M.2.2.1 ≤ 20) && (decide (M.1.cls ≠ "java/lang/invoke/MethodHandle") && decide (M.1.cls ≠ "java/lang/invoke/VarHandle")))
theorem eChkW_ok : (List.range 280).all eChkW = true := by decide +kernel
def eChkC (b : Nat) : Bool := match eCL[b]? with
  | none => true
  | some k => (List.range k.2.2).all (fun j => eWd lw_tbl (eCLw.getD b []) j (u_lay k.1 k.2.1 j) && decide (parseFieldDescriptor (k.2.1 j).2.2.1 = some (eCT b j))) && (List.range k.2.2).all (fun x => (List.range k.2.2).all (fun y => decide (x = y) || decide ((k.2.1 x).2.1 ≠ (k.2.1 y).2.1)))
theorem eChkC_ok : (List.range 11).all eChkC = true := by decide +kernel
theorem eCL_ok : eCLok (eWS lw_tbl) eCL eCT := by
  intro b k hk
  have hb : b < 11 := (List.getElem?_eq_some_iff.mp hk).1
  have h := List.all_eq_true.mp eChkC_ok b (List.mem_range.mpr hb)
  unfold eChkC at h
  rw [hk] at h
  simp only [Bool.and_eq_true] at h
  obtain ⟨h1, h2⟩ := h
  refine ⟨fun w hw => ?_, fun j hj => ?_, fun x hx y hy hne => ?_⟩
  · obtain ⟨j, hj, rfl⟩ := List.mem_map.mp hw
    have h3 := List.all_eq_true.mp h1 j hj
    simp only [Bool.and_eq_true] at h3
    exact eWd_in h3.1
  · have h3 := List.all_eq_true.mp h1 j (List.mem_range.mpr hj)
    simp only [Bool.and_eq_true, decide_eq_true_eq] at h3
    exact h3.2
  · have h3 := List.all_eq_true.mp (List.all_eq_true.mp h2 x (List.mem_range.mpr hx)) y (List.mem_range.mpr hy)
    simp only [Bool.or_eq_true, decide_eq_true_eq] at h3
    rcases h3 with h3 | h3
    · exact absurd h3 hne
    · exact h3
