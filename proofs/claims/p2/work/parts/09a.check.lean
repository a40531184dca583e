theorem eChkP_in {mi lo n : Nat} (h : eChkP mi lo n = true) {M : eM} (hM : eMTg mi = some M) {pc : Nat} (h1 : lo ≤ pc) (h2 : pc < lo + n) {I : eI} (hI : M.2.2.2.2.2 pc = some I) : eOkI lw_tbl eNW eCL 5 eSN eNC eMTg M pc I = true := by
  unfold eChkP at h
  rw [hM] at h
  have h3 := List.all_eq_true.mp h pc (List.mem_range'_1.mpr ⟨h1, h2⟩)
  rw [hI] at h3
  exact h3
theorem eChk_law : ∀ M : eM, eMTg 280 = some M → ∀ (pc : Nat) (I : eI), pc < M.2.2.2.2.1 → M.2.2.2.2.2 pc = some I → eOkI lw_tbl eNW eCL 5 eSN eNC eMTg M pc I = true := by
  intro M hM pc I hpc hI
  have hlen : M.2.2.2.2.1 = 1547 := by cases hM; rfl
  by_cases h0 : pc < 100
  · exact eChkP_in eChkL_0 hM (by omega) (by omega) hI
  by_cases h100 : pc < 200
  · exact eChkP_in eChkL_100 hM (by omega) (by omega) hI
  by_cases h200 : pc < 300
  · exact eChkP_in eChkL_200 hM (by omega) (by omega) hI
  by_cases h300 : pc < 400
  · exact eChkP_in eChkL_300 hM (by omega) (by omega) hI
  by_cases h400 : pc < 500
  · exact eChkP_in eChkL_400 hM (by omega) (by omega) hI
  by_cases h500 : pc < 600
  · exact eChkP_in eChkL_500 hM (by omega) (by omega) hI
  by_cases h600 : pc < 700
  · exact eChkP_in eChkL_600 hM (by omega) (by omega) hI
  by_cases h700 : pc < 800
  · exact eChkP_in eChkL_700 hM (by omega) (by omega) hI
  by_cases h800 : pc < 900
  · exact eChkP_in eChkL_800 hM (by omega) (by omega) hI
  by_cases h900 : pc < 1000
  · exact eChkP_in eChkL_900 hM (by omega) (by omega) hI
  by_cases h1000 : pc < 1100
  · exact eChkP_in eChkL_1000 hM (by omega) (by omega) hI
  by_cases h1100 : pc < 1200
  · exact eChkP_in eChkL_1100 hM (by omega) (by omega) hI
  by_cases h1200 : pc < 1300
  · exact eChkP_in eChkL_1200 hM (by omega) (by omega) hI
  by_cases h1300 : pc < 1400
  · exact eChkP_in eChkL_1300 hM (by omega) (by omega) hI
  by_cases h1400 : pc < 1500
  · exact eChkP_in eChkL_1400 hM (by omega) (by omega) hI
  exact eChkP_in eChkL_1500 hM (by omega) (by omega) hI
theorem eChkAll : ∀ mi : Nat, mi < 280 → eChkM mi = true := by
  intro mi h
  have key : ∀ (a n : Nat), (List.range' a n).all eChkM = true → a ≤ mi → mi < a + n → eChkM mi = true := fun a n hc h1 h2 => List.all_eq_true.mp hc mi (List.mem_range'_1.mpr ⟨h1, h2⟩)
  by_cases h0 : mi < 20
  · exact key 0 20 eChk_0 (by omega) (by omega)
  by_cases h20 : mi < 40
  · exact key 20 20 eChk_1 (by omega) (by omega)
  by_cases h40 : mi < 60
  · exact key 40 20 eChk_2 (by omega) (by omega)
  by_cases h60 : mi < 80
  · exact key 60 20 eChk_3 (by omega) (by omega)
  by_cases h80 : mi < 100
  · exact key 80 20 eChk_4 (by omega) (by omega)
  by_cases h100 : mi < 120
  · exact key 100 20 eChk_5 (by omega) (by omega)
  by_cases h120 : mi < 140
  · exact key 120 20 eChk_6 (by omega) (by omega)
  by_cases h140 : mi < 160
  · exact key 140 20 eChk_7 (by omega) (by omega)
  by_cases h160 : mi < 180
  · exact key 160 20 eChk_8 (by omega) (by omega)
  by_cases h180 : mi < 200
  · exact key 180 20 eChk_9 (by omega) (by omega)
  by_cases h200 : mi < 220
  · exact key 200 20 eChk_10 (by omega) (by omega)
  by_cases h220 : mi < 240
  · exact key 220 20 eChk_11 (by omega) (by omega)
  by_cases h240 : mi < 260
  · exact key 240 20 eChk_12 (by omega) (by omega)
  exact key 260 20 eChk_13 (by omega) (by omega)
theorem eI_ok : ∀ (mi : Nat) (M : eM), eMTg mi = some M → ∀ (pc : Nat) (I : eI), pc < M.2.2.2.2.1 → M.2.2.2.2.2 pc = some I → eOkI lw_tbl eNW eCL 5 eSN eNC eMTg M pc I = true := by
  intro mi M hM pc I hpc hI
  have hlt : mi < 281 := by
    unfold eMTg at hM
    split at hM
    · assumption
    · cases hM
  by_cases hl : mi = 280
  · subst hl
    exact eChk_law M hM pc I hpc hI
  have h := eChkAll mi (by omega)
  unfold eChkM at h
  rw [hM] at h
  have h2 := List.all_eq_true.mp h pc (List.mem_range.mpr hpc)
  rw [hI] at h2
  exact h2
noncomputable def eChkW (mi : Nat) : Bool := match eMTg mi with
  | none => true
  | some M => decide (plainName M.1.cls = true) && (decide (M.2.2.1 ≤ 20) && (decide (M.1.cls ≠ "java/lang/invoke/MethodHandle") && decide (M.1.cls ≠ "java/lang/invoke/VarHandle")))
theorem eChkW_ok : (List.range 280).all eChkW = true := by decide +kernel
def eChkC (b : Nat) : Bool := match eCL[b]? with
  | none => true
  | some k => (List.range k.2.2).all (fun j => eWd lw_tbl (eCLw.getD b []) j (u_lay k.1 k.2.1 j) && decide (parseFieldDescriptor (k.2.1 j).2.2.1 = some (eCT b j))) && (List.range k.2.2).all (fun x => (List.range k.2.2).all (fun y => decide (x = y) || decide ((k.2.1 x).2.1 ≠ (k.2.1 y).2.1)))
theorem eChkC_ok : (List.range 11).all eChkC = true := by decide +kernel
theorem eCL_ok : eCLok (eWS lw_tbl) eCL eCT := by
  intro b k hk
  have hb : b < 11 := (List.getElem?_eq_some_iff.mp hk).1
  have h := List.all_eq_true.mp eChkC_ok b (List.mem_range.mpr hb)
  unfold eChkC at h
  rw [hk] at h
  simp only [Bool.and_eq_true] at h
  obtain ⟨h1, h2⟩ := h
  refine ⟨fun w hw => ?_, fun j hj => ?_, fun x hx y hy hne => ?_⟩
  · obtain ⟨j, hj, rfl⟩ := List.mem_map.mp hw
    have h3 := List.all_eq_true.mp h1 j hj
    simp only [Bool.and_eq_true] at h3
    exact eWd_in h3.1
  · have h3 := List.all_eq_true.mp h1 j (List.mem_range.mpr hj)
    simp only [Bool.and_eq_true, decide_eq_true_eq] at h3
    exact h3.2
  · have h3 := List.all_eq_true.mp (List.all_eq_true.mp h2 x (List.mem_range.mpr hx)) y (List.mem_range.mpr hy)
    simp only [Bool.or_eq_true, decide_eq_true_eq] at h3
    rcases h3 with h3 | h3
    · exact absurd h3 hne
    · exact h3
