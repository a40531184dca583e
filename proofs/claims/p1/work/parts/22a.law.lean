/-! The law's whole run, for every script: what is to be checked, and what follows. -/
def eSO (L : Nat) : List (Nat × List sL) := [(eT_LEAST.length, eT_LEAST.map fun v => sC v.toInt), (eT_MOST.length, eT_MOST.map fun v => sC v.toInt), (eT_ABOVE.length, eT_ABOVE.map fun v => sC v.toInt), (eT_OWN.length, eT_OWN.map fun v => sC v.toInt), (L, (List.range L).map sX)]
def eG0 (L : Nat) : sG := (List.replicate L (-2147483648, 2147483647), [], [], [])
def eG6 (lo hi : Nat) : sG := (List.replicate 6 (-2147483648, 2147483647) ++ [((lo : Int), (hi : Int))], [], [], [(3, sX 0, sC 63, 6)])
def eFin (o : sR) : Bool := decide (o.2.2.1 = [(0, sC 1)]) && (decide (o.2.2.2.2.1 ≤ 600000) && decide (o.2.2.2.2.2.1 ≤ 7302249))
def eTry (L : Nat) (Γ : sG) : Bool := match sRun (eSO L) eCL eCT eMTg 100000 40 280 (0, [(0, (2, sC 4))], [], [], 0, 0, Γ) with
  | none => false
  | some outs => outs.all eFin
/-- the law's run, and its end -/
def eLaw (L : Nat) (xs : Nat → Int32) : Prop := ∃ Rf : eR, eRun (eRO L xs) eCL eCT eMTg 100000 40 280 (0, [(0, .ref 4)], [], [], 0, 0) = some Rf ∧ Rf.2.2.1 = [.int 1] ∧ Rf.2.2.2.2.1 ≤ 600000 ∧ Rf.2.2.2.2.2 ≤ 7302249
theorem eTry_ok {L : Nat} {Γ : sG} {ρ : List Int} {xs : Nat → Int32} (hRO : sRor ρ (eSO L) (eRO L xs)) (hM : sMo ρ Γ) (h : eTry L Γ = true) : eLaw L xs := by
  unfold eTry at h
  split at h
  · cases h
  · rename_i outs hs
    have hD : sD ρ (0, [(0, (2, sC 4))], [], [], 0, 0, Γ) (0, [(0, .ref 4)], [], [], 0, 0) := ⟨rfl, ⟨⟨rfl, rfl⟩, trivial⟩, trivial, trivial, rfl, rfl⟩
    obtain ⟨S', hS', ρ', R', hp, hM', he, hD'⟩ := sRun_ok (fun _ _ h q => q.mono h) _ _ _ _ outs hs ρ _ hRO hM hD
    have hf := List.all_eq_true.mp h S' hS'
    simp only [eFin, Bool.and_eq_true, decide_eq_true_eq] at hf
    obtain ⟨f1, f2, f3⟩ := hf
    obtain ⟨d1, d2, d3, d4, d5, d6⟩ := hD'
    refine ⟨R', he, ?_, by rw [d5]; exact f2, by rw [d6]; exact f3⟩
    rw [f1] at d3
    obtain ⟨pc, ls, stk, G, c, s⟩ := R'
    simp only at d3 ⊢
    match stk, d3 with
    | [w], ⟨hw, _⟩ =>
      obtain ⟨z, hz, rfl⟩ : ∃ z, sEv ρ' (sC 1) = some z ∧ w = .int (Int32.ofInt z) := hw
      rw [sEv_C] at hz
      cases hz
      rfl
    | [], h => exact h.elim
    | _ :: _ :: _, ⟨_, h⟩ => exact h.elim
theorem sRor_tab (ρ : List Int) (T : List Int32) : ∀ i, i < T.length → ∃ a z, (T.map fun v => sC v.toInt)[i]? = some a ∧ sEv ρ a = some z ∧ T.getD i 0 = Int32.ofInt z := by
  intro i hi
  refine ⟨sC T[i].toInt, T[i].toInt, ?_, sEv_C _, ?_⟩
  · rw [List.getElem?_map, List.getElem?_eq_getElem hi]; rfl
  · rw [List.getD_eq_getElem?_getD, List.getElem?_eq_getElem hi, Option.getD_some, Int32.ofInt_toInt]
theorem eRor {ρ : List Int} {L : Nat} {xs : Nat → Int32} (h : ∀ i, i < L → ρ[i]? = some (xs i).toInt) : sRor ρ (eSO L) (eRO L xs) := by
  refine ⟨⟨rfl, sRor_tab ρ eT_LEAST⟩, ⟨rfl, sRor_tab ρ eT_MOST⟩, ⟨rfl, sRor_tab ρ eT_ABOVE⟩, ⟨rfl, sRor_tab ρ eT_OWN⟩, ⟨rfl, fun i hi => ⟨sX i, (xs i).toInt, ?_, sEv_X (h i hi), (Int32.ofInt_toInt _).symm⟩⟩, trivial⟩
  rw [List.getElem?_map, List.getElem?_range hi]; rfl
theorem eI32b (x : Int32) : (-2147483648 : Int) ≤ x.toInt ∧ x.toInt ≤ 2147483647 := ⟨x.le_toInt, by have := x.toInt_lt; omega⟩
theorem eMo0 (L : Nat) (xs : Nat → Int32) : sMo ((List.range L).map fun i => (xs i).toInt) (eG0 L) := by
  refine ⟨⟨by simp [eG0], fun i b z hb hz => ?_⟩, fun f hf => (by cases hf), fun f hf => (by cases hf), fun q hq => (by cases hq)⟩
  have hb := List.eq_of_mem_replicate (List.mem_of_getElem? hb)
  subst hb
  rw [List.getElem?_map] at hz
  obtain ⟨j, -, rfl⟩ := Option.map_eq_some_iff.mp hz
  exact eI32b _
theorem eMo6 (xs : Nat → Int32) (lo hi : Nat) (h1 : (lo : Int) ≤ (xs 0 &&& 63).toInt) (h2 : (xs 0 &&& 63).toInt ≤ (hi : Int)) : sMo (((List.range 6).map fun i => (xs i).toInt) ++ [(xs 0 &&& 63).toInt]) (eG6 lo hi) := by
  refine ⟨⟨by simp [eG6], fun i b z hb hz => ?_⟩, fun f hf => (by cases hf), fun f hf => (by cases hf), fun q hq => ?_⟩
  · by_cases hi : i < 6
    · rw [List.getElem?_append_left (by simpa using hi)] at hz
      simp only [eG6] at hb
      rw [List.getElem?_append_left (by simpa using hi)] at hb
      have hb := List.eq_of_mem_replicate (List.mem_of_getElem? hb)
      subst hb
      rw [List.getElem?_map] at hz
      obtain ⟨j, -, rfl⟩ := Option.map_eq_some_iff.mp hz
      exact eI32b _
    · simp only [eG6] at hb
      rw [List.getElem?_append_right (by simp; omega)] at hz hb
      simp only [List.length_map, List.length_range, List.length_replicate] at hz hb
      obtain ⟨e⟩ : i = 6 := by
        have := (List.getElem?_eq_some_iff.mp hz).1
        simp at this
        omega
      cases hz
      cases hb
      exact ⟨h1, h2⟩
  · obtain rfl := List.mem_singleton.mp hq
    refine ⟨(xs 0).toInt, 63, sEv_X rfl, sEv_C 63, ?_⟩
    show some (xs 0 &&& 63).toInt = some (sOp 3 (xs 0).toInt 63)
    have e : sOp 3 (xs 0).toInt 63 = (Int32.ofInt (xs 0).toInt &&& Int32.ofInt 63).toInt := rfl
    rw [e, Int32.ofInt_toInt]
    rfl
