/-! The tables' checks, by numbers: words. -/
noncomputable section
section EQWORD
def eqLe (a : List Nat) : List Nat → Bool := @List.rec Nat (fun _ => List Nat → Bool) (fun b => @List.rec Nat (fun _ => Bool) true (fun _ _ _ => false) b) (fun x _ ih b => @List.rec Nat (fun _ => Bool) false (fun y s _ => @Bool.rec (fun _ => Bool) false (ih s) (Nat.beq x y)) b) a
theorem eqLe_ok : ∀ {a b : List Nat}, eqLe a b = true → a = b
  | [], [], _ => rfl
  | [], _ :: _, h => by cases (show false = true from h)
  | _ :: _, [], h => by cases (show false = true from h)
  | x :: r, y :: s, h => by
    have h : @Bool.rec (fun _ => Bool) false (eqLe r s) (Nat.beq x y) = true := h
    cases e : Nat.beq x y with
    | false =>
      rw [e] at h
      cases h
    | true =>
      rw [e] at h
      rw [Nat.eq_of_beq_eq_true e, eqLe_ok h]
def eqPre (l : List Nat) : List Nat → Bool := @List.rec Nat (fun _ => List Nat → Bool) (fun _ => true) (fun x _ ih b => @List.rec Nat (fun _ => Bool) false (fun y s _ => @Bool.rec (fun _ => Bool) false (ih s) (Nat.beq x y)) b) l
theorem eqPre_ok : ∀ {l bs : List Nat}, eqPre l bs = true → ∀ {k x : Nat}, l[k]? = some x → bs[k]? = some x
  | [], _, _, k, x, h => by simp at h
  | _ :: _, [], h, _, _, _ => by cases (show false = true from h)
  | x :: r, y :: s, h, k, v, hk => by
    have h : @Bool.rec (fun _ => Bool) false (eqPre r s) (Nat.beq x y) = true := h
    cases e : Nat.beq x y with
    | false =>
      rw [e] at h
      cases h
    | true =>
      rw [e] at h
      cases k with
      | zero =>
        rw [← Nat.eq_of_beq_eq_true e]
        exact hk
      | succ k =>
        rw [List.getElem?_cons_succ] at hk ⊢
        exact eqPre_ok h hk
/-- a word, told by its number -/
def eqWd (ws : List Nat) (k : Nat) (c : List Nat) : Bool := @Option.rec Nat (fun _ => Bool) false (fun i => @Option.rec (List Nat × Cond) (fun _ => Bool) false (fun p => eqLe p.1 c) (eqCat i)) (eqAt ws k)
theorem eqWd_ok {ws : List Nat} {k : Nat} {c : List Nat} (h : eqWd ws k c = true) : ∃ i w, ws[k]? = some i ∧ lw_tbl[i]? = some (eqDc c w) := by
  unfold eqWd at h
  cases e1 : eqAt ws k with
  | none =>
    rw [e1] at h
    cases h
  | some i =>
    rw [e1] at h
    have h : @Option.rec (List Nat × Cond) (fun _ => Bool) false (fun p => eqLe p.1 c) (eqCat i) = true := h
    cases e2 : eqCat i with
    | none =>
      rw [e2] at h
      cases h
    | some p =>
      rw [e2] at h
      have h : eqLe p.1 c = true := h
      rw [eqCat_ok] at e2
      rw [eqAt_eq] at e1
      refine ⟨i, p.2, e1, ?_⟩
      rw [eqC_ok, List.getElem?_map, e2, ← eqLe_ok h]
      rfl
theorem eqWd_e {ws : List Nat} {k : Nat} {c : List Nat} (h : eqWd ws k c = true) {w : Cond} (hw : ∀ w0, eqDc c w0 = w) (hg : goodWord w = true) : eWd lw_tbl ws k w = true := by
  obtain ⟨i, w0, h1, h2⟩ := eqWd_ok h
  unfold eWd
  rw [h1]
  simp only [Bool.and_eq_true, decide_eq_true_eq]
  exact ⟨by rw [h2, hw], hg⟩
end EQWORD
section EQCHK
/-- a field's word -/
def eqFld (oc a b : Nat) (z : Int) (ws : List Nat) : Bool := match eqFc b z.toNat with
  | some q => eqWd ws 0 [0, oc, a, q.1, q.2.1, q.2.2]
  | none => false
theorem eqFld_ok {oc a b : Nat} {z : Int} {ws : List Nat} {own : String} (ho : own = eqSt oc) (h : eqFld oc a b z ws = true) : ∃ k, eCL[b]? = some k ∧ z.toNat < k.2.2 ∧ eWd lw_tbl ws 0 (.fieldLink own a (k.2.1 z.toNat).1 (k.2.1 z.toNat).2.1 (k.2.1 z.toNat).2.2.1) = true := by
  unfold eqFld at h
  split at h
  · rename_i q hq
    obtain ⟨k, h1, h2, h3, h4, h5⟩ := eqFc_ok hq
    refine ⟨k, h1, h2, ?_⟩
    rw [h3, h4, h5, ho]
    exact eqWd_e h (fun _ => rfl) rfl
  · cases h
/-- a call's words -/
def eqCal (oc : Nat) (I : eI) : Bool := match I with
  | (op, _, a, b, z, ws, _) => match eMTg b, eqMc b with
    | some M2, some q => Nat.blt b eNC && (decide (eqAt eqNa b = some z.toNat) && (eqWd ws 1 [4, q.1] && (match ws[0]? with
        | none => false
        | some cp => if op = 40 then decide (eqAt eqKl a = some q.1) && (eqWd ws 2 [1, oc, cp, q.1, q.2.1, q.2.2] && (eqWd ws 3 [2, q.1, q.2.1, q.2.2] && eqWd ws 4 [5, q.1, q.2.1, q.2.2]))
          else if op = 41 then eqWd ws 2 [1, oc, cp, q.1, q.2.1, q.2.2] && eqWd ws 3 [3, q.1, q.2.1, q.2.2]
          else if op = 42 then decide (q.2.1 = eqInit) && (decide (M2.2.2.2.1 = none) && (eqWd ws 2 [1, oc, cp, q.1, q.2.1, q.2.2] && eqWd ws 3 [2, q.1, q.2.1, q.2.2]))
          else false)))
    | _, _ => false
def eqWo (oc : Nat) (M : eM) (pc : Nat) (I : eI) : Bool := match I with
  | (op, nx, a, b, z, ws, sw) =>
    if op = 3 then true else if op = 16 then eqFld oc a b z ws
    else if op = 0 then (if b = 1 then decide ((Int8.ofInt z).toInt32 = Int32.ofInt z) else if b = 2 then decide ((Int16.ofInt z).toInt32 = Int32.ofInt z) else true)
    else if op = 40 then eqCal oc (op, nx, a, b, z, ws, sw) else if op = 41 then eqCal oc (op, nx, a, b, z, ws, sw) else if op = 42 then eqCal oc (op, nx, a, b, z, ws, sw)
    else if op = 12 then decide ((pc : Int) + z = (a : Int)) else if op = 13 then decide ((pc : Int) + z = (a : Int)) else if op = 14 then decide ((pc : Int) + z = (a : Int))
    else if op = 17 then eqFld oc a b z ws && (match eCL[b]? with
      | some k => decide ((k.2.1 z.toNat).2.2.2 = false) || (decide (M.1.name = "<init>") && decide ((k.2.1 z.toNat).1 = M.1.cls))
      | none => false)
    else true
def eqChk (oc : Nat) (M : eM) (pc : Nat) (I : eI) (bs : List Nat) : Bool := match eqBy I with
  | none => eOkI lw_tbl eNW eCL 5 eSN eNC eMTg M pc I
  | some l => eqPre l bs && (Nat.beq I.2.1 (pc + l.length) && eqWo oc M pc I)
theorem eqDd {cc : ByteArray} {pc nx n : Nat} {i : Instr} (h : decode cc pc = .ok (i, n)) (hn : nx = pc + n) : eDec cc pc nx i n = true := by
  unfold eDec
  rw [decide_eq_true h, decide_eq_true hn]
  rfl
theorem eqAnd {a b : Bool} (h : (a && b) = true) : a = true ∧ b = true := by simpa using h
theorem eqAnd_i {a b : Bool} (ha : a = true) (hb : b = true) : (a && b) = true := by rw [ha, hb]; rfl
theorem eqDz {x y : Nat} (h : decide (x = y) = true) : x = y := of_decide_eq_true h

theorem eqCal_ok {oc : Nat} {M : eM} {pc op nx a b : Nat} {z : Int} {ws : List Nat} {sw : List (Int × Nat)} (ho : M.1.cls = eqSt oc) (h : eqCal oc (op, nx, a, b, z, ws, sw) = true) (hop : op = 40 ∨ op = 41 ∨ op = 42)
    (hd : ∀ cp, ws[0]? = some cp → (op = 40 → eDec M.2.1 pc nx (.invokevirtual cp) 3 = true) ∧ (op = 41 → eDec M.2.1 pc nx (.invokestatic cp) 3 = true) ∧ (op = 42 → eDec M.2.1 pc nx (.invokespecial cp) 3 = true)) :
    eOkC lw_tbl eNW eCL eNC eMTg M.1.cls M.2.1 pc (op, nx, a, b, z, ws, sw) = true := by
  unfold eqCal at h
  simp only at h
  split at h
  · rename_i M2 q e1 e2
    obtain ⟨hb, h⟩ := eqAnd h
    obtain ⟨hn, h⟩ := eqAnd h
    obtain ⟨hi, h⟩ := eqAnd h
    have hb : b < eNC := Nat.le_of_ble_eq_true hb
    have hm : M2.1 = eqM q := by
      obtain ⟨q', e3, e4⟩ := eqMc_ok b M2 e1
      rw [e2] at e3
      cases e3
      exact e4
    have hp := eqNa_in hb e1
    rw [of_decide_eq_true hn] at hp
    unfold eOkC
    simp only
    rw [e1]
    simp only
    refine eqAnd_i (decide_eq_true hb) (eqAnd_i (decide_eq_true hp) (eqAnd_i ?_ ?_))
    · rw [hm]
      exact eqWd_e hi (fun _ => rfl) rfl
    split at h
    · cases h
    rename_i cp hcp
    obtain ⟨d1, d2, d3⟩ := hd cp hcp
    rw [hcp]
    simp only
    rw [hm, ho]
    split at h
    · rename_i h40
      rw [if_pos h40]
      obtain ⟨hk, h⟩ := eqAnd h
      obtain ⟨w2, h⟩ := eqAnd h
      obtain ⟨w3, w4⟩ := eqAnd h
      refine eqAnd_i (d1 h40) (eqAnd_i ?_ (eqAnd_i (eqWd_e w2 (fun _ => rfl) rfl) (eqAnd_i (eqWd_e w3 (fun _ => rfl) rfl) (eqWd_e w4 (fun _ => rfl) rfl))))
      obtain ⟨k, e5, e6⟩ := eqKl_ok (of_decide_eq_true hk)
      rw [e5]
      exact decide_eq_true e6
    rename_i h40
    rw [if_neg h40]
    split at h
    · rename_i h41
      rw [if_pos h41]
      obtain ⟨w2, w3⟩ := eqAnd h
      exact eqAnd_i (d2 h41) (eqAnd_i (eqWd_e w2 (fun _ => rfl) rfl) (eqWd_e w3 (fun _ => rfl) rfl))
    rename_i h41
    rw [if_neg h41]
    split at h
    · rename_i h42
      rw [if_pos h42]
      obtain ⟨hq, h⟩ := eqAnd h
      obtain ⟨hr, h⟩ := eqAnd h
      obtain ⟨w2, w3⟩ := eqAnd h
      refine eqAnd_i (d3 h42) (eqAnd_i (decide_eq_true ?_) (eqAnd_i hr (eqAnd_i (eqWd_e w2 (fun _ => rfl) rfl) (eqWd_e w3 (fun _ => rfl) rfl))))
      show eqSt q.2.1 = "<init>"
      rw [of_decide_eq_true hq]
      exact eqInit_ok
    · cases h
  · cases h
theorem eqChk_ok {oc : Nat} {M : eM} {pc : Nat} {I : eI} {bs : List Nat} (ho : M.1.cls = eqSt oc) (hb : ∀ k x, bs[k]? = some x → eqU M.2.1 (pc + k) = .ok (x, pc + k + 1)) (h : eqChk oc M pc I bs = true) : eOkI lw_tbl eNW eCL 5 eSN eNC eMTg M pc I = true := by
  unfold eqChk at h
  split at h
  · exact h
  rename_i l hl
  obtain ⟨hp, h⟩ := eqAnd h
  obtain ⟨hn0, hw⟩ := eqAnd h
  have hl2 : eqHas M.2.1 pc l := fun k x hk => hb k x (eqPre_ok hp hk)
  have hn : I.2.1 = pc + l.length := Nat.eq_of_beq_eq_true hn0
  clear hn0 h
  obtain ⟨op, nx, a, b, z, ws, sw⟩ := I
  simp only at hn
  unfold eqBy at hl
  simp only at hl
  by_cases h3 : op = 3
  · subst op
    rw [if_pos rfl] at hl
    obtain ⟨i, e1, e2⟩ := eqs3 hl hl2
    show eOkO M.2.1 pc nx (eLdI b a) = true
    rw [e1]
    exact eqDd e2 hn
  rw [if_neg h3] at hl
  by_cases h0 : op = 0
  · subst op
    rw [if_pos rfl] at hl
    show eOk0 lw_tbl M.1.cls M.2.1 pc nx a b z ws = true
    have hw : (if b = 1 then decide ((Int8.ofInt z).toInt32 = Int32.ofInt z) else if b = 2 then decide ((Int16.ofInt z).toInt32 = Int32.ofInt z) else true) = true := hw
    rcases eqs0 hl hl2 with ⟨rfl, e1, e2⟩ | ⟨rfl, e1, e2⟩ | ⟨rfl, e1, e2⟩
    · rw [e2] at hn
      exact eqDd e1 hn
    · rw [e2] at hn
      exact eqAnd_i (eqDd e1 hn) hw
    · rw [e2] at hn
      exact eqAnd_i (eqDd e1 hn) hw
  rw [if_neg h0] at hl
  by_cases h16 : op = 16
  · subst op
    rw [if_pos rfl] at hl
    have hw : eqFld oc a b z ws = true := hw
    obtain ⟨k, e1, e2, e3⟩ := eqFld_ok ho hw
    have e4 := eqA2_ok (q := (180, Instr.getfield)) hl (List.mem_of_getElem? (l := eqT2) (i := 1) rfl) hl2
    unfold eqA2 at hl
    cases hl
    show (eDec M.2.1 pc nx (.getfield a) 3 && (match eCL[b]? with
      | some k => decide (z.toNat < k.2.2) && eWd lw_tbl ws 0 (.fieldLink M.1.cls a (k.2.1 z.toNat).1 (k.2.1 z.toNat).2.1 (k.2.1 z.toNat).2.2.1)
      | none => false)) = true
    rw [e1]
    exact eqAnd_i (eqDd e4 hn) (eqAnd_i (decide_eq_true e2) e3)
  rw [if_neg h16] at hl
  by_cases h40 : op = 40
  · subst op
    rw [if_pos rfl] at hl
    split at hl
    · rename_i cp hcp
      have e4 := eqA2_ok (q := (182, Instr.invokevirtual)) hl (List.mem_of_getElem? (l := eqT2) (i := 3) rfl) hl2
      unfold eqA2 at hl
      cases hl
      exact eqCal_ok (sw := sw) ho hw (Or.inl rfl) (fun cp' h' => by
        rw [hcp] at h'
        cases h'
        exact ⟨fun _ => eqDd e4 hn, fun h => absurd h (by decide), fun h => absurd h (by decide)⟩)
    · cases hl
  rw [if_neg h40] at hl
  by_cases h6 : op = 6
  · subst op
    rw [if_pos rfl] at hl
    obtain ⟨e1, e2⟩ := eqs6 hl hl2
    rw [e2] at hn
    exact eqDd e1 hn
  rw [if_neg h6] at hl
  by_cases h50 : op = 50
  · subst op
    rw [if_pos rfl] at hl
    exact eqs50 hl hl2
  rw [if_neg h50] at hl
  by_cases h19 : op = 19
  · subst op
    rw [if_pos rfl] at hl
    obtain ⟨e1, e2⟩ := eqs19 hl hl2
    rw [e2] at hn
    exact eqDd e1 hn
  rw [if_neg h19] at hl
  by_cases h13 : op = 13
  · subst op
    rw [if_pos rfl] at hl
    have e1 := eqs13 hl hl2
    rw [eqs13_len hl] at hn e1
    have hw : decide ((pc : Int) + z = (a : Int)) = true := hw
    exact eqAnd_i (eqDd e1 hn) hw
  rw [if_neg h13] at hl
  by_cases h12 : op = 12
  · subst op
    rw [if_pos rfl] at hl
    have e1 := eqs12 hl hl2
    rw [eqs12_len hl] at hn e1
    have hw : decide ((pc : Int) + z = (a : Int)) = true := hw
    exact eqAnd_i (eqDd e1 hn) hw
  rw [if_neg h12] at hl
  by_cases h14 : op = 14
  · subst op
    rw [if_pos rfl] at hl
    have e1 := eqHl_ok (q := (167, Instr.goto)) hl (List.mem_of_getElem? (l := eqT2S) (i := 13) rfl) hl2
    rw [eqHl_len hl] at e1
    have hw : decide ((pc : Int) + z = (a : Int)) = true := hw
    exact eqAnd_i (decide_eq_true e1) hw
  rw [if_neg h14] at hl
  by_cases h4 : op = 4
  · subst op
    rw [if_pos rfl] at hl
    obtain ⟨i, e1, e2⟩ := eqs4 hl hl2
    show eOkO M.2.1 pc nx (eSnI b a) = true
    rw [e1]
    exact eqDd e2 hn
  rw [if_neg h4] at hl
  by_cases h17 : op = 17
  · subst op
    rw [if_pos rfl] at hl
    have hw : (eqFld oc a b z ws && (match eCL[b]? with
      | some k => decide ((k.2.1 z.toNat).2.2.2 = false) || (decide (M.1.name = "<init>") && decide ((k.2.1 z.toNat).1 = M.1.cls))
      | none => false)) = true := hw
    obtain ⟨hw, h6⟩ := eqAnd hw
    obtain ⟨k, e1, e2, e3⟩ := eqFld_ok ho hw
    have e4 := eqA2_ok (q := (181, Instr.putfield)) hl (List.mem_of_getElem? (l := eqT2) (i := 2) rfl) hl2
    unfold eqA2 at hl
    cases hl
    show (eDec M.2.1 pc nx (.putfield a) 3 && (match eCL[b]? with
      | some k => decide (z.toNat < k.2.2) && (eWd lw_tbl ws 0 (.fieldLink M.1.cls a (k.2.1 z.toNat).1 (k.2.1 z.toNat).2.1 (k.2.1 z.toNat).2.2.1) && (decide ((k.2.1 z.toNat).2.2.2 = false) || (decide (M.1.name = "<init>") && decide ((k.2.1 z.toNat).1 = M.1.cls))))
      | none => false)) = true
    rw [e1] at h6 ⊢
    exact eqAnd_i (eqDd e4 hn) (eqAnd_i (decide_eq_true e2) (eqAnd_i e3 h6))
  rw [if_neg h17] at hl
  by_cases h26 : op = 26
  · subst op
    rw [if_pos rfl] at hl
    obtain ⟨e1, e2⟩ := eqs26 hl hl2
    rw [e2] at hn
    exact eqDd e1 hn
  rw [if_neg h26] at hl
  by_cases h20 : op = 20
  · subst op
    rw [if_pos rfl] at hl
    obtain ⟨e1, e2⟩ := eqs20 hl hl2
    rw [e2] at hn
    exact eqDd e1 hn
  rw [if_neg h20] at hl
  by_cases h5 : op = 5
  · subst op
    rw [if_pos rfl] at hl
    obtain ⟨e1, e2⟩ := eqs5 hl hl2
    rw [e2] at hn
    exact eqDd e1 hn
  rw [if_neg h5] at hl
  by_cases h41 : op = 41
  · subst op
    rw [if_pos rfl] at hl
    split at hl
    · rename_i cp hcp
      have e4 := eqA2_ok (q := (184, Instr.invokestatic)) hl (List.mem_of_getElem? (l := eqT2) (i := 5) rfl) hl2
      unfold eqA2 at hl
      cases hl
      exact eqCal_ok (sw := sw) ho hw (Or.inr (Or.inl rfl)) (fun cp' h' => by
        rw [hcp] at h'
        cases h'
        exact ⟨fun h => absurd h (by decide), fun _ => eqDd e4 hn, fun h => absurd h (by decide)⟩)
    · cases hl
  rw [if_neg h41] at hl
  by_cases h42 : op = 42
  · subst op
    rw [if_pos rfl] at hl
    split at hl
    · rename_i cp hcp
      have e4 := eqA2_ok (q := (183, Instr.invokespecial)) hl (List.mem_of_getElem? (l := eqT2) (i := 4) rfl) hl2
      unfold eqA2 at hl
      cases hl
      exact eqCal_ok (sw := sw) ho hw (Or.inr (Or.inr rfl)) (fun cp' h' => by
        rw [hcp] at h'
        cases h'
        exact ⟨fun h => absurd h (by decide), fun h => absurd h (by decide), fun _ => eqDd e4 hn⟩)
    · cases hl
  rw [if_neg h42] at hl
  by_cases h8 : op = 8
  · subst op
    rw [if_pos rfl] at hl
    obtain ⟨e1, e2⟩ := eqs8 hl hl2
    rw [e2] at hn
    exact eqDd e1 hn
  rw [if_neg h8] at hl
  by_cases h7 : op = 7
  · subst op
    rw [if_pos rfl] at hl
    obtain ⟨e1, e2⟩ := eqs7 hl hl2
    rw [e2] at hn
    exact eqDd e1 hn
  rw [if_neg h7] at hl
  by_cases h9 : op = 9
  · subst op
    rw [if_pos rfl] at hl
    cases hl
    exact eqDd (eqDec_0 (q := (148, Instr.lcmp)) (List.mem_of_getElem? (l := eqT0) (i := 69) rfl) hl2) hn
  rw [if_neg h9] at hl
  by_cases h10 : op = 10
  · subst op
    rw [if_pos rfl] at hl
    cases hl
    exact eqDd (eqDec_0 (q := (121, Instr.lshl)) (List.mem_of_getElem? (l := eqT0) (i := 56) rfl) hl2) hn
  rw [if_neg h10] at hl
  by_cases h21 : op = 21
  · subst op
    rw [if_pos rfl] at hl
    cases hl
    exact eqDd (eqDec_0 (q := (190, Instr.arraylength)) (List.mem_of_getElem? (l := eqT0) (i := 73) rfl) hl2) hn
  rw [if_neg h21] at hl
  cases hl
def eqG1 (oc : Nat) (M : eM) (pc : Nat) (bs : List Nat) : Bool := match M.2.2.2.2.2 pc with
  | none => true
  | some I => eqChk oc M pc I bs
def eqGo (oc : Nat) (M : eM) : Nat → List Nat → Nat → Bool
  | 0, _, _ => true
  | _ + 1, [], _ => true
  | n + 1, b :: r, pc => eqG1 oc M pc (b :: r) && eqGo oc M n r (pc + 1)
theorem eqGo_ok {oc : Nat} {M : eM} : ∀ {n : Nat} {bs : List Nat} {pc : Nat}, eqGo oc M n bs pc = true → ∀ {k : Nat}, k < n → k < bs.length → eqG1 oc M (pc + k) (bs.drop k) = true
  | 0, _, _, _, _, h, _ => absurd h (Nat.not_lt_zero _)
  | _ + 1, [], _, _, _, _, h => absurd h (Nat.not_lt_zero _)
  | n + 1, b :: r, pc, h, k, h1, h2 => by
    have h : (eqG1 oc M pc (b :: r) && eqGo oc M n r (pc + 1)) = true := h
    obtain ⟨h3, h4⟩ := eqAnd h
    cases k with
    | zero => exact h3
    | succ k =>
      have e := eqGo_ok h4 (k := k) (by omega) (by simpa using h2)
      rw [show pc + (k + 1) = pc + 1 + k by omega]
      exact e
def eqBs (M : eM) : List Nat := M.2.1.data.toList.map UInt8.toNat
theorem eqG1_ok {oc : Nat} {M : eM} {pc : Nat} {I : eI} (ho : M.1.cls = eqSt oc) (h : eqG1 oc M pc ((eqBs M).drop pc) = true) (hI : M.2.2.2.2.2 pc = some I) : eOkI lw_tbl eNW eCL 5 eSN eNC eMTg M pc I = true := by
  unfold eqG1 at h
  rw [hI] at h
  refine eqChk_ok ho (fun k x hk => ?_) h
  rw [List.getElem?_drop] at hk
  exact eqU1 (bs := M.2.1.data) hk
/-- a method's code from a place on, so many places -/
def eqMp (mi lo n : Nat) : Bool := match eMTg mi, eqMc mi with
  | some M, some q => Nat.beq (eqBs M).length M.2.2.2.2.1 && eqGo q.1 M n ((eqBs M).drop lo) lo
  | _, _ => false
theorem eqMp_ok {mi lo n : Nat} (h : eqMp mi lo n = true) {M : eM} (hM : eMTg mi = some M) {pc : Nat} (h1 : lo ≤ pc) (h2 : pc < lo + n) (h3 : pc < M.2.2.2.2.1) {I : eI} (hI : M.2.2.2.2.2 pc = some I) : eOkI lw_tbl eNW eCL 5 eSN eNC eMTg M pc I = true := by
  unfold eqMp at h
  split at h
  · rename_i M' q e1 e2
    rw [hM] at e1
    cases e1
    obtain ⟨hl, h⟩ := eqAnd h
    have hl : (eqBs M).length = M.2.2.2.2.1 := Nat.eq_of_beq_eq_true hl
    have e := eqGo_ok h (k := pc - lo) (by omega) (by rw [List.length_drop]; omega)
    rw [List.drop_drop, show lo + (pc - lo) = pc by omega] at e
    obtain ⟨q', e3, e4⟩ := eqMc_ok mi M hM
    rw [e2] at e3
    cases e3
    exact eqG1_ok (by rw [e4]; rfl) e hI
  · cases h
def eqMw (mi : Nat) : Bool := match eMTg mi with
  | some M => eqMp mi 0 M.2.2.2.2.1
  | none => true
theorem eqMw_ok {mi : Nat} (h : eqMw mi = true) {M : eM} (hM : eMTg mi = some M) {pc : Nat} (h3 : pc < M.2.2.2.2.1) {I : eI} (hI : M.2.2.2.2.2 pc = some I) : eOkI lw_tbl eNW eCL 5 eSN eNC eMTg M pc I = true := by
  unfold eqMw at h
  rw [hM] at h
  exact eqMp_ok h hM (Nat.zero_le _) (by omega) h3 hI
/-- where each method's code stands in the tables -/
def eCWp (mi : Nat) : Prop := ∀ M : eM, eMTg mi = some M → Cond.code M.1 M.2.1 M.2.2.1 M.2.2.2.1 ∈ lw_tbl
theorem eqCw {mi : Nat} (h : eqWd eMW mi [9, mi] = true) : eCWp mi := by
  intro M hM
  obtain ⟨i, w, h1, h2⟩ := eqWd_ok h
  have hM2 : eMT mi = some M := by
    unfold eMTg at hM
    split at hM
    · exact hM
    · cases hM
  have e : eqDc [9, mi] w = Cond.code M.1 M.2.1 M.2.2.1 M.2.2.2.1 := by
    show (match eMT mi with
      | some M => Cond.code M.1 M.2.1 M.2.2.1 M.2.2.2.1
      | none => .tt) = _
    rw [hM2]
  rw [e] at h2
  exact List.mem_of_getElem? h2
end EQCHK
end
