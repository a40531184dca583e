/-! Consequences for put and shift: what they answer, what they keep. -/
noncomputable section
/-- forms that have a worth -/
def qHas (Γ : sG) (fs : List sL) : Bool := fs.all fun x => (sIv Γ.1 x).isSome
theorem qHas_ok {ρ : List Int} {Γ : sG} (hM : sMo ρ Γ) : ∀ {fs : List sL}, qHas Γ fs = true → ∃ zs, sVal ρ fs = some zs
  | [], _ => ⟨[], rfl⟩
  | f :: r, h => by
    unfold qHas at h
    simp only [List.all_cons, Bool.and_eq_true] at h
    obtain ⟨zs, hz⟩ := qHas_ok hM (fs := r) h.2
    obtain ⟨i, hi⟩ := Option.isSome_iff_exists.mp h.1
    obtain ⟨z, e⟩ := sIv_has hM.1 hi
    exact ⟨z :: zs, by simp only [sVal, e, hz]⟩
def qEq (Γ : sG) (a b : sL) : Bool := sNN Γ (sSub a b) && sNN Γ (sSub b a)
theorem qEq_ok {ρ : List Int} {Γ : sG} (hM : sMo ρ Γ) {a b : sL} {x y : Int} (ha : sEv ρ a = some x) (hb : sEv ρ b = some y) (h : qEq Γ a b = true) : x = y := by
  unfold qEq at h
  simp only [Bool.and_eq_true] at h
  have h1 := sNN_ok hM (sEv_sub ha hb) h.1
  have h2 := sNN_ok hM (sEv_sub hb ha) h.2
  omega
def qNe (Γ : sG) (a b : sL) : Bool := match sSub a b with
  | d => Γ.2.2.1.any (fun f => decide (f = d) || decide (f = sNeg d)) || (sNN Γ (sSub d (sC 1)) || sNN Γ (sSub (sNeg d) (sC 1)))
theorem qNe_ok {ρ : List Int} {Γ : sG} (hM : sMo ρ Γ) {a b : sL} {x y : Int} (ha : sEv ρ a = some x) (hb : sEv ρ b = some y) (h : qNe Γ a b = true) : x ≠ y := by
  have hd := sEv_sub ha hb
  unfold qNe at h
  simp only [Bool.or_eq_true] at h
  rcases h with h | h | h
  · obtain ⟨f, hf, hc⟩ := List.any_eq_true.mp h
    obtain ⟨z, e1, e2⟩ := hM.2.2.1 f hf
    simp only [Bool.or_eq_true, decide_eq_true_eq] at hc
    rcases hc with rfl | rfl
    · cases e1.symm.trans hd
      omega
    · cases e1.symm.trans (sEv_neg hd)
      omega
  · have := sNN_ok hM (sEv_sub hd (sEv_C 1)) h
    omega
  · have := sNN_ok hM (sEv_sub (sEv_neg hd) (sEv_C 1)) h
    omega
def qPlev (Γ : sG) (ls lo i j n : sL) : Option sL :=
  if (sNN Γ (sSub (sC (-1)) n) || (sNN Γ (sSub (sC (-1)) i) || (sNN Γ (sSub (sC (-1)) j) || (sNN Γ (sSub (sSub i (sSub ls n)) (sC 1)) || sNN Γ (sSub (sSub j (sSub lo n)) (sC 1)))))) = true then some (sC (-13))
  else if (sNN Γ n && (sNN Γ i && (sNN Γ j && (sNN Γ (sSub (sSub ls n) i) && sNN Γ (sSub (sSub lo n) j))))) = true then some n else none
theorem qPlev_ok {ρ : List Int} {Γ : sG} (hM : sMo ρ Γ) {ls lo i j n r : sL} {zl zo zi zj zn : Int} (hl : sEv ρ ls = some zl) (ho : sEv ρ lo = some zo) (hi : sEv ρ i = some zi) (hj : sEv ρ j = some zj) (hn : sEv ρ n = some zn) (h : qPlev Γ ls lo i j n = some r) : sEv ρ r = some (qPl zl zo zi zj zn) := by
  unfold qPlev at h
  split at h
  · rename_i hc
    cases h
    simp only [Bool.or_eq_true] at hc
    unfold qPl
    rw [if_pos, sEv_C]
    rcases hc with hc | hc | hc | hc | hc
    · have := sNN_ok hM (sEv_sub (sEv_C (-1)) hn) hc; omega
    · have := sNN_ok hM (sEv_sub (sEv_C (-1)) hi) hc; omega
    · have := sNN_ok hM (sEv_sub (sEv_C (-1)) hj) hc; omega
    · have := sNN_ok hM (sEv_sub (sEv_sub hi (sEv_sub hl hn)) (sEv_C 1)) hc; omega
    · have := sNN_ok hM (sEv_sub (sEv_sub hj (sEv_sub ho hn)) (sEv_C 1)) hc; omega
  split at h
  · rename_i hc
    cases h
    simp only [Bool.and_eq_true] at hc
    obtain ⟨c1, c2, c3, c4, c5⟩ := hc
    have d1 := sNN_ok hM hn c1
    have d2 := sNN_ok hM hi c2
    have d3 := sNN_ok hM hj c3
    have d4 := sNN_ok hM (sEv_sub (sEv_sub hl hn) hi) c4
    have d5 := sNN_ok hM (sEv_sub (sEv_sub ho hn) hj) c5
    unfold qPl
    rw [if_neg (by omega)]
    exact hn
  · cases h
def qShev (Γ : sG) (hs ss ls ho so lo i j n : sL) : Option sL :=
  if (qEq Γ hs (sC 0) || qEq Γ ho (sC 0)) = true then some (sC (-11))
  else if (qNe Γ hs (sC 0) && qNe Γ ho (sC 0)) = true then
    (if (qNe Γ hs (sC 2) || (qNe Γ ho (sC 2) || qNe Γ ss so)) = true then some (sC (-12))
     else if (qEq Γ hs (sC 2) && (qEq Γ ho (sC 2) && qEq Γ ss so)) = true then qPlev Γ ls lo i j n else none) else none
theorem qShev_ok {ρ : List Int} {Γ : sG} (hM : sMo ρ Γ) {hs ss ls ho so lo i j n r : sL} {a b c d e f zi zj zn : Int} (h1 : sEv ρ hs = some a) (h2 : sEv ρ ss = some b) (h3 : sEv ρ ls = some c) (h4 : sEv ρ ho = some d) (h5 : sEv ρ so = some e) (h6 : sEv ρ lo = some f) (hi : sEv ρ i = some zi) (hj : sEv ρ j = some zj) (hn : sEv ρ n = some zn) (h : qShev Γ hs ss ls ho so lo i j n = some r) : sEv ρ r = some (qSh a b c d e f zi zj zn) := by
  unfold qShev at h
  unfold qSh
  split at h
  · rename_i hc
    cases h
    simp only [Bool.or_eq_true] at hc
    rw [if_pos, sEv_C]
    rcases hc with hc | hc
    · exact Or.inl (qEq_ok hM h1 (sEv_C 0) hc)
    · exact Or.inr (qEq_ok hM h4 (sEv_C 0) hc)
  split at h
  · rename_i hc
    simp only [Bool.and_eq_true] at hc
    have n1 := qNe_ok hM h1 (sEv_C 0) hc.1
    have n2 := qNe_ok hM h4 (sEv_C 0) hc.2
    rw [if_neg (by omega)]
    split at h
    · rename_i hc2
      cases h
      simp only [Bool.or_eq_true] at hc2
      rw [if_pos, sEv_C]
      rcases hc2 with hc2 | hc2 | hc2
      · exact Or.inl (qNe_ok hM h1 (sEv_C 2) hc2)
      · exact Or.inr (Or.inl (qNe_ok hM h4 (sEv_C 2) hc2))
      · exact Or.inr (Or.inr (qNe_ok hM h2 h5 hc2))
    split at h
    · rename_i hc3
      simp only [Bool.and_eq_true] at hc3
      have m1 := qEq_ok hM h1 (sEv_C 2) hc3.1
      have m2 := qEq_ok hM h4 (sEv_C 2) hc3.2.1
      have m3 := qEq_ok hM h2 h5 hc3.2.2
      rw [if_neg (by omega)]
      exact qPlev_ok hM h3 h6 hi hj hn h
    · cases h
  · cases h
def qSmev (Γ : sG) (ms zs mo zo i j n : sL) : Option sL :=
  if (qEq Γ ms (sC (-1)) || qEq Γ mo (sC (-1))) = true then some (sC (-11))
  else if (qNe Γ ms (sC (-1)) && qNe Γ mo (sC (-1))) = true then
    (if (sNN Γ ms || qNe Γ ms mo) = true then some (sC (-12))
     else if (sNN Γ (sSub (sC (-1)) ms) && qEq Γ ms mo) = true then qPlev Γ zs zo i j n else none) else none
theorem qSmev_ok {ρ : List Int} {Γ : sG} (hM : sMo ρ Γ) {ms zs mo zo i j n r : sL} {a b c d zi zj zn : Int} (h1 : sEv ρ ms = some a) (h2 : sEv ρ zs = some b) (h3 : sEv ρ mo = some c) (h4 : sEv ρ zo = some d) (hi : sEv ρ i = some zi) (hj : sEv ρ j = some zj) (hn : sEv ρ n = some zn) (h : qSmev Γ ms zs mo zo i j n = some r) : sEv ρ r = some (qSm a b c d zi zj zn) := by
  unfold qSmev at h
  unfold qSm
  split at h
  · rename_i hc
    cases h
    simp only [Bool.or_eq_true] at hc
    rw [if_pos, sEv_C]
    rcases hc with hc | hc
    · exact Or.inl (qEq_ok hM h1 (sEv_C (-1)) hc)
    · exact Or.inr (qEq_ok hM h3 (sEv_C (-1)) hc)
  split at h
  · rename_i hc
    simp only [Bool.and_eq_true] at hc
    have n1 := qNe_ok hM h1 (sEv_C (-1)) hc.1
    have n2 := qNe_ok hM h3 (sEv_C (-1)) hc.2
    rw [if_neg (by omega)]
    split at h
    · rename_i hc2
      cases h
      simp only [Bool.or_eq_true] at hc2
      rw [if_pos, sEv_C]
      rcases hc2 with hc2 | hc2
      · exact Or.inl (sNN_ok hM h1 hc2)
      · exact Or.inr (qNe_ok hM h1 h3 hc2)
    split at h
    · rename_i hc3
      simp only [Bool.and_eq_true] at hc3
      have m1 := sNN_ok hM (sEv_sub (sEv_C (-1)) h1) hc3.1
      have m2 := qEq_ok hM h1 h3 hc3.2
      rw [if_neg (by omega)]
      exact qPlev_ok hM h2 h4 hi hj hn h
    · cases h
  · cases h
def qInev (Γ : sG) (i le : sL) : Option sL :=
  if (sNN Γ (sSub (sC (-1)) i) || sNN Γ (sSub i le)) = true then some (sC (-13))
  else if (sNN Γ i && sNN Γ (sSub (sSub le i) (sC 1))) = true then some (sC 1) else none
theorem qInev_ok {ρ : List Int} {Γ : sG} (hM : sMo ρ Γ) {i le r : sL} {zi zl : Int} (hi : sEv ρ i = some zi) (hl : sEv ρ le = some zl) (h : qInev Γ i le = some r) : sEv ρ r = some (qIn zi zl) := by
  unfold qInev at h
  unfold qIn
  split at h
  · rename_i hc
    cases h
    simp only [Bool.or_eq_true] at hc
    rw [if_pos, sEv_C]
    rcases hc with hc | hc
    · have := sNN_ok hM (sEv_sub (sEv_C (-1)) hi) hc; omega
    · have := sNN_ok hM (sEv_sub hi hl) hc; omega
  split at h
  · rename_i hc
    cases h
    simp only [Bool.and_eq_true] at hc
    have d1 := sNN_ok hM hi hc.1
    have d2 := sNN_ok hM (sEv_sub (sEv_sub hl hi) (sEv_C 1)) hc.2
    rw [if_neg (by omega), sEv_C]
  · cases h
def qPxev (Γ : sG) (h le i : sL) : Option sL :=
  if qEq Γ h (sC 0) = true then some (sC (-11)) else if qNe Γ h (sC 0) = true then
    (if qNe Γ h (sC 2) = true then some (sC (-12)) else if qEq Γ h (sC 2) = true then qInev Γ i le else none) else none
theorem qPxev_ok {ρ : List Int} {Γ : sG} (hM : sMo ρ Γ) {x le i r : sL} {zx zl zi : Int} (hx : sEv ρ x = some zx) (hl : sEv ρ le = some zl) (hi : sEv ρ i = some zi) (h : qPxev Γ x le i = some r) : sEv ρ r = some (qPx zx zl zi) := by
  unfold qPxev at h
  unfold qPx
  split at h
  · rename_i hc
    cases h
    rw [if_pos (qEq_ok hM hx (sEv_C 0) hc), sEv_C]
  split at h
  · rename_i hc
    rw [if_neg (qNe_ok hM hx (sEv_C 0) hc)]
    split at h
    · rename_i hc2
      cases h
      rw [if_pos (qNe_ok hM hx (sEv_C 2) hc2), sEv_C]
    split at h
    · rename_i hc3
      rw [if_neg (fun g => g (qEq_ok hM hx (sEv_C 2) hc3))]
      exact qInev_ok hM hi hl h
    · cases h
  · cases h
def qPmev (Γ : sG) (m si i : sL) : Option sL :=
  if qEq Γ m (sC (-1)) = true then some (sC (-11)) else if qNe Γ m (sC (-1)) = true then
    (if sNN Γ m = true then some (sC (-12)) else if sNN Γ (sSub (sC (-1)) m) = true then qInev Γ i si else none) else none
theorem qPmev_ok {ρ : List Int} {Γ : sG} (hM : sMo ρ Γ) {x le i r : sL} {zx zl zi : Int} (hx : sEv ρ x = some zx) (hl : sEv ρ le = some zl) (hi : sEv ρ i = some zi) (h : qPmev Γ x le i = some r) : sEv ρ r = some (qPm zx zl zi) := by
  unfold qPmev at h
  unfold qPm
  split at h
  · rename_i hc
    cases h
    rw [if_pos (qEq_ok hM hx (sEv_C (-1)) hc), sEv_C]
  split at h
  · rename_i hc
    rw [if_neg (qNe_ok hM hx (sEv_C (-1)) hc)]
    split at h
    · rename_i hc2
      cases h
      rw [if_pos (sNN_ok hM hx hc2), sEv_C]
    split at h
    · rename_i hc3
      have := sNN_ok hM (sEv_sub (sEv_C (-1)) hx) hc3
      rw [if_neg (by omega)]
      exact qInev_ok hM hi hl h
    · cases h
  · cases h
/-- a number of a shelf out of the first six -/
def qCn (K : kS) (i : Nat) : Option Nat := match kLf K.1.2.1 i with
  | some v => (match sK K.1.2.2.2.2.2.2.1 v with
    | some z => if 0 ≤ z ∧ z < 6 then some z.toNat else none
    | none => none)
  | none => none
def qXs (G : List sE) (s : Nat) : Option (sL × sL × sL) := match kFf G (40 + 2 * s) 1, kFf G (40 + 2 * s) 3, kFf G (40 + 2 * s) 4 with
  | some a, some b, some c => some (a, b, c)
  | _, _, _ => none
theorem qVal_4 {ρ : List Int} {a b c d : sL} {zs : List Int} (h : sVal ρ [a, b, c, d] = some zs) : ∃ p q r s, zs = [p, q, r, s] ∧ sEv ρ a = some p ∧ sEv ρ b = some q ∧ sEv ρ c = some r ∧ sEv ρ d = some s := by
  obtain ⟨p, _, rfl, h1, h⟩ := sVal_cons h
  obtain ⟨q, _, rfl, h2, h⟩ := sVal_cons h
  obtain ⟨r, _, rfl, h3, h⟩ := sVal_cons h
  obtain ⟨s, _, rfl, h4, h⟩ := sVal_cons h
  cases h
  exact ⟨p, q, r, s, rfl, h1, h2, h3, h4⟩
theorem qVal_8 {ρ : List Int} {a b c d e f g i : sL} {zs : List Int} (h : sVal ρ [a, b, c, d, e, f, g, i] = some zs) : ∃ p q r s t u v w, zs = [p, q, r, s, t, u, v, w] ∧ sEv ρ a = some p ∧ sEv ρ b = some q ∧ sEv ρ c = some r ∧ sEv ρ d = some s ∧ sEv ρ e = some t ∧ sEv ρ f = some u ∧ sEv ρ g = some v ∧ sEv ρ i = some w := by
  obtain ⟨p, _, rfl, h1, h⟩ := sVal_cons h
  obtain ⟨q, r, s, t, u, v, w, rfl, h2, h3, h4, h5, h6, h7, h8⟩ := sVal_7 h
  exact ⟨p, q, r, s, t, u, v, w, rfl, h1, h2, h3, h4, h5, h6, h7, h8⟩
theorem qVal_10 {ρ : List Int} {a b c d e f g i j k : sL} {zs : List Int} (h : sVal ρ [a, b, c, d, e, f, g, i, j, k] = some zs) : ∃ p q r s t u v w x y, zs = [p, q, r, s, t, u, v, w, x, y] ∧ sEv ρ a = some p ∧ sEv ρ b = some q ∧ sEv ρ c = some r ∧ sEv ρ d = some s ∧ sEv ρ e = some t ∧ sEv ρ f = some u ∧ sEv ρ g = some v ∧ sEv ρ i = some w ∧ sEv ρ j = some x ∧ sEv ρ k = some y := by
  obtain ⟨p, _, rfl, h1, h⟩ := sVal_cons h
  obtain ⟨q, _, rfl, h2, h⟩ := sVal_cons h
  obtain ⟨r, s, t, u, v, w, x, y, rfl, h3, h4, h5, h6, h7, h8, h9, h10⟩ := qVal_8 h
  exact ⟨p, q, r, s, t, u, v, w, x, y, rfl, h1, h2, h3, h4, h5, h6, h7, h8, h9, h10⟩
section QPS
variable {RO : List (Nat × (Nat → Int32))}
theorem qGP {k : Nat} {zs : List Int} {H : List eE} (h1 : 105 ≤ k ∧ k < 110) (h2 : k < 1000) (h : kGP (kUP RO) k zs H) : pUP k zs := by
  unfold kGP at h
  rw [if_neg (by omega)] at h
  exact (kUPp h1).mp h
/-- the class' shift has an answer -/
def kQSX (K : kS) : Option kWs := match qCn K 1, qCn K 3, kLf K.1.2.1 2, kLf K.1.2.1 4, kLf K.1.2.1 5, kTop K with
  | some s, some o, some i, some j, some n, some r => (match qXs K.1.2.2.2.1 s, qXs K.1.2.2.2.1 o with
    | some (hs, ss, l1), some (ho, so, l2) => if qHas K.1.2.2.2.2.2.2 [hs, ss, l1, ho, so, l2, i, j, n, r] = true ∧ qShev K.1.2.2.2.2.2.2 hs ss l1 ho so l2 i j n = some r then some [([(105, [hs, ss, l1, ho, so, l2, i, j, n, r])], [])] else none
    | _, _ => none)
  | _, _, _, _, _, _ => none
theorem kQSX_ok : kRok RO kQSX := by
  intro K ws h ρ R hD
  unfold kQSX at h
  split at h
  · split at h
    · split at h
      · rename_i hc
        cases h
        obtain ⟨zs, hz⟩ := qHas_ok hD.1 hc.1
        obtain ⟨p, q, r, s, t, u, v, w, x, y, rfl, h1, h2, h3, h4, h5, h6, h7, h8, h9, h10⟩ := qVal_10 hz
        have e := qShev_ok hD.1 h1 h2 h3 h4 h5 h6 h7 h8 h9 hc.2
        cases e.symm.trans h10
        exact ⟨_, List.mem_singleton.mpr rfl, kAt1 (by decide) hz ((kUPp (by decide)).mpr ⟨_, _, _, _, _, _, _, _, _, _, rfl, rfl⟩), fun b hb => by cases hb⟩
      · cases h
    · cases h
  · cases h
/-- the class' put has one -/
def kQPX (K : kS) : Option kWs := match qCn K 1, kLf K.1.2.1 2, kTop K with
  | some s, some i, some r => (match qXs K.1.2.2.2.1 s with
    | some (h, _, le) => if qHas K.1.2.2.2.2.2.2 [h, le, i, r] = true ∧ qPxev K.1.2.2.2.2.2.2 h le i = some r then some [([(107, [h, le, i, r])], [])] else none
    | none => none)
  | _, _, _ => none
theorem kQPX_ok : kRok RO kQPX := by
  intro K ws h ρ R hD
  unfold kQPX at h
  split at h
  · split at h
    · split at h
      · rename_i hc
        cases h
        obtain ⟨zs, hz⟩ := qHas_ok hD.1 hc.1
        obtain ⟨p, q, r, s, rfl, h1, h2, h3, h4⟩ := qVal_4 hz
        have e := qPxev_ok hD.1 h1 h2 h3 hc.2
        cases e.symm.trans h4
        exact ⟨_, List.mem_singleton.mpr rfl, kAt1 (by decide) hz ((kUPp (by decide)).mpr ⟨_, _, _, _, rfl, rfl⟩), fun b hb => by cases hb⟩
      · cases h
    · cases h
  · cases h
/-- what a row of a sort keeps -/
def qCoz (Γ : sG) (so v w : sL) : Bool := match sK Γ.1 so with
  | some z => if z = 3 then decide (w = v) else if z = 4 then (sI64 Γ.1 v && ((decide (w = sC 1) && qNe Γ v (sC 0)) || (decide (w = sC 0) && qEq Γ v (sC 0))))
    else (match kNr Γ v with
      | some x => if z = 2 then decide (w = x) else if z = 0 then (if sWi Γ.1 x (-128) 127 = true then decide (w = x) else Γ.2.2.2.any (fun q => decide (q.1 = 301) && (decide (q.2.1 = x) && (decide (q.2.2.1 = sC 0) && decide (w = sX q.2.2.2)))))
        else if z = 1 then (if sWi Γ.1 x (-32768) 32767 = true then decide (w = x) else Γ.2.2.2.any (fun q => decide (q.1 = 302) && (decide (q.2.1 = x) && (decide (q.2.2.1 = sC 0) && decide (w = sX q.2.2.2))))) else false
      | none => false)
  | none => false
theorem q64 (y : Int32) : Int64.ofInt y.toInt = y.toInt64 := by rw [← Int32.toInt_toInt64, Int64.ofInt_toInt]
theorem qCoz_ok {ρ : List Int} {Γ : sG} (hM : sMo ρ Γ) {so v w : sL} {zs zv zw : Int} (hs : sEv ρ so = some zs) (hv : sEv ρ v = some zv) (hw : sEv ρ w = some zw) (h : qCoz Γ so v w = true) : Int64.ofInt zw = qCo zs (Int64.ofInt zv) := by
  unfold qCoz at h
  split at h
  · rename_i z hz
    have e := sK_ok hM.1 hs hz
    subst e
    split at h
    · rename_i h3
      subst h3
      have h := of_decide_eq_true h
      subst h
      cases hv.symm.trans hw
      rfl
    split at h
    · rename_i h3 h4
      subst h4
      simp only [Bool.and_eq_true, Bool.or_eq_true, decide_eq_true_eq] at h
      have hr := sWi_ok hM.1 hv h.1
      have t := Int64.toInt_ofInt_of_le (n := zv) (by simpa using hr.1) (by have := hr.2; simp; omega)
      rcases h.2 with ⟨rfl, h5⟩ | ⟨rfl, h5⟩
      · have := qNe_ok hM hv (sEv_C 0) h5
        rw [sEv_C] at hw
        cases hw
        show _ = if Int64.ofInt zv = 0 then (0 : Int64) else 1
        rw [if_neg (fun g => this (by rw [g] at t; simpa using t.symm))]
        rfl
      · have := qEq_ok hM hv (sEv_C 0) h5
        subst this
        rw [sEv_C] at hw
        cases hw
        rfl
    split at h
    · rename_i h3 h4 x hx
      have ex := kNr_ok hM hv hx
      split at h
      · rename_i h2
        subst h2
        have h := of_decide_eq_true h
        subst h
        cases ex.symm.trans hw
        show _ = (Int64.ofInt zv).toInt32.toInt64
        rw [q64]
      split at h
      · rename_i h0
        subst h0
        show _ = (Int64.ofInt zv).toInt32.toInt8.toInt32.toInt64
        split at h
        · rename_i hr
          have h := of_decide_eq_true h
          subst h
          cases ex.symm.trans hw
          have hr := sWi_ok hM.1 hw hr
          have hb := sNarB hr.1 hr.2
          rw [vp_nar_byte, Int32.ofInt_toInt] at hb
          rw [hb, q64]
        · obtain ⟨q, hq, hc⟩ := List.any_eq_true.mp h
          simp only [Bool.and_eq_true, decide_eq_true_eq] at hc
          obtain ⟨c1, c2, c3, rfl⟩ := hc
          obtain ⟨za, zb, e1, e2, e3⟩ := hM.2.2.2 q hq
          rw [c2] at e1
          cases e1.symm.trans ex
          have e4 := sEv_X e3
          rw [c1] at e4
          cases e4.symm.trans hw
          show Int64.ofInt (Int32.ofInt _).toInt8.toInt32.toInt = _
          rw [Int32.ofInt_toInt, q64]
      split at h
      · rename_i h1
        subst h1
        show _ = (Int64.ofInt zv).toInt32.toInt16.toInt32.toInt64
        split at h
        · rename_i hr
          have h := of_decide_eq_true h
          subst h
          cases ex.symm.trans hw
          have hr := sWi_ok hM.1 hw hr
          have hb := sNarS hr.1 hr.2
          rw [vp_nar_short, Int32.ofInt_toInt] at hb
          rw [hb, q64]
        · obtain ⟨q, hq, hc⟩ := List.any_eq_true.mp h
          simp only [Bool.and_eq_true, decide_eq_true_eq] at hc
          obtain ⟨c1, c2, c3, rfl⟩ := hc
          obtain ⟨za, zb, e1, e2, e3⟩ := hM.2.2.2 q hq
          rw [c2] at e1
          cases e1.symm.trans ex
          have e4 := sEv_X e3
          rw [c1] at e4
          cases e4.symm.trans hw
          show Int64.ofInt (Int32.ofInt _).toInt16.toInt32.toInt = _
          rw [Int32.ofInt_toInt, q64]
      · cases h
    · cases h
  · cases h
/-- what the class' put keeps -/
def kQCO (K : kS) : Option kWs := match qCn K 1, kLf K.1.2.1 2, sGetL K.1.2.1 3, kTop K with
  | some s, some i, some (1, v), some r => if r = sC 1 then (match qXs K.1.2.2.2.1 s, kFindEl K.2 (41 + 2 * s) i with
    | some (_, so, _), some w => if qHas K.1.2.2.2.2.2.2 [so, v, w] = true ∧ qCoz K.1.2.2.2.2.2.2 so v w = true then some [([(109, [so, v, w])], [])] else none
    | _, _ => none) else none
  | _, _, _, _ => none
theorem kQCO_ok : kRok RO kQCO := by
  intro K ws h ρ R hD
  unfold kQCO at h
  split at h
  · split at h
    · split at h
      · split at h
        · rename_i hc
          cases h
          obtain ⟨zs, hz⟩ := qHas_ok hD.1 hc.1
          obtain ⟨x, y, z, rfl, h1, h2, h3⟩ := sVal_3 hz
          exact ⟨_, List.mem_singleton.mpr rfl, kAt1 (by decide) hz ((kUPp (by decide)).mpr ⟨_, _, _, rfl, qCoz_ok hD.1 h1 h2 h3 hc.2⟩), fun b hb => by cases hb⟩
        · cases h
      · cases h
    · cases h
  · cases h
/-- what the reference's put keeps is that -/
def kQCS (K : kS) : Option (List kS) := match K with
  | ((pc, ls, (1, w) :: st, G, c, s, Γ), γ) => (match sGetL ls 3, kLf ls 6 with
    | some (1, v), some so => (match kFa γ 109 (fun fs => match fs with
        | [a, b, _] => decide (a = so) && decide (b = v)
        | _ => false) with
      | some [a, b, x] => if a = so ∧ b = v ∧ qCoz Γ so v w = true then some [((pc, ls, (1, x) :: st, G, c, s, Γ), γ)] else some [K]
      | _ => some [K])
    | _, _ => some [K])
  | _ => some [K]
theorem kQCS_ok {K : kS} {L : List kS} (h : kQCS K = some L) {ρ : List Int} {R : eR} (hD : kD (kGP (kUP RO)) ρ K R) : ∃ K' ∈ L, ∃ ρ', ρ <+: ρ' ∧ kD (kGP (kUP RO)) ρ' K' R := by
  have same : ∀ K0 : kS, K0 = K → some [K0] = some L → ∃ K' ∈ L, ∃ ρ', ρ <+: ρ' ∧ kD (kGP (kUP RO)) ρ' K' R := fun K0 e g => by
    cases g
    subst e
    exact ⟨_, List.mem_singleton.mpr rfl, ρ, List.prefix_refl _, hD⟩
  unfold kQCS at h
  split at h
  · rename_i pc ls w st G c s Γ γ
    split at h
    · rename_i v so hv hso
      split at h
      · rename_i a b x hfa
        split at h
        · rename_i hc
          obtain ⟨rfl, rfl, hc⟩ := hc
          cases h
          obtain ⟨-, zs, e1, e2⟩ := kFa_ok hD.2.2 hfa (by decide)
          obtain ⟨y1, y2, y3, rfl, f1, f2, f3⟩ := sVal_3 e1
          obtain ⟨p, q, r, he, hco⟩ : ∃ so v w, [y1, y2, y3] = [so, v, w] ∧ Int64.ofInt w = qCo so (Int64.ofInt v) := (kUPp (by decide)).mp e2
          cases he
          refine ⟨_, List.mem_singleton.mpr rfl, ρ, List.prefix_refl _, hD.1, ⟨hD.2.1.1, hD.2.1.2.1, ?_, hD.2.1.2.2.2⟩, hD.2.2⟩
          obtain ⟨zw, r1, hr, ew, hV⟩ := sVs_long hD.2.1.2.2.1
          have hq := qCoz_ok hD.1 f1 f2 ew hc
          show sVs ρ ((1, x) :: st) R.2.2.1
          rw [hr]
          exact ⟨⟨y3, f3, by rw [hq, hco]⟩, hV⟩
        · exact same _ rfl h
      · exact same _ rfl h
    · exact same _ rfl h
  · exact same _ rfl h
/-- a number that is known to be another one -/
def qSame (K : kS) (r c : sL) : Option (List kS) := match K with
  | ((pc, ls, st, G, c0, s, Γ), γ) => (match kAs Γ (sSub r c) 0 0 with
    | some Γ' => (match st with
      | (0, x) :: rest => if x = c then some [((pc, ls, (0, r) :: rest, G, c0, s, Γ'), γ)] else some [((pc, ls, st, G, c0, s, Γ'), γ)]
      | _ => some [((pc, ls, st, G, c0, s, Γ'), γ)])
    | none => some [])
theorem qSame_ok {GP : Nat → List Int → List eE → Prop} {K : kS} {L : List kS} {r c : sL} (h : qSame K r c = some L) {ρ : List Int} {R : eR} {z : Int} (hr : sEv ρ r = some z) (hc : sEv ρ c = some z) (hD : kD GP ρ K R) : ∃ K' ∈ L, ∃ ρ', ρ <+: ρ' ∧ kD GP ρ' K' R := by
  obtain ⟨⟨pc, ls, st, G, c0, s, Γ⟩, γ⟩ := K
  simp only [qSame] at h
  obtain ⟨Γ', g1, g2⟩ := kAs_ok hD.1 (sEv_sub hr hc) (lo := 0) (hi := 0) (by omega) (by omega)
  rw [g1] at h
  simp only at h
  have plain : some [(((pc, ls, st, G, c0, s, Γ'), γ) : kS)] = some L → ∃ K' ∈ L, ∃ ρ', ρ <+: ρ' ∧ kD GP ρ' K' R := fun g => by
    cases g
    exact ⟨_, List.mem_singleton.mpr rfl, ρ, List.prefix_refl _, g2, hD.2⟩
  split at h
  · rename_i x rest
    split at h
    · rename_i hx
      subst hx
      cases h
      refine ⟨_, List.mem_singleton.mpr rfl, ρ, List.prefix_refl _, g2, ⟨hD.2.1.1, hD.2.1.2.1, ?_, hD.2.1.2.2.2⟩, hD.2.2⟩
      obtain ⟨zw, r1, hr1, ew, hV⟩ := sVs_int hD.2.1.2.2.1
      cases ew.symm.trans hc
      show sVs ρ ((0, r) :: rest) R.2.2.1
      rw [hr1]
      exact ⟨⟨_, hr, rfl⟩, hV⟩
    · exact plain h
  · exact plain h
/-- the reference's shift: its answer is the told one -/
def kQSM (K : kS) : Option (List kS) := match kFa K.2 106 (fun _ => true) with
  | some [ms, zs, mo, zo, i, j, n, r] => (match qSmev K.1.2.2.2.2.2.2 ms zs mo zo i j n with
    | some c => qSame K r c
    | none => some [K])
  | _ => some [K]
theorem kQSM_ok {K : kS} {L : List kS} (h : kQSM K = some L) {ρ : List Int} {R : eR} (hD : kD (kGP (kUP RO)) ρ K R) : ∃ K' ∈ L, ∃ ρ', ρ <+: ρ' ∧ kD (kGP (kUP RO)) ρ' K' R := by
  have same : some [K] = some L → ∃ K' ∈ L, ∃ ρ', ρ <+: ρ' ∧ kD (kGP (kUP RO)) ρ' K' R := fun g => by
    cases g
    exact ⟨_, List.mem_singleton.mpr rfl, ρ, List.prefix_refl _, hD⟩
  unfold kQSM at h
  split at h
  · rename_i ms zs mo zo i j n r hfa
    split at h
    · rename_i c hc
      obtain ⟨-, ys, e1, e2⟩ := kFa_ok hD.2.2 hfa (by decide)
      obtain ⟨y1, y2, y3, y4, y5, y6, y7, y8, rfl, f1, f2, f3, f4, f5, f6, f7, f8⟩ := qVal_8 e1
      obtain ⟨a1, a2, a3, a4, a5, a6, a7, a8, he, hr⟩ : ∃ a b c d i j n r, [y1, y2, y3, y4, y5, y6, y7, y8] = [a, b, c, d, i, j, n, r] ∧ r = qSm a b c d i j n := (kUPp (by decide)).mp e2
      cases he
      have e := qSmev_ok hD.1 f1 f2 f3 f4 f5 f6 f7 hc
      rw [← hr] at e
      exact qSame_ok h f8 e hD
    · exact same h
  · exact same h
def kQPM (K : kS) : Option (List kS) := match kFa K.2 108 (fun _ => true) with
  | some [m, si, i, r] => (match qPmev K.1.2.2.2.2.2.2 m si i with
    | some c => qSame K r c
    | none => some [K])
  | _ => some [K]
theorem kQPM_ok {K : kS} {L : List kS} (h : kQPM K = some L) {ρ : List Int} {R : eR} (hD : kD (kGP (kUP RO)) ρ K R) : ∃ K' ∈ L, ∃ ρ', ρ <+: ρ' ∧ kD (kGP (kUP RO)) ρ' K' R := by
  have same : some [K] = some L → ∃ K' ∈ L, ∃ ρ', ρ <+: ρ' ∧ kD (kGP (kUP RO)) ρ' K' R := fun g => by
    cases g
    exact ⟨_, List.mem_singleton.mpr rfl, ρ, List.prefix_refl _, hD⟩
  unfold kQPM at h
  split at h
  · rename_i m si i r hfa
    split at h
    · rename_i c hc
      obtain ⟨-, ys, e1, e2⟩ := kFa_ok hD.2.2 hfa (by decide)
      obtain ⟨y1, y2, y3, y4, rfl, f1, f2, f3, f4⟩ := qVal_4 e1
      obtain ⟨a1, a2, a3, a4, he, hr⟩ : ∃ a b i r, [y1, y2, y3, y4] = [a, b, i, r] ∧ r = qPm a b i := (kUPp (by decide)).mp e2
      cases he
      have e := qPmev_ok hD.1 f1 f2 f3 hc
      rw [← hr] at e
      exact qSame_ok h f4 e hD
    · exact same h
  · exact same h
/-- what is not, once more -/
def qNT : List sL → sG → Option sG
  | [], Γ => some Γ
  | f :: r, Γ => match sIv Γ.1 f with
    | some i => if i.1 = 0 then (match sAsm Γ (sSub f (sC 1)) with
        | some Γ' => qNT r Γ'
        | none => none)
      else if i.2 = 0 then (match sAsm Γ (sSub (sC (-1)) f) with
        | some Γ' => qNT r Γ'
        | none => none) else qNT r Γ
    | none => qNT r Γ
theorem qNT_ok {ρ : List Int} : ∀ {fs : List sL} {Γ : sG}, sMo ρ Γ → (∀ f ∈ fs, ∃ z, sEv ρ f = some z ∧ z ≠ 0) → ∃ Γ', qNT fs Γ = some Γ' ∧ sMo ρ Γ'
  | [], Γ, hM, _ => ⟨Γ, rfl, hM⟩
  | f :: r, Γ, hM, hf => by
    obtain ⟨z, e, hz⟩ := hf f List.mem_cons_self
    have hr : ∀ g ∈ r, ∃ z, sEv ρ g = some z ∧ z ≠ 0 := fun g hg => hf g (List.mem_cons_of_mem _ hg)
    unfold qNT
    split
    · rename_i i hi
      have hb := sIv_ok hM.1 e hi
      split
      · obtain ⟨Γ1, g1, m1⟩ := sAsm_ok hM (sEv_sub e (sEv_C 1)) (by omega)
        rw [g1]
        exact qNT_ok m1 hr
      split
      · obtain ⟨Γ1, g1, m1⟩ := sAsm_ok hM (sEv_sub (sEv_C (-1)) e) (by omega)
        rw [g1]
        exact qNT_ok m1 hr
      · exact qNT_ok hM hr
    · exact qNT_ok hM hr
def kNT (K : kS) : Option (List kS) := match K with
  | ((pc, ls, st, G, c, s, Γ), γ) => (match qNT Γ.2.2.1 Γ with
    | some Γ' => some [((pc, ls, st, G, c, s, Γ'), γ)]
    | none => some [])
theorem kNT_ok {GP : Nat → List Int → List eE → Prop} {K : kS} {L : List kS} (h : kNT K = some L) {ρ : List Int} {R : eR} (hD : kD GP ρ K R) : ∃ K' ∈ L, ∃ ρ', ρ <+: ρ' ∧ kD GP ρ' K' R := by
  obtain ⟨⟨pc, ls, st, G, c, s, Γ⟩, γ⟩ := K
  simp only [kNT] at h
  obtain ⟨Γ', g1, g2⟩ := qNT_ok hD.1 hD.1.2.2.1
  simp only at g1
  rw [g1] at h
  cases h
  exact ⟨_, List.mem_singleton.mpr rfl, ρ, List.prefix_refl _, g2, hD.2⟩
/-- answers, told by the reference's numbers -/
theorem qSm_eq {hs bs ss l1 ms zs w1 ho bo so l2 mo zo w2 i j n : Int} (h1 : kSHR hs bs ss l1 ms zs w1) (h2 : kSHR ho bo so l2 mo zo w2) (p1 : 0 ≤ ss) (p2 : 0 ≤ so) : qSh hs ss l1 ho so l2 i j n = qSm ms zs mo zo i j n := by
  unfold qSh qSm
  rcases h1 with ⟨rfl, rfl⟩ | ⟨rfl, rfl, h11, h12⟩ | ⟨rfl, rfl, rfl⟩ <;> rcases h2 with ⟨rfl, rfl⟩ | ⟨rfl, rfl, h21, h22⟩ | ⟨rfl, rfl, rfl⟩ <;> (repeat' split) <;> first | rfl | omega
theorem qPm_eq {h b so le m si w i : Int} (h1 : kSHR h b so le m si w) (p1 : 0 ≤ so) : qPx h le i = qPm m si i := by
  unfold qPx qPm
  rcases h1 with ⟨rfl, rfl⟩ | ⟨rfl, rfl, h11, h12⟩ | ⟨rfl, rfl, rfl⟩ <;> (repeat' split) <;> first | rfl | omega
def qShn (Γ : sG) (γ : List kA) (h so le : sL) : Option (sL × sL) := match kFa γ 12 (fun x => match x with
    | [a, _, c, d, _, _, _] => decide (a = h) && (decide (c = so) && decide (d = le))
    | _ => false) with
  | some [a, _, c, d, m, si, _] => if (a = h ∧ c = so ∧ d = le) ∧ sNN Γ c = true then some (m, si) else none
  | _ => none
theorem qShn_ok {ρ : List Int} {Γ : sG} {γ : List kA} {H : List eE} (hM : sMo ρ Γ) (hg : kGh (kGP (kUP RO)) ρ γ H) {h so le m si : sL} (q : qShn Γ γ h so le = some (m, si)) : ∃ zh zb zo zl zm zi zw, sEv ρ h = some zh ∧ sEv ρ so = some zo ∧ sEv ρ le = some zl ∧ sEv ρ m = some zm ∧ sEv ρ si = some zi ∧ kSHR zh zb zo zl zm zi zw ∧ 0 ≤ zo := by
  unfold qShn at q
  split at q
  · rename_i a b c d m' si' w hfa
    split at q
    · rename_i hc
      obtain ⟨⟨rfl, rfl, rfl⟩, hc⟩ := hc
      cases q
      obtain ⟨-, ys, e1, e2⟩ := kFa_ok hg hfa (by decide)
      obtain ⟨y1, y2, y3, y4, y5, y6, y7, rfl, f1, f2, f3, f4, f5, f6, f7⟩ := sVal_7 e1
      obtain ⟨a1, a2, a3, a4, a5, a6, a7, he, hr⟩ : ∃ a1 a2 a3 a4 a5 a6 a7, [y1, y2, y3, y4, y5, y6, y7] = [a1, a2, a3, a4, a5, a6, a7] ∧ kSHR a1 a2 a3 a4 a5 a6 a7 := e2
      cases he
      exact ⟨_, _, _, _, _, _, _, f1, f3, f4, f5, f6, hr, sNN_ok hM f3 hc⟩
    · cases q
  · cases q
def qT2 (so m : sL) (q : kA) : Option kA := if q.1 = 109 then (match q.2 with
  | [a, v, w] => if a = so then some (109, [sSub (sC (-2)) m, v, w]) else none
  | _ => none) else none
def qT1 (Γ : sG) (γ : List kA) (q : kA) : List kA :=
  if q.1 = 105 then (match q.2 with
    | [hs, ss, l1, ho, so, l2, i, j, n, r] => (match qShn Γ γ hs ss l1, qShn Γ γ ho so l2 with
      | some (ms, zs), some (mo, zo) => [(106, [ms, zs, mo, zo, i, j, n, r])]
      | _, _ => [])
    | _ => [])
  else if q.1 = 107 then (match q.2 with
    | [h, le, i, r] => (match kFa γ 12 (fun x => match x with
        | [a, _, _, d, _, _, _] => decide (a = h) && decide (d = le)
        | _ => false) with
      | some [a, _, so, d, m, si, _] => if (a = h ∧ d = le) ∧ sNN Γ so = true then (108, [m, si, i, r]) :: (if r = sC 1 then γ.filterMap (qT2 so m) else []) else []
      | _ => [])
    | _ => []) else []
def kQT (K : kS) : Option kWs := some [(K.2.flatMap (qT1 K.1.2.2.2.2.2.2 K.2), [])]
theorem kQT_ok : kRok RO kQT := by
  intro K ws h ρ R hD
  cases h
  refine ⟨_, List.mem_singleton.mpr rfl, fun q hq => ?_, fun b hb => by cases hb⟩
  obtain ⟨a, ha, hq⟩ := List.mem_flatMap.mp hq
  obtain ⟨zs, e1, e2⟩ := hD.2.2 a ha
  obtain ⟨k, fs⟩ := a
  unfold qT1 at hq
  split at hq
  · rename_i hk
    simp only at hk
    subst hk
    simp only at hq
    split at hq
    · rename_i hs ss l1 ho so l2 i j n r
      split at hq
      · rename_i ms zs' mo zo h1 h2
        rw [List.mem_singleton.mp hq]
        obtain ⟨y1, y2, y3, y4, y5, y6, y7, y8, y9, y10, rfl, f1, f2, f3, f4, f5, f6, f7, f8, f9, f10⟩ := qVal_10 e1
        obtain ⟨a1, a2, a3, a4, a5, a6, a7, a8, a9, a10, he, hr⟩ : ∃ a b c d e f i j n r, [y1, y2, y3, y4, y5, y6, y7, y8, y9, y10] = [a, b, c, d, e, f, i, j, n, r] ∧ r = qSh a b c d e f i j n := qGP (k := 105) (by decide) (by decide) e2
        cases he
        obtain ⟨b1, b2, b3, b4, b5, b6, b7, c1, c2, c3, c4, c5, c6, c7⟩ := qShn_ok hD.1 hD.2.2 h1
        obtain ⟨d1, d2, d3, d4, d5, d6, d7, g1, g2, g3, g4, g5, g6, g7⟩ := qShn_ok hD.1 hD.2.2 h2
        cases c1.symm.trans f1
        cases c2.symm.trans f2
        cases c3.symm.trans f3
        cases g1.symm.trans f4
        cases g2.symm.trans f5
        cases g3.symm.trans f6
        rw [qSm_eq c6 g6 c7 g7] at hr
        exact kAt1 (k := 106) (zs := [b5, b6, d5, d6, y7, y8, y9, y10]) (by decide) (by simp only [sVal, c4, c5, g4, g5, f7, f8, f9, f10]) ((kUPp (by decide)).mpr ⟨_, _, _, _, _, _, _, _, rfl, hr⟩) _ (List.mem_singleton.mpr rfl)
      · cases hq
    · cases hq
  split at hq
  · rename_i hk
    simp only at hk
    subst hk
    simp only at hq
    split at hq
    · rename_i x le i r
      split at hq
      · rename_i a0 b0 so d0 m si w0 hfa
        split at hq
        · rename_i hc
          obtain ⟨⟨rfl, rfl⟩, hc⟩ := hc
          obtain ⟨y1, y2, y3, y4, rfl, f1, f2, f3, f4⟩ := qVal_4 e1
          obtain ⟨a1, a2, a3, a4, he, hr⟩ : ∃ a b i r, [y1, y2, y3, y4] = [a, b, i, r] ∧ r = qPx a b i := qGP (k := 107) (by decide) (by decide) e2
          cases he
          obtain ⟨-, ys, k1, k2⟩ := kFa_ok hD.2.2 hfa (by decide)
          obtain ⟨u1, u2, u3, u4, u5, u6, u7, rfl, v1, v2, v3, v4, v5, v6, v7⟩ := sVal_7 k1
          obtain ⟨a1, a2, a3, a4, a5, a6, a7, he, hsh⟩ : ∃ a1 a2 a3 a4 a5 a6 a7, [u1, u2, u3, u4, u5, u6, u7] = [a1, a2, a3, a4, a5, a6, a7] ∧ kSHR a1 a2 a3 a4 a5 a6 a7 := k2
          cases he
          cases v1.symm.trans f1
          cases v4.symm.trans f2
          have p1 := sNN_ok hD.1 v3 hc
          have hpm := qPm_eq (i := y3) hsh p1
          have hq0 := List.mem_cons.mp hq
          clear hq
          rcases hq0 with rfl | hq
          · rw [hpm] at hr
            exact kAt1 (k := 108) (zs := [u5, u6, y3, y4]) (by decide) (by simp only [sVal, v5, v6, f3, f4]) ((kUPp (by decide)).mpr ⟨_, _, _, _, rfl, hr⟩) _ (List.mem_singleton.mpr rfl)
          · split at hq
            · rename_i hr1
              subst hr1
              rw [sEv_C] at f4
              cases f4
              obtain ⟨⟨k', fs'⟩, ha', hq3⟩ := List.mem_filterMap.mp hq
              unfold qT2 at hq3
              split at hq3
              · rename_i hk'
                simp only at hk'
                subst hk'
                simp only at hq3
                split at hq3
                · rename_i a5 v w
                  split at hq3
                  · rename_i hso
                    subst hso
                    cases hq3
                    obtain ⟨zs2, w1, w2⟩ := hD.2.2 _ ha'
                    obtain ⟨t1, t2, t3, rfl, x1, x2, x3⟩ := sVal_3 w1
                    obtain ⟨p, q', r', he, hco⟩ : ∃ so v w, [t1, t2, t3] = [so, v, w] ∧ Int64.ofInt w = qCo so (Int64.ofInt v) := qGP (k := 109) (by decide) (by decide) w2
                    cases he
                    cases x1.symm.trans v3
                    have hx := sEv_sub (sEv_C (ρ := ρ) (-2)) v5
                    have h2 : -2 - u5 = u3 := by
                      unfold qPx qIn at hr
                      rcases hsh with ⟨g1, g2⟩ | ⟨g1, g2, g3, g4⟩ | ⟨g1, g2, g3⟩
                      · rw [if_pos g1] at hr; omega
                      · rw [if_neg (by omega), if_pos (by omega)] at hr; omega
                      · omega
                    exact kAt1 (k := 109) (zs := [-2 - u5, t2, t3]) (by decide) (by simp only [sVal, hx, x2, x3]) ((kUPp (by decide)).mpr ⟨_, _, _, rfl, by rw [h2]; exact hco⟩) _ (List.mem_singleton.mpr rfl)
                  · cases hq3
                · cases hq3
              · cases hq3
            · cases hq
        · cases hq
      · cases hq
    · cases hq
  · cases hq
end QPS
end
