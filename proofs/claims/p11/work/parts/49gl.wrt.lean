/-! The class works the law out: its rules. -/
section NXSV
variable {H : List eE} {size a top step : Int} {fs : List Int}
theorem nSk_cons {P : Nat → Int32} {x : Int32} {st : List Int32} : nSk P (x :: st) ↔ nSk P st ∧ P st.length = x := by
  unfold nSk
  constructor
  · intro h
    refine ⟨fun i y hi => h i y ?_, h st.length x ?_⟩
    · rw [List.reverse_cons, List.getElem?_append_left (List.getElem?_eq_some_iff.mp hi).1]
      exact hi
    · rw [List.reverse_cons, List.getElem?_append_right (by simp)]
      simp
  · rintro ⟨h1, h2⟩ i y hi
    rw [List.reverse_cons] at hi
    by_cases hl : i < st.reverse.length
    · rw [List.getElem?_append_left hl] at hi
      exact h1 i y hi
    · have hl2 := (List.getElem?_eq_some_iff.mp hi).1
      simp only [List.length_append, List.length_reverse, List.length_singleton] at hl hl2
      have : i = st.length := by omega
      subst this
      rw [List.getElem?_append_right (by simp)] at hi
      simp at hi
      rw [h2, hi]
theorem nXS_at {pend : List Int} (h : nXS size a top step fs pend H) : a + 1 ≤ size ∧ step ≤ a ∧ top ≤ a ∧ size ≤ 256 ∧ 0 ≤ step ∧ 0 ≤ top := by
  obtain ⟨C, P, d, st, h1, h2, h3, h4, h5, h6, h7, h8, h9, h10, h11⟩ := h
  have := (nPh_at h11).1
  omega
/-- what stands in the code where it is -/
theorem nXS_now (h : nXS size a top step fs [] H) {now : Int} (hk : kEl 22 a now H) (hr : -2147483648 ≤ now ∧ now ≤ 2147483647) : -1002 ≤ now ∧ now ≤ 9999 ∧ (now < 0 → (∀ c, now = -(nNl c) → ¬ (0 ≤ c ∧ c ≤ 5)) → 1 ≤ top ∧ (now ≠ -1000 → now ≠ -1001 → now ≠ -1002 → now ≠ -33 → 2 ≤ top)) := by
  obtain ⟨C, P, d, st, h1, h2, h3, h4, h5, h6, h7, h8, h9, h10, h11⟩ := h
  simp only [List.length_nil, List.map_nil, List.nil_append] at h9 h11
  have hC := (kElA hk h1).2
  obtain ⟨-, h⟩ := nPh_at h11
  have big : ∀ {x : nSp} {n : Nat}, kOp x.1 x.2 st.length = some n → x.1 ≠ 1 → x.1 ≠ 2 → 1 ≤ st.length ∧ (x.1 ≠ 3 → x.1 ≠ 4 → 2 ≤ st.length) := fun {x n} hn q1 q2 => by
    unfold kOp at hn
    rw [if_neg q1, if_neg q2] at hn
    split at hn
    · rename_i h3
      split at hn
      · exact ⟨by omega, fun e1 e2 => by omega⟩
      · cases hn
    · split at hn
      · exact ⟨by omega, fun _ _ => by omega⟩
      · cases hn
  rcases h with ⟨x, ox, e1, ⟨n, hn⟩, -⟩ | ⟨e1, e2, -⟩ | ⟨e1, e2, -⟩
  · have hv := nEn_v ox
    have e : now = nEn1 x := by
      rw [hC] at e1
      have := congrArg Int32.toInt e1
      rw [sTo32 hr.1 hr.2, sTo32 (by omega) (by omega)] at this
      exact this
    rw [e]
    refine ⟨hv.1, hv.2.1, fun hneg hnm => ?_⟩
    rcases hv.2.2.2.2 with ⟨q1, q2, q3⟩ | ⟨q1, q2, q3⟩ | ⟨q1, q2⟩ | ⟨q1, q2⟩ | ⟨q1, q2⟩
    · omega
    · exact absurd q2 (hnm x.2 q3)
    · have := big hn (by omega) (by omega)
      exact ⟨by omega, fun _ _ _ c => absurd q2 c⟩
    · have := big hn (by omega) (by omega)
      exact ⟨by omega, fun _ _ c => absurd q2 c⟩
    · have hq := nOp_v q1
      have := big hn (by omega) (by omega)
      exact ⟨by omega, fun _ _ _ _ => by have := this.2 (by omega) (by omega); omega⟩
  · have e : now = -1000 := by
      rw [hC] at e1
      have := congrArg Int32.toInt e1
      rw [sTo32 hr.1 hr.2, sTo32 (by omega) (by omega)] at this
      exact this
    exact ⟨by omega, by omega, fun _ _ => ⟨by omega, fun c => absurd e c⟩⟩
  · have e : now = -1001 := by
      rw [hC] at e1
      have := congrArg Int32.toInt e1
      rw [sTo32 hr.1 hr.2, sTo32 (by omega) (by omega)] at this
      exact this
    exact ⟨by omega, by omega, fun _ _ => ⟨by omega, fun _ c => absurd e c⟩⟩
/-- a step is worked out -/
theorem nXS_step {pend : List Int} {top' : Int} (h : nXS size a top step fs pend H) {now : Int} (hk : kEl 22 a now H) (hr : -1002 ≤ now ∧ now ≤ 9999) {x : nSp} (hx : ∀ y, nOkS y → nEn1 y = now → y = x) (hn1 : now ≠ -1000) (hn2 : now ≠ -1001)
    (hst : ∀ P st, nI2 H 23 256 P → nSk P st → top = ((pend.length + st.length : Nat) : Int) → ∃ st', nSt1 (nFs fs) x (pend.map Int32.ofInt ++ st) = st' ∧ nSk P st' ∧ top' = (st'.length : Int)) (ht : top' ≤ top + 1) : nXS size (a + 1) top' (step + 1) fs [] H := by
  obtain ⟨C, P, d, st, h1, h2, h3, h4, h5, h6, h7, h8, h9, h10, h11⟩ := h
  have hC := (kElA hk h1).2
  have ha : 0 ≤ a := by omega
  obtain ⟨-, h⟩ := nPh_at h11
  rcases h with ⟨y, oy, e1, -, hp⟩ | ⟨e1, -⟩ | ⟨e1, -⟩
  · have hv := nEn_v oy
    have e : now = nEn1 y := by
      rw [hC] at e1
      have := congrArg Int32.toInt e1
      rw [sTo32 (by omega) (by omega), sTo32 (by omega) (by omega)] at this
      exact this
    cases hx y oy e.symm
    obtain ⟨st1, e2, e3, e4⟩ := hst P st h2 h10 h9
    rw [e2] at hp
    refine ⟨C, P, d, st1, h1, h2, h3, h4, by omega, by omega, by omega, by omega, by simpa using e4, e3, ?_⟩
    rw [show (a + 1).toNat = a.toNat + 1 by omega]
    exact hp
  · rw [hC] at e1
    have := congrArg Int32.toInt e1
    rw [sTo32 (by omega) (by omega), sTo32 (by omega) (by omega)] at this
    omega
  · rw [hC] at e1
    have := congrArg Int32.toInt e1
    rw [sTo32 (by omega) (by omega), sTo32 (by omega) (by omega)] at this
    omega
/-- a question is answered -/
theorem nXS_skip (h : nXS size a top step fs [] H) (hk : kEl 22 a (-1001) H) {u : Int} (hu : kEl 23 (top - 1) u H) (ur : -2147483648 ≤ u ∧ u ≤ 2147483647) : a + 2 ≤ size ∧ (u ≠ 0 → nXS size (a + 2) (top - 1) (step + 1) fs [] H) ∧
    ∀ t, kEl 22 (a + 1) t H → (-2147483648 ≤ t ∧ t ≤ 2147483647) → a + 2 ≤ t ∧ t + 1 ≤ size ∧ (u = 0 → nXS size t (top - 1) (step + 1) fs [] H) := by
  obtain ⟨C, P, d, st, h1, h2, h3, h4, h5, h6, h7, h8, h9, h10, h11⟩ := h
  have hC := (kElA hk h1).2
  have ha : 0 ≤ a := by omega
  simp only [List.length_nil, List.map_nil, List.nil_append] at h9 h11
  obtain ⟨-, h⟩ := nPh_at h11
  rcases h with ⟨y, oy, e1, -, hp⟩ | ⟨e1, -⟩ | ⟨e1, e2, c, e3, e4, e5, e6, e7⟩
  · exfalso
    have hv := nEn_v oy
    rw [hC] at e1
    have := congrArg Int32.toInt e1
    rw [sTo32 (by omega) (by omega), sTo32 (by omega) (by omega)] at this
    omega
  · exfalso
    rw [hC] at e1
    exact absurd e1 (by decide)
  · match st, e2 with
    | [w], _ =>
      have hP := (nSk_cons.mp h10).2
      have hw := (kElA hu h2).2
      simp only [List.length_nil, List.length_singleton] at h9 hP
      rw [show (top - 1).toNat = 0 by omega, hP] at hw
      have hz : u = 0 ↔ w = 0 := by
        rw [hw]
        constructor
        · intro e; rw [e]; rfl
        · intro e
          have := congrArg Int32.toInt e
          rw [sTo32 ur.1 ur.2] at this
          simpa using this
      refine ⟨by omega, fun hn => ?_, fun t htk htr => ?_⟩
      · refine ⟨C, P, d, [], h1, h2, h3, h4, by omega, by omega, by omega, by omega, by simp; omega, fun i y hi => by simp at hi, ?_⟩
        rw [show (a + 2).toNat = a.toNat + 2 by omega]
        exact e6 (fun e => hn (hz.mpr e))
      · have ht := (kElA htk h1).2
        rw [show (a + 1).toNat = a.toNat + 1 by omega, e3] at ht
        have := congrArg Int32.toInt ht
        rw [sTo32 (by omega) (by omega), sTo32 htr.1 htr.2] at this
        refine ⟨by omega, by omega, fun h0 => ?_⟩
        refine ⟨C, P, d, [], h1, h2, h3, h4, by omega, by omega, by omega, by omega, by simp; omega, fun i y hi => by simp at hi, ?_⟩
        rw [show t.toNat = c by omega]
        exact e7 (hz.mp h0)
/-- the answer -/
theorem nXS_ans (h : nXS size a top step fs [] H) (hk : kEl 22 a (-1000) H) {u : Int} (hu : kEl 23 (top - 1) u H) : ∃ d, nLaw d H ∧ nEv (nFs fs) d = Int32.ofInt u := by
  obtain ⟨C, P, d, st, h1, h2, h3, h4, h5, h6, h7, h8, h9, h10, h11⟩ := h
  have hC := (kElA hk h1).2
  simp only [List.length_nil, List.map_nil, List.nil_append] at h9 h11
  obtain ⟨-, h⟩ := nPh_at h11
  rcases h with ⟨y, oy, e1, -, hp⟩ | ⟨e1, e2, e3⟩ | ⟨e1, -⟩
  · exfalso
    have hv := nEn_v oy
    rw [hC] at e1
    have := congrArg Int32.toInt e1
    rw [sTo32 (by omega) (by omega), sTo32 (by omega) (by omega)] at this
    omega
  · match st, e2 with
    | [w], _ =>
      have hP := (nSk_cons.mp h10).2
      have hw := (kElA hu h2).2
      simp only [List.length_nil, List.length_singleton] at h9 hP
      rw [show (top - 1).toNat = 0 by omega, hP] at hw
      exact ⟨d, h3, by rw [e3]; exact hw⟩
  · exfalso
    rw [hC] at e1
    exact absurd e1 (by decide)
end NXSV
