/-! The instructions' rows of the tables, and the whole step. -/
/-- what the tables say that isn't steady -/
def eNX (NW : List Cond) (U : State) : Prop := (∀ w ∈ NW, va_Nw w U) ∧ va_AO "WhoMentionsIt$Shelf" U ∧ (Cond.arrayOver (.array .int)).before #[] U = true
section ESND
variable {p : Program} {l : Launch} {e : Env} {Rm : Room} {s : State} {m : MethodId} {args : Array Value} {below : List Frame} {meth : Method} {c : Code} {Q : State → Prop}
variable {RO : List (Nat × (Nat → Int32))} {CL : List vw_C} {CT : Nat → Nat → FieldType} {WT : List Cond} {NW : List Cond} {SN : List (String × String × String)} {D : va_G} {A : Nat → Prop} {roA : List Nat} {own mname : String} {cc : ByteArray} {nL : Nat} {ads0 : List Nat} {R R' : eR}
theorem eStepW (C : eCx p s m args meth c (eWS WT) RO SN A roA own cc nL) (hCL : eCLok (eWS WT) CL CT) (hnx : eNX NW s) (hmn : mname = "<init>" → meth.name = "<init>") (hf : 1 ≤ Rm.frames) (hlo : 40 ≤ Rm.locals) {I : eI} (h : eStep RO CL CT nL I R = some R') (hok : eOk WT CL RO.length SN own mname cc R.1 I = true) (hr : R'.2.2.2.2.1 ≤ Rm.cells ∧ R'.2.2.2.2.2 ≤ Rm.slots)
    (hW : eW p l e Rm s m args below meth c Q D CL A roA nL ads0 R') : eW p l e Rm s m args below meth c Q D CL A roA nL ads0 R := by
  obtain ⟨op, nx, a, b, z, ws, sw⟩ := I
  simp only [eStep] at h
  simp only [eOk] at hok
  by_cases o0 : op = 0
  · rw [if_pos o0] at h hok
    refine w0 C h (a := a) (b := b) ?_ hW
    unfold eOk0 at hok
    by_cases b0 : b = 0
    · rw [if_pos b0] at hok
      obtain ⟨h1, h2⟩ := eDec_ok hok
      exact Or.inl ⟨b0, h1, h2⟩
    rw [if_neg b0] at hok
    by_cases b1 : b = 1
    · rw [if_pos b1] at hok
      simp only [Bool.and_eq_true, decide_eq_true_eq] at hok
      obtain ⟨h1, h2⟩ := eDec_ok hok.1
      exact Or.inr (Or.inl ⟨b1, h1, h2, hok.2⟩)
    rw [if_neg b1] at hok
    by_cases b2 : b = 2
    · rw [if_pos b2] at hok
      simp only [Bool.and_eq_true, decide_eq_true_eq] at hok
      obtain ⟨h1, h2⟩ := eDec_ok hok.1
      exact Or.inr (Or.inr (Or.inl ⟨b2, h1, h2, hok.2⟩))
    rw [if_neg b2] at hok
    by_cases b3 : b = 3
    · rw [if_pos b3] at hok
      simp only [Bool.and_eq_true] at hok
      obtain ⟨h1, h2⟩ := eDec_ok hok.1
      exact Or.inr (Or.inr (Or.inr (Or.inl ⟨b3, h1, h2, eWd_in hok.2⟩)))
    rw [if_neg b3] at hok
    by_cases b4 : b = 4
    · rw [if_pos b4] at hok
      simp only [Bool.and_eq_true] at hok
      obtain ⟨h1, h2⟩ := eDec_ok hok.1
      exact Or.inr (Or.inr (Or.inr (Or.inr ⟨b4, h1, h2, eWd_in hok.2⟩)))
    rw [if_neg b4] at hok
    cases hok
  rw [if_neg o0] at h hok
  by_cases o1 : op = 1
  · rw [if_pos o1] at h hok
    refine w1 C h (a := a) (b := b) ?_ hW
    unfold eOk1 at hok
    by_cases b0 : b = 0
    · rw [if_pos b0] at hok
      simp only [Bool.or_eq_true, Bool.and_eq_true, decide_eq_true_eq] at hok
      rcases hok with ⟨q, rfl⟩ | ⟨q, rfl⟩
      · obtain ⟨h1, h2⟩ := eDec_ok q
        exact Or.inl ⟨b0, 0, h1, h2, rfl⟩
      · obtain ⟨h1, h2⟩ := eDec_ok q
        exact Or.inl ⟨b0, 1, h1, h2, rfl⟩
    rw [if_neg b0] at hok
    by_cases b1 : b = 1
    · rw [if_pos b1] at hok
      simp only [Bool.and_eq_true] at hok
      obtain ⟨h1, h2⟩ := eDec_ok hok.1
      exact Or.inr ⟨b1, h1, h2, eWd_in hok.2⟩
    rw [if_neg b1] at hok
    cases hok
  rw [if_neg o1] at h hok
  by_cases o3 : op = 3
  · rw [if_pos o3] at h hok
    unfold eOkO at hok
    split at hok
    · rename_i i n hi
      obtain ⟨h1, h2⟩ := eDec_ok hok
      exact w3 C h hi h1 h2 hW
    · cases hok
  rw [if_neg o3] at h hok
  by_cases o4 : op = 4
  · rw [if_pos o4] at h hok
    unfold eOkO at hok
    split at hok
    · rename_i i n hi
      obtain ⟨h1, h2⟩ := eDec_ok hok
      exact w4 C h hi h1 h2 hW
    · cases hok
  rw [if_neg o4] at h hok
  by_cases o5 : op = 5
  · rw [if_pos o5] at h hok
    obtain ⟨h1, h2⟩ := eDec_ok hok
    exact w5 C h h1 h2 hW
  rw [if_neg o5] at h hok
  by_cases o6 : op = 6
  · rw [if_pos o6] at h hok
    obtain ⟨h1, h2⟩ := eDec_ok hok
    exact w6 C h h1 h2 hW
  rw [if_neg o6] at h hok
  by_cases o7 : op = 7
  · rw [if_pos o7] at h hok
    obtain ⟨h1, h2⟩ := eDec_ok hok
    exact w7 C h h1 h2 hW
  rw [if_neg o7] at h hok
  by_cases o8 : op = 8
  · rw [if_pos o8] at h hok
    obtain ⟨h1, h2⟩ := eDec_ok hok
    exact w8 C h h1 h2 hW
  rw [if_neg o8] at h hok
  by_cases o9 : op = 9
  · rw [if_pos o9] at h hok
    obtain ⟨h1, h2⟩ := eDec_ok hok
    exact w9 C h h1 h2 hW
  rw [if_neg o9] at h hok
  by_cases o10 : op = 10
  · rw [if_pos o10] at h hok
    obtain ⟨h1, h2⟩ := eDec_ok hok
    exact w10 C h h1 h2 hW
  rw [if_neg o10] at h hok
  by_cases o12 : op = 12
  · rw [if_pos o12] at h hok
    simp only [Bool.and_eq_true, decide_eq_true_eq] at hok
    obtain ⟨h1, h2⟩ := eDec_ok hok.1
    exact w12 C h h1 h2 hok.2 hW
  rw [if_neg o12] at h hok
  by_cases o13 : op = 13
  · rw [if_pos o13] at h hok
    simp only [Bool.and_eq_true, decide_eq_true_eq] at hok
    obtain ⟨h1, h2⟩ := eDec_ok hok.1
    exact w13 C h h1 h2 hok.2 hW
  rw [if_neg o13] at h hok
  by_cases o14 : op = 14
  · rw [if_pos o14] at h hok
    simp only [Bool.and_eq_true, decide_eq_true_eq] at hok
    exact w14 C h hok.1 hok.2 hW
  rw [if_neg o14] at h hok
  by_cases o15 : op = 15
  · rw [if_pos o15] at h hok
    exact w15 C h hok hW
  rw [if_neg o15] at h hok
  by_cases o16 : op = 16
  · rw [if_pos o16] at h hok
    simp only [Bool.and_eq_true] at hok
    obtain ⟨h1, h2⟩ := eDec_ok hok.1
    obtain ⟨-, hok⟩ := hok
    split at hok
    · rename_i k hk
      simp only [Bool.and_eq_true, decide_eq_true_eq] at hok
      exact w16 C h h1 h2 hk hok.1 (hCL b k hk).1 (eWd_in hok.2) hW
    · cases hok
  rw [if_neg o16] at h hok
  by_cases o17 : op = 17
  · rw [if_pos o17] at h hok
    simp only [Bool.and_eq_true] at hok
    obtain ⟨h1, h2⟩ := eDec_ok hok.1
    obtain ⟨-, hok⟩ := hok
    split at hok
    · rename_i k hk
      simp only [Bool.and_eq_true, Bool.or_eq_true, decide_eq_true_eq] at hok
      obtain ⟨q1, q2, q3⟩ := hok
      refine w17 C h h1 h2 hk q1 (hCL b k hk).1 (eWd_in q2) (hCL b k hk).2.1 (hCL b k hk).2.2 ?_ hW
      rcases q3 with q3 | ⟨q3, q4⟩
      · exact Or.inl q3
      · by_cases hf9 : (k.2.1 z.toNat).2.2.2 = false
        · exact Or.inl hf9
        · exact Or.inr ⟨by simpa using hf9, hmn q3, q4⟩
    · cases hok
  rw [if_neg o17] at h hok
  by_cases o18 : op = 18
  · rw [if_pos o18] at h hok
    simp only [Bool.and_eq_true, decide_eq_true_eq] at hok
    obtain ⟨h1, h2⟩ := eDec_ok hok.1
    obtain ⟨-, hlt, hok⟩ := hok
    split at hok
    · rename_i sn hs
      exact w18 C h h1 h2 (List.getElem?_eq_getElem hlt) hs (eWd_in hok) hW
    · cases hok
  rw [if_neg o18] at h hok
  by_cases o19 : op = 19
  · rw [if_pos o19] at h hok
    obtain ⟨h1, h2⟩ := eDec_ok hok
    exact w19 C h h1 h2 hW
  rw [if_neg o19] at h hok
  by_cases o20 : op = 20
  · rw [if_pos o20] at h hok
    obtain ⟨h1, h2⟩ := eDec_ok hok
    exact w20 C h h1 h2 hW
  rw [if_neg o20] at h hok
  by_cases o21 : op = 21
  · rw [if_pos o21] at h hok
    obtain ⟨h1, h2⟩ := eDec_ok hok
    exact w21 C h h1 h2 hW
  rw [if_neg o21] at h hok
  by_cases o22 : op = 22
  · rw [if_pos o22] at h hok
    simp only [Bool.and_eq_true] at hok
    obtain ⟨h1, h2⟩ := eDec_ok hok.1
    obtain ⟨-, hok⟩ := hok
    split at hok
    · rename_i k hk
      simp only [Bool.and_eq_true] at hok
      exact w22 C h h1 h2 hk (hCL b k hk).1 (hCL b k hk).2.1 (eWd_in hok.1) (eWd_in hok.2.1) (eWd_in hok.2.2) hr hW
    · cases hok
  rw [if_neg o22] at h hok
  by_cases o23 : op = 23
  · rw [if_pos o23] at h hok
    simp only [Bool.and_eq_true] at hok
    obtain ⟨h1, h2⟩ := eDec_ok hok.1
    exact w23 C h h1 h2 (eWd_in hok.2) hr hW
  rw [if_neg o23] at h hok
  by_cases o24 : op = 24
  · rw [if_pos o24] at h hok
    simp only [Bool.and_eq_true] at hok
    obtain ⟨h1, h2⟩ := eDec_ok hok.1
    obtain ⟨-, hok⟩ := hok
    split at hok
    · rename_i k hk
      simp only [Bool.and_eq_true, decide_eq_true_eq] at hok
      exact w24 C h h1 h2 hk (eWd_in hok.1) (by rw [hok.2]; exact hnx.2.1) hr hW
    · cases hok
  rw [if_neg o24] at h hok
  by_cases o25 : op = 25
  · rw [if_pos o25] at h hok
    simp only [Bool.and_eq_true] at hok
    obtain ⟨h1, h2⟩ := eDec_ok hok.1
    exact w25 C h h1 h2 (eWd_in hok.2.1) (eWd_in hok.2.2) hnx.2.2 hr hW
  rw [if_neg o25] at h hok
  by_cases o26 : op = 26
  · rw [if_pos o26] at h hok
    obtain ⟨h1, h2⟩ := eDec_ok hok
    exact w26 C h h1 h2 hW
  rw [if_neg o26] at h hok
  by_cases o30 : op = 30
  · rw [if_pos o30] at h hok
    simp only [Bool.and_eq_true] at hok
    obtain ⟨h1, h2⟩ := eDec_ok hok.1
    exact w30 C h h1 h2 (eWd_in hok.2.1) (eWd_in hok.2.2.1) (eWd_in hok.2.2.2) hf hlo hW
  rw [if_neg o30] at h hok
  by_cases o31 : op = 31
  · rw [if_pos o31] at h
    rw [if_neg (by omega), if_pos o31] at hok
    simp only [Bool.and_eq_true] at hok
    obtain ⟨h1, h2⟩ := eDec_ok hok.1
    exact w31 C h h1 h2 (eWd_in hok.2.1) (eWd_in hok.2.2.1) (eWd_in hok.2.2.2.1) (eWd_in hok.2.2.2.2) hf hlo hW
  rw [if_neg o31] at h
  by_cases o32 : op = 32
  · rw [if_pos o32] at h hok
    simp only [Bool.and_eq_true] at hok
    obtain ⟨h1, h2⟩ := eDec_ok hok.1
    exact w32 C h h1 h2 (eWd_in hok.2.1) (eWd_in hok.2.2.1) (eWd_in hok.2.2.2.1) (eWd_in hok.2.2.2.2) hf hlo hr hW
  rw [if_neg o32] at h
  cases h
end ESND
