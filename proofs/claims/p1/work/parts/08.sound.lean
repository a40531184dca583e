/-! The instructions' rows of the tables, and the whole step. -/
def eWS (WT : List Cond) : List Cond := WT.filter goodWord
def eWd (WT : List Cond) (ws : List Nat) (k : Nat) (w : Cond) : Bool := match ws[k]? with
  | some i => decide (WT[i]? = some w) && goodWord w
  | none => false
theorem eWd_in {WT : List Cond} {ws : List Nat} {k : Nat} {w : Cond} (h : eWd WT ws k w = true) : w ∈ eWS WT := by
  unfold eWd at h
  split at h
  · simp only [Bool.and_eq_true, decide_eq_true_eq] at h
    exact List.mem_filter.mpr ⟨List.mem_of_getElem? h.1, h.2⟩
  · cases h
/-- the instruction at a place is what the table says, and its words stand in the tables -/
def eDec (cc : ByteArray) (pc nx : Nat) (i : Instr) (n : Nat) : Bool := decide (decode cc pc = .ok (i, n)) && decide (nx = pc + n)
def eOk0 (WT : List Cond) (own : String) (cc : ByteArray) (pc nx a b : Nat) (z : Int) (ws : List Nat) : Bool :=
  if b = 0 then eDec cc pc nx (.iconst z) 1 else if b = 1 then eDec cc pc nx (.bipush z) 2 && decide ((Int8.ofInt z).toInt32 = Int32.ofInt z) else if b = 2 then eDec cc pc nx (.sipush z) 3 && decide ((Int16.ofInt z).toInt32 = Int32.ofInt z)
  else if b = 3 then eDec cc pc nx (.ldc a) 2 && eWd WT ws 0 (.constant own a (Int32.ofInt z)) else if b = 4 then eDec cc pc nx (.ldc_w a) 3 && eWd WT ws 0 (.constant own a (Int32.ofInt z)) else false
def eOk1 (WT : List Cond) (own : String) (cc : ByteArray) (pc nx a b : Nat) (z : Int) (ws : List Nat) : Bool :=
  if b = 0 then (eDec cc pc nx (.lconst 0) 1 && decide (z = 0)) || (eDec cc pc nx (.lconst 1) 1 && decide (z = 1)) else if b = 1 then eDec cc pc nx (.ldc2_w a) 3 && eWd WT ws 0 (.constantLong own a (Int64.ofInt z)) else false
def eOkO (cc : ByteArray) (pc nx : Nat) (q : Option (Instr × Nat)) : Bool := match q with
  | some (i, n) => eDec cc pc nx i n
  | none => false
/-- one instruction that is no call: its row of the table is right -/
def eOk (WT : List Cond) (CL : List vw_C) (nro : Nat) (SN : List (String × String × String)) (own mname : String) (cc : ByteArray) (pc : Nat) (I : eI) : Bool := match I with
  | (op, nx, a, b, z, ws, sw) =>
    if op = 0 then eOk0 WT own cc pc nx a b z ws
    else if op = 1 then eOk1 WT own cc pc nx a b z ws
    else if op = 3 then eOkO cc pc nx (eLdI b a)
    else if op = 4 then eOkO cc pc nx (eSnI b a)
    else if op = 5 then eDec cc pc nx (.iinc a z) 3
    else if op = 6 then eDec cc pc nx (eBinI b) 1
    else if op = 7 then eDec cc pc nx (eLinI b) 1
    else if op = 8 then eDec cc pc nx (eUnI b) 1
    else if op = 9 then eDec cc pc nx .lcmp 1
    else if op = 10 then eDec cc pc nx .lshl 1
    else if op = 12 then eDec cc pc nx (.ifCond (eCmpI b) z) 3 && decide ((pc : Int) + z = (a : Int))
    else if op = 13 then eDec cc pc nx (.if_icmp (eCmpI b) z) 3 && decide ((pc : Int) + z = (a : Int))
    else if op = 14 then decide (decode cc pc = .ok (.goto z, 3)) && decide ((pc : Int) + z = (a : Int))
    else if op = 15 then eSwOk cc pc a sw
    else if op = 16 then eDec cc pc nx (.getfield a) 3 && (match CL[b]? with
      | some k => decide (z.toNat < k.2.2) && eWd WT ws 0 (.fieldLink own a (k.2.1 z.toNat).1 (k.2.1 z.toNat).2.1 (k.2.1 z.toNat).2.2.1)
      | none => false)
    else if op = 17 then eDec cc pc nx (.putfield a) 3 && (match CL[b]? with
      | some k => decide (z.toNat < k.2.2) && (eWd WT ws 0 (.fieldLink own a (k.2.1 z.toNat).1 (k.2.1 z.toNat).2.1 (k.2.1 z.toNat).2.2.1) && (decide ((k.2.1 z.toNat).2.2.2 = false) || (decide (mname = "<init>") && decide ((k.2.1 z.toNat).1 = own))))
      | none => false)
    else if op = 18 then eDec cc pc nx (.getstatic a) 3 && (decide (b < nro) && (match SN[b]? with
      | some sn => eWd WT ws 0 (.fieldLink own a sn.1 sn.2.1 sn.2.2)
      | none => false))
    else if op = 19 then eDec cc pc nx (eAlI b) 1
    else if op = 20 then eDec cc pc nx (eAsI b) 1
    else if op = 21 then eDec cc pc nx .arraylength 1
    else if op = 22 then eDec cc pc nx (.new a) 3 && (match CL[b]? with
      | some k => eWd WT ws 0 (.classLink own a k.1) && (eWd WT ws 1 (.instantiable k.1 k.2.2) && eWd WT ws 2 (.initialized k.1))
      | none => false)
    else if op = 23 then eDec cc pc nx (.newarray (eNwT b)) 2 && eWd WT ws 0 (.arrayClass (newarray.typeOf (eNwT b)))
    else if op = 24 then eDec cc pc nx (.anewarray a) 3 && (match CL[b]? with
      | some k => eWd WT ws 0 (.classLink own a k.1) && decide (k.1 = "WhoMentionsIt$Shelf")
      | none => false)
    else if op = 25 then eDec cc pc nx (.multianewarray a 2) 4 && (eWd WT ws 0 (.classLink own a "[[I") && eWd WT ws 1 (.arrayClass .int))
    else if op = 26 then eDec cc pc nx (if b = 0 then .dup else if b = 1 then .pop else .dup2) 1
    else if op = 30 then eDec cc pc nx (.invokespecial a) 3 && (eWd WT ws 0 (.methodLink own a objectInit) && (eWd WT ws 1 (.instanceMethod objectInit) && eWd WT ws 2 (.code objectInit ⟨#[0xb1]⟩ 1 none)))
    else if op = 31 then eDec cc pc nx (.invokestatic a) 3 && (eWd WT ws 0 (.methodLink own a arraycopyName) && (eWd WT ws 1 (.native arraycopyName) && (eWd WT ws 2 (.static arraycopyName) && eWd WT ws 3 (.initialized "java/lang/System"))))
    else false
theorem eDec_ok {cc : ByteArray} {pc nx n : Nat} {i : Instr} (h : eDec cc pc nx i n = true) : decode cc pc = .ok (i, n) ∧ nx = pc + n := by
  simpa [eDec] using h
/-- what the table of classes says is so -/
def eCLok (WS : List Cond) (CL : List vw_C) (CT : Nat → Nat → FieldType) : Prop := ∀ (b : Nat) (k : vw_C), CL[b]? = some k → (∀ w ∈ u_ws k.1 k.2.1 k.2.2, w ∈ WS) ∧ (∀ j, j < k.2.2 → parseFieldDescriptor (k.2.1 j).2.2.1 = some (CT b j)) ∧ ∀ x, x < k.2.2 → ∀ y, y < k.2.2 → x ≠ y → (k.2.1 x).2.1 ≠ (k.2.1 y).2.1
/-- what the tables say that isn't steady -/
def eNX (NW : List Cond) (U : State) : Prop := (∀ w ∈ NW, va_Nw w U) ∧ va_AO "WhoMentionsIt$Shelf" U ∧ (Cond.arrayOver (.array .int)).before #[] U = true
section ESND
variable {p : Program} {l : Launch} {e : Env} {Rm : Room} {s : State} {m : MethodId} {args : Array Value} {below : List Frame} {meth : Method} {c : Code} {Q : State → Prop}
variable {RO : List (Nat × (Nat → Int32))} {CL : List vw_C} {CT : Nat → Nat → FieldType} {WT : List Cond} {NW : List Cond} {SN : List (String × String × String)} {D : va_G} {A : Nat → Prop} {roA : List Nat} {own mname : String} {cc : ByteArray} {nL : Nat} {ads0 : List Nat} {R R' : eR}
theorem eStepW (C : eCx p s m args meth c (eWS WT) RO SN A roA own cc nL) (hCL : eCLok (eWS WT) CL CT) (hnx : eNX NW s) (hmn : mname = "<init>" → meth.name = "<init>") (hf : 1 ≤ Rm.frames) (hlo : 40 ≤ Rm.locals) {I : eI} (h : eStep RO CL CT nL I R = some R') (hok : eOk WT CL RO.length SN own mname cc R.1 I = true) (hr : R'.2.2.2.2.1 ≤ Rm.cells ∧ R'.2.2.2.2.2 ≤ Rm.slots)
    (hW : eW p l e Rm s m args below meth c Q D CL A roA nL ads0 R') : eW p l e Rm s m args below meth c Q D CL A roA nL ads0 R := by
  obtain ⟨op, nx, a, b, z, ws, sw⟩ := I
  simp only [eStep] at h
  simp only [eOk] at hok
  by_cases o0 : op = 0
  · rw [if_pos o0] at h hok
    refine w0 C h (a := a) (b := b) ?_ hW
    unfold eOk0 at hok
    by_cases b0 : b = 0
    · rw [if_pos b0] at hok
      obtain ⟨h1, h2⟩ := eDec_ok hok
      exact Or.inl ⟨b0, h1, h2⟩
    rw [if_neg b0] at hok
    by_cases b1 : b = 1
    · rw [if_pos b1] at hok
      simp only [Bool.and_eq_true, decide_eq_true_eq] at hok
      obtain ⟨h1, h2⟩ := eDec_ok hok.1
      exact Or.inr (Or.inl ⟨b1, h1, h2, hok.2⟩)
    rw [if_neg b1] at hok
    by_cases b2 : b = 2
    · rw [if_pos b2] at hok
      simp only [Bool.and_eq_true, decide_eq_true_eq] at hok
      obtain ⟨h1, h2⟩ := eDec_ok hok.1
      exact Or.inr (Or.inr (Or.inl ⟨b2, h1, h2, hok.2⟩))
    rw [if_neg b2] at hok
    by_cases b3 : b = 3
    · rw [if_pos b3] at hok
      simp only [Bool.and_eq_true] at hok
      obtain ⟨h1, h2⟩ := eDec_ok hok.1
      exact Or.inr (Or.inr (Or.inr (Or.inl ⟨b3, h1, h2, eWd_in hok.2⟩)))
    rw [if_neg b3] at hok
    by_cases b4 : b = 4
    · rw [if_pos b4] at hok
      simp only [Bool.and_eq_true] at hok
      obtain ⟨h1, h2⟩ := eDec_ok hok.1
      exact Or.inr (Or.inr (Or.inr (Or.inr ⟨b4, h1, h2, eWd_in hok.2⟩)))
    rw [if_neg b4] at hok
    cases hok
  rw [if_neg o0] at h hok
  by_cases o1 : op = 1
  · rw [if_pos o1] at h hok
    refine w1 C h (a := a) (b := b) ?_ hW
    unfold eOk1 at hok
    by_cases b0 : b = 0
    · rw [if_pos b0] at hok
      simp only [Bool.or_eq_true, Bool.and_eq_true, decide_eq_true_eq] at hok
      rcases hok with ⟨q, rfl⟩ | ⟨q, rfl⟩
      · obtain ⟨h1, h2⟩ := eDec_ok q
        exact Or.inl ⟨b0, 0, h1, h2, rfl⟩
      · obtain ⟨h1, h2⟩ := eDec_ok q
        exact Or.inl ⟨b0, 1, h1, h2, rfl⟩
    rw [if_neg b0] at hok
    by_cases b1 : b = 1
    · rw [if_pos b1] at hok
      simp only [Bool.and_eq_true] at hok
      obtain ⟨h1, h2⟩ := eDec_ok hok.1
      exact Or.inr ⟨b1, h1, h2, eWd_in hok.2⟩
    rw [if_neg b1] at hok
    cases hok
  rw [if_neg o1] at h hok
  by_cases o3 : op = 3
  · rw [if_pos o3] at h hok
    unfold eOkO at hok
    split at hok
    · rename_i i n hi
      obtain ⟨h1, h2⟩ := eDec_ok hok
      exact w3 C h hi h1 h2 hW
    · cases hok
  rw [if_neg o3] at h hok
  by_cases o4 : op = 4
  · rw [if_pos o4] at h hok
    unfold eOkO at hok
    split at hok
    · rename_i i n hi
      obtain ⟨h1, h2⟩ := eDec_ok hok
      exact w4 C h hi h1 h2 hW
    · cases hok
  rw [if_neg o4] at h hok
  by_cases o5 : op = 5
  · rw [if_pos o5] at h hok
    obtain ⟨h1, h2⟩ := eDec_ok hok
    exact w5 C h h1 h2 hW
  rw [if_neg o5] at h hok
  by_cases o6 : op = 6
  · rw [if_pos o6] at h hok
    obtain ⟨h1, h2⟩ := eDec_ok hok
    exact w6 C h h1 h2 hW
  rw [if_neg o6] at h hok
  by_cases o7 : op = 7
  · rw [if_pos o7] at h hok
    obtain ⟨h1, h2⟩ := eDec_ok hok
    exact w7 C h h1 h2 hW
  rw [if_neg o7] at h hok
  by_cases o8 : op = 8
  · rw [if_pos o8] at h hok
    obtain ⟨h1, h2⟩ := eDec_ok hok
    exact w8 C h h1 h2 hW
  rw [if_neg o8] at h hok
  by_cases o9 : op = 9
  · rw [if_pos o9] at h hok
    obtain ⟨h1, h2⟩ := eDec_ok hok
    exact w9 C h h1 h2 hW
  rw [if_neg o9] at h hok
  by_cases o10 : op = 10
  · rw [if_pos o10] at h hok
    obtain ⟨h1, h2⟩ := eDec_ok hok
    exact w10 C h h1 h2 hW
  rw [if_neg o10] at h hok
  by_cases o12 : op = 12
  · rw [if_pos o12] at h hok
    simp only [Bool.and_eq_true, decide_eq_true_eq] at hok
    obtain ⟨h1, h2⟩ := eDec_ok hok.1
    exact w12 C h h1 h2 hok.2 hW
  rw [if_neg o12] at h hok
  by_cases o13 : op = 13
  · rw [if_pos o13] at h hok
    simp only [Bool.and_eq_true, decide_eq_true_eq] at hok
    obtain ⟨h1, h2⟩ := eDec_ok hok.1
    exact w13 C h h1 h2 hok.2 hW
  rw [if_neg o13] at h hok
  by_cases o14 : op = 14
  · rw [if_pos o14] at h hok
    simp only [Bool.and_eq_true, decide_eq_true_eq] at hok
    exact w14 C h hok.1 hok.2 hW
  rw [if_neg o14] at h hok
  by_cases o15 : op = 15
  · rw [if_pos o15] at h hok
    exact w15 C h hok hW
  rw [if_neg o15] at h hok
  by_cases o16 : op = 16
  · rw [if_pos o16] at h hok
    simp only [Bool.and_eq_true] at hok
    obtain ⟨h1, h2⟩ := eDec_ok hok.1
    obtain ⟨-, hok⟩ := hok
    split at hok
    · rename_i k hk
      simp only [Bool.and_eq_true, decide_eq_true_eq] at hok
      exact w16 C h h1 h2 hk hok.1 (hCL b k hk).1 (eWd_in hok.2) hW
    · cases hok
  rw [if_neg o16] at h hok
  by_cases o17 : op = 17
  · rw [if_pos o17] at h hok
    simp only [Bool.and_eq_true] at hok
    obtain ⟨h1, h2⟩ := eDec_ok hok.1
    obtain ⟨-, hok⟩ := hok
    split at hok
    · rename_i k hk
      simp only [Bool.and_eq_true, Bool.or_eq_true, decide_eq_true_eq] at hok
      obtain ⟨q1, q2, q3⟩ := hok
      refine w17 C h h1 h2 hk q1 (hCL b k hk).1 (eWd_in q2) (hCL b k hk).2.1 (hCL b k hk).2.2 ?_ hW
      rcases q3 with q3 | ⟨q3, q4⟩
      · exact Or.inl q3
      · by_cases hf9 : (k.2.1 z.toNat).2.2.2 = false
        · exact Or.inl hf9
        · exact Or.inr ⟨by simpa using hf9, hmn q3, q4⟩
    · cases hok
  rw [if_neg o17] at h hok
  by_cases o18 : op = 18
  · rw [if_pos o18] at h hok
    simp only [Bool.and_eq_true, decide_eq_true_eq] at hok
    obtain ⟨h1, h2⟩ := eDec_ok hok.1
    obtain ⟨-, hlt, hok⟩ := hok
    split at hok
    · rename_i sn hs
      exact w18 C h h1 h2 (List.getElem?_eq_getElem hlt) hs (eWd_in hok) hW
    · cases hok
  rw [if_neg o18] at h hok
  by_cases o19 : op = 19
  · rw [if_pos o19] at h hok
    obtain ⟨h1, h2⟩ := eDec_ok hok
    exact w19 C h h1 h2 hW
  rw [if_neg o19] at h hok
  by_cases o20 : op = 20
  · rw [if_pos o20] at h hok
    obtain ⟨h1, h2⟩ := eDec_ok hok
    exact w20 C h h1 h2 hW
  rw [if_neg o20] at h hok
  by_cases o21 : op = 21
  · rw [if_pos o21] at h hok
    obtain ⟨h1, h2⟩ := eDec_ok hok
    exact w21 C h h1 h2 hW
  rw [if_neg o21] at h hok
  by_cases o22 : op = 22
  · rw [if_pos o22] at h hok
    simp only [Bool.and_eq_true] at hok
    obtain ⟨h1, h2⟩ := eDec_ok hok.1
    obtain ⟨-, hok⟩ := hok
    split at hok
    · rename_i k hk
      simp only [Bool.and_eq_true] at hok
      exact w22 C h h1 h2 hk (hCL b k hk).1 (hCL b k hk).2.1 (eWd_in hok.1) (eWd_in hok.2.1) (eWd_in hok.2.2) hr hW
    · cases hok
  rw [if_neg o22] at h hok
  by_cases o23 : op = 23
  · rw [if_pos o23] at h hok
    simp only [Bool.and_eq_true] at hok
    obtain ⟨h1, h2⟩ := eDec_ok hok.1
    exact w23 C h h1 h2 (eWd_in hok.2) hr hW
  rw [if_neg o23] at h hok
  by_cases o24 : op = 24
  · rw [if_pos o24] at h hok
    simp only [Bool.and_eq_true] at hok
    obtain ⟨h1, h2⟩ := eDec_ok hok.1
    obtain ⟨-, hok⟩ := hok
    split at hok
    · rename_i k hk
      simp only [Bool.and_eq_true, decide_eq_true_eq] at hok
      exact w24 C h h1 h2 hk (eWd_in hok.1) (by rw [hok.2]; exact hnx.2.1) hr hW
    · cases hok
  rw [if_neg o24] at h hok
  by_cases o25 : op = 25
  · rw [if_pos o25] at h hok
    simp only [Bool.and_eq_true] at hok
    obtain ⟨h1, h2⟩ := eDec_ok hok.1
    exact w25 C h h1 h2 (eWd_in hok.2.1) (eWd_in hok.2.2) hnx.2.2 hr hW
  rw [if_neg o25] at h hok
  by_cases o26 : op = 26
  · rw [if_pos o26] at h hok
    obtain ⟨h1, h2⟩ := eDec_ok hok
    exact w26 C h h1 h2 hW
  rw [if_neg o26] at h hok
  by_cases o30 : op = 30
  · rw [if_pos o30] at h hok
    simp only [Bool.and_eq_true] at hok
    obtain ⟨h1, h2⟩ := eDec_ok hok.1
    exact w30 C h h1 h2 (eWd_in hok.2.1) (eWd_in hok.2.2.1) (eWd_in hok.2.2.2) hf hlo hW
  rw [if_neg o30] at h hok
  by_cases o31 : op = 31
  · rw [if_pos o31] at h hok
    simp only [Bool.and_eq_true] at hok
    obtain ⟨h1, h2⟩ := eDec_ok hok.1
    exact w31 C h h1 h2 (eWd_in hok.2.1) (eWd_in hok.2.2.1) (eWd_in hok.2.2.2.1) (eWd_in hok.2.2.2.2) hf hlo hW
  rw [if_neg o31] at h
  cases h
end ESND
