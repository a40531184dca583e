/-! Constants, jumps, switches. -/
section EREST
variable {p : Program} {l : Launch} {e : Env} {Rm : Room} {s : State} {m : MethodId} {args : Array Value} {below : List Frame} {meth : Method} {c : Code} {Q : State → Prop}
variable {RO : List (Nat × (Nat → Int32))} {CL : List vw_C} {CT : Nat → Nat → FieldType} {WS : List Cond} {SN : List (String × String × String)} {D : va_G} {A : Nat → Prop} {roA : List Nat} {own : String} {cc : ByteArray} {nL : Nat} {ads0 : List Nat} {R R' : eR}
theorem w0 (C : eCx p s m args meth c WS RO SN A roA own cc nL) {nx a b : Nat} {z : Int} (h : (match R with | (_, ls, st, G, c, s) => some (nx, ls, Value.int (Int32.ofInt z) :: st, G, c, s)) = some R')
    (hd : (b = 0 ∧ decode cc R.1 = .ok (.iconst z, 1) ∧ nx = R.1 + 1) ∨ (b = 1 ∧ decode cc R.1 = .ok (.bipush z, 2) ∧ nx = R.1 + 2 ∧ (Int8.ofInt z).toInt32 = Int32.ofInt z) ∨ (b = 2 ∧ decode cc R.1 = .ok (.sipush z, 3) ∧ nx = R.1 + 3 ∧ (Int16.ofInt z).toInt32 = Int32.ofInt z) ∨
      (b = 3 ∧ decode cc R.1 = .ok (.ldc a, 2) ∧ nx = R.1 + 2 ∧ Cond.constant own a (Int32.ofInt z) ∈ WS) ∨ (b = 4 ∧ decode cc R.1 = .ok (.ldc_w a, 3) ∧ nx = R.1 + 3 ∧ Cond.constant own a (Int32.ofInt z) ∈ WS))
    (hW : eW p l e Rm s m args below meth c Q D CL A roA nL ads0 R') : eW p l e Rm s m args below meth c Q D CL A roA nL ads0 R := by
  obtain ⟨hx, hb, hml, hown, hts, hA, hro, hlocks, hst⟩ := C
  obtain ⟨pc, ls0, st0, G, c0, s0⟩ := R
  simp only [Option.some.injEq] at h
  subst h
  intro H locs ws tys ls lv st hp hK hP hD hS hG hl hL hV
  have kk := hW H locs ws tys ls lv (_ :: st) hp hK hP hD hS hG hl hL ⟨rfl, hV⟩
  simp only at hd kk ⊢
  rcases hd with ⟨-, hd, rfl⟩ | ⟨-, hd, rfl, hz⟩ | ⟨-, hd, rfl, hz⟩ | ⟨-, hd, rfl, hz⟩ | ⟨-, hd, rfl, hz⟩
  · exact lv_iconst hx hb hd rfl kk
  · exact lv_bipush hx hb hd hz kk
  · exact lv_sipush hx hb hd hz kk
  · exact lv_ldc hx hb hown (hts _ hz) hd kk
  · exact lv_ldcw hx hb hown (hts _ hz) hd kk
theorem w1 (C : eCx p s m args meth c WS RO SN A roA own cc nL) {nx a b : Nat} {z : Int} (h : (match R with | (_, ls, st, G, c, s) => some (nx, ls, Value.long (Int64.ofInt z) :: st, G, c, s)) = some R')
    (hd : (b = 0 ∧ ∃ n : Fin 2, decode cc R.1 = .ok (.lconst n, 1) ∧ nx = R.1 + 1 ∧ Int64.ofNat (n : Nat) = Int64.ofInt z) ∨ (b = 1 ∧ decode cc R.1 = .ok (.ldc2_w a, 3) ∧ nx = R.1 + 3 ∧ Cond.constantLong own a (Int64.ofInt z) ∈ WS))
    (hW : eW p l e Rm s m args below meth c Q D CL A roA nL ads0 R') : eW p l e Rm s m args below meth c Q D CL A roA nL ads0 R := by
  obtain ⟨hx, hb, hml, hown, hts, hA, hro, hlocks, hst⟩ := C
  obtain ⟨pc, ls0, st0, G, c0, s0⟩ := R
  simp only [Option.some.injEq] at h
  subst h
  intro H locs ws tys ls lv st hp hK hP hD hS hG hl hL hV
  have kk := hW H locs ws tys ls lv (_ :: st) hp hK hP hD hS hG hl hL ⟨rfl, hV⟩
  simp only at hd kk ⊢
  rcases hd with ⟨-, n, hd, rfl, hz⟩ | ⟨-, hd, rfl, hz⟩
  · exact lv_lconst hx hb hd hz kk
  · exact lv_ldc2 hx hb hown (hts _ hz) hd kk
theorem w14 (C : eCx p s m args meth c WS RO SN A roA own cc nL) {a : Nat} {z : Int} (h : (match R with | (_, ls, st, G, c, s) => some (a, ls, st, G, c, s)) = some R') (hd : decode cc R.1 = .ok (.goto z, 3)) (ht : (R.1 : Int) + z = (a : Int))
    (hW : eW p l e Rm s m args below meth c Q D CL A roA nL ads0 R') : eW p l e Rm s m args below meth c Q D CL A roA nL ads0 R := by
  obtain ⟨hx, hb, hml, hown, hts, hA, hro, hlocks, hst⟩ := C
  obtain ⟨pc, ls0, st0, G, c0, s0⟩ := R
  simp only [Option.some.injEq] at h
  subst h
  intro H locs ws tys ls lv st hp hK hP hD hS hG hl hL hV
  exact lv_goto hx hb hd ht (hW H locs ws tys ls lv st hp hK hP hD hS hG hl hL hV)
theorem eTabL_ok (pc a : Nat) (x : Int) : ∀ (sw : List (Int × Nat)) (lo : Int) (offs : List Int), eTabL pc lo sw offs = true → ((x < lo ∨ lo + sw.length ≤ x) → eSw sw a x = a) ∧ (¬ x < lo → x < lo + sw.length → ∃ off, offs[(x - lo).toNat]? = some off ∧ (pc : Int) + off = (eSw sw a x : Int))
  | [], lo, offs, _ => ⟨fun _ => rfl, fun h1 h2 => by simp at h2; omega⟩
  | q :: sw, lo, [], h => by simp [eTabL] at h
  | q :: sw, lo, o :: offs, h => by
    simp only [eTabL, Bool.and_eq_true, decide_eq_true_eq] at h
    obtain ⟨h1, h2, h3⟩ := h
    have ih := eTabL_ok pc a x sw (lo + 1) offs h3
    have hl : ((q :: sw).length : Int) = sw.length + 1 := by simp
    constructor
    · intro hx
      have hne : ¬ q.1 = x := by rw [h1]; omega
      simp only [eSw, if_neg hne]
      exact ih.1 (by omega)
    · intro hx1 hx2
      by_cases hq : q.1 = x
      · simp only [eSw, if_pos hq]
        have e : (x - lo).toNat = 0 := by omega
        rw [e]
        exact ⟨o, rfl, h2⟩
      · simp only [eSw, if_neg hq]
        obtain ⟨off, g1, g2⟩ := ih.2 (by omega) (by omega)
        have e : (x - lo).toNat = (x - (lo + 1)).toNat + 1 := by omega
        rw [e]
        exact ⟨off, g1, g2⟩
theorem eLkL_ok (pc a : Nat) (d x : Int) (hd : (pc : Int) + d = (a : Int)) : ∀ (sw : List (Int × Nat)) (ps : List (Int × Int)), eLkL pc sw ps = true → (pc : Int) + Op.lookupswitch.offset ps d x = (eSw sw a x : Int)
  | [], [], _ => hd
  | [], _ :: _, h => by simp [eLkL] at h
  | _ :: _, [], h => by simp [eLkL] at h
  | q :: sw, o :: ps, h => by
    obtain ⟨o1, o2⟩ := o
    simp only [eLkL, Bool.and_eq_true, decide_eq_true_eq] at h
    obtain ⟨h1, h2, h3⟩ := h
    have ih := eLkL_ok pc a d x hd sw ps h3
    rw [Op.lookupswitch.offset_cons]
    by_cases hq : q.1 = x
    · rw [if_pos (h1 ▸ hq)]
      simp only [eSw, if_pos hq]
      exact h2
    · rw [if_neg (fun z => hq (h1.trans z))]
      simp only [eSw, if_neg hq]
      exact ih
theorem w15 (C : eCx p s m args meth c WS RO SN A roA own cc nL) {a : Nat} {sw : List (Int × Nat)} (h : e15 a sw R = some R') (hd : eSwOk cc R.1 a sw = true)
    (hW : eW p l e Rm s m args below meth c Q D CL A roA nL ads0 R') : eW p l e Rm s m args below meth c Q D CL A roA nL ads0 R := by
  obtain ⟨hx, hb, hml, hown, hts, hA, hro, hlocks, hst⟩ := C
  unfold e15 at h
  split at h
  · rename_i pc ls0 x st0 G c0 s0
    cases h
    intro H locs ws tys ls lv st hp hK hP hD hS hG hl hL hV
    obtain ⟨r1, rfl, hV1⟩ := eVs_int hV
    have kk := hW H locs ws tys ls lv r1 hp hK hP hD hS hG hl hL hV1
    simp only at hd kk ⊢
    unfold eSwOk at hd
    split at hd
    · rename_i d lo hi offs len hdec
      simp only [Bool.and_eq_true, decide_eq_true_eq] at hd
      obtain ⟨h1, h2, h3⟩ := hd
      have ok := eTabL_ok pc a x.toInt sw lo offs.toList h3
      by_cases hin : x.toInt < lo ∨ hi < x.toInt
      · have e1 := ok.1 (by omega)
        rw [e1] at kk
        exact lv_tableOut hx hb hdec hin h1 kk
      · simp only [not_or] at hin
        obtain ⟨off, g1, g2⟩ := ok.2 hin.1 (by omega)
        exact lv_tableIn hx hb hdec hin.1 hin.2 (by rw [← Array.getElem?_toList]; exact g1) g2 kk
    · rename_i d ps len hdec
      simp only [Bool.and_eq_true, decide_eq_true_eq] at hd
      obtain ⟨h1, h2, h3⟩ := hd
      exact lv_lookup hx hb hdec h2 rfl (eLkL_ok pc a d x.toInt h1 sw ps.toList h3) kk
    · cases hd
  · cases h
end EREST
