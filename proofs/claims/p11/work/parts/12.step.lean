/-! Each instruction of the abstract machine is the machine's: from a frame that stands for R', to one that stands for R. -/
/-- what a frame's walk rests on: the machine, the code, the words, which cells are its own, the static tables -/
def eCx (p : Program) (s : State) (m : MethodId) (args : Array Value) (meth : Method) (c : Code) (WS : List Cond) (RO : List (Nat × (Nat → Int32))) (SN : List (String × String × String)) (A : Nat → Prop) (roA : List Nat) (own : String) (cc : ByteArray) (nL : Nat) : Prop :=
  p.tables.exec = Jvm.exec ∧ c.code = cc ∧ c.maxLocals = nL ∧ s.vm.findClass own = some m.cls ∧ (∀ w ∈ WS, w.before args s = true) ∧ (∀ q : Nat, s.heap.size ≤ q → A q) ∧ roA.length = RO.length ∧ meth.locks = false ∧
  ∀ (j : Nat) (q : Nat × (Nat → Int32)), RO[j]? = some q → ∃ a : Nat, roA[j]? = some a ∧ va_T .int a q.1 (fun i => .int (q.2 i)) A s s.heap ∧ ∀ n : String × String × String, SN[j]? = some n → va_Z n.1 n.2.1 n.2.2 (.ref a) A s s.heap
/-- from every machine's frame that stands for R, the walk comes to an end with Q -/
def eW (p : Program) (l : Launch) (e : Env) (Rm : Room) (s : State) (m : MethodId) (args : Array Value) (below : List Frame) (meth : Method) (c : Code) (Q : State → Prop) (D : va_G) (CL : List vw_C) (A : Nat → Prop) (roA : List Nat) (nL : Nat) (ads0 : List Nat) (R : eR) : Prop :=
  ∀ (H : Heap) (locs : List Loc) (ws : va_W) (tys : List (ClassId × FieldType)) (ls : Array Slot) (lv : List (Nat × Value)) (st : List Value), ads0 <+: roA ++ ws.map Prod.fst → va_K D CL tys s → va_P D CL ws H → va_D A ws → va_S A s.heap H locs →
    eHp tys (roA ++ ws.map Prod.fst) R.2.2.2.1 ws → lv_has ls nL lv → eLs (roA ++ ws.map Prod.fst) R.2.1 lv → eVs (roA ++ ws.map Prod.fst) R.2.2.1 st → W p l e Rm s m args below meth c H locs R.2.2.2.2.1 R.2.2.2.2.2 Q (F0 m R.1 ls st)
section ESTEP
variable {p : Program} {l : Launch} {e : Env} {Rm : Room} {s : State} {m : MethodId} {args : Array Value} {below : List Frame} {meth : Method} {c : Code} {Q : State → Prop}
variable {RO : List (Nat × (Nat → Int32))} {CL : List vw_C} {CT : Nat → Nat → FieldType} {WS : List Cond} {SN : List (String × String × String)} {D : va_G} {A : Nat → Prop} {roA : List Nat} {own : String} {cc : ByteArray} {nL : Nat} {ads0 : List Nat} {R R' : eR}
theorem eTag0 {v : Value} (h : eTag v = 0) : ∃ x, v = .int x := by
  cases v <;> first | exact ⟨_, rfl⟩ | exact absurd h (by simp [eTag])
theorem eTag1 {v : Value} (h : eTag v = 1) : ∃ x, v = .long x := by
  cases v <;> first | exact ⟨_, rfl⟩ | exact absurd h (by simp [eTag])
theorem eTag2 {v : Value} (h : eTag v = 2) : ∃ x, v = .ref x := by
  cases v <;> first | exact ⟨_, rfl⟩ | exact absurd h (by simp [eTag])
theorem w3 (C : eCx p s m args meth c WS RO SN A roA own cc nL) {nx a b : Nat} (h : e3 nx a b R = some R') {i : Instr} {n : Nat} (hi : eLdI b a = some (i, n)) (hd : decode cc R.1 = .ok (i, n)) (hn : nx = R.1 + n) (hW : eW p l e Rm s m args below meth c Q D CL A roA nL ads0 R') : eW p l e Rm s m args below meth c Q D CL A roA nL ads0 R := by
  obtain ⟨hx, hb, -⟩ := C
  obtain ⟨pc, ls0, st0, G, c0, s0⟩ := R
  simp only [e3] at h
  split at h
  · rename_i v hv
    split at h
    · rename_i ht
      cases h
      intro H locs ws tys ls lv st hp hK hP hD hS hG hl hL hV
      obtain ⟨w, hw, hvw⟩ := eLs_get hL hv
      have hls : ls[a]? = some (.val w) := hl.2.2 (a, w) hw
      have k := hW H locs ws tys ls lv (w :: st) hp hK hP hD hS hG hl hL ⟨hvw, hV⟩
      simp only at hd hn k ⊢
      subst hn
      unfold eLdI at hi
      split at hi
      · subst b; cases hi
        obtain ⟨x, rfl⟩ := eTag0 ht
        cases hvw
        exact lv_iload hx hb hd hls k
      split at hi
      · subst b; cases hi
        obtain ⟨x, rfl⟩ := eTag1 ht
        cases hvw
        exact lv_lload hx hb hd hls k
      split at hi
      · subst b; cases hi
        obtain ⟨x, rfl⟩ := eTag2 ht
        obtain ⟨y, -, rfl⟩ := hvw
        exact lv_aload hx hb hd hls k
      split at hi
      · split at hi
        · subst b; cases hi
          obtain ⟨x, rfl⟩ := eTag0 ht
          cases hvw
          exact lv_iload_n hx hb hd rfl hls k
        split at hi
        · subst b; cases hi
          obtain ⟨x, rfl⟩ := eTag1 ht
          cases hvw
          exact lv_lload_n hx hb hd rfl hls k
        split at hi
        · subst b; cases hi
          obtain ⟨x, rfl⟩ := eTag2 ht
          obtain ⟨y, -, rfl⟩ := hvw
          exact lv_aload_n hx hb hd rfl hls k
        · cases hi
      · cases hi
    · cases h
  · cases h
theorem w4 (C : eCx p s m args meth c WS RO SN A roA own cc nL) {nx a b : Nat} (h : e4 nL nx a b R = some R') {i : Instr} {n : Nat} (hi : eSnI b a = some (i, n)) (hd : decode cc R.1 = .ok (i, n)) (hn : nx = R.1 + n) (hW : eW p l e Rm s m args below meth c Q D CL A roA nL ads0 R') : eW p l e Rm s m args below meth c Q D CL A roA nL ads0 R := by
  obtain ⟨hx, hb, -⟩ := C
  obtain ⟨pc, ls0, st0, G, c0, s0⟩ := R
  cases st0 with
  | nil => simp only [e4] at h; cases h
  | cons v st0 =>
    simp only [e4] at h
    split at h
    · rename_i ht
      intro H locs ws tys ls lv st hp hK hP hD hS hG hl hL hV
      obtain ⟨w, r, rfl, hvw, hV1⟩ := eVs_cons hV
      simp only at hd hn ⊢
      subst hn
      unfold eSnI at hi
      split at h
      · rename_i hb1
        split at h
        · rename_i ha
          cases h
          have k : ∀ ls' : Array Slot, lv_has ls' nL _ → _ := fun ls' hl' => hW H locs ws tys ls' _ r hp hK hP hD hS hG hl' (eLs_st2 hL hvw) hV1
          split at hi
          · subst b; exact absurd hb1 (by decide)
          split at hi
          · subst b; cases hi
            obtain ⟨x, rfl⟩ := eTag1 ht
            cases hvw
            exact lv_lstore hx hb hd hl ha rfl k
          split at hi
          · subst b; exact absurd hb1 (by decide)
          split at hi
          · split at hi
            · subst b; exact absurd hb1 (by decide)
            split at hi
            · subst b; cases hi
              obtain ⟨x, rfl⟩ := eTag1 ht
              cases hvw
              exact lv_lstore_n hx hb hd rfl hl ha rfl k
            split at hi
            · subst b; exact absurd hb1 (by decide)
            · cases hi
          · cases hi
        · cases h
      · rename_i hb1
        split at h
        · rename_i ha
          cases h
          have k : ∀ ls' : Array Slot, lv_has ls' nL _ → _ := fun ls' hl' => hW H locs ws tys ls' _ r hp hK hP hD hS hG hl' (eLs_st1 hL hvw) hV1
          split at hi
          · subst b; cases hi
            obtain ⟨x, rfl⟩ := eTag0 ht
            cases hvw
            exact lv_istore hx hb hd hl ha rfl k
          split at hi
          · subst b; exact absurd rfl hb1
          split at hi
          · subst b; cases hi
            obtain ⟨x, rfl⟩ := eTag2 ht
            obtain ⟨y, -, rfl⟩ := hvw
            exact lv_astore hx hb hd hl ha rfl k
          split at hi
          · split at hi
            · subst b; cases hi
              obtain ⟨x, rfl⟩ := eTag0 ht
              cases hvw
              exact lv_istore_n hx hb hd rfl hl ha rfl k
            split at hi
            · subst b; exact absurd rfl hb1
            split at hi
            · subst b; cases hi
              obtain ⟨x, rfl⟩ := eTag2 ht
              obtain ⟨y, -, rfl⟩ := hvw
              exact lv_astore_n hx hb hd rfl hl ha rfl k
            · cases hi
          · cases hi
        · cases h
    · cases h
theorem w5 (C : eCx p s m args meth c WS RO SN A roA own cc nL) {nx a : Nat} {z : Int} (h : e5 nL nx a z R = some R') (hd : decode cc R.1 = .ok (.iinc a z, 3)) (hn : nx = R.1 + 3) (hW : eW p l e Rm s m args below meth c Q D CL A roA nL ads0 R') : eW p l e Rm s m args below meth c Q D CL A roA nL ads0 R := by
  obtain ⟨hx, hb, -⟩ := C
  obtain ⟨pc, ls0, st0, G, c0, s0⟩ := R
  simp only [e5] at h
  split at h
  · rename_i x hv
    split at h
    · rename_i ha
      cases h
      intro H locs ws tys ls lv st hp hK hP hD hS hG hl hL hV
      obtain ⟨w, hw, hvw⟩ := eLs_get hL hv
      cases hvw
      obtain ⟨k9, hk9⟩ := List.getElem?_of_mem hw
      simp only at hd hn ⊢
      subst hn
      exact lv_iinc hx hb hd hl hk9 rfl ha rfl (fun ls' hl' => hW H locs ws tys ls' _ st hp hK hP hD hS hG hl' (eLs_st1 hL rfl) hV)
    · cases h
  · cases h
theorem w6 (C : eCx p s m args meth c WS RO SN A roA own cc nL) {nx b : Nat} (h : e6 nx b R = some R') (hd : decode cc R.1 = .ok (eBinI b, 1)) (hn : nx = R.1 + 1) (hW : eW p l e Rm s m args below meth c Q D CL A roA nL ads0 R') : eW p l e Rm s m args below meth c Q D CL A roA nL ads0 R := by
  obtain ⟨hx, hb, -⟩ := C
  unfold e6 at h
  split at h
  · rename_i pc ls0 y x st0 G c0 s0
    obtain ⟨v, hv, rfl⟩ := Option.map_eq_some_iff.mp h
    intro H locs ws tys ls lv st hp hK hP hD hS hG hl hL hV
    obtain ⟨r1, rfl, hV1⟩ := eVs_int hV
    obtain ⟨r2, rfl, hV2⟩ := eVs_int hV1
    have k := hW H locs ws tys ls lv (.int v :: r2) hp hK hP hD hS hG hl hL ⟨rfl, hV2⟩
    simp only at hd hn k ⊢
    subst hn
    unfold eBin at hv
    unfold eBinI at hd
    by_cases n0 : b = 0
    · rw [if_pos n0] at hv hd; cases hv; exact lv_iadd hx hb hd k
    rw [if_neg n0] at hv hd
    by_cases n1 : b = 1
    · rw [if_pos n1] at hv hd; cases hv; exact lv_isub hx hb hd k
    rw [if_neg n1] at hv hd
    by_cases n2 : b = 2
    · rw [if_pos n2] at hv hd; cases hv; exact lv_imul hx hb hd k
    rw [if_neg n2] at hv hd
    by_cases n3 : b = 3
    · rw [if_pos n3] at hv hd; cases hv; exact lv_iand hx hb hd k
    rw [if_neg n3] at hv hd
    by_cases n4 : b = 4
    · rw [if_pos n4] at hv hd; cases hv; exact lv_ior hx hb hd k
    rw [if_neg n4] at hv hd
    by_cases n5 : b = 5
    · rw [if_pos n5] at hv hd; cases hv; exact lv_ixor hx hb hd k
    rw [if_neg n5] at hv hd
    by_cases n6 : b = 6
    · rw [if_pos n6] at hv hd; cases hv; exact lv_ishl hx hb hd k
    rw [if_neg n6] at hv hd
    by_cases n7 : b = 7
    · rw [if_pos n7] at hv hd; cases hv; exact lv_ishr hx hb hd k
    rw [if_neg n7] at hv hd
    by_cases n8 : b = 8
    · rw [if_pos n8] at hv hd; cases hv; exact lv_iushr hx hb hd rfl k
    rw [if_neg n8] at hv hd
    by_cases n9 : b = 9
    · rw [if_pos n9] at hv hd
      by_cases hy : y = 0
      · rw [if_pos hy] at hv; cases hv
      · rw [if_neg hy] at hv; cases hv; exact lv_idiv hx hb hd hy k
    rw [if_neg n9] at hv hd
    by_cases n10 : b = 10
    · rw [if_pos n10] at hv hd
      by_cases hy : y = 0
      · rw [if_pos hy] at hv; cases hv
      · rw [if_neg hy] at hv; cases hv; exact lv_irem hx hb hd hy k
    rw [if_neg n10] at hv; cases hv
  · cases h
theorem w7 (C : eCx p s m args meth c WS RO SN A roA own cc nL) {nx b : Nat} (h : e7 nx b R = some R') (hd : decode cc R.1 = .ok (eLinI b, 1)) (hn : nx = R.1 + 1) (hW : eW p l e Rm s m args below meth c Q D CL A roA nL ads0 R') : eW p l e Rm s m args below meth c Q D CL A roA nL ads0 R := by
  obtain ⟨hx, hb, -⟩ := C
  unfold e7 at h
  split at h
  · rename_i pc ls0 y x st0 G c0 s0
    obtain ⟨v, hv, rfl⟩ := Option.map_eq_some_iff.mp h
    intro H locs ws tys ls lv st hp hK hP hD hS hG hl hL hV
    obtain ⟨r1, rfl, hV1⟩ := eVs_long hV
    obtain ⟨r2, rfl, hV2⟩ := eVs_long hV1
    have k := hW H locs ws tys ls lv (.long v :: r2) hp hK hP hD hS hG hl hL ⟨rfl, hV2⟩
    simp only at hd hn k ⊢
    subst hn
    unfold eLin at hv
    unfold eLinI at hd
    by_cases n0 : b = 0
    · rw [if_pos n0] at hv hd; cases hv; exact lv_ladd hx hb hd k
    rw [if_neg n0] at hv hd
    by_cases n1 : b = 1
    · rw [if_pos n1] at hv hd; cases hv; exact lv_lsub hx hb hd k
    rw [if_neg n1] at hv hd
    by_cases n2 : b = 2
    · rw [if_pos n2] at hv hd; cases hv; exact lv_lmul hx hb hd k
    rw [if_neg n2] at hv hd
    by_cases n3 : b = 3
    · rw [if_pos n3] at hv hd; cases hv; exact lv_land hx hb hd k
    rw [if_neg n3] at hv hd
    by_cases n4 : b = 4
    · rw [if_pos n4] at hv hd; cases hv; exact lv_lor hx hb hd k
    rw [if_neg n4] at hv hd
    by_cases n5 : b = 5
    · rw [if_pos n5] at hv hd; cases hv; exact lv_lxor hx hb hd k
    rw [if_neg n5] at hv hd
    by_cases n9 : b = 9
    · rw [if_pos n9] at hv hd
      by_cases hy : y = 0
      · rw [if_pos hy] at hv; cases hv
      · rw [if_neg hy] at hv; cases hv; exact lv_ldiv hx hb hd hy k
    rw [if_neg n9] at hv; cases hv
  · cases h
theorem w8 (C : eCx p s m args meth c WS RO SN A roA own cc nL) {nx b : Nat} (h : e8 nx b R = some R') (hd : decode cc R.1 = .ok (eUnI b, 1)) (hn : nx = R.1 + 1) (hW : eW p l e Rm s m args below meth c Q D CL A roA nL ads0 R') : eW p l e Rm s m args below meth c Q D CL A roA nL ads0 R := by
  obtain ⟨hx, hb, -⟩ := C
  unfold e8 at h
  split at h
  · rename_i pc ls0 v st0 G c0 s0
    obtain ⟨w, hv, rfl⟩ := Option.map_eq_some_iff.mp h
    intro H locs ws tys ls lv st hp hK hP hD hS hG hl hL hV
    unfold eUn at hv
    unfold eUnI at hd
    split at hv
    · rename_i x
      obtain ⟨r1, rfl, hV1⟩ := eVs_int hV
      split at hv
      · subst b; cases hv
        have k := hW H locs ws tys ls lv (_ :: r1) hp hK hP hD hS hG hl hL ⟨rfl, hV1⟩
        simp only at hd hn k ⊢
        subst hn
        exact lv_ineg hx hb hd k
      rename_i n0; rw [if_neg n0] at hd
      split at hv
      · subst b; cases hv
        have k := hW H locs ws tys ls lv (_ :: r1) hp hK hP hD hS hG hl hL ⟨rfl, hV1⟩
        simp only at hd hn k ⊢
        subst hn
        exact lv_i2b hx hb hd rfl k
      rename_i n1; rw [if_neg n1] at hd
      split at hv
      · subst b; cases hv
        have k := hW H locs ws tys ls lv (_ :: r1) hp hK hP hD hS hG hl hL ⟨rfl, hV1⟩
        simp only at hd hn k ⊢
        subst hn
        exact lv_i2s hx hb hd rfl k
      rename_i n2; rw [if_neg n2] at hd
      split at hv
      · subst b; cases hv
        have k := hW H locs ws tys ls lv (_ :: r1) hp hK hP hD hS hG hl hL ⟨rfl, hV1⟩
        simp only at hd hn k ⊢
        subst hn
        exact lv_i2l hx hb hd rfl k
      · cases hv
    · rename_i x
      obtain ⟨r1, rfl, hV1⟩ := eVs_long hV
      split at hv
      · subst b; cases hv
        have k := hW H locs ws tys ls lv (_ :: r1) hp hK hP hD hS hG hl hL ⟨rfl, hV1⟩
        simp only at hd hn k ⊢
        subst hn
        exact lv_l2i hx hb hd rfl k
      · cases hv
    · cases hv
  · cases h
theorem w9 (C : eCx p s m args meth c WS RO SN A roA own cc nL) {nx : Nat} (h : e9 nx R = some R') (hd : decode cc R.1 = .ok (.lcmp, 1)) (hn : nx = R.1 + 1) (hW : eW p l e Rm s m args below meth c Q D CL A roA nL ads0 R') : eW p l e Rm s m args below meth c Q D CL A roA nL ads0 R := by
  obtain ⟨hx, hb, -⟩ := C
  unfold e9 at h
  split at h
  · cases h
    intro H locs ws tys ls lv st hp hK hP hD hS hG hl hL hV
    obtain ⟨r1, rfl, hV1⟩ := eVs_long hV
    obtain ⟨r2, rfl, hV2⟩ := eVs_long hV1
    have k := hW H locs ws tys ls lv (_ :: r2) hp hK hP hD hS hG hl hL ⟨rfl, hV2⟩
    simp only at hd hn k ⊢
    subst hn
    exact W.lcmp hx hb hd k
  · cases h
theorem w10 (C : eCx p s m args meth c WS RO SN A roA own cc nL) {nx : Nat} (h : e10 nx R = some R') (hd : decode cc R.1 = .ok (.lshl, 1)) (hn : nx = R.1 + 1) (hW : eW p l e Rm s m args below meth c Q D CL A roA nL ads0 R') : eW p l e Rm s m args below meth c Q D CL A roA nL ads0 R := by
  obtain ⟨hx, hb, -⟩ := C
  unfold e10 at h
  split at h
  · cases h
    intro H locs ws tys ls lv st hp hK hP hD hS hG hl hL hV
    obtain ⟨r1, rfl, hV1⟩ := eVs_int hV
    obtain ⟨r2, rfl, hV2⟩ := eVs_long hV1
    have k := hW H locs ws tys ls lv (_ :: r2) hp hK hP hD hS hG hl hL ⟨rfl, hV2⟩
    simp only at hd hn k ⊢
    subst hn
    exact lv_lshl hx hb hd rfl k
  · cases h
theorem w12 (C : eCx p s m args meth c WS RO SN A roA own cc nL) {nx a b : Nat} {z : Int} (h : e12 nx a b R = some R') (hd : decode cc R.1 = .ok (.ifCond (eCmpI b) z, 3)) (hn : nx = R.1 + 3) (ht : (R.1 : Int) + z = (a : Int)) (hW : eW p l e Rm s m args below meth c Q D CL A roA nL ads0 R') : eW p l e Rm s m args below meth c Q D CL A roA nL ads0 R := by
  obtain ⟨hx, hb, -⟩ := C
  unfold e12 at h
  split at h
  · rename_i pc ls0 x st0 G c0 s0
    cases h
    intro H locs ws tys ls lv st hp hK hP hD hS hG hl hL hV
    obtain ⟨r1, rfl, hV1⟩ := eVs_int hV
    have k := hW H locs ws tys ls lv r1 hp hK hP hD hS hG hl hL hV1
    simp only at hd hn ht k ⊢
    subst hn
    have kt : eCmp b x 0 = true → W p l e Rm s m args below meth c H locs c0 s0 Q (F0 m a ls r1) := fun q => by rw [if_pos q] at k; exact k
    have kf : ¬ eCmp b x 0 = true → W p l e Rm s m args below meth c H locs c0 s0 Q (F0 m (pc + 3) ls r1) := fun q => by rw [if_neg q] at k; exact k
    unfold eCmpI at hd
    split at hd
    · subst b; exact lv_if_eq hx hb hd ht (fun q => kt (by simp [eCmp, q])) (fun q => kf (by simp [eCmp, q]))
    split at hd
    · subst b; exact lv_if_ne hx hb hd ht (fun q => kt (by simp [eCmp, q])) (fun q => kf (by simp [eCmp, q]))
    split at hd
    · subst b; exact lv_if_lt hx hb hd ht (fun q => kt (by simp [eCmp, q])) (fun q => kf (by simp [eCmp, q]))
    split at hd
    · subst b; exact lv_if_ge hx hb hd ht (fun q => kt (by simp [eCmp, q])) (fun q => kf (by simp [eCmp, q]))
    split at hd
    · subst b; exact lv_if_gt hx hb hd ht (fun q => kt (by simp [eCmp, q])) (fun q => kf (by simp [eCmp, q]))
    · rename_i n0 n1 n2 n3 n4
      exact lv_if_le hx hb hd ht (fun q => kt (by simp [eCmp, n0, n1, n2, n3, n4, q])) (fun q => kf (by simp [eCmp, n0, n1, n2, n3, n4, q]))
  · cases h
theorem w13 (C : eCx p s m args meth c WS RO SN A roA own cc nL) {nx a b : Nat} {z : Int} (h : e13 nx a b R = some R') (hd : decode cc R.1 = .ok (.if_icmp (eCmpI b) z, 3)) (hn : nx = R.1 + 3) (ht : (R.1 : Int) + z = (a : Int)) (hW : eW p l e Rm s m args below meth c Q D CL A roA nL ads0 R') : eW p l e Rm s m args below meth c Q D CL A roA nL ads0 R := by
  obtain ⟨hx, hb, -⟩ := C
  unfold e13 at h
  split at h
  · rename_i pc ls0 y x st0 G c0 s0
    cases h
    intro H locs ws tys ls lv st hp hK hP hD hS hG hl hL hV
    obtain ⟨r1, rfl, hV1⟩ := eVs_int hV
    obtain ⟨r2, rfl, hV2⟩ := eVs_int hV1
    have k := hW H locs ws tys ls lv r2 hp hK hP hD hS hG hl hL hV2
    simp only at hd hn ht k ⊢
    subst hn
    have kt : eCmp b x y = true → W p l e Rm s m args below meth c H locs c0 s0 Q (F0 m a ls r2) := fun q => by rw [if_pos q] at k; exact k
    have kf : ¬ eCmp b x y = true → W p l e Rm s m args below meth c H locs c0 s0 Q (F0 m (pc + 3) ls r2) := fun q => by rw [if_neg q] at k; exact k
    unfold eCmpI at hd
    split at hd
    · subst b; exact lv_icmp_eq hx hb hd ht (fun q => kt (by simp [eCmp, q])) (fun q => kf (by simp [eCmp, q]))
    split at hd
    · subst b; exact lv_icmp_ne hx hb hd ht (fun q => kt (by simp [eCmp, q])) (fun q => kf (by simp [eCmp, q]))
    split at hd
    · subst b; exact lv_icmp_lt hx hb hd ht (fun q => kt (by simp [eCmp, q])) (fun q => kf (by simp [eCmp, q]))
    split at hd
    · subst b; exact lv_icmp_ge hx hb hd ht (fun q => kt (by simp [eCmp, q])) (fun q => kf (by simp [eCmp, q]))
    split at hd
    · subst b; exact lv_icmp_gt hx hb hd ht (fun q => kt (by simp [eCmp, q])) (fun q => kf (by simp [eCmp, q]))
    · rename_i n0 n1 n2 n3 n4
      exact lv_icmp_le hx hb hd ht (fun q => kt (by simp [eCmp, n0, n1, n2, n3, n4, q])) (fun q => kf (by simp [eCmp, n0, n1, n2, n3, n4, q]))
  · cases h
end ESTEP
