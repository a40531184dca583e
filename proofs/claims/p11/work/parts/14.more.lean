/-! Stores into arrays, new cells, and what else there is. -/
section EMORE
variable {p : Program} {l : Launch} {e : Env} {Rm : Room} {s : State} {m : MethodId} {args : Array Value} {below : List Frame} {meth : Method} {c : Code} {Q : State → Prop}
variable {RO : List (Nat × (Nat → Int32))} {CL : List vw_C} {CT : Nat → Nat → FieldType} {WS : List Cond} {SN : List (String × String × String)} {D : va_G} {A : Nat → Prop} {roA : List Nat} {own : String} {cc : ByteArray} {nL : Nat} {ads0 : List Nat} {R R' : eR}
theorem w20 (C : eCx p s m args meth c WS RO SN A roA own cc nL) {nx b : Nat} (h : e20 RO CL nx b R = some R') (hd : decode cc R.1 = .ok (eAsI b, 1)) (hn : nx = R.1 + 1)
    (hW : eW p l e Rm s m args below meth c Q D CL A roA nL ads0 R') : eW p l e Rm s m args below meth c Q D CL A roA nL ads0 R := by
  obtain ⟨hx, hb, hml, hown, hts, hA, hro, hlocks, hst⟩ := C
  unfold e20 at h
  split at h
  · rename_i pc ls0 v i q st0 G c0 s0
    split at h
    · cases h
    rename_i hq
    split at h
    · rename_i x ty n f hg
      split at h
      · rename_i hin
        intro H locs ws tys ls lv st hp hK hP hD hS hG hl hL hV
        obtain ⟨r0, rfl, hV0⟩ := eVs_int hV
        obtain ⟨r1, rfl, hV1⟩ := eVs_int hV0
        obtain ⟨a, r2, rfl, ha, hV2⟩ := eVs_ref hV1
        obtain ⟨cA, t, he, ht⟩ := eArrI hro hG hq ha hg
        have key : ∀ g : Nat → Int32, R' = (nx, ls0, st0, G.set (q - RO.length) (.inl (ty, n, .inl g)), c0, s0) → ∀ (H1 : Heap) (locs1 : List Loc), va_P D CL (ws.set (q - RO.length) (a, .inl (cA, n, .inl g))) H1 → va_D A (ws.set (q - RO.length) (a, .inl (cA, n, .inl g))) → va_S A s.heap H1 locs1 → W p l e Rm s m args below meth c H1 locs1 c0 s0 Q (F0 m nx ls r2) := by
          intro g hR H1 locs1 hP1 hD1 hS1
          subst hR
          exact hW H1 locs1 _ tys ls lv r2 (by rw [eMapSet he]; exact hp) hK hP1 hD1 hS1 (by rw [eMapSet he]; exact eHp_set hG ⟨cA, t, _, rfl, ht, rfl⟩) hl (by rw [eMapSet he]; exact hL) (by rw [eMapSet he]; exact hV2)
        simp only at hd hn ⊢
        subst hn
        split at h
        · rename_i hc
          obtain ⟨rfl, rfl⟩ := hc
          exact va_iast hx hb hK hP hD hS (q - RO.length) t he ht (eIn_of hin) hd (key _ (Option.some.inj h).symm)
        split at h
        · rename_i hc
          obtain ⟨rfl, rfl⟩ := hc
          exact va_bast hx hb hK hP hD hS (q - RO.length) t he ht (eIn_of hin) hd (key _ (Option.some.inj h).symm)
        split at h
        · rename_i hc
          obtain ⟨rfl, rfl⟩ := hc
          exact va_sast hx hb hK hP hD hS (q - RO.length) t he ht (eIn_of hin) hd (key _ (Option.some.inj h).symm)
        · cases h
      · cases h
    · rename_i x ty n f hg
      split at h
      · rename_i hc
        obtain ⟨⟨rfl, rfl⟩, hin⟩ := hc
        cases h
        intro H locs ws tys ls lv st hp hK hP hD hS hG hl hL hV
        obtain ⟨r0, rfl, hV0⟩ := eVs_long hV
        obtain ⟨r1, rfl, hV1⟩ := eVs_int hV0
        obtain ⟨a, r2, rfl, ha, hV2⟩ := eVs_ref hV1
        obtain ⟨cA, t, he, ht⟩ := eArrL hro hG hq ha hg
        simp only at hd hn ⊢
        subst hn
        exact va_last hx hb hK hP hD hS (q - RO.length) t he ht (eIn_of hin) hd (fun H1 locs1 hP1 hD1 hS1 => hW H1 locs1 _ tys ls lv r2 (by rw [eMapSet he]; exact hp) hK hP1 hD1 hS1 (by rw [eMapSet he]; exact eHp_set hG ⟨cA, t, _, rfl, ht, rfl⟩) hl (by rw [eMapSet he]; exact hL) (by rw [eMapSet he]; exact hV2))
      · cases h
    · rename_i r ty n f hg
      split at h
      · rename_i hc
        obtain ⟨rfl, hin, hr⟩ := hc
        split at h
        · rename_i ci fs hgr
          split at h
          · rename_i k hk
            split at h
            · rename_i hty
              subst hty
              cases h
              intro H locs ws tys ls lv st hp hK hP hD hS hG hl hL hV
              obtain ⟨ar, r0, rfl, har, hV0⟩ := eVs_ref hV
              obtain ⟨r1, rfl, hV1⟩ := eVs_int hV0
              obtain ⟨a, r2, rfl, ha, hV2⟩ := eVs_ref hV1
              obtain ⟨cA, t, g, he, ht, hfg⟩ := eArrQ hro hG hq ha hg
              obtain ⟨gs, her, -⟩ := eObj hro hG hr har hgr
              simp only at hd hn ⊢
              subst hn
              have hup : ∀ j, j < n → eO (roA ++ ws.map Prod.fst) (va_up f i.toNatClampNeg (some r) j) (va_up g i.toNatClampNeg (some ar) j) := by
                intro j hj
                by_cases hji : j = i.toNatClampNeg
                · subst hji
                  simp only [va_up, if_true]
                  exact ⟨ar, har, rfl⟩
                · simp only [va_up, hji, if_false]
                  exact hfg j hj
              exact va_astq hx hb hK hP hD hS (q - RO.length) t (r - RO.length) ci he ht her hk (eIn_of hin) hd (fun H1 locs1 hP1 hD1 hS1 => hW H1 locs1 _ tys ls lv r2 (by rw [eMapSet he]; exact hp) hK hP1 hD1 hS1 (by rw [eMapSet he]; exact eHp_set hG ⟨cA, t, _, rfl, ht, _, rfl, hup⟩) hl (by rw [eMapSet he]; exact hL) (by rw [eMapSet he]; exact hV2))
            · cases h
          · cases h
        · cases h
      · cases h
    · cases h
  · cases h
theorem ePre {roA : List Nat} {ws w2 : va_W} : roA ++ ws.map Prod.fst <+: roA ++ (ws ++ w2).map Prod.fst := ⟨w2.map Prod.fst, by rw [List.map_append, List.append_assoc]⟩
theorem eLast {roA : List Nat} {ws w2 : va_W} {G : List eE} {nr a : Nat} {y : va_E} (hn : roA.length = nr) (hl : G.length = ws.length) : (roA ++ (ws ++ (a, y) :: w2).map Prod.fst)[nr + G.length]? = some a := by
  rw [List.getElem?_append_right (by omega), hn, Nat.add_sub_cancel_left, List.map_append, List.getElem?_append_right (by rw [List.length_map]; omega), List.length_map, hl, Nat.sub_self]
  rfl
theorem w22 (C : eCx p s m args meth c WS RO SN A roA own cc nL) {nx b ix N : Nat} {Cn : String} {T : u_T} (h : e22 RO CL CT nx b R = some R') (hd : decode cc R.1 = .ok (.new ix, 3)) (hn : nx = R.1 + 3) (hc : CL[b]? = some (Cn, T, N)) (hin : ∀ w ∈ u_ws Cn T N, w ∈ WS)
    (hty : ∀ k, k < N → parseFieldDescriptor (T k).2.2.1 = some (CT b k)) (hcl : Cond.classLink own ix Cn ∈ WS) (hinst : Cond.instantiable Cn N ∈ WS) (hini : Cond.initialized Cn ∈ WS) (hr : R'.2.2.2.2.1 ≤ Rm.cells ∧ R'.2.2.2.2.2 ≤ Rm.slots)
    (hW : eW p l e Rm s m args below meth c Q D CL A roA nL ads0 R') : eW p l e Rm s m args below meth c Q D CL A roA nL ads0 R := by
  obtain ⟨hx, hb, hml, hown, hts, hA, hro, hlocks, hst⟩ := C
  obtain ⟨pc, ls0, st0, G, c0, s0⟩ := R
  simp only [e22, hc, Option.some.injEq] at h
  subst h
  intro H locs ws tys ls lv st hp hK hP hD hS hG hl hL hV
  simp only at hd hn hr ⊢
  subst hn
  refine va_new (D := D) (fs := (List.range N).map (fun j => defaultValue (CT b j))) hx hb hts hin (CT b) hty hown (hts _ hcl) (hts _ hinst) (hts _ hini) hK hP hD hS hA hc (fun j hj => ?_) hr.1 hr.2 hd (fun q H1 hP1 hD1 hS1 => ?_)
  · simp [vp_V, List.getD, hj]
  · refine hW H1 locs (ws ++ [(q, _)]) tys ls lv (.ref q :: st) (hp.trans ePre) hK hP1 hD1 hS1 ?_ hl (hL.mono ePre) ⟨⟨q, eLast hro hG.1, rfl⟩, hV.mono ePre⟩
    exact eHp_app (List.prefix_refl _) ePre hG ⟨rfl, fun k x y h1 h2 => by
      cases k with
      | zero => cases h1; cases h2; exact ⟨_, rfl, eVs_dflt _ _ _⟩
      | succ k => cases h1⟩
theorem w23 (C : eCx p s m args meth c WS RO SN A roA own cc nL) {nx b : Nat} (h : e23 RO nx b R = some R') (hd : decode cc R.1 = .ok (.newarray (eNwT b), 2)) (hn : nx = R.1 + 2) (hac : Cond.arrayClass (newarray.typeOf (eNwT b)) ∈ WS) (hr : R'.2.2.2.2.1 ≤ Rm.cells ∧ R'.2.2.2.2.2 ≤ Rm.slots)
    (hW : eW p l e Rm s m args below meth c Q D CL A roA nL ads0 R') : eW p l e Rm s m args below meth c Q D CL A roA nL ads0 R := by
  obtain ⟨hx, hb, hml, hown, hts, hA, hro, hlocks, hst⟩ := C
  unfold e23 at h
  split at h
  · rename_i pc ls0 x st0 G c0 s0
    split at h
    · cases h
    rename_i h0
    split at h
    · rename_i hN
      obtain ⟨y, hy, rfl⟩ := Option.map_eq_some_iff.mp h
      intro H locs ws tys ls lv st hp hK hP hD hS hG hl hL hV
      obtain ⟨r1, rfl, hV1⟩ := eVs_int hV
      simp only at hd hn hr ⊢
      subst hn
      have fin : ∀ (ty : FieldType) (z : eA) (z' : _), y = .inl (ty, x.toNatClampNeg, z) → (∀ ads, eAr ads x.toNatClampNeg z z') → ∀ (q : Nat) (cA : ClassId) (H1 : Heap), va_K D CL (tys ++ [(cA, ty)]) s → va_P D CL (ws ++ [(q, .inl (cA, x.toNatClampNeg, z'))]) H1 → va_D A (ws ++ [(q, .inl (cA, x.toNatClampNeg, z'))]) → va_S A s.heap H1 locs → W p l e Rm s m args below meth c H1 locs (c0 + 1) (s0 + x.toNatClampNeg) Q (F0 m (pc + 2) ls (.ref q :: r1)) := by
        intro ty z z' hyz hz q cA H1 hK1 hP1 hD1 hS1
        subst hyz
        refine hW H1 locs (ws ++ [(q, _)]) (tys ++ [(cA, ty)]) ls lv (.ref q :: r1) (hp.trans ePre) hK1 hP1 hD1 hS1 ?_ hl (hL.mono ePre) ⟨⟨q, eLast hro hG.1, rfl⟩, hV1.mono ePre⟩
        exact eHp_app ⟨_, rfl⟩ ePre hG ⟨rfl, fun k u v h1 h2 => by
          cases k with
          | zero => cases h1; cases h2; exact ⟨cA, tys.length, z', rfl, by simp, hz _⟩
          | succ k => cases h1⟩
      unfold eNewK at hy
      split at hy
      · subst b
        exact va_newa (ty := .int) hx hb (hts _ hac) rfl hK hP hD hS hA (a0 := (x.toNatClampNeg, .inl (fun _ => 0))) (fun _ => rfl) h0 rfl (by show _ * 4 ≤ _; omega) hr.1 hr.2 hd (fin .int (.inl (fun _ => 0)) _ (Option.some.inj hy).symm (fun _ => rfl))
      split at hy
      · subst b
        exact va_newa (ty := .byte) hx hb (hts _ hac) rfl hK hP hD hS hA (a0 := (x.toNatClampNeg, .inl (fun _ => 0))) (fun _ => rfl) h0 rfl (by show _ * 1 ≤ _; omega) hr.1 hr.2 hd (fin .byte (.inl (fun _ => 0)) _ (Option.some.inj hy).symm (fun _ => rfl))
      split at hy
      · subst b
        exact va_newa (ty := .short) hx hb (hts _ hac) rfl hK hP hD hS hA (a0 := (x.toNatClampNeg, .inl (fun _ => 0))) (fun _ => rfl) h0 rfl (by show _ * 2 ≤ _; omega) hr.1 hr.2 hd (fin .short (.inl (fun _ => 0)) _ (Option.some.inj hy).symm (fun _ => rfl))
      split at hy
      · subst b
        exact va_newa (ty := .long) hx hb (hts _ hac) rfl hK hP hD hS hA (a0 := (x.toNatClampNeg, .inr (.inl (fun _ => 0)))) (fun _ => rfl) h0 rfl (by show _ * 8 ≤ _; omega) hr.1 hr.2 hd (fin .long (.inr (.inl (fun _ => 0))) _ (Option.some.inj hy).symm (fun _ => rfl))
      · cases hy
    · cases h
  · cases h
theorem w24 (C : eCx p s m args meth c WS RO SN A roA own cc nL) {nx b ix : Nat} {k : vw_C} (h : e24 RO CL nx b R = some R') (hd : decode cc R.1 = .ok (.anewarray ix, 3)) (hn : nx = R.1 + 3) (hc : CL[b]? = some k) (hcl : Cond.classLink own ix k.1 ∈ WS) (hao : va_AO k.1 s) (hr : R'.2.2.2.2.1 ≤ Rm.cells ∧ R'.2.2.2.2.2 ≤ Rm.slots)
    (hW : eW p l e Rm s m args below meth c Q D CL A roA nL ads0 R') : eW p l e Rm s m args below meth c Q D CL A roA nL ads0 R := by
  obtain ⟨hx, hb, hml, hown, hts, hA, hro, hlocks, hst⟩ := C
  unfold e24 at h
  split at h
  · rename_i pc ls0 x st0 G c0 s0
    split at h
    · cases h
    rename_i h0
    split at h
    · rename_i hN
      simp only [hc, Option.some.injEq] at h
      subst h
      intro H locs ws tys ls lv st hp hK hP hD hS hG hl hL hV
      obtain ⟨r1, rfl, hV1⟩ := eVs_int hV
      simp only at hd hn hr ⊢
      subst hn
      refine va_newq hx hb hown (hts _ hcl) hao hK hP hD hS hA h0 rfl (by omega) hr.1 hr.2 hd (fun q cA H1 hK1 hP1 hD1 hS1 => ?_)
      refine hW H1 locs (ws ++ [(q, _)]) (tys ++ [(cA, .object k.1)]) ls lv (.ref q :: r1) (hp.trans ePre) hK1 hP1 hD1 hS1 ?_ hl (hL.mono ePre) ⟨⟨q, eLast hro hG.1, rfl⟩, hV1.mono ePre⟩
      exact eHp_app ⟨_, rfl⟩ ePre hG ⟨rfl, fun k u v h1 h2 => by
        cases k with
        | zero => cases h1; cases h2; exact ⟨cA, tys.length, _, rfl, by simp, _, rfl, fun _ _ => rfl⟩
        | succ k => cases h1⟩
    · cases h
  · cases h
theorem w26 (C : eCx p s m args meth c WS RO SN A roA own cc nL) {nx b : Nat} (h : e26 nx b R = some R') (hd : decode cc R.1 = .ok (if b = 0 then .dup else if b = 1 then .pop else if b = 3 then .pop2 else .dup2, 1)) (hn : nx = R.1 + 1)
    (hW : eW p l e Rm s m args below meth c Q D CL A roA nL ads0 R') : eW p l e Rm s m args below meth c Q D CL A roA nL ads0 R := by
  obtain ⟨hx, hb, -⟩ := C
  unfold e26 at h
  split at h
  · rename_i pc ls0 v st0 G c0 s0
    split at h
    · rename_i hcat
      intro H locs ws tys ls lv st hp hK hP hD hS hG hl hL hV
      obtain ⟨w, r0, rfl, hvw, hV0⟩ := eVs_cons hV
      have hwc : w.category = 1 := (eV_cat hvw).trans hcat
      simp only at hd hn ⊢
      subst hn
      split at h
      · subst b; cases h
        exact lv_dup hx hb hd hwc (hW H locs ws tys ls lv _ hp hK hP hD hS hG hl hL ⟨hvw, hvw, hV0⟩)
      split at h
      · subst b; cases h
        exact lv_pop hx hb hd hwc (hW H locs ws tys ls lv _ hp hK hP hD hS hG hl hL hV0)
      split at h
      · subst b
        split at h
        · rename_i u r
          split at h
          · rename_i hu
            cases h
            obtain ⟨w2, r1, rfl, huw, hV1⟩ := eVs_cons hV0
            exact lv_dup2_11 hx hb hd hwc ((eV_cat huw).trans hu) (hW H locs ws tys ls lv _ hp hK hP hD hS hG hl hL ⟨hvw, huw, hvw, huw, hV1⟩)
          · cases h
        · cases h
      · cases h
    · split at h
      · rename_i hc2
        obtain ⟨hcat, rfl⟩ := hc2
        cases h
        intro H locs ws tys ls lv st hp hK hP hD hS hG hl hL hV
        obtain ⟨w, r0, rfl, hvw, hV0⟩ := eVs_cons hV
        have hwc : w.category = 2 := (eV_cat hvw).trans hcat
        simp only at hd hn ⊢
        subst hn
        exact lv_pop2_2 hx hb hd hwc (hW H locs ws tys ls lv _ hp hK hP hD hS hG hl hL hV0)
      · cases h
  · cases h
theorem w30 (C : eCx p s m args meth c WS RO SN A roA own cc nL) {nx ix : Nat} (h : e30 nx R = some R') (hd : decode cc R.1 = .ok (.invokespecial ix, 3)) (hn : nx = R.1 + 3) (h1 : Cond.methodLink own ix objectInit ∈ WS) (h2 : Cond.instanceMethod objectInit ∈ WS) (h3 : Cond.code objectInit ⟨#[0xb1]⟩ 1 none ∈ WS) (hf : 1 ≤ Rm.frames) (hlo : 40 ≤ Rm.locals)
    (hW : eW p l e Rm s m args below meth c Q D CL A roA nL ads0 R') : eW p l e Rm s m args below meth c Q D CL A roA nL ads0 R := by
  obtain ⟨hx, hb, hml, hown, hts, hA, hro, hlocks, hst⟩ := C
  unfold e30 at h
  split at h
  · rename_i pc ls0 q st0 G c0 s0
    split at h
    · rename_i hc
      cases h
      intro H locs ws tys ls lv st hp hK hP hD hS hG hl hL hV
      obtain ⟨a, r1, rfl, ha, hV1⟩ := eVs_ref hV
      have kk := hW H locs ws tys ls lv r1 hp hK hP hD hS hG hl hL hV1
      simp only at hd hn kk ⊢
      subst hn
      refine W.objInit hx hb hown (hts _ h1) (hts _ h2) (hts _ h3) rfl (by rw [hml]; exact hl.1) rfl hd hf ?_ (W.eq (g2 := F0 m (pc + 3) ls r1) rfl kk)
      rw [eVs_cats hV1]
      show 2 * 0 + _ + 12 ≤ _
      omega
    · cases h
  · cases h
theorem eNat5 : nativeFrameWords "java/lang/System" "arraycopy" 5 + 11 ≤ 30 := by decide +kernel
theorem w31 (C : eCx p s m args meth c WS RO SN A roA own cc nL) {nx ix : Nat} (h : e31 RO nx R = some R') (hd : decode cc R.1 = .ok (.invokestatic ix, 3)) (hn : nx = R.1 + 3) (h1 : Cond.methodLink own ix arraycopyName ∈ WS) (h2 : Cond.native arraycopyName ∈ WS) (h3 : Cond.static arraycopyName ∈ WS) (h4 : Cond.initialized "java/lang/System" ∈ WS) (hf : 1 ≤ Rm.frames) (hlo : 40 ≤ Rm.locals)
    (hW : eW p l e Rm s m args below meth c Q D CL A roA nL ads0 R') : eW p l e Rm s m args below meth c Q D CL A roA nL ads0 R := by
  obtain ⟨hx, hb, hml, hown, hts, hA, hro, hlocks, hst⟩ := C
  have h5 := eNat5
  unfold e31 at h
  split at h
  · rename_i pc ls0 n dp kd sp ks st0 G c0 s0
    split at h
    · cases h
    rename_i hc
    simp only [not_or] at hc
    obtain ⟨hkd, hks, hn0, hdp, hsp, hcat⟩ := hc
    split at h
    · rename_i ty n0 f ty1 n1 g hg0 hg1
      split at h
      · rename_i hc2
        obtain ⟨rfl, rfl, hs1, hs2⟩ := hc2
        cases h
        intro H locs ws tys ls lv st hp hK hP hD hS hG hl hL hV
        obtain ⟨r0, rfl, hV0⟩ := eVs_int hV
        obtain ⟨r1, rfl, hV1⟩ := eVs_int hV0
        obtain ⟨ad, r2, rfl, had, hV2⟩ := eVs_ref hV1
        obtain ⟨r3, rfl, hV3⟩ := eVs_int hV2
        obtain ⟨as, r4, rfl, has, hV4⟩ := eVs_ref hV3
        obtain ⟨cA0, t0, he0, ht0⟩ := eArrI hro hG hks has hg0
        obtain ⟨cA1, t1, he1, ht1⟩ := eArrI hro hG hkd had hg1
        simp only at hd hn ⊢
        subst hn
        refine va_copyi hx hb (hml.trans hl.1.symm) hown (hts _ h1) (hts _ h2) (hts _ h3) (hts _ h4) hK hP hD hS (ks - RO.length) (kd - RO.length) t0 t1 he0 he1 ht0 ht1 rfl hsp hdp hn0 hs1 hs2 (fun _ _ => rfl) hf (by rw [eVs_cats hV4]; omega) hd (fun H1 locs1 hP1 hD1 hS1 => ?_)
        exact hW H1 locs1 _ tys ls lv r4 (by rw [eMapSet he1]; exact hp) hK hP1 hD1 hS1 (by rw [eMapSet he1]; exact eHp_set hG ⟨cA1, t1, _, rfl, ht1, rfl⟩) hl (by rw [eMapSet he1]; exact hL) (by rw [eMapSet he1]; exact hV4)
      · cases h
    · rename_i ty n0 f ty1 n1 g hg0 hg1
      split at h
      · rename_i hc2
        obtain ⟨rfl, rfl, hs1, hs2⟩ := hc2
        cases h
        intro H locs ws tys ls lv st hp hK hP hD hS hG hl hL hV
        obtain ⟨r0, rfl, hV0⟩ := eVs_int hV
        obtain ⟨r1, rfl, hV1⟩ := eVs_int hV0
        obtain ⟨ad, r2, rfl, had, hV2⟩ := eVs_ref hV1
        obtain ⟨r3, rfl, hV3⟩ := eVs_int hV2
        obtain ⟨as, r4, rfl, has, hV4⟩ := eVs_ref hV3
        obtain ⟨cA0, t0, he0, ht0⟩ := eArrL hro hG hks has hg0
        obtain ⟨cA1, t1, he1, ht1⟩ := eArrL hro hG hkd had hg1
        simp only at hd hn ⊢
        subst hn
        refine va_copyl hx hb (hml.trans hl.1.symm) hown (hts _ h1) (hts _ h2) (hts _ h3) (hts _ h4) hK hP hD hS (ks - RO.length) (kd - RO.length) t0 t1 he0 he1 ht0 ht1 rfl hsp hdp hn0 hs1 hs2 (fun _ _ => rfl) hf (by rw [eVs_cats hV4]; omega) hd (fun H1 locs1 hP1 hD1 hS1 => ?_)
        exact hW H1 locs1 _ tys ls lv r4 (by rw [eMapSet he1]; exact hp) hK hP1 hD1 hS1 (by rw [eMapSet he1]; exact eHp_set hG ⟨cA1, t1, _, rfl, ht1, rfl⟩) hl (by rw [eMapSet he1]; exact hL) (by rw [eMapSet he1]; exact hV4)
      · cases h
    · cases h
  · cases h
theorem w32 (C : eCx p s m args meth c WS RO SN A roA own cc nL) {nx b ix : Nat} (h : e32 nx b R = some R') (hd : decode cc R.1 = .ok (.invokestatic ix, 3)) (hn : nx = R.1 + 3) (h1 : Cond.methodLink own ix (if b = 0 then Lib.Math.max.name else Lib.Math.min.name) ∈ WS) (h2 : Cond.static (if b = 0 then Lib.Math.max.name else Lib.Math.min.name) ∈ WS) (h3 : Cond.initialized "java/lang/Math" ∈ WS)
    (h4 : Cond.code (if b = 0 then Lib.Math.max.name else Lib.Math.min.name) (if b = 0 then Lib.Math.max.code else Lib.Math.min.code) 2 (some .int) ∈ WS) (hf : 1 ≤ Rm.frames) (hlo : 40 ≤ Rm.locals) (hr : R'.2.2.2.2.1 ≤ Rm.cells ∧ R'.2.2.2.2.2 ≤ Rm.slots)
    (hW : eW p l e Rm s m args below meth c Q D CL A roA nL ads0 R') : eW p l e Rm s m args below meth c Q D CL A roA nL ads0 R := by
  obtain ⟨hx, hb, hml, hown, hts, hA, hro, hlocks, hst⟩ := C
  unfold e32 at h
  split at h
  · rename_i pc ls0 y x st0 G c0 s0
    split at h
    · cases h
    rename_i hc
    cases h
    intro H locs ws tys ls lv st hp hK hP hD hS hG hl hL hV
    obtain ⟨r1, rfl, hV1⟩ := eVs_int hV
    obtain ⟨r2, rfl, hV2⟩ := eVs_int hV1
    have kk := hW H locs ws tys ls lv (_ :: r2) hp hK hP hD hS hG hl hL ⟨rfl, hV2⟩
    simp only at hd hn hr kk ⊢
    subst hn
    by_cases b0 : b = 0
    · simp only [if_pos b0] at h1 h2 h4 kk
      exact va_mmax hx hb (hml.trans hl.1.symm) hown (hts _ h1) (hts _ h2) (hts _ h3) (hts _ h4) hf (by rw [eVs_cats hV2]; omega) hr.1 hr.2 hd kk
    · simp only [if_neg b0] at h1 h2 h4 kk
      exact va_mmin hx hb (hml.trans hl.1.symm) hown (hts _ h1) (hts _ h2) (hts _ h3) (hts _ h4) hf (by rw [eVs_cats hV2]; omega) hr.1 hr.2 hd kk
  · cases h
end EMORE
