/-! Instructions on the heap. -/
section EHEAP
variable {p : Program} {l : Launch} {e : Env} {Rm : Room} {s : State} {m : MethodId} {args : Array Value} {below : List Frame} {meth : Method} {c : Code} {Q : State → Prop}
variable {RO : List (Nat × (Nat → Int32))} {CL : List vw_C} {CT : Nat → Nat → FieldType} {WS : List Cond} {SN : List (String × String × String)} {D : va_G} {A : Nat → Prop} {roA : List Nat} {own : String} {cc : ByteArray} {nL : Nat} {ads0 : List Nat} {R R' : eR}
variable {tys : List (ClassId × FieldType)} {ws : va_W} {G : List eE} {q a n ci nr : Nat} {fs : List Value} {ty : FieldType}
theorem eObj (hn : roA.length = nr) (hG : eHp tys (roA ++ ws.map Prod.fst) G ws) (hq : ¬ q < nr) (ha : (roA ++ ws.map Prod.fst)[q]? = some a) (hg : G[q - nr]? = some (.inr (ci, fs))) : ∃ gs, ws[q - nr]? = some (a, .inr (ci, gs)) ∧ eVs (roA ++ ws.map Prod.fst) fs gs := by
  obtain ⟨⟨y1, y2⟩, hy, gs, h1, h2⟩ := eHp_at hG hg
  have e1 := eAt hn hq ha hy
  simp only at e1 h1
  subst e1; subst h1
  exact ⟨gs, hy, h2⟩
theorem eArrI {f : Nat → Int32} (hn : roA.length = nr) (hG : eHp tys (roA ++ ws.map Prod.fst) G ws) (hq : ¬ q < nr) (ha : (roA ++ ws.map Prod.fst)[q]? = some a) (hg : G[q - nr]? = some (.inl (ty, n, .inl f))) : ∃ (cA : ClassId) (t : Nat), ws[q - nr]? = some (a, .inl (cA, n, .inl f)) ∧ tys[t]? = some (cA, ty) := by
  obtain ⟨⟨y1, y2⟩, hy, cA, t, w, h1, h2, h3⟩ := eHp_at hG hg
  have e1 := eAt hn hq ha hy
  have h3 : w = .inl f := h3
  simp only at e1 h1
  subst e1; subst h1; subst h3
  exact ⟨cA, t, hy, h2⟩
theorem eArrL {f : Nat → Int64} (hn : roA.length = nr) (hG : eHp tys (roA ++ ws.map Prod.fst) G ws) (hq : ¬ q < nr) (ha : (roA ++ ws.map Prod.fst)[q]? = some a) (hg : G[q - nr]? = some (.inl (ty, n, .inr (.inl f)))) : ∃ (cA : ClassId) (t : Nat), ws[q - nr]? = some (a, .inl (cA, n, .inr (.inl f))) ∧ tys[t]? = some (cA, ty) := by
  obtain ⟨⟨y1, y2⟩, hy, cA, t, w, h1, h2, h3⟩ := eHp_at hG hg
  have e1 := eAt hn hq ha hy
  have h3 : w = .inr (.inl f) := h3
  simp only at e1 h1
  subst e1; subst h1; subst h3
  exact ⟨cA, t, hy, h2⟩
theorem eArrQ {f : Nat → Option Nat} (hn : roA.length = nr) (hG : eHp tys (roA ++ ws.map Prod.fst) G ws) (hq : ¬ q < nr) (ha : (roA ++ ws.map Prod.fst)[q]? = some a) (hg : G[q - nr]? = some (.inl (ty, n, .inr (.inr f)))) : ∃ (cA : ClassId) (t : Nat) (g : Nat → Option Nat), ws[q - nr]? = some (a, .inl (cA, n, .inr (.inr (.inr (.inr g))))) ∧ tys[t]? = some (cA, ty) ∧ ∀ i, i < n → eO (roA ++ ws.map Prod.fst) (f i) (g i) := by
  obtain ⟨⟨y1, y2⟩, hy, cA, t, w, h1, h2, g, h3, h4⟩ := eHp_at hG hg
  have e1 := eAt hn hq ha hy
  simp only at e1 h1
  subst e1; subst h1; subst h3
  exact ⟨cA, t, g, hy, h2, h4⟩
theorem eFit_ok {ads : List Nat} {v w : Value} (h : eFit ty v = true) (hv : eV ads v w) : narrow ty w = w ∧ fits ty w = true := by
  unfold eFit at h
  split at h
  · obtain ⟨a, -, rfl⟩ := hv
    split at h <;> first | exact ⟨rfl, rfl⟩ | cases h
  · cases hv
    split at h
    · exact ⟨rfl, rfl⟩
    · simp only [Bool.or_eq_true, decide_eq_true_eq] at h
      rcases h with rfl | rfl <;> exact ⟨by decide, by decide⟩
    · cases h
  · cases hv
    split at h <;> first | exact ⟨rfl, rfl⟩ | cases h
  · cases h
theorem eO_rf {ads : List Nat} {r t : Option Nat} (h : eO ads r t) : eV ads (eRf r) (va_rf t) := by
  cases r with
  | none =>
    have h : t = none := h
    subst h
    rfl
  | some k =>
    obtain ⟨a, h1, rfl⟩ := h
    exact ⟨a, h1, rfl⟩
theorem eV_dflt (ads : List Nat) (t : FieldType) : eV ads (defaultValue t) (defaultValue t) := by cases t <;> rfl
theorem eVs_dflt (ads : List Nat) (f : Nat → FieldType) : ∀ L : List Nat, eVs ads (L.map fun j => defaultValue (f j)) (L.map fun j => defaultValue (f j))
  | [] => trivial
  | j :: r => ⟨eV_dflt ads (f j), eVs_dflt ads f r⟩
theorem w16 (C : eCx p s m args meth c WS RO SN A roA own cc nL) {nx b k ix N : Nat} {Cn : String} {T : u_T} (h : e16 RO nx b k R = some R') (hd : decode cc R.1 = .ok (.getfield ix, 3)) (hn : nx = R.1 + 3) (hc : CL[b]? = some (Cn, T, N)) (hk : k < N) (hin : ∀ w ∈ u_ws Cn T N, w ∈ WS) (hlk : Cond.fieldLink own ix (T k).1 (T k).2.1 (T k).2.2.1 ∈ WS)
    (hW : eW p l e Rm s m args below meth c Q D CL A roA nL ads0 R') : eW p l e Rm s m args below meth c Q D CL A roA nL ads0 R := by
  obtain ⟨hx, hb, hml, hown, hts, hA, hro, hlocks, hst⟩ := C
  unfold e16 at h
  split at h
  · rename_i pc ls0 q st0 G c0 s0
    split at h
    · cases h
    rename_i hq
    split at h
    · rename_i ci fs hg
      split at h
      · rename_i hci
        subst hci
        obtain ⟨v, hv, rfl⟩ := Option.map_eq_some_iff.mp h
        intro H locs ws tys ls lv st hp hK hP hD hS hG hl hL hV
        obtain ⟨a, r1, rfl, ha, hV1⟩ := eVs_ref hV
        obtain ⟨gs, he, hgs⟩ := eObj hro hG hq ha hg
        obtain ⟨w, hw, hvw⟩ := eVs_get hgs hv
        have kk := hW H locs ws tys ls lv (w :: r1) hp hK hP hD hS hG hl hL ⟨hvw, hV1⟩
        simp only at hd hn kk ⊢
        subst hn
        exact va_get (D := D) hx hb hts hin hown hK hP (q - RO.length) he hc k hk (hts _ hlk) (fun _ h9 => h9) hw hd kk
      · cases h
    · cases h
  · cases h
theorem w17 (C : eCx p s m args meth c WS RO SN A roA own cc nL) {nx b k ix N : Nat} {Cn : String} {T : u_T} (h : e17 RO CT nx b k R = some R') (hd : decode cc R.1 = .ok (.putfield ix, 3)) (hn : nx = R.1 + 3) (hc : CL[b]? = some (Cn, T, N)) (hk : k < N) (hin : ∀ w ∈ u_ws Cn T N, w ∈ WS) (hlk : Cond.fieldLink own ix (T k).1 (T k).2.1 (T k).2.2.1 ∈ WS)
    (hty : ∀ k, k < N → parseFieldDescriptor (T k).2.2.1 = some (CT b k)) (hnm : ∀ a, a < N → ∀ b, b < N → a ≠ b → (T a).2.1 ≠ (T b).2.1) (hfin : (T k).2.2.2 = false ∨ ((T k).2.2.2 = true ∧ meth.name = "<init>" ∧ (T k).1 = own))
    (hW : eW p l e Rm s m args below meth c Q D CL A roA nL ads0 R') : eW p l e Rm s m args below meth c Q D CL A roA nL ads0 R := by
  obtain ⟨hx, hb, hml, hown, hts, hA, hro, hlocks, hst⟩ := C
  unfold e17 at h
  split at h
  · rename_i pc ls0 v q st0 G c0 s0
    split at h
    · cases h
    rename_i hq
    split at h
    · rename_i ci fs hg
      split at h
      · rename_i hci
        obtain ⟨hci, hkl, hfit⟩ := hci
        subst hci
        cases h
        intro H locs ws tys ls lv st hp hK hP hD hS hG hl hL hV
        obtain ⟨w, r0, rfl, hvw, hV0⟩ := eVs_cons hV
        obtain ⟨a, r1, rfl, ha, hV1⟩ := eVs_ref hV0
        obtain ⟨gs, he, hgs⟩ := eObj hro hG hq ha hg
        obtain ⟨f1, f2⟩ := eFit_ok hfit hvw
        have kk : ∀ (H1 : Heap) (locs1 : List Loc), va_P D CL (ws.set (q - RO.length) (a, .inr (ci, gs.set k w))) H1 → va_D A (ws.set (q - RO.length) (a, .inr (ci, gs.set k w))) → va_S A s.heap H1 locs1 → W p l e Rm s m args below meth c H1 locs1 c0 s0 Q (F0 m nx ls r1) := fun H1 locs1 hP1 hD1 hS1 =>
          hW H1 locs1 _ tys ls lv r1 (by rw [eMapSet he]; exact hp) hK hP1 hD1 hS1 (by rw [eMapSet he]; exact eHp_set hG ⟨_, rfl, eVs_set hvw k hgs⟩) hl (by rw [eMapSet he]; exact hL) (by rw [eMapSet he]; exact hV1)
        have hgl : k < gs.length := by rw [← eVs_len hgs]; exact hkl
        simp only at hd hn ⊢
        subst hn
        rcases hfin with hfin | ⟨hfin, hini, hdecl⟩
        · exact va_put (D := D) hx hb hts hin (CT ci) hty hnm hown hK hP hD hS (q - RO.length) he hc k hk (hts _ hlk) (fun _ h9 => h9) hfin (hty k hk) f1 f2 hgl hd kk
        · exact va_putF (D := D) hx hb hts hin (CT ci) hty hnm hown hK hP hD hS (q - RO.length) he hc k hk (hts _ hlk) (fun _ h9 => h9) hfin hini hdecl (hty k hk) f1 f2 hgl hd kk
      · cases h
    · cases h
  · cases h
theorem w18 (C : eCx p s m args meth c WS RO SN A roA own cc nL) {nx b ix : Nat} {r : Nat × (Nat → Int32)} {sn : String × String × String} (h : e18 nx b R = some R') (hd : decode cc R.1 = .ok (.getstatic ix, 3)) (hn : nx = R.1 + 3) (hr : RO[b]? = some r) (hs : SN[b]? = some sn) (hlk : Cond.fieldLink own ix sn.1 sn.2.1 sn.2.2 ∈ WS)
    (hW : eW p l e Rm s m args below meth c Q D CL A roA nL ads0 R') : eW p l e Rm s m args below meth c Q D CL A roA nL ads0 R := by
  obtain ⟨hx, hb, hml, hown, hts, hA, hro, hlocks, hst⟩ := C
  obtain ⟨pc, ls0, st0, G, c0, s0⟩ := R
  simp only [e18, Option.some.injEq] at h
  subst h
  obtain ⟨a, ha, -, hz⟩ := hst b r hr
  intro H locs ws tys ls lv st hp hK hP hD hS hG hl hL hV
  have ha2 : (roA ++ ws.map Prod.fst)[b]? = some a := by rw [List.getElem?_append_left (List.getElem?_eq_some_iff.mp ha).1]; exact ha
  have kk := hW H locs ws tys ls lv (.ref a :: st) hp hK hP hD hS hG hl hL ⟨⟨a, ha2, rfl⟩, hV⟩
  simp only at hd hn kk ⊢
  subst hn
  exact va_gets hx hb (hz sn hs) hS hown (hts _ hlk) (fun _ h9 => h9) hd kk
theorem w19 (C : eCx p s m args meth c WS RO SN A roA own cc nL) {nx b : Nat} (h : e19 RO nx b R = some R') (hd : decode cc R.1 = .ok (eAlI b, 1)) (hn : nx = R.1 + 1)
    (hW : eW p l e Rm s m args below meth c Q D CL A roA nL ads0 R') : eW p l e Rm s m args below meth c Q D CL A roA nL ads0 R := by
  obtain ⟨hx, hb, hml, hown, hts, hA, hro, hlocks, hst⟩ := C
  unfold e19 at h
  split at h
  · rename_i pc ls0 i q st0 G c0 s0
    split at h
    · rename_i hq
      split at h
      · rename_i n f hr
        split at h
        · rename_i hc
          obtain ⟨rfl, hin⟩ := hc
          cases h
          obtain ⟨a, ha, hT, -⟩ := hst q _ hr
          intro H locs ws tys ls lv st hp hK hP hD hS hG hl hL hV
          obtain ⟨r0, rfl, hV0⟩ := eVs_int hV
          obtain ⟨a1, r1, rfl, ha1, hV1⟩ := eVs_ref hV0
          have e1 : a1 = a := by
            have h9 := eAtR (by rw [hro]; exact hq) ha1
            exact Option.some.inj (h9.symm.trans ha)
          subst e1
          have kk := hW H locs ws tys ls lv (_ :: r1) hp hK hP hD hS hG hl hL ⟨rfl, hV1⟩
          simp only at hd hn kk ⊢
          subst hn
          exact va_ti hx hb hT hS (eIn_of hin) rfl hd kk
        · cases h
      · cases h
    · rename_i hq
      split at h
      · rename_i ty n f hg
        split at h
        · rename_i hc
          obtain ⟨hc, hin⟩ := hc
          cases h
          intro H locs ws tys ls lv st hp hK hP hD hS hG hl hL hV
          obtain ⟨r0, rfl, hV0⟩ := eVs_int hV
          obtain ⟨a, r1, rfl, ha, hV1⟩ := eVs_ref hV0
          obtain ⟨cA, t, he, ht⟩ := eArrI hro hG hq ha hg
          have kk := hW H locs ws tys ls lv (_ :: r1) hp hK hP hD hS hG hl hL ⟨rfl, hV1⟩
          simp only at hd hn kk ⊢
          subst hn
          rcases hc with ⟨rfl, rfl⟩ | ⟨rfl, rfl⟩ | ⟨rfl, rfl⟩
          · exact va_iald hx hb hK hP (q - RO.length) t he ht (eIn_of hin) hd kk
          · exact va_bald hx hb hK hP (q - RO.length) t he ht (eIn_of hin) hd kk
          · exact va_sald hx hb hK hP (q - RO.length) t he ht (eIn_of hin) hd kk
        · cases h
      · rename_i ty n f hg
        split at h
        · rename_i hc
          obtain ⟨⟨rfl, rfl⟩, hin⟩ := hc
          cases h
          intro H locs ws tys ls lv st hp hK hP hD hS hG hl hL hV
          obtain ⟨r0, rfl, hV0⟩ := eVs_int hV
          obtain ⟨a, r1, rfl, ha, hV1⟩ := eVs_ref hV0
          obtain ⟨cA, t, he, ht⟩ := eArrL hro hG hq ha hg
          have kk := hW H locs ws tys ls lv (_ :: r1) hp hK hP hD hS hG hl hL ⟨rfl, hV1⟩
          simp only at hd hn kk ⊢
          subst hn
          exact va_lald hx hb hK hP (q - RO.length) t he ht (eIn_of hin) hd kk
        · cases h
      · rename_i ty n f hg
        split at h
        · rename_i hc
          obtain ⟨⟨rfl, hty⟩, hin⟩ := hc
          cases h
          intro H locs ws tys ls lv st hp hK hP hD hS hG hl hL hV
          obtain ⟨r0, rfl, hV0⟩ := eVs_int hV
          obtain ⟨a, r1, rfl, ha, hV1⟩ := eVs_ref hV0
          obtain ⟨cA, t, g, he, ht, hfg⟩ := eArrQ hro hG hq ha hg
          have hlt : i.toNatClampNeg < n := Nat.not_le.mp fun z => (eIn_of hin) (Or.inr z)
          have kk := hW H locs ws tys ls lv (va_rf (g i.toNatClampNeg) :: r1) hp hK hP hD hS hG hl hL ⟨eO_rf (hfg _ hlt), hV1⟩
          simp only at hd hn kk ⊢
          subst hn
          exact W.aald (v := va_rf (g i.toNatClampNeg)) (ty := ty) hx hb (hP (q - RO.length) _ he) ((hK.2 t _ ht).1 n (fun j => va_rf (g j))) hty (fun z => by cases z) (by show ¬ (i < 0 ∨ (arrV _ _ _).slots.size ≤ _); rw [arrV_size]; exact eIn_of hin) (by show (arrV _ _ _).slots[_]? = _; rw [arrV_read _ _ hlt]) rfl rfl hd kk
        · cases h
      · cases h
  · cases h
theorem w21 (C : eCx p s m args meth c WS RO SN A roA own cc nL) {nx : Nat} (h : e21 RO nx R = some R') (hd : decode cc R.1 = .ok (.arraylength, 1)) (hn : nx = R.1 + 1)
    (hW : eW p l e Rm s m args below meth c Q D CL A roA nL ads0 R') : eW p l e Rm s m args below meth c Q D CL A roA nL ads0 R := by
  obtain ⟨hx, hb, hml, hown, hts, hA, hro, hlocks, hst⟩ := C
  unfold e21 at h
  split at h
  · rename_i pc ls0 q st0 G c0 s0
    split at h
    · rename_i hq
      split at h
      · rename_i n f hr
        cases h
        obtain ⟨a, ha, hT, -⟩ := hst q _ hr
        intro H locs ws tys ls lv st hp hK hP hD hS hG hl hL hV
        obtain ⟨a1, r1, rfl, ha1, hV1⟩ := eVs_ref hV
        have e1 : a1 = a := by
          have h9 := eAtR (by rw [hro]; exact hq) ha1
          exact Option.some.inj (h9.symm.trans ha)
        subst e1
        have kk := hW H locs ws tys ls lv (_ :: r1) hp hK hP hD hS hG hl hL ⟨rfl, hV1⟩
        simp only at hd hn kk ⊢
        subst hn
        exact va_tlen hx hb hT hS rfl hd kk
      · cases h
    · rename_i hq
      split at h
      · rename_i ty n f hg
        cases h
        intro H locs ws tys ls lv st hp hK hP hD hS hG hl hL hV
        obtain ⟨a, r1, rfl, ha, hV1⟩ := eVs_ref hV
        have kk := hW H locs ws tys ls lv (_ :: r1) hp hK hP hD hS hG hl hL ⟨rfl, hV1⟩
        simp only at hd hn kk ⊢
        subst hn
        rcases f with f | f | f
        · obtain ⟨cA, t, he, ht⟩ := eArrI hro hG hq ha hg
          exact va_alen hx hb hK hP (q - RO.length) t he ht rfl hd kk
        · obtain ⟨cA, t, he, ht⟩ := eArrL hro hG hq ha hg
          exact va_alen hx hb hK hP (q - RO.length) t he ht rfl hd kk
        · obtain ⟨cA, t, g, he, ht, -⟩ := eArrQ hro hG hq ha hg
          exact va_alen hx hb hK hP (q - RO.length) t he ht rfl hd kk
      · cases h
  · cases h
end EHEAP
