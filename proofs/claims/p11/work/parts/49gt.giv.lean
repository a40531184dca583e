/-! The reference goes through the lines. -/
noncomputable section
section NLIN
variable {A W T E : Nat → Int32} {H : List eE} {d : List nLi}
theorem nLv_at : ∀ (d : List nLi) (c l : Nat) (L : nLi), d[l]? = some L → (nLv c d)[l]? = some (((c + (nAl (d.take l)).length + (L.1.getD []).length : Nat) : Int), ((c + (nAl (d.take l)).length + (L.1.getD []).length + L.2.length : Nat) : Int))
  | [], c, l, L, h => by simp at h
  | x :: r, c, 0, L, h => by
    simp only [List.getElem?_cons_zero, Option.some.injEq] at h
    subst h
    simp [nLv, nAl]
  | x :: r, c, l + 1, L, h => by
    rw [List.getElem?_cons_succ] at h
    have ih := nLv_at r (c + (x.1.getD []).length + x.2.length) l L h
    simp only [nLv, List.getElem?_cons_succ]
    rw [ih]
    have e : (nAl ((x :: r).take (l + 1))).length = (x.1.getD []).length + x.2.length + (nAl (r.take l)).length := by
      rw [List.take_succ_cons]
      unfold nAl
      rw [List.flatMap_cons, List.length_append, List.length_append]
    rw [e]
    simp only [Option.some.injEq, Prod.mk.injEq]
    constructor <;> omega
theorem nAg2_mid {c : Nat} {X p Y : List (Int × Int)} (h : nAg2 A W c (X ++ (p ++ Y))) : nAg2 A W (c + X.length) p := fun i x hx => by
  have hi : i < p.length := (List.getElem?_eq_some_iff.mp hx).1
  have h2 := h (X.length + i) x (by rw [List.getElem?_append_right (by omega), show X.length + i - X.length = i by omega, List.getElem?_append_left hi]; exact hx)
  rwa [← Nat.add_assoc] at h2
theorem nAl_mid {l : Nat} {L : nLi} (h : d[l]? = some L) : d.drop l = L :: d.drop (l + 1) ∧ nAl d = nAl (d.take l) ++ (L.1.getD [] ++ (L.2 ++ nAl (d.drop (l + 1)))) ∧ (nAl (d.take (l + 1))).length = (nAl (d.take l)).length + (L.1.getD []).length + L.2.length := by
  obtain ⟨hl, rfl⟩ := List.getElem?_eq_some_iff.mp h
  have h1 : d.drop l = d[l] :: d.drop (l + 1) := List.drop_eq_getElem_cons hl
  refine ⟨h1, ?_, ?_⟩
  · have h2 : nAl d = nAl (d.take l) ++ nAl (d.drop l) := by
      unfold nAl
      rw [← List.flatMap_append, List.take_append_drop]
    rw [h2, h1]
    unfold nAl
    rw [List.flatMap_cons, List.append_assoc]
  · rw [List.take_succ_eq_append_getElem hl, nAl_app, List.length_append, List.length_append]
    omega
/-- a line -/
theorem nLn_at (hL : nLaw d H) {l : Nat} (hl : l < d.length) : ∃ A W T E L, kAW A W H ∧ kTE T E H ∧ d[l]? = some L ∧ L ∈ d ∧ T l = Int32.ofInt (((nAl (d.take l)).length + (L.1.getD []).length : Nat) : Int) ∧ E l = Int32.ofInt (((nAl (d.take l)).length + (L.1.getD []).length + L.2.length : Nat) : Int)
    ∧ nSeg A W (nAl (d.take l)).length (L.1.getD []).length = L.1.getD [] ∧ nSeg A W ((nAl (d.take l)).length + (L.1.getD []).length) L.2.length = L.2 ∧ (nAl (d.take l)).length + (L.1.getD []).length + L.2.length ≤ 130 ∧ nHl L ∧ (∀ t, L.1 = some t → t ≠ []) := by
  obtain ⟨A, W, T, E, M, hAW, hTE, hM, g1, g2, g3, g4, g5, g6, g7⟩ := hL
  have hd : d[l]? = some d[l] := List.getElem?_eq_getElem hl
  have hm : d[l] ∈ d := List.getElem_mem hl
  obtain ⟨e1, e2, e3⟩ := nAl_mid hd
  have hv := g2 l _ (nLv_at d 0 l _ hd)
  rw [Nat.zero_add, Nat.zero_add] at hv
  rw [e2] at g1
  have a1 := nAg2_mid g1
  rw [show nAl (d.take l) ++ (d[l].1.getD [] ++ (d[l].2 ++ nAl (d.drop (l + 1)))) = (nAl (d.take l) ++ d[l].1.getD []) ++ (d[l].2 ++ nAl (d.drop (l + 1))) by rw [List.append_assoc]] at g1
  have a2 := nAg2_mid g1
  rw [Nat.zero_add] at a1 a2
  rw [List.length_append] at a2
  have hlen : (nAl d).length = (nAl (d.take l)).length + ((d[l].1.getD []).length + (d[l].2.length + (nAl (d.drop (l + 1))).length)) := by
    rw [e2, List.length_append, List.length_append, List.length_append]
  obtain ⟨o1, o2⟩ := g5 _ hm
  exact ⟨A, W, T, E, d[l], hAW, hTE, hd, hm, hv.1, hv.2, nSeg_ag a1 (fun x hx => nOkS_r (o1 x hx)), nSeg_ag a2 (fun x hx => nOkS_r (o2 x hx)), by omega, g7 _ hm, g6 _ hm⟩
/-- what is told of steps is their worth -/
theorem nVal_top {F : Int → Int32} {q : List nSp} (hh : nHt 0 q = some 1) {r : Int} (h : ∀ x, (nRun F q []).reverse[0]? = some x → x = Int32.ofInt r) : nVal F q = Int32.ofInt r := by
  have hlen : (nRun F q []).length = 1 := nRun_len (F := F) (q := q) (st := []) hh
  match hr : nRun F q [], hlen with
  | [x], _ =>
    rw [hr] at h
    have := h x rfl
    unfold nVal nTv
    rw [hr, ← this]
    rfl
end NLIN
def nGRq (γ : List kA) : Option (sL × sL × sL × sL) := match kFa γ 72 (fun q => match q with
    | [l, _] => (kFindEl γ 69 l).isSome
    | _ => false) with
  | some [l, f] => (match kFindEl γ 68 l, kFindEl γ 69 l with
    | some t, some e => some (l, f, t, e)
    | _, _ => none)
  | _ => none
def nWv (γ : List kA) (s e : sL) : Option sL := match kFa γ 71 (fun q => match q with
    | [a, b, _] => decide (a = s) && decide (b = e)
    | _ => false) with
  | some [_, _, r] => some r
  | _ => none
def nIn (Γ : sG) (G : List sE) (l t e : sL) : Bool := sI32 Γ.1 t && (sI32 Γ.1 e && (match kM0 G with
  | some m => sI32 Γ.1 m && sNN Γ (sSub (sSub m l) (sC 1))
  | none => false))
def nGI (K : kS) : Option nWs := match kFa K.2 62 (fun q => match q with
    | [_, h] => decide (sK K.1.2.2.2.2.2.2.1 h = some 1)
    | _ => false) with
  | some [_, _] => if kShb K.1.2.2.2.1 70 .int 6 = true then some (nOne [(72, [sC 0, sC 0])]) else none
  | _ => none
/-- a line whose first part comes to 0 -/
def nGN (K : kS) : Option nWs := match nGRq K.2 with
  | some (l, f, t, e) => (match nWv K.2 f t with
    | some u => if (nIn K.1.2.2.2.2.2.2 K.1.2.2.2.1 l t e && (nNt K.1.2.2.2.2.2.2 (sSub t f) 0 && nZ0 K.1.2.2.2.2.2.2 u)) = true then some (nOne [(72, [sAdd l (sC 1), e])]) else none
    | none => none)
  | none => none
def nGEc (Γ : sG) (γ : List kA) (t f : sL) : Bool := match nWv γ f t with
  | some u => sI32 Γ.1 u && (nNt Γ u 0 && nNt Γ (sSub t f) 0)
  | none => false
def nGE (K : kS) : Option nWs := match nGRq K.2, kTop K with
  | some (l, f, t, e), some r => if (nIn K.1.2.2.2.2.2.2 K.1.2.2.2.1 l t e && ((kEqf K.1.2.2.2.2.2.2 t f || nGEc K.1.2.2.2.2.2.2 K.2 t f) && decide (nWv K.2 t e = some r))) = true then some (nOne [(73, [r])]) else none
  | _, _ => none
def nGZ (K : kS) : Option nWs := match kFa K.2 72 (fun _ => true), kM0 K.1.2.2.2.1 with
  | some [l, _], some m => if (sI32 K.1.2.2.2.2.2.2.1 m && sNN K.1.2.2.2.2.2.2 (sSub l m)) = true then some (nOne [(73, [sC 0])]) else none
  | _, _ => none
section NGIV
variable {RO : List (Nat × (Nat → Int32))} {ρ : List Int} {Γ : sG} {γ : List kA} {H : List eE}
theorem nGI_ok : nRok RO nGI := by
  intro K ws h ρ R hD
  have hM := hD.1
  unfold nGI at h
  split at h
  · rename_i sz hl hlw
    split at h
    · rename_i hc
      cases h
      obtain ⟨p, zs, f1, f2⟩ := nFa_ok hD.2.2 hlw (by decide) (by decide)
      obtain ⟨z1, zh, rfl, e1, eh⟩ := sVal_2 f1
      have h1 := sK_ok hM.1 eh (of_decide_eq_true p)
      subst h1
      obtain ⟨F, hF⟩ := kSh1 hD.2.1.2.2.2.1 (by decide) rfl hc
      obtain ⟨a, b, he, hL⟩ : ∃ a b, [z1, 1] = [a, b] ∧ nLW a b R.2.2.2.1 := f2
      cases he
      have key : ∃ d, nLaw d R.2.2.2.1 := by
        rcases hL with ⟨C, hC, -, -, -, -, -, -, -, -, hL⟩ | hL
        · rcases hL with ⟨hL, -⟩ | ⟨-, d, hd, -⟩
          · omega
          · exact ⟨d, hd⟩
        · omega
      obtain ⟨d, hd⟩ := key
      have q0 := sEv_C (ρ := ρ) 0
      refine nOne_ok (fun q hq => ?_)
      rw [List.mem_singleton.mp hq]
      exact nAt1 (k := 72) (zs := [0, 0]) (by decide) (by decide) (by simp only [sVal, q0]) ⟨0, 0, rfl, d, F, hd, hF, by omega, by omega, rfl, rfl⟩
    · cases h
  · cases h
theorem nWv_ok (hg : kGh (kGP (kUP RO)) ρ γ H) {s e r : sL} {zs ze : Int} (es : sEv ρ s = some zs) (ee : sEv ρ e = some ze) (h : nWv γ s e = some r) : ∃ z, sEv ρ r = some z ∧ nWV zs ze z H := by
  unfold nWv at h
  split at h
  · rename_i a b r' hfa
    cases h
    obtain ⟨p, vs, f1, f2⟩ := nFa_ok hg hfa (by decide) (by decide)
    obtain ⟨x, y, z, rfl, q1, q2, q3⟩ := sVal_3 f1
    simp only [Bool.and_eq_true, decide_eq_true_eq] at p
    obtain ⟨rfl, rfl⟩ := p
    obtain ⟨a', b', c', he, hW⟩ : ∃ a b c, [x, y, z] = [a, b, c] ∧ nWV a b c H := f2
    cases he
    cases q1.symm.trans es
    cases q2.symm.trans ee
    exact ⟨_, q3, hW⟩
  · cases h
/-- the line that is looked at -/
theorem nGR_at {G : List sE} (hM : sMo ρ Γ) (hH : sHp ρ G H) (hg : kGh (kGP (kUP RO)) ρ γ H) {l f t e : sL} (h : nGRq γ = some (l, f, t, e)) (hi : nIn Γ G l t e = true) : ∃ zl zf zt ze, sEv ρ l = some zl ∧ sEv ρ f = some zf ∧ sEv ρ t = some zt ∧ sEv ρ e = some ze ∧ 0 ≤ zl ∧ ∃ d F L A W, nLaw d H ∧ nI2 H 70 6 F ∧ kAW A W H ∧ zl.toNat < d.length ∧ zf = ((nAl (d.take zl.toNat)).length : Int)
    ∧ nEv (fun w => F w.toNat) d = nEv (fun w => F w.toNat) (L :: d.drop (zl.toNat + 1)) ∧ zt = zf + ((L.1.getD []).length : Int) ∧ ze = zt + (L.2.length : Int) ∧ nSeg A W zf.toNat (zt - zf).toNat = L.1.getD [] ∧ nSeg A W zt.toNat (ze - zt).toNat = L.2 ∧ nHl L ∧ (∀ t, L.1 = some t → t ≠ []) ∧ ze = ((nAl (d.take (zl.toNat + 1))).length : Int) := by
  unfold nGRq at h
  split at h
  · rename_i l' f' hfa
    split at h
    · rename_i t' e' ht he
      cases h
      obtain ⟨-, vs, f1, f2⟩ := nFa_ok hg hfa (by decide) (by decide)
      obtain ⟨zl, zf, rfl, el, ef⟩ := sVal_2 f1
      obtain ⟨a, b, q, d, F, hd, hF, h0, h1, h2, h3⟩ : ∃ a b, [zl, zf] = [a, b] ∧ nGR a b H := f2
      cases q
      obtain ⟨zt, et, kt⟩ := kFindEl_ok hg ht el
      obtain ⟨ze, ee, ke⟩ := kFindEl_ok hg he el
      unfold nIn at hi
      simp only [Bool.and_eq_true] at hi
      obtain ⟨i1, i2, i3⟩ := hi
      split at i3
      · rename_i m hm
        simp only [Bool.and_eq_true] at i3
        obtain ⟨i3, i4⟩ := i3
        obtain ⟨M, zm, hLM, em, hM0⟩ := kM0_ok hH hm
        have r1 := sWi_ok hM.1 et i1
        have r2 := sWi_ok hM.1 ee i2
        have r3 := sWi_ok hM.1 em i3
        have h4 := sNN_ok hM (sEv_sub (sEv_sub em el) (sEv_C 1)) i4
        have hdl : (d.length : Int) = zm := by
          obtain ⟨-, -, -, -, M', -, -, hM', -, -, g3, -⟩ := hd
          have hu : M = M' := by
            unfold kLM at hLM hM'
            rw [hLM] at hM'
            cases hM'
            rfl
          subst hu
          rw [hM0, sTo32 r3.1 r3.2] at g3
          exact g3.symm
        have hlt : zl.toNat < d.length := by omega
        obtain ⟨A, W, T, E, L, hAW, hTE, hdl2, hmem, b1, b2, b3, b4, b5, b6, b7⟩ := nLn_at hd hlt
        have c1 := (kElA kt hTE.1).2
        have c2 := (kElA ke hTE.2).2
        rw [b1] at c1
        rw [b2] at c2
        have c1 := congrArg Int32.toInt c1
        have c2 := congrArg Int32.toInt c2
        rw [sTo32 (by omega) (by omega), sTo32 r1.1 r1.2] at c1
        rw [sTo32 (by omega) (by omega), sTo32 r2.1 r2.2] at c2
        obtain ⟨e1, e2, e3⟩ := nAl_mid hdl2
        refine ⟨zl, zf, zt, ze, el, ef, et, ee, h0, d, F, L, A, W, hd, hF, hAW, hlt, h2, by rw [h3, e1], by omega, by omega, ?_, ?_, b6, b7, by omega⟩
        · rw [show zf.toNat = (nAl (d.take zl.toNat)).length by omega, show (zt - zf).toNat = (L.1.getD []).length by omega]
          exact b3
        · rw [show zt.toNat = (nAl (d.take zl.toNat)).length + (L.1.getD []).length by omega, show (ze - zt).toNat = L.2.length by omega]
          exact b4
      · cases i3
    · cases h
  · cases h
/-- what is told of a part of a line -/
theorem nWV_val {A W F : Nat → Int32} (hAW : kAW A W H) (hF : nI2 H 70 6 F) {s e r : Int} (h : nWV s e r H) {q : List nSp} (hq : nSeg A W s.toNat (e - s).toNat = q) (hh : nHt 0 q = some 1) : nVal (fun w => F w.toNat) q = Int32.ofInt r := by
  obtain ⟨A', W', F', a, b, -, -, c⟩ := h
  obtain ⟨rfl, rfl⟩ := kAW_u hAW a
  have hu : F = F' := by
    unfold nI2 at hF b
    rw [hF] at b
    cases b
    rfl
  subst hu
  rw [hq] at c
  exact nVal_top hh c
theorem nGN_ok : nRok RO nGN := by
  intro K ws h ρ R hD
  have hM := hD.1
  unfold nGN at h
  split at h
  · rename_i l f t e hq
    split at h
    · rename_i u hu
      split at h
      · rename_i hc
        cases h
        simp only [Bool.and_eq_true] at hc
        obtain ⟨c1, c2, c3⟩ := hc
        obtain ⟨zl, zf, zt, ze, el, ef, et, ee, h0, d, F, L, A, W, hd, hF, hAW, g1, g2, g3, g4, g5, g6, g7, g8, g9, g10⟩ := nGR_at hM hD.2.1.2.2.2.1 hD.2.2 hq c1
        have hne := nNt_ok hM (sEv_sub et ef) c2
        obtain ⟨zu, eu, hW⟩ := nWv_ok hD.2.2 ef et hu
        have hu0 := nZ0_ok hM eu c3
        subst hu0
        have el1 := sEv_add el (sEv_C (ρ := ρ) 1)
        refine nOne_ok (fun q hq => ?_)
        rw [List.mem_singleton.mp hq]
        refine nAt1 (k := 72) (zs := [zl + 1, ze]) (by decide) (by decide) (by simp only [sVal, el1, ee]) ⟨zl + 1, ze, rfl, d, F, hd, hF, by omega, by omega, ?_, ?_⟩
        · rw [show (zl + 1).toNat = zl.toNat + 1 by omega]
          exact g10
        · rw [g3, show (zl + 1).toNat = zl.toNat + 1 by omega]
          obtain ⟨L1, L2⟩ := L
          cases L1 with
          | none =>
            simp only [Option.getD_none, List.length_nil] at g4
            omega
          | some tt =>
            have hv := nWV_val hAW hF hW (q := tt) (by simpa using g6) (g8.2 tt rfl)
            show (if nVal _ tt ≠ 0 then _ else _) = _
            rw [if_neg (by rw [hv]; simp)]
      · cases h
    · cases h
  · cases h
theorem nGE_ok : nRok RO nGE := by
  intro K ws h ρ R hD
  have hM := hD.1
  unfold nGE at h
  split at h
  · rename_i l f t e r hq hr
    split at h
    · rename_i hc
      cases h
      simp only [Bool.and_eq_true, Bool.or_eq_true, decide_eq_true_eq] at hc
      obtain ⟨c1, c2, c3⟩ := hc
      obtain ⟨zl, zf, zt, ze, el, ef, et, ee, h0, d, F, L, A, W, hd, hF, hAW, g1, g2, g3, g4, g5, g6, g7, g8, g9, g10⟩ := nGR_at hM hD.2.1.2.2.2.1 hD.2.2 hq c1
      obtain ⟨zr, er, hW⟩ := nWv_ok hD.2.2 et ee c3
      refine nOne_ok (fun q hq => ?_)
      rw [List.mem_singleton.mp hq]
      refine nAt1 (k := 73) (zs := [zr]) (by decide) (by decide) (by simp only [sVal, er]) ⟨zr, rfl, d, F, hd, hF, ?_⟩
      rw [g3]
      have hv := nWV_val hAW hF hW g7 g8.1
      obtain ⟨L1, L2⟩ := L
      cases L1 with
      | none => exact hv
      | some tt =>
        show (if nVal _ tt ≠ 0 then _ else _) = _
        rcases c2 with c2 | c2
        · have hz := kEqf_ok hM et ef c2
          subst hz
          exact absurd (List.eq_nil_of_length_eq_zero (by simp only [Option.getD_some] at g4; omega)) (g9 tt rfl)
        · unfold nGEc at c2
          split at c2
          · rename_i u hu
            simp only [Bool.and_eq_true] at c2
            obtain ⟨d1, d2, d3⟩ := c2
            obtain ⟨zu, eu, hW2⟩ := nWv_ok hD.2.2 ef et hu
            have ru := sWi_ok hM.1 eu d1
            have hv2 := nWV_val hAW hF hW2 (q := tt) (by simpa using g6) (g8.2 tt rfl)
            rw [if_pos (by rw [hv2]; exact fun q => nNt_ok hM eu d2 ((nI0 ru).mp q))]
            exact hv
          · cases c2
    · cases h
  · cases h
theorem nGZ_ok : nRok RO nGZ := by
  intro K ws h ρ R hD
  have hM := hD.1
  unfold nGZ at h
  split at h
  · rename_i l f m hfa hm
    split at h
    · rename_i hc
      cases h
      simp only [Bool.and_eq_true] at hc
      obtain ⟨c1, c2⟩ := hc
      obtain ⟨-, vs, f1, f2⟩ := nFa_ok hD.2.2 hfa (by decide) (by decide)
      obtain ⟨zl, zf, rfl, el, ef⟩ := sVal_2 f1
      obtain ⟨a, b, q, d, F, hd, hF, h0, h1, h2, h3⟩ : ∃ a b, [zl, zf] = [a, b] ∧ nGR a b R.2.2.2.1 := f2
      cases q
      obtain ⟨M, zm, hLM, em, hM0⟩ := kM0_ok hD.2.1.2.2.2.1 hm
      have r3 := sWi_ok hM.1 em c1
      have h4 := sNN_ok hM (sEv_sub el em) c2
      have hdl : (d.length : Int) = zm := by
        have hd' := hd
        obtain ⟨-, -, -, -, M', -, -, hM', -, -, g3, -⟩ := hd'
        have hu : M = M' := by
          unfold kLM at hLM hM'
          rw [hLM] at hM'
          cases hM'
          rfl
        subst hu
        rw [hM0, sTo32 r3.1 r3.2] at g3
        exact g3.symm
      refine nOne_ok (fun q hq => ?_)
      rw [List.mem_singleton.mp hq]
      have q0 := sEv_C (ρ := ρ) 0
      refine nAt1 (k := 73) (zs := [0]) (by decide) (by decide) (by simp only [sVal, q0]) ⟨0, rfl, d, F, hd, hF, ?_⟩
      rw [h3, List.drop_eq_nil_of_le (by omega)]
      rfl
    · cases h
  · cases h
end NGIV
end
