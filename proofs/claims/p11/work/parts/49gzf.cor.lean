/-! To which words there is no safe answer. -/
noncomputable section
def aWKi (K : kS) : Option kWs := match kLf K.1.2.1 1, kLf K.1.2.1 2, kLf K.1.2.1 3 with
  | some kk, some m, some w => if (decide (m = sC 0) && (decide (w = sC 0) && (aK54 K && !kHav K.2 128 [kk, sC 0, sC 0]))) = true then some [([(128, [kk, sC 0, sC 0])], [])] else none
  | _, _, _ => none
def aWKc (Γ : sG) (kk w x m m0 : sL) : Bool := if kEqf Γ x kk = true then (match aBn Γ 6 (sC 1) w with
    | some b => sWi Γ.1 w 0 31 && decide (aBn Γ 4 m0 b = some m)
    | none => false)
  else nNe Γ x kk && (decide (m = m0) || decide (aBn Γ 4 m0 (sC 0) = some m))
def aWKq (γ : List kA) (kk w : sL) : Option (List sL) := kFa γ 128 (fun fs => match fs with
  | [k', w', _] => decide (k' = kk) && decide (w' = w)
  | _ => false)
def aWKs (K : kS) : Option kWs := match kLf K.1.2.1 1, kLf K.1.2.1 2, kLf K.1.2.1 3 with
  | some kk, some m, some w => (match aWKq K.2 kk w, aKin K.1.2.2.2.2.2.2 K.2 w with
    | some [_, _, m0], some x => if aWKc K.1.2.2.2.2.2.2 kk w x m m0 = true then some [([(128, [kk, sAdd w (sC 1), m])], [])] else none
    | _, _ => none)
  | _, _, _ => none
def aWKe (K : kS) : Option kWs := match nFf K.1.2.2.2.1 1 1, kLf K.1.2.1 1, kTop K with
  | some n, some kk, some r => (match kFa K.2 128 (fun fs => match fs with
      | [k', _, m'] => decide (k' = kk) && decide (m' = r)
      | _ => false) with
    | some [_, w, _] => if kEqf K.1.2.2.2.2.2.2 w n = true then some [([(128, [kk, n, r])], [])] else none
    | _ => none)
  | _, _, _ => none
def aCCi (K : kS) : Option kWs := match aSid 0 0 0 K, kLf K.1.2.1 1, kLf K.1.2.1 2, kLf K.1.2.1 3 with
  | some (hl, bd, n), some one, some m, some k => if (decide (m = sC 0) && (decide (k = sC 0) && (sNN K.1.2.2.2.2.2.2 (sSub (sC 16) n) && (aK54 K && !kHav K.2 129 [hl, one, bd, n, sC 0, sC 0])))) = true then some [([(129, [hl, one, bd, n, sC 0, sC 0])], [])] else none
  | _, _, _, _ => none
def aCCq (γ : List kA) (hl one bd n k : sL) : Option (List sL) := kFa γ 129 (fun fs => match fs with
  | [h, o, d, n', k', _] => decide (h = hl) && (decide (o = one) && (decide (d = bd) && (decide (n' = n) && decide (k' = k))))
  | _ => false)
def aWKb (γ : List kA) (k n b : sL) : Option (List sL) := kFa γ 128 (fun fs => match fs with
  | [k', n', b'] => decide (k' = k) && (decide (n' = n) && decide (b' = b))
  | _ => false)
def aAYq (γ : List kA) (hl one k n bd : sL) : Option (List sL) := kFa γ 127 (fun fs => match fs with
  | [h, o, k', n', d, _] => decide (h = hl) && (decide (o = one) && (decide (k' = k) && (decide (n' = n) && decide (d = bd))))
  | _ => false)
def aCCc (Γ : sG) (γ : List kA) (hl one bd n k b m m0 : sL) : Bool := if sK Γ.1 b = some 0 then decide (m = m0) else (match aAYq γ hl one k n bd with
  | some [_, _, _, _, _, y] => (decide (sK Γ.1 y = some 1) && decide (m = m0)) || (decide (sK Γ.1 y = some 0) && decide (aBn Γ 4 m0 b = some m))
  | _ => false)
def aCCs (K : kS) : Option kWs := match aSid 0 0 0 K, kLf K.1.2.1 1, kLf K.1.2.1 2, kLf K.1.2.1 3, kLf K.1.2.1 4 with
  | some (hl, bd, n), some one, some m, some k, some b => (match aCCq K.2 hl one bd n k, aWKb K.2 k n b with
    | some [_, _, _, _, _, m0], some _ => if aCCc K.1.2.2.2.2.2.2 K.2 hl one bd n k b m m0 = true then some [([(129, [hl, one, bd, n, sAdd k (sC 1), m])], [])] else none
    | _, _ => none)
  | _, _, _, _, _ => none
/-- the class' KINS are within bounds -/
def aK07 (G : List sE) (j : Nat) : Bool := match G[j]? with
  | some (.inl (ty, n, b, ov)) => decide (ty = .int) && (decide (n = 16) && (decide (0 ≤ b.1) && (decide (b.2 ≤ 7) && ov.isEmpty)))
  | _ => false
def aCCe (K : kS) : Option kWs := match aSid 0 0 0 K, kLf K.1.2.1 1, kTop K with
  | some (hl, bd, n), some one, some r => (match kFa K.2 129 (fun fs => match fs with
      | [h, o, d, n', _, m] => decide (h = hl) && (decide (o = one) && (decide (d = bd) && (decide (n' = n) && decide (m = r))))
      | _ => false) with
    | some [_, _, _, _, k, _] => if (sNN K.1.2.2.2.2.2.2 (sSub k (sC 8)) && (aK07 K.1.2.2.2.1 4 && kHav K.2 76 [sC (-1)])) = true then some [([(131, [hl, one, bd, n, r])], [])] else none
    | _ => none)
  | _, _, _ => none
def aCRi (zh zw : Nat) (K : kS) : Option kWs := match aSid 1 zh zw K, kLf K.1.2.1 1, kLf K.1.2.1 2, kLf K.1.2.1 3 with
  | some (hl, bd, n), some one, some m, some w => if (decide (m = sC 0) && (decide (w = sC 0) && (aK54 K && !kHav K.2 130 [hl, one, bd, n, sC 0, sC 0]))) = true then some [([(130, [hl, one, bd, n, sC 0, sC 0])], [])] else none
  | _, _, _, _ => none
def aRDk (i : Nat) (K : kS) : Option nWs := match kLf K.1.2.1 i with
  | some w => if ((kFindEl K.2 54 w).isNone && ((sNN K.1.2.2.2.2.2.2 w && sNN K.1.2.2.2.2.2.2 (sSub (sC 15) w)) && kShb K.1.2.2.2.1 54 .int 16)) = true then some [(some (-2147483648, 2147483647), [(1054, [w, sX K.1.2.2.2.2.2.2.1.length])], [])] else none
  | none => none
def aCRq (γ : List kA) (hl one bd n w : sL) : Option (List sL) := kFa γ 130 (fun fs => match fs with
  | [h, o, d, n', w', _] => decide (h = hl) && (decide (o = one) && (decide (d = bd) && (decide (n' = n) && decide (w' = w))))
  | _ => false)
def aCRb (Γ : sG) (w m m0 : sL) : Bool := match aBn Γ 6 (sC 1) w with
  | some b => sWi Γ.1 w 0 31 && decide (aBn Γ 4 m0 b = some m)
  | none => false
def aCRt (Γ : sG) (hl one bd n kk w m m0 : sL) (q : kA) : Bool := decide (q.1 = 127) && (match q.2 with
  | [h, o, k', n', d, y] => decide (h = hl) && (decide (o = one) && (decide (k' = kk) && (decide (n' = n) && (decide (d = bd) && ((decide (sK Γ.1 y = some 1) && decide (m = m0)) || (decide (sK Γ.1 y = some 0) && aCRb Γ w m m0))))))
  | _ => false)
def aCRs (zh zw : Nat) (K : kS) : Option kWs := match aSid 1 zh zw K, kLf K.1.2.1 1, kLf K.1.2.1 2, kLf K.1.2.1 3 with
  | some (hl, bd, n), some one, some m, some w => (match aKin K.1.2.2.2.2.2.2 K.2 w, aCRq K.2 hl one bd n w with
    | some kk, some [_, _, _, _, _, m0] => if K.2.any (aCRt K.1.2.2.2.2.2.2 hl one bd n kk w m m0) = true then some [([(130, [hl, one, bd, n, sAdd w (sC 1), m])], [])] else none
    | _, _ => none)
  | _, _, _, _ => none
def aCRe (zh zw : Nat) (K : kS) : Option kWs := match aSid 1 zh zw K, kLf K.1.2.1 1, kTop K with
  | some (hl, bd, n), some one, some r => (match kFa K.2 130 (fun fs => match fs with
      | [h, o, d, n', _, m] => decide (h = hl) && (decide (o = one) && (decide (d = bd) && (decide (n' = n) && decide (m = r))))
      | _ => false) with
    | some [_, _, _, _, w, _] => if kEqf K.1.2.2.2.2.2.2 w n = true then some [([(131, [hl, one, bd, n, r])], [])] else none
    | _ => none)
  | _, _, _ => none
section ACRN
variable {RO : List (Nat × (Nat → Int32))} {ρ : List Int} {Γ : sG} {γ : List kA} {H : List eE}
theorem aWKi_ok : kRok RO aWKi := by
  intro K ws h ρ R hD
  unfold aWKi at h
  split at h
  · rename_i kk m w hkk hm hw
    split at h
    · rename_i hc
      cases h
      simp only [Bool.and_eq_true, decide_eq_true_eq] at hc
      obtain ⟨fk, hF⟩ := aK54_ok hD hc.2.2.1
      obtain ⟨zk, ek⟩ := kLf_ok hD.2.1 hkk
      exact ⟨_, List.mem_singleton.mpr rfl, aAt (fk := fk) (zs := [zk, 0, 0]) (by decide) (by decide) (by simp only [sVal, ek, sEv_C]) hF ⟨Int.le_refl _, rfl⟩, fun b hb => by cases hb⟩
    · cases h
  · cases h
theorem aWKs_ok : kRok RO aWKs := by
  intro K ws h ρ R hD
  have hM := hD.1
  unfold aWKs at h
  split at h
  · rename_i kk m w hkk hm hw
    split at h
    · rename_i z1 z2 m0 x hfa hx
      split at h
      · rename_i hc
        cases h
        obtain ⟨p, zs, fk, e1, hF, hP⟩ := aFa hD.2.2 hfa (by decide) (by decide)
        simp only [Bool.and_eq_true, decide_eq_true_eq] at p
        obtain ⟨rfl, rfl⟩ := p
        obtain ⟨y1, y2, y3, rfl, f1, f2, f3⟩ := sVal_3 e1
        obtain ⟨h0, hv⟩ : 0 ≤ y2 ∧ y3 = aWk fk y1 y2.toNat := hP
        obtain ⟨-, ex⟩ := aKin_ok hM hD.2.2 hF f2 hx
        have e2 := sEv_add f2 (sEv_C (ρ := ρ) 1)
        have fin : ∀ {zm : Int}, sEv ρ m = some zm → zm = (if (fk y2.toNat).toInt = y1 then sOp 4 (aWk fk y1 y2.toNat) (sOp 6 1 ((y2.toNat : Nat) : Int)) else aWk fk y1 y2.toNat) → ∃ p ∈ [(([(128, [z1, sAdd z2 (sC 1), m])], []) : List kA × List (sL × Int × Int))], kGh (kGP (kUP RO)) ρ p.1 R.2.2.2.1 ∧ ∀ b ∈ p.2, ∃ z, sEv ρ b.1 = some z ∧ b.2.1 ≤ z ∧ z ≤ b.2.2 := fun {zm} em q => by
          refine ⟨_, List.mem_singleton.mpr rfl, aAt (fk := fk) (zs := [y1, y2 + 1, zm]) (by decide) (by decide) (by simp only [sVal, f1, e2, em]) hF ⟨by omega, ?_⟩, fun b hb => by cases hb⟩
          rw [show (y2 + 1).toNat = y2.toNat + 1 by omega]
          exact q
        unfold aWKc at hc
        split at hc
        · rename_i he
          have q := kEqf_ok hM ex f1 he
          split at hc
          · rename_i b hb
            rw [Bool.and_eq_true] at hc
            have eb := aBn_ok hM (sEv_C 1) f2 hb
            have em := aBn_ok hM f3 eb (of_decide_eq_true hc.2)
            exact fin em (by rw [if_pos q, Int.toNat_of_nonneg h0, hv])
          · cases hc
        · rw [Bool.and_eq_true] at hc
          have q := nNe_ok hM ex f1 hc.1
          rcases Bool.or_eq_true_iff.mp hc.2 with c | c
          · have c := of_decide_eq_true c
            subst c
            exact fin f3 (by rw [if_neg q]; exact hv)
          · have em := aBn_ok hM f3 (sEv_C 0) (of_decide_eq_true c)
            exact fin em (by rw [if_neg q, hv]; exact aOr0 (aWk_can _ _ _))
      · cases h
    · cases h
  · cases h
theorem aWKe_ok : kRok RO aWKe := by
  intro K ws h ρ R hD
  have hM := hD.1
  unfold aWKe at h
  split at h
  · rename_i n kk r hn hkk hr
    split at h
    · rename_i z1 w z3 hfa
      split at h
      · rename_i hc
        cases h
        obtain ⟨p, zs, fk, e1, hF, hP⟩ := aFa hD.2.2 hfa (by decide) (by decide)
        simp only [Bool.and_eq_true, decide_eq_true_eq] at p
        obtain ⟨rfl, rfl⟩ := p
        obtain ⟨y1, y2, y3, rfl, f1, f2, f3⟩ := sVal_3 e1
        obtain ⟨zn, en⟩ := nFf_ok hD.2.1.2.2.2.1 hn
        have e := kEqf_ok hM f2 en hc
        rw [← e] at en
        exact ⟨_, List.mem_singleton.mpr rfl, aAt (fk := fk) (zs := [y1, y2, y3]) (by decide) (by decide) (by simp only [sVal, f1, en, f3]) hF hP, fun b hb => by cases hb⟩
      · cases h
    · cases h
  · cases h
theorem aCCi_ok : kRok RO aCCi := by
  intro K ws h ρ R hD
  have hM := hD.1
  unfold aCCi at h
  split at h
  · rename_i hl bd n one m k hs hone hm hk
    split at h
    · rename_i hc
      cases h
      simp only [Bool.and_eq_true, decide_eq_true_eq] at hc
      obtain ⟨fk, hF⟩ := aK54_ok hD hc.2.2.2.1
      obtain ⟨zl, zd, zn, el, ed, en⟩ := aSid_ok hD hs
      obtain ⟨zo, eo⟩ := kLf_ok hD.2.1 hone
      have hle := sNN_ok hM (sEv_sub (sEv_C 16) en) hc.2.2.1
      exact ⟨_, List.mem_singleton.mpr rfl, aAt (fk := fk) (zs := [zl, zo, zd, zn, 0, 0]) (by decide) (by decide) (by simp only [sVal, el, eo, ed, en, sEv_C]) hF (aCC_0 (by omega)), fun b hb => by cases hb⟩
    · cases h
  · cases h
theorem aCCs_ok : kRok RO aCCs := by
  intro K ws h ρ R hD
  have hM := hD.1
  unfold aCCs at h
  split at h
  · rename_i hl bd n one m k b hs hone hm hk hb
    split at h
    · rename_i z1 z2 z3 z4 z5 m0 zw hfa hwk
      split at h
      · rename_i hc
        cases h
        obtain ⟨p, zs, fk, e1, hF, hP⟩ := aFa hD.2.2 hfa (by decide) (by decide)
        simp only [Bool.and_eq_true, decide_eq_true_eq] at p
        obtain ⟨rfl, rfl, rfl, rfl, rfl⟩ := p
        obtain ⟨y1, y2, y3, y4, y5, y6, rfl, f1, f2, f3, f4, f5, f6⟩ := sVal_6 e1
        have hP : aCC (aGH R.2.2.2.1) fk y1 y2 y3 y4 y5 y6 := hP
        have eb : sEv ρ b = some (aWk fk y5 y4.toNat) := by
          obtain ⟨p, zs, fk', e7, hF', hW⟩ := aFa hD.2.2 hwk (by decide) (by decide)
          cases nI2_one hF hF'
          split at p
          · simp only [Bool.and_eq_true, decide_eq_true_eq] at p
            obtain ⟨rfl, rfl, rfl⟩ := p
            obtain ⟨u1, u2, u3, rfl, g1, g2, g3⟩ := sVal_3 e7
            obtain ⟨-, hv⟩ : 0 ≤ u2 ∧ u3 = aWk fk u1 u2.toNat := hW
            obtain rfl := Option.some.inj (g1.symm.trans f5)
            obtain rfl := Option.some.inj (g2.symm.trans f4)
            rw [g3, hv]
          · cases p
        have e5 := sEv_add f5 (sEv_C (ρ := ρ) 1)
        have fin : ∀ {zm : Int}, sEv ρ m = some zm → aCC (aGH R.2.2.2.1) fk y1 y2 y3 y4 (y5 + 1) zm → ∃ p ∈ [(([(129, [z1, z2, z3, z4, sAdd z5 (sC 1), m])], []) : List kA × List (sL × Int × Int))], kGh (kGP (kUP RO)) ρ p.1 R.2.2.2.1 ∧ ∀ b ∈ p.2, ∃ z, sEv ρ b.1 = some z ∧ b.2.1 ≤ z ∧ z ≤ b.2.2 := fun {zm} em q =>
          ⟨_, List.mem_singleton.mpr rfl, aAt (fk := fk) (zs := [y1, y2, y3, y4, y5 + 1, zm]) (by decide) (by decide) (by simp only [sVal, f1, f2, f3, f4, e5, em]) hF q, fun b hb => by cases hb⟩
        unfold aCCc at hc
        split at hc
        · rename_i h0
          have q := sK_ok hM.1 eb h0
          have hc := of_decide_eq_true hc
          subst hc
          exact fin f6 (aCC_skip hP q)
        · split at hc
          · rename_i q1 q2 q3 q4 q5 y hay
            obtain ⟨p, zs, fk', e7, hF', hY⟩ := aFa hD.2.2 hay (by decide) (by decide)
            cases nI2_one hF hF'
            simp only [Bool.and_eq_true, decide_eq_true_eq] at p
            obtain ⟨rfl, rfl, rfl, rfl, rfl⟩ := p
            obtain ⟨u1, u2, u3, u4, u5, u6, rfl, g1, g2, g3, g4, g5, g6⟩ := sVal_6 e7
            obtain rfl := Option.some.inj (g1.symm.trans f1)
            obtain rfl := Option.some.inj (g2.symm.trans f2)
            obtain rfl := Option.some.inj (g3.symm.trans f5)
            obtain rfl := Option.some.inj (g4.symm.trans f4)
            obtain rfl := Option.some.inj (g5.symm.trans f3)
            have hY : aAY (aGH R.2.2.2.1) fk u1 u2 u3 u4 u5 u6 := hY
            simp only [Bool.or_eq_true, Bool.and_eq_true, decide_eq_true_eq] at hc
            rcases hc with ⟨c1, rfl⟩ | ⟨c1, c2⟩
            · have e := sK_ok hM.1 g6 c1
              rw [e] at hY
              exact fin f6 (aCC_yes aGHf hP hY)
            · have e := sK_ok hM.1 g6 c1
              rw [e] at hY
              exact fin (aBn_ok hM f6 eb c2) (aCC_no hP hY)
          · cases hc
      · cases h
    · cases h
  · cases h
theorem aK07_ok {G : List sE} (hH : sHp ρ G H) {j : Nat} (h : aK07 G j = true) {f : Nat → Int32} {n : Nat} (hf : nI2 H j n f) : ∀ i, i < 16 → 0 ≤ (f i).toInt ∧ (f i).toInt ≤ 7 := by
  unfold aK07 at h
  split at h
  · rename_i ty m b ov hg
    simp only [Bool.and_eq_true, decide_eq_true_eq] at h
    obtain ⟨rfl, rfl, h1, h2, h3⟩ := h
    obtain ⟨y, hy, hxy⟩ := sHp_get hH hg
    have hf : H[j]? = some (.inl (.int, n, .inl f)) := hf
    rw [hy] at hf
    cases hf
    obtain ⟨-, -, -, harr⟩ := hxy
    intro i hi
    have := harr i hi
    rw [List.isEmpty_iff.mp h3] at this
    have this : b.1 ≤ (f i).toInt ∧ (f i).toInt ≤ b.2 := this
    omega
  · cases h
theorem aCCe_ok : kRok RO aCCe := by
  intro K ws h ρ R hD
  have hM := hD.1
  unfold aCCe at h
  split at h
  · rename_i hl bd n one r hs hone hr
    split at h
    · rename_i z1 z2 z3 z4 k z6 hfa
      split at h
      · rename_i hc
        cases h
        simp only [Bool.and_eq_true] at hc
        obtain ⟨p, zs, fk, e1, hF, hP⟩ := aFa hD.2.2 hfa (by decide) (by decide)
        simp only [Bool.and_eq_true, decide_eq_true_eq] at p
        obtain ⟨rfl, rfl, rfl, rfl, rfl⟩ := p
        obtain ⟨y1, y2, y3, y4, y5, y6, rfl, f1, f2, f3, f4, f5, f6⟩ := sVal_6 e1
        have hP : aCC (aGH R.2.2.2.1) fk y1 y2 y3 y4 y5 y6 := hP
        have h8 := sNN_ok hM (sEv_sub f5 (sEv_C 8)) hc.1
        obtain ⟨f, g, k1, k2, k3⟩ := nHavNE (t := 1) (by decide) hD.2.2 hc.2.2
        have hk := aK07_ok hD.2.1.2.2.2.1 hc.2.1 k1
        have e : fk = g := nI2_one hF k2
        refine ⟨_, List.mem_singleton.mpr rfl, aAt (fk := fk) (zs := [y1, y2, y3, y4, y6]) (by decide) (by decide) (by simp only [sVal, f1, f2, f3, f4, f6]) hF (aCC_end hP (by omega) (fun i hi => ?_)), fun b hb => by cases hb⟩
        rw [e, ← k3 i (show i < nNn 1 from hi)]
        exact hk i hi
      · cases h
    · cases h
  · cases h
theorem aCRi_ok (zh zw : Nat) : kRok RO (aCRi zh zw) := by
  intro K ws h ρ R hD
  unfold aCRi at h
  split at h
  · rename_i hl bd n one m w hs hone hm hw
    split at h
    · rename_i hc
      cases h
      simp only [Bool.and_eq_true, decide_eq_true_eq] at hc
      obtain ⟨fk, hF⟩ := aK54_ok hD hc.2.2.1
      obtain ⟨zl, zd, zn, el, ed, en⟩ := aSid_ok hD hs
      obtain ⟨zo, eo⟩ := kLf_ok hD.2.1 hone
      exact ⟨_, List.mem_singleton.mpr rfl, aAt (fk := fk) (zs := [zl, zo, zd, zn, 0, 0]) (by decide) (by decide) (by simp only [sVal, el, eo, ed, en, sEv_C]) hF ⟨Int.le_refl _, aCB_0⟩, fun b hb => by cases hb⟩
    · cases h
  · cases h
theorem aRDk_ok (i : Nat) : nRok RO (aRDk i) := by
  intro K ws h ρ R hD
  have hM := hD.1
  unfold aRDk at h
  split at h
  · rename_i w hw
    split at h
    · rename_i hc
      cases h
      simp only [Bool.and_eq_true] at hc
      obtain ⟨-, ⟨c1, c2⟩, c3⟩ := hc
      obtain ⟨f, hf⟩ := kSh1 hD.2.1.2.2.2.1 (by decide) rfl c3
      obtain ⟨zw, ew⟩ := kLf_ok hD.2.1 hw
      have h1 := sNN_ok hM ew c1
      have hpre : ρ <+: ρ ++ [(f zw.toNat).toInt] := ⟨_, rfl⟩
      have hlen : K.1.2.2.2.2.2.2.1.length = ρ.length := hD.1.1.1
      have ex : sEv (ρ ++ [(f zw.toNat).toInt]) (sX K.1.2.2.2.2.2.2.1.length) = some (f zw.toNat).toInt := sEv_X (by rw [hlen]; simp)
      have w' := sEv_mono hpre ew
      refine ⟨_, List.mem_singleton.mpr rfl, [(f zw.toNat).toInt], ⟨_, rfl, (f zw.toNat).le_toInt, (f zw.toNat).toInt_le⟩, ?_, fun b hb => by cases hb⟩
      intro a ha
      obtain rfl := List.mem_singleton.mp ha
      refine ⟨[zw, (f zw.toNat).toInt], by simp only [sVal, w', ex], ?_⟩
      have hg : kGP (kUP RO) 1054 [zw, (f zw.toNat).toInt] R.2.2.2.1 = kEl 54 zw (f zw.toNat).toInt R.2.2.2.1 := by
        unfold kGP
        rw [if_pos (by decide)]
      rw [hg]
      exact ⟨.int, 16, .inl f, hf, h1, (Int32.ofInt_toInt _).symm⟩
    · cases h
  · cases h
theorem aCRs_ok (zh zw : Nat) : kRok RO (aCRs zh zw) := by
  intro K ws h ρ R hD
  have hM := hD.1
  unfold aCRs at h
  split at h
  · rename_i hl bd n one m w hs hone hm hw
    split at h
    · rename_i kk z1 z2 z3 z4 z5 m0 hkk hfa
      split at h
      · rename_i hc
        cases h
        obtain ⟨p, zs, fk, e1, hF, hP⟩ := aFa hD.2.2 hfa (by decide) (by decide)
        simp only [Bool.and_eq_true, decide_eq_true_eq] at p
        obtain ⟨rfl, rfl, rfl, rfl, rfl⟩ := p
        obtain ⟨y1, y2, y3, y4, y5, y6, rfl, f1, f2, f3, f4, f5, f6⟩ := sVal_6 e1
        obtain ⟨h0, hP⟩ : 0 ≤ y5 ∧ aCB (aGH R.2.2.2.1) fk y1 y2 y3 y4 y5.toNat y6 := hP
        obtain ⟨-, ek⟩ := aKin_ok hM hD.2.2 hF f5 hkk
        have e5 := sEv_add f5 (sEv_C (ρ := ρ) 1)
        have fin : ∀ {zm : Int}, sEv ρ m = some zm → aCB (aGH R.2.2.2.1) fk y1 y2 y3 y4 (y5.toNat + 1) zm → ∃ p ∈ [(([(130, [z1, z2, z3, z4, sAdd z5 (sC 1), m])], []) : List kA × List (sL × Int × Int))], kGh (kGP (kUP RO)) ρ p.1 R.2.2.2.1 ∧ ∀ b ∈ p.2, ∃ z, sEv ρ b.1 = some z ∧ b.2.1 ≤ z ∧ z ≤ b.2.2 := fun {zm} em q => by
          refine ⟨_, List.mem_singleton.mpr rfl, aAt (fk := fk) (zs := [y1, y2, y3, y4, y5 + 1, zm]) (by decide) (by decide) (by simp only [sVal, f1, f2, f3, f4, e5, em]) hF ⟨by omega, ?_⟩, fun b hb => by cases hb⟩
          rw [show (y5 + 1).toNat = y5.toNat + 1 by omega]
          exact q
        obtain ⟨⟨k, fs⟩, hq, hany⟩ := List.any_eq_true.mp hc
        clear hc
        have hc := hany
        clear hany
        unfold aCRt at hc
        simp only [Bool.and_eq_true, decide_eq_true_eq] at hc
        obtain ⟨rfl, hc⟩ := hc
        split at hc
        · rename_i q1 q2 q3 q4 q5 y
          simp only [Bool.and_eq_true, decide_eq_true_eq] at hc
          obtain ⟨rfl, rfl, rfl, rfl, rfl, hc⟩ := hc
          obtain ⟨zs, fk', e7, hF', hY⟩ := aOf hD.2.2 hq (by decide) (by decide)
          cases nI2_one hF hF'
          obtain ⟨u1, u2, u3, u4, u5, u6, rfl, g1, g2, g3, g4, g5, g6⟩ := sVal_6 e7
          obtain rfl := Option.some.inj (g1.symm.trans f1)
          obtain rfl := Option.some.inj (g2.symm.trans f2)
          obtain rfl := Option.some.inj (g3.symm.trans ek)
          obtain rfl := Option.some.inj (g4.symm.trans f4)
          obtain rfl := Option.some.inj (g5.symm.trans f3)
          have hY : aAY (aGH R.2.2.2.1) fk u1 u2 (fk y5.toNat).toInt u4 u5 u6 := hY
          simp only [Bool.or_eq_true, Bool.and_eq_true, decide_eq_true_eq] at hc
          rcases hc with ⟨c1, rfl⟩ | ⟨c1, c2⟩
          · have e := sK_ok hM.1 g6 c1
            rw [e] at hY
            exact fin f6 (aCB_yes aGHf hP hY)
          · have e := sK_ok hM.1 g6 c1
            rw [e] at hY
            unfold aCRb at c2
            split at c2
            · rename_i b hb
              rw [Bool.and_eq_true] at c2
              have hw := sWi_ok hM.1 f5 c2.1
              have eb := aBn_ok hM (sEv_C 1) f5 hb
              have em := aBn_ok hM f6 eb (of_decide_eq_true c2.2)
              have hn := aCB_no hP hY (by omega)
              rw [Int.toNat_of_nonneg h0] at hn
              exact fin em hn
            · cases c2
        · cases hc
      · cases h
    · cases h
  · cases h
theorem aCRe_ok (zh zw : Nat) : kRok RO (aCRe zh zw) := by
  intro K ws h ρ R hD
  have hM := hD.1
  unfold aCRe at h
  split at h
  · rename_i hl bd n one r hs hone hr
    split at h
    · rename_i z1 z2 z3 z4 w z6 hfa
      split at h
      · rename_i hc
        cases h
        obtain ⟨p, zs, fk, e1, hF, hP⟩ := aFa hD.2.2 hfa (by decide) (by decide)
        simp only [Bool.and_eq_true, decide_eq_true_eq] at p
        obtain ⟨rfl, rfl, rfl, rfl, rfl⟩ := p
        obtain ⟨y1, y2, y3, y4, y5, y6, rfl, f1, f2, f3, f4, f5, f6⟩ := sVal_6 e1
        obtain ⟨h0, hP⟩ : 0 ≤ y5 ∧ aCB (aGH R.2.2.2.1) fk y1 y2 y3 y4 y5.toNat y6 := hP
        have e := kEqf_ok hM f5 f4 hc
        rw [e] at hP
        exact ⟨_, List.mem_singleton.mpr rfl, aAt (fk := fk) (zs := [y1, y2, y3, y4, y6]) (by decide) (by decide) (by simp only [sVal, f1, f2, f3, f4, f6]) hF hP, fun b hb => by cases hb⟩
      · cases h
    · cases h
  · cases h
end ACRN
end
