/-! Behind which word a sentence is mentioned. -/
noncomputable section
/-- whether the open sum follows -/
def nFo (Γ : sG) (γ : List kA) (hl one j w a o o2 : sL) : Bool := match kFa γ 85 (fun fs => match fs with
    | [h, w', p, a', e, _] => decide (h = hl) && (decide (w' = w) && (decide (p = j) && (decide (a' = a) && decide (e = one))))
    | _ => false) with
  | some [h, w', p, a', e, r] => decide (h = hl) && (decide (w' = w) && (decide (p = j) && (decide (a' = a) && (decide (e = one) && ((decide (o2 = sAdd o r) && sNN Γ (sAdd o r)) || (decide (o2 = sC 0) && sNN Γ (sMul (-1) (sAdd o r))))))))
  | _ => false
def nPBi (zn zr : Nat) (K : kS) : Option kWs := match kFa K.2 86 (fun _ => true), kFa K.2 62 (fun _ => true), nFf K.1.2.2.2.1 24 zn, nFf K.1.2.2.2.1 24 zr with
  | some [b, _], some [_, hl], some nv, some o => (match kFa K.2 1057 (fun fs => match fs with
      | [_, v] => decide (v = nv)
      | _ => false), kFa K.2 110 (fun _ => true), kLf K.1.2.1 2, kLf K.1.2.1 1 with
    | some [one, _], none, some i, some bd => if (decide (i = sC 0) && (decide (o = sC 0) && sNN K.1.2.2.2.2.2.2 (sSub bd (sC 1)))) = true then some [([(110, [hl, b, one, bd, sC 0, sC 0])], [])] else none
    | _, _, _, _ => none)
  | _, _, _, _ => none
def nPBs (zr : Nat) (K : kS) : Option kWs := match kFa K.2 110 (fun _ => true), kLf K.1.2.1 2, nFf K.1.2.2.2.1 24 zr with
  | some [hl, b, one, bd, j, o], some i, some o2 => if i = sAdd j (sC 1) then (match nWds K.1.2.2.2.2.2.2 K.2 25 86 b j with
    | some (w, a) => if (nFo K.1.2.2.2.2.2.2 K.2 hl one j w a o o2 && sNN K.1.2.2.2.2.2.2 (sSub (sSub bd o2) (sC 1))) = true then some [([(110, [hl, b, one, bd, i, o2])], [])] else none
    | none => none) else none
  | _, _, _ => none
def nPBe (zr zl : Nat) (K : kS) : Option kWs := match kFa K.2 110 (fun _ => true), nFf K.1.2.2.2.1 24 zl, kTop K with
  | some [hl, b, one, bd, j, o], some n, some r => if r = sC (-2) then (if (sNN K.1.2.2.2.2.2.2 (sSub j n) && sNN K.1.2.2.2.2.2.2 (sSub n j)) = true then some [([(111, [hl, b, one, bd, n, r])], [])] else none)
    else (match nFf K.1.2.2.2.1 24 zr, nWds K.1.2.2.2.2.2.2 K.2 25 86 b j with
      | some o2, some (w, a) => if (decide (r = j) && (nFo K.1.2.2.2.2.2.2 K.2 hl one j w a o o2 && (sNN K.1.2.2.2.2.2.2 (sSub o2 bd) && sNN K.1.2.2.2.2.2.2 (sSub (sSub n r) (sC 1))))) = true then some [([(111, [hl, b, one, bd, n, r])], [])] else none
      | _, _ => none)
  | _, _, _ => none
def nPMi (zh : Nat) (K : kS) : Option kWs := match kFa K.2 87 (fun _ => true), nFf K.1.2.2.2.1 52 zh, kToldI K.1.2.2.2.1 59 2, kFa K.2 112 (fun _ => true), kLf K.1.2.1 2, kLf K.1.2.1 1 with
  | some [b, _], some hl, some bd, none, some k, some one => if (decide (k = sC 0) && sNN K.1.2.2.2.2.2.2 (sSub bd (sC 1))) = true then some [([(112, [hl, b, one, bd, sC 0])], [])] else none
  | _, _, _, _, _, _ => none
/-- how near so many words come, as it was worked out -/
def nNrq (γ : List kA) (hl b one n : sL) : Option sL := match kFa γ 89 (fun fs => match fs with
    | [h, b', o, n', _] => decide (h = hl) && (decide (b' = b) && (decide (o = one) && decide (n' = n)))
    | _ => false) with
  | some [h, b', o, n', m] => if h = hl ∧ b' = b ∧ o = one ∧ n' = n then some m else none
  | _ => none
def nPMs (K : kS) : Option kWs := match kFa K.2 112 (fun _ => true), kLf K.1.2.1 2 with
  | some [hl, b, one, bd, j], some k => (match nNrq K.2 hl b one (sAdd j (sC 1)) with
    | some m => if (decide (k = sAdd j (sC 1)) && sNN K.1.2.2.2.2.2.2 (sSub (sSub bd m) (sC 1))) = true then some [([(112, [hl, b, one, bd, k])], [])] else none
    | none => none)
  | _, _ => none
def nPMe (z1 : Nat) (K : kS) : Option kWs := match kFa K.2 112 (fun _ => true), nFf K.1.2.2.2.1 52 z1, kTop K with
  | some [hl, b, one, bd, j], some n, some r => if r = sC (-2) then (if (sNN K.1.2.2.2.2.2.2 (sSub j n) && sNN K.1.2.2.2.2.2.2 (sSub n j)) = true then some [([(111, [hl, b, one, bd, n, r])], [])] else none)
    else (match nNrq K.2 hl b one (sAdd j (sC 1)) with
      | some m => if (decide (r = j) && (sNN K.1.2.2.2.2.2.2 (sSub m bd) && sNN K.1.2.2.2.2.2.2 (sSub (sSub n r) (sC 1)))) = true then some [([(111, [hl, b, one, bd, n, r])], [])] else none
      | none => none)
  | _, _, _ => none
/-- the sum of today -/
def nSZ (K : kS) : Option (List kS) := match K with
  | ((pc, ls, (0, r) :: st, G, c, s0, Γ), γ) => (match kFa γ 93 (fun fs => decide (fs.getLast? = some r)) with
    | some [d, s, _, r'] => if (decide (r' = r) && (decide (sK Γ.1 d = some 0) && (sWi Γ.1 s 0 9999 && !decide (s = r)))) = true then some [((pc, ls, (0, s) :: st, G, c, s0, Γ), γ)] else some [K]
    | _ => some [K])
  | _ => some [K]
section NSAID
variable {RO : List (Nat × (Nat → Int32))} {ρ : List Int} {Γ : sG} {γ : List kA} {H : List eE}
theorem nFo_ok (hM : sMo ρ Γ) (hg : kGh (kGP (kUP RO)) ρ γ H) {hl one j w a o o2 : sL} {zl ze zj zw za zo : Int} (el : sEv ρ hl = some zl) (ee : sEv ρ one = some ze) (ej : sEv ρ j = some zj) (ew : sEv ρ w = some zw) (ea : sEv ρ a = some za) (eo : sEv ρ o = some zo) (h : nFo Γ γ hl one j w a o o2 = true) :
    ∃ zr z2, nGW zl zw zj za ze zr H ∧ sEv ρ o2 = some z2 ∧ z2 = max 0 (zo + zr) := by
  unfold nFo at h
  split at h
  · rename_i h' w' p a' e r hfa
    simp only [Bool.and_eq_true, Bool.or_eq_true, decide_eq_true_eq] at h
    obtain ⟨rfl, rfl, rfl, rfl, rfl, h1⟩ := h
    obtain ⟨-, zs, e1, e2⟩ := nFa_ok hg hfa (by decide) (by decide)
    obtain ⟨y1, y2, y3, y4, y5, y6, rfl, f1, f2, f3, f4, f5, f6⟩ := sVal_6 e1
    obtain ⟨a1, a2, a3, a4, a5, a6, he, hW⟩ : ∃ h w p a o r, [y1, y2, y3, y4, y5, y6] = [h, w, p, a, o, r] ∧ nGW h w p a o r H := e2
    cases he
    cases f1.symm.trans el
    cases f2.symm.trans ew
    cases f3.symm.trans ej
    cases f4.symm.trans ea
    cases f5.symm.trans ee
    have es := sEv_add eo f6
    rcases h1 with ⟨rfl, h1⟩ | ⟨rfl, h1⟩
    · have := sNN_ok hM es h1
      exact ⟨y6, _, hW, es, by omega⟩
    · have := sNN_ok hM (sEv_mul (-1) es) h1
      exact ⟨y6, 0, hW, sEv_C _, by omega⟩
  · cases h
theorem nPB0 {b hl one bd : sL} {zb zl zo zd : Int} (eb : sEv ρ b = some zb) (el : sEv ρ hl = some zl) (eo : sEv ρ one = some zo) (ed : sEv ρ bd = some zd) (h1 : 1 ≤ zd) {cell n : Nat} {len : Int} (h : nSP cell n zb len H) : nNF zl zb zo 0 0 0 H := by
  obtain ⟨S, g, -, hL, h0, -⟩ := h
  exact ⟨g, hL, h0, Int.le_refl _, rfl, rfl⟩
theorem nPBi_ok (zn zr : Nat) : kRok RO (nPBi zn zr) := by
  intro K ws h ρ R hD
  unfold nPBi at h
  split at h
  · rename_i b n0 s0 hl nv o hsp hlw hnv ho
    split at h
    · rename_i one v i bd hone hnf hi hbd
      split at h
      · rename_i hc
        cases h
        simp only [Bool.and_eq_true, decide_eq_true_eq] at hc
        obtain ⟨-, zs, e1, e2⟩ := nFa_ok hD.2.2 hsp (by decide) (by decide)
        obtain ⟨zb, zn', rfl, eb, en⟩ := sVal_2 e1
        obtain ⟨a', b', he, hS⟩ : ∃ a b, [zb, zn'] = [a, b] ∧ nSP 25 64 a b R.2.2.2.1 := e2
        cases he
        obtain ⟨-, zs, e3, -⟩ := nFa_ok hD.2.2 hlw (by decide) (by decide)
        obtain ⟨z1, zl, rfl, -, el⟩ := sVal_2 e3
        obtain ⟨zo, zv, eo, -, -⟩ := kFaEl (j := 57) hD.2.2 hone
        obtain ⟨zd, ed⟩ := kLf_ok hD.2.1 hbd
        have h1 := sNN_ok hD.1 (sEv_sub ed (sEv_C 1)) hc.2.2
        exact ⟨_, List.mem_singleton.mpr rfl, kAt1 (zs := [zl, zb, zo, zd, 0, 0]) (by decide) (by simp only [sVal, el, eb, eo, ed, sEv_C]) ((kUPn (by decide)).mpr ⟨_, _, _, _, _, _, rfl, 0, nPB0 eb el eo ed (by omega) hS, by omega⟩), fun b hb => by cases hb⟩
      · cases h
    · cases h
  · cases h
theorem nPBq (hg : kGh (kGP (kUP RO)) ρ γ H) {hl b one bd j o : sL} {p : List sL → Bool} (h : kFa γ 110 p = some [hl, b, one, bd, j, o]) : ∃ y1 y2 y3 y4 y5 y6 m, sEv ρ hl = some y1 ∧ sEv ρ b = some y2 ∧ sEv ρ one = some y3 ∧ sEv ρ bd = some y4 ∧ sEv ρ j = some y5 ∧ sEv ρ o = some y6 ∧ nNF y1 y2 y3 y5 y6 m H ∧ m < y4 := by
  obtain ⟨-, zs, e1, e2⟩ := nFa_ok hg h (by decide) (by decide)
  obtain ⟨y1, y2, y3, y4, y5, y6, rfl, f1, f2, f3, f4, f5, f6⟩ := sVal_6 e1
  obtain ⟨a1, a2, a3, a4, a5, a6, he, m, hN, hm⟩ : ∃ h b o d j u, [y1, y2, y3, y4, y5, y6] = [h, b, o, d, j, u] ∧ nPB h b o d j u H := e2
  cases he
  exact ⟨_, _, _, _, _, _, m, f1, f2, f3, f4, f5, f6, hN, hm⟩
theorem nPBn (hM : sMo ρ Γ) (hg : kGh (kGP (kUP RO)) ρ γ H) {hl b one j o w a o2 : sL} {y1 y2 y3 y5 y6 m : Int} (f1 : sEv ρ hl = some y1) (f2 : sEv ρ b = some y2) (f3 : sEv ρ one = some y3) (f5 : sEv ρ j = some y5) (f6 : sEv ρ o = some y6) (hN : nNF y1 y2 y3 y5 y6 m H) (hw : nWds Γ γ 25 86 b j = some (w, a)) (hf : nFo Γ γ hl one j w a o o2 = true) :
    0 ≤ y5 ∧ ∃ z2, sEv ρ o2 = some z2 ∧ nNF y1 y2 y3 (y5 + 1) z2 (max m z2) H := by
  obtain ⟨g, g1, g2, g3, g4⟩ := hN
  obtain ⟨hj, g', zw, za, q1, q2, q3, q4, q5⟩ := nWds_ok (cell := 25) (kind := 86) (n := 64) hM hg (fun zs h => by
    have h' : ∃ a b, zs = [a, b] ∧ nSP 25 64 a b H := h
    exact h') (by decide) (by decide) f2 f5 hw
  cases kLg_one g1 q1
  obtain ⟨zr, z2, k1, k2, k3⟩ := nFo_ok hM hg f1 f3 f5 q2 q3 f6 hf
  refine ⟨hj, z2, k2, g, g1, g2, by omega, ?_⟩
  rw [show (y5 + 1).toNat = y5.toNat + 1 by omega]
  refine ⟨y6, m, zr, g4, ?_, k3, rfl⟩
  rw [← q4, ← q5, show ((y5.toNat : Nat) : Int) = y5 by omega]
  exact k1
theorem nPBs_ok (zr : Nat) : kRok RO (nPBs zr) := by
  intro K ws h ρ R hD
  unfold nPBs at h
  split at h
  · rename_i hl b one bd j o i o2 hfa hi ho
    split at h
    · rename_i hij
      subst hij
      split at h
      · rename_i w a hw
        split at h
        · rename_i hc
          cases h
          rw [Bool.and_eq_true] at hc
          obtain ⟨y1, y2, y3, y4, y5, y6, m, f1, f2, f3, f4, f5, f6, hN, hm⟩ := nPBq hD.2.2 hfa
          obtain ⟨hj, z2, e2, hN2⟩ := nPBn hD.1 hD.2.2 f1 f2 f3 f5 f6 hN hw hc.1
          have h2 := sNN_ok hD.1 (sEv_sub (sEv_sub f4 e2) (sEv_C 1)) hc.2
          have ei := sEv_add f5 (sEv_C (ρ := ρ) 1)
          exact ⟨_, List.mem_singleton.mpr rfl, kAt1 (zs := [y1, y2, y3, y4, y5 + 1, z2]) (by decide) (by simp only [sVal, f1, f2, f3, f4, ei, e2]) ((kUPn (by decide)).mpr ⟨_, _, _, _, _, _, rfl, max m z2, hN2, by omega⟩), fun b hb => by cases hb⟩
        · cases h
      · cases h
    · cases h
  · cases h
theorem nPBe_ok (zr zl : Nat) : kRok RO (nPBe zr zl) := by
  intro K ws h ρ R hD
  unfold nPBe at h
  split at h
  · rename_i hl b one bd j o n r hfa hn hr
    obtain ⟨y1, y2, y3, y4, y5, y6, m, f1, f2, f3, f4, f5, f6, hN, hm⟩ := nPBq hD.2.2 hfa
    obtain ⟨yn, en⟩ := nFf_ok hD.2.1.2.2.2.1 hn
    split at h
    · rename_i hr2
      subst hr2
      split at h
      · rename_i hc
        cases h
        rw [Bool.and_eq_true] at hc
        have h1 := sNN_ok hD.1 (sEv_sub f5 en) hc.1
        have h2 := sNN_ok hD.1 (sEv_sub en f5) hc.2
        obtain rfl : y5 = yn := by omega
        exact ⟨_, List.mem_singleton.mpr rfl, kAt1 (zs := [y1, y2, y3, y4, y5, -2]) (by decide) (by simp only [sVal, f1, f2, f3, f4, en, sEv_C]) ((kUPn (by decide)).mpr ⟨_, _, _, _, _, _, rfl, Or.inl ⟨rfl, y6, m, hN, hm⟩⟩), fun b hb => by cases hb⟩
      · cases h
    · split at h
      · rename_i o2 w a ho hw
        split at h
        · rename_i hc
          cases h
          simp only [Bool.and_eq_true, decide_eq_true_eq] at hc
          obtain ⟨rfl, c1, c2, c3⟩ := hc
          obtain ⟨hj, z2, e2, hN2⟩ := nPBn hD.1 hD.2.2 f1 f2 f3 f5 f6 hN hw c1
          have h1 := sNN_ok hD.1 (sEv_sub e2 f4) c2
          have h2 := sNN_ok hD.1 (sEv_sub (sEv_sub en f5) (sEv_C 1)) c3
          exact ⟨_, List.mem_singleton.mpr rfl, kAt1 (zs := [y1, y2, y3, y4, yn, y5]) (by decide) (by simp only [sVal, f1, f2, f3, f4, en, f5]) ((kUPn (by decide)).mpr ⟨_, _, _, _, _, _, rfl, Or.inr ⟨hj, by omega, ⟨y6, m, hN, hm⟩, z2, _, hN2, by omega⟩⟩), fun b hb => by cases hb⟩
        · cases h
      · cases h
  · cases h
theorem nPMi_ok (zh : Nat) : kRok RO (nPMi zh) := by
  intro K ws h ρ R hD
  unfold nPMi at h
  split at h
  · rename_i b n0 hl bd k one hsp hhl hbd hnf hk hone
    split at h
    · rename_i hc
      cases h
      simp only [Bool.and_eq_true, decide_eq_true_eq] at hc
      obtain ⟨-, zs, e1, e2⟩ := nFa_ok hD.2.2 hsp (by decide) (by decide)
      obtain ⟨zb, zn', rfl, eb, en⟩ := sVal_2 e1
      obtain ⟨a', b', he, hS⟩ : ∃ a b, [zb, zn'] = [a, b] ∧ nSP 72 61 a b R.2.2.2.1 := e2
      cases he
      obtain ⟨zl, el⟩ := nFf_ok hD.2.1.2.2.2.1 hhl
      obtain ⟨zo, eo⟩ := kLf_ok hD.2.1 hone
      obtain ⟨-, -, zd, -, -, ed, -⟩ := kToldI_ok hD.2.1.2.2.2.1 hbd
      have h1 := sNN_ok hD.1 (sEv_sub ed (sEv_C 1)) hc.2
      exact ⟨_, List.mem_singleton.mpr rfl, kAt1 (zs := [zl, zb, zo, zd, 0]) (by decide) (by simp only [sVal, el, eb, eo, ed, sEv_C]) ((kUPn (by decide)).mpr ⟨_, _, _, _, _, rfl, 0, 0, nPB0 eb el eo ed (by omega) hS, by omega⟩), fun b hb => by cases hb⟩
    · cases h
  · cases h
theorem nPMq (hg : kGh (kGP (kUP RO)) ρ γ H) {hl b one bd j : sL} {p : List sL → Bool} (h : kFa γ 112 p = some [hl, b, one, bd, j]) : ∃ y1 y2 y3 y4 y5 o m, sEv ρ hl = some y1 ∧ sEv ρ b = some y2 ∧ sEv ρ one = some y3 ∧ sEv ρ bd = some y4 ∧ sEv ρ j = some y5 ∧ nNF y1 y2 y3 y5 o m H ∧ m < y4 := by
  obtain ⟨-, zs, e1, e2⟩ := nFa_ok hg h (by decide) (by decide)
  obtain ⟨y1, y2, y3, y4, y5, rfl, f1, f2, f3, f4, f5⟩ := sVal_5 e1
  obtain ⟨a1, a2, a3, a4, a5, he, u, m, hN, hm⟩ : ∃ h b o d j, [y1, y2, y3, y4, y5] = [h, b, o, d, j] ∧ nPM h b o d j H := e2
  cases he
  exact ⟨_, _, _, _, _, u, m, f1, f2, f3, f4, f5, hN, hm⟩
theorem nNrq_ok (hg : kGh (kGP (kUP RO)) ρ γ H) {hl b one n m : sL} {y1 y2 y3 yn : Int} (f1 : sEv ρ hl = some y1) (f2 : sEv ρ b = some y2) (f3 : sEv ρ one = some y3) (fn : sEv ρ n = some yn) (h : nNrq γ hl b one n = some m) : ∃ zm u, sEv ρ m = some zm ∧ nNF y1 y2 y3 yn u zm H := by
  unfold nNrq at h
  split at h
  · rename_i h' b' o' n' m' hfa
    split at h
    · rename_i hc
      obtain ⟨rfl, rfl, rfl, rfl⟩ := hc
      cases h
      obtain ⟨-, zs, e1, e2⟩ := nFa_ok hg hfa (by decide) (by decide)
      obtain ⟨x1, x2, x3, x4, x5, rfl, g1, g2, g3, g4, g5⟩ := sVal_5 e1
      obtain ⟨a1, a2, a3, a4, a5, he, u, hN⟩ : ∃ h b o j m, [x1, x2, x3, x4, x5] = [h, b, o, j, m] ∧ ∃ u, nNF h b o j u m H := e2
      cases he
      cases g1.symm.trans f1
      cases g2.symm.trans f2
      cases g3.symm.trans f3
      cases g4.symm.trans fn
      exact ⟨_, u, g5, hN⟩
    · cases h
  · cases h
theorem nPMs_ok : kRok RO nPMs := by
  intro K ws h ρ R hD
  unfold nPMs at h
  split at h
  · rename_i hl b one bd j k hfa hk
    obtain ⟨y1, y2, y3, y4, y5, u, m, f1, f2, f3, f4, f5, hN, hm⟩ := nPMq hD.2.2 hfa
    have ei := sEv_add f5 (sEv_C (ρ := ρ) 1)
    split at h
    · rename_i m' hq
      split at h
      · rename_i hc
        cases h
        simp only [Bool.and_eq_true, decide_eq_true_eq] at hc
        obtain ⟨rfl, c1⟩ := hc
        obtain ⟨zm, v, em, hN2⟩ := nNrq_ok hD.2.2 f1 f2 f3 ei hq
        have h1 := sNN_ok hD.1 (sEv_sub (sEv_sub f4 em) (sEv_C 1)) c1
        exact ⟨_, List.mem_singleton.mpr rfl, kAt1 (zs := [y1, y2, y3, y4, y5 + 1]) (by decide) (by simp only [sVal, f1, f2, f3, f4, ei]) ((kUPn (by decide)).mpr ⟨_, _, _, _, _, rfl, v, zm, hN2, by omega⟩), fun b hb => by cases hb⟩
      · cases h
    · cases h
  · cases h
theorem nPMe_ok (z1 : Nat) : kRok RO (nPMe z1) := by
  intro K ws h ρ R hD
  unfold nPMe at h
  split at h
  · rename_i hl b one bd j n r hfa hn hr
    obtain ⟨y1, y2, y3, y4, y5, u, m, f1, f2, f3, f4, f5, hN, hm⟩ := nPMq hD.2.2 hfa
    obtain ⟨yn, en⟩ := nFf_ok hD.2.1.2.2.2.1 hn
    have ei := sEv_add f5 (sEv_C (ρ := ρ) 1)
    split at h
    · rename_i hr2
      subst hr2
      split at h
      · rename_i hc
        cases h
        rw [Bool.and_eq_true] at hc
        have h1 := sNN_ok hD.1 (sEv_sub f5 en) hc.1
        have h2 := sNN_ok hD.1 (sEv_sub en f5) hc.2
        obtain rfl : y5 = yn := by omega
        exact ⟨_, List.mem_singleton.mpr rfl, kAt1 (zs := [y1, y2, y3, y4, y5, -2]) (by decide) (by simp only [sVal, f1, f2, f3, f4, en, sEv_C]) ((kUPn (by decide)).mpr ⟨_, _, _, _, _, _, rfl, Or.inl ⟨rfl, u, m, hN, hm⟩⟩), fun b hb => by cases hb⟩
      · cases h
    · split at h
      · rename_i m' hq
        split at h
        · rename_i hc
          cases h
          simp only [Bool.and_eq_true, decide_eq_true_eq] at hc
          obtain ⟨rfl, c1, c2⟩ := hc
          obtain ⟨zm, v, em, hN2⟩ := nNrq_ok hD.2.2 f1 f2 f3 ei hq
          have h0 : 0 ≤ y5 := by
            obtain ⟨g, -, -, h0, -⟩ := hN
            exact h0
          have h1 := sNN_ok hD.1 (sEv_sub em f4) c1
          have h2 := sNN_ok hD.1 (sEv_sub (sEv_sub en f5) (sEv_C 1)) c2
          exact ⟨_, List.mem_singleton.mpr rfl, kAt1 (zs := [y1, y2, y3, y4, yn, y5]) (by decide) (by simp only [sVal, f1, f2, f3, f4, en, f5]) ((kUPn (by decide)).mpr ⟨_, _, _, _, _, _, rfl, Or.inr ⟨h0, by omega, ⟨u, m, hN, hm⟩, v, zm, hN2, by omega⟩⟩), fun b hb => by cases hb⟩
        · cases h
      · cases h
  · cases h
theorem nSZ_ok {K : kS} {L : List kS} (h : nSZ K = some L) {ρ : List Int} {R : eR} (hD : kD (kGP (kUP RO)) ρ K R) : ∃ K' ∈ L, ∃ ρ', ρ <+: ρ' ∧ kD (kGP (kUP RO)) ρ' K' R := by
  have same : ∀ K0 : kS, K0 = K → some [K0] = some L → ∃ K' ∈ L, ∃ ρ', ρ <+: ρ' ∧ kD (kGP (kUP RO)) ρ' K' R := fun K0 e g => by
    cases g
    subst e
    exact ⟨_, List.mem_singleton.mpr rfl, ρ, List.prefix_refl _, hD⟩
  unfold nSZ at h
  split at h
  · rename_i pc ls r st G c s0 Γ γ
    split at h
    · rename_i d s g r' hfa
      split at h
      · rename_i hc
        cases h
        simp only [Bool.and_eq_true, decide_eq_true_eq] at hc
        obtain ⟨rfl, c1, c2, -⟩ := hc
        obtain ⟨-, zs, e1, e2⟩ := nFa_ok hD.2.2 hfa (by decide) (by decide)
        obtain ⟨y1, y2, y3, y4, rfl, f1, f2, f3, f4⟩ := sVal_4 e1
        obtain ⟨a1, a2, a3, a4, he, hr⟩ : ∃ a b c r, [y1, y2, y3, y4] = [a, b, c, r] ∧ r = (if 9999 < b + a * c then 9999 else b + a * c) := e2
        cases he
        have hd := sK_ok hD.1.1 f1 c1
        subst hd
        have hs := sWi_ok hD.1.1 f2 c2
        rw [Int.zero_mul, Int.add_zero, if_neg (by omega)] at hr
        subst hr
        refine ⟨_, List.mem_singleton.mpr rfl, ρ, List.prefix_refl _, hD.1, ⟨hD.2.1.1, hD.2.1.2.1, ?_, hD.2.1.2.2.2⟩, hD.2.2⟩
        obtain ⟨zw, r1, hr1, ew, hV⟩ := sVs_int hD.2.1.2.2.1
        cases ew.symm.trans f4
        show sVs ρ ((0, s) :: st) R.2.2.1
        rw [hr1]
        exact ⟨⟨_, f2, rfl⟩, hV⟩
      · exact same _ rfl h
    · exact same _ rfl h
  · exact same _ rfl h
end NSAID
end
