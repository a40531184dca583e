/-! The shortest way to say it: the class' rooms. -/
noncomputable section
def sfRMi (zn : Nat) (K : kS) : Option kWs := match sfQ zn K, kLf K.1.2.1 1, kFa K.2 300 (fun _ => true) with
  | some (hl, b, one, x, n, N), some p, none => if (decide (p = sSub n (sC 1)) && (kShb K.1.2.2.2.1 29 .int 5840 && sfNE K.2)) = true then some [([(300, [hl, b, one, x, n, N, p, sC 0])], [])] else none
  | _, _, _ => none
def sfRMk (zn : Nat) (K : kS) : Option kWs := match sfQ zn K, kLf K.1.2.1 1, kLf K.1.2.1 2, kLf K.1.2.1 3 with
  | some (hl, b, one, x, n, N), some p, some m, some be => (match nDl K.1.2.2.2.2.2.2 7 m be with
    | some y => (match nDl K.1.2.2.2.2.2.2 3 y (sC 1) with
      | some z => if (decide (sK K.1.2.2.2.2.2.2.1 z = some 0) && (kHav K.2 300 [hl, b, one, x, n, N, p, be] && (kHav K.2 298 [b, n, p, N, m] && (sWf K.1.2.2.2.2.2.2 be 0 9 && sNN K.1.2.2.2.2.2.2 (sSub (sSub n p) (sC 1)))))) = true then some [([(300, [hl, b, one, x, n, N, p, sAdd be (sC 1)])], [])] else none
      | none => none)
    | none => none)
  | _, _, _, _ => none
def sfRMn (zn : Nat) (K : kS) : Option kWs := match sfQ zn K, kLf K.1.2.1 1, kLf K.1.2.1 3 with
  | some (hl, b, one, x, n, N), some p, some be => if (kHav K.2 300 [hl, b, one, x, n, N, p, be] && sNN K.1.2.2.2.2.2.2 (sSub be (sC 10))) = true then some [([(300, [hl, b, one, x, n, N, sSub p (sC 1), sC 0])], [])] else none
  | _, _, _ => none
def sfRMz (zn : Nat) (K : kS) : Option kWs := match sfQ zn K, kLf K.1.2.1 1 with
  | some (hl, b, one, x, n, N), some p => if (!decide (p = sC (-1)) && (kHav K.2 300 [hl, b, one, x, n, N, p, sC 0] && kEqf K.1.2.2.2.2.2.2 p (sC (-1)))) = true then some [([(300, [hl, b, one, x, n, N, sC (-1), sC 0])], [])] else none
  | _, _ => none
def sfRC0 (K : kS) : Option kWs := match kLf K.1.2.1 1, kLf K.1.2.1 2, kLf K.1.2.1 3, kLf K.1.2.1 4, kFa K.2 301 (fun _ => true) with
  | some p, some b, some s, some i, none => if (decide (i = sC 0) && (decide (s = sfA p b) && kShb K.1.2.2.2.1 29 .int 5840)) = true then some [([(301, [p, b, sC 0])], [])] else none
  | _, _, _, _, _ => none
def sfRCs (K : kS) : Option kWs := match kLf K.1.2.1 1, kLf K.1.2.1 2, kLf K.1.2.1 4 with
  | some p, some b, some i => if (kHav K.2 301 [p, b, i] && (decide (kFindEl K.2 29 (sAdd (sfA p b) i) = some (sC (-1))) && sNN K.1.2.2.2.2.2.2 (sAdd (sfA p b) i))) = true then some [([(301, [p, b, sAdd i (sC 1)])], [])] else none
  | _, _, _ => none
def sfRCq (Γ : sG) (p b : sL) (fs : List sL) : Bool := match fs with
  | [p', b', m] => decide (p' = p) && (decide (b' = b) && sNN Γ (sSub m (sC 73)))
  | _ => false
def sfRL0 (zn : Nat) (K : kS) : Option kWs := match sfQ zn K, kLf K.1.2.1 1, kLf K.1.2.1 2, kLf K.1.2.1 4, kFa K.2 302 (fun _ => true) with
  | some (hl, b, one, x, n, N), some p, some be, some w, none => (match kFa K.2 301 (sfRCq K.1.2.2.2.2.2.2 p be) with
    | some _ => if (decide (w = sC 0) && (sNN K.1.2.2.2.2.2.2 x && (sfLg K N && (sfNE K.2 && sNN K.1.2.2.2.2.2.2 (sSub (sSub n p) (sC 1)))))) = true then some [([(302, [hl, b, one, x, n, N, p, be, sC 0, sC 0])], [])] else none
    | none => none)
  | _, _, _, _, _ => none
def sfRLc (Γ : sG) (γ : List kA) (p n w t : sL) : Bool := (decide (t = sC 0) && decide (sfKi Γ γ 28 w p n = some false)) || sNN Γ (sSub t (sAdd (sMul 9 (sSub (sSub n p) (sC 1))) (sC 1)))
def sfRLk (zn : Nat) (K : kS) : Option kWs := match sfQ zn K, kLf K.1.2.1 1, kLf K.1.2.1 2, kLf K.1.2.1 4 with
  | some (hl, b, one, x, n, N), some p, some be, some w => (match kFa K.2 302 (tPre [hl, b, one, x, n, N, p, be, w]) with
    | some [_, _, _, _, _, _, _, _, _, t] => if (sfLg K N && (sNN K.1.2.2.2.2.2.2 w && (sNN K.1.2.2.2.2.2.2 (sSub (sSub n p) (sC 1)) && sfRLc K.1.2.2.2.2.2.2 K.2 p n w t))) = true then some [([(302, [hl, b, one, x, n, N, p, be, sAdd w (sC 1), sC 0])], [])] else none
    | _ => none)
  | _, _, _, _ => none
/-- what is greater: the old number, or the less of the two -/
def sfMx (Γ : sG) (nw old x rg : sL) : Bool := (sNN Γ (sSub rg x) && ((kEqf Γ nw old && sNN Γ (sSub old x)) || (kEqf Γ nw x && sNN Γ (sSub x old)))) || (sNN Γ (sSub x rg) && ((kEqf Γ nw old && sNN Γ (sSub old rg)) || (kEqf Γ nw rg && sNN Γ (sSub rg old))))
def sfRLs (zn : Nat) (K : kS) : Option kWs := match sfQ zn K, nFf K.1.2.2.2.1 24 zn, kLf K.1.2.1 1, kLf K.1.2.1 2, kLf K.1.2.1 4, kLf K.1.2.1 8, kLf K.1.2.1 9 with
  | some (hl, b, one, x, n, N), some v, some p, some be, some w, some t, some ro => if (kHav K.2 304 [hl, b, one, x, n, N, sAdd p (sC 1), w, t, ro] && (decide (sfKi K.1.2.2.2.2.2.2 K.2 28 w p n = some true) && sNN K.1.2.2.2.2.2.2 x)) = true then
      (if sNN K.1.2.2.2.2.2.2 (sSub (sC (-1)) ro) = true then (if kHav K.2 302 [hl, b, one, x, n, N, p, be, w, t] = true then some [([(302, [hl, b, one, x, n, N, p, be, w, sAdd t (sC 1)])], [])] else none)
      else (match kFa K.2 303 (tPre [hl, b, one, x, n, N, p, be, w, t]), sfGv K.2 hl w p be v, kFindEl K.2 55 w with
        | some [_, _, _, _, _, _, _, _, _, _, e, old], some g, some l => (match kFindEl K.2 29 e with
          | some nw => if (sI32 K.1.2.2.2.2.2.2.1 l && (sNN K.1.2.2.2.2.2.2 ro && (decide (e = sAdd (sAdd (sfA p be) l) t) && (sI32 K.1.2.2.2.2.2.2.1 nw && (sI32 K.1.2.2.2.2.2.2.1 old && (sNN K.1.2.2.2.2.2.2 (sfA p be) && (sNN K.1.2.2.2.2.2.2 (sAdd l t) && sfMx K.1.2.2.2.2.2.2 nw old x (sSub ro g)))))))) = true then some [([(302, [hl, b, one, x, n, N, p, be, w, sAdd t (sC 1)])], [])] else none
          | none => none)
        | _, _, _ => none)) else none
  | _, _, _, _, _, _, _ => none
def sfRLv (K : kS) : Option (List kS) := match K with
  | ((pc, ls, (0, v) :: (0, i) :: a :: st, G, c, s, Γ), γ) => if sWi Γ.1 v (-1) 99 = true then some [K] else if sWf Γ v (-1) 99 = true then some [((pc, ls, (0, sX Γ.1.length) :: (0, i) :: a :: st, G, c, s, (Γ.1 ++ [(-1, 99)], sSub v (sX Γ.1.length) :: sSub (sX Γ.1.length) v :: Γ.2.1, Γ.2.2)), γ)] else some [K]
  | _ => some [K]
def sfRLe (zn : Nat) (K : kS) : Option kWs := match sfQ zn K, kLf K.1.2.1 1, kLf K.1.2.1 2, kLf K.1.2.1 4 with
  | some (hl, b, one, x, n, N), some p, some be, some w => if (kHav K.2 300 [hl, b, one, x, n, N, p, be] && (kHav K.2 302 [hl, b, one, x, n, N, p, be, w, sC 0] && (kEqf K.1.2.2.2.2.2.2 w N && (sfLg K N && sNN K.1.2.2.2.2.2.2 (sSub (sSub n p) (sC 1)))))) = true then some [([(300, [hl, b, one, x, n, N, p, sAdd be (sC 1)])], [])] else none
  | _, _, _, _ => none
def sfRRq (b n p be : sL) (fs : List sL) : Bool := match fs with
  | [b', n', p', _, be'] => decide (b' = b) && (decide (n' = n) && (decide (p' = p) && decide (be' = be)))
  | _ => false
def sfRMq (Γ : sG) (hl b one x n N p : sL) (fs : List sL) : Bool := tPre [hl, b, one, x, n, N] fs && (match fs with
  | [_, _, _, _, _, _, k, _] => sNN Γ (sSub (sSub p k) (sC 1))
  | _ => false)
def sfRRr (zn : Nat) (K : kS) : Option kWs := match sfQ zn K, kLf K.1.2.1 1, kLf K.1.2.1 2, kLf K.1.2.1 3, kTop K with
  | some (hl, b, one, x, n, N), some p, some be, some t, some r => (match kFa K.2 299 (sfRRq b n p be) with
    | some [_, _, _, w, _] => if sNN K.1.2.2.2.2.2.2 (sSub p n) = true then (if (kEqf K.1.2.2.2.2.2.2 p n && (sfNE K.2 && ((kEqf K.1.2.2.2.2.2.2 t (sC 0) && decide (r = x)) || (decide (r = sC (-1)) && (nNe K.1.2.2.2.2.2.2 t (sC 0) && sNN K.1.2.2.2.2.2.2 x))))) = true then some [([(304, [hl, b, one, x, n, N, p, w, t, r])], [])] else none)
      else if (sNN K.1.2.2.2.2.2.2 (sSub (sSub n p) (sC 1)) && (sNN K.1.2.2.2.2.2.2 p && (((sNN K.1.2.2.2.2.2.2 w && sNN K.1.2.2.2.2.2.2 (sSub (sSub N w) (sC 1))) || decide (sK K.1.2.2.2.2.2.2.1 p = some 0)) && (sfLg K N && (sNN K.1.2.2.2.2.2.2 (sSub (sC 8) n) && (sfNE K.2 && sNN K.1.2.2.2.2.2.2 x)))))) = true then
        (if (sNN K.1.2.2.2.2.2.2 (sSub (sC (-1)) t) || sNN K.1.2.2.2.2.2.2 (sSub t (sC 73))) = true then (if r = sC (-1) then some [([(304, [hl, b, one, x, n, N, p, w, t, r])], [])] else none)
        else if (sNN K.1.2.2.2.2.2.2 t && (sNN K.1.2.2.2.2.2.2 (sSub (sC 72) t) && (decide (kFindEl K.2 29 (sAdd (sfA p be) t) = some r) && (sI32 K.1.2.2.2.2.2.2.1 r && (sWf K.1.2.2.2.2.2.2 be 0 9 && (kFa K.2 300 (sfRMq K.1.2.2.2.2.2.2 hl b one x n N p)).isSome))))) = true then some [([(304, [hl, b, one, x, n, N, p, w, t, r])], [])] else none) else none
    | _ => none)
  | _, _, _, _, _ => none
def sfLZi (zn : Nat) (K : kS) : Option kWs := match sfQ zn K, kLf K.1.2.1 1, kFa K.2 305 (fun _ => true) with
  | some (hl, b, one, x, n, N), some z, none => if (decide (z = sC 0) && sfNE K.2) = true then some [([(305, [hl, b, one, x, n, N, sC 0]), (299, [b, n, sC 0, sC (-1), sC 0])], [])] else none
  | _, _, _ => none
def sfLZs (zn : Nat) (K : kS) : Option kWs := match sfQ zn K, kLf K.1.2.1 1 with
  | some (hl, b, one, x, n, N), some z => (match kFa K.2 304 (tPre [hl, b, one, x, n, N, sC 0, sC (-1), z]) with
    | some [_, _, _, _, _, _, _, _, _, ro] => if (kHav K.2 305 [hl, b, one, x, n, N, z] && (sNN K.1.2.2.2.2.2.2 (sSub (sC (-1)) ro) && sNN K.1.2.2.2.2.2.2 x)) = true then some [([(305, [hl, b, one, x, n, N, sAdd z (sC 1)])], [])] else none
    | _ => none)
  | _, _ => none
def sfLZq (Γ : sG) (hl b one x n N : sL) (fs : List sL) : Bool := tPre [hl, b, one, x, n, N] fs && (match fs with
  | [_, _, _, _, _, _, s] => sNN Γ (sSub s (sC 73))
  | _ => false)
def sfLZe (zn : Nat) (K : kS) : Option kWs := match sfQ zn K, kTop K with
  | some (hl, b, one, x, n, N), some z => if z = sC (-2) then (match kFa K.2 305 (sfLZq K.1.2.2.2.2.2.2 hl b one x n N) with
      | some [_, _, _, _, _, _, _] => if (sfLg K N && (sNN K.1.2.2.2.2.2.2 (sSub (sC 8) n) && sNN K.1.2.2.2.2.2.2 n)) = true then some [([(306, [hl, b, one, x, n, N, z])], [])] else none
      | _ => none)
    else (match kFa K.2 304 (tPre [hl, b, one, x, n, N, sC 0, sC (-1), z]) with
      | some [_, _, _, _, _, _, _, _, _, ro] => if (sNN K.1.2.2.2.2.2.2 ro && (sNN K.1.2.2.2.2.2.2 x && (kHav K.2 305 [hl, b, one, x, n, N, z] && (sNN K.1.2.2.2.2.2.2 z && (sfLg K N && sNN K.1.2.2.2.2.2.2 n))))) = true then some [([(306, [hl, b, one, x, n, N, z])], [])] else none
      | _ => none)
  | _, _ => none
section SFC
variable {RO : List (Nat × (Nat → Int32))} {ρ : List Int} {Γ : sG} {γ : List kA} {H : List eE}
theorem sfV1 {a : sL} {za : Int} (e1 : sEv ρ a = some za) : sVal ρ [a] = some [za] := by simp only [sVal, e1]
theorem sfV2 {a b : sL} {za zb : Int} (e1 : sEv ρ a = some za) (e2 : sEv ρ b = some zb) : sVal ρ [a, b] = some [za, zb] := by simp only [sVal, e1, e2]
theorem sfV4 {a b c d : sL} {za zb zc zd : Int} (e1 : sEv ρ a = some za) (e2 : sEv ρ b = some zb) (e3 : sEv ρ c = some zc) (e4 : sEv ρ d = some zd) : sVal ρ [a, b, c, d] = some [za, zb, zc, zd] := by simp only [sVal, e1, e2, e3, e4]
theorem sfVe {fs : List sL} {zs zs' : List Int} (h : sVal ρ fs = some zs) (h' : sVal ρ fs = some zs') : zs = zs' := Option.some.inj (h.symm.trans h')
theorem sfRMi_ok (zn : Nat) : kRok RO (sfRMi zn) := by
  intro K ws h ρ R hD
  unfold sfRMi at h
  split at h
  · rename_i hl b one x n N p hQ hp hno
    split at h
    · rename_i hc
      cases h
      simp only [Bool.and_eq_true, decide_eq_true_eq] at hc
      obtain ⟨rfl, c2, c3⟩ := hc
      obtain ⟨zh, zb, zo, zx, zn', zN, v, zv, eh, eb, eo, ex, en, eN, hv, ev, hk, S, g, s1, hG, s3, s4⟩ := sfQ_ok hD hQ
      obtain ⟨fn, fk, fl, hW⟩ := sfNE_ok hD.2.2 c3
      obtain ⟨f, hf⟩ := kSh1 hD.2.1.2.2.2.1 (by decide) rfl c2
      exact ⟨_, List.mem_singleton.mpr rfl, sfAr (Or.inl rfl) eh eb eo ex en eN (sfV2 (sEv_sub en (sEv_C 1)) (sEv_C 0)) hG hW (show ∃ f, nI2 _ 29 5840 f ∧ pDn (pQ R.2.2.2.1 g fn fk fl zh zb zo zx zn' zN) f (zn' - 1) 0 from ⟨f, hf, pDn_0⟩), fun b hb => by cases hb⟩
    · cases h
  · cases h
/-- the rooms told -/
theorem sfRMe (hg : kGh (kGP (kUP RO)) ρ γ H) {hl b one x n N p be : sL} {zh zb zo zx zn zN zp ze : Int} (e1 : sEv ρ hl = some zh) (e2 : sEv ρ b = some zb) (e3 : sEv ρ one = some zo) (e4 : sEv ρ x = some zx) (e5 : sEv ρ n = some zn) (e6 : sEv ρ N = some zN) (e7 : sEv ρ p = some zp) (e8 : sEv ρ be = some ze) (h : kHav γ 300 [hl, b, one, x, n, N, p, be] = true) : ∃ g fn fk fl f, kLg 84 360 g H ∧ nW3 fn fk fl H ∧ nI2 H 29 5840 f ∧ pDn (pQ H g fn fk fl zh zb zo zx zn zN) f zp ze := by
  obtain ⟨zs, ez, g, fn, fk, fl, hG, hW, hP⟩ := sfHv hg (Or.inl rfl) e1 e2 e3 e4 e5 e6 h
  cases sfVe ez (sfV2 e7 e8)
  obtain ⟨f, f1, f2⟩ : ∃ f, nI2 H 29 5840 f ∧ pDn (pQ H g fn fk fl zh zb zo zx zn zN) f zp ze := hP
  exact ⟨g, fn, fk, fl, f, hG, hW, f1, f2⟩
theorem sfRMa {hl b one x n N p be : sL} {zh zb zo zx zn zN zp ze : Int} (e1 : sEv ρ hl = some zh) (e2 : sEv ρ b = some zb) (e3 : sEv ρ one = some zo) (e4 : sEv ρ x = some zx) (e5 : sEv ρ n = some zn) (e6 : sEv ρ N = some zN) (e7 : sEv ρ p = some zp) (e8 : sEv ρ be = some ze) {g : Nat → Int64} {fn fk fl f : Nat → Int32} (hG : kLg 84 360 g H) (hW : nW3 fn fk fl H) (hf : nI2 H 29 5840 f) (h : pDn (pQ H g fn fk fl zh zb zo zx zn zN) f zp ze) : kGh (kGP (kUP RO)) ρ [(300, [hl, b, one, x, n, N, p, be])] H :=
  sfAr (Or.inl rfl) e1 e2 e3 e4 e5 e6 (sfV2 e7 e8) hG hW (show ∃ f, nI2 H 29 5840 f ∧ pDn (pQ H g fn fk fl zh zb zo zx zn zN) f zp ze from ⟨f, hf, h⟩)
theorem sfRMk_ok (zn : Nat) : kRok RO (sfRMk zn) := by
  intro K ws h ρ R hD
  have hM := hD.1
  unfold sfRMk at h
  split at h
  · rename_i hl b one x n N p m be hQ hp hm hbe
    split at h
    · rename_i y hy
      split at h
      · rename_i z hz
        split at h
        · rename_i hc
          cases h
          simp only [Bool.and_eq_true, decide_eq_true_eq] at hc
          obtain ⟨c1, c2, c3, c4, c5⟩ := hc
          obtain ⟨zh, zb, zo, zx, zn', zN, v, zv, eh, eb, eo, ex, en, eN, hv, ev, hk, hS⟩ := sfQ_ok hD hQ
          obtain ⟨zp, ep⟩ := kLf_ok hD.2.1 hp
          obtain ⟨zm, em⟩ := kLf_ok hD.2.1 hm
          obtain ⟨ze, ee⟩ := kLf_ok hD.2.1 hbe
          have ez := nDl_ok hM (nDl_ok hM em ee hy) (sEv_C 1) hz
          have hz0 := sK_ok hM.1 ez c1
          obtain ⟨ze', ee', b0, b1⟩ := sWf_has hM c4
          cases ee'.symm.trans ee
          have d5 := sNN_ok hM (sEv_sub (sEv_sub en ep) (sEv_C 1)) c5
          obtain ⟨g, fn, fk, fl, f, hG, hW, hf, hDn⟩ := sfRMe hD.2.2 eh eb eo ex en eN ep ee c2
          obtain ⟨zs, e3, k3⟩ := kHav_ok hD.2.2 c3 (by decide)
          obtain ⟨y1, y2, y3, y4, y5, rfl, f1, f2, f3, f4, f5⟩ := sVal_5 e3
          cases f1.symm.trans eb
          cases f2.symm.trans en
          cases f3.symm.trans ep
          cases f4.symm.trans eN
          cases f5.symm.trans em
          obtain ⟨a1, a2, a3, a4, a5, he, g', fn', fk', hG', hN', hK', hB⟩ : ∃ b n k w m, [zb, zn', zp, zN, zm] = [b, n, k, w, m] ∧ pBB R.2.2.2.1 b n k w m := (sfUP (by decide)).mp ((kUPn (by decide)).mp k3)
          cases he
          cases kLg_one hG hG'
          cases hW.1.symm.trans hN'
          cases hW.2.1.symm.trans hK'
          have hbit : aBtt zm ze.toNat = false := sfBit (by omega) (by rw [show ((ze.toNat : Nat) : Int) = ze by omega]; exact hz0)
          refine ⟨_, List.mem_singleton.mpr rfl, sfRMa eh eb eo ex en eN ep (sEv_add ee (sEv_C 1)) hG hW hf (pDn_skip (fun q => ?_) hDn), fun b hb => by cases hb⟩
          have hbt := (hB.2 ze.toNat (by omega)).mpr (by
            rcases q with ⟨q1, q2⟩ | ⟨q1, w, w0, w1, q2, q3⟩
            · exact Or.inl ⟨q1, by omega⟩
            · refine Or.inr ⟨q1, w, w0, w1, q2, ?_⟩
              rw [show ((ze.toNat : Nat) : Int) = ze by omega, q3]
              have q2 : (fk w.toNat).toInt = jW g zb (zp - 1).toNat := q2
              show (if jW g zb zp.toNat = (fk w.toNat).toInt then (fn w.toNat).toInt else 0) = pBc g fn zb zn' zp w
              unfold pBc
              rw [q2]
              by_cases e : jW g zb zp.toNat = jW g zb (zp - 1).toNat
              · rw [if_pos e, if_pos ⟨by omega, e⟩]
              · rw [if_neg e, if_neg (fun q => e q.2)])
          rw [hbit] at hbt
          cases hbt
        · cases h
      · cases h
    · cases h
  · cases h
theorem sfRMn_ok (zn : Nat) : kRok RO (sfRMn zn) := by
  intro K ws h ρ R hD
  have hM := hD.1
  unfold sfRMn at h
  split at h
  · rename_i hl b one x n N p be hQ hp hbe
    split at h
    · rename_i hc
      cases h
      rw [Bool.and_eq_true] at hc
      obtain ⟨zh, zb, zo, zx, zn', zN, v, zv, eh, eb, eo, ex, en, eN, hv, ev, hk, hS⟩ := sfQ_ok hD hQ
      obtain ⟨zp, ep⟩ := kLf_ok hD.2.1 hp
      obtain ⟨ze, ee⟩ := kLf_ok hD.2.1 hbe
      have d := sNN_ok hM (sEv_sub ee (sEv_C 10)) hc.2
      obtain ⟨g, fn, fk, fl, f, hG, hW, hf, hDn⟩ := sfRMe hD.2.2 eh eb eo ex en eN ep ee hc.1
      exact ⟨_, List.mem_singleton.mpr rfl, sfRMa eh eb eo ex en eN (sEv_sub ep (sEv_C 1)) (sEv_C 0) hG hW hf (pDn_pl (by omega) hDn), fun b hb => by cases hb⟩
    · cases h
  · cases h
theorem sfRMz_ok (zn : Nat) : kRok RO (sfRMz zn) := by
  intro K ws h ρ R hD
  have hM := hD.1
  unfold sfRMz at h
  split at h
  · rename_i hl b one x n N p hQ hp
    split at h
    · rename_i hc
      cases h
      simp only [Bool.and_eq_true] at hc
      obtain ⟨-, c2, c3⟩ := hc
      obtain ⟨zh, zb, zo, zx, zn', zN, v, zv, eh, eb, eo, ex, en, eN, hv, ev, hk, hS⟩ := sfQ_ok hD hQ
      obtain ⟨zp, ep⟩ := kLf_ok hD.2.1 hp
      have := kEqf_ok hM ep (sEv_C (-1)) c3
      subst this
      obtain ⟨g, fn, fk, fl, f, hG, hW, hf, hDn⟩ := sfRMe hD.2.2 eh eb eo ex en eN ep (sEv_C 0) c2
      exact ⟨_, List.mem_singleton.mpr rfl, sfRMa eh eb eo ex en eN (sEv_C (-1)) (sEv_C 0) hG hW hf hDn, fun b hb => by cases hb⟩
    · cases h
  · cases h
theorem sfAtC {k b m : sL} {zk zb zm : Int} (e1 : sEv ρ k = some zk) (e2 : sEv ρ b = some zb) (e3 : sEv ρ m = some zm) (h : pRC H zk zb zm) : kGh (kGP (kUP RO)) ρ [(301, [k, b, m])] H := kAt1 (zs := [zk, zb, zm]) (by decide) (by simp only [sVal, e1, e2, e3]) ((kUPn (by decide)).mpr ((sfUP (by decide)).mpr (show ∃ k be m, [zk, zb, zm] = [k, be, m] ∧ pRC H k be m from ⟨_, _, _, rfl, h⟩)))
theorem sfRC0_ok : kRok RO sfRC0 := by
  intro K ws h ρ R hD
  unfold sfRC0 at h
  split at h
  · rename_i p b s i hp hb hs hi hno
    split at h
    · rename_i hc
      cases h
      simp only [Bool.and_eq_true, decide_eq_true_eq] at hc
      obtain ⟨-, -, c3⟩ := hc
      obtain ⟨zp, ep⟩ := kLf_ok hD.2.1 hp
      obtain ⟨zb, eb⟩ := kLf_ok hD.2.1 hb
      obtain ⟨f, hf⟩ := kSh1 hD.2.1.2.2.2.1 (by decide) rfl c3
      exact ⟨_, List.mem_singleton.mpr rfl, sfAtC ep eb (sEv_C 0) ⟨f, hf, fun s s0 s1 => by omega⟩, fun b hb => by cases hb⟩
    · cases h
  · cases h
theorem sfRCe (hg : kGh (kGP (kUP RO)) ρ γ H) {p b i : sL} {zp zb zi : Int} (ep : sEv ρ p = some zp) (eb : sEv ρ b = some zb) (ei : sEv ρ i = some zi) (h : kHav γ 301 [p, b, i] = true) : pRC H zp zb zi := by
  obtain ⟨zs, e3, k3⟩ := kHav_ok hg h (by decide)
  obtain ⟨y1, y2, y3, rfl, f1, f2, f3⟩ := sVal_3 e3
  cases f1.symm.trans ep
  cases f2.symm.trans eb
  cases f3.symm.trans ei
  obtain ⟨a1, a2, a3, he, hC⟩ : ∃ k be m, [zp, zb, zi] = [k, be, m] ∧ pRC H k be m := (sfUP (by decide)).mp ((kUPn (by decide)).mp k3)
  cases he
  exact hC
theorem sfRCs_ok : kRok RO sfRCs := by
  intro K ws h ρ R hD
  have hM := hD.1
  unfold sfRCs at h
  split at h
  · rename_i p b i hp hb hi
    split at h
    · rename_i hc
      cases h
      simp only [Bool.and_eq_true, decide_eq_true_eq] at hc
      obtain ⟨c1, c2, c3⟩ := hc
      obtain ⟨zp, ep⟩ := kLf_ok hD.2.1 hp
      obtain ⟨zb, eb⟩ := kLf_ok hD.2.1 hb
      obtain ⟨zi, ei⟩ := kLf_ok hD.2.1 hi
      obtain ⟨f, f1, f2⟩ := sfRCe hD.2.2 ep eb ei c1
      have ea := sEv_add (sfA_ev ep eb) ei
      obtain ⟨z, e2, k2⟩ := kFindEl_ok hD.2.2 c2 ea
      cases e2.symm.trans (sEv_C (ρ := ρ) (-1))
      refine ⟨_, List.mem_singleton.mpr rfl, sfAtC ep eb (sEv_add ei (sEv_C 1)) ⟨f, f1, fun s s0 s1 => ?_⟩, fun b hb => by cases hb⟩
      by_cases e : s = zi
      · subst e
        rw [(kElA k2 f1).2]
        decide
      · exact f2 s s0 (by omega)
    · cases h
  · cases h
theorem sfRLa {hl b one x n N p be w t : sL} {zh zb zo zx zn zN zp ze zw zt : Int} (e1 : sEv ρ hl = some zh) (e2 : sEv ρ b = some zb) (e3 : sEv ρ one = some zo) (e4 : sEv ρ x = some zx) (e5 : sEv ρ n = some zn) (e6 : sEv ρ N = some zN) (e7 : sEv ρ p = some zp) (e8 : sEv ρ be = some ze) (e9 : sEv ρ w = some zw) (e10 : sEv ρ t = some zt) {g : Nat → Int64} {fn fk fl f : Nat → Int32} (hG : kLg 84 360 g H) (hW : nW3 fn fk fl H) (hf : nI2 H 29 5840 f) (h : pPt (pQ H g fn fk fl zh zb zo zx zn zN) f zp ze zw zt) : kGh (kGP (kUP RO)) ρ [(302, [hl, b, one, x, n, N, p, be, w, t])] H :=
  sfAr (Or.inr (Or.inl ⟨by decide, by decide⟩)) e1 e2 e3 e4 e5 e6 (sfV4 e7 e8 e9 e10) hG hW (show ∃ f, nI2 H 29 5840 f ∧ pPt (pQ H g fn fk fl zh zb zo zx zn zN) f zp ze zw zt from ⟨f, hf, h⟩)
theorem sfRLx (hg : kGh (kGP (kUP RO)) ρ γ H) {hl b one x n N p be w t : sL} {zh zb zo zx zn zN zp ze zw zt : Int} (e1 : sEv ρ hl = some zh) (e2 : sEv ρ b = some zb) (e3 : sEv ρ one = some zo) (e4 : sEv ρ x = some zx) (e5 : sEv ρ n = some zn) (e6 : sEv ρ N = some zN) (e7 : sEv ρ p = some zp) (e8 : sEv ρ be = some ze) (e9 : sEv ρ w = some zw) (e10 : sEv ρ t = some zt) (h : kHav γ 302 [hl, b, one, x, n, N, p, be, w, t] = true) : ∃ g fn fk fl f, kLg 84 360 g H ∧ nW3 fn fk fl H ∧ nI2 H 29 5840 f ∧ pPt (pQ H g fn fk fl zh zb zo zx zn zN) f zp ze zw zt := by
  obtain ⟨zs, ez, g, fn, fk, fl, hG, hW, hP⟩ := sfHv hg (Or.inr (Or.inl ⟨by decide, by decide⟩)) e1 e2 e3 e4 e5 e6 h
  cases sfVe ez (sfV4 e7 e8 e9 e10)
  obtain ⟨f, f1, f2⟩ : ∃ f, nI2 H 29 5840 f ∧ pPt (pQ H g fn fk fl zh zb zo zx zn zN) f zp ze zw zt := hP
  exact ⟨g, fn, fk, fl, f, hG, hW, f1, f2⟩
theorem sfRL0_ok (zn : Nat) : kRok RO (sfRL0 zn) := by
  intro K ws h ρ R hD
  have hM := hD.1
  unfold sfRL0 at h
  split at h
  · rename_i hl b one x n N p be w hQ hp hbe hw hno
    split at h
    · rename_i fs hfa
      split at h
      · rename_i hc
        cases h
        simp only [Bool.and_eq_true, decide_eq_true_eq] at hc
        obtain ⟨rfl, c2, c3, c4, c5⟩ := hc
        obtain ⟨zh, zb, zo, zx, zn', zN, v, zv, eh, eb, eo, ex, en, eN, hv, ev, hk, S, g, s1, hG, s3, s4⟩ := sfQ_ok hD hQ
        obtain ⟨zp, ep⟩ := kLf_ok hD.2.1 hp
        obtain ⟨ze, ee⟩ := kLf_ok hD.2.1 hbe
        obtain ⟨fn, fk, fl, hW⟩ := sfNE_ok hD.2.2 c4
        have d2 := sNN_ok hM ex c2
        have d5 := sNN_ok hM (sEv_sub (sEv_sub en ep) (sEv_C 1)) c5
        obtain ⟨q, zs, e3, k3⟩ := nFa_ok hD.2.2 hfa (by decide) (by decide)
        unfold sfRCq at q
        split at q
        · rename_i p' b' m'
          simp only [Bool.and_eq_true, decide_eq_true_eq] at q
          obtain ⟨rfl, rfl, q3⟩ := q
          obtain ⟨y1, y2, y3, rfl, f1, f2, f3⟩ := sVal_3 e3
          cases f1.symm.trans ep
          cases f2.symm.trans ee
          have d3 := sNN_ok hM (sEv_sub f3 (sEv_C 73)) q3
          obtain ⟨a1, a2, a3, he, f, h1, h2⟩ : ∃ k be m, [zp, ze, y3] = [k, be, m] ∧ pRC R.2.2.2.1 k be m := (sfUP (by decide)).mp k3
          cases he
          obtain ⟨hL, hN⟩ := sfLg_ok hD eN c3 hW (g := g) (zh := zh) (zb := zb) (zo := zo) (zx := zx) (zn := zn')
          exact ⟨_, List.mem_singleton.mpr rfl, sfRLa eh eb eo ex en eN ep ee (sEv_C 0) (sEv_C 0) hG hW h1 (pPt_0 hL hN d2 (by show zp < zn'; omega) (fun s s0 s1 => h2 s s0 (by omega))), fun b hb => by cases hb⟩
        · cases q
      · cases h
    · cases h
  · cases h
theorem sfRLk_ok (zn : Nat) : kRok RO (sfRLk zn) := by
  intro K ws h ρ R hD
  have hM := hD.1
  unfold sfRLk at h
  split at h
  · rename_i hl b one x n N p be w hQ hp hbe hw
    split at h
    · rename_i x1 x2 x3 x4 x5 x6 x7 x8 x9 t hfa
      split at h
      · rename_i hc
        cases h
        simp only [Bool.and_eq_true] at hc
        obtain ⟨c1, c2, c3, c4⟩ := hc
        obtain ⟨zh, zb, zo, zx, zn', zN, v, zv, eh, eb, eo, ex, en, eN, hv, ev, hk, hS⟩ := sfQ_ok hD hQ
        obtain ⟨zp, ep⟩ := kLf_ok hD.2.1 hp
        obtain ⟨ze, ee⟩ := kLf_ok hD.2.1 hbe
        obtain ⟨zw, ew⟩ := kLf_ok hD.2.1 hw
        have d2 := sNN_ok hM ew c2
        have d3 := sNN_ok hM (sEv_sub (sEv_sub en ep) (sEv_C 1)) c3
        obtain ⟨fs, hfs, zs, ez, g, fn, fk, fl, hG, hW, hP⟩ := sfFa hD.2.2 (Or.inr (Or.inl ⟨by decide, by decide⟩)) eh eb eo ex en eN (q := [p, be, w]) (fun _ hq => hq) hfa
        simp only [List.cons_append, List.nil_append, List.cons.injEq] at hfs
        obtain ⟨-, -, -, -, -, -, -, -, -, hfs⟩ := hfs
        subst hfs
        obtain ⟨y1, y2, y3, zt, rfl, f1, f2, f3, et⟩ := sVal_4 ez
        cases f1.symm.trans ep
        cases f2.symm.trans ee
        cases f3.symm.trans ew
        obtain ⟨f, h1, h2⟩ : ∃ f, nI2 R.2.2.2.1 29 5840 f ∧ pPt (pQ R.2.2.2.1 g fn fk fl zh zb zo zx zn' zN) f zp ze zw zt := hP
        obtain ⟨hL, hN⟩ := sfLg_ok hD eN c1 hW (g := g) (zh := zh) (zb := zb) (zo := zo) (zx := zx) (zn := zn')
        refine ⟨_, List.mem_singleton.mpr rfl, sfRLa eh eb eo ex en eN ep ee (sEv_add ew (sEv_C 1)) (sEv_C 0) hG hW h1 (pPt_next hL hN (by show zp < zn'; omega) d2 h2 ?_), fun b hb => by cases hb⟩
        unfold sfRLc at c4
        simp only [Bool.or_eq_true, Bool.and_eq_true, decide_eq_true_eq] at c4
        rcases c4 with ⟨-, c4⟩ | c4
        · obtain ⟨-, -, -, -, hiff⟩ := sfKi_ok hM hD.2.2 hG hW hS ew ep en c4
          exact Or.inl (fun r s => pF_kin (fun q => Bool.false_ne_true (hiff.mpr q)))
        · have d4 := sNN_ok hM (sEv_sub et (sEv_add (sEv_mul 9 (sEv_sub (sEv_sub en ep) (sEv_C 1))) (sEv_C 1))) c4
          exact Or.inr (by show 9 * (zn' - zp - 1) < zt; omega)
      · cases h
    · cases h
  · cases h
theorem sfMx_ok (hM : sMo ρ Γ) {nw old x rg : sL} {zn zo zx zr : Int} (e1 : sEv ρ nw = some zn) (e2 : sEv ρ old = some zo) (e3 : sEv ρ x = some zx) (e4 : sEv ρ rg = some zr) (h : sfMx Γ nw old x rg = true) : zn = max zo (min zx zr) := by
  unfold sfMx at h
  simp only [Bool.or_eq_true, Bool.and_eq_true] at h
  rcases h with ⟨a, b | b⟩ | ⟨a, b | b⟩
  · have a := sNN_ok hM (sEv_sub e4 e3) a
    have c := kEqf_ok hM e1 e2 b.1
    have d := sNN_ok hM (sEv_sub e2 e3) b.2
    omega
  · have a := sNN_ok hM (sEv_sub e4 e3) a
    have c := kEqf_ok hM e1 e3 b.1
    have d := sNN_ok hM (sEv_sub e3 e2) b.2
    omega
  · have a := sNN_ok hM (sEv_sub e3 e4) a
    have c := kEqf_ok hM e1 e2 b.1
    have d := sNN_ok hM (sEv_sub e2 e4) b.2
    omega
  · have a := sNN_ok hM (sEv_sub e3 e4) a
    have c := kEqf_ok hM e1 e4 b.1
    have d := sNN_ok hM (sEv_sub e4 e2) b.2
    omega
theorem sfRRe (hg : kGh (kGP (kUP RO)) ρ γ H) {hl b one x n N p w t r : sL} {zh zb zo zx zn zN zp zw zt zr : Int} (e1 : sEv ρ hl = some zh) (e2 : sEv ρ b = some zb) (e3 : sEv ρ one = some zo) (e4 : sEv ρ x = some zx) (e5 : sEv ρ n = some zn) (e6 : sEv ρ N = some zN) (e7 : sEv ρ p = some zp) (e8 : sEv ρ w = some zw) (e9 : sEv ρ t = some zt) (e10 : sEv ρ r = some zr) (h : kHav γ 304 [hl, b, one, x, n, N, p, w, t, r] = true) : pC H zh zb zo zx zn zN (fun P => pRR P zp zw zt zr) := by
  obtain ⟨zs, ez, hC⟩ := sfHv hg (Or.inr (Or.inl ⟨by decide, by decide⟩)) e1 e2 e3 e4 e5 e6 h
  cases sfVe ez (sfV4 e7 e8 e9 e10)
  exact hC
theorem sfRLs_ok (zn : Nat) : kRok RO (sfRLs zn) := by
  intro K ws h ρ R hD
  have hM := hD.1
  unfold sfRLs at h
  split at h
  · rename_i hl b one x n N v p be w t ro hQ hv hp hbe hw ht hro
    obtain ⟨zh, zb, zo, zx, zn', zN, v', zv, eh, eb, eo, ex, en, eN, hv', ev, hk, hS⟩ := sfQ_ok hD hQ
    cases hv'.symm.trans hv
    obtain ⟨zp, ep⟩ := kLf_ok hD.2.1 hp
    obtain ⟨ze, ee⟩ := kLf_ok hD.2.1 hbe
    obtain ⟨zw, ew⟩ := kLf_ok hD.2.1 hw
    obtain ⟨zt, et⟩ := kLf_ok hD.2.1 ht
    obtain ⟨zr, er⟩ := kLf_ok hD.2.1 hro
    split at h
    · rename_i hc
      simp only [Bool.and_eq_true, decide_eq_true_eq] at hc
      obtain ⟨c1, c2, c3⟩ := hc
      have hRR := sfRRe hD.2.2 eh eb eo ex en eN (sEv_add ep (sEv_C 1)) ew et er c1
      have dx := sNN_ok hM ex c3
      have et1 := sEv_add et (sEv_C (ρ := ρ) 1)
      split at h
      · rename_i hn
        have dn := sNN_ok hM (sEv_sub (sEv_C (-1)) er) hn
        split at h
        · rename_i h302
          cases h
          obtain ⟨g, fn, fk, fl, f, hG, hW, hf, hPt⟩ := sfRLx hD.2.2 eh eb eo ex en eN ep ee ew et h302
          obtain ⟨w0, w16, p0, p1, hiff⟩ := sfKi_ok hM hD.2.2 hG hW hS ew ep en c2
          have hkin := hiff.mp rfl
          have hr := pRR_k (P := pQ R.2.2.2.1 g fn fk fl zh zb zo zx zn' zN) p0 hkin (sfPt hG hW hRR)
          exact ⟨_, List.mem_singleton.mpr rfl, sfRLa eh eb eo ex en eN ep ee ew et1 hG hW hf (pPt_no (g := 0) sfFn dx hkin hPt hr (by omega)), fun b hb => by cases hb⟩
        · cases h
      · split at h
        · rename_i x1 x2 x3 x4 x5 x6 x7 x8 x9 x10 e old gg l hfa hgv hl'
          split at h
          · rename_i nw hnw
            split at h
            · rename_i hc2
              cases h
              simp only [Bool.and_eq_true, decide_eq_true_eq] at hc2
              obtain ⟨f1, f2, rfl, f4, f5, f6, f7, f8⟩ := hc2
              obtain ⟨fs, hfs, zs, ez, g, fn, fk, fl, hG, hW, hP⟩ := sfFa hD.2.2 (Or.inr (Or.inl ⟨by decide, by decide⟩)) eh eb eo ex en eN (q := [p, be, w, t]) (fun _ hq => hq) hfa
              simp only [List.cons_append, List.nil_append, List.cons.injEq] at hfs
              obtain ⟨-, -, -, -, -, -, -, -, -, -, hfs⟩ := hfs
              subst hfs
              obtain ⟨y1, y2, y3, y4, y5, y6, rfl, k1, k2, k3, k4, k5, k6⟩ := sVal_6 ez
              cases k1.symm.trans ep
              cases k2.symm.trans ee
              cases k3.symm.trans ew
              cases k4.symm.trans et
              obtain ⟨w0, w16, p0, p1, hiff⟩ := sfKi_ok hM hD.2.2 hG hW hS ew ep en c2
              have hkin := hiff.mp rfl
              have hr := pRR_k (P := pQ R.2.2.2.1 g fn fk fl zh zb zo zx zn' zN) p0 hkin (sfPt hG hW hRR)
              obtain ⟨zg, eg, hg⟩ := sfGv_ok hD.2.2 eh ew ep ee ev hk hgv
              obtain ⟨zl, el, kl⟩ := kFindEl_ok hD.2.2 hl' ew
              have hl9 : (fl zw.toNat).toInt = zl := n32i (sfRng _) (sWi_ok hM.1 el f1) (by rw [Int32.ofInt_toInt]; exact (kElA kl hW.2.2).2)
              have ee2 := sEv_add (sEv_add (sfA_ev ep ee) el) et
              cases k5.symm.trans ee2
              obtain ⟨znw, enw, knw⟩ := kFindEl_ok hD.2.2 hnw ee2
              have d2 := sNN_ok hM er f2
              have d6 := sNN_ok hM (sfA_ev ep ee) f6
              have d7 := sNN_ok hM (sEv_add el et) f7
              have hmx := sfMx_ok hM enw k6 ex (sEv_sub er eg) f8
              obtain ⟨f, f0, h1, h2, h3, h4, h5⟩ : ∃ (f f0 : Nat → Int32), nI2 R.2.2.2.1 29 5840 f ∧ 0 ≤ 730 * zp + 73 * ze + zl + zt ∧ f0 (730 * zp + 73 * ze + zl + zt).toNat = Int32.ofInt y6 ∧ (∀ i : Nat, i ≠ (730 * zp + 73 * ze + zl + zt).toNat → f i = f0 i) ∧ pPt (pQ R.2.2.2.1 g fn fk fl zh zb zo zx zn' zN) f0 zp ze zw zt := hP
              have ei : 730 * zp + 73 * ze + ((fl zw.toNat).toInt + zt) = 730 * zp + 73 * ze + zl + zt := by omega
              have vn : (f (730 * zp + 73 * ze + zl + zt).toNat).toInt = znw := by
                rw [(kElA knw h1).2]
                exact n32i (sfRng _) (sWi_ok hM.1 enw f4) (by rw [Int32.ofInt_toInt])
              have vo : (f0 (730 * zp + 73 * ze + zl + zt).toNat).toInt = y6 := by
                rw [h3]
                exact n32i (sfRng _) (sWi_ok hM.1 k6 f5) (by rw [Int32.ofInt_toInt])
              have fin := pPt_put (P := pQ R.2.2.2.1 g fn fk fl zh zb zo zx zn' zN) (f := f0) (f' := f) (g := zg) sfFn dx hkin hg h5 hr d2 d6 (by show 0 ≤ (fl zw.toNat).toInt + zt; omega)
                (by show ∀ i : Nat, i ≠ (730 * zp + 73 * ze + ((fl zw.toNat).toInt + zt)).toNat → f i = f0 i; rw [ei]; exact h4)
                (by
                  intro hlt
                  have hlt : (fl zw.toNat).toInt + zt < 73 := hlt
                  have q := (h5 ((fl zw.toNat).toInt + zt) (by omega) hlt).1
                  rw [ei, vo] at q
                  have q : y6 ≤ zx := q
                  show (f (730 * zp + 73 * ze + ((fl zw.toNat).toInt + zt)).toNat).toInt ≤ zx
                  rw [ei, vn]
                  omega)
                (by
                  intro r r0 r1
                  have r1 : r ≤ zx := r1
                  show r ≤ (f (730 * zp + 73 * ze + ((fl zw.toNat).toInt + zt)).toNat).toInt ↔ (r ≤ (f0 (730 * zp + 73 * ze + ((fl zw.toNat).toInt + zt)).toNat).toInt ∨ r ≤ zr - zg)
                  rw [ei, vn, vo]
                  omega)
              exact ⟨_, List.mem_singleton.mpr rfl, sfRLa eh eb eo ex en eN ep ee ew et1 hG hW h1 fin, fun b hb => by cases hb⟩
            · cases h
          · cases h
        · cases h
    · cases h
  · cases h
theorem sfRLv_ok {K : kS} {L : List kS} (h : sfRLv K = some L) {ρ : List Int} {R : eR} (hD : kD (kGP (kUP RO)) ρ K R) : ∃ K' ∈ L, ∃ ρ', ρ <+: ρ' ∧ kD (kGP (kUP RO)) ρ' K' R := by
  have same : ∀ K0 : kS, K0 = K → some [K0] = some L → ∃ K' ∈ L, ∃ ρ', ρ <+: ρ' ∧ kD (kGP (kUP RO)) ρ' K' R := fun K0 e g => by
    cases g
    subst e
    exact ⟨_, List.mem_singleton.mpr rfl, ρ, List.prefix_refl _, hD⟩
  unfold sfRLv at h
  split at h
  · rename_i pc ls v i a st G c s Γ γ
    split at h
    · exact same _ rfl h
    · split at h
      · rename_i hw
        cases h
        have hM : sMo ρ Γ := hD.1
        obtain ⟨zv, r1, hr1, ev, hV⟩ := sVs_int hD.2.1.2.2.1
        obtain ⟨z', hz', h1, h2⟩ := sWf_has hM hw
        cases hz'.symm.trans ev
        obtain ⟨m, h3⟩ := sFresh_ok (b := (-1, 99)) hM h1 h2
        have hpre : ρ <+: ρ ++ [zv] := ⟨_, rfl⟩
        have hv' := sEv_mono hpre ev
        refine ⟨_, List.mem_singleton.mpr rfl, ρ ++ [zv], hpre, ⟨m.1, fun f hf => ?_, m.2.2⟩, ⟨hD.2.1.1, hD.2.1.2.1.mono hpre, ?_, hD.2.1.2.2.2.1.mono hpre, hD.2.1.2.2.2.2⟩, kGh.mono _ hpre hD.2.2⟩
        · rcases List.mem_cons.mp hf with rfl | hf
          · exact ⟨0, by rw [sEv_sub hv' h3, Int.sub_self], Int.le_refl _⟩
          · rcases List.mem_cons.mp hf with rfl | hf
            · exact ⟨0, by rw [sEv_sub h3 hv', Int.sub_self], Int.le_refl _⟩
            · exact m.2.1 f hf
        · show sVs (ρ ++ [zv]) ((0, sX Γ.1.length) :: (0, i) :: a :: st) R.2.2.1
          rw [hr1]
          exact ⟨⟨zv, h3, rfl⟩, hV.mono hpre⟩
      · exact same _ rfl h
  · exact same _ rfl h
theorem sfRLe_ok (zn : Nat) : kRok RO (sfRLe zn) := by
  intro K ws h ρ R hD
  have hM := hD.1
  unfold sfRLe at h
  split at h
  · rename_i hl b one x n N p be w hQ hp hbe hw
    split at h
    · rename_i hc
      cases h
      simp only [Bool.and_eq_true] at hc
      obtain ⟨c1, c2, c3, c4, c5⟩ := hc
      obtain ⟨zh, zb, zo, zx, zn', zN, v, zv, eh, eb, eo, ex, en, eN, hv, ev, hk, hS⟩ := sfQ_ok hD hQ
      obtain ⟨zp, ep⟩ := kLf_ok hD.2.1 hp
      obtain ⟨ze, ee⟩ := kLf_ok hD.2.1 hbe
      obtain ⟨zw, ew⟩ := kLf_ok hD.2.1 hw
      have := kEqf_ok hM ew eN c3
      subst this
      have d5 := sNN_ok hM (sEv_sub (sEv_sub en ep) (sEv_C 1)) c5
      obtain ⟨g, fn, fk, fl, f, hG, hW, hf, hDn⟩ := sfRMe hD.2.2 eh eb eo ex en eN ep ee c1
      obtain ⟨g', fn', fk', fl', f', hG', hW', hf', hPt⟩ := sfRLx hD.2.2 eh eb eo ex en eN ep ee ew (sEv_C 0) c2
      cases kLg_one hG hG'
      cases hW.1.symm.trans hW'.1
      cases hW.2.1.symm.trans hW'.2.1
      cases hW.2.2.symm.trans hW'.2.2
      cases hf.symm.trans hf'
      obtain ⟨hL, hN⟩ := sfLg_ok hD eN c4 hW (g := g) (zh := zh) (zb := zb) (zo := zo) (zx := zx) (zn := zn')
      exact ⟨_, List.mem_singleton.mpr rfl, sfRMa eh eb eo ex en eN ep (sEv_add ee (sEv_C 1)) hG hW hf (pDn_add hDn (pPt_end hL hN (by show zp < zn'; omega) hPt)), fun b hb => by cases hb⟩
    · cases h
  · cases h
theorem sfBWe (hg : kGh (kGP (kUP RO)) ρ γ H) {p : List sL → Bool} {b n k w be : sL} (h : kFa γ 299 p = some [b, n, k, w, be]) : p [b, n, k, w, be] = true ∧ ∃ zb zn zk zw ze, sEv ρ b = some zb ∧ sEv ρ n = some zn ∧ sEv ρ k = some zk ∧ sEv ρ w = some zw ∧ sEv ρ be = some ze ∧ pBW H zb zn zk zw ze := by
  obtain ⟨h1, zs, e, h2⟩ := nFa_ok hg h (by decide) (by decide)
  obtain ⟨y1, y2, y3, y4, y5, rfl, f1, f2, f3, f4, f5⟩ := sVal_5 e
  obtain ⟨a1, a2, a3, a4, a5, he, hB⟩ : ∃ b n k w be, [y1, y2, y3, y4, y5] = [b, n, k, w, be] ∧ pBW H b n k w be := (sfUP (by decide)).mp h2
  cases he
  exact ⟨h1, _, _, _, _, _, f1, f2, f3, f4, f5, hB⟩
theorem sfRRr_ok (zn : Nat) : kRok RO (sfRRr zn) := by
  intro K ws h ρ R hD
  have hM := hD.1
  unfold sfRRr at h
  split at h
  · rename_i hl b one x n N p be t r hQ hp hbe ht hr
    obtain ⟨zh, zb, zo, zx, zn', zN, v, zv, eh, eb, eo, ex, en, eN, hv, ev, hk, S, g, s1, hG, s3, s4⟩ := sfQ_ok hD hQ
    obtain ⟨zp, ep⟩ := kLf_ok hD.2.1 hp
    obtain ⟨ze, ee⟩ := kLf_ok hD.2.1 hbe
    obtain ⟨zt, et⟩ := kLf_ok hD.2.1 ht
    split at h
    · rename_i b1 n1 p1 w be1 hfa
      obtain ⟨q, zb', zn2, zp', zw, ze', eb', en', ep', ew, ee', hBW⟩ := sfBWe hD.2.2 hfa
      unfold sfRRq at q
      simp only [Bool.and_eq_true, decide_eq_true_eq] at q
      obtain ⟨rfl, rfl, rfl, rfl⟩ := q
      cases eb'.symm.trans eb
      cases en'.symm.trans en
      cases ep'.symm.trans ep
      cases ee'.symm.trans ee
      have go : ∀ {zr : Int} {fn fk fl : Nat → Int32}, sEv ρ r = some zr → nW3 fn fk fl R.2.2.2.1 → pRR (pQ R.2.2.2.1 g fn fk fl zh zb zo zx zn' zN) zp zw zt zr → ∃ q ∈ [([((304, [hl, b1, one, x, n1, N, p1, w, t, r]) : kA)], ([] : List (sL × Int × Int)))], kGh (kGP (kUP RO)) ρ q.1 R.2.2.2.1 ∧ ∀ b ∈ q.2, ∃ z, sEv ρ b.1 = some z ∧ b.2.1 ≤ z ∧ z ≤ b.2.2 := fun er hW hR => ⟨_, List.mem_singleton.mpr rfl, sfAr (Or.inr (Or.inl ⟨by decide, by decide⟩)) eh eb eo ex en eN (sfV4 ep ew et er) hG hW hR, fun b hb => by cases hb⟩
      split at h
      · split at h
        · rename_i hc
          cases h
          simp only [Bool.or_eq_true, Bool.and_eq_true, decide_eq_true_eq] at hc
          obtain ⟨c1, c2, c3⟩ := hc
          have e1 := kEqf_ok hM ep en c1
          obtain ⟨fn, fk, fl, hW⟩ := sfNE_ok hD.2.2 c2
          rcases c3 with ⟨c3, rfl⟩ | ⟨rfl, c3, c4⟩
          · have e3 := kEqf_ok hM et (sEv_C 0) c3
            refine go ex hW (fun _ => ⟨Int.le_refl _, fun r r0 r1 => ⟨fun _ => r1, fun _ => (pW_end (by show zn' ≤ zp; omega)).mpr e3⟩⟩)
          · have e3 := nNe_ok hM et (sEv_C 0) c3
            have d4 := sNN_ok hM ex c4
            refine go (sEv_C (-1)) hW (fun _ => ⟨by show (-1 : Int) ≤ zx; omega, fun r r0 r1 => ⟨fun q => absurd ((pW_end (by show zn' ≤ zp; omega)).mp q) e3, fun q => by omega⟩⟩)
        · cases h
      · split at h
        · rename_i hc
          simp only [Bool.or_eq_true, Bool.and_eq_true, decide_eq_true_eq] at hc
          obtain ⟨c1, c2, c3, c4, c5, c6, c7⟩ := hc
          have d1 := sNN_ok hM (sEv_sub (sEv_sub en ep) (sEv_C 1)) c1
          have d2 := sNN_ok hM ep c2
          have d5 := sNN_ok hM (sEv_sub (sEv_C 8) en) c5
          have d7 := sNN_ok hM ex c7
          obtain ⟨fn, fk, fl, hW⟩ := sfNE_ok hD.2.2 c6
          obtain ⟨hL, hN⟩ := sfLg_ok hD eN c4 hW (g := g) (zh := zh) (zb := zb) (zo := zo) (zx := zx) (zn := zn')
          split at h
          · rename_i hc2
            split at h
            · rename_i hr1
              cases h
              subst hr1
              have ht' : zt < 0 ∨ 73 ≤ zt := by
                rcases Bool.or_eq_true_iff.mp hc2 with c | c
                · have := sNN_ok hM (sEv_sub (sEv_C (-1)) et) c
                  exact Or.inl (by omega)
                · have := sNN_ok hM (sEv_sub et (sEv_C 73)) c
                  exact Or.inr (by omega)
              refine go (sEv_C (-1)) hW (fun _ => ⟨by show (-1 : Int) ≤ zx; omega, fun r r0 r1 => ⟨fun q => ?_, fun q => by omega⟩⟩)
              have q2 := pW_rng hL hN (by show zp ≤ zn'; omega) q
              have q3 : zt ≤ 9 * (zn' - zp) := q2.2
              omega
            · cases h
          · split at h
            · rename_i hc2
              cases h
              simp only [Bool.and_eq_true, decide_eq_true_eq] at hc2
              obtain ⟨f1, f2, f3, f4, f5, f6⟩ := hc2
              have t1 := sNN_ok hM et f1
              have t2 := sNN_ok hM (sEv_sub (sEv_C 72) et) f2
              obtain ⟨ze2, ee2, b0, b1⟩ := sWf_has hM f5
              cases ee2.symm.trans ee
              have ea := sEv_add (sfA_ev ep ee) et
              obtain ⟨zr, er, kr⟩ := kFindEl_ok hD.2.2 f3 ea
              have rr := sWi_ok hM.1 er f4
              obtain ⟨gs, hgs⟩ := Option.isSome_iff_exists.mp f6
              obtain ⟨fs, hfs, zs, ez, hC⟩ := sfFa hD.2.2 (Or.inl rfl) eh eb eo ex en eN (q := []) (fun _ hq => (Bool.and_eq_true_iff.mp hq).1) hgs
              have hq2 := (Bool.and_eq_true_iff.mp (kFa_ok hD.2.2 hgs (by decide)).1).2
              subst hfs
              split at hq2
              · rename_i x1 x2 x3 x4 x5 x6 k0 b0' hm
                simp only [List.nil_append, List.cons.injEq] at hm
                obtain ⟨-, -, -, -, -, -, rfl⟩ := hm
                obtain ⟨zk, zb0, rfl, ek, eb0⟩ := sVal_2 ez
                have dk := sNN_ok hM (sEv_sub (sEv_sub ep ek) (sEv_C 1)) hq2
                obtain ⟨f, hf, hDn⟩ : ∃ f, nI2 R.2.2.2.1 29 5840 f ∧ pDn (pQ R.2.2.2.1 g fn fk fl zh zb zo zx zn' zN) f zk zb0 := sfPt hG hW hC
                obtain ⟨g', fn', hG', hN', hbe'⟩ := hBW
                cases kLg_one hG hG'
                cases hW.1.symm.trans hN'
                refine go er hW (fun hkin => ?_)
                have hbb : (if 0 < zp then pBb (pQ R.2.2.2.1 g fn fk fl zh zb zo zx zn' zN) zw zp else 0) = ze := by
                  rw [hbe']
                  by_cases h0 : 0 < zp
                  · rw [if_pos h0, if_pos h0]
                    have hkin : (fk zw.toNat).toInt = jW g zb (zp - 1).toNat := hkin h0
                    show (if jW g zb zp.toNat = (fk zw.toNat).toInt then (fn zw.toNat).toInt else 0) = pBc g fn zb zn' zp zw
                    unfold pBc
                    rw [hkin]
                    by_cases e : jW g zb zp.toNat = jW g zb (zp - 1).toNat
                    · rw [if_pos e, if_pos ⟨by omega, e⟩]
                    · rw [if_neg e, if_neg (fun q => e q.2)]
                  · rw [if_neg h0, if_neg h0]
                rw [hbb]
                have hbs : pBs (pQ R.2.2.2.1 g fn fk fl zh zb zo zx zn' zN) zp ze := by
                  by_cases h0 : 0 < zp
                  · rw [if_pos h0] at hbb
                    rcases c3 with ⟨w0, w1⟩ | c3
                    · have d8 := sNN_ok hM ew w0
                      have d9 := sNN_ok hM (sEv_sub (sEv_sub eN ew) (sEv_C 1)) w1
                      exact Or.inr ⟨h0, zw, d8, by show zw < zN; omega, hkin h0, hbb.symm⟩
                    · have := sK_ok hM.1 ep c3
                      omega
                  · rw [if_neg h0] at hbb
                    exact Or.inl ⟨by omega, hbb.symm⟩
                have fin := hDn zp ze d2 (by show zp < zn'; omega) hbs (Or.inl (by omega)) ⟨b0, by omega⟩ zt t1 (by omega)
                have vr : (f (730 * zp + 73 * ze + zt).toNat).toInt = zr := by
                  rw [(kElA kr hf).2]
                  exact n32i (sfRng _) rr (by rw [Int32.ofInt_toInt])
                rw [vr] at fin
                exact fin
              · cases hq2
            · cases h
        · cases h
    · cases h
  · cases h
theorem sfLZa {k : Nat} (hk : k = 305 ∨ k = 306) {hl b one x n N z : sL} {zh zb zo zx zn zN zz : Int} (e1 : sEv ρ hl = some zh) (e2 : sEv ρ b = some zb) (e3 : sEv ρ one = some zo) (e4 : sEv ρ x = some zx) (e5 : sEv ρ n = some zn) (e6 : sEv ρ N = some zN) (e7 : sEv ρ z = some zz) {g : Nat → Int64} {fn fk fl : Nat → Int32} (hG : kLg 84 360 g H) (hW : nW3 fn fk fl H) (h : pPr H (pQ H g fn fk fl zh zb zo zx zn zN) k [zz]) : kGh (kGP (kUP RO)) ρ [(k, [hl, b, one, x, n, N, z])] H := sfAr (by omega) e1 e2 e3 e4 e5 e6 (sfV1 e7) hG hW h
theorem sfLZi_ok (zn : Nat) : kRok RO (sfLZi zn) := by
  intro K ws h ρ R hD
  unfold sfLZi at h
  split at h
  · rename_i hl b one x n N z hQ hz hno
    split at h
    · rename_i hc
      cases h
      rw [Bool.and_eq_true] at hc
      obtain ⟨zh, zb, zo, zx, zn', zN, v, zv, eh, eb, eo, ex, en, eN, hv, ev, hk, S, g, s1, hG, s3, s4⟩ := sfQ_ok hD hQ
      obtain ⟨fn, fk, fl, hW⟩ := sfNE_ok hD.2.2 hc.2
      exact ⟨_, List.mem_singleton.mpr rfl, kGh_cons (sfLZa (Or.inl rfl) eh eb eo ex en eN (sEv_C 0) hG hW (show ∀ s, 0 ≤ s → s < 0 → ¬ pW (pQ R.2.2.2.1 g fn fk fl zh zb zo zx zn' zN) 0 0 0 s from fun s s0 s1 => by omega)) (sfAtW eb en (sEv_C 0) (sEv_C (-1)) (sEv_C 0) ⟨g, fn, hG, hW.1, by rw [if_neg (by decide)]⟩), fun b hb => by cases hb⟩
    · cases h
  · cases h
/-- the answer of roomFor at the start -/
theorem sfRR0 (hg : kGh (kGP (kUP RO)) ρ γ H) {hl b one x n N z ro a1 a2 a3 a4 a5 a6 a7 a8 a9 : sL} {zh zb zo zx zn zN zz : Int} (e1 : sEv ρ hl = some zh) (e2 : sEv ρ b = some zb) (e3 : sEv ρ one = some zo) (e4 : sEv ρ x = some zx) (e5 : sEv ρ n = some zn) (e6 : sEv ρ N = some zN) (e7 : sEv ρ z = some zz) (h : kFa γ 304 (tPre [hl, b, one, x, n, N, sC 0, sC (-1), z]) = some [a1, a2, a3, a4, a5, a6, a7, a8, a9, ro]) : ∃ zr g fn fk fl, sEv ρ ro = some zr ∧ kLg 84 360 g H ∧ nW3 fn fk fl H ∧ pRm (pQ H g fn fk fl zh zb zo zx zn zN) 0 0 zz zr := by
  obtain ⟨fs, hfs, zs, ez, g, fn, fk, fl, hG, hW, hP⟩ := sfFa hg (Or.inr (Or.inl ⟨by decide, by decide⟩)) e1 e2 e3 e4 e5 e6 (q := [sC 0, sC (-1), z]) (fun _ hq => hq) h
  simp only [List.cons_append, List.nil_append, List.cons.injEq] at hfs
  obtain ⟨-, -, -, -, -, -, -, -, -, hfs⟩ := hfs
  subst hfs
  obtain ⟨y1, y2, y3, zr, rfl, f1, f2, f3, er⟩ := sVal_4 ez
  cases f1.symm.trans (sEv_C 0)
  cases f2.symm.trans (sEv_C (-1))
  cases f3.symm.trans e7
  have hR : pRR (pQ H g fn fk fl zh zb zo zx zn zN) 0 (-1) zz zr := hP
  have q := hR (fun q => absurd q (by decide))
  rw [if_neg (by decide)] at q
  exact ⟨zr, g, fn, fk, fl, er, hG, hW, q⟩
theorem sfLZe0 (hg : kGh (kGP (kUP RO)) ρ γ H) {hl b one x n N z : sL} {zh zb zo zx zn zN zz : Int} (e1 : sEv ρ hl = some zh) (e2 : sEv ρ b = some zb) (e3 : sEv ρ one = some zo) (e4 : sEv ρ x = some zx) (e5 : sEv ρ n = some zn) (e6 : sEv ρ N = some zN) (e7 : sEv ρ z = some zz) (h : kHav γ 305 [hl, b, one, x, n, N, z] = true) {g : Nat → Int64} {fn fk fl : Nat → Int32} (hG : kLg 84 360 g H) (hW : nW3 fn fk fl H) : ∀ s, 0 ≤ s → s < zz → ¬ pW (pQ H g fn fk fl zh zb zo zx zn zN) 0 0 0 s := by
  obtain ⟨zs, ez, hC⟩ := sfHv hg (Or.inr (Or.inl ⟨by decide, by decide⟩)) e1 e2 e3 e4 e5 e6 h
  cases sfVe ez (sfV1 e7)
  exact sfPt hG hW hC
theorem sfLZs_ok (zn : Nat) : kRok RO (sfLZs zn) := by
  intro K ws h ρ R hD
  have hM := hD.1
  unfold sfLZs at h
  split at h
  · rename_i hl b one x n N z hQ hz
    split at h
    · rename_i a1 a2 a3 a4 a5 a6 a7 a8 a9 ro hfa
      split at h
      · rename_i hc
        cases h
        simp only [Bool.and_eq_true] at hc
        obtain ⟨c1, c2, c3⟩ := hc
        obtain ⟨zh, zb, zo, zx, zn', zN, v, zv, eh, eb, eo, ex, en, eN, hv, ev, hk, hS⟩ := sfQ_ok hD hQ
        obtain ⟨zz, ez⟩ := kLf_ok hD.2.1 hz
        obtain ⟨zr, g, fn, fk, fl, er, hG, hW, hR⟩ := sfRR0 hD.2.2 eh eb eo ex en eN ez hfa
        have h5 := sfLZe0 hD.2.2 eh eb eo ex en eN ez c1 hG hW
        have d2 := sNN_ok hM (sEv_sub (sEv_C (-1)) er) c2
        have d3 := sNN_ok hM ex c3
        refine ⟨_, List.mem_singleton.mpr rfl, sfLZa (Or.inl rfl) eh eb eo ex en eN (sEv_add ez (sEv_C 1)) hG hW (show ∀ s, 0 ≤ s → s < zz + 1 → ¬ pW (pQ R.2.2.2.1 g fn fk fl zh zb zo zx zn' zN) 0 0 0 s from fun s s0 s1 q => ?_), fun b hb => by cases hb⟩
        by_cases e : s = zz
        · subst e
          have := (hR.2 0 (by decide) d3).mp q
          omega
        · exact h5 s s0 (by omega) q
      · cases h
    · cases h
  · cases h
theorem sfLZe_ok (zn : Nat) : kRok RO (sfLZe zn) := by
  intro K ws h ρ R hD
  have hM := hD.1
  unfold sfLZe at h
  split at h
  · rename_i hl b one x n N z hQ hz
    obtain ⟨zh, zb, zo, zx, zn', zN, v, zv, eh, eb, eo, ex, en, eN, hv, ev, hk, hS⟩ := sfQ_ok hD hQ
    split at h
    · rename_i hz2
      subst hz2
      split at h
      · rename_i a1 a2 a3 a4 a5 a6 s hfa
        split at h
        · rename_i hc
          cases h
          simp only [Bool.and_eq_true] at hc
          obtain ⟨c1, c2, c3⟩ := hc
          obtain ⟨fs, hfs, zs, ez, g, fn, fk, fl, hG, hW, hP⟩ := sfFa hD.2.2 (Or.inr (Or.inl ⟨by decide, by decide⟩)) eh eb eo ex en eN (q := []) (fun _ hq => (Bool.and_eq_true_iff.mp hq).1) hfa
          have hq2 := (Bool.and_eq_true_iff.mp (kFa_ok hD.2.2 hfa (by decide)).1).2
          simp only at hq2
          simp only [List.nil_append, List.cons.injEq] at hfs
          obtain ⟨-, -, -, -, -, -, hfs⟩ := hfs
          subst hfs
          obtain ⟨zz, rfl, e1⟩ := sVal_1 ez
          have d := sNN_ok hM (sEv_sub e1 (sEv_C 73)) hq2
          have d2 := sNN_ok hM (sEv_sub (sEv_C 8) en) c2
          have d3 := sNN_ok hM en c3
          obtain ⟨hL, hN⟩ := sfLg_ok hD eN c1 hW (g := g) (zh := zh) (zb := zb) (zo := zo) (zx := zx) (zn := zn')
          have hP : ∀ s, 0 ≤ s → s < zz → ¬ pW (pQ R.2.2.2.1 g fn fk fl zh zb zo zx zn' zN) 0 0 0 s := hP
          refine ⟨_, List.mem_singleton.mpr rfl, sfLZa (Or.inr rfl) eh eb eo ex en eN (sEv_C (-2)) hG hW (show pLx (pQ R.2.2.2.1 g fn fk fl zh zb zo zx zn' zN) (-2) from Or.inl ⟨rfl, fun s q => ?_⟩), fun b hb => by cases hb⟩
          have q2 := pW_rng hL hN (by show 0 ≤ zn'; omega) q
          have q3 : s ≤ 9 * (zn' - 0) := q2.2
          exact hP s q2.1 (by omega) q
        · cases h
      · cases h
    · split at h
      · rename_i a1 a2 a3 a4 a5 a6 a7 a8 a9 ro hfa
        split at h
        · rename_i hc
          cases h
          simp only [Bool.and_eq_true] at hc
          obtain ⟨c1, c2, c3, c4, c5, c6⟩ := hc
          obtain ⟨zz, ez⟩ := nTop_ev hD.2.1 hz
          obtain ⟨zr, g, fn, fk, fl, er, hG, hW, hR⟩ := sfRR0 hD.2.2 eh eb eo ex en eN ez hfa
          have h5 := sfLZe0 hD.2.2 eh eb eo ex en eN ez c3 hG hW
          have d1 := sNN_ok hM er c1
          have d2 := sNN_ok hM ex c2
          have d4 := sNN_ok hM ez c4
          have d6 := sNN_ok hM en c6
          obtain ⟨hL, hN⟩ := sfLg_ok hD eN c5 hW (g := g) (zh := zh) (zb := zb) (zo := zo) (zx := zx) (zn := zn')
          refine ⟨_, List.mem_singleton.mpr rfl, sfLZa (Or.inr rfl) eh eb eo ex en eN ez hG hW (show pLx (pQ R.2.2.2.1 g fn fk fl zh zb zo zx zn' zN) zz from Or.inr ⟨d4, (hR.2 0 (by decide) d2).mpr d1, fun s hs q => ?_⟩), fun b hb => by cases hb⟩
          have q2 := pW_rng hL hN (by show 0 ≤ zn'; omega) q
          exact h5 s q2.1 hs q
        · cases h
      · cases h
  · cases h
end SFC
end
