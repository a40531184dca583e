/-! The shortest way to say it: the class' words. -/
noncomputable section
def sfLSp (zn : Nat) (K : kS) : Option kWs := match sfQ zn K, kTop K with
  | some (hl, b, one, x, n, N), some r => if (kHav K.2 306 [hl, b, one, x, n, N, r] && (!sNN K.1.2.2.2.2.2.2 r && (!decide (sK K.1.2.2.2.2.2.2.1 r = some (-2)) && sWf K.1.2.2.2.2.2.2 r (-2) 72))) = true then some [([], [(r, -2, -2)]), ([], [(r, 0, 72)])] else none
  | _, _ => none
def sfPBi (zn : Nat) (K : kS) : Option kWs := match sfQ zn K, kLf K.1.2.1 2, kLf K.1.2.1 3, kLf K.1.2.1 4, kLf K.1.2.1 5, kLf K.1.2.1 6, kFa K.2 314 (fun _ => true) with
  | some (hl, b, one, x, n, N), some s, some w, some be, some r, some p, none => if (decide (p = sC 0) && (decide (w = sC (-2)) && (decide (be = sC 0) && (decide (r = sC 0) && (kHav K.2 306 [hl, b, one, x, n, N, s] && sNN K.1.2.2.2.2.2.2 s))))) = true then some [([(314, [hl, b, one, x, n, N, sC 0, sC (-2), sC 0, sC 0, s])], [])] else none
  | _, _, _, _, _, _, _ => none
def sfPq (hl b one x n N p be r s : sL) (fs : List sL) : Bool := tPre [hl, b, one, x, n, N] fs && (match fs with
  | [_, _, _, _, _, _, p', _, be', r', s'] => decide (p' = p) && (decide (be' = be) && (decide (r' = r) && decide (s' = s)))
  | _ => false)
def sfPBn (zn : Nat) (K : kS) : Option kWs := match sfQ zn K, kLf K.1.2.1 2, kLf K.1.2.1 4, kLf K.1.2.1 5, kLf K.1.2.1 6, kTop K with
  | some (hl, b, one, x, n, N), some s, some be, some r, some p, some w => if (!sWi K.1.2.2.2.2.2.2.1 w 0 15 && (kHav K.2 316 [hl, b, one, x, n, N, p, be, r, s, w] && (sNN K.1.2.2.2.2.2.2 (sSub (sSub n p) (sC 1)) && (sNN K.1.2.2.2.2.2.2 (sSub (sC 16) N) && (sNN K.1.2.2.2.2.2.2 x && (kFa K.2 314 (sfPq hl b one x n N p be r s)).isSome))))) = true then some [([], [(w, 0, 15)])] else none
  | _, _, _, _, _, _ => none
def sfPBs (zn : Nat) (K : kS) : Option kWs := match sfQ zn K, nFf K.1.2.2.2.1 24 zn, kLf K.1.2.1 2, kLf K.1.2.1 3, kLf K.1.2.1 4, kLf K.1.2.1 5, kLf K.1.2.1 6 with
  | some (hl, b, one, x, n, N), some v, some s, some w, some be, some r, some p => (match kFa K.2 314 (tPre [hl, b, one, x, n, N, p]) with
    | some [_, _, _, _, _, _, _, w0, b0, r0, s0] => (match sfGv K.2 hl w p b0 v, kFindEl K.2 55 w with
      | some g, some l => if (sI32 K.1.2.2.2.2.2.2.1 l && (sNN K.1.2.2.2.2.2.2 w && (kHav K.2 316 [hl, b, one, x, n, N, p, b0, r0, s0, w] && (aIsp K.1.2.2.2.2.2.2 r (sAdd r0 g) && (decide (s = sSub s0 l) && (kHav K.2 299 [b, n, sAdd p (sC 1), w, be] && (sNN K.1.2.2.2.2.2.2 (sSub (sSub n p) (sC 1)) && (sfLg K N && (sNN K.1.2.2.2.2.2.2 (sSub (sC 8) n) && (sNN K.1.2.2.2.2.2.2 (sSub (sC 99) x) && sNN K.1.2.2.2.2.2.2 x)))))))))) = true then some [([(314, [hl, b, one, x, n, N, sAdd p (sC 1), w, be, r, s])], [(s, 0, 72), (r, 0, 99)])] else none
      | _, _ => none)
    | _ => none)
  | _, _, _, _, _, _, _ => none
def sfSq1 (Γ : sG) (hl b one x n N : sL) (fs : List sL) : Bool := tPre [hl, b, one, x, n, N] fs && (match fs with
  | [_, _, _, _, _, _, z] => decide (sK Γ.1 z = some (-2))
  | _ => false)
def sfSq2 (Γ : sG) (hl b one x n N kq : sL) (fs : List sL) : Bool := tPre [hl, b, one, x, n, N] fs && (match fs with
  | [_, _, _, _, _, _, p, _, _, _, _] => kEqf Γ p n && sNN Γ (sSub kq p)
  | _ => false)
def sfSq3 (Γ : sG) (hl b one x n N kq r : sL) (fs : List sL) : Bool := tPre [hl, b, one, x, n, N] fs && (match fs with
  | [_, _, _, _, _, _, p, w, _, _, _] => kEqf Γ p (sAdd kq (sC 1)) && decide (w = r)
  | _ => false)
def sfSWe (zn : Nat) (K : kS) : Option kWs := match sfQ zn K, kLf K.1.2.1 1, kTop K with
  | some (hl, b, one, x, n, N), some kq, some r => if r = sC (-2) then (if (sNN K.1.2.2.2.2.2.2 kq && ((kFa K.2 306 (sfSq1 K.1.2.2.2.2.2.2 hl b one x n N)).isSome || (kFa K.2 314 (sfSq2 K.1.2.2.2.2.2.2 hl b one x n N kq)).isSome)) = true then some [([(319, [hl, b, one, x, n, N, kq, r])], [])] else none)
    else if (sNN K.1.2.2.2.2.2.2 kq && (sNN K.1.2.2.2.2.2.2 x && (kFa K.2 314 (sfSq3 K.1.2.2.2.2.2.2 hl b one x n N kq r)).isSome)) = true then some [([(319, [hl, b, one, x, n, N, kq, r])], [])] else none
  | _, _, _ => none
def sfFWi (zn : Nat) (K : kS) : Option kWs := match sfQ zn K, kLf K.1.2.1 1, kLf K.1.2.1 2, kLf K.1.2.1 3, kLf K.1.2.1 4, kLf K.1.2.1 5, kFa K.2 315 (fun _ => true) with
  | some (hl, b, one, x, n, N), some p, some be, some r, some s, some w, none => if (decide (w = sC 0) && sfNE K.2) = true then some [([(315, [hl, b, one, x, n, N, p, be, r, s, sC 0])], [])] else none
  | _, _, _, _, _, _, _ => none
/-- whether a word fits -/
def sfFit (Γ : sG) (γ : List kA) (hl b one x n N p be r s w v : sL) : Option Bool := match sfKi Γ γ 28 w p n with
  | some false => some false
  | some true => (match sfGv γ hl w p be v, kFindEl γ 55 w with
    | some g, some l => (match kFa γ 304 (tPre [hl, b, one, x, n, N, sAdd p (sC 1), w, sSub s l]) with
      | some [_, _, _, _, _, _, _, _, _, ro] => if (sI32 Γ.1 l && sNN Γ x) = true then (if (sNN Γ (sSub ro (sAdd r g)) && sNN Γ ro) = true then some true else if (sNN Γ (sSub (sSub (sAdd r g) ro) (sC 1)) || sNN Γ (sSub (sC (-1)) ro)) = true then some false else none) else none
      | _ => none)
    | _, _ => none)
  | none => none
def sfFWs (zn : Nat) (K : kS) : Option kWs := match sfQ zn K, nFf K.1.2.2.2.1 24 zn, kLf K.1.2.1 1, kLf K.1.2.1 2, kLf K.1.2.1 3, kLf K.1.2.1 4, kLf K.1.2.1 5 with
  | some (hl, b, one, x, n, N), some v, some p, some be, some r, some s, some w => if (kHav K.2 315 [hl, b, one, x, n, N, p, be, r, s, w] && decide (sfFit K.1.2.2.2.2.2.2 K.2 hl b one x n N p be r s w v = some false)) = true then some [([(315, [hl, b, one, x, n, N, p, be, r, s, sAdd w (sC 1)])], [])] else none
  | _, _, _, _, _, _, _ => none
def sfFWe (zn : Nat) (K : kS) : Option kWs := match sfQ zn K, nFf K.1.2.2.2.1 24 zn, kLf K.1.2.1 1, kLf K.1.2.1 2, kLf K.1.2.1 3, kLf K.1.2.1 4, kLf K.1.2.1 5 with
  | some (hl, b, one, x, n, N), some v, some p, some be, some r, some s, some w => (match kTop K with
    | some y => if kHav K.2 315 [hl, b, one, x, n, N, p, be, r, s, w] = true then (if y = sC (-2) then (if kEqf K.1.2.2.2.2.2.2 w N = true then some [([(316, [hl, b, one, x, n, N, p, be, r, s, y])], [])] else none)
      else if (decide (y = w) && (sNN K.1.2.2.2.2.2.2 w && (sNN K.1.2.2.2.2.2.2 (sSub (sSub N w) (sC 1)) && decide (sfFit K.1.2.2.2.2.2.2 K.2 hl b one x n N p be r s w v = some true)))) = true then some [([(316, [hl, b, one, x, n, N, p, be, r, s, y])], [])] else none) else none
    | none => none)
  | _, _, _, _, _, _, _ => none
def sfKNq (b n : sL) (fs : List sL) : Bool := match fs with
  | [b', _, n'] => decide (b' = b) && decide (n' = n)
  | _ => false
def sfSXc (zn : Nat) (K : kS) : Option kWs := match sfQ zn K, kLf K.1.2.1 2, kLf K.1.2.1 3, kTop K with
  | some (hl, b, one, x, n, N), some ox, some kq, some r => (match kFa K.2 297 (sfKNq b n) with
    | some [_, le, _] => if (decide (nDl K.1.2.2.2.2.2.2 9 ox (sC 100) = some one) && (decide (nDl K.1.2.2.2.2.2.2 10 ox (sC 100) = some x) && ((sNN K.1.2.2.2.2.2.2 (sSub (sC (-1)) kq) && kHav K.2 306 [hl, b, one, x, n, N, r]) || (sNN K.1.2.2.2.2.2.2 kq && kHav K.2 319 [hl, b, one, x, n, N, kq, r])))) = true then some [([(320, [hl, b, le, ox, N, kq, r])], [])] else none
    | _ => none)
  | _, _, _, _ => none
section SFD
variable {RO : List (Nat × (Nat → Int32))} {ρ : List Int} {Γ : sG} {γ : List kA} {H : List eE}
theorem sfV5 {a b c d e : sL} {za zb zc zd ze : Int} (e1 : sEv ρ a = some za) (e2 : sEv ρ b = some zb) (e3 : sEv ρ c = some zc) (e4 : sEv ρ d = some zd) (e5 : sEv ρ e = some ze) : sVal ρ [a, b, c, d, e] = some [za, zb, zc, zd, ze] := by simp only [sVal, e1, e2, e3, e4, e5]
theorem sfLXe (hg : kGh (kGP (kUP RO)) ρ γ H) {hl b one x n N z : sL} {zh zb zo zx zn zN zz : Int} (e1 : sEv ρ hl = some zh) (e2 : sEv ρ b = some zb) (e3 : sEv ρ one = some zo) (e4 : sEv ρ x = some zx) (e5 : sEv ρ n = some zn) (e6 : sEv ρ N = some zN) (e7 : sEv ρ z = some zz) (h : kHav γ 306 [hl, b, one, x, n, N, z] = true) : pC H zh zb zo zx zn zN (fun P => pLx P zz) := by
  obtain ⟨zs, ez, hC⟩ := sfHv hg (Or.inr (Or.inl ⟨by decide, by decide⟩)) e1 e2 e3 e4 e5 e6 h
  cases sfVe ez (sfV1 e7)
  exact hC
theorem sfLSp_ok (zn : Nat) : kRok RO (sfLSp zn) := by
  intro K ws h ρ R hD
  have hM := hD.1
  unfold sfLSp at h
  split at h
  · rename_i hl b one x n N r hQ hr
    split at h
    · rename_i hc
      cases h
      simp only [Bool.and_eq_true] at hc
      obtain ⟨c1, -, -, c4⟩ := hc
      obtain ⟨zh, zb, zo, zx, zn', zN, v, zv, eh, eb, eo, ex, en, eN, hv, ev, hk, hS⟩ := sfQ_ok hD hQ
      obtain ⟨zr, er, d1, d2⟩ := sWf_has hM c4
      obtain ⟨g, fn, fk, fl, hG, hW, hP⟩ := sfLXe hD.2.2 eh eb eo ex en eN er c1
      rcases hP with ⟨q, -⟩ | ⟨q, -⟩
      · exact ⟨_, List.mem_cons_self, fun a ha => (by cases ha), fun b hb => by
          rcases List.mem_singleton.mp hb with rfl
          exact ⟨zr, er, (by omega : (-2 : Int) ≤ zr), (by omega : zr ≤ -2)⟩⟩
      · exact ⟨_, List.mem_cons_of_mem _ List.mem_cons_self, fun a ha => (by cases ha), fun b hb => by
          rcases List.mem_singleton.mp hb with rfl
          exact ⟨zr, er, q, d2⟩⟩
    · cases h
  · cases h
theorem sfPTa {hl b one x n N p w be r s : sL} {zh zb zo zx zn zN zp zw ze zr zs : Int} (e1 : sEv ρ hl = some zh) (e2 : sEv ρ b = some zb) (e3 : sEv ρ one = some zo) (e4 : sEv ρ x = some zx) (e5 : sEv ρ n = some zn) (e6 : sEv ρ N = some zN) (e7 : sEv ρ p = some zp) (e8 : sEv ρ w = some zw) (e9 : sEv ρ be = some ze) (e10 : sEv ρ r = some zr) (e11 : sEv ρ s = some zs) {g : Nat → Int64} {fn fk fl : Nat → Int32} (hG : kLg 84 360 g H) (hW : nW3 fn fk fl H) (h0 : 0 ≤ zp) (h : pT (pQ H g fn fk fl zh zb zo zx zn zN) zp.toNat (pA zw) ze zr zs) : kGh (kGP (kUP RO)) ρ [(314, [hl, b, one, x, n, N, p, w, be, r, s])] H :=
  sfAr (Or.inr (Or.inr ⟨by decide, by decide⟩)) e1 e2 e3 e4 e5 e6 (sfV5 e7 e8 e9 e10 e11) hG hW (show 0 ≤ zp ∧ pT (pQ H g fn fk fl zh zb zo zx zn zN) zp.toNat (pA zw) ze zr zs from ⟨h0, h⟩)
theorem sfPBi_ok (zn : Nat) : kRok RO (sfPBi zn) := by
  intro K ws h ρ R hD
  have hM := hD.1
  unfold sfPBi at h
  split at h
  · rename_i hl b one x n N s w be r p hQ hs hw hbe hr hp hno
    split at h
    · rename_i hc
      cases h
      simp only [Bool.and_eq_true, decide_eq_true_eq] at hc
      obtain ⟨rfl, rfl, rfl, rfl, c5, c6⟩ := hc
      obtain ⟨zh, zb, zo, zx, zn', zN, v, zv, eh, eb, eo, ex, en, eN, hv, ev, hk, hS⟩ := sfQ_ok hD hQ
      obtain ⟨zs, es⟩ := kLf_ok hD.2.1 hs
      have d := sNN_ok hM es c6
      obtain ⟨g, fn, fk, fl, hG, hW, hP⟩ := sfLXe hD.2.2 eh eb eo ex en eN es c5
      rcases hP with ⟨q, -⟩ | ⟨-, q⟩
      · omega
      · exact ⟨_, List.mem_singleton.mpr rfl, sfPTa eh eb eo ex en eN (sEv_C 0) (sEv_C (-2)) (sEv_C 0) (sEv_C 0) es hG hW (by decide) (show pT _ 0 (pA (-2)) 0 0 zs from ⟨by decide, rfl, rfl, q⟩), fun b hb => by cases hb⟩
    · cases h
  · cases h
/-- an atom of the way -/
theorem sfPTe (hg : kGh (kGP (kUP RO)) ρ γ H) {q : List sL → Bool} {hl b one x n N p w be r s : sL} {a1 a2 a3 a4 a5 a6 : sL} {zh zb zo zx zn zN : Int} (e1 : sEv ρ hl = some zh) (e2 : sEv ρ b = some zb) (e3 : sEv ρ one = some zo) (e4 : sEv ρ x = some zx) (e5 : sEv ρ n = some zn) (e6 : sEv ρ N = some zN) (hp : ∀ fs, q fs = true → tPre [hl, b, one, x, n, N] fs = true) (h : kFa γ 314 q = some [a1, a2, a3, a4, a5, a6, p, w, be, r, s]) : ∃ zp zw ze zr zs, sEv ρ p = some zp ∧ sEv ρ w = some zw ∧ sEv ρ be = some ze ∧ sEv ρ r = some zr ∧ sEv ρ s = some zs ∧ pC H zh zb zo zx zn zN (fun P => 0 ≤ zp ∧ pT P zp.toNat (pA zw) ze zr zs) := by
  obtain ⟨fs, hfs, zs, ez, hC⟩ := sfFa hg (Or.inr (Or.inr ⟨by decide, by decide⟩)) e1 e2 e3 e4 e5 e6 (q := []) hp h
  simp only [List.nil_append, List.cons.injEq] at hfs
  obtain ⟨-, -, -, -, -, -, hfs⟩ := hfs
  subst hfs
  obtain ⟨zp, zw, ze, zr, zs', rfl, f1, f2, f3, f4, f5⟩ := sVal_5 ez
  exact ⟨zp, zw, ze, zr, zs', f1, f2, f3, f4, f5, hC⟩
theorem sfFXe (hg : kGh (kGP (kUP RO)) ρ γ H) {k : Nat} (hk : 315 ≤ k ∧ k < 319) {hl b one x n N p be r s w : sL} {zh zb zo zx zn zN zp ze zr zs zw : Int} (e1 : sEv ρ hl = some zh) (e2 : sEv ρ b = some zb) (e3 : sEv ρ one = some zo) (e4 : sEv ρ x = some zx) (e5 : sEv ρ n = some zn) (e6 : sEv ρ N = some zN) (e7 : sEv ρ p = some zp) (e8 : sEv ρ be = some ze) (e9 : sEv ρ r = some zr) (e10 : sEv ρ s = some zs) (e11 : sEv ρ w = some zw) (h : kHav γ k [hl, b, one, x, n, N, p, be, r, s, w] = true) : pC H zh zb zo zx zn zN (fun P => pPr H P k [zp, ze, zr, zs, zw]) := by
  obtain ⟨zs', ez, hC⟩ := sfHv hg (Or.inr (Or.inr ⟨by omega, by omega⟩)) e1 e2 e3 e4 e5 e6 h
  cases sfVe ez (sfV5 e7 e8 e9 e10 e11)
  exact hC
theorem sfPBn_ok (zn : Nat) : kRok RO (sfPBn zn) := by
  intro K ws h ρ R hD
  have hM := hD.1
  unfold sfPBn at h
  split at h
  · rename_i hl b one x n N s be r p w hQ hs hbe hr hp hw
    split at h
    · rename_i hc
      cases h
      simp only [Bool.and_eq_true] at hc
      obtain ⟨-, c2, c3, c4, c5, c6⟩ := hc
      obtain ⟨zh, zb, zo, zx, zn', zN, v, zv, eh, eb, eo, ex, en, eN, hv, ev, hk, hS⟩ := sfQ_ok hD hQ
      obtain ⟨zs, es⟩ := kLf_ok hD.2.1 hs
      obtain ⟨ze, ee⟩ := kLf_ok hD.2.1 hbe
      obtain ⟨zr, er⟩ := kLf_ok hD.2.1 hr
      obtain ⟨zp, ep⟩ := kLf_ok hD.2.1 hp
      obtain ⟨zw, ew⟩ := nTop_ev hD.2.1 hw
      have d3 := sNN_ok hM (sEv_sub (sEv_sub en ep) (sEv_C 1)) c3
      have d4 := sNN_ok hM (sEv_sub (sEv_C 16) eN) c4
      have d5 := sNN_ok hM ex c5
      obtain ⟨gs, hgs⟩ := Option.isSome_iff_exists.mp c6
      have hq := (kFa_ok hD.2.2 hgs (by decide)).1
      unfold sfPq at hq
      have hq := (Bool.and_eq_true_iff.mp hq).2
      split at hq
      · rename_i x1 x2 x3 x4 x5 x6 p' w' be' r' s'
        simp only [Bool.and_eq_true, decide_eq_true_eq] at hq
        obtain ⟨rfl, rfl, rfl, rfl⟩ := hq
        obtain ⟨yp, yw, ye, yr, ys, f1, f2, f3, f4, f5, g, fn, fk, fl, hG, hW, h0, hT⟩ := sfPTe hD.2.2 eh eb eo ex en eN (fun fs hq => (Bool.and_eq_true_iff.mp hq).1) hgs
        cases f1.symm.trans ep
        cases f3.symm.trans ee
        cases f4.symm.trans er
        cases f5.symm.trans es
        have hF := sfPt hG hW (sfFXe hD.2.2 (k := 316) ⟨by decide, by decide⟩ eh eb eo ex en eN ep ee er es ew c2)
        have hF : pFx (pQ R.2.2.2.1 g fn fk fl zh zb zo zx zn' zN) zp ze zr zs zw := hF
        have hp2 : ((zp.toNat : Nat) : Int) = zp := by omega
        have hb : 0 ≤ zw ∧ zw ≤ 15 := by
          rcases hF with ⟨-, q⟩ | ⟨q1, q2, -⟩
          · obtain ⟨w2, a1, a2, a3⟩ := pT_fit sfFn d5 hT (by rw [hp2]; show zp < zn'; omega)
            rw [hp2] at a3
            exact absurd a3 (q w2 a1 a2)
          · have q2 : zw < zN := q2
            omega
        exact ⟨_, List.mem_singleton.mpr rfl, fun a ha => (by cases ha), fun b hb2 => by
          rcases List.mem_singleton.mp hb2 with rfl
          exact ⟨zw, ew, hb.1, hb.2⟩⟩
      · cases hq
    · cases h
  · cases h
theorem sfPBs_ok (zn : Nat) : kRok RO (sfPBs zn) := by
  intro K ws h ρ R hD
  have hM := hD.1
  unfold sfPBs at h
  split at h
  · rename_i hl b one x n N v s w be r p hQ hv hs hw hbe hr hp
    obtain ⟨zh, zb, zo, zx, zn', zN, v', zv, eh, eb, eo, ex, en, eN, hv', ev, hk, hS⟩ := sfQ_ok hD hQ
    cases hv'.symm.trans hv
    split at h
    · rename_i x1 x2 x3 x4 x5 x6 x7 w0 b0 r0 s0 hfa
      split at h
      · rename_i gg l hgv hl'
        split at h
        · rename_i hc
          cases h
          simp only [Bool.and_eq_true, decide_eq_true_eq] at hc
          obtain ⟨c1, c2, c3, c4, rfl, c6, c7, c8, c9, c10, c11⟩ := hc
          obtain ⟨zw, ew⟩ := kLf_ok hD.2.1 hw
          obtain ⟨ze, ee⟩ := kLf_ok hD.2.1 hbe
          obtain ⟨zp, ep⟩ := kLf_ok hD.2.1 hp
          have he := sfTk ((kFa_ok hD.2.2 hfa (by decide)).1)
          simp only [List.length_cons, List.length_nil, List.drop_succ_cons, List.drop_zero, List.cons_append, List.nil_append, List.cons.injEq, and_true] at he
          obtain ⟨rfl, rfl, rfl, rfl, rfl, rfl, rfl⟩ := he
          obtain ⟨yp, zw0, zb0, zr0, zs0, f1, f2, f3, f4, f5, g, fn, fk, fl, hG, hW, h0, hT⟩ := sfPTe hD.2.2 eh eb eo ex en eN (fun fs hq => by
            have e := sfTk hq
            rw [e]
            unfold tPre
            exact decide_eq_true rfl) hfa
          cases f1.symm.trans ep
          have d2 := sNN_ok hM ew c2
          have d7 := sNN_ok hM (sEv_sub (sEv_sub en ep) (sEv_C 1)) c7
          have d9 := sNN_ok hM (sEv_sub (sEv_C 8) en) c9
          have d10 := sNN_ok hM (sEv_sub (sEv_C 99) ex) c10
          have d11 := sNN_ok hM ex c11
          obtain ⟨zg, eg, hg⟩ := sfGv_ok hD.2.2 eh ew ep f3 ev hk hgv
          obtain ⟨zl, el, kl⟩ := kFindEl_ok hD.2.2 hl' ew
          have hl9 : (fl zw.toNat).toInt = zl := n32i (sfRng _) (sWi_ok hM.1 el c1) (by rw [Int32.ofInt_toInt]; exact (kElA kl hW.2.2).2)
          have er := aIsp_ok hM (sEv_add f4 eg) c4
          have es := sEv_sub f5 el
          have hF : pFx (pQ R.2.2.2.1 g fn fk fl zh zb zo zx zn' zN) zp zb0 zr0 zs0 zw := sfPt hG hW (sfFXe hD.2.2 (k := 316) ⟨by decide, by decide⟩ eh eb eo ex en eN ep f3 f4 f5 ew c3)
          obtain ⟨hL, hN⟩ := sfLg_ok hD eN c8 hW (g := g) (zh := zh) (zb := zb) (zo := zo) (zx := zx) (zn := zn')
          rcases hF with ⟨q, -⟩ | ⟨q1, q2, q3, q4⟩
          · omega
          · have q2 : zw < zN := q2
            obtain ⟨zs6, e6, k6⟩ := kHav_ok hD.2.2 c6 (by decide)
            obtain ⟨y1, y2, y3, y4, y5, rfl, k1, k2, k3, k4, k5⟩ := sVal_5 e6
            cases k1.symm.trans eb
            cases k2.symm.trans en
            cases k3.symm.trans (sEv_add ep (sEv_C 1))
            cases k4.symm.trans ew
            cases k5.symm.trans ee
            obtain ⟨a1, a2, a3, a4, a5, he, g', fn', hG', hN', hbe'⟩ : ∃ b n k w be, [zb, zn', zp + 1, zw, ze] = [b, n, k, w, be] ∧ pBW R.2.2.2.1 b n k w be := (sfUP (by decide)).mp ((kUPn (by decide)).mp k6)
            cases he
            cases kLg_one hG hG'
            cases hW.1.symm.trans hN'
            rw [if_pos (by omega)] at hbe'
            have hp2 : ((zp.toNat : Nat) : Int) = zp := by omega
            have hkin : (fk zw.toNat).toInt = jW g zb zp.toNat := q3.1
            have hA : pA zw = zw := if_pos ⟨q1, by omega⟩
            have hT2 : pT (pQ R.2.2.2.1 g fn fk fl zh zb zo zx zn' zN) (zp + 1).toNat (pA zw) ze (max 0 (zr0 + zg)) (zs0 - zl) := by
              rw [show (zp + 1).toNat = zp.toNat + 1 by omega, hA]
              refine ⟨by rw [hp2]; show zp < zn'; omega, _, _, _, _, zg, hT, q1, q2, by rw [hp2]; exact q3, by rw [hp2]; exact q4, by rw [hp2]; exact hg, rfl, by show zs0 - zl = zs0 - (fl zw.toNat).toInt; rw [hl9], ?_⟩
              rw [hp2, hbe']
              show pBc g fn zb zn' (zp + 1) zw = (if zp + 1 < zn' then (if jW g zb (zp + 1).toNat = (fk zw.toNat).toInt then (fn zw.toNat).toInt else 0) else 0)
              unfold pBc
              rw [show zp + 1 - 1 = zp by omega, ← hkin]
              by_cases e1 : zp + 1 < zn'
              · rw [if_pos e1]
                by_cases e2 : jW g zb (zp + 1).toNat = (fk zw.toNat).toInt
                · rw [if_pos ⟨e1, e2⟩, if_pos e2]
                · rw [if_neg (fun q => e2 q.2), if_neg e2]
              · rw [if_neg e1, if_neg (fun q => e1 q.1)]
            obtain ⟨-, r0', r1, hLe⟩ := pT_le sfFn d11 _ hT2
            have r1 : max 0 (zr0 + zg) ≤ zx := r1
            have hr := pW_rng hL hN (by rw [show (((zp + 1).toNat : Nat) : Int) = zp + 1 by omega]; show zp + 1 ≤ zn'; omega) hLe.1
            rw [show (((zp + 1).toNat : Nat) : Int) = zp + 1 by omega] at hr
            have hr2 : zs0 - zl ≤ 9 * (zn' - (zp + 1)) := hr.2
            refine ⟨_, List.mem_singleton.mpr rfl, sfPTa eh eb eo ex en eN (sEv_add ep (sEv_C 1)) ew ee er es hG hW (by omega) hT2, fun b hb => ?_⟩
            rcases List.mem_cons.mp hb with rfl | hb
            · exact ⟨_, es, hr.1, by show zs0 - zl ≤ 72; omega⟩
            · rcases List.mem_singleton.mp hb with rfl
              exact ⟨_, er, r0', by show max 0 (zr0 + zg) ≤ 99; omega⟩
        · cases h
      · cases h
    · cases h
  · cases h
theorem sfSWa {hl b one x n N kq r : sL} {zh zb zo zx zn zN zk zr : Int} (e1 : sEv ρ hl = some zh) (e2 : sEv ρ b = some zb) (e3 : sEv ρ one = some zo) (e4 : sEv ρ x = some zx) (e5 : sEv ρ n = some zn) (e6 : sEv ρ N = some zN) (e7 : sEv ρ kq = some zk) (e8 : sEv ρ r = some zr) (h : pC H zh zb zo zx zn zN (fun P => pSw P zk zr)) : kGh (kGP (kUP RO)) ρ [(319, [hl, b, one, x, n, N, kq, r])] H := by
  obtain ⟨g, fn, fk, fl, hG, hW, hP⟩ := h
  exact sfAr (Or.inr (Or.inr ⟨by decide, by decide⟩)) e1 e2 e3 e4 e5 e6 (sfV2 e7 e8) hG hW hP
theorem sfSWe_ok (zn : Nat) : kRok RO (sfSWe zn) := by
  intro K ws h ρ R hD
  have hM := hD.1
  unfold sfSWe at h
  split at h
  · rename_i hl b one x n N kq r hQ hkq hr
    obtain ⟨zh, zb, zo, zx, zn', zN, v, zv, eh, eb, eo, ex, en, eN, hv, ev, hk, hS⟩ := sfQ_ok hD hQ
    obtain ⟨zk, ek⟩ := kLf_ok hD.2.1 hkq
    split at h
    · rename_i hr2
      subst hr2
      split at h
      · rename_i hc
        cases h
        rw [Bool.and_eq_true] at hc
        have dk := sNN_ok hM ek hc.1
        refine ⟨_, List.mem_singleton.mpr rfl, sfSWa eh eb eo ex en eN ek (sEv_C (-2)) ?_, fun b hb => by cases hb⟩
        rcases Bool.or_eq_true_iff.mp hc.2 with c | c
        · obtain ⟨gs, hgs⟩ := Option.isSome_iff_exists.mp c
          obtain ⟨fs, hfs, zs, ez, g, fn, fk, fl, hG, hW, hP⟩ := sfFa hD.2.2 (Or.inr (Or.inl ⟨by decide, by decide⟩)) eh eb eo ex en eN (q := []) (fun _ hq => (Bool.and_eq_true_iff.mp hq).1) hgs
          have hq := (Bool.and_eq_true_iff.mp (kFa_ok hD.2.2 hgs (by decide)).1).2
          subst hfs
          split at hq
          · rename_i y1 y2 y3 y4 y5 y6 z hm
            simp only [List.nil_append, List.cons.injEq] at hm
            obtain ⟨-, -, -, -, -, -, rfl⟩ := hm
            obtain ⟨zz, rfl, e1⟩ := sVal_1 ez
            have := sK_ok hM.1 e1 (of_decide_eq_true hq)
            subst this
            have hP : pLx (pQ R.2.2.2.1 g fn fk fl zh zb zo zx zn' zN) (-2) := hP
            rcases hP with ⟨-, q⟩ | ⟨q, -⟩
            · exact ⟨g, fn, fk, fl, hG, hW, dk, Or.inl ⟨q, rfl⟩⟩
            · omega
          · cases hq
        · obtain ⟨gs, hgs⟩ := Option.isSome_iff_exists.mp c
          have hq := (kFa_ok hD.2.2 hgs (by decide)).1
          unfold sfSq2 at hq
          have hq := (Bool.and_eq_true_iff.mp hq).2
          split at hq
          · rename_i y1 y2 y3 y4 y5 y6 p w be r' s
            rw [Bool.and_eq_true] at hq
            obtain ⟨zp, zw, ze, zr, zs, f1, f2, f3, f4, f5, g, fn, fk, fl, hG, hW, h0, hT⟩ := sfPTe hD.2.2 eh eb eo ex en eN (fun fs hq => (Bool.and_eq_true_iff.mp hq).1) hgs
            have e1 := kEqf_ok hM f1 en hq.1
            have e2 := sNN_ok hM (sEv_sub ek f1) hq.2
            exact ⟨g, fn, fk, fl, hG, hW, dk, Or.inr (Or.inl ⟨by show zn' ≤ zk; omega, rfl⟩)⟩
          · cases hq
      · cases h
    · split at h
      · rename_i hc
        cases h
        simp only [Bool.and_eq_true] at hc
        obtain ⟨c1, c2, c3⟩ := hc
        have dk := sNN_ok hM ek c1
        have dx := sNN_ok hM ex c2
        obtain ⟨gs, hgs⟩ := Option.isSome_iff_exists.mp c3
        have hq := (kFa_ok hD.2.2 hgs (by decide)).1
        unfold sfSq3 at hq
        have hq := (Bool.and_eq_true_iff.mp hq).2
        split at hq
        · rename_i y1 y2 y3 y4 y5 y6 p w be r' s
          rw [Bool.and_eq_true, decide_eq_true_eq] at hq
          obtain ⟨q1, rfl⟩ := hq
          obtain ⟨zp, zw, ze, zr, zs, f1, f2, f3, f4, f5, g, fn, fk, fl, hG, hW, h0, hT⟩ := sfPTe hD.2.2 eh eb eo ex en eN (fun fs hq => (Bool.and_eq_true_iff.mp hq).1) hgs
          have e1 := kEqf_ok hM f1 (sEv_add ek (sEv_C 1)) q1
          subst e1
          have hA : pA zw = zw := by
            rcases pT_b _ hT with ⟨q, -⟩ | ⟨-, q, -⟩
            · omega
            · unfold pA at q ⊢
              split at q
              · rename_i c
                rw [if_pos c]
              · omega
          have hle := (pT_le sfFn dx _ hT).1
          have hle : ((zk + 1).toNat : Int) ≤ max 0 zn' := hle
          rw [hA] at hT
          exact ⟨_, List.mem_singleton.mpr rfl, sfSWa eh eb eo ex en eN ek f2 ⟨g, fn, fk, fl, hG, hW, dk, Or.inr (Or.inr ⟨by show zk < zn'; omega, _, _, _, hT⟩)⟩, fun b hb => by cases hb⟩
        · cases hq
      · cases h
  · cases h
theorem sfFWa {k : Nat} (hk : 315 ≤ k ∧ k < 319) {hl b one x n N p be r s w : sL} {zh zb zo zx zn zN zp ze zr zs zw : Int} (e1 : sEv ρ hl = some zh) (e2 : sEv ρ b = some zb) (e3 : sEv ρ one = some zo) (e4 : sEv ρ x = some zx) (e5 : sEv ρ n = some zn) (e6 : sEv ρ N = some zN) (e7 : sEv ρ p = some zp) (e8 : sEv ρ be = some ze) (e9 : sEv ρ r = some zr) (e10 : sEv ρ s = some zs) (e11 : sEv ρ w = some zw) {g : Nat → Int64} {fn fk fl : Nat → Int32} (hG : kLg 84 360 g H) (hW : nW3 fn fk fl H) (h : pPr H (pQ H g fn fk fl zh zb zo zx zn zN) k [zp, ze, zr, zs, zw]) : kGh (kGP (kUP RO)) ρ [(k, [hl, b, one, x, n, N, p, be, r, s, w])] H := sfAr (Or.inr (Or.inr ⟨by omega, by omega⟩)) e1 e2 e3 e4 e5 e6 (sfV5 e7 e8 e9 e10 e11) hG hW h
theorem sfFWi_ok (zn : Nat) : kRok RO (sfFWi zn) := by
  intro K ws h ρ R hD
  unfold sfFWi at h
  split at h
  · rename_i hl b one x n N p be r s w hQ hp hbe hr hs hw hno
    split at h
    · rename_i hc
      cases h
      rw [Bool.and_eq_true] at hc
      obtain ⟨zh, zb, zo, zx, zn', zN, v, zv, eh, eb, eo, ex, en, eN, hv, ev, hk, S, g, s1, hG, s3, s4⟩ := sfQ_ok hD hQ
      obtain ⟨zp, ep⟩ := kLf_ok hD.2.1 hp
      obtain ⟨ze, ee⟩ := kLf_ok hD.2.1 hbe
      obtain ⟨zr, er⟩ := kLf_ok hD.2.1 hr
      obtain ⟨zs, es⟩ := kLf_ok hD.2.1 hs
      obtain ⟨fn, fk, fl, hW⟩ := sfNE_ok hD.2.2 hc.2
      exact ⟨_, List.mem_singleton.mpr rfl, sfFWa (k := 315) ⟨by decide, by decide⟩ eh eb eo ex en eN ep ee er es (sEv_C 0) hG hW (show pFw _ zp ze zr zs 0 from fun w' h0 h1 => by omega), fun b hb => by cases hb⟩
    · cases h
  · cases h
theorem sfFit_ok (hM : sMo ρ Γ) (hg : kGh (kGP (kUP RO)) ρ γ H) {hl b one x n N p be r s w v : sL} {zh zb zo zx zn zN zp ze zr zs zw zv : Int} (e1 : sEv ρ hl = some zh) (e2 : sEv ρ b = some zb) (e3 : sEv ρ one = some zo) (e4 : sEv ρ x = some zx) (e5 : sEv ρ n = some zn) (e6 : sEv ρ N = some zN) (e7 : sEv ρ p = some zp) (e8 : sEv ρ be = some ze) (e9 : sEv ρ r = some zr) (e10 : sEv ρ s = some zs) (e11 : sEv ρ w = some zw) (e12 : sEv ρ v = some zv) (hk : kEl 57 zo zv H ∧ -2147483648 ≤ zv ∧ zv ≤ 2147483647) (hS : nSP 28 8 zb zn H) {g : Nat → Int64} {fn fk fl : Nat → Int32} (hG : kLg 84 360 g H) (hW : nW3 fn fk fl H) {t : Bool} (h : sfFit Γ γ hl b one x n N p be r s w v = some t) : t = true ↔ pF (pQ H g fn fk fl zh zb zo zx zn zN) zp ze zr zs zw := by
  unfold sfFit at h
  split at h
  · rename_i hki
    cases h
    obtain ⟨-, -, -, -, hiff⟩ := sfKi_ok hM hg hG hW hS e11 e7 e5 hki
    exact ⟨fun q => (by cases q), fun q => absurd (hiff.mpr q.1) Bool.false_ne_true⟩
  · rename_i hki
    obtain ⟨w0, w16, p0, p1, hiff⟩ := sfKi_ok hM hg hG hW hS e11 e7 e5 hki
    have hkin := hiff.mp rfl
    split at h
    · rename_i gg l hgv hl'
      split at h
      · rename_i a1 a2 a3 a4 a5 a6 a7 a8 a9 ro hfa
        split at h
        · rename_i hc
          rw [Bool.and_eq_true] at hc
          obtain ⟨zg, eg, hgg⟩ := sfGv_ok hg e1 e11 e7 e8 e12 hk hgv
          obtain ⟨zl, el, kl⟩ := kFindEl_ok hg hl' e11
          have hl9 : (fl zw.toNat).toInt = zl := n32i (sfRng _) (sWi_ok hM.1 el hc.1) (by rw [Int32.ofInt_toInt]; exact (kElA kl hW.2.2).2)
          have dx := sNN_ok hM e4 hc.2
          obtain ⟨fs, hfs, zs', ez, hC⟩ := sfFa hg (Or.inr (Or.inl ⟨by decide, by decide⟩)) e1 e2 e3 e4 e5 e6 (q := [sAdd p (sC 1), w, sSub s l]) (fun _ hq => hq) hfa
          simp only [List.cons_append, List.nil_append, List.cons.injEq] at hfs
          obtain ⟨-, -, -, -, -, -, -, -, -, hfs⟩ := hfs
          subst hfs
          obtain ⟨y1, y2, y3, zro, rfl, f1, f2, f3, ero⟩ := sVal_4 ez
          cases f1.symm.trans (sEv_add e7 (sEv_C 1))
          cases f2.symm.trans e11
          cases f3.symm.trans (sEv_sub e10 el)
          have hRR : pRR (pQ H g fn fk fl zh zb zo zx zn zN) (zp + 1) zw (zs - zl) zro := sfPt hG hW hC
          have hr := pRR_k (P := pQ H g fn fk fl zh zb zo zx zn zN) p0 hkin hRR
          have hF := pF_rm (P := pQ H g fn fk fl zh zb zo zx zn zN) (r := zr) (s := zs) sfFn dx hkin hgg (by show pRm _ (zp + 1) _ (zs - (fl zw.toNat).toInt) zro; rw [hl9]; exact hr)
          have eg2 := sEv_add e9 eg
          split at h
          · rename_i hc2
            cases h
            rw [Bool.and_eq_true] at hc2
            have d1 := sNN_ok hM (sEv_sub ero eg2) hc2.1
            have d2 := sNN_ok hM ero hc2.2
            exact ⟨fun _ => hF.mpr ⟨d2, by omega⟩, fun _ => rfl⟩
          · split at h
            · rename_i hc2
              cases h
              refine ⟨fun q => (by cases q), fun q => ?_⟩
              have q := hF.mp q
              rcases Bool.or_eq_true_iff.mp hc2 with c | c
              · have := sNN_ok hM (sEv_sub (sEv_sub eg2 ero) (sEv_C 1)) c
                omega
              · have := sNN_ok hM (sEv_sub (sEv_C (-1)) ero) c
                omega
            · cases h
        · cases h
      · cases h
    · cases h
  · cases h
theorem sfFWs_ok (zn : Nat) : kRok RO (sfFWs zn) := by
  intro K ws h ρ R hD
  have hM := hD.1
  unfold sfFWs at h
  split at h
  · rename_i hl b one x n N v p be r s w hQ hv hp hbe hr hs hw
    split at h
    · rename_i hc
      cases h
      rw [Bool.and_eq_true, decide_eq_true_eq] at hc
      obtain ⟨zh, zb, zo, zx, zn', zN, v', zv, eh, eb, eo, ex, en, eN, hv', ev, hk, hS⟩ := sfQ_ok hD hQ
      cases hv'.symm.trans hv
      obtain ⟨zp, ep⟩ := kLf_ok hD.2.1 hp
      obtain ⟨ze, ee⟩ := kLf_ok hD.2.1 hbe
      obtain ⟨zr, er⟩ := kLf_ok hD.2.1 hr
      obtain ⟨zs, es⟩ := kLf_ok hD.2.1 hs
      obtain ⟨zw, ew⟩ := kLf_ok hD.2.1 hw
      obtain ⟨g, fn, fk, fl, hG, hW, hP⟩ := sfFXe hD.2.2 (k := 315) ⟨by decide, by decide⟩ eh eb eo ex en eN ep ee er es ew hc.1
      have hfit := sfFit_ok hM hD.2.2 eh eb eo ex en eN ep ee er es ew ev hk hS hG hW hc.2
      exact ⟨_, List.mem_singleton.mpr rfl, sfFWa (k := 315) ⟨by decide, by decide⟩ eh eb eo ex en eN ep ee er es (sEv_add ew (sEv_C 1)) hG hW (show pFw _ zp ze zr zs (zw + 1) from pFw_s hP (fun q => Bool.false_ne_true (hfit.mpr q))), fun b hb => by cases hb⟩
    · cases h
  · cases h
theorem sfFWe_ok (zn : Nat) : kRok RO (sfFWe zn) := by
  intro K ws h ρ R hD
  have hM := hD.1
  unfold sfFWe at h
  split at h
  · rename_i hl b one x n N v p be r s w hQ hv hp hbe hr hs hw
    obtain ⟨zh, zb, zo, zx, zn', zN, v', zv, eh, eb, eo, ex, en, eN, hv', ev, hk, hS⟩ := sfQ_ok hD hQ
    cases hv'.symm.trans hv
    obtain ⟨zp, ep⟩ := kLf_ok hD.2.1 hp
    obtain ⟨ze, ee⟩ := kLf_ok hD.2.1 hbe
    obtain ⟨zr, er⟩ := kLf_ok hD.2.1 hr
    obtain ⟨zs, es⟩ := kLf_ok hD.2.1 hs
    obtain ⟨zw, ew⟩ := kLf_ok hD.2.1 hw
    split at h
    · rename_i y hy
      split at h
      · rename_i h315
        obtain ⟨g, fn, fk, fl, hG, hW, hP⟩ := sfFXe hD.2.2 (k := 315) ⟨by decide, by decide⟩ eh eb eo ex en eN ep ee er es ew h315
        split at h
        · rename_i hy2
          subst hy2
          split at h
          · rename_i hc
            cases h
            have := kEqf_ok hM ew eN hc
            subst this
            exact ⟨_, List.mem_singleton.mpr rfl, sfFWa (k := 316) ⟨by decide, by decide⟩ eh eb eo ex en eN ep ee er es (sEv_C (-2)) hG hW (show pFx _ zp ze zr zs (-2) from Or.inl ⟨rfl, hP⟩), fun b hb => by cases hb⟩
          · cases h
        · split at h
          · rename_i hc
            cases h
            simp only [Bool.and_eq_true, decide_eq_true_eq] at hc
            obtain ⟨rfl, c2, c3, c4⟩ := hc
            have d2 := sNN_ok hM ew c2
            have d3 := sNN_ok hM (sEv_sub (sEv_sub eN ew) (sEv_C 1)) c3
            have hfit := sfFit_ok hM hD.2.2 eh eb eo ex en eN ep ee er es ew ev hk hS hG hW c4
            exact ⟨_, List.mem_singleton.mpr rfl, sfFWa (k := 316) ⟨by decide, by decide⟩ eh eb eo ex en eN ep ee er es ew hG hW (show pFx (pQ R.2.2.2.1 g fn fk fl zh zb zo zx zn' zN) zp ze zr zs zw from Or.inr ⟨d2, by show zw < zN; omega, hfit.mp rfl, hP⟩), fun b hb => by cases hb⟩
          · cases h
      · cases h
    · cases h
  · cases h
theorem sfKNe (hg : kGh (kGP (kUP RO)) ρ γ H) {b n b' le n' : sL} {zb zn : Int} (eb : sEv ρ b = some zb) (en : sEv ρ n = some zn) (h : kFa γ 297 (sfKNq b n) = some [b', le, n']) : ∃ zl, sEv ρ le = some zl ∧ pNK H zb zl zn := by
  obtain ⟨q, zs, e, h2⟩ := nFa_ok hg h (by decide) (by decide)
  unfold sfKNq at q
  rw [Bool.and_eq_true, decide_eq_true_eq, decide_eq_true_eq] at q
  obtain ⟨rfl, rfl⟩ := q
  obtain ⟨y1, y2, y3, rfl, f1, f2, f3⟩ := sVal_3 e
  cases f1.symm.trans eb
  cases f3.symm.trans en
  obtain ⟨a1, a2, a3, he, hN⟩ : ∃ b le m, [zb, y2, zn] = [b, le, m] ∧ pNK H b le m := (sfUP (by decide)).mp h2
  cases he
  exact ⟨y2, f2, hN⟩
theorem sfSXa {hl b le ox N kq r : sL} {zh zb zl zo zN zk zr zn : Int} (e1 : sEv ρ hl = some zh) (e2 : sEv ρ b = some zb) (e3 : sEv ρ le = some zl) (e4 : sEv ρ ox = some zo) (e5 : sEv ρ N = some zN) (e6 : sEv ρ kq = some zk) (e7 : sEv ρ r = some zr) (h1 : pNK H zb zl zn) (h2 : pC H zh zb (sOp 9 zo 100) (sOp 10 zo 100) zn zN (fun P => pSx P zk zr)) : kGh (kGP (kUP RO)) ρ [(320, [hl, b, le, ox, N, kq, r])] H := kAt1 (zs := [zh, zb, zl, zo, zN, zk, zr]) (by decide) (by simp only [sVal, e1, e2, e3, e4, e5, e6, e7]) ((kUPn (by decide)).mpr ((sfUP (by decide)).mpr (show ∃ hl b le ox N kq r, [zh, zb, zl, zo, zN, zk, zr] = [hl, b, le, ox, N, kq, r] ∧ ∃ n, pNK H b le n ∧ pC H hl b (sOp 9 ox 100) (sOp 10 ox 100) n N (fun P => pSx P kq r) from ⟨_, _, _, _, _, _, _, rfl, zn, h1, h2⟩)))
theorem sfSWx (hg : kGh (kGP (kUP RO)) ρ γ H) {hl b one x n N kq r : sL} {zh zb zo zx zn zN zk zr : Int} (e1 : sEv ρ hl = some zh) (e2 : sEv ρ b = some zb) (e3 : sEv ρ one = some zo) (e4 : sEv ρ x = some zx) (e5 : sEv ρ n = some zn) (e6 : sEv ρ N = some zN) (e7 : sEv ρ kq = some zk) (e8 : sEv ρ r = some zr) (h : kHav γ 319 [hl, b, one, x, n, N, kq, r] = true) : pC H zh zb zo zx zn zN (fun P => pSw P zk zr) := by
  obtain ⟨zs, ez, hC⟩ := sfHv hg (Or.inr (Or.inr ⟨by decide, by decide⟩)) e1 e2 e3 e4 e5 e6 h
  cases sfVe ez (sfV2 e7 e8)
  exact hC
theorem sfSXc_ok (zn : Nat) : kRok RO (sfSXc zn) := by
  intro K ws h ρ R hD
  have hM := hD.1
  unfold sfSXc at h
  split at h
  · rename_i hl b one x n N ox kq r hQ hox hkq hr
    split at h
    · rename_i b' le n' hfa
      split at h
      · rename_i hc
        cases h
        simp only [Bool.and_eq_true, Bool.or_eq_true, decide_eq_true_eq] at hc
        obtain ⟨c1, c2, c3⟩ := hc
        obtain ⟨zh, zb, zo, zx, zn', zN, v, zv, eh, eb, eo, ex, en, eN, hv, ev, hk, hS⟩ := sfQ_ok hD hQ
        obtain ⟨zox, eox⟩ := kLf_ok hD.2.1 hox
        obtain ⟨zk, ek⟩ := kLf_ok hD.2.1 hkq
        obtain ⟨zr, er⟩ := nTop_ev hD.2.1 hr
        cases eo.symm.trans (nDl_ok hM eox (sEv_C 100) c1)
        cases ex.symm.trans (nDl_ok hM eox (sEv_C 100) c2)
        obtain ⟨zl, el, hN⟩ := sfKNe hD.2.2 eb en hfa
        refine ⟨_, List.mem_singleton.mpr rfl, sfSXa eh eb el eox eN ek er hN ?_, fun b hb => by cases hb⟩
        rcases c3 with ⟨c3, c4⟩ | ⟨c3, c4⟩
        · have d := sNN_ok hM (sEv_sub (sEv_C (-1)) ek) c3
          obtain ⟨g, fn, fk, fl, hG, hW, hP⟩ := sfLXe hD.2.2 eh eb eo ex en eN er c4
          exact ⟨g, fn, fk, fl, hG, hW, Or.inl ⟨by omega, hP⟩⟩
        · obtain ⟨g, fn, fk, fl, hG, hW, hP⟩ := sfSWx hD.2.2 eh eb eo ex en eN ek er c4
          exact ⟨g, fn, fk, fl, hG, hW, Or.inr hP⟩
      · cases h
    · cases h
  · cases h
end SFD
end
