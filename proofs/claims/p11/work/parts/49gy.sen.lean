/-! Sentences out of shelves; who is heard; the sum on a day. -/
noncomputable section
/-- how many words still come, at a place -/
def nRTq (γ : List kA) (b i : sL) : Option (sL × sL × sL) := match kFa γ 90 (fun fs => match fs with
    | [b', k, _, _, _] => decide (b' = b) && decide (k = i)
    | _ => false) with
  | some [b', k, le, w, r] => if b' = b ∧ k = i then some (le, w, r) else none
  | _ => none
/-- the class begins -/
def nRSi (zl zw : Nat) (K : kS) : Option nWs := match kWs_ 0 K, kLf K.1.2.1 3 with
  | some s, some i => (match nFf K.1.2.2.2.1 (40 + 2 * s) zl, nFf K.1.2.2.2.1 1 zw with
    | some le, some w => if (decide (i = sC 0) && (kHav K.2 (14 + s) [sC (-1)] && kShb K.1.2.2.2.1 25 .int 64)) = true then some [(some (0, 10), [(90, [sC (60 * (s : Int)), sC 0, le, w, sX K.1.2.2.2.2.2.2.1.length]), (86, [sC (60 * (s : Int)), sC 0])], [])] else none
    | _, _ => none)
  | _, _ => none
/-- no more than ten, no more than there are -/
def nMNr (zl : Nat) (K : kS) : Option kWs := match kWs_ 0 K, kLf K.1.2.1 2 with
  | some s, some m => (match nFf K.1.2.2.2.1 (40 + 2 * s) zl with
    | some le => if ((decide (m = le) && sNN K.1.2.2.2.2.2.2 (sSub (sC 10) le)) || (decide (m = sC 10) && sNN K.1.2.2.2.2.2.2 (sSub le (sC 10)))) = true then some [([(94, [m, le])], [])] else none
    | none => none)
  | _, _ => none
/-- one word more -/
def nRst (d j z cell kind : Nat) (K : kS) (i : Option sL) : Option kWs := match kWs_ d K, i, nFf K.1.2.2.2.1 j z with
  | some s, some i, some fl => (match nRTq K.2 (sC (60 * (s : Int))) (sSub i (sC 1)), kWv K.1.2.2.2.2.2.2 K.2 d s (sSub i (sC 1)) 0 with
    | some (le, w, r), some x => if (kHav K.2 kind [sC (60 * (s : Int)), sSub i (sC 1)] && (kEqf K.1.2.2.2.2.2.2 (sSub fl (sC 1)) (sSub i (sC 1)) && (decide (kFindEl K.2 cell (sSub fl (sC 1)) = some x) && (sNN K.1.2.2.2.2.2.2 x && (sNN K.1.2.2.2.2.2.2 (sSub (sSub w x) (sC 1)) && (sNN K.1.2.2.2.2.2.2 (sSub (sSub le (sSub i (sC 1))) (sC 1)) && (sNN K.1.2.2.2.2.2.2 (sSub (sC 9) (sSub i (sC 1))) && (sNN K.1.2.2.2.2.2.2 (sSub i (sC 1)) && (decide (d ≠ 0) || kHav K.2 (14 + s) [sC (-1)]))))))))) = true then
        some [([(90, [sC (60 * (s : Int)), i, le, w, sSub r (sC 1)]), (kind, [sC (60 * (s : Int)), i])], [(sSub r (sC 1), 0, 10)])] else none
    | _, _ => none)
  | _, _, _ => none
/-- whether no word comes any more -/
def nStp (Γ : sG) (γ : List kA) (d s : Nat) (i le w : sL) : Bool := (decide (d = 0) && (kFa γ 94 (fun fs => match fs with
    | [m, l] => decide (l = le) && sNN Γ (sSub i m)
    | _ => false)).isSome) || (sNN Γ (sSub i (sC 10)) || (sNN Γ (sSub i le) || (match kWv Γ γ d s i 0 with
  | some x => (sNN Γ (sSub (sC (-1)) x) || sNN Γ (sSub x w)) && (decide (d ≠ 0) || kHav γ (14 + s) [sC (-1)])
  | none => false)))
def nRen (d j z kind : Nat) (K : kS) (i : Option sL) : Option (List kS) := match K with
  | ((pc, ls, st, G, c, s0, Γ), γ) => (match kWs_ d K, i, G[j]? with
    | some s, some i, some (.inr (ci, fs)) => if ci = 999 then some [K] else (match fs[z]?, nRTq γ (sC (60 * (s : Int))) i with
      | some (0, fl), some (le, w, r) => if (nStp Γ γ d s i le w && (kEqf Γ fl i && kHav γ kind [sC (60 * (s : Int)), i])) = true then (match kAs Γ r 0 0 with
          | some Γ' => some [((pc, ls, st, G.set j (.inr (ci, fs.set z (0, sAdd i r))), c, s0, Γ'), (kind, [sC (60 * (s : Int)), sAdd i r]) :: γ)]
          | none => some []) else some [K]
      | _, _ => some [K])
    | _, _, _ => some [K])
def nRSs (zl : Nat) (K : kS) : Option kWs := nRst 0 24 zl 25 86 K (kLf K.1.2.1 3)
def nRSe (zl : Nat) (K : kS) : Option (List kS) := nRen 0 24 zl 86 K (kLf K.1.2.1 3)
/-- the reference begins -/
def nLSi (z1 : Nat) (K : kS) : Option kWs := match kWs_ 1 K, nFf K.1.2.2.2.1 52 z1, kFa K.2 87 (fun _ => true) with
  | some s, some i, none => if (decide (i = sC 0) && (kShb K.1.2.2.2.1 72 .int 61 && kLz K.1.2.2.2.1 84 360)) = true then some [([(87, [sC (60 * (s : Int)), sC 0])], [])] else none
  | _, _, _ => none
def nLSs (z1 : Nat) (K : kS) : Option kWs := nRst 1 52 z1 72 87 K (nFf K.1.2.2.2.1 52 z1)
def nLSe (z1 : Nat) (K : kS) : Option (List kS) := nRen 1 52 z1 87 K (nFf K.1.2.2.2.1 52 z1)
/-- a bit of ears -/
def nBit (Γ : sG) (ea one : sL) : Option sL := match nDl Γ 7 ea one with
  | some y => nDl Γ 3 y (sC 1)
  | none => none
def nHNi (K : kS) : Option kWs := match kFa K.2 91 (fun _ => true), kLf K.1.2.1 1, kLf K.1.2.1 2 with
  | none, some one, some p => if (decide (p = sC 0) && (kShb K.1.2.2.2.1 58 .int 7 || (kFa K.2 80 (fun _ => true)).isSome)) = true then some [([(91, [one, sC 0])], [])] else none
  | _, _, _ => none
/-- one more: local 2 is not yet counted -/
def nHNs (K : kS) : Option kWs := match kLf K.1.2.1 2, kLf K.1.2.1 1 with
  | some p, some one => if kHav K.2 91 [one, p] = true then (if kEqf K.1.2.2.2.2.2.2 p one = true then some [([(91, [one, sAdd p (sC 1)])], [])] else (match kFindEl K.2 58 p with
    | some ea => (match nBit K.1.2.2.2.2.2.2 ea one with
      | some z => if nZ0 K.1.2.2.2.2.2.2 z = true then some [([(91, [one, sAdd p (sC 1)])], [])] else none
      | none => none)
    | none => none)) else none
  | _, _ => none
def nHRe (K : kS) (n : Option sL) : Option kWs := match kLf K.1.2.1 2, kLf K.1.2.1 1, n, kTop K with
  | some p, some one, some n, some r => if r = sC 0 then (if (kHav K.2 91 [one, p] && sNN K.1.2.2.2.2.2.2 (sSub p n)) = true then some [([(92, [one, n, r])], [])] else none)
    else if r = sC 1 then (match kFindEl K.2 58 p with
      | some ea => (match nBit K.1.2.2.2.2.2.2 ea one with
        | some z => if (nNt K.1.2.2.2.2.2.2 z 0 && (sNN K.1.2.2.2.2.2.2 (sSub (sSub n p) (sC 1)) && (sNN K.1.2.2.2.2.2.2 p && (nNe K.1.2.2.2.2.2.2 p one && (kShb K.1.2.2.2.1 58 .int 7 || (kFa K.2 80 (fun _ => true)).isSome))))) = true then some [([(92, [one, n, r])], [])] else none
        | none => none)
      | none => none) else none
  | _, _, _, _ => none
def nHRx (z : Nat) (K : kS) : Option kWs := nHRe K (nFf K.1.2.2.2.1 1 z)
def nHRm (z : Nat) (K : kS) : Option kWs := nHRe K (nFf K.1.2.2.2.1 52 z)
/-- the sum on a day: b: 0 the class', else the reference's -/
def nSUc (Γ : sG) (b : Nat) (d s g r : sL) : Bool := sWi Γ.1 d 0 100000 && (sWi Γ.1 g 0 9999 && (sWi Γ.1 s 0 9999 && (match (match sK Γ.1 g with
    | some k => some (sMul k d)
    | none => nDl Γ (if b = 0 then 2 else 102) d g) with
  | some y => (match (if b = 0 then kNr Γ (sAdd s y) else some (sAdd s y)) with
    | some t => (decide (r = sC 9999) && sNN Γ (sSub t (sC 9999))) || (decide (r = t) && sNN Γ (sSub (sC 9999) t))
    | none => false)
  | none => false)))
def nSUx (K : kS) : Option kWs := match kLf K.1.2.1 1, kToldI K.1.2.2.2.1 9 0, kToldI K.1.2.2.2.1 10 0, kTop K with
  | some d, some s, some g, some r => if nSUc K.1.2.2.2.2.2.2 0 d s g r = true then some [([(93, [d, s, g, r])], [])] else none
  | _, _, _, _ => none
def nSUm (K : kS) : Option kWs := match sGetL K.1.2.1 1, kToldI K.1.2.2.2.1 59 0, kToldI K.1.2.2.2.1 59 1, kTop K with
  | some (1, d), some s, some g, some r => if nSUc K.1.2.2.2.2.2.2 1 d s g r = true then some [([(93, [d, s, g, r])], [])] else none
  | _, _, _, _ => none
section NSEN
variable {RO : List (Nat × (Nat → Int32))} {ρ : List Int} {Γ : sG} {γ : List kA} {H : List eE}
theorem nRt_r {g : Nat → Int64} {base : Nat} {le w : Int} : ∀ (n k : Nat), 0 ≤ nRt g base le w n k ∧ nRt g base le w n k ≤ n
  | 0, k => ⟨Int.le_refl _, Int.le_refl _⟩
  | n + 1, k => by
    have ih := nRt_r (g := g) (base := base) (le := le) (w := w) n (k + 1)
    simp only [nRt]
    split
    · omega
    · omega
theorem nRt_step {g : Nat → Int64} {base : Nat} {le w : Int} {n k : Nat} (hn : 1 ≤ n) (h : (k : Int) < le ∧ 0 ≤ nWd g base k ∧ nWd g base k < w) : nRt g base le w n k = 1 + nRt g base le w (n - 1) (k + 1) := by
  obtain ⟨m, rfl⟩ : ∃ m, n = m + 1 := ⟨n - 1, by omega⟩
  simp only [nRt, Nat.add_sub_cancel]
  rw [if_pos h]
theorem nRt_stop {g : Nat → Int64} {base : Nat} {le w : Int} {n k : Nat} (h : n = 0 ∨ ¬ ((k : Int) < le ∧ 0 ≤ nWd g base k ∧ nWd g base k < w)) : nRt g base le w n k = 0 := by
  cases n with
  | zero => rfl
  | succ m =>
    simp only [nRt]
    rw [if_neg (h.resolve_left (by omega))]
theorem nSet_f {G : List sE} {H : List eE} (hH : sHp ρ G H) {j z ci : Nat} {fs : List sV} {x y : sL} {v : Int} (hg : G[j]? = some (.inr (ci, fs))) (hci : ¬ ci = 999) (hx : fs[z]? = some (0, x)) (ex : sEv ρ x = some v) (ey : sEv ρ y = some v) : sHp ρ (G.set j (.inr (ci, fs.set z (0, y)))) H := by
  obtain ⟨e, hy, hxy⟩ := sHp_get hH hg (by simpa [sIsA] using hci)
  rcases e with e | ⟨ci', gs⟩
  · exact hxy.elim
  · obtain ⟨rfl, hV⟩ := hxy
    obtain ⟨w, h1, h2⟩ := sVs_get hV hx
    obtain ⟨zz, e1, rfl⟩ := sVr_int h2
    cases e1.symm.trans ex
    have hs := sVs_set (v := ((0, y) : sV)) (w := Value.int (Int32.ofInt v)) ⟨v, ey, rfl⟩ z hV
    have hse : gs.set z (Value.int (Int32.ofInt v)) = gs := by
      apply List.ext_getElem?
      intro i
      by_cases hi : z = i
      · subst hi
        rw [List.getElem?_set_self (List.getElem?_eq_some_iff.mp h1).1, h1]
      · rw [List.getElem?_set_ne hi]
    rw [hse] at hs
    have h3 := sHp_set (x := (.inr (ci', fs.set z (0, y)) : sE)) (y := .inr (ci', gs)) ⟨rfl, hs⟩ j hH
    rw [sSet_self hy] at h3
    exact h3
/-- a shelf's element as the reference has it -/
theorem nElw (hM : sMo ρ Γ) (hg : kGh (kGP (kUP RO)) ρ γ H) {d s : Nat} (hs : s < 6) {g : Nat → Int64} (hL : kLg 84 360 g H) (hd : d = 0 → kHav γ (14 + s) [sC (-1)] = true) {i x : sL} {zi : Int} (ei : sEv ρ i = some zi) (h0 : 0 ≤ zi) (h1 : zi < 60) (h : kWv Γ γ d s i 0 = some x) : sEv ρ x = some (nWd g (60 * s) zi.toNat) := by
  by_cases hd0 : d = 0
  · subst hd0
    obtain ⟨f, g', q1, q2, q3⟩ := kHavEL hs hg (hd rfl)
    cases kLg_one hL q2
    have e := kWv_ok (d := 0) (s := s) (f := f) hM hg q1 ei h0 (Int.le_refl 0) h
    rw [e]
    unfold nWd
    rw [← q3 zi.toNat (by omega)]
    simp [kWo]
  · have hc : kWc d s = 84 := by simp [kWc, hd0]
    have hn : kWn d = 360 := by simp [kWn, hd0]
    have ho : kWo d s = 60 * s := by simp [kWo, hd0]
    have e := kWv_ok (d := d) (s := s) (f := g) hM hg (by rw [hc, hn]; exact hL) ei h0 (Int.le_refl 0) h
    rw [e, ho, Int.add_zero]
    rfl
theorem nRTq_ok (hg : kGh (kGP (kUP RO)) ρ γ H) {b i le w r : sL} {zb zi : Int} (eb : sEv ρ b = some zb) (ei : sEv ρ i = some zi) (h : nRTq γ b i = some (le, w, r)) : ∃ zl zw zr, sEv ρ le = some zl ∧ sEv ρ w = some zw ∧ sEv ρ r = some zr ∧ nRT zb zi zl zw zr H := by
  unfold nRTq at h
  split at h
  · rename_i b' k le' w' r' hfa
    split at h
    · rename_i hc
      obtain ⟨rfl, rfl⟩ := hc
      cases h
      obtain ⟨-, zs, e1, e2⟩ := nFa_ok hg hfa (by decide) (by decide)
      obtain ⟨y1, y2, y3, y4, y5, rfl, f1, f2, f3, f4, f5⟩ := sVal_5 e1
      obtain ⟨a1, a2, a3, a4, a5, he, hR⟩ : ∃ a b c e r, [y1, y2, y3, y4, y5] = [a, b, c, e, r] ∧ nRT a b c e r H := e2
      cases he
      cases f1.symm.trans eb
      cases f2.symm.trans ei
      exact ⟨_, _, _, f3, f4, f5, hR⟩
    · cases h
  · cases h
theorem nRSi_ok (zl zw : Nat) : nRok RO (nRSi zl zw) := by
  intro K ws h ρ R hD
  unfold nRSi at h
  split at h
  · rename_i s i hs hi
    have hs6 := kWs_lt hs
    split at h
    · rename_i le w hle hw
      split at h
      · rename_i hc
        cases h
        simp only [Bool.and_eq_true, decide_eq_true_eq] at hc
        obtain ⟨c1, c2, c3⟩ := hc
        obtain ⟨f, g, q1, q2, q3⟩ := kHavEL hs6 hD.2.2 c2
        obtain ⟨S, hS⟩ := kSh1 hD.2.1.2.2.2.1 (by decide) rfl c3
        obtain ⟨yl, el⟩ := nFf_ok hD.2.1.2.2.2.1 hle
        obtain ⟨yw, ew⟩ := nFf_ok hD.2.1.2.2.2.1 hw
        have hr := nRt_r (g := g) (base := 60 * s) (le := yl) (w := yw) 10 0
        have hpre : ρ <+: ρ ++ [nRt g (60 * s) yl yw 10 0] := ⟨_, rfl⟩
        have hlen : K.1.2.2.2.2.2.2.1.length = ρ.length := hD.1.1.1
        have ex : sEv (ρ ++ [nRt g (60 * s) yl yw 10 0]) (sX K.1.2.2.2.2.2.2.1.length) = some (nRt g (60 * s) yl yw 10 0) := sEv_X (by rw [hlen]; simp)
        have l' := sEv_mono hpre el
        have w' := sEv_mono hpre ew
        have b' : (60 * (s : Int)).toNat = 60 * s := by omega
        refine ⟨_, List.mem_singleton.mpr rfl, [nRt g (60 * s) yl yw 10 0], ⟨_, rfl, hr.1, hr.2⟩, kGh_cons (kAt1 (zs := [60 * (s : Int), 0, yl, yw, nRt g (60 * s) yl yw 10 0]) (by decide) (by simp only [sVal, sEv_C, l', w', ex]) ((kUPn (by decide)).mpr ⟨_, _, _, _, _, rfl, g, q2, by omega, Int.le_refl _, by rw [b']; rfl⟩)) (kAt1 (zs := [60 * (s : Int), 0]) (by decide) (by simp only [sVal, sEv_C]) ((kUPn (by decide)).mpr ⟨_, _, rfl, S, g, hS, q2, by omega, fun k hk => by omega⟩)), fun b hb => by cases hb⟩
      · cases h
    · cases h
  · cases h
theorem nMNr_ok (zl : Nat) : kRok RO (nMNr zl) := by
  intro K ws h ρ R hD
  unfold nMNr at h
  split at h
  · rename_i s m hs hm
    split at h
    · rename_i le hle
      split at h
      · rename_i hc
        cases h
        simp only [Bool.or_eq_true, Bool.and_eq_true, decide_eq_true_eq] at hc
        obtain ⟨yl, el⟩ := nFf_ok hD.2.1.2.2.2.1 hle
        obtain ⟨ym, em⟩ := kLf_ok hD.2.1 hm
        refine ⟨_, List.mem_singleton.mpr rfl, kAt1 (zs := [ym, yl]) (by decide) (by simp only [sVal, em, el]) ((kUPn (by decide)).mpr ⟨_, _, rfl, ?_⟩), fun b hb => by cases hb⟩
        rcases hc with ⟨rfl, hc⟩ | ⟨rfl, hc⟩
        · cases em.symm.trans el
          have := sNN_ok hD.1 (sEv_sub (sEv_C 10) el) hc
          rw [if_neg (by omega)]
        · rw [sEv_C] at em
          cases em
          have := sNN_ok hD.1 (sEv_sub el (sEv_C 10)) hc
          split <;> omega
      · cases h
    · cases h
  · cases h
theorem nRst_ok {d j z cell kind n : Nat} (hk : ∀ (H : List eE) zs, nUP kind zs H ↔ ∃ a b, zs = [a, b] ∧ nSP cell n a b H) (hk1 : 53 ≤ kind) (hk2 : kind < 1000) {K : kS} {i : Option sL} {ws : kWs} (hi : ∀ x, i = some x → ∃ z, sEv ρ x = some z) (h : nRst d j z cell kind K i = some ws) {R : eR} (hD : kD (kGP (kUP RO)) ρ K R) : ∃ p ∈ ws, kGh (kGP (kUP RO)) ρ p.1 R.2.2.2.1 ∧ ∀ b ∈ p.2, ∃ z, sEv ρ b.1 = some z ∧ b.2.1 ≤ z ∧ z ≤ b.2.2 := by
  have hM := hD.1
  unfold nRst at h
  split at h
  · rename_i s i' fl hs hfl
    have hs6 := kWs_lt hs
    split at h
    · rename_i le w r x hrt hx
      split at h
      · rename_i hc
        cases h
        simp only [Bool.and_eq_true, Bool.or_eq_true, decide_eq_true_eq] at hc
        obtain ⟨c1, c2, c3, c4, c5, c6, c7, c8, c9⟩ := hc
        obtain ⟨zi, ei⟩ := hi _ rfl
        have ei1 := sEv_sub ei (sEv_C (ρ := ρ) 1)
        obtain ⟨zl, zw, zr, el, ew, er, g, hL, hb0, hk0, hR⟩ := nRTq_ok hD.2.2 (sEv_C _) ei1 hrt
        obtain ⟨zf, ef⟩ := nFf_ok hD.2.1.2.2.2.1 hfl
        have ef1 := sEv_sub ef (sEv_C (ρ := ρ) 1)
        have hfi := kEqf_ok hM ef1 ei1 c2
        have d7 := sNN_ok hM (sEv_sub (sEv_C 9) ei1) c7
        have d8 := sNN_ok hM ei1 c8
        have b' : (60 * (s : Int)).toNat = 60 * s := by omega
        have ex := nElw hM hD.2.2 hs6 hL (fun e => c9.resolve_left (fun q => q e)) ei1 d8 (by omega) hx
        have d4 := sNN_ok hM ex c4
        have d5 := sNN_ok hM (sEv_sub (sEv_sub ew ex) (sEv_C 1)) c5
        have d6 := sNN_ok hM (sEv_sub (sEv_sub el ei1) (sEv_C 1)) c6
        obtain ⟨zx, ex2, kx⟩ := kFindEl_ok hD.2.2 c3 ef1
        cases ex2.symm.trans ex
        obtain ⟨zs, k1, k2⟩ := kHav_ok hD.2.2 c1 (by omega)
        obtain ⟨y1, y2, rfl, f1, f2⟩ := sVal_2 k1
        cases f2.symm.trans ei1
        rw [sEv_C] at f1
        cases f1
        obtain ⟨a, b, he, S, g', hS, hL', hb1, hq⟩ := (hk _ _).mp ((kUPn hk1).mp k2)
        cases he
        cases kLg_one hL hL'
        rw [b'] at hR hq
        have hst := nRt_step (g := g) (base := 60 * s) (le := zl) (w := zw) (n := (10 - (zi - 1)).toNat) (k := (zi - 1).toNat) (by omega) ⟨by omega, by omega, by omega⟩
        have hrr := nRt_r (g := g) (base := 60 * s) (le := zl) (w := zw) ((10 - (zi - 1)).toNat - 1) ((zi - 1).toNat + 1)
        have er1 := sEv_sub er (sEv_C (ρ := ρ) 1)
        refine ⟨_, List.mem_singleton.mpr rfl, kGh_cons (kAt1 (zs := [60 * (s : Int), zi, zl, zw, zr - 1]) (by decide) (by simp only [sVal, sEv_C, ei, el, ew, er1]) ((kUPn (by decide)).mpr ⟨_, _, _, _, _, rfl, g, hL, by omega, by omega, ?_⟩)) (kAt1 (zs := [60 * (s : Int), zi]) (by omega) (by simp only [sVal, sEv_C, ei]) ((kUPn hk1).mpr ((hk _ _).mpr ⟨_, _, rfl, S, g, hS, hL, by omega, fun k hkl => ?_⟩))), fun b hb => ?_⟩
        · rw [b', show (10 - zi).toNat = (10 - (zi - 1)).toNat - 1 by omega, show zi.toNat = (zi - 1).toNat + 1 by omega]
          omega
        · rw [b']
          by_cases hke : (k : Int) = zi - 1
          · have e1 : k = (zf - 1).toNat := by omega
            rw [e1, (kEl_v kx hS).2, hfi]
            unfold nWd
            rw [Int32.ofInt_toInt]
          · exact hq k (by omega)
        · rw [List.mem_singleton.mp hb]
          exact ⟨_, er1, by simp only; omega, by simp only; omega⟩
      · cases h
    · cases h
  · cases h
theorem nSP86 (H : List eE) (zs : List Int) : nUP 86 zs H ↔ ∃ a b, zs = [a, b] ∧ nSP 25 64 a b H := Iff.rfl
theorem nSP87 (H : List eE) (zs : List Int) : nUP 87 zs H ↔ ∃ a b, zs = [a, b] ∧ nSP 72 61 a b H := Iff.rfl
theorem nRSs_ok (zl : Nat) : kRok RO (nRSs zl) := fun _ _ h _ _ hD => nRst_ok nSP86 (by decide) (by decide) (fun _ hx => kLf_ok hD.2.1 hx) h hD
theorem nLSs_ok (z1 : Nat) : kRok RO (nLSs z1) := fun _ _ h _ _ hD => nRst_ok nSP87 (by decide) (by decide) (fun _ hx => nFf_ok hD.2.1.2.2.2.1 hx) h hD
theorem nStp_ok (hM : sMo ρ Γ) (hg : kGh (kGP (kUP RO)) ρ γ H) {d s : Nat} (hs : s < 6) {g : Nat → Int64} (hL : kLg 84 360 g H) {i le w : sL} {zi zl zw : Int} (ei : sEv ρ i = some zi) (el : sEv ρ le = some zl) (ew : sEv ρ w = some zw) (h0 : 0 ≤ zi) (h : nStp Γ γ d s i le w = true) : nRt g (60 * s) zl zw (10 - zi).toNat zi.toNat = 0 := by
  unfold nStp at h
  simp only [Bool.or_eq_true, Bool.and_eq_true] at h
  rcases h with ⟨-, h⟩ | h | h | h
  · obtain ⟨fs, hfa⟩ := Option.isSome_iff_exists.mp h
    obtain ⟨p, zs, e1, e2⟩ := nFa_ok hg hfa (by decide) (by decide)
    split at p
    · rename_i m l
      simp only [Bool.and_eq_true, decide_eq_true_eq] at p
      obtain ⟨rfl, p⟩ := p
      obtain ⟨zm, zl', rfl, f1, f2⟩ := sVal_2 e1
      cases f2.symm.trans el
      obtain ⟨a, b, he, hm⟩ : ∃ a b, [zm, zl] = [a, b] ∧ a = (if 10 < b then 10 else b) := e2
      cases he
      have := sNN_ok hM (sEv_sub ei f1) p
      by_cases h10 : 10 ≤ zi
      · exact nRt_stop (Or.inl (by omega))
      · refine nRt_stop (Or.inr ?_)
        rintro ⟨q, -⟩
        split at hm <;> omega
    · cases p
  · have := sNN_ok hM (sEv_sub ei (sEv_C 10)) h
    exact nRt_stop (Or.inl (by omega))
  · have := sNN_ok hM (sEv_sub ei el) h
    refine nRt_stop (Or.inr ?_)
    rintro ⟨q, -⟩
    omega
  · split at h
    · rename_i x hx
      simp only [Bool.or_eq_true, Bool.and_eq_true, decide_eq_true_eq] at h
      by_cases h10 : 10 ≤ zi
      · exact nRt_stop (Or.inl (by omega))
      · have ex := nElw hM hg hs hL (fun e => h.2.resolve_left (fun q => q e)) ei h0 (by omega) hx
        refine nRt_stop (Or.inr ?_)
        rintro ⟨-, q1, q2⟩
        rcases h.1 with h1 | h1
        · have := sNN_ok hM (sEv_sub (sEv_C (-1)) ex) h1
          omega
        · have := sNN_ok hM (sEv_sub ex ew) h1
          omega
    · cases h
theorem nRen_ok {d j z cell kind n : Nat} (hk : ∀ (H : List eE) zs, nUP kind zs H ↔ ∃ a b, zs = [a, b] ∧ nSP cell n a b H) (hk1 : 53 ≤ kind) (hk2 : kind < 1000) {K : kS} {i : Option sL} {L : List kS} (hi : ∀ x, i = some x → ∃ z, sEv ρ x = some z) (h : nRen d j z kind K i = some L) {R : eR} (hD : kD (kGP (kUP RO)) ρ K R) : ∃ K' ∈ L, ∃ ρ', ρ <+: ρ' ∧ kD (kGP (kUP RO)) ρ' K' R := by
  obtain ⟨⟨pc, ls, st, G, c, s0, Γ⟩, γ⟩ := K
  have same : some [(((pc, ls, st, G, c, s0, Γ), γ) : kS)] = some L → ∃ K' ∈ L, ∃ ρ', ρ <+: ρ' ∧ kD (kGP (kUP RO)) ρ' K' R := fun g => by
    cases g
    exact ⟨_, List.mem_singleton.mpr rfl, ρ, List.prefix_refl _, hD⟩
  have hM : sMo ρ Γ := hD.1
  have hg : kGh (kGP (kUP RO)) ρ γ R.2.2.2.1 := hD.2.2
  simp only [nRen] at h
  split at h
  · rename_i s i' ci fs hs hG
    have hs6 := kWs_lt hs
    split at h
    · exact same h
    rename_i hci
    split at h
    · rename_i fl le w r hfl hrt
      split at h
      · rename_i hc
        simp only [Bool.and_eq_true] at hc
        obtain ⟨c1, c2, c3⟩ := hc
        obtain ⟨zi, ei⟩ := hi _ rfl
        obtain ⟨zl, zw, zr, el, ew, er, g, hL, hb0, hk0, hR⟩ := nRTq_ok hg (sEv_C _) ei hrt
        have b' : (60 * (s : Int)).toNat = 60 * s := by omega
        rw [b'] at hR
        have hst := nStp_ok hM hg hs6 hL ei el ew hk0 c1
        rw [hst] at hR
        obtain ⟨Γ', g1, g2⟩ := kAs_ok hM er (lo := 0) (hi := 0) (by omega) (by omega)
        rw [g1] at h
        cases h
        have hH : sHp ρ G R.2.2.2.1 := hD.2.1.2.2.2.1
        have hzf : ∃ v, sEv ρ fl = some v := by
          obtain ⟨e, hy, hxy⟩ := sHp_get hH hG (by simpa [sIsA] using hci)
          rcases e with e | ⟨ci', gs⟩
          · exact hxy.elim
          · exact nVs_int hxy.2 hfl
        obtain ⟨zf, ef⟩ := hzf
        have hfi := kEqf_ok hM ef ei c2
        have eir := sEv_add ei er
        rw [hR, Int.add_zero] at eir
        refine ⟨_, List.mem_singleton.mpr rfl, ρ, List.prefix_refl _, g2, ⟨hD.2.1.1, hD.2.1.2.1, hD.2.1.2.2.1, nSet_f hH hG hci hfl ef (by rw [hfi]; exact eir), hD.2.1.2.2.2.2⟩, fun q hq => ?_⟩
        rcases List.mem_cons.mp hq with rfl | hq
        · obtain ⟨zs, k1, k2⟩ := kHav_ok hg c3 (by omega)
          obtain ⟨y1, y2, rfl, f1, f2⟩ := sVal_2 k1
          cases f2.symm.trans ei
          rw [sEv_C] at f1
          cases f1
          exact kAt1 (RO := RO) (zs := [60 * (s : Int), zi]) (by omega) (by simp only [sVal, sEv_C, eir]) k2 _ (List.mem_singleton.mpr rfl)
        · exact hg q hq
      · exact same h
    · exact same h
  · exact same h
theorem nRSe_ok (zl : Nat) {K : kS} {L : List kS} (h : nRSe zl K = some L) {ρ : List Int} {R : eR} (hD : kD (kGP (kUP RO)) ρ K R) : ∃ K' ∈ L, ∃ ρ', ρ <+: ρ' ∧ kD (kGP (kUP RO)) ρ' K' R := nRen_ok nSP86 (by decide) (by decide) (fun _ hx => kLf_ok hD.2.1 hx) h hD
theorem nLSe_ok (z1 : Nat) {K : kS} {L : List kS} (h : nLSe z1 K = some L) {ρ : List Int} {R : eR} (hD : kD (kGP (kUP RO)) ρ K R) : ∃ K' ∈ L, ∃ ρ', ρ <+: ρ' ∧ kD (kGP (kUP RO)) ρ' K' R := nRen_ok nSP87 (by decide) (by decide) (fun _ hx => nFf_ok hD.2.1.2.2.2.1 hx) h hD
theorem nLSi_ok (z1 : Nat) : kRok RO (nLSi z1) := by
  intro K ws h ρ R hD
  unfold nLSi at h
  split at h
  · rename_i s i hs hi hfa
    split at h
    · rename_i hc
      cases h
      simp only [Bool.and_eq_true, decide_eq_true_eq] at hc
      obtain ⟨S, hS⟩ := kSh1 hD.2.1.2.2.2.1 (by decide) rfl hc.2.1
      obtain ⟨g, hL⟩ := kLz_ok hD.2.1.2.2.2.1 hc.2.2
      exact ⟨_, List.mem_singleton.mpr rfl, kAt1 (zs := [60 * (s : Int), 0]) (by decide) (by simp only [sVal, sEv_C]) ((kUPn (by decide)).mpr ⟨_, _, rfl, S, g, hS, hL, by omega, fun k hk => by omega⟩), fun b hb => by cases hb⟩
    · cases h
  · cases h
theorem nEars {G : List sE} (hH : sHp ρ G H) (hg : kGh (kGP (kUP RO)) ρ γ H) (h : (kShb G 58 .int 7 || (kFa γ 80 (fun _ => true)).isSome) = true) : ∃ f, nI2 H 58 7 f := by
  rcases Bool.or_eq_true_iff.mp h with h | h
  · exact kSh1 hH (by decide) rfl h
  · exact nNEa (t := 5) (by decide) hg h
theorem nHNi_ok : kRok RO nHNi := by
  intro K ws h ρ R hD
  unfold nHNi at h
  split at h
  · rename_i one p hn hone hp
    split at h
    · rename_i hc
      cases h
      simp only [Bool.and_eq_true, decide_eq_true_eq] at hc
      obtain ⟨f, hf⟩ := nEars hD.2.1.2.2.2.1 hD.2.2 hc.2
      obtain ⟨zo, eo⟩ := kLf_ok hD.2.1 hone
      exact ⟨_, List.mem_singleton.mpr rfl, kAt1 (zs := [zo, 0]) (by decide) (by simp only [sVal, eo, sEv_C]) ((kUPn (by decide)).mpr ⟨_, _, rfl, f, hf, fun q hq => by omega⟩), fun b hb => by cases hb⟩
    · cases h
  · cases h
theorem nBit_ok (hM : sMo ρ Γ) {ea one z : sL} {ze zo : Int} (e1 : sEv ρ ea = some ze) (e2 : sEv ρ one = some zo) (h : nBit Γ ea one = some z) : sEv ρ z = some (nBt (Int32.ofInt ze) (Int32.ofInt zo)).toInt := by
  unfold nBit at h
  split at h
  · rename_i y hy
    have ey := nDl_ok hM e1 e2 hy
    have ez := nDl_ok hM ey (sEv_C 1) h
    rw [ez]
    show some (Int32.ofInt (Int32.ofInt ze >>> (Int32.ofInt zo &&& 31)).toInt &&& Int32.ofInt 1).toInt = _
    rw [Int32.ofInt_toInt]
    rfl
  · cases h
theorem nHNs_ok : kRok RO nHNs := by
  intro K ws h ρ R hD
  have hM := hD.1
  unfold nHNs at h
  split at h
  · rename_i p one hp hone
    split at h
    · rename_i hh
      obtain ⟨zs, k1, k2⟩ := kHav_ok hD.2.2 hh (by decide)
      obtain ⟨zo, zp, rfl, eo, ep⟩ := sVal_2 k1
      obtain ⟨a, b, he, f, hf, hq⟩ : ∃ a b, [zo, zp] = [a, b] ∧ nHN a b R.2.2.2.1 := (kUPn (by decide)).mp k2
      cases he
      have ep1 := sEv_add ep (sEv_C (ρ := ρ) 1)
      have fin : (∀ q : Nat, (q : Int) = zp → (q : Int) ≠ zo → nBt (f q) (Int32.ofInt zo) = 0) → kGh (kGP (kUP RO)) ρ [(91, [one, sAdd p (sC 1)])] R.2.2.2.1 := fun hz => kAt1 (zs := [zo, zp + 1]) (by decide) (by simp only [sVal, eo, ep1]) ((kUPn (by decide)).mpr ⟨_, _, rfl, f, hf, fun q h1 h2 => by
        by_cases hqp : (q : Int) = zp
        · exact hz q hqp h2
        · exact hq q (by omega) h2⟩)
      split at h
      · rename_i hc
        cases h
        have := kEqf_ok hM ep eo hc
        exact ⟨_, List.mem_singleton.mpr rfl, fin fun q h1 h2 => absurd (by omega) h2, fun b hb => by cases hb⟩
      · split at h
        · rename_i ea hea
          split at h
          · rename_i z hz
            split at h
            · rename_i h0
              cases h
              obtain ⟨ze, ee, ke⟩ := kFindEl_ok hD.2.2 hea ep
              have ez := nBit_ok hM ee eo hz
              have hz0 := nZ0_ok hM ez h0
              refine ⟨_, List.mem_singleton.mpr rfl, fin fun q h1 h2 => ?_, fun b hb => by cases hb⟩
              have e1 : q = zp.toNat := by omega
              rw [e1, (kEl_v ke hf).2]
              exact Int32.toInt_inj.mp hz0
            · cases h
          · cases h
        · cases h
    · cases h
  · cases h
theorem nHRe_ok {K : kS} {n : Option sL} {ws : kWs} (h : nHRe K n = some ws) {R : eR} (hn : ∀ x, n = some x → ∃ z, sEv ρ x = some z) (hD : kD (kGP (kUP RO)) ρ K R) : ∃ p ∈ ws, kGh (kGP (kUP RO)) ρ p.1 R.2.2.2.1 ∧ ∀ b ∈ p.2, ∃ z, sEv ρ b.1 = some z ∧ b.2.1 ≤ z ∧ z ≤ b.2.2 := by
  have hM := hD.1
  unfold nHRe at h
  split at h
  · rename_i p one n' r hp hone hr
    obtain ⟨zn, en⟩ := hn _ rfl
    obtain ⟨zp, ep⟩ := kLf_ok hD.2.1 hp
    obtain ⟨zo, eo⟩ := kLf_ok hD.2.1 hone
    split at h
    · rename_i hr0
      subst hr0
      split at h
      · rename_i hc
        cases h
        simp only [Bool.and_eq_true] at hc
        obtain ⟨zs, k1, k2⟩ := kHav_ok hD.2.2 hc.1 (by decide)
        obtain ⟨zo', zp', rfl, eo', ep'⟩ := sVal_2 k1
        obtain ⟨a, b, he, f, hf, hq⟩ : ∃ a b, [zo', zp'] = [a, b] ∧ nHN a b R.2.2.2.1 := (kUPn (by decide)).mp k2
        cases he
        have := sNN_ok hM (sEv_sub ep' en) hc.2
        exact ⟨_, List.mem_singleton.mpr rfl, kAt1 (zs := [zo', zn, 0]) (by decide) (by simp only [sVal, eo', en, sEv_C]) ((kUPn (by decide)).mpr ⟨_, _, _, rfl, f, hf, Or.inl ⟨rfl, fun q h1 h2 => hq q (by omega) h2⟩⟩), fun b hb => by cases hb⟩
      · cases h
    · split at h
      · rename_i hr1
        subst hr1
        split at h
        · rename_i ea hea
          split at h
          · rename_i z hz
            split at h
            · rename_i hc
              cases h
              simp only [Bool.and_eq_true] at hc
              obtain ⟨c1, c2, c3, c4, c5⟩ := hc
              obtain ⟨f, hf⟩ := nEars hD.2.1.2.2.2.1 hD.2.2 c5
              obtain ⟨ze, ee, ke⟩ := kFindEl_ok hD.2.2 hea ep
              have ez := nBit_ok hM ee eo hz
              have d1 := nNt_ok hM ez c1
              have d2 := sNN_ok hM (sEv_sub (sEv_sub en ep) (sEv_C 1)) c2
              have d3 := sNN_ok hM ep c3
              have d4 := nNe_ok hM ep eo c4
              refine ⟨_, List.mem_singleton.mpr rfl, kAt1 (zs := [zo, zn, 1]) (by decide) (by simp only [sVal, eo, en, sEv_C]) ((kUPn (by decide)).mpr ⟨_, _, _, rfl, f, hf, Or.inr ⟨rfl, zp.toNat, by omega, by omega, fun q => ?_⟩⟩), fun b hb => by cases hb⟩
              rw [(kEl_v ke hf).2] at q
              rw [q] at d1
              exact d1 rfl
            · cases h
          · cases h
        · cases h
      · cases h
  · cases h
theorem nHRx_ok (z : Nat) : kRok RO (nHRx z) := fun _ _ h _ _ hD => nHRe_ok h (fun _ hx => nFf_ok hD.2.1.2.2.2.1 hx) hD
theorem nHRm_ok (z : Nat) : kRok RO (nHRm z) := fun _ _ h _ _ hD => nHRe_ok h (fun _ hx => nFf_ok hD.2.1.2.2.2.1 hx) hD
theorem nSUc_ok (hM : sMo ρ Γ) {b : Nat} {d s g r : sL} {zd zs zg zr : Int} (ed : sEv ρ d = some zd) (es : sEv ρ s = some zs) (eg : sEv ρ g = some zg) (er : sEv ρ r = some zr) (h : nSUc Γ b d s g r = true) : zr = (if 9999 < zs + zd * zg then 9999 else zs + zd * zg) := by
  unfold nSUc at h
  simp only [Bool.and_eq_true] at h
  obtain ⟨c1, c2, c3, h⟩ := h
  have b1 := sWi_ok hM.1 ed c1
  have b2 := sWi_ok hM.1 eg c2
  have b3 := sWi_ok hM.1 es c3
  have hp0 : 0 ≤ zd * zg := Int.mul_nonneg b1.1 b2.1
  have hp1 : zd * zg ≤ 100000 * 9999 := Int.mul_le_mul b1.2 b2.2 b2.1 (by decide)
  split at h
  · rename_i y hy
    have ey : sEv ρ y = some (zd * zg) := by
      split at hy
      · rename_i k hk
        cases hy
        have := sK_ok hM.1 eg hk
        subst this
        rw [sEv_mul _ ed, Int.mul_comm]
      · have e := nDl_ok hM ed eg hy
        rw [e]
        by_cases hb : b = 0
        · rw [if_pos hb]
          show some (Int32.ofInt zd * Int32.ofInt zg).toInt = _
          rw [← Int32.ofInt_mul, sTo32 (by omega) (by omega)]
        · rw [if_neg hb]
          show some (Int64.ofInt zd * Int64.ofInt zg).toInt = _
          rw [← Int64.ofInt_mul, sTo64 (by omega) (by omega)]
    have et0 := sEv_add es ey
    split at h
    · rename_i t ht
      have et : sEv ρ t = some (zs + zd * zg) := by
        split at ht
        · have e := kNr_ok hM et0 ht
          rw [e, Int64.toInt32_ofInt, sTo32 (by omega) (by omega)]
        · cases ht
          exact et0
      simp only [Bool.or_eq_true, Bool.and_eq_true, decide_eq_true_eq] at h
      rcases h with ⟨rfl, h⟩ | ⟨rfl, h⟩
      · have := sNN_ok hM (sEv_sub et (sEv_C 9999)) h
        rw [sEv_C] at er
        cases er
        split <;> omega
      · have := sNN_ok hM (sEv_sub (sEv_C 9999) et) h
        cases er.symm.trans et
        rw [if_neg (by omega)]
    · cases h
  · cases h
theorem nToldE {G : List sE} (hH : sHp ρ G H) {j i : Nat} {f : sL} (h : kToldI G j i = some f) : ∃ z, sEv ρ f = some z := by
  obtain ⟨n, a, z, -, -, e, -⟩ := kToldI_ok hH h
  exact ⟨z, e⟩
theorem nSUx_ok : kRok RO nSUx := by
  intro K ws h ρ R hD
  unfold nSUx at h
  split at h
  · rename_i d s g r hd hs hg hr
    split at h
    · rename_i hc
      cases h
      obtain ⟨zd, ed⟩ := kLf_ok hD.2.1 hd
      obtain ⟨zs, es⟩ := nToldE hD.2.1.2.2.2.1 hs
      obtain ⟨zg, eg⟩ := nToldE hD.2.1.2.2.2.1 hg
      obtain ⟨zr, er⟩ := nTop_ev hD.2.1 hr
      exact ⟨_, List.mem_singleton.mpr rfl, kAt1 (zs := [zd, zs, zg, zr]) (by decide) (by simp only [sVal, ed, es, eg, er]) ((kUPn (by decide)).mpr ⟨_, _, _, _, rfl, nSUc_ok hD.1 ed es eg er hc⟩), fun b hb => by cases hb⟩
    · cases h
  · cases h
theorem nSUm_ok : kRok RO nSUm := by
  intro K ws h ρ R hD
  unfold nSUm at h
  split at h
  · rename_i d s g r hd hs hg hr
    split at h
    · rename_i hc
      cases h
      obtain ⟨w, -, hw⟩ := hD.2.1.2.1 1 _ hd
      obtain ⟨zd, ed, -⟩ := sVr_long hw
      obtain ⟨zs, es⟩ := nToldE hD.2.1.2.2.2.1 hs
      obtain ⟨zg, eg⟩ := nToldE hD.2.1.2.2.2.1 hg
      obtain ⟨zr, er⟩ := nTop_ev hD.2.1 hr
      exact ⟨_, List.mem_singleton.mpr rfl, kAt1 (zs := [zd, zs, zg, zr]) (by decide) (by simp only [sVal, ed, es, eg, er]) ((kUPn (by decide)).mpr ⟨_, _, _, _, rfl, nSUc_ok hD.1 ed es eg er hc⟩), fun b hb => by cases hb⟩
    · cases h
  · cases h
end NSEN
end
