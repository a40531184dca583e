/-! The shortest way to say it: what both sides use; KINS, rooms. -/
noncomputable section
theorem sfSh31 : ∀ b : Fin 10, ((Int32.ofInt (b.1 : Int) &&& 31).toBitVec.smod 32).toNat = b.1 := by decide
theorem sfShr (x : Int32) {b : Nat} (hb : b < 10) : (x >>> (Int32.ofInt (b : Int) &&& 31)).toBitVec = x.toBitVec.sshiftRight b := by
  rw [Int32.toBitVec_shiftRight]
  show x.toBitVec.sshiftRight ((Int32.ofInt (b : Int) &&& 31).toBitVec.smod 32).toNat = _
  rw [sfSh31 ⟨b, hb⟩]
theorem sfBit {m : Int} {b : Nat} (hb : b < 10) (h : sOp 3 (sOp 7 m (b : Int)) 1 = 0) : aBtt m b = false := by
  have h1 : (Int32.ofInt (sOp 7 m (b : Int)) &&& Int32.ofInt 1).toInt = 0 := h
  have h7 : sOp 7 m (b : Int) = (Int32.ofInt m >>> (Int32.ofInt (b : Int) &&& 31)).toInt := rfl
  rw [h7, Int32.ofInt_toInt] at h1
  have h2 : (Int32.ofInt m >>> (Int32.ofInt (b : Int) &&& 31)) &&& Int32.ofInt 1 = 0 := by
    have := congrArg Int32.ofInt h1
    rw [Int32.ofInt_toInt] at this
    exact this
  have h3 := congrArg (fun y : Int32 => y.toBitVec.getLsbD 0) h2
  simp only [Int32.toBitVec_and, BitVec.getLsbD_and] at h3
  rw [sfShr _ hb, BitVec.getLsbD_sshiftRight] at h3
  unfold aBtt
  cases hq : (Int32.ofInt m).toBitVec.getLsbD b with
  | false => rfl
  | true =>
    exfalso
    rw [show (Int32.ofInt 1).toBitVec.getLsbD 0 = true by decide, show (0 : Int32).toBitVec.getLsbD 0 = false by decide] at h3
    simp [hq] at h3
    rw [if_pos (by omega)] at h3
    exact absurd (h3.symm.trans hq) Bool.false_ne_true
def sfN (n : sL) (fs : List sL) : Bool := match fs with
  | [_, n'] => decide (n' = n)
  | _ => false
/-- hl, b, the one, x, how many KINS, how many words -/
def sfQ (zn : Nat) (K : kS) : Option (sL × sL × sL × sL × sL × sL) := match kFa K.2 62 (fun _ => true), nFf K.1.2.2.2.1 24 zn, nFf K.1.2.2.2.1 27 6, nFf K.1.2.2.2.1 27 7, nFf K.1.2.2.2.1 1 1 with
  | some [_, hl], some v, some n, some x, some N => (match aOne K.2 v, kFa K.2 294 (sfN n) with
    | some [one, _], some [b, _] => if sI32 K.1.2.2.2.2.2.2.1 v = true then some (hl, b, one, x, n, N) else none
    | _, _ => none)
  | _, _, _, _, _ => none
def sfGv (γ : List kA) (hl w p b v : sL) : Option sL := match kFa γ 81 (tPre [hl, w, p, b, v]) with
  | some [_, _, _, _, _, g] => some g
  | _ => none
/-- whether the KIN of a word is the one at a place -/
def sfKi (Γ : sG) (γ : List kA) (cell : Nat) (w k n : sL) : Option Bool := match kFindEl γ 54 w, kFindEl γ cell k with
  | some a, some b => if (sI32 Γ.1 a && (sI32 Γ.1 b && (sNN Γ k && (sNN Γ (sSub (sSub n k) (sC 1)) && sInR Γ w 16)))) = true then (if kEqf Γ a b = true then some true else if nNe Γ a b = true then some false else none) else none
  | _, _ => none
def sfNE (γ : List kA) : Bool := kHav γ 75 [sC (-1)] && (kHav γ 76 [sC (-1)] && kHav γ 77 [sC (-1)])
def sfH9 (G : List sE) (j : Nat) : Bool := match G[j]? with
  | some (.inl (.int, 16, b, [])) => decide (0 ≤ b.1) && decide (b.2 ≤ 9)
  | _ => false
/-- LONG is told within bounds; not too many words -/
def sfLg (K : kS) (N : sL) : Bool := sfH9 K.1.2.2.2.1 5 && (kHav K.2 77 [sC (-1)] && sNN K.1.2.2.2.2.2.2 (sSub (sC 16) N))
section SFA
variable {RO : List (Nat × (Nat → Int32))} {ρ : List Int} {Γ : sG} {γ : List kA} {H : List eE}
theorem sfPt {g : Nat → Int64} {fn fk fl : Nat → Int32} (hG : kLg 84 360 g H) (hW : nW3 fn fk fl H) {hl b one x n N : Int} {F : pP → Prop} (h : pC H hl b one x n N F) : F (pQ H g fn fk fl hl b one x n N) := by
  obtain ⟨g', fn', fk', fl', h1, ⟨h2, h3, h4⟩, h5⟩ := h
  cases kLg_one hG h1
  cases hW.1.symm.trans h2
  cases hW.2.1.symm.trans h3
  cases hW.2.2.symm.trans h4
  exact h5
theorem sfAr {k : Nat} (hk : k = 300 ∨ (302 ≤ k ∧ k < 308) ∨ (311 ≤ k ∧ k < 320)) {hl b one x n N : sL} {zh zb zo zx zn zN : Int} (e1 : sEv ρ hl = some zh) (e2 : sEv ρ b = some zb) (e3 : sEv ρ one = some zo) (e4 : sEv ρ x = some zx) (e5 : sEv ρ n = some zn) (e6 : sEv ρ N = some zN) {fs : List sL} {zs : List Int} (hz : sVal ρ fs = some zs) {g : Nat → Int64} {fn fk fl : Nat → Int32} (hG : kLg 84 360 g H) (hW : nW3 fn fk fl H) (h : pPr H (pQ H g fn fk fl zh zb zo zx zn zN) k zs) : kGh (kGP (kUP RO)) ρ [(k, hl :: b :: one :: x :: n :: N :: fs)] H :=
  kAt1 (zs := zh :: zb :: zo :: zx :: zn :: zN :: zs) (by omega) (by simp only [sVal, e1, e2, e3, e4, e5, e6, hz]) ((kUPn (by omega)).mpr ((sfUQ hk).mpr ⟨g, fn, fk, fl, hG, hW, h⟩))
theorem sfUn {k : Nat} (hk : k = 300 ∨ (302 ≤ k ∧ k < 308) ∨ (311 ≤ k ∧ k < 320)) {hl b one x n N : sL} {zh zb zo zx zn zN : Int} (e1 : sEv ρ hl = some zh) (e2 : sEv ρ b = some zb) (e3 : sEv ρ one = some zo) (e4 : sEv ρ x = some zx) (e5 : sEv ρ n = some zn) (e6 : sEv ρ N = some zN) {fs : List sL} {zs : List Int} (hz : sVal ρ (hl :: b :: one :: x :: n :: N :: fs) = some zs) (h : nUP k zs H) : ∃ zs', sVal ρ fs = some zs' ∧ pC H zh zb zo zx zn zN (fun P => pPr H P k zs') := by
  obtain ⟨y1, y2, y3, y4, y5, y6, zr, rfl, f1, f2, f3, f4, f5, f6, hz2⟩ := sVal_6c hz
  cases f1.symm.trans e1
  cases f2.symm.trans e2
  cases f3.symm.trans e3
  cases f4.symm.trans e4
  cases f5.symm.trans e5
  cases f6.symm.trans e6
  exact ⟨zr, hz2, (sfUQ hk).mp h⟩
theorem sfHv (hg : kGh (kGP (kUP RO)) ρ γ H) {k : Nat} (hk : k = 300 ∨ (302 ≤ k ∧ k < 308) ∨ (311 ≤ k ∧ k < 320)) {hl b one x n N : sL} {zh zb zo zx zn zN : Int} (e1 : sEv ρ hl = some zh) (e2 : sEv ρ b = some zb) (e3 : sEv ρ one = some zo) (e4 : sEv ρ x = some zx) (e5 : sEv ρ n = some zn) (e6 : sEv ρ N = some zN) {fs : List sL} (h : kHav γ k (hl :: b :: one :: x :: n :: N :: fs) = true) : ∃ zs', sVal ρ fs = some zs' ∧ pC H zh zb zo zx zn zN (fun P => pPr H P k zs') := by
  obtain ⟨zs, e, h2⟩ := kHav_ok hg h (by omega)
  exact sfUn hk e1 e2 e3 e4 e5 e6 e ((kUPn (by omega)).mp h2)
theorem sfTk {p fs : List sL} (h : tPre p fs = true) : fs = p ++ fs.drop p.length := by
  unfold tPre at h
  have h := of_decide_eq_true h
  have e := (List.take_append_drop p.length fs).symm
  rw [h] at e
  exact e
/-- an atom that begins so -/
theorem sfFa (hg : kGh (kGP (kUP RO)) ρ γ H) {k : Nat} (hk : k = 300 ∨ (302 ≤ k ∧ k < 308) ∨ (311 ≤ k ∧ k < 320)) {hl b one x n N : sL} {zh zb zo zx zn zN : Int} (e1 : sEv ρ hl = some zh) (e2 : sEv ρ b = some zb) (e3 : sEv ρ one = some zo) (e4 : sEv ρ x = some zx) (e5 : sEv ρ n = some zn) (e6 : sEv ρ N = some zN) {q gs : List sL} {p : List sL → Bool} (hp : ∀ fs, p fs = true → tPre (hl :: b :: one :: x :: n :: N :: q) fs = true) (h : kFa γ k p = some gs) : ∃ fs, gs = hl :: b :: one :: x :: n :: N :: (q ++ fs) ∧ ∃ zs', sVal ρ (q ++ fs) = some zs' ∧ pC H zh zb zo zx zn zN (fun P => pPr H P k zs') := by
  obtain ⟨h1, zs, e, h2⟩ := nFa_ok hg h (by omega) (by omega)
  have he := sfTk (hp _ h1)
  refine ⟨_, he, ?_⟩
  rw [he] at e
  exact sfUn hk e1 e2 e3 e4 e5 e6 e h2
theorem sfNE_ok (hg : kGh (kGP (kUP RO)) ρ γ H) (h : sfNE γ = true) : ∃ fn fk fl, nW3 fn fk fl H := by
  unfold sfNE at h
  simp only [Bool.and_eq_true] at h
  have key : ∀ {t : Nat}, t < 3 → kHav γ (75 + t) [sC (-1)] = true → ∃ f, nI2 H (53 + t) 16 f := fun {t} ht hh => by
    obtain ⟨zs, e, h2⟩ := kHav_ok hg hh (by omega)
    obtain ⟨z, rfl, e1⟩ := sVal_1 e
    obtain ⟨f, g, q1, q2, q3⟩ := nUP_NE (k := 75 + t) ⟨by omega, by omega⟩ ((kUPn (by omega)).mp h2)
    rw [show 75 + t - 75 = t by omega] at q2
    rw [show nNn t = 16 by unfold nNn; rw [if_pos ht]] at q2
    exact ⟨g, q2⟩
  obtain ⟨fn, q1⟩ := key (t := 0) (by decide) h.1
  obtain ⟨fk, q2⟩ := key (t := 1) (by decide) h.2.1
  obtain ⟨fl, q3⟩ := key (t := 2) (by decide) h.2.2
  exact ⟨fn, fk, fl, q1, q2, q3⟩
theorem sfH9_ok {G : List sE} (hH : sHp ρ G H) {j : Nat} (h : sfH9 G j = true) : ∃ f, nI2 H j 16 f ∧ ∀ i : Nat, i < 16 → 0 ≤ (f i).toInt ∧ (f i).toInt ≤ 9 := by
  unfold sfH9 at h
  split at h
  · rename_i b hx
    rw [Bool.and_eq_true, decide_eq_true_eq, decide_eq_true_eq] at h
    obtain ⟨y, hy, hr⟩ := sHp_get hH hx
    obtain ⟨ty, n, arr⟩ | ⟨c, fs⟩ := y
    · obtain ⟨rfl, rfl, hr⟩ := hr
      match arr, hr with
      | .inl f, hr =>
        refine ⟨f, hy, fun i hi => ?_⟩
        have q : b.1 ≤ (f i).toInt ∧ (f i).toInt ≤ b.2 := hr.2 i hi
        omega
      | .inr (.inl f), hr => cases hr.1
      | .inr (.inr f), hr => cases hr.1
    · exact hr.elim
  · cases h
/-- a like array is told so too -/
theorem sfNE9 {G : List sE} (hH : sHp ρ G H) (hg : kGh (kGP (kUP RO)) ρ γ H) {t : Nat} (ht : t < 3) (h1 : sfH9 G (3 + t) = true) (h2 : kHav γ (75 + t) [sC (-1)] = true) {f : Nat → Int32} (hf : nI2 H (53 + t) 16 f) : ∀ i : Nat, i < 16 → 0 ≤ (f i).toInt ∧ (f i).toInt ≤ 9 := by
  obtain ⟨f1, q1, q2⟩ := sfH9_ok hH h1
  obtain ⟨zs, e, h3⟩ := kHav_ok hg h2 (by omega)
  obtain ⟨z, rfl, e1⟩ := sVal_1 e
  rw [sEv_C] at e1
  cases e1
  obtain ⟨f2, g2, k1, k2, k3⟩ := nUP_NE (k := 75 + t) ⟨by omega, by omega⟩ ((kUPn (by omega)).mp h3)
  rw [show 75 + t - 75 = t by omega] at k1 k2 k3
  rw [show nNn t = 16 by unfold nNn; rw [if_pos ht]] at k2 k3
  cases q1.symm.trans k1
  cases hf.symm.trans k2
  intro i hi
  rw [← k3 i hi (by omega)]
  exact q2 i hi
theorem sfLg_ok {K : kS} {R : eR} (hD : kD (kGP (kUP RO)) ρ K R) {N : sL} {zN : Int} (eN : sEv ρ N = some zN) (h : sfLg K N = true) {g : Nat → Int64} {fn fk fl : Nat → Int32} (hW : nW3 fn fk fl R.2.2.2.1) {zh zb zo zx zn : Int} : pL9 (pQ R.2.2.2.1 g fn fk fl zh zb zo zx zn zN) ∧ zN ≤ 16 := by
  unfold sfLg at h
  simp only [Bool.and_eq_true] at h
  have d := sNN_ok hD.1 (sEv_sub (sEv_C 16) eN) h.2.2
  exact ⟨fun w hw => sfNE9 (t := 2) hD.2.1.2.2.2.1 hD.2.2 (by decide) h.1 h.2.1 hW.2.2 w hw, by omega⟩
/-- what a word gives is one number -/
theorem sfFn {g : Nat → Int64} {fn fk fl : Nat → Int32} {zh zb zo zx zn zN : Int} : pFn (pQ H g fn fk fl zh zb zo zx zn zN) := by
  rintro w k b r r' ⟨v, ⟨k1, k2⟩, k3⟩ ⟨v', ⟨k1', k2'⟩, k3'⟩
  obtain ⟨ty, n, arr, q1, q2, q3⟩ := k1
  obtain ⟨ty', n', arr', q1', q2', q3'⟩ := k1'
  cases q1.symm.trans q1'
  have e : v = v' := by
    match arr, q3, q3' with
    | .inl f, q3, q3' => exact n32i k2 k2' (q3.symm.trans q3')
    | .inr (.inl f), q3, q3' =>
      have e := congrArg Int64.toInt (q3.symm.trans q3')
      rw [Int64.toInt_ofInt_of_le (by omega) (by omega), Int64.toInt_ofInt_of_le (by omega) (by omega)] at e
      exact e
  subst e
  exact nGV_one k3 k3'
theorem sfQ_ok {zn : Nat} {K : kS} {R : eR} (hD : kD (kGP (kUP RO)) ρ K R) {hl b one x n N : sL} (h : sfQ zn K = some (hl, b, one, x, n, N)) : ∃ zh zb zo zx zn' zN v zv, sEv ρ hl = some zh ∧ sEv ρ b = some zb ∧ sEv ρ one = some zo ∧ sEv ρ x = some zx ∧ sEv ρ n = some zn' ∧ sEv ρ N = some zN ∧ nFf K.1.2.2.2.1 24 zn = some v ∧ sEv ρ v = some zv ∧ (kEl 57 zo zv R.2.2.2.1 ∧ -2147483648 ≤ zv ∧ zv ≤ 2147483647) ∧ nSP 28 8 zb zn' R.2.2.2.1 := by
  have hH := hD.2.1.2.2.2.1
  unfold sfQ at h
  split at h
  · rename_i x1 hl' v n' x' N' h1 h2 h3 h4 h5
    split at h
    · rename_i one' x2 b' x3 h6 h7
      split at h
      · rename_i hc
        cases h
        obtain ⟨-, zs, e, -⟩ := nFa_ok hD.2.2 h1 (by decide) (by decide)
        obtain ⟨z1, zh, rfl, -, eh⟩ := sVal_2 e
        obtain ⟨zv, ev⟩ := nFf_ok hH h2
        obtain ⟨zn', en⟩ := nFf_ok hH h3
        obtain ⟨zx, ex⟩ := nFf_ok hH h4
        obtain ⟨zN, eN⟩ := nFf_ok hH h5
        obtain ⟨zo, eo, ko⟩ := aOne_ok hD.2.2 ev h6
        obtain ⟨q, zs, e, k2⟩ := nFa_ok hD.2.2 h7 (by decide) (by decide)
        unfold sfN at q
        have q := of_decide_eq_true q
        subst q
        obtain ⟨zb, zn2, rfl, eb, en2⟩ := sVal_2 e
        cases en2.symm.trans en
        obtain ⟨a', b'', he, hS⟩ : ∃ a b, [zb, zn'] = [a, b] ∧ nSP 28 8 a b R.2.2.2.1 := (sfUP (by decide)).mp k2
        cases he
        exact ⟨zh, zb, zo, zx, zn', zN, v, zv, eh, eb, eo, ex, en, eN, h2, ev, ⟨ko, sWi_ok hD.1.1 ev hc⟩, hS⟩
      · cases h
    · cases h
  · cases h
theorem sfGv_ok (hg : kGh (kGP (kUP RO)) ρ γ H) {hl w p b v r : sL} {zh zw zp zb zv zo : Int} (e1 : sEv ρ hl = some zh) (e2 : sEv ρ w = some zw) (e3 : sEv ρ p = some zp) (e4 : sEv ρ b = some zb) (e5 : sEv ρ v = some zv) (hk : kEl 57 zo zv H ∧ -2147483648 ≤ zv ∧ zv ≤ 2147483647) (h : sfGv γ hl w p b v = some r) : ∃ zr, sEv ρ r = some zr ∧ pG H zh zo zw zp zb zr := by
  unfold sfGv at h
  split at h
  · rename_i x1 x2 x3 x4 x5 g hfa
    cases h
    obtain ⟨h1, zs, e, h2⟩ := nFa_ok hg hfa (by decide) (by decide)
    have he := sfTk h1
    simp only [List.length_cons, List.length_nil, List.drop_succ_cons, List.drop_zero, List.cons_append, List.nil_append, List.cons.injEq, and_true] at he
    obtain ⟨rfl, rfl, rfl, rfl, rfl⟩ := he
    obtain ⟨y1, y2, y3, y4, y5, y6, rfl, f1, f2, f3, f4, f5, f6⟩ := sVal_6 e
    obtain ⟨a1, a2, a3, a4, a5, a6, he, hV⟩ : ∃ h w p b v r, [y1, y2, y3, y4, y5, y6] = [h, w, p, b, v, r] ∧ nGV h w p b v r H := h2
    cases he
    cases f1.symm.trans e1
    cases f2.symm.trans e2
    cases f3.symm.trans e3
    cases f4.symm.trans e4
    cases f5.symm.trans e5
    exact ⟨y6, f6, zv, hk, hV⟩
  · cases h
/-- a KIN told -/
theorem sfKe {cell : Nat} {zb zn zk zv : Int} {g : Nat → Int64} (hG : kLg 84 360 g H) (hS : nSP cell 8 zb zn H) (h0 : 0 ≤ zk) (h1 : zk < zn) (hk : kEl cell zk zv H) : Int32.ofInt zv = Int32.ofInt (jW g zb zk.toNat) := by
  obtain ⟨S, g', s1, s2, s3, s4⟩ := hS
  cases kLg_one hG s2
  obtain ⟨-, q⟩ := kElA hk s1
  rw [← q, s4 zk.toNat (by omega)]
  unfold jW nWd
  rw [Int32.ofInt_toInt]
theorem sfRng (y : Int32) : -2147483648 ≤ y.toInt ∧ y.toInt ≤ 2147483647 := ⟨Int32.le_toInt y, by have := Int32.toInt_lt y; omega⟩
theorem sfWr (g : Nat → Int64) (b : Int) (k : Nat) : -2147483648 ≤ jW g b k ∧ jW g b k ≤ 2147483647 := sfRng _
theorem sfKi_ok (hM : sMo ρ Γ) (hg : kGh (kGP (kUP RO)) ρ γ H) {cell : Nat} {g : Nat → Int64} {fn fk fl : Nat → Int32} (hG : kLg 84 360 g H) (hW : nW3 fn fk fl H) {zb zn zw zk : Int} (hS : nSP cell 8 zb zn H) {w k n : sL} (ew : sEv ρ w = some zw) (ek : sEv ρ k = some zk) (en : sEv ρ n = some zn) {t : Bool} (h : sfKi Γ γ cell w k n = some t) : 0 ≤ zw ∧ zw < 16 ∧ 0 ≤ zk ∧ zk < zn ∧ (t = true ↔ (fk zw.toNat).toInt = jW g zb zk.toNat) := by
  unfold sfKi at h
  split at h
  · rename_i a b ha hb
    split at h
    · rename_i hc
      simp only [Bool.and_eq_true] at hc
      obtain ⟨c1, c2, c3, c4, c5⟩ := hc
      obtain ⟨za, ea, ka⟩ := kFindEl_ok hg ha ew
      obtain ⟨zb', eb, kb⟩ := kFindEl_ok hg hb ek
      have d3 := sNN_ok hM ek c3
      have d4 := sNN_ok hM (sEv_sub (sEv_sub en ek) (sEv_C 1)) c4
      obtain ⟨w0, w1, -⟩ := sInR_at hM ew c5
      have ra := sWi_ok hM.1 ea c1
      have rb := sWi_ok hM.1 eb c2
      have va := (kElA ka hW.2.1).2
      have vb := sfKe hG hS d3 (by omega) kb
      have eb2 := n32i rb (sfWr g zb zk.toNat) vb
      have ea2 : (fk zw.toNat).toInt = za := by
        refine n32i (sfRng _) ra ?_
        rw [Int32.ofInt_toInt]
        exact va
      refine ⟨w0, w1, d3, by omega, ?_⟩
      rw [ea2, ← eb2]
      split at h
      · rename_i hq
        cases h
        exact ⟨fun _ => kEqf_ok hM ea eb hq, fun _ => rfl⟩
      · split at h
        · rename_i hq
          cases h
          exact ⟨fun q => (by cases q), fun q => absurd q (nNe_ok hM ea eb hq)⟩
        · cases h
    · cases h
  · cases h
end SFA
end
