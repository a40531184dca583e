/-! What a word, what two words come to; the word for another one. -/
noncomputable section
/-- what is left of x, when less than nothing is nothing -/
def aIsp (Γ : sG) (r x : sL) : Bool := (decide (r = x) && sNN Γ x) || (decide (r = sC 0) && sNN Γ (sMul (-1) x))
def aPnr (Γ : sG) (r al s : sL) : Bool := (decide (r = al) && sNN Γ (sMul (-1) s)) || (decide (r = sAdd al s) && sNN Γ s)
/-- a word alone, two words: told before -/
def aAlq (f : sL → Bool) (hl one w : sL) (q : kA) : Bool := decide (q.1 = 113) && (match q.2 with
  | [h, o, w', x] => decide (h = hl) && (decide (o = one) && (decide (w' = w) && f x))
  | _ => false)
def aAls (γ : List kA) (hl one w : sL) (f : sL → Bool) : Bool := γ.any (aAlq f hl one w)
def aPnq (f : sL → Bool) (hl one a b : sL) (q : kA) : Bool := decide (q.1 = 114) && (match q.2 with
  | [h, o, a', b', x] => decide (h = hl) && (decide (o = one) && (decide (a' = a) && (decide (b' = b) && f x)))
  | _ => false)
def aPns (γ : List kA) (hl one a b : sL) (f : sL → Bool) : Bool := γ.any (aPnq f hl one a b)
/-- whether two words are of one KIN -/
def aLkn (Γ : sG) (γ : List kA) (a b : sL) : Option Bool := match kFindEl γ 54 a, kFindEl γ 54 b with
  | some x, some y => if (sI32 Γ.1 x && sI32 Γ.1 y) = true then (if kEqf Γ x y = true then some true else if nNe Γ x y = true then some false else none) else none
  | _, _ => none
/-- the one who speaks in the class -/
def aOne (γ : List kA) (nv : sL) : Option (List sL) := kFa γ 1057 (fun fs => match fs with
  | [_, v] => decide (v = nv)
  | _ => false)
def aGw (γ : List kA) (hl w p a one : sL) : Option (List sL) := kFa γ 85 (fun fs => match fs with
  | [h, w', p', a', o, _] => decide (h = hl) && (decide (w' = w) && (decide (p' = p) && (decide (a' = a) && decide (o = one))))
  | _ => false)
def aGv (γ : List kA) (w nv : sL) (p : Int) (f : sL → Bool) : Option (List sL) := kFa γ 81 (fun fs => match fs with
  | [_, w', p', b, v, _] => decide (w' = w) && (decide (p' = sC p) && (f b && decide (v = nv)))
  | _ => false)
def aGAw (zn : Nat) (K : kS) : Option kWs := match kLf K.1.2.1 1, nFf K.1.2.2.2.1 24 zn, kTop K with
  | some w, some nv, some x => (match aGv K.2 w nv 0 (fun b => decide (b = sC 0)), aOne K.2 nv with
    | some [hl, _, _, _, _, r], some [one, _] => if (sI32 K.1.2.2.2.2.2.2.1 nv && aIsp K.1.2.2.2.2.2.2 x r) = true then some [([(85, [hl, w, sC 0, sC (-1), one, r]), (113, [hl, one, w, x])], [])] else none
    | _, _ => none)
  | _, _, _ => none
def aALm (zh : Nat) (K : kS) : Option kWs := match kLf K.1.2.1 1, kLf K.1.2.1 2, nFf K.1.2.2.2.1 52 zh, kTop K with
  | some w, some one, some hl, some x => (match aGw K.2 hl w (sC 0) (sC (-1)) one with
    | some [_, _, _, _, _, r] => if aIsp K.1.2.2.2.2.2.2 x r = true then some [([(113, [hl, one, w, x])], [])] else none
    | _ => none)
  | _, _, _, _ => none
def aPNx (zn : Nat) (K : kS) : Option kWs := match kLf K.1.2.1 1, kLf K.1.2.1 2, nFf K.1.2.2.2.1 24 zn, kTop K with
  | some a, some b, some nv, some r => (match aGv K.2 b nv 1 (fun _ => true), aOne K.2 nv with
    | some [hl, _, _, bb, _, s], some [one, _] => if (sI32 K.1.2.2.2.2.2.2.1 nv && (nBsp K.1.2.2.2.2.2.2 K.2 b a bb && aAls K.2 hl one a (fun x => aPnr K.1.2.2.2.2.2.2 r x s))) = true then some [([(114, [hl, one, a, b, r])], [])] else none
    | _, _ => none)
  | _, _, _, _ => none
def aPNm (zh : Nat) (K : kS) : Option kWs := match kLf K.1.2.1 1, kLf K.1.2.1 2, kLf K.1.2.1 3, nFf K.1.2.2.2.1 52 zh, kTop K with
  | some a, some b, some one, some hl, some r => (match aGw K.2 hl a (sC 0) (sC (-1)) one, aGw K.2 hl b (sC 1) a one with
    | some [_, _, _, _, _, u], some [_, _, _, _, _, s] => if ((aIsp K.1.2.2.2.2.2.2 (sC 0) u && aPnr K.1.2.2.2.2.2.2 r (sC 0) s) || (aIsp K.1.2.2.2.2.2.2 u u && aPnr K.1.2.2.2.2.2.2 r u s)) = true then some [([(114, [hl, one, a, b, r])], [])] else none
    | _, _ => none)
  | _, _, _, _, _ => none
def aWFi (K : kS) : Option kWs := match kLf K.1.2.1 1, kLf K.1.2.1 2, kLf K.1.2.1 3, kLf K.1.2.1 4, kLf K.1.2.1 5 with
  | some w, some one, some b, some l, some o => if (decide (o = sC 0) && decide (b = w)) = true then (match kFa K.2 115 (fun _ => true), kFa K.2 113 (fun fs => match fs with
      | [_, e, w', x] => decide (e = one) && (decide (w' = w) && decide (l = sAdd x (sC 1)))
      | _ => false) with
    | none, some [h, _, _, _] => some [([(115, [h, one, w, sC 0, w, l])], [])]
    | _, _ => none) else none
  | _, _, _, _, _ => none
def aWFs (K : kS) : Option kWs := match kFa K.2 115 (fun _ => true), kLf K.1.2.1 1, kLf K.1.2.1 2, kLf K.1.2.1 3, kLf K.1.2.1 4, kLf K.1.2.1 5 with
  | some [h, e, w', i, b0, l0], some w, some one, some b, some l, some o => if (decide (e = one) && (decide (w' = w) && decide (i = o))) = true then (match aLkn K.1.2.2.2.2.2.2 K.2 o w with
    | some false => if (decide (b = b0) && decide (l = l0)) = true then some [([(115, [h, e, w', sAdd o (sC 1), b, l])], [])] else none
    | some true => if aAls K.2 h one o (fun x => (sNN K.1.2.2.2.2.2.2 (sSub (sSub l0 x) (sC 1)) && (decide (b = o) && decide (l = x))) || (sNN K.1.2.2.2.2.2.2 (sSub x l0) && (decide (b = b0) && decide (l = l0)))) = true then some [([(115, [h, e, w', sAdd o (sC 1), b, l])], [])] else none
    | none => none) else none
  | _, _, _, _, _, _ => none
def aWFe (K : kS) : Option kWs := match kFa K.2 115 (fun _ => true), nFf K.1.2.2.2.1 1 1, kTop K with
  | some [h, e, w, i, b, _], some n, some r => if (decide (r = b) && (kEqf K.1.2.2.2.2.2.2 i n && sNN K.1.2.2.2.2.2.2 (sSub (sSub n w) (sC 1)))) = true then some [([(132, [h, e, w, n, b])], [])] else none
  | _, _, _ => none
def aAMi (zh : Nat) (K : kS) : Option kWs := match kLf K.1.2.1 1, kLf K.1.2.1 2, kLf K.1.2.1 3, kLf K.1.2.1 4, nFf K.1.2.2.2.1 52 zh with
  | some w, some one, some b, some o, some hl => if (decide (o = sC 0) && (decide (b = sC (-1)) && (kShb K.1.2.2.2.1 54 .int 16 && !kHav K.2 116 [hl, one, w, sC 0, sC (-1)]))) = true then some [([(116, [hl, one, w, sC 0, sC (-1)])], [])] else none
  | _, _, _, _, _ => none
def aAMq (γ : List kA) (hl one w o : sL) : Option (List sL) := kFa γ 116 (fun fs => match fs with
  | [h, e, w', i, _] => decide (h = hl) && (decide (e = one) && (decide (w' = w) && decide (i = o)))
  | _ => false)
def aAMs (zh : Nat) (K : kS) : Option kWs := match kLf K.1.2.1 1, kLf K.1.2.1 2, kLf K.1.2.1 3, kLf K.1.2.1 4, nFf K.1.2.2.2.1 52 zh with
  | some w, some one, some b, some o, some hl => (match aAMq K.2 hl one w o with
    | some [_, _, _, _, b0] => (match aLkn K.1.2.2.2.2.2.2 K.2 o w with
      | some false => if b = b0 then some [([(116, [hl, one, w, sAdd o (sC 1), b])], [])] else none
      | some true => if sNN K.1.2.2.2.2.2.2 (sSub (sC (-1)) b0) = true then (if b = o then some [([(116, [hl, one, w, sAdd o (sC 1), b])], [])] else none)
        else if aAls K.2 hl one o (fun x => aAls K.2 hl one b0 (fun m => (sNN K.1.2.2.2.2.2.2 (sSub (sSub m x) (sC 1)) && decide (b = o)) || (sNN K.1.2.2.2.2.2.2 (sSub x m) && decide (b = b0)))) = true then some [([(116, [hl, one, w, sAdd o (sC 1), b])], [])] else none
      | none => none)
    | _ => none)
  | _, _, _, _, _ => none
def aAMe (zw : Nat) (K : kS) : Option kWs := match kFa K.2 116 (fun _ => true), nFf K.1.2.2.2.1 52 zw, kTop K with
  | some [h, e, w, i, b], some n, some r => if (decide (r = b) && kEqf K.1.2.2.2.2.2.2 i n) = true then some [([(116, [h, e, w, n, b])], [])] else none
  | _, _, _ => none
/-- the class' word, where the reference's is told -/
def aSmw (K : kS) : Option (List kS) := match K with
  | ((pc, ls, (0, r) :: st, G, c, s, Γ), γ) => (match kFa γ 116 (fun fs => decide (fs.getLast? = some r)) with
    | some [h, e, w, n, _] => (match kFa γ 132 (fun fs => match fs with
        | [h', e', w', n', _] => decide (h' = h) && (decide (e' = e) && (decide (w' = w) && decide (n' = n)))
        | _ => false) with
      | some [_, _, _, _, x] => if x = r then some [K] else some [((pc, ls, (0, x) :: st, G, c, s, Γ), γ)]
      | _ => some [K])
    | _ => some [K])
  | _ => some [K]
section AWRD
variable {RO : List (Nat × (Nat → Int32))} {ρ : List Int} {Γ : sG} {γ : List kA} {H : List eE}
theorem aUPi {k : Nat} {zs : List Int} {fk : Nat → Int32} (hk : 113 ≤ k ∧ k ≠ 117 ∧ k ≠ 126 ∧ k < 135) (h1 : nI2 H 54 16 fk) (h2 : aPr (aGH H) fk k zs) : nUP k zs H := by
  refine (nUP_m (by omega)).mpr ?_
  unfold mUP
  rw [if_neg (by omega), if_neg (by omega), if_neg (by omega), if_neg (by omega), if_pos hk.1]
  unfold aUP
  rw [if_neg (by omega)]
  exact ⟨fk, h1, h2⟩
theorem aUPe {k : Nat} {zs : List Int} (hk : 113 ≤ k ∧ k ≠ 117 ∧ k ≠ 126 ∧ k < 135) (h : nUP k zs H) : ∃ fk, nI2 H 54 16 fk ∧ aPr (aGH H) fk k zs := by
  have h := (nUP_m (by omega)).mp h
  unfold mUP at h
  rw [if_neg (by omega), if_neg (by omega), if_neg (by omega), if_neg (by omega), if_pos hk.1] at h
  unfold aUP at h
  rw [if_neg (by omega)] at h
  exact h
theorem aUP0 {k : Nat} {zs : List Int} (hk : k = 117 ∨ k = 126) : nUP k zs H ↔ aP0 k zs := by
  refine (nUP_m (by omega)).trans ?_
  unfold mUP
  rw [if_neg (by omega), if_neg (by omega), if_neg (by omega), if_neg (by omega), if_pos (by omega)]
  unfold aUP
  rw [if_pos hk]
theorem aAt {k : Nat} {fs : List sL} {zs : List Int} {fk : Nat → Int32} (hk : 113 ≤ k ∧ k ≠ 117 ∧ k ≠ 126 ∧ k < 135) (hk2 : k < 1000) (e : sVal ρ fs = some zs) (h1 : nI2 H 54 16 fk) (h2 : aPr (aGH H) fk k zs) : kGh (kGP (kUP RO)) ρ [(k, fs)] H := kAt1 hk2 e ((kUPn (by omega)).mpr (aUPi hk h1 h2))
theorem aFa (hg : kGh (kGP (kUP RO)) ρ γ H) {k : Nat} {p : List sL → Bool} {fs : List sL} (h : kFa γ k p = some fs) (hk : 113 ≤ k ∧ k ≠ 117 ∧ k ≠ 126 ∧ k < 135) (hk2 : k < 1000) : p fs = true ∧ ∃ zs fk, sVal ρ fs = some zs ∧ nI2 H 54 16 fk ∧ aPr (aGH H) fk k zs := by
  obtain ⟨h1, zs, e, h2⟩ := nFa_ok hg h (by omega) hk2
  obtain ⟨fk, h3, h4⟩ := aUPe hk h2
  exact ⟨h1, zs, fk, e, h3, h4⟩
theorem aOf (hg : kGh (kGP (kUP RO)) ρ γ H) {k : Nat} {fs : List sL} (hq : ((k, fs) : kA) ∈ γ) (hk : 113 ≤ k ∧ k ≠ 117 ∧ k ≠ 126 ∧ k < 135) (hk2 : k < 1000) : ∃ zs fk, sVal ρ fs = some zs ∧ nI2 H 54 16 fk ∧ aPr (aGH H) fk k zs := by
  obtain ⟨zs, e, h2⟩ := hg _ hq
  obtain ⟨fk, h3, h4⟩ := aUPe hk (nGP (by omega) hk2 h2)
  exact ⟨zs, fk, e, h3, h4⟩
theorem aGHf : aFn (aGH H) := by
  intro h w p a o r r' x y
  exact nGW_one x y
theorem aGk {h w p a o r : Int} (q : aGH H h w p a o r) : ∃ fk, nI2 H 54 16 fk := by
  obtain ⟨fn, fk, fl, b, v, h1, -⟩ := q
  exact ⟨fk, h1.2.1⟩
theorem aALw {h o w x : Int} (q : aAL (aGH H) h o w x) : 0 ≤ w ∧ w < 16 := by
  obtain ⟨r, ⟨fn, fk, fl, b, v, -, -, ⟨x1, x2, x3, -, h1, h2, -⟩, -⟩, -⟩ := q
  exact ⟨h1, h2⟩
theorem aIsp_ok (hM : sMo ρ Γ) {r x : sL} {zx : Int} (ex : sEv ρ x = some zx) (h : aIsp Γ r x = true) : sEv ρ r = some (max 0 zx) := by
  unfold aIsp at h
  simp only [Bool.or_eq_true, Bool.and_eq_true, decide_eq_true_eq] at h
  rcases h with ⟨rfl, h⟩ | ⟨rfl, h⟩
  · have := sNN_ok hM ex h
    rw [ex, show max 0 zx = zx by omega]
  · have := sNN_ok hM (sEv_mul (-1) ex) h
    rw [sEv_C, show max 0 zx = 0 by omega]
theorem aPnr_ok (hM : sMo ρ Γ) {r al s : sL} {za zs : Int} (ea : sEv ρ al = some za) (es : sEv ρ s = some zs) (h : aPnr Γ r al s = true) : sEv ρ r = some (max za (za + zs)) := by
  unfold aPnr at h
  simp only [Bool.or_eq_true, Bool.and_eq_true, decide_eq_true_eq] at h
  rcases h with ⟨rfl, h⟩ | ⟨rfl, h⟩
  · have := sNN_ok hM (sEv_mul (-1) es) h
    rw [ea, show max za (za + zs) = za by omega]
  · have := sNN_ok hM es h
    rw [sEv_add ea es, show max za (za + zs) = za + zs by omega]
theorem aAls_ok (hg : kGh (kGP (kUP RO)) ρ γ H) {hl one w : sL} {f : sL → Bool} {zl zo zw : Int} (el : sEv ρ hl = some zl) (eo : sEv ρ one = some zo) (ew : sEv ρ w = some zw) (h : aAls γ hl one w f = true) : ∃ x zx, f x = true ∧ sEv ρ x = some zx ∧ aAL (aGH H) zl zo zw zx := by
  obtain ⟨⟨k, fs⟩, hq, hany⟩ := List.any_eq_true.mp h
  clear h
  have h := hany
  clear hany
  unfold aAlq at h
  simp only [Bool.and_eq_true, decide_eq_true_eq] at h
  obtain ⟨rfl, h⟩ := h
  split at h
  · rename_i h' o' w' x
    simp only [Bool.and_eq_true, decide_eq_true_eq] at h
    obtain ⟨rfl, rfl, rfl, h⟩ := h
    obtain ⟨zs, fk, e, -, h2⟩ := aOf hg hq (by decide) (by decide)
    obtain ⟨y1, y2, y3, y4, rfl, f1, f2, f3, f4⟩ := sVal_4 e
    cases f1.symm.trans el
    cases f2.symm.trans eo
    cases f3.symm.trans ew
    exact ⟨x, y4, h, f4, h2⟩
  · cases h
theorem aPns_ok (hg : kGh (kGP (kUP RO)) ρ γ H) {hl one a b : sL} {f : sL → Bool} {zl zo za zb : Int} (el : sEv ρ hl = some zl) (eo : sEv ρ one = some zo) (ea : sEv ρ a = some za) (eb : sEv ρ b = some zb) (h : aPns γ hl one a b f = true) : ∃ x zx, f x = true ∧ sEv ρ x = some zx ∧ aPN (aGH H) zl zo za zb zx := by
  obtain ⟨⟨k, fs⟩, hq, hany⟩ := List.any_eq_true.mp h
  clear h
  have h := hany
  clear hany
  unfold aPnq at h
  simp only [Bool.and_eq_true, decide_eq_true_eq] at h
  obtain ⟨rfl, h⟩ := h
  split at h
  · rename_i h' o' a' b' x
    simp only [Bool.and_eq_true, decide_eq_true_eq] at h
    obtain ⟨rfl, rfl, rfl, rfl, h⟩ := h
    obtain ⟨zs, fk, e, -, h2⟩ := aOf hg hq (by decide) (by decide)
    obtain ⟨y1, y2, y3, y4, y5, rfl, f1, f2, f3, f4, f5⟩ := sVal_5 e
    cases f1.symm.trans el
    cases f2.symm.trans eo
    cases f3.symm.trans ea
    cases f4.symm.trans eb
    exact ⟨x, y5, h, f5, h2⟩
  · cases h
theorem aLkn_ok (hM : sMo ρ Γ) (hg : kGh (kGP (kUP RO)) ρ γ H) {fk : Nat → Int32} (hF : nI2 H 54 16 fk) {a b : sL} {za zb : Int} (ea : sEv ρ a = some za) (eb : sEv ρ b = some zb) {t : Bool} (h : aLkn Γ γ a b = some t) : 0 ≤ za ∧ (t = true ↔ aLk fk za zb) := by
  unfold aLkn at h
  split at h
  · rename_i x y hx hy
    obtain ⟨zx, ex, kx⟩ := kFindEl_ok hg hx ea
    obtain ⟨zy, ey, ky⟩ := kFindEl_ok hg hy eb
    obtain ⟨h0, vx⟩ := kEl_v kx hF
    obtain ⟨-, vy⟩ := kEl_v ky hF
    refine ⟨h0, ?_⟩
    split at h
    · rename_i hc
      rw [Bool.and_eq_true] at hc
      have bx := sWi_ok hM.1 ex hc.1
      have bv := sWi_ok hM.1 ey hc.2
      split at h
      · rename_i he
        cases h
        have := kEqf_ok hM ex ey he
        subst this
        exact ⟨fun _ => vx.trans vy.symm, fun _ => rfl⟩
      · split at h
        · rename_i hn
          cases h
          have hne := nNe_ok hM ex ey hn
          refine ⟨fun q => (by cases q), fun q => ?_⟩
          unfold aLk at q
          rw [vx, vy] at q
          exact absurd (n32i bx bv q) hne
        · cases h
    · cases h
  · cases h
theorem aOne_ok (hg : kGh (kGP (kUP RO)) ρ γ H) {nv one v : sL} {zn : Int} (en : sEv ρ nv = some zn) (h : aOne γ nv = some [one, v]) : ∃ zo, sEv ρ one = some zo ∧ kEl 57 zo zn H := by
  unfold aOne at h
  obtain ⟨h1, -⟩ : decide (v = nv) = true ∧ True := by
    have h' := h
    unfold kFa at h'
    obtain ⟨⟨k, fs⟩, ha, rfl⟩ := Option.map_eq_some_iff.mp h'
    have h1 := List.find?_some ha
    simp only [Bool.and_eq_true] at h1
    exact ⟨h1.2, trivial⟩
  have h1 := of_decide_eq_true h1
  obtain ⟨zo, zv, eo, ev, kv⟩ := kFaEl (j := 57) hg h
  rw [h1] at ev
  cases ev.symm.trans en
  exact ⟨zo, eo, kv⟩
theorem aGv_ok (hg : kGh (kGP (kUP RO)) ρ γ H) {w nv hl w' p' b v r : sL} {p : Int} {f : sL → Bool} {zw zn : Int} (ew : sEv ρ w = some zw) (en : sEv ρ nv = some zn) (h : aGv γ w nv p f = some [hl, w', p', b, v, r]) : f b = true ∧ ∃ zl zb zr, sEv ρ hl = some zl ∧ sEv ρ b = some zb ∧ sEv ρ r = some zr ∧ nGV zl zw p zb zn zr H := by
  obtain ⟨h1, zs, e1, e2⟩ := nFa_ok hg h (by decide) (by decide)
  simp only [Bool.and_eq_true, decide_eq_true_eq] at h1
  obtain ⟨rfl, rfl, h1, rfl⟩ := h1
  obtain ⟨y1, y2, y3, y4, y5, y6, rfl, f1, f2, f3, f4, f5, f6⟩ := sVal_6 e1
  obtain ⟨a1, a2, a3, a4, a5, a6, he, hG⟩ : ∃ h w p b v r, [y1, y2, y3, y4, y5, y6] = [h, w, p, b, v, r] ∧ nGV h w p b v r H := e2
  cases he
  cases f2.symm.trans ew
  cases f3.symm.trans (sEv_C _)
  cases f5.symm.trans en
  exact ⟨h1, y1, y4, y6, f1, f4, f6, hG⟩
theorem aGw_ok (hg : kGh (kGP (kUP RO)) ρ γ H) {hl w p a one h' w' p' a' o' r : sL} {zl zw zp za zo : Int} (el : sEv ρ hl = some zl) (ew : sEv ρ w = some zw) (ep : sEv ρ p = some zp) (ea : sEv ρ a = some za) (eo : sEv ρ one = some zo) (h : aGw γ hl w p a one = some [h', w', p', a', o', r]) : ∃ zr, sEv ρ r = some zr ∧ aGH H zl zw zp za zo zr := by
  obtain ⟨h1, zs, e1, e2⟩ := nFa_ok hg h (by decide) (by decide)
  simp only [Bool.and_eq_true, decide_eq_true_eq] at h1
  obtain ⟨rfl, rfl, rfl, rfl, rfl⟩ := h1
  obtain ⟨y1, y2, y3, y4, y5, y6, rfl, f1, f2, f3, f4, f5, f6⟩ := sVal_6 e1
  obtain ⟨a1, a2, a3, a4, a5, a6, he, hG⟩ : ∃ h w p a o r, [y1, y2, y3, y4, y5, y6] = [h, w, p, a, o, r] ∧ nGW h w p a o r H := e2
  cases he
  cases f1.symm.trans el
  cases f2.symm.trans ew
  cases f3.symm.trans ep
  cases f4.symm.trans ea
  cases f5.symm.trans eo
  exact ⟨y6, f6, hG⟩
theorem aGAw_ok (zn : Nat) : kRok RO (aGAw zn) := by
  intro K ws h ρ R hD
  have hM := hD.1
  unfold aGAw at h
  split at h
  · rename_i w nv x hw hnv hx
    obtain ⟨zw, ew⟩ := kLf_ok hD.2.1 hw
    obtain ⟨zn, en⟩ := nFf_ok hD.2.1.2.2.2.1 hnv
    split at h
    · rename_i hl w' p' b v r one v' hgv hone
      split at h
      · rename_i hc
        cases h
        rw [Bool.and_eq_true] at hc
        obtain ⟨hb, zl, zb, zr, el, eb, er, hG⟩ := aGv_ok hD.2.2 ew en hgv
        have hb := of_decide_eq_true hb
        subst hb
        cases eb.symm.trans (sEv_C _)
        obtain ⟨zo, eo, ko⟩ := aOne_ok hD.2.2 en hone
        have bn := sWi_ok hM.1 en hc.1
        have ex := aIsp_ok hM er hc.2
        obtain ⟨fn, fk, fl, hW, w0, w1, hB⟩ := hG
        have hGW : aGH R.2.2.2.1 zl zw 0 (-1) zo zr := ⟨fn, fk, fl, 0, zn, hW, ⟨ko, bn⟩, ⟨fn, fk, fl, hW, w0, w1, hB⟩, by rw [if_neg]; rintro ⟨q, -⟩; omega⟩
        refine ⟨_, List.mem_singleton.mpr rfl, kGh_cons (kAt1 (zs := [zl, zw, 0, -1, zo, zr]) (by decide) (by simp only [sVal, el, ew, eo, er, sEv_C]) ((kUPn (by decide)).mpr ⟨_, _, _, _, _, _, rfl, hGW⟩)) (aAt (zs := [zl, zo, zw, max 0 zr]) (by decide) (by decide) (by simp only [sVal, el, eo, ew, ex]) hW.2.1 ⟨zr, hGW, rfl⟩), fun b hb => by cases hb⟩
      · cases h
    · cases h
  · cases h
theorem aALm_ok (zh : Nat) : kRok RO (aALm zh) := by
  intro K ws h ρ R hD
  have hM := hD.1
  unfold aALm at h
  split at h
  · rename_i w one hl x hw hone hhl hx
    obtain ⟨zw, ew⟩ := kLf_ok hD.2.1 hw
    obtain ⟨zo, eo⟩ := kLf_ok hD.2.1 hone
    obtain ⟨zl, el⟩ := nFf_ok hD.2.1.2.2.2.1 hhl
    split at h
    · rename_i h' w' p' a' o' r hgw
      split at h
      · rename_i hc
        cases h
        obtain ⟨zr, er, hG⟩ := aGw_ok hD.2.2 el ew (sEv_C 0) (sEv_C (-1)) eo hgw
        obtain ⟨fk, hk⟩ := aGk hG
        have ex := aIsp_ok hM er hc
        exact ⟨_, List.mem_singleton.mpr rfl, aAt (zs := [zl, zo, zw, max 0 zr]) (by decide) (by decide) (by simp only [sVal, el, eo, ew, ex]) hk ⟨zr, hG, rfl⟩, fun b hb => by cases hb⟩
      · cases h
    · cases h
  · cases h
theorem aPNx_ok (zn : Nat) : kRok RO (aPNx zn) := by
  intro K ws h ρ R hD
  have hM := hD.1
  unfold aPNx at h
  split at h
  · rename_i a b nv r ha hb hnv hr
    obtain ⟨za, ea⟩ := kLf_ok hD.2.1 ha
    obtain ⟨zb, eb⟩ := kLf_ok hD.2.1 hb
    obtain ⟨zn, en⟩ := nFf_ok hD.2.1.2.2.2.1 hnv
    split at h
    · rename_i hl w' p' bb v s one v' hgv hone
      split at h
      · rename_i hc
        cases h
        simp only [Bool.and_eq_true] at hc
        obtain ⟨c1, c2, c3⟩ := hc
        obtain ⟨-, zl, zbb, zs, el, ebb, es, hG⟩ := aGv_ok hD.2.2 eb en hgv
        obtain ⟨zo, eo, ko⟩ := aOne_ok hD.2.2 en hone
        have bn := sWi_ok hM.1 en c1
        obtain ⟨x, zx, f1, ex, hx⟩ := aAls_ok hD.2.2 el eo ea c3
        have er := aPnr_ok hM ex es f1
        obtain ⟨fn, fk, fl, hW, w0, w1, hB⟩ := hG
        have hb := nBsp_ok hM hD.2.2 hW eb ea ebb c2
        have hGW : aGH R.2.2.2.1 zl zb 1 za zo zs := ⟨fn, fk, fl, zbb, zn, hW, ⟨ko, bn⟩, ⟨fn, fk, fl, hW, w0, w1, hB⟩, hb⟩
        exact ⟨_, List.mem_singleton.mpr rfl, aAt (zs := [zl, zo, za, zb, max zx (zx + zs)]) (by decide) (by decide) (by simp only [sVal, el, eo, ea, eb, er]) hW.2.1 ⟨zx, zs, hx, hGW, rfl⟩, fun b hb => by cases hb⟩
      · cases h
    · cases h
  · cases h
theorem aPNm_ok (zh : Nat) : kRok RO (aPNm zh) := by
  intro K ws h ρ R hD
  have hM := hD.1
  unfold aPNm at h
  split at h
  · rename_i a b one hl r ha hb hone hhl hr
    obtain ⟨za, ea⟩ := kLf_ok hD.2.1 ha
    obtain ⟨zb, eb⟩ := kLf_ok hD.2.1 hb
    obtain ⟨zo, eo⟩ := kLf_ok hD.2.1 hone
    obtain ⟨zl, el⟩ := nFf_ok hD.2.1.2.2.2.1 hhl
    split at h
    · rename_i h1 h2 h3 h4 h5 u k1 k2 k3 k4 k5 s hg1 hg2
      split at h
      · rename_i hc
        cases h
        obtain ⟨zu, eu, hG1⟩ := aGw_ok hD.2.2 el ea (sEv_C 0) (sEv_C (-1)) eo hg1
        obtain ⟨zs, es, hG2⟩ := aGw_ok hD.2.2 el eb (sEv_C 1) ea eo hg2
        obtain ⟨fk, hk⟩ := aGk hG1
        have key : ∃ zx, aAL (aGH R.2.2.2.1) zl zo za zx ∧ sEv ρ r = some (max zx (zx + zs)) := by
          simp only [Bool.or_eq_true, Bool.and_eq_true] at hc
          rcases hc with ⟨c1, c2⟩ | ⟨c1, c2⟩
          · have e := aIsp_ok hM eu c1
            rw [sEv_C] at e
            refine ⟨0, ⟨zu, hG1, Option.some.inj e⟩, aPnr_ok hM (sEv_C 0) es c2⟩
          · have e := aIsp_ok hM eu c1
            rw [eu] at e
            exact ⟨zu, ⟨zu, hG1, Option.some.inj e⟩, aPnr_ok hM eu es c2⟩
        obtain ⟨zx, q1, er⟩ := key
        exact ⟨_, List.mem_singleton.mpr rfl, aAt (zs := [zl, zo, za, zb, max zx (zx + zs)]) (by decide) (by decide) (by simp only [sVal, el, eo, ea, eb, er]) hk ⟨zx, zs, q1, hG2, rfl⟩, fun b hb => by cases hb⟩
      · cases h
    · cases h
  · cases h
theorem aWFi_ok : kRok RO aWFi := by
  intro K ws h ρ R hD
  unfold aWFi at h
  split at h
  · rename_i w one b l o hw hone hb hl ho
    split at h
    · rename_i hc
      split at h
      · rename_i h' e w' x h115 h113
        cases h
        obtain ⟨h1, zs, fk, e1, hk, hP⟩ := aFa hD.2.2 h113 (by decide) (by decide)
        simp only [Bool.and_eq_true, decide_eq_true_eq] at h1
        obtain ⟨rfl, rfl, rfl⟩ := h1
        obtain ⟨y1, y2, y3, y4, rfl, f1, f2, f3, f4⟩ := sVal_4 e1
        have el := sEv_add f4 (sEv_C (ρ := ρ) 1)
        exact ⟨_, List.mem_singleton.mpr rfl, aAt (zs := [y1, y2, y3, 0, y3, y4 + 1]) (by decide) (by decide) (by simp only [sVal, f1, f2, f3, el, sEv_C]) hk (aWF_0 hP), fun b hb => by cases hb⟩
      · cases h
    · cases h
  · cases h
theorem aWFs_ok : kRok RO aWFs := by
  intro K ws h ρ R hD
  have hM := hD.1
  unfold aWFs at h
  split at h
  · rename_i h' e w' i b0 l0 w one b l o hfa hw hone hb hl ho
    split at h
    · rename_i hc
      simp only [Bool.and_eq_true, decide_eq_true_eq] at hc
      obtain ⟨rfl, rfl, rfl⟩ := hc
      obtain ⟨-, zs, fk, e1, hk, hP⟩ := aFa hD.2.2 hfa (by decide) (by decide)
      obtain ⟨y1, y2, y3, y4, y5, y6, rfl, f1, f2, f3, f4, f5, f6⟩ := sVal_6 e1
      have hP : aWF (aGH R.2.2.2.1) fk y1 y2 y3 y4 y5 y6 := hP
      have ei := sEv_add f4 (sEv_C (ρ := ρ) 1)
      split at h
      · rename_i hlk
        split at h
        · rename_i hc
          cases h
          simp only [Bool.and_eq_true, decide_eq_true_eq] at hc
          obtain ⟨rfl, rfl⟩ := hc
          have hn := (aLkn_ok hM hD.2.2 hk f4 f3 hlk).2
          exact ⟨_, List.mem_singleton.mpr rfl, aAt (zs := [y1, y2, y3, y4 + 1, y5, y6]) (by decide) (by decide) (by simp only [sVal, f1, f2, f3, ei, f5, f6]) hk (aWF_no hP (fun q => by cases hn.mpr q)), fun b hb => by cases hb⟩
        · cases h
      · rename_i hlk
        split at h
        · rename_i hc
          cases h
          have hy := (aLkn_ok hM hD.2.2 hk f4 f3 hlk).2.mp rfl
          obtain ⟨x, zx, g1, ex, hx⟩ := aAls_ok hD.2.2 f1 f2 f4 hc
          simp only [Bool.or_eq_true, Bool.and_eq_true, decide_eq_true_eq] at g1
          rcases g1 with ⟨g, rfl, rfl⟩ | ⟨g, rfl, rfl⟩
          · have hlt := sNN_ok hM (sEv_sub (sEv_sub f6 ex) (sEv_C 1)) g
            exact ⟨_, List.mem_singleton.mpr rfl, aAt (zs := [y1, y2, y3, y4 + 1, y4, zx]) (by decide) (by decide) (by simp only [sVal, f1, f2, f3, ei, f4, ex]) hk (aWF_lt hP hy hx (by omega)), fun b hb => by cases hb⟩
          · have hle := sNN_ok hM (sEv_sub ex f6) g
            exact ⟨_, List.mem_singleton.mpr rfl, aAt (zs := [y1, y2, y3, y4 + 1, y5, y6]) (by decide) (by decide) (by simp only [sVal, f1, f2, f3, ei, f5, f6]) hk (aWF_le hP hx (by omega)), fun b hb => by cases hb⟩
        · cases h
      · cases h
    · cases h
  · cases h
theorem aWFe_ok : kRok RO aWFe := by
  intro K ws h ρ R hD
  have hM := hD.1
  unfold aWFe at h
  split at h
  · rename_i h' e w i b l n r hfa hn hr
    split at h
    · rename_i hc
      cases h
      simp only [Bool.and_eq_true, decide_eq_true_eq] at hc
      obtain ⟨-, c1, c2⟩ := hc
      obtain ⟨-, zs, fk, e1, hk, hP⟩ := aFa hD.2.2 hfa (by decide) (by decide)
      obtain ⟨y1, y2, y3, y4, y5, y6, rfl, f1, f2, f3, f4, f5, f6⟩ := sVal_6 e1
      have hP : aWF (aGH R.2.2.2.1) fk y1 y2 y3 y4 y5 y6 := hP
      obtain ⟨yn, en⟩ := nFf_ok hD.2.1.2.2.2.1 hn
      have e4 := kEqf_ok hM f4 en c1
      subst e4
      have hlt := sNN_ok hM (sEv_sub (sEv_sub en f3) (sEv_C 1)) c2
      have h0 : 0 ≤ y3 := by
        obtain ⟨-, -, m, q, -⟩ := hP
        exact (aALw q).1
      exact ⟨_, List.mem_singleton.mpr rfl, aAt (zs := [y1, y2, y3, y4, y5]) (by decide) (by decide) (by simp only [sVal, f1, f2, f3, en, f5]) hk (aWF_end aGHf hP h0 (by omega)), fun b hb => by cases hb⟩
    · cases h
  · cases h
theorem aAMi_ok (zh : Nat) : kRok RO (aAMi zh) := by
  intro K ws h ρ R hD
  unfold aAMi at h
  split at h
  · rename_i w one b o hl hw hone hb ho hhl
    split at h
    · rename_i hc
      cases h
      simp only [Bool.and_eq_true, decide_eq_true_eq] at hc
      obtain ⟨-, -, c1, -⟩ := hc
      obtain ⟨zw, ew⟩ := kLf_ok hD.2.1 hw
      obtain ⟨zo, eo⟩ := kLf_ok hD.2.1 hone
      obtain ⟨zl, el⟩ := nFf_ok hD.2.1.2.2.2.1 hhl
      obtain ⟨fk, hk⟩ := kSh1 hD.2.1.2.2.2.1 (by decide) rfl c1
      exact ⟨_, List.mem_singleton.mpr rfl, aAt (fk := fk) (zs := [zl, zo, zw, 0, -1]) (by decide) (by decide) (by simp only [sVal, el, eo, ew, sEv_C]) hk aAM_0, fun b hb => by cases hb⟩
    · cases h
  · cases h
theorem aAMq_ok (hg : kGh (kGP (kUP RO)) ρ γ H) {hl one w o h' e' w' i b : sL} {zl zo zw zi : Int} (el : sEv ρ hl = some zl) (eo : sEv ρ one = some zo) (ew : sEv ρ w = some zw) (ei : sEv ρ o = some zi) (h : aAMq γ hl one w o = some [h', e', w', i, b]) : ∃ zb fk, sEv ρ b = some zb ∧ nI2 H 54 16 fk ∧ aAM (aGH H) fk zl zo zw zi zb := by
  obtain ⟨h1, zs, fk, e1, hk, hP⟩ := aFa hg h (by decide) (by decide)
  simp only [Bool.and_eq_true, decide_eq_true_eq] at h1
  obtain ⟨rfl, rfl, rfl, rfl⟩ := h1
  obtain ⟨y1, y2, y3, y4, y5, rfl, f1, f2, f3, f4, f5⟩ := sVal_5 e1
  cases f1.symm.trans el
  cases f2.symm.trans eo
  cases f3.symm.trans ew
  cases f4.symm.trans ei
  exact ⟨y5, fk, f5, hk, hP⟩
theorem aAMs_ok (zh : Nat) : kRok RO (aAMs zh) := by
  intro K ws h ρ R hD
  have hM := hD.1
  unfold aAMs at h
  split at h
  · rename_i w one b o hl hw hone hb ho hhl
    obtain ⟨zw, ew⟩ := kLf_ok hD.2.1 hw
    obtain ⟨ze, eo⟩ := kLf_ok hD.2.1 hone
    obtain ⟨zo, ei⟩ := kLf_ok hD.2.1 ho
    obtain ⟨zl, el⟩ := nFf_ok hD.2.1.2.2.2.1 hhl
    split at h
    · rename_i h' e' w' i b0 hq
      obtain ⟨zb, fk, eb, hk, hP⟩ := aAMq_ok hD.2.2 el eo ew ei hq
      have e2 := sEv_add ei (sEv_C (ρ := ρ) 1)
      split at h
      · rename_i hlk
        split at h
        · rename_i hc
          cases h
          subst hc
          have hn := (aLkn_ok hM hD.2.2 hk ei ew hlk).2
          exact ⟨_, List.mem_singleton.mpr rfl, aAt (zs := [zl, ze, zw, zo + 1, zb]) (by decide) (by decide) (by simp only [sVal, el, eo, ew, e2, eb]) hk (aAM_no hP (fun q => by cases hn.mpr q)), fun b hb => by cases hb⟩
        · cases h
      · rename_i hlk
        obtain ⟨h0, hy⟩ := aLkn_ok hM hD.2.2 hk ei ew hlk
        have hy := hy.mp rfl
        split at h
        · rename_i hneg
          split at h
          · rename_i hc
            cases h
            subst hc
            have hb0 := sNN_ok hM (sEv_sub (sEv_C (-1)) eb) hneg
            exact ⟨_, List.mem_singleton.mpr rfl, aAt (zs := [zl, ze, zw, zo + 1, zo]) (by decide) (by decide) (by simp only [sVal, el, eo, ew, e2, ei]) hk (aAM_1 aGHf hP (by omega) h0 hy), fun b hb => by cases hb⟩
          · cases h
        · split at h
          · rename_i hc
            cases h
            obtain ⟨x, zx, g1, ex, hx⟩ := aAls_ok hD.2.2 el eo ei hc
            obtain ⟨m, zm, g2, em, hm⟩ := aAls_ok hD.2.2 el eo eb g1
            have hb0 := (aALw hm).1
            simp only [Bool.or_eq_true, Bool.and_eq_true, decide_eq_true_eq] at g2
            rcases g2 with ⟨g, rfl⟩ | ⟨g, rfl⟩
            · have hlt := sNN_ok hM (sEv_sub (sEv_sub em ex) (sEv_C 1)) g
              exact ⟨_, List.mem_singleton.mpr rfl, aAt (zs := [zl, ze, zw, zo + 1, zo]) (by decide) (by decide) (by simp only [sVal, el, eo, ew, e2, ei]) hk (aAM_lt aGHf hP hb0 h0 hy hx hm (by omega)), fun b hb => by cases hb⟩
            · have hle := sNN_ok hM (sEv_sub ex em) g
              exact ⟨_, List.mem_singleton.mpr rfl, aAt (zs := [zl, ze, zw, zo + 1, zb]) (by decide) (by decide) (by simp only [sVal, el, eo, ew, e2, eb]) hk (aAM_ge aGHf hP hb0 hx hm (by omega)), fun b hb => by cases hb⟩
          · cases h
      · cases h
    · cases h
  · cases h
theorem aAMe_ok (zw : Nat) : kRok RO (aAMe zw) := by
  intro K ws h ρ R hD
  have hM := hD.1
  unfold aAMe at h
  split at h
  · rename_i h' e w i b n r hfa hn hr
    split at h
    · rename_i hc
      cases h
      rw [Bool.and_eq_true] at hc
      obtain ⟨-, zs, fk, e1, hk, hP⟩ := aFa hD.2.2 hfa (by decide) (by decide)
      obtain ⟨y1, y2, y3, y4, y5, rfl, f1, f2, f3, f4, f5⟩ := sVal_5 e1
      obtain ⟨yn, en⟩ := nFf_ok hD.2.1.2.2.2.1 hn
      have e4 := kEqf_ok hM f4 en hc.2
      subst e4
      exact ⟨_, List.mem_singleton.mpr rfl, aAt (zs := [y1, y2, y3, y4, y5]) (by decide) (by decide) (by simp only [sVal, f1, f2, f3, en, f5]) hk hP, fun b hb => by cases hb⟩
    · cases h
  · cases h
theorem aTopd {pc : Nat} {ls : List (Nat × sV)} {r x : sL} {st : List sV} {G : List sE} {c s : Nat} {Γ : sG} {γ : List kA} {R : eR} {z : Int} (hD : kD (kGP (kUP RO)) ρ ((pc, ls, (0, r) :: st, G, c, s, Γ), γ) R) (er : sEv ρ r = some z) (ex : sEv ρ x = some z) : ∃ K' ∈ [(((pc, ls, (0, x) :: st, G, c, s, Γ), γ) : kS)], ∃ ρ', ρ <+: ρ' ∧ kD (kGP (kUP RO)) ρ' K' R := by
  refine ⟨_, List.mem_singleton.mpr rfl, ρ, List.prefix_refl _, hD.1, ⟨hD.2.1.1, hD.2.1.2.1, ?_, hD.2.1.2.2.2⟩, hD.2.2⟩
  obtain ⟨zw, r1, hr1, ew, hV⟩ := sVs_int hD.2.1.2.2.1
  cases ew.symm.trans er
  show sVs ρ ((0, x) :: st) R.2.2.1
  rw [hr1]
  exact ⟨⟨_, ex, rfl⟩, hV⟩
theorem aSmw_ok {K : kS} {L : List kS} (h : aSmw K = some L) {ρ : List Int} {R : eR} (hD : kD (kGP (kUP RO)) ρ K R) : ∃ K' ∈ L, ∃ ρ', ρ <+: ρ' ∧ kD (kGP (kUP RO)) ρ' K' R := by
  have same : ∀ K0 : kS, K0 = K → some [K0] = some L → ∃ K' ∈ L, ∃ ρ', ρ <+: ρ' ∧ kD (kGP (kUP RO)) ρ' K' R := fun K0 e g => by
    cases g
    subst e
    exact ⟨_, List.mem_singleton.mpr rfl, ρ, List.prefix_refl _, hD⟩
  unfold aSmw at h
  split at h
  · rename_i pc ls r st G c s Γ γ
    split at h
    · rename_i h' e w n b hfa
      split at h
      · rename_i h2 e2 w2 n2 x hfb
        split at h
        · exact same _ rfl h
        · cases h
          obtain ⟨p1, zs, fk, e1, hk, hP⟩ := aFa hD.2.2 hfa (by decide) (by decide)
          have p1 : b = r := Option.some.inj (of_decide_eq_true p1)
          subst p1
          obtain ⟨p2, zs2, fk2, e2, hk2, hQ⟩ := aFa hD.2.2 hfb (by decide) (by decide)
          simp only [Bool.and_eq_true, decide_eq_true_eq] at p2
          obtain ⟨rfl, rfl, rfl, rfl⟩ := p2
          obtain ⟨y1, y2, y3, y4, y5, rfl, f1, f2, f3, f4, f5⟩ := sVal_5 e1
          obtain ⟨x1, x2, x3, x4, x5, rfl, g1, g2, g3, g4, g5⟩ := sVal_5 e2
          cases f1.symm.trans g1
          cases f2.symm.trans g2
          cases f3.symm.trans g3
          cases f4.symm.trans g4
          cases nI2_one hk hk2
          have hz := aWC_AM (show aWC (aGH R.2.2.2.1) fk y1 y2 y3 y4 x5 from hQ) (show aAM (aGH R.2.2.2.1) fk y1 y2 y3 y4 y5 from hP)
          subst hz
          exact aTopd hD f5 g5
      · exact same _ rfl h
    · exact same _ rfl h
  · exact same _ rfl h
end AWRD
end
