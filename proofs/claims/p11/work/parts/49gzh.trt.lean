/-! What each pays by a treaty. -/
noncomputable section
def tSum (s : Nat) (K : kS) : Option sL := if s = 0 then kToldI K.1.2.2.2.1 9 0 else kToldI K.1.2.2.2.1 59 0
def tPpl (s zp : Nat) (K : kS) : Option sL := if s = 0 then nFf K.1.2.2.2.1 1 2 else nFf K.1.2.2.2.1 52 zp
def tK56 (K : kS) : Bool := kShb K.1.2.2.2.1 56 .int 7 || (kFa K.2 78 (fun _ => true)).isSome
/-- one's MEANS -/
def tMn (Γ : sG) (γ : List kA) (i : sL) : Option sL := match kFindEl γ 56 i with
  | some x => if sWi Γ.1 x 0 9999 = true then some x else none
  | none => none
def tQt (Γ : sG) (S m all : sL) : Option sL := match nDl Γ 2 S m with
  | some y => nDl Γ 9 y all
  | none => (match nDl Γ 102 S m with
    | some y => nDl Γ 109 y all
    | none => none)
/-- one's part -/
def tPart (Γ : sG) (S all : sL) (m : Option sL) : Option sL := if sK Γ.1 all = some 0 then some (sC 0) else (match m with
  | some m => if (sWf Γ all 1 70000 && (sWi Γ.1 S 0 9999 && sWi Γ.1 m 0 9999)) = true then tQt Γ S m all else none
  | none => none)
def tPre (p fs : List sL) : Bool := decide (fs.take p.length = p)
def tLq (Γ : sG) (S a l p : sL) (fs : List sL) : Bool := match fs with
  | [s, a', k, l'] => decide (s = S) && (decide (a' = a) && (decide (l' = l) && kEqf Γ k p))
  | _ => false
/-- one more is counted, or not -/
def tSt (Γ : sG) (x m r r0 : sL) : Bool := (sNN Γ (sSub (sSub x m) (sC 1)) && decide (r = sAdd r0 (sC 1))) || (sNN Γ (sSub m x) && decide (r = r0))
def tMSi (i j : Nat) (K : kS) : Option kWs := match kLf K.1.2.1 i, kLf K.1.2.1 j with
  | some k, some v => if (decide (k = sC 0) && (decide (v = sC 0) && (tK56 K && !kHav K.2 135 [sC 0, sC 0]))) = true then some [([(135, [sC 0, sC 0])], [])] else none
  | _, _ => none
def tMSs (i j : Nat) (K : kS) : Option kWs := match kLf K.1.2.1 i, kLf K.1.2.1 j with
  | some k, some v => (match kFa K.2 135 (tPre [k]), tMn K.1.2.2.2.2.2.2 K.2 k with
    | some [_, v0], some m => if v = sAdd v0 m then some [([(135, [sAdd k (sC 1), v])], [])] else none
    | _, _ => none)
  | _, _ => none
def tMSe (s i j zp : Nat) (K : kS) : Option kWs := match kLf K.1.2.1 i, kLf K.1.2.1 j, tPpl s zp K with
  | some k, some v, some p => if (kHav K.2 135 [k, v] && (!decide (k = p) && kEqf K.1.2.2.2.2.2.2 k p)) = true then some [([(135, [p, v])], [])] else none
  | _, _, _ => none
def tLFi (s al le i : Nat) (K : kS) : Option kWs := match kLf K.1.2.1 al, kLf K.1.2.1 le, kLf K.1.2.1 i, tSum s K with
  | some a, some l, some k, some S => if (decide (k = sC 0) && (decide (l = S) && (tK56 K && !kHav K.2 136 [S, a, sC 0, l]))) = true then some [([(136, [S, a, sC 0, l])], [])] else none
  | _, _, _, _ => none
def tLFs (s al le i : Nat) (K : kS) : Option kWs := match kLf K.1.2.1 al, kLf K.1.2.1 le, kLf K.1.2.1 i, tSum s K with
  | some a, some l, some k, some S => (match kFa K.2 136 (tPre [S, a, k]), tPart K.1.2.2.2.2.2.2 S a (tMn K.1.2.2.2.2.2.2 K.2 k) with
    | some [_, _, _, l0], some x => if l = sSub l0 x then some [([(136, [S, a, sAdd k (sC 1), l])], [])] else none
    | _, _ => none)
  | _, _, _, _ => none
def tLFb (s al le i zp : Nat) (K : kS) : Option kWs := match kLf K.1.2.1 al, kLf K.1.2.1 le, kLf K.1.2.1 i, tSum s K, tPpl s zp K with
  | some a, some l, some k, some S, some p => if (kHav K.2 136 [S, a, k, l] && (kEqf K.1.2.2.2.2.2.2 k p && (kHav K.2 135 [p, a] && (!sWi K.1.2.2.2.2.2.2.1 l 0 9999 && sWi K.1.2.2.2.2.2.2.1 S 0 9999)))) = true then some [([], [(l, 0, 9999)])] else none
  | _, _, _, _, _ => none
def tSHe (K : kS) : Option kWs := match kLf K.1.2.1 1, kLf K.1.2.1 2, kLf K.1.2.1 3, tSum 0 K, tPpl 0 0 K, kTop K with
  | some o, some a, some l, some S, some p, some r => (match kFa K.2 136 (tLq K.1.2.2.2.2.2.2 S a l p), tPart K.1.2.2.2.2.2.2 S a (tMn K.1.2.2.2.2.2.2 K.2 o), nDl K.1.2.2.2.2.2.2 9 l p, nDl K.1.2.2.2.2.2.2 10 l p with
    | some [_, _, _, _], some x, some d, some e => if (kHav K.2 135 [p, a] && (sNN K.1.2.2.2.2.2.2 o && (sWf K.1.2.2.2.2.2.2 l 0 9999 && (sWf K.1.2.2.2.2.2.2 p 1 7 && ((decide (r = sAdd (sAdd x d) (sC 1)) && sNN K.1.2.2.2.2.2.2 (sSub (sSub e o) (sC 1))) || (decide (r = sAdd x d) && sNN K.1.2.2.2.2.2.2 (sSub o e))))))) = true then some [([(137, [S, p, o, r])], [])] else none
    | _, _, _, _ => none)
  | _, _, _, _, _, _ => none
def tTRi (K : kS) : Option kWs := match kLf K.1.2.1 3, kLf K.1.2.1 4, kLf K.1.2.1 5, kLf K.1.2.1 6, tSum 0 K, tPpl 0 0 K with
  | some ev, some ru, some ri, some k, some S, some p => if (decide (k = sC 0) && (decide (ru = sC 0) && (decide (ri = sC 0) && (decide (nDl K.1.2.2.2.2.2.2 9 S p = some ev) && (tK56 K && !kHav K.2 138 [S, p, ev, sC 0, sC 0, sC 0]))))) = true then some [([(138, [S, p, ev, sC 0, sC 0, sC 0])], [])] else none
  | _, _, _, _, _, _ => none
def tTRs (K : kS) : Option kWs := match kLf K.1.2.1 3, kLf K.1.2.1 4, kLf K.1.2.1 5, kLf K.1.2.1 6, tSum 0 K, tPpl 0 0 K with
  | some ev, some ru, some ri, some k, some S, some p => (match kFa K.2 138 (tPre [S, p, ev, k]), kFa K.2 137 (tPre [S, p, k]), tMn K.1.2.2.2.2.2.2 K.2 k with
    | some [_, _, _, _, ru0, ri0], some [_, _, _, x], some m => if (tSt K.1.2.2.2.2.2.2 x m ru ru0 && tSt K.1.2.2.2.2.2.2 x ev ri ri0) = true then some [([(138, [S, p, ev, sAdd k (sC 1), ru, ri])], [])] else none
    | _, _, _ => none)
  | _, _, _, _, _, _ => none
def tTRq (Γ : sG) (S p w r : sL) (q : kA) : Bool := decide (q.1 = 138) && (match q.2 with
  | [s, p', _, k, ru, ri] => decide (s = S) && (decide (p' = p) && (kEqf Γ k p && ((decide (sK Γ.1 w = some 2) && decide (r = ri)) || (decide (sK Γ.1 w = some 1) && ((decide (r = sC 1) && decide (sK Γ.1 ru = some 0)) || (decide (r = sC 0) && nNe Γ ru (sC 0)))))))
  | _ => false)
def tTRe (K : kS) : Option kWs := match kLf K.1.2.1 1, kLf K.1.2.1 2, tSum 0 K, tPpl 0 0 K, kTop K with
  | some o, some w, some S, some p, some r => if decide (sK K.1.2.2.2.2.2.2.1 w = some 0) = true then (if kHav K.2 137 [S, p, o, r] = true then some [([(139, [S, p, o, w, r])], [])] else none)
    else if K.2.any (tTRq K.1.2.2.2.2.2.2 S p w r) = true then some [([(139, [S, p, o, w, r])], [])] else none
  | _, _, _, _, _ => none
def tSAi (K : kS) : Option kWs := match kLf K.1.2.1 1, kLf K.1.2.1 3, tSum 1 K with
  | some a, some k, some S => if (decide (k = sC 0) && (kShb K.1.2.2.2.1 76 .int 7 && (tK56 K && !kHav K.2 140 [S, a, sC 0]))) = true then some [([(140, [S, a, sC 0])], [])] else none
  | _, _, _ => none
def tSAs (K : kS) : Option kWs := match kLf K.1.2.1 1, kLf K.1.2.1 3, tSum 1 K with
  | some a, some k, some S => (match kFindEl K.2 76 k, tPart K.1.2.2.2.2.2.2 S a (tMn K.1.2.2.2.2.2.2 K.2 k) with
    | some w, some x => if (kHav K.2 140 [S, a, k] && decide (w = x)) = true then some [([(140, [S, a, sAdd k (sC 1)])], [])] else none
    | _, _ => none)
  | _, _, _ => none
def tSq (Γ : sG) (S a p : sL) (fs : List sL) : Bool := match fs with
  | [s, a', k] => decide (s = S) && (decide (a' = a) && kEqf Γ k p)
  | _ => false
def tSBi (zp : Nat) (K : kS) : Option kWs := match kLf K.1.2.1 1, kLf K.1.2.1 2, kLf K.1.2.1 3, tSum 1 K, tPpl 1 zp K with
  | some a, some l, some i, some S, some p => (match kFa K.2 140 (tSq K.1.2.2.2.2.2.2 S a p), kFa K.2 136 (tLq K.1.2.2.2.2.2.2 S a l p) with
    | some [_, _, _], some [_, _, _, _] => if (decide (i = sC 0) && (kHav K.2 135 [p, a] && (sWf K.1.2.2.2.2.2.2 p 1 7 && !kHav K.2 141 [S, p, l, sC 0, sC (-1)]))) = true then some [([(141, [S, p, l, sC 0, sC (-1)])], [])] else none
    | _, _ => none)
  | _, _, _, _, _ => none
def tSBo (zp : Nat) (K : kS) : Option kWs := match kLf K.1.2.1 2, kLf K.1.2.1 3, tSum 1 K, tPpl 1 zp K with
  | some l, some i, some S, some p => (match kFindEl K.2 76 i with
    | some o => if (kHav K.2 141 [S, p, l, i, sC (-1)] && (sI32 K.1.2.2.2.2.2.2.1 o && (sNN K.1.2.2.2.2.2.2 (sSub (sSub p i) (sC 1)) && (sNN K.1.2.2.2.2.2.2 l && (sWi K.1.2.2.2.2.2.2.1 S 0 9999 && !kHav K.2 142 [S, p, l, i, o]))))) = true then some [([(142, [S, p, l, i, o])], [(o, 0, 20000)])] else none
    | none => none)
  | _, _, _, _ => none
def tBq (S p l : sL) (fs : List sL) : Bool := match fs with
  | [s, p', l', i, e] => decide (s = S) && (decide (p' = p) && (decide (l' = sAdd l (sC 1)) && decide (e = i)))
  | _ => false
def tSBs (zp : Nat) (K : kS) : Option kWs := match kLf K.1.2.1 2, kLf K.1.2.1 3, tSum 1 K, tPpl 1 zp K with
  | some l, some i, some S, some p => (match kFa K.2 141 (tBq S p l) with
    | some [s, p', l', i0, _] => (match kFa K.2 142 (tPre [s, p', l', i0]), kFindEl K.2 76 i0 with
      | some [_, _, _, _, o], some w => if (decide (w = sAdd o (sC 1)) && (sWi K.1.2.2.2.2.2.2.1 S 0 9999 && decide (nDl K.1.2.2.2.2.2.2 10 (sAdd i0 (sC 1)) p = some i))) = true then some [([(141, [S, p, l, i, sC (-1)])], [(sSub (sSub p i) (sC 1), 0, 7)])] else none
      | _, _ => none)
    | _ => none)
  | _, _, _, _ => none
def tSBe (zp : Nat) (K : kS) : Option kWs := match kLf K.1.2.1 2, kLf K.1.2.1 3, tSum 1 K, tPpl 1 zp K with
  | some l, some i, some S, some p => if (kHav K.2 141 [S, p, l, i, sC (-1)] && (sNN K.1.2.2.2.2.2.2 (sMul (-1) l) && sNN K.1.2.2.2.2.2.2 l)) = true then some [([(143, [S, p])], [])] else none
  | _, _, _, _ => none
def tTFi (zp : Nat) (K : kS) : Option kWs := match kLf K.1.2.1 3, kLf K.1.2.1 4, kLf K.1.2.1 5, tSum 1 K, tPpl 1 zp K with
  | some ri, some ok, some k, some S, some p => if (decide (k = sC 0) && (decide (ok = sC 1) && (decide (ri = sC 0) && (tK56 K && !kHav K.2 144 [S, p, sC 0, sC 1, sC 0])))) = true then some [([(144, [S, p, sC 0, sC 1, sC 0])], [])] else none
  | _, _, _, _, _ => none
def tTFs (zp : Nat) (K : kS) : Option kWs := match kLf K.1.2.1 3, kLf K.1.2.1 4, kLf K.1.2.1 5, tSum 1 K, tPpl 1 zp K with
  | some ri, some ok, some k, some S, some p => (match kFa K.2 144 (tPre [S, p, k]), kFindEl K.2 76 k, tMn K.1.2.2.2.2.2.2 K.2 k, nDl K.1.2.2.2.2.2.2 9 S p with
    | some [_, _, _, ok0, ri0], some x, some m, some ev => if (sI32 K.1.2.2.2.2.2.2.1 x && (sWi K.1.2.2.2.2.2.2.1 S 0 9999 && (kHav K.2 143 [S, p] && (sNN K.1.2.2.2.2.2.2 (sSub (sSub p k) (sC 1)) && (((sNN K.1.2.2.2.2.2.2 (sSub (sSub x m) (sC 1)) && decide (ok = sC 0)) || (sNN K.1.2.2.2.2.2.2 (sSub m x) && decide (ok = ok0))) && tSt K.1.2.2.2.2.2.2 x ev ri ri0))))) = true then some [([(144, [S, p, sAdd k (sC 1), ok, ri])], [])] else none
    | _, _, _, _ => none)
  | _, _, _, _, _ => none
def tTFq (Γ : sG) (S p w r : sL) (q : kA) : Bool := decide (q.1 = 144) && (match q.2 with
  | [s, p', k, ok, ri] => decide (s = S) && (decide (p' = p) && (kEqf Γ k p && (((decide (sK Γ.1 w = some 2) || (sNN Γ (sSub w (sC 1)) && nNe Γ w (sC 1))) && decide (r = ri)) || (decide (sK Γ.1 w = some 1) && ((decide (r = sC 0) && decide (sK Γ.1 ok = some 0)) || (decide (r = sC 1) && sNN Γ (sSub ok (sC 1))))))))
  | _ => false)
def tTFe (zp : Nat) (K : kS) : Option kWs := match kLf K.1.2.1 1, kLf K.1.2.1 2, tSum 1 K, tPpl 1 zp K, kTop K with
  | some o, some w, some S, some p, some r => if decide (sK K.1.2.2.2.2.2.2.1 w = some 0) = true then (if (decide (kFindEl K.2 76 o = some r) && (kHav K.2 143 [S, p] && (sNN K.1.2.2.2.2.2.2 (sSub (sSub p o) (sC 1)) && (sI32 K.1.2.2.2.2.2.2.1 r && sWi K.1.2.2.2.2.2.2.1 S 0 9999)))) = true then some [([(139, [S, p, o, w, r])], [])] else none)
    else if K.2.any (tTFq K.1.2.2.2.2.2.2 S p w r) = true then some [([(139, [S, p, o, w, r])], [])] else none
  | _, _, _, _, _ => none
section TTRT
variable {RO : List (Nat × (Nat → Int32))} {ρ : List Int} {Γ : sG} {γ : List kA} {H : List eE}
theorem tVal_4 {a b c d : sL} {zs : List Int} (h : sVal ρ [a, b, c, d] = some zs) : ∃ p q r s, zs = [p, q, r, s] ∧ sEv ρ a = some p ∧ sEv ρ b = some q ∧ sEv ρ c = some r ∧ sEv ρ d = some s := by
  obtain ⟨p, _, rfl, h1, h⟩ := sVal_c h
  obtain ⟨q, _, rfl, h2, h⟩ := sVal_c h
  obtain ⟨r, _, rfl, h3, h⟩ := sVal_c h
  obtain ⟨s, _, rfl, h4, h⟩ := sVal_c h
  cases h
  exact ⟨p, q, r, s, rfl, h1, h2, h3, h4⟩
theorem tVal_6 {a b c d e f : sL} {zs : List Int} (h : sVal ρ [a, b, c, d, e, f] = some zs) : ∃ p q r s t u, zs = [p, q, r, s, t, u] ∧ sEv ρ a = some p ∧ sEv ρ b = some q ∧ sEv ρ c = some r ∧ sEv ρ d = some s ∧ sEv ρ e = some t ∧ sEv ρ f = some u := by
  obtain ⟨p, _, rfl, h1, h⟩ := sVal_c h
  obtain ⟨q, _, rfl, h2, h⟩ := sVal_c h
  obtain ⟨r, _, rfl, h3, h⟩ := sVal_c h
  obtain ⟨s, _, rfl, h4, h⟩ := sVal_c h
  obtain ⟨t, _, rfl, h5, h⟩ := sVal_c h
  obtain ⟨u, _, rfl, h6, h⟩ := sVal_c h
  cases h
  exact ⟨p, q, r, s, t, u, rfl, h1, h2, h3, h4, h5, h6⟩
theorem tSum_ok {s : Nat} {K : kS} {R : eR} (hD : kD (kGP (kUP RO)) ρ K R) {S : sL} (h : tSum s K = some S) : ∃ z, sEv ρ S = some z := by
  unfold tSum at h
  split at h
  · obtain ⟨-, -, z, -, -, e, -⟩ := kToldI_ok hD.2.1.2.2.2.1 h
    exact ⟨z, e⟩
  · obtain ⟨-, -, z, -, -, e, -⟩ := kToldI_ok hD.2.1.2.2.2.1 h
    exact ⟨z, e⟩
theorem tPpl_ok {s zp : Nat} {K : kS} {R : eR} (hD : kD (kGP (kUP RO)) ρ K R) {p : sL} (h : tPpl s zp K = some p) : ∃ z, sEv ρ p = some z := by
  unfold tPpl at h
  split at h
  · exact nFf_ok hD.2.1.2.2.2.1 h
  · exact nFf_ok hD.2.1.2.2.2.1 h
theorem tK56_ok {K : kS} {R : eR} (hD : kD (kGP (kUP RO)) ρ K R) (h : tK56 K = true) : ∃ f, nI2 R.2.2.2.1 56 7 f := by
  unfold tK56 at h
  rcases Bool.or_eq_true_iff.mp h with h | h
  · exact kSh1 hD.2.1.2.2.2.1 (by decide) rfl h
  · exact nNEa (t := 3) (by decide) hD.2.2 h
theorem tAtp {k : Nat} {fs : List sL} {zs : List Int} {f : Nat → Int32} (hk : 135 ≤ k ∧ k ≠ 140 ∧ k ≠ 141 ∧ k ≠ 143 ∧ k < 145) (hk2 : k < 1000) (e : sVal ρ fs = some zs) (h1 : nI2 H 56 7 f) (h2 : tPr (tM f) k zs) : kGh (kGP (kUP RO)) ρ [(k, fs)] H := kAt1 hk2 e ((kUPn (by omega)).mpr ((tUPp hk).mpr ⟨f, h1, h2⟩))
theorem tAtg {k : Nat} {fs : List sL} {zs : List Int} {f g : Nat → Int32} (hk : k = 140 ∨ k = 141 ∨ k = 143) (e : sVal ρ fs = some zs) (h1 : nI2 H 56 7 f) (h3 : nI2 H 76 7 g) (h2 : tGr (tM f) g k zs) : kGh (kGP (kUP RO)) ρ [(k, fs)] H := kAt1 (by omega) e ((kUPn (by omega)).mpr ((tUPg hk).mpr ⟨f, g, h1, h3, h2⟩))
theorem tOf (hg : kGh (kGP (kUP RO)) ρ γ H) {k : Nat} {fs : List sL} (hq : ((k, fs) : kA) ∈ γ) (hk : 135 ≤ k ∧ k ≠ 140 ∧ k ≠ 141 ∧ k ≠ 143 ∧ k < 145) (hk2 : k < 1000) : ∃ zs f, sVal ρ fs = some zs ∧ nI2 H 56 7 f ∧ tPr (tM f) k zs := by
  obtain ⟨zs, e, h2⟩ := hg _ hq
  obtain ⟨f, h3, h4⟩ := (tUPp hk).mp (nGP (by omega) hk2 h2)
  exact ⟨zs, f, e, h3, h4⟩
theorem tFa (hg : kGh (kGP (kUP RO)) ρ γ H) {k : Nat} {p : List sL → Bool} {fs : List sL} (h : kFa γ k p = some fs) (hk : 135 ≤ k ∧ k ≠ 140 ∧ k ≠ 141 ∧ k ≠ 143 ∧ k < 145) (hk2 : k < 1000) : p fs = true ∧ ∃ zs f, sVal ρ fs = some zs ∧ nI2 H 56 7 f ∧ tPr (tM f) k zs := by
  obtain ⟨h1, zs, e, h2⟩ := nFa_ok hg h (by omega) hk2
  obtain ⟨f, h3, h4⟩ := (tUPp hk).mp h2
  exact ⟨h1, zs, f, e, h3, h4⟩
theorem tFg (hg : kGh (kGP (kUP RO)) ρ γ H) {k : Nat} {p : List sL → Bool} {fs : List sL} (h : kFa γ k p = some fs) (hk : k = 140 ∨ k = 141 ∨ k = 143) : p fs = true ∧ ∃ zs f g, sVal ρ fs = some zs ∧ nI2 H 56 7 f ∧ nI2 H 76 7 g ∧ tGr (tM f) g k zs := by
  obtain ⟨h1, zs, e, h2⟩ := nFa_ok hg h (by omega) (by omega)
  obtain ⟨f, g, h3, h4, h5⟩ := (tUPg hk).mp h2
  exact ⟨h1, zs, f, g, e, h3, h4, h5⟩
theorem tHp (hg : kGh (kGP (kUP RO)) ρ γ H) {k : Nat} {fs : List sL} (h : kHav γ k fs = true) (hk : 135 ≤ k ∧ k ≠ 140 ∧ k ≠ 141 ∧ k ≠ 143 ∧ k < 145) (hk2 : k < 1000) : ∃ zs f, sVal ρ fs = some zs ∧ nI2 H 56 7 f ∧ tPr (tM f) k zs := by
  obtain ⟨zs, e, h2⟩ := kHav_ok hg h hk2
  obtain ⟨f, h3, h4⟩ := (tUPp hk).mp ((kUPn (by omega)).mp h2)
  exact ⟨zs, f, e, h3, h4⟩
theorem tHg (hg : kGh (kGP (kUP RO)) ρ γ H) {k : Nat} {fs : List sL} (h : kHav γ k fs = true) (hk : k = 140 ∨ k = 141 ∨ k = 143) : ∃ zs f g, sVal ρ fs = some zs ∧ nI2 H 56 7 f ∧ nI2 H 76 7 g ∧ tGr (tM f) g k zs := by
  obtain ⟨zs, e, h2⟩ := kHav_ok hg h (by omega)
  obtain ⟨f, g, h3, h4, h5⟩ := (tUPg hk).mp ((kUPn (by omega)).mp h2)
  exact ⟨zs, f, g, e, h3, h4, h5⟩
theorem tFaf (hg : kGh (kGP (kUP RO)) ρ γ H) {f : Nat → Int32} (hF : nI2 H 56 7 f) {k : Nat} {p : List sL → Bool} {fs : List sL} (h : kFa γ k p = some fs) (hk : 135 ≤ k ∧ k ≠ 140 ∧ k ≠ 141 ∧ k ≠ 143 ∧ k < 145) (hk2 : k < 1000) : p fs = true ∧ ∃ zs, sVal ρ fs = some zs ∧ tPr (tM f) k zs := by
  obtain ⟨h1, zs, f', e, h3, h4⟩ := tFa hg h hk hk2
  rw [nI2_one h3 hF] at h4
  exact ⟨h1, zs, e, h4⟩
theorem tHpf (hg : kGh (kGP (kUP RO)) ρ γ H) {f : Nat → Int32} (hF : nI2 H 56 7 f) {k : Nat} {fs : List sL} (h : kHav γ k fs = true) (hk : 135 ≤ k ∧ k ≠ 140 ∧ k ≠ 141 ∧ k ≠ 143 ∧ k < 145) (hk2 : k < 1000) : ∃ zs, sVal ρ fs = some zs ∧ tPr (tM f) k zs := by
  obtain ⟨zs, f', e, h3, h4⟩ := tHp hg h hk hk2
  rw [nI2_one h3 hF] at h4
  exact ⟨zs, e, h4⟩
theorem tMn_ok (hM : sMo ρ Γ) (hg : kGh (kGP (kUP RO)) ρ γ H) {f : Nat → Int32} (hF : nI2 H 56 7 f) {i x : sL} {zi : Int} (ei : sEv ρ i = some zi) (h : tMn Γ γ i = some x) : 0 ≤ zi ∧ sEv ρ x = some (tM f zi.toNat) := by
  unfold tMn at h
  split at h
  · rename_i y hy
    split at h
    · rename_i hc
      cases h
      obtain ⟨z, ez, kz⟩ := kFindEl_ok hg hy ei
      have b := sWi_ok hM.1 ez hc
      obtain ⟨h0, v⟩ := kEl_v kz hF
      exact ⟨h0, by rw [ez, tM_eq v b.1 b.2]⟩
    · cases h
  · cases h
theorem tDv9 {x k : Int} (hx : 0 ≤ x) (hx2 : x ≤ 2147483647) (hk : 0 < k) (hk2 : k ≤ 2147483647) : sOp 9 x k = x / k ∧ sOp 10 x k = x % k := by
  obtain ⟨v1, v2, v3⟩ := sDiv_val hx hx2 hk hk2
  constructor
  · have e : eBin 9 (Int32.ofInt x) (Int32.ofInt k) = some (Int32.ofInt x / Int32.ofInt k) := show (if Int32.ofInt k = 0 then none else some _) = _ from if_neg v3
    rw [sOp_bin (by decide) e]
    exact v1
  · have e : eBin 10 (Int32.ofInt x) (Int32.ofInt k) = some (Int32.ofInt x - Int32.ofInt x / Int32.ofInt k * Int32.ofInt k) := show (if Int32.ofInt k = 0 then none else some _) = _ from if_neg v3
    rw [sOp_bin (by decide) e]
    exact v2
theorem tMul {x y : Int} (hx : 0 ≤ x) (hx2 : x ≤ 9999) (hy : 0 ≤ y) (hy2 : y ≤ 9999) : 0 ≤ x * y ∧ x * y ≤ 99980001 := by
  have h := Int.mul_le_mul hx2 hy2 hy (show (0 : Int) ≤ 9999 by omega)
  exact ⟨Int.mul_nonneg hx hy, by omega⟩
theorem tQt_ok (hM : sMo ρ Γ) {S m all w : sL} {zs zm za : Int} (es : sEv ρ S = some zs) (em : sEv ρ m = some zm) (ea : sEv ρ all = some za) (s0 : 0 ≤ zs) (s1 : zs ≤ 9999) (m0 : 0 ≤ zm) (m1 : zm ≤ 9999) (a0 : 1 ≤ za) (a1 : za ≤ 70000) (h : tQt Γ S m all = some w) : sEv ρ w = some (zs * zm / za) := by
  have hm := tMul s0 s1 m0 m1
  unfold tQt at h
  split at h
  · rename_i y hy
    have ey := nDl_ok hM es em hy
    have e2 : sOp 2 zs zm = zs * zm := by
      rw [sOp_bin (by decide) (show eBin 2 (Int32.ofInt zs) (Int32.ofInt zm) = some (Int32.ofInt zs * Int32.ofInt zm) from rfl), ← Int32.ofInt_mul, sTo32 (by omega) (by omega)]
    rw [e2] at ey
    have ew := nDl_ok hM ey ea h
    rw [(tDv9 hm.1 (by omega) (by omega) (by omega)).1] at ew
    exact ew
  · split at h
    · rename_i y hy
      have ey := nDl_ok hM es em hy
      have e2 : sOp 102 zs zm = zs * zm := by
        show (Int64.ofInt zs * Int64.ofInt zm).toInt = _
        rw [← Int64.ofInt_mul, sTo64 (by omega) (by omega)]
      rw [e2] at ey
      have ew := nDl_ok hM ey ea h
      have hne : ¬ Int64.ofInt za = 0 := by
        intro e
        have := congrArg Int64.toInt e
        rw [sTo64 (by omega) (by omega)] at this
        have z : (0 : Int64).toInt = 0 := rfl
        omega
      have e3 : sOp 109 (zs * zm) za = (Int64.ofInt (zs * zm) / Int64.ofInt za).toInt := by
        show (match eLin 9 (Int64.ofInt (zs * zm)) (Int64.ofInt za) with | some v => v.toInt | none => 0) = _
        have hv : eLin 9 (Int64.ofInt (zs * zm)) (Int64.ofInt za) = some (Int64.ofInt (zs * zm) / Int64.ofInt za) := show (if Int64.ofInt za = 0 then none else some _) = _ from if_neg hne
        rw [hv]
      rw [e3, kDv64 hm.1 (by omega) (by omega) (by omega)] at ew
      exact ew
    · cases h
theorem tPart_ok (hM : sMo ρ Γ) {S all w : sL} {m : Option sL} {zs zm za : Int} (es : sEv ρ S = some zs) (ea : sEv ρ all = some za) (em : ∀ x, m = some x → sEv ρ x = some zm) (h : tPart Γ S all m = some w) : sEv ρ w = some (tPt zs za zm) := by
  unfold tPart at h
  split at h
  · rename_i hz
    cases h
    have := sK_ok hM.1 ea hz
    unfold tPt
    rw [if_pos this]
    exact sEv_C _
  · split at h
    · rename_i x
      split at h
      · rename_i hc
        simp only [Bool.and_eq_true] at hc
        obtain ⟨c1, c2, c3⟩ := hc
        obtain ⟨z, ez, b1, b2⟩ := sWf_has hM c1
        cases ez.symm.trans ea
        have ex := em x rfl
        have d1 := sWi_ok hM.1 es c2
        have d2 := sWi_ok hM.1 ex c3
        unfold tPt
        rw [if_neg (by omega)]
        exact tQt_ok hM es ex ea d1.1 d1.2 d2.1 d2.2 b1 b2 h
      · cases h
    · cases h
theorem tPm (hM : sMo ρ Γ) (hg : kGh (kGP (kUP RO)) ρ γ H) {f : Nat → Int32} (hF : nI2 H 56 7 f) {i S all w : sL} {zi zs za : Int} (ei : sEv ρ i = some zi) (es : sEv ρ S = some zs) (ea : sEv ρ all = some za) (h : tPart Γ S all (tMn Γ γ i) = some w) : sEv ρ w = some (tPt zs za (tM f zi.toNat)) := tPart_ok hM es ea (fun _ hx => (tMn_ok hM hg hF ei hx).2) h
theorem tSt_ok (hM : sMo ρ Γ) {x m r r0 : sL} {zx zm zr z0 : Int} (ex : sEv ρ x = some zx) (em : sEv ρ m = some zm) (er : sEv ρ r = some zr) (e0 : sEv ρ r0 = some z0) (h : tSt Γ x m r r0 = true) : zr = z0 + (if zm < zx then 1 else 0) := by
  unfold tSt at h
  simp only [Bool.or_eq_true, Bool.and_eq_true, decide_eq_true_eq] at h
  rcases h with ⟨h1, rfl⟩ | ⟨h1, rfl⟩
  · have := sNN_ok hM (sEv_sub (sEv_sub ex em) (sEv_C 1)) h1
    cases er.symm.trans (sEv_add e0 (sEv_C 1))
    rw [if_pos (by omega)]
  · have := sNN_ok hM (sEv_sub em ex) h1
    cases er.symm.trans e0
    rw [if_neg (by omega)]
    omega
theorem tMSi_ok (i j : Nat) : kRok RO (tMSi i j) := by
  intro K ws h ρ R hD
  unfold tMSi at h
  split at h
  · rename_i k v hk hv
    split at h
    · rename_i hc
      cases h
      simp only [Bool.and_eq_true, decide_eq_true_eq] at hc
      obtain ⟨f, hF⟩ := tK56_ok hD hc.2.2.1
      exact ⟨_, List.mem_singleton.mpr rfl, tAtp (f := f) (zs := [0, 0]) (by decide) (by decide) (by simp only [sVal, sEv_C]) hF ⟨Int.le_refl _, rfl⟩, fun b hb => by cases hb⟩
    · cases h
  · cases h
theorem tMSs_ok (i j : Nat) : kRok RO (tMSs i j) := by
  intro K ws h ρ R hD
  have hM := hD.1
  unfold tMSs at h
  split at h
  · rename_i k v hk hv
    split at h
    · rename_i k' v0 m hfa hm
      split at h
      · rename_i hc
        cases h
        subst hc
        obtain ⟨q, zs, f, e, hF, hP⟩ := tFa hD.2.2 hfa (by decide) (by decide)
        have q : k' = k := by simpa [tPre] using q
        subst q
        obtain ⟨y1, y2, rfl, e1, e2⟩ := sVal_2 e
        obtain ⟨h0, em⟩ := tMn_ok hM hD.2.2 hF e1 hm
        obtain ⟨p1, p2⟩ : 0 ≤ y1 ∧ y2 = tMs (tM f) y1.toNat := hP
        have e3 := sEv_add e1 (sEv_C (ρ := ρ) 1)
        have e4 := sEv_add e2 em
        refine ⟨_, List.mem_singleton.mpr rfl, tAtp (f := f) (zs := [y1 + 1, y2 + tM f y1.toNat]) (by decide) (by decide) (by simp only [sVal, e3, e4]) hF ⟨by omega, ?_⟩, fun b hb => by cases hb⟩
        rw [show (y1 + 1).toNat = y1.toNat + 1 by omega, p2]
        rfl
      · cases h
    · cases h
  · cases h
theorem tMSe_ok (s i j zp : Nat) : kRok RO (tMSe s i j zp) := by
  intro K ws h ρ R hD
  have hM := hD.1
  unfold tMSe at h
  split at h
  · rename_i k v p hk hv hp
    split at h
    · rename_i hc
      cases h
      simp only [Bool.and_eq_true] at hc
      obtain ⟨c1, -, c2⟩ := hc
      obtain ⟨zs, f, e, hF, hP⟩ := tHp hD.2.2 c1 (by decide) (by decide)
      obtain ⟨y1, y2, rfl, e1, e2⟩ := sVal_2 e
      obtain ⟨zp', ep⟩ := tPpl_ok hD hp
      have := kEqf_ok hM e1 ep c2
      subst this
      exact ⟨_, List.mem_singleton.mpr rfl, tAtp (f := f) (zs := [y1, y2]) (by decide) (by decide) (by simp only [sVal, ep, e2]) hF hP, fun b hb => by cases hb⟩
    · cases h
  · cases h
theorem tLFi_ok (s al le i : Nat) : kRok RO (tLFi s al le i) := by
  intro K ws h ρ R hD
  unfold tLFi at h
  split at h
  · rename_i a l k S ha hl hk hS
    split at h
    · rename_i hc
      cases h
      simp only [Bool.and_eq_true, decide_eq_true_eq] at hc
      obtain ⟨rfl, rfl, c1, -⟩ := hc
      obtain ⟨f, hF⟩ := tK56_ok hD c1
      obtain ⟨za, ea⟩ := kLf_ok hD.2.1 ha
      obtain ⟨zS, eS⟩ := tSum_ok hD hS
      exact ⟨_, List.mem_singleton.mpr rfl, tAtp (f := f) (zs := [zS, za, 0, zS]) (by decide) (by decide) (by simp only [sVal, ea, eS, sEv_C]) hF ⟨Int.le_refl _, rfl⟩, fun b hb => by cases hb⟩
    · cases h
  · cases h
theorem tLFs_ok (s al le i : Nat) : kRok RO (tLFs s al le i) := by
  intro K ws h ρ R hD
  have hM := hD.1
  unfold tLFs at h
  split at h
  · rename_i a l k S ha hl hk hS
    split at h
    · rename_i S' a' k' l0 x hfa hx
      split at h
      · rename_i hc
        cases h
        subst hc
        obtain ⟨q, zs, f, e, hF, hP⟩ := tFa hD.2.2 hfa (by decide) (by decide)
        have q : S' = S ∧ a' = a ∧ k' = k := by simpa [tPre] using q
        obtain ⟨rfl, rfl, rfl⟩ := q
        obtain ⟨y1, y2, y3, y4, rfl, e1, e2, e3, e4⟩ := tVal_4 e
        obtain ⟨p1, p2⟩ : 0 ≤ y3 ∧ y4 = tLf y1 y2 (tM f) y3.toNat := hP
        have ex := tPm hM hD.2.2 hF e3 e1 e2 hx
        have e5 := sEv_add e3 (sEv_C (ρ := ρ) 1)
        have e6 := sEv_sub e4 ex
        refine ⟨_, List.mem_singleton.mpr rfl, tAtp (f := f) (zs := [y1, y2, y3 + 1, y4 - tPt y1 y2 (tM f y3.toNat)]) (by decide) (by decide) (by simp only [sVal, e1, e2, e5, e6]) hF ⟨by omega, ?_⟩, fun b hb => by cases hb⟩
        rw [show (y3 + 1).toNat = y3.toNat + 1 by omega, p2]
        rfl
      · cases h
    · cases h
  · cases h
theorem tLFb_ok (s al le i zp : Nat) : kRok RO (tLFb s al le i zp) := by
  intro K ws h ρ R hD
  have hM := hD.1
  unfold tLFb at h
  split at h
  · rename_i a l k S p ha hl hk hS hp
    split at h
    · rename_i hc
      cases h
      simp only [Bool.and_eq_true] at hc
      obtain ⟨c1, c2, c3, -, c4⟩ := hc
      obtain ⟨zs, f, e, hF, hP⟩ := tHp hD.2.2 c1 (by decide) (by decide)
      obtain ⟨y1, y2, y3, y4, rfl, e1, e2, e3, e4⟩ := tVal_4 e
      obtain ⟨p1, p2⟩ : 0 ≤ y3 ∧ y4 = tLf y1 y2 (tM f) y3.toNat := hP
      obtain ⟨zs', e', hP'⟩ := tHpf hD.2.2 hF c3 (by decide) (by decide)
      obtain ⟨u1, u2, rfl, g1, g2⟩ := sVal_2 e'
      obtain ⟨q1, q2⟩ : 0 ≤ u1 ∧ u2 = tMs (tM f) u1.toNat := hP'
      have h3 := kEqf_ok hM e3 g1 c2
      cases g2.symm.trans e2
      subst h3
      have b := sWi_ok hM.1 e1 c4
      have t := tT_b b.1 (tM_nn f) y3.toNat
      have t : 0 ≤ y4 ∧ y4 ≤ y1 := by
        rw [p2, q2]
        exact t
      refine ⟨_, List.mem_singleton.mpr rfl, fun a ha => (by cases ha), fun b hb => ?_⟩
      rcases List.mem_singleton.mp hb with rfl
      exact ⟨y4, e4, show (0 : Int) ≤ y4 by omega, show y4 ≤ 9999 by omega⟩
    · cases h
  · cases h
theorem tLq_ok (hM : sMo ρ Γ) {S a l p x1 x2 x3 x4 : sL} (h : tLq Γ S a l p [x1, x2, x3, x4] = true) : x1 = S ∧ x2 = a ∧ x4 = l ∧ kEqf Γ x3 p = true := by
  unfold tLq at h
  simp only [Bool.and_eq_true, decide_eq_true_eq] at h
  exact h
theorem tSHe_ok : kRok RO tSHe := by
  intro K ws h ρ R hD
  have hM := hD.1
  unfold tSHe at h
  split at h
  · rename_i o a l S p r ho ha hl hS hp hr
    split at h
    · rename_i S' a' k' l' x d e hfa hx hd he
      split at h
      · rename_i hc
        cases h
        obtain ⟨q, zs, f, ez, hF, hP⟩ := tFa hD.2.2 hfa (by decide) (by decide)
        obtain ⟨rfl, rfl, rfl, qk⟩ := tLq_ok hM q
        obtain ⟨y1, y2, y3, y4, rfl, e1, e2, e3, e4⟩ := tVal_4 ez
        obtain ⟨p1, p2⟩ : 0 ≤ y3 ∧ y4 = tLf y1 y2 (tM f) y3.toNat := hP
        obtain ⟨zp, ep⟩ := tPpl_ok hD hp
        obtain ⟨zo, eo⟩ := kLf_ok hD.2.1 ho
        simp only [Bool.and_eq_true] at hc
        obtain ⟨c1, c2, c3, c4, c5⟩ := hc
        have h3 := kEqf_ok hM e3 ep qk
        subst h3
        obtain ⟨zs', e', hP'⟩ := tHpf hD.2.2 hF c1 (by decide) (by decide)
        obtain ⟨u1, u2, rfl, g1, g2⟩ := sVal_2 e'
        obtain ⟨q1, q2⟩ : 0 ≤ u1 ∧ u2 = tMs (tM f) u1.toNat := hP'
        cases g1.symm.trans ep
        cases g2.symm.trans e2
        have o0 := sNN_ok hM eo c2
        obtain ⟨w1, f1, l0, l1⟩ := sWf_has hM c3
        cases f1.symm.trans e4
        obtain ⟨w2, f2, n0, n1⟩ := sWf_has hM c4
        cases f2.symm.trans ep
        have ex := tPm hM hD.2.2 hF eo e1 e2 hx
        have ed := nDl_ok hM e4 ep hd
        have ee := nDl_ok hM e4 ep he
        obtain ⟨v1, v2⟩ := tDv9 (x := y4) (k := y3) l0 (by omega) (by omega) (by omega)
        rw [v1] at ed
        rw [v2] at ee
        have hT : y4 = tLf y1 (tMs (tM f) y3.toNat) (tM f) y3.toNat := by rw [p2, q2]
        have hc3 : ((y3.toNat : Nat) : Int) = y3 := Int.toNat_of_nonneg p1
        have ho3 : ((zo.toNat : Nat) : Int) = zo := Int.toNat_of_nonneg o0
        have fin : ∀ {zr : Int}, sEv ρ r = some zr → zr = tPt y1 y2 (tM f zo.toNat) + y4 / y3 + (if zo < y4 % y3 then 1 else 0) → ∃ p_1 ∈ [(([(137, [S', p, o, r])], []) : List kA × List (sL × Int × Int))], kGh (kGP (kUP RO)) ρ p_1.1 R.2.2.2.1 ∧ ∀ b ∈ p_1.2, ∃ z, sEv ρ b.1 = some z ∧ b.2.1 ≤ z ∧ z ≤ b.2.2 := fun {zr} er q => by
          refine ⟨_, List.mem_singleton.mpr rfl, tAtp (f := f) (zs := [y1, y3, zo, zr]) (by decide) (by decide) (by simp only [sVal, e1, ep, eo, er]) hF ?_, fun b hb => by cases hb⟩
          show zr = tSh y1 (tM f) y3.toNat zo.toNat
          unfold tSh tDl
          rw [hc3, ho3, ← hT, ← q2, q]
          omega
        simp only [Bool.or_eq_true, Bool.and_eq_true, decide_eq_true_eq] at c5
        rcases c5 with ⟨rfl, c5⟩ | ⟨rfl, c5⟩
        · have := sNN_ok hM (sEv_sub (sEv_sub ee eo) (sEv_C 1)) c5
          exact fin (sEv_add (sEv_add ex ed) (sEv_C 1)) (by rw [if_pos (by omega)])
        · have := sNN_ok hM (sEv_sub eo ee) c5
          exact fin (sEv_add ex ed) (by rw [if_neg (by omega)]; omega)
      · cases h
    · cases h
  · cases h
theorem tTRi_ok : kRok RO tTRi := by
  intro K ws h ρ R hD
  have hM := hD.1
  unfold tTRi at h
  split at h
  · rename_i ev ru ri k S p hev hru hri hk hS hp
    split at h
    · rename_i hc
      cases h
      simp only [Bool.and_eq_true, decide_eq_true_eq] at hc
      obtain ⟨-, -, -, c1, c2, -⟩ := hc
      obtain ⟨f, hF⟩ := tK56_ok hD c2
      obtain ⟨zS, eS⟩ := tSum_ok hD hS
      obtain ⟨zp, ep⟩ := tPpl_ok hD hp
      have ee := nDl_ok hM eS ep c1
      exact ⟨_, List.mem_singleton.mpr rfl, tAtp (f := f) (zs := [zS, zp, sOp 9 zS zp, 0, 0, 0]) (by decide) (by decide) (by simp only [sVal, eS, ep, ee, sEv_C]) hF ⟨Int.le_refl _, rfl, rfl, rfl⟩, fun b hb => by cases hb⟩
    · cases h
  · cases h
theorem tTRs_ok : kRok RO tTRs := by
  intro K ws h ρ R hD
  have hM := hD.1
  unfold tTRs at h
  split at h
  · rename_i ev ru ri k S p hev hru hri hk hS hp
    split at h
    · rename_i S' p' ev' k' ru0 ri0 S2 p2 k2 x m hfa hfb hm
      split at h
      · rename_i hc
        cases h
        obtain ⟨q, zs, f, e, hF, hP⟩ := tFa hD.2.2 hfa (by decide) (by decide)
        have q : S' = S ∧ p' = p ∧ ev' = ev ∧ k' = k := by simpa [tPre] using q
        obtain ⟨rfl, rfl, rfl, rfl⟩ := q
        obtain ⟨y1, y2, y3, y4, y5, y6, rfl, e1, e2, e3, e4, e5, e6⟩ := tVal_6 e
        obtain ⟨p1, p3, p4, p5⟩ : 0 ≤ y4 ∧ y3 = sOp 9 y1 y2 ∧ y5 = tRu y1 (tM f) y2.toNat y4.toNat ∧ y6 = tRi y1 y3 (tM f) y2.toNat y4.toNat := hP
        obtain ⟨q, zs', e', hP'⟩ := tFaf hD.2.2 hF hfb (by decide) (by decide)
        have q : S2 = S' ∧ p2 = p' ∧ k2 = k' := by simpa [tPre] using q
        obtain ⟨rfl, rfl, rfl⟩ := q
        obtain ⟨u1, u2, u3, u4, rfl, g1, g2, g3, g4⟩ := tVal_4 e'
        cases g1.symm.trans e1
        cases g2.symm.trans e2
        cases g3.symm.trans e4
        have hx : u4 = tSh y1 (tM f) y2.toNat y4.toNat := hP'
        obtain ⟨-, em⟩ := tMn_ok hM hD.2.2 hF e4 hm
        obtain ⟨z5, f5⟩ := kLf_ok hD.2.1 hru
        obtain ⟨z6, f6⟩ := kLf_ok hD.2.1 hri
        simp only [Bool.and_eq_true] at hc
        have h5 := tSt_ok hM g4 em f5 e5 hc.1
        have h6 := tSt_ok hM g4 e3 f6 e6 hc.2
        have ek := sEv_add e4 (sEv_C (ρ := ρ) 1)
        refine ⟨_, List.mem_singleton.mpr rfl, tAtp (f := f) (zs := [y1, y2, y3, y4 + 1, z5, z6]) (by decide) (by decide) (by simp only [sVal, e1, e2, e3, ek, f5, f6]) hF ⟨by omega, p3, ?_, ?_⟩, fun b hb => by cases hb⟩
        · rw [show (y4 + 1).toNat = y4.toNat + 1 by omega, h5, hx, p4]
          rfl
        · rw [show (y4 + 1).toNat = y4.toNat + 1 by omega, h6, hx, p5]
          rfl
      · cases h
    · cases h
  · cases h
theorem tTRe_ok : kRok RO tTRe := by
  intro K ws h ρ R hD
  have hM := hD.1
  unfold tTRe at h
  split at h
  · rename_i o w S p r ho hw hS hp hr
    obtain ⟨zo, eo⟩ := kLf_ok hD.2.1 ho
    obtain ⟨zw, ew⟩ := kLf_ok hD.2.1 hw
    split at h
    · rename_i hz
      split at h
      · rename_i hc
        cases h
        have hz := sK_ok hM.1 ew (of_decide_eq_true hz)
        obtain ⟨zs, f, e, hF, hP⟩ := tHp hD.2.2 hc (by decide) (by decide)
        obtain ⟨y1, y2, y3, y4, rfl, e1, e2, e3, e4⟩ := tVal_4 e
        have hP : y4 = tSh y1 (tM f) y2.toNat y3.toNat := hP
        refine ⟨_, List.mem_singleton.mpr rfl, tAtp (f := f) (zs := [y1, y2, y3, zw, y4]) (by decide) (by decide) (by simp only [sVal, e1, e2, e3, ew, e4]) hF ?_, fun b hb => by cases hb⟩
        show y4 = tAns y1 (tM f) y2 y3 zw
        unfold tAns
        rw [if_pos hz]
        exact hP
      · cases h
    · split at h
      · rename_i hc
        cases h
        obtain ⟨⟨k, fs⟩, hq, hany⟩ := List.any_eq_true.mp hc
        clear hc
        have hc := hany
        clear hany
        unfold tTRq at hc
        simp only [Bool.and_eq_true, decide_eq_true_eq] at hc
        obtain ⟨rfl, hc⟩ := hc
        split at hc
        · rename_i s p' ev k ru ri
          simp only [Bool.and_eq_true, Bool.or_eq_true, decide_eq_true_eq] at hc
          obtain ⟨rfl, rfl, c1, c2⟩ := hc
          obtain ⟨zs, f, e, hF, hP⟩ := tOf hD.2.2 hq (by decide) (by decide)
          obtain ⟨y1, y2, y3, y4, y5, y6, rfl, e1, e2, e3, e4, e5, e6⟩ := tVal_6 e
          obtain ⟨p1, p3, p4, p5⟩ : 0 ≤ y4 ∧ y3 = sOp 9 y1 y2 ∧ y5 = tRu y1 (tM f) y2.toNat y4.toNat ∧ y6 = tRi y1 y3 (tM f) y2.toNat y4.toNat := hP
          have h4 := kEqf_ok hM e4 e2 c1
          subst h4
          have fin : ∀ {zr : Int}, sEv ρ r = some zr → zr = tAns y1 (tM f) y4 zo zw → ∃ p_1 ∈ [(([(139, [s, p', o, w, r])], []) : List kA × List (sL × Int × Int))], kGh (kGP (kUP RO)) ρ p_1.1 R.2.2.2.1 ∧ ∀ b ∈ p_1.2, ∃ z, sEv ρ b.1 = some z ∧ b.2.1 ≤ z ∧ z ≤ b.2.2 := fun {zr} er q => ⟨_, List.mem_singleton.mpr rfl, tAtp (f := f) (zs := [y1, y4, zo, zw, zr]) (by decide) (by decide) (by simp only [sVal, e1, e2, eo, ew, er]) hF q, fun b hb => by cases hb⟩
          rcases c2 with ⟨c2, rfl⟩ | ⟨c2, c3⟩
          · have := sK_ok hM.1 ew c2
            refine fin e6 ?_
            unfold tAns
            rw [if_neg (by omega), if_neg (by omega), p5, p3]
          · have hw1 := sK_ok hM.1 ew c2
            rcases c3 with ⟨rfl, c3⟩ | ⟨rfl, c3⟩
            · have := sK_ok hM.1 e5 c3
              refine fin (sEv_C _) ?_
              unfold tAns
              rw [if_neg (by omega), if_pos hw1, if_pos (by omega)]
            · have := nNe_ok hM e5 (sEv_C 0) c3
              refine fin (sEv_C _) ?_
              unfold tAns
              rw [if_neg (by omega), if_pos hw1, if_neg (by omega)]
        · cases hc
      · cases h
  · cases h
theorem tSAi_ok : kRok RO tSAi := by
  intro K ws h ρ R hD
  unfold tSAi at h
  split at h
  · rename_i a k S ha hk hS
    split at h
    · rename_i hc
      cases h
      simp only [Bool.and_eq_true, decide_eq_true_eq] at hc
      obtain ⟨-, c1, c2, -⟩ := hc
      obtain ⟨f, hF⟩ := tK56_ok hD c2
      obtain ⟨g, hG⟩ : ∃ g, nI2 R.2.2.2.1 76 7 g := kSh1 hD.2.1.2.2.2.1 (by decide) rfl c1
      obtain ⟨za, ea⟩ := kLf_ok hD.2.1 ha
      obtain ⟨zS, eS⟩ := tSum_ok hD hS
      exact ⟨_, List.mem_singleton.mpr rfl, tAtg (f := f) (g := g) (zs := [zS, za, 0]) (Or.inl rfl) (by simp only [sVal, eS, ea, sEv_C]) hF hG (show ∀ q : Nat, (q : Int) < 0 → _ from fun q hq => by omega), fun b hb => by cases hb⟩
    · cases h
  · cases h
theorem tSAs_ok : kRok RO tSAs := by
  intro K ws h ρ R hD
  have hM := hD.1
  unfold tSAs at h
  split at h
  · rename_i a k S ha hk hS
    split at h
    · rename_i w x hw hx
      split at h
      · rename_i hc
        cases h
        simp only [Bool.and_eq_true, decide_eq_true_eq] at hc
        obtain ⟨c1, rfl⟩ := hc
        obtain ⟨zs, f, g, e, hF, hG, hP⟩ := tHg hD.2.2 c1 (Or.inl rfl)
        obtain ⟨y1, y2, y3, rfl, e1, e2, e3⟩ := tVal_3 e
        have hP : ∀ q : Nat, (q : Int) < y3 → g q = Int32.ofInt (tPt y1 y2 (tM f q)) := hP
        have ex := tPm hM hD.2.2 hF e3 e1 e2 hx
        obtain ⟨zw, ew, kw⟩ := kFindEl_ok hD.2.2 hw e3
        cases ew.symm.trans ex
        obtain ⟨h0, v⟩ := kEl_v kw hG
        have e5 := sEv_add e3 (sEv_C (ρ := ρ) 1)
        refine ⟨_, List.mem_singleton.mpr rfl, tAtg (f := f) (g := g) (zs := [y1, y2, y3 + 1]) (Or.inl rfl) (by simp only [sVal, e1, e2, e5]) hF hG (show ∀ q : Nat, (q : Int) < y3 + 1 → g q = Int32.ofInt (tPt y1 y2 (tM f q)) from fun q hq => ?_), fun b hb => by cases hb⟩
        by_cases hc : (q : Int) < y3
        · exact hP q hc
        · have : q = y3.toNat := by omega
          subst this
          exact v
      · cases h
    · cases h
  · cases h
theorem tSBi_ok (zp : Nat) : kRok RO (tSBi zp) := by
  intro K ws h ρ R hD
  have hM := hD.1
  unfold tSBi at h
  split at h
  · rename_i a l i S p ha hl hi hS hp
    split at h
    · rename_i s1 a1 k1 s2 a2 k2 l2 hfa hfb
      split at h
      · rename_i hc
        cases h
        simp only [Bool.and_eq_true, decide_eq_true_eq] at hc
        obtain ⟨-, c1, c2, -⟩ := hc
        obtain ⟨q, zs, f, g, e, hF, hG, hP⟩ := tFg hD.2.2 hfa (Or.inl rfl)
        unfold tSq at q
        simp only [Bool.and_eq_true, decide_eq_true_eq] at q
        obtain ⟨rfl, rfl, q⟩ := q
        obtain ⟨y1, y2, y3, rfl, e1, e2, e3⟩ := tVal_3 e
        have hP : ∀ q : Nat, (q : Int) < y3 → g q = Int32.ofInt (tPt y1 y2 (tM f q)) := hP
        obtain ⟨zp', ep⟩ := tPpl_ok hD hp
        have h3 := kEqf_ok hM e3 ep q
        subst h3
        obtain ⟨q2, zs', e', hP'⟩ := tFaf hD.2.2 hF hfb (by decide) (by decide)
        obtain ⟨rfl, rfl, rfl, qk⟩ := tLq_ok hM q2
        obtain ⟨u1, u2, u3, u4, rfl, g1, g2, g3, g4⟩ := tVal_4 e'
        cases g1.symm.trans e1
        cases g2.symm.trans e2
        have h4 := kEqf_ok hM g3 ep qk
        subst h4
        obtain ⟨r1, r2⟩ : 0 ≤ u3 ∧ u4 = tLf y1 y2 (tM f) u3.toNat := hP'
        obtain ⟨zs2, e2', hP2⟩ := tHpf hD.2.2 hF c1 (by decide) (by decide)
        obtain ⟨w1, w2, rfl, k1', k2'⟩ := sVal_2 e2'
        obtain ⟨t1, t2⟩ : 0 ≤ w1 ∧ w2 = tMs (tM f) w1.toNat := hP2
        cases k1'.symm.trans ep
        cases k2'.symm.trans e2
        obtain ⟨z7, f7, b1, b2⟩ := sWf_has hM c2
        cases f7.symm.trans ep
        have hT : u4 = tT y1 (tM f) u3.toNat := by rw [r2, t2]; rfl
        refine ⟨_, List.mem_singleton.mpr rfl, tAtg (f := f) (g := g) (zs := [y1, u3, u4, 0, -1]) (Or.inr (Or.inl rfl)) (by simp only [sVal, e1, ep, g4, sEv_C]) hF hG ?_, fun b hb => by cases hb⟩
        show tSb (tM f) g y1 u3 u4 0 (-1)
        rw [hT]
        exact tSb_0 b1 b2 (fun q hq => by rw [hP q hq, t2])
      · cases h
    · cases h
  · cases h
theorem tSBo_ok (zp : Nat) : kRok RO (tSBo zp) := by
  intro K ws h ρ R hD
  have hM := hD.1
  unfold tSBo at h
  split at h
  · rename_i l i S p hl hi hS hp
    split at h
    · rename_i o ho
      split at h
      · rename_i hc
        cases h
        simp only [Bool.and_eq_true] at hc
        obtain ⟨c1, c2, c3, c4, c5, -⟩ := hc
        obtain ⟨zs, f, g, e, hF, hG, hP⟩ := tHg hD.2.2 c1 (Or.inr (Or.inl rfl))
        obtain ⟨y1, y2, y3, y4, y5, rfl, e1, e2, e3, e4, e5⟩ := tVal_5 e
        obtain ⟨a1, a2, a3, a4, a5⟩ : tSb (tM f) g y1 y2 y3 y4 y5 := hP
        cases e5.symm.trans (sEv_C (ρ := ρ) (-1))
        obtain ⟨z, ez, kz⟩ := kFindEl_ok hD.2.2 ho e4
        obtain ⟨h0, v⟩ := kEl_v kz hG
        have bi := sWi_ok hM.1 ez c2
        have b3 := sNN_ok hM (sEv_sub (sEv_sub e2 e4) (sEv_C 1)) c3
        have b4 := sNN_ok hM e3 c4
        have b5 := sWi_ok hM.1 e1 c5
        have hy : ((y4.toNat : Nat) : Int) = y4 := Int.toNat_of_nonneg h0
        have hp2 : ((y2.toNat : Nat) : Int) = y2 := Int.toNat_of_nonneg (by omega)
        have ht := tT_b b5.1 (tM_nn f) y2.toNat
        have hb := tPD_b (i := y4.toNat) (t := tT y1 (tM f) y2.toNat - y3) (z := y4) b5.1 b5.2 (tM_nn f) (show y4.toNat < y2.toNat by omega) (by omega) (by omega)
        rw [hp2] at hb
        have hv := a5 y4.toNat (by omega) (by omega)
        rw [hy, v] at hv
        have hz := n32i bi (by omega) hv
        refine ⟨_, List.mem_singleton.mpr rfl, tAtp (f := f) (zs := [y1, y2, y3, y4, z]) (by decide) (by decide) (by simp only [sVal, e1, e2, e3, e4, ez]) hF ⟨h0, hz⟩, fun b hb' => ?_⟩
        rcases List.mem_singleton.mp hb' with rfl
        exact ⟨z, ez, show (0 : Int) ≤ z by omega, show z ≤ 20000 by omega⟩
      · cases h
    · cases h
  · cases h
theorem tSBs_ok (zp : Nat) : kRok RO (tSBs zp) := by
  intro K ws h ρ R hD
  have hM := hD.1
  unfold tSBs at h
  split at h
  · rename_i l i S p hl hi hS hp
    split at h
    · rename_i s p' l' i0 e0 hfa
      split at h
      · rename_i x1 x2 x3 x4 o w hfb hw
        split at h
        · rename_i hc
          cases h
          simp only [Bool.and_eq_true, decide_eq_true_eq] at hc
          obtain ⟨rfl, c1, c2⟩ := hc
          obtain ⟨q, zs, f, g, e, hF, hG, hP⟩ := tFg hD.2.2 hfa (Or.inr (Or.inl rfl))
          unfold tBq at q
          simp only [Bool.and_eq_true, decide_eq_true_eq] at q
          obtain ⟨rfl, rfl, rfl, rfl⟩ := q
          obtain ⟨y1, y2, y3, y4, y5, rfl, e1, e2, e3, e4, e5⟩ := tVal_5 e
          cases e5.symm.trans e4
          have hP : tSb (tM f) g y1 y2 y3 y4 y4 := hP
          obtain ⟨zl, el⟩ := kLf_ok hD.2.1 hl
          cases e3.symm.trans (sEv_add el (sEv_C 1))
          obtain ⟨q, zs', e', hP'⟩ := tFaf hD.2.2 hF hfb (by decide) (by decide)
          have q : x1 = s ∧ x2 = p' ∧ x3 = sAdd l (sC 1) ∧ x4 = e0 := by simpa [tPre] using q
          obtain ⟨rfl, rfl, rfl, rfl⟩ := q
          obtain ⟨u1, u2, u3, u4, u5, rfl, g1, g2, g3, g4, g5⟩ := tVal_5 e'
          cases g1.symm.trans e1
          cases g2.symm.trans e2
          cases g3.symm.trans e3
          cases g4.symm.trans e4
          obtain ⟨o0, ov⟩ : 0 ≤ y4 ∧ u5 = tPt y1 (tMs (tM f) y2.toNat) (tM f y4.toNat) + tDl y2 (tT y1 (tM f) y2.toNat - (zl + 1)) y4 := hP'
          obtain ⟨z, ez, kz⟩ := kFindEl_ok hD.2.2 hw e4
          cases ez.symm.trans (sEv_add g5 (sEv_C 1))
          obtain ⟨h0, v⟩ := kEl_v kz hG
          have b5 := sWi_ok hM.1 e1 c1
          have ei := nDl_ok hM (sEv_add e4 (sEv_C (ρ := ρ) 1)) e2 c2
          have hb1 := hP.1
          have hb2 := hP.2.1
          have hi4 := hP.2.2.2.1
          have hi0 := Int.emod_nonneg (tT y1 (tM f) y2.toNat - (zl + 1)) (show y2 ≠ 0 by omega)
          have hi1 := Int.emod_lt_of_pos (tT y1 (tM f) y2.toNat - (zl + 1)) (show 0 < y2 by omega)
          rw [(tDv9 (x := y4 + 1) (k := y2) (by omega) (by omega) (by omega) (by omega)).2] at ei
          have hs := tSb_s (G' := g) b5.1 (tM_nn f) hP ov v
          have hm0 := Int.emod_nonneg (y4 + 1) (show y2 ≠ 0 by omega)
          have hm1 := Int.emod_lt_of_pos (y4 + 1) (show 0 < y2 by omega)
          refine ⟨_, List.mem_singleton.mpr rfl, tAtg (f := f) (g := g) (zs := [y1, y2, zl, (y4 + 1) % y2, -1]) (Or.inr (Or.inl rfl)) (by simp only [sVal, e1, e2, el, ei, sEv_C]) hF hG hs, fun b hb => ?_⟩
          rcases List.mem_singleton.mp hb with rfl
          exact ⟨y2 - (y4 + 1) % y2 - 1, sEv_sub (sEv_sub e2 ei) (sEv_C 1), show (0 : Int) ≤ y2 - (y4 + 1) % y2 - 1 by omega, show y2 - (y4 + 1) % y2 - 1 ≤ 7 by omega⟩
        · cases h
      · cases h
    · cases h
  · cases h
theorem tSBe_ok (zp : Nat) : kRok RO (tSBe zp) := by
  intro K ws h ρ R hD
  have hM := hD.1
  unfold tSBe at h
  split at h
  · rename_i l i S p hl hi hS hp
    split at h
    · rename_i hc
      cases h
      simp only [Bool.and_eq_true] at hc
      obtain ⟨c1, c2, c3⟩ := hc
      obtain ⟨zs, f, g, e, hF, hG, hP⟩ := tHg hD.2.2 c1 (Or.inr (Or.inl rfl))
      obtain ⟨y1, y2, y3, y4, y5, rfl, e1, e2, e3, e4, e5⟩ := tVal_5 e
      have hP : tSb (tM f) g y1 y2 y3 y4 y5 := hP
      cases e5.symm.trans (sEv_C (ρ := ρ) (-1))
      have b1 := sNN_ok hM (sEv_mul (-1) e3) c2
      have b2 := sNN_ok hM e3 c3
      have h3 : y3 = 0 := by omega
      subst h3
      exact ⟨_, List.mem_singleton.mpr rfl, tAtg (f := f) (g := g) (zs := [y1, y2]) (Or.inr (Or.inr rfl)) (by simp only [sVal, e1, e2]) hF hG (tSb_e hP), fun b hb => by cases hb⟩
    · cases h
  · cases h
theorem tTFi_ok (zp : Nat) : kRok RO (tTFi zp) := by
  intro K ws h ρ R hD
  unfold tTFi at h
  split at h
  · rename_i ri ok k S p hri hok hk hS hp
    split at h
    · rename_i hc
      cases h
      simp only [Bool.and_eq_true, decide_eq_true_eq] at hc
      obtain ⟨f, hF⟩ := tK56_ok hD hc.2.2.2.1
      obtain ⟨zS, eS⟩ := tSum_ok hD hS
      obtain ⟨zp', ep⟩ := tPpl_ok hD hp
      exact ⟨_, List.mem_singleton.mpr rfl, tAtp (f := f) (zs := [zS, zp', 0, 1, 0]) (by decide) (by decide) (by simp only [sVal, eS, ep, sEv_C]) hF ⟨Int.le_refl _, rfl, rfl⟩, fun b hb => by cases hb⟩
    · cases h
  · cases h
/-- a share that is told -/
theorem tShx {f g : Nat → Int32} {S p i z : Int} (hS : 0 ≤ S) (hS2 : S ≤ 9999) (hp : 1 ≤ p ∧ p ≤ 7 ∧ ∀ q : Nat, (q : Int) < p → g q = Int32.ofInt (tSh S (tM f) p.toNat q)) (h0 : 0 ≤ i) (hi : i < p) (hz : -2147483648 ≤ z ∧ z ≤ 2147483647) (v : g i.toNat = Int32.ofInt z) : z = tSh S (tM f) p.toNat i.toNat := by
  have hv := hp.2.2 i.toNat (by omega)
  rw [v] at hv
  have ht := tT_b hS (tM_nn f) p.toNat
  have hb := tPD_b (i := i.toNat) (t := tT S (tM f) p.toNat) (z := ((i.toNat : Nat) : Int)) hS hS2 (tM_nn f) (show i.toNat < p.toNat by omega) ht.1 (Int.le_refl _)
  have hb : 0 ≤ tSh S (tM f) p.toNat i.toNat ∧ tSh S (tM f) p.toNat i.toNat ≤ 20000 := hb
  exact n32i hz (by omega) hv
theorem tTFs_ok (zp : Nat) : kRok RO (tTFs zp) := by
  intro K ws h ρ R hD
  have hM := hD.1
  unfold tTFs at h
  split at h
  · rename_i ri ok k S p hri hok hk hS hp
    split at h
    · rename_i S' p' k' ok0 ri0 x m ev hfa hx hm hev
      split at h
      · rename_i hc
        cases h
        simp only [Bool.and_eq_true] at hc
        obtain ⟨c1, c2, c3, c4, c5, c6⟩ := hc
        obtain ⟨q, zs, f, e, hF, hP⟩ := tFa hD.2.2 hfa (by decide) (by decide)
        have q : S' = S ∧ p' = p ∧ k' = k := by simpa [tPre] using q
        obtain ⟨rfl, rfl, rfl⟩ := q
        obtain ⟨y1, y2, y3, y4, y5, rfl, e1, e2, e3, e4, e5⟩ := tVal_5 e
        obtain ⟨p1, p2, p3⟩ : 0 ≤ y3 ∧ y4 = (if tRu y1 (tM f) y2.toNat y3.toNat = 0 then 1 else 0) ∧ y5 = tRi y1 (sOp 9 y1 y2) (tM f) y2.toNat y3.toNat := hP
        obtain ⟨zs', f', g, e', hF', hG, hP'⟩ := tHg hD.2.2 c3 (Or.inr (Or.inr rfl))
        rw [nI2_one hF' hF] at hP'
        obtain ⟨u1, u2, rfl, g1, g2⟩ := sVal_2 e'
        cases g1.symm.trans e1
        cases g2.symm.trans e2
        have hP' : 1 ≤ y2 ∧ y2 ≤ 7 ∧ ∀ q : Nat, (q : Int) < y2 → g q = Int32.ofInt (tSh y1 (tM f) y2.toNat q) := hP'
        obtain ⟨z, ez, kz⟩ := kFindEl_ok hD.2.2 hx e3
        obtain ⟨h0, v⟩ := kEl_v kz hG
        have b1 := sWi_ok hM.1 ez c1
        have b2 := sWi_ok hM.1 e1 c2
        have b4 := sNN_ok hM (sEv_sub (sEv_sub e2 e3) (sEv_C 1)) c4
        have hz := tShx b2.1 b2.2 hP' h0 (by omega) b1 v
        obtain ⟨-, em⟩ := tMn_ok hM hD.2.2 hF e3 hm
        have eev := nDl_ok hM e1 e2 hev
        obtain ⟨zi, ei⟩ := kLf_ok hD.2.1 hri
        have h6 := tSt_ok hM ez eev ei e5 c6
        have ek := sEv_add e3 (sEv_C (ρ := ρ) 1)
        have hru := tRu_nn (S := y1) (M := tM f) (p := y2.toNat) y3.toNat
        have fin : ∀ {zk : Int}, sEv ρ ok = some zk → zk = (if tRu y1 (tM f) y2.toNat y3.toNat + (if tM f y3.toNat < z then 1 else 0) = 0 then 1 else 0) → ∃ p_1 ∈ [(([(144, [S', p', sAdd k' (sC 1), ok, ri])], []) : List kA × List (sL × Int × Int))], kGh (kGP (kUP RO)) ρ p_1.1 R.2.2.2.1 ∧ ∀ b ∈ p_1.2, ∃ z, sEv ρ b.1 = some z ∧ b.2.1 ≤ z ∧ z ≤ b.2.2 := fun {zk} eo q => by
          refine ⟨_, List.mem_singleton.mpr rfl, tAtp (f := f) (zs := [y1, y2, y3 + 1, zk, zi]) (by decide) (by decide) (by simp only [sVal, e1, e2, ek, eo, ei]) hF ⟨by omega, ?_, ?_⟩, fun b hb => by cases hb⟩
          · rw [show (y3 + 1).toNat = y3.toNat + 1 by omega, q, hz]
            rfl
          · rw [show (y3 + 1).toNat = y3.toNat + 1 by omega, h6, hz, p3]
            rfl
        rcases Bool.or_eq_true_iff.mp c5 with c7 | c7
        · simp only [Bool.and_eq_true, decide_eq_true_eq] at c7
          obtain ⟨c7, rfl⟩ := c7
          have := sNN_ok hM (sEv_sub (sEv_sub ez em) (sEv_C 1)) c7
          refine fin (sEv_C _) ?_
          rw [if_pos (show tM f y3.toNat < z by omega), if_neg (by omega)]
        · simp only [Bool.and_eq_true, decide_eq_true_eq] at c7
          obtain ⟨c7, rfl⟩ := c7
          have := sNN_ok hM (sEv_sub em ez) c7
          refine fin e4 ?_
          rw [if_neg (show ¬ tM f y3.toNat < z by omega), Int.add_zero]
          exact p2
      · cases h
    · cases h
  · cases h
theorem tTFe_ok (zp : Nat) : kRok RO (tTFe zp) := by
  intro K ws h ρ R hD
  have hM := hD.1
  unfold tTFe at h
  split at h
  · rename_i o w S p r ho hw hS hp hr
    obtain ⟨zo, eo⟩ := kLf_ok hD.2.1 ho
    obtain ⟨zw, ew⟩ := kLf_ok hD.2.1 hw
    split at h
    · rename_i hz
      split at h
      · rename_i hc
        cases h
        have hz := sK_ok hM.1 ew (of_decide_eq_true hz)
        simp only [Bool.and_eq_true, decide_eq_true_eq] at hc
        obtain ⟨c1, c2, c3, c4, c5⟩ := hc
        obtain ⟨zs, f, g, e, hF, hG, hP⟩ := tHg hD.2.2 c2 (Or.inr (Or.inr rfl))
        obtain ⟨y1, y2, rfl, e1, e2⟩ := sVal_2 e
        have hP : 1 ≤ y2 ∧ y2 ≤ 7 ∧ ∀ q : Nat, (q : Int) < y2 → g q = Int32.ofInt (tSh y1 (tM f) y2.toNat q) := hP
        obtain ⟨z, ez, kz⟩ := kFindEl_ok hD.2.2 c1 eo
        obtain ⟨h0, v⟩ := kEl_v kz hG
        have b3 := sNN_ok hM (sEv_sub (sEv_sub e2 eo) (sEv_C 1)) c3
        have b4 := sWi_ok hM.1 ez c4
        have b5 := sWi_ok hM.1 e1 c5
        have hv := tShx b5.1 b5.2 hP h0 (by omega) b4 v
        refine ⟨_, List.mem_singleton.mpr rfl, tAtp (f := f) (zs := [y1, y2, zo, zw, z]) (by decide) (by decide) (by simp only [sVal, e1, e2, eo, ew, ez]) hF ?_, fun b hb => by cases hb⟩
        show z = tAns y1 (tM f) y2 zo zw
        unfold tAns
        rw [if_pos hz]
        exact hv
      · cases h
    · split at h
      · rename_i hc
        cases h
        obtain ⟨⟨k, fs⟩, hq, hany⟩ := List.any_eq_true.mp hc
        clear hc
        have hc := hany
        clear hany
        unfold tTFq at hc
        simp only [Bool.and_eq_true, decide_eq_true_eq] at hc
        obtain ⟨rfl, hc⟩ := hc
        split at hc
        · rename_i s p' k ok ri
          simp only [Bool.and_eq_true, Bool.or_eq_true, decide_eq_true_eq] at hc
          obtain ⟨rfl, rfl, c1, c2⟩ := hc
          obtain ⟨zs, f, e, hF, hP⟩ := tOf hD.2.2 hq (by decide) (by decide)
          obtain ⟨y1, y2, y3, y4, y5, rfl, e1, e2, e3, e4, e5⟩ := tVal_5 e
          obtain ⟨p1, p2, p3⟩ : 0 ≤ y3 ∧ y4 = (if tRu y1 (tM f) y2.toNat y3.toNat = 0 then 1 else 0) ∧ y5 = tRi y1 (sOp 9 y1 y2) (tM f) y2.toNat y3.toNat := hP
          have h4 := kEqf_ok hM e3 e2 c1
          subst h4
          have fin : ∀ {zr : Int}, sEv ρ r = some zr → zr = tAns y1 (tM f) y3 zo zw → ∃ p_1 ∈ [(([(139, [s, p', o, w, r])], []) : List kA × List (sL × Int × Int))], kGh (kGP (kUP RO)) ρ p_1.1 R.2.2.2.1 ∧ ∀ b ∈ p_1.2, ∃ z, sEv ρ b.1 = some z ∧ b.2.1 ≤ z ∧ z ≤ b.2.2 := fun {zr} er q => ⟨_, List.mem_singleton.mpr rfl, tAtp (f := f) (zs := [y1, y3, zo, zw, zr]) (by decide) (by decide) (by simp only [sVal, e1, e2, eo, ew, er]) hF q, fun b hb => by cases hb⟩
          rcases c2 with ⟨c2, rfl⟩ | ⟨c2, c3⟩
          · have hw2 : zw ≠ 0 ∧ zw ≠ 1 := by
              rcases c2 with c2 | ⟨c2, c3⟩
              · have := sK_ok hM.1 ew c2
                omega
              · have q1 := sNN_ok hM (sEv_sub ew (sEv_C 1)) c2
                have q2 := nNe_ok hM ew (sEv_C 1) c3
                omega
            refine fin e5 ?_
            unfold tAns
            rw [if_neg hw2.1, if_neg hw2.2, p3]
          · have hw1 := sK_ok hM.1 ew c2
            rcases c3 with ⟨rfl, c3⟩ | ⟨rfl, c3⟩
            · have h0 := sK_ok hM.1 e4 c3
              refine fin (sEv_C _) ?_
              unfold tAns
              rw [if_neg (by omega), if_pos hw1]
              exact (h0.symm.trans p2)
            · have h1 := sNN_ok hM (sEv_sub e4 (sEv_C 1)) c3
              refine fin (sEv_C _) ?_
              unfold tAns
              rw [if_neg (by omega), if_pos hw1]
              split at p2
              · rename_i hq
                rw [if_pos hq]
              · omega
        · cases hc
      · cases h
  · cases h
/-- what is answered is one function of the others -/
theorem tFun {zs : List Int} {r r' : Int} (h : nUP 139 (zs ++ [r]) H) (h' : nUP 139 (zs ++ [r']) H) : r = r' := by
  obtain ⟨f, f1, p⟩ := (tUPp (by decide)).mp h
  obtain ⟨f', f2, q⟩ := (tUPp (by decide)).mp h'
  rw [nI2_one f2 f1] at q
  match zs, p, q with
  | [a, b, c, d], p, q =>
    have p : r = tAns a (tM f) b c d := p
    have q : r' = tAns a (tM f) b c d := q
    rw [p, q]
  | [], p, _ => exact False.elim p
  | [a], p, _ => exact False.elim p
  | [a, b], p, _ => exact False.elim p
  | [a, b, c], p, _ => exact False.elim p
  | [a, b, c, d, e], p, _ => exact False.elim p
  | a :: b :: c :: d :: e :: g :: t, p, _ => cases t <;> exact False.elim p
theorem tSame_ok {kd : Nat} (hk : kd = 139) {K : kS} {L : List kS} (h : nSame kd K = some L) {ρ : List Int} {R : eR} (hD : kD (kGP (kUP RO)) ρ K R) : ∃ K' ∈ L, ∃ ρ', ρ <+: ρ' ∧ kD (kGP (kUP RO)) ρ' K' R := by
  subst hk
  have same : ∀ K0 : kS, K0 = K → some [K0] = some L → ∃ K' ∈ L, ∃ ρ', ρ <+: ρ' ∧ kD (kGP (kUP RO)) ρ' K' R := fun K0 e g => by
    cases g
    subst e
    exact ⟨_, List.mem_singleton.mpr rfl, ρ, List.prefix_refl _, hD⟩
  unfold nSame at h
  split at h
  · rename_i pc ls r st G c s Γ γ
    split at h
    · rename_i fs hfa
      split at h
      · rename_i q hq
        split at h
        · rename_i x hx
          split at h
          · exact same _ rfl h
          · cases h
            obtain ⟨p1, zs, e1, e2⟩ := nFa_ok hD.2.2 hfa (by decide) (by decide)
            have p1 := of_decide_eq_true p1
            obtain ⟨ys, hys⟩ := List.getLast?_eq_some_iff.mp hq
            have hqm : q ∈ γ.filter (fun q => decide (q.1 = 139) && decide (q.2.dropLast = fs.dropLast)) := by rw [hys]; simp
            obtain ⟨hqn, hc⟩ := List.mem_filter.mp hqm
            clear hqm
            simp only [Bool.and_eq_true, decide_eq_true_eq] at hc
            obtain ⟨k, gs⟩ := q
            simp only at hc hx
            obtain ⟨rfl, hc⟩ := hc
            obtain ⟨ys2, e3, e4⟩ := hD.2.2 _ hqn
            have e4 := nGP (show 53 ≤ 139 by decide) (show 139 < 1000 by decide) e4
            simp only at e3
            rw [nLst p1] at e1
            rw [nLst hx, hc] at e3
            obtain ⟨us, vs, rfl, f1, f2⟩ := sVal_appR e1
            obtain ⟨us', vs', rfl, f3, f4⟩ := sVal_appR e3
            rw [f1] at f3
            cases f3
            obtain ⟨zr, rfl, er⟩ := sVal_1 f2
            obtain ⟨zx, rfl, ex⟩ := sVal_1 f4
            have hz := tFun e2 e4
            subst hz
            exact aTopd hD er ex
        · exact same _ rfl h
      · exact same _ rfl h
    · exact same _ rfl h
  · exact same _ rfl h
end TTRT
/-! What is paid leaves MEANS within bounds: it gets a name. -/
def tMEx (γ : List kA) (Γ : sG) (i v : sL) : Option sL := match kFindEl γ 6 i with
  | some x => if (sWi Γ.1 x 0 9999 && kEqf Γ x v) = true then some x else none
  | none => none
def tMEq (K : kS) : Option (List kS) := match K with
  | ((pc, ls, (0, v) :: (0, i) :: a :: st, G, c, s, Γ), γ) => if sWi Γ.1 v 0 9999 = true then some [K] else (match tMEx γ Γ i v with
    | some x => some [((pc, ls, (0, x) :: (0, i) :: a :: st, G, c, s, Γ), γ)]
    | none => if sWf Γ v 0 9999 = true then some [((pc, ls, (0, sX Γ.1.length) :: (0, i) :: a :: st, G, c, s, (Γ.1 ++ [(0, 9999)], sSub v (sX Γ.1.length) :: sSub (sX Γ.1.length) v :: Γ.2.1, Γ.2.2)), γ)] else some [K])
  | _ => some [K]
theorem tMEq_ok {RO : List (Nat × (Nat → Int32))} {K : kS} {L : List kS} (h : tMEq K = some L) {ρ : List Int} {R : eR} (hD : kD (kGP (kUP RO)) ρ K R) : ∃ K' ∈ L, ∃ ρ', ρ <+: ρ' ∧ kD (kGP (kUP RO)) ρ' K' R := by
  have same : ∀ K0 : kS, K0 = K → some [K0] = some L → ∃ K' ∈ L, ∃ ρ', ρ <+: ρ' ∧ kD (kGP (kUP RO)) ρ' K' R := fun K0 e g => by
    cases g
    subst e
    exact ⟨_, List.mem_singleton.mpr rfl, ρ, List.prefix_refl _, hD⟩
  unfold tMEq at h
  split at h
  · rename_i pc ls v i a st G c s Γ γ
    split at h
    · exact same _ rfl h
    · split at h
      · rename_i x hx
        cases h
        unfold tMEx at hx
        split at hx
        · rename_i y hy
          split at hx
          · rename_i hc
            cases hx
            simp only [Bool.and_eq_true] at hc
            obtain ⟨zv, r1, hr1, ev, hV⟩ := sVs_int hD.2.1.2.2.1
            obtain ⟨zi, r2, hr2, ei, hV2⟩ := sVs_int hV
            obtain ⟨zx, ex, -⟩ := kFindEl_ok hD.2.2 hy ei
            have := kEqf_ok hD.1 ex ev hc.2
            subst this
            exact aTopd hD ev ex
          · cases hx
        · cases hx
      · split at h
        · rename_i hw
          cases h
          have hM : sMo ρ Γ := hD.1
          obtain ⟨zv, r1, hr1, ev, hV⟩ := sVs_int hD.2.1.2.2.1
          obtain ⟨z', hz', h1, h2⟩ := sWf_has hM hw
          cases hz'.symm.trans ev
          obtain ⟨m, h3⟩ := sFresh_ok (b := (0, 9999)) hM h1 h2
          have hpre : ρ <+: ρ ++ [zv] := ⟨_, rfl⟩
          have hv' := sEv_mono hpre ev
          have hl := hM.1.1
          refine ⟨_, List.mem_singleton.mpr rfl, ρ ++ [zv], hpre, ⟨m.1, fun f hf => ?_, m.2.2⟩, ⟨hD.2.1.1, hD.2.1.2.1.mono hpre, ?_, hD.2.1.2.2.2.1.mono hpre, hD.2.1.2.2.2.2⟩, kGh.mono _ hpre hD.2.2⟩
          · rcases List.mem_cons.mp hf with rfl | hf
            · exact ⟨0, by rw [sEv_sub hv' h3, Int.sub_self], Int.le_refl _⟩
            · rcases List.mem_cons.mp hf with rfl | hf
              · exact ⟨0, by rw [sEv_sub h3 hv', Int.sub_self], Int.le_refl _⟩
              · exact m.2.1 f hf
          · show sVs (ρ ++ [zv]) ((0, sX Γ.1.length) :: (0, i) :: a :: st) R.2.2.1
            rw [hr1]
            exact ⟨⟨zv, h3, rfl⟩, hV.mono hpre⟩
        · exact same _ rfl h
  · exact same _ rfl h
end
