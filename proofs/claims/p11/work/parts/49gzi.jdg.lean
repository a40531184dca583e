/-! The first of the months that is mentioned. -/
noncomputable section
def jSd0 (zl s : Nat) (K : kS) : Option (Nat × sL × sL) := match nFf K.1.2.2.2.1 (40 + 2 * s) zl, nFf K.1.2.2.2.1 1 1 with
  | some le, some w => if kHav K.2 (14 + s) [sC (-1)] = true then some (s, le, w) else none
  | _, _ => none
def jSd1 (zw s : Nat) (K : kS) : Option (Nat × sL × sL) := match kToldI K.1.2.2.2.1 83 s, nFf K.1.2.2.2.1 52 zw with
  | some le, some w => some (s, le, w)
  | _, _ => none
/-- the shelf, how long it is, how many words there are -/
def jSd (d zl zw : Nat) (K : kS) : Option (Nat × sL × sL) := match kWs_ d K with
  | some s => if d = 0 then jSd0 zl s K else jSd1 zw s K
  | none => none
def jB (s : Nat) : sL := sC (60 * (s : Int))
/-- where it stands: true: it parts there; false: it ends -/
def jSp (Γ : sG) (γ : List kA) (d s : Nat) (le w i : sL) : Option Bool := if sNN Γ (sSub i le) = true then some false else (match kWv Γ γ d s i 0 with
  | some x => if (sNN Γ (sSub (sSub le i) (sC 1)) && sNN Γ (sSub (sC 59) i)) = true then (if sK Γ.1 x = some (-1) then some true else if ((sNN Γ (sSub (sC (-1)) x) || sNN Γ (sSub x w)) && nNe Γ x (sC (-1))) = true then some false else none) else none
  | none => none)
def jMLi0 (zl zp : Nat) (K : kS) : Option kWs := match jSd 0 zl 0 K, kLf K.1.2.1 3, kLf K.1.2.1 2, nFf K.1.2.2.2.1 24 zp, kFa K.2 145 (fun _ => true) with
  | some (s, le, w), some i, some o, some L, none => if (decide (L = sC 0) && (sNN K.1.2.2.2.2.2.2 i && (kShb K.1.2.2.2.1 25 .int 64 && kEqf K.1.2.2.2.2.2.2 o i))) = true then some [([(145, [jB s, o, i, le, w]), (86, [sAdd (jB s) o, sC 0])], [])] else none
  | _, _, _, _, _ => none
def jMLi1 (zw zr z1 : Nat) (K : kS) : Option kWs := match jSd 1 0 zw K, nFf K.1.2.2.2.1 52 zr, nFf K.1.2.2.2.1 52 z1, kFa K.2 145 (fun _ => true) with
  | some (s, le, w), some i, some L, none => (match kWv K.1.2.2.2.2.2.2 K.2 1 s i 0 with
    | some x => if (decide (L = sC 0) && (sNN K.1.2.2.2.2.2.2 i && (kShb K.1.2.2.2.1 72 .int 61 && (kLz K.1.2.2.2.1 84 360 && (sNN K.1.2.2.2.2.2.2 (sSub (sSub le i) (sC 1)) && (sNN K.1.2.2.2.2.2.2 (sSub (sC 59) i) && (decide (sK K.1.2.2.2.2.2.2.1 x = some (-1)) || (sNN K.1.2.2.2.2.2.2 x && sNN K.1.2.2.2.2.2.2 (sSub (sSub w x) (sC 1)))))))))) = true then some [([(145, [jB s, i, i, le, w]), (87, [sAdd (jB s) i, sC 0]), (152, [jB s, i, le, w])], [])] else none
    | none => none)
  | _, _, _, _ => none
def jMq (b i le w : sL) (fs : List sL) : Bool := match fs with
  | [b', _, i', le', w'] => decide (b' = b) && (decide (i' = i) && (decide (le' = le) && decide (w' = w)))
  | _ => false
def jMLs (d zl zw cell kind : Nat) (K : kS) (i L : Option sL) : Option kWs := match jSd d zl zw K, i, L with
  | some (s, le, w), some i, some L => (match kFa K.2 145 (jMq (jB s) (sSub i (sC 1)) le w), kWv K.1.2.2.2.2.2.2 K.2 d s (sSub i (sC 1)) 0 with
    | some [_, o, _, _, _], some x => if (sNN K.1.2.2.2.2.2.2 x && (sNN K.1.2.2.2.2.2.2 (sSub (sSub w x) (sC 1)) && (sNN K.1.2.2.2.2.2.2 (sSub (sSub le (sSub i (sC 1))) (sC 1)) && (sNN K.1.2.2.2.2.2.2 (sSub (sC 59) (sSub i (sC 1))) && (decide (kFindEl K.2 cell (sSub L (sC 1)) = some x) && (kEqf K.1.2.2.2.2.2.2 (sSub L (sC 1)) (sSub (sSub i (sC 1)) o) && kHav K.2 kind [sAdd (jB s) o, sSub L (sC 1)])))))) = true then some [([(145, [jB s, o, i, le, w]), (kind, [sAdd (jB s) o, L])], [])] else none
    | _, _ => none)
  | _, _, _ => none
def jMLs0 (zl zp : Nat) (K : kS) : Option kWs := jMLs 0 zl 0 25 86 K (kLf K.1.2.1 3) (nFf K.1.2.2.2.1 24 zp)
def jMLs1 (zw zr z1 : Nat) (K : kS) : Option kWs := jMLs 1 0 zw 72 87 K (nFf K.1.2.2.2.1 52 zr) (nFf K.1.2.2.2.1 52 z1)
def jMRe (zl zp : Nat) (K : kS) : Option kWs := match jSd 0 zl 0 K, kLf K.1.2.1 3, nFf K.1.2.2.2.1 24 zp, kTop K with
  | some (s, le, w), some i, some L, some r => (match kFa K.2 145 (jMq (jB s) i le w), jSp K.1.2.2.2.2.2.2 K.2 0 s le w i with
    | some [_, o, _, _, _], some z => if (kEqf K.1.2.2.2.2.2.2 L (sSub i o) && ((z && decide (r = sAdd i (sC 1))) || (!z && decide (r = sC (-1))))) = true then some [([(146, [jB s, o, le, w, L, r])], [])] else none
    | _, _ => none)
  | _, _, _, _ => none
def jMSe (zw zr : Nat) (K : kS) : Option kWs := match jSd 1 0 zw K, nFf K.1.2.2.2.1 52 zr with
  | some (s, le, w), some i => if (decide (jSp K.1.2.2.2.2.2.2 K.2 1 s le w i = some false) && (sNN K.1.2.2.2.2.2.2 i && kLz K.1.2.2.2.1 84 360)) = true then some [([(150, [jB s, i, le, w])], [])] else none
  | _, _ => none
def jMRq (Γ : sG) (γ : List kA) (b le w L : sL) (fs : List sL) : Bool := match fs with
  | [b', o, e, le', w'] => decide (b' = b) && (decide (le' = le) && (decide (w' = w) && (kEqf Γ L (sSub e o) && kHav γ 152 [b, o, le, w])))
  | _ => false
def jMRm (zw zr z1 : Nat) (K : kS) : Option kWs := match jSd 1 0 zw K, nFf K.1.2.2.2.1 52 zr, nFf K.1.2.2.2.1 52 z1 with
  | some (s, le, w), some i, some L => (match kFa K.2 145 (jMRq K.1.2.2.2.2.2.2 K.2 (jB s) le w L) with
    | some [_, o, e, _, _] => (match jSp K.1.2.2.2.2.2.2 K.2 1 s le w e with
      | some z => if ((z && decide (i = sAdd e (sC 1))) || (!z && decide (i = e))) = true then some [([(151, [jB s, o, le, w, L, i])], [])] else none
      | none => none)
    | _ => none)
  | _, _, _ => none
def jMJi (zl : Nat) (K : kS) : Option kWs := match jSd 0 zl 0 K, kFa K.2 62 (fun _ => true), kLf K.1.2.1 2, kLf K.1.2.1 3, kLf K.1.2.1 4, kToldI K.1.2.2.2.1 11 0, kFa K.2 147 (fun _ => true) with
  | some (s, le, w), some [_, hl], some one, some a, some n, some bd, none => if (decide (n = sC 0) && decide (a = sC 0)) = true then some [([(147, [hl, jB s, le, w, one, bd, sC 0, sC 0])], [])] else none
  | _, _, _, _, _, _, _ => none
def jNq (hl b one l : sL) (fs : List sL) : Bool := match fs with
  | [h, b', o, l', _] => decide (h = hl) && (decide (b' = b) && (decide (o = one) && decide (l' = l)))
  | _ => false
def jNr (γ : List kA) (hl b one l : sL) : Option sL := match kFa γ 89 (jNq hl b one l) with
  | some [_, _, _, _, x] => some x
  | _ => none
def jRq (b a le w nx : sL) (fs : List sL) : Bool := match fs with
  | [b', a', le', w', _, nx'] => decide (b' = b) && (decide (a' = a) && (decide (le' = le) && (decide (w' = w) && decide (nx' = nx))))
  | _ => false
def jMJs (K : kS) : Option kWs := match kFa K.2 147 (fun _ => true), kLf K.1.2.1 3, kLf K.1.2.1 4 with
  | some [hl, b, le, w, one, bd, n0, a0], some a, some n => (match kFa K.2 146 (jRq b a0 le w a) with
    | some [_, _, _, _, l, _] => (match jNr K.2 hl (sAdd b a0) one l with
      | some x => if (decide (n = sAdd n0 (sC 1)) && (sNN K.1.2.2.2.2.2.2 a0 && sNN K.1.2.2.2.2.2.2 (sSub (sSub bd x) (sC 1)))) = true then some [([(147, [hl, b, le, w, one, bd, n, a])], [])] else none
      | none => none)
    | _ => none)
  | _, _, _ => none
def jMJq (Γ : sG) (γ : List kA) (hl b le w one bd a0 : sL) (q : kA) : Bool := decide (q.1 = 146) && (match q.2 with
  | [b', a', le', w', l, _] => decide (b' = b) && (decide (a' = a0) && (decide (le' = le) && (decide (w' = w) && (match jNr γ hl (sAdd b a0) one l with
    | some x => sNN Γ (sSub x bd)
    | none => false))))
  | _ => false)
def jMJe (K : kS) : Option kWs := match kFa K.2 147 (fun _ => true), kTop K with
  | some [hl, b, le, w, one, bd, n0, a0], some r => if r = sC (-2) then (if (kEqf K.1.2.2.2.2.2.2 n0 (sC 12) || (sNN K.1.2.2.2.2.2.2 (sSub (sC (-1)) a0) && sNN K.1.2.2.2.2.2.2 (sSub (sC 12) n0))) = true then some [([(148, [hl, b, le, w, one, bd, r])], [])] else none)
    else if (decide (r = n0) && (sNN K.1.2.2.2.2.2.2 a0 && (sNN K.1.2.2.2.2.2.2 (sSub (sC 11) n0) && K.2.any (jMJq K.1.2.2.2.2.2.2 K.2 hl b le w one bd a0)))) = true then some [([(148, [hl, b, le, w, one, bd, r])], [])] else none
  | _, _ => none
def jMKi (zh zw zr : Nat) (K : kS) : Option kWs := match jSd 1 0 zw K, nFf K.1.2.2.2.1 52 zh, kLf K.1.2.1 2, kLf K.1.2.1 3, kLf K.1.2.1 4, kToldI K.1.2.2.2.1 59 2, nFf K.1.2.2.2.1 52 zr, kFa K.2 149 (fun _ => true) with
  | some (s, le, w), some hl, some one, some f, some n, some bd, some ra, none => if (decide (n = sC 0) && (decide (f = sC (-2)) && (decide (ra = sC 0) && kLz K.1.2.2.2.1 84 360))) = true then some [([(149, [hl, jB s, le, w, one, bd, sC 0, sC 0, sC (-2)])], [])] else none
  | _, _, _, _, _, _, _, _ => none
def jKq (n : sL) (fs : List sL) : Bool := match fs with
  | [_, _, _, _, _, _, n', _, _] => decide (n' = n)
  | _ => false
def jMKc (Γ : sG) (n f f0 bd x : sL) : Bool := if sNN Γ f0 = true then decide (f = f0) else if sNN Γ (sSub x bd) = true then decide (f = n) && sNN Γ (sSub (sC (-1)) f0) else sNN Γ (sSub (sSub bd x) (sC 1)) && decide (f = f0)
def jMKs (zr z1 : Nat) (K : kS) : Option kWs := match kLf K.1.2.1 4, kLf K.1.2.1 3, kLf K.1.2.1 6, nFf K.1.2.2.2.1 52 zr, nFf K.1.2.2.2.1 52 z1 with
  | some n, some f, some k, some ra, some L => (match kFa K.2 149 (jKq n) with
    | some [hl, b, le, w, one, bd, _, p0, f0] => (match jNr K.2 hl (sAdd b p0) one L with
      | some x => if (decide (k = sC 0) && (kHav K.2 151 [b, p0, le, w, L, ra] && (sNN K.1.2.2.2.2.2.2 n && (sNN K.1.2.2.2.2.2.2 (sSub (sC 11) n) && jMKc K.1.2.2.2.2.2.2 n f f0 bd x)))) = true then some [([(149, [hl, b, le, w, one, bd, sAdd n (sC 1), ra, f])], [])] else none
      | none => none)
    | _ => none)
  | _, _, _, _, _ => none
def jKr (r : sL) (fs : List sL) : Bool := match fs with
  | [_, _, _, _, _, _, _, _, r'] => decide (r' = r)
  | _ => false
def jMKe (K : kS) : Option kWs := match kTop K with
  | some r => (match kFa K.2 149 (jKr r) with
    | some [hl, b, le, w, one, bd, n0, p0, _] => if (kEqf K.1.2.2.2.2.2.2 n0 (sC 12) || (sNN K.1.2.2.2.2.2.2 (sSub (sC 11) n0) && (sNN K.1.2.2.2.2.2.2 (sSub bd (sC 1)) && kHav K.2 150 [b, p0, le, w]))) = true then some [([(148, [hl, b, le, w, one, bd, r])], [])] else none
    | _ => none)
  | none => none
section JJDG
variable {RO : List (Nat × (Nat → Int32))} {ρ : List Int} {Γ : sG} {γ : List kA} {H : List eE}
theorem jUPr {k : Nat} (hk : k = 145 ∨ k = 146 ∨ (150 ≤ k ∧ k < 153)) {zs : List Int} : nUP k zs H ↔ ∃ g, kLg 84 360 g H ∧ jPr g k zs := by
  refine (tUP_iff (by omega)).trans ?_
  unfold tUP
  rw [if_neg (by omega), if_neg (by omega), if_neg (by omega), if_pos (by omega)]
  unfold jUP
  rw [if_neg (by omega)]
theorem jUPn {k : Nat} (hk : 147 ≤ k ∧ k < 150) {zs : List Int} : nUP k zs H ↔ ∃ g, kLg 84 360 g H ∧ jPn g H k zs := by
  refine (tUP_iff (by omega)).trans ?_
  unfold tUP
  rw [if_neg (by omega), if_neg (by omega), if_neg (by omega), if_pos (by omega)]
  unfold jUP
  rw [if_pos hk]
theorem jAr {k : Nat} {fs : List sL} {zs : List Int} {g : Nat → Int64} (hk : k = 145 ∨ k = 146 ∨ (150 ≤ k ∧ k < 153)) (e : sVal ρ fs = some zs) (h1 : kLg 84 360 g H) (h2 : jPr g k zs) : kGh (kGP (kUP RO)) ρ [(k, fs)] H := kAt1 (by omega) e ((kUPn (by omega)).mpr ((jUPr hk).mpr ⟨g, h1, h2⟩))
theorem jAn {k : Nat} {fs : List sL} {zs : List Int} {g : Nat → Int64} (hk : 147 ≤ k ∧ k < 150) (e : sVal ρ fs = some zs) (h1 : kLg 84 360 g H) (h2 : jPn g H k zs) : kGh (kGP (kUP RO)) ρ [(k, fs)] H := kAt1 (by omega) e ((kUPn (by omega)).mpr ((jUPn hk).mpr ⟨g, h1, h2⟩))
theorem jFr (hg : kGh (kGP (kUP RO)) ρ γ H) {k : Nat} {p : List sL → Bool} {fs : List sL} (h : kFa γ k p = some fs) (hk : k = 145 ∨ k = 146 ∨ (150 ≤ k ∧ k < 153)) : p fs = true ∧ ∃ zs g, sVal ρ fs = some zs ∧ kLg 84 360 g H ∧ jPr g k zs := by
  obtain ⟨h1, zs, e, h2⟩ := nFa_ok hg h (by omega) (by omega)
  obtain ⟨g, h3, h4⟩ := (jUPr hk).mp h2
  exact ⟨h1, zs, g, e, h3, h4⟩
theorem jFn (hg : kGh (kGP (kUP RO)) ρ γ H) {k : Nat} {p : List sL → Bool} {fs : List sL} (h : kFa γ k p = some fs) (hk : 147 ≤ k ∧ k < 150) : p fs = true ∧ ∃ zs g, sVal ρ fs = some zs ∧ kLg 84 360 g H ∧ jPn g H k zs := by
  obtain ⟨h1, zs, e, h2⟩ := nFa_ok hg h (by omega) (by omega)
  obtain ⟨g, h3, h4⟩ := (jUPn hk).mp h2
  exact ⟨h1, zs, g, e, h3, h4⟩
theorem jHr (hg : kGh (kGP (kUP RO)) ρ γ H) {g : Nat → Int64} (hG : kLg 84 360 g H) {k : Nat} {fs : List sL} (h : kHav γ k fs = true) (hk : k = 145 ∨ k = 146 ∨ (150 ≤ k ∧ k < 153)) : ∃ zs, sVal ρ fs = some zs ∧ jPr g k zs := by
  obtain ⟨zs, e, h2⟩ := kHav_ok hg h (by omega)
  obtain ⟨g', h3, h4⟩ := (jUPr hk).mp ((kUPn (by omega)).mp h2)
  cases kLg_one hG h3
  exact ⟨zs, e, h4⟩
theorem jVal_7 {a b c d e f g : sL} {zs : List Int} (h : sVal ρ [a, b, c, d, e, f, g] = some zs) : ∃ p q r s t u v, zs = [p, q, r, s, t, u, v] ∧ sEv ρ a = some p ∧ sEv ρ b = some q ∧ sEv ρ c = some r ∧ sEv ρ d = some s ∧ sEv ρ e = some t ∧ sEv ρ f = some u ∧ sEv ρ g = some v := sVal_7n h
theorem jVal_8 {a b c d e f g h : sL} {zs : List Int} (q : sVal ρ [a, b, c, d, e, f, g, h] = some zs) : ∃ y1 y2 y3 y4 y5 y6 y7 y8, zs = [y1, y2, y3, y4, y5, y6, y7, y8] ∧ sEv ρ a = some y1 ∧ sEv ρ b = some y2 ∧ sEv ρ c = some y3 ∧ sEv ρ d = some y4 ∧ sEv ρ e = some y5 ∧ sEv ρ f = some y6 ∧ sEv ρ g = some y7 ∧ sEv ρ h = some y8 := by
  obtain ⟨y1, _, rfl, h1, q⟩ := sVal_c q
  obtain ⟨y2, y3, y4, y5, y6, y7, y8, rfl, h2, h3, h4, h5, h6, h7, h8⟩ := sVal_7n q
  exact ⟨y1, y2, y3, y4, y5, y6, y7, y8, rfl, h1, h2, h3, h4, h5, h6, h7, h8⟩
theorem jVal_9 {a b c d e f g h i : sL} {zs : List Int} (q : sVal ρ [a, b, c, d, e, f, g, h, i] = some zs) : ∃ y1 y2 y3 y4 y5 y6 y7 y8 y9, zs = [y1, y2, y3, y4, y5, y6, y7, y8, y9] ∧ sEv ρ a = some y1 ∧ sEv ρ b = some y2 ∧ sEv ρ c = some y3 ∧ sEv ρ d = some y4 ∧ sEv ρ e = some y5 ∧ sEv ρ f = some y6 ∧ sEv ρ g = some y7 ∧ sEv ρ h = some y8 ∧ sEv ρ i = some y9 := by
  obtain ⟨y1, _, rfl, h1, q⟩ := sVal_c q
  obtain ⟨y2, y3, y4, y5, y6, y7, y8, y9, rfl, h2, h3, h4, h5, h6, h7, h8, h9⟩ := jVal_8 q
  exact ⟨y1, y2, y3, y4, y5, y6, y7, y8, y9, rfl, h1, h2, h3, h4, h5, h6, h7, h8, h9⟩
theorem jB_ev (s : Nat) : sEv ρ (jB s) = some (60 * (s : Int)) := sEv_C _
theorem jB_n (s : Nat) : (60 * (s : Int)).toNat = 60 * s := by omega
theorem jSd_ok {d zl zw : Nat} {K : kS} {R : eR} (hD : kD (kGP (kUP RO)) ρ K R) {s : Nat} {le w : sL} (h : jSd d zl zw K = some (s, le, w)) : s < 6 ∧ (∃ z, sEv ρ le = some z) ∧ (∃ z, sEv ρ w = some z) ∧ (d = 0 → kHav K.2 (14 + s) [sC (-1)] = true) := by
  have hH := hD.2.1.2.2.2.1
  unfold jSd at h
  split at h
  · rename_i s' hs
    have h6 := kWs_lt hs
    split at h
    · rename_i hd
      unfold jSd0 at h
      split at h
      · rename_i le' w' hl hw
        split at h
        · rename_i hc
          cases h
          exact ⟨h6, nFf_ok hH hl, nFf_ok hH hw, fun _ => hc⟩
        · cases h
      · cases h
    · rename_i hd
      unfold jSd1 at h
      split at h
      · rename_i le' w' hl hw
        cases h
        exact ⟨h6, nToldE hH hl, nFf_ok hH hw, fun q => absurd q hd⟩
      · cases h
  · cases h
/-- a word on the shelf -/
theorem jEl (hM : sMo ρ Γ) (hg : kGh (kGP (kUP RO)) ρ γ H) {d s : Nat} (hs : s < 6) {g : Nat → Int64} (hL : kLg 84 360 g H) (hd : d = 0 → kHav γ (14 + s) [sC (-1)] = true) {i x : sL} {zi : Int} (ei : sEv ρ i = some zi) (h0 : 0 ≤ zi) (h1 : zi ≤ 59) (h : kWv Γ γ d s i 0 = some x) : sEv ρ x = some (jW g (60 * (s : Int)) zi.toNat) := by
  have e := nElw hM hg hs hL hd ei h0 (by omega) h
  rw [e]
  unfold jW
  rw [jB_n]
theorem jSp_ok (hM : sMo ρ Γ) (hg : kGh (kGP (kUP RO)) ρ γ H) {d s : Nat} (hs : s < 6) {g : Nat → Int64} (hL : kLg 84 360 g H) (hd : d = 0 → kHav γ (14 + s) [sC (-1)] = true) {le w i : sL} {zl zw zi : Int} (el : sEv ρ le = some zl) (ew : sEv ρ w = some zw) (ei : sEv ρ i = some zi) (h0 : 0 ≤ zi) {z : Bool} (h : jSp Γ γ d s le w i = some z) : jE (jW g (60 * (s : Int))) zi zl zw (if z = true then zi + 1 else -1) := by
  unfold jSp at h
  split at h
  · rename_i hc
    cases h
    have := sNN_ok hM (sEv_sub ei el) hc
    exact Or.inl ⟨by omega, rfl⟩
  · split at h
    · rename_i x hx
      split at h
      · rename_i hc
        simp only [Bool.and_eq_true] at hc
        have h1 := sNN_ok hM (sEv_sub (sEv_sub el ei) (sEv_C 1)) hc.1
        have h2 := sNN_ok hM (sEv_sub (sEv_C 59) ei) hc.2
        have ex := jEl hM hg hs hL hd ei h0 (by omega) hx
        split at h
        · rename_i hk
          cases h
          have := sK_ok hM.1 ex hk
          exact Or.inr (Or.inl ⟨by omega, this, rfl⟩)
        · split at h
          · rename_i hn
            cases h
            simp only [Bool.or_eq_true, Bool.and_eq_true] at hn
            have h3 := nNe_ok hM ex (sEv_C (-1)) hn.2
            refine Or.inr (Or.inr ⟨by omega, h3, ?_, rfl⟩)
            rcases hn.1 with h4 | h4
            · have := sNN_ok hM (sEv_sub (sEv_C (-1)) ex) h4
              omega
            · have := sNN_ok hM (sEv_sub ex ew) h4
              omega
          · cases h
      · cases h
    · cases h
theorem jMLi0_ok (zl zp : Nat) : kRok RO (jMLi0 zl zp) := by
  intro K ws h ρ R hD
  have hM := hD.1
  unfold jMLi0 at h
  split at h
  · rename_i s le w i o L hs hi ho hL hn
    split at h
    · rename_i hc
      cases h
      simp only [Bool.and_eq_true, decide_eq_true_eq] at hc
      obtain ⟨-, c1, c2, c3⟩ := hc
      obtain ⟨h6, ⟨zl', el⟩, ⟨zw, ew⟩, hd⟩ := jSd_ok hD hs
      obtain ⟨f, g, q1, q2, q3⟩ := kHavEL h6 hD.2.2 (hd rfl)
      obtain ⟨S, hS⟩ := kSh1 hD.2.1.2.2.2.1 (by decide) rfl c2
      obtain ⟨zi, ei⟩ := kLf_ok hD.2.1 hi
      obtain ⟨zo, eo⟩ := kLf_ok hD.2.1 ho
      have := kEqf_ok hM eo ei c3
      subst this
      have h0 := sNN_ok hM ei c1
      have eb := sEv_add (jB_ev (ρ := ρ) s) eo
      refine ⟨_, List.mem_singleton.mpr rfl, kGh_cons (jAr (g := g) (zs := [60 * (s : Int), zo, zo, zl', zw]) (Or.inl rfl) (by simp only [sVal, jB_ev, eo, ei, el, ew]) q2 ⟨by omega, h0, Int.le_refl _, fun k a b => by omega⟩) (kAt1 (zs := [60 * (s : Int) + zo, 0]) (by decide) (by simp only [sVal, eb, sEv_C]) ((kUPn (by decide)).mpr ⟨_, _, rfl, S, g, hS, q2, by omega, fun k hk => by omega⟩)), fun b hb => by cases hb⟩
    · cases h
  · cases h
theorem jMLi1_ok (zw zr z1 : Nat) : kRok RO (jMLi1 zw zr z1) := by
  intro K ws h ρ R hD
  have hM := hD.1
  unfold jMLi1 at h
  split at h
  · rename_i s le w i L hs hi hL hn
    split at h
    · rename_i x hx
      split at h
      · rename_i hc
        cases h
        simp only [Bool.and_eq_true, Bool.or_eq_true, decide_eq_true_eq] at hc
        obtain ⟨-, c1, c2, c3, c4, c5, c6⟩ := hc
        obtain ⟨h6, ⟨zl', el⟩, ⟨zw, ew⟩, hd⟩ := jSd_ok hD hs
        obtain ⟨g, q2⟩ := kLz_ok hD.2.1.2.2.2.1 c3
        obtain ⟨S, hS⟩ := kSh1 hD.2.1.2.2.2.1 (by decide) rfl c2
        obtain ⟨zi, ei⟩ := nFf_ok hD.2.1.2.2.2.1 hi
        have h0 := sNN_ok hM ei c1
        have h4 := sNN_ok hM (sEv_sub (sEv_sub el ei) (sEv_C 1)) c4
        have h5 := sNN_ok hM (sEv_sub (sEv_C 59) ei) c5
        have ex := jEl hM hD.2.2 h6 q2 hd ei h0 (by omega) hx
        have eb := sEv_add (jB_ev (ρ := ρ) s) ei
        have hgo : jGo (jW g (60 * (s : Int))) zi zl' zw := by
          refine ⟨h0, by omega, ?_⟩
          rcases c6 with c6 | ⟨c6, c7⟩
          · exact Or.inl (sK_ok hM.1 ex c6)
          · have a1 := sNN_ok hM ex c6
            have a2 := sNN_ok hM (sEv_sub (sEv_sub ew ex) (sEv_C 1)) c7
            exact Or.inr ⟨a1, by omega⟩
        refine ⟨_, List.mem_singleton.mpr rfl, kGh_cons (jAr (g := g) (zs := [60 * (s : Int), zi, zi, zl', zw]) (Or.inl rfl) (by simp only [sVal, jB_ev, ei, el, ew]) q2 ⟨by omega, h0, Int.le_refl _, fun k a b => by omega⟩) (kGh_cons (kAt1 (zs := [60 * (s : Int) + zi, 0]) (by decide) (by simp only [sVal, eb, sEv_C]) ((kUPn (by decide)).mpr ⟨_, _, rfl, S, g, hS, q2, by omega, fun k hk => by omega⟩)) (jAr (g := g) (zs := [60 * (s : Int), zi, zl', zw]) (Or.inr (Or.inr ⟨by decide, by decide⟩)) (by simp only [sVal, jB_ev, ei, el, ew]) q2 ⟨by omega, hgo⟩)), fun b hb => by cases hb⟩
      · cases h
    · cases h
  · cases h
theorem jMLs_ok {d zl zw cell kind n : Nat} (hk : ∀ (H : List eE) zs, nUP kind zs H ↔ ∃ a b, zs = [a, b] ∧ nSP cell n a b H) (hk1 : 53 ≤ kind) (hk2 : kind < 1000) {K : kS} {i L : Option sL} {ws : kWs} (hi : ∀ x, i = some x → ∃ z, sEv ρ x = some z) (hL : ∀ x, L = some x → ∃ z, sEv ρ x = some z) (h : jMLs d zl zw cell kind K i L = some ws) {R : eR} (hD : kD (kGP (kUP RO)) ρ K R) : ∃ p ∈ ws, kGh (kGP (kUP RO)) ρ p.1 R.2.2.2.1 ∧ ∀ b ∈ p.2, ∃ z, sEv ρ b.1 = some z ∧ b.2.1 ≤ z ∧ z ≤ b.2.2 := by
  have hM := hD.1
  unfold jMLs at h
  split at h
  · rename_i s le w i' L' hs
    obtain ⟨h6, ⟨zl', el⟩, ⟨zw', ew⟩, hd⟩ := jSd_ok hD hs
    split at h
    · rename_i b1 o i1 le1 w1 x hfa hx
      split at h
      · rename_i hc
        cases h
        simp only [Bool.and_eq_true, decide_eq_true_eq] at hc
        obtain ⟨c1, c2, c3, c4, c5, c6, c7⟩ := hc
        obtain ⟨zi, ei⟩ := hi _ rfl
        obtain ⟨zL, eL⟩ := hL _ rfl
        have ei1 := sEv_sub ei (sEv_C (ρ := ρ) 1)
        have eL1 := sEv_sub eL (sEv_C (ρ := ρ) 1)
        obtain ⟨q, zs, g, e, hG, hP⟩ := jFr hD.2.2 hfa (Or.inl rfl)
        unfold jMq at q
        simp only [Bool.and_eq_true, decide_eq_true_eq] at q
        obtain ⟨rfl, rfl, rfl, rfl⟩ := q
        obtain ⟨y1, y2, y3, y4, y5, rfl, e1, e2, e3, e4, e5⟩ := tVal_5 e
        cases e1.symm.trans (jB_ev s)
        cases e3.symm.trans ei1
        cases e4.symm.trans el
        cases e5.symm.trans ew
        obtain ⟨hb, a1, a2, a3⟩ : 0 ≤ 60 * (s : Int) ∧ jL (jW g (60 * (s : Int))) y2 (zi - 1) zl' zw' := hP
        have d4 := sNN_ok hM (sEv_sub (sEv_C 59) ei1) c4
        have ex := jEl hM hD.2.2 h6 hG hd ei1 (by omega) (by omega) hx
        have d1 := sNN_ok hM ex c1
        have d2 := sNN_ok hM (sEv_sub (sEv_sub ew ex) (sEv_C 1)) c2
        have d3 := sNN_ok hM (sEv_sub (sEv_sub el ei1) (sEv_C 1)) c3
        have d6 := kEqf_ok hM eL1 (sEv_sub ei1 e2) c6
        obtain ⟨zx, ex2, kx⟩ := kFindEl_ok hD.2.2 c5 eL1
        cases ex2.symm.trans ex
        obtain ⟨zs2, k1, k2⟩ := kHav_ok hD.2.2 c7 (by omega)
        obtain ⟨u1, u2, rfl, f1, f2⟩ := sVal_2 k1
        cases f2.symm.trans eL1
        have eb := sEv_add (jB_ev (ρ := ρ) s) e2
        cases f1.symm.trans eb
        obtain ⟨a, b, he, S, g', hS, hL', hb1, hq⟩ := (hk _ _).mp ((kUPn hk1).mp k2)
        cases he
        cases kLg_one hG hL'
        refine ⟨_, List.mem_singleton.mpr rfl, kGh_cons (jAr (g := g) (zs := [60 * (s : Int), y2, zi, zl', zw']) (Or.inl rfl) (by simp only [sVal, jB_ev, e2, ei, el, ew]) hG ⟨hb, a1, by omega, fun k b1 b2 => ?_⟩) (kAt1 (zs := [60 * (s : Int) + y2, zL]) (by omega) (by simp only [sVal, eb, eL]) ((kUPn hk1).mpr ((hk _ _).mpr ⟨_, _, rfl, S, g, hS, hG, hb1, fun k hkl => ?_⟩))), fun b hb => by cases hb⟩
        · by_cases hke : (k : Int) = zi - 1
          · have e6 : k = (zi - 1).toNat := by omega
            subst e6
            exact ⟨by omega, d1, by omega⟩
          · exact a3 k b1 (by omega)
        · by_cases hke : (k : Int) = zL - 1
          · have e6 : k = (zL - 1).toNat := by omega
            rw [e6, (kEl_v kx hS).2]
            unfold jW nWd
            rw [Int32.ofInt_toInt]
            congr 2
            omega
          · exact hq k (by omega)
      · cases h
    · cases h
  · cases h
theorem jMLs0_ok (zl zp : Nat) : kRok RO (jMLs0 zl zp) := fun _ _ h _ _ hD => jMLs_ok nSP86 (by decide) (by decide) (fun _ hx => kLf_ok hD.2.1 hx) (fun _ hx => nFf_ok hD.2.1.2.2.2.1 hx) h hD
theorem jMLs1_ok (zw zr z1 : Nat) : kRok RO (jMLs1 zw zr z1) := fun _ _ h _ _ hD => jMLs_ok nSP87 (by decide) (by decide) (fun _ hx => nFf_ok hD.2.1.2.2.2.1 hx) (fun _ hx => nFf_ok hD.2.1.2.2.2.1 hx) h hD
theorem jMRe_ok (zl zp : Nat) : kRok RO (jMRe zl zp) := by
  intro K ws h ρ R hD
  have hM := hD.1
  unfold jMRe at h
  split at h
  · rename_i s le w i L r hs hi hL hr
    obtain ⟨h6, ⟨zl', el⟩, ⟨zw', ew⟩, hd⟩ := jSd_ok hD hs
    split at h
    · rename_i b1 o i1 le1 w1 z hfa hz
      split at h
      · rename_i hc
        cases h
        rw [Bool.and_eq_true] at hc
        obtain ⟨q, zs, g, e, hG, hP⟩ := jFr hD.2.2 hfa (Or.inl rfl)
        unfold jMq at q
        simp only [Bool.and_eq_true, decide_eq_true_eq] at q
        obtain ⟨rfl, rfl, rfl, rfl⟩ := q
        obtain ⟨y1, y2, y3, y4, y5, rfl, e1, e2, e3, e4, e5⟩ := tVal_5 e
        cases e1.symm.trans (jB_ev s)
        cases e4.symm.trans el
        cases e5.symm.trans ew
        obtain ⟨hb, a1, a2, a3⟩ : 0 ≤ 60 * (s : Int) ∧ jL (jW g (60 * (s : Int))) y2 y3 zl' zw' := hP
        obtain ⟨zL, eL⟩ := nFf_ok hD.2.1.2.2.2.1 hL
        have hLe := kEqf_ok hM eL (sEv_sub e3 e2) hc.1
        have hE := jSp_ok hM hD.2.2 h6 hG hd el ew e3 (by omega) hz
        have er : sEv ρ r = some (if z = true then y3 + 1 else -1) := by
          cases z with
          | true =>
            have h2 : r = sAdd i1 (sC 1) := by simpa using hc.2
            rw [h2]
            exact sEv_add e3 (sEv_C 1)
          | false =>
            have h2 : r = sC (-1) := by simpa using hc.2
            rw [h2]
            exact sEv_C _
        have hq : y2 + zL = y3 := by omega
        refine ⟨_, List.mem_singleton.mpr rfl, jAr (g := g) (zs := [60 * (s : Int), y2, zl', zw', zL, if z = true then y3 + 1 else -1]) (Or.inr (Or.inl rfl)) (by simp only [sVal, jB_ev, e2, el, ew, eL, er]) hG ⟨hb, by omega, ?_, ?_⟩, fun b hb => by cases hb⟩
        · rw [hq]
          exact ⟨a1, a2, a3⟩
        · rw [hq]
          exact hE
      · cases h
    · cases h
  · cases h
theorem jSt_E {W : Nat → Int} {p le w : Int} (h0 : 0 ≤ p) (h : jE W p le w (-1)) : jSt W p le w := by
  refine ⟨h0, ?_⟩
  rintro ⟨q1, q2⟩
  rcases h with ⟨h, -⟩ | ⟨-, -, h⟩ | ⟨-, h, h', -⟩
  · omega
  · omega
  · exact q2.elim h h'
theorem jMSe_ok (zw zr : Nat) : kRok RO (jMSe zw zr) := by
  intro K ws h ρ R hD
  have hM := hD.1
  unfold jMSe at h
  split at h
  · rename_i s le w i hs hi
    split at h
    · rename_i hc
      cases h
      simp only [Bool.and_eq_true, decide_eq_true_eq] at hc
      obtain ⟨h6, ⟨zl', el⟩, ⟨zw', ew⟩, hd⟩ := jSd_ok hD hs
      obtain ⟨g, hG⟩ := kLz_ok hD.2.1.2.2.2.1 hc.2.2
      obtain ⟨zi, ei⟩ := nFf_ok hD.2.1.2.2.2.1 hi
      have h0 := sNN_ok hM ei hc.2.1
      have hE := jSp_ok hM hD.2.2 h6 hG hd el ew ei h0 hc.1
      exact ⟨_, List.mem_singleton.mpr rfl, jAr (g := g) (zs := [60 * (s : Int), zi, zl', zw']) (Or.inr (Or.inr ⟨by decide, by decide⟩)) (by simp only [sVal, jB_ev, ei, el, ew]) hG ⟨by omega, jSt_E h0 hE⟩, fun b hb => by cases hb⟩
    · cases h
  · cases h
theorem jMRm_ok (zw zr z1 : Nat) : kRok RO (jMRm zw zr z1) := by
  intro K ws h ρ R hD
  have hM := hD.1
  unfold jMRm at h
  split at h
  · rename_i s le w i L hs hi hL
    obtain ⟨h6, ⟨zl', el⟩, ⟨zw', ew⟩, hd⟩ := jSd_ok hD hs
    split at h
    · rename_i b1 o e0 le1 w1 hfa
      split at h
      · rename_i z hz
        split at h
        · rename_i hc
          cases h
          obtain ⟨q, zs, g, e, hG, hP⟩ := jFr hD.2.2 hfa (Or.inl rfl)
          unfold jMRq at q
          simp only [Bool.and_eq_true, decide_eq_true_eq] at q
          obtain ⟨rfl, rfl, rfl, q1, q2⟩ := q
          obtain ⟨y1, y2, y3, y4, y5, rfl, e1, e2, e3, e4, e5⟩ := tVal_5 e
          cases e1.symm.trans (jB_ev s)
          cases e4.symm.trans el
          cases e5.symm.trans ew
          obtain ⟨hb, a1, a2, a3⟩ : 0 ≤ 60 * (s : Int) ∧ jL (jW g (60 * (s : Int))) y2 y3 zl' zw' := hP
          obtain ⟨zL, eL⟩ := nFf_ok hD.2.1.2.2.2.1 hL
          have hLe := kEqf_ok hM eL (sEv_sub e3 e2) q1
          obtain ⟨zs', e', hP'⟩ := jHr hD.2.2 hG q2 (Or.inr (Or.inr ⟨by decide, by decide⟩))
          obtain ⟨u1, u2, u3, u4, rfl, g1, g2, g3, g4⟩ := tVal_4 e'
          cases g1.symm.trans (jB_ev s)
          cases g2.symm.trans e2
          cases g3.symm.trans el
          cases g4.symm.trans ew
          obtain ⟨-, hgo⟩ : 0 ≤ 60 * (s : Int) ∧ jGo (jW g (60 * (s : Int))) y2 zl' zw' := hP'
          have hE := jSp_ok hM hD.2.2 h6 hG hd el ew e3 (by omega) hz
          have hq : y2 + zL = y3 := by omega
          have hR : jR (jW g (60 * (s : Int))) zl' zw' y2 zL (if z = true then y3 + 1 else -1) := ⟨by omega, by rw [hq]; exact ⟨a1, a2, a3⟩, by rw [hq]; exact hE⟩
          have fin : ∀ {zi : Int}, sEv ρ i = some zi → ((if z = true then y3 + 1 else -1) = zi ∧ 0 ≤ zi ∨ (if z = true then y3 + 1 else -1) = -1 ∧ jSt (jW g (60 * (s : Int))) zi zl' zw') → ∃ p ∈ [(([(151, [jB s, o, le1, w1, L, i])], []) : List kA × List (sL × Int × Int))], kGh (kGP (kUP RO)) ρ p.1 R.2.2.2.1 ∧ ∀ b ∈ p.2, ∃ z, sEv ρ b.1 = some z ∧ b.2.1 ≤ z ∧ z ≤ b.2.2 := fun {zi} ei q => ⟨_, List.mem_singleton.mpr rfl, jAr (g := g) (zs := [60 * (s : Int), y2, zl', zw', zL, zi]) (Or.inr (Or.inr ⟨by decide, by decide⟩)) (by simp only [sVal, jB_ev, e2, el, ew, eL, ei]) hG ⟨hb, hgo, _, hR, q⟩, fun b hb => by cases hb⟩
          cases z with
          | true =>
            have h2 : i = sAdd e0 (sC 1) := by simpa using hc
            exact fin (zi := y3 + 1) (by rw [h2]; exact sEv_add e3 (sEv_C 1)) (Or.inl ⟨rfl, by omega⟩)
          | false =>
            have h2 : i = e0 := by simpa using hc
            exact fin (zi := y3) (by rw [h2]; exact e3) (Or.inr ⟨rfl, jSt_E (by omega) hE⟩)
        · cases h
      · cases h
    · cases h
  · cases h
theorem jMJi_ok (zl : Nat) : kRok RO (jMJi zl) := by
  intro K ws h ρ R hD
  unfold jMJi at h
  split at h
  · rename_i s le w ls hl one a n bd hs hlw hone ha hn hbd hno
    split at h
    · rename_i hc
      cases h
      obtain ⟨h6, ⟨zl', el⟩, ⟨zw', ew⟩, hd⟩ := jSd_ok hD hs
      obtain ⟨f, g, q1, q2, q3⟩ := kHavEL h6 hD.2.2 (hd rfl)
      obtain ⟨-, zs, e3, -⟩ := nFa_ok hD.2.2 hlw (by decide) (by decide)
      obtain ⟨z1, zh, rfl, -, eh⟩ := sVal_2 e3
      obtain ⟨zo, eo⟩ := kLf_ok hD.2.1 hone
      obtain ⟨zb, eb⟩ := nToldE hD.2.1.2.2.2.1 hbd
      exact ⟨_, List.mem_singleton.mpr rfl, jAn (g := g) (zs := [zh, 60 * (s : Int), zl', zw', zo, zb, 0, 0]) ⟨by decide, by decide⟩ (by simp only [sVal, eh, jB_ev, el, ew, eo, eb, sEv_C]) q2 ⟨Int.le_refl _, rfl⟩, fun b hb => by cases hb⟩
    · cases h
  · cases h
theorem jNr_ok (hg : kGh (kGP (kUP RO)) ρ γ H) {hl b one l x : sL} {zh zb zo zl : Int} (eh : sEv ρ hl = some zh) (eb : sEv ρ b = some zb) (eo : sEv ρ one = some zo) (el : sEv ρ l = some zl) (h : jNr γ hl b one l = some x) : ∃ zx u, sEv ρ x = some zx ∧ nNF zh zb zo zl u zx H := by
  unfold jNr at h
  split at h
  · rename_i h' b' o' l' x' hfa
    cases h
    obtain ⟨q, zs, e1, e2⟩ := nFa_ok hg hfa (by decide) (by decide)
    unfold jNq at q
    simp only [Bool.and_eq_true, decide_eq_true_eq] at q
    obtain ⟨rfl, rfl, rfl, rfl⟩ := q
    obtain ⟨y1, y2, y3, y4, y5, rfl, f1, f2, f3, f4, f5⟩ := tVal_5 e1
    cases f1.symm.trans eh
    cases f2.symm.trans eb
    cases f3.symm.trans eo
    cases f4.symm.trans el
    obtain ⟨a1, a2, a3, a4, a5, he, u, hu⟩ : ∃ h b o j m, [zh, zb, zo, zl, y5] = [h, b, o, j, m] ∧ ∃ u, nNF h b o j u m H := e2
    cases he
    exact ⟨y5, u, f5, hu⟩
  · cases h
theorem jMJs_ok : kRok RO jMJs := by
  intro K ws h ρ R hD
  have hM := hD.1
  unfold jMJs at h
  split at h
  · rename_i hl b le w one bd n0 a0 a n hfa ha hn
    split at h
    · rename_i b1 a1 le1 w1 l nx hfb
      split at h
      · rename_i x hx
        split at h
        · rename_i hc
          cases h
          simp only [Bool.and_eq_true, decide_eq_true_eq] at hc
          obtain ⟨rfl, c1, c2⟩ := hc
          obtain ⟨-, zs, g, e, hG, hP⟩ := jFn hD.2.2 hfa ⟨by decide, by decide⟩
          obtain ⟨y1, y2, y3, y4, y5, y6, y7, y8, rfl, e1, e2, e3, e4, e5, e6, e7, e8⟩ := jVal_8 e
          obtain ⟨p1, p2⟩ : 0 ≤ y7 ∧ jJ (jW g y2) (jN R.2.2.2.1 y1 y5 y2) y3 y4 y6 y7.toNat y8 := hP
          obtain ⟨q, zs', g', e', hG', hP'⟩ := jFr hD.2.2 hfb (Or.inr (Or.inl rfl))
          cases kLg_one hG hG'
          unfold jRq at q
          simp only [Bool.and_eq_true, decide_eq_true_eq] at q
          obtain ⟨rfl, rfl, rfl, rfl, rfl⟩ := q
          obtain ⟨u1, u2, u3, u4, u5, u6, rfl, g1, g2, g3, g4, g5, g6⟩ := tVal_6 e'
          cases g1.symm.trans e2
          cases g2.symm.trans e8
          cases g3.symm.trans e3
          cases g4.symm.trans e4
          obtain ⟨-, hR⟩ : 0 ≤ y2 ∧ jR (jW g y2) y3 y4 y8 u5 u6 := hP'
          obtain ⟨zx, u, ex, hu⟩ := jNr_ok hD.2.2 e1 (sEv_add e2 e8) e5 g5 hx
          have d1 := sNN_ok hM e8 c1
          have d2 := sNN_ok hM (sEv_sub (sEv_sub e6 ex) (sEv_C 1)) c2
          have e9 := sEv_add e7 (sEv_C (ρ := ρ) 1)
          exact ⟨_, List.mem_singleton.mpr rfl, jAn (g := g) (zs := [y1, y2, y3, y4, y5, y6, y7 + 1, u6]) ⟨by decide, by decide⟩ (by simp only [sVal, e1, e2, e3, e4, e5, e6, e9, g6]) hG ⟨by omega, jJ_s p2 p1 d1 hR ⟨u, hu⟩ (by omega)⟩, fun b hb => by cases hb⟩
        · cases h
      · cases h
    · cases h
  · cases h
theorem jMJe_ok : kRok RO jMJe := by
  intro K ws h ρ R hD
  have hM := hD.1
  unfold jMJe at h
  split at h
  · rename_i hl b le w one bd n0 a0 r hfa hr
    obtain ⟨-, zs, g, e, hG, hP⟩ := jFn hD.2.2 hfa ⟨by decide, by decide⟩
    obtain ⟨y1, y2, y3, y4, y5, y6, y7, y8, rfl, e1, e2, e3, e4, e5, e6, e7, e8⟩ := jVal_8 e
    obtain ⟨p1, p2⟩ : 0 ≤ y7 ∧ jJ (jW g y2) (jN R.2.2.2.1 y1 y5 y2) y3 y4 y6 y7.toNat y8 := hP
    split at h
    · rename_i hr2
      subst hr2
      split at h
      · rename_i hc
        cases h
        refine ⟨_, List.mem_singleton.mpr rfl, jAn (g := g) (zs := [y1, y2, y3, y4, y5, y6, -2]) ⟨by decide, by decide⟩ (by simp only [sVal, e1, e2, e3, e4, e5, e6, sEv_C]) hG (Or.inl ⟨rfl, ?_⟩), fun b hb => by cases hb⟩
        rcases Bool.or_eq_true_iff.mp hc with hc | hc
        · have := kEqf_ok hM e7 (sEv_C 12) hc
          subst this
          exact ⟨_, p2⟩
        · rw [Bool.and_eq_true] at hc
          have d1 := sNN_ok hM (sEv_sub (sEv_C (-1)) e8) hc.1
          have d2 := sNN_ok hM (sEv_sub (sEv_C 12) e7) hc.2
          exact jJ_12 p2 (by omega) (by omega)
      · cases h
    · split at h
      · rename_i hc
        cases h
        simp only [Bool.and_eq_true, decide_eq_true_eq] at hc
        obtain ⟨rfl, c1, c2, c3⟩ := hc
        have d1 := sNN_ok hM e8 c1
        have d2 := sNN_ok hM (sEv_sub (sEv_C 11) e7) c2
        obtain ⟨⟨k, fs⟩, hq, hany⟩ := List.any_eq_true.mp c3
        clear c3
        have hc := hany
        clear hany
        unfold jMJq at hc
        simp only [Bool.and_eq_true, decide_eq_true_eq] at hc
        obtain ⟨rfl, hc⟩ := hc
        split at hc
        · rename_i b' a' le' w' l nx
          simp only [Bool.and_eq_true, decide_eq_true_eq] at hc
          obtain ⟨rfl, rfl, rfl, rfl, hc⟩ := hc
          split at hc
          · rename_i x hx
            obtain ⟨zs', e', h2⟩ := hD.2.2 _ hq
            obtain ⟨g', hG', hP'⟩ := (jUPr (Or.inr (Or.inl rfl))).mp (nGP (show 53 ≤ 146 by decide) (show 146 < 1000 by decide) h2)
            cases kLg_one hG hG'
            obtain ⟨u1, u2, u3, u4, u5, u6, rfl, g1, g2, g3, g4, g5, g6⟩ := tVal_6 e'
            cases g1.symm.trans e2
            cases g2.symm.trans e8
            cases g3.symm.trans e3
            cases g4.symm.trans e4
            obtain ⟨-, hR⟩ : 0 ≤ y2 ∧ jR (jW g y2) y3 y4 y8 u5 u6 := hP'
            obtain ⟨zx, u, ex, hu⟩ := jNr_ok hD.2.2 e1 (sEv_add e2 e8) e5 g5 hx
            have d3 := sNN_ok hM (sEv_sub ex e6) hc
            exact ⟨_, List.mem_singleton.mpr rfl, jAn (g := g) (zs := [y1, y2, y3, y4, y5, y6, y7]) ⟨by decide, by decide⟩ (by simp only [sVal, e1, e2, e3, e4, e5, e6, e7]) hG (Or.inr ⟨p1, by omega, y8, u5, u6, zx, p2, d1, hR, ⟨u, hu⟩, by omega⟩), fun b hb => by cases hb⟩
          · cases hc
        · cases hc
      · cases h
  · cases h
theorem jMKi_ok (zh zw zr : Nat) : kRok RO (jMKi zh zw zr) := by
  intro K ws h ρ R hD
  unfold jMKi at h
  split at h
  · rename_i s le w hl one f n bd ra hs hhl hone hf hn hbd hra hno
    split at h
    · rename_i hc
      cases h
      simp only [Bool.and_eq_true] at hc
      obtain ⟨h6, ⟨zl', el⟩, ⟨zw', ew⟩, hd⟩ := jSd_ok hD hs
      obtain ⟨g, hG⟩ := kLz_ok hD.2.1.2.2.2.1 hc.2.2.2
      obtain ⟨zh', eh⟩ := nFf_ok hD.2.1.2.2.2.1 hhl
      obtain ⟨zo, eo⟩ := kLf_ok hD.2.1 hone
      obtain ⟨zb, eb⟩ := nToldE hD.2.1.2.2.2.1 hbd
      exact ⟨_, List.mem_singleton.mpr rfl, jAn (g := g) (zs := [zh', 60 * (s : Int), zl', zw', zo, zb, 0, 0, -2]) ⟨by decide, by decide⟩ (by simp only [sVal, eh, jB_ev, el, ew, eo, eb, sEv_C]) hG ⟨by omega, jK_0⟩, fun b hb => by cases hb⟩
    · cases h
  · cases h
theorem jMKs_ok (zr z1 : Nat) : kRok RO (jMKs zr z1) := by
  intro K ws h ρ R hD
  have hM := hD.1
  unfold jMKs at h
  split at h
  · rename_i n f k ra L hn hf hk hra hL
    split at h
    · rename_i hl b le w one bd n0 p0 f0 hfa
      split at h
      · rename_i x hx
        split at h
        · rename_i hc
          cases h
          simp only [Bool.and_eq_true, decide_eq_true_eq] at hc
          obtain ⟨-, c1, c2, c3, c4⟩ := hc
          obtain ⟨q, zs, g, e, hG, hP⟩ := jFn hD.2.2 hfa ⟨by decide, by decide⟩
          unfold jKq at q
          have q := of_decide_eq_true q
          subst q
          obtain ⟨y1, y2, y3, y4, y5, y6, y7, y8, y9, rfl, e1, e2, e3, e4, e5, e6, e7, e8, e9⟩ := jVal_9 e
          obtain ⟨p1, p2⟩ : 0 ≤ y2 ∧ jK (jW g y2) (jN R.2.2.2.1 y1 y5 y2) y3 y4 y6 y7 y8 y9 := hP
          obtain ⟨zs', e', hP'⟩ := jHr hD.2.2 hG c1 (Or.inr (Or.inr ⟨by decide, by decide⟩))
          obtain ⟨u1, u2, u3, u4, u5, u6, rfl, g1, g2, g3, g4, g5, g6⟩ := tVal_6 e'
          cases g1.symm.trans e2
          cases g2.symm.trans e8
          cases g3.symm.trans e3
          cases g4.symm.trans e4
          obtain ⟨-, hMm⟩ : 0 ≤ y2 ∧ jM (jW g y2) y3 y4 y8 u5 u6 := hP'
          obtain ⟨zx, u, ex, hu⟩ := jNr_ok hD.2.2 e1 (sEv_add e2 e8) e5 g5 hx
          have d3 := sNN_ok hM (sEv_sub (sEv_C 11) e7) c3
          obtain ⟨zf, ef⟩ := kLf_ok hD.2.1 hf
          have en := sEv_add e7 (sEv_C (ρ := ρ) 1)
          have hcase : (0 ≤ y9 ∧ zf = y9) ∨ (y9 ≤ -1 ∧ y6 ≤ zx ∧ zf = y7) ∨ (y9 ≤ -1 ∧ zx < y6 ∧ zf = y9) := by
            unfold jMKc at c4
            split at c4
            · rename_i hq
              have h1 := sNN_ok hM e9 hq
              have h2 := of_decide_eq_true c4
              subst h2
              exact Or.inl ⟨h1, Option.some.inj (ef.symm.trans e9)⟩
            · split at c4
              · rename_i hq
                have h1 := sNN_ok hM (sEv_sub ex e6) hq
                rw [Bool.and_eq_true, decide_eq_true_eq] at c4
                obtain ⟨h2, h3⟩ := c4
                subst h2
                have h3 := sNN_ok hM (sEv_sub (sEv_C (-1)) e9) h3
                exact Or.inr (Or.inl ⟨by omega, by omega, Option.some.inj (ef.symm.trans e7)⟩)
              · rw [Bool.and_eq_true, decide_eq_true_eq] at c4
                obtain ⟨h3, h2⟩ := c4
                subst h2
                have h3 := sNN_ok hM (sEv_sub (sEv_sub e6 ex) (sEv_C 1)) h3
                have h4 := Option.some.inj (ef.symm.trans e9)
                by_cases hp : 0 ≤ y9
                · exact Or.inl ⟨hp, h4⟩
                · exact Or.inr (Or.inr ⟨by omega, by omega, h4⟩)
          exact ⟨_, List.mem_singleton.mpr rfl, jAn (g := g) (zs := [y1, y2, y3, y4, y5, y6, y7 + 1, u6, zf]) ⟨by decide, by decide⟩ (by simp only [sVal, e1, e2, e3, e4, e5, e6, en, g6, ef]) hG ⟨p1, jK_s p2 (by omega) hMm ⟨u, hu⟩ hcase⟩, fun b hb => by cases hb⟩
        · cases h
      · cases h
    · cases h
  · cases h
theorem jMKe_ok : kRok RO jMKe := by
  intro K ws h ρ R hD
  have hM := hD.1
  unfold jMKe at h
  split at h
  · rename_i r hr
    split at h
    · rename_i hl b le w one bd n0 p0 r' hfa
      split at h
      · rename_i hc
        cases h
        obtain ⟨q, zs, g, e, hG, hP⟩ := jFn hD.2.2 hfa ⟨by decide, by decide⟩
        unfold jKr at q
        have q := of_decide_eq_true q
        subst q
        obtain ⟨y1, y2, y3, y4, y5, y6, y7, y8, y9, rfl, e1, e2, e3, e4, e5, e6, e7, e8, e9⟩ := jVal_9 e
        obtain ⟨p1, p2⟩ : 0 ≤ y2 ∧ jK (jW g y2) (jN R.2.2.2.1 y1 y5 y2) y3 y4 y6 y7 y8 y9 := hP
        refine ⟨_, List.mem_singleton.mpr rfl, jAn (g := g) (zs := [y1, y2, y3, y4, y5, y6, y9]) ⟨by decide, by decide⟩ (by simp only [sVal, e1, e2, e3, e4, e5, e6, e9]) hG (jK_e (fun a ha => ⟨0, ⟨0, g, hG, by omega, Int.le_refl _, rfl, rfl⟩, Int.le_refl _⟩) p2 ?_), fun b hb => by cases hb⟩
        rcases Bool.or_eq_true_iff.mp hc with hc | hc
        · exact Or.inl (kEqf_ok hM e7 (sEv_C 12) hc)
        · simp only [Bool.and_eq_true] at hc
          obtain ⟨c1, c2, c3⟩ := hc
          have d1 := sNN_ok hM (sEv_sub (sEv_C 11) e7) c1
          have d2 := sNN_ok hM (sEv_sub e6 (sEv_C 1)) c2
          obtain ⟨zs', e', hP'⟩ := jHr hD.2.2 hG c3 (Or.inr (Or.inr ⟨by decide, by decide⟩))
          obtain ⟨u1, u2, u3, u4, rfl, g1, g2, g3, g4⟩ := tVal_4 e'
          cases g1.symm.trans e2
          cases g2.symm.trans e8
          cases g3.symm.trans e3
          cases g4.symm.trans e4
          obtain ⟨-, hSt⟩ : 0 ≤ y2 ∧ jSt (jW g y2) y8 y3 y4 := hP'
          exact Or.inr ⟨by omega, by omega, hSt⟩
      · cases h
    · cases h
  · cases h
theorem jNone {h o b a l x x' : Int} (p : jN H h o b a l x) (q : jN H h o b a l x') : x = x' := by
  obtain ⟨u, g, p1, -, -, p2⟩ := p
  obtain ⟨u', g', q1, -, -, q2⟩ := q
  cases kLg_one p1 q1
  exact (nFd_one _ p2 q2).2
theorem jFun {zs : List Int} {r r' : Int} (h : nUP 148 (zs ++ [r]) H) (h' : nUP 148 (zs ++ [r']) H) : r = r' := by
  obtain ⟨f, f1, p⟩ := (jUPn ⟨by decide, by decide⟩).mp h
  obtain ⟨f', f2, q⟩ := (jUPn ⟨by decide, by decide⟩).mp h'
  cases kLg_one f1 f2
  match zs, p, q with
  | [a, b, c, d, e, g], p, q => exact jX_one (N := jN H a e b) (fun _ _ _ _ p q => jNone p q) (show jX (jW f b) (jN H a e b) c d g r from p) (show jX (jW f b) (jN H a e b) c d g r' from q)
  | [], p, _ => exact False.elim p
  | [a], p, _ => exact False.elim p
  | [a, b], p, _ => exact False.elim p
  | [a, b, c], p, _ => exact False.elim p
  | [a, b, c, d], p, _ => exact False.elim p
  | [a, b, c, d, e], p, _ => exact False.elim p
  | [a, b, c, d, e, g, i], p, _ => exact False.elim p
  | [a, b, c, d, e, g, i, j], p, _ => exact False.elim p
  | a :: b :: c :: d :: e :: g :: i :: j :: l :: t, p, _ => cases t <;> exact False.elim p
theorem jSame_ok {kd : Nat} (hk : kd = 148) {K : kS} {L : List kS} (h : nSame kd K = some L) {ρ : List Int} {R : eR} (hD : kD (kGP (kUP RO)) ρ K R) : ∃ K' ∈ L, ∃ ρ', ρ <+: ρ' ∧ kD (kGP (kUP RO)) ρ' K' R := by
  subst hk
  have same : ∀ K0 : kS, K0 = K → some [K0] = some L → ∃ K' ∈ L, ∃ ρ', ρ <+: ρ' ∧ kD (kGP (kUP RO)) ρ' K' R := fun K0 e g => by
    cases g
    subst e
    exact ⟨_, List.mem_singleton.mpr rfl, ρ, List.prefix_refl _, hD⟩
  unfold nSame at h
  split at h
  · rename_i pc ls r st G c s Γ γ
    split at h
    · rename_i fs hfa
      split at h
      · rename_i q hq
        split at h
        · rename_i x hx
          split at h
          · exact same _ rfl h
          · cases h
            obtain ⟨p1, zs, e1, e2⟩ := nFa_ok hD.2.2 hfa (by decide) (by decide)
            have p1 := of_decide_eq_true p1
            obtain ⟨ys, hys⟩ := List.getLast?_eq_some_iff.mp hq
            have hqm : q ∈ γ.filter (fun q => decide (q.1 = 148) && decide (q.2.dropLast = fs.dropLast)) := by rw [hys]; simp
            obtain ⟨hqn, hc⟩ := List.mem_filter.mp hqm
            clear hqm
            simp only [Bool.and_eq_true, decide_eq_true_eq] at hc
            obtain ⟨k, gs⟩ := q
            simp only at hc hx
            obtain ⟨rfl, hc⟩ := hc
            obtain ⟨ys2, e3, e4⟩ := hD.2.2 _ hqn
            have e4 := nGP (show 53 ≤ 148 by decide) (show 148 < 1000 by decide) e4
            simp only at e3
            rw [nLst p1] at e1
            rw [nLst hx, hc] at e3
            obtain ⟨us, vs, rfl, f1, f2⟩ := sVal_appR e1
            obtain ⟨us', vs', rfl, f3, f4⟩ := sVal_appR e3
            rw [f1] at f3
            cases f3
            obtain ⟨zr, rfl, er⟩ := sVal_1 f2
            obtain ⟨zx, rfl, ex⟩ := sVal_1 f4
            have hz := jFun e2 e4
            subst hz
            exact aTopd hD er ex
        · exact same _ rfl h
      · exact same _ rfl h
    · exact same _ rfl h
  · exact same _ rfl h
end JJDG
end
