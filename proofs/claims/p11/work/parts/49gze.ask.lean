/-! The safest answer, and whether it is safe. -/
noncomputable section
/-- hl, who, the KIN, how many words, the two words, the safest so far, how near it is -/
def aB5 (t : Bool) (K : kS) : Option sL := if t = true then kLf K.1.2.1 5 else some (sC 0)
def aAnb (t : Bool) (s zh zw zs zn : Nat) (K : kS) : Option (List sL) := if s = 0 then (match kFa K.2 62 (fun _ => true), nFf K.1.2.2.2.1 24 zn, kLf K.1.2.1 1, nFf K.1.2.2.2.1 1 1 with
    | some [_, hl], some nv, some kk, some n => (match aOne K.2 nv, kLf K.1.2.1 4, aB5 t K, kLf K.1.2.1 2, kLf K.1.2.1 3 with
      | some [one, _], some a, some b, some sa, some le => if sI32 K.1.2.2.2.2.2.2.1 nv = true then some [hl, one, kk, n, a, b, sa, le] else none
      | _, _, _, _, _ => none)
    | _, _, _, _ => none)
  else (match nFf K.1.2.2.2.1 52 zh, kLf K.1.2.1 1, kLf K.1.2.1 2, nFf K.1.2.2.2.1 52 zw with
    | some hl, some one, some w, some n => (match kFindEl K.2 54 w, kLf K.1.2.1 4, aB5 t K, nFf K.1.2.2.2.1 52 zs, kLf K.1.2.1 3 with
      | some kk, some a, some b, some sa, some le => if sI32 K.1.2.2.2.2.2.2.1 kk = true then some [hl, one, kk, n, a, b, sa, le] else none
      | _, _, _, _, _ => none)
    | _, _, _, _ => none)
def aAns (s zh zw zs zn : Nat) (K : kS) : Option (List sL) := aAnb true s zh zw zs zn K
/-- what KIN a word is of -/
def aKin (Γ : sG) (γ : List kA) (w : sL) : Option sL := match kFindEl γ 54 w with
  | some x => if sI32 Γ.1 x = true then some x else none
  | none => none
def aOth (Γ : sG) (γ : List kA) (w kk : sL) : Bool := match aKin Γ γ w with
  | some x => nNe Γ x kk
  | none => false
def aASo (s zh zw zs zn : Nat) (K : kS) : Option kWs := match aAnb false s zh zw zs zn K with
  | some [hl, one, kk, n, a, _, sa, le] => if (decide (a = sC 0) && (decide (sa = sC (-2)) && (decide (le = sC 0) && (aK54 K && !kHav K.2 124 [hl, one, kk, n, sC 0, sC 0, sC (-2), sC 0])))) = true then some [([(124, [hl, one, kk, n, sC 0, sC 0, sC (-2), sC 0])], [])] else none
  | _ => none
def aASi (s zh zw zs zn : Nat) (K : kS) : Option kWs := match aAns s zh zw zs zn K with
  | some [hl, one, kk, n, a, b, sa, le] => if (decide (b = sC 0) && K.2.any (fun q => decide (q.1 = 124) && (match q.2 with
      | [h, o, k', n', a', b', s', l'] => decide (h = hl) && (decide (o = one) && (decide (k' = kk) && (decide (n' = n) && (decide (sAdd a' (sC 1) = a) && (decide (s' = sa) && (decide (l' = le) && (kEqf K.1.2.2.2.2.2.2 b' n || aOth K.1.2.2.2.2.2.2 K.2 a' kk)))))))
      | _ => false))) = true then some [([(124, [hl, one, kk, n, a, b, sa, le])], [])] else none
  | _ => none
/-- whether a pair of words is no answer; whether it is one -/
def aNoA (Γ : sG) (γ : List kA) (a b kk : sL) : Bool := aOth Γ γ a kk || (match aKin Γ γ b with
  | some y => kEqf Γ y kk || (match aKin Γ γ a with
    | some x => kEqf Γ x kk && kEqf Γ y x
    | none => false)
  | none => false)
def aIsA (Γ : sG) (γ : List kA) (a b kk : sL) : Bool := match aKin Γ γ a, aKin Γ γ b with
  | some x, some y => kEqf Γ x kk && (nNe Γ y kk || nNe Γ y x)
  | _, _ => false
def aASn (K : kS) (hl one kk a b sa le s0 l0 : sL) : Bool := if aNoA K.1.2.2.2.2.2.2 K.2 a b kk = true then decide (sa = s0) && decide (le = l0)
        else aIsA K.1.2.2.2.2.2.2 K.2 a b kk && aPns K.2 hl one a b (fun x => (decide (sa = sAdd (sMul 100 a) b) && (decide (le = x) && (sNN K.1.2.2.2.2.2.2 (sSub (sC (-1)) s0) || sNN K.1.2.2.2.2.2.2 (sSub (sSub l0 x) (sC 1))))) || (decide (sa = s0) && (decide (le = l0) && (nNe K.1.2.2.2.2.2.2 s0 (sC (-2)) && sNN K.1.2.2.2.2.2.2 (sSub x l0)))))
def aASs (s zh zw zs zn : Nat) (K : kS) : Option kWs := match aAns s zh zw zs zn K with
  | some [hl, one, kk, n, a, b, sa, le] => (match kFa K.2 124 (fun fs => match fs with
      | [h, o, k', n', a', b', _, _] => decide (h = hl) && (decide (o = one) && (decide (k' = kk) && (decide (n' = n) && (decide (a' = a) && decide (b' = b)))))
      | _ => false) with
    | some [_, _, _, _, _, _, s0, l0] => if aASn K hl one kk a b sa le s0 l0 = true then some [([(124, [hl, one, kk, n, a, sAdd b (sC 1), sa, le])], [])] else none
    | _ => none)
  | _ => none
def aASe (s zh zw zs zn zi : Nat) (K : kS) : Option kWs := match aAnb false s zh zw zs zn K with
  | some [hl, one, kk, n, _, _, sa, le] => if K.2.any (fun q => decide (q.1 = 124) && (match q.2 with
      | [h, o, k', n', a', b', s', l'] => decide (h = hl) && (decide (o = one) && (decide (k' = kk) && (decide (n' = n) && (decide (s' = sa) && (decide (l' = le) && ((kEqf K.1.2.2.2.2.2.2 a' n && decide (b' = sC 0)) || ((kEqf K.1.2.2.2.2.2.2 (sAdd a' (sC 1)) n && (kEqf K.1.2.2.2.2.2.2 b' n || aOth K.1.2.2.2.2.2.2 K.2 a' kk)) || (sNN K.1.2.2.2.2.2.2 (sMul (-1) n) && (decide (a' = sC 0) && decide (b' = sC 0))))))))))
      | _ => false)) = true then
      (match kToldI K.1.2.2.2.1 59 2, nFf K.1.2.2.2.1 52 zi with
      | some bd, some i => if (decide (s = 1) && kHav K.2 126 [sa, le, bd, i]) = true then some [([(125, [hl, one, kk, n, sa]), (127, [hl, one, kk, n, bd, i])], [])] else some [([(125, [hl, one, kk, n, sa])], [])]
      | _, _ => some [([(125, [hl, one, kk, n, sa])], [])]) else none
  | _ => none
def aSFi (zs zi : Nat) (K : kS) : Option kWs := match kToldI K.1.2.2.2.1 59 2, nFf K.1.2.2.2.1 52 zs, nFf K.1.2.2.2.1 52 zi, kLf K.1.2.1 3 with
  | some bd, some sa, some i, some le => if (decide (sa = sC (-2)) && (decide (i = sC 0) && (decide (le = sC 0) && !kHav K.2 126 [sa, le, bd, i]))) = true then some [([(126, [sa, le, bd, i])], [])] else none
  | _, _, _, _ => none
def aSFs (zs zi : Nat) (K : kS) : Option kWs := match kToldI K.1.2.2.2.1 59 2, nFf K.1.2.2.2.1 52 zs, nFf K.1.2.2.2.1 52 zi, kLf K.1.2.1 3, kLf K.1.2.1 6 with
  | some bd, some sa, some i, some le, some x => if kHav K.2 126 [sa, le, bd, i] = true then none else (match kFa K.2 126 (fun fs => match fs with
      | [_, _, d, _] => decide (d = bd)
      | _ => false) with
    | some [s0, l0, _, i0] => if (decide (sK K.1.2.2.2.2.2.2.1 i = some 1)) = true then
        (if (decide (sK K.1.2.2.2.2.2.2.1 i0 = some 1)) = true then
          (if (decide (sa = s0) && decide (le = l0)) = true then some [([(126, [sa, le, bd, i])], [])]
          else if (decide (le = x) && (sNN K.1.2.2.2.2.2.2 sa && sNN K.1.2.2.2.2.2.2 (sSub (sC (-1)) s0))) = true then some []
          else if (decide (le = x) && (sNN K.1.2.2.2.2.2.2 sa && sNN K.1.2.2.2.2.2.2 (sSub (sSub l0 x) (sC 1)))) = true then some [([(126, [sa, le, bd, i])], [])] else none)
        else if (decide (sK K.1.2.2.2.2.2.2.1 i0 = some 0) && sNN K.1.2.2.2.2.2.2 (sSub (sSub bd x) (sC 1))) = true then
          (if (sNN K.1.2.2.2.2.2.2 s0 && (sNN K.1.2.2.2.2.2.2 (sSub x l0) && (decide (sa = s0) && decide (le = l0)))) = true then some []
          else if (decide (le = x) && (sNN K.1.2.2.2.2.2.2 sa && (sNN K.1.2.2.2.2.2.2 (sSub (sC (-1)) s0) || sNN K.1.2.2.2.2.2.2 (sSub (sSub l0 x) (sC 1))))) = true then some [([(126, [sa, le, bd, i])], [])] else none)
        else none)
      else if (decide (sK K.1.2.2.2.2.2.2.1 i = some 0) && (decide (sK K.1.2.2.2.2.2.2.1 i0 = some 0) && (sNN K.1.2.2.2.2.2.2 (sSub x bd) && ((decide (sa = s0) && decide (le = l0)) || (decide (le = x) && (sNN K.1.2.2.2.2.2.2 sa && (sNN K.1.2.2.2.2.2.2 (sSub (sC (-1)) s0) || sNN K.1.2.2.2.2.2.2 (sSub (sSub l0 x) (sC 1))))))))) = true then some [([(126, [sa, le, bd, i])], [])] else none
    | _ => none)
  | _, _, _, _, _ => none
def aAEq (γ : List kA) (r : sL) : Option (List sL) := kFa γ 125 (fun fs => match fs with
  | [_, _, _, _, r'] => decide (r' = r)
  | _ => false)
def aAYx (K : kS) : Option kWs := match kLf K.1.2.1 1, kToldI K.1.2.2.2.1 11 0, kTop K with
  | some r, some bd, some t => (match aAEq K.2 r with
    | some [hl, one, kk, n, _] => if sNN K.1.2.2.2.2.2.2 (sSub (sC (-1)) r) = true then (if sK K.1.2.2.2.2.2.2.1 t = some 0 then some [([(127, [hl, one, kk, n, bd, sC 0])], [])] else none)
      else (match nDl K.1.2.2.2.2.2.2 9 r (sC 100), nDl K.1.2.2.2.2.2.2 10 r (sC 100), sK K.1.2.2.2.2.2.2.1 t with
        | some a, some b, some y => if (sNN K.1.2.2.2.2.2.2 r && (sNN K.1.2.2.2.2.2.2 (sSub (sC 16) n) && aPns K.2 hl one a b (fun x => (sNN K.1.2.2.2.2.2.2 (sSub (sSub bd x) (sC 1)) && decide (y = 1)) || (sNN K.1.2.2.2.2.2.2 (sSub x bd) && decide (y = 0))))) = true then some [([(127, [hl, one, kk, n, bd, sC y])], [])] else none
        | _, _, _ => none)
    | _ => none)
  | _, _, _ => none
def aWBa (K : kS) : Option kWs := match kLf K.1.2.1 1 with
  | some r => (match aAEq K.2 r, nDl K.1.2.2.2.2.2.2 9 r (sC 100), nDl K.1.2.2.2.2.2.2 10 r (sC 100) with
    | some [_, _, _, n, _], some a, some b => if (sNN K.1.2.2.2.2.2.2 r && sNN K.1.2.2.2.2.2.2 (sSub (sC 16) n)) = true then some [([], [(a, 0, 15), (b, 0, 15)])] else none
    | _, _, _ => none)
  | none => none
def aAYp (Γ : sG) (γ : List kA) (fs : List sL) : Option (List sL) := match fs with
  | [h, o, k, n, d, i] => kFa γ 127 (fun f2 => match f2 with
    | [h', o', k', n', d', i'] => decide (h' = h) && (decide (o' = o) && (decide (k' = k) && (decide (n' = n) && (decide (d' = d) && (!decide (i' = i) && (sK Γ.1 i').isSome)))))
    | _ => false)
  | _ => none
def aAYf (K : kS) : Option kWs := match kFa K.2 127 (fun fs => (aAYp K.1.2.2.2.2.2.2 K.2 fs).isSome) with
  | some [h, o, k, n, d, i] => (match aAYp K.1.2.2.2.2.2.2 K.2 [h, o, k, n, d, i] with
    | some [_, _, _, _, _, i'] => (match sK K.1.2.2.2.2.2.2.1 i' with
      | some c => some [([], [(i, c, c)])]
      | none => none)
    | _ => none)
  | _ => none
section AASK
variable {RO : List (Nat × (Nat → Int32))} {ρ : List Int} {Γ : sG} {γ : List kA} {H : List eE}
theorem aB5_ok {t : Bool} {K : kS} {R : eR} (hD : kD (kGP (kUP RO)) ρ K R) {b : sL} (h : aB5 t K = some b) : ∃ y, sEv ρ b = some y := by
  unfold aB5 at h
  split at h
  · exact kLf_ok hD.2.1 h
  · cases h
    exact ⟨0, sEv_C _⟩
theorem aAnb_ok {t : Bool} {s zh zw zs zn : Nat} {K : kS} {R : eR} (hD : kD (kGP (kUP RO)) ρ K R) {l : List sL} (h : aAnb t s zh zw zs zn K = some l) : ∃ x1 x2 x3 x4 x5 x6 x7 x8 y1 y2 y3 y4 y5 y6 y7 y8, l = [x1, x2, x3, x4, x5, x6, x7, x8] ∧ sEv ρ x1 = some y1 ∧ sEv ρ x2 = some y2 ∧ sEv ρ x3 = some y3 ∧ sEv ρ x4 = some y4 ∧ sEv ρ x5 = some y5 ∧ sEv ρ x6 = some y6 ∧ sEv ρ x7 = some y7 ∧ sEv ρ x8 = some y8 := by
  have hH := hD.2.1.2.2.2.1
  unfold aAnb at h
  split at h
  · split at h
    · rename_i z1 hl nv kk n hlw hnv hkk hn
      split at h
      · rename_i one v a b sa le hone ha hb hsa hle
        split at h
        · cases h
          obtain ⟨-, zs, e3, -⟩ := nFa_ok hD.2.2 hlw (by decide) (by decide)
          obtain ⟨z1, zl, rfl, -, el⟩ := sVal_2 e3
          obtain ⟨zn, en⟩ := nFf_ok hH hnv
          obtain ⟨zo, eo, -⟩ := aOne_ok hD.2.2 en hone
          obtain ⟨y3, e3⟩ := kLf_ok hD.2.1 hkk
          obtain ⟨y4, e4⟩ := nFf_ok hH hn
          obtain ⟨y5, e5⟩ := kLf_ok hD.2.1 ha
          obtain ⟨y6, e6⟩ := aB5_ok hD hb
          obtain ⟨y7, e7⟩ := kLf_ok hD.2.1 hsa
          obtain ⟨y8, e8⟩ := kLf_ok hD.2.1 hle
          exact ⟨_, _, _, _, _, _, _, _, _, _, _, _, _, _, _, _, rfl, el, eo, e3, e4, e5, e6, e7, e8⟩
        · cases h
      · cases h
    · cases h
  · split at h
    · rename_i hl one w n hhl hone hw hn
      split at h
      · rename_i kk a b sa le hkk ha hb hsa hle
        split at h
        · cases h
          obtain ⟨y1, e1⟩ := nFf_ok hH hhl
          obtain ⟨y2, e2⟩ := kLf_ok hD.2.1 hone
          obtain ⟨zw, ew⟩ := kLf_ok hD.2.1 hw
          obtain ⟨y3, e3, -⟩ := kFindEl_ok hD.2.2 hkk ew
          obtain ⟨y4, e4⟩ := nFf_ok hH hn
          obtain ⟨y5, e5⟩ := kLf_ok hD.2.1 ha
          obtain ⟨y6, e6⟩ := aB5_ok hD hb
          obtain ⟨y7, e7⟩ := nFf_ok hH hsa
          obtain ⟨y8, e8⟩ := kLf_ok hD.2.1 hle
          exact ⟨_, _, _, _, _, _, _, _, _, _, _, _, _, _, _, _, rfl, e1, e2, e3, e4, e5, e6, e7, e8⟩
        · cases h
      · cases h
    · cases h
theorem aAns_ok {s zh zw zs zn : Nat} {K : kS} {R : eR} (hD : kD (kGP (kUP RO)) ρ K R) {l : List sL} (h : aAns s zh zw zs zn K = some l) : ∃ x1 x2 x3 x4 x5 x6 x7 x8 y1 y2 y3 y4 y5 y6 y7 y8, l = [x1, x2, x3, x4, x5, x6, x7, x8] ∧ sEv ρ x1 = some y1 ∧ sEv ρ x2 = some y2 ∧ sEv ρ x3 = some y3 ∧ sEv ρ x4 = some y4 ∧ sEv ρ x5 = some y5 ∧ sEv ρ x6 = some y6 ∧ sEv ρ x7 = some y7 ∧ sEv ρ x8 = some y8 := aAnb_ok hD (t := true) h
theorem aKin_ok (hM : sMo ρ Γ) (hg : kGh (kGP (kUP RO)) ρ γ H) {fk : Nat → Int32} (hF : nI2 H 54 16 fk) {w x : sL} {zw : Int} (ew : sEv ρ w = some zw) (h : aKin Γ γ w = some x) : 0 ≤ zw ∧ sEv ρ x = some (fk zw.toNat).toInt := by
  unfold aKin at h
  split at h
  · rename_i y hy
    split at h
    · rename_i hc
      cases h
      obtain ⟨zk, ek, kk⟩ := kFindEl_ok hg hy ew
      have bk := sWi_ok hM.1 ek hc
      obtain ⟨h0, v⟩ := kEl_v kk hF
      exact ⟨h0, by rw [ek, v, sTo32 bk.1 bk.2]⟩
    · cases h
  · cases h
theorem aOth_ok (hM : sMo ρ Γ) (hg : kGh (kGP (kUP RO)) ρ γ H) {fk : Nat → Int32} (hF : nI2 H 54 16 fk) {w kk : sL} {zw zk : Int} (ew : sEv ρ w = some zw) (ek : sEv ρ kk = some zk) (h : aOth Γ γ w kk = true) : (fk zw.toNat).toInt ≠ zk := by
  unfold aOth at h
  split at h
  · rename_i x hx
    exact nNe_ok hM (aKin_ok hM hg hF ew hx).2 ek h
  · cases h
theorem aNoA_ok (hM : sMo ρ Γ) (hg : kGh (kGP (kUP RO)) ρ γ H) {fk : Nat → Int32} (hF : nI2 H 54 16 fk) {a b kk : sL} {za zb zk : Int} (ea : sEv ρ a = some za) (eb : sEv ρ b = some zb) (ek : sEv ρ kk = some zk) (h : aNoA Γ γ a b kk = true) : ¬ ((fk za.toNat).toInt = zk ∧ (fk zb.toNat).toInt ≠ zk) := by
  unfold aNoA at h
  rcases Bool.or_eq_true_iff.mp h with h | h
  · exact fun q => aOth_ok hM hg hF ea ek h q.1
  · split at h
    · rename_i y hy
      have e1 := (aKin_ok hM hg hF eb hy).2
      rcases Bool.or_eq_true_iff.mp h with h | h
      · have := kEqf_ok hM e1 ek h
        exact fun q => q.2 this
      · split at h
        · rename_i x hx
          have e2 := (aKin_ok hM hg hF ea hx).2
          rw [Bool.and_eq_true] at h
          have h1 := kEqf_ok hM e2 ek h.1
          have h2 := kEqf_ok hM e1 e2 h.2
          exact fun q => q.2 (h2.trans h1)
        · cases h
    · cases h
theorem aIsA_ok (hM : sMo ρ Γ) (hg : kGh (kGP (kUP RO)) ρ γ H) {fk : Nat → Int32} (hF : nI2 H 54 16 fk) {a b kk : sL} {za zb zk : Int} (ea : sEv ρ a = some za) (eb : sEv ρ b = some zb) (ek : sEv ρ kk = some zk) (h : aIsA Γ γ a b kk = true) : (fk za.toNat).toInt = zk ∧ (fk zb.toNat).toInt ≠ zk := by
  unfold aIsA at h
  split at h
  · rename_i x y hx hy
    have e1 := (aKin_ok hM hg hF ea hx).2
    have e2 := (aKin_ok hM hg hF eb hy).2
    rw [Bool.and_eq_true] at h
    have h1 := kEqf_ok hM e1 ek h.1
    refine ⟨h1, ?_⟩
    rcases Bool.or_eq_true_iff.mp h.2 with q | q
    · exact nNe_ok hM e2 ek q
    · have := nNe_ok hM e2 e1 q
      rwa [h1] at this
  · cases h
theorem aASo_ok (s zh zw zs zn : Nat) : kRok RO (aASo s zh zw zs zn) := by
  intro K ws h ρ R hD
  unfold aASo at h
  split at h
  · rename_i hl one kk n a b sa le hq
    split at h
    · rename_i hc
      cases h
      simp only [Bool.and_eq_true, decide_eq_true_eq] at hc
      obtain ⟨fk, hF⟩ := aK54_ok hD hc.2.2.2.1
      obtain ⟨x1, x2, x3, x4, x5, x6, x7, x8, y1, y2, y3, y4, y5, y6, y7, y8, he, e1, e2, e3, e4, -⟩ := aAnb_ok hD hq
      cases he
      exact ⟨_, List.mem_singleton.mpr rfl, aAt (fk := fk) (zs := [y1, y2, y3, y4, 0, 0, -2, 0]) (by decide) (by decide) (by simp only [sVal, e1, e2, e3, e4, sEv_C]) hF ⟨Int.le_refl _, Int.le_refl _, -2, 0, ⟨rfl, rfl⟩, rfl, rfl⟩, fun b hb => by cases hb⟩
    · cases h
  · cases h
theorem aAr_no1 {G : aG} {k : Nat → Int32} {h o kk : Int} {a : Nat} {s0 l0 : Int} (hn : (k a).toInt ≠ kk) : ∀ (b : Nat) {s l : Int}, aAr G k h o kk a s0 l0 b s l → s = s0 ∧ l = l0
  | 0, _, _, p => p
  | b + 1, _, _, p => by
    obtain ⟨s1, l1, p1, p2⟩ := p
    obtain ⟨rfl, rfl⟩ := aAr_no1 hn b p1
    rcases p2 with ⟨-, rfl, rfl⟩ | ⟨q, -⟩
    · exact ⟨rfl, rfl⟩
    · exact absurd q hn
/-- a row is done with: at its end, or its word is of another KIN -/
theorem aRow {G : aG} {k : Nat → Int32} {h o kk n a b s l : Int} (p : aAS G k h o kk n a b s l) (hd : b = n ∨ (k a.toNat).toInt ≠ kk) : 0 ≤ a ∧ aAa G k h o kk n.toNat (a.toNat + 1) s l := by
  obtain ⟨g1, g2, s1, l1, g3, g4⟩ := p
  refine ⟨g1, s1, l1, g3, ?_⟩
  rcases hd with rfl | hd
  · exact g4
  · obtain ⟨rfl, rfl⟩ := aAr_no1 hd _ g4
    exact aAr_no hd _
theorem aASi_ok (s zh zw zs zn : Nat) : kRok RO (aASi s zh zw zs zn) := by
  intro K ws h ρ R hD
  have hM := hD.1
  unfold aASi at h
  split at h
  · rename_i hl one kk n a b sa le hq
    split at h
    · rename_i hc
      cases h
      rw [Bool.and_eq_true, decide_eq_true_eq] at hc
      obtain ⟨rfl, hc⟩ := hc
      obtain ⟨x1, x2, x3, x4, x5, x6, x7, x8, y1, y2, y3, y4, y5, y6, y7, y8, he, e1, e2, e3, e4, e5, e6, e7, e8⟩ := aAns_ok hD hq
      cases he
      obtain ⟨⟨k, fs⟩, hm, hany⟩ := List.any_eq_true.mp hc
      clear hc
      have hc := hany
      clear hany
      simp only [Bool.and_eq_true, decide_eq_true_eq] at hc
      obtain ⟨rfl, hc⟩ := hc
      split at hc
      · rename_i h' o' k' n' a' b' s' l'
        simp only [Bool.and_eq_true, decide_eq_true_eq] at hc
        obtain ⟨rfl, rfl, rfl, rfl, rfl, rfl, rfl, hc⟩ := hc
        obtain ⟨zs, fk, e, hF, hP⟩ := aOf hD.2.2 hm (by decide) (by decide)
        obtain ⟨w1, w2, w3, w4, w5, w6, w7, w8, rfl, f1, f2, f3, f4, f5, f6, f7, f8⟩ := qVal_8 e
        have hP : aAS (aGH R.2.2.2.1) fk w1 w2 w3 w4 w5 w6 w7 w8 := hP
        have ha := sEv_add f5 (sEv_C (ρ := ρ) 1)
        have hd : w6 = w4 ∨ (fk w5.toNat).toInt ≠ w3 := by
          rcases Bool.or_eq_true_iff.mp hc with hc | hc
          · exact Or.inl (kEqf_ok hM f6 f4 hc)
          · exact Or.inr (aOth_ok hM hD.2.2 hF f5 f3 hc)
        obtain ⟨g1, g2⟩ := aRow hP hd
        refine ⟨_, List.mem_singleton.mpr rfl, aAt (fk := fk) (zs := [w1, w2, w3, w4, w5 + 1, 0, w7, w8]) (by decide) (by decide) (by simp only [sVal, f1, f2, f3, f4, ha, f7, f8, sEv_C]) hF ⟨by omega, Int.le_refl _, w7, w8, ?_, rfl, rfl⟩, fun b hb => by cases hb⟩
        rw [show (w5 + 1).toNat = w5.toNat + 1 by omega]
        exact g2
      · cases hc
    · cases h
  · cases h
theorem aAr_s {G : aG} {k : Nat → Int32} {h o kk : Int} {a : Nat} {s0 l0 : Int} (h0 : s0 = -2 ∨ 0 ≤ s0) : ∀ (b : Nat) {s l : Int}, aAr G k h o kk a s0 l0 b s l → s = -2 ∨ 0 ≤ s
  | 0, _, _, p => by
    rw [p.1]
    exact h0
  | b + 1, _, _, p => by
    obtain ⟨s1, l1, p1, p2⟩ := p
    have ih := aAr_s h0 b p1
    rcases p2 with ⟨-, rfl, rfl⟩ | ⟨-, -, x, px, ⟨-, rfl, rfl⟩ | ⟨-, -, rfl, rfl⟩⟩
    · exact ih
    · exact Or.inr (by omega)
    · exact ih
theorem aAa_s {G : aG} {k : Nat → Int32} {h o kk : Int} {n : Nat} : ∀ (a : Nat) {s l : Int}, aAa G k h o kk n a s l → s = -2 ∨ 0 ≤ s
  | 0, _, _, p => Or.inl p.1
  | a + 1, _, _, p => by
    obtain ⟨s1, l1, p1, p2⟩ := p
    exact aAr_s (aAa_s a p1) n p2
theorem aASs_ok (s zh zw zs zn : Nat) : kRok RO (aASs s zh zw zs zn) := by
  intro K ws h ρ R hD
  have hM := hD.1
  unfold aASs at h
  split at h
  · rename_i hl one kk n a b sa le hq
    split at h
    · rename_i h' o' k' n' a' b' s0 l0 hfa
      split at h
      · rename_i hc
        cases h
        obtain ⟨x1, x2, x3, x4, x5, x6, x7, x8, y1, y2, y3, y4, y5, y6, y7, y8, he, e1, e2, e3, e4, e5, e6, e7, e8⟩ := aAns_ok hD hq
        cases he
        obtain ⟨p, zs, fk, e, hF, hP⟩ := aFa hD.2.2 hfa (by decide) (by decide)
        simp only [Bool.and_eq_true, decide_eq_true_eq] at p
        obtain ⟨rfl, rfl, rfl, rfl, rfl, rfl⟩ := p
        obtain ⟨w1, w2, w3, w4, w5, w6, w7, w8, rfl, f1, f2, f3, f4, f5, f6, f7, f8⟩ := qVal_8 e
        obtain ⟨g1, g2, s1, l1, g3, g4⟩ : aAS (aGH R.2.2.2.1) fk w1 w2 w3 w4 w5 w6 w7 w8 := hP
        have eb := sEv_add f6 (sEv_C (ρ := ρ) 1)
        have hx : ((w5.toNat : Nat) : Int) = w5 := Int.toNat_of_nonneg g1
        have hy : ((w6.toNat : Nat) : Int) = w6 := Int.toNat_of_nonneg g2
        have fin : ∀ {z1 z2 : Int}, sEv ρ sa = some z1 → sEv ρ le = some z2 → aAr (aGH R.2.2.2.1) fk w1 w2 w3 w5.toNat s1 l1 (w6.toNat + 1) z1 z2 → ∃ p ∈ [(([(124, [h', o', k', n', a', sAdd b' (sC 1), sa, le])], []) : List kA × List (sL × Int × Int))], kGh (kGP (kUP RO)) ρ p.1 R.2.2.2.1 ∧ ∀ b ∈ p.2, ∃ z, sEv ρ b.1 = some z ∧ b.2.1 ≤ z ∧ z ≤ b.2.2 := fun {z1 z2} em ef q => by
          refine ⟨_, List.mem_singleton.mpr rfl, aAt (fk := fk) (zs := [w1, w2, w3, w4, w5, w6 + 1, z1, z2]) (by decide) (by decide) (by simp only [sVal, f1, f2, f3, f4, f5, eb, em, ef]) hF ⟨g1, by omega, s1, l1, g3, ?_⟩, fun b hb => by cases hb⟩
          rw [show (w6 + 1).toNat = w6.toNat + 1 by omega]
          exact q
        unfold aASn at hc
        split at hc
        · rename_i hno
          simp only [Bool.and_eq_true, decide_eq_true_eq] at hc
          obtain ⟨rfl, rfl⟩ := hc
          exact fin f7 f8 ⟨w7, w8, g4, Or.inl ⟨aNoA_ok hM hD.2.2 hF f5 f6 f3 hno, rfl, rfl⟩⟩
        · rw [Bool.and_eq_true] at hc
          obtain ⟨k1, k2⟩ := aIsA_ok hM hD.2.2 hF f5 f6 f3 hc.1
          obtain ⟨x, zx, k3, ex, hxp⟩ := aPns_ok hD.2.2 f1 f2 f5 f6 hc.2
          have hxp : aPN (aGH R.2.2.2.1) w1 w2 ((w5.toNat : Nat) : Int) ((w6.toNat : Nat) : Int) zx := by rw [hx, hy]; exact hxp
          simp only [Bool.or_eq_true, Bool.and_eq_true, decide_eq_true_eq] at k3
          rcases k3 with ⟨rfl, rfl, k3⟩ | ⟨rfl, rfl, k3, k4⟩
          · have es := sEv_add (sEv_mul 100 f5) f6
            refine fin es ex ⟨w7, w8, g4, Or.inr ⟨k1, k2, zx, hxp, Or.inl ⟨?_, by rw [hx, hy], rfl⟩⟩⟩
            rcases k3 with k3 | k3
            · have := sNN_ok hM (sEv_sub (sEv_C (-1)) f7) k3
              exact Or.inl (by omega)
            · have := sNN_ok hM (sEv_sub (sEv_sub f8 ex) (sEv_C 1)) k3
              exact Or.inr (by omega)
          · have h1 := nNe_ok hM f7 (sEv_C (-2)) k3
            have h2 := sNN_ok hM (sEv_sub ex f8) k4
            have h3 := aAr_s (aAa_s _ g3) _ g4
            exact fin f7 f8 ⟨w7, w8, g4, Or.inr ⟨k1, k2, zx, hxp, Or.inr ⟨by omega, by omega, rfl, rfl⟩⟩⟩
      · cases h
    · cases h
  · cases h
theorem aSFe (hg : kGh (kGP (kUP RO)) ρ γ H) {s l d i : sL} {y1 y2 y3 y4 : Int} (e1 : sEv ρ s = some y1) (e2 : sEv ρ l = some y2) (e3 : sEv ρ d = some y3) (e4 : sEv ρ i = some y4) (h : kHav γ 126 [s, l, d, i] = true) : aSF y1 y2 y3 y4 := by
  obtain ⟨zs, f1, f2⟩ := kHav_ok hg h (by decide)
  simp only [sVal, e1, e2, e3, e4, Option.some.injEq] at f1
  subst f1
  obtain ⟨-, q⟩ : 126 = 126 ∧ aSF y1 y2 y3 y4 := (aUP0 (Or.inr rfl)).mp ((kUPn (by decide)).mp f2)
  exact q
theorem aASe_ok (s zh zw zs zn zi : Nat) : kRok RO (aASe s zh zw zs zn zi) := by
  intro K ws h ρ R hD
  have hM := hD.1
  unfold aASe at h
  split at h
  · rename_i hl one kk n a b sa le hq
    split at h
    · rename_i hc
      obtain ⟨x1, x2, x3, x4, x5, x6, x7, x8, y1, y2, y3, y4, y5, y6, y7, y8, he, e1, e2, e3, e4, e5, e6, e7, e8⟩ := aAnb_ok hD hq
      cases he
      have key : ∃ fk, nI2 R.2.2.2.1 54 16 fk ∧ aAa (aGH R.2.2.2.1) fk y1 y2 y3 y4.toNat y4.toNat y7 y8 := by
        obtain ⟨⟨k, fs⟩, hm, hany⟩ := List.any_eq_true.mp hc
        clear hc
        have hc := hany
        clear hany
        simp only [Bool.and_eq_true, decide_eq_true_eq] at hc
        obtain ⟨rfl, hc⟩ := hc
        split at hc
        · rename_i h' o' k' n' a' b' s' l'
          simp only [Bool.and_eq_true, decide_eq_true_eq] at hc
          obtain ⟨rfl, rfl, rfl, rfl, rfl, rfl, hc⟩ := hc
          obtain ⟨zs, fk, e, hF, hP⟩ := aOf hD.2.2 hm (by decide) (by decide)
          obtain ⟨w1, w2, w3, w4, w5, w6, w7, w8, rfl, f1, f2, f3, f4, f5, f6, f7, f8⟩ := qVal_8 e
          obtain rfl := Option.some.inj (f1.symm.trans e1)
          obtain rfl := Option.some.inj (f2.symm.trans e2)
          obtain rfl := Option.some.inj (f3.symm.trans e3)
          obtain rfl := Option.some.inj (f4.symm.trans e4)
          obtain rfl := Option.some.inj (f7.symm.trans e7)
          obtain rfl := Option.some.inj (f8.symm.trans e8)
          have hP : aAS (aGH R.2.2.2.1) fk w1 w2 w3 w4 w5 w6 w7 w8 := hP
          refine ⟨fk, hF, ?_⟩
          simp only [Bool.or_eq_true, Bool.and_eq_true, decide_eq_true_eq] at hc
          rcases hc with ⟨q1, rfl⟩ | ⟨q1, q2⟩ | ⟨q1, rfl, rfl⟩
          · have q := kEqf_ok hM f5 f4 q1
            obtain rfl := Option.some.inj (f6.symm.trans (sEv_C _))
            obtain ⟨g1, g2, s1, l1, g3, g4⟩ := hP
            obtain ⟨rfl, rfl⟩ := g4
            rw [q] at g3
            exact g3
          · have q := kEqf_ok hM (sEv_add f5 (sEv_C 1)) f4 q1
            have hd : w6 = w4 ∨ (fk w5.toNat).toInt ≠ w3 := by
              rcases q2 with q2 | q2
              · exact Or.inl (kEqf_ok hM f6 f4 q2)
              · exact Or.inr (aOth_ok hM hD.2.2 hF f5 f3 q2)
            obtain ⟨g1, g2⟩ := aRow hP hd
            have e9 : w5.toNat + 1 = w4.toNat := by omega
            rw [e9] at g2
            exact g2
          · have q := sNN_ok hM (sEv_mul (-1) f4) q1
            obtain rfl := Option.some.inj (f6.symm.trans (sEv_C _))
            obtain rfl := Option.some.inj (f5.symm.trans (sEv_C _))
            obtain ⟨g1, g2, s1, l1, g3, g4⟩ := hP
            obtain ⟨rfl, rfl⟩ := g4
            rw [show w4.toNat = 0 by omega] at g3 ⊢
            exact g3
        · cases hc
      obtain ⟨fk, hF, hA⟩ := key
      have hAE : kGh (kGP (kUP RO)) ρ [(125, [hl, one, kk, n, sa])] R.2.2.2.1 := aAt (fk := fk) (zs := [y1, y2, y3, y4, y7]) (by decide) (by decide) (by simp only [sVal, e1, e2, e3, e4, e7]) hF ⟨y8, hA⟩
      split at h
      · rename_i bd i hbd hi
        split at h
        · rename_i hc2
          cases h
          rw [Bool.and_eq_true] at hc2
          obtain ⟨-, -, zd, -, -, ed, -⟩ := kToldI_ok hD.2.1.2.2.2.1 hbd
          obtain ⟨z9, e9⟩ := nFf_ok hD.2.1.2.2.2.1 hi
          have hs := aSFe hD.2.2 e7 e8 ed e9 hc2.2
          exact ⟨_, List.mem_singleton.mpr rfl, kGh_cons hAE (aAt (fk := fk) (zs := [y1, y2, y3, y4, zd, z9]) (by decide) (by decide) (by simp only [sVal, e1, e2, e3, e4, ed, e9]) hF ⟨y7, y8, hA, hs⟩), fun b hb => by cases hb⟩
        · cases h
          exact ⟨_, List.mem_singleton.mpr rfl, hAE, fun b hb => by cases hb⟩
      · cases h
        exact ⟨_, List.mem_singleton.mpr rfl, hAE, fun b hb => by cases hb⟩
    · cases h
  · cases h
theorem aSFa {k s l d i : sL} {y1 y2 y3 y4 : Int} (e1 : sEv ρ s = some y1) (e2 : sEv ρ l = some y2) (e3 : sEv ρ d = some y3) (e4 : sEv ρ i = some y4) (h : aSF y1 y2 y3 y4) : kGh (kGP (kUP RO)) ρ [(126, [s, l, d, i])] H := kAt1 (zs := [y1, y2, y3, y4]) (by decide) (by simp only [sVal, e1, e2, e3, e4]) ((kUPn (by decide)).mpr ((aUP0 (Or.inr rfl)).mpr ⟨rfl, h⟩))
theorem aSFi_ok (zs zi : Nat) : kRok RO (aSFi zs zi) := by
  intro K ws h ρ R hD
  unfold aSFi at h
  split at h
  · rename_i bd sa i le hbd hsa hi hle
    split at h
    · rename_i hc
      cases h
      simp only [Bool.and_eq_true, decide_eq_true_eq] at hc
      obtain ⟨rfl, rfl, rfl, -⟩ := hc
      obtain ⟨-, -, zd, -, -, ed, -⟩ := kToldI_ok hD.2.1.2.2.2.1 hbd
      exact ⟨_, List.mem_singleton.mpr rfl, aSFa (k := bd) (sEv_C _) (sEv_C _) ed (sEv_C _) (by unfold aSF; rw [if_neg (by omega)]), fun b hb => by cases hb⟩
    · cases h
  · cases h
theorem aSFs_ok (zs zi : Nat) : kRok RO (aSFs zs zi) := by
  intro K ws h ρ R hD
  have hM := hD.1
  unfold aSFs at h
  split at h
  · rename_i bd sa i le x hbd hsa hi hle hx
    split at h
    · cases h
    split at h
    · rename_i s0 l0 d0 i0 hfa
      obtain ⟨p, zs, e, hP⟩ := nFa_ok hD.2.2 hfa (by decide) (by decide)
      have p := of_decide_eq_true p
      subst p
      obtain ⟨w1, w2, w3, w4, rfl, f1, f2, f3, f4⟩ := sVal_4 e
      obtain ⟨-, hS⟩ : 126 = 126 ∧ aSF w1 w2 w3 w4 := (aUP0 (Or.inr rfl)).mp hP
      unfold aSF at hS
      obtain ⟨y1, e1⟩ := nFf_ok hD.2.1.2.2.2.1 hsa
      obtain ⟨y4, e4⟩ := nFf_ok hD.2.1.2.2.2.1 hi
      obtain ⟨y2, e2⟩ := kLf_ok hD.2.1 hle
      obtain ⟨yx, ex⟩ := kLf_ok hD.2.1 hx
      have fin : aSF y1 y2 w3 y4 → ∃ p ∈ [(([(126, [sa, le, d0, i])], []) : List kA × List (sL × Int × Int))], kGh (kGP (kUP RO)) ρ p.1 R.2.2.2.1 ∧ ∀ b ∈ p.2, ∃ z, sEv ρ b.1 = some z ∧ b.2.1 ≤ z ∧ z ≤ b.2.2 := fun q => ⟨_, List.mem_singleton.mpr rfl, aSFa (k := d0) e1 e2 f3 e4 q, fun b hb => by cases hb⟩
      unfold aSF at fin
      split at h
      · rename_i c1
        have c1 := sK_ok hM.1 e4 (of_decide_eq_true c1)
        split at h
        · rename_i c2
          have c2 := sK_ok hM.1 f4 (of_decide_eq_true c2)
          have hs : 0 ≤ w1 ∧ w2 < w3 := by
            by_cases q : 0 ≤ w1 ∧ w2 < w3
            · exact q
            · rw [if_neg q] at hS
              omega
          split at h
          · rename_i c3
            cases h
            simp only [Bool.and_eq_true, decide_eq_true_eq] at c3
            obtain ⟨rfl, rfl⟩ := c3
            obtain rfl := Option.some.inj (e1.symm.trans f1)
            obtain rfl := Option.some.inj (e2.symm.trans f2)
            exact fin (by rw [if_pos hs]; exact c1)
          split at h
          · rename_i c3
            cases h
            simp only [Bool.and_eq_true, decide_eq_true_eq] at c3
            have := sNN_ok hM (sEv_sub (sEv_C (-1)) f1) c3.2.2
            exfalso
            omega
          split at h
          · rename_i c3
            cases h
            simp only [Bool.and_eq_true, decide_eq_true_eq] at c3
            obtain ⟨rfl, c4, c5⟩ := c3
            obtain rfl := Option.some.inj (e2.symm.trans ex)
            have h1 := sNN_ok hM e1 c4
            have h2 := sNN_ok hM (sEv_sub (sEv_sub f2 ex) (sEv_C 1)) c5
            exact fin (by rw [if_pos (by omega)]; exact c1)
          · cases h
        · split at h
          · rename_i c2
            rw [Bool.and_eq_true] at c2
            have c3 := sK_ok hM.1 f4 (of_decide_eq_true c2.1)
            have hlt := sNN_ok hM (sEv_sub (sEv_sub f3 ex) (sEv_C 1)) c2.2
            split at h
            · rename_i c4
              cases h
              simp only [Bool.and_eq_true, decide_eq_true_eq] at c4
              have h1 := sNN_ok hM f1 c4.1
              have h2 := sNN_ok hM (sEv_sub ex f2) c4.2.1
              rw [if_pos (by omega)] at hS
              exfalso
              omega
            split at h
            · rename_i c4
              cases h
              simp only [Bool.and_eq_true, decide_eq_true_eq] at c4
              obtain ⟨rfl, c5, -⟩ := c4
              obtain rfl := Option.some.inj (e2.symm.trans ex)
              have h1 := sNN_ok hM e1 c5
              exact fin (by rw [if_pos (by omega)]; exact c1)
            · cases h
          · cases h
      · split at h
        · rename_i c1
          cases h
          simp only [Bool.or_eq_true, Bool.and_eq_true, decide_eq_true_eq] at c1
          obtain ⟨c1, c2, c3, c4⟩ := c1
          have c1 := sK_ok hM.1 e4 c1
          have c2 := sK_ok hM.1 f4 c2
          have hge := sNN_ok hM (sEv_sub ex f3) c3
          rcases c4 with ⟨rfl, rfl⟩ | ⟨rfl, c5, -⟩
          · obtain rfl := Option.some.inj (e1.symm.trans f1)
            obtain rfl := Option.some.inj (e2.symm.trans f2)
            exact fin (by rw [← hS]; omega)
          · obtain rfl := Option.some.inj (e2.symm.trans ex)
            exact fin (by rw [if_neg (by omega)]; exact c1)
        · cases h
    · cases h
  · cases h
set_option maxRecDepth 100000 in
theorem aDm1 : ∀ a : Fin 17, ∀ b : Fin 17, sOp 9 (100 * ((a.val : Nat) : Int) + ((b.val : Nat) : Int)) 100 = ((a.val : Nat) : Int) ∧ sOp 10 (100 * ((a.val : Nat) : Int) + ((b.val : Nat) : Int)) 100 = ((b.val : Nat) : Int) := by decide +kernel
theorem aDm {a b : Nat} (ha : a < 17) (hb : b < 17) : sOp 9 (100 * (a : Int) + b) 100 = a ∧ sOp 10 (100 * (a : Int) + b) 100 = b := aDm1 ⟨a, ha⟩ ⟨b, hb⟩
theorem aAEq_ok (hg : kGh (kGP (kUP RO)) ρ γ H) {r hl one kk n r' : sL} {zr : Int} (er : sEv ρ r = some zr) (h : aAEq γ r = some [hl, one, kk, n, r']) : ∃ fk y1 y2 y3 y4 l, nI2 H 54 16 fk ∧ sEv ρ hl = some y1 ∧ sEv ρ one = some y2 ∧ sEv ρ kk = some y3 ∧ sEv ρ n = some y4 ∧ aAa (aGH H) fk y1 y2 y3 y4.toNat y4.toNat zr l := by
  obtain ⟨p, zs, fk, e, hF, hP⟩ := aFa hg h (by decide) (by decide)
  have p := of_decide_eq_true p
  subst p
  obtain ⟨w1, w2, w3, w4, w5, rfl, f1, f2, f3, f4, f5⟩ := sVal_5 e
  obtain rfl := Option.some.inj (f5.symm.trans er)
  obtain ⟨l, hA⟩ : aAE (aGH H) fk w1 w2 w3 w4 w5 := hP
  exact ⟨fk, w1, w2, w3, w4, l, hF, f1, f2, f3, f4, hA⟩
theorem aAYx_ok : kRok RO aAYx := by
  intro K ws h ρ R hD
  have hM := hD.1
  unfold aAYx at h
  split at h
  · rename_i r bd t hr hbd ht
    obtain ⟨zr, er⟩ := kLf_ok hD.2.1 hr
    obtain ⟨-, -, zd, -, -, ed, -⟩ := kToldI_ok hD.2.1.2.2.2.1 hbd
    split at h
    · rename_i hl one kk n r' hq
      obtain ⟨fk, y1, y2, y3, y4, l, hF, e1, e2, e3, e4, hA⟩ := aAEq_ok hD.2.2 er hq
      split at h
      · rename_i hneg
        have hneg := sNN_ok hM (sEv_sub (sEv_C (-1)) er) hneg
        split at h
        · cases h
          exact ⟨_, List.mem_singleton.mpr rfl, aAt (fk := fk) (zs := [y1, y2, y3, y4, zd, 0]) (by decide) (by decide) (by simp only [sVal, e1, e2, e3, e4, ed, sEv_C]) hF ⟨zr, l, hA, by unfold aSF; rw [if_neg (by omega)]⟩, fun b hb => by cases hb⟩
        · cases h
      · split at h
        · rename_i a b y ha hb hy
          split at h
          · rename_i hc
            cases h
            simp only [Bool.and_eq_true] at hc
            obtain ⟨c1, c2, c3⟩ := hc
            have h1 := sNN_ok hM er c1
            have h2 := sNN_ok hM (sEv_sub (sEv_C 16) e4) c2
            have hn := aAa_n _ (Nat.le_refl _) hA
            rcases hn with hn | ⟨a', b', ha', hb', hs, hp⟩
            · omega
            · have hd := aDm (a := a') (b := b') (by omega) (by omega)
              have ea := nDl_ok hM er (sEv_C 100) ha
              have eb := nDl_ok hM er (sEv_C 100) hb
              rw [hs, hd.1] at ea
              rw [hs, hd.2] at eb
              obtain ⟨x, zx, k1, ex, hxp⟩ := aPns_ok hD.2.2 e1 e2 ea eb c3
              have hx := aPN_one aGHf hxp hp
              subst hx
              simp only [Bool.or_eq_true, Bool.and_eq_true, decide_eq_true_eq] at k1
              refine ⟨_, List.mem_singleton.mpr rfl, aAt (fk := fk) (zs := [y1, y2, y3, y4, zd, y]) (by decide) (by decide) (by simp only [sVal, e1, e2, e3, e4, ed, sEv_C]) hF ⟨zr, zx, hA, ?_⟩, fun b hb => by cases hb⟩
              unfold aSF
              rcases k1 with ⟨k1, rfl⟩ | ⟨k1, rfl⟩
              · have := sNN_ok hM (sEv_sub (sEv_sub ed ex) (sEv_C 1)) k1
                rw [if_pos (by omega)]
              · have := sNN_ok hM (sEv_sub ex ed) k1
                rw [if_neg (by omega)]
          · cases h
        · cases h
    · cases h
  · cases h
theorem aWBa_ok : kRok RO aWBa := by
  intro K ws h ρ R hD
  have hM := hD.1
  unfold aWBa at h
  split at h
  · rename_i r hr
    obtain ⟨zr, er⟩ := kLf_ok hD.2.1 hr
    split at h
    · rename_i hl one kk n r' a b hq ha hb
      split at h
      · rename_i hc
        cases h
        rw [Bool.and_eq_true] at hc
        obtain ⟨fk, y1, y2, y3, y4, l, hF, e1, e2, e3, e4, hA⟩ := aAEq_ok hD.2.2 er hq
        have h1 := sNN_ok hM er hc.1
        have h2 := sNN_ok hM (sEv_sub (sEv_C 16) e4) hc.2
        have ea := nDl_ok hM er (sEv_C 100) ha
        have eb := nDl_ok hM er (sEv_C 100) hb
        rcases aAa_n _ (Nat.le_refl _) hA with hn | ⟨a', b', ha', hb', hs, hp⟩
        · omega
        · have hd := aDm (a := a') (b := b') (by omega) (by omega)
          rw [hs, hd.1] at ea
          rw [hs, hd.2] at eb
          refine ⟨_, List.mem_singleton.mpr rfl, fun q hq => (by cases hq), fun b0 hb0 => ?_⟩
          simp only [List.mem_cons, List.not_mem_nil, or_false] at hb0
          rcases hb0 with rfl | rfl
          · exact ⟨_, ea, by simp only; omega, by simp only; omega⟩
          · exact ⟨_, eb, by simp only; omega, by simp only; omega⟩
      · cases h
    · cases h
  · cases h
theorem aAYf_ok : kRok RO aAYf := by
  intro K ws h ρ R hD
  have hM := hD.1
  unfold aAYf at h
  split at h
  · rename_i h1 o1 k1 n1 d1 i1 hfa
    split at h
    · rename_i h2 o2 k2 n2 d2 i2 hfb
      split at h
      · rename_i c hc
        cases h
        unfold aAYp at hfb
        obtain ⟨-, zs, fk, e1, hF, hP⟩ := aFa hD.2.2 hfa (by decide) (by decide)
        obtain ⟨p, zs2, fk2, e2, hF2, hQ⟩ := aFa hD.2.2 hfb (by decide) (by decide)
        simp only [Bool.and_eq_true, decide_eq_true_eq] at p
        obtain ⟨rfl, rfl, rfl, rfl, rfl, -⟩ := p
        obtain ⟨w1, w2, w3, w4, w5, w6, rfl, f1, f2, f3, f4, f5, f6⟩ := sVal_6 e1
        obtain ⟨v1, v2, v3, v4, v5, v6, rfl, g1, g2, g3, g4, g5, g6⟩ := sVal_6 e2
        obtain rfl := Option.some.inj (f1.symm.trans g1)
        obtain rfl := Option.some.inj (f2.symm.trans g2)
        obtain rfl := Option.some.inj (f3.symm.trans g3)
        obtain rfl := Option.some.inj (f4.symm.trans g4)
        obtain rfl := Option.some.inj (f5.symm.trans g5)
        cases nI2_one hF hF2
        have hz := aAY_one aGHf (show aAY (aGH R.2.2.2.1) fk w1 w2 w3 w4 w5 w6 from hP) (show aAY (aGH R.2.2.2.1) fk w1 w2 w3 w4 w5 v6 from hQ)
        have hv := sK_ok hM.1 g6 hc
        refine ⟨_, List.mem_singleton.mpr rfl, fun q hq => (by cases hq), fun b0 hb0 => ?_⟩
        rcases List.mem_singleton.mp hb0 with rfl
        exact ⟨_, f6, by simp only; omega, by simp only; omega⟩
      · cases h
    · cases h
  · cases h
end AASK
end
