/-! The shortest way to say it: KINS; the class' rooms. -/
noncomputable section
/-- the KINS: which shelf, b, how long, how many, the place -/
def sfKs (d zl zk : Nat) (K : kS) : Option (Nat × sL × sL × sL) := match kWs_ d K with
  | some s => if d = 0 then (match nFf K.1.2.2.2.1 (40 + 2 * s) zl, nFf K.1.2.2.2.1 27 6, kLf K.1.2.1 4 with
      | some le, some m, some i => if kHav K.2 (14 + s) [sC (-1)] = true then some (s, le, m, i) else none
      | _, _, _ => none)
    else (match kToldI K.1.2.2.2.1 83 s, nFf K.1.2.2.2.1 52 zk with
      | some le, some m => some (s, le, m, m)
      | _, _ => none)
  | none => none
def sfCl (d : Nat) : Nat := if d = 0 then 28 else 73
def sfIx (d : Nat) (i m : sL) : sL := if d = 0 then i else sSub m (sC 1)
def sfKi0 (d zl zk : Nat) (K : kS) : Option kWs := match sfKs d zl zk K with
  | some (s, le, m, i) => if (decide (m = sC 0) && (decide (i = sC 0) && (sNN K.1.2.2.2.2.2.2 le && (kShb K.1.2.2.2.1 (sfCl d) .int 8 && !(kFa K.2 (294 + d) (fun _ => true)).isSome)))) = true then (if d = 0 then some [([(294, [jB s, m]), (296, [jB s, le, m])], [])] else if kLz K.1.2.2.2.1 84 360 = true then some [([(294 + d, [jB s, m]), (296, [jB s, le, m])], [])] else none) else none
  | none => none
def sfKs1 (d zl zk : Nat) (K : kS) : Option kWs := match sfKs d zl zk K with
  | some (s, le, m, i0) => (match kWv K.1.2.2.2.2.2.2 K.2 d s (sfIx d i0 m) 0 with
      | some x => if (kEqf K.1.2.2.2.2.2.2 (sfIx d i0 m) (sSub m (sC 1)) && (kHav K.2 (294 + d) [jB s, sSub m (sC 1)] && (kHav K.2 296 [jB s, le, sSub m (sC 1)] && (decide (kFindEl K.2 (sfCl d) (sfIx d i0 m) = some x) && (sNN K.1.2.2.2.2.2.2 x && (sNN K.1.2.2.2.2.2.2 (sSub (sC 7) x) && (sNN K.1.2.2.2.2.2.2 (sSub (sSub le (sSub m (sC 1))) (sC 1)) && sNN K.1.2.2.2.2.2.2 (sSub (sC 7) (sSub m (sC 1)))))))))) = true then some [([(294 + d, [jB s, m]), (296, [jB s, le, m])], [])] else none
      | none => none)
  | none => none
def sfKf (Γ : sG) (γ : List kA) (d s : Nat) (le i : sL) : Bool := sNN Γ (sSub i (sC 8)) || (sNN Γ (sSub i le) || (match kWv Γ γ d s i 0 with
  | some x => sNN Γ (sSub (sSub le i) (sC 1)) && (sNN Γ (sSub (sC 59) i) && (sNN Γ (sSub (sC (-1)) x) || sNN Γ (sSub x (sC 8))))
  | none => false))
def sfKe1 (d zl zk : Nat) (K : kS) : Option kWs := match sfKs d zl zk K with
  | some (s, le, m, i) => if (kEqf K.1.2.2.2.2.2.2 i m && (kHav K.2 296 [jB s, le, m] && sfKf K.1.2.2.2.2.2.2 K.2 d s le i)) = true then some [([(297, [jB s, le, m])], [])] else none
  | none => none
/-- b behind a word -/
def sfBW (K : kS) : Option kWs := match kLf K.1.2.1 1, kLf K.1.2.1 2, nFf K.1.2.2.2.1 27 6, kTop K with
  | some w, some i, some n, some r => (match kFa K.2 294 (sfN n) with
    | some [b, _] => if sNN K.1.2.2.2.2.2.2 (sSub (sAdd i (sC 1)) n) = true then (if (decide (r = sC 0) && (sNN K.1.2.2.2.2.2.2 i && (kHav K.2 75 [sC (-1)]))) = true then some [([(299, [b, n, sAdd i (sC 1), w, r])], [])] else none)
      else (match kFindEl K.2 28 (sAdd i (sC 1)), kFindEl K.2 28 i with
        | some u1, some u0 => if (sNN K.1.2.2.2.2.2.2 i && (sNN K.1.2.2.2.2.2.2 (sSub (sSub n (sAdd i (sC 1))) (sC 1)) && (sI32 K.1.2.2.2.2.2.2.1 u0 && (sI32 K.1.2.2.2.2.2.2.1 u1 && kHav K.2 75 [sC (-1)])))) = true then (if kEqf K.1.2.2.2.2.2.2 u1 u0 = true then (if (decide (kFindEl K.2 53 w = some r) && (sInR K.1.2.2.2.2.2.2 w 16 && sI32 K.1.2.2.2.2.2.2.1 r)) = true then some [([(299, [b, n, sAdd i (sC 1), w, r])], [])] else none)
            else if (decide (r = sC 0) && nNe K.1.2.2.2.2.2.2 u1 u0) = true then some [([(299, [b, n, sAdd i (sC 1), w, r])], [])] else none) else none
        | _, _ => none)
    | _ => none)
  | _, _, _, _ => none
def sfBBi (K : kS) : Option kWs := match kLf K.1.2.1 1, kLf K.1.2.1 2, kLf K.1.2.1 3, nFf K.1.2.2.2.1 27 6 with
  | some p, some m, some w, some n => (match kFa K.2 294 (sfN n), kFa K.2 298 (fun _ => true) with
    | some [b, _], none => if (decide (w = sC 0) && (sfNE K.2 && ((decide (sK K.1.2.2.2.2.2.2.1 p = some 0) && decide (m = sC 1)) || (sNN K.1.2.2.2.2.2.2 (sSub p (sC 1)) && decide (m = sC 0))))) = true then some [([(298, [b, n, p, w, m])], [])] else none
    | _, _ => none)
  | _, _, _, _ => none
def sfBBq (n p w : sL) (fs : List sL) : Bool := match fs with
  | [_, n', p', w', _] => decide (n' = n) && (decide (p' = p) && decide (w' = w))
  | _ => false
def sfBBs (K : kS) : Option kWs := match kLf K.1.2.1 1, kLf K.1.2.1 2, kLf K.1.2.1 3, nFf K.1.2.2.2.1 27 6 with
  | some p, some m, some w, some n => (match kFa K.2 298 (sfBBq n p w), kFa K.2 294 (sfN n) with
    | some [b, _, _, _, m0], some [b', _] => if (sNN K.1.2.2.2.2.2.2 (sSub p (sC 1)) && (decide (b' = b) && sfNE K.2)) = true then (match sfKi K.1.2.2.2.2.2.2 K.2 28 w (sSub p (sC 1)) n with
        | some false => if m = m0 then some [([(298, [b, n, p, sAdd w (sC 1), m])], [])] else none
        | some true => (match kFa K.2 299 (tPre [b, n, p, w]) with
          | some [_, _, _, _, be] => (match aBn K.1.2.2.2.2.2.2 6 (sC 1) be with
            | some bt => if (sWf K.1.2.2.2.2.2.2 be 0 31 && (decide (aBn K.1.2.2.2.2.2.2 4 m0 bt = some m) && sI32 K.1.2.2.2.2.2.2.1 m0)) = true then some [([(298, [b, n, p, sAdd w (sC 1), m])], [])] else none
            | none => none)
          | _ => none)
        | none => none) else none
    | _, _ => none)
  | _, _, _, _ => none
def sfBBr (n p m : sL) (fs : List sL) : Bool := match fs with
  | [_, n', p', _, m'] => decide (n' = n) && (decide (p' = p) && decide (m' = m))
  | _ => false
def sfBBe (K : kS) : Option kWs := match kLf K.1.2.1 1, kLf K.1.2.1 2, nFf K.1.2.2.2.1 27 6, nFf K.1.2.2.2.1 1 1 with
  | some p, some m, some n, some N => (match kFa K.2 298 (sfBBr n p m) with
    | some [b, _, _, w, _] => if (decide (sK K.1.2.2.2.2.2.2.1 p = some 0) || kEqf K.1.2.2.2.2.2.2 w N) = true then some [([(298, [b, n, p, N, m])], [])] else none
    | _ => none)
  | _, _, _, _ => none
section SFB
variable {RO : List (Nat × (Nat → Int32))} {ρ : List Int} {Γ : sG} {γ : List kA} {H : List eE}
theorem sfKs_ok {d zl zk : Nat} {K : kS} {R : eR} (hD : kD (kGP (kUP RO)) ρ K R) {s : Nat} {le m i : sL} (h : sfKs d zl zk K = some (s, le, m, i)) : s < 6 ∧ (∃ z, sEv ρ le = some z) ∧ (∃ z, sEv ρ m = some z) ∧ (∃ z, sEv ρ i = some z) ∧ (d = 0 → kHav K.2 (14 + s) [sC (-1)] = true) := by
  have hH := hD.2.1.2.2.2.1
  unfold sfKs at h
  split at h
  · rename_i s' hs
    have h6 := kWs_lt hs
    split at h
    · split at h
      · rename_i le' m' i' h1 h2 h3
        split at h
        · rename_i hc
          cases h
          exact ⟨h6, nFf_ok hH h1, nFf_ok hH h2, kLf_ok hD.2.1 h3, fun _ => hc⟩
        · cases h
      · cases h
    · rename_i hd
      split at h
      · rename_i le' m' h1 h2
        cases h
        exact ⟨h6, nToldE hH h1, nFf_ok hH h2, nFf_ok hH h2, fun q => absurd q hd⟩
      · cases h
  · cases h
theorem sfSP {d : Nat} (hd : d = 0 ∨ d = 1) {b m : sL} {zb zm : Int} (eb : sEv ρ b = some zb) (em : sEv ρ m = some zm) (h : nSP (sfCl d) 8 zb zm H) : kGh (kGP (kUP RO)) ρ [(294 + d, [b, m])] H := by
  rcases hd with rfl | rfl
  · exact kAt1 (zs := [zb, zm]) (by decide) (by simp only [sVal, eb, em]) ((kUPn (by decide)).mpr ((sfUP (by decide)).mpr (show ∃ a b, [zb, zm] = [a, b] ∧ nSP 28 8 a b H from ⟨_, _, rfl, h⟩)))
  · exact kAt1 (zs := [zb, zm]) (by decide) (by simp only [sVal, eb, em]) ((kUPn (by decide)).mpr ((sfUP (by decide)).mpr (show ∃ a b, [zb, zm] = [a, b] ∧ nSP 73 8 a b H from ⟨_, _, rfl, h⟩)))
theorem sfSPe {d : Nat} (hd : d = 0 ∨ d = 1) (hg : kGh (kGP (kUP RO)) ρ γ H) {b m : sL} {zb zm : Int} (eb : sEv ρ b = some zb) (em : sEv ρ m = some zm) (h : kHav γ (294 + d) [b, m] = true) : nSP (sfCl d) 8 zb zm H := by
  rcases hd with rfl | rfl
  · obtain ⟨zs, e, h2⟩ := kHav_ok hg h (by decide)
    obtain ⟨y1, y2, rfl, f1, f2⟩ := sVal_2 e
    cases f1.symm.trans eb
    cases f2.symm.trans em
    obtain ⟨a', b', he, hS⟩ : ∃ a b, [zb, zm] = [a, b] ∧ nSP 28 8 a b H := (sfUP (by decide)).mp ((kUPn (by decide)).mp h2)
    cases he
    exact hS
  · obtain ⟨zs, e, h2⟩ := kHav_ok hg h (by decide)
    obtain ⟨y1, y2, rfl, f1, f2⟩ := sVal_2 e
    cases f1.symm.trans eb
    cases f2.symm.trans em
    obtain ⟨a', b', he, hS⟩ : ∃ a b, [zb, zm] = [a, b] ∧ nSP 73 8 a b H := (sfUP (by decide)).mp ((kUPn (by decide)).mp h2)
    cases he
    exact hS
theorem sfNP {b le m : sL} {zb zl zm : Int} (eb : sEv ρ b = some zb) (el : sEv ρ le = some zl) (em : sEv ρ m = some zm) (h : pNP H zb zl zm) : kGh (kGP (kUP RO)) ρ [(296, [b, le, m])] H := kAt1 (zs := [zb, zl, zm]) (by decide) (by simp only [sVal, eb, el, em]) ((kUPn (by decide)).mpr ((sfUP (by decide)).mpr (show ∃ b le m, [zb, zl, zm] = [b, le, m] ∧ pNP H b le m from ⟨_, _, _, rfl, h⟩)))
theorem sfNPe (hg : kGh (kGP (kUP RO)) ρ γ H) {b le m : sL} {zb zl zm : Int} (eb : sEv ρ b = some zb) (el : sEv ρ le = some zl) (em : sEv ρ m = some zm) (h : kHav γ 296 [b, le, m] = true) : pNP H zb zl zm := by
  obtain ⟨zs, e, h2⟩ := kHav_ok hg h (by decide)
  obtain ⟨y1, y2, y3, rfl, f1, f2, f3⟩ := sVal_3 e
  cases f1.symm.trans eb
  cases f2.symm.trans el
  cases f3.symm.trans em
  obtain ⟨a', b', c', he, hS⟩ : ∃ b le m, [zb, zl, zm] = [b, le, m] ∧ pNP H b le m := (sfUP (by decide)).mp ((kUPn (by decide)).mp h2)
  cases he
  exact hS
theorem sfKi0_ok {d : Nat} (hd : d = 0 ∨ d = 1) (zl zk : Nat) : kRok RO (sfKi0 d zl zk) := by
  intro K ws h ρ R hD
  have hM := hD.1
  unfold sfKi0 at h
  split at h
  · rename_i s le m i hs
    split at h
    · rename_i hc
      simp only [Bool.and_eq_true, decide_eq_true_eq] at hc
      obtain ⟨rfl, rfl, c3, c4, -⟩ := hc
      obtain ⟨h6, ⟨zl', el⟩, -, -, h14⟩ := sfKs_ok hD hs
      have d3 := sNN_ok hM el c3
      have go : ∀ g : Nat → Int64, kLg 84 360 g R.2.2.2.1 → kGh (kGP (kUP RO)) ρ [(294 + d, [jB s, sC 0]), (296, [jB s, le, sC 0])] R.2.2.2.1 := fun g hG => by
        have hS : ∃ S, nI2 R.2.2.2.1 (sfCl d) 8 S := by
          rcases hd with rfl | rfl
          · exact kSh1 hD.2.1.2.2.2.1 (by decide) rfl c4
          · exact kSh1 hD.2.1.2.2.2.1 (by decide) rfl c4
        obtain ⟨S, hS⟩ := hS
        exact kGh_cons (sfSP hd (jB_ev s) (sEv_C 0) ⟨S, g, hS, hG, by omega, fun k hk => by omega⟩) (sfNP (jB_ev s) el (sEv_C 0) ⟨g, hG, by omega, Int.le_refl _, by decide, d3, fun i hi => by omega⟩)
      split at h
      · rename_i hd0
        subst hd0
        cases h
        obtain ⟨f, g, q1, q2, q3⟩ := kHavEL h6 hD.2.2 (h14 rfl)
        exact ⟨_, List.mem_singleton.mpr rfl, go g q2, fun b hb => by cases hb⟩
      · split at h
        · rename_i hz
          cases h
          obtain ⟨g, q2⟩ := kLz_ok hD.2.1.2.2.2.1 hz
          exact ⟨_, List.mem_singleton.mpr rfl, go g q2, fun b hb => by cases hb⟩
        · cases h
    · cases h
  · cases h
theorem sfKs1_ok {d : Nat} (hd : d = 0 ∨ d = 1) (zl zk : Nat) : kRok RO (sfKs1 d zl zk) := by
  intro K ws h ρ R hD
  have hM := hD.1
  unfold sfKs1 at h
  split at h
  · rename_i s le m i0 hs
    obtain ⟨h6, ⟨zl', el⟩, ⟨zm, em⟩, ⟨zi0, ei0⟩, h14⟩ := sfKs_ok hD hs
    have ei : ∃ zi, sEv ρ (sfIx d i0 m) = some zi := by
      rcases hd with rfl | rfl
      · exact ⟨zi0, ei0⟩
      · exact ⟨_, sEv_sub em (sEv_C 1)⟩
    generalize hi : sfIx d i0 m = i at h ei
    obtain ⟨zi, ei⟩ := ei
    split at h
    · rename_i x hx
      split at h
      · rename_i hc
        cases h
        simp only [Bool.and_eq_true, decide_eq_true_eq] at hc
        obtain ⟨c1, c2, c3, c4, c5, c6, c7, c8⟩ := hc
        have em1 := sEv_sub em (sEv_C (ρ := ρ) 1)
        have := kEqf_ok hM ei em1 c1
        subst this
        have hS := sfSPe hd hD.2.2 (jB_ev s) em1 c2
        obtain ⟨g, hG, b0, m0, m8, ml, hN⟩ := sfNPe hD.2.2 (jB_ev s) el em1 c3
        have d7 := sNN_ok hM (sEv_sub (sEv_sub el em1) (sEv_C 1)) c7
        have d8 := sNN_ok hM (sEv_sub (sEv_C 7) em1) c8
        have ex := jEl hM hD.2.2 h6 hG h14 ei m0 (by omega) hx
        have d5 := sNN_ok hM ex c5
        have d6 := sNN_ok hM (sEv_sub (sEv_C 7) ex) c6
        obtain ⟨zx, ex2, kx⟩ := kFindEl_ok hD.2.2 c4 ei
        cases ex2.symm.trans ex
        obtain ⟨S, g', s1, s2, s3, s4⟩ := hS
        cases kLg_one hG s2
        refine ⟨_, List.mem_singleton.mpr rfl, kGh_cons (sfSP hd (jB_ev s) em ⟨S, g, s1, hG, s3, fun k hk => ?_⟩) (sfNP (jB_ev s) el em ⟨g, hG, b0, by omega, by omega, by omega, fun k hk => ?_⟩), fun b hb => by cases hb⟩
        · by_cases e : (k : Int) = zm - 1
          · have e : k = (zm - 1).toNat := by omega
            subst e
            rw [(kElA kx s1).2]
            unfold jW nWd
            rw [Int32.ofInt_toInt]
          · exact s4 k (by omega)
        · by_cases e : (k : Int) = zm - 1
          · have e : k = (zm - 1).toNat := by omega
            subst e
            exact ⟨d5, by omega⟩
          · exact hN k (by omega)
      · cases h
    · cases h
  · cases h
theorem sfKe1_ok {d : Nat} (zl zk : Nat) : kRok RO (sfKe1 d zl zk) := by
  intro K ws h ρ R hD
  have hM := hD.1
  unfold sfKe1 at h
  split at h
  · rename_i s le m i hs
    split at h
    · rename_i hc
      cases h
      simp only [Bool.and_eq_true] at hc
      obtain ⟨c1, c2, c3⟩ := hc
      obtain ⟨h6, ⟨zl', el⟩, ⟨zm, em⟩, ⟨zi, ei⟩, h14⟩ := sfKs_ok hD hs
      have := kEqf_ok hM ei em c1
      subst this
      obtain ⟨g, hG, b0, m0, m8, ml, hN⟩ := sfNPe hD.2.2 (jB_ev s) el em c2
      have fin : zi = 8 ∨ zi = zl' ∨ ¬ (0 ≤ jW g (60 * (s : Int)) zi.toNat ∧ jW g (60 * (s : Int)) zi.toNat ≤ 7) := by
        unfold sfKf at c3
        rcases Bool.or_eq_true_iff.mp c3 with c3 | c3
        · have := sNN_ok hM (sEv_sub ei (sEv_C 8)) c3
          exact Or.inl (by omega)
        · rcases Bool.or_eq_true_iff.mp c3 with c3 | c3
          · have := sNN_ok hM (sEv_sub ei el) c3
            exact Or.inr (Or.inl (by omega))
          · split at c3
            · rename_i x hx
              simp only [Bool.and_eq_true] at c3
              obtain ⟨c4, c5, c6⟩ := c3
              have d4 := sNN_ok hM (sEv_sub (sEv_sub el ei) (sEv_C 1)) c4
              have d5 := sNN_ok hM (sEv_sub (sEv_C 59) ei) c5
              have ex := jEl hM hD.2.2 h6 hG h14 ei m0 (by omega) hx
              rcases Bool.or_eq_true_iff.mp c6 with c6 | c6
              · have := sNN_ok hM (sEv_sub (sEv_C (-1)) ex) c6
                exact Or.inr (Or.inr (by omega))
              · have := sNN_ok hM (sEv_sub ex (sEv_C 8)) c6
                exact Or.inr (Or.inr (by omega))
            · cases c3
      exact ⟨_, List.mem_singleton.mpr rfl, kAt1 (zs := [60 * (s : Int), zl', zi]) (by decide) (by simp only [sVal, jB_ev, el, em]) ((kUPn (by decide)).mpr ((sfUP (by decide)).mpr (show ∃ b le m, [60 * (s : Int), zl', zi] = [b, le, m] ∧ pNK _ b le m from ⟨_, _, _, rfl, g, hG, b0, m0, m8, ml, hN, fin⟩))), fun b hb => by cases hb⟩
    · cases h
  · cases h
theorem sfN_ok (hg : kGh (kGP (kUP RO)) ρ γ H) {n b n' : sL} {zn : Int} (en : sEv ρ n = some zn) (h : kFa γ 294 (sfN n) = some [b, n']) : ∃ zb, sEv ρ b = some zb ∧ nSP 28 8 zb zn H := by
  obtain ⟨q, zs, e, k2⟩ := nFa_ok hg h (by decide) (by decide)
  unfold sfN at q
  have q := of_decide_eq_true q
  subst q
  obtain ⟨zb, zn2, rfl, eb, en2⟩ := sVal_2 e
  cases en2.symm.trans en
  obtain ⟨a', b'', he, hS⟩ : ∃ a b, [zb, zn] = [a, b] ∧ nSP 28 8 a b H := (sfUP (by decide)).mp k2
  cases he
  exact ⟨zb, eb, hS⟩
theorem sfN53 (hg : kGh (kGP (kUP RO)) ρ γ H) (h : kHav γ 75 [sC (-1)] = true) : ∃ f, nI2 H 53 16 f := by
  obtain ⟨zs, e, h2⟩ := kHav_ok hg h (by decide)
  obtain ⟨z, rfl, e1⟩ := sVal_1 e
  obtain ⟨f, g, q1, q2, q3⟩ := nUP_NE (k := 75) ⟨by decide, by decide⟩ ((kUPn (by decide)).mp h2)
  exact ⟨g, q2⟩
theorem sfAtW {b n k w be : sL} {zb zn zk zw zbe : Int} (e1 : sEv ρ b = some zb) (e2 : sEv ρ n = some zn) (e3 : sEv ρ k = some zk) (e4 : sEv ρ w = some zw) (e5 : sEv ρ be = some zbe) (h : pBW H zb zn zk zw zbe) : kGh (kGP (kUP RO)) ρ [(299, [b, n, k, w, be])] H := kAt1 (zs := [zb, zn, zk, zw, zbe]) (by decide) (by simp only [sVal, e1, e2, e3, e4, e5]) ((kUPn (by decide)).mpr ((sfUP (by decide)).mpr (show ∃ b n k w be, [zb, zn, zk, zw, zbe] = [b, n, k, w, be] ∧ pBW H b n k w be from ⟨_, _, _, _, _, rfl, h⟩)))
theorem sfBW_ok : kRok RO sfBW := by
  intro K ws h ρ R hD
  have hM := hD.1
  unfold sfBW at h
  split at h
  · rename_i w i n r hw hi hn hr
    obtain ⟨zw, ew⟩ := kLf_ok hD.2.1 hw
    obtain ⟨zi, ei⟩ := kLf_ok hD.2.1 hi
    obtain ⟨zn, en⟩ := nFf_ok hD.2.1.2.2.2.1 hn
    have ek := sEv_add ei (sEv_C (ρ := ρ) 1)
    split at h
    · rename_i b n' hfa
      obtain ⟨zb, eb, hS⟩ := sfN_ok hD.2.2 en hfa
      obtain ⟨S, g, s1, hG, s3, s4⟩ := id hS
      split at h
      · rename_i hc
        have d := sNN_ok hM (sEv_sub ek en) hc
        split at h
        · rename_i hc2
          cases h
          simp only [Bool.and_eq_true, decide_eq_true_eq] at hc2
          obtain ⟨rfl, c2, c3⟩ := hc2
          obtain ⟨fn, q2⟩ := sfN53 hD.2.2 c3
          refine ⟨_, List.mem_singleton.mpr rfl, sfAtW eb en ek ew (sEv_C 0) ⟨g, fn, hG, q2, ?_⟩, fun b hb => by cases hb⟩
          split
          · unfold pBc
            rw [if_neg (by omega)]
          · rfl
        · cases h
      · split at h
        · rename_i u1 u0 h1 h0
          split at h
          · rename_i hc
            simp only [Bool.and_eq_true] at hc
            obtain ⟨c1, c2, c3, c4, c5⟩ := hc
            have d1 := sNN_ok hM ei c1
            have d2 := sNN_ok hM (sEv_sub (sEv_sub en ek) (sEv_C 1)) c2
            obtain ⟨fn, q2⟩ := sfN53 hD.2.2 c5
            obtain ⟨z1, e1, k1⟩ := kFindEl_ok hD.2.2 h1 ek
            obtain ⟨z0, e0, k0⟩ := kFindEl_ok hD.2.2 h0 ei
            have v1 := n32i (sWi_ok hM.1 e1 c4) (sfWr g zb _) (sfKe hG hS (by omega) (by omega) k1)
            have v0 := n32i (sWi_ok hM.1 e0 c3) (sfWr g zb _) (sfKe hG hS d1 (by omega) k0)
            split at h
            · rename_i hq
              have hq := kEqf_ok hM e1 e0 hq
              split at h
              · rename_i hc2
                cases h
                simp only [Bool.and_eq_true, decide_eq_true_eq] at hc2
                obtain ⟨f1, f2, f3⟩ := hc2
                obtain ⟨zr, er, kr⟩ := kFindEl_ok hD.2.2 f1 ew
                refine ⟨_, List.mem_singleton.mpr rfl, sfAtW eb en ek ew er ⟨g, fn, hG, q2, ?_⟩, fun b hb => by cases hb⟩
                rw [if_pos (by omega)]
                unfold pBc
                rw [if_pos ⟨by omega, by rw [show zi + 1 - 1 = zi by omega, ← v1, ← v0]; exact hq⟩]
                exact n32i (sWi_ok hM.1 er f3) (sfRng _) (by rw [Int32.ofInt_toInt]; exact (kElA kr q2).2.symm)
              · cases h
            · split at h
              · rename_i hc2
                cases h
                rw [Bool.and_eq_true, decide_eq_true_eq] at hc2
                obtain ⟨rfl, f2⟩ := hc2
                have hne := nNe_ok hM e1 e0 f2
                refine ⟨_, List.mem_singleton.mpr rfl, sfAtW eb en ek ew (sEv_C 0) ⟨g, fn, hG, q2, ?_⟩, fun b hb => by cases hb⟩
                rw [if_pos (by omega)]
                unfold pBc
                rw [if_neg (fun q => hne (by rw [v1, v0, q.2, show zi + 1 - 1 = zi by omega]))]
              · cases h
          · cases h
        · cases h
    · cases h
  · cases h
theorem sfAtB {b n k w m : sL} {zb zn zk zw zm : Int} (e1 : sEv ρ b = some zb) (e2 : sEv ρ n = some zn) (e3 : sEv ρ k = some zk) (e4 : sEv ρ w = some zw) (e5 : sEv ρ m = some zm) (h : pBB H zb zn zk zw zm) : kGh (kGP (kUP RO)) ρ [(298, [b, n, k, w, m])] H := kAt1 (zs := [zb, zn, zk, zw, zm]) (by decide) (by simp only [sVal, e1, e2, e3, e4, e5]) ((kUPn (by decide)).mpr ((sfUP (by decide)).mpr (show ∃ b n k w m, [zb, zn, zk, zw, zm] = [b, n, k, w, m] ∧ pBB H b n k w m from ⟨_, _, _, _, _, rfl, h⟩)))
theorem sfBBi_ok : kRok RO sfBBi := by
  intro K ws h ρ R hD
  have hM := hD.1
  unfold sfBBi at h
  split at h
  · rename_i p m w n hp hm hw hn
    split at h
    · rename_i b n' hfa hno
      split at h
      · rename_i hc
        cases h
        simp only [Bool.and_eq_true, Bool.or_eq_true, decide_eq_true_eq] at hc
        obtain ⟨rfl, c2, c3⟩ := hc
        obtain ⟨zp, ep⟩ := kLf_ok hD.2.1 hp
        obtain ⟨zn, en⟩ := nFf_ok hD.2.1.2.2.2.1 hn
        obtain ⟨zb, eb, S, g, s1, hG, s3, s4⟩ := sfN_ok hD.2.2 en hfa
        obtain ⟨fn, fk, fl, hW⟩ := sfNE_ok hD.2.2 c2
        rcases c3 with ⟨c3, rfl⟩ | ⟨c3, rfl⟩
        · have hp0 := sK_ok hM.1 ep c3
          subst hp0
          refine ⟨_, List.mem_singleton.mpr rfl, sfAtB eb en ep (sEv_C 0) (sEv_C 1) ⟨g, fn, fk, hG, hW.1, hW.2.1, ?_⟩, fun b hb => by cases hb⟩
          refine aBs_imp (aBs_bit (w := 0) (by decide)) (fun i hi => ⟨fun e => Or.inl ⟨rfl, e⟩, fun e => ?_⟩)
          rcases e with ⟨-, e⟩ | ⟨e, -⟩
          · exact e
          · exact absurd e (by decide)
        · have d := sNN_ok hM (sEv_sub ep (sEv_C 1)) c3
          refine ⟨_, List.mem_singleton.mpr rfl, sfAtB eb en ep (sEv_C 0) (sEv_C 0) ⟨g, fn, fk, hG, hW.1, hW.2.1, aBs_0 (fun i hi q => ?_)⟩, fun b hb => by cases hb⟩
          rcases q with ⟨q, -⟩ | ⟨-, w', w0, w1, -⟩ <;> omega
      · cases h
    · cases h
  · cases h
theorem sfBBx (hg : kGh (kGP (kUP RO)) ρ γ H) {b n p w m : sL} {q : List sL → Bool} (h : kFa γ 298 q = some [b, n, p, w, m]) : q [b, n, p, w, m] = true ∧ ∃ zb zn zp zw zm, sEv ρ b = some zb ∧ sEv ρ n = some zn ∧ sEv ρ p = some zp ∧ sEv ρ w = some zw ∧ sEv ρ m = some zm ∧ pBB H zb zn zp zw zm := by
  obtain ⟨h1, zs, e, h2⟩ := nFa_ok hg h (by decide) (by decide)
  obtain ⟨y1, y2, y3, y4, y5, rfl, f1, f2, f3, f4, f5⟩ := sVal_5 e
  obtain ⟨a1, a2, a3, a4, a5, he, hB⟩ : ∃ b n k w m, [y1, y2, y3, y4, y5] = [b, n, k, w, m] ∧ pBB H b n k w m := (sfUP (by decide)).mp h2
  cases he
  exact ⟨h1, _, _, _, _, _, f1, f2, f3, f4, f5, hB⟩
theorem sfBBs_ok : kRok RO sfBBs := by
  intro K ws h ρ R hD
  have hM := hD.1
  unfold sfBBs at h
  split at h
  · rename_i p m w n hp hm hw hn
    split at h
    · rename_i b n1 p1 w1 m0 b' n2 hfa hks
      split at h
      · rename_i hc
        simp only [Bool.and_eq_true, decide_eq_true_eq] at hc
        obtain ⟨c1, rfl, c3⟩ := hc
        obtain ⟨q, zb, zn, zp, zw, zm0, eb, en, ep, ew, em0, g, fn, fk, hG, hN, hK, hB⟩ := sfBBx hD.2.2 hfa
        unfold sfBBq at q
        simp only [Bool.and_eq_true, decide_eq_true_eq] at q
        obtain ⟨rfl, rfl, rfl⟩ := q
        obtain ⟨zb', eb', hS⟩ := sfN_ok hD.2.2 en hks
        cases eb'.symm.trans eb
        obtain ⟨fn', fk', fl, hW⟩ := sfNE_ok hD.2.2 c3
        cases hN.symm.trans hW.1
        cases hK.symm.trans hW.2.1
        have d1 := sNN_ok hM (sEv_sub ep (sEv_C 1)) c1
        have ew1 := sEv_add ew (sEv_C (ρ := ρ) 1)
        split at h
        · rename_i hk
          split at h
          · rename_i he
            cases h
            subst he
            obtain ⟨w0, w16, -, -, hiff⟩ := sfKi_ok hM hD.2.2 hG hW hS ew (sEv_sub ep (sEv_C 1)) en hk
            refine ⟨_, List.mem_singleton.mpr rfl, sfAtB eb en ep ew1 em0 ⟨g, fn, fk, hG, hN, hK, aBs_imp hB (fun i hi => ?_)⟩, fun b hb => by cases hb⟩
            refine or_congr Iff.rfl (and_congr Iff.rfl ⟨fun ⟨w', a1, a2, a3⟩ => ⟨w', a1, by omega, a3⟩, fun ⟨w', a1, a2, a3⟩ => ⟨w', a1, ?_, a3⟩⟩)
            by_cases e : w' = zw
            · subst e
              exact absurd (hiff.mpr a3.1) Bool.false_ne_true
            · omega
          · cases h
        · rename_i hk
          split at h
          · rename_i x1 x2 x3 x4 be hbw
            split at h
            · rename_i bt hbt
              split at h
              · rename_i hc2
                cases h
                simp only [Bool.and_eq_true, decide_eq_true_eq] at hc2
                obtain ⟨f1, f2, f3⟩ := hc2
                obtain ⟨w0, w16, -, -, hiff⟩ := sfKi_ok hM hD.2.2 hG hW hS ew (sEv_sub ep (sEv_C 1)) en hk
                have hkin := hiff.mp rfl
                obtain ⟨hpre, zs, e, h2⟩ := nFa_ok hD.2.2 hbw (by decide) (by decide)
                have he := sfTk hpre
                simp only [List.length_cons, List.length_nil, List.drop_succ_cons, List.drop_zero, List.cons_append, List.nil_append, List.cons.injEq, and_true] at he
                obtain ⟨rfl, rfl, rfl, rfl⟩ := he
                obtain ⟨y1, y2, y3, y4, y5, rfl, k1, k2, k3, k4, k5⟩ := sVal_5 e
                cases k1.symm.trans eb
                cases k2.symm.trans en
                cases k3.symm.trans ep
                cases k4.symm.trans ew
                obtain ⟨a1, a2, a3, a4, a5, he, g', fn'', hG', hN', hbe⟩ : ∃ b n k w be, [zb, zn, zp, zw, y5] = [b, n, k, w, be] ∧ pBW R.2.2.2.1 b n k w be := (sfUP (by decide)).mp h2
                cases he
                cases kLg_one hG hG'
                cases hN.symm.trans hN'
                rw [if_pos (by omega)] at hbe
                obtain ⟨z5, e5, b1, b2⟩ := sWf_has hM f1
                cases e5.symm.trans k5
                have ebt := aBn_ok hM (sEv_C 1) k5 hbt
                have em := aBn_ok hM em0 ebt f2
                refine ⟨_, List.mem_singleton.mpr rfl, sfAtB eb en ep ew1 em ⟨g, fn, fk, hG, hN, hK, ?_⟩, fun b hb => by cases hb⟩
                have hb := aBs_bit (w := y5.toNat) (by omega)
                rw [show ((y5.toNat : Nat) : Int) = y5 by omega] at hb
                refine aBs_imp (aBs_or hB hb) (fun i hi => ⟨fun q => ?_, fun q => ?_⟩)
                · rcases q with (q | ⟨q0, w', q1, q2, q3⟩) | q
                  · exact Or.inl q
                  · exact Or.inr ⟨q0, w', q1, by omega, q3⟩
                  · subst q
                    exact Or.inr ⟨by omega, zw, w0, by omega, hkin, by omega⟩
                · rcases q with q | ⟨q0, w', q1, q2, q3, q4⟩
                  · exact Or.inl (Or.inl q)
                  · by_cases e : w' = zw
                    · subst e
                      exact Or.inr (by omega)
                    · exact Or.inl (Or.inr ⟨q0, w', q1, by omega, q3, q4⟩)
              · cases h
            · cases h
          · cases h
        · cases h
      · cases h
    · cases h
  · cases h
theorem sfBBe_ok : kRok RO sfBBe := by
  intro K ws h ρ R hD
  have hM := hD.1
  unfold sfBBe at h
  split at h
  · rename_i p m n N hp hm hn hN
    split at h
    · rename_i b n1 p1 w m1 hfa
      split at h
      · rename_i hc
        cases h
        obtain ⟨q, zb, zn, zp, zw, zm, eb, en, ep, ew, em, g, fn, fk, hG, h1, h2, hB⟩ := sfBBx hD.2.2 hfa
        unfold sfBBr at q
        simp only [Bool.and_eq_true, decide_eq_true_eq] at q
        obtain ⟨rfl, rfl, rfl⟩ := q
        obtain ⟨zN, eN⟩ := nFf_ok hD.2.1.2.2.2.1 hN
        refine ⟨_, List.mem_singleton.mpr rfl, sfAtB eb en ep eN em ⟨g, fn, fk, hG, h1, h2, aBs_imp hB (fun i hi => ?_)⟩, fun b hb => by cases hb⟩
        rcases Bool.or_eq_true_iff.mp hc with hc | hc
        · have hp0 := sK_ok hM.1 ep (of_decide_eq_true hc)
          subst hp0
          exact or_congr Iff.rfl ⟨fun q => absurd q.1 (by decide), fun q => absurd q.1 (by decide)⟩
        · have := kEqf_ok hM ew eN hc
          subst this
          exact Iff.rfl
      · cases h
    · cases h
  · cases h
end SFB
end
