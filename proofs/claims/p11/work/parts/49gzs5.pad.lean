/-! How many must be put in: the reference, two. -/
noncomputable section
/-- whether two words are of one KIN -/
def pdLk (Γ : sG) (γ : List kA) (a b : sL) : Option Bool := match kFindEl γ 54 a, kFindEl γ 54 b with
  | some u, some v => if (sI32 Γ.1 u && sI32 Γ.1 v) = true then (if kEqf Γ u v = true then some true else if nNe Γ u v = true then some false else none) else none
  | _, _ => none
/-- a bit is set behind the atom so -/
def pdWr (K : kS) (hl b one x n N k p a o w e pt wt rt : sL) : Bool := match pdF2 K.2 347 [hl, b, one, x, n, N, k, p, a, o, w, e] with
  | some (i, old) => decide (i = pd75 pt wt rt) && (pdR3 K.1.2.2.2.2.2.2 pt wt rt && (((decide (sK K.1.2.2.2.2.2.2.1 old = some 0) || decide (sK K.1.2.2.2.2.2.2.1 old = some 2)) && decide (kFindEl K.2 75 i = some (sC 2))) || ((decide (sK K.1.2.2.2.2.2.2.1 old = some 1) || decide (sK K.1.2.2.2.2.2.2.1 old = some 3)) && decide (kFindEl K.2 75 i = some (sC 3)))))
  | none => false
def pdTGd (zh zk zw : Nat) (K : kS) : Option kWs := pB (sfM zh zk zw (kLf K.1.2.1 5) K) fun (hl, b, one, x, n, N) => pB (kLf K.1.2.1 1) fun k => pB (kLf K.1.2.1 2) fun p => pB (kLf K.1.2.1 3) fun a => pB (kLf K.1.2.1 4) fun o => pB (kLf K.1.2.1 6) fun w => pB (kLf K.1.2.1 7) fun th =>
  pI (decide (sfKi K.1.2.2.2.2.2.2 K.2 73 w k n = some true)) <| pI (kHav K.2 351 [hl, b, one, x, n, N, k, p, a, o]) <| pI (sNN K.1.2.2.2.2.2.2 (sSub (sSub N w) (sC 1))) <| pI (sNN K.1.2.2.2.2.2.2 k) <| pB (sfGn K.2 hl w (sAdd k p) a one) fun g =>
  (match sNN K.1.2.2.2.2.2.2 (sSub (sSub (sAdd o g) x) (sC 1)) && sNN K.1.2.2.2.2.2.2 x with
  | true => pI (kHav K.2 346 [hl, b, one, x, n, N, k, p, a, o, w, sC (-1)]) <| pO [(346, [hl, b, one, x, n, N, k, p, a, o, w, sC 0])]
  | false => pI (aIsp K.1.2.2.2.2.2.2 th (sAdd o g)) <| pI (sNN K.1.2.2.2.2.2.2 (sSub x th)) <| pI (pdWr K hl b one x n N k p a o w (sC (-1)) p w th) <| pO [(346, [hl, b, one, x, n, N, k, p, a, o, w, sC 0])])
def pdTGe (zh zk zw : Nat) (K : kS) : Option kWs := pB (sfM zh zk zw (kLf K.1.2.1 5) K) fun (hl, b, one, x, n, N) => pB (kLf K.1.2.1 1) fun k => pB (kLf K.1.2.1 2) fun p => pB (kLf K.1.2.1 3) fun a => pB (kLf K.1.2.1 4) fun o => pB (kLf K.1.2.1 6) fun w => pB (kLf K.1.2.1 8) fun e =>
  pI (kHav K.2 351 [hl, b, one, x, n, N, k, p, a, o]) <| pI (sNN K.1.2.2.2.2.2.2 e) <| pI (sNN K.1.2.2.2.2.2.2 (sSub (sSub N e) (sC 1))) <| pI (sNN K.1.2.2.2.2.2.2 w) <| pI (sNN K.1.2.2.2.2.2.2 (sSub (sSub N w) (sC 1))) <| pI (sNN K.1.2.2.2.2.2.2 (sSub k (sC 1))) <|
  (match decide (pdLk K.1.2.2.2.2.2.2 K.2 e w = some true) || decide (pdLk K.1.2.2.2.2.2.2 K.2 e a = some true) with
  | true => pI (kHav K.2 346 [hl, b, one, x, n, N, k, p, a, o, w, e]) <| pO [(346, [hl, b, one, x, n, N, k, p, a, o, w, sAdd e (sC 1)])]
  | false => pI (decide (pdLk K.1.2.2.2.2.2.2 K.2 e w = some false)) <| pI (decide (pdLk K.1.2.2.2.2.2.2 K.2 e a = some false)) <| pB (sfGn K.2 hl e (sAdd k p) a one) fun g1 => pI (sNN K.1.2.2.2.2.2.2 x) <|
    (match sNN K.1.2.2.2.2.2.2 (sSub (sSub (sAdd o g1) x) (sC 1)) with
    | true => pI (kHav K.2 346 [hl, b, one, x, n, N, k, p, a, o, w, e]) <| pO [(346, [hl, b, one, x, n, N, k, p, a, o, w, sAdd e (sC 1)])]
    | false => pB (kLf K.1.2.1 9) fun by_ => pI (aIsp K.1.2.2.2.2.2.2 by_ (sAdd o g1)) <| pI (sNN K.1.2.2.2.2.2.2 (sSub x by_)) <| pB (sfGn K.2 hl w (sAdd (sAdd k p) (sC 1)) e one) fun g2 =>
      (match sNN K.1.2.2.2.2.2.2 (sSub (sSub (sAdd by_ g2) x) (sC 1)) with
      | true => pI (kHav K.2 346 [hl, b, one, x, n, N, k, p, a, o, w, e]) <| pO [(346, [hl, b, one, x, n, N, k, p, a, o, w, sAdd e (sC 1)])]
      | false => pB (kLf K.1.2.1 10) fun la => pI (aIsp K.1.2.2.2.2.2.2 la (sAdd by_ g2)) <| pI (sNN K.1.2.2.2.2.2.2 (sSub x la)) <| pI (pdWr K hl b one x n N k p a o w e (sAdd p (sC 1)) w la) <| pO [(346, [hl, b, one, x, n, N, k, p, a, o, w, sAdd e (sC 1)])])))
def pdTGw (zh zk zw : Nat) (K : kS) : Option kWs := pB (sfM zh zk zw (kLf K.1.2.1 5) K) fun (hl, b, one, x, n, N) => pB (kLf K.1.2.1 1) fun k => pB (kLf K.1.2.1 2) fun p => pB (kLf K.1.2.1 3) fun a => pB (kLf K.1.2.1 4) fun o => pB (kLf K.1.2.1 6) fun w => pB (pdF1 K.2 346 [hl, b, one, x, n, N, k, p, a, o, w]) fun e =>
  (match decide (e = sC (-1)) with
  | true => pI (decide (sfKi K.1.2.2.2.2.2.2 K.2 73 w k n = some false)) <| pO [(346, [hl, b, one, x, n, N, k, p, a, o, sAdd w (sC 1), sC (-1)])]
  | false => pI (sNN K.1.2.2.2.2.2.2 (sSub e N) || (decide (k = sC 0) && decide (e = sC 0))) <| pO [(346, [hl, b, one, x, n, N, k, p, a, o, sAdd w (sC 1), sC (-1)])])
def pdTGo (zh zk zw : Nat) (K : kS) : Option kWs := pB (sfM zh zk zw (kLf K.1.2.1 5) K) fun (hl, b, one, x, n, N) => pB (kLf K.1.2.1 1) fun k => pB (kLf K.1.2.1 2) fun p => pB (kLf K.1.2.1 3) fun a => pB (kLf K.1.2.1 4) fun o => pB (kLf K.1.2.1 6) fun w => pI (kHav K.2 346 [hl, b, one, x, n, N, k, p, a, o, w, sC (-1)]) <| pI (sNN K.1.2.2.2.2.2.2 (sSub w N)) <| pO [(346, [hl, b, one, x, n, N, k, p, a, sAdd o (sC 1), sC 0, sC (-1)])]
def pdPRi (zh zk zw : Nat) (K : kS) : Option kWs := pB (pdQp zh zk zw K) fun (hl, b, one, x, n, N) => pB (kLf K.1.2.1 4) fun i => pI (decide (i = sC 0)) <| pI (!(kFa K.2 350 (fun _ => true)).isSome) <| pI (kHav K.2 345 [hl, b, one, x, n, N, n]) <| pO [(350, [hl, b, one, x, n, N, sC 0])]
def pdPRs (zh zk zw : Nat) (K : kS) : Option kWs := pB (pdQp zh zk zw K) fun (hl, b, one, x, n, N) => pB (kLf K.1.2.1 4) fun i => pI (kHav K.2 350 [hl, b, one, x, n, N, i]) <| pI (kHav K.2 345 [hl, b, one, x, n, N, n]) <| pB (kFindEl K.2 75 i) fun v => pI (decide (sK K.1.2.2.2.2.2.2.1 v = some 0)) <| pI (sNN K.1.2.2.2.2.2.2 i) <| pI (sNN K.1.2.2.2.2.2.2 (sSub (sC 12799) i)) <| pI (sNN K.1.2.2.2.2.2.2 (sSub n (sC 1))) <| pI (sNN K.1.2.2.2.2.2.2 (sSub (sC 99) x)) <| pO [(350, [hl, b, one, x, n, N, sAdd i (sC 1)])]
def pdPRe (zh zk zw : Nat) (K : kS) : Option kWs := pB (pdQp zh zk zw K) fun (hl, b, one, x, n, N) => pB (kLf K.1.2.1 2) fun ox => pB (kLf K.1.2.1 4) fun i => pB (kTop K) fun r => pB (kFa K.2 297 (sfKNq b n)) fun q => match q with
  | [_, le, _] => pI (decide (x = sSub ox (sMul 100 one))) <| pI (sNN K.1.2.2.2.2.2.2 x) <| pI (sNN K.1.2.2.2.2.2.2 (sSub (sC 99) x)) <| pI (sNN K.1.2.2.2.2.2.2 one) <| pI (sNN K.1.2.2.2.2.2.2 (sSub (sC 7) one)) <| pI (kHav K.2 350 [hl, b, one, x, n, N, i]) <| pI (sNN K.1.2.2.2.2.2.2 (sSub n (sC 1))) <|
    (match decide (r = sC (-2)) with
    | true => pI (sNN K.1.2.2.2.2.2.2 (sSub i (sC 12800))) <| pO [(343, [hl, b, le, ox, N, sC (-2)])]
    | false => pB (kFindEl K.2 75 i) fun v => pI (decide (sK K.1.2.2.2.2.2.2.1 v = some 1)) <| pI (kHav K.2 345 [hl, b, one, x, n, N, n]) <| pI (sNN K.1.2.2.2.2.2.2 (sSub i (sMul 1600 r))) <| pI (sNN K.1.2.2.2.2.2.2 (sSub (sAdd (sMul 1600 r) (sC 1599)) i)) <| pI (sNN K.1.2.2.2.2.2.2 i) <| pI (sNN K.1.2.2.2.2.2.2 (sSub (sC 12799) i)) <| some [([(343, [hl, b, le, ox, N, r])], [(r, 0, 7)])])
  | _ => none
def pdPR0 (zh zk zw : Nat) (K : kS) : Option kWs := pB (nFf K.1.2.2.2.1 52 zk) fun n => pB (nFf K.1.2.2.2.1 52 zh) fun hl => pB (nFf K.1.2.2.2.1 52 zw) fun N => pB (kLf K.1.2.1 2) fun ox => pB (kTop K) fun r => pI (decide (r = sC 0)) <| pI (decide (sK K.1.2.2.2.2.2.2.1 n = some 0)) <| pB (kFa K.2 297 (fun q => match q with
  | [_, _, n'] => decide (n' = n)
  | _ => false)) fun q => match q with
  | [b, le, _] => pI (kHav K.2 295 [b, n]) <| pI (pdSh K) <| pO [(343, [hl, b, le, ox, N, sC 0])]
  | _ => none
/-- what is written gets a name -/
def pdOFv (K : kS) : Option (List kS) := match K with
  | ((pc, ls, (0, v) :: (0, i) :: a :: st, G, c, s, Γ), γ) => if sWi Γ.1 v 0 99 = true then some [K] else if sWf Γ v 0 99 = true then some [((pc, ls, (0, sX Γ.1.length) :: (0, i) :: a :: st, G, c, s, (Γ.1 ++ [(0, 99)], sSub v (sX Γ.1.length) :: sSub (sX Γ.1.length) v :: Γ.2.1, Γ.2.2)), γ)] else some [K]
  | _ => some [K]
section PDI
variable {RO : List (Nat × (Nat → Int32))} {ρ : List Int} {Γ : sG} {γ : List kA} {H : List eE} {P : pP} {hl b one x n N : sL} {zh zb zo zx zn zN : Int}
theorem k350 : pdK 350 := pdKq (by decide) (by decide) (by decide) (by decide)
theorem pdLk_ok (hM : sMo ρ Γ) (hg : kGh (kGP (kUP RO)) ρ γ H) (c : pdC H P zh zb zo zx zn zN) {a d : sL} {za zd : Int} (ea : sEv ρ a = some za) (ed : sEv ρ d = some zd) {t : Bool} (h : pdLk Γ γ a d = some t) : t = true ↔ pKn P za.toNat = pKn P zd.toNat := by
  obtain ⟨g, fn, fk, fl, hG, hW, rfl⟩ := c
  unfold pdLk at h
  split at h
  · rename_i u v hu hv
    split at h
    · rename_i hc
      obtain ⟨zu, eu, ku⟩ := kFindEl_ok hg hu ea
      obtain ⟨zv, ev, kv⟩ := kFindEl_ok hg hv ed
      obtain ⟨-, h1⟩ := pdEl ku hW.2.1 (sWi_ok hM.1 eu (pAnd hc).1)
      obtain ⟨-, h2⟩ := pdEl kv hW.2.1 (sWi_ok hM.1 ev (pAnd hc).2)
      show t = true ↔ (fk za.toNat).toInt = (fk zd.toNat).toInt
      rw [h1, h2]
      split at h
      · rename_i hq
        cases h
        exact ⟨fun _ => kEqf_ok hM eu ev hq, fun _ => rfl⟩
      · split at h
        · rename_i hq
          cases h
          exact ⟨fun q => (by cases q), fun q => absurd q (nNe_ok hM eu ev hq)⟩
        · cases h
    · cases h
  · cases h
theorem pdWr_ok {K : kS} {R : eR} (hD : kD (kGP (kUP RO)) ρ K R) (E : pdE ρ hl b one x n N zh zb zo zx zn zN) {k p a o w e pt wt rt : sL} {yk yp ya yo yw ye zp zw zr : Int} (ek : sEv ρ k = some yk) (ep : sEv ρ p = some yp) (ea : sEv ρ a = some ya) (eo' : sEv ρ o = some yo) (ew : sEv ρ w = some yw) (ee : sEv ρ e = some ye) (e1 : sEv ρ pt = some zp) (e2 : sEv ρ wt = some zw) (e3 : sEv ρ rt = some zr) (h : pdWr K hl b one x n N k p a o w e pt wt rt = true) : ∃ P, pdC R.2.2.2.1 P zh zb zo zx zn zN ∧ ∃ f f0 o', nI2 R.2.2.2.1 75 15300 f ∧ pTg P f0 yk (pTd P yk yp ya yo yw ye) ∧ (0 ≤ ye → 0 ≤ yw ∧ yw < pM P ∧ pKn P yw.toNat = pK P yk.toNat) ∧ (0 ≤ zp ∧ zp < 8 ∧ 0 ≤ zw ∧ zw < 16 ∧ 0 ≤ zr ∧ zr < 100) ∧ (f0 (pIx zp zw zr).toNat).toInt = o' ∧ (((o' = 0 ∨ o' = 2) ∧ (f (pIx zp zw zr).toNat).toInt = 2) ∨ ((o' = 1 ∨ o' = 3) ∧ (f (pIx zp zw zr).toNat).toInt = 3)) ∧ ∀ i : Nat, i ≠ (pIx zp zw zr).toNat → f i = f0 i := by
  have hM := hD.1
  unfold pdWr at h
  split at h
  · rename_i i old hf
    obtain ⟨h1, h⟩ := pAnd h
    obtain ⟨h2, h3⟩ := pAnd h
    obtain ⟨zi, zo', ei, eo2, hC⟩ := pdF2_ok hD.2.2 k347 E (zq := [yk, yp, ya, yo, yw, ye]) (by (repeat' first | with_reducible assumption | exact sEv_C _ | with_reducible exact pvN | with_reducible apply pvC | with_reducible apply sEv_add | with_reducible apply sEv_sub | with_reducible apply sEv_mul)) hf
    obtain ⟨P, cP, hP⟩ := pdC_of hC
    obtain ⟨f, f1, -, f0, k0, k1, k2, k3, k4⟩ := dTGq.mp hP
    have e75 := pd75_ev e1 e2 e3
    rw [← of_decide_eq_true h1] at e75
    cases e75.symm.trans ei
    have key : ∀ {c : Int}, decide (kFindEl K.2 75 i = some (sC c)) = true → (c = 2 ∨ c = 3) → (f (pIx zp zw zr).toNat).toInt = c := fun {c} q hc => by
      obtain ⟨z, ez, kz⟩ := kFindEl_ok hD.2.2 (of_decide_eq_true q) ei
      cases ez.symm.trans (sEv_C (ρ := ρ) c)
      exact (pdEl kz f1 (by omega)).2
    have ho' : ((zo' = 0 ∨ zo' = 2) ∧ (f (pIx zp zw zr).toNat).toInt = 2) ∨ ((zo' = 1 ∨ zo' = 3) ∧ (f (pIx zp zw zr).toNat).toInt = 3) := by
      rcases pOr h3 with c | c
      · obtain ⟨c2, c3⟩ := pAnd c
        exact Or.inl ⟨(pOr c2).imp (fun q => sK_ok hM.1 eo2 (of_decide_eq_true q)) (fun q => sK_ok hM.1 eo2 (of_decide_eq_true q)), key c3 (Or.inl rfl)⟩
      · obtain ⟨c2, c3⟩ := pAnd c
        exact Or.inr ⟨(pOr c2).imp (fun q => sK_ok hM.1 eo2 (of_decide_eq_true q)) (fun q => sK_ok hM.1 eo2 (of_decide_eq_true q)), key c3 (Or.inr rfl)⟩
    exact ⟨P, cP, f, f0, zo', f1, k3, k4, pdR3_ok hM e1 e2 e3 h2, pdEo k1 (by omega), ho', k2⟩
  · cases h
theorem pdTGm (E : pdE ρ hl b one x n N zh zb zo zx zn zN) (cP : pdC H P zh zb zo zx zn zN) {k p a o w e : sL} {yk yp ya yo yw ye : Int} (ek : sEv ρ k = some yk) (ep : sEv ρ p = some yp) (ea : sEv ρ a = some ya) (eo' : sEv ρ o = some yo) (ew : sEv ρ w = some yw) (ee : sEv ρ e = some ye) {f : Nat → Int32} (hf : nI2 H 75 15300 f) (hT : pTg P f yk (pTd P yk yp ya yo yw ye)) (hk : 0 ≤ ye → 0 ≤ yw ∧ yw < pM P ∧ pKn P yw.toNat = pK P yk.toNat) : kGh (kGP (kUP RO)) ρ [(346, [hl, b, one, x, n, N, k, p, a, o, w, e])] H := pdMk k346 E (zs := [yk, yp, ya, yo, yw, ye]) (by (repeat' first | with_reducible assumption | exact sEv_C _ | with_reducible exact pvN | with_reducible apply pvC | with_reducible apply sEv_add | with_reducible apply sEv_sub | with_reducible apply sEv_mul)) (pdC_mk cP (dTG.mpr ⟨f, hf, rfl, hT, hk⟩))
theorem pdTGg (hg : kGh (kGP (kUP RO)) ρ γ H) (E : pdE ρ hl b one x n N zh zb zo zx zn zN) {k p a o w e : sL} {yk yp ya yo yw ye : Int} (ek : sEv ρ k = some yk) (ep : sEv ρ p = some yp) (ea : sEv ρ a = some ya) (eo' : sEv ρ o = some yo) (ew : sEv ρ w = some yw) (ee : sEv ρ e = some ye) (h : kHav γ 346 [hl, b, one, x, n, N, k, p, a, o, w, e] = true) : ∃ P, pdC H P zh zb zo zx zn zN ∧ ∃ f, nI2 H 75 15300 f ∧ pTg P f yk (pTd P yk yp ya yo yw ye) ∧ (0 ≤ ye → 0 ≤ yw ∧ yw < pM P ∧ pKn P yw.toNat = pK P yk.toNat) := by
  obtain ⟨P, cP, hP⟩ := pdC_of (pdHz hg k346 E (zs := [yk, yp, ya, yo, yw, ye]) (by (repeat' first | with_reducible assumption | exact sEv_C _ | with_reducible exact pvN | with_reducible apply pvC | with_reducible apply sEv_add | with_reducible apply sEv_sub | with_reducible apply sEv_mul)) h)
  obtain ⟨f, g1, -, g2, g3⟩ := dTG.mp hP
  exact ⟨P, cP, f, g1, g2, g3⟩
theorem pdSg (hg : kGh (kGP (kUP RO)) ρ γ H) (E : pdE ρ hl b one x n N zh zb zo zx zn zN) (cP : pdC H P zh zb zo zx zn zN) {k p a o : sL} {yk yp ya yo : Int} (ek : sEv ρ k = some yk) (ep : sEv ρ p = some yp) (ea : sEv ρ a = some ya) (eo' : sEv ρ o = some yo) (h : kHav γ 351 [hl, b, one, x, n, N, k, p, a, o] = true) : pS P yk yp ya yo := dSRC.mp (pdC_at cP (pdHz hg k351 E (zs := [yk, yp, ya, yo]) (by (repeat' first | with_reducible assumption | exact sEv_C _ | with_reducible exact pvN | with_reducible apply pvC | with_reducible apply sEv_add | with_reducible apply sEv_sub | with_reducible apply sEv_mul)) h))
theorem pdTGd_ok (z1 z2 z3 : Nat) : kRok RO (pdTGd z1 z2 z3) := by
  intro K ws h ρ R hD
  have hM := hD.1
  unfold pdTGd at h
  obtain ⟨⟨hl, b, one, x, n, N⟩, hQ, h⟩ := pB_ok h
  obtain ⟨hx, zh, zb, zo, zx, zn, zN, eh, eb, eo, ex, en, eN, hS, hN16⟩ := sfM_ok hD (fun y hy => kLf_ok hD.2.1 hy) hQ
  have E : pdE ρ hl b one x n N zh zb zo zx zn zN := ⟨eh, eb, eo, ex, en, eN⟩
  obtain ⟨k, h₀, h⟩ := pB_ok h
  obtain ⟨yk, ek⟩ := kLf_ok hD.2.1 h₀
  clear h₀
  obtain ⟨p, h₀, h⟩ := pB_ok h
  obtain ⟨yp, ep⟩ := kLf_ok hD.2.1 h₀
  clear h₀
  obtain ⟨a, h₀, h⟩ := pB_ok h
  obtain ⟨ya, ea⟩ := kLf_ok hD.2.1 h₀
  clear h₀
  obtain ⟨o, h₀, h⟩ := pB_ok h
  obtain ⟨yo, eo'⟩ := kLf_ok hD.2.1 h₀
  clear h₀
  obtain ⟨w, h₀, h⟩ := pB_ok h
  obtain ⟨yw, ew⟩ := kLf_ok hD.2.1 h₀
  clear h₀
  obtain ⟨th, h₀, h⟩ := pB_ok h
  obtain ⟨yt, et⟩ := kLf_ok hD.2.1 h₀
  clear h₀
  obtain ⟨h₀, h⟩ := pI_ok h
  have c1 := of_decide_eq_true h₀
  clear h₀
  obtain ⟨c2, h⟩ := pI_ok h
  obtain ⟨h₀, h⟩ := pI_ok h
  have d1 := sNN_ok hM (by (repeat' first | with_reducible assumption | exact sEv_C _ | with_reducible exact pvN | with_reducible apply pvC | with_reducible apply sEv_add | with_reducible apply sEv_sub | with_reducible apply sEv_mul)) h₀
  clear h₀
  obtain ⟨h₀, h⟩ := pI_ok h
  have d2 := sNN_ok hM (by (repeat' first | with_reducible assumption | exact sEv_C _ | with_reducible exact pvN | with_reducible apply pvC | with_reducible apply sEv_add | with_reducible apply sEv_sub | with_reducible apply sEv_mul)) h₀
  clear h₀
  obtain ⟨g, hg, h⟩ := pB_ok h
  have em1 := sEv_C (ρ := ρ) (-1)
  have ekk : ((yk.toNat : Nat) : Int) = yk := by omega
  split at h
  · rename_i ht
    obtain ⟨c3, h⟩ := pI_ok h
    obtain ⟨P, cP, f, g1, g2, -⟩ := pdTGg hD.2.2 E ek ep ea eo' ew em1 c3
    obtain ⟨hX, hN, hM', hG⟩ := pdC_f cP
    obtain ⟨w0, w16, k0, kn, hki⟩ := pdKi hM hD.2.2 cP hS ew ek en c1
    have hki := hki.mp rfl
    obtain ⟨zg, eg, hgg⟩ := pdGn hD.2.2 cP eh ew (sEv_add ek ep) ea eo hki hg
    rw [ekk] at hgg
    have hs := pdSg hD.2.2 E cP ek ep ea eo' c2
    have t1 := sNN_ok hM (sEv_sub (sEv_sub (sEv_add eo' eg) ex) (sEv_C 1)) (pAnd ht).1
    exact pd_out h (pdTGm E cP ek ep ea eo' ew (sEv_C 0) g1 (pTg_iff g2 (fun p' w' r' => (pTd_s (e := -1) hs).trans ⟨fun q => q.elim id (fun q => by
      have q2 := (pTx_0 hG w0 (by omega) hki hgg).mp q.2
      omega), Or.inl⟩)) (fun _ => ⟨w0, by omega, hki⟩))
  · obtain ⟨c3, h⟩ := pI_ok h
    obtain ⟨h₀, h⟩ := pI_ok h
    have d3 := sNN_ok hM (by (repeat' first | with_reducible assumption | exact sEv_C _ | with_reducible exact pvN | with_reducible apply pvC | with_reducible apply sEv_add | with_reducible apply sEv_sub | with_reducible apply sEv_mul)) h₀
    clear h₀
    obtain ⟨c4, h⟩ := pI_ok h
    obtain ⟨P, cP, f, f0, o', g1, g2, -, ⟨r1, r2, r3, r4, r5, r6⟩, k1, k2, k3⟩ := pdWr_ok hD E ek ep ea eo' ew em1 ep ew et c4
    obtain ⟨hX, hN, hM', hG⟩ := pdC_f cP
    obtain ⟨w0, w16, k0, kn, hki⟩ := pdKi hM hD.2.2 cP hS ew ek en c1
    have hki := hki.mp rfl
    obtain ⟨zg, eg, hgg⟩ := pdGn hD.2.2 cP eh ew (sEv_add ek ep) ea eo hki hg
    rw [ekk] at hgg
    have hs := pdSg hD.2.2 E cP ek ep ea eo' c2
    have et2 := Option.some.inj (et.symm.trans (aIsp_ok hM (sEv_add eo' eg) c3))
    exact pd_out h (pdTGm E cP ek ep ea eo' ew (sEv_C 0) g1 (pTg_set g2 r1 r2 r3 r4 r5 r6 k1 k2 k3 (fun p' w' r' => (pTd_s (e := -1) hs).trans (or_congr Iff.rfl ⟨fun q => by
      have q2 := (pTx_0 hG w0 (by omega) hki hgg).mp q.2
      exact ⟨q2.1, q.1, by omega⟩, fun q => ⟨q.2.1, (pTx_0 hG w0 (by omega) hki hgg).mpr ⟨q.1, by omega, by omega⟩⟩⟩))) (fun _ => ⟨w0, by omega, hki⟩))
theorem pdTGe_ok (z1 z2 z3 : Nat) : kRok RO (pdTGe z1 z2 z3) := by
  intro K ws h ρ R hD
  have hM := hD.1
  unfold pdTGe at h
  obtain ⟨⟨hl, b, one, x, n, N⟩, hQ, h⟩ := pB_ok h
  obtain ⟨hx, zh, zb, zo, zx, zn, zN, eh, eb, eo, ex, en, eN, hS, hN16⟩ := sfM_ok hD (fun y hy => kLf_ok hD.2.1 hy) hQ
  have E : pdE ρ hl b one x n N zh zb zo zx zn zN := ⟨eh, eb, eo, ex, en, eN⟩
  obtain ⟨k, h₀, h⟩ := pB_ok h
  obtain ⟨yk, ek⟩ := kLf_ok hD.2.1 h₀
  clear h₀
  obtain ⟨p, h₀, h⟩ := pB_ok h
  obtain ⟨yp, ep⟩ := kLf_ok hD.2.1 h₀
  clear h₀
  obtain ⟨a, h₀, h⟩ := pB_ok h
  obtain ⟨ya, ea⟩ := kLf_ok hD.2.1 h₀
  clear h₀
  obtain ⟨o, h₀, h⟩ := pB_ok h
  obtain ⟨yo, eo'⟩ := kLf_ok hD.2.1 h₀
  clear h₀
  obtain ⟨w, h₀, h⟩ := pB_ok h
  obtain ⟨yw, ew⟩ := kLf_ok hD.2.1 h₀
  clear h₀
  obtain ⟨e, h₀, h⟩ := pB_ok h
  obtain ⟨ye, ee⟩ := kLf_ok hD.2.1 h₀
  clear h₀
  obtain ⟨c2, h⟩ := pI_ok h
  obtain ⟨h₀, h⟩ := pI_ok h
  have d1 := sNN_ok hM (by (repeat' first | with_reducible assumption | exact sEv_C _ | with_reducible exact pvN | with_reducible apply pvC | with_reducible apply sEv_add | with_reducible apply sEv_sub | with_reducible apply sEv_mul)) h₀
  clear h₀
  obtain ⟨h₀, h⟩ := pI_ok h
  have d2 := sNN_ok hM (by (repeat' first | with_reducible assumption | exact sEv_C _ | with_reducible exact pvN | with_reducible apply pvC | with_reducible apply sEv_add | with_reducible apply sEv_sub | with_reducible apply sEv_mul)) h₀
  clear h₀
  obtain ⟨h₀, h⟩ := pI_ok h
  have d3 := sNN_ok hM (by (repeat' first | with_reducible assumption | exact sEv_C _ | with_reducible exact pvN | with_reducible apply pvC | with_reducible apply sEv_add | with_reducible apply sEv_sub | with_reducible apply sEv_mul)) h₀
  clear h₀
  obtain ⟨h₀, h⟩ := pI_ok h
  have d4 := sNN_ok hM (by (repeat' first | with_reducible assumption | exact sEv_C _ | with_reducible exact pvN | with_reducible apply pvC | with_reducible apply sEv_add | with_reducible apply sEv_sub | with_reducible apply sEv_mul)) h₀
  clear h₀
  obtain ⟨h₀, h⟩ := pI_ok h
  have d5 := sNN_ok hM (by (repeat' first | with_reducible assumption | exact sEv_C _ | with_reducible exact pvN | with_reducible apply pvC | with_reducible apply sEv_add | with_reducible apply sEv_sub | with_reducible apply sEv_mul)) h₀
  clear h₀
  have ee1 := sEv_add ee (sEv_C 1)
  -- nothing is reached so
  have none_ : ∀ {P : pP}, pdC R.2.2.2.1 P zh zb zo zx zn zN → ∀ {f : Nat → Int32}, nI2 R.2.2.2.1 75 15300 f → pTg P f yk (pTd P yk yp ya yo yw ye) → (0 ≤ ye → 0 ≤ yw ∧ yw < pM P ∧ pKn P yw.toNat = pK P yk.toNat) → (∀ p' r', ¬ pTx P yk yp ya yo yw ye r' p') → kGh (kGP (kUP RO)) ρ [(346, [hl, b, one, x, n, N, k, p, a, o, w, sAdd e (sC 1)])] R.2.2.2.1 := fun {P} cP {f} g1 g2 g3 hn => pdTGm E cP ek ep ea eo' ew ee1 g1 (pTg_iff g2 (fun p' w' r' => (pTd_s (pdSg hD.2.2 E cP ek ep ea eo' c2)).trans ⟨fun q => q.elim id (fun q => absurd q.2 (hn p' r')), Or.inl⟩)) (fun _ => g3 d1)
  have fac : ∀ {P : pP}, pdC R.2.2.2.1 P zh zb zo zx zn zN → pKn P ya.toNat = pK P (yk - 1).toNat ∧ 0 ≤ ya ∧ ya < zN := fun {P} cP => by
    have hs := pS_rng (pdSg hD.2.2 E cP ek ep ea eo' c2)
    have hM' := (pdC_f cP).2.2.1
    obtain ⟨q1, q2, q3, q4⟩ := hs.2.2.2.1 (by omega)
    exact ⟨q4, hs.2.2.1, by omega⟩
  split at h
  · rename_i ht
    obtain ⟨c3, h⟩ := pI_ok h
    obtain ⟨P, cP, f, g1, g2, g3⟩ := pdTGg hD.2.2 E ek ep ea eo' ew ee c3
    obtain ⟨-, -, hkw⟩ := g3 d1
    refine pd_out h (none_ cP g1 g2 g3 (fun p' r' => pTx_n d1 ?_))
    rcases pOr ht with q | q
    · have := (pdLk_ok hM hD.2.2 cP ee ew (of_decide_eq_true q)).mp rfl
      exact Or.inr (this.trans hkw)
    · have := (pdLk_ok hM hD.2.2 cP ee ea (of_decide_eq_true q)).mp rfl
      exact Or.inl (this.trans (fac cP).1)
  · obtain ⟨h₀, h⟩ := pI_ok h
    have c3 := of_decide_eq_true h₀
    clear h₀
    obtain ⟨h₀, h⟩ := pI_ok h
    have c4 := of_decide_eq_true h₀
    clear h₀
    obtain ⟨g1, hg1, h⟩ := pB_ok h
    obtain ⟨h₀, h⟩ := pI_ok h
    have d6 := sNN_ok hM (by (repeat' first | with_reducible assumption | exact sEv_C _ | with_reducible exact pvN | with_reducible apply pvC | with_reducible apply sEv_add | with_reducible apply sEv_sub | with_reducible apply sEv_mul)) h₀
    clear h₀
    -- what is put in, worked out
    have one_ : ∀ {P : pP}, pdC R.2.2.2.1 P zh zb zo zx zn zN → pKn P yw.toNat = pK P yk.toNat → ∃ z1, sEv ρ g1 = some z1 ∧ pGg P ye (yk + yp) 0 z1 ∧ pKn P ye.toNat ≠ pK P (yk - 1).toNat ∧ pKn P ye.toNat ≠ pK P yk.toNat := fun {P} cP hkw => by
      have n1 : pKn P ye.toNat ≠ pKn P yw.toNat := fun q => absurd ((pdLk_ok hM hD.2.2 cP ee ew c3).mpr q) (by decide)
      have n2 : pKn P ye.toNat ≠ pKn P ya.toNat := fun q => absurd ((pdLk_ok hM hD.2.2 cP ee ea c4).mpr q) (by decide)
      obtain ⟨z1, e1, q1⟩ := pdGz hD.2.2 cP eh ee (sEv_add ek ep) ea eo (fun _ _ q => n2 q.symm) hg1
      exact ⟨z1, e1, q1, fun q => n2 (q.trans (fac cP).1.symm), fun q => n1 (q.trans hkw.symm)⟩
    split at h
    · rename_i ht
      obtain ⟨c5, h⟩ := pI_ok h
      obtain ⟨P, cP, f, g2, g3, g4⟩ := pdTGg hD.2.2 E ek ep ea eo' ew ee c5
      obtain ⟨hX, hN, hM', hG⟩ := pdC_f cP
      obtain ⟨w0, w1, hkw⟩ := g4 d1
      obtain ⟨y1, e1, q1, n1, n2⟩ := one_ cP hkw
      have t1 := sNN_ok hM (sEv_sub (sEv_sub (sEv_add eo' e1) ex) (sEv_C 1)) ht
      exact pd_out h (none_ cP g2 g3 g4 (fun p' r' q => by
        have := ((pTx_1 hG w0 w1 hkw d1 (by omega) (by omega) n1 n2 q1).mp q).2.1
        omega))
    · obtain ⟨by_, hby, h⟩ := pB_ok h
      obtain ⟨zy, ey⟩ := kLf_ok hD.2.1 hby
      obtain ⟨c5, h⟩ := pI_ok h
      obtain ⟨h₀, h⟩ := pI_ok h
      have d7 := sNN_ok hM (by (repeat' first | with_reducible assumption | exact sEv_C _ | with_reducible exact pvN | with_reducible apply pvC | with_reducible apply sEv_add | with_reducible apply sEv_sub | with_reducible apply sEv_mul)) h₀
      clear h₀
      obtain ⟨gg, hgg, h⟩ := pB_ok h
      have two_ : ∀ {P : pP}, pdC R.2.2.2.1 P zh zb zo zx zn zN → pKn P yw.toNat = pK P yk.toNat → ∃ z2, sEv ρ gg = some z2 ∧ pGg P yw (yk + yp + 1) 0 z2 := fun {P} cP hkw => by
        have n1 : pKn P ye.toNat ≠ pKn P yw.toNat := fun q => absurd ((pdLk_ok hM hD.2.2 cP ee ew c3).mpr q) (by decide)
        exact pdGz hD.2.2 cP eh ew (sEv_add (sEv_add ek ep) (sEv_C 1)) ee eo (fun _ _ q => n1 q) hgg
      split at h
      · rename_i ht
        obtain ⟨c6, h⟩ := pI_ok h
        obtain ⟨P, cP, f, g2, g3, g4⟩ := pdTGg hD.2.2 E ek ep ea eo' ew ee c6
        obtain ⟨hX, hN, hM', hG⟩ := pdC_f cP
        obtain ⟨w0, w1, hkw⟩ := g4 d1
        obtain ⟨y1, e1, q1, n1, n2⟩ := one_ cP hkw
        obtain ⟨y2, e2, q2⟩ := two_ cP hkw
        have hy := Option.some.inj (ey.symm.trans (aIsp_ok hM (sEv_add eo' e1) c5))
        have t1 := sNN_ok hM (sEv_sub (sEv_sub (sEv_add ey e2) ex) (sEv_C 1)) ht
        exact pd_out h (none_ cP g2 g3 g4 (fun p' r' q => by
          obtain ⟨-, -, g', k1, k2, k3⟩ := (pTx_1 hG w0 w1 hkw d1 (by omega) (by omega) n1 n2 q1).mp q
          cases hG _ _ _ _ _ k1 q2
          omega))
      · obtain ⟨la, hla, h⟩ := pB_ok h
        obtain ⟨zl, el⟩ := kLf_ok hD.2.1 hla
        obtain ⟨c6, h⟩ := pI_ok h
        obtain ⟨h₀, h⟩ := pI_ok h
        have d8 := sNN_ok hM (by (repeat' first | with_reducible assumption | exact sEv_C _ | with_reducible exact pvN | with_reducible apply pvC | with_reducible apply sEv_add | with_reducible apply sEv_sub | with_reducible apply sEv_mul)) h₀
        clear h₀
        obtain ⟨c7, h⟩ := pI_ok h
        obtain ⟨P, cP, f, f0, o', g2, g3, g4, ⟨r1, r2, r3, r4, r5, r6⟩, k1, k2, k3⟩ := pdWr_ok hD E ek ep ea eo' ew ee (sEv_add ep (sEv_C 1)) ew el c7
        obtain ⟨hX, hN, hM', hG⟩ := pdC_f cP
        obtain ⟨w0, w1, hkw⟩ := g4 d1
        obtain ⟨y1, e1, q1, n1, n2⟩ := one_ cP hkw
        obtain ⟨y2, e2, q2⟩ := two_ cP hkw
        have hy := Option.some.inj (ey.symm.trans (aIsp_ok hM (sEv_add eo' e1) c5))
        have hl2 := Option.some.inj (el.symm.trans (aIsp_ok hM (sEv_add ey e2) c6))
        refine pd_out h (pdTGm E cP ek ep ea eo' ew ee1 g2 (pTg_set g3 r1 r2 r3 r4 r5 r6 k1 k2 k3 (fun p' w' r' => (pTd_s (pdSg hD.2.2 E cP ek ep ea eo' c2)).trans (or_congr Iff.rfl ⟨fun q => ?_, fun q => ?_⟩))) (fun _ => g4 d1))
        · obtain ⟨j1, -, g', j2, j3, j4⟩ := (pTx_1 hG w0 w1 hkw d1 (by omega) (by omega) n1 n2 q1).mp q.2
          cases hG _ _ _ _ _ j2 q2
          exact ⟨j1, q.1, by omega⟩
        · exact ⟨q.2.1, (pTx_1 hG w0 w1 hkw d1 (by omega) (by omega) n1 n2 q1).mpr ⟨q.1, by omega, y2, q2, by omega, by omega⟩⟩
theorem pdTGw_ok (z1 z2 z3 : Nat) : kRok RO (pdTGw z1 z2 z3) := by
  intro K ws h ρ R hD
  have hM := hD.1
  unfold pdTGw at h
  obtain ⟨⟨hl, b, one, x, n, N⟩, hQ, h⟩ := pB_ok h
  obtain ⟨hx, zh, zb, zo, zx, zn, zN, eh, eb, eo, ex, en, eN, hS, hN16⟩ := sfM_ok hD (fun y hy => kLf_ok hD.2.1 hy) hQ
  have E : pdE ρ hl b one x n N zh zb zo zx zn zN := ⟨eh, eb, eo, ex, en, eN⟩
  obtain ⟨k, h₀, h⟩ := pB_ok h
  obtain ⟨yk, ek⟩ := kLf_ok hD.2.1 h₀
  clear h₀
  obtain ⟨p, h₀, h⟩ := pB_ok h
  obtain ⟨yp, ep⟩ := kLf_ok hD.2.1 h₀
  clear h₀
  obtain ⟨a, h₀, h⟩ := pB_ok h
  obtain ⟨ya, ea⟩ := kLf_ok hD.2.1 h₀
  clear h₀
  obtain ⟨o, h₀, h⟩ := pB_ok h
  obtain ⟨yo, eo'⟩ := kLf_ok hD.2.1 h₀
  clear h₀
  obtain ⟨w, h₀, h⟩ := pB_ok h
  obtain ⟨yw, ew⟩ := kLf_ok hD.2.1 h₀
  clear h₀
  obtain ⟨e, he, h⟩ := pB_ok h
  obtain ⟨ye, ee, hC⟩ := pdF1_ok hD.2.2 k346 E (zq := [yk, yp, ya, yo, yw]) (by (repeat' first | with_reducible assumption | exact sEv_C _ | with_reducible exact pvN | with_reducible apply pvC | with_reducible apply sEv_add | with_reducible apply sEv_sub | with_reducible apply sEv_mul)) he
  obtain ⟨P, cP, hP⟩ := pdC_of hC
  obtain ⟨hX, hN, hM', hG⟩ := pdC_f cP
  obtain ⟨f, g1, -, g2, -⟩ := dTG.mp hP
  split at h
  · rename_i ht
    obtain ⟨h₀, h⟩ := pI_ok h
    have c1 := of_decide_eq_true h₀
    clear h₀
    obtain ⟨w0, w16, k0, kn, hki⟩ := pdKi hM hD.2.2 cP hS ew ek en c1
    rw [of_decide_eq_true ht] at ee
    have hye := Option.some.inj (ee.symm.trans (sEv_C (-1)))
    exact pd_out h (pdTGm E cP ek ep ea eo' (sEv_add ew (sEv_C 1)) (sEv_C (-1)) g1 (pTg_iff g2 (pTd_w (Or.inl ⟨by omega, fun q => absurd (hki.mpr q) (by decide)⟩))) (fun q => by omega))
  · obtain ⟨c1, h⟩ := pI_ok h
    have hq : pM P ≤ ye ∨ (yk = 0 ∧ ye = 0) := by
      rcases pOr c1 with c | c
      · have d := sNN_ok hM (sEv_sub ee eN) c
        exact Or.inl (by omega)
      · obtain ⟨c2, c3⟩ := pAnd c
        rw [of_decide_eq_true c2] at ek
        rw [of_decide_eq_true c3] at ee
        exact Or.inr ⟨Option.some.inj (ek.symm.trans (sEv_C 0)), Option.some.inj (ee.symm.trans (sEv_C 0))⟩
    exact pd_out h (pdTGm E cP ek ep ea eo' (sEv_add ew (sEv_C 1)) (sEv_C (-1)) g1 (pTg_iff g2 (pTd_w (Or.inr hq))) (fun q => by omega))
theorem pdTGo_ok (z1 z2 z3 : Nat) : kRok RO (pdTGo z1 z2 z3) := by
  intro K ws h ρ R hD
  have hM := hD.1
  unfold pdTGo at h
  obtain ⟨⟨hl, b, one, x, n, N⟩, hQ, h⟩ := pB_ok h
  obtain ⟨hx, zh, zb, zo, zx, zn, zN, eh, eb, eo, ex, en, eN, hS, hN16⟩ := sfM_ok hD (fun y hy => kLf_ok hD.2.1 hy) hQ
  have E : pdE ρ hl b one x n N zh zb zo zx zn zN := ⟨eh, eb, eo, ex, en, eN⟩
  obtain ⟨k, h₀, h⟩ := pB_ok h
  obtain ⟨yk, ek⟩ := kLf_ok hD.2.1 h₀
  clear h₀
  obtain ⟨p, h₀, h⟩ := pB_ok h
  obtain ⟨yp, ep⟩ := kLf_ok hD.2.1 h₀
  clear h₀
  obtain ⟨a, h₀, h⟩ := pB_ok h
  obtain ⟨ya, ea⟩ := kLf_ok hD.2.1 h₀
  clear h₀
  obtain ⟨o, h₀, h⟩ := pB_ok h
  obtain ⟨yo, eo'⟩ := kLf_ok hD.2.1 h₀
  clear h₀
  obtain ⟨w, h₀, h⟩ := pB_ok h
  obtain ⟨yw, ew⟩ := kLf_ok hD.2.1 h₀
  clear h₀
  obtain ⟨c1, h⟩ := pI_ok h
  obtain ⟨h₀, h⟩ := pI_ok h
  have d1 := sNN_ok hM (by (repeat' first | with_reducible assumption | exact sEv_C _ | with_reducible exact pvN | with_reducible apply pvC | with_reducible apply sEv_add | with_reducible apply sEv_sub | with_reducible apply sEv_mul)) h₀
  clear h₀
  obtain ⟨P, cP, f, g1, g2, -⟩ := pdTGg hD.2.2 E ek ep ea eo' ew (sEv_C (-1)) c1
  obtain ⟨hX, hN, hM', hG⟩ := pdC_f cP
  exact pd_out h (pdTGm E cP ek ep ea (sEv_add eo' (sEv_C 1)) (sEv_C 0) (sEv_C (-1)) g1 (pTg_iff g2 (pTd_o (by omega))) (fun q => by omega))
theorem pdPRi_ok (z1 z2 z3 : Nat) : kRok RO (pdPRi z1 z2 z3) := by
  intro K ws h ρ R hD
  have hM := hD.1
  unfold pdPRi at h
  obtain ⟨⟨hl, b, one, x, n, N⟩, hQ, h⟩ := pB_ok h
  obtain ⟨zh, zb, zo, zx, zn, zN, eh, eb, eo, ex, en, eN, hS, hN16⟩ := pdQp_ok hD hQ
  have E : pdE ρ hl b one x n N zh zb zo zx zn zN := ⟨eh, eb, eo, ex, en, eN⟩
  obtain ⟨i, h₀, h⟩ := pB_ok h
  obtain ⟨zi, ei⟩ := kLf_ok hD.2.1 h₀
  clear h₀
  obtain ⟨c1, h⟩ := pI_ok h
  obtain ⟨c2, h⟩ := pI_ok h
  obtain ⟨c3, h⟩ := pI_ok h
  obtain ⟨P, cP, hP⟩ := pdC_of (pdHz hD.2.2 k345 E (zs := [zn]) (by (repeat' first | with_reducible assumption | exact sEv_C _ | with_reducible exact pvN | with_reducible apply pvC | with_reducible apply sEv_add | with_reducible apply sEv_sub | with_reducible apply sEv_mul)) c3)
  exact pd_out h (pdMk k350 E (zs := [0]) (by (repeat' first | with_reducible assumption | exact sEv_C _ | with_reducible exact pvN | with_reducible apply pvC | with_reducible apply sEv_add | with_reducible apply sEv_sub | with_reducible apply sEv_mul)) (pdC_mk cP (dPXr.mpr (fun p w r q => by
    have := pR_rng _ q
    unfold pIx
    omega))))
theorem pdPRs_ok (z1 z2 z3 : Nat) : kRok RO (pdPRs z1 z2 z3) := by
  intro K ws h ρ R hD
  have hM := hD.1
  unfold pdPRs at h
  obtain ⟨⟨hl, b, one, x, n, N⟩, hQ, h⟩ := pB_ok h
  obtain ⟨zh, zb, zo, zx, zn, zN, eh, eb, eo, ex, en, eN, hS, hN16⟩ := pdQp_ok hD hQ
  have E : pdE ρ hl b one x n N zh zb zo zx zn zN := ⟨eh, eb, eo, ex, en, eN⟩
  obtain ⟨i, h₀, h⟩ := pB_ok h
  obtain ⟨zi, ei⟩ := kLf_ok hD.2.1 h₀
  clear h₀
  obtain ⟨c1, h⟩ := pI_ok h
  obtain ⟨c2, h⟩ := pI_ok h
  obtain ⟨v, hv, h⟩ := pB_ok h
  obtain ⟨zv, ev, kv⟩ := kFindEl_ok hD.2.2 hv ei
  obtain ⟨h₀, h⟩ := pI_ok h
  have c3 := of_decide_eq_true h₀
  clear h₀
  obtain ⟨h₀, h⟩ := pI_ok h
  have d1 := sNN_ok hM (by (repeat' first | with_reducible assumption | exact sEv_C _ | with_reducible exact pvN | with_reducible apply pvC | with_reducible apply sEv_add | with_reducible apply sEv_sub | with_reducible apply sEv_mul)) h₀
  clear h₀
  obtain ⟨h₀, h⟩ := pI_ok h
  have d2 := sNN_ok hM (by (repeat' first | with_reducible assumption | exact sEv_C _ | with_reducible exact pvN | with_reducible apply pvC | with_reducible apply sEv_add | with_reducible apply sEv_sub | with_reducible apply sEv_mul)) h₀
  clear h₀
  obtain ⟨h₀, h⟩ := pI_ok h
  have d3 := sNN_ok hM (by (repeat' first | with_reducible assumption | exact sEv_C _ | with_reducible exact pvN | with_reducible apply pvC | with_reducible apply sEv_add | with_reducible apply sEv_sub | with_reducible apply sEv_mul)) h₀
  clear h₀
  obtain ⟨h₀, h⟩ := pI_ok h
  have d4 := sNN_ok hM (by (repeat' first | with_reducible assumption | exact sEv_C _ | with_reducible exact pvN | with_reducible apply pvC | with_reducible apply sEv_add | with_reducible apply sEv_sub | with_reducible apply sEv_mul)) h₀
  clear h₀
  have hz := sK_ok hM.1 ev c3
  subst hz
  obtain ⟨P, cP, hP⟩ := pdC_of (pdHz hD.2.2 k350 E (zs := [zi]) (by (repeat' first | with_reducible assumption | exact sEv_C _ | with_reducible exact pvN | with_reducible apply pvC | with_reducible apply sEv_add | with_reducible apply sEv_sub | with_reducible apply sEv_mul)) c1)
  obtain ⟨hX, hN, hM', hG⟩ := pdC_f cP
  have hP := dPXr.mp hP
  obtain ⟨f, f1, -, f2⟩ := dTB.mp (pdC_at cP (pdHz hD.2.2 k345 E (zs := [zn]) (by (repeat' first | with_reducible assumption | exact sEv_C _ | with_reducible exact pvN | with_reducible apply pvC | with_reducible apply sEv_add | with_reducible apply sEv_sub | with_reducible apply sEv_mul)) c2))
  obtain ⟨-, hz⟩ := pdEl kv f1 (by omega)
  refine pd_out h (pdMk k350 E (zs := [zi + 1]) (by (repeat' first | with_reducible assumption | exact sEv_C _ | with_reducible exact pvN | with_reducible apply pvC | with_reducible apply sEv_add | with_reducible apply sEv_sub | with_reducible apply sEv_mul)) (pdC_mk cP (dPXr.mpr (fun p w r q => ?_))))
  have h1 := hP p w r q
  have h2 := pR_rng _ q
  by_cases e : pIx p w r = zi
  · exfalso
    have e' := e
    unfold pIx at e'
    rcases f2 p w r (by omega) (by omega) (by omega) (by omega) (by omega) (by omega) with ⟨-, q2⟩ | ⟨q2, -⟩
    · exact q2 ⟨by omega, by rw [← hN]; exact q⟩
    · rw [e, hz] at q2
      omega
  · omega
theorem pdPRe_ok (z1 z2 z3 : Nat) : kRok RO (pdPRe z1 z2 z3) := by
  intro K ws h ρ R hD
  have hM := hD.1
  unfold pdPRe at h
  obtain ⟨⟨hl, b, one, x, n, N⟩, hQ, h⟩ := pB_ok h
  obtain ⟨zh, zb, zo, zx, zn, zN, eh, eb, eo, ex, en, eN, hS, hN16⟩ := pdQp_ok hD hQ
  have E : pdE ρ hl b one x n N zh zb zo zx zn zN := ⟨eh, eb, eo, ex, en, eN⟩
  obtain ⟨ox, h₀, h⟩ := pB_ok h
  obtain ⟨zox, eox⟩ := kLf_ok hD.2.1 h₀
  clear h₀
  obtain ⟨i, h₀, h⟩ := pB_ok h
  obtain ⟨zi, ei⟩ := kLf_ok hD.2.1 h₀
  clear h₀
  obtain ⟨r, h₀, h⟩ := pB_ok h
  obtain ⟨zr, er⟩ := nTop_ev hD.2.1 h₀
  clear h₀
  obtain ⟨q, hq, h⟩ := pB_ok h
  split at h
  · rename_i b2 le n2
    obtain ⟨h₀, h⟩ := pI_ok h
    have c1 := of_decide_eq_true h₀
    clear h₀
    obtain ⟨h₀, h⟩ := pI_ok h
    have d1 := sNN_ok hM (by (repeat' first | with_reducible assumption | exact sEv_C _ | with_reducible exact pvN | with_reducible apply pvC | with_reducible apply sEv_add | with_reducible apply sEv_sub | with_reducible apply sEv_mul)) h₀
    clear h₀
    obtain ⟨h₀, h⟩ := pI_ok h
    have d2 := sNN_ok hM (by (repeat' first | with_reducible assumption | exact sEv_C _ | with_reducible exact pvN | with_reducible apply pvC | with_reducible apply sEv_add | with_reducible apply sEv_sub | with_reducible apply sEv_mul)) h₀
    clear h₀
    obtain ⟨h₀, h⟩ := pI_ok h
    have d3 := sNN_ok hM (by (repeat' first | with_reducible assumption | exact sEv_C _ | with_reducible exact pvN | with_reducible apply pvC | with_reducible apply sEv_add | with_reducible apply sEv_sub | with_reducible apply sEv_mul)) h₀
    clear h₀
    obtain ⟨h₀, h⟩ := pI_ok h
    have d4 := sNN_ok hM (by (repeat' first | with_reducible assumption | exact sEv_C _ | with_reducible exact pvN | with_reducible apply pvC | with_reducible apply sEv_add | with_reducible apply sEv_sub | with_reducible apply sEv_mul)) h₀
    clear h₀
    obtain ⟨c2, h⟩ := pI_ok h
    obtain ⟨h₀, h⟩ := pI_ok h
    have d5 := sNN_ok hM (by (repeat' first | with_reducible assumption | exact sEv_C _ | with_reducible exact pvN | with_reducible apply pvC | with_reducible apply sEv_add | with_reducible apply sEv_sub | with_reducible apply sEv_mul)) h₀
    clear h₀
    obtain ⟨zl, el, hNK⟩ := sfKNe hD.2.2 eb en hq
    have hn8 : zn ≤ 8 := by
      obtain ⟨g, q1, q2, q3, q4, -⟩ := hNK
      exact q4
    have ex2 := ex
    rw [c1] at ex2
    have hx := Option.some.inj (ex2.symm.trans (sEv_sub eox (sEv_mul 100 eo)))
    obtain ⟨o1, o2⟩ := pdDm (z := zox) d3 (by omega) d1 (by omega) hx
    obtain ⟨P, cP, hP⟩ := pdC_of (pdHz hD.2.2 k350 E (zs := [zi]) (by (repeat' first | with_reducible assumption | exact sEv_C _ | with_reducible exact pvN | with_reducible apply pvC | with_reducible apply sEv_add | with_reducible apply sEv_sub | with_reducible apply sEv_mul)) c2)
    obtain ⟨hX, hN, hM', hG⟩ := pdC_f cP
    have hP := dPXr.mp hP
    split at h
    · rename_i ht
      obtain ⟨h₀, h⟩ := pI_ok h
      have d6 := sNN_ok hM (by (repeat' first | with_reducible assumption | exact sEv_C _ | with_reducible exact pvN | with_reducible apply pvC | with_reducible apply sEv_add | with_reducible apply sEv_sub | with_reducible apply sEv_mul)) h₀
      clear h₀
      refine pd_out h (pdPXa eh eb el eox eN (sEv_C (-2)) hNK ?_)
      rw [o1, o2]
      refine pdC_mk cP (Or.inr ⟨by omega, Or.inl ⟨rfl, fun p a s q => ?_⟩⟩)
      have h1 := hP p a s (by rw [hN]; exact q)
      have h2 := pR_rng _ q
      unfold pIx at h1
      omega
    · obtain ⟨v, hv, h⟩ := pB_ok h
      obtain ⟨zv, ev, kv⟩ := kFindEl_ok hD.2.2 hv ei
      obtain ⟨h₀, h⟩ := pI_ok h
      have c3 := of_decide_eq_true h₀
      clear h₀
      obtain ⟨c4, h⟩ := pI_ok h
      obtain ⟨h₀, h⟩ := pI_ok h
      have d6 := sNN_ok hM (by (repeat' first | with_reducible assumption | exact sEv_C _ | with_reducible exact pvN | with_reducible apply pvC | with_reducible apply sEv_add | with_reducible apply sEv_sub | with_reducible apply sEv_mul)) h₀
      clear h₀
      obtain ⟨h₀, h⟩ := pI_ok h
      have d7 := sNN_ok hM (by (repeat' first | with_reducible assumption | exact sEv_C _ | with_reducible exact pvN | with_reducible apply pvC | with_reducible apply sEv_add | with_reducible apply sEv_sub | with_reducible apply sEv_mul)) h₀
      clear h₀
      obtain ⟨h₀, h⟩ := pI_ok h
      have d8 := sNN_ok hM (by (repeat' first | with_reducible assumption | exact sEv_C _ | with_reducible exact pvN | with_reducible apply pvC | with_reducible apply sEv_add | with_reducible apply sEv_sub | with_reducible apply sEv_mul)) h₀
      clear h₀
      obtain ⟨h₀, h⟩ := pI_ok h
      have d9 := sNN_ok hM (by (repeat' first | with_reducible assumption | exact sEv_C _ | with_reducible exact pvN | with_reducible apply pvC | with_reducible apply sEv_add | with_reducible apply sEv_sub | with_reducible apply sEv_mul)) h₀
      clear h₀
      have hz := sK_ok hM.1 ev c3
      subst hz
      obtain ⟨f, f1, -, f2⟩ := dTB.mp (pdC_at cP (pdHz hD.2.2 k345 E (zs := [zn]) (by (repeat' first | with_reducible assumption | exact sEv_C _ | with_reducible exact pvN | with_reducible apply pvC | with_reducible apply sEv_add | with_reducible apply sEv_sub | with_reducible apply sEv_mul)) c4))
      obtain ⟨-, hz⟩ := pdEl kv f1 (by omega)
      obtain ⟨p, a, s, a1, a2, a3, a4, a5, a6, a7⟩ := pIx_in d8 (by omega)
      have hp : p = zr := by
        unfold pIx at a7
        omega
      have hb : pBi P zn p a s := by
        rcases f2 p a s a1 a2 a3 a4 a5 a6 with ⟨q2, -⟩ | ⟨-, q2⟩
        · rw [a7, hz] at q2
          omega
        · exact q2
      refine pd_ou2 h (pdPXa eh eb el eox eN er hNK ?_) er (by omega) (by omega)
      rw [o1, o2]
      refine pdC_mk cP (Or.inr ⟨by omega, Or.inr ⟨⟨a, s, by rw [← hp]; exact hb.2⟩, fun p' a' s' q => ?_⟩⟩)
      have h1 := hP p' a' s' (by rw [hN]; exact q)
      have h2 := pR_rng _ q
      unfold pIx at h1
      omega
  · cases h
theorem pdPR0_ok (z1 z2 z3 : Nat) : kRok RO (pdPR0 z1 z2 z3) := by
  intro K ws h ρ R hD
  have hM := hD.1
  unfold pdPR0 at h
  obtain ⟨n, h₀, h⟩ := pB_ok h
  obtain ⟨zn, en⟩ := nFf_ok hD.2.1.2.2.2.1 h₀
  clear h₀
  obtain ⟨hl, h₀, h⟩ := pB_ok h
  obtain ⟨zh, eh⟩ := nFf_ok hD.2.1.2.2.2.1 h₀
  clear h₀
  obtain ⟨N, h₀, h⟩ := pB_ok h
  obtain ⟨zN, eN⟩ := nFf_ok hD.2.1.2.2.2.1 h₀
  clear h₀
  obtain ⟨ox, h₀, h⟩ := pB_ok h
  obtain ⟨zox, eox⟩ := kLf_ok hD.2.1 h₀
  clear h₀
  obtain ⟨r, h₀, h⟩ := pB_ok h
  obtain ⟨zr, er⟩ := nTop_ev hD.2.1 h₀
  clear h₀
  obtain ⟨h₀, h⟩ := pI_ok h
  have c1 := of_decide_eq_true h₀
  clear h₀
  obtain ⟨h₀, h⟩ := pI_ok h
  have c2 := of_decide_eq_true h₀
  clear h₀
  obtain ⟨q, hq, h⟩ := pB_ok h
  have hz := sK_ok hM.1 en c2
  subst hz
  obtain ⟨q1, zs, ez, h2⟩ := nFa_ok hD.2.2 hq (by decide) (by decide)
  split at h
  · rename_i b le n'
    cases of_decide_eq_true q1
    obtain ⟨zb, zl, zn', rfl, eb, el, en'⟩ := sVal_3 ez
    cases en'.symm.trans en
    obtain ⟨a1, a2, a3, he, hNK⟩ : ∃ b le m, [zb, zl, (0 : Int)] = [b, le, m] ∧ pNK R.2.2.2.1 b le m := (sfUP (by decide)).mp h2
    cases he
    obtain ⟨c3, h⟩ := pI_ok h
    obtain ⟨c4, h⟩ := pI_ok h
    obtain ⟨zs2, ez2, h3⟩ := kHav_ok hD.2.2 c3 (by decide)
    obtain ⟨zb', zn', rfl, eb', en2⟩ := sVal_2 ez2
    obtain ⟨a', b', he, hS⟩ : ∃ a b, [zb', zn'] = [a, b] ∧ nSP 73 8 a b R.2.2.2.1 := (sfUP (by decide)).mp ((kUPn (by decide)).mp h3)
    obtain ⟨P, cP⟩ := pdC_sh (zh := zh) (zb := zb) (zo := sOp 9 zox 100) (zx := sOp 10 zox 100) (zn := 0) (zN := zN) hD c4 hS
    exact pd_out h (pdPXa eh eb el eox eN (sEv_C 0) hNK (pdC_mk cP (Or.inl ⟨rfl, rfl⟩)))
  · cases h
theorem pdFun {zs : List Int} {r r' : Int} (h : nUP 343 (zs ++ [r]) H) (h' : nUP 343 (zs ++ [r']) H) : r = r' := by
  obtain ⟨hl, b, le, ox, N, r1, p1, n, p2, p3⟩ : ∃ hl b le ox N r1, zs ++ [r] = [hl, b, le, ox, N, r1] ∧ ∃ n, pNK H b le n ∧ pC H hl b (sOp 9 ox 100) (sOp 10 ox 100) n N (fun P => pPx P n r1) := (pdUP (by decide)).mp h
  obtain ⟨hl', b', le', ox', N', r1', q1, n', q2, q3⟩ : ∃ hl b le ox N r1, zs ++ [r'] = [hl, b, le, ox, N, r1] ∧ ∃ n, pNK H b le n ∧ pC H hl b (sOp 9 ox 100) (sOp 10 ox 100) n N (fun P => pPx P n r1) := (pdUP (by decide)).mp h'
  obtain ⟨h1, h2⟩ := List.append_inj' (show zs ++ [r] = [hl, b, le, ox, N] ++ [r1] from p1) rfl
  obtain ⟨h3, h4⟩ := List.append_inj' (show zs ++ [r'] = [hl', b', le', ox', N'] ++ [r1'] from q1) rfl
  cases h2
  cases h4
  subst h1
  cases h3
  cases pNK_one p2 q2
  obtain ⟨P, cP, p3⟩ := pdC_of p3
  exact pPx_one p3 (pdC_at cP q3)
theorem pdSame_ok {kd : Nat} (hk : kd = 343) {K : kS} {L : List kS} (h : nSame kd K = some L) {ρ : List Int} {R : eR} (hD : kD (kGP (kUP RO)) ρ K R) : ∃ K' ∈ L, ∃ ρ', ρ <+: ρ' ∧ kD (kGP (kUP RO)) ρ' K' R := by
  subst hk
  have same : ∀ K0 : kS, K0 = K → some [K0] = some L → ∃ K' ∈ L, ∃ ρ', ρ <+: ρ' ∧ kD (kGP (kUP RO)) ρ' K' R := fun K0 e g => by
    cases g
    subst e
    exact ⟨_, List.mem_singleton.mpr rfl, ρ, List.prefix_refl _, hD⟩
  unfold nSame at h
  split at h
  · rename_i pc ls r st G c s Γ γ
    split at h
    · rename_i fs hfa
      split at h
      · rename_i q hq
        split at h
        · rename_i x hx
          split at h
          · exact same _ rfl h
          · cases h
            obtain ⟨p1, zs, e1, e2⟩ := nFa_ok hD.2.2 hfa (by decide) (by decide)
            have p1 := of_decide_eq_true p1
            obtain ⟨ys, hys⟩ := List.getLast?_eq_some_iff.mp hq
            have hqm : q ∈ γ.filter (fun q => decide (q.1 = 343) && decide (q.2.dropLast = fs.dropLast)) := by rw [hys]; simp
            obtain ⟨hqn, hc⟩ := List.mem_filter.mp hqm
            clear hqm
            simp only [Bool.and_eq_true, decide_eq_true_eq] at hc
            obtain ⟨k, gs⟩ := q
            simp only at hc hx
            obtain ⟨rfl, hc⟩ := hc
            obtain ⟨ys2, e3, e4⟩ := hD.2.2 _ hqn
            have e4 := nGP (show 53 ≤ 343 by decide) (show 343 < 1000 by decide) e4
            simp only at e3
            rw [nLst p1] at e1
            rw [nLst hx, hc] at e3
            obtain ⟨us, vs, rfl, f1, f2⟩ := sVal_appR e1
            obtain ⟨us', vs', rfl, f3, f4⟩ := sVal_appR e3
            rw [f1] at f3
            cases f3
            obtain ⟨zr, rfl, er⟩ := sVal_1 f2
            obtain ⟨zx, rfl, ex⟩ := sVal_1 f4
            have hz := pdFun e2 e4
            subst hz
            exact aTopd hD er ex
        · exact same _ rfl h
      · exact same _ rfl h
    · exact same _ rfl h
  · exact same _ rfl h
theorem pdOFv_ok {K : kS} {L : List kS} (h : pdOFv K = some L) {ρ : List Int} {R : eR} (hD : kD (kGP (kUP RO)) ρ K R) : ∃ K' ∈ L, ∃ ρ', ρ <+: ρ' ∧ kD (kGP (kUP RO)) ρ' K' R := by
  have same : ∀ K0 : kS, K0 = K → some [K0] = some L → ∃ K' ∈ L, ∃ ρ', ρ <+: ρ' ∧ kD (kGP (kUP RO)) ρ' K' R := fun K0 e g => by
    cases g
    subst e
    exact ⟨_, List.mem_singleton.mpr rfl, ρ, List.prefix_refl _, hD⟩
  unfold pdOFv at h
  split at h
  · rename_i pc ls v i a st G c s Γ γ
    split at h
    · exact same _ rfl h
    · split at h
      · rename_i hw
        cases h
        have hM : sMo ρ Γ := hD.1
        obtain ⟨zv, r1, hr1, ev, hV⟩ := sVs_int hD.2.1.2.2.1
        obtain ⟨z', hz', h1, h2⟩ := sWf_has hM hw
        cases hz'.symm.trans ev
        obtain ⟨m, h3⟩ := sFresh_ok (b := (0, 99)) hM h1 h2
        have hpre : ρ <+: ρ ++ [zv] := ⟨_, rfl⟩
        have hv' := sEv_mono hpre ev
        refine ⟨_, List.mem_singleton.mpr rfl, ρ ++ [zv], hpre, ⟨m.1, fun f hf => ?_, m.2.2⟩, ⟨hD.2.1.1, hD.2.1.2.1.mono hpre, ?_, hD.2.1.2.2.2.1.mono hpre, hD.2.1.2.2.2.2⟩, kGh.mono _ hpre hD.2.2⟩
        · rcases List.mem_cons.mp hf with rfl | hf
          · exact ⟨0, by rw [sEv_sub hv' h3, Int.sub_self], Int.le_refl _⟩
          · rcases List.mem_cons.mp hf with rfl | hf
            · exact ⟨0, by rw [sEv_sub h3 hv', Int.sub_self], Int.le_refl _⟩
            · exact m.2.1 f hf
        · show sVs (ρ ++ [zv]) ((0, sX Γ.1.length) :: (0, i) :: a :: st) R.2.2.1
          rw [hr1]
          exact ⟨⟨zv, h3, rfl⟩, hV.mono hpre⟩
      · exact same _ rfl h
  · exact same _ rfl h
end PDI
end
