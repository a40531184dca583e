/-! How many must be put in: the reference, one. -/
noncomputable section
def pd75 (p a o : sL) : sL := sAdd (sAdd (sMul 1600 p) (sMul 100 a)) o
def pdR3 (Γ : sG) (p a o : sL) : Bool := sNN Γ p && (sNN Γ (sSub (sC 7) p) && (sNN Γ a && (sNN Γ (sSub (sC 15) a) && (sNN Γ o && sNN Γ (sSub (sC 99) o)))))
/-- in pad itself: what is left of the sum -/
def pdQp (zh zk zw : Nat) (K : kS) : Option (sL × sL × sL × sL × sL × sL) := pB (kLf K.1.2.1 2) fun ox => pB (kFa K.2 308 (fun _ => true)) fun t => match t with
  | [_, one, _, _, _, _] => sfM zh zk zw (some (sSub ox (sMul 100 one))) K
  | _ => none
def pdSh (K : kS) : Bool := kShb K.1.2.2.2.1 53 .int 16 && (kShb K.1.2.2.2.1 54 .int 16 && kShb K.1.2.2.2.1 55 .int 16)
def pdOXr (K : kS) : Option (List kS) := match K with
  | ((pc, ls, (0, r) :: st, G, c, s, Γ), γ) => (match kLf ls 2, kFa γ 308 (fun _ => true) with
    | some ox, some [_, one, _, _, _, _] => if (decide (nDl Γ 10 ox (sC 100) = some r) && (sNN Γ (sSub ox (sMul 100 one)) && (sNN Γ (sSub (sC 99) (sSub ox (sMul 100 one))) && (sNN Γ one && sNN Γ (sSub (sC 7) one))))) = true then some [((pc, ls, (0, sSub ox (sMul 100 one)) :: st, G, c, s, Γ), γ)] else some [K]
    | _, _ => some [K])
  | _ => some [K]
/-- a number of a place that is nothing -/
def pdNRF (i : Nat) (K : kS) : Option (List kS) := match K with
  | ((pc, ls, st, G, c, s, Γ), γ) => (match kLf ls i with
    | some x => if (!decide (x = sC 0) && kEqf Γ x (sC 0)) = true then some [((pc, (i, (0, sC 0)) :: ls, st, G, c, s, Γ), γ)] else some [K]
    | none => some [K])
def pdK0 (K : kS) : Option kWs := pB (kLf K.1.2.1 1) fun k => pI (decide (sK K.1.2.2.2.2.2.2.1 k = none)) <| pI (!sNN K.1.2.2.2.2.2.2 (sSub k (sC 1))) <| pI (sWf K.1.2.2.2.2.2.2 k 0 7) <| some [([], [(k, 0, 0)]), ([], [(k, 1, 7)])]
def pdTZi (K : kS) : Option kWs := pB (kLf K.1.2.1 4) fun i => pI (decide (i = sC 0)) <| pI (!(kFa K.2 344 (fun _ => true)).isSome) <| pI (kShb K.1.2.2.2.1 75 .int 15300) <| pO [(344, [sC 0])]
def pdTZs (K : kS) : Option kWs := pB (kLf K.1.2.1 4) fun i => pI (kHav K.2 344 [i]) <| pI (decide (kFindEl K.2 75 i = some (sC 0))) <| pI (sNN K.1.2.2.2.2.2.2 i) <| pO [(344, [sAdd i (sC 1)])]
def pdTBi (zh zk zw : Nat) (K : kS) : Option kWs := pB (pdQp zh zk zw K) fun (hl, b, one, x, n, N) => pB (kLf K.1.2.1 4) fun i => pI (decide (i = sC 0)) <| pI (!(kFa K.2 345 (fun _ => true)).isSome) <| pI (kFa K.2 344 (fun fs => match fs with
  | [a] => sNN K.1.2.2.2.2.2.2 (sSub a (sC 12800))
  | _ => false)).isSome <| pI (pdSh K) <| pO [(345, [hl, b, one, x, n, N, sC 0])]
def pdTBq (Γ : sG) (z : sL) (r : List sL) : Bool := match r with
  | [a] => kEqf Γ a z
  | _ => false
def pdTBk (zh zk zw : Nat) (K : kS) : Option kWs := pB (pdQp zh zk zw K) fun (hl, b, one, x, n, N) => pB (kLf K.1.2.1 4) fun k => pI (!kHav K.2 345 [hl, b, one, x, n, N, sAdd k (sC 1)]) <| pB (pdF K.2 345 [hl, b, one, x, n, N] (pdTBq K.1.2.2.2.2.2.2 (sAdd k (sC 1)))) fun _ => pO [(345, [hl, b, one, x, n, N, sAdd k (sC 1)])]
def pdTBn (zh zk zw : Nat) (K : kS) : Option kWs := pB (pdQp zh zk zw K) fun (hl, b, one, x, n, N) => pB (kLf K.1.2.1 4) fun k => pI (!decide (k = n)) <| pI (kHav K.2 345 [hl, b, one, x, n, N, k]) <| pI (kEqf K.1.2.2.2.2.2.2 k n) <| pO [(345, [hl, b, one, x, n, N, n])]
def pdTGi (zh zk zw : Nat) (K : kS) : Option kWs := pB (sfM zh zk zw (kLf K.1.2.1 2) K) fun (hl, b, one, x, n, N) => pB (kLf K.1.2.1 1) fun k => pB (kLf K.1.2.1 3) fun p => pI (decide (p = sC 0)) <| pB (pdF K.2 345 [hl, b, one, x, n, N] (pdTBq K.1.2.2.2.2.2.2 k)) fun _ => pI (!(kFa K.2 346 (fun _ => true)).isSome) <| pI (sNN K.1.2.2.2.2.2.2 k) <| pO [(346, [hl, b, one, x, n, N, k, sC 0, sC 0, sC 0, sC 0, sC (-1)])]
def pdTG0 (zh zk zw : Nat) (K : kS) : Option kWs := pB (sfM zh zk zw (kLf K.1.2.1 2) K) fun (hl, b, one, x, n, N) => pB (kLf K.1.2.1 1) fun k => pB (kLf K.1.2.1 3) fun p => pI (kEqf K.1.2.2.2.2.2.2 k (sC 0)) <| pB (pdF K.2 346 [hl, b, one, x, n, N] (fun r => match r with
  | [k', p', a, o, w, e] => (decide (a = sC 0) && (decide (o = sC 0) && (decide (w = sC 0) && decide (e = sC (-1))))) && (kEqf K.1.2.2.2.2.2.2 k' (sC 0) && kEqf K.1.2.2.2.2.2.2 p' (sC 0))
  | _ => false)) fun _ => pI (kEqf K.1.2.2.2.2.2.2 p (sC 0)) <| pO [(346, [hl, b, one, x, n, N, sC 0, sC 0, sC 16, sC 0, sC 0, sC (-1)]), (351, [hl, b, one, x, n, N, sC 0, sC 0, sC 16, sC 0])]
def pdV (v : sL) (c : Int) : List kA × List (sL × Int × Int) := ([], [(v, c, c)])
/-- a number of the table: two bits -/
def pdV4 (i0 : Nat) (K : kS) : Option kWs := pB (kTop K) fun v => pB (kLf K.1.2.1 i0) fun i => pI (decide (kFindEl K.2 75 i = some v)) <| pI (sI32 K.1.2.2.2.2.2.2.1 v) <| pI (decide (sK K.1.2.2.2.2.2.2.1 v = none)) <| pI (sNN K.1.2.2.2.2.2.2 i) <| pI (sNN K.1.2.2.2.2.2.2 (sSub (sC 12799) i)) <|
  (match kFa K.2 346 (fun _ => true), kFa K.2 345 (fun _ => true) with
  | some _, _ => some [pdV v 0, pdV v 1, pdV v 2, pdV v 3]
  | none, some _ => some [pdV v 0, pdV v 1]
  | none, none => none)
def pdV4s (K : kS) : Option kWs := pB (kTop K) fun v => pB (kLf K.1.2.1 3) fun i => pI (decide (kFindEl K.2 75 i = some v)) <| pI (sI32 K.1.2.2.2.2.2.2.1 v) <| pI (decide (sK K.1.2.2.2.2.2.2.1 v = none)) <| pI (sNN K.1.2.2.2.2.2.2 i) <| pI (sNN K.1.2.2.2.2.2.2 (sSub (sC 12799) i)) <| pB (kFa K.2 348 (fun _ => true)) fun _ => some [pdV v 0, pdV v 1, pdV v 2, pdV v 3]
def pdSRC (zh zk zw : Nat) (K : kS) : Option kWs := pB (sfM zh zk zw (kLf K.1.2.1 2) K) fun (hl, b, one, x, n, N) => pB (kLf K.1.2.1 1) fun k => pB (kLf K.1.2.1 3) fun p => pB (kLf K.1.2.1 4) fun a => pB (kLf K.1.2.1 5) fun o =>
  pI (!kHav K.2 351 [hl, b, one, x, n, N, k, p, a, o]) <| pI (kHav K.2 346 [hl, b, one, x, n, N, k, p, a, o, sC 0, sC (-1)]) <| pB (kFindEl K.2 75 (pd75 p a o)) fun v => pI (decide (sK K.1.2.2.2.2.2.2.1 v = some 1) || decide (sK K.1.2.2.2.2.2.2.1 v = some 3)) <| pI (pdR3 K.1.2.2.2.2.2.2 p a o) <| pI (sNN K.1.2.2.2.2.2.2 (sSub k (sC 1))) <| pO [(351, [hl, b, one, x, n, N, k, p, a, o])]
def pdTGn (zh zk zw : Nat) (K : kS) : Option kWs := pB (sfM zh zk zw (kLf K.1.2.1 2) K) fun (hl, b, one, x, n, N) => pB (kLf K.1.2.1 1) fun k => pB (kLf K.1.2.1 3) fun p => pB (kLf K.1.2.1 4) fun a => pB (kLf K.1.2.1 5) fun o =>
  pI (kHav K.2 346 [hl, b, one, x, n, N, k, p, a, o, sC 0, sC (-1)]) <| pB (kFindEl K.2 75 (pd75 p a o)) fun v => pI (decide (sK K.1.2.2.2.2.2.2.1 v = some 0) || decide (sK K.1.2.2.2.2.2.2.1 v = some 2)) <| pI (pdR3 K.1.2.2.2.2.2.2 p a o) <| pI (sNN K.1.2.2.2.2.2.2 (sSub k (sC 1))) <| pO [(346, [hl, b, one, x, n, N, k, p, a, sAdd o (sC 1), sC 0, sC (-1)])]
def pdTGa (zh zk zw : Nat) (K : kS) : Option kWs := pB (sfM zh zk zw (kLf K.1.2.1 2) K) fun (hl, b, one, x, n, N) => pB (kLf K.1.2.1 1) fun k => pB (kLf K.1.2.1 3) fun p => pB (kLf K.1.2.1 4) fun a => pB (pdF K.2 346 [hl, b, one, x, n, N, k, p, a] (fun r => match r with
  | [_, w, e] => decide (w = sC 0) && decide (e = sC (-1))
  | _ => false)) fun r => match r with
  | [o, _, _] => pI (sNN K.1.2.2.2.2.2.2 (sSub (sSub o x) (sC 1))) <| pI (sNN K.1.2.2.2.2.2.2 (sSub k (sC 1))) <| pO [(346, [hl, b, one, x, n, N, k, p, sAdd a (sC 1), sC 0, sC 0, sC (-1)])]
  | _ => none
def pdTGp (zh zk zw : Nat) (K : kS) : Option kWs := pB (sfM zh zk zw (kLf K.1.2.1 2) K) fun (hl, b, one, x, n, N) => pB (kLf K.1.2.1 1) fun k => pB (kLf K.1.2.1 3) fun p =>
  (match decide (k = sC 0) with
  | true => pI (kHav K.2 346 [hl, b, one, x, n, N, sC 0, sC 0, sC 16, sC 1, sC 0, sC (-1)]) <| pI (decide (p = sC 0)) <| pO [(346, [hl, b, one, x, n, N, sC 0, sAdd (sC 0) (sC 1), sC 0, sC 0, sC 0, sC (-1)])]
  | false => pB (pdF K.2 346 [hl, b, one, x, n, N, k, p] (fun r => match r with
    | [_, o, w, e] => decide (o = sC 0) && (decide (w = sC 0) && decide (e = sC (-1)))
    | _ => false)) fun r => match r with
    | [a, _, _, _] => pI (sNN K.1.2.2.2.2.2.2 (sSub k (sC 1))) <| pI (sNN K.1.2.2.2.2.2.2 (sSub a N) || (decide (a = sC 0) && sNN K.1.2.2.2.2.2.2 (sSub p k))) <| pO [(346, [hl, b, one, x, n, N, k, sAdd p (sC 1), sC 0, sC 0, sC 0, sC (-1)])]
    | _ => none)
def pdTSi (zh zk zw : Nat) (K : kS) : Option kWs := pB (sfM zh zk zw (kLf K.1.2.1 2) K) fun (hl, b, one, x, n, N) => pB (kLf K.1.2.1 1) fun k => pB (pdF K.2 346 [hl, b, one, x, n, N, k] (fun r => match r with
  | [p, a, o, w, e] => (decide (a = sC 0) && (decide (o = sC 0) && (decide (w = sC 0) && decide (e = sC (-1))))) && sNN K.1.2.2.2.2.2.2 (sSub (sSub p k) (sC 1))
  | _ => false)) fun _ => pI (sNN K.1.2.2.2.2.2.2 k) <| pI (!(kFa K.2 348 (fun _ => true)).isSome) <| pO [(348, [hl, b, one, x, n, N, k, sC 0])]
def pdTSs (zh zk zw : Nat) (K : kS) : Option kWs := pB (sfM zh zk zw (kLf K.1.2.1 2) K) fun (hl, b, one, x, n, N) => pB (kLf K.1.2.1 1) fun k => pB (kLf K.1.2.1 3) fun i => pB (pdF1 K.2 349 [hl, b, one, x, n, N, k, i, i]) fun old => pI (sNN K.1.2.2.2.2.2.2 i) <| pI (sNN K.1.2.2.2.2.2.2 (sSub (sC 12799) i)) <|
  pI (((decide (sK K.1.2.2.2.2.2.2.1 old = some 0) || decide (sK K.1.2.2.2.2.2.2.1 old = some 1)) && decide (kFindEl K.2 75 i = some (sC 0))) || ((decide (sK K.1.2.2.2.2.2.2.1 old = some 2) || decide (sK K.1.2.2.2.2.2.2.1 old = some 3)) && decide (kFindEl K.2 75 i = some (sC 1)))) <| pO [(348, [hl, b, one, x, n, N, k, sAdd i (sC 1)])]
def pdTSe (zh zk zw : Nat) (K : kS) : Option kWs := pB (sfM zh zk zw (kLf K.1.2.1 2) K) fun (hl, b, one, x, n, N) => pB (kLf K.1.2.1 1) fun k => pB (kLf K.1.2.1 3) fun i => pI (kHav K.2 348 [hl, b, one, x, n, N, k, i]) <| pI (sNN K.1.2.2.2.2.2.2 (sSub i (sC 12800))) <| pI (sNN K.1.2.2.2.2.2.2 k) <| pO [(345, [hl, b, one, x, n, N, sAdd k (sC 1)])]
section PDG
variable {RO : List (Nat × (Nat → Int32))} {ρ : List Int} {Γ : sG} {γ : List kA} {H : List eE} {P : pP} {hl b one x n N : sL} {zh zb zo zx zn zN : Int}
theorem k345 : pdK 345 := pdKq (by decide) (by decide) (by decide) (by decide)
theorem k346 : pdK 346 := pdKq (by decide) (by decide) (by decide) (by decide)
theorem k347 : pdK 347 := pdKq (by decide) (by decide) (by decide) (by decide)
theorem k348 : pdK 348 := pdKq (by decide) (by decide) (by decide) (by decide)
theorem k349 : pdK 349 := pdKq (by decide) (by decide) (by decide) (by decide)
theorem k351 : pdK 351 := pdKq (by decide) (by decide) (by decide) (by decide)
theorem pd75_ev {p a o : sL} {zp za zo : Int} (e1 : sEv ρ p = some zp) (e2 : sEv ρ a = some za) (e3 : sEv ρ o = some zo) : sEv ρ (pd75 p a o) = some (pIx zp za zo) := sEv_add (sEv_add (sEv_mul 1600 e1) (sEv_mul 100 e2)) e3
theorem pdR3_ok (hM : sMo ρ Γ) {p a o : sL} {zp za zo : Int} (e1 : sEv ρ p = some zp) (e2 : sEv ρ a = some za) (e3 : sEv ρ o = some zo) (h : pdR3 Γ p a o = true) : 0 ≤ zp ∧ zp < 8 ∧ 0 ≤ za ∧ za < 16 ∧ 0 ≤ zo ∧ zo < 100 := by
  obtain ⟨h1, h⟩ := pAnd h
  obtain ⟨h2, h⟩ := pAnd h
  obtain ⟨h3, h⟩ := pAnd h
  obtain ⟨h4, h⟩ := pAnd h
  obtain ⟨h5, h6⟩ := pAnd h
  have d1 := sNN_ok hM e1 h1
  have d2 := sNN_ok hM (sEv_sub (sEv_C 7) e1) h2
  have d3 := sNN_ok hM e2 h3
  have d4 := sNN_ok hM (sEv_sub (sEv_C 15) e2) h4
  have d5 := sNN_ok hM e3 h5
  have d6 := sNN_ok hM (sEv_sub (sEv_C 99) e3) h6
  omega
theorem pdCat {q1 q2 : List kA} (h1 : kGh (kGP (kUP RO)) ρ q1 H) (h2 : kGh (kGP (kUP RO)) ρ q2 H) : kGh (kGP (kUP RO)) ρ (q1 ++ q2) H := fun a ha => (List.mem_append.mp ha).elim (h1 a) (h2 a)
theorem pdQp_ok {zh' zk' zw' : Nat} {K : kS} {R : eR} (hD : kD (kGP (kUP RO)) ρ K R) (h : pdQp zh' zk' zw' K = some (hl, b, one, x, n, N)) : ∃ yh yb yo yx yn yN, sEv ρ hl = some yh ∧ sEv ρ b = some yb ∧ sEv ρ one = some yo ∧ sEv ρ x = some yx ∧ sEv ρ n = some yn ∧ sEv ρ N = some yN ∧ nSP 73 8 yb yn R.2.2.2.1 ∧ yN ≤ 16 := by
  unfold pdQp at h
  obtain ⟨ox, hox, h⟩ := pB_ok h
  obtain ⟨t, ht, h⟩ := pB_ok h
  obtain ⟨zox, eox⟩ := kLf_ok hD.2.1 hox
  split at h
  · rename_i x1 one' x3 x4 x5 x6
    obtain ⟨-, yh, yo, yN, y4, y5, y6, f1, f2, -⟩ := sfGTx hD.2.2 ht
    obtain ⟨-, q⟩ := sfM_ok hD (fun y hy => by
      cases hy
      exact ⟨_, sEv_sub eox (sEv_mul 100 f2)⟩) h
    exact q
  · cases h
theorem pdC_sh {K : kS} {R : eR} (hD : kD (kGP (kUP RO)) ρ K R) (h : pdSh K = true) {cell m : Nat} {zb' zn' : Int} (hS : nSP cell m zb' zn' R.2.2.2.1) : ∃ P, pdC R.2.2.2.1 P zh zb zo zx zn zN := by
  obtain ⟨h1, h⟩ := pAnd h
  obtain ⟨h2, h3⟩ := pAnd h
  obtain ⟨fn, h1⟩ := kSh1 hD.2.1.2.2.2.1 (by decide) rfl h1
  obtain ⟨fk, h2⟩ := kSh1 hD.2.1.2.2.2.1 (by decide) rfl h2
  obtain ⟨fl, h3⟩ := kSh1 hD.2.1.2.2.2.1 (by decide) rfl h3
  obtain ⟨S, g, s1, hG, -⟩ := hS
  exact ⟨_, g, fn, fk, fl, hG, ⟨h1, h2, h3⟩, rfl⟩
theorem pdDm1 : ∀ a : Fin 8, ∀ b : Fin 100, sOp 9 (100 * ((a.val : Nat) : Int) + ((b.val : Nat) : Int)) 100 = ((a.val : Nat) : Int) ∧ sOp 10 (100 * ((a.val : Nat) : Int) + ((b.val : Nat) : Int)) 100 = ((b.val : Nat) : Int) := by decide +kernel
theorem pdDm {z a y : Int} (a0 : 0 ≤ a) (a1 : a ≤ 7) (y0 : 0 ≤ y) (y1 : y ≤ 99) (h : y = z - 100 * a) : sOp 9 z 100 = a ∧ sOp 10 z 100 = y := by
  have q := pdDm1 ⟨a.toNat, by omega⟩ ⟨y.toNat, by omega⟩
  simp only at q
  rw [show ((a.toNat : Nat) : Int) = a by omega, show ((y.toNat : Nat) : Int) = y by omega, show 100 * a + y = z by omega] at q
  exact q
theorem pdOXr_ok {K : kS} {L : List kS} (h : pdOXr K = some L) {ρ : List Int} {R : eR} (hD : kD (kGP (kUP RO)) ρ K R) : ∃ K' ∈ L, ∃ ρ', ρ <+: ρ' ∧ kD (kGP (kUP RO)) ρ' K' R := by
  have same : ∀ K0 : kS, K0 = K → some [K0] = some L → ∃ K' ∈ L, ∃ ρ', ρ <+: ρ' ∧ kD (kGP (kUP RO)) ρ' K' R := fun K0 e g => by
    cases g
    subst e
    exact ⟨_, List.mem_singleton.mpr rfl, ρ, List.prefix_refl _, hD⟩
  unfold pdOXr at h
  split at h
  · rename_i pc ls r st G c s Γ γ
    split at h
    · rename_i ox x1 one x2 x3 x4 x5 hox hone
      split at h
      · rename_i hc
        cases h
        have hM : sMo ρ Γ := hD.1
        obtain ⟨zox, eox⟩ := kLf_ok (S := (pc, ls, (0, r) :: st, G, c, s, Γ)) hD.2.1 hox
        obtain ⟨-, yh, yo, yN, y4, y5, y6, f1, f2, -⟩ := sfGTx hD.2.2 hone
        obtain ⟨h1, hc⟩ := pAnd hc
        obtain ⟨h2, hc⟩ := pAnd hc
        obtain ⟨h3, hc⟩ := pAnd hc
        obtain ⟨h4, h5⟩ := pAnd hc
        have ey := sEv_sub eox (sEv_mul 100 f2)
        have e1 := nDl_ok hM eox (sEv_C 100) (of_decide_eq_true h1)
        have d2 := sNN_ok hM ey h2
        have d3 := sNN_ok hM (sEv_sub (sEv_C 99) ey) h3
        have d4 := sNN_ok hM f2 h4
        have d5 := sNN_ok hM (sEv_sub (sEv_C 7) f2) h5
        have q := (pdDm (z := zox) d4 (by omega) d2 (by omega) rfl).2
        rw [q] at e1
        exact aTopd hD e1 ey
      · exact same _ rfl h
    · exact same _ rfl h
  · exact same _ rfl h
theorem pdGetL {i j : Nat} {v : sV} {ls : List (Nat × sV)} : sGetL ((i, v) :: ls) j = if i = j then some v else sGetL ls j := by
  show @Bool.rec (fun _ => Option sV) (sGetL ls j) (some v) (Nat.beq i j) = _
  by_cases h : i = j
  · subst h
    rw [if_pos rfl, show Nat.beq i i = true from Nat.beq_refl i]
  · rw [if_neg h, show Nat.beq i j = false from by
      cases hb : Nat.beq i j with
      | false => rfl
      | true => exact absurd (Nat.eq_of_beq_eq_true hb) h]
theorem pdLf_v {S : sR} {R : eR} (hD : sD ρ S R) {i : Nat} {y : sL} (h : kLf S.2.1 i = some y) : ∃ z, sEv ρ y = some z ∧ eGetL R.2.1 i = some (.int (Int32.ofInt z)) := by
  unfold kLf at h
  split at h
  · rename_i v hv
    split at h
    · rename_i h0
      cases h
      obtain ⟨w, hw0, hw⟩ := hD.2.1 i v hv
      obtain ⟨t, y⟩ := v
      simp only at h0
      subst h0
      obtain ⟨z, hz, rfl⟩ := sVr_int hw
      exact ⟨z, hz, hw0⟩
    · cases h
  · cases h
theorem pdNRF_ok {i : Nat} {K : kS} {L : List kS} (h : pdNRF i K = some L) {ρ : List Int} {R : eR} (hD : kD (kGP (kUP RO)) ρ K R) : ∃ K' ∈ L, ∃ ρ', ρ <+: ρ' ∧ kD (kGP (kUP RO)) ρ' K' R := by
  obtain ⟨⟨pc, ls, st, G, c, s, Γ⟩, γ⟩ := K
  have same : some [(((pc, ls, st, G, c, s, Γ), γ) : kS)] = some L → ∃ K' ∈ L, ∃ ρ', ρ <+: ρ' ∧ kD (kGP (kUP RO)) ρ' K' R := fun g => by
    cases g
    exact ⟨_, List.mem_singleton.mpr rfl, ρ, List.prefix_refl _, hD⟩
  simp only [pdNRF] at h
  split at h
  · rename_i y hy
    split at h
    · rename_i hc
      cases h
      have hM : sMo ρ Γ := hD.1
      obtain ⟨z, ez, hz⟩ := pdLf_v (S := (pc, ls, st, G, c, s, Γ)) hD.2.1 hy
      have := kEqf_ok hM ez (sEv_C 0) (pAnd hc).2
      subst this
      refine ⟨_, List.mem_singleton.mpr rfl, ρ, List.prefix_refl _, hD.1, ⟨hD.2.1.1, fun j v hv => ?_, hD.2.1.2.2⟩, hD.2.2⟩
      rw [pdGetL] at hv
      split at hv
      · rename_i e
        subst e
        cases hv
        exact ⟨_, hz, 0, sEv_C 0, rfl⟩
      · exact hD.2.1.2.1 j v hv
    · exact same h
  · exact same h
theorem pdK0_ok : kRok RO pdK0 := by
  intro K ws h ρ R hD
  have hM := hD.1
  unfold pdK0 at h
  obtain ⟨k, h₀, h⟩ := pB_ok h
  obtain ⟨zk, ek⟩ := kLf_ok hD.2.1 h₀
  clear h₀
  obtain ⟨c1, h⟩ := pI_ok h
  obtain ⟨c2, h⟩ := pI_ok h
  obtain ⟨c3, h⟩ := pI_ok h
  cases h
  obtain ⟨z, ez, z0, z7⟩ := sWf_has hM c3
  by_cases e : z = 0
  · exact ⟨_, List.mem_cons_self, fun a ha => (by cases ha), fun b hb => by
      rcases List.mem_singleton.mp hb with rfl
      exact ⟨z, ez, (by omega : (0 : Int) ≤ z), (by omega : z ≤ 0)⟩⟩
  · exact ⟨_, List.mem_cons_of_mem _ (List.mem_singleton.mpr rfl), fun a ha => (by cases ha), fun b hb => by
      rcases List.mem_singleton.mp hb with rfl
      exact ⟨z, ez, (by omega : (1 : Int) ≤ z), (by omega : z ≤ 7)⟩⟩
theorem dTZ {z : Int} : nUP 344 [z] H ↔ ∃ f, nI2 H 75 15300 f ∧ ∀ i : Nat, (i : Int) < z → (f i).toInt = 0 := by
  refine (pdUP (by decide)).trans ⟨fun q => ?_, fun ⟨f, h1, h2⟩ => show ∃ a, [z] = [a] ∧ ∃ f, nI2 H 75 15300 f ∧ ∀ i : Nat, (i : Int) < a → (f i).toInt = 0 from ⟨z, rfl, f, h1, h2⟩⟩
  obtain ⟨a, he, f, h1, h2⟩ : ∃ a, [z] = [a] ∧ ∃ f, nI2 H 75 15300 f ∧ ∀ i : Nat, (i : Int) < a → (f i).toInt = 0 := q
  cases he
  exact ⟨f, h1, h2⟩
theorem pdTZi_ok : kRok RO pdTZi := by
  intro K ws h ρ R hD
  unfold pdTZi at h
  obtain ⟨i, h₀, h⟩ := pB_ok h
  obtain ⟨zi, ei⟩ := kLf_ok hD.2.1 h₀
  clear h₀
  obtain ⟨c1, h⟩ := pI_ok h
  obtain ⟨c2, h⟩ := pI_ok h
  obtain ⟨c3, h⟩ := pI_ok h
  obtain ⟨f, hf⟩ := kSh1 hD.2.1.2.2.2.1 (by decide) rfl c3
  exact pd_out h (kAt1 (zs := [0]) (by decide) (by (repeat' first | with_reducible assumption | exact sEv_C _ | with_reducible exact pvN | with_reducible apply pvC | with_reducible apply sEv_add | with_reducible apply sEv_sub | with_reducible apply sEv_mul)) ((kUPn (by decide)).mpr (dTZ.mpr ⟨f, hf, fun i hi => by omega⟩)))
theorem pdTZs_ok : kRok RO pdTZs := by
  intro K ws h ρ R hD
  have hM := hD.1
  unfold pdTZs at h
  obtain ⟨i, h₀, h⟩ := pB_ok h
  obtain ⟨zi, ei⟩ := kLf_ok hD.2.1 h₀
  clear h₀
  obtain ⟨c1, h⟩ := pI_ok h
  obtain ⟨h₀, h⟩ := pI_ok h
  have c2 := of_decide_eq_true h₀
  clear h₀
  obtain ⟨h₀, h⟩ := pI_ok h
  have d1 := sNN_ok hM (by (repeat' first | with_reducible assumption | exact sEv_C _ | with_reducible exact pvN | with_reducible apply pvC | with_reducible apply sEv_add | with_reducible apply sEv_sub | with_reducible apply sEv_mul)) h₀
  clear h₀
  obtain ⟨zs, e, h2⟩ := kHav_ok hD.2.2 c1 (by decide)
  obtain ⟨z', rfl, e'⟩ := sVal_1 e
  cases e'.symm.trans ei
  obtain ⟨f, f1, f2⟩ := dTZ.mp ((kUPn (by decide)).mp h2)
  obtain ⟨z, ez, kz⟩ := kFindEl_ok hD.2.2 c2 ei
  cases ez.symm.trans (sEv_C (ρ := ρ) 0)
  obtain ⟨-, hz⟩ := pdEl kz f1 (by omega)
  refine pd_out h (kAt1 (zs := [zi + 1]) (by decide) (by (repeat' first | with_reducible assumption | exact sEv_C _ | with_reducible exact pvN | with_reducible apply pvC | with_reducible apply sEv_add | with_reducible apply sEv_sub | with_reducible apply sEv_mul)) ((kUPn (by decide)).mpr (dTZ.mpr ⟨f, f1, fun j hj => ?_⟩)))
  by_cases e : (j : Int) = zi
  · rw [show j = zi.toNat by omega]
    exact hz
  · exact f2 j (by omega)
theorem pdTBi_ok (z1 z2 z3 : Nat) : kRok RO (pdTBi z1 z2 z3) := by
  intro K ws h ρ R hD
  have hM := hD.1
  unfold pdTBi at h
  obtain ⟨⟨hl, b, one, x, n, N⟩, hQ, h⟩ := pB_ok h
  obtain ⟨zh, zb, zo, zx, zn, zN, eh, eb, eo, ex, en, eN, hS, hN16⟩ := pdQp_ok hD hQ
  have E : pdE ρ hl b one x n N zh zb zo zx zn zN := ⟨eh, eb, eo, ex, en, eN⟩
  obtain ⟨i, h₀, h⟩ := pB_ok h
  obtain ⟨zi, ei⟩ := kLf_ok hD.2.1 h₀
  clear h₀
  obtain ⟨c1, h⟩ := pI_ok h
  obtain ⟨c2, h⟩ := pI_ok h
  obtain ⟨c3, h⟩ := pI_ok h
  obtain ⟨c4, h⟩ := pI_ok h
  obtain ⟨P, cP⟩ := pdC_sh (zh := zh) (zb := zb) (zo := zo) (zx := zx) (zn := zn) (zN := zN) hD c4 hS
  obtain ⟨fs, hf⟩ := Option.isSome_iff_exists.mp c3
  obtain ⟨q, zs, e, h2⟩ := nFa_ok hD.2.2 hf (by decide) (by decide)
  split at q
  · rename_i a
    obtain ⟨z, rfl, ez⟩ := sVal_1 e
    have d := sNN_ok hD.1 (sEv_sub ez (sEv_C 12800)) q
    obtain ⟨f, f1, f2⟩ := dTZ.mp h2
    exact pd_out h (pdMk k345 E (zs := [0]) (by (repeat' first | with_reducible assumption | exact sEv_C _ | with_reducible exact pvN | with_reducible apply pvC | with_reducible apply sEv_add | with_reducible apply sEv_sub | with_reducible apply sEv_mul)) (pdC_mk cP (dTB.mpr ⟨f, f1, rfl, pTb_0 (fun i hi => f2 i (by omega))⟩)))
  · cases q
theorem pdTBq_ok (hM : sMo ρ Γ) {z : sL} {zz : Int} (ez : sEv ρ z = some zz) {r : List sL} {zs : List Int} (er : sVal ρ r = some zs) (h : pdTBq Γ z r = true) : zs = [zz] := by
  unfold pdTBq at h
  split at h
  · rename_i a
    obtain ⟨y, rfl, ey⟩ := sVal_1 er
    rw [kEqf_ok hM ey ez h]
  · cases h
theorem pdTBk_ok (z1 z2 z3 : Nat) : kRok RO (pdTBk z1 z2 z3) := by
  intro K ws h ρ R hD
  have hM := hD.1
  unfold pdTBk at h
  obtain ⟨⟨hl, b, one, x, n, N⟩, hQ, h⟩ := pB_ok h
  obtain ⟨zh, zb, zo, zx, zn, zN, eh, eb, eo, ex, en, eN, hS, hN16⟩ := pdQp_ok hD hQ
  have E : pdE ρ hl b one x n N zh zb zo zx zn zN := ⟨eh, eb, eo, ex, en, eN⟩
  obtain ⟨k, h₀, h⟩ := pB_ok h
  obtain ⟨zk, ek⟩ := kLf_ok hD.2.1 h₀
  clear h₀
  obtain ⟨c1, h⟩ := pI_ok h
  obtain ⟨r, hr, h⟩ := pB_ok h
  obtain ⟨q, zs, ez, hC⟩ := pdFz hD.2.2 k345 E (q := []) hr
  have := pdTBq_ok hM (sEv_add ek (sEv_C 1)) ez q
  subst this
  exact pd_out h (pdMk k345 E (zs := [zk + 1]) (by (repeat' first | with_reducible assumption | exact sEv_C _ | with_reducible exact pvN | with_reducible apply pvC | with_reducible apply sEv_add | with_reducible apply sEv_sub | with_reducible apply sEv_mul)) hC)
theorem pdTBn_ok (z1 z2 z3 : Nat) : kRok RO (pdTBn z1 z2 z3) := by
  intro K ws h ρ R hD
  have hM := hD.1
  unfold pdTBn at h
  obtain ⟨⟨hl, b, one, x, n, N⟩, hQ, h⟩ := pB_ok h
  obtain ⟨zh, zb, zo, zx, zn, zN, eh, eb, eo, ex, en, eN, hS, hN16⟩ := pdQp_ok hD hQ
  have E : pdE ρ hl b one x n N zh zb zo zx zn zN := ⟨eh, eb, eo, ex, en, eN⟩
  obtain ⟨k, h₀, h⟩ := pB_ok h
  obtain ⟨zk, ek⟩ := kLf_ok hD.2.1 h₀
  clear h₀
  obtain ⟨c1, h⟩ := pI_ok h
  obtain ⟨c2, h⟩ := pI_ok h
  obtain ⟨c3, h⟩ := pI_ok h
  have hC := pdHz hD.2.2 k345 E (zs := [zk]) (by (repeat' first | with_reducible assumption | exact sEv_C _ | with_reducible exact pvN | with_reducible apply pvC | with_reducible apply sEv_add | with_reducible apply sEv_sub | with_reducible apply sEv_mul)) c2
  have := kEqf_ok hM ek en c3
  subst this
  exact pd_out h (pdMk k345 E (zs := [zk]) (by (repeat' first | with_reducible assumption | exact sEv_C _ | with_reducible exact pvN | with_reducible apply pvC | with_reducible apply sEv_add | with_reducible apply sEv_sub | with_reducible apply sEv_mul)) hC)
theorem pdTGi_ok (z1 z2 z3 : Nat) : kRok RO (pdTGi z1 z2 z3) := by
  intro K ws h ρ R hD
  have hM := hD.1
  unfold pdTGi at h
  obtain ⟨⟨hl, b, one, x, n, N⟩, hQ, h⟩ := pB_ok h
  obtain ⟨hx, zh, zb, zo, zx, zn, zN, eh, eb, eo, ex, en, eN, hS, hN16⟩ := sfM_ok hD (fun y hy => kLf_ok hD.2.1 hy) hQ
  have E : pdE ρ hl b one x n N zh zb zo zx zn zN := ⟨eh, eb, eo, ex, en, eN⟩
  obtain ⟨k, h₀, h⟩ := pB_ok h
  obtain ⟨zk, ek⟩ := kLf_ok hD.2.1 h₀
  clear h₀
  obtain ⟨p, h₀, h⟩ := pB_ok h
  obtain ⟨zp, ep⟩ := kLf_ok hD.2.1 h₀
  clear h₀
  obtain ⟨c1, h⟩ := pI_ok h
  obtain ⟨r, hr, h⟩ := pB_ok h
  obtain ⟨c2, h⟩ := pI_ok h
  obtain ⟨h₀, h⟩ := pI_ok h
  have d1 := sNN_ok hM (by (repeat' first | with_reducible assumption | exact sEv_C _ | with_reducible exact pvN | with_reducible apply pvC | with_reducible apply sEv_add | with_reducible apply sEv_sub | with_reducible apply sEv_mul)) h₀
  clear h₀
  obtain ⟨q, zs, ez, hC⟩ := pdFz hD.2.2 k345 E (q := []) hr
  have := pdTBq_ok hM ek ez q
  subst this
  obtain ⟨P, cP, hP⟩ := pdC_of hC
  obtain ⟨f, f1, -, f2⟩ := dTB.mp hP
  exact pd_out h (pdMk k346 E (zs := [zk, 0, 0, 0, 0, -1]) (by (repeat' first | with_reducible assumption | exact sEv_C _ | with_reducible exact pvN | with_reducible apply pvC | with_reducible apply sEv_add | with_reducible apply sEv_sub | with_reducible apply sEv_mul)) (pdC_mk cP (dTG.mpr ⟨f, f1, rfl, pTg_0 f2, fun q => by omega⟩)))
theorem pdTG0_ok (z1 z2 z3 : Nat) : kRok RO (pdTG0 z1 z2 z3) := by
  intro K ws h ρ R hD
  have hM := hD.1
  unfold pdTG0 at h
  obtain ⟨⟨hl, b, one, x, n, N⟩, hQ, h⟩ := pB_ok h
  obtain ⟨hx, zh, zb, zo, zx, zn, zN, eh, eb, eo, ex, en, eN, hS, hN16⟩ := sfM_ok hD (fun y hy => kLf_ok hD.2.1 hy) hQ
  have E : pdE ρ hl b one x n N zh zb zo zx zn zN := ⟨eh, eb, eo, ex, en, eN⟩
  obtain ⟨k, h₀, h⟩ := pB_ok h
  obtain ⟨zk, ek⟩ := kLf_ok hD.2.1 h₀
  clear h₀
  obtain ⟨p, h₀, h⟩ := pB_ok h
  obtain ⟨zp, ep⟩ := kLf_ok hD.2.1 h₀
  clear h₀
  obtain ⟨c1, h⟩ := pI_ok h
  obtain ⟨r, hr, h⟩ := pB_ok h
  obtain ⟨c2, h⟩ := pI_ok h
  obtain ⟨q, zs, ez, hC⟩ := pdFz hD.2.2 k346 E (q := []) hr
  split at q
  · rename_i k' p' a o w e
    obtain ⟨q1, q2⟩ := pAnd q
    obtain ⟨q3, q1⟩ := pAnd q1
    obtain ⟨q4, q1⟩ := pAnd q1
    obtain ⟨q5, q6⟩ := pAnd q1
    obtain ⟨q7, q8⟩ := pAnd q2
    cases of_decide_eq_true q3
    cases of_decide_eq_true q4
    cases of_decide_eq_true q5
    cases of_decide_eq_true q6
    obtain ⟨y1, y2, y3, y4, y5, y6, rfl, f1, f2, f3, f4, f5, f6⟩ := sVal_6 ez
    cases f3.symm.trans (sEv_C (ρ := ρ) 0)
    cases f4.symm.trans (sEv_C (ρ := ρ) 0)
    cases f5.symm.trans (sEv_C (ρ := ρ) 0)
    cases f6.symm.trans (sEv_C (ρ := ρ) (-1))
    have e1 := kEqf_ok hM f1 (sEv_C 0) q7
    have e2 := kEqf_ok hM f2 (sEv_C 0) q8
    subst e1 e2
    obtain ⟨P, cP, hP⟩ := pdC_of hC
    obtain ⟨f, g1, -, g2, -⟩ := dTG.mp hP
    exact pd_out h (pdCat (q1 := [_]) (pdMk k346 E (zs := [0, 0, 16, 0, 0, -1]) (by (repeat' first | with_reducible assumption | exact sEv_C _ | with_reducible exact pvN | with_reducible apply pvC | with_reducible apply sEv_add | with_reducible apply sEv_sub | with_reducible apply sEv_mul)) (pdC_mk cP (dTG.mpr ⟨f, g1, rfl, pTg_iff g2 pTd_00, fun q => by omega⟩))) (pdMk k351 E (zs := [0, 0, 16, 0]) (by (repeat' first | with_reducible assumption | exact sEv_C _ | with_reducible exact pvN | with_reducible apply pvC | with_reducible apply sEv_add | with_reducible apply sEv_sub | with_reducible apply sEv_mul)) (pdC_mk cP (dSRC.mpr (Or.inl ⟨rfl, rfl, rfl, rfl⟩)))))
  · cases q
theorem pdTGh (hg : kGh (kGP (kUP RO)) ρ γ H) {ws : List Int} {P0 : Prop} {k : Nat} (hk : k = 345 ∨ k = 346 ∨ k = 348) {p : List sL → Bool} {fs : List sL} (h : kFa γ k p = some fs) (hc : ∀ {P : pP} {f : Nat → Int32} {zs : List Int}, nI2 H 75 15300 f → dTb P f k zs → P0) : P0 := by
  obtain ⟨-, zs, e, h2⟩ := nFa_ok hg h (by omega) (by omega)
  have h3 := (pdUm (k := k) (by unfold pdK; omega)).mp h2
  split at h3
  · obtain ⟨g, fn, fk, fl, -, -, hP⟩ := h3
    unfold dPr at hP
    rw [if_neg (by omega), if_neg (by omega), if_pos (by omega)] at hP
    obtain ⟨f, f1, f2⟩ := hP
    exact hc f1 f2
  · exact h3.elim
theorem pdB2 {f : Nat → Int32} {zs : List Int} (h : dTb P f 345 zs) {i : Int} (i0 : 0 ≤ i) (i1 : i < 12800) : (f i.toNat).toInt = 0 ∨ (f i.toNat).toInt = 1 := by
  obtain ⟨p, w, r, a1, a2, a3, a4, a5, a6, rfl⟩ := pIx_in i0 i1
  match zs, h with
  | [a], h => exact (h.2 p w r a1 a2 a3 a4 a5 a6).imp (fun q => q.1) (fun q => q.1)
  | [a, b], h => exact absurd h.1 (by decide)
  | [a, b, c, d], h => exact absurd h.1 (by decide)
  | [a, p, b, o, w, e], h => exact absurd h.1 (by decide)
  | [a, p, b, o, w, e, i, old], h => exact absurd h.1 (by decide)
theorem pdB4 {f : Nat → Int32} {k : Nat} (hk : k = 346 ∨ k = 348) {zs : List Int} (h : dTb P f k zs) {i : Int} (i0 : 0 ≤ i) (i1 : i < 12800) : 0 ≤ (f i.toNat).toInt ∧ (f i.toNat).toInt ≤ 3 := by
  obtain ⟨p, w, r, a1, a2, a3, a4, a5, a6, rfl⟩ := pIx_in i0 i1
  rcases hk with rfl | rfl
  · match zs, h with
    | [a], h => exact absurd h.1 (by decide)
    | [a, b], h => exact absurd h.1 (by decide)
    | [a, b, c, d], h => exact absurd h.1 (by decide)
    | [a, p', b, o, w', e], h =>
      obtain ⟨v, q1, q2, q3, -⟩ := h.2.1 p w r a1 a2 a3 a4 a5 a6
      omega
    | [a, p, b, o, w, e, i, old], h => exact absurd h.1 (by decide)
  · match zs, h with
    | [a], h => exact absurd h.1 (by decide)
    | [a, b], h =>
      obtain ⟨v, q1, q2, q3, -⟩ := h.2.2 p w r a1 a2 a3 a4 a5 a6
      omega
    | [a, b, c, d], h => exact absurd h.1 (by decide)
    | [a, p, b, o, w, e], h => exact absurd h.1 (by decide)
    | [a, p, b, o, w, e, i, old], h => exact absurd h.1 (by decide)
theorem pdVb {v : sL} {z c : Int} (ev : sEv ρ v = some z) (h : z = c) : kGh (kGP (kUP RO)) ρ (pdV v c).1 H ∧ ∀ b ∈ (pdV v c).2, ∃ z, sEv ρ b.1 = some z ∧ b.2.1 ≤ z ∧ z ≤ b.2.2 := ⟨fun a ha => (by cases ha), fun b hb => by
  rcases List.mem_singleton.mp hb with rfl
  exact ⟨z, ev, (by omega : c ≤ z), (by omega : z ≤ c)⟩⟩
theorem pdVo4 {v : sL} {z : Int} {ws : kWs} (ev : sEv ρ v = some z) (h0 : 0 ≤ z) (h3 : z ≤ 3) (h : some [pdV v 0, pdV v 1, pdV v 2, pdV v 3] = some ws) : ∃ p ∈ ws, kGh (kGP (kUP RO)) ρ p.1 H ∧ ∀ b ∈ p.2, ∃ z, sEv ρ b.1 = some z ∧ b.2.1 ≤ z ∧ z ≤ b.2.2 := by
  cases h
  rcases (by omega : z = 0 ∨ z = 1 ∨ z = 2 ∨ z = 3) with e | e | e | e
  · exact ⟨_, by simp, pdVb ev e⟩
  · exact ⟨pdV v 1, by simp, pdVb ev e⟩
  · exact ⟨pdV v 2, by simp, pdVb ev e⟩
  · exact ⟨pdV v 3, by simp, pdVb ev e⟩
theorem pdV4_ok (i0 : Nat) : kRok RO (pdV4 i0) := by
  intro K ws h ρ R hD
  have hM := hD.1
  unfold pdV4 at h
  obtain ⟨v, h₀, h⟩ := pB_ok h
  obtain ⟨zv, ev⟩ := nTop_ev hD.2.1 h₀
  clear h₀
  obtain ⟨i, h₀, h⟩ := pB_ok h
  obtain ⟨zi, ei⟩ := kLf_ok hD.2.1 h₀
  clear h₀
  obtain ⟨h₀, h⟩ := pI_ok h
  have c1 := of_decide_eq_true h₀
  clear h₀
  obtain ⟨h₀, h⟩ := pI_ok h
  have r1 := sWi_ok hM.1 (by (repeat' first | with_reducible assumption | exact sEv_C _ | with_reducible exact pvN | with_reducible apply pvC | with_reducible apply sEv_add | with_reducible apply sEv_sub | with_reducible apply sEv_mul)) h₀
  clear h₀
  obtain ⟨c2, h⟩ := pI_ok h
  obtain ⟨h₀, h⟩ := pI_ok h
  have d1 := sNN_ok hM (by (repeat' first | with_reducible assumption | exact sEv_C _ | with_reducible exact pvN | with_reducible apply pvC | with_reducible apply sEv_add | with_reducible apply sEv_sub | with_reducible apply sEv_mul)) h₀
  clear h₀
  obtain ⟨h₀, h⟩ := pI_ok h
  have d2 := sNN_ok hM (by (repeat' first | with_reducible assumption | exact sEv_C _ | with_reducible exact pvN | with_reducible apply pvC | with_reducible apply sEv_add | with_reducible apply sEv_sub | with_reducible apply sEv_mul)) h₀
  clear h₀
  obtain ⟨z, ez, kz⟩ := kFindEl_ok hD.2.2 c1 ei
  cases ez.symm.trans ev
  cases hfa : kFa K.2 346 (fun _ => true) with
  | some fs =>
    rw [hfa] at h
    have hb : 0 ≤ zv ∧ zv ≤ 3 := pdTGh (ws := []) hD.2.2 (Or.inr (Or.inl rfl)) hfa (fun f1 f2 => by
      have q := pdB4 (Or.inl rfl) f2 d1 (by omega)
      have := pdEl kz f1 r1
      omega)
    exact pdVo4 ev hb.1 hb.2 h
  | none =>
    rw [hfa] at h
    cases hfb : kFa K.2 345 (fun _ => true) with
    | some fs =>
      rw [hfb] at h
      have hb : zv = 0 ∨ zv = 1 := pdTGh (ws := []) hD.2.2 (Or.inl rfl) hfb (fun f1 f2 => by
        have q := pdB2 f2 d1 (by omega)
        have := pdEl kz f1 r1
        omega)
      have h : some [pdV v 0, pdV v 1] = some ws := h
      cases h
      rcases hb with e | e
      · exact ⟨_, by simp, pdVb ev e⟩
      · exact ⟨pdV v 1, by simp, pdVb ev e⟩
    | none =>
      rw [hfb] at h
      cases h
theorem pdV4s_ok : kRok RO pdV4s := by
  intro K ws h ρ R hD
  have hM := hD.1
  unfold pdV4s at h
  obtain ⟨v, h₀, h⟩ := pB_ok h
  obtain ⟨zv, ev⟩ := nTop_ev hD.2.1 h₀
  clear h₀
  obtain ⟨i, h₀, h⟩ := pB_ok h
  obtain ⟨zi, ei⟩ := kLf_ok hD.2.1 h₀
  clear h₀
  obtain ⟨h₀, h⟩ := pI_ok h
  have c1 := of_decide_eq_true h₀
  clear h₀
  obtain ⟨h₀, h⟩ := pI_ok h
  have r1 := sWi_ok hM.1 (by (repeat' first | with_reducible assumption | exact sEv_C _ | with_reducible exact pvN | with_reducible apply pvC | with_reducible apply sEv_add | with_reducible apply sEv_sub | with_reducible apply sEv_mul)) h₀
  clear h₀
  obtain ⟨c2, h⟩ := pI_ok h
  obtain ⟨h₀, h⟩ := pI_ok h
  have d1 := sNN_ok hM (by (repeat' first | with_reducible assumption | exact sEv_C _ | with_reducible exact pvN | with_reducible apply pvC | with_reducible apply sEv_add | with_reducible apply sEv_sub | with_reducible apply sEv_mul)) h₀
  clear h₀
  obtain ⟨h₀, h⟩ := pI_ok h
  have d2 := sNN_ok hM (by (repeat' first | with_reducible assumption | exact sEv_C _ | with_reducible exact pvN | with_reducible apply pvC | with_reducible apply sEv_add | with_reducible apply sEv_sub | with_reducible apply sEv_mul)) h₀
  clear h₀
  obtain ⟨z, ez, kz⟩ := kFindEl_ok hD.2.2 c1 ei
  cases ez.symm.trans ev
  obtain ⟨fs, hfa, h⟩ := pB_ok h
  have hb : 0 ≤ zv ∧ zv ≤ 3 := pdTGh (ws := []) hD.2.2 (Or.inr (Or.inr rfl)) hfa (fun f1 f2 => by
    have q := pdB4 (Or.inr rfl) f2 d1 (by omega)
    have := pdEl kz f1 r1
    omega)
  exact pdVo4 ev hb.1 hb.2 h
theorem pdSRC_ok (z1 z2 z3 : Nat) : kRok RO (pdSRC z1 z2 z3) := by
  intro K ws h ρ R hD
  have hM := hD.1
  unfold pdSRC at h
  obtain ⟨⟨hl, b, one, x, n, N⟩, hQ, h⟩ := pB_ok h
  obtain ⟨hx, zh, zb, zo, zx, zn, zN, eh, eb, eo, ex, en, eN, hS, hN16⟩ := sfM_ok hD (fun y hy => kLf_ok hD.2.1 hy) hQ
  have E : pdE ρ hl b one x n N zh zb zo zx zn zN := ⟨eh, eb, eo, ex, en, eN⟩
  obtain ⟨k, h₀, h⟩ := pB_ok h
  obtain ⟨zk, ek⟩ := kLf_ok hD.2.1 h₀
  clear h₀
  obtain ⟨p, h₀, h⟩ := pB_ok h
  obtain ⟨zp, ep⟩ := kLf_ok hD.2.1 h₀
  clear h₀
  obtain ⟨a, h₀, h⟩ := pB_ok h
  obtain ⟨za, ea⟩ := kLf_ok hD.2.1 h₀
  clear h₀
  obtain ⟨o, h₀, h⟩ := pB_ok h
  obtain ⟨zo', eo'⟩ := kLf_ok hD.2.1 h₀
  clear h₀
  obtain ⟨c1, h⟩ := pI_ok h
  obtain ⟨c2, h⟩ := pI_ok h
  obtain ⟨v, hv, h⟩ := pB_ok h
  obtain ⟨zv, ev, kv⟩ := kFindEl_ok hD.2.2 hv (pd75_ev ep ea eo')
  obtain ⟨c3, h⟩ := pI_ok h
  obtain ⟨c4, h⟩ := pI_ok h
  obtain ⟨h₀, h⟩ := pI_ok h
  have d1 := sNN_ok hM (by (repeat' first | with_reducible assumption | exact sEv_C _ | with_reducible exact pvN | with_reducible apply pvC | with_reducible apply sEv_add | with_reducible apply sEv_sub | with_reducible apply sEv_mul)) h₀
  clear h₀
  obtain ⟨P, cP, hP⟩ := pdC_of (pdHz hD.2.2 k346 E (zs := [zk, zp, za, zo', 0, -1]) (by (repeat' first | with_reducible assumption | exact sEv_C _ | with_reducible exact pvN | with_reducible apply pvC | with_reducible apply sEv_add | with_reducible apply sEv_sub | with_reducible apply sEv_mul)) c2)
  obtain ⟨f, f1, -, f2, -⟩ := dTG.mp hP
  obtain ⟨r1, r2, r3, r4, r5, r6⟩ := pdR3_ok hM ep ea eo' c4
  have hv1 : zv = 1 ∨ zv = 3 := (pOr c3).imp (fun q => sK_ok hM.1 ev (of_decide_eq_true q)) (fun q => sK_ok hM.1 ev (of_decide_eq_true q))
  obtain ⟨-, hz⟩ := pdEl kv f1 (by omega)
  obtain ⟨y, q1, -, -, q4, -⟩ := f2 zp za zo' r1 r2 r3 r4 r5 r6
  exact pd_out h (pdMk k351 E (zs := [zk, zp, za, zo']) (by (repeat' first | with_reducible assumption | exact sEv_C _ | with_reducible exact pvN | with_reducible apply pvC | with_reducible apply sEv_add | with_reducible apply sEv_sub | with_reducible apply sEv_mul)) (pdC_mk cP (dSRC.mpr (Or.inr (q4.mp (by omega))))))
theorem pdTGn_ok (z1 z2 z3 : Nat) : kRok RO (pdTGn z1 z2 z3) := by
  intro K ws h ρ R hD
  have hM := hD.1
  unfold pdTGn at h
  obtain ⟨⟨hl, b, one, x, n, N⟩, hQ, h⟩ := pB_ok h
  obtain ⟨hx, zh, zb, zo, zx, zn, zN, eh, eb, eo, ex, en, eN, hS, hN16⟩ := sfM_ok hD (fun y hy => kLf_ok hD.2.1 hy) hQ
  have E : pdE ρ hl b one x n N zh zb zo zx zn zN := ⟨eh, eb, eo, ex, en, eN⟩
  obtain ⟨k, h₀, h⟩ := pB_ok h
  obtain ⟨zk, ek⟩ := kLf_ok hD.2.1 h₀
  clear h₀
  obtain ⟨p, h₀, h⟩ := pB_ok h
  obtain ⟨zp, ep⟩ := kLf_ok hD.2.1 h₀
  clear h₀
  obtain ⟨a, h₀, h⟩ := pB_ok h
  obtain ⟨za, ea⟩ := kLf_ok hD.2.1 h₀
  clear h₀
  obtain ⟨o, h₀, h⟩ := pB_ok h
  obtain ⟨zo', eo'⟩ := kLf_ok hD.2.1 h₀
  clear h₀
  obtain ⟨c2, h⟩ := pI_ok h
  obtain ⟨v, hv, h⟩ := pB_ok h
  obtain ⟨zv, ev, kv⟩ := kFindEl_ok hD.2.2 hv (pd75_ev ep ea eo')
  obtain ⟨c3, h⟩ := pI_ok h
  obtain ⟨c4, h⟩ := pI_ok h
  obtain ⟨h₀, h⟩ := pI_ok h
  have d1 := sNN_ok hM (by (repeat' first | with_reducible assumption | exact sEv_C _ | with_reducible exact pvN | with_reducible apply pvC | with_reducible apply sEv_add | with_reducible apply sEv_sub | with_reducible apply sEv_mul)) h₀
  clear h₀
  obtain ⟨P, cP, hP⟩ := pdC_of (pdHz hD.2.2 k346 E (zs := [zk, zp, za, zo', 0, -1]) (by (repeat' first | with_reducible assumption | exact sEv_C _ | with_reducible exact pvN | with_reducible apply pvC | with_reducible apply sEv_add | with_reducible apply sEv_sub | with_reducible apply sEv_mul)) c2)
  obtain ⟨f, f1, -, f2, -⟩ := dTG.mp hP
  obtain ⟨r1, r2, r3, r4, r5, r6⟩ := pdR3_ok hM ep ea eo' c4
  have hv1 : zv = 0 ∨ zv = 2 := (pOr c3).imp (fun q => sK_ok hM.1 ev (of_decide_eq_true q)) (fun q => sK_ok hM.1 ev (of_decide_eq_true q))
  obtain ⟨-, hz⟩ := pdEl kv f1 (by omega)
  obtain ⟨y, q1, -, -, q4, -⟩ := f2 zp za zo' r1 r2 r3 r4 r5 r6
  have hn : ¬ pS P zk zp za zo' := fun q => by
    rcases q with q | q
    · omega
    · have := q4.mpr q
      omega
  exact pd_out h (pdMk k346 E (zs := [zk, zp, za, zo' + 1, 0, -1]) (by (repeat' first | with_reducible assumption | exact sEv_C _ | with_reducible exact pvN | with_reducible apply pvC | with_reducible apply sEv_add | with_reducible apply sEv_sub | with_reducible apply sEv_mul)) (pdC_mk cP (dTG.mpr ⟨f, f1, rfl, pTg_iff f2 (pTd_n hn), fun q => by omega⟩)))
theorem pdTGa_ok (z1 z2 z3 : Nat) : kRok RO (pdTGa z1 z2 z3) := by
  intro K ws h ρ R hD
  have hM := hD.1
  unfold pdTGa at h
  obtain ⟨⟨hl, b, one, x, n, N⟩, hQ, h⟩ := pB_ok h
  obtain ⟨hx, zh, zb, zo, zx, zn, zN, eh, eb, eo, ex, en, eN, hS, hN16⟩ := sfM_ok hD (fun y hy => kLf_ok hD.2.1 hy) hQ
  have E : pdE ρ hl b one x n N zh zb zo zx zn zN := ⟨eh, eb, eo, ex, en, eN⟩
  obtain ⟨k, h₀, h⟩ := pB_ok h
  obtain ⟨zk, ek⟩ := kLf_ok hD.2.1 h₀
  clear h₀
  obtain ⟨p, h₀, h⟩ := pB_ok h
  obtain ⟨zp, ep⟩ := kLf_ok hD.2.1 h₀
  clear h₀
  obtain ⟨a, h₀, h⟩ := pB_ok h
  obtain ⟨za, ea⟩ := kLf_ok hD.2.1 h₀
  clear h₀
  obtain ⟨r, hr, h⟩ := pB_ok h
  obtain ⟨q, zs, ez, hC⟩ := pdFz hD.2.2 k346 E (q := [k, p, a]) hr
  split at h
  · rename_i o w e
    obtain ⟨q1, q2⟩ := pAnd q
    cases of_decide_eq_true q1
    cases of_decide_eq_true q2
    obtain ⟨y1, y2, y3, y4, y5, y6, rfl, f1, f2, f3, f4, f5, f6⟩ := sVal_6 ez
    cases f1.symm.trans ek
    cases f2.symm.trans ep
    cases f3.symm.trans ea
    cases f5.symm.trans (sEv_C (ρ := ρ) 0)
    cases f6.symm.trans (sEv_C (ρ := ρ) (-1))
    obtain ⟨h₀, h⟩ := pI_ok h
    have d1 := sNN_ok hM (by (repeat' first | with_reducible assumption | exact sEv_C _ | with_reducible exact pvN | with_reducible apply pvC | with_reducible apply sEv_add | with_reducible apply sEv_sub | with_reducible apply sEv_mul)) h₀
    clear h₀
    obtain ⟨h₀, h⟩ := pI_ok h
    have d2 := sNN_ok hM (by (repeat' first | with_reducible assumption | exact sEv_C _ | with_reducible exact pvN | with_reducible apply pvC | with_reducible apply sEv_add | with_reducible apply sEv_sub | with_reducible apply sEv_mul)) h₀
    clear h₀
    obtain ⟨P, cP, hP⟩ := pdC_of hC
    obtain ⟨hX, hN, hM', hG⟩ := pdC_f cP
    obtain ⟨f, g1, -, g2, -⟩ := dTG.mp hP
    exact pd_out h (pdMk k346 E (zs := [zk, zp, za + 1, 0, 0, -1]) (by (repeat' first | with_reducible assumption | exact sEv_C _ | with_reducible exact pvN | with_reducible apply pvC | with_reducible apply sEv_add | with_reducible apply sEv_sub | with_reducible apply sEv_mul)) (pdC_mk cP (dTG.mpr ⟨f, g1, rfl, pTg_iff g2 (pTd_a (by omega) (by omega)), fun q => by omega⟩)))
  · cases h
theorem pdTGp_ok (z1 z2 z3 : Nat) : kRok RO (pdTGp z1 z2 z3) := by
  intro K ws h ρ R hD
  have hM := hD.1
  unfold pdTGp at h
  obtain ⟨⟨hl, b, one, x, n, N⟩, hQ, h⟩ := pB_ok h
  obtain ⟨hx, zh, zb, zo, zx, zn, zN, eh, eb, eo, ex, en, eN, hS, hN16⟩ := sfM_ok hD (fun y hy => kLf_ok hD.2.1 hy) hQ
  have E : pdE ρ hl b one x n N zh zb zo zx zn zN := ⟨eh, eb, eo, ex, en, eN⟩
  obtain ⟨k, h₀, h⟩ := pB_ok h
  obtain ⟨zk, ek⟩ := kLf_ok hD.2.1 h₀
  clear h₀
  obtain ⟨p, h₀, h⟩ := pB_ok h
  obtain ⟨zp, ep⟩ := kLf_ok hD.2.1 h₀
  clear h₀
  split at h
  · obtain ⟨c1, h⟩ := pI_ok h
    obtain ⟨c2, h⟩ := pI_ok h
    obtain ⟨P, cP, hP⟩ := pdC_of (pdHz hD.2.2 k346 E (zs := [0, 0, 16, 1, 0, -1]) (by (repeat' first | with_reducible assumption | exact sEv_C _ | with_reducible exact pvN | with_reducible apply pvC | with_reducible apply sEv_add | with_reducible apply sEv_sub | with_reducible apply sEv_mul)) c1)
    obtain ⟨f, g1, -, g2, -⟩ := dTG.mp hP
    exact pd_out h (pdMk k346 E (zs := [0, 0 + 1, 0, 0, 0, -1]) (by (repeat' first | with_reducible assumption | exact sEv_C _ | with_reducible exact pvN | with_reducible apply pvC | with_reducible apply sEv_add | with_reducible apply sEv_sub | with_reducible apply sEv_mul)) (pdC_mk cP (dTG.mpr ⟨f, g1, rfl, pTg_iff g2 pTd_p0, fun q => by omega⟩)))
  · obtain ⟨r, hr, h⟩ := pB_ok h
    obtain ⟨q, zs, ez, hC⟩ := pdFz hD.2.2 k346 E (q := [k, p]) hr
    split at h
    · rename_i a o w e
      obtain ⟨q1, q2⟩ := pAnd q
      obtain ⟨q2, q3⟩ := pAnd q2
      cases of_decide_eq_true q1
      cases of_decide_eq_true q2
      cases of_decide_eq_true q3
      obtain ⟨y1, y2, y3, y4, y5, y6, rfl, f1, f2, f3, f4, f5, f6⟩ := sVal_6 ez
      cases f1.symm.trans ek
      cases f2.symm.trans ep
      cases f4.symm.trans (sEv_C (ρ := ρ) 0)
      cases f5.symm.trans (sEv_C (ρ := ρ) 0)
      cases f6.symm.trans (sEv_C (ρ := ρ) (-1))
      obtain ⟨h₀, h⟩ := pI_ok h
      have d1 := sNN_ok hM (by (repeat' first | with_reducible assumption | exact sEv_C _ | with_reducible exact pvN | with_reducible apply pvC | with_reducible apply sEv_add | with_reducible apply sEv_sub | with_reducible apply sEv_mul)) h₀
      clear h₀
      obtain ⟨c1, h⟩ := pI_ok h
      obtain ⟨P, cP, hP⟩ := pdC_of hC
      obtain ⟨hX, hN, hM', hG⟩ := pdC_f cP
      obtain ⟨f, g1, -, g2, -⟩ := dTG.mp hP
      have hq : pM P ≤ y3 ∨ (y3 = 0 ∧ zk ≤ zp) := by
        rcases pOr c1 with c | c
        · have d := sNN_ok hM (sEv_sub f3 eN) c
          exact Or.inl (by omega)
        · obtain ⟨c2, c3⟩ := pAnd c
          have d := sNN_ok hM (sEv_sub ep ek) c3
          rw [of_decide_eq_true c2] at f3
          have := Option.some.inj (f3.symm.trans (sEv_C 0))
          exact Or.inr ⟨this, by omega⟩
      exact pd_out h (pdMk k346 E (zs := [zk, zp + 1, 0, 0, 0, -1]) (by (repeat' first | with_reducible assumption | exact sEv_C _ | with_reducible exact pvN | with_reducible apply pvC | with_reducible apply sEv_add | with_reducible apply sEv_sub | with_reducible apply sEv_mul)) (pdC_mk cP (dTG.mpr ⟨f, g1, rfl, pTg_iff g2 (pTd_p (by omega) hq), fun q => by omega⟩)))
    · cases h
theorem pdTSi_ok (z1 z2 z3 : Nat) : kRok RO (pdTSi z1 z2 z3) := by
  intro K ws h ρ R hD
  have hM := hD.1
  unfold pdTSi at h
  obtain ⟨⟨hl, b, one, x, n, N⟩, hQ, h⟩ := pB_ok h
  obtain ⟨hx, zh, zb, zo, zx, zn, zN, eh, eb, eo, ex, en, eN, hS, hN16⟩ := sfM_ok hD (fun y hy => kLf_ok hD.2.1 hy) hQ
  have E : pdE ρ hl b one x n N zh zb zo zx zn zN := ⟨eh, eb, eo, ex, en, eN⟩
  obtain ⟨k, h₀, h⟩ := pB_ok h
  obtain ⟨zk, ek⟩ := kLf_ok hD.2.1 h₀
  clear h₀
  obtain ⟨r, hr, h⟩ := pB_ok h
  obtain ⟨h₀, h⟩ := pI_ok h
  have d1 := sNN_ok hM (by (repeat' first | with_reducible assumption | exact sEv_C _ | with_reducible exact pvN | with_reducible apply pvC | with_reducible apply sEv_add | with_reducible apply sEv_sub | with_reducible apply sEv_mul)) h₀
  clear h₀
  obtain ⟨c1, h⟩ := pI_ok h
  obtain ⟨q, zs, ez, hC⟩ := pdFz hD.2.2 k346 E (q := [k]) hr
  split at q
  · rename_i p a o w e
    obtain ⟨q1, q2⟩ := pAnd q
    obtain ⟨q3, q1⟩ := pAnd q1
    obtain ⟨q4, q1⟩ := pAnd q1
    obtain ⟨q5, q6⟩ := pAnd q1
    cases of_decide_eq_true q3
    cases of_decide_eq_true q4
    cases of_decide_eq_true q5
    cases of_decide_eq_true q6
    obtain ⟨y1, y2, y3, y4, y5, y6, rfl, f1, f2, f3, f4, f5, f6⟩ := sVal_6 ez
    cases f1.symm.trans ek
    cases f3.symm.trans (sEv_C (ρ := ρ) 0)
    cases f4.symm.trans (sEv_C (ρ := ρ) 0)
    cases f5.symm.trans (sEv_C (ρ := ρ) 0)
    cases f6.symm.trans (sEv_C (ρ := ρ) (-1))
    have d2 := sNN_ok hM (sEv_sub (sEv_sub f2 ek) (sEv_C 1)) q2
    obtain ⟨P, cP, hP⟩ := pdC_of hC
    obtain ⟨hX, hN, hM', hG⟩ := pdC_f cP
    obtain ⟨f, g1, -, g2, -⟩ := dTG.mp hP
    exact pd_out h (pdMk k348 E (zs := [zk, 0]) (by (repeat' first | with_reducible assumption | exact sEv_C _ | with_reducible exact pvN | with_reducible apply pvC | with_reducible apply sEv_add | with_reducible apply sEv_sub | with_reducible apply sEv_mul)) (pdC_mk cP (dTS.mpr ⟨f, g1, rfl, d1, pTs_0 d1 (by omega) (by omega) g2⟩)))
  · cases q
theorem pdTSs_ok (z1 z2 z3 : Nat) : kRok RO (pdTSs z1 z2 z3) := by
  intro K ws h ρ R hD
  have hM := hD.1
  unfold pdTSs at h
  obtain ⟨⟨hl, b, one, x, n, N⟩, hQ, h⟩ := pB_ok h
  obtain ⟨hx, zh, zb, zo, zx, zn, zN, eh, eb, eo, ex, en, eN, hS, hN16⟩ := sfM_ok hD (fun y hy => kLf_ok hD.2.1 hy) hQ
  have E : pdE ρ hl b one x n N zh zb zo zx zn zN := ⟨eh, eb, eo, ex, en, eN⟩
  obtain ⟨k, h₀, h⟩ := pB_ok h
  obtain ⟨zk, ek⟩ := kLf_ok hD.2.1 h₀
  clear h₀
  obtain ⟨i, h₀, h⟩ := pB_ok h
  obtain ⟨zi, ei⟩ := kLf_ok hD.2.1 h₀
  clear h₀
  obtain ⟨old, ho, h⟩ := pB_ok h
  obtain ⟨h₀, h⟩ := pI_ok h
  have d1 := sNN_ok hM (by (repeat' first | with_reducible assumption | exact sEv_C _ | with_reducible exact pvN | with_reducible apply pvC | with_reducible apply sEv_add | with_reducible apply sEv_sub | with_reducible apply sEv_mul)) h₀
  clear h₀
  obtain ⟨h₀, h⟩ := pI_ok h
  have d2 := sNN_ok hM (by (repeat' first | with_reducible assumption | exact sEv_C _ | with_reducible exact pvN | with_reducible apply pvC | with_reducible apply sEv_add | with_reducible apply sEv_sub | with_reducible apply sEv_mul)) h₀
  clear h₀
  obtain ⟨c1, h⟩ := pI_ok h
  obtain ⟨zo', eo', hC⟩ := pdF1_ok hD.2.2 k349 E (zq := [zk, zi, zi]) (by (repeat' first | with_reducible assumption | exact sEv_C _ | with_reducible exact pvN | with_reducible apply pvC | with_reducible apply sEv_add | with_reducible apply sEv_sub | with_reducible apply sEv_mul)) ho
  obtain ⟨P, cP, hP⟩ := pdC_of hC
  obtain ⟨f, g1, -, f0, k0, k1, k2, k3, k4⟩ := dTSq.mp hP
  have key : ∀ {c : Int}, decide (kFindEl K.2 75 i = some (sC c)) = true → (c = 0 ∨ c = 1) → (f zi.toNat).toInt = c := fun {c} q hc => by
    obtain ⟨z, ez, kz⟩ := kFindEl_ok hD.2.2 (of_decide_eq_true q) ei
    cases ez.symm.trans (sEv_C (ρ := ρ) c)
    exact (pdEl kz g1 (by omega)).2
  have ho' : (zo' = 0 ∨ zo' = 1) ∧ (f zi.toNat).toInt = 0 ∨ (zo' = 2 ∨ zo' = 3) ∧ (f zi.toNat).toInt = 1 := by
    rcases pOr c1 with c | c
    · obtain ⟨c2, c3⟩ := pAnd c
      exact Or.inl ⟨(pOr c2).imp (fun q => sK_ok hM.1 eo' (of_decide_eq_true q)) (fun q => sK_ok hM.1 eo' (of_decide_eq_true q)), key c3 (Or.inl rfl)⟩
    · obtain ⟨c2, c3⟩ := pAnd c
      exact Or.inr ⟨(pOr c2).imp (fun q => sK_ok hM.1 eo' (of_decide_eq_true q)) (fun q => sK_ok hM.1 eo' (of_decide_eq_true q)), key c3 (Or.inr rfl)⟩
  have hz := pdEo k1 (by omega)
  exact pd_out h (pdMk k348 E (zs := [zk, zi + 1]) (by (repeat' first | with_reducible assumption | exact sEv_C _ | with_reducible exact pvN | with_reducible apply pvC | with_reducible apply sEv_add | with_reducible apply sEv_sub | with_reducible apply sEv_mul)) (pdC_mk cP (dTS.mpr ⟨f, g1, rfl, k3, pTs_s d1 (by omega) k4 hz (by omega) k2⟩)))
theorem pdTSe_ok (z1 z2 z3 : Nat) : kRok RO (pdTSe z1 z2 z3) := by
  intro K ws h ρ R hD
  have hM := hD.1
  unfold pdTSe at h
  obtain ⟨⟨hl, b, one, x, n, N⟩, hQ, h⟩ := pB_ok h
  obtain ⟨hx, zh, zb, zo, zx, zn, zN, eh, eb, eo, ex, en, eN, hS, hN16⟩ := sfM_ok hD (fun y hy => kLf_ok hD.2.1 hy) hQ
  have E : pdE ρ hl b one x n N zh zb zo zx zn zN := ⟨eh, eb, eo, ex, en, eN⟩
  obtain ⟨k, h₀, h⟩ := pB_ok h
  obtain ⟨zk, ek⟩ := kLf_ok hD.2.1 h₀
  clear h₀
  obtain ⟨i, h₀, h⟩ := pB_ok h
  obtain ⟨zi, ei⟩ := kLf_ok hD.2.1 h₀
  clear h₀
  obtain ⟨c1, h⟩ := pI_ok h
  obtain ⟨h₀, h⟩ := pI_ok h
  have d1 := sNN_ok hM (by (repeat' first | with_reducible assumption | exact sEv_C _ | with_reducible exact pvN | with_reducible apply pvC | with_reducible apply sEv_add | with_reducible apply sEv_sub | with_reducible apply sEv_mul)) h₀
  clear h₀
  obtain ⟨h₀, h⟩ := pI_ok h
  have d2 := sNN_ok hM (by (repeat' first | with_reducible assumption | exact sEv_C _ | with_reducible exact pvN | with_reducible apply pvC | with_reducible apply sEv_add | with_reducible apply sEv_sub | with_reducible apply sEv_mul)) h₀
  clear h₀
  obtain ⟨P, cP, hP⟩ := pdC_of (pdHz hD.2.2 k348 E (zs := [zk, zi]) (by (repeat' first | with_reducible assumption | exact sEv_C _ | with_reducible exact pvN | with_reducible apply pvC | with_reducible apply sEv_add | with_reducible apply sEv_sub | with_reducible apply sEv_mul)) c1)
  obtain ⟨f, g1, -, -, g2⟩ := dTS.mp hP
  exact pd_out h (pdMk k345 E (zs := [zk + 1]) (by (repeat' first | with_reducible assumption | exact sEv_C _ | with_reducible exact pvN | with_reducible apply pvC | with_reducible apply sEv_add | with_reducible apply sEv_sub | with_reducible apply sEv_mul)) (pdC_mk cP (dTB.mpr ⟨f, g1, rfl, pTs_e (by omega) g2⟩)))
end PDG
end
