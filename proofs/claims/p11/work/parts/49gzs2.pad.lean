/-! How many must be put in: the class, one. -/
noncomputable section
/-- the two rows are two: which is which, by cases -/
def pdSWs (K : kS) : Option (List kS) := match K with
  | ((pc, ls, st, G, c, s, Γ), γ) => (match G[(27 : Nat)]? with
    | some (.inr (ci, fs)) => if ci = 999 then some [K] else if (kHav γ 321 [] && !((pdPn fs[4]?).isSome && (pdPn fs[5]?).isSome)) = true then
        some [((pc, ls, st, G.set 27 (.inr (ci, (fs.set 4 (2, sC 35)).set 5 (2, sC 36))), c, s, Γ), γ), ((pc, ls, st, G.set 27 (.inr (ci, (fs.set 4 (2, sC 36)).set 5 (2, sC 35))), c, s, Γ), γ)] else some [K]
    | _ => some [K])
def pdSWa (K : kS) : Option kWs := pB (pdPin K 4) fun a => pB (pdPin K 5) fun b => pI (!Nat.beq a b) <| pI (!kHav K.2 321 []) <| pO [(321, [])]
def pdCl (K : kS) (c : Nat) : Bool := (kFa K.2 (328 + c) (fun fs => match fs with
  | [a] => sNN K.1.2.2.2.2.2.2 (sSub a (sC 128))
  | _ => false)).isSome
def pdCLi (K : kS) : Option kWs := pB (pdPin K 5) fun c => pB (kLf K.1.2.1 1) fun i => pI (decide (i = sC 0)) <| pI (kShb K.1.2.2.2.1 (30 + c) .int 128) <| pI (!(kFa K.2 (328 + c) (fun _ => true)).isSome) <| pO [(328 + c, [sC 0])]
def pdCLs (K : kS) : Option kWs := pB (pdPin K 5) fun c => pB (kLf K.1.2.1 1) fun i => pI (kHav K.2 (328 + c) [i]) <| pI (decide (kFindEl K.2 (30 + c) i = some (sC 100))) <| pI (sNN K.1.2.2.2.2.2.2 i) <| pO [(328 + c, [sAdd i (sC 1)])]
def pdCLe (K : kS) : Option kWs := pB (pdPin K 5) fun c => pB (kLf K.1.2.1 1) fun i => pI (!decide (i = sC 128)) <| pI (kHav K.2 (328 + c) [i]) <| pI (sNN K.1.2.2.2.2.2.2 (sSub i (sC 128))) <| pO [(328 + c, [sC 128])]
/-- what an offer leaves in a row -/
def pdOf (K : kS) (c j jq : Nat) (hl b one x n N : sL) (pre : List sL) (run e : sL) : Bool :=
  (kHav K.2 (j + c) (hl :: b :: one :: x :: n :: N :: pre) && (sNN K.1.2.2.2.2.2.2 (sSub (sSub run x) (sC 1)) || (match kFindEl K.2 (30 + c) e with
    | some v => sI32 K.1.2.2.2.2.2.2.1 v && sNN K.1.2.2.2.2.2.2 (sSub run v)
    | none => false)))
  || (match pdF1 K.2 (jq + c) (hl :: b :: one :: x :: n :: N :: (pre ++ [e])), kFindEl K.2 (30 + c) e with
    | some old, some v => kEqf K.1.2.2.2.2.2.2 v run && (sI32 K.1.2.2.2.2.2.2.1 old && (sI32 K.1.2.2.2.2.2.2.1 v && (sNN K.1.2.2.2.2.2.2 (sSub (sSub old v) (sC 1)) && sNN K.1.2.2.2.2.2.2 (sSub x v))))
    | _, _ => false)
/-- nothing, or what is left of y when less than nothing is nothing -/
def pdRn (K : kS) (y : sL) (f : sL → Bool) : Bool := (aIsp K.1.2.2.2.2.2.2 (sC 0) y && f (sC 0)) || (aIsp K.1.2.2.2.2.2.2 y y && f y)
def pdN0i (zn : Nat) (K : kS) : Option kWs := pB (pdPin K 5) fun c => pB (sfQ zn K) fun (hl, b, one, x, n, N) => pB (kLf K.1.2.1 1) fun w => pI (decide (w = sC 0)) <| pI (pdCl K c) <| pI (sfNE K.2) <| pI (!(kFa K.2 (330 + c) (fun _ => true)).isSome) <| pO [(330 + c, [hl, b, one, x, n, N, sC 0])]
def pdN0s (zn : Nat) (K : kS) : Option kWs := pB (pdPin K 5) fun c => pB (sfQ zn K) fun (hl, b, one, x, n, N) => pB (kLf K.1.2.1 1) fun w =>
  pI (sNN K.1.2.2.2.2.2.2 w) <| pI (sNN K.1.2.2.2.2.2.2 (sSub (sSub N w) (sC 1))) <| pI (sNN K.1.2.2.2.2.2.2 (sSub (sC 16) N)) <| pI (sNN K.1.2.2.2.2.2.2 (sSub (sC 99) x)) <|
  pB (sfKi K.1.2.2.2.2.2.2 K.2 28 w (sC 0) n) fun t => match t with
  | false => pI (kHav K.2 (330 + c) [hl, b, one, x, n, N, w]) <| pO [(330 + c, [hl, b, one, x, n, N, sAdd w (sC 1)])]
  | true => pB (nFf K.1.2.2.2.1 24 zn) fun v => pB (sfGv K.2 hl w (sC 0) (sC 0) v) fun g => pI (pdRn K g (fun run => pdOf K c 330 336 hl b one x n N [w] run w)) <| pO [(330 + c, [hl, b, one, x, n, N, sAdd w (sC 1)])]
def pdN0e (zn : Nat) (K : kS) : Option kWs := pB (pdPin K 5) fun c => pB (sfQ zn K) fun (hl, b, one, x, n, N) => pI (sNN K.1.2.2.2.2.2.2 (sSub n (sC 1))) <| pB (pdF K.2 (330 + c) [hl, b, one, x, n, N] (fun r => match r with
    | [w] => sNN K.1.2.2.2.2.2.2 (sSub w N)
    | _ => false)) fun _ => pI (!kHav K.2 (322 + c) [hl, b, one, x, n, N, sC 0]) <| pO [(322 + c, [hl, b, one, x, n, N, sC 0])]
def pdNDi (zn : Nat) (K : kS) : Option kWs := pB (pdPin K 5) fun c => pB (pdPin K 4) fun d => pB (sfQ zn K) fun (hl, b, one, x, n, N) => pB (kLf K.1.2.1 1) fun k => pB (kLf K.1.2.1 3) fun p => pI (decide (p = sC 0)) <| pI (pdCl K c) <| pI (kHav K.2 (322 + d) [hl, b, one, x, n, N, k]) <| pI (!(kFa K.2 (324 + c) (fun _ => true)).isSome) <| pO [(324 + c, [hl, b, one, x, n, N, k, sC 0, sC 0, sC 0])]
def pd16 (p w : sL) : sL := sAdd (sMul 16 p) w
def pdMNr (zn : Nat) (K : kS) : Option kWs := pB (pdPin K 4) fun d => pB (sfQ zn K) fun (hl, b, one, x, n, N) => pB (kLf K.1.2.1 1) fun k => pB (kLf K.1.2.1 2) fun p => pB (kLf K.1.2.1 3) fun w => pB (kLf K.1.2.1 4) fun m =>
  pI (kHav K.2 (322 + d) [hl, b, one, x, n, N, k]) <| pI (!kHav K.2 340 [hl, b, one, x, n, N, k, p, w, m]) <| pI (decide (kFindEl K.2 (30 + d) (pd16 p w) = some m)) <| pI (sI32 K.1.2.2.2.2.2.2.1 m) <| pI (sNN K.1.2.2.2.2.2.2 p) <| pI (sNN K.1.2.2.2.2.2.2 (sSub (sC 7) p)) <| pI (sNN K.1.2.2.2.2.2.2 w) <| pI (sNN K.1.2.2.2.2.2.2 (sSub (sC 15) w)) <| pO [(340, [hl, b, one, x, n, N, k, p, w, m])]
def pdBw (γ : List kA) (b n k a : sL) : Option sL := match kFa γ 299 (tPre [b, n, k, a]) with
  | some [_, _, _, _, be] => some be
  | _ => none
def pdNDs (zn : Nat) (K : kS) : Option kWs := pB (pdPin K 5) fun c => pB (sfQ zn K) fun (hl, b, one, x, n, N) => pB (kLf K.1.2.1 1) fun k => pB (kLf K.1.2.1 2) fun p => pB (kLf K.1.2.1 3) fun a => pB (kLf K.1.2.1 4) fun m => pB (kLf K.1.2.1 5) fun w =>
  pI (sNN K.1.2.2.2.2.2.2 w) <| pI (sNN K.1.2.2.2.2.2.2 (sSub (sSub N w) (sC 1))) <| pI (sNN K.1.2.2.2.2.2.2 (sSub (sC 16) N)) <| pI (sNN K.1.2.2.2.2.2.2 (sSub (sC 99) x)) <| pI (sNN K.1.2.2.2.2.2.2 p) <| pI (sNN K.1.2.2.2.2.2.2 (sSub (sC 7) p)) <| pI (sNN K.1.2.2.2.2.2.2 a) <|
  pB (sfKi K.1.2.2.2.2.2.2 K.2 28 w (sAdd k (sC 1)) n) fun t => match t with
  | false => pI (kHav K.2 (324 + c) [hl, b, one, x, n, N, k, p, a, w]) <| pO [(324 + c, [hl, b, one, x, n, N, k, p, a, sAdd w (sC 1)])]
  | true => pI (kHav K.2 340 [hl, b, one, x, n, N, k, p, a, m]) <| pI (sNN K.1.2.2.2.2.2.2 (sSub x m)) <| pB (pdBw K.2 b n (sAdd k (sC 1)) a) fun be => pB (nFf K.1.2.2.2.1 24 zn) fun v => pB (sfGv K.2 hl w (sAdd (sAdd k p) (sC 1)) be v) fun g =>
    pI (pdRn K (sAdd m g) (fun run => pdOf K c 324 332 hl b one x n N [k, p, a, w] run (pd16 p w))) <| pO [(324 + c, [hl, b, one, x, n, N, k, p, a, sAdd w (sC 1)])]
def pdNDw (zn : Nat) (K : kS) : Option kWs := pB (pdPin K 5) fun c => pB (sfQ zn K) fun (hl, b, one, x, n, N) => pB (kLf K.1.2.1 1) fun k => pB (kLf K.1.2.1 2) fun p => pB (kLf K.1.2.1 3) fun a => pB (kLf K.1.2.1 4) fun m => pB (pdF1 K.2 (324 + c) [hl, b, one, x, n, N, k, p, a]) fun w =>
  pI (sNN K.1.2.2.2.2.2.2 (sSub w N) || (kHav K.2 340 [hl, b, one, x, n, N, k, p, a, m] && sNN K.1.2.2.2.2.2.2 (sSub (sSub m x) (sC 1)))) <| pO [(324 + c, [hl, b, one, x, n, N, k, p, sAdd a (sC 1), sC 0])]
def pdNDe (zn : Nat) (K : kS) : Option kWs := pB (pdPin K 5) fun c => pB (sfQ zn K) fun (hl, b, one, x, n, N) => pB (kLf K.1.2.1 1) fun k => pB (kLf K.1.2.1 2) fun p => pB (kLf K.1.2.1 3) fun a => pI (kHav K.2 (324 + c) [hl, b, one, x, n, N, k, p, a, sC 0]) <| pI (kEqf K.1.2.2.2.2.2.2 a N) <| pO [(326 + c, [hl, b, one, x, n, N, k, p, sC 0])]
def pdRUe (zn : Nat) (K : kS) : Option kWs := pB (pdPin K 5) fun c => pB (sfQ zn K) fun (hl, b, one, x, n, N) => pB (kLf K.1.2.1 1) fun k => pB (kLf K.1.2.1 3) fun p => pI (kHav K.2 (324 + c) [hl, b, one, x, n, N, k, p, sC 0, sC 0]) <| pI (kEqf K.1.2.2.2.2.2.2 p (sAdd k (sC 1))) <| pO [(322 + c, [hl, b, one, x, n, N, sAdd k (sC 1)])]
section PDB
variable {RO : List (Nat × (Nat → Int32))} {ρ : List Int} {Γ : sG} {γ : List kA} {H : List eE} {P : pP} {hl b one x n N : sL} {zh zb zo zx zn zN : Int}
theorem pdFld {G : List sE} {H : List eE} (hH : sHp ρ G H) {ci : Nat} {fs : List sV} (hg : G[27]? = some (.inr (ci, fs))) (hci : ci ≠ 999) : ∃ gs, H[27]? = some (.inr (ci, gs)) ∧ sVs ρ fs gs := by
  obtain ⟨y, hy, hxy⟩ := sHp_get hH hg (by simpa [sIsA] using hci)
  rcases y with y | ⟨ci', gs⟩
  · exact hxy.elim
  · obtain ⟨rfl, hV⟩ := hxy
    exact ⟨gs, hy, hV⟩
theorem pdPn_v {v : sV} {c : Nat} (h : pdPn (some v) = some c) {w : Value} (hv : sVr ρ v w) : w = .ref (35 + c) := by
  unfold pdPn at h
  split at h
  · rename_i l hl
    cases hl
    have hv : w = .ref l.1.toNat := hv
    split at h
    · rename_i e
      cases h
      rw [hv, e]
      rfl
    · split at h
      · rename_i e
        cases h
        rw [hv, e]
        rfl
      · cases h
  · cases h
theorem pdPin_ok {K : kS} {R : eR} (hD : kD (kGP (kUP RO)) ρ K R) {z c : Nat} (h : pdPin K z = some c) : ∃ ci gs, R.2.2.2.1[27]? = some (.inr (ci, gs)) ∧ gs[z]? = some (Value.ref (35 + c)) := by
  unfold pdPin pdPnG at h
  split at h
  · rename_i ci fs hg
    split at h
    · cases h
    · rename_i hci
      obtain ⟨gs, h1, h2⟩ := pdFld hD.2.1.2.2.2.1 hg hci
      match hz : fs[z]?, h with
      | none, h => cases h
      | some v, h =>
        obtain ⟨w, k1, k2⟩ := sVs_get h2 hz
        rw [pdPn_v h k2] at k1
        exact ⟨ci, gs, h1, k1⟩
  · cases h
theorem pdSet1 {α : Type} {l : List α} {k : Nat} {x : α} (h : l[k]? = some x) : l.set k x = l := sSet_self h
theorem pdSWs_ok {K : kS} {L : List kS} (h : pdSWs K = some L) {ρ : List Int} {R : eR} (hD : kD (kGP (kUP RO)) ρ K R) : ∃ K' ∈ L, ∃ ρ', ρ <+: ρ' ∧ kD (kGP (kUP RO)) ρ' K' R := by
  obtain ⟨⟨pc, ls, st, G, c, s, Γ⟩, γ⟩ := K
  have same : some [(((pc, ls, st, G, c, s, Γ), γ) : kS)] = some L → ∃ K' ∈ L, ∃ ρ', ρ <+: ρ' ∧ kD (kGP (kUP RO)) ρ' K' R := fun g => by
    cases g
    exact ⟨_, List.mem_singleton.mpr rfl, ρ, List.prefix_refl _, hD⟩
  simp only [pdSWs] at h
  split at h
  · rename_i ci fs hg
    split at h
    · exact same h
    rename_i hci
    split at h
    · rename_i hc
      cases h
      have hsw := (pAnd hc).1
      obtain ⟨zs, -, h2⟩ := kHav_ok hD.2.2 hsw (by decide)
      obtain ⟨-, c', gs', q1, q2⟩ : zs = [] ∧ pSW R.2.2.2.1 := (pdUP (by decide)).mp ((kUPn (by decide)).mp h2)
      have hH : sHp ρ G R.2.2.2.1 := hD.2.1.2.2.2.1
      obtain ⟨gs, h3, hV⟩ := pdFld hH hg hci
      cases h3.symm.trans q1
      have key : ∀ {a b : Nat}, gs'[4]? = some (Value.ref a) → gs'[5]? = some (Value.ref b) → sHp ρ (G.set 27 (.inr (ci, (fs.set 4 (2, sC (a : Int))).set 5 (2, sC (b : Int))))) R.2.2.2.1 := fun {a b} e4 e5 => by
        have s1 := sVs_set (v := ((2, sC (a : Int)) : sV)) (w := Value.ref a) (show Value.ref a = Value.ref ((a : Int)).toNat by rw [Int.toNat_natCast]) 4 hV
        have s2 := sVs_set (v := ((2, sC (b : Int)) : sV)) (w := Value.ref b) (show Value.ref b = Value.ref ((b : Int)).toNat by rw [Int.toNat_natCast]) 5 s1
        rw [sSet_self e4, sSet_self e5] at s2
        have s3 := sHp_set (x := (.inr (ci, (fs.set 4 (2, sC (a : Int))).set 5 (2, sC (b : Int))) : sE)) (y := .inr (ci, gs')) ⟨rfl, s2⟩ 27 hH
        rw [sSet_self h3] at s3
        exact s3
      rcases q2 with ⟨e4, e5⟩ | ⟨e4, e5⟩
      · exact ⟨_, List.mem_cons_self, ρ, List.prefix_refl _, hD.1, ⟨hD.2.1.1, hD.2.1.2.1, hD.2.1.2.2.1, key e4 e5, hD.2.1.2.2.2.2⟩, hD.2.2⟩
      · exact ⟨_, List.mem_cons_of_mem _ (List.mem_singleton.mpr rfl), ρ, List.prefix_refl _, hD.1, ⟨hD.2.1.1, hD.2.1.2.1, hD.2.1.2.2.1, key e4 e5, hD.2.1.2.2.2.2⟩, hD.2.2⟩
    · exact same h
  · exact same h
theorem pdSWa_ok : kRok RO pdSWa := by
  intro K ws h ρ R hD
  unfold pdSWa at h
  obtain ⟨a, ha, h⟩ := pB_ok h
  obtain ⟨b, hb, h⟩ := pB_ok h
  obtain ⟨c1, h⟩ := pI_ok h
  obtain ⟨c2, h⟩ := pI_ok h
  have ha2 := pdPin_lt ha
  have hb2 := pdPin_lt hb
  obtain ⟨ci, gs, q1, q2⟩ := pdPin_ok hD ha
  obtain ⟨ci', gs', q3, q4⟩ := pdPin_ok hD hb
  cases q1.symm.trans q3
  have hne : a ≠ b := fun e => by
    subst e
    simp at c1
  refine pd_out h (kAt1 (zs := []) (by decide) rfl ((kUPn (by decide)).mpr ((pdUP (by decide)).mpr (show [] = [] ∧ pSW R.2.2.2.1 from ⟨rfl, ci, gs, q1, ?_⟩))))
  rcases pd2 ha2 with rfl | rfl <;> rcases pd2 hb2 with rfl | rfl
  · exact absurd rfl hne
  · exact Or.inl ⟨q2, q4⟩
  · exact Or.inr ⟨q2, q4⟩
  · exact absurd rfl hne
theorem dCL {c : Nat} (hc : c < 2) {z : Int} : nUP (328 + c) [z] H ↔ ∃ f, nI2 H (30 + c) 128 f ∧ ∀ i : Nat, (i : Int) < z → (f i).toInt = 100 := by
  refine (pdUP (by omega)).trans ?_
  rcases pd2 hc with rfl | rfl
  · exact ⟨fun q => by
      obtain ⟨a, he, f, h1, h2⟩ : ∃ a, [z] = [a] ∧ ∃ f, nI2 H 30 128 f ∧ ∀ i : Nat, (i : Int) < a → (f i).toInt = 100 := q
      cases he
      exact ⟨f, h1, h2⟩, fun ⟨f, h1, h2⟩ => show ∃ a, [z] = [a] ∧ ∃ f, nI2 H 30 128 f ∧ ∀ i : Nat, (i : Int) < a → (f i).toInt = 100 from ⟨z, rfl, f, h1, h2⟩⟩
  · exact ⟨fun q => by
      obtain ⟨a, he, f, h1, h2⟩ : ∃ a, [z] = [a] ∧ ∃ f, nI2 H 31 128 f ∧ ∀ i : Nat, (i : Int) < a → (f i).toInt = 100 := q
      cases he
      exact ⟨f, h1, h2⟩, fun ⟨f, h1, h2⟩ => show ∃ a, [z] = [a] ∧ ∃ f, nI2 H 31 128 f ∧ ∀ i : Nat, (i : Int) < a → (f i).toInt = 100 from ⟨z, rfl, f, h1, h2⟩⟩
theorem pdCLa {c : Nat} (hc : c < 2) {a : sL} {z : Int} (ea : sEv ρ a = some z) (h : ∃ f, nI2 H (30 + c) 128 f ∧ ∀ i : Nat, (i : Int) < z → (f i).toInt = 100) : kGh (kGP (kUP RO)) ρ [(328 + c, [a])] H := kAt1 (zs := [z]) (by omega) (by simp only [sVal, ea]) ((kUPn (by omega)).mpr ((dCL hc).mpr h))
theorem pdCLh (hg : kGh (kGP (kUP RO)) ρ γ H) {c : Nat} (hc : c < 2) {a : sL} {z : Int} (ea : sEv ρ a = some z) (h : kHav γ (328 + c) [a] = true) : ∃ f, nI2 H (30 + c) 128 f ∧ ∀ i : Nat, (i : Int) < z → (f i).toInt = 100 := by
  obtain ⟨zs, e, h2⟩ := kHav_ok hg h (by omega)
  obtain ⟨z', rfl, e'⟩ := sVal_1 e
  cases e'.symm.trans ea
  exact (dCL hc).mp ((kUPn (by omega)).mp h2)
theorem pdCl_ok {K : kS} {R : eR} (hD : kD (kGP (kUP RO)) ρ K R) {c : Nat} (hc : c < 2) (h : pdCl K c = true) : ∃ f, nI2 R.2.2.2.1 (30 + c) 128 f ∧ ∀ i : Nat, i < 128 → (f i).toInt = 100 := by
  unfold pdCl at h
  obtain ⟨fs, hf⟩ := Option.isSome_iff_exists.mp h
  obtain ⟨q, zs, e, h2⟩ := nFa_ok hD.2.2 hf (by omega) (by omega)
  split at q
  · rename_i a
    obtain ⟨z, rfl, ez⟩ := sVal_1 e
    have d := sNN_ok hD.1 (sEv_sub ez (sEv_C 128)) q
    obtain ⟨f, f1, f2⟩ := (dCL hc).mp h2
    exact ⟨f, f1, fun i hi => f2 i (by omega)⟩
  · cases q
theorem pdCLi_ok : kRok RO pdCLi := by
  intro K ws h ρ R hD
  unfold pdCLi at h
  obtain ⟨c, h₀, h⟩ := pB_ok h
  have hc := pdPin_lt h₀
  clear h₀
  obtain ⟨i, h₀, h⟩ := pB_ok h
  obtain ⟨zi, ei⟩ := kLf_ok hD.2.1 h₀
  clear h₀
  obtain ⟨h₀, h⟩ := pI_ok h
  have c1 := of_decide_eq_true h₀
  clear h₀
  obtain ⟨c2, h⟩ := pI_ok h
  obtain ⟨c3, h⟩ := pI_ok h
  obtain ⟨f, hf⟩ := kSh1 hD.2.1.2.2.2.1 (by decide) rfl c2
  exact pd_out h (pdCLa hc (sEv_C 0) ⟨f, hf, fun i hi => by omega⟩)
theorem pdCLs_ok : kRok RO pdCLs := by
  intro K ws h ρ R hD
  have hM := hD.1
  unfold pdCLs at h
  obtain ⟨c, h₀, h⟩ := pB_ok h
  have hc := pdPin_lt h₀
  clear h₀
  obtain ⟨i, h₀, h⟩ := pB_ok h
  obtain ⟨zi, ei⟩ := kLf_ok hD.2.1 h₀
  clear h₀
  obtain ⟨c1, h⟩ := pI_ok h
  obtain ⟨h₀, h⟩ := pI_ok h
  have c2 := of_decide_eq_true h₀
  clear h₀
  obtain ⟨h₀, h⟩ := pI_ok h
  have d1 := sNN_ok hM (by (repeat' first | with_reducible assumption | exact sEv_C _ | with_reducible exact pvN | with_reducible apply pvC | with_reducible apply sEv_add | with_reducible apply sEv_sub | with_reducible apply sEv_mul)) h₀
  clear h₀
  obtain ⟨f, f1, f2⟩ := pdCLh hD.2.2 hc ei c1
  obtain ⟨z, ez, kz⟩ := kFindEl_ok hD.2.2 c2 ei
  cases ez.symm.trans (sEv_C (ρ := ρ) 100)
  obtain ⟨-, hz⟩ := pdEl kz f1 (by omega)
  refine pd_out h (pdCLa hc (sEv_add ei (sEv_C 1)) ⟨f, f1, fun j hj => ?_⟩)
  by_cases e : (j : Int) = zi
  · rw [show j = zi.toNat by omega]
    exact hz
  · exact f2 j (by omega)
theorem pdCLe_ok : kRok RO pdCLe := by
  intro K ws h ρ R hD
  have hM := hD.1
  unfold pdCLe at h
  obtain ⟨c, h₀, h⟩ := pB_ok h
  have hc := pdPin_lt h₀
  clear h₀
  obtain ⟨i, h₀, h⟩ := pB_ok h
  obtain ⟨zi, ei⟩ := kLf_ok hD.2.1 h₀
  clear h₀
  obtain ⟨c0, h⟩ := pI_ok h
  obtain ⟨c1, h⟩ := pI_ok h
  obtain ⟨h₀, h⟩ := pI_ok h
  have d1 := sNN_ok hM (by (repeat' first | with_reducible assumption | exact sEv_C _ | with_reducible exact pvN | with_reducible apply pvC | with_reducible apply sEv_add | with_reducible apply sEv_sub | with_reducible apply sEv_mul)) h₀
  clear h₀
  obtain ⟨f, f1, f2⟩ := pdCLh hD.2.2 hc ei c1
  exact pd_out h (pdCLa hc (sEv_C 128) ⟨f, f1, fun j hj => f2 j (by omega)⟩)
theorem dRow {c : Nat} (hc : c < 2) {j : Nat} (hj : j = 324 ∨ j = 326 ∨ j = 330) {zs : List Int} : dPr H P (j + c) zs ↔ ∃ f, nI2 H (30 + c) 128 f ∧ dRw P f (j / 2) zs := by
  rcases hj with rfl | rfl | rfl <;> rcases pd2 hc with rfl | rfl <;> exact Iff.rfl
theorem dRoq {c : Nat} (hc : c < 2) {j : Nat} (hj : j = 332 ∨ j = 334 ∨ j = 336) {zs : List Int} : dPr H P (j + c) zs ↔ ∃ f, nI2 H (30 + c) 128 f ∧ dRq P f (j / 2) zs := by
  rcases hj with rfl | rfl | rfl <;> rcases pd2 hc with rfl | rfl <;> exact Iff.rfl
theorem dRq_i {f : Nat → Int32} {j jq : Nat} (hj : (j = 162 ∧ jq = 166) ∨ (j = 163 ∧ jq = 167) ∨ (j = 165 ∧ jq = 168)) {zs : List Int} {e o : Int} (h : dRq P f jq (zs ++ [e, o])) : dOd f e o (fun f => dRw P f j zs) := by
  rcases zs with _ | ⟨a, _ | ⟨b, _ | ⟨c, _ | ⟨d, _ | ⟨e', r⟩⟩⟩⟩⟩
  · exact (show False from h).elim
  · obtain ⟨h1, h2⟩ : jq = 168 ∧ dOd f e o (fun f => dRw P f 165 [a]) := h
    rw [show j = 165 by omega]
    exact h2
  · exact (show False from h).elim
  · obtain ⟨h1, h2⟩ : jq = 167 ∧ dOd f e o (fun f => dRw P f 163 [a, b, c]) := h
    rw [show j = 163 by omega]
    exact h2
  · obtain ⟨h1, h2⟩ : jq = 166 ∧ dOd f e o (fun f => dRw P f 162 [a, b, c, d]) := h
    rw [show j = 162 by omega]
    exact h2
  · rcases r with _ | ⟨g, _ | ⟨g2, r⟩⟩
    · exact (show False from h).elim
    · exact (show False from h).elim
    · exact (show False from h).elim
theorem pdOf_ok {K : kS} {R : eR} (hD : kD (kGP (kUP RO)) ρ K R) {c j jq : Nat} (hc : c < 2) (hj : (j = 324 ∧ jq = 332) ∨ (j = 326 ∧ jq = 334) ∨ (j = 330 ∧ jq = 336)) (E : pdE ρ hl b one x n N zh zb zo zx zn zN) (cP : pdC R.2.2.2.1 P zh zb zo zx zn zN) {pre : List sL} {zp : List Int} (ep : sVal ρ pre = some zp) {run e : sL} {zr ze : Int} (er : sEv ρ run = some zr) (ee : sEv ρ e = some ze) (h0 : 0 ≤ ze) (h : pdOf K c j jq hl b one x n N pre run e = true) : ∃ f f0, nI2 R.2.2.2.1 (30 + c) 128 f ∧ dRw P f0 (j / 2) zp ∧ (∀ i : Nat, i ≠ ze.toNat → f i = f0 i) ∧ (((f ze.toNat).toInt = (f0 ze.toNat).toInt ∧ (zx < zr ∨ (f0 ze.toNat).toInt ≤ zr)) ∨ ((f ze.toNat).toInt = zr ∧ zr < (f0 ze.toNat).toInt ∧ zr ≤ zx)) := by
  have hM := hD.1
  have ex := E.2.2.2.1
  unfold pdOf at h
  rcases pOr h with h | h
  · obtain ⟨h1, h2⟩ := pAnd h
    obtain ⟨f, f1, f2⟩ := (dRow hc (by omega)).mp (pdC_at cP (pdHz hD.2.2 (k := j + c) (by unfold pdK; omega) E ep h1))
    refine ⟨f, f, f1, f2, fun i _ => rfl, Or.inl ⟨rfl, ?_⟩⟩
    rcases pOr h2 with h2 | h2
    · have d := sNN_ok hM (sEv_sub (sEv_sub er ex) (sEv_C 1)) h2
      exact Or.inl (by omega)
    · split at h2
      · rename_i v hv
        obtain ⟨h3, h4⟩ := pAnd h2
        obtain ⟨zv, ev, kv⟩ := kFindEl_ok hD.2.2 hv ee
        obtain ⟨-, hz⟩ := pdEl kv f1 (sWi_ok hM.1 ev h3)
        have d := sNN_ok hM (sEv_sub er ev) h4
        exact Or.inr (by omega)
      · cases h2
  · split at h
    · rename_i old v hold hv
      obtain ⟨h1, h⟩ := pAnd h
      obtain ⟨h2, h⟩ := pAnd h
      obtain ⟨h3, h⟩ := pAnd h
      obtain ⟨h4, h5⟩ := pAnd h
      obtain ⟨zv, ev, kv⟩ := kFindEl_ok hD.2.2 hv ee
      obtain ⟨zo', eo', hq⟩ := pdF1_ok hD.2.2 (k := jq + c) (by unfold pdK; omega) E (pdVal ep (pvC ee pvN)) hold
      obtain ⟨f, f1, f2⟩ := (dRoq hc (by omega)).mp (pdC_at cP hq)
      rw [List.append_assoc] at f2
      obtain ⟨f0, k0, k1, k2, k3⟩ := dRq_i (j := j / 2) (by omega) f2
      obtain ⟨-, hz⟩ := pdEl kv f1 (sWi_ok hM.1 ev h3)
      have ho := pdEo k1 (sWi_ok hM.1 eo' h2)
      have d1 := kEqf_ok hM ev er h1
      have d4 := sNN_ok hM (sEv_sub (sEv_sub eo' ev) (sEv_C 1)) h4
      have d5 := sNN_ok hM (sEv_sub ex ev) h5
      exact ⟨f, f0, f1, k3, k2, Or.inr ⟨by omega, by omega, by omega⟩⟩
    · cases h
theorem pdRn_ok {K : kS} (hM : sMo ρ K.1.2.2.2.2.2.2) {y : sL} {zy : Int} (ey : sEv ρ y = some zy) {f : sL → Bool} (h : pdRn K y f = true) : ∃ run, sEv ρ run = some (max 0 zy) ∧ f run = true := by
  unfold pdRn at h
  rcases pOr h with h | h
  · exact ⟨_, aIsp_ok hM ey (pAnd h).1, (pAnd h).2⟩
  · exact ⟨_, aIsp_ok hM ey (pAnd h).1, (pAnd h).2⟩
theorem pdN0i_ok (nz : Nat) : kRok RO (pdN0i nz) := by
  intro K ws h ρ R hD
  have hM := hD.1
  unfold pdN0i at h
  obtain ⟨c, h₀, h⟩ := pB_ok h
  have hc := pdPin_lt h₀
  clear h₀
  obtain ⟨⟨hl, b, one, x, n, N⟩, hQ, h⟩ := pB_ok h
  obtain ⟨zh, zb, zo, zx, zn, zN, v, zv, eh, eb, eo, ex, en, eN, hv, ev, hk, hS⟩ := sfQ_ok hD hQ
  have E : pdE ρ hl b one x n N zh zb zo zx zn zN := ⟨eh, eb, eo, ex, en, eN⟩
  obtain ⟨w, h₀, h⟩ := pB_ok h
  obtain ⟨zw, ew⟩ := kLf_ok hD.2.1 h₀
  clear h₀
  obtain ⟨h₀, h⟩ := pI_ok h
  have c1 := of_decide_eq_true h₀
  clear h₀
  obtain ⟨c2, h⟩ := pI_ok h
  obtain ⟨c3, h⟩ := pI_ok h
  obtain ⟨c4, h⟩ := pI_ok h
  obtain ⟨P, cP⟩ := pdC_NE (zh := zh) (zb := zb) (zo := zo) (zx := zx) (zn := zn) (zN := zN) hD.2.2 c3 hS
  obtain ⟨f, f1, f2⟩ := pdCl_ok hD hc c2
  exact pd_out h (pdMk (pdKr hc (by decide) (by decide) (by decide) (by decide) (by decide)) E (by (repeat' first | with_reducible assumption | exact sEv_C _ | with_reducible exact pvN | with_reducible apply pvC | with_reducible apply sEv_add | with_reducible apply sEv_sub | with_reducible apply sEv_mul)) (pdC_mk cP ((dN0 hc).mpr ⟨f, f1, pN0_0 f2⟩)))
theorem pdN0s_ok (nz : Nat) : kRok RO (pdN0s nz) := by
  intro K ws h ρ R hD
  have hM := hD.1
  unfold pdN0s at h
  obtain ⟨c, h₀, h⟩ := pB_ok h
  have hc := pdPin_lt h₀
  clear h₀
  obtain ⟨⟨hl, b, one, x, n, N⟩, hQ, h⟩ := pB_ok h
  obtain ⟨zh, zb, zo, zx, zn, zN, v, zv, eh, eb, eo, ex, en, eN, hv, ev, hk, hS⟩ := sfQ_ok hD hQ
  have E : pdE ρ hl b one x n N zh zb zo zx zn zN := ⟨eh, eb, eo, ex, en, eN⟩
  obtain ⟨w, h₀, h⟩ := pB_ok h
  obtain ⟨zw, ew⟩ := kLf_ok hD.2.1 h₀
  clear h₀
  obtain ⟨h₀, h⟩ := pI_ok h
  have d1 := sNN_ok hM (by (repeat' first | with_reducible assumption | exact sEv_C _ | with_reducible exact pvN | with_reducible apply pvC | with_reducible apply sEv_add | with_reducible apply sEv_sub | with_reducible apply sEv_mul)) h₀
  clear h₀
  obtain ⟨h₀, h⟩ := pI_ok h
  have d2 := sNN_ok hM (by (repeat' first | with_reducible assumption | exact sEv_C _ | with_reducible exact pvN | with_reducible apply pvC | with_reducible apply sEv_add | with_reducible apply sEv_sub | with_reducible apply sEv_mul)) h₀
  clear h₀
  obtain ⟨h₀, h⟩ := pI_ok h
  have d3 := sNN_ok hM (by (repeat' first | with_reducible assumption | exact sEv_C _ | with_reducible exact pvN | with_reducible apply pvC | with_reducible apply sEv_add | with_reducible apply sEv_sub | with_reducible apply sEv_mul)) h₀
  clear h₀
  obtain ⟨h₀, h⟩ := pI_ok h
  have d4 := sNN_ok hM (by (repeat' first | with_reducible assumption | exact sEv_C _ | with_reducible exact pvN | with_reducible apply pvC | with_reducible apply sEv_add | with_reducible apply sEv_sub | with_reducible apply sEv_mul)) h₀
  clear h₀
  obtain ⟨t, ht, h⟩ := pB_ok h
  have hK : pdK (330 + c) := pdKr hc (by decide) (by decide) (by decide) (by decide) (by decide)
  cases t
  · obtain ⟨c1, h⟩ := pI_ok h
    obtain ⟨P, cP, hP⟩ := pdC_of (pdHz hD.2.2 hK E (zs := [zw]) (by (repeat' first | with_reducible assumption | exact sEv_C _ | with_reducible exact pvN | with_reducible apply pvC | with_reducible apply sEv_add | with_reducible apply sEv_sub | with_reducible apply sEv_mul)) c1)
    obtain ⟨f, f1, f2⟩ := (dN0 hc).mp hP
    obtain ⟨-, -, -, -, hki⟩ := pdKi hM hD.2.2 cP hS ew (sEv_C 0) en ht
    exact pd_out h (pdMk hK E (zs := [zw + 1]) (by (repeat' first | with_reducible assumption | exact sEv_C _ | with_reducible exact pvN | with_reducible apply pvC | with_reducible apply sEv_add | with_reducible apply sEv_sub | with_reducible apply sEv_mul)) (pdC_mk cP ((dN0 hc).mpr ⟨f, f1, pN0_n f2 (fun q => absurd (hki.mpr q) (by decide))⟩)))
  · obtain ⟨v', hv', h⟩ := pB_ok h
    cases hv'.symm.trans hv
    obtain ⟨g, hg, h⟩ := pB_ok h
    obtain ⟨c1, h⟩ := pI_ok h
    have hne : ∃ P, pdC R.2.2.2.1 P zh zb zo zx zn zN := by
      unfold pdRn at c1
      have c1 : ∃ run, pdOf K c 330 336 hl b one x n N [w] run w = true := by
        rcases pOr c1 with c1 | c1
        · exact ⟨_, (pAnd c1).2⟩
        · exact ⟨_, (pAnd c1).2⟩
      obtain ⟨run, c1⟩ := c1
      unfold pdOf at c1
      rcases pOr c1 with c1 | c1
      · obtain ⟨P, cP, -⟩ := pdC_of (pdHz hD.2.2 hK E (zs := [zw]) (by (repeat' first | with_reducible assumption | exact sEv_C _ | with_reducible exact pvN | with_reducible apply pvC | with_reducible apply sEv_add | with_reducible apply sEv_sub | with_reducible apply sEv_mul)) (pAnd c1).1)
        exact ⟨P, cP⟩
      · split at c1
        · rename_i old v hold hv
          obtain ⟨zo', eo', hq⟩ := pdF1_ok hD.2.2 (k := 336 + c) (by unfold pdK; omega) E (zq := [zw, zw]) (show sVal ρ ([w] ++ [w]) = some [zw, zw] from pvC ew (pvC ew pvN)) hold
          obtain ⟨P, cP, -⟩ := pdC_of hq
          exact ⟨P, cP⟩
        · cases c1
    obtain ⟨P, cP⟩ := hne
    obtain ⟨hX, hN, hM', hG⟩ := pdC_f cP
    obtain ⟨w0, w16, -, -, hki⟩ := pdKi hM hD.2.2 cP hS ew (sEv_C 0) en ht
    have hki := hki.mp rfl
    obtain ⟨zg, eg, hgg⟩ := pdGv hD.2.2 cP eh ew (sEv_C 0) (sEv_C 0) ev hk hg
    obtain ⟨run, er, hof⟩ := pdRn_ok hM eg c1
    obtain ⟨f, f0, f1, f2, f3, f4⟩ := pdOf_ok hD hc (Or.inr (Or.inr ⟨rfl, rfl⟩)) E cP (zp := [zw]) (by (repeat' first | with_reducible assumption | exact sEv_C _ | with_reducible exact pvN | with_reducible apply pvC | with_reducible apply sEv_add | with_reducible apply sEv_sub | with_reducible apply sEv_mul)) er ew w0 hof
    have f2 : pN0 P f0 zw := f2
    have ho := f2 0 zw (by omega) (by omega) w0 w16
    rw [show (16 * 0 + zw).toNat = zw.toNat by omega] at ho
    have hm := pR0_s hG (w := zw) (by omega) w0 (by omega) hki hgg
    exact pd_out h (pdMk hK E (zs := [zw + 1]) (by (repeat' first | with_reducible assumption | exact sEv_C _ | with_reducible exact pvN | with_reducible apply pvC | with_reducible apply sEv_add | with_reducible apply sEv_sub | with_reducible apply sEv_mul)) (pdC_mk cP ((dN0 hc).mpr ⟨f, f1, pN0_s (by omega) w0 w16 f2 hm f3 (by
      have := pMn_le (by omega) ho
      split
      · omega
      · omega)⟩)))
theorem pdN0e_ok (nz : Nat) : kRok RO (pdN0e nz) := by
  intro K ws h ρ R hD
  have hM := hD.1
  unfold pdN0e at h
  obtain ⟨c, h₀, h⟩ := pB_ok h
  have hc := pdPin_lt h₀
  clear h₀
  obtain ⟨⟨hl, b, one, x, n, N⟩, hQ, h⟩ := pB_ok h
  obtain ⟨zh, zb, zo, zx, zn, zN, v, zv, eh, eb, eo, ex, en, eN, hv, ev, hk, hS⟩ := sfQ_ok hD hQ
  have E : pdE ρ hl b one x n N zh zb zo zx zn zN := ⟨eh, eb, eo, ex, en, eN⟩
  obtain ⟨h₀, h⟩ := pI_ok h
  have d1 := sNN_ok hM (by (repeat' first | with_reducible assumption | exact sEv_C _ | with_reducible exact pvN | with_reducible apply pvC | with_reducible apply sEv_add | with_reducible apply sEv_sub | with_reducible apply sEv_mul)) h₀
  clear h₀
  obtain ⟨r, hr, h⟩ := pB_ok h
  obtain ⟨c1, h⟩ := pI_ok h
  obtain ⟨q, zs, ez, hC⟩ := pdFz hD.2.2 (k := 330 + c) (pdKr hc (by decide) (by decide) (by decide) (by decide) (by decide)) E (q := []) hr
  split at q
  · rename_i w
    obtain ⟨zw, rfl, ew⟩ := sVal_1 ez
    have d := sNN_ok hM (sEv_sub ew eN) q
    obtain ⟨P, cP, hP⟩ := pdC_of hC
    obtain ⟨hX, hN, hM', hG⟩ := pdC_f cP
    obtain ⟨f, f1, f2⟩ := (dN0 hc).mp hP
    exact pd_out h (pdMk (pdKr hc (by decide) (by decide) (by decide) (by decide) (by decide)) E (zs := [0]) (by (repeat' first | with_reducible assumption | exact sEv_C _ | with_reducible exact pvN | with_reducible apply pvC | with_reducible apply sEv_add | with_reducible apply sEv_sub | with_reducible apply sEv_mul)) (pdC_mk cP ((dRU hc).mpr ⟨f, f1, by omega, pN0_e (by omega) f2⟩)))
  · cases q
theorem pdNDi_ok (nz : Nat) : kRok RO (pdNDi nz) := by
  intro K ws h ρ R hD
  have hM := hD.1
  unfold pdNDi at h
  obtain ⟨c, h₀, h⟩ := pB_ok h
  have hc := pdPin_lt h₀
  clear h₀
  obtain ⟨d, h₀, h⟩ := pB_ok h
  have hd := pdPin_lt h₀
  clear h₀
  obtain ⟨⟨hl, b, one, x, n, N⟩, hQ, h⟩ := pB_ok h
  obtain ⟨zh, zb, zo, zx, zn, zN, v, zv, eh, eb, eo, ex, en, eN, hv, ev, hk, hS⟩ := sfQ_ok hD hQ
  have E : pdE ρ hl b one x n N zh zb zo zx zn zN := ⟨eh, eb, eo, ex, en, eN⟩
  obtain ⟨k, h₀, h⟩ := pB_ok h
  obtain ⟨zk, ek⟩ := kLf_ok hD.2.1 h₀
  clear h₀
  obtain ⟨p, h₀, h⟩ := pB_ok h
  obtain ⟨zp, ep⟩ := kLf_ok hD.2.1 h₀
  clear h₀
  obtain ⟨h₀, h⟩ := pI_ok h
  have c1 := of_decide_eq_true h₀
  clear h₀
  obtain ⟨c2, h⟩ := pI_ok h
  obtain ⟨c3, h⟩ := pI_ok h
  obtain ⟨c4, h⟩ := pI_ok h
  obtain ⟨P, cP, hP⟩ := pdC_of (pdHz hD.2.2 (k := 322 + d) (pdKr hd (by decide) (by decide) (by decide) (by decide) (by decide)) E (zs := [zk]) (by (repeat' first | with_reducible assumption | exact sEv_C _ | with_reducible exact pvN | with_reducible apply pvC | with_reducible apply sEv_add | with_reducible apply sEv_sub | with_reducible apply sEv_mul)) c3)
  obtain ⟨f, f1, k0, -⟩ := (dRU hd).mp hP
  obtain ⟨f', g1, g2⟩ := pdCl_ok hD hc c2
  exact pd_out h (pdMk (pdKr hc (by decide) (by decide) (by decide) (by decide) (by decide)) E (zs := [zk, 0, 0, 0]) (by (repeat' first | with_reducible assumption | exact sEv_C _ | with_reducible exact pvN | with_reducible apply pvC | with_reducible apply sEv_add | with_reducible apply sEv_sub | with_reducible apply sEv_mul)) (pdC_mk cP ((dND hc).mpr ⟨f', g1, k0, pNd_0 g2⟩)))
theorem pd16_ev {p w : sL} {zp zw : Int} (e1 : sEv ρ p = some zp) (e2 : sEv ρ w = some zw) : sEv ρ (pd16 p w) = some (16 * zp + zw) := sEv_add (sEv_mul 16 e1) e2
theorem pdMNr_ok (nz : Nat) : kRok RO (pdMNr nz) := by
  intro K ws h ρ R hD
  have hM := hD.1
  unfold pdMNr at h
  obtain ⟨d, h₀, h⟩ := pB_ok h
  have hd := pdPin_lt h₀
  clear h₀
  obtain ⟨⟨hl, b, one, x, n, N⟩, hQ, h⟩ := pB_ok h
  obtain ⟨zh, zb, zo, zx, zn, zN, v, zv, eh, eb, eo, ex, en, eN, hv, ev, hk, hS⟩ := sfQ_ok hD hQ
  have E : pdE ρ hl b one x n N zh zb zo zx zn zN := ⟨eh, eb, eo, ex, en, eN⟩
  obtain ⟨k, h₀, h⟩ := pB_ok h
  obtain ⟨zk, ek⟩ := kLf_ok hD.2.1 h₀
  clear h₀
  obtain ⟨p, h₀, h⟩ := pB_ok h
  obtain ⟨zp, ep⟩ := kLf_ok hD.2.1 h₀
  clear h₀
  obtain ⟨w, h₀, h⟩ := pB_ok h
  obtain ⟨zw, ew⟩ := kLf_ok hD.2.1 h₀
  clear h₀
  obtain ⟨m, h₀, h⟩ := pB_ok h
  obtain ⟨zm, em⟩ := kLf_ok hD.2.1 h₀
  clear h₀
  obtain ⟨c1, h⟩ := pI_ok h
  obtain ⟨c2, h⟩ := pI_ok h
  obtain ⟨h₀, h⟩ := pI_ok h
  have c3 := of_decide_eq_true h₀
  clear h₀
  obtain ⟨h₀, h⟩ := pI_ok h
  have r1 := sWi_ok hM.1 (by (repeat' first | with_reducible assumption | exact sEv_C _ | with_reducible exact pvN | with_reducible apply pvC | with_reducible apply sEv_add | with_reducible apply sEv_sub | with_reducible apply sEv_mul)) h₀
  clear h₀
  obtain ⟨h₀, h⟩ := pI_ok h
  have d1 := sNN_ok hM (by (repeat' first | with_reducible assumption | exact sEv_C _ | with_reducible exact pvN | with_reducible apply pvC | with_reducible apply sEv_add | with_reducible apply sEv_sub | with_reducible apply sEv_mul)) h₀
  clear h₀
  obtain ⟨h₀, h⟩ := pI_ok h
  have d2 := sNN_ok hM (by (repeat' first | with_reducible assumption | exact sEv_C _ | with_reducible exact pvN | with_reducible apply pvC | with_reducible apply sEv_add | with_reducible apply sEv_sub | with_reducible apply sEv_mul)) h₀
  clear h₀
  obtain ⟨h₀, h⟩ := pI_ok h
  have d3 := sNN_ok hM (by (repeat' first | with_reducible assumption | exact sEv_C _ | with_reducible exact pvN | with_reducible apply pvC | with_reducible apply sEv_add | with_reducible apply sEv_sub | with_reducible apply sEv_mul)) h₀
  clear h₀
  obtain ⟨h₀, h⟩ := pI_ok h
  have d4 := sNN_ok hM (by (repeat' first | with_reducible assumption | exact sEv_C _ | with_reducible exact pvN | with_reducible apply pvC | with_reducible apply sEv_add | with_reducible apply sEv_sub | with_reducible apply sEv_mul)) h₀
  clear h₀
  obtain ⟨P, cP, hP⟩ := pdC_of (pdHz hD.2.2 (k := 322 + d) (pdKr hd (by decide) (by decide) (by decide) (by decide) (by decide)) E (zs := [zk]) (by (repeat' first | with_reducible assumption | exact sEv_C _ | with_reducible exact pvN | with_reducible apply pvC | with_reducible apply sEv_add | with_reducible apply sEv_sub | with_reducible apply sEv_mul)) c1)
  obtain ⟨f, f1, k0, f2⟩ := (dRU hd).mp hP
  obtain ⟨z, ez, kz⟩ := kFindEl_ok hD.2.2 c3 (pd16_ev ep ew)
  cases ez.symm.trans em
  obtain ⟨-, hz⟩ := pdEl kz f1 r1
  refine pd_out h (pdMk (pdKq (by decide) (by decide) (by decide) (by decide)) E (zs := [zk, zp, zw, zm]) (by (repeat' first | with_reducible assumption | exact sEv_C _ | with_reducible exact pvN | with_reducible apply pvC | with_reducible apply sEv_add | with_reducible apply sEv_sub | with_reducible apply sEv_mul)) (pdC_mk cP (dMN.mpr ⟨k0, ?_⟩)))
  rw [← hz]
  exact f2 zp zw (by omega) (by omega) (by omega) (by omega)
theorem pdBw_ok (hg : kGh (kGP (kUP RO)) ρ γ H) (cP : pdC H P zh zb zo zx zn zN) {b n k a be : sL} {zk za : Int} (eb : sEv ρ b = some zb) (en : sEv ρ n = some zn) (ek : sEv ρ k = some zk) (ea : sEv ρ a = some za) (k0 : 0 < zk) (k1 : zk < zn) (hka : pKn P za.toNat = pK P (zk - 1).toNat) (h : pdBw γ b n k a = some be) : ∃ ze, sEv ρ be = some ze ∧ ze = pBb P za zk := by
  obtain ⟨g, fn, fk, fl, hG, hW, rfl⟩ := cP
  unfold pdBw at h
  split at h
  · rename_i x1 x2 x3 x4 be' hfa
    cases h
    obtain ⟨h1, zb', zn', zk', za', ze, e1, e2, e3, e4, e5, g', fn', q1, q2, q3⟩ := sfBWe hg hfa
    have he := sfTk h1
    simp only [List.length_cons, List.length_nil, List.drop_succ_cons, List.drop_zero, List.cons_append, List.nil_append, List.cons.injEq, and_true] at he
    obtain ⟨rfl, rfl, rfl, rfl⟩ := he
    cases e1.symm.trans eb
    cases e2.symm.trans en
    cases e3.symm.trans ek
    cases e4.symm.trans ea
    cases kLg_one hG q1
    cases hW.1.symm.trans q2
    refine ⟨ze, e5, ?_⟩
    rw [q3, if_pos k0]
    have hka : (fk za.toNat).toInt = jW g zb (zk - 1).toNat := hka
    show pBc g fn zb zn zk za = (if jW g zb zk.toNat = (fk za.toNat).toInt then (fn za.toNat).toInt else 0)
    unfold pBc
    rw [hka]
    by_cases e : jW g zb zk.toNat = jW g zb (zk - 1).toNat
    · rw [if_pos ⟨k1, e⟩, if_pos e]
    · rw [if_neg (fun q => e q.2), if_neg e]
  · cases h
theorem pdNDs_ok (nz : Nat) : kRok RO (pdNDs nz) := by
  intro K ws h ρ R hD
  have hM := hD.1
  unfold pdNDs at h
  obtain ⟨c, h₀, h⟩ := pB_ok h
  have hc := pdPin_lt h₀
  clear h₀
  obtain ⟨⟨hl, b, one, x, n, N⟩, hQ, h⟩ := pB_ok h
  obtain ⟨zh, zb, zo, zx, zn, zN, v, zv, eh, eb, eo, ex, en, eN, hv, ev, hk, hS⟩ := sfQ_ok hD hQ
  have E : pdE ρ hl b one x n N zh zb zo zx zn zN := ⟨eh, eb, eo, ex, en, eN⟩
  obtain ⟨k, h₀, h⟩ := pB_ok h
  obtain ⟨zk, ek⟩ := kLf_ok hD.2.1 h₀
  clear h₀
  obtain ⟨p, h₀, h⟩ := pB_ok h
  obtain ⟨zp, ep⟩ := kLf_ok hD.2.1 h₀
  clear h₀
  obtain ⟨a, h₀, h⟩ := pB_ok h
  obtain ⟨za, ea⟩ := kLf_ok hD.2.1 h₀
  clear h₀
  obtain ⟨m, h₀, h⟩ := pB_ok h
  obtain ⟨zm, em⟩ := kLf_ok hD.2.1 h₀
  clear h₀
  obtain ⟨w, h₀, h⟩ := pB_ok h
  obtain ⟨zw, ew⟩ := kLf_ok hD.2.1 h₀
  clear h₀
  obtain ⟨h₀, h⟩ := pI_ok h
  have d1 := sNN_ok hM (by (repeat' first | with_reducible assumption | exact sEv_C _ | with_reducible exact pvN | with_reducible apply pvC | with_reducible apply sEv_add | with_reducible apply sEv_sub | with_reducible apply sEv_mul)) h₀
  clear h₀
  obtain ⟨h₀, h⟩ := pI_ok h
  have d2 := sNN_ok hM (by (repeat' first | with_reducible assumption | exact sEv_C _ | with_reducible exact pvN | with_reducible apply pvC | with_reducible apply sEv_add | with_reducible apply sEv_sub | with_reducible apply sEv_mul)) h₀
  clear h₀
  obtain ⟨h₀, h⟩ := pI_ok h
  have d3 := sNN_ok hM (by (repeat' first | with_reducible assumption | exact sEv_C _ | with_reducible exact pvN | with_reducible apply pvC | with_reducible apply sEv_add | with_reducible apply sEv_sub | with_reducible apply sEv_mul)) h₀
  clear h₀
  obtain ⟨h₀, h⟩ := pI_ok h
  have d4 := sNN_ok hM (by (repeat' first | with_reducible assumption | exact sEv_C _ | with_reducible exact pvN | with_reducible apply pvC | with_reducible apply sEv_add | with_reducible apply sEv_sub | with_reducible apply sEv_mul)) h₀
  clear h₀
  obtain ⟨h₀, h⟩ := pI_ok h
  have d5 := sNN_ok hM (by (repeat' first | with_reducible assumption | exact sEv_C _ | with_reducible exact pvN | with_reducible apply pvC | with_reducible apply sEv_add | with_reducible apply sEv_sub | with_reducible apply sEv_mul)) h₀
  clear h₀
  obtain ⟨h₀, h⟩ := pI_ok h
  have d6 := sNN_ok hM (by (repeat' first | with_reducible assumption | exact sEv_C _ | with_reducible exact pvN | with_reducible apply pvC | with_reducible apply sEv_add | with_reducible apply sEv_sub | with_reducible apply sEv_mul)) h₀
  clear h₀
  obtain ⟨h₀, h⟩ := pI_ok h
  have d7 := sNN_ok hM (by (repeat' first | with_reducible assumption | exact sEv_C _ | with_reducible exact pvN | with_reducible apply pvC | with_reducible apply sEv_add | with_reducible apply sEv_sub | with_reducible apply sEv_mul)) h₀
  clear h₀
  obtain ⟨t, ht, h⟩ := pB_ok h
  have hK : pdK (324 + c) := pdKr hc (by decide) (by decide) (by decide) (by decide) (by decide)
  have ek1 := sEv_add ek (sEv_C 1)
  cases t
  · obtain ⟨c1, h⟩ := pI_ok h
    obtain ⟨P, cP, hP⟩ := pdC_of (pdHz hD.2.2 hK E (zs := [zk, zp, za, zw]) (by (repeat' first | with_reducible assumption | exact sEv_C _ | with_reducible exact pvN | with_reducible apply pvC | with_reducible apply sEv_add | with_reducible apply sEv_sub | with_reducible apply sEv_mul)) c1)
    obtain ⟨f, f1, k0, f2⟩ := (dND hc).mp hP
    obtain ⟨-, -, -, -, hki⟩ := pdKi hM hD.2.2 cP hS ew ek1 en ht
    refine pd_out h (pdMk hK E (zs := [zk, zp, za, zw + 1]) (by (repeat' first | with_reducible assumption | exact sEv_C _ | with_reducible exact pvN | with_reducible apply pvC | with_reducible apply sEv_add | with_reducible apply sEv_sub | with_reducible apply sEv_mul)) (pdC_mk cP ((dND hc).mpr ⟨f, f1, k0, pNd_n f2 (fun r q => ?_)⟩)))
    have q3 := q.2.2.1
    rw [Int.toNat_of_nonneg k0] at q3
    exact absurd (hki.mpr q3) (by decide)
  · obtain ⟨c1, h⟩ := pI_ok h
    obtain ⟨h₀, h⟩ := pI_ok h
    have d8 := sNN_ok hM (by (repeat' first | with_reducible assumption | exact sEv_C _ | with_reducible exact pvN | with_reducible apply pvC | with_reducible apply sEv_add | with_reducible apply sEv_sub | with_reducible apply sEv_mul)) h₀
    clear h₀
    obtain ⟨be, hbe, h⟩ := pB_ok h
    obtain ⟨v', hv', h⟩ := pB_ok h
    cases hv'.symm.trans hv
    obtain ⟨g, hg, h⟩ := pB_ok h
    obtain ⟨c2, h⟩ := pI_ok h
    obtain ⟨P, cP, hP⟩ := pdC_of (pdHz hD.2.2 (k := 340) (pdKq (by decide) (by decide) (by decide) (by decide)) E (zs := [zk, zp, za, zm]) (by (repeat' first | with_reducible assumption | exact sEv_C _ | with_reducible exact pvN | with_reducible apply pvC | with_reducible apply sEv_add | with_reducible apply sEv_sub | with_reducible apply sEv_mul)) c1)
    obtain ⟨hX, hN, hM', hG⟩ := pdC_f cP
    obtain ⟨k0, hmn⟩ := dMN.mp hP
    obtain ⟨w0, w16, -, kn, hki⟩ := pdKi hM hD.2.2 cP hS ew ek1 en ht
    have hki := hki.mp rfl
    have hR := pR_rng _ (pMn_x hmn (by omega) (by omega))
    obtain ⟨ze, ee, he⟩ := pdBw_ok hD.2.2 cP eb en ek1 ea (by omega) (by omega) (by rw [show zk + 1 - 1 = zk by omega]; exact hR.2.2.2.2.1) hbe
    obtain ⟨zg, eg, hgg⟩ := pdGv hD.2.2 cP eh ew (sEv_add (sEv_add ek ep) (sEv_C 1)) ee ev hk hg
    obtain ⟨run, er, hof⟩ := pdRn_ok hM (sEv_add em eg) c2
    obtain ⟨f, f0, f1, f2, f3, f4⟩ := pdOf_ok hD hc (Or.inl ⟨rfl, rfl⟩) E cP (zp := [zk, zp, za, zw]) (by (repeat' first | with_reducible assumption | exact sEv_C _ | with_reducible exact pvN | with_reducible apply pvC | with_reducible apply sEv_add | with_reducible apply sEv_sub | with_reducible apply sEv_mul)) er (pd16_ev ep ew) (by omega) hof
    obtain ⟨-, f2⟩ : 0 ≤ zk ∧ pNd P f0 zk.toNat zp za zw := f2
    have ho := f2 zp zw (by omega) (by omega) w0 w16
    obtain ⟨j, rfl⟩ : ∃ j : Nat, zk = (j : Int) := ⟨zk.toNat, by omega⟩
    rw [Int.toNat_natCast] at f2 hmn ho
    rw [he] at hgg
    have hm := pDa_s hG (R := pR P j) (k := (j : Int)) (p := zp) (a := za) (w := zw) (by omega) hmn w0 (by omega) hki (by rw [show (j : Int) + 1 + zp = j + zp + 1 by omega]; exact hgg)
    exact pd_out h (pdMk hK E (zs := [(j : Int), zp, za, zw + 1]) (by (repeat' first | with_reducible assumption | exact sEv_C _ | with_reducible exact pvN | with_reducible apply pvC | with_reducible apply sEv_add | with_reducible apply sEv_sub | with_reducible apply sEv_mul)) (pdC_mk cP ((dND hc).mpr ⟨f, f1, by omega, by
      rw [Int.toNat_natCast]
      exact pNd_s (by omega) d7 d5 w0 w16 f2 hm f3 (pOfr (by omega) ho (by omega) rfl (by rw [hX]; exact f4))⟩)))
theorem pdNDw_ok (nz : Nat) : kRok RO (pdNDw nz) := by
  intro K ws h ρ R hD
  have hM := hD.1
  unfold pdNDw at h
  obtain ⟨c, h₀, h⟩ := pB_ok h
  have hc := pdPin_lt h₀
  clear h₀
  obtain ⟨⟨hl, b, one, x, n, N⟩, hQ, h⟩ := pB_ok h
  obtain ⟨zh, zb, zo, zx, zn, zN, v, zv, eh, eb, eo, ex, en, eN, hv, ev, hk, hS⟩ := sfQ_ok hD hQ
  have E : pdE ρ hl b one x n N zh zb zo zx zn zN := ⟨eh, eb, eo, ex, en, eN⟩
  obtain ⟨k, h₀, h⟩ := pB_ok h
  obtain ⟨zk, ek⟩ := kLf_ok hD.2.1 h₀
  clear h₀
  obtain ⟨p, h₀, h⟩ := pB_ok h
  obtain ⟨zp, ep⟩ := kLf_ok hD.2.1 h₀
  clear h₀
  obtain ⟨a, h₀, h⟩ := pB_ok h
  obtain ⟨za, ea⟩ := kLf_ok hD.2.1 h₀
  clear h₀
  obtain ⟨m, h₀, h⟩ := pB_ok h
  obtain ⟨zm, em⟩ := kLf_ok hD.2.1 h₀
  clear h₀
  obtain ⟨w, hw, h⟩ := pB_ok h
  obtain ⟨c1, h⟩ := pI_ok h
  have hK : pdK (324 + c) := pdKr hc (by decide) (by decide) (by decide) (by decide) (by decide)
  obtain ⟨zw, ew, hq⟩ := pdF1_ok hD.2.2 hK E (zq := [zk, zp, za]) (by (repeat' first | with_reducible assumption | exact sEv_C _ | with_reducible exact pvN | with_reducible apply pvC | with_reducible apply sEv_add | with_reducible apply sEv_sub | with_reducible apply sEv_mul)) hw
  obtain ⟨P, cP, hP⟩ := pdC_of hq
  obtain ⟨hX, hN, hM', hG⟩ := pdC_f cP
  obtain ⟨f, f1, k0, f2⟩ := (dND hc).mp hP
  refine pd_out h (pdMk hK E (zs := [zk, zp, za + 1, 0]) (by (repeat' first | with_reducible assumption | exact sEv_C _ | with_reducible exact pvN | with_reducible apply pvC | with_reducible apply sEv_add | with_reducible apply sEv_sub | with_reducible apply sEv_mul)) (pdC_mk cP ((dND hc).mpr ⟨f, f1, k0, pNd_w f2 ?_⟩)))
  rcases pOr c1 with c1 | c1
  · have d := sNN_ok hM (sEv_sub ew eN) c1
    exact Or.inl (by omega)
  · obtain ⟨c1, c2⟩ := pAnd c1
    have d := sNN_ok hM (sEv_sub (sEv_sub em ex) (sEv_C 1)) c2
    obtain ⟨-, hmn⟩ := dMN.mp (pdC_at cP (pdHz hD.2.2 (k := 340) (pdKq (by decide) (by decide) (by decide) (by decide)) E (zs := [zk, zp, za, zm]) (by (repeat' first | with_reducible assumption | exact sEv_C _ | with_reducible exact pvN | with_reducible apply pvC | with_reducible apply sEv_add | with_reducible apply sEv_sub | with_reducible apply sEv_mul)) c1))
    exact Or.inr (pMn_n hmn (by omega))
theorem pdNDe_ok (nz : Nat) : kRok RO (pdNDe nz) := by
  intro K ws h ρ R hD
  have hM := hD.1
  unfold pdNDe at h
  obtain ⟨c, h₀, h⟩ := pB_ok h
  have hc := pdPin_lt h₀
  clear h₀
  obtain ⟨⟨hl, b, one, x, n, N⟩, hQ, h⟩ := pB_ok h
  obtain ⟨zh, zb, zo, zx, zn, zN, v, zv, eh, eb, eo, ex, en, eN, hv, ev, hk, hS⟩ := sfQ_ok hD hQ
  have E : pdE ρ hl b one x n N zh zb zo zx zn zN := ⟨eh, eb, eo, ex, en, eN⟩
  obtain ⟨k, h₀, h⟩ := pB_ok h
  obtain ⟨zk, ek⟩ := kLf_ok hD.2.1 h₀
  clear h₀
  obtain ⟨p, h₀, h⟩ := pB_ok h
  obtain ⟨zp, ep⟩ := kLf_ok hD.2.1 h₀
  clear h₀
  obtain ⟨a, h₀, h⟩ := pB_ok h
  obtain ⟨za, ea⟩ := kLf_ok hD.2.1 h₀
  clear h₀
  obtain ⟨c1, h⟩ := pI_ok h
  obtain ⟨c2, h⟩ := pI_ok h
  obtain ⟨P, cP, hP⟩ := pdC_of (pdHz hD.2.2 (k := 324 + c) (pdKr hc (by decide) (by decide) (by decide) (by decide) (by decide)) E (zs := [zk, zp, za, 0]) (by (repeat' first | with_reducible assumption | exact sEv_C _ | with_reducible exact pvN | with_reducible apply pvC | with_reducible apply sEv_add | with_reducible apply sEv_sub | with_reducible apply sEv_mul)) c1)
  obtain ⟨hX, hN, hM', hG⟩ := pdC_f cP
  obtain ⟨f, f1, k0, f2⟩ := (dND hc).mp hP
  have := kEqf_ok hM ea eN c2
  subst this
  rw [← hM'] at f2
  exact pd_out h (pdMk (k := 326 + c) (pdKr hc (by decide) (by decide) (by decide) (by decide) (by decide)) E (zs := [zk, zp, 0]) (by (repeat' first | with_reducible assumption | exact sEv_C _ | with_reducible exact pvN | with_reducible apply pvC | with_reducible apply sEv_add | with_reducible apply sEv_sub | with_reducible apply sEv_mul)) (pdC_mk cP ((dNP hc).mpr ⟨f, f1, k0, pNd_d f2⟩)))
theorem pdRUe_ok (nz : Nat) : kRok RO (pdRUe nz) := by
  intro K ws h ρ R hD
  have hM := hD.1
  unfold pdRUe at h
  obtain ⟨c, h₀, h⟩ := pB_ok h
  have hc := pdPin_lt h₀
  clear h₀
  obtain ⟨⟨hl, b, one, x, n, N⟩, hQ, h⟩ := pB_ok h
  obtain ⟨zh, zb, zo, zx, zn, zN, v, zv, eh, eb, eo, ex, en, eN, hv, ev, hk, hS⟩ := sfQ_ok hD hQ
  have E : pdE ρ hl b one x n N zh zb zo zx zn zN := ⟨eh, eb, eo, ex, en, eN⟩
  obtain ⟨k, h₀, h⟩ := pB_ok h
  obtain ⟨zk, ek⟩ := kLf_ok hD.2.1 h₀
  clear h₀
  obtain ⟨p, h₀, h⟩ := pB_ok h
  obtain ⟨zp, ep⟩ := kLf_ok hD.2.1 h₀
  clear h₀
  obtain ⟨c1, h⟩ := pI_ok h
  obtain ⟨c2, h⟩ := pI_ok h
  obtain ⟨P, cP, hP⟩ := pdC_of (pdHz hD.2.2 (k := 324 + c) (pdKr hc (by decide) (by decide) (by decide) (by decide) (by decide)) E (zs := [zk, zp, 0, 0]) (by (repeat' first | with_reducible assumption | exact sEv_C _ | with_reducible exact pvN | with_reducible apply pvC | with_reducible apply sEv_add | with_reducible apply sEv_sub | with_reducible apply sEv_mul)) c1)
  obtain ⟨f, f1, k0, f2⟩ := (dND hc).mp hP
  have := kEqf_ok hM ep (sEv_add ek (sEv_C 1)) c2
  subst this
  refine pd_out h (pdMk (k := 322 + c) (pdKr hc (by decide) (by decide) (by decide) (by decide) (by decide)) E (zs := [zk + 1]) (by (repeat' first | with_reducible assumption | exact sEv_C _ | with_reducible exact pvN | with_reducible apply pvC | with_reducible apply sEv_add | with_reducible apply sEv_sub | with_reducible apply sEv_mul)) (pdC_mk cP ((dRU hc).mpr ⟨f, f1, by omega, ?_⟩)))
  rw [show (zk + 1).toNat = zk.toNat + 1 by omega]
  exact pNd_e (by rw [Int.toNat_of_nonneg k0]; exact f2)
end PDB
end
