/-! mayBe: the class' rules as the reference would use them, were a word's NEAR another; the greatest such number. -/
noncomputable section
def wBit (m k : Nat) : Bool := Nat.beq (Nat.land (Nat.shiftRight m k) 1) 1
/-- the kinds that don't hang on the reference's NEAR of words -/
def wKM : Nat := 10169096339625039673879324538799388594528059391
/-- the kinds that have a twin -/
def wPM : Nat := 535217884764734956380922855709868824354357248
def wKp (k : Nat) : Bool := @Bool.rec (fun _ => Bool) (wBit wKM k) (!(Nat.beq k 1053)) (Nat.ble 1000 k)
def wIn (Γ : sG) (fs : List sL) : Bool := match fs with
  | i :: _ => sInR Γ i 16
  | [] => false
def wD1 (sh : Bool) (Γ : sG) (q : kA) : List kA := bif Nat.ble 173 q.1 && Nat.ble q.1 289 then [(q.1 - 120, q.2)] else bif Nat.beq q.1 1003 then (bif sh && wIn Γ q.2 then [q, (1053, q.2)] else [q]) else bif wKp q.1 then [q] else []
def wDn (sh : Bool) (Γ : sG) (γ : List kA) : List kA := @List.rec kA (fun _ => List kA) [] (fun q _ ih => fApp (wD1 sh Γ q) ih) γ
def wDa (Γ : sG) (γ : List kA) : List kA := bif kHav γ 290 [] then (75, [sC (-1)]) :: wDn true Γ γ else wDn false Γ γ
def wG (G : List sE) : List sE := bif kShb G 3 .int 16 && kShb G 53 .int 16 then sSet G 53 (.inl (.int, 16, (-2147483648, 2147483647), [])) else sSet G 53 (.inr (999, []))
def wDw (K : kS) : kS := match K with
  | ((pc, ls, st, G, c, s, Γ), γ) => ((pc, ls, st, wG G, c, s, Γ), wDa Γ γ)
def wU1 (q : kA) : List kA := bif wBit wPM q.1 then [(q.1 + 120, q.2)] else bif wKp q.1 then [q] else []
def wUp (γ : List kA) : List kA := @List.rec kA (fun _ => List kA) [] (fun q _ ih => fApp (wU1 q) ih) γ
def vw (f : kS → Option kWs) (K : kS) : Option kWs := match f (wDw K) with
  | none => none
  | some ws => some (ws.map fun p => (wUp p.1, p.2))
def wSHw (K : kS) : Option kWs := match kFa K.2 75 (fun _ => true) with
  | some _ => if kHav K.2 290 [] = true then none else some [([(290, [])], [])]
  | none => none
def wUNs (γ : List kA) (q : kA) : Option kA := if (decide (q.1 = 209) && !(kHav γ 89 q.2)) = true then some (89, q.2) else none
def wUNP (K : kS) : Option kWs := if kHav K.2 75 [sC (-1)] = true then some [(K.2.filterMap (wUNs K.2), [])] else none
def wMVc (K : kS) : Option kWs := match kLf K.1.2.1 5, kLf K.1.2.1 8, kFa K.2 268 (fun _ => true) with
  | some w, some n, some [hl, b, le, wc, one, bd, r] => if (kHav K.2 75 [w] && (decide (kFindEl K.2 3 w = some n) && sInR K.1.2.2.2.2.2.2 w 16)) = true then some [([(291, [hl, b, le, wc, one, bd, w, n, r])], [])] else none
  | _, _, _ => none
def wMVr (K : kS) : Option kWs := match kLf K.1.2.1 4, kLf K.1.2.1 7, kFa K.2 148 (fun _ => true) with
  | some w, some n, some [hl, b, le, wc, one, bd, r] => if (kHav K.2 290 [] && (decide (kFindEl K.2 53 w = some n) && sInR K.1.2.2.2.2.2.2 w 16)) = true then some [([(291, [hl, b, le, wc, one, bd, w, n, r])], [])] else none
  | _, _, _ => none
def wB0 (zl s : Nat) (K : kS) : Option (Nat × sL × sL × sL × sL) := match nFf K.1.2.2.2.1 (40 + 2 * s) zl, nFf K.1.2.2.2.1 1 1, kFa K.2 62 (fun _ => true), kToldI K.1.2.2.2.1 11 0 with
  | some le, some w, some [_, hl], some bd => some (s, le, w, hl, bd)
  | _, _, _, _ => none
def wB1 (zw zh s : Nat) (K : kS) : Option (Nat × sL × sL × sL × sL) := match kToldI K.1.2.2.2.1 83 s, nFf K.1.2.2.2.1 52 zw, nFf K.1.2.2.2.1 52 zh, kToldI K.1.2.2.2.1 59 2 with
  | some le, some w, some hl, some bd => some (s, le, w, hl, bd)
  | _, _, _, _ => none
def wBq (d zl zw zh : Nat) (K : kS) : Option (Nat × sL × sL × sL × sL) := match kWs_ 1 K with
  | some s => if d = 0 then wB0 zl s K else wB1 zw zh s K
  | none => none
def wMBi (d zl zw zh lw ln : Nat) (K : kS) : Option kWs := match wBq d zl zw zh K, kLf K.1.2.1 2, kLf K.1.2.1 lw, kLf K.1.2.1 ln, kFa K.2 292 (fun _ => true) with
  | some (s, le, nw, hl, bd), some ow, some w, some n, none => if (decide (n = sC 9) && (sInR K.1.2.2.2.2.2.2 w 16 && kHav K.2 290 [])) = true then some [([(292, [hl, jB s, le, nw, ow, bd, w, n])], [])] else none
  | _, _, _, _, _ => none
def wQn (n : sL) (fs : List sL) : Bool := match fs with
  | [_, _, _, _, _, _, _, n'] => decide (n' = n)
  | _ => false
def wQv (hl b le w one bd wd v : sL) (fs : List sL) : Bool := match fs with
  | [hl', b', le', w', one', bd', wd', v', _] => decide (hl' = hl) && (decide (b' = b) && (decide (le' = le) && (decide (w' = w) && (decide (one' = one) && (decide (bd' = bd) && (decide (wd' = wd) && decide (v' = v)))))))
  | _ => false
/-- what the judge says with that number -/
def wAns (Γ : sG) (γ : List kA) (hl b le w ow bd wd v : sL) : Option sL := match nDl Γ 9 ow (sC 100) with
  | some one => (match kFa γ 291 (wQv hl b le w one bd wd v) with
    | some [_, _, _, _, _, _, _, _, x] => some x
    | _ => none)
  | none => none
def wMBs (ln : Nat) (K : kS) : Option kWs := match kLf K.1.2.1 ln with
  | some n => (match kFa K.2 292 (wQn (sAdd n (sC 1))) with
    | some [hl, b, le, w, ow, bd, wd, _] => (match wAns K.1.2.2.2.2.2.2 K.2 hl b le w ow bd wd (sAdd n (sC 1)) with
      | some x => if (sNN K.1.2.2.2.2.2.2 (sAdd x (sC 1)) || nNe K.1.2.2.2.2.2.2 x (sC (-2))) = true then some [([(292, [hl, b, le, w, ow, bd, wd, n])], [])] else none
      | none => none)
    | _ => none)
  | none => none
def wQm (Γ : sG) (fs : List sL) : Bool := match fs with
  | [_, _, _, _, _, _, _, n] => sNN Γ (sSub (sC (-1)) n)
  | _ => false
def wMBe (K : kS) : Option kWs := match kTop K with
  | some r => if r = sC (-2) then (match kFa K.2 292 (wQm K.1.2.2.2.2.2.2) with
      | some [hl, b, le, w, ow, bd, wd, _] => some [([(293, [hl, b, le, w, ow, bd, wd, r])], [])]
      | _ => none)
    else (match kFa K.2 292 (wQn r) with
      | some [hl, b, le, w, ow, bd, wd, _] => (match wAns K.1.2.2.2.2.2.2 K.2 hl b le w ow bd wd r with
        | some x => if (sNN K.1.2.2.2.2.2.2 (sSub (sC (-1)) x) && (sNN K.1.2.2.2.2.2.2 r && sNN K.1.2.2.2.2.2.2 (sSub (sC 9) r))) = true then some [([(293, [hl, b, le, w, ow, bd, wd, r])], [])] else none
        | none => none)
      | _ => none)
  | none => none
theorem wKM_lo : (List.range 300).all (fun k => !(wBit wKM k) || !((kUD k).contains 53)) = true := by decide +kernel
theorem wBit_hi {m n k : Nat} (hm : m < 2 ^ n) (h : n ≤ k) : wBit m k = false := by
  unfold wBit
  have e : Nat.shiftRight m k = 0 := by
    show m >>> k = 0
    rw [Nat.shiftRight_eq_div_pow]
    exact Nat.div_eq_of_lt (Nat.lt_of_lt_of_le hm (Nat.pow_le_pow_right (by decide) h))
  rw [e]
  rfl
theorem wKp_ok {k : Nat} (h : wKp k = true) : ∀ j ∈ kDp kUD k, j ≠ 53 := by
  intro j hj e
  subst e
  unfold wKp at h
  unfold kDp at hj
  by_cases hk : 1000 ≤ k
  · rw [if_pos hk] at hj
    rw [Nat.ble_eq_true_of_le hk] at h
    have e := List.mem_singleton.mp hj
    have e : k = 1053 := by omega
    subst e
    cases (show (!(Nat.beq 1053 1053)) = true from h)
  · rw [if_neg hk] at hj
    cases hb : Nat.ble 1000 k with
    | true => exact hk (Nat.le_of_ble_eq_true hb)
    | false =>
      rw [hb] at h
      have h : wBit wKM k = true := h
      by_cases h3 : k < 300
      · have q := List.all_eq_true.mp wKM_lo k (List.mem_range.mpr h3)
        rw [h] at q
        have q : (!((kUD k).contains 53)) = true := q
        have q2 : (kUD k).contains 53 = true := List.contains_iff_mem.mpr hj
        rw [q2] at q
        cases q
      · rw [wBit_hi (n := 170) (by decide) (by omega)] at h
        cases h
theorem wPM_in {k : Nat} (h : wBit wPM k = true) : k = 81 ∨ k = 82 ∨ k = 83 ∨ k = 85 ∨ k = 88 ∨ k = 89 ∨ k = 147 ∨ k = 148 := by
  by_cases h3 : k < 150
  · have q : ∀ k : Nat, k < 150 → wBit wPM k = true → k = 81 ∨ k = 82 ∨ k = 83 ∨ k = 85 ∨ k = 88 ∨ k = 89 ∨ k = 147 ∨ k = 148 := by decide +kernel
    exact q k h3 h
  · rw [wBit_hi (n := 150) (by decide) (by omega)] at h
    cases h
section WMAY
variable {RO : List (Nat × (Nat → Int32))} {ρ : List Int} {Γ : sG} {γ : List kA} {H : List eE}
theorem wKeep {k : Nat} {zs : List Int} (h : wKp k = true) (q : kGP (kUP RO) k zs H) : kGP (kUP RO) k zs (viewC H) := kGP_fr (kUP_fr RO) k zs H _ (fun _ hj => viewC_at (wKp_ok h _ hj)) q
theorem wKeepr {k : Nat} {zs : List Int} (h : wKp k = true) (q : kGP (kUP RO) k zs (viewC H)) : kGP (kUP RO) k zs H := kGP_fr (kUP_fr RO) k zs (viewC H) _ (fun _ hj => (viewC_at (wKp_ok h _ hj)).symm) q
/-- twins -/
theorem wTw {k : Nat} (hk : k = 81 ∨ k = 82 ∨ k = 83 ∨ k = 85 ∨ k = 88 ∨ k = 89 ∨ k = 147 ∨ k = 148) {zs : List Int} : nUP (k + 120) zs H ↔ nUP k zs (viewC H) := by
  rcases hk with rfl | rfl | rfl | rfl | rfl | rfl | rfl | rfl
  · exact (wUPi (k := 201) (by decide)).trans Iff.rfl
  · exact (wUPi (k := 202) (by decide)).trans Iff.rfl
  · exact (wUPi (k := 203) (by decide)).trans Iff.rfl
  · exact (wUPi (k := 205) (by decide)).trans Iff.rfl
  · exact (wUPi (k := 208) (by decide)).trans Iff.rfl
  · exact (wUPi (k := 209) (by decide)).trans Iff.rfl
  · exact ((wUPi (k := 267) (by decide)).trans (show _ ↔ ∃ g, kLg 84 360 g (viewC H) ∧ jPn g (viewC H) 147 zs from Iff.rfl)).trans (jUPn (k := 147) (by decide)).symm
  · exact ((wUPi (k := 268) (by decide)).trans (show _ ↔ ∃ g, kLg 84 360 g (viewC H) ∧ jPn g (viewC H) 148 zs from Iff.rfl)).trans (jUPn (k := 148) (by decide)).symm
theorem wTw_in {k : Nat} (h1 : 173 ≤ k) (h2 : k ≤ 289) {zs : List Int} (q : nUP k zs H) : k - 120 = 81 ∨ k - 120 = 82 ∨ k - 120 = 83 ∨ k - 120 = 85 ∨ k - 120 = 88 ∨ k - 120 = 89 ∨ k - 120 = 147 ∨ k - 120 = 148 := by
  have q := (wUPi h1).mp q
  by_cases c : k = 201 ∨ k = 202 ∨ k = 203 ∨ k = 205 ∨ k = 208 ∨ k = 209 ∨ k = 267 ∨ k = 268
  · omega
  · unfold wUP at q
    rw [if_neg (by omega), if_neg (by omega), if_neg (by omega), if_neg (by omega), if_neg (by omega), if_neg (by omega), if_neg (by omega), if_neg (by omega), if_neg (by omega), if_neg (by omega), if_neg (by omega), if_neg (by omega), if_neg (by omega)] at q
    exact q.elim
theorem viewC_eq {f g : Nat → Int32} (hf : nI2 H 3 16 f) (hg : nI2 H 53 16 g) : viewC H = H.set 53 (.inl (.int, 16, .inl (fun i => if i < 16 then f i else g i))) := by
  unfold viewC
  unfold nI2 at hf hg
  rw [hf, hg]
  rfl
theorem viewC_53 {f g : Nat → Int32} (hf : nI2 H 3 16 f) (hg : nI2 H 53 16 g) : nI2 (viewC H) 53 16 (fun i => if i < 16 then f i else g i) := by
  rw [viewC_eq hf hg]
  exact List.getElem?_set_self (List.getElem?_eq_some_iff.mp hg).1
theorem wG_ok {G : List sE} (h : sHp ρ G H) : sHp ρ (wG G) (viewC H) := by
  unfold wG
  cases hc : (kShb G 3 .int 16 && kShb G 53 .int 16) with
  | true =>
    rw [Bool.and_eq_true] at hc
    obtain ⟨f, hf⟩ := kSh1 h (by decide) rfl hc.1
    obtain ⟨g, hg⟩ := kSh1 h (by decide) rfl hc.2
    show sHp ρ (sSet G 53 (.inl (.int, 16, (-2147483648, 2147483647), []))) (viewC H)
    rw [sSet_eq, viewC_eq hf hg]
    refine sHp_set ?_ 53 h
    refine ⟨rfl, rfl, Or.inl rfl, fun i _ => ?_⟩
    have hy : ∀ y : Int32, (-2147483648 : Int) ≤ y.toInt ∧ y.toInt ≤ 2147483647 := fun y => ⟨Int32.le_toInt y, by have := Int32.toInt_lt y; omega⟩
    exact hy _
  | false =>
    show sHp ρ (sSet G 53 (.inr (999, []))) (viewC H)
    rw [sSet_eq]
    obtain ⟨h1, h2⟩ := sHp_at.mp h
    have hl : (viewC H).length = H.length := by
      unfold viewC
      split
      · exact List.length_set
      · rfl
    refine sHp_at.mpr ⟨by rw [hl, h1, List.length_set], fun k x y hx hy => ?_⟩
    by_cases e : k = 53
    · subst e
      have hlt : 53 < G.length := by
        have := (List.getElem?_eq_some_iff.mp hx).1
        rw [List.length_set] at this
        exact this
      rw [List.getElem?_set_self hlt] at hx
      cases hx
      exact Or.inl rfl
    · rw [List.getElem?_set_ne (Ne.symm e)] at hx
      rw [viewC_at e] at hy
      exact h2 k x y hx hy
theorem wSH (h : nUP 290 [] H) : ∃ f g, nI2 H 3 16 f ∧ nI2 H 53 16 g := by
  obtain ⟨-, f, g, h1, h2⟩ : ([] : List Int) = [] ∧ ∃ f g, nI2 H 3 16 f ∧ nI2 H 53 16 g := (wUPi (by decide)).mp h
  exact ⟨f, g, h1, h2⟩
theorem wSHh (hg : kGh (kGP (kUP RO)) ρ γ H) (h : kHav γ 290 [] = true) : ∃ f g, nI2 H 3 16 f ∧ nI2 H 53 16 g := by
  obtain ⟨zs, e, h2⟩ := kHav_ok hg h (by decide)
  cases e
  exact wSH ((kUPn (by decide)).mp h2)
theorem wGh_app {a b : List kA} (h1 : kGh (kGP (kUP RO)) ρ a H) (h2 : kGh (kGP (kUP RO)) ρ b H) : kGh (kGP (kUP RO)) ρ (fApp a b) H := by
  rw [fApp_eq]
  intro q hq
  rcases List.mem_append.mp hq with hq | hq
  · exact h1 q hq
  · exact h2 q hq
theorem wGh_one {q : kA} {zs : List Int} (e : sVal ρ q.2 = some zs) (h : kGP (kUP RO) q.1 zs H) : kGh (kGP (kUP RO)) ρ [q] H := fun a ha => by
  rcases List.mem_singleton.mp ha with rfl
  exact ⟨zs, e, h⟩
theorem wGh_nil : kGh (kGP (kUP RO)) ρ [] H := fun a ha => by cases ha
theorem wD1_ok (hM : sMo ρ Γ) {sh : Bool} (hs : sh = true → ∃ f g, nI2 H 3 16 f ∧ nI2 H 53 16 g) {q : kA} (hq : ∃ zs, sVal ρ q.2 = some zs ∧ kGP (kUP RO) q.1 zs H) : kGh (kGP (kUP RO)) ρ (wD1 sh Γ q) (viewC H) := by
  obtain ⟨k, fs⟩ := q
  obtain ⟨zs, e, h⟩ := hq
  simp only at e h
  unfold wD1
  cases c1 : (Nat.ble 173 k && Nat.ble k 289) with
  | true =>
    rw [Bool.and_eq_true] at c1
    have h1 := Nat.le_of_ble_eq_true c1.1
    have h2 := Nat.le_of_ble_eq_true c1.2
    have h3 : nUP k zs H := nGP (by omega) (by omega) h
    have hi := wTw_in h1 h2 h3
    refine wGh_one (q := (k - 120, fs)) e ?_
    show kGP (kUP RO) (k - 120) zs (viewC H)
    generalize hm : k - 120 = m at hi
    have hk : k = m + 120 := by omega
    subst hk
    have h4 : nUP m zs (viewC H) := (wTw hi).mp h3
    unfold kGP
    rw [if_neg (by omega)]
    exact kUPs (by omega) h4
  | false =>
    show kGh (kGP (kUP RO)) ρ (bif Nat.beq k 1003 then _ else _) (viewC H)
    cases c2 : Nat.beq k 1003 with
    | true =>
      have hk := Nat.eq_of_beq_eq_true c2
      subst hk
      have keep : kGP (kUP RO) 1003 zs (viewC H) := wKeep rfl h
      show kGh (kGP (kUP RO)) ρ (bif sh && wIn Γ fs then _ else _) (viewC H)
      cases c3 : (sh && wIn Γ fs) with
      | true =>
        rw [Bool.and_eq_true] at c3
        obtain ⟨f, g, hf, hg⟩ := hs c3.1
        have c4 := c3.2
        unfold wIn at c4
        split at c4
        · rename_i i r
          obtain ⟨zi, zr, rfl, ei, er⟩ := sVal_c e
          match zr, h with
          | [], h => exact (show False from h).elim
          | [v], h =>
            have h' : kEl 3 zi v H := (kGP_el (j := 3)).mp h
            obtain ⟨a0, a1⟩ := kElA h' hf
            obtain ⟨b0, b1, -⟩ := sInR_at hM ei c4
            refine kGh_cons (wGh_one e keep) (wGh_one (q := (1053, i :: r)) e ?_)
            refine (kGP_el (j := 53)).mpr ⟨_, _, _, viewC_53 hf hg, a0, ?_⟩
            show (if zi.toNat < 16 then f zi.toNat else g zi.toNat) = Int32.ofInt v
            rw [if_pos (by omega)]
            exact a1
          | _ :: _ :: _, h => exact (show False from h).elim
        · cases c4
      | false => exact wGh_one (q := (1003, fs)) e keep
    | false =>
      show kGh (kGP (kUP RO)) ρ (bif wKp k then _ else _) (viewC H)
      cases c3 : wKp k with
      | true => exact wGh_one (q := (k, fs)) e (wKeep c3 h)
      | false => exact wGh_nil
theorem wDn_ok (hM : sMo ρ Γ) {sh : Bool} (hs : sh = true → ∃ f g, nI2 H 3 16 f ∧ nI2 H 53 16 g) : ∀ {γ : List kA}, kGh (kGP (kUP RO)) ρ γ H → kGh (kGP (kUP RO)) ρ (wDn sh Γ γ) (viewC H)
  | [], _ => wGh_nil
  | q :: r, h => wGh_app (wD1_ok hM hs (h q List.mem_cons_self)) (wDn_ok hM hs (γ := r) (fun a ha => h a (List.mem_cons_of_mem _ ha)))
theorem wDa_ok (hM : sMo ρ Γ) (h : kGh (kGP (kUP RO)) ρ γ H) : kGh (kGP (kUP RO)) ρ (wDa Γ γ) (viewC H) := by
  unfold wDa
  cases c : kHav γ 290 [] with
  | true =>
    obtain ⟨f, g, hf, hg⟩ := wSHh h c
    refine kGh_cons (kAt1 (zs := [-1]) (by decide) (by simp only [sVal, sEv_C]) ((kUPn (by decide)).mpr (nUP_NEr ⟨by decide, by decide⟩ ⟨f, _, ?_, viewC_53 hf hg, fun i hi _ => ?_⟩))) (wDn_ok hM (fun _ => ⟨f, g, hf, hg⟩) h)
    · exact (viewC_at (by decide)).trans hf
    · have hi : i < 16 := hi
      rw [if_pos hi]
  | false => exact wDn_ok hM (fun e => by cases e) h
theorem wDw_ok {K : kS} {R : eR} (hD : kD (kGP (kUP RO)) ρ K R) : kD (kGP (kUP RO)) ρ (wDw K) (R.1, R.2.1, R.2.2.1, viewC R.2.2.2.1, R.2.2.2.2) := by
  obtain ⟨⟨pc, ls, st, G, c, s, Γ⟩, γ⟩ := K
  obtain ⟨hM, ⟨q1, q2, q3, q4, q5, q6⟩, hg⟩ := hD
  exact ⟨hM, ⟨q1, q2, q3, wG_ok q4, q5, q6⟩, wDa_ok hM hg⟩
theorem wU1_ok {q : kA} (hq : ∃ zs, sVal ρ q.2 = some zs ∧ kGP (kUP RO) q.1 zs (viewC H)) : kGh (kGP (kUP RO)) ρ (wU1 q) H := by
  obtain ⟨k, fs⟩ := q
  obtain ⟨zs, e, h⟩ := hq
  simp only at e h
  unfold wU1
  cases c1 : wBit wPM k with
  | true =>
    have hk := wPM_in c1
    have h3 : nUP k zs (viewC H) := nGP (by omega) (by omega) h
    refine wGh_one (q := (k + 120, fs)) e ?_
    show kGP (kUP RO) (k + 120) zs H
    unfold kGP
    rw [if_neg (by omega)]
    exact kUPs (by omega) ((wTw hk).mpr h3)
  | false =>
    show kGh (kGP (kUP RO)) ρ (bif wKp k then _ else _) H
    cases c3 : wKp k with
    | true => exact wGh_one (q := (k, fs)) e (wKeepr c3 h)
    | false => exact wGh_nil
theorem wUp_ok : ∀ {γ : List kA}, kGh (kGP (kUP RO)) ρ γ (viewC H) → kGh (kGP (kUP RO)) ρ (wUp γ) H
  | [], _ => wGh_nil
  | q :: r, h => wGh_app (wU1_ok (h q List.mem_cons_self)) (wUp_ok (γ := r) (fun a ha => h a (List.mem_cons_of_mem _ ha)))
theorem vw_ok {f : kS → Option kWs} (hf : kRok RO f) : kRok RO (vw f) := by
  intro K ws h ρ R hD
  unfold vw at h
  split at h
  · cases h
  · rename_i ws0 hw
    cases h
    obtain ⟨p, hp, h1, h2⟩ := hf _ _ hw ρ _ (wDw_ok hD)
    exact ⟨_, List.mem_map.mpr ⟨p, hp, rfl⟩, wUp_ok h1, h2⟩
theorem wSHw_ok : kRok RO wSHw := by
  intro K ws h ρ R hD
  unfold wSHw at h
  split at h
  · rename_i fs hfa
    split at h
    · cases h
    · cases h
      obtain ⟨-, zs, -, h2⟩ := nFa_ok hD.2.2 hfa (by decide) (by decide)
      obtain ⟨a, -, f, g, q1, q2, -⟩ := (nUP_75 ⟨by decide, by decide⟩).mp h2
      exact ⟨_, List.mem_singleton.mpr rfl, kAt1 (zs := []) (by decide) rfl ((kUPn (by decide)).mpr ((wUPi (by decide)).mpr (show ([] : List Int) = [] ∧ ∃ f g, nI2 _ 3 16 f ∧ nI2 _ 53 16 g from ⟨rfl, f, g, q1, q2⟩))), fun b hb => by cases hb⟩
  · cases h
theorem wSet_self {j : Nat} {y : eE} (h : H[j]? = some y) : H.set j y = H := by
  apply List.ext_getElem?
  intro i
  by_cases e : j = i
  · subst e
    rw [List.getElem?_set_self (List.getElem?_eq_some_iff.mp h).1, h]
  · rw [List.getElem?_set_ne e]
/-- where both are alike the view is the heap -/
theorem viewC_same (h : nNE 0 (-1) H) : viewC H = H := by
  obtain ⟨f, g, q1, q2, q3⟩ := h
  rw [viewC_eq q1 q2]
  refine wSet_self (q2.trans ?_)
  refine congrArg (fun g => some (Sum.inl (FieldType.int, 16, Sum.inl g))) (funext fun i => ?_)
  split
  · rename_i hi
    exact (q3 i hi (by omega)).symm
  · rfl
theorem wUNP_ok : kRok RO wUNP := by
  intro K ws h ρ R hD
  unfold wUNP at h
  split at h
  · rename_i hc
    cases h
    obtain ⟨zs, e, h2⟩ := kHav_ok hD.2.2 hc (by decide)
    obtain ⟨z, rfl, e1⟩ := sVal_1 e
    rw [sEv_C] at e1
    cases e1
    have hN : nNE 0 (-1) R.2.2.2.1 := nUP_NE ⟨by decide, by decide⟩ ((kUPn (by decide)).mp h2)
    refine ⟨_, List.mem_singleton.mpr rfl, fun a ha => ?_, fun b hb => by cases hb⟩
    obtain ⟨q, hq, hf⟩ := List.mem_filterMap.mp ha
    unfold wUNs at hf
    split at hf
    · rename_i c
      cases hf
      rw [Bool.and_eq_true, decide_eq_true_eq] at c
      obtain ⟨k, fs⟩ := q
      obtain ⟨zs, e, h3⟩ := hD.2.2 _ hq
      have hk : k = 209 := c.1
      subst hk
      have h4 : nUP 89 zs (viewC R.2.2.2.1) := (wTw (k := 89) (by decide)).mp (nGP (k := 209) (by decide) (by decide) h3)
      rw [viewC_same hN] at h4
      refine ⟨zs, e, ?_⟩
      show kGP (kUP RO) 89 zs R.2.2.2.1
      unfold kGP
      rw [if_neg (by decide)]
      exact kUPs (by decide) h4
    · cases hf
  · cases h
theorem wJXi {a b c d e f r : Int} (h : nUP 148 [a, b, c, d, e, f, r] H) : wJX H [a, b, c, d, e, f, r] := by
  obtain ⟨g, g1, g2⟩ := (jUPn ⟨by decide, by decide⟩).mp h
  exact ⟨g, g1, g2⟩
theorem wSeven {zs : List Int} {a b c d e f g : sL} (h : sVal ρ [a, b, c, d, e, f, g] = some zs) : ∃ p q r s t u v, zs = [p, q, r, s, t, u, v] ∧ sEv ρ a = some p ∧ sEv ρ b = some q ∧ sEv ρ c = some r ∧ sEv ρ d = some s ∧ sEv ρ e = some t ∧ sEv ρ f = some u ∧ sEv ρ g = some v := sVal_7n h
theorem wAtV {a b c d e f w v r : sL} {za zb zc zd ze zf zw zv zr : Int} (e1 : sEv ρ a = some za) (e2 : sEv ρ b = some zb) (e3 : sEv ρ c = some zc) (e4 : sEv ρ d = some zd) (e5 : sEv ρ e = some ze) (e6 : sEv ρ f = some zf) (e7 : sEv ρ w = some zw) (e8 : sEv ρ v = some zv) (e9 : sEv ρ r = some zr) (h : wJV H za zb zc zd ze zf zw zv zr) : kGh (kGP (kUP RO)) ρ [(291, [a, b, c, d, e, f, w, v, r])] H :=
  kAt1 (zs := [za, zb, zc, zd, ze, zf, zw, zv, zr]) (by decide) (by simp only [sVal, e1, e2, e3, e4, e5, e6, e7, e8, e9]) ((kUPn (by decide)).mpr ((wUPi (by decide)).mpr (show ∃ a b c d e f g h r, [za, zb, zc, zd, ze, zf, zw, zv, zr] = [a, b, c, d, e, f, g, h, r] ∧ wJV H a b c d e f g h r from ⟨_, _, _, _, _, _, _, _, _, rfl, h⟩)))
theorem wAtB {a b c d e f w v : sL} {za zb zc zd ze zf zw zv : Int} (e1 : sEv ρ a = some za) (e2 : sEv ρ b = some zb) (e3 : sEv ρ c = some zc) (e4 : sEv ρ d = some zd) (e5 : sEv ρ e = some ze) (e6 : sEv ρ f = some zf) (e7 : sEv ρ w = some zw) (e8 : sEv ρ v = some zv) (h : wBD H za zb zc zd ze zf zw zv) : kGh (kGP (kUP RO)) ρ [(292, [a, b, c, d, e, f, w, v])] H :=
  kAt1 (zs := [za, zb, zc, zd, ze, zf, zw, zv]) (by decide) (by simp only [sVal, e1, e2, e3, e4, e5, e6, e7, e8]) ((kUPn (by decide)).mpr ((wUPi (by decide)).mpr (show ∃ a b c d e f g h, [za, zb, zc, zd, ze, zf, zw, zv] = [a, b, c, d, e, f, g, h] ∧ wBD H a b c d e f g h from ⟨_, _, _, _, _, _, _, _, rfl, h⟩)))
theorem wAtX {a b c d e f w v : sL} {za zb zc zd ze zf zw zv : Int} (e1 : sEv ρ a = some za) (e2 : sEv ρ b = some zb) (e3 : sEv ρ c = some zc) (e4 : sEv ρ d = some zd) (e5 : sEv ρ e = some ze) (e6 : sEv ρ f = some zf) (e7 : sEv ρ w = some zw) (e8 : sEv ρ v = some zv) (h : wBX H za zb zc zd ze zf zw zv) : kGh (kGP (kUP RO)) ρ [(293, [a, b, c, d, e, f, w, v])] H :=
  kAt1 (zs := [za, zb, zc, zd, ze, zf, zw, zv]) (by decide) (by simp only [sVal, e1, e2, e3, e4, e5, e6, e7, e8]) ((kUPn (by decide)).mpr ((wUPi (by decide)).mpr (show ∃ a b c d e f g h, [za, zb, zc, zd, ze, zf, zw, zv] = [a, b, c, d, e, f, g, h] ∧ wBX H a b c d e f g h from ⟨_, _, _, _, _, _, _, _, rfl, h⟩)))
theorem wMVc_ok : kRok RO wMVc := by
  intro K ws h ρ R hD
  have hM := hD.1
  unfold wMVc at h
  split at h
  · rename_i w n hl b le wc one bd r hw hn hfa
    split at h
    · rename_i hc
      cases h
      simp only [Bool.and_eq_true, decide_eq_true_eq] at hc
      obtain ⟨c1, c2, c3⟩ := hc
      obtain ⟨-, zs, e, h2⟩ := nFa_ok hD.2.2 hfa (by decide) (by decide)
      obtain ⟨y1, y2, y3, y4, y5, y6, y7, rfl, e1, e2, e3, e4, e5, e6, e7⟩ := wSeven e
      have hX := wJXi ((wTw (k := 148) (by decide)).mp h2)
      obtain ⟨zw, ew⟩ := kLf_ok hD.2.1 hw
      obtain ⟨b0, b1, -⟩ := sInR_at hM ew c3
      obtain ⟨zv, ev, hv⟩ := kFindEl_ok hD.2.2 c2 ew
      obtain ⟨zs2, e', h3⟩ := kHav_ok hD.2.2 c1 (by decide)
      obtain ⟨zw2, rfl, ew2⟩ := sVal_1 e'
      cases ew2.symm.trans ew
      obtain ⟨f, g, q1, q2, q3⟩ : nNE 0 zw R.2.2.2.1 := nUP_NE ⟨by decide, by decide⟩ ((kUPn (by decide)).mp h3)
      obtain ⟨-, hfv⟩ := kElA hv q1
      have hV : viewC R.2.2.2.1 = wAt R.2.2.2.1 g zw zv := by
        rw [viewC_eq q1 q2]
        unfold wAt
        refine congrArg (fun g => R.2.2.2.1.set 53 (Sum.inl (FieldType.int, 16, Sum.inl g))) (funext fun i => ?_)
        unfold upd
        by_cases hi : i = zw.toNat
        · subst hi
          rw [if_pos (by omega), if_pos rfl]
          exact hfv
        · rw [if_neg hi]
          split
          · rename_i h16
            exact q3 i h16 (by omega)
          · rfl
      rw [hV] at hX
      exact ⟨_, List.mem_singleton.mpr rfl, wAtV e1 e2 e3 e4 e5 e6 ew ev e7 ⟨b0, b1, g, q2, hX⟩, fun b hb => by cases hb⟩
    · cases h
  · cases h
theorem wMVr_ok : kRok RO wMVr := by
  intro K ws h ρ R hD
  have hM := hD.1
  unfold wMVr at h
  split at h
  · rename_i w n hl b le wc one bd r hw hn hfa
    split at h
    · rename_i hc
      cases h
      simp only [Bool.and_eq_true, decide_eq_true_eq] at hc
      obtain ⟨c1, c2, c3⟩ := hc
      obtain ⟨-, zs, e, h2⟩ := nFa_ok hD.2.2 hfa (by decide) (by decide)
      obtain ⟨y1, y2, y3, y4, y5, y6, y7, rfl, e1, e2, e3, e4, e5, e6, e7⟩ := wSeven e
      have hX := wJXi h2
      obtain ⟨zw, ew⟩ := kLf_ok hD.2.1 hw
      obtain ⟨b0, b1, -⟩ := sInR_at hM ew c3
      obtain ⟨zv, ev, hv⟩ := kFindEl_ok hD.2.2 c2 ew
      obtain ⟨f0, g, -, q2⟩ := wSHh hD.2.2 c1
      obtain ⟨-, hfv⟩ := kElA hv q2
      have hV : wAt R.2.2.2.1 g zw zv = R.2.2.2.1 := by
        unfold wAt
        refine wSet_self (q2.trans ?_)
        refine congrArg (fun g => some (Sum.inl (FieldType.int, 16, Sum.inl g))) (funext fun i => ?_)
        unfold upd
        split
        · rename_i hi
          subst hi
          exact hfv
        · rfl
      exact ⟨_, List.mem_singleton.mpr rfl, wAtV e1 e2 e3 e4 e5 e6 ew ev e7 ⟨b0, b1, g, q2, by rw [hV]; exact hX⟩, fun b hb => by cases hb⟩
    · cases h
  · cases h
theorem wB_ok {d zl zw zh : Nat} {K : kS} {R : eR} (hD : kD (kGP (kUP RO)) ρ K R) {s : Nat} {le w hl bd : sL} (h : wBq d zl zw zh K = some (s, le, w, hl, bd)) : (∃ z, sEv ρ le = some z) ∧ (∃ z, sEv ρ w = some z) ∧ (∃ z, sEv ρ hl = some z) ∧ ∃ z, sEv ρ bd = some z := by
  have hH := hD.2.1.2.2.2.1
  unfold wBq at h
  split at h
  · rename_i s' hs
    split at h
    · unfold wB0 at h
      split at h
      · rename_i le' w' x1 hl' bd' h1 h2 h3 h4
        cases h
        obtain ⟨-, zs, e, -⟩ := nFa_ok hD.2.2 h3 (by decide) (by decide)
        obtain ⟨z1, z2, rfl, -, e2⟩ := sVal_2 e
        exact ⟨nFf_ok hH h1, nFf_ok hH h2, ⟨z2, e2⟩, nToldE hH h4⟩
      · cases h
    · unfold wB1 at h
      split at h
      · rename_i le' w' hl' bd' h1 h2 h3 h4
        cases h
        exact ⟨nToldE hH h1, nFf_ok hH h2, nFf_ok hH h3, nToldE hH h4⟩
      · cases h
  · cases h
theorem wMBi_ok (d zl zw zh lw ln : Nat) : kRok RO (wMBi d zl zw zh lw ln) := by
  intro K ws h ρ R hD
  have hM := hD.1
  unfold wMBi at h
  split at h
  · rename_i s le nw hl bd ow w n hB how hw hn hno
    split at h
    · rename_i hc
      cases h
      simp only [Bool.and_eq_true, decide_eq_true_eq] at hc
      obtain ⟨rfl, c2, c3⟩ := hc
      obtain ⟨⟨z1, e1⟩, ⟨z2, e2⟩, ⟨z3, e3⟩, ⟨z4, e4⟩⟩ := wB_ok hD hB
      obtain ⟨zo, eo⟩ := kLf_ok hD.2.1 how
      obtain ⟨zw', ew⟩ := kLf_ok hD.2.1 hw
      obtain ⟨b0, b1, -⟩ := sInR_at hM ew c2
      obtain ⟨f0, g, -, q2⟩ := wSHh hD.2.2 c3
      exact ⟨_, List.mem_singleton.mpr rfl, wAtB e3 (jB_ev s) e1 e2 eo e4 ew (sEv_C 9) ⟨b0, b1, ⟨g, q2⟩, fun v h1 h2 => by omega⟩, fun b hb => by cases hb⟩
    · cases h
  · cases h
theorem wFaB (hg : kGh (kGP (kUP RO)) ρ γ H) {p : List sL → Bool} {a b c d e f w v : sL} (h : kFa γ 292 p = some [a, b, c, d, e, f, w, v]) : p [a, b, c, d, e, f, w, v] = true ∧ ∃ za zb zc zd ze zf zw zv, sEv ρ a = some za ∧ sEv ρ b = some zb ∧ sEv ρ c = some zc ∧ sEv ρ d = some zd ∧ sEv ρ e = some ze ∧ sEv ρ f = some zf ∧ sEv ρ w = some zw ∧ sEv ρ v = some zv ∧ wBD H za zb zc zd ze zf zw zv := by
  obtain ⟨h1, zs, e, h2⟩ := nFa_ok hg h (by decide) (by decide)
  obtain ⟨y1, y2, y3, y4, y5, y6, y7, y8, rfl, e1, e2, e3, e4, e5, e6, e7, e8⟩ := jVal_8 e
  obtain ⟨z1, z2, z3, z4, z5, z6, z7, z8, he, hV⟩ : ∃ a b c d e f g h, [y1, y2, y3, y4, y5, y6, y7, y8] = [a, b, c, d, e, f, g, h] ∧ wBD H a b c d e f g h := (wUPi (by decide)).mp h2
  cases he
  exact ⟨h1, _, _, _, _, _, _, _, _, e1, e2, e3, e4, e5, e6, e7, e8, hV⟩
theorem wAns_ok (hM : sMo ρ Γ) (hg : kGh (kGP (kUP RO)) ρ γ H) {a b c d e f w v x : sL} {za zb zc zd ze zf zw zv : Int} (e1 : sEv ρ a = some za) (e2 : sEv ρ b = some zb) (e3 : sEv ρ c = some zc) (e4 : sEv ρ d = some zd) (e5 : sEv ρ e = some ze) (e6 : sEv ρ f = some zf) (e7 : sEv ρ w = some zw) (e8 : sEv ρ v = some zv) (h : wAns Γ γ a b c d e f w v = some x) : ∃ zx, sEv ρ x = some zx ∧ wJV H za zb zc zd (sOp 9 ze 100) zf zw zv zx := by
  unfold wAns at h
  split at h
  · rename_i one hone
    have eo := nDl_ok hM e5 (sEv_C 100) hone
    split at h
    · rename_i a' b' c' d' o' f' w' v' x' hfa
      cases h
      obtain ⟨h1, zs, e, h2⟩ := nFa_ok hg hfa (by decide) (by decide)
      unfold wQv at h1
      simp only [Bool.and_eq_true, decide_eq_true_eq] at h1
      obtain ⟨rfl, rfl, rfl, rfl, rfl, rfl, rfl, rfl⟩ := h1
      obtain ⟨y1, y2, y3, y4, y5, y6, y7, y8, y9, rfl, g1, g2, g3, g4, g5, g6, g7, g8, g9⟩ := jVal_9 e
      cases g1.symm.trans e1
      cases g2.symm.trans e2
      cases g3.symm.trans e3
      cases g4.symm.trans e4
      cases g5.symm.trans eo
      cases g6.symm.trans e6
      cases g7.symm.trans e7
      cases g8.symm.trans e8
      obtain ⟨z1, z2, z3, z4, z5, z6, z7, z8, z9, he, hV⟩ : ∃ a b c d e f g h r, [za, zb, zc, zd, sOp 9 ze 100, zf, zw, zv, y9] = [a, b, c, d, e, f, g, h, r] ∧ wJV H a b c d e f g h r := (wUPi (by decide)).mp h2
      cases he
      exact ⟨_, g9, hV⟩
    · cases h
  · cases h
/-- what the judge says is -2 or a month's number -/
theorem wJV_rng {a b c d e f w v r : Int} (h : wJV H a b c d e f w v r) : r = -2 ∨ 0 ≤ r := by
  obtain ⟨-, -, g, -, g2, -, q⟩ := h
  rcases q with q | q
  · exact Or.inl q.1
  · exact Or.inr q.1
theorem wJV_one {a b c d e f w v r r' : Int} (h : wJV H a b c d e f w v r) (h' : wJV H a b c d e f w v r') : r = r' := by
  obtain ⟨-, -, g, g1, k, k1, q⟩ := h
  obtain ⟨-, -, g', g1', k', k1', q'⟩ := h'
  cases g1.symm.trans g1'
  cases kLg_one k1 k1'
  exact jX_one (N := jN (wAt H g w v) a e b) (fun _ _ _ _ p q => jNone p q) q q'
theorem wMBs_ok (ln : Nat) : kRok RO (wMBs ln) := by
  intro K ws h ρ R hD
  have hM := hD.1
  unfold wMBs at h
  split at h
  · rename_i n hn
    split at h
    · rename_i a b c d e f w v hfa
      split at h
      · rename_i x hx
        split at h
        · rename_i hc
          cases h
          obtain ⟨h1, za, zb, zc, zd, ze, zf, zw, zv, e1, e2, e3, e4, e5, e6, e7, e8, b0, b1, b2, hB⟩ := wFaB hD.2.2 hfa
          unfold wQn at h1
          have h1 := of_decide_eq_true h1
          subst h1
          obtain ⟨zn, en⟩ := kLf_ok hD.2.1 hn
          have en1 := sEv_add en (sEv_C (ρ := ρ) 1)
          cases e8.symm.trans en1
          obtain ⟨zx, ex, hV⟩ := wAns_ok hM hD.2.2 e1 e2 e3 e4 e5 e6 e7 en1 hx
          have hx0 : 0 ≤ zx := by
            have hr := wJV_rng hV
            rcases Bool.or_eq_true_iff.mp hc with hc | hc
            · have := sNN_ok hM (sEv_add ex (sEv_C 1)) hc
              omega
            · have := nNe_ok hM ex (sEv_C (-2)) hc
              omega
          refine ⟨_, List.mem_singleton.mpr rfl, wAtB e1 e2 e3 e4 e5 e6 e7 en ⟨b0, b1, b2, fun v h1 h2 => ?_⟩, fun b hb => by cases hb⟩
          by_cases hv : v = zn + 1
          · subst hv
            exact ⟨zx, hx0, hV⟩
          · exact hB v (by omega) h2
        · cases h
      · cases h
    · cases h
  · cases h
theorem wMBe_ok : kRok RO wMBe := by
  intro K ws h ρ R hD
  have hM := hD.1
  unfold wMBe at h
  split at h
  · rename_i r hr
    split at h
    · rename_i hr2
      split at h
      · rename_i a b c d e f w v hfa
        cases h
        obtain ⟨h1, za, zb, zc, zd, ze, zf, zw, zv, e1, e2, e3, e4, e5, e6, e7, e8, b0, b1, b2, hB⟩ := wFaB hD.2.2 hfa
        unfold wQm at h1
        have d1 := sNN_ok hM (sEv_sub (sEv_C (-1)) e8) h1
        subst hr2
        exact ⟨_, List.mem_singleton.mpr rfl, wAtX e1 e2 e3 e4 e5 e6 e7 (sEv_C (-2)) (Or.inl ⟨rfl, b0, b1, b2, fun v h1 h2 => hB v (by omega) h2⟩), fun b hb => by cases hb⟩
      · cases h
    · split at h
      · rename_i a b c d e f w v hfa
        split at h
        · rename_i x hx
          split at h
          · rename_i hc
            cases h
            simp only [Bool.and_eq_true] at hc
            obtain ⟨c1, c2, c3⟩ := hc
            obtain ⟨h1, za, zb, zc, zd, ze, zf, zw, zv, e1, e2, e3, e4, e5, e6, e7, e8, hB⟩ := wFaB hD.2.2 hfa
            unfold wQn at h1
            have h1 := of_decide_eq_true h1
            subst h1
            obtain ⟨zx, ex, hV⟩ := wAns_ok hM hD.2.2 e1 e2 e3 e4 e5 e6 e7 e8 hx
            have d1 := sNN_ok hM (sEv_sub (sEv_C (-1)) ex) c1
            have d2 := sNN_ok hM e8 c2
            have d3 := sNN_ok hM (sEv_sub (sEv_C 9) e8) c3
            have hz : zx = -2 := by
              have hr := wJV_rng hV
              omega
            subst hz
            exact ⟨_, List.mem_singleton.mpr rfl, wAtX e1 e2 e3 e4 e5 e6 e7 e8 (Or.inr ⟨d2, by omega, hB, hV⟩), fun b hb => by cases hb⟩
          · cases h
        · cases h
      · cases h
  · cases h
theorem wBX_one {a b c d e f w r r' : Int} (h : wBX H a b c d e f w r) (h' : wBX H a b c d e f w r') : r = r' := by
  have key : ∀ {m n : Int}, n < m → 0 ≤ m → m ≤ 9 → wBD H a b c d e f w n → wJV H a b c d (sOp 9 e 100) f w m (-2) → False := fun {m n} h1 h0 h2 hB hV => by
    obtain ⟨-, -, -, hB⟩ := hB
    obtain ⟨r, r1, r2⟩ := hB m h1 h2
    have := wJV_one r2 hV
    omega
  rcases h with ⟨rfl, p1⟩ | ⟨p1, p2, p3, p4⟩
  · rcases h' with ⟨rfl, q1⟩ | ⟨q1, q2, q3, q4⟩
    · rfl
    · exact (key (by omega) q1 q2 p1 q4).elim
  · rcases h' with ⟨rfl, q1⟩ | ⟨q1, q2, q3, q4⟩
    · exact (key (by omega) p1 p2 q1 p4).elim
    · by_cases hlt : r < r'
      · exact (key hlt q1 q2 p3 q4).elim
      · by_cases hgt : r' < r
        · exact (key hgt p1 p2 q3 p4).elim
        · omega
theorem wFun {zs : List Int} {r r' : Int} (h : nUP 293 (zs ++ [r]) H) (h' : nUP 293 (zs ++ [r']) H) : r = r' := by
  obtain ⟨a, b, c, d, e, f, g, i, p1, p2⟩ : ∃ a b c d e f g h, zs ++ [r] = [a, b, c, d, e, f, g, h] ∧ wBX H a b c d e f g h := (wUPi (by decide)).mp h
  obtain ⟨a', b', c', d', e', f', g', i', q1, q2⟩ : ∃ a b c d e f g h, zs ++ [r'] = [a, b, c, d, e, f, g, h] ∧ wBX H a b c d e f g h := (wUPi (by decide)).mp h'
  obtain ⟨h1, h2⟩ := List.append_inj' (show zs ++ [r] = [a, b, c, d, e, f, g] ++ [i] from p1) rfl
  obtain ⟨h3, h4⟩ := List.append_inj' (show zs ++ [r'] = [a', b', c', d', e', f', g'] ++ [i'] from q1) rfl
  cases h2
  cases h4
  subst h1
  cases h3
  exact wBX_one p2 q2
theorem wSame_ok {kd : Nat} (hk : kd = 293) {K : kS} {L : List kS} (h : nSame kd K = some L) {ρ : List Int} {R : eR} (hD : kD (kGP (kUP RO)) ρ K R) : ∃ K' ∈ L, ∃ ρ', ρ <+: ρ' ∧ kD (kGP (kUP RO)) ρ' K' R := by
  subst hk
  have same : ∀ K0 : kS, K0 = K → some [K0] = some L → ∃ K' ∈ L, ∃ ρ', ρ <+: ρ' ∧ kD (kGP (kUP RO)) ρ' K' R := fun K0 e g => by
    cases g
    subst e
    exact ⟨_, List.mem_singleton.mpr rfl, ρ, List.prefix_refl _, hD⟩
  unfold nSame at h
  split at h
  · rename_i pc ls r st G c s Γ γ
    split at h
    · rename_i fs hfa
      split at h
      · rename_i q hq
        split at h
        · rename_i x hx
          split at h
          · exact same _ rfl h
          · cases h
            obtain ⟨p1, zs, e1, e2⟩ := nFa_ok hD.2.2 hfa (by decide) (by decide)
            have p1 := of_decide_eq_true p1
            obtain ⟨ys, hys⟩ := List.getLast?_eq_some_iff.mp hq
            have hqm : q ∈ γ.filter (fun q => decide (q.1 = 293) && decide (q.2.dropLast = fs.dropLast)) := by rw [hys]; simp
            obtain ⟨hqn, hc⟩ := List.mem_filter.mp hqm
            clear hqm
            simp only [Bool.and_eq_true, decide_eq_true_eq] at hc
            obtain ⟨k, gs⟩ := q
            simp only at hc hx
            obtain ⟨rfl, hc⟩ := hc
            obtain ⟨ys2, e3, e4⟩ := hD.2.2 _ hqn
            have e4 := nGP (show 53 ≤ 293 by decide) (show 293 < 1000 by decide) e4
            simp only at e3
            rw [nLst p1] at e1
            rw [nLst hx, hc] at e3
            obtain ⟨us, vs, rfl, f1, f2⟩ := sVal_appR e1
            obtain ⟨us', vs', rfl, f3, f4⟩ := sVal_appR e3
            rw [f1] at f3
            cases f3
            obtain ⟨zr, rfl, er⟩ := sVal_1 f2
            obtain ⟨zx, rfl, ex⟩ := sVal_1 f4
            have hz := wFun e2 e4
            subst hz
            exact aTopd hD er ex
        · exact same _ rfl h
      · exact same _ rfl h
    · exact same _ rfl h
  · exact same _ rfl h
end WMAY
end
