/-! The readers' steps, on what is told. -/
noncomputable section
def nTc (d : Nat) : Nat := if d = 0 then 19 else 64
def nWb (Γ : sG) (d : Nat) (v : sL) : Bool := sWf Γ v (if d = 0 then 0 else -128) (if d = 0 then 255 else 127)
/-- the letter at a place: none behind the end -/
def nLe (Γ : sG) (γ : List kA) (d : Nat) (ln a : sL) : Option (Option sL) := if sNN Γ (sSub a ln) = true then some none else match kFindEl γ (nTc d) a with
  | some v => if (nWb Γ d v && (sNN Γ a && sNN Γ (sSub (sSub ln a) (sC 1)))) = true then some (some v) else none
  | none => none
/-- surely not a number -/
def nNt (Γ : sG) (v : sL) (c : Int) : Bool := (match sIv Γ.1 v with
  | some i => decide (c < i.1 ∨ i.2 < c)
  | none => false) || Γ.2.2.1.any (fun f => decide (f = sSub v (sC c)) || decide (f = sMul (-1) (sSub v (sC c))))
theorem nNt_ok {ρ : List Int} {Γ : sG} {v : sL} {z c : Int} (hM : sMo ρ Γ) (hv : sEv ρ v = some z) (h : nNt Γ v c = true) : z ≠ c := by
  unfold nNt at h
  rcases Bool.or_eq_true_iff.mp h with h | h
  · split at h
    · rename_i i hi
      have := sIv_ok hM.1 hv hi
      have := of_decide_eq_true h
      omega
    · cases h
  · obtain ⟨f, hf, h⟩ := List.any_eq_true.mp h
    obtain ⟨y, e1, e2⟩ := hM.2.2.1 f hf
    have e3 := sEv_sub hv (sEv_C c)
    rcases Bool.or_eq_true_iff.mp h with h | h
    · have h := of_decide_eq_true h
      subst h
      cases e1.symm.trans e3
      omega
    · have h := of_decide_eq_true h
      subst h
      cases e1.symm.trans (sEv_mul (-1) e3)
      omega
def nIs (Γ : sG) (l : Option sL) : Option Int := match l with
  | some v => sK Γ.1 v
  | none => none
def nNo (Γ : sG) (l : Option sL) (c : Int) : Bool := match l with
  | some v => nNt Γ v c
  | none => true
def nDi (Γ : sG) (l : Option sL) : Bool := match l with
  | some v => sWi Γ.1 v 48 57
  | none => false
def nNd (Γ : sG) (l : Option sL) : Bool := match l with
  | some v => (match sIv Γ.1 v with
    | some i => decide (i.2 < 48 ∨ 57 < i.1)
    | none => false)
  | none => true
section NRDR
variable {RO : List (Nat × (Nat → Int32))} {ρ : List Int} {Γ : sG} {γ : List kA} {H : List eE} {d : Nat}
theorem nB8 {v : Int} (h0 : 0 ≤ v) (h1 : v ≤ 255) : (Int32.ofInt v).toInt8.toInt = if v < 128 then v else v - 256 := by
  obtain ⟨k, rfl⟩ := Int.eq_ofNat_of_zero_le h0
  have hk : k < 256 := by omega
  rw [Int32.toInt8_ofInt, Int8.toInt_ofInt]
  rw [Int.bmod_def]
  simp only [show (Int8.size : Nat) = 256 from rfl]
  split <;> split <;> omega
/-- what the letter is, by its number -/
def nLv1 (v : Int) : Int := if v < 128 then v else v - 256
theorem nLe_ok (hM : sMo ρ Γ) (hg : kGh (kGP (kUP RO)) ρ γ H) {ln a : sL} {zl za : Int} (el : sEv ρ ln = some zl) (ea : sEv ρ a = some za) {l : Option sL} (h : nLe Γ γ d ln a = some l) {B : Nat → Int32} (hB : nTp d B H) :
    (l = none ∧ nLt d B zl za = -1) ∨ ∃ v z, l = some v ∧ sEv ρ v = some z ∧ nLt d B zl za = nLv1 z ∧ za < zl := by
  unfold nLe at h
  split at h
  · rename_i hc
    cases h
    have := sNN_ok hM (sEv_sub ea el) hc
    refine Or.inl ⟨rfl, ?_⟩
    unfold nLt nLx nLm
    split <;> (dsimp only; rw [if_neg (by omega)])
  · split at h
    · rename_i v hv
      split at h
      · rename_i hc
        cases h
        simp only [Bool.and_eq_true] at hc
        obtain ⟨c1, c2, c3⟩ := hc
        have d2 := sNN_ok hM ea c2
        have d3 := sNN_ok hM (sEv_sub (sEv_sub el ea) (sEv_C 1)) c3
        obtain ⟨y, e1, b1, b2⟩ := sWf_has hM (show sWf Γ v (if d = 0 then 0 else -128) (if d = 0 then 255 else 127) = true from c1)
        obtain ⟨z, e2, hk⟩ := kFindEl_ok hg hv ea
        cases e1.symm.trans e2
        refine Or.inr ⟨v, y, rfl, e1, ?_, by omega⟩
        unfold nTp at hB
        unfold nTc at hk
        unfold nLt nLx nLm nLv1
        by_cases hd : d = 0
        · rw [if_pos hd] at hB hk ⊢
          rw [if_pos hd] at b1 b2
          rw [if_pos ⟨by omega, by omega⟩, (kElA hk hB).2]
          exact nB8 b1 b2
        · rw [if_neg hd] at hB hk ⊢
          rw [if_neg hd] at b1 b2
          rw [if_pos ⟨by omega, by omega⟩, (kElA hk hB).2, sTo32 (by omega) (by omega), if_pos (by omega)]
      · cases h
    · cases h
/-- the letter is one, is none of those, is a digit, is none -/
theorem nIs_ok (hM : sMo ρ Γ) {l : Option sL} {c L : Int} (hL : (l = none ∧ L = -1) ∨ ∃ v z, l = some v ∧ sEv ρ v = some z ∧ L = nLv1 z) (h : nIs Γ l = some c) (hc : c ≤ 127) : L = c := by
  rcases hL with ⟨rfl, -⟩ | ⟨v, z, rfl, e, rfl⟩
  · cases h
  · have := sK_ok hM.1 e h
    subst this
    unfold nLv1
    rw [if_pos (by omega)]
theorem nNo_ok (hM : sMo ρ Γ) {l : Option sL} {c L : Int} (hL : (l = none ∧ L = -1) ∨ ∃ v z, l = some v ∧ sEv ρ v = some z ∧ L = nLv1 z) (h : nNo Γ l c = true) (hc : 0 ≤ c ∧ c ≤ 127) (hz : ∀ v z, l = some v → sEv ρ v = some z → z ≤ 255) : L ≠ c := by
  rcases hL with ⟨rfl, rfl⟩ | ⟨v, z, rfl, e, rfl⟩
  · omega
  · have h1 := nNt_ok hM e h
    have h2 := hz v z rfl e
    unfold nLv1
    split <;> omega
theorem nDi_ok (hM : sMo ρ Γ) {l : Option sL} {L : Int} (hL : (l = none ∧ L = -1) ∨ ∃ v z, l = some v ∧ sEv ρ v = some z ∧ L = nLv1 z) (h : nDi Γ l = true) : nDg L = true := by
  rcases hL with ⟨rfl, -⟩ | ⟨v, z, rfl, e, rfl⟩
  · cases h
  · have := sWi_ok hM.1 e h
    unfold nDg nLv1
    rw [if_pos (by omega)]
    exact decide_eq_true this
theorem nNd_ok (hM : sMo ρ Γ) {l : Option sL} {L : Int} (hL : (l = none ∧ L = -1) ∨ ∃ v z, l = some v ∧ sEv ρ v = some z ∧ L = nLv1 z) (h : nNd Γ l = true) (hz : ∀ v z, l = some v → sEv ρ v = some z → z ≤ 255) : nDg L = false := by
  unfold nDg
  rcases hL with ⟨rfl, rfl⟩ | ⟨v, z, rfl, e, rfl⟩
  · decide
  · have h2 := hz v z rfl e
    simp only [nNd] at h
    split at h
    · rename_i i hi
      have := sIv_ok hM.1 e hi
      have := of_decide_eq_true h
      unfold nLv1
      split <;> exact decide_eq_false (by omega)
    · cases h
/-- all about a letter that was looked up -/
theorem nLe_all (hM : sMo ρ Γ) (hg : kGh (kGP (kUP RO)) ρ γ H) {ln a : sL} {zl za : Int} (el : sEv ρ ln = some zl) (ea : sEv ρ a = some za) {l : Option sL} (h : nLe Γ γ d ln a = some l) {B : Nat → Int32} (hB : nTp d B H) :
    (∀ c, nIs Γ l = some c → c ≤ 127 → nLt d B zl za = c) ∧ (∀ c, nNo Γ l c = true → 0 ≤ c ∧ c ≤ 127 → nLt d B zl za ≠ c) ∧ (nDi Γ l = true → nDg (nLt d B zl za) = true ∧ za < zl) ∧ (nNd Γ l = true → nDg (nLt d B zl za) = false) := by
  have h0 := nLe_ok hM hg el ea h hB
  have h1 : (l = none ∧ nLt d B zl za = -1) ∨ ∃ v z, l = some v ∧ sEv ρ v = some z ∧ nLt d B zl za = nLv1 z := by
    rcases h0 with h0 | ⟨v, z, a1, a2, a3, -⟩
    · exact Or.inl h0
    · exact Or.inr ⟨v, z, a1, a2, a3⟩
  have hz : ∀ v z, l = some v → sEv ρ v = some z → z ≤ 255 := fun v z hl e => by
    subst hl
    unfold nLe at h
    split at h
    · cases h
    · split at h
      · split at h
        · rename_i hc
          cases h
          simp only [Bool.and_eq_true] at hc
          obtain ⟨y, e1, b1, b2⟩ := sWf_has hM (show sWf Γ v (if d = 0 then 0 else -128) (if d = 0 then 255 else 127) = true from hc.1)
          cases e1.symm.trans e
          split at b2 <;> omega
        · cases h
      · cases h
  exact ⟨fun c q r => nIs_ok hM h1 q r, fun c q r => nNo_ok hM h1 q r hz, fun q => ⟨nDi_ok hM h1 q, by
    rcases h0 with ⟨rfl, -⟩ | ⟨v, z, -, -, -, h9⟩
    · cases q
    · exact h9⟩, fun q => nNd_ok hM h1 q hz⟩
end NRDR
/-- the reader's state, of a mode -/
def nGs (d : Nat) (md : Int) (γ : List kA) : Option (List sL) := kFa γ (53 + d) (fun fs => match fs with
  | _ :: m :: _ => decide (m = sC md)
  | _ => false)
/-- what is on top of what is to be done -/
def nTo (d : Nat) (γ : List kA) (ln k : sL) (p : Int → Bool) : Option (Int × sL × sL) := match kFa γ (55 + d) (fun fs => match fs with
    | [l, x, t, _, _] => decide (l = ln) && (decide (x = k) && (decide (t.2 = []) && p t.1))
    | _ => false) with
  | some [_, _, t, o, k2] => some (t.1, o, k2)
  | _ => none
def nGk (d : Nat) (ln : sL) (md : Int) (o a k : sL) (r : List sL) : kA := (53 + d, ln :: sC md :: o :: a :: k :: r)
/-- to go on with something on top -/
def nPush (d : Nat) (Γ : sG) (ln : sL) (md : Int) (o a k : sL) (r : List sL) (t : Int) (fo : sL) : nWs := [(some (0, 3000), [nGk d ln md o a (sX Γ.1.length) r, (55 + d, [ln, sX Γ.1.length, sC t, fo, k])], [])]
def nOne (as_ : List kA) : nWs := [(none, as_, [])]
/-- the number laid is that one -/
def nEq (Γ : sG) (v e : sL) : Bool := decide (v = e) || (decide (e.2 = []) && decide (sK Γ.1 v = some e.1))
/-- a step stands behind those laid -/
def nEm (Γ : sG) (γ : List kA) (d : Nat) (z : sL) (a : Int) (w : sL) : Bool := sNN Γ z &&
  (if d = 0 then (match kFindEl γ 20 z with
    | some v => nEq Γ v (if a = 1 then w else sC (nEn1 (a, w.1)))
    | none => false)
  else (match kFindEl γ 65 (sAdd z (sC 130)), kFindEl γ 66 (sAdd z (sC 130)) with
    | some v, some u => nEq Γ v (sC a) && nEq Γ u w
    | _, _ => false))
section NRUL
variable {RO : List (Nat × (Nat → Int32))} {ρ : List Int} {Γ : sG} {γ : List kA} {H : List eE} {d : Nat}
theorem sVal_5p {f1 f2 f3 f4 f5 : sL} {r : List sL} {zs : List Int} (h : sVal ρ (f1 :: f2 :: f3 :: f4 :: f5 :: r) = some zs) : ∃ z1 z2 z3 z4 z5 zr, zs = z1 :: z2 :: z3 :: z4 :: z5 :: zr ∧ sEv ρ f1 = some z1 ∧ sEv ρ f2 = some z2 ∧ sEv ρ f3 = some z3 ∧ sEv ρ f4 = some z4 ∧ sEv ρ f5 = some z5 ∧ sVal ρ r = some zr := by
  obtain ⟨p, _, rfl, h1, h⟩ := sVal_cons h
  obtain ⟨q, _, rfl, h2, h⟩ := sVal_cons h
  obtain ⟨s, _, rfl, h3, h⟩ := sVal_cons h
  obtain ⟨t, _, rfl, h4, h⟩ := sVal_cons h
  obtain ⟨u, r', rfl, h5, h⟩ := sVal_cons h
  exact ⟨p, q, s, t, u, r', rfl, h1, h2, h3, h4, h5, h⟩
theorem nUP_G {d : Nat} (hd : d < 2) {zs : List Int} {H : List eE} : nUP (53 + d) zs H ↔ nG d zs H := by
  match d, hd with
  | 0, _ => exact Iff.rfl
  | 1, _ => exact Iff.rfl
theorem nUP_U {d : Nat} (hd : d < 2) {zs : List Int} {H : List eE} : nUP (55 + d) zs H ↔ nU d zs H := by
  match d, hd with
  | 0, _ => exact Iff.rfl
  | 1, _ => exact Iff.rfl
theorem nUP_F {d : Nat} (hd : d < 2) {zs : List Int} {H : List eE} : nUP (57 + d) zs H ↔ nF d zs H := by
  match d, hd with
  | 0, _ => exact Iff.rfl
  | 1, _ => exact Iff.rfl
theorem nFa_ok (hg : kGh (kGP (kUP RO)) ρ γ H) {k : Nat} {p : List sL → Bool} {fs : List sL} (h : kFa γ k p = some fs) (h1 : 53 ≤ k) (h2 : k < 1000) : p fs = true ∧ ∃ zs, sVal ρ fs = some zs ∧ nUP k zs H := by
  obtain ⟨a, zs, b, c⟩ := kFa_ok hg h h2
  exact ⟨a, zs, b, (kUPn h1).mp c⟩
theorem nAt1 {k : Nat} {fs : List sL} {zs : List Int} (h0 : 53 ≤ k) (hk : k < 1000) (h1 : sVal ρ fs = some zs) (h2 : nUP k zs H) : ∃ zs, sVal ρ fs = some zs ∧ kGP (kUP RO) k zs H := by
  refine ⟨zs, h1, ?_⟩
  unfold kGP
  rw [if_neg (by omega)]
  exact kUPs h0 h2
theorem nGs_ok (hg : kGh (kGP (kUP RO)) ρ γ H) (hd : d < 2) {md : Int} {ln m o a k : sL} {r : List sL} (h : nGs d md γ = some (ln :: m :: o :: a :: k :: r)) :
    ∃ zl zo za zk zr, sEv ρ ln = some zl ∧ sEv ρ o = some zo ∧ sEv ρ a = some za ∧ sEv ρ k = some zk ∧ sVal ρ r = some zr ∧ nG d (zl :: md :: zo :: za :: zk :: zr) H := by
  obtain ⟨h1, zs, h2, h3⟩ := nFa_ok hg h (by omega) (by omega)
  have h1 := of_decide_eq_true h1
  subst h1
  obtain ⟨z1, z2, z3, z4, z5, zr, rfl, e1, e2, e3, e4, e5, er⟩ := sVal_5p h2
  rw [sEv_C] at e2
  cases e2
  exact ⟨z1, z3, z4, z5, zr, e1, e3, e4, e5, er, (nUP_G hd).mp h3⟩
theorem nTo_ok (hg : kGh (kGP (kUP RO)) ρ γ H) (hd : d < 2) {ln k : sL} {zl zk : Int} (el : sEv ρ ln = some zl) (ek : sEv ρ k = some zk) {p : Int → Bool} {t : Int} {o k2 : sL} (h : nTo d γ ln k p = some (t, o, k2)) :
    p t = true ∧ ∃ zo z2, sEv ρ o = some zo ∧ sEv ρ k2 = some z2 ∧ nU d [zl, zk, t, zo, z2] H := by
  unfold nTo at h
  split at h
  · rename_i l x tt oo kk hfa
    cases h
    obtain ⟨h1, zs, h2, h3⟩ := nFa_ok hg hfa (by omega) (by omega)
    simp only [Bool.and_eq_true, decide_eq_true_eq] at h1
    obtain ⟨rfl, rfl, ht, hp⟩ := h1
    obtain ⟨z1, z2, z3, z4, z5, rfl, e1, e2, e3, e4, e5⟩ := sVal_5 h2
    cases e1.symm.trans el
    cases e2.symm.trans ek
    obtain ⟨t1, t2⟩ := tt
    simp only at ht hp
    subst ht
    have := sEv_C (ρ := ρ) t1
    cases e3.symm.trans this
    exact ⟨hp, z4, z5, e4, e5, (nUP_U hd).mp h3⟩
  · cases h
theorem nEq_ok (hM : sMo ρ Γ) {v e : sL} {y z : Int} (hv : sEv ρ v = some y) (he : sEv ρ e = some z) (h : nEq Γ v e = true) : y = z := by
  unfold nEq at h
  rcases Bool.or_eq_true_iff.mp h with h | h
  · have h := of_decide_eq_true h
    subst h
    exact Option.some.inj (hv.symm.trans he)
  · simp only [Bool.and_eq_true, decide_eq_true_eq] at h
    have h1 := sK_ok hM.1 hv h.2
    obtain ⟨e1, e2⟩ := e
    simp only at h
    rw [h.1] at he
    cases he.symm.trans (sEv_C (ρ := ρ) e1)
    exact h1
theorem nEm_ok (hM : sMo ρ Γ) (hg : kGh (kGP (kUP RO)) ρ γ H) {z w : sL} {a zz zw : Int} (ez : sEv ρ z = some zz) (ew : sEv ρ w = some zw) (hw : a ≠ 1 → w.2 = []) (hH : d = 0 → ∃ C, H[20]? = some (.inl (.int, 256, .inl C))) (hH1 : d ≠ 0 → ∃ A W, kAW A W H) (h : nEm Γ γ d z a w = true) : nNx d zz (a, zw) H := by
  intro h0
  unfold nEm at h
  simp only [Bool.and_eq_true] at h
  obtain ⟨-, h⟩ := h
  have hw1 : a ≠ 1 → zw = w.1 := fun ha => by
    obtain ⟨w1, w2⟩ := w
    have := hw ha
    simp only at this
    subst this
    exact Option.some.inj (ew.symm.trans (sEv_C (ρ := ρ) w1))
  split
  · rename_i hd
    rw [if_pos hd] at h
    obtain ⟨C, hC⟩ := hH hd
    split at h
    · rename_i v hv
      obtain ⟨y, e1, hk⟩ := kFindEl_ok hg hv ez
      refine ⟨C, hC, ?_⟩
      rw [(kElA hk hC).2]
      congr 1
      by_cases ha : a = 1
      · rw [if_pos ha] at h
        rw [nEq_ok hM e1 ew h]
        unfold nEn1
        rw [if_pos ha]
      · rw [if_neg ha] at h
        rw [nEq_ok hM e1 (sEv_C _) h, hw1 ha]
    · cases h
  · rename_i hd
    rw [if_neg hd] at h
    obtain ⟨A, W, hA, hW⟩ := hH1 hd
    split at h
    · rename_i v u hv hu
      simp only [Bool.and_eq_true] at h
      have ez2 := sEv_add ez (sEv_C (ρ := ρ) 130)
      obtain ⟨y, e1, hk⟩ := kFindEl_ok hg hv ez2
      obtain ⟨x, e2, hl⟩ := kFindEl_ok hg hu ez2
      refine ⟨A, W, ⟨hA, hW⟩, ?_, ?_⟩
      · rw [show 130 + zz.toNat = (zz + 130).toNat by omega, (kElA hk hA).2, nEq_ok hM e1 (sEv_C _) h.1]
      · rw [show 130 + zz.toNat = (zz + 130).toNat by omega, (kElA hl hW).2, nEq_ok hM e2 ew h.2]
    · cases h
end NRUL
end
