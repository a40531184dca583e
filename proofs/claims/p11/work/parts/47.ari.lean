/-! K: arithmetic, numbers that wrap. -/
noncomputable section
section KARI
variable {ρ : List Int} {S : sR} {R : eR} {L : List sR} {nx a b mL : Nat}
def kN32 (x : sL) (Γ : sG) : sL × sG := if sI32 Γ.1 x = true then (x, Γ) else if sWf Γ x (-2147483648) 2147483647 = true then (sX Γ.1.length, (Γ.1 ++ [(-2147483648, 2147483647)], sSub x (sX Γ.1.length) :: sSub (sX Γ.1.length) x :: Γ.2.1, Γ.2.2)) else sNew Γ 304 x (sC 0) (-2147483648) 2147483647
def kN64 (x : sL) (Γ : sG) : sL × sG := if sI64 Γ.1 x = true then (x, Γ) else (sX Γ.1.length, sFresh Γ (-9223372036854775808, 9223372036854775807))
theorem kN32_ok {x : sL} {Γ : sG} {z : Int} (hM : sMo ρ Γ) (hx : sEv ρ x = some z) : ∃ ρ' z', ρ <+: ρ' ∧ sMo ρ' (kN32 x Γ).2 ∧ sEv ρ' (kN32 x Γ).1 = some z' ∧ Int32.ofInt z' = Int32.ofInt z := by
  unfold kN32
  split
  · exact ⟨ρ, z, List.prefix_refl _, hM, hx, rfl⟩
  split
  · rename_i hw
    obtain ⟨z', hz', h1, h2⟩ := sWf_has hM hw
    cases hx.symm.trans hz'
    obtain ⟨m, h3⟩ := sFresh_ok (b := (-2147483648, 2147483647)) hM h1 h2
    have hpre : ρ <+: ρ ++ [z] := ⟨_, rfl⟩
    have hx' := sEv_mono hpre hx
    refine ⟨_, z, hpre, ⟨m.1, fun f hf => ?_, m.2.2⟩, h3, rfl⟩
    rcases List.mem_cons.mp hf with rfl | hf
    · exact ⟨_, sEv_sub hx' h3, by omega⟩
    rcases List.mem_cons.mp hf with rfl | hf
    · exact ⟨_, sEv_sub h3 hx', by omega⟩
    · exact m.2.1 f hf
  · have hb := sRng32 (Int32.ofInt z)
    have e : sOp 304 z 0 = (Int32.ofInt z).toInt := by
      unfold sOp
      rw [if_neg (by decide), if_neg (by decide), if_neg (by decide), if_neg (by decide), if_pos rfl]
    obtain ⟨ρ', p1, p2, p3⟩ := sNew_ok (op := 304) (lo := -2147483648) (hi := 2147483647) hM hx (sEv_C (ρ := ρ) 0) (by rw [e]; exact hb.1) (by rw [e]; exact hb.2)
    exact ⟨ρ', _, p1, p2, p3, by rw [e, Int32.ofInt_toInt]⟩
theorem kN64_ok {x : sL} {Γ : sG} {z : Int} (hM : sMo ρ Γ) (hx : sEv ρ x = some z) : ∃ ρ' z', ρ <+: ρ' ∧ sMo ρ' (kN64 x Γ).2 ∧ sEv ρ' (kN64 x Γ).1 = some z' ∧ Int64.ofInt z' = Int64.ofInt z := by
  unfold kN64
  split
  · exact ⟨ρ, z, List.prefix_refl _, hM, hx, rfl⟩
  · have hb := sRng64 (Int64.ofInt z)
    obtain ⟨m, h1⟩ := sFresh_ok (b := (-9223372036854775808, 9223372036854775807)) hM hb.1 hb.2
    exact ⟨_, _, ⟨_, rfl⟩, m, h1, Int64.ofInt_toInt _⟩
def kNormT : sR → sR
  | (pc, ls, (0, x) :: st, G, c, s, Γ) => (pc, ls, (0, (kN32 x Γ).1) :: st, G, c, s, (kN32 x Γ).2)
  | (pc, ls, (1, x) :: st, G, c, s, Γ) => (pc, ls, (1, (kN64 x Γ).1) :: st, G, c, s, (kN64 x Γ).2)
  | S => S
def kNormL : sR → sR
  | (pc, (i, (0, x)) :: ls, st, G, c, s, Γ) => (pc, (i, (0, (kN32 x Γ).1)) :: ls, st, G, c, s, (kN32 x Γ).2)
  | S => S
theorem kNormT_ok (hM : sMo ρ S.2.2.2.2.2.2) (hD : sD ρ S R) : ∃ ρ', ρ <+: ρ' ∧ sMo ρ' (kNormT S).2.2.2.2.2.2 ∧ sD ρ' (kNormT S) R := by
  unfold kNormT
  split
  · rename_i pc ls x st G c s Γ
    obtain ⟨h1, hL, hV, hH, h2⟩ := hD
    obtain ⟨w, r, e, hw, hr⟩ := sVs_cons hV
    obtain ⟨z, e1, e2⟩ := sVr_int hw
    obtain ⟨ρ', z', p1, p2, p3, p4⟩ := kN32_ok hM e1
    refine ⟨ρ', p1, p2, h1, hL.mono p1, ?_, hH.mono p1, h2⟩
    rw [e]
    exact ⟨⟨z', p3, by rw [e2, p4]⟩, hr.mono p1⟩
  · rename_i pc ls x st G c s Γ
    obtain ⟨h1, hL, hV, hH, h2⟩ := hD
    obtain ⟨w, r, e, hw, hr⟩ := sVs_cons hV
    obtain ⟨z, e1, e2⟩ := sVr_long hw
    obtain ⟨ρ', z', p1, p2, p3, p4⟩ := kN64_ok hM e1
    refine ⟨ρ', p1, p2, h1, hL.mono p1, ?_, hH.mono p1, h2⟩
    rw [e]
    exact ⟨⟨z', p3, by rw [e2, p4]⟩, hr.mono p1⟩
  · exact ⟨ρ, List.prefix_refl _, hM, hD⟩
theorem kNormL_ok (hM : sMo ρ S.2.2.2.2.2.2) (hD : sD ρ S R) : ∃ ρ', ρ <+: ρ' ∧ sMo ρ' (kNormL S).2.2.2.2.2.2 ∧ sD ρ' (kNormL S) R := by
  unfold kNormL
  split
  · rename_i pc i x ls st G c s Γ
    obtain ⟨h1, hL, hV, hH, h2⟩ := hD
    obtain ⟨w, hw0, hw⟩ := hL i (0, x) (sGetL_hd _ _ _)
    obtain ⟨z, e1, e2⟩ := sVr_int hw
    obtain ⟨ρ', z', p1, p2, p3, p4⟩ := kN32_ok hM e1
    refine ⟨ρ', p1, p2, h1, fun j v hj => ?_, hV.mono p1, hH.mono p1, h2⟩
    by_cases hij : i = j
    · subst hij
      rw [sGetL_hd] at hj
      cases hj
      exact ⟨w, hw0, z', p3, by rw [e2, p4]⟩
    · rw [sGetL_tl hij] at hj
      exact hL.mono p1 j v (by rw [sGetL_tl hij]; exact hj)
  · exact ⟨ρ, List.prefix_refl _, hM, hD⟩
theorem kNorm_all {f : sR → sR} (hf : ∀ (ρ : List Int) (S : sR) (R : eR), sMo ρ S.2.2.2.2.2.2 → sD ρ S R → ∃ ρ', ρ <+: ρ' ∧ sMo ρ' (f S).2.2.2.2.2.2 ∧ sD ρ' (f S) R) {o : Option eR} (h : sOK ρ L o) : sOK ρ (L.map f) o := by
  obtain ⟨S', hS, ρ', R', hp, hM, he, hD⟩ := h
  obtain ⟨ρ2, q1, q2, q3⟩ := hf ρ' S' R' hM hD
  exact ⟨f S', List.mem_map.mpr ⟨S', hS, rfl⟩, ρ2, R', hp.trans q1, q2, he, q3⟩
/-- not 0 -/
def kNz (Γ : sG) (y : sL) : Bool := (match sIv Γ.1 y with
  | some i => decide (0 < i.1) || decide (i.2 < 0)
  | none => false) || Γ.2.2.1.any (fun f => decide (f = y) || decide (f = sNeg y))
theorem kNz_ok {Γ : sG} {y : sL} {z : Int} (hM : sMo ρ Γ) (hy : sEv ρ y = some z) (h : kNz Γ y = true) : z ≠ 0 := by
  unfold kNz at h
  rcases Bool.or_eq_true_iff.mp h with h | h
  · split at h
    · rename_i i hi
      have := sIv_ok hM.1 hy hi
      simp only [Bool.or_eq_true, decide_eq_true_eq] at h
      omega
    · cases h
  · obtain ⟨f, hf, h⟩ := List.any_eq_true.mp h
    obtain ⟨u, e1, e2⟩ := hM.2.2.1 f hf
    simp only [Bool.or_eq_true, decide_eq_true_eq] at h
    rcases h with rfl | rfl
    · cases e1.symm.trans hy; exact e2
    · have e3 := sEv_neg hy
      cases e1.symm.trans e3
      omega
/-- x as q times k and r, r from 0 to k - 1 -/
def kSplit (Γ : sG) (x y : sL) : Option (sL × sL) := match sK Γ.1 y with
  | some k => if 0 < k then (match ((x.1 / k, (x.2.filter (fun t => decide (t.2 % k = 0))).map fun t => (t.1, t.2 / k)) : sL) with
    | q => if (sLo0 Γ.1 x && (sWi Γ.1 (sSub x (sMul k q)) 0 (k - 1) && (sIv Γ.1 q).isSome)) = true then some (q, sSub x (sMul k q)) else none) else none
  | none => none
theorem kSplit_ok {Γ : sG} {x y : sL} {zx zy : Int} {p : sL × sL} (hM : sMo ρ Γ) (hx : sEv ρ x = some zx) (hy : sEv ρ y = some zy) (h : kSplit Γ x y = some p) : 0 ≤ zx ∧ 0 < zy ∧ sEv ρ p.1 = some (zx / zy) ∧ sEv ρ p.2 = some (zx % zy) := by
  unfold kSplit at h
  split at h
  · rename_i k hk
    have e := sK_ok hM.1 hy hk
    subst e
    split at h
    · rename_i h0
      simp only at h
      split at h
      · rename_i hc
        cases h
        simp only [Bool.and_eq_true] at hc
        obtain ⟨c1, c2, c3⟩ := hc
        obtain ⟨i, hi⟩ := Option.isSome_iff_exists.mp c3
        obtain ⟨zq, hq⟩ := sIv_has hM.1 hi
        have hr := sEv_sub hx (sEv_mul zy hq)
        have g1 := sLo0_ok hM.1 hx c1
        have g2 := sWi_ok hM.1 hr c2
        have e1 : zx = (zx - zy * zq) + zy * zq := by omega
        have e2 : zx / zy = zq := by
          rw [e1, Int.add_mul_ediv_left _ _ (by omega), Int.ediv_eq_zero_of_lt g2.1 (by omega)]
          omega
        have e3 : zx % zy = zx - zy * zq := by
          have := Int.mul_ediv_add_emod zx zy
          rw [e2] at this
          omega
        exact ⟨g1, h0, by rw [hq, e2], by rw [hr, e3]⟩
      · cases h
    · cases h
  · cases h
def kFr (Γ : sG) (lo hi : Int) : sL × sG := (sX Γ.1.length, sFresh Γ (lo, hi))
def kDiv (Γ : sG) (b : Nat) (x y : sL) : Option (sL × sG) :=
  if (sI32 Γ.1 x && (sI32 Γ.1 y && kNz Γ y)) = true then (match kSplit Γ x y with
    | some p => some (if b = 9 then p.1 else p.2, Γ)
    | none => match sIv Γ.1 x, sIv Γ.1 y with
      | some ix, some iy => if b = 9 ∧ 0 ≤ ix.1 ∧ 0 < iy.1 ∧ iy.1 = iy.2 then (match sNew Γ 9 x y 0 (ix.2 / iy.1) with
          | r => some (r.1, if r.2.1.length = Γ.1.length then r.2 else (r.2.1, sSub x (sMul iy.1 r.1) :: sSub (sAdd (sMul iy.1 r.1) (sC (iy.1 - 1))) x :: r.2.2.1, r.2.2.2)))
        else if 0 ≤ ix.1 ∧ 0 < iy.1 then some (if b = 9 then sNew Γ b x y 0 ix.2 else sNew Γ b x y 0 (iy.2 - 1)) else some (sNew Γ b x y (-2147483648) 2147483647)
      | _, _ => none) else none
/-- the bounds of a product -/
def kMin (a b : Int) : Int := if a ≤ b then a else b
def kMax (a b : Int) : Int := if a ≤ b then b else a
def kPrd (Γ : sG) (x y : sL) (lo hi : Int) : Option (Int × Int) := match sK Γ.1 x, sK Γ.1 y with
  | none, none => (match sIv Γ.1 x, sIv Γ.1 y with
    | some i, some j => (match kMin (kMin (i.1 * j.1) (i.1 * j.2)) (kMin (i.2 * j.1) (i.2 * j.2)), kMax (kMax (i.1 * j.1) (i.1 * j.2)) (kMax (i.2 * j.1) (i.2 * j.2)) with
      | l, h => if lo ≤ l ∧ h ≤ hi then some (l, h) else none)
    | _, _ => none)
  | _, _ => none
theorem kMin_le (a b : Int) : kMin a b ≤ a ∧ kMin a b ≤ b := by
  unfold kMin
  split <;> omega
theorem kMax_le (a b : Int) : a ≤ kMax a b ∧ b ≤ kMax a b := by
  unfold kMax
  split <;> omega
theorem kMul1 {a b x y : Int} (h1 : a ≤ x) (h2 : x ≤ b) : kMin (a * y) (b * y) ≤ x * y ∧ x * y ≤ kMax (a * y) (b * y) := by
  have m := kMin_le (a * y) (b * y)
  have n := kMax_le (a * y) (b * y)
  rcases Int.le_total 0 y with h | h
  · have p := Int.mul_le_mul_of_nonneg_right h1 h
    have q := Int.mul_le_mul_of_nonneg_right h2 h
    omega
  · have p := Int.mul_le_mul_of_nonpos_right h1 h
    have q := Int.mul_le_mul_of_nonpos_right h2 h
    omega
theorem kPrd_ok {Γ : sG} {x y : sL} {zx zy lo hi : Int} {p : Int × Int} (hM : sMo ρ Γ) (hx : sEv ρ x = some zx) (hy : sEv ρ y = some zy) (h : kPrd Γ x y lo hi = some p) : (p.1 ≤ zx * zy ∧ zx * zy ≤ p.2) ∧ lo ≤ p.1 ∧ p.2 ≤ hi := by
  unfold kPrd at h
  split at h
  · split at h
    · rename_i i j hi' hj'
      simp only at h
      split at h
      · rename_i hc
        cases h
        have b1 := sIv_ok hM.1 hx hi'
        have b2 := sIv_ok hM.1 hy hj'
        refine ⟨?_, hc⟩
        have e1 := kMul1 (y := zy) b1.1 b1.2
        have e2 := kMul1 (y := i.1) b2.1 b2.2
        have e3 := kMul1 (y := i.2) b2.1 b2.2
        rw [Int.mul_comm j.1, Int.mul_comm j.2, Int.mul_comm zy] at e2 e3
        have m1 := kMin_le (kMin (i.1 * j.1) (i.1 * j.2)) (kMin (i.2 * j.1) (i.2 * j.2))
        have m2 := kMax_le (kMax (i.1 * j.1) (i.1 * j.2)) (kMax (i.2 * j.1) (i.2 * j.2))
        have m3 : kMin (i.1 * zy) (i.2 * zy) = i.1 * zy ∨ kMin (i.1 * zy) (i.2 * zy) = i.2 * zy := by
          unfold kMin
          split
          · exact Or.inl rfl
          · exact Or.inr rfl
        have m4 : kMax (i.1 * zy) (i.2 * zy) = i.1 * zy ∨ kMax (i.1 * zy) (i.2 * zy) = i.2 * zy := by
          unfold kMax
          split
          · exact Or.inr rfl
          · exact Or.inl rfl
        simp only
        omega
      · cases h
    · cases h
  · cases h
def kBin (Γ : sG) (b : Nat) (x y : sL) : Option (sL × sG) :=
  if b = 9 ∨ b = 10 then kDiv Γ b x y
  else if b = 8 ∧ sK Γ.1 y = some 4 then some (sNew Γ 8 x y 0 268435455)
  else if b = 8 ∧ sK Γ.1 y = some 10 then some (sNew Γ 8 x y 0 4194303)
  else if b = 8 ∧ sK Γ.1 y = some 18 then some (sNew Γ 8 x y 0 16383)
  else if b = 2 then (match kPrd Γ x y (-2147483648) 2147483647 with
    | some p => some (sNew Γ 2 x y p.1 p.2)
    | none => sBin Γ b x y)
  else sBin Γ b x y
theorem kUsh {x : Int32} {s : Int32} {k : Nat} (hs : ((s.toUInt32 &&& Int32.toUInt32 31).toBitVec % 32).toNat = k) (hk : 1 ≤ k) : 0 ≤ (x.toUInt32 >>> (s.toUInt32 &&& Int32.toUInt32 31)).toInt32.toInt ∧ (x.toUInt32 >>> (s.toUInt32 &&& Int32.toUInt32 31)).toInt32.toInt ≤ ((2 ^ 32 / 2 ^ k : Nat) : Int) - 1 := by
  have h := pk_ushr x s k hs
  have h1 : x.toBitVec.toNat < 2 ^ 32 := x.toBitVec.isLt
  have h2 : 2 ^ 32 / 2 ^ k ≤ 2 ^ 31 := by
    have : 2 ^ 1 ≤ 2 ^ k := Nat.pow_le_pow_right (by decide) hk
    exact Nat.le_trans (Nat.div_le_div_left this (by decide)) (by decide)
  have h5 : 2 ^ 32 / 2 ^ k * 2 ^ k = 2 ^ 32 := by
    have hk32 : k ≤ 32 := by
      have : k < 32 := by
        rw [← hs]
        have := BitVec.toNat_umod (x := (s.toUInt32 &&& Int32.toUInt32 31).toBitVec) (y := 32)
        rw [this]
        exact Nat.mod_lt _ (by decide)
      omega
    exact Nat.div_mul_cancel (Nat.pow_dvd_pow 2 hk32)
  have h3 : x.toBitVec.toNat / 2 ^ k < 2 ^ 32 / 2 ^ k := by
    rw [Nat.div_lt_iff_lt_mul (Nat.two_pow_pos k), h5]
    exact h1
  have h4 : (x.toUInt32 >>> (s.toUInt32 &&& Int32.toUInt32 31)).toInt32.toInt = ((x.toBitVec.toNat / 2 ^ k : Nat) : Int) := by
    show (x.toUInt32 >>> (s.toUInt32 &&& Int32.toUInt32 31)).toInt32.toBitVec.toInt = _
    rw [BitVec.toInt_eq_toNat_of_lt (by rw [h]; omega), h]
  rw [h4]
  omega
theorem kFr_ok {Γ : sG} {lo hi : Int} {o : Option Int32} {v : Int32} (hM : sMo ρ Γ) (ho : o = some v) (h1 : lo ≤ v.toInt) (h2 : v.toInt ≤ hi) : ∃ ρ' z, ρ <+: ρ' ∧ sMo ρ' (kFr Γ lo hi).2 ∧ sEv ρ' (kFr Γ lo hi).1 = some z ∧ o = some (Int32.ofInt z) := by
  obtain ⟨m, h3⟩ := sFresh_ok (b := (lo, hi)) hM h1 h2
  exact ⟨_, _, ⟨_, rfl⟩, m, h3, by rw [Int32.ofInt_toInt]; exact ho⟩
theorem kNw_ok {Γ : sG} {x y : sL} {zx zy lo hi : Int} {v : Int32} (hM : sMo ρ Γ) (hx : sEv ρ x = some zx) (hy : sEv ρ y = some zy) (hb : b < 100) (ho : eBin b (Int32.ofInt zx) (Int32.ofInt zy) = some v) (h1 : lo ≤ v.toInt) (h2 : v.toInt ≤ hi) : ∃ ρ' z, ρ <+: ρ' ∧ sMo ρ' (sNew Γ b x y lo hi).2 ∧ sEv ρ' (sNew Γ b x y lo hi).1 = some z ∧ eBin b (Int32.ofInt zx) (Int32.ofInt zy) = some (Int32.ofInt z) := by
  have e := sOp_bin hb ho
  obtain ⟨ρ', p1, p2, p3⟩ := sNew_ok (op := b) (lo := lo) (hi := hi) hM hx hy (by rw [e]; exact h1) (by rw [e]; exact h2)
  exact ⟨ρ', _, p1, p2, p3, by rw [ho, e, Int32.ofInt_toInt]⟩
theorem kBin_ok {Γ : sG} {x y : sL} {zx zy : Int} {r : sL × sG} (hM : sMo ρ Γ) (hx : sEv ρ x = some zx) (hy : sEv ρ y = some zy) (h : kBin Γ b x y = some r) :
    ∃ ρ' z, ρ <+: ρ' ∧ sMo ρ' r.2 ∧ sEv ρ' r.1 = some z ∧ eBin b (Int32.ofInt zx) (Int32.ofInt zy) = some (Int32.ofInt z) := by
  unfold kBin at h
  split at h
  · rename_i hb
    unfold kDiv at h
    split at h
    · rename_i hc
      simp only [Bool.and_eq_true] at hc
      obtain ⟨c1, c2, c3⟩ := hc
      have rx := sWi_ok hM.1 hx c1
      have ry := sWi_ok hM.1 hy c2
      have hz := kNz_ok hM hy c3
      have hne : ¬ Int32.ofInt zy = 0 := by
        intro e
        have := congrArg Int32.toInt e
        rw [sTo32 ry.1 ry.2] at this
        exact hz this
      have hv : ∃ v, eBin b (Int32.ofInt zx) (Int32.ofInt zy) = some v := by
        rcases hb with rfl | rfl
        · exact ⟨_, show (if Int32.ofInt zy = 0 then none else some _) = _ from if_neg hne⟩
        · exact ⟨_, show (if Int32.ofInt zy = 0 then none else some _) = _ from if_neg hne⟩
      have hpos : 0 ≤ zx → 0 < zy → eBin b (Int32.ofInt zx) (Int32.ofInt zy) = some (Int32.ofInt (if b = 9 then zx / zy else zx % zy)) := by
        intro g1 g2
        obtain ⟨v1, v2, v3⟩ := sDiv_val g1 rx.2 g2 ry.2
        rcases hb with rfl | rfl
        · rw [if_pos rfl, ← v1, Int32.ofInt_toInt]
          exact if_neg hne
        · rw [if_neg (by decide), ← v2, Int32.ofInt_toInt]
          exact if_neg hne
      split at h
      · rename_i p hp
        cases h
        obtain ⟨g1, g2, g3, g4⟩ := kSplit_ok hM hx hy hp
        refine ⟨ρ, _, List.prefix_refl _, hM, ?_, hpos g1 g2⟩
        split
        · exact g3
        · exact g4
      · split at h
        · rename_i ix iy hix hiy
          have bx := sIv_ok hM.1 hx hix
          have by' := sIv_ok hM.1 hy hiy
          split at h
          · rename_i hc3
            obtain ⟨rfl, hc4, hc5, hc6⟩ := hc3
            simp only [Option.some.injEq] at h
            subst h
            have g1 : 0 ≤ zx := by omega
            have g2 : 0 < zy := by omega
            have g3 : iy.1 = zy := by omega
            have e := hpos g1 g2
            rw [if_pos rfl] at e
            have d1 : 0 ≤ zx / zy := Int.ediv_nonneg g1 (by omega)
            have d2 : zx / zy ≤ zx := Int.ediv_le_self _ g1
            have d3 : zx / zy ≤ ix.2 / iy.1 := by rw [g3]; exact Int.ediv_le_ediv g2 bx.2
            have t := sTo32 (z := zx / zy) (by omega) (by omega)
            have es : sOp 9 zx zy = zx / zy := by rw [sOp_bin (by decide) e, t]
            obtain ⟨ρ', p1, p2, p3⟩ := sNew_ok (op := 9) (lo := 0) (hi := ix.2 / iy.1) hM hx hy (by rw [es]; exact d1) (by rw [es]; exact d3)
            rw [es] at p3
            refine ⟨ρ', zx / zy, p1, ?_, p3, e⟩
            split
            · exact p2
            · have hx' := sEv_mono p1 hx
              have m1 := Int.mul_ediv_add_emod zx zy
              have m2 : 0 ≤ zx % zy := Int.emod_nonneg _ (by omega)
              have m3 : zx % zy < zy := Int.emod_lt_of_pos _ g2
              refine ⟨p2.1, fun f hf => ?_, p2.2.2⟩
              rcases List.mem_cons.mp hf with rfl | hf
              · refine ⟨_, sEv_sub hx' (sEv_mul iy.1 p3), ?_⟩
                rw [g3]; omega
              rcases List.mem_cons.mp hf with rfl | hf
              · refine ⟨_, sEv_sub (sEv_add (sEv_mul iy.1 p3) (sEv_C (iy.1 - 1))) hx', ?_⟩
                rw [g3]; omega
              · exact p2.2.1 f hf
          split at h
          · rename_i hc2
            cases h
            have g1 : 0 ≤ zx := by omega
            have g2 : 0 < zy := by omega
            have e := hpos g1 g2
            have d1 : 0 ≤ zx / zy := Int.ediv_nonneg g1 (by omega)
            have d2 : zx / zy ≤ zx := Int.ediv_le_self _ g1
            have d3 : 0 ≤ zx % zy := Int.emod_nonneg _ (by omega)
            have d4 : zx % zy < zy := Int.emod_lt_of_pos _ g2
            rcases hb with rfl | rfl
            · rw [if_pos rfl] at e
              have t := sTo32 (z := zx / zy) (by omega) (by omega)
              exact kNw_ok hM hx hy (by decide) e (by rw [t]; exact d1) (by rw [t]; omega)
            · rw [if_neg (by decide)] at e
              have t := sTo32 (z := zx % zy) (by omega) (by omega)
              exact kNw_ok hM hx hy (by decide) e (by rw [t]; exact d3) (by rw [t]; omega)
          · cases h
            obtain ⟨v, hv⟩ := hv
            have q := sRng32 v
            exact kNw_ok hM hx hy (by rcases hb with rfl | rfl <;> decide) hv q.1 q.2
        · cases h
    · cases h
  split at h
  · rename_i hb
    obtain ⟨rfl, hk⟩ := hb
    cases h
    have e := sK_ok hM.1 hy hk
    subst e
    have q := kUsh (x := Int32.ofInt zx) (s := Int32.ofInt 4) (k := 4) (by decide) (by decide)
    exact kNw_ok hM hx hy (by decide) rfl q.1 q.2
  split at h
  · rename_i hb
    obtain ⟨rfl, hk⟩ := hb
    cases h
    have e := sK_ok hM.1 hy hk
    subst e
    have q := kUsh (x := Int32.ofInt zx) (s := Int32.ofInt 10) (k := 10) (by decide) (by decide)
    exact kNw_ok hM hx hy (by decide) rfl q.1 q.2
  split at h
  · rename_i hb
    obtain ⟨rfl, hk⟩ := hb
    cases h
    have e := sK_ok hM.1 hy hk
    subst e
    have q := kUsh (x := Int32.ofInt zx) (s := Int32.ofInt 18) (k := 18) (by decide) (by decide)
    exact kNw_ok hM hx hy (by decide) rfl q.1 q.2
  split at h
  · rename_i hb
    subst hb
    split at h
    · rename_i p hp
      cases h
      obtain ⟨⟨q1, q2⟩, q3, q4⟩ := kPrd_ok hM hx hy hp
      have e : eBin 2 (Int32.ofInt zx) (Int32.ofInt zy) = some (Int32.ofInt zx * Int32.ofInt zy) := rfl
      have t : (Int32.ofInt zx * Int32.ofInt zy).toInt = zx * zy := by rw [← Int32.ofInt_mul, sTo32 (by omega) (by omega)]
      exact kNw_ok hM hx hy (by decide) e (by rw [t]; exact q1) (by rw [t]; exact q2)
    · exact sBin_ok hM hx hy h
  exact sBin_ok hM hx hy h
def k6 (nx b : Nat) : sR → Option (List sR)
  | (_, ls, (0, y) :: (0, x) :: st, G, c, s, Γ) => (kBin Γ b x y).map fun r => [kNormT (nx, ls, (0, r.1) :: st, G, c, s, r.2)]
  | _ => none
theorem k6_ok (hM : sMo ρ S.2.2.2.2.2.2) (hD : sD ρ S R) (h : k6 nx b S = some L) : sOK ρ L (e6 nx b R) := by
  obtain ⟨pc, ls, st, G, c, s, Γ⟩ := S
  obtain ⟨pc', ls', st', G', c', s'⟩ := R
  obtain ⟨h1, hL, hV, hH, h2, h3⟩ := hD
  simp only at h1 hL hV hH h2 h3 hM
  subst h1; subst h2; subst h3
  unfold k6 at h
  split at h
  · rename_i heq
    cases heq
    obtain ⟨r, hr, rfl⟩ := Option.map_eq_some_iff.mp h
    obtain ⟨zy, r1, rfl, hy, hV1⟩ := sVs_int hV
    obtain ⟨zx, r2, rfl, hx, hV2⟩ := sVs_int hV1
    obtain ⟨ρ', z, p1, p2, p3, p4⟩ := kBin_ok hM hx hy hr
    refine kNorm_all (f := kNormT) (L := [_]) (fun ρ S R => kNormT_ok) (sOK.one p1 p2 (R' := (nx, ls', .int (Int32.ofInt z) :: r2, G', c', s')) ?_ ⟨rfl, hL.mono p1, ⟨⟨z, p3, rfl⟩, hV2.mono p1⟩, hH.mono p1, rfl, rfl⟩)
    simp only [e6, p4, Option.map_some]
  · cases h
/-- longs -/
theorem kDv64 {x k : Int} (hx : 0 ≤ x) (hx2 : x ≤ 9223372036854775807) (hk : 0 < k) (hk2 : k ≤ 9223372036854775807) : (Int64.ofInt x / Int64.ofInt k).toInt = x / k := by
  rw [Int64.toInt_div, sTo64 (by omega) (by omega), sTo64 (by omega) (by omega), Int.tdiv_eq_ediv_of_nonneg hx]
  have h0 := Int.ediv_nonneg hx (Int.le_of_lt hk)
  have h1 := Int.ediv_le_self k hx
  exact Int.bmod_eq_of_le (by omega) (by omega)
def kLdv (Γ : sG) (x y : sL) : sL × sG := match sIv Γ.1 x, sIv Γ.1 y with
  | some ix, some iy => if (sI64 Γ.1 x && (decide (0 ≤ ix.1) && decide (0 < iy.1))) = true then sNew Γ 109 x y 0 ix.2 else kFr Γ (-9223372036854775808) 9223372036854775807
  | _, _ => kFr Γ (-9223372036854775808) 9223372036854775807
def kLin (Γ : sG) (b : Nat) (x y : sL) : Option (sL × sG) :=
  if b = 9 then (if (sI64 Γ.1 y && kNz Γ y) = true then some (kLdv Γ x y) else none)
  else match sLin Γ b x y with
    | some r => some r
    | none => if b = 2 then (match kPrd Γ x y (-9223372036854775808) 9223372036854775807 with
      | some p => some (sNew Γ 102 x y p.1 p.2)
      | none => some (kFr Γ (-9223372036854775808) 9223372036854775807)) else none
theorem kLin_ok {Γ : sG} {x y : sL} {zx zy : Int} {r : sL × sG} (hM : sMo ρ Γ) (hx : sEv ρ x = some zx) (hy : sEv ρ y = some zy) (h : kLin Γ b x y = some r) :
    ∃ ρ' z, ρ <+: ρ' ∧ sMo ρ' r.2 ∧ sEv ρ' r.1 = some z ∧ eLin b (Int64.ofInt zx) (Int64.ofInt zy) = some (Int64.ofInt z) := by
  have fin : ∀ v : Int64, eLin b (Int64.ofInt zx) (Int64.ofInt zy) = some v → ∃ ρ' z, ρ <+: ρ' ∧ sMo ρ' (kFr Γ (-9223372036854775808) 9223372036854775807).2 ∧ sEv ρ' (kFr Γ (-9223372036854775808) 9223372036854775807).1 = some z ∧ eLin b (Int64.ofInt zx) (Int64.ofInt zy) = some (Int64.ofInt z) := by
    intro v hv
    have q := sRng64 v
    obtain ⟨m, h3⟩ := sFresh_ok (b := (-9223372036854775808, 9223372036854775807)) hM q.1 q.2
    exact ⟨_, _, ⟨_, rfl⟩, m, h3, by rw [Int64.ofInt_toInt]; exact hv⟩
  unfold kLin at h
  split at h
  · rename_i hb
    subst hb
    split at h
    · rename_i hc
      cases h
      simp only [Bool.and_eq_true] at hc
      have ry := sWi_ok hM.1 hy hc.1
      have hz := kNz_ok hM hy hc.2
      have hne : ¬ Int64.ofInt zy = 0 := by
        intro e
        have := congrArg Int64.toInt e
        rw [sTo64 ry.1 ry.2] at this
        exact hz this
      have hv : eLin 9 (Int64.ofInt zx) (Int64.ofInt zy) = some (Int64.ofInt zx / Int64.ofInt zy) := show (if Int64.ofInt zy = 0 then none else some _) = _ from if_neg hne
      unfold kLdv
      split
      · rename_i ix iy hix hiy
        split
        · rename_i hw
          simp only [Bool.and_eq_true, decide_eq_true_eq] at hw
          obtain ⟨w1, w2, w3⟩ := hw
          have rx := sWi_ok hM.1 hx w1
          have bx := sIv_ok hM.1 hx hix
          have by' := sIv_ok hM.1 hy hiy
          have e : sOp 109 zx zy = (Int64.ofInt zx / Int64.ofInt zy).toInt := by
            show (match eLin 9 (Int64.ofInt zx) (Int64.ofInt zy) with | some v => v.toInt | none => 0) = _
            rw [hv]
          have d := kDv64 (x := zx) (k := zy) (by omega) rx.2 (by omega) ry.2
          have d1 := Int.ediv_le_self zy (show 0 ≤ zx by omega)
          have d0 := Int.ediv_nonneg (show 0 ≤ zx by omega) (show 0 ≤ zy by omega)
          obtain ⟨ρ', p1, p2, p3⟩ := sNew_ok (op := 109) (lo := 0) (hi := ix.2) hM hx hy (by rw [e, d]; exact d0) (by rw [e, d]; omega)
          exact ⟨ρ', _, p1, p2, p3, by rw [e, Int64.ofInt_toInt]; exact hv⟩
        · exact fin _ hv
      · exact fin _ hv
    · cases h
  · split at h
    · rename_i r' hr
      cases h
      exact sLin_ok hM hx hy hr
    · split at h
      · rename_i hb
        subst hb
        split at h
        · rename_i p hp
          cases h
          obtain ⟨⟨q1, q2⟩, q3, q4⟩ := kPrd_ok hM hx hy hp
          have t : (Int64.ofInt zx * Int64.ofInt zy).toInt = zx * zy := by rw [← Int64.ofInt_mul, sTo64 (by omega) (by omega)]
          have e : sOp 102 zx zy = (Int64.ofInt zx * Int64.ofInt zy).toInt := rfl
          obtain ⟨ρ', p1, p2, p3⟩ := sNew_ok (op := 102) (lo := p.1) (hi := p.2) hM hx hy (by rw [e, t]; exact q1) (by rw [e, t]; exact q2)
          exact ⟨ρ', _, p1, p2, p3, by rw [e, Int64.ofInt_toInt]; rfl⟩
        · cases h
          exact fin (Int64.ofInt zx * Int64.ofInt zy) rfl
      · cases h
def k7 (nx b : Nat) : sR → Option (List sR)
  | (_, ls, (1, y) :: (1, x) :: st, G, c, s, Γ) => (kLin Γ b x y).map fun r => [kNormT (nx, ls, (1, r.1) :: st, G, c, s, r.2)]
  | _ => none
theorem k7_ok (hM : sMo ρ S.2.2.2.2.2.2) (hD : sD ρ S R) (h : k7 nx b S = some L) : sOK ρ L (e7 nx b R) := by
  obtain ⟨pc, ls, st, G, c, s, Γ⟩ := S
  obtain ⟨pc', ls', st', G', c', s'⟩ := R
  obtain ⟨h1, hL, hV, hH, h2, h3⟩ := hD
  simp only at h1 hL hV hH h2 h3 hM
  subst h1; subst h2; subst h3
  unfold k7 at h
  split at h
  · rename_i heq
    cases heq
    obtain ⟨r, hr, rfl⟩ := Option.map_eq_some_iff.mp h
    obtain ⟨zy, r1, rfl, hy, hV1⟩ := sVs_long hV
    obtain ⟨zx, r2, rfl, hx, hV2⟩ := sVs_long hV1
    obtain ⟨ρ', z, p1, p2, p3, p4⟩ := kLin_ok hM hx hy hr
    refine kNorm_all (f := kNormT) (L := [_]) (fun ρ S R => kNormT_ok) (sOK.one p1 p2 (R' := (nx, ls', .long (Int64.ofInt z) :: r2, G', c', s')) ?_ ⟨rfl, hL.mono p1, ⟨⟨z, p3, rfl⟩, hV2.mono p1⟩, hH.mono p1, rfl, rfl⟩)
    simp only [e7, p4, Option.map_some]
  · cases h
/-- what is no wider is not cut -/
def k8 (nx b : Nat) : sR → Option (List sR)
  | (pc, ls, (0, x) :: st, G, c, s, Γ) => if b = 1 ∧ sWi Γ.1 x (-128) 127 = true then some [(nx, ls, (0, x) :: st, G, c, s, Γ)] else if b = 2 ∧ sWi Γ.1 x (-32768) 32767 = true then some [(nx, ls, (0, x) :: st, G, c, s, Γ)] else s8 nx b (pc, ls, (0, x) :: st, G, c, s, Γ)
  | S => s8 nx b S
theorem k8_ok (hM : sMo ρ S.2.2.2.2.2.2) (hD : sD ρ S R) (h : k8 nx b S = some L) : sOK ρ L (e8 nx b R) := by
  unfold k8 at h
  split at h
  · rename_i pc ls x st G c s Γ
    have hD0 := hD
    obtain ⟨pc', ls', st', G', c', s'⟩ := R
    obtain ⟨h1, hL, hV, hH, h2, h3⟩ := hD
    simp only at h1 hL hV hH h2 h3 hM
    subst h1; subst h2; subst h3
    obtain ⟨zx, r1, rfl, hx, hV1⟩ := sVs_int hV
    split at h
    · rename_i hc
      obtain ⟨rfl, hc⟩ := hc
      cases h
      have q := sWi_ok hM.1 hx hc
      have e := sNarB q.1 q.2
      rw [vp_nar_byte] at e
      exact sOK.one (List.prefix_refl _) hM (R' := (nx, ls', .int (Int32.ofInt zx).toInt8.toInt32 :: r1, G', c', s')) rfl ⟨rfl, hL, ⟨⟨zx, hx, by rw [e]⟩, hV1⟩, hH, rfl, rfl⟩
    split at h
    · rename_i hc
      obtain ⟨rfl, hc⟩ := hc
      cases h
      have q := sWi_ok hM.1 hx hc
      have e := sNarS q.1 q.2
      rw [vp_nar_short] at e
      exact sOK.one (List.prefix_refl _) hM (R' := (nx, ls', .int (Int32.ofInt zx).toInt16.toInt32 :: r1, G', c', s')) rfl ⟨rfl, hL, ⟨⟨zx, hx, by rw [e]⟩, hV1⟩, hH, rfl, rfl⟩
    · exact t8 hM hD0 h
  · exact t8 hM hD h
end KARI
end
