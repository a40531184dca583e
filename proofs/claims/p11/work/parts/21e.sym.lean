/-! S: one step of a symbolic state. -/
noncomputable section
def sOK (ρ : List Int) (L : List sR) (o : Option eR) : Prop := ∃ S' ∈ L, ∃ ρ' R', ρ <+: ρ' ∧ sMo ρ' S'.2.2.2.2.2.2 ∧ o = some R' ∧ sD ρ' S' R'
theorem sOK.one {ρ ρ' : List Int} {S' : sR} {R' : eR} {o : Option eR} (h1 : ρ <+: ρ') (h2 : sMo ρ' S'.2.2.2.2.2.2) (h3 : o = some R') (h4 : sD ρ' S' R') : sOK ρ [S'] o := ⟨S', List.mem_singleton.mpr rfl, ρ', R', h1, h2, h3, h4⟩
/-- a place of an array: each number that it may be -/
def sIdx (Γ : sG) (x : sL) (n : Nat) : Option (List (Nat × sG)) := match sIv Γ.1 x with
  | none => none
  | some i => if i.1 = i.2 then (if 0 ≤ i.1 ∧ i.1 < n ∧ i.1 ≤ 2147483647 then some [(i.1.toNat, Γ)] else none)
    else if 0 ≤ i.1 ∧ i.2 < n ∧ i.2 ≤ 2147483647 then (match x with
      | (c, [(s, k)]) => if k = 1 then some ((List.range (i.2 - i.1 + 1).toNat).map fun j => (i.1.toNat + j, (Γ.1.set s (i.1 + j - c, i.1 + j - c), Γ.2))) else none
      | _ => none) else none
theorem sIdx_ok {ρ : List Int} {Γ : sG} {x : sL} {n : Nat} {z : Int} {l : List (Nat × sG)} (hM : sMo ρ Γ) (hx : sEv ρ x = some z) (h : sIdx Γ x n = some l) : ∃ q ∈ l, sMo ρ q.2 ∧ q.1 < n ∧ (Int32.ofInt z).toNatClampNeg = q.1 ∧ eIn (Int32.ofInt z) n = true := by
  have fin : ∀ k : Nat, (k : Int) = z → k < n → k ≤ 2147483647 → (Int32.ofInt z).toNatClampNeg = k ∧ eIn (Int32.ofInt z) n = true := by
    intro k hk hkn hk2
    subst hk
    have e1 : (Int32.ofInt (k : Int)) = nI k := by simp [nI, Int32.ofNat, Int32.ofInt]
    have e2 : (nI k).toNatClampNeg = k := nI_clamp (by omega)
    rw [e1]
    refine ⟨e2, ?_⟩
    simp only [eIn, e2, Bool.and_eq_true, Bool.not_eq_true', decide_eq_false_iff_not, decide_eq_true_eq]
    exact ⟨nI_pos (by omega), hkn⟩
  unfold sIdx at h
  split at h
  · cases h
  · rename_i i hi
    have hb := sIv_ok hM.1 hx hi
    split at h
    · rename_i he
      split at h
      · rename_i hc
        cases h
        have hz : z = i.1 := by omega
        refine ⟨_, List.mem_singleton.mpr rfl, hM, by simp only; omega, ?_⟩
        exact fin i.1.toNat (by omega) (by omega) (by omega)
      · cases h
    split at h
    · rename_i hc
      split at h
      · rename_i c s k
        split at h
        · rename_i hk
          subst hk
          cases h
          refine ⟨_, List.mem_map.mpr ⟨(z - i.1).toNat, List.mem_range.mpr (by omega), rfl⟩, sMo_set hM fun w hw => ?_, by simp only; omega, ?_⟩
          · simp only [sEv, sEvT, hw, Option.map_some, Option.some.injEq] at hx
            simp only
            omega
          · exact fin _ (by omega) (by omega) (by omega)
        · cases h
      · cases h
    · cases h
section SSTEP
variable (SO : List (Nat × List sL)) (CL : List vw_C) (CT : Nat → Nat → FieldType)
def s3 (nx a b : Nat) : sR → Option (List sR)
  | (_, ls, st, G, c, s, Γ) => match sGetL ls a with
    | some v => if v.1 = b % 3 then some [(nx, ls, v :: st, G, c, s, Γ)] else none
    | none => none
def s4 (mL nx a b : Nat) : sR → Option (List sR)
  | (_, ls, v :: st, G, c, s, Γ) => if v.1 = b % 3 then (if b % 3 = 1 then (if a + 1 < mL then some [(nx, sSt2 ls a v, st, G, c, s, Γ)] else none) else (if a < mL then some [(nx, sSt1 ls a v, st, G, c, s, Γ)] else none)) else none
  | _ => none
def s5 (mL nx a : Nat) (z : Int) : sR → Option (List sR)
  | (_, ls, st, G, c, s, Γ) => match sGetL ls a with
    | some v => if v.1 = 0 ∧ a < mL then some [(nx, sSt1 ls a (0, sAdd v.2 (sC z)), st, G, c, s, Γ)] else none
    | none => none
def s6 (nx b : Nat) : sR → Option (List sR)
  | (_, ls, (0, y) :: (0, x) :: st, G, c, s, Γ) => (sBin Γ b x y).map fun r => [(nx, ls, (0, r.1) :: st, G, c, s, r.2)]
  | _ => none
def sLin (Γ : sG) (b : Nat) (x y : sL) : Option (sL × sG) :=
  if b = 0 then some (sAdd x y, Γ) else if b = 1 then some (sSub x y, Γ)
  else if b = 2 then (match sK Γ.1 y with
    | some k => some (sMul k x, Γ)
    | none => match sK Γ.1 x with
      | some k => some (sMul k y, Γ)
      | none => none)
  else if b < 6 then some (sNew Γ (100 + b) x y (-9223372036854775808) 9223372036854775807) else none
def s7 (nx b : Nat) : sR → Option (List sR)
  | (_, ls, (1, y) :: (1, x) :: st, G, c, s, Γ) => (sLin Γ b x y).map fun r => [(nx, ls, (1, r.1) :: st, G, c, s, r.2)]
  | _ => none
def s8 (nx b : Nat) : sR → Option (List sR)
  | (_, ls, (0, x) :: st, G, c, s, Γ) => if b = 0 then some [(nx, ls, (0, sNeg x) :: st, G, c, s, Γ)]
    else if b = 1 then (match sNew Γ 301 x (sC 0) (-128) 127 with
      | r => some [(nx, ls, (0, r.1) :: st, G, c, s, r.2)])
    else if b = 2 then (match sNew Γ 302 x (sC 0) (-32768) 32767 with
      | r => some [(nx, ls, (0, r.1) :: st, G, c, s, r.2)])
    else if b = 3 ∧ sI32 Γ.1 x = true then some [(nx, ls, (1, x) :: st, G, c, s, Γ)] else none
  | (_, ls, (1, x) :: st, G, c, s, Γ) => if b = 4 then some [(nx, ls, (0, x) :: st, G, c, s, Γ)] else none
  | _ => none
def sOpt (o : Option sG) (f : sG → sR) : List sR := match o with
  | some Γ => [f Γ]
  | none => []
def s9 (nx : Nat) : sR → Option (List sR)
  | (_, ls, (1, y) :: (1, x) :: st, G, c, s, Γ) => if sI64 Γ.1 x = true ∧ sI64 Γ.1 y = true then
      some (sOpt (sAsm Γ (sSub (sSub x y) (sC 1))) (fun Γ' => (nx, ls, (0, sC 1) :: st, G, c, s, Γ')) ++ (sOpt (sAsE Γ (sSub x y)) (fun Γ' => (nx, ls, (0, sC 0) :: st, G, c, s, Γ')) ++ sOpt (sAsm Γ (sSub (sC (-1)) (sSub x y))) (fun Γ' => (nx, ls, (0, sC (-1)) :: st, G, c, s, Γ')))) else none
  | _ => none
def s10 (nx : Nat) : sR → Option (List sR)
  | (_, ls, (0, y) :: (1, x) :: st, G, c, s, Γ) => match sNew Γ 200 x y (-9223372036854775808) 9223372036854775807 with
    | r => some [(nx, ls, (1, r.1) :: st, G, c, s, r.2)]
  | _ => none
def s12 (nx a b : Nat) : sR → Option (List sR)
  | (_, ls, (0, x) :: st, G, c, s, Γ) => if sI32 Γ.1 x = true then some (sOpt (sCnd b Γ (sSub x (sC 0))).1 (fun Γ' => (a, ls, st, G, c, s, Γ')) ++ sOpt (sCnd b Γ (sSub x (sC 0))).2 (fun Γ' => (nx, ls, st, G, c, s, Γ'))) else none
  | _ => none
def s13 (nx a b : Nat) : sR → Option (List sR)
  | (_, ls, (0, y) :: (0, x) :: st, G, c, s, Γ) => if sI32 Γ.1 x = true ∧ sI32 Γ.1 y = true then some (sOpt (sCnd b Γ (sSub x y)).1 (fun Γ' => (a, ls, st, G, c, s, Γ')) ++ sOpt (sCnd b Γ (sSub x y)).2 (fun Γ' => (nx, ls, st, G, c, s, Γ'))) else none
  | _ => none
def sDft (x : sL) : List (Int × Nat) → sG → Option sG
  | [], Γ => some Γ
  | q :: r, Γ => match sAsN Γ (sSub x (sC q.1)) with
    | none => none
    | some Γ' => sDft x r Γ'
def s15 (a : Nat) (sw : List (Int × Nat)) : sR → Option (List sR)
  | (_, ls, (0, x) :: st, G, c, s, Γ) => if sI32 Γ.1 x = true then (match sK Γ.1 x with
      | some k => some [(eSw sw a k, ls, st, G, c, s, Γ)]
      | none => some (sOpt (sDft x sw Γ) (fun Γ' => (a, ls, st, G, c, s, Γ')) ++ sw.flatMap fun q => sOpt (sAsE Γ (sSub x (sC q.1))) (fun Γ' => (q.2, ls, st, G, c, s, Γ')))) else none
  | _ => none
def s16 (nx b k : Nat) : sR → Option (List sR)
  | (_, ls, (2, q) :: st, G, c, s, Γ) => if q.1.toNat < SO.length then none else match sAt G (q.1.toNat - SO.length) with
    | some (.inr (ci, fs)) => if ci = b ∧ ci ≠ 999 then (sAt fs k).map fun v => if v.1 = 4 then v.2.2.map fun r => (nx, ls, (2, sC r.1) :: st, sSet G (q.1.toNat - SO.length) (.inr (ci, sSet fs k (2, sC r.1))), c, s, Γ) else [(nx, ls, v :: st, G, c, s, Γ)] else none
    | _ => none
  | _ => none
def sFit (B : List (Int × Int)) (ty : FieldType) (v : sV) : Bool := match ty with
  | .object _ => decide (v.1 = 2)
  | .array _ => decide (v.1 = 2)
  | .int => decide (v.1 = 0)
  | .boolean => decide (v.1 = 0) && sWi B v.2 0 1
  | .long => decide (v.1 = 1)
  | _ => false
def s17 (nx b k : Nat) : sR → Option (List sR)
  | (_, ls, v :: (2, q) :: st, G, c, s, Γ) => if q.1.toNat < SO.length then none else match sAt G (q.1.toNat - SO.length) with
    | some (.inr (ci, fs)) => if (ci = b ∧ ci ≠ 999) ∧ k < fs.length ∧ sFit Γ.1 (CT b k) v = true then some [(nx, ls, st, sSet G (q.1.toNat - SO.length) (.inr (ci, sSet fs k v)), c, s, Γ)] else none
    | _ => none
  | _ => none
def s18 (nx b : Nat) : sR → Option (List sR)
  | (_, ls, st, G, c, s, Γ) => some [(nx, ls, (2, sC b) :: st, G, c, s, Γ)]
end SSTEP
section SPROOF
variable {ρ : List Int} {S : sR} {R : eR} {L : List sR} {SO : List (Nat × List sL)} {RO : List (Nat × (Nat → Int32))} {CL : List vw_C} {CT : Nat → Nat → FieldType} {nx a b mL : Nat}
theorem t3 (hM : sMo ρ S.2.2.2.2.2.2) (hD : sD ρ S R) (h : s3 nx a b S = some L) : sOK ρ L (e3 nx a b R) := by
  obtain ⟨pc, ls, st, G, c, s, Γ⟩ := S
  obtain ⟨pc', ls', st', G', c', s'⟩ := R
  obtain ⟨h1, hL, hV, hH, h2, h3⟩ := hD
  simp only at h1 hL hV hH h2 h3 hM
  subst h1; subst h2; subst h3
  simp only [s3] at h
  split at h
  · rename_i v hv
    split at h
    · rename_i ht
      cases h
      obtain ⟨w, hw, hvw⟩ := sLs_get hL hv
      refine sOK.one (List.prefix_refl _) hM (R' := (nx, ls', w :: st', G', c', s')) ?_ ⟨rfl, hL, ⟨hvw, hV⟩, hH, rfl, rfl⟩
      simp only [e3, hw]
      rw [if_pos (sVr_tag hvw ht (by omega))]
    · cases h
  · cases h
theorem t4 (hM : sMo ρ S.2.2.2.2.2.2) (hD : sD ρ S R) (h : s4 mL nx a b S = some L) : sOK ρ L (e4 mL nx a b R) := by
  obtain ⟨pc, ls, st, G, c, s, Γ⟩ := S
  obtain ⟨pc', ls', st', G', c', s'⟩ := R
  obtain ⟨h1, hL, hV, hH, h2, h3⟩ := hD
  simp only at h1 hL hV hH h2 h3 hM
  subst h1; subst h2; subst h3
  unfold s4 at h
  split at h
  · rename_i heq
    cases heq
    obtain ⟨w, r, rfl, hvw, hV1⟩ := sVs_cons hV
    split at h
    · rename_i ht
      have htw := sVr_tag hvw ht (by omega)
      split at h
      · rename_i hb1
        split at h
        · rename_i ha
          cases h
          refine sOK.one (List.prefix_refl _) hM (R' := (nx, eSt2 ls' a w, r, G', c', s')) ?_ ⟨rfl, sLs_st2 hL hvw, hV1, hH, rfl, rfl⟩
          simp only [e4]
          rw [if_pos htw, if_pos hb1, if_pos ha]
        · cases h
      · rename_i hb1
        split at h
        · rename_i ha
          cases h
          refine sOK.one (List.prefix_refl _) hM (R' := (nx, eSt1 ls' a w, r, G', c', s')) ?_ ⟨rfl, sLs_st1 hL hvw, hV1, hH, rfl, rfl⟩
          simp only [e4]
          rw [if_pos htw, if_neg hb1, if_pos ha]
        · cases h
    · cases h
  · cases h
theorem t5 {z : Int} (hM : sMo ρ S.2.2.2.2.2.2) (hD : sD ρ S R) (h : s5 mL nx a z S = some L) : sOK ρ L (e5 mL nx a z R) := by
  obtain ⟨pc, ls, st, G, c, s, Γ⟩ := S
  obtain ⟨pc', ls', st', G', c', s'⟩ := R
  obtain ⟨h1, hL, hV, hH, h2, h3⟩ := hD
  simp only at h1 hL hV hH h2 h3 hM
  subst h1; subst h2; subst h3
  simp only [s5] at h
  split at h
  · rename_i v hv
    split at h
    · rename_i hc
      cases h
      obtain ⟨w, hw, hvw⟩ := sLs_get hL hv
      obtain ⟨t, x⟩ := v
      obtain ⟨ht, ha⟩ := hc
      simp only at ht
      subst ht
      obtain ⟨zx, hx, rfl⟩ := sVr_int hvw
      refine sOK.one (List.prefix_refl _) hM (R' := (nx, eSt1 ls' a (.int (Int32.ofInt zx + Int32.ofInt z)), st', G', c', s')) ?_ ⟨rfl, sLs_st1 hL ⟨zx + z, sEv_add hx (sEv_C z), by rw [Int32.ofInt_add]⟩, hV, hH, rfl, rfl⟩
      simp only [e5, hw]
      rw [if_pos ha]
    · cases h
  · cases h
theorem t6 (hM : sMo ρ S.2.2.2.2.2.2) (hD : sD ρ S R) (h : s6 nx b S = some L) : sOK ρ L (e6 nx b R) := by
  obtain ⟨pc, ls, st, G, c, s, Γ⟩ := S
  obtain ⟨pc', ls', st', G', c', s'⟩ := R
  obtain ⟨h1, hL, hV, hH, h2, h3⟩ := hD
  simp only at h1 hL hV hH h2 h3 hM
  subst h1; subst h2; subst h3
  unfold s6 at h
  split at h
  · rename_i heq
    cases heq
    obtain ⟨r, hr, rfl⟩ := Option.map_eq_some_iff.mp h
    obtain ⟨zy, r1, rfl, hy, hV1⟩ := sVs_int hV
    obtain ⟨zx, r2, rfl, hx, hV2⟩ := sVs_int hV1
    obtain ⟨ρ', z, p1, p2, p3, p4⟩ := sBin_ok hM hx hy hr
    refine sOK.one p1 p2 (R' := (nx, ls', .int (Int32.ofInt z) :: r2, G', c', s')) ?_ ⟨rfl, hL.mono p1, ⟨⟨z, p3, rfl⟩, hV2.mono p1⟩, hH.mono p1, rfl, rfl⟩
    simp only [e6, p4, Option.map_some]
  · cases h
theorem sRng64 (x : Int64) : -9223372036854775808 ≤ x.toInt ∧ x.toInt ≤ 9223372036854775807 := by
  have h1 := x.le_toInt
  have h2 := x.toInt_lt
  omega
theorem sLin_ok {Γ : sG} {x y : sL} {zx zy : Int} {r : sL × sG} (hM : sMo ρ Γ) (hx : sEv ρ x = some zx) (hy : sEv ρ y = some zy) (h : sLin Γ b x y = some r) :
    ∃ ρ' z, ρ <+: ρ' ∧ sMo ρ' r.2 ∧ sEv ρ' r.1 = some z ∧ eLin b (Int64.ofInt zx) (Int64.ofInt zy) = some (Int64.ofInt z) := by
  unfold sLin at h
  by_cases b0 : b = 0
  · rw [if_pos b0] at h; cases h
    refine ⟨ρ, _, List.prefix_refl _, hM, sEv_add hx hy, ?_⟩
    unfold eLin; rw [if_pos b0, Int64.ofInt_add]
  rw [if_neg b0] at h
  by_cases b1 : b = 1
  · rw [if_pos b1] at h; cases h
    refine ⟨ρ, _, List.prefix_refl _, hM, sEv_sub hx hy, ?_⟩
    unfold eLin; rw [if_neg b0, if_pos b1, Int64.ofInt_sub]
  rw [if_neg b1] at h
  by_cases b2 : b = 2
  · rw [if_pos b2] at h
    split at h
    · rename_i k hk
      cases h
      have e := sK_ok hM.1 hy hk
      subst e
      refine ⟨ρ, _, List.prefix_refl _, hM, sEv_mul zy hx, ?_⟩
      unfold eLin; rw [if_neg b0, if_neg b1, if_pos b2, Int.mul_comm, Int64.ofInt_mul]
    · split at h
      · rename_i k hk
        cases h
        have e := sK_ok hM.1 hx hk
        subst e
        refine ⟨ρ, _, List.prefix_refl _, hM, sEv_mul zx hy, ?_⟩
        unfold eLin; rw [if_neg b0, if_neg b1, if_pos b2, Int64.ofInt_mul]
      · cases h
  rw [if_neg b2] at h
  split at h
  · rename_i hb
    cases h
    have htot : ∃ v, eLin b (Int64.ofInt zx) (Int64.ofInt zy) = some v := by
      unfold eLin
      rw [if_neg b0, if_neg b1, if_neg b2]
      by_cases b3 : b = 3
      · exact ⟨_, if_pos b3⟩
      rw [if_neg b3]
      by_cases b4 : b = 4
      · exact ⟨_, if_pos b4⟩
      rw [if_neg b4]
      by_cases b5 : b = 5
      · exact ⟨_, if_pos b5⟩
      omega
    obtain ⟨v, hv⟩ := htot
    have e : sOp (100 + b) zx zy = v.toInt := by
      unfold sOp
      rw [if_neg (by omega), if_pos (by omega), Nat.add_sub_cancel_left, hv]
    have q := sRng64 v
    obtain ⟨ρ', p1, p2, p3⟩ := sNew_ok (op := 100 + b) (lo := -9223372036854775808) (hi := 9223372036854775807) hM hx hy (by rw [e]; exact q.1) (by rw [e]; exact q.2)
    exact ⟨ρ', _, p1, p2, p3, by rw [hv, e, Int64.ofInt_toInt]⟩
  · cases h
theorem t7 (hM : sMo ρ S.2.2.2.2.2.2) (hD : sD ρ S R) (h : s7 nx b S = some L) : sOK ρ L (e7 nx b R) := by
  obtain ⟨pc, ls, st, G, c, s, Γ⟩ := S
  obtain ⟨pc', ls', st', G', c', s'⟩ := R
  obtain ⟨h1, hL, hV, hH, h2, h3⟩ := hD
  simp only at h1 hL hV hH h2 h3 hM
  subst h1; subst h2; subst h3
  unfold s7 at h
  split at h
  · rename_i heq
    cases heq
    obtain ⟨r, hr, rfl⟩ := Option.map_eq_some_iff.mp h
    obtain ⟨zy, r1, rfl, hy, hV1⟩ := sVs_long hV
    obtain ⟨zx, r2, rfl, hx, hV2⟩ := sVs_long hV1
    obtain ⟨ρ', z, p1, p2, p3, p4⟩ := sLin_ok hM hx hy hr
    refine sOK.one p1 p2 (R' := (nx, ls', .long (Int64.ofInt z) :: r2, G', c', s')) ?_ ⟨rfl, hL.mono p1, ⟨⟨z, p3, rfl⟩, hV2.mono p1⟩, hH.mono p1, rfl, rfl⟩
    simp only [e7, p4, Option.map_some]
  · cases h
theorem sI2L {z : Int} (h1 : -2147483648 ≤ z) (h2 : z ≤ 2147483647) : (Int32.ofInt z).toInt64 = Int64.ofInt z := by
  apply Int64.toInt_inj.mp
  rw [Int32.toInt_toInt64, sTo32 h1 h2, sTo64 (by omega) (by omega)]
theorem sByte (x : Int32) : -128 ≤ x.toInt8.toInt32.toInt ∧ x.toInt8.toInt32.toInt ≤ 127 := by
  rw [Int8.toInt_toInt32]
  have h1 := x.toInt8.le_toInt
  have h2 := x.toInt8.toInt_lt
  omega
theorem sShort (x : Int32) : -32768 ≤ x.toInt16.toInt32.toInt ∧ x.toInt16.toInt32.toInt ≤ 32767 := by
  rw [Int16.toInt_toInt32]
  have h1 := x.toInt16.le_toInt
  have h2 := x.toInt16.toInt_lt
  omega
theorem t8 (hM : sMo ρ S.2.2.2.2.2.2) (hD : sD ρ S R) (h : s8 nx b S = some L) : sOK ρ L (e8 nx b R) := by
  obtain ⟨pc, ls, st, G, c, s, Γ⟩ := S
  obtain ⟨pc', ls', st', G', c', s'⟩ := R
  obtain ⟨h1, hL, hV, hH, h2, h3⟩ := hD
  simp only at h1 hL hV hH h2 h3 hM
  subst h1; subst h2; subst h3
  unfold s8 at h
  split at h
  · rename_i heq
    cases heq
    obtain ⟨zx, r1, rfl, hx, hV1⟩ := sVs_int hV
    by_cases b0 : b = 0
    · rw [if_pos b0] at h; cases h
      subst b0
      refine sOK.one (List.prefix_refl _) hM (R' := (nx, ls', .int (-Int32.ofInt zx) :: r1, G', c', s')) rfl ⟨rfl, hL, ⟨⟨-zx, sEv_neg hx, by rw [Int32.ofInt_neg]⟩, hV1⟩, hH, rfl, rfl⟩
    rw [if_neg b0] at h
    by_cases b1 : b = 1
    · rw [if_pos b1] at h; cases h
      subst b1
      have e : sOp 301 zx 0 = (Int32.ofInt zx).toInt8.toInt32.toInt := rfl
      have q := sByte (Int32.ofInt zx)
      obtain ⟨ρ', p1, p2, p3⟩ := sNew_ok (op := 301) (lo := -128) (hi := 127) hM hx (sEv_C (ρ := ρ) 0) (by rw [e]; exact q.1) (by rw [e]; exact q.2)
      exact sOK.one p1 p2 (R' := (nx, ls', .int (Int32.ofInt zx).toInt8.toInt32 :: r1, G', c', s')) rfl ⟨rfl, hL.mono p1, ⟨⟨_, p3, by rw [e, Int32.ofInt_toInt]⟩, hV1.mono p1⟩, hH.mono p1, rfl, rfl⟩
    rw [if_neg b1] at h
    by_cases b2 : b = 2
    · rw [if_pos b2] at h; cases h
      subst b2
      have e : sOp 302 zx 0 = (Int32.ofInt zx).toInt16.toInt32.toInt := rfl
      have q := sShort (Int32.ofInt zx)
      obtain ⟨ρ', p1, p2, p3⟩ := sNew_ok (op := 302) (lo := -32768) (hi := 32767) hM hx (sEv_C (ρ := ρ) 0) (by rw [e]; exact q.1) (by rw [e]; exact q.2)
      exact sOK.one p1 p2 (R' := (nx, ls', .int (Int32.ofInt zx).toInt16.toInt32 :: r1, G', c', s')) rfl ⟨rfl, hL.mono p1, ⟨⟨_, p3, by rw [e, Int32.ofInt_toInt]⟩, hV1.mono p1⟩, hH.mono p1, rfl, rfl⟩
    rw [if_neg b2] at h
    split at h
    · rename_i hc
      obtain ⟨rfl, hc⟩ := hc
      cases h
      have q := sWi_ok hM.1 hx hc
      refine sOK.one (List.prefix_refl _) hM (R' := (nx, ls', .long (Int32.ofInt zx).toInt64 :: r1, G', c', s')) rfl ⟨rfl, hL, ⟨⟨zx, hx, by rw [sI2L q.1 q.2]⟩, hV1⟩, hH, rfl, rfl⟩
    · cases h
  · rename_i heq
    cases heq
    obtain ⟨zx, r1, rfl, hx, hV1⟩ := sVs_long hV
    split at h
    · rename_i b4
      cases h
      subst b4
      refine sOK.one (List.prefix_refl _) hM (R' := (nx, ls', .int (Int64.ofInt zx).toInt32 :: r1, G', c', s')) rfl ⟨rfl, hL, ⟨⟨zx, hx, by rw [Int64.toInt32_ofInt]⟩, hV1⟩, hH, rfl, rfl⟩
    · cases h
  · cases h
end SPROOF
end
