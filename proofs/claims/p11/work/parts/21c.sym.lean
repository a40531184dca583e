/-! S: arithmetic. -/
noncomputable section
def sBin (Γ : sG) (b : Nat) (x y : sL) : Option (sL × sG) :=
  if b = 0 then some (sAdd x y, Γ) else if b = 1 then some (sSub x y, Γ)
  else match sK Γ.1 x, sK Γ.1 y with
    | some kx, some ky => (eBin b (Int32.ofInt kx) (Int32.ofInt ky)).map fun v => (sC v.toInt, Γ)
    | some kx, none => if b = 2 then some (sMul kx y, Γ) else if b < 9 then some (sNew Γ b x y (-2147483648) 2147483647) else none
    | none, some ky => if b = 2 then some (sMul ky x, Γ)
      else if b = 3 then (if 0 ≤ ky ∧ ky ≤ 2147483647 then some (sNew Γ 3 x y 0 ky) else some (sNew Γ b x y (-2147483648) 2147483647))
      else if b = 9 then (if 0 < ky ∧ ky ≤ 2147483647 ∧ sWi Γ.1 x 0 2147483647 = true then (match sIv Γ.1 x with
        | some i => some (sNew Γ 9 x y (i.1 / ky) (i.2 / ky))
        | none => none) else none)
      else if b = 10 then (if 0 < ky ∧ ky ≤ 2147483647 ∧ sWi Γ.1 x 0 2147483647 = true then some (sNew Γ 10 x y 0 (ky - 1)) else none)
      else if b < 9 then some (sNew Γ b x y (-2147483648) 2147483647) else none
    | none, none => if b < 9 then some (sNew Γ b x y (-2147483648) 2147483647) else none
theorem sRng32 (x : Int32) : -2147483648 ≤ x.toInt ∧ x.toInt ≤ 2147483647 := by
  have h1 := x.le_toInt
  have h2 := x.toInt_lt
  omega
theorem sOp_bin {b : Nat} {x y : Int} {v : Int32} (hb : b < 100) (h : eBin b (Int32.ofInt x) (Int32.ofInt y) = some v) : sOp b x y = v.toInt := by
  unfold sOp
  rw [if_pos hb, h]
theorem eBin_tot {b : Nat} (hb : b < 9) (x y : Int32) : ∃ v, eBin b x y = some v := by
  unfold eBin
  by_cases h0 : b = 0
  · exact ⟨_, if_pos h0⟩
  rw [if_neg h0]
  by_cases h1 : b = 1
  · exact ⟨_, if_pos h1⟩
  rw [if_neg h1]
  by_cases h2 : b = 2
  · exact ⟨_, if_pos h2⟩
  rw [if_neg h2]
  by_cases h3 : b = 3
  · exact ⟨_, if_pos h3⟩
  rw [if_neg h3]
  by_cases h4 : b = 4
  · exact ⟨_, if_pos h4⟩
  rw [if_neg h4]
  by_cases h5 : b = 5
  · exact ⟨_, if_pos h5⟩
  rw [if_neg h5]
  by_cases h6 : b = 6
  · exact ⟨_, if_pos h6⟩
  rw [if_neg h6]
  by_cases h7 : b = 7
  · exact ⟨_, if_pos h7⟩
  rw [if_neg h7]
  by_cases h8 : b = 8
  · exact ⟨_, if_pos h8⟩
  omega
theorem sAnd_rng (x : Int32) {k : Int} (h0 : 0 ≤ k) (h1 : k ≤ 2147483647) : 0 ≤ (x &&& Int32.ofInt k).toInt ∧ (x &&& Int32.ofInt k).toInt ≤ k := by
  obtain ⟨n, rfl⟩ := Int.eq_ofNat_of_zero_le h0
  have hn : n < 2 ^ 31 := by omega
  have e1 : (Int32.ofInt (n : Int)).toBitVec.toNat = n := by
    have : (Int32.ofInt (n : Int)) = nI n := by simp [nI, Int32.ofNat, Int32.ofInt]
    rw [this]
    exact pk_tn (by omega)
  have e2 : (x &&& Int32.ofInt (n : Int)).toBitVec.toNat ≤ n := by
    have e3 : (x &&& Int32.ofInt (n : Int)).toBitVec.toNat = x.toBitVec.toNat &&& (Int32.ofInt (n : Int)).toBitVec.toNat := by simp
    rw [e3, e1]
    exact Nat.and_le_right
  have e4 : (x &&& Int32.ofInt (n : Int)).toInt = ((x &&& Int32.ofInt (n : Int)).toBitVec.toNat : Int) := by
    show (x &&& Int32.ofInt (n : Int)).toBitVec.toInt = _
    rw [BitVec.toInt_eq_toNat_of_lt (by omega)]
  rw [e4]
  omega
theorem sDiv_val {x k : Int} (hx : 0 ≤ x) (hx2 : x ≤ 2147483647) (hk : 0 < k) (hk2 : k ≤ 2147483647) : (Int32.ofInt x / Int32.ofInt k).toInt = x / k ∧ (Int32.ofInt x - Int32.ofInt x / Int32.ofInt k * Int32.ofInt k).toInt = x % k ∧ ¬ Int32.ofInt k = 0 := by
  obtain ⟨a, rfl⟩ := Int.eq_ofNat_of_zero_le hx
  obtain ⟨d, rfl⟩ := Int.eq_ofNat_of_zero_le (Int.le_of_lt hk)
  have ea : (Int32.ofInt (a : Int)) = nI a := by simp [nI, Int32.ofNat, Int32.ofInt]
  have ed : (Int32.ofInt (d : Int)) = nI d := by simp [nI, Int32.ofNat, Int32.ofInt]
  have ha : a < 2 ^ 31 := by omega
  have hd : d < 2 ^ 31 := by omega
  have hd0 : 0 < d := by omega
  have l1 : a / d < 2 ^ 31 := Nat.lt_of_le_of_lt (Nat.div_le_self a d) ha
  have l2 : a % d < 2 ^ 31 := Nat.lt_of_le_of_lt (Nat.mod_le a d) ha
  rw [ea, ed]
  refine ⟨?_, ?_, nI_ne0 hd0 hd⟩
  · rw [pk_div ha hd0 hd, nI_toInt l1]
    rfl
  · rw [pk_rem ha hd0 hd, nI_toInt l2]
    rfl
theorem sBin_ok {ρ : List Int} {Γ : sG} {b : Nat} {x y : sL} {zx zy : Int} {r : sL × sG} (hM : sMo ρ Γ) (hx : sEv ρ x = some zx) (hy : sEv ρ y = some zy) (h : sBin Γ b x y = some r) :
    ∃ ρ' z, ρ <+: ρ' ∧ sMo ρ' r.2 ∧ sEv ρ' r.1 = some z ∧ eBin b (Int32.ofInt zx) (Int32.ofInt zy) = some (Int32.ofInt z) := by
  have hnew : ∀ (op : Nat) (lo hi : Int) (v : Int32), op < 100 → b = op → eBin b (Int32.ofInt zx) (Int32.ofInt zy) = some v → lo ≤ v.toInt → v.toInt ≤ hi → ∃ ρ' z, ρ <+: ρ' ∧ sMo ρ' (sNew Γ op x y lo hi).2 ∧ sEv ρ' (sNew Γ op x y lo hi).1 = some z ∧ eBin b (Int32.ofInt zx) (Int32.ofInt zy) = some (Int32.ofInt z) := by
    intro op lo hi v hop hbo hv h1 h2
    subst hbo
    have e := sOp_bin hop hv
    obtain ⟨ρ', p1, p2, p3⟩ := sNew_ok (op := b) (lo := lo) (hi := hi) hM hx hy (by rw [e]; exact h1) (by rw [e]; exact h2)
    exact ⟨ρ', _, p1, p2, p3, by rw [hv, e, Int32.ofInt_toInt]⟩
  have hfull : b < 9 → ∀ rr, some (sNew Γ b x y (-2147483648) 2147483647) = some rr → ∃ ρ' z, ρ <+: ρ' ∧ sMo ρ' rr.2 ∧ sEv ρ' rr.1 = some z ∧ eBin b (Int32.ofInt zx) (Int32.ofInt zy) = some (Int32.ofInt z) := by
    intro hb rr hr
    cases hr
    obtain ⟨v, hv⟩ := eBin_tot hb (Int32.ofInt zx) (Int32.ofInt zy)
    have q := sRng32 v
    exact hnew b _ _ v (by omega) rfl hv q.1 q.2
  unfold sBin at h
  by_cases b0 : b = 0
  · rw [if_pos b0] at h; cases h
    refine ⟨ρ, _, List.prefix_refl _, hM, sEv_add hx hy, ?_⟩
    unfold eBin; rw [if_pos b0, Int32.ofInt_add]
  rw [if_neg b0] at h
  by_cases b1 : b = 1
  · rw [if_pos b1] at h; cases h
    refine ⟨ρ, _, List.prefix_refl _, hM, sEv_sub hx hy, ?_⟩
    unfold eBin; rw [if_neg b0, if_pos b1, Int32.ofInt_sub]
  rw [if_neg b1] at h
  split at h
  · rename_i kx ky hkx hky
    obtain ⟨v, hv, rfl⟩ := Option.map_eq_some_iff.mp h
    have e1 := sK_ok hM.1 hx hkx
    have e2 := sK_ok hM.1 hy hky
    subst e1; subst e2
    exact ⟨ρ, v.toInt, List.prefix_refl _, hM, sEv_C _, by rw [hv, Int32.ofInt_toInt]⟩
  · rename_i kx hkx hky
    have e1 := sK_ok hM.1 hx hkx
    subst e1
    by_cases b2 : b = 2
    · rw [if_pos b2] at h; cases h
      refine ⟨ρ, _, List.prefix_refl _, hM, sEv_mul zx hy, ?_⟩
      subst b2
      show some (_ * _) = _
      rw [Int32.ofInt_mul]
    rw [if_neg b2] at h
    by_cases b9 : b < 9
    · rw [if_pos b9] at h; exact hfull b9 r h
    · rw [if_neg b9] at h; cases h
  · rename_i ky hkx hky
    have e2 := sK_ok hM.1 hy hky
    subst e2
    by_cases b2 : b = 2
    · rw [if_pos b2] at h; cases h
      refine ⟨ρ, _, List.prefix_refl _, hM, sEv_mul zy hx, ?_⟩
      subst b2
      show some (_ * _) = _
      rw [Int.mul_comm, Int32.ofInt_mul]
    rw [if_neg b2] at h
    by_cases b3 : b = 3
    · rw [if_pos b3] at h
      split at h
      · rename_i hk
        cases h
        subst b3
        have q := sAnd_rng (Int32.ofInt zx) hk.1 hk.2
        exact hnew 3 0 zy _ (by decide) rfl rfl q.1 q.2
      · exact hfull (by omega) r h
    rw [if_neg b3] at h
    by_cases b9 : b = 9
    · rw [if_pos b9] at h
      split at h
      · rename_i hk
        split at h
        · rename_i i hi
          cases h
          subst b9
          have rx := sWi_ok hM.1 hx hk.2.2
          have ri := sIv_ok hM.1 hx hi
          obtain ⟨v1, v2, v3⟩ := sDiv_val rx.1 rx.2 hk.1 hk.2.1
          refine hnew 9 _ _ (Int32.ofInt zx / Int32.ofInt zy) (by decide) rfl ?_ ?_ ?_
          · show (if Int32.ofInt zy = 0 then none else some _) = _
            rw [if_neg v3]
          · rw [v1]; exact Int.ediv_le_ediv hk.1 ri.1
          · rw [v1]; exact Int.ediv_le_ediv hk.1 ri.2
        · cases h
      · cases h
    rw [if_neg b9] at h
    by_cases b10 : b = 10
    · rw [if_pos b10] at h
      split at h
      · rename_i hk
        cases h
        subst b10
        have rx := sWi_ok hM.1 hx hk.2.2
        obtain ⟨v1, v2, v3⟩ := sDiv_val rx.1 rx.2 hk.1 hk.2.1
        refine hnew 10 _ _ (Int32.ofInt zx - Int32.ofInt zx / Int32.ofInt zy * Int32.ofInt zy) (by decide) rfl ?_ ?_ ?_
        · show (if Int32.ofInt zy = 0 then none else some _) = _
          rw [if_neg v3]
        · rw [v2]; exact Int.emod_nonneg _ (by omega)
        · rw [v2]; have := Int.emod_lt_of_pos zx hk.1; omega
      · cases h
    rw [if_neg b10] at h
    split at h
    · rename_i hb; exact hfull hb r h
    · cases h
  · split at h
    · rename_i hb; exact hfull hb r h
    · cases h
end
