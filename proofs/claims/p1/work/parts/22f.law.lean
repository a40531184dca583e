/-! The law's run ends with true, for every script of at most six numbers. -/
theorem eTK : ∀ k : Nat, k < 43 → eTry 6 (eG6 k k) = true
  | 0, _ => eTK_0
  | 1, _ => eTK_1
  | 2, _ => eTK_2
  | 3, _ => eTK_3
  | 4, _ => eTK_4
  | 5, _ => eTK_5
  | 6, _ => eTK_6
  | 7, _ => eTK_7
  | 8, _ => eTK_8
  | 9, _ => eTK_9
  | 10, _ => eTK_10
  | 11, _ => eTK_11
  | 12, _ => eTK_12
  | 13, _ => eTK_13
  | 14, _ => eTK_14
  | 15, _ => eTK_15
  | 16, _ => eTK_16
  | 17, _ => eTK_17
  | 18, _ => eTK_18
  | 19, _ => eTK_19
  | 20, _ => eTK_20
  | 21, _ => eTK_21
  | 22, _ => eTK_22
  | 23, _ => eTK_23
  | 24, _ => eTK_24
  | 25, _ => eTK_25
  | 26, _ => eTK_26
  | 27, _ => eTK_27
  | 28, _ => eTK_28
  | 29, _ => eTK_29
  | 30, _ => eTK_30
  | 31, _ => eTK_31
  | 32, _ => eTK_32
  | 33, _ => eTK_33
  | 34, _ => eTK_34
  | 35, _ => eTK_35
  | 36, _ => eTK_36
  | 37, _ => eTK_37
  | 38, _ => eTK_38
  | 39, _ => eTK_39
  | 40, _ => eTK_40
  | 41, _ => eTK_41
  | 42, _ => eTK_42
  | k + 43, h => absurd h (by omega)
theorem eLaw_0 : ∀ L : Nat, L < 6 → eTry L (eG0 L) = true
  | 0, _ => eTL_0
  | 1, _ => eTL_1
  | 2, _ => eTL_2
  | 3, _ => eTL_3
  | 4, _ => eTL_4
  | 5, _ => eTL_5
  | k + 6, h => absurd h (by omega)
theorem eLaw_all {L : Nat} (hL : L ≤ 6) (xs : Nat → Int32) : eLaw L xs := by
  by_cases h6 : L < 6
  · exact eTry_ok (ρ := (List.range L).map fun i => (xs i).toInt) (eRor fun i hi => by rw [List.getElem?_map, List.getElem?_range hi]; rfl) (eMo0 L xs) (eLaw_0 L h6)
  · obtain rfl : L = 6 := by omega
    have hr := sAnd_rng (xs 0) (k := 63) (by decide) (by decide)
    have hr : 0 ≤ (xs 0 &&& 63).toInt ∧ (xs 0 &&& 63).toInt ≤ 63 := hr
    have hRO : sRor (((List.range 6).map fun i => (xs i).toInt) ++ [(xs 0 &&& 63).toInt]) (eSO 6) (eRO 6 xs) := eRor fun i hi => by
      rw [List.getElem?_append_left (by simpa using hi), List.getElem?_map, List.getElem?_range hi]; rfl
    by_cases h : (xs 0 &&& 63).toInt < 43
    · have hk : (((xs 0 &&& 63).toInt.toNat : Nat) : Int) = (xs 0 &&& 63).toInt := Int.toNat_of_nonneg hr.1
      exact eTry_ok hRO (eMo6 xs _ _ (by omega) (by omega)) (eTK (xs 0 &&& 63).toInt.toNat (by omega))
    · exact eTry_ok hRO (eMo6 xs 43 63 (by omega) (by omega)) eTK_o
