/-! The reader of THE LAW as a machine of its own. -/
noncomputable section
/-- a step: what, with what -/
abbrev nSp : Type := Int × Int
/-- a line: what is asked first, if it is; what it comes to -/
abbrev nLi : Type := Option (List nSp) × List nSp
/-- what is laid: the lines that are done, the first part of the one under way, its last part -/
abbrev nEs : Type := List nLi × Option (List nSp) × List nSp
/-- mode, how many are open, place, what is laid, what is still to be done -/
abbrev nSt : Type := Int × Int × Int × nEs × List (Int × Int)
abbrev nEn : Type := Int ⊕ List nLi
def nOp (c : Int) : Int := if c = 42 ∨ c = 47 ∨ c = 37 then 1 else if c = 43 ∨ c = 45 then 2 else if c = 60 ∨ c = 61 ∨ c = 62 then 3 else if c = 38 then 4 else if c = 124 then 5 else 0
def nNm (c : Int) : Int := if c = 110 then 0 else if c = 107 then 1 else if c = 108 then 2 else if c = 112 then 3 else if c = 98 then 4 else if c = 118 then 5 else -1
def nDg (c : Int) : Bool := decide (48 ≤ c ∧ c ≤ 57)
/-- a number of up to so many digits: its worth, where it ends -/
def nNum (L : Int → Int) : Nat → Int → Int → Int × Int
  | 0, a, v => (v, a)
  | n + 1, a, v => if nDg (L a) = true then nNum L n (a + 1) (10 * v + (L a - 48)) else (v, a)
/-- one step more -/
def nAd (e : nEs) (x : nSp) : nEs := (e.1, e.2.1, e.2.2 ++ [x])
def nS (L : Int → Int) (len : Int) (s : nSt) : nSt ⊕ nEn := match s with
  | (md, o, a, e, κ) =>
    if md = 0 then
      (if nDg (L a) = true then .inl (20, 0, (nNum L 4 a 0).2, nAd e (1, (nNum L 4 a 0).1), κ)
       else if 0 ≤ nNm (L a) then .inl (20, 0, a + 1, nAd e (2, nNm (L a)), κ)
       else if o ≤ 5 ∧ L a = 33 then .inl (0, o + 1, a + 1, e, (300, o) :: κ)
       else if o ≤ 5 ∧ L a = 45 then .inl (0, o + 1, a + 1, e, (301, o) :: κ)
       else if o ≤ 5 ∧ L a = 40 then .inl (5, o + 1, a + 1, e, (302, o) :: κ)
       else .inr (.inl a))
    else if 1 ≤ md ∧ md ≤ 5 then .inl (md - 1, o, a, e, (md, o) :: κ)
    else if 11 ≤ md ∧ md ≤ 15 then (if nOp (L a) = md - 10 then .inl (md - 11, o, a + 1, e, (100 + L a, o) :: κ) else .inl (20, 0, a, e, κ))
    else if md = 20 then (match κ with
      | [] => .inr (.inl a)
      | (t, fo) :: r =>
        if 1 ≤ t ∧ t ≤ 5 then .inl (10 + t, fo, a, e, r)
        else if 1 ≤ nOp (t - 100) then (if nOp (t - 100) = 3 then .inl (20, 0, a, nAd e (t - 100, 0), r) else .inl (10 + nOp (t - 100), fo, a, nAd e (t - 100, 0), r))
        else if t = 300 then .inl (20, 0, a, nAd e (3, 0), r)
        else if t = 301 then .inl (20, 0, a, nAd e (4, 0), r)
        else if t = 302 then (if L a = 41 then .inl (20, 0, a + 1, e, r) else .inr (.inl a))
        else if t = 303 then (if L a = 63 then .inl (5, fo, a + 1, (e.1, some e.2.2, []), (304, fo) :: r) else .inl (21, fo, a, (e.1 ++ [(none, e.2.2)], none, []), r))
        else .inl (24, fo, a, e, r))
    else if md = 24 then .inl (21, o, a, (e.1 ++ [(e.2.1, e.2.2)], none, []), κ)
    else if md = 21 then (if L a = 59 then .inl (5, o, a + 1, e, (303, o) :: κ) else if a < len then .inr (.inl a) else .inr (.inr e.1))
    else .inl (5, 0, a, e, (303, 0) :: κ)
/-- so many steps -/
def nIt (L : Int → Int) (len : Int) : Nat → nSt ⊕ nEn
  | 0 => .inl (22, 0, 0, ([], none, []), [])
  | n + 1 => match nIt L len n with
    | .inl s => nS L len s
    | .inr e => .inr e
theorem nIt_end {L : Int → Int} {len : Int} {n : Nat} {e : nEn} (h : nIt L len n = .inr e) : ∀ m : Nat, nIt L len (n + m) = .inr e
  | 0 => h
  | m + 1 => by
    have ih := nIt_end h m
    show (match nIt L len (n + m) with
      | .inl s => nS L len s
      | .inr e => .inr e) = _
    rw [ih]
theorem nIt_one {L : Int → Int} {len : Int} {n m : Nat} {e f : nEn} (h : nIt L len n = .inr e) (g : nIt L len m = .inr f) : e = f := by
  rcases Nat.le_total n m with k | k
  · have := nIt_end h (m - n)
    rw [show n + (m - n) = m by omega, g] at this
    exact (Sum.inr.inj this).symm
  · have := nIt_end g (n - m)
    rw [show m + (n - m) = n by omega, h] at this
    exact Sum.inr.inj this
theorem nIt_next {L : Int → Int} {len : Int} {n : Nat} {s : nSt} (h : nIt L len n = .inl s) : nIt L len (n + 1) = nS L len s := by
  show (match nIt L len n with
    | .inl s => nS L len s
    | .inr e => .inr e) = _
  rw [h]
/-- what is still to be done, by the number of the step -/
def nK (L : Int → Int) (len : Int) (k : Nat) : List (Int × Int) := match nIt L len k with
  | .inl s => s.2.2.2.2
  | .inr _ => []
def nW (md : Int) : Int := if 0 ≤ md ∧ md ≤ 5 then 15 - 3 * md else if 11 ≤ md ∧ md ≤ 15 then -1 else if md = 20 ∨ md = 21 then 0 else if md = 24 then -1 else -3
theorem nOp_r (c : Int) : 0 ≤ nOp c ∧ nOp c ≤ 5 := by
  unfold nOp
  split
  · omega
  split
  · omega
  split
  · omega
  split
  · omega
  split <;> omega
theorem nNum_ge {L : Int → Int} : ∀ (n : Nat) (a v : Int), a ≤ (nNum L n a v).2
  | 0, a, v => Int.le_refl _
  | n + 1, a, v => by
    simp only [nNum]
    split
    · have := nNum_ge (L := L) n (a + 1) (10 * v + (L a - 48))
      omega
    · exact Int.le_refl _
theorem nNum_gt {L : Int → Int} {n : Nat} {a v : Int} (h : nDg (L a) = true) : a + 1 ≤ (nNum L (n + 1) a v).2 := by
  simp only [nNum]
  rw [if_pos h]
  exact nNum_ge n _ _
/-- each step costs one -/
theorem nS_phi {L : Int → Int} {len : Int} {md o a md' o' a' : Int} {e e' : nEs} {κ κ' : List (Int × Int)} (h : nS L len (md, o, a, e, κ) = .inl (md', o', a', e', κ')) :
    20 * a - 2 * (κ.length : Int) + nW md + 1 ≤ 20 * a' - 2 * (κ'.length : Int) + nW md' := by
  have w0 : nW 0 = 15 := rfl
  have w5 : nW 5 = 0 := rfl
  have w20 : nW 20 = 0 := rfl
  have w21 : nW 21 = 0 := rfl
  have w24 : nW 24 = -1 := rfl
  simp only [nS] at h
  by_cases m0 : md = 0
  · subst m0
    rw [if_pos rfl] at h
    split at h
    · rename_i hd
      cases h
      have := nNum_gt (n := 3) (v := 0) hd
      have e4 : nNum L (3 + 1) a 0 = nNum L 4 a 0 := rfl
      rw [e4] at this
      omega
    split at h
    · cases h; omega
    split at h
    · cases h
      simp only [List.length_cons]
      omega
    split at h
    · cases h
      simp only [List.length_cons]
      omega
    split at h
    · cases h
      simp only [List.length_cons]
      omega
    · cases h
  rw [if_neg m0] at h
  by_cases m1 : 1 ≤ md ∧ md ≤ 5
  · rw [if_pos m1] at h
    cases h
    have e1 : nW md = 15 - 3 * md := by unfold nW; rw [if_pos ⟨by omega, m1.2⟩]
    have e2 : nW (md - 1) = 15 - 3 * (md - 1) := by unfold nW; rw [if_pos ⟨by omega, by omega⟩]
    simp only [List.length_cons]
    omega
  rw [if_neg m1] at h
  by_cases m2 : 11 ≤ md ∧ md ≤ 15
  · rw [if_pos m2] at h
    have e1 : nW md = -1 := by unfold nW; rw [if_neg (by omega), if_pos m2]
    split at h
    · cases h
      have e2 : nW (md - 11) = 15 - 3 * (md - 11) := by unfold nW; rw [if_pos ⟨by omega, by omega⟩]
      simp only [List.length_cons]
      omega
    · cases h; omega
  rw [if_neg m2] at h
  by_cases m3 : md = 20
  · subst m3
    rw [if_pos rfl] at h
    cases κ with
    | nil => cases h
    | cons q r =>
      obtain ⟨t, fo⟩ := q
      simp only at h
      simp only [List.length_cons]
      split at h
      · rename_i ht
        cases h
        have e1 : nW (10 + t) = -1 := by unfold nW; rw [if_neg (by omega), if_pos ⟨by omega, by omega⟩]
        omega
      split at h
      · rename_i ht
        have := nOp_r (t - 100)
        split at h
        · cases h; omega
        · cases h
          have e1 : nW (10 + nOp (t - 100)) = -1 := by unfold nW; rw [if_neg (by omega), if_pos ⟨by omega, by omega⟩]
          omega
      split at h
      · cases h; omega
      split at h
      · cases h; omega
      split at h
      · split at h
        · cases h; omega
        · cases h
      split at h
      · split at h
        · cases h
          simp only [List.length_cons]
          omega
        · cases h; omega
      · cases h; omega
  rw [if_neg m3] at h
  by_cases m4 : md = 24
  · subst m4
    rw [if_pos rfl] at h
    cases h; omega
  rw [if_neg m4] at h
  by_cases m5 : md = 21
  · subst m5
    rw [if_pos rfl] at h
    split at h
    · cases h
      simp only [List.length_cons]
      omega
    split at h
    · cases h
    · cases h
  rw [if_neg m5] at h
  cases h
  have e1 : nW md = -3 := by unfold nW; rw [if_neg (by omega), if_neg m2, if_neg (by omega), if_neg m4]
  simp only [List.length_cons]
  omega
theorem nIt_phi {L : Int → Int} {len : Int} : ∀ (n : Nat) {md o a : Int} {e : nEs} {κ : List (Int × Int)}, nIt L len n = .inl (md, o, a, e, κ) → (n : Int) ≤ 20 * a - 2 * (κ.length : Int) + nW md + 10
  | 0, md, o, a, e, κ, h => by
    cases h
    have : nW 22 = -3 := rfl
    simp only [List.length_nil]
    omega
  | n + 1, md, o, a, e, κ, h => by
    simp only [nIt] at h
    split at h
    · rename_i s hs
      obtain ⟨md1, o1, a1, e1, κ1⟩ := s
      have ih := nIt_phi n hs
      have := nS_phi h
      omega
    · cases h
theorem nIt_cnt {L : Int → Int} {len : Int} {n : Nat} {md o a : Int} {e : nEs} {κ : List (Int × Int)} (h : nIt L len n = .inl (md, o, a, e, κ)) (ha : a ≤ 121) : n ≤ 3000 := by
  have h1 := nIt_phi n h
  have h2 : nW md ≤ 15 := by
    unfold nW
    split
    · omega
    split
    · omega
    split
    · omega
    split <;> omega
  omega
/-- a digit goes on with nothing: the fault is there -/
theorem nIt_dig {L : Int → Int} {len a : Int} (hd : nDg (L a) = true) (hl : a < len) : ∀ (m : Nat) {n : Nat} {md o : Int} {e : nEs} {κ : List (Int × Int)}, κ.length ≤ m → (md = 20 ∨ md = 21 ∨ md = 24 ∨ (11 ≤ md ∧ md ≤ 15)) → nIt L len n = .inl (md, o, a, e, κ) → ∃ n', nIt L len n' = .inr (.inl a) := by
  have hr : 48 ≤ L a ∧ L a ≤ 57 := of_decide_eq_true hd
  have hop : nOp (L a) = 0 := by
    unfold nOp
    rw [if_neg (by omega), if_neg (by omega), if_neg (by omega), if_neg (by omega), if_neg (by omega)]
  -- between lines
  have k21 : ∀ {n : Nat} {o : Int} {e : nEs} {κ : List (Int × Int)}, nIt L len n = .inl (21, o, a, e, κ) → ∃ n', nIt L len n' = .inr (.inl a) := fun {n o e κ} h => by
    refine ⟨n + 1, ?_⟩
    rw [nIt_next h]
    simp only [nS]
    rw [if_neg (by omega), if_neg (by omega), if_neg (by omega), if_neg (by omega), if_neg (by omega), if_pos (by trivial), if_neg (by omega), if_pos hl]
  have k24 : ∀ {n : Nat} {o : Int} {e : nEs} {κ : List (Int × Int)}, nIt L len n = .inl (24, o, a, e, κ) → ∃ n', nIt L len n' = .inr (.inl a) := fun {n o e κ} h => by
    refine k21 (n := n + 1) (o := o) (e := (e.1 ++ [(e.2.1, e.2.2)], none, [])) (κ := κ) ?_
    rw [nIt_next h]
    simp only [nS]
    rw [if_neg (by omega), if_neg (by omega), if_neg (by omega), if_neg (by omega), if_pos (by trivial)]
  intro m
  induction m with
  | zero =>
    intro n md o e κ hκ hmd h
    have hk : κ = [] := List.length_eq_zero_iff.mp (by omega)
    subst hk
    have k20 : ∀ {n : Nat} {o : Int} {e : nEs}, nIt L len n = .inl (20, o, a, e, []) → ∃ n', nIt L len n' = .inr (.inl a) := fun {n o e} h => by
      refine ⟨n + 1, ?_⟩
      rw [nIt_next h]
      simp only [nS]
      rw [if_neg (by omega), if_neg (by omega), if_neg (by omega), if_pos (by trivial)]
    rcases hmd with rfl | rfl | rfl | hmd
    · exact k20 h
    · exact k21 h
    · exact k24 h
    · refine k20 (n := n + 1) (o := 0) (e := e) ?_
      rw [nIt_next h]
      simp only [nS]
      rw [if_neg (by omega), if_neg (by omega), if_pos hmd, if_neg (by omega)]
  | succ m ih =>
    intro n md o e κ hκ hmd h
    have k20 : ∀ {n : Nat} {o : Int} {e : nEs} {κ : List (Int × Int)}, κ.length ≤ m + 1 → nIt L len n = .inl (20, o, a, e, κ) → ∃ n', nIt L len n' = .inr (.inl a) := fun {n o e κ} hκ h => by
      have hn := nIt_next h
      simp only [nS] at hn
      rw [if_neg (by omega), if_neg (by omega), if_neg (by omega), if_pos (by trivial)] at hn
      cases κ with
      | nil => exact ⟨_, hn⟩
      | cons q r =>
        obtain ⟨t, fo⟩ := q
        simp only [List.length_cons] at hκ
        have hκ' : r.length ≤ m := by omega
        simp only at hn
        split at hn
        · exact ih hκ' (Or.inr (Or.inr (Or.inr ⟨by omega, by omega⟩))) hn
        split at hn
        · rename_i h1 h2
          have := nOp_r (t - 100)
          split at hn
          · exact ih hκ' (Or.inl rfl) hn
          · exact ih hκ' (Or.inr (Or.inr (Or.inr ⟨by omega, by omega⟩))) hn
        split at hn
        · exact ih hκ' (Or.inl rfl) hn
        split at hn
        · exact ih hκ' (Or.inl rfl) hn
        split at hn
        · rw [if_neg (by omega)] at hn
          exact ⟨_, hn⟩
        split at hn
        · rw [if_neg (by omega)] at hn
          exact k21 hn
        · exact k24 hn
    rcases hmd with rfl | rfl | rfl | hmd
    · exact k20 hκ h
    · exact k21 h
    · exact k24 h
    · refine k20 (n := n + 1) (o := 0) (e := e) hκ ?_
      rw [nIt_next h]
      simp only [nS]
      rw [if_neg (by omega), if_neg (by omega), if_pos hmd, if_neg (by omega)]
def nOkS (x : nSp) : Prop := (x.1 = 1 ∧ 0 ≤ x.2 ∧ x.2 ≤ 9999) ∨ (x.1 = 2 ∧ 0 ≤ x.2 ∧ x.2 ≤ 5) ∨ (x.1 = 3 ∧ x.2 = 0) ∨ (x.1 = 4 ∧ x.2 = 0) ∨ (1 ≤ nOp x.1 ∧ x.2 = 0)
theorem nTen : ∀ n : Nat, (1 : Int) ≤ 10 ^ n
  | 0 => by simp
  | n + 1 => by
    rw [Int.pow_succ]
    have := nTen n
    omega
theorem nNum_r {L : Int → Int} : ∀ (n : Nat) (a v : Int), 0 ≤ v → 0 ≤ (nNum L n a v).1 ∧ (nNum L n a v).1 + 1 ≤ (v + 1) * 10 ^ n
  | 0, a, v, h => by simp only [nNum]; omega
  | n + 1, a, v, h => by
    simp only [nNum]
    split
    · rename_i hd
      have hd : 48 ≤ L a ∧ L a ≤ 57 := of_decide_eq_true hd
      have ih := nNum_r (L := L) n (a + 1) (10 * v + (L a - 48)) (by omega)
      have h10 : (0 : Int) ≤ 10 ^ n := Int.pow_nonneg (by decide)
      have : (10 * v + (L a - 48) + 1) * 10 ^ n ≤ (10 * v + 10) * 10 ^ n := Int.mul_le_mul_of_nonneg_right (by omega) h10
      have e : (10 * v + 10) * (10 : Int) ^ n = (v + 1) * 10 ^ (n + 1) := by
        rw [Int.pow_succ, show 10 * v + 10 = (v + 1) * 10 by omega, Int.mul_assoc, Int.mul_comm 10]
      exact ⟨ih.1, by omega⟩
    · have h10 : (1 : Int) ≤ 10 ^ (n + 1) := nTen (n + 1)
      have : (v + 1) * 1 ≤ (v + 1) * 10 ^ (n + 1) := Int.mul_le_mul_of_nonneg_left h10 (by omega)
      exact ⟨h, by omega⟩
theorem nNm_r (c : Int) : nNm c ≤ 5 := by
  unfold nNm
  split
  · omega
  split
  · omega
  split
  · omega
  split
  · omega
  split
  · omega
  split <;> omega
/-- what a step does to what is laid -/
theorem nS_cases {L : Int → Int} {len : Int} {md o a md' o' a' : Int} {e e' : nEs} {κ κ' : List (Int × Int)} (h : nS L len (md, o, a, e, κ) = .inl (md', o', a', e', κ')) :
    (e' = e ∧ md' ≠ 21 ∧ ((md' = 20 ∨ md' = 24 ∨ (11 ≤ md' ∧ md' ≤ 15)) → md = 20 ∨ (11 ≤ md ∧ md ≤ 15))) ∨ (∃ x, nOkS x ∧ e' = nAd e x ∧ md' ≠ 21) ∨ (md = 20 ∧ md' = 5 ∧ e' = (e.1, some e.2.2, [])) ∨ (md = 20 ∧ md' = 21 ∧ e' = (e.1 ++ [(none, e.2.2)], none, [])) ∨ (md = 24 ∧ md' = 21 ∧ e' = (e.1 ++ [(e.2.1, e.2.2)], none, [])) := by
  simp only [nS] at h
  by_cases m0 : md = 0
  · subst m0
    rw [if_pos rfl] at h
    split at h
    · cases h
      have hnr := nNum_r (L := L) 4 a 0 (by omega)
      exact Or.inr (Or.inl ⟨_, Or.inl ⟨rfl, hnr.1, by have := hnr.2; simp at this; omega⟩, rfl, by omega⟩)
    split at h
    · rename_i hn
      cases h
      exact Or.inr (Or.inl ⟨_, Or.inr (Or.inl ⟨rfl, hn, nNm_r _⟩), rfl, by omega⟩)
    split at h
    · cases h; exact Or.inl ⟨rfl, by omega, fun c => by omega⟩
    split at h
    · cases h; exact Or.inl ⟨rfl, by omega, fun c => by omega⟩
    split at h
    · cases h; exact Or.inl ⟨rfl, by omega, fun c => by omega⟩
    · cases h
  rw [if_neg m0] at h
  by_cases m1 : 1 ≤ md ∧ md ≤ 5
  · rw [if_pos m1] at h
    cases h; exact Or.inl ⟨rfl, by omega, fun c => by omega⟩
  rw [if_neg m1] at h
  by_cases m2 : 11 ≤ md ∧ md ≤ 15
  · rw [if_pos m2] at h
    split at h
    · cases h; exact Or.inl ⟨rfl, by omega, fun c => by omega⟩
    · cases h; exact Or.inl ⟨rfl, by omega, fun c => by omega⟩
  rw [if_neg m2] at h
  by_cases m3 : md = 20
  · subst m3
    rw [if_pos rfl] at h
    cases κ with
    | nil => cases h
    | cons q r =>
      obtain ⟨t, fo⟩ := q
      have ho := nOp_r (t - 100)
      simp only at h
      split at h
      · cases h; exact Or.inl ⟨rfl, by omega, fun c => by omega⟩
      split at h
      · rename_i ht5 ht
        split at h
        · cases h; exact Or.inr (Or.inl ⟨_, Or.inr (Or.inr (Or.inr (Or.inr ⟨ht, rfl⟩))), rfl, by omega⟩)
        · cases h; exact Or.inr (Or.inl ⟨_, Or.inr (Or.inr (Or.inr (Or.inr ⟨ht, rfl⟩))), rfl, by omega⟩)
      split at h
      · cases h; exact Or.inr (Or.inl ⟨_, Or.inr (Or.inr (Or.inl ⟨rfl, rfl⟩)), rfl, by omega⟩)
      split at h
      · cases h; exact Or.inr (Or.inl ⟨_, Or.inr (Or.inr (Or.inr (Or.inl ⟨rfl, rfl⟩))), rfl, by omega⟩)
      split at h
      · split at h
        · cases h; exact Or.inl ⟨rfl, by omega, fun c => by omega⟩
        · cases h
      split at h
      · split at h
        · cases h; exact Or.inr (Or.inr (Or.inl ⟨rfl, rfl, rfl⟩))
        · cases h; exact Or.inr (Or.inr (Or.inr (Or.inl ⟨rfl, rfl, rfl⟩)))
      · cases h; exact Or.inl ⟨rfl, by omega, fun c => by omega⟩
  rw [if_neg m3] at h
  by_cases m4 : md = 24
  · subst m4
    rw [if_pos rfl] at h
    cases h; exact Or.inr (Or.inr (Or.inr (Or.inr ⟨rfl, rfl, rfl⟩)))
  rw [if_neg m4] at h
  by_cases m5 : md = 21
  · subst m5
    rw [if_pos rfl] at h
    split at h
    · cases h; exact Or.inl ⟨rfl, by omega, fun c => by omega⟩
    split at h
    · cases h
    · cases h
  rw [if_neg m5] at h
  cases h; exact Or.inl ⟨rfl, by omega, fun c => by omega⟩
/-- behind an operand something is laid; between lines nothing is under way -/
def nInv (s : nSt) : Prop := ((s.1 = 20 ∨ s.1 = 24 ∨ (11 ≤ s.1 ∧ s.1 ≤ 15)) → s.2.2.2.1.2.2 ≠ []) ∧ (∀ l ∈ s.2.2.2.1.1, ∀ t, l.1 = some t → t ≠ []) ∧ (∀ t, s.2.2.2.1.2.1 = some t → t ≠ []) ∧ (s.1 = 21 → s.2.2.2.1.2 = (none, []))
theorem nS_inv {L : Int → Int} {len : Int} {s s' : nSt} (h : nS L len s = .inl s') (hs : nInv s) : nInv s' := by
  obtain ⟨md, o, a, e, κ⟩ := s
  obtain ⟨md', o', a', e', κ'⟩ := s'
  obtain ⟨h1, h2, h3, -⟩ := hs
  simp only at h1 h2 h3
  have app : ∀ {t0 : Option (List nSp)}, (∀ t, t0 = some t → t ≠ []) → md' = 21 → e' = (e.1 ++ [((t0, e.2.2) : nLi)], none, []) → nInv (md', o', a', e', κ') := fun {t0} ht hm he => by
    subst he
    subst hm
    exact ⟨fun c => absurd c (by simp only; omega), fun l hl t hlt => (by
      rcases List.mem_append.mp hl with hl | hl
      · exact h2 l hl t hlt
      · rw [List.mem_singleton.mp hl] at hlt
        exact ht t hlt), fun t ht => (by cases ht), fun _ => rfl⟩
  rcases nS_cases h with ⟨rfl, n1, n2⟩ | ⟨x, -, rfl, n1⟩ | ⟨m1, m2, rfl⟩ | ⟨m1, m2, m3⟩ | ⟨m1, m2, m3⟩
  · exact ⟨fun c => h1 (by have := n2 c; omega), h2, h3, fun c => absurd c n1⟩
  · exact ⟨fun _ => by simp [nAd], h2, h3, fun c => absurd c n1⟩
  · exact ⟨fun c => absurd c (by simp only; omega), h2, fun t ht => (by
      cases ht
      exact h1 (Or.inl m1)), fun c => absurd c (by simp only; omega)⟩
  · exact app (t0 := none) (fun t ht => by cases ht) m2 m3
  · exact app h3 m2 m3
theorem nIt_inv {L : Int → Int} {len : Int} : ∀ (n : Nat) {s : nSt}, nIt L len n = .inl s → nInv s
  | 0, s, h => by
    cases h
    exact ⟨fun c => absurd c (by simp only; omega), fun l hl => (by cases hl), fun t ht => (by cases ht), fun c => absurd c (by simp only; omega)⟩
  | n + 1, s, h => by
    simp only [nIt] at h
    split at h
    · rename_i s0 hs
      exact nS_inv h (nIt_inv n hs)
    · cases h
/-- how an end comes -/
theorem nS_end {L : Int → Int} {len : Int} {md o a : Int} {e : nEs} {κ : List (Int × Int)} {d : List nLi} (h : nS L len (md, o, a, e, κ) = .inr (.inr d)) : d = e.1 := by
  simp only [nS] at h
  by_cases m0 : md = 0
  · subst m0
    rw [if_pos rfl] at h
    split at h
    · cases h
    split at h
    · cases h
    split at h
    · cases h
    split at h
    · cases h
    split at h
    · cases h
    · cases h
  rw [if_neg m0] at h
  by_cases m1 : 1 ≤ md ∧ md ≤ 5
  · rw [if_pos m1] at h
    cases h
  rw [if_neg m1] at h
  by_cases m2 : 11 ≤ md ∧ md ≤ 15
  · rw [if_pos m2] at h
    split at h
    · cases h
    · cases h
  rw [if_neg m2] at h
  by_cases m3 : md = 20
  · subst m3
    rw [if_pos rfl] at h
    cases κ with
    | nil => cases h
    | cons q r =>
      obtain ⟨t, fo⟩ := q
      have ho := nOp_r (t - 100)
      simp only at h
      split at h
      · cases h
      split at h
      · rename_i ht5 ht
        split at h
        · cases h
        · cases h
      split at h
      · cases h
      split at h
      · cases h
      split at h
      · split at h
        · cases h
        · cases h
      split at h
      · split at h
        · cases h
        · cases h
      · cases h
  rw [if_neg m3] at h
  by_cases m4 : md = 24
  · subst m4
    rw [if_pos rfl] at h
    cases h
  rw [if_neg m4] at h
  by_cases m5 : md = 21
  · subst m5
    rw [if_pos rfl] at h
    split at h
    · cases h
    split at h
    · cases h
    · cases h; rfl
  rw [if_neg m5] at h
  cases h
theorem nIt_endl {L : Int → Int} {len : Int} : ∀ (n : Nat) {d : List nLi}, nIt L len n = .inr (.inr d) → ∀ l ∈ d, ∀ t, l.1 = some t → t ≠ []
  | 0, d, h => by cases h
  | n + 1, d, h => by
    simp only [nIt] at h
    split at h
    · rename_i s0 hs
      have hi := nIt_inv n hs
      obtain ⟨md, o, a, e, κ⟩ := s0
      cases nS_end h
      exact hi.2.1
    · rename_i e0 hs
      cases h
      exact nIt_endl n hs
end
