/-! THE LAW worked out. -/
noncomputable section
/-- what a sign makes of two numbers -/
def nJ (c : Int) (a b : Int32) : Int32 :=
  if c = 43 then a + b else if c = 45 then a - b else if c = 42 then a * b
  else if c = 47 then (if b = 0 then 0 else a / b) else if c = 37 then (if b = 0 then 0 else a - a / b * b)
  else if c = 60 then (if a < b then 1 else 0) else if c = 61 then (if a = b then 1 else 0) else if c = 62 then (if b < a then 1 else 0)
  else if c = 38 then (if a ≠ 0 ∧ b ≠ 0 then 1 else 0) else (if a ≠ 0 ∨ b ≠ 0 then 1 else 0)
/-- one step on a stack, the top first -/
def nSt1 (F : Int → Int32) (x : nSp) (st : List Int32) : List Int32 :=
  if x.1 = 1 then Int32.ofInt x.2 :: st else if x.1 = 2 then F x.2 :: st
  else if x.1 = 3 then (match st with
    | a :: r => (if a = 0 then 1 else 0) :: r
    | [] => [])
  else if x.1 = 4 then (match st with
    | a :: r => (-a) :: r
    | [] => [])
  else (match st with
    | b :: a :: r => nJ x.1 a b :: r
    | s => s)
def nRun (F : Int → Int32) (q : List nSp) (st : List Int32) : List Int32 := q.foldl (fun s x => nSt1 F x s) st
def nTv (st : List Int32) : Int32 := st.head?.getD 0
def nVal (F : Int → Int32) (q : List nSp) : Int32 := nTv (nRun F q [])
/-- what the lines come to -/
def nEv (F : Int → Int32) : List nLi → Int32
  | [] => 0
  | (none, v) :: _ => nVal F v
  | (some t, v) :: r => if nVal F t ≠ 0 then nVal F v else nEv F r
theorem nRun_app (F : Int → Int32) (p q : List nSp) (st : List Int32) : nRun F (p ++ q) st = nRun F q (nRun F p st) := by
  unfold nRun
  rw [List.foldl_append]
theorem nSt1_len {F : Int → Int32} {x : nSp} {st : List Int32} {n : Nat} (h : kOp x.1 x.2 st.length = some n) : (nSt1 F x st).length = n := by
  unfold kOp at h
  unfold nSt1
  split at h
  · rename_i h1
    cases h
    rw [if_pos h1]
    rfl
  rename_i h1
  rw [if_neg h1]
  split at h
  · rename_i h2
    split at h
    · cases h
      rw [if_pos h2]
      rfl
    · cases h
  rename_i h2
  rw [if_neg h2]
  split at h
  · rename_i h3
    split at h
    · cases h
      rcases h3 with h3 | h3
      · rw [if_pos h3]
        cases st <;> simp_all
      · rw [if_neg (by omega), if_pos h3]
        cases st <;> simp_all
    · cases h
  · rename_i h3
    rw [if_neg (by omega), if_neg (by omega)]
    split at h
    · rename_i h4
      cases h
      match st, h4 with
      | b :: a :: r, _ => simp
    · cases h
theorem nRun_len {F : Int → Int32} : ∀ {q : List nSp} {st : List Int32} {n : Nat}, nHt st.length q = some n → (nRun F q st).length = n
  | [], st, n, h => by
    cases h
    rfl
  | x :: r, st, n, h => by
    simp only [nHt] at h
    split at h
    · rename_i m hm
      have := nSt1_len (F := F) hm
      rw [← this] at h
      exact nRun_len (F := F) (q := r) (st := nSt1 F x st) h
    · cases h
theorem nHt_app : ∀ {p q : List nSp} {h : Nat}, nHt h (p ++ q) = (nHt h p).bind (fun n => nHt n q)
  | [], q, h => rfl
  | x :: r, q, h => by
    simp only [List.cons_append, nHt]
    cases kOp x.1 x.2 h with
    | none => rfl
    | some n => exact nHt_app (p := r)
/-- rows as steps -/
def nSeg (A W : Nat → Int32) (s m : Nat) : List nSp := (List.range m).map (fun i => ((A (s + i)).toInt, (W (s + i)).toInt))
theorem nSeg_succ (A W : Nat → Int32) (s m : Nat) : nSeg A W s (m + 1) = nSeg A W s m ++ [((A (s + m)).toInt, (W (s + m)).toInt)] := by
  unfold nSeg
  rw [List.range_succ, List.map_append]
  rfl
theorem nSeg_wk (A W : Nat → Int32) (s : Nat) : ∀ m : Nat, nHt 0 (nSeg A W s m) = kWk A W s m
  | 0 => rfl
  | m + 1 => by
    rw [nSeg_succ, nHt_app, nSeg_wk A W s m]
    simp only [kWk]
    cases kWk A W s m with
    | none => rfl
    | some n =>
      simp only [Option.bind_some, nHt]
      cases kOp (A (s + m)).toInt (W (s + m)).toInt n <;> rfl
theorem nSeg_len (A W : Nat → Int32) (s m : Nat) : (nSeg A W s m).length = m := by simp [nSeg]
/-- what rows hold, as steps -/
theorem nSeg_ag {A W : Nat → Int32} {s : Nat} {q : List nSp} (h : nAg2 A W s q) (hr : ∀ x ∈ q, (-2147483648 ≤ x.1 ∧ x.1 ≤ 2147483647) ∧ (-2147483648 ≤ x.2 ∧ x.2 ≤ 2147483647)) : nSeg A W s q.length = q := by
  apply List.ext_getElem?
  intro i
  by_cases hi : i < q.length
  · have hx : q[i]? = some q[i] := List.getElem?_eq_getElem hi
    obtain ⟨h1, h2⟩ := h i _ hx
    have hb := hr q[i] (List.getElem_mem hi)
    rw [hx]
    unfold nSeg
    rw [List.getElem?_map, List.getElem?_range hi]
    simp only [Option.map_some, Option.some.injEq]
    rw [h1, h2, sTo32 hb.1.1 hb.1.2, sTo32 hb.2.1 hb.2.2]
  · rw [List.getElem?_eq_none (by rw [nSeg_len]; omega), List.getElem?_eq_none (by omega)]
theorem nOkS_r {x : nSp} (h : nOkS x) : (-2147483648 ≤ x.1 ∧ x.1 ≤ 2147483647) ∧ (-2147483648 ≤ x.2 ∧ x.2 ≤ 2147483647) := by
  rcases h with h | h | h | h | ⟨h, h2⟩
  · omega
  · omega
  · omega
  · omega
  · have : x.1 = 42 ∨ x.1 = 47 ∨ x.1 = 37 ∨ x.1 = 43 ∨ x.1 = 45 ∨ x.1 = 60 ∨ x.1 = 61 ∨ x.1 = 62 ∨ x.1 = 38 ∨ x.1 = 124 := by
      unfold nOp at h
      split at h
      · omega
      split at h
      · omega
      split at h
      · omega
      split at h
      · omega
      split at h
      · omega
      · omega
    omega
/-- the class' numbers as a stack's top -/
def nClip (u : Int) : Int := if u < -99 then -99 else if 99 < u then 99 else u
/-- the six numbers that the law may name -/
def nFs (fs : List Int) (w : Int) : Int32 := Int32.ofInt (fs[w.toNat]?.getD 0)
end
