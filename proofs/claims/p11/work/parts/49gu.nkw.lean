/-! What of the further atoms a write leaves. -/
noncomputable section
/-- the top two of a stack, told apart at a write to them -/
def nTk (Γ : sG) (γ : List kA) (j k1 k2 : Nat) (i t : sL) (k0 : Nat) (fs : List sL) : List kA :=
  if sNN Γ (sSub i t) = true then [(k0, fs)] else match kFindEl γ j (sSub t (sC 1)) with
    | none => []
    | some u => if i = sSub t (sC 1) then [(k1, fs ++ [u])] else match kFindEl γ j (sSub t (sC 2)) with
      | some w => if i = sSub t (sC 2) then [(k2, fs ++ [w, u])] else []
      | none => []
def nKW2 (Γ : sG) (γ : List kA) (j : Nat) (i v : sL) (q : kA) : List kA :=
  if q.1 = 65 ∧ j = 23 then (match q.2 with
    | [a, b, t, c, n1, n2, n3, n4, n5, n6] => nTk Γ γ 23 66 67 i t 65 [a, b, t, c, n1, n2, n3, n4, n5, n6]
    | _ => [])
  else if q.1 = 68 ∧ j = 71 then (match q.2 with
    | [a, b, t] => nTk Γ γ 71 69 70 i t 68 [a, b, t]
    | _ => [])
  else if (75 ≤ q.1 ∧ q.1 < 81) ∧ (j = 3 + (q.1 - 75) ∨ j = 53 + (q.1 - 75)) then (match q.2 with
    | [e] => if e = sC (-1) ∨ e = i then [(q.1, [i])] else []
    | _ => [])
  else if q.1 = 82 ∧ j = 26 then (match q.2 with
    | [a, b] => [(83, [a, b, i])]
    | _ => [])
  else if q.1 = 84 ∧ j = 26 then (match q.2 with
    | [a] => [(95, [a, i])]
    | _ => [])
  else if q.1 = 86 ∧ j = 25 then (match q.2 with
    | [_, n] => if sNN Γ (sSub i n) = true then [q] else []
    | _ => [])
  else if q.1 = 87 ∧ j = 72 then (match q.2 with
    | [_, n] => if sNN Γ (sSub i n) = true then [q] else []
    | _ => [])
  else if q.1 = 96 ∧ ((14 ≤ j ∧ j ≤ 17) ∨ (60 ≤ j ∧ j ≤ 63)) then (match q.2 with
    | [e] => if e = sC (-1) ∨ e = i then [(96, [i])] else []
    | _ => [])
  else if q.1 = 98 ∧ (60 ≤ j ∧ j ≤ 63) then (match q.2 with
    | [k] => if i = sSub k (sC 1) then [q] else []
    | _ => [])
  else if q.1 = 98 ∧ (14 ≤ j ∧ j ≤ 17) then (if sNN Γ (sSub i (sC 39)) = true then [q] else [])
  else if q.1 = 99 ∧ (3 ≤ j ∧ j ≤ 5) then (match q.2 with
    | [e, w, t] => if i = sAdd w t then [(100, [e, w, t, i])] else []
    | _ => [])
  else if q.1 = 99 ∧ (53 ≤ j ∧ j ≤ 55) then (match q.2 with
    | [_, w, t] => if i = w ∧ sNN Γ (sSub t (sC 1)) = true then [q] else []
    | _ => [])
  else if q.1 = 100 ∧ (3 ≤ j ∧ j ≤ 5) then (match q.2 with
    | [_, _, _, i'] => if i = i' then [q] else []
    | _ => [])
  else if q.1 = 101 ∧ j = 78 then (match q.2 with
    | [n, k] => if i = k ∧ kFindEl γ 56 i = some v ∧ sNN Γ (sSub (sSub n k) (sC 1)) = true then [(101, [n, sAdd k (sC 1)])] else []
    | _ => [])
  else if q.1 = 102 ∧ j = 56 then (match q.2 with
    | [n, k] => if i = k ∧ kFindEl γ 78 i = some v ∧ sNN Γ (sSub (sSub n k) (sC 1)) = true then [(102, [n, sAdd k (sC 1)])] else []
    | _ => [])
  else []
theorem kUpd_at {c j i : Nat} {x : Int32} {f : Nat → Int32} (h : c = j) : kUpd c j i x f i = x := by
  unfold kUpd
  rw [if_pos h]
  simp [upd]
section NKWX
variable {H : List eE} {j n : Nat} {zi : Int} {x : Int32} {ty : FieldType} {g : Nat → Int32}
theorem nI2_set {c m : Nat} {f : Nat → Int32} (hj : H[j]? = some (.inl (ty, n, .inl g))) (h : nI2 H c m f) : nI2 (H.set j (.inl (ty, n, .inl (upd g zi.toNat x)))) c m (kUpd c j zi.toNat x f) := kCell_set h hj
theorem nSet_ne {c : Nat} {y : eE} (h : c ≠ j) : (H.set j y)[c]? = H[c]? := List.getElem?_set_ne (fun e => h e.symm)
theorem nSk_w {P : Nat → Int32} {st : List Int32} {c : Nat} (h : nSk P st) (hz : (st.length : Int) ≤ zi) : nSk (kUpd c j zi.toNat x P) st := fun i y hy => by
  have hl := (List.getElem?_eq_some_iff.mp hy).1
  rw [List.length_reverse] at hl
  rw [kUpd_ne (by omega)]
  exact h i y hy
theorem nXS_w {size a top step : Int} {fs pend : List Int} (h0 : 0 ≤ zi) (hj : H[23]? = some (.inl (ty, n, .inl g))) (hz : top ≤ zi) (h : nXS size a top step fs [] H) : nXS size a top step fs [] (H.set 23 (.inl (ty, n, .inl (upd g zi.toNat x)))) := by
  obtain ⟨C, P, d, st, c1, c2, c3, c4, c5, c6, c7, c8, c9, c10, c11⟩ := h
  refine ⟨kUpd 22 23 zi.toNat x C, kUpd 23 23 zi.toNat x P, d, st, nI2_set hj c1, nI2_set hj c2, nLaw_fr (fun c hc => nSet_ne (by simp [nAR] at hc; omega)) c3, c4, c5, c6, c7, c8, c9, nSk_w c10 (by simp only [List.length_nil] at c9; omega), ?_⟩
  rw [kUpd_off (by decide)]
  exact c11
/-- so many of a stack's top, told apart -/
theorem nSk_top {P : Nat → Int32} {st : List Int32} {top : Int} (h : nSk P st) (ht : top = (st.length : Int)) (h1 : 1 ≤ top) : ∃ y r, st = y :: r ∧ P (top - 1).toNat = y ∧ nSk P r ∧ top - 1 = (r.length : Int) := by
  cases st with
  | nil => simp only [List.length_nil] at ht; omega
  | cons y r =>
    obtain ⟨g1, g2⟩ := nSk_cons.mp h
    simp only [List.length_cons] at ht
    exact ⟨y, r, rfl, by rw [show (top - 1).toNat = r.length by omega]; exact g2, g1, by omega⟩
theorem nXS_w1 {size a top step u : Int} {fs : List Int} (h0 : 0 ≤ zi) (hj : H[23]? = some (.inl (ty, n, .inl g))) (hz : zi = top - 1) (hu : kEl 23 (top - 1) u H) (h : nXS size a top step fs [] H) : nXS size a top step fs [u] (H.set 23 (.inl (ty, n, .inl (upd g zi.toNat x)))) := by
  obtain ⟨C, P, d, st, c1, c2, c3, c4, c5, c6, c7, c8, c9, c10, c11⟩ := h
  simp only [List.length_nil, Nat.zero_add] at c9
  obtain ⟨y, r, rfl, g1, g2, g3⟩ := nSk_top c10 c9 (by omega)
  have hy : y = Int32.ofInt u := by rw [← g1]; exact (kElA hu c2).2
  subst hy
  refine ⟨kUpd 22 23 zi.toNat x C, kUpd 23 23 zi.toNat x P, d, r, nI2_set hj c1, nI2_set hj c2, nLaw_fr (fun c hc => nSet_ne (by simp [nAR] at hc; omega)) c3, c4, c5, c6, c7, c8, by simp only [List.length_singleton]; omega, nSk_w g2 (by omega), ?_⟩
  rw [kUpd_off (by decide)]
  exact c11
theorem nXS_w2 {size a top step u w : Int} {fs : List Int} (h0 : 0 ≤ zi) (hj : H[23]? = some (.inl (ty, n, .inl g))) (hz : zi = top - 2) (hu : kEl 23 (top - 1) u H) (hw : kEl 23 (top - 2) w H) (h : nXS size a top step fs [] H) : nXS size a top step fs [u, w] (H.set 23 (.inl (ty, n, .inl (upd g zi.toNat x)))) := by
  obtain ⟨C, P, d, st, c1, c2, c3, c4, c5, c6, c7, c8, c9, c10, c11⟩ := h
  simp only [List.length_nil, Nat.zero_add] at c9
  obtain ⟨y, r, rfl, g1, g2, g3⟩ := nSk_top c10 c9 (by omega)
  obtain ⟨y2, r2, rfl, k1, k2, k3⟩ := nSk_top g2 g3 (by omega)
  have hy : y = Int32.ofInt u := by rw [← g1]; exact (kElA hu c2).2
  have hy2 : y2 = Int32.ofInt w := by rw [← k1, show top - 1 - 1 = top - 2 by omega]; exact (kElA hw c2).2
  subst hy
  subst hy2
  refine ⟨kUpd 22 23 zi.toNat x C, kUpd 23 23 zi.toNat x P, d, r2, nI2_set hj c1, nI2_set hj c2, nLaw_fr (fun c hc => nSet_ne (by simp [nAR] at hc; omega)) c3, c4, c5, c6, c7, c8, by simp only [List.length_cons, List.length_nil]; omega, nSk_w k2 (by omega), ?_⟩
  rw [kUpd_off (by decide)]
  exact c11
theorem nWS_w {s k t : Int} (h0 : 0 ≤ zi) (hj : H[71]? = some (.inl (ty, n, .inl g))) (hz : t ≤ zi) (h : nWS s k t [] H) : nWS s k t [] (H.set 71 (.inl (ty, n, .inl (upd g zi.toNat x)))) := by
  obtain ⟨A, W, F, P, st, c1, c2, c3, c4, c5, c6, c7, c8⟩ := h
  refine ⟨kUpd 65 71 zi.toNat x A, kUpd 66 71 zi.toNat x W, kUpd 70 71 zi.toNat x F, kUpd 71 71 zi.toNat x P, st, kAW_set hj c1, nI2_set hj c2, nI2_set hj c3, c4, c5, c6, nSk_w c7 (by simp only [List.length_nil] at c6; omega), ?_⟩
  rw [kUpd_off (by decide), kUpd_off (by decide), kUpd_off (by decide)]
  exact c8
theorem nWS_w1 {s k t u : Int} (h0 : 0 ≤ zi) (hj : H[71]? = some (.inl (ty, n, .inl g))) (hz : zi = t - 1) (hu : kEl 71 (t - 1) u H) (h : nWS s k t [] H) : nWS s k t [u] (H.set 71 (.inl (ty, n, .inl (upd g zi.toNat x)))) := by
  obtain ⟨A, W, F, P, st, c1, c2, c3, c4, c5, c6, c7, c8⟩ := h
  simp only [List.length_nil, Nat.zero_add] at c6
  obtain ⟨y, r, rfl, g1, g2, g3⟩ := nSk_top c7 c6 (by omega)
  have hy : y = Int32.ofInt u := by rw [← g1]; exact (kElA hu c3).2
  subst hy
  refine ⟨kUpd 65 71 zi.toNat x A, kUpd 66 71 zi.toNat x W, kUpd 70 71 zi.toNat x F, kUpd 71 71 zi.toNat x P, r, kAW_set hj c1, nI2_set hj c2, nI2_set hj c3, c4, c5, by simp only [List.length_singleton]; omega, nSk_w g2 (by omega), ?_⟩
  rw [kUpd_off (by decide), kUpd_off (by decide), kUpd_off (by decide)]
  exact c8
theorem nWS_w2 {s k t u w : Int} (h0 : 0 ≤ zi) (hj : H[71]? = some (.inl (ty, n, .inl g))) (hz : zi = t - 2) (hu : kEl 71 (t - 1) u H) (hw : kEl 71 (t - 2) w H) (h : nWS s k t [] H) : nWS s k t [u, w] (H.set 71 (.inl (ty, n, .inl (upd g zi.toNat x)))) := by
  obtain ⟨A, W, F, P, st, c1, c2, c3, c4, c5, c6, c7, c8⟩ := h
  simp only [List.length_nil, Nat.zero_add] at c6
  obtain ⟨y, r, rfl, g1, g2, g3⟩ := nSk_top c7 c6 (by omega)
  obtain ⟨y2, r2, rfl, k1, k2, k3⟩ := nSk_top g2 g3 (by omega)
  have hy : y = Int32.ofInt u := by rw [← g1]; exact (kElA hu c3).2
  have hy2 : y2 = Int32.ofInt w := by rw [← k1, show t - 1 - 1 = t - 2 by omega]; exact (kElA hw c3).2
  subst hy
  subst hy2
  refine ⟨kUpd 65 71 zi.toNat x A, kUpd 66 71 zi.toNat x W, kUpd 70 71 zi.toNat x F, kUpd 71 71 zi.toNat x P, r2, kAW_set hj c1, nI2_set hj c2, nI2_set hj c3, c4, c5, by simp only [List.length_cons, List.length_nil]; omega, nSk_w k2 (by omega), ?_⟩
  rw [kUpd_off (by decide), kUpd_off (by decide), kUpd_off (by decide)]
  exact c8
theorem nNE_w {t : Nat} {e : Int} (h0 : 0 ≤ zi) (hj : H[j]? = some (.inl (ty, n, .inl g))) (he : e = -1 ∨ e = zi) (h : nNE t e H) : nNE t zi (H.set j (.inl (ty, n, .inl (upd g zi.toNat x)))) := by
  obtain ⟨f, g2, h1, h2, h3⟩ := h
  refine ⟨_, _, nI2_set hj h1, nI2_set hj h2, fun i hi hne => ?_⟩
  rw [kUpd_ne (by omega), kUpd_ne (by omega)]
  exact h3 i hi (by omega)
theorem nSP_w {c m c0 : Nat} {base len : Int} (hc : c0 = c) (h0 : 0 ≤ zi) (hj : H[c]? = some (.inl (ty, n, .inl g))) (hn : c ≠ 84) (hz : len ≤ zi) (h : nSP c0 m base len H) : nSP c0 m base len (H.set c (.inl (ty, n, .inl (upd g zi.toNat x)))) := by
  subst hc
  obtain ⟨S, g2, h1, h2, h3, h4⟩ := h
  refine ⟨_, g2, nI2_set hj h1, (nSet_ne (fun e => hn e.symm)).trans h2, h3, fun k hk => ?_⟩
  rw [kUpd_ne (by omega)]
  exact h4 k hk
theorem nL8_set {x1 x2 x3 x4 y1 y2 y3 y4 : Nat → Int32} (hj : H[j]? = some (.inl (ty, n, .inl g))) (h : nL8 x1 x2 x3 x4 y1 y2 y3 y4 H) : nL8 (kUpd 14 j zi.toNat x x1) (kUpd 15 j zi.toNat x x2) (kUpd 16 j zi.toNat x x3) (kUpd 17 j zi.toNat x x4) (kUpd 61 j zi.toNat x y1) (kUpd 60 j zi.toNat x y2) (kUpd 62 j zi.toNat x y3) (kUpd 63 j zi.toNat x y4) (H.set j (.inl (ty, n, .inl (upd g zi.toNat x)))) := by
  obtain ⟨h1, h2, h3, h4, h5, h6, h7, h8⟩ := h
  exact ⟨nI2_set hj h1, nI2_set hj h2, nI2_set hj h3, nI2_set hj h4, nI2_set hj h5, nI2_set hj h6, nI2_set hj h7, nI2_set hj h8⟩
theorem nLG_w {e : Int} (h0 : 0 ≤ zi) (hj : H[j]? = some (.inl (ty, n, .inl g))) (he : e = -1 ∨ e = zi) (h : nLG e H) : nLG zi (H.set j (.inl (ty, n, .inl (upd g zi.toNat x)))) := by
  obtain ⟨x1, x2, x3, x4, y1, y2, y3, y4, h1, h2⟩ := h
  refine ⟨_, _, _, _, _, _, _, _, nL8_set hj h1, fun i hi hne => ?_⟩
  have hk : i ≠ zi.toNat := by omega
  rw [kUpd_ne hk, kUpd_ne hk, kUpd_ne hk, kUpd_ne hk, kUpd_ne hk, kUpd_ne hk, kUpd_ne hk, kUpd_ne hk]
  exact h2 i hi (by omega)
theorem nLGS_m {k : Int} (h0 : 0 ≤ zi) (hj : H[j]? = some (.inl (ty, n, .inl g))) (hm : 60 ≤ j ∧ j ≤ 63) (hz : zi = k - 1) (h : nLGS k H) : nLGS k (H.set j (.inl (ty, n, .inl (upd g zi.toNat x)))) := by
  obtain ⟨x1, x2, x3, x4, y1, y2, y3, y4, h1, h2, h3⟩ := h
  refine ⟨_, _, _, _, _, _, _, _, nL8_set hj h1, h2, fun i hi => ?_⟩
  have g := h3 i hi
  rw [kUpd_off (c := 14) (by omega), kUpd_off (c := 15) (by omega), kUpd_off (c := 16) (by omega), kUpd_off (c := 17) (by omega)]
  split
  · rename_i hc
    rw [if_pos hc] at g
    have hk : i ≠ zi.toNat := by omega
    rw [kUpd_ne hk, kUpd_ne hk, kUpd_ne hk, kUpd_ne hk]
    exact g
  · rename_i hc
    rw [if_neg hc] at g
    have hk : i + 1 ≠ zi.toNat := by omega
    rw [kUpd_ne hk, kUpd_ne hk, kUpd_ne hk, kUpd_ne hk]
    exact g
theorem nLGS_x {k : Int} (h0 : 0 ≤ zi) (hj : H[j]? = some (.inl (ty, n, .inl g))) (hm : 14 ≤ j ∧ j ≤ 17) (hz : 39 ≤ zi) (h : nLGS k H) : nLGS k (H.set j (.inl (ty, n, .inl (upd g zi.toNat x)))) := by
  obtain ⟨x1, x2, x3, x4, y1, y2, y3, y4, h1, h2, h3⟩ := h
  refine ⟨_, _, _, _, _, _, _, _, nL8_set hj h1, h2, fun i hi => ?_⟩
  have g := h3 i hi
  have hk : i ≠ zi.toNat := by omega
  rw [kUpd_off (c := 61) (by omega), kUpd_off (c := 60) (by omega), kUpd_off (c := 62) (by omega), kUpd_off (c := 63) (by omega), kUpd_ne hk, kUpd_ne hk, kUpd_ne hk, kUpd_ne hk]
  exact g
theorem nW3_set {a b c : Nat → Int32} (hj : H[j]? = some (.inl (ty, n, .inl g))) (h : nW3 a b c H) : nW3 (kUpd 53 j zi.toNat x a) (kUpd 54 j zi.toNat x b) (kUpd 55 j zi.toNat x c) (H.set j (.inl (ty, n, .inl (upd g zi.toNat x)))) := ⟨nI2_set hj h.1, nI2_set hj h.2.1, nI2_set hj h.2.2⟩
theorem nNX_x {e w t j0 : Int} (h0 : 0 ≤ zi) (hj : H[j]? = some (.inl (ty, n, .inl g))) (hm : 3 ≤ j ∧ j ≤ 5) (hz : j0 = -1 ∨ j0 = zi) (h : nNX e w t j0 H) : nNX e w t zi (H.set j (.inl (ty, n, .inl (upd g zi.toNat x)))) := by
  obtain ⟨x1, x2, x3, y1, y2, y3, g2, h1, h2, h3, h4, h5, h6, h7, h8, h9⟩ := h
  refine ⟨_, _, _, _, _, _, g2, nI2_set hj h1, nI2_set hj h2, nI2_set hj h3, nW3_set hj h4, (nSet_ne (by omega)).trans h5, h6, h7, h8, fun i hi hne => ?_⟩
  have hk : i ≠ zi.toNat := by omega
  rw [kUpd_ne hk, kUpd_ne hk, kUpd_ne hk, kUpd_ne hk, kUpd_ne hk, kUpd_ne hk]
  exact h9 i hi (by omega)
theorem nNX_m {e w t : Int} (h0 : 0 ≤ zi) (hj : H[j]? = some (.inl (ty, n, .inl g))) (hm : 53 ≤ j ∧ j ≤ 55) (hz : zi = w) (ht : 1 ≤ t) (h : nNX e w t (-1) H) : nNX e w t (-1) (H.set j (.inl (ty, n, .inl (upd g zi.toNat x)))) := by
  obtain ⟨x1, x2, x3, y1, y2, y3, g2, h1, h2, h3, h4, h5, h6, h7, h8, h9⟩ := h
  refine ⟨_, _, _, _, _, _, g2, nI2_set hj h1, nI2_set hj h2, nI2_set hj h3, nW3_set hj h4, (nSet_ne (by omega)).trans h5, h6, h7, h8, fun i hi hne => ?_⟩
  have q := h9 i hi hne
  rw [kUpd_off (c := 3) (by omega), kUpd_off (c := 4) (by omega), kUpd_off (c := 5) (by omega)]
  split
  · rename_i hc
    rw [if_pos hc] at q
    exact q
  · rename_i hc
    rw [if_neg hc] at q
    have hk : i ≠ zi.toNat := by omega
    rw [kUpd_ne hk, kUpd_ne hk, kUpd_ne hk]
    exact q
theorem nIM_w {a k v : Int} (h0 : 0 ≤ zi) (hj : H[78]? = some (.inl (ty, n, .inl g))) (hz : zi = k) (hv : kEl 56 zi v H) (hx : x = Int32.ofInt v) (hn : k + 1 ≤ a) (h : nIM a k H) : nIM a (k + 1) (H.set 78 (.inl (ty, n, .inl (upd g zi.toNat x)))) := by
  obtain ⟨f, m, b, h1, h2, h3, h4, h5⟩ := h
  refine ⟨_, _, _, nI2_set hj h1, nI2_set hj h2, nI2_set hj h3, by omega, fun i hi => ?_⟩
  have q := h5 i hi
  rw [kUpd_off (c := 35) (by decide), kUpd_off (c := 56) (by decide)]
  by_cases hik : (i : Int) = k
  · have e : i = zi.toNat := by omega
    rw [if_pos (by omega)] at q
    rw [if_neg (by omega), q, e, kUpd_at rfl, hx]
    exact (kElA hv h2).2
  · rw [kUpd_ne (by omega)]
    split
    · rename_i hc
      rw [if_pos (by omega)] at q
      exact q
    · rename_i hc
      rw [if_neg (by omega)] at q
      exact q
theorem nIB_w {a k v : Int} (h0 : 0 ≤ zi) (hj : H[56]? = some (.inl (ty, n, .inl g))) (hz : zi = k) (hv : kEl 78 zi v H) (hx : x = Int32.ofInt v) (hn : k + 1 ≤ a) (h : nIB a k H) : nIB a (k + 1) (H.set 56 (.inl (ty, n, .inl (upd g zi.toNat x)))) := by
  obtain ⟨f, m, b, h1, h2, h3, h4, h5⟩ := h
  refine ⟨_, _, _, nI2_set hj h1, nI2_set hj h2, nI2_set hj h3, by omega, fun i hi => ?_⟩
  have q := h5 i hi
  rw [kUpd_off (c := 6) (by decide), kUpd_off (c := 78) (by decide)]
  by_cases hik : (i : Int) = k
  · have e : i = zi.toNat := by omega
    rw [if_pos (by omega)] at q
    rw [if_neg (by omega), q, e, kUpd_at rfl, hx]
    exact (kElA hv h3).2
  · rw [kUpd_ne (by omega)]
    split
    · rename_i hc
      rw [if_pos (by omega)] at q
      exact q
    · rename_i hc
      rw [if_neg (by omega)] at q
      exact q
end NKWX
section NKWY
variable {RO : List (Nat × (Nat → Int32))} {ρ : List Int} {γ : List kA} {H : List eE} {j n : Nat} {zi zv : Int} {ty : FieldType} {g : Nat → Int32}
theorem sVal_snoc : ∀ {fs : List sL} {zs : List Int} {u : sL} {zu : Int}, sVal ρ fs = some zs → sEv ρ u = some zu → sVal ρ (fs ++ [u]) = some (zs ++ [zu])
  | [], zs, u, zu, h, hu => by
    cases h
    simp only [List.nil_append, sVal, hu]
  | f :: r, zs, u, zu, h, hu => by
    obtain ⟨z, zr, rfl, e1, e2⟩ := sVal_cons h
    simp only [List.cons_append, sVal, e1, sVal_snoc e2 hu]
theorem nKW2_ok {Γ : sG} {i v : sL} {q : kA} (hM : sMo ρ Γ) (hg : kGh (kGP (kUP RO)) ρ γ H) (hi : sEv ρ i = some zi) (hv : sEv ρ v = some zv) (h0 : 0 ≤ zi) (hj : H[j]? = some (.inl (ty, n, .inl g))) {zs : List Int} (hz : sVal ρ q.2 = some zs) (hq : kGP (kUP RO) q.1 zs H) : kGh (kGP (kUP RO)) ρ (nKW2 Γ γ j i v q) (H.set j (.inl (ty, n, .inl (upd g zi.toNat (Int32.ofInt zv))))) := by
  have none_ : kGh (kGP (kUP RO)) ρ [] (H.set j (.inl (ty, n, .inl (upd g zi.toNat (Int32.ofInt zv))))) := fun a ha => by cases ha
  obtain ⟨k, fs⟩ := q
  simp only at hz hq
  have up : 53 ≤ k → k < 1000 → nUP k zs H := fun h1 h2 => by
    unfold kGP at hq
    rw [if_neg (by omega)] at hq
    exact (kUPn h1).mp hq
  have one_ : ∀ {k' : Nat} {fs' : List sL} {zs' : List Int}, 53 ≤ k' → k' < 1000 → sVal ρ fs' = some zs' → nUP k' zs' (H.set j (.inl (ty, n, .inl (upd g zi.toNat (Int32.ofInt zv))))) → kGh (kGP (kUP RO)) ρ [(k', fs')] (H.set j (.inl (ty, n, .inl (upd g zi.toNat (Int32.ofInt zv))))) := fun {k' fs' zs'} h1 h2 h3 h4 b hb => by
    rcases List.mem_singleton.mp hb with rfl
    exact nAt1 h1 h2 h3 h4
  unfold nKW2
  simp only
  by_cases c1 : k = 65 ∧ j = 23
  · rw [if_pos c1]
    obtain ⟨rfl, rfl⟩ := c1
    split
    · rename_i a b t c n1 n2 n3 n4 n5 n6
      obtain ⟨p1, p2, p3, p4, q1, q2, q3, q4, q5, q6, he, hX⟩ : ∃ a b c e n1 n2 n3 n4 n5 n6, zs = [a, b, c, e, n1, n2, n3, n4, n5, n6] ∧ nXS a b c e [n1, n2, n3, n4, n5, n6] [] H := up (by decide) (by decide)
      subst he
      have hz' := hz
      obtain ⟨_, _, e, -, hz'⟩ := sVal_cons hz'
      cases e
      obtain ⟨_, _, e, -, hz'⟩ := sVal_cons hz'
      cases e
      obtain ⟨_, _, e, et, -⟩ := sVal_cons hz'
      cases e
      unfold nTk
      split
      · rename_i hc
        have := sNN_ok hM (sEv_sub hi et) hc
        exact one_ (by decide) (by decide) hz ⟨_, _, _, _, _, _, _, _, _, _, rfl, nXS_w (pend := []) h0 hj (by omega) hX⟩
      split
      · exact none_
      · rename_i u hu
        obtain ⟨zu, eu, ku⟩ := kFindEl_ok hg hu (sEv_sub et (sEv_C 1))
        split
        · rename_i hc
          subst hc
          have ei := sEv_sub et (sEv_C (ρ := ρ) 1)
          cases hi.symm.trans ei
          exact one_ (by decide) (by decide) (sVal_snoc hz eu) ⟨_, _, _, _, _, _, _, _, _, _, _, rfl, nXS_w1 h0 hj rfl ku hX⟩
        split
        · rename_i w hw
          obtain ⟨zw, ew, kw⟩ := kFindEl_ok hg hw (sEv_sub et (sEv_C 2))
          split
          · rename_i hc
            subst hc
            have ei := sEv_sub et (sEv_C (ρ := ρ) 2)
            cases hi.symm.trans ei
            have e2 := sVal_snoc (sVal_snoc hz ew) eu
            rw [List.append_assoc] at e2
            exact one_ (by decide) (by decide) e2 ⟨_, _, _, _, _, _, _, _, _, _, _, _, rfl, nXS_w2 h0 hj rfl ku kw hX⟩
          · exact none_
        · exact none_
    · exact none_
  rw [if_neg c1]
  by_cases c2 : k = 68 ∧ j = 71
  · rw [if_pos c2]
    obtain ⟨rfl, rfl⟩ := c2
    split
    · rename_i a b t
      obtain ⟨p1, p2, p3, he, hX⟩ : ∃ a b c, zs = [a, b, c] ∧ nWS a b c [] H := up (by decide) (by decide)
      subst he
      have hz' := hz
      obtain ⟨_, _, e, -, hz'⟩ := sVal_cons hz'
      cases e
      obtain ⟨_, _, e, -, hz'⟩ := sVal_cons hz'
      cases e
      obtain ⟨_, _, e, et, -⟩ := sVal_cons hz'
      cases e
      unfold nTk
      split
      · rename_i hc
        have := sNN_ok hM (sEv_sub hi et) hc
        exact one_ (by decide) (by decide) hz ⟨_, _, _, rfl, nWS_w h0 hj (by omega) hX⟩
      split
      · exact none_
      · rename_i u hu
        obtain ⟨zu, eu, ku⟩ := kFindEl_ok hg hu (sEv_sub et (sEv_C 1))
        split
        · rename_i hc
          subst hc
          have ei := sEv_sub et (sEv_C (ρ := ρ) 1)
          cases hi.symm.trans ei
          exact one_ (by decide) (by decide) (sVal_snoc hz eu) ⟨_, _, _, _, rfl, nWS_w1 h0 hj rfl ku hX⟩
        split
        · rename_i w hw
          obtain ⟨zw, ew, kw⟩ := kFindEl_ok hg hw (sEv_sub et (sEv_C 2))
          split
          · rename_i hc
            subst hc
            have ei := sEv_sub et (sEv_C (ρ := ρ) 2)
            cases hi.symm.trans ei
            have e2 := sVal_snoc (sVal_snoc hz ew) eu
            rw [List.append_assoc] at e2
            exact one_ (by decide) (by decide) e2 ⟨_, _, _, _, _, rfl, nWS_w2 h0 hj rfl ku kw hX⟩
          · exact none_
        · exact none_
    · exact none_
  rw [if_neg c2]
  by_cases c3 : (75 ≤ k ∧ k < 81) ∧ (j = 3 + (k - 75) ∨ j = 53 + (k - 75))
  · rw [if_pos c3]
    split
    · rename_i e
      split
      · rename_i hc
        obtain ⟨z1, rfl, e1⟩ := sVal_1 hz
        have hN : nNE (k - 75) z1 H := nUP_NE c3.1 (up (by omega) (by omega))
        refine one_ (zs' := [zi]) (by omega) (by omega) (by simp only [sVal, hi]) (nUP_NEr c3.1 (nNE_w (e := z1) h0 hj ?_ hN))
        rcases hc with rfl | rfl
        · rw [sEv_C] at e1; cases e1; exact Or.inl rfl
        · cases e1.symm.trans hi; exact Or.inr rfl
      · exact none_
    · exact none_
  rw [if_neg c3]
  by_cases c4 : k = 82 ∧ j = 26
  · rw [if_pos c4]
    obtain ⟨rfl, rfl⟩ := c4
    split
    · rename_i a b
      obtain ⟨p1, p2, rfl, e1, e2⟩ := sVal_2 hz
      obtain ⟨a', b', he, G, g1, g2⟩ : ∃ a b, [p1, p2] = [a, b] ∧ nCA a b (-1) H := up (by decide) (by decide)
      cases he
      refine one_ (zs' := [p1, p2, zi]) (by decide) (by decide) (by simp only [sVal, e1, e2, hi]) ⟨_, _, _, rfl, _, nI2_set hj g1, fun key q1 q2 => ?_⟩
      rw [kUpd_ne (by omega)]
      exact ⟨(g2 key q1 (by omega)).1, fun q3 => nGV_fr (fun c hc => nSet_ne (by simp [nAR] at hc; omega)) (nSet_ne (by decide)) (nSet_ne (by decide)) (nSet_ne (by decide)) ((g2 key q1 (by omega)).2 q3)⟩
    · exact none_
  rw [if_neg c4]
  by_cases c5 : k = 84 ∧ j = 26
  · rw [if_pos c5]
    obtain ⟨rfl, rfl⟩ := c5
    split
    · rename_i a
      obtain ⟨p1, rfl, e1⟩ := sVal_1 hz
      obtain ⟨a', he, G, g1, g2⟩ : ∃ a, [p1] = [a] ∧ nFR a (-1) H := up (by decide) (by decide)
      cases he
      refine one_ (zs' := [p1, zi]) (by decide) (by decide) (by simp only [sVal, e1, hi]) ⟨_, _, rfl, _, nI2_set hj g1, fun key q1 q2 => ?_⟩
      rw [kUpd_ne (by omega)]
      exact g2 key q1 (by omega)
    · exact none_
  rw [if_neg c5]
  by_cases c6 : k = 86 ∧ j = 25
  · rw [if_pos c6]
    obtain ⟨rfl, rfl⟩ := c6
    split
    · rename_i a b
      split
      · rename_i hc
        obtain ⟨p1, p2, rfl, e1, e2⟩ := sVal_2 hz
        obtain ⟨a', b', he, hS⟩ : ∃ a b, [p1, p2] = [a, b] ∧ nSP 25 64 a b H := up (by decide) (by decide)
        cases he
        have := sNN_ok hM (sEv_sub hi e2) hc
        exact one_ (by decide) (by decide) hz ⟨_, _, rfl, nSP_w rfl h0 hj (by decide) (by omega) hS⟩
      · exact none_
    · exact none_
  rw [if_neg c6]
  by_cases c7 : k = 87 ∧ j = 72
  · rw [if_pos c7]
    obtain ⟨rfl, rfl⟩ := c7
    split
    · rename_i a b
      split
      · rename_i hc
        obtain ⟨p1, p2, rfl, e1, e2⟩ := sVal_2 hz
        obtain ⟨a', b', he, hS⟩ : ∃ a b, [p1, p2] = [a, b] ∧ nSP 72 61 a b H := up (by decide) (by decide)
        cases he
        have := sNN_ok hM (sEv_sub hi e2) hc
        exact one_ (by decide) (by decide) hz ⟨_, _, rfl, nSP_w rfl h0 hj (by decide) (by omega) hS⟩
      · exact none_
    · exact none_
  rw [if_neg c7]
  by_cases c8 : k = 96 ∧ ((14 ≤ j ∧ j ≤ 17) ∨ (60 ≤ j ∧ j ≤ 63))
  · rw [if_pos c8]
    obtain ⟨rfl, -⟩ := c8
    split
    · rename_i e
      split
      · rename_i hc
        obtain ⟨z1, rfl, e1⟩ := sVal_1 hz
        obtain ⟨a', he, hL⟩ : ∃ a, [z1] = [a] ∧ nLG a H := up (by decide) (by decide)
        cases he
        refine one_ (zs' := [zi]) (by decide) (by decide) (by simp only [sVal, hi]) ⟨_, rfl, nLG_w (e := z1) h0 hj ?_ hL⟩
        rcases hc with rfl | rfl
        · rw [sEv_C] at e1; cases e1; exact Or.inl rfl
        · cases e1.symm.trans hi; exact Or.inr rfl
      · exact none_
    · exact none_
  rw [if_neg c8]
  by_cases c9 : k = 98 ∧ (60 ≤ j ∧ j ≤ 63)
  · rw [if_pos c9]
    obtain ⟨rfl, hm⟩ := c9
    split
    · rename_i e
      split
      · rename_i hc
        obtain ⟨z1, rfl, e1⟩ := sVal_1 hz
        obtain ⟨a', he, hL⟩ : ∃ a, [z1] = [a] ∧ nLGS a H := up (by decide) (by decide)
        cases he
        subst hc
        cases hi.symm.trans (sEv_sub e1 (sEv_C 1))
        exact one_ (by decide) (by decide) hz ⟨_, rfl, nLGS_m h0 hj hm rfl hL⟩
      · exact none_
    · exact none_
  rw [if_neg c9]
  by_cases c10 : k = 98 ∧ (14 ≤ j ∧ j ≤ 17)
  · rw [if_pos c10]
    obtain ⟨rfl, hm⟩ := c10
    split
    · rename_i hc
      obtain ⟨a', he, hL⟩ : ∃ a, zs = [a] ∧ nLGS a H := up (by decide) (by decide)
      have := sNN_ok hM (sEv_sub hi (sEv_C 39)) hc
      exact one_ (by decide) (by decide) hz ⟨_, he, nLGS_x h0 hj hm (by omega) hL⟩
    · exact none_
  rw [if_neg c10]
  by_cases c11 : k = 99 ∧ (3 ≤ j ∧ j ≤ 5)
  · rw [if_pos c11]
    obtain ⟨rfl, hm⟩ := c11
    split
    · rename_i e w t
      split
      · rename_i hc
        obtain ⟨z1, z2, z3, rfl, e1, e2, e3⟩ := sVal_3 hz
        obtain ⟨a', b', c', he, hL⟩ : ∃ a b c, [z1, z2, z3] = [a, b, c] ∧ nNX a b c (-1) H := up (by decide) (by decide)
        cases he
        exact one_ (zs' := [z1, z2, z3, zi]) (by decide) (by decide) (by simp only [sVal, e1, e2, e3, hi]) ⟨_, _, _, _, rfl, nNX_x h0 hj hm (Or.inl rfl) hL⟩
      · exact none_
    · exact none_
  rw [if_neg c11]
  by_cases c12 : k = 99 ∧ (53 ≤ j ∧ j ≤ 55)
  · rw [if_pos c12]
    obtain ⟨rfl, hm⟩ := c12
    split
    · rename_i e w t
      split
      · rename_i hc
        obtain ⟨rfl, hc⟩ := hc
        obtain ⟨z1, z2, z3, rfl, e1, e2, e3⟩ := sVal_3 hz
        obtain ⟨a', b', c', he, hL⟩ : ∃ a b c, [z1, z2, z3] = [a, b, c] ∧ nNX a b c (-1) H := up (by decide) (by decide)
        cases he
        cases hi.symm.trans e2
        have := sNN_ok hM (sEv_sub e3 (sEv_C 1)) hc
        exact one_ (by decide) (by decide) hz ⟨_, _, _, rfl, nNX_m h0 hj hm rfl (by omega) hL⟩
      · exact none_
    · exact none_
  rw [if_neg c12]
  by_cases c13 : k = 100 ∧ (3 ≤ j ∧ j ≤ 5)
  · rw [if_pos c13]
    obtain ⟨rfl, hm⟩ := c13
    split
    · rename_i a b c i'
      split
      · rename_i hc
        subst hc
        obtain ⟨z1, z2, z3, z4, he, hL⟩ : ∃ a b c e, zs = [a, b, c, e] ∧ nNX a b c e H := up (by decide) (by decide)
        subst he
        have hz' := hz
        obtain ⟨_, _, e, -, hz'⟩ := sVal_cons hz'
        cases e
        obtain ⟨_, _, e, -, hz'⟩ := sVal_cons hz'
        cases e
        obtain ⟨_, _, e, -, hz'⟩ := sVal_cons hz'
        cases e
        obtain ⟨_, _, e, e4, -⟩ := sVal_cons hz'
        cases e
        cases hi.symm.trans e4
        exact one_ (by decide) (by decide) hz ⟨_, _, _, _, rfl, nNX_x h0 hj hm (Or.inr rfl) hL⟩
      · exact none_
    · exact none_
  rw [if_neg c13]
  by_cases c14 : k = 101 ∧ j = 78
  · rw [if_pos c14]
    obtain ⟨rfl, rfl⟩ := c14
    split
    · rename_i a b
      split
      · rename_i hc
        obtain ⟨rfl, h2, hc⟩ := hc
        obtain ⟨p1, p2, rfl, e1, e2⟩ := sVal_2 hz
        obtain ⟨a', b', he, hS⟩ : ∃ a b, [p1, p2] = [a, b] ∧ nIM a b H := up (by decide) (by decide)
        cases he
        cases hi.symm.trans e2
        have := sNN_ok hM (sEv_sub (sEv_sub e1 e2) (sEv_C 1)) hc
        obtain ⟨zv', ev, kv⟩ := kFindEl_ok hg h2 hi
        cases ev.symm.trans hv
        have e3 := sEv_add e2 (sEv_C (ρ := ρ) 1)
        exact one_ (zs' := [p1, zi + 1]) (by decide) (by decide) (by simp only [sVal, e1, e3]) ⟨_, _, rfl, nIM_w h0 hj rfl kv rfl (by omega) hS⟩
      · exact none_
    · exact none_
  rw [if_neg c14]
  by_cases c15 : k = 102 ∧ j = 56
  · rw [if_pos c15]
    obtain ⟨rfl, rfl⟩ := c15
    split
    · rename_i a b
      split
      · rename_i hc
        obtain ⟨rfl, h2, hc⟩ := hc
        obtain ⟨p1, p2, rfl, e1, e2⟩ := sVal_2 hz
        obtain ⟨a', b', he, hS⟩ : ∃ a b, [p1, p2] = [a, b] ∧ nIB a b H := up (by decide) (by decide)
        cases he
        cases hi.symm.trans e2
        have := sNN_ok hM (sEv_sub (sEv_sub e1 e2) (sEv_C 1)) hc
        obtain ⟨zv', ev, kv⟩ := kFindEl_ok hg h2 hi
        cases ev.symm.trans hv
        have e3 := sEv_add e2 (sEv_C (ρ := ρ) 1)
        exact one_ (zs' := [p1, zi + 1]) (by decide) (by decide) (by simp only [sVal, e1, e3]) ⟨_, _, rfl, nIB_w h0 hj rfl kv rfl (by omega) hS⟩
      · exact none_
    · exact none_
  rw [if_neg c15]
  exact none_
end NKWY
/-- what of the shares' atoms a write of a share leaves -/
def tKW (Γ : sG) (j : Nat) (i : sL) (q : kA) : List kA :=
  if q.1 = 140 ∧ j = 76 then (match q.2 with
    | [_, _, k] => if sNN Γ (sSub i k) = true then [q] else []
    | _ => [])
  else if q.1 = 141 ∧ j = 76 then (match q.2 with
    | [s, p, l, n, e] => if e = sC (-1) ∨ e = i then [(141, [s, p, l, n, i])] else []
    | _ => [])
  else []
theorem tUP_iff {k : Nat} (hk : 135 ≤ k) {zs : List Int} {H : List eE} : nUP k zs H ↔ tUP k zs H := by
  refine (nUP_m (by omega)).trans ?_
  unfold mUP
  rw [if_neg (by omega), if_neg (by omega), if_neg (by omega), if_pos hk]
theorem tUPg {k : Nat} (hk : k = 140 ∨ k = 141 ∨ k = 143) {zs : List Int} {H : List eE} : nUP k zs H ↔ ∃ f g, nI2 H 56 7 f ∧ nI2 H 76 7 g ∧ tGr (tM f) g k zs := by
  refine (tUP_iff (by omega)).trans ?_
  unfold tUP
  rw [if_neg (by omega), if_neg (by omega), if_neg (by omega), if_neg (by omega), if_pos hk]
theorem tUPp {k : Nat} (hk : 135 ≤ k ∧ k ≠ 140 ∧ k ≠ 141 ∧ k ≠ 143 ∧ k < 145) {zs : List Int} {H : List eE} : nUP k zs H ↔ ∃ f, nI2 H 56 7 f ∧ tPr (tM f) k zs := by
  refine (tUP_iff (by omega)).trans ?_
  unfold tUP
  rw [if_neg (by omega), if_neg (by omega), if_neg (by omega), if_neg (by omega), if_neg (by omega)]
theorem tVal_3 {ρ : List Int} {a b c : sL} {zs : List Int} (h : sVal ρ [a, b, c] = some zs) : ∃ p q r, zs = [p, q, r] ∧ sEv ρ a = some p ∧ sEv ρ b = some q ∧ sEv ρ c = some r := by
  obtain ⟨p, _, rfl, h1, h⟩ := sVal_c h
  obtain ⟨q, _, rfl, h2, h⟩ := sVal_c h
  obtain ⟨r, _, rfl, h3, h⟩ := sVal_c h
  cases h
  exact ⟨p, q, r, rfl, h1, h2, h3⟩
theorem tVal_5 {ρ : List Int} {a b c d e : sL} {zs : List Int} (h : sVal ρ [a, b, c, d, e] = some zs) : ∃ p q r s t, zs = [p, q, r, s, t] ∧ sEv ρ a = some p ∧ sEv ρ b = some q ∧ sEv ρ c = some r ∧ sEv ρ d = some s ∧ sEv ρ e = some t := by
  obtain ⟨p, _, rfl, h1, h⟩ := sVal_c h
  obtain ⟨q, _, rfl, h2, h⟩ := sVal_c h
  obtain ⟨r, _, rfl, h3, h⟩ := sVal_c h
  obtain ⟨s, _, rfl, h4, h⟩ := sVal_c h
  obtain ⟨t, _, rfl, h5, h⟩ := sVal_c h
  cases h
  exact ⟨p, q, r, s, t, rfl, h1, h2, h3, h4, h5⟩
theorem tKW_ok {RO : List (Nat × (Nat → Int32))} {ρ : List Int} {H : List eE} {j n : Nat} {zi zv : Int} {ty : FieldType} {g : Nat → Int32} {Γ : sG} {i : sL} {q : kA} (hM : sMo ρ Γ) (hi : sEv ρ i = some zi) (h0 : 0 ≤ zi) (hj : H[j]? = some (.inl (ty, n, .inl g))) {zs : List Int} (hz : sVal ρ q.2 = some zs) (hq : kGP (kUP RO) q.1 zs H) : kGh (kGP (kUP RO)) ρ (tKW Γ j i q) (H.set j (.inl (ty, n, .inl (upd g zi.toNat (Int32.ofInt zv))))) := by
  have none_ : kGh (kGP (kUP RO)) ρ [] (H.set j (.inl (ty, n, .inl (upd g zi.toNat (Int32.ofInt zv))))) := fun a ha => by cases ha
  obtain ⟨k, fs⟩ := q
  simp only at hz hq
  have up : 53 ≤ k → k < 1000 → nUP k zs H := fun h1 h2 => by
    unfold kGP at hq
    rw [if_neg (by omega)] at hq
    exact (kUPn h1).mp hq
  have one_ : ∀ {k' : Nat} {fs' : List sL} {zs' : List Int}, 53 ≤ k' → k' < 1000 → sVal ρ fs' = some zs' → nUP k' zs' (H.set j (.inl (ty, n, .inl (upd g zi.toNat (Int32.ofInt zv))))) → kGh (kGP (kUP RO)) ρ [(k', fs')] (H.set j (.inl (ty, n, .inl (upd g zi.toNat (Int32.ofInt zv))))) := fun {k' fs' zs'} h1 h2 h3 h4 b hb => by
    rcases List.mem_singleton.mp hb with rfl
    refine ⟨zs', h3, ?_⟩
    unfold kGP
    rw [if_neg (by show ¬ 1000 ≤ k'; omega)]
    exact kUPs h1 h4
  unfold tKW
  simp only
  by_cases c1 : k = 140 ∧ j = 76
  · rw [if_pos c1]
    obtain ⟨rfl, rfl⟩ := c1
    split
    · rename_i a b c
      split
      · rename_i hc
        obtain ⟨p1, p2, p3, rfl, e1, e2, e3⟩ := tVal_3 hz
        obtain ⟨f, gg, g1, g2, g3⟩ := (tUPg (by decide)).mp (up (by decide) (by decide))
        have g3 : ∀ q : Nat, (q : Int) < p3 → gg q = Int32.ofInt (tPt p1 p2 (tM f q)) := g3
        have hl := sNN_ok hM (sEv_sub hi e3) hc
        refine one_ (by decide) (by decide) hz ((tUPg (by decide)).mpr ⟨_, _, nI2_set hj g1, nI2_set hj g2, ?_⟩)
        rw [kUpd_off (by decide)]
        show ∀ q : Nat, (q : Int) < p3 → _ = _
        intro q hq
        rw [kUpd_ne (by omega)]
        exact g3 q hq
      · exact none_
    · exact none_
  rw [if_neg c1]
  by_cases c2 : k = 141 ∧ j = 76
  · rw [if_pos c2]
    obtain ⟨rfl, rfl⟩ := c2
    split
    · rename_i s p l m e
      split
      · rename_i hc
        obtain ⟨p1, p2, p3, p4, p5, rfl, e1, e2, e3, e4, e5⟩ := tVal_5 hz
        obtain ⟨f, gg, g1, g2, g3⟩ := (tUPg (by decide)).mp (up (by decide) (by decide))
        obtain ⟨a1, a2, a3, a4, a5⟩ : tSb (tM f) gg p1 p2 p3 p4 p5 := g3
        refine one_ (zs' := [p1, p2, p3, p4, zi]) (by decide) (by decide) (by simp only [sVal, e1, e2, e3, e4, hi]) ((tUPg (by decide)).mpr ⟨_, _, nI2_set hj g1, nI2_set hj g2, ?_⟩)
        rw [kUpd_off (by decide)]
        show tSb (tM f) _ p1 p2 p3 p4 zi
        refine ⟨a1, a2, a3, a4, fun q hq hne => ?_⟩
        rw [kUpd_ne (by omega)]
        refine a5 q hq ?_
        rcases hc with rfl | rfl
        · cases e5.symm.trans (sEv_C (ρ := ρ) (-1))
          omega
        · cases e5.symm.trans hi
          exact hne
      · exact none_
    · exact none_
  rw [if_neg c2]
  exact none_
theorem wUPi {k : Nat} (hk : 173 ≤ k) {zs : List Int} {H : List eE} : nUP k zs H ↔ wUP k zs H := by
  refine (tUP_iff (by omega)).trans ?_
  unfold tUP
  rw [if_pos hk]
theorem viewC_at {H : List eE} {c : Nat} (hc : c ≠ 53) : (viewC H)[c]? = H[c]? := by
  unfold viewC
  split
  · exact List.getElem?_set_ne (Ne.symm hc)
  · rfl
theorem viewC_set {H : List eE} {j : Nat} {y : eE} (h3 : j ≠ 3) (h53 : j ≠ 53) : viewC (H.set j y) = (viewC H).set j y := by
  unfold viewC
  rw [List.getElem?_set_ne h3, List.getElem?_set_ne h53]
  split
  · exact List.set_comm _ _ h53
  · rfl
section WKWX
variable {H : List eE} {n : Nat} {zi : Int} {x : Int32} {ty : FieldType} {g : Nat → Int32}
theorem nCA_w {a b : Int} (hj : H[26]? = some (.inl (ty, n, .inl g))) (h0 : 0 ≤ zi) (h : nCA a b (-1) H) : nCA a b zi (H.set 26 (.inl (ty, n, .inl (upd g zi.toNat x)))) := by
  obtain ⟨G, g1, g2⟩ := h
  refine ⟨_, nI2_set hj g1, fun key q1 q2 => ?_⟩
  rw [kUpd_ne (by omega)]
  exact ⟨(g2 key q1 (by omega)).1, fun q3 => nGV_fr (fun c hc => nSet_ne (by simp [nAR] at hc; omega)) (nSet_ne (by decide)) (nSet_ne (by decide)) (nSet_ne (by decide)) ((g2 key q1 (by omega)).2 q3)⟩
theorem wUpd_upd {f : Nat → Int32} {i : Nat} {a b : Int32} : upd (upd f i a) i b = upd f i b := by
  funext k
  unfold upd
  split
  · rfl
  · rfl
theorem wJV_w {hl b le w one bd v r : Int} (hj : H[53]? = some (.inl (ty, n, .inl g))) (h : wJV H hl b le w one bd zi v r) : wJV (H.set 53 (.inl (ty, n, .inl (upd g zi.toNat x)))) hl b le w one bd zi v r := by
  obtain ⟨q1, q2, g0, q3, q4⟩ := h
  cases hj.symm.trans q3
  have q5 : nI2 (H.set 53 (.inl (.int, 16, .inl (upd g zi.toNat x)))) 53 16 (kUpd 53 53 zi.toNat x g) := nI2_set hj q3
  rw [show kUpd 53 53 zi.toNat x g = upd g zi.toNat x from if_pos rfl] at q5
  refine ⟨q1, q2, _, q5, ?_⟩
  rw [show wAt (H.set 53 (.inl (.int, 16, .inl (upd g zi.toNat x)))) (upd g zi.toNat x) zi v = wAt H g zi v by unfold wAt; rw [List.set_set, wUpd_upd]]
  exact q4
theorem wBD_w {hl b le w ow bd m : Int} (hj : H[53]? = some (.inl (ty, n, .inl g))) (h : wBD H hl b le w ow bd zi m) : wBD (H.set 53 (.inl (ty, n, .inl (upd g zi.toNat x)))) hl b le w ow bd zi m := by
  obtain ⟨q1, q2, ⟨g0, q3⟩, q4⟩ := h
  refine ⟨q1, q2, ⟨_, nI2_set hj q3⟩, fun v h1 h2 => ?_⟩
  obtain ⟨r, r1, r2⟩ := q4 v h1 h2
  exact ⟨r, r1, wJV_w hj r2⟩
end WKWX
/-- what of the atoms about the class' words a write leaves -/
def wKW (j : Nat) (i : sL) (q : kA) : List kA :=
  if q.1 = 202 ∧ j = 26 then (match q.2 with
    | [a, b] => [(203, [a, b, i])]
    | _ => [])
  else if q.1 = 290 ∧ (j = 3 ∨ j = 53) then [q]
  else if q.1 = 291 ∧ j = 53 then (match q.2 with
    | [_, _, _, _, _, _, w, _, _] => if i = w then [q] else []
    | _ => [])
  else if (q.1 = 292 ∨ q.1 = 293) ∧ j = 53 then (match q.2 with
    | [_, _, _, _, _, _, w, _] => if i = w then [q] else []
    | _ => [])
  else []
theorem wVal_8 {ρ : List Int} {a b c d e f g h : sL} {zs : List Int} (q : sVal ρ [a, b, c, d, e, f, g, h] = some zs) : ∃ y1 y2 y3 y4 y5 y6 y7 y8, zs = [y1, y2, y3, y4, y5, y6, y7, y8] ∧ sEv ρ g = some y7 := by
  obtain ⟨y1, _, rfl, h1, q⟩ := sVal_c q
  obtain ⟨y2, y3, y4, y5, y6, y7, y8, rfl, h2, h3, h4, h5, h6, h7, h8⟩ := sVal_7n q
  exact ⟨y1, y2, y3, y4, y5, y6, y7, y8, rfl, h7⟩
theorem wVal_9 {ρ : List Int} {a b c d e f g h i : sL} {zs : List Int} (q : sVal ρ [a, b, c, d, e, f, g, h, i] = some zs) : ∃ y1 y2 y3 y4 y5 y6 y7 y8 y9, zs = [y1, y2, y3, y4, y5, y6, y7, y8, y9] ∧ sEv ρ g = some y7 := by
  obtain ⟨y1, _, rfl, h1, q⟩ := sVal_c q
  obtain ⟨y2, _, rfl, h2, q⟩ := sVal_c q
  obtain ⟨y3, y4, y5, y6, y7, y8, y9, rfl, h3, h4, h5, h6, h7, h8, h9⟩ := sVal_7n q
  exact ⟨y1, y2, y3, y4, y5, y6, y7, y8, y9, rfl, h7⟩
theorem wKW_ok {RO : List (Nat × (Nat → Int32))} {ρ : List Int} {H : List eE} {j n : Nat} {zi zv : Int} {ty : FieldType} {g : Nat → Int32} {i : sL} {q : kA} (hi : sEv ρ i = some zi) (h0 : 0 ≤ zi) (hj : H[j]? = some (.inl (ty, n, .inl g))) {zs : List Int} (hz : sVal ρ q.2 = some zs) (hq : kGP (kUP RO) q.1 zs H) : kGh (kGP (kUP RO)) ρ (wKW j i q) (H.set j (.inl (ty, n, .inl (upd g zi.toNat (Int32.ofInt zv))))) := by
  have none_ : kGh (kGP (kUP RO)) ρ [] (H.set j (.inl (ty, n, .inl (upd g zi.toNat (Int32.ofInt zv))))) := fun a ha => by cases ha
  obtain ⟨k, fs⟩ := q
  simp only at hz hq
  have up : 173 ≤ k → k < 1000 → wUP k zs H := fun h1 h2 => by
    unfold kGP at hq
    rw [if_neg (by omega)] at hq
    exact (wUPi h1).mp ((kUPn (by omega)).mp hq)
  have one_ : ∀ {k' : Nat} {fs' : List sL} {zs' : List Int}, 173 ≤ k' → k' < 1000 → sVal ρ fs' = some zs' → wUP k' zs' (H.set j (.inl (ty, n, .inl (upd g zi.toNat (Int32.ofInt zv))))) → kGh (kGP (kUP RO)) ρ [(k', fs')] (H.set j (.inl (ty, n, .inl (upd g zi.toNat (Int32.ofInt zv))))) := fun {k' fs' zs'} h1 h2 h3 h4 b hb => by
    rcases List.mem_singleton.mp hb with rfl
    refine ⟨zs', h3, ?_⟩
    unfold kGP
    rw [if_neg (by show ¬ 1000 ≤ k'; omega)]
    exact kUPs (by omega) ((wUPi h1).mpr h4)
  unfold wKW
  simp only
  by_cases c1 : k = 202 ∧ j = 26
  · rw [if_pos c1]
    obtain ⟨rfl, rfl⟩ := c1
    split
    · rename_i a b
      obtain ⟨p1, p2, rfl, e1, e2⟩ := sVal_2 hz
      obtain ⟨a', b', he, hC⟩ : ∃ a b, [p1, p2] = [a, b] ∧ nCA a b (-1) (viewC H) := up (by decide) (by decide)
      cases he
      refine one_ (zs' := [p1, p2, zi]) (by decide) (by decide) (by simp only [sVal, e1, e2, hi]) (show ∃ a b c, [p1, p2, zi] = [a, b, c] ∧ nCA a b c (viewC _) from ⟨_, _, _, rfl, ?_⟩)
      rw [viewC_set (by decide) (by decide)]
      exact nCA_w ((viewC_at (by decide)).trans hj) h0 hC
    · exact none_
  rw [if_neg c1]
  by_cases c2 : k = 290 ∧ (j = 3 ∨ j = 53)
  · rw [if_pos c2]
    obtain ⟨rfl, c2⟩ := c2
    obtain ⟨he, f1, f2, q1, q2⟩ : zs = [] ∧ ∃ f g, nI2 H 3 16 f ∧ nI2 H 53 16 g := up (by decide) (by decide)
    exact one_ (by decide) (by decide) hz (show zs = [] ∧ ∃ f g, nI2 _ 3 16 f ∧ nI2 _ 53 16 g from ⟨he, _, _, nI2_set hj q1, nI2_set hj q2⟩)
  rw [if_neg c2]
  by_cases c3 : k = 291 ∧ j = 53
  · rw [if_pos c3]
    obtain ⟨rfl, rfl⟩ := c3
    split
    · rename_i a1 a2 a3 a4 a5 a6 w a8 a9
      split
      · rename_i hc
        subst hc
        obtain ⟨y1, y2, y3, y4, y5, y6, y7, y8, y9, rfl, e7⟩ := wVal_9 hz
        cases e7.symm.trans hi
        obtain ⟨z1, z2, z3, z4, z5, z6, z7, z8, z9, he, hV⟩ : ∃ a b c d e f g h r, [y1, y2, y3, y4, y5, y6, zi, y8, y9] = [a, b, c, d, e, f, g, h, r] ∧ wJV H a b c d e f g h r := up (by decide) (by decide)
        cases he
        exact one_ (by decide) (by decide) hz (show ∃ a b c d e f g h r, [y1, y2, y3, y4, y5, y6, zi, y8, y9] = [a, b, c, d, e, f, g, h, r] ∧ wJV _ a b c d e f g h r from ⟨_, _, _, _, _, _, _, _, _, rfl, wJV_w hj hV⟩)
      · exact none_
    · exact none_
  rw [if_neg c3]
  by_cases c4 : (k = 292 ∨ k = 293) ∧ j = 53
  · rw [if_pos c4]
    obtain ⟨c4, rfl⟩ := c4
    split
    · rename_i a1 a2 a3 a4 a5 a6 w a8
      split
      · rename_i hc
        subst hc
        obtain ⟨y1, y2, y3, y4, y5, y6, y7, y8, rfl, e7⟩ := wVal_8 hz
        cases e7.symm.trans hi
        rcases c4 with rfl | rfl
        · obtain ⟨z1, z2, z3, z4, z5, z6, z7, z8, he, hV⟩ : ∃ a b c d e f g h, [y1, y2, y3, y4, y5, y6, zi, y8] = [a, b, c, d, e, f, g, h] ∧ wBD H a b c d e f g h := up (by decide) (by decide)
          cases he
          exact one_ (by decide) (by decide) hz (show ∃ a b c d e f g h, [y1, y2, y3, y4, y5, y6, zi, y8] = [a, b, c, d, e, f, g, h] ∧ wBD _ a b c d e f g h from ⟨_, _, _, _, _, _, _, _, rfl, wBD_w hj hV⟩)
        · obtain ⟨z1, z2, z3, z4, z5, z6, z7, z8, he, hV⟩ : ∃ a b c d e f g h, [y1, y2, y3, y4, y5, y6, zi, y8] = [a, b, c, d, e, f, g, h] ∧ wBX H a b c d e f g h := up (by decide) (by decide)
          cases he
          exact one_ (by decide) (by decide) hz (show ∃ a b c d e f g h, [y1, y2, y3, y4, y5, y6, zi, y8] = [a, b, c, d, e, f, g, h] ∧ wBX _ a b c d e f g h from ⟨_, _, _, _, _, _, _, _, rfl, hV.imp (fun q => ⟨q.1, wBD_w hj q.2⟩) (fun q => ⟨q.1, q.2.1, wBD_w hj q.2.2.1, wJV_w hj q.2.2.2⟩)⟩)
      · exact none_
    · exact none_
  rw [if_neg c4]
  exact none_
theorem sfUP {k : Nat} (hk : 294 ≤ k) {zs : List Int} {H : List eE} : nUP k zs H ↔ safUP k zs H := by
  refine (wUPi (by omega)).trans ?_
  unfold wUP
  rw [if_neg (by omega), if_neg (by omega), if_neg (by omega), if_neg (by omega), if_neg (by omega), if_neg (by omega), if_neg (by omega), if_neg (by omega), if_neg (by omega), if_neg (by omega), if_neg (by omega), if_neg (by omega), if_pos hk]
theorem sfUQ {k : Nat} (hk : k = 300 ∨ (302 ≤ k ∧ k < 308) ∨ (311 ≤ k ∧ k < 320)) {hl b one x n N : Int} {rest : List Int} {H : List eE} : nUP k (hl :: b :: one :: x :: n :: N :: rest) H ↔ pC H hl b one x n N (fun P => pPr H P k rest) := by
  refine (sfUP (by omega)).trans ?_
  unfold safUP
  rw [if_neg (by omega), if_neg (by omega), if_neg (by omega), if_neg (by omega), if_neg (by omega), if_neg (by omega), if_neg (by omega), if_neg (by omega), if_neg (by omega), if_neg (by omega), if_neg (by omega), if_neg (by omega)]
theorem pdUP {k : Nat} (hk : 321 ≤ k) {zs : List Int} {H : List eE} : nUP k zs H ↔ padUP k zs H := by
  refine (sfUP (by omega)).trans ?_
  unfold safUP
  rw [if_pos hk]
/-- kinds that begin with hl, b, one, x, n, N -/
def pdK (k : Nat) : Prop := 322 ≤ k ∧ k < 352 ∧ k ≠ 328 ∧ k ≠ 329 ∧ k ≠ 343 ∧ k ≠ 344
theorem pdUm {k : Nat} (hk : pdK k) {zs : List Int} {H : List eE} : nUP k zs H ↔ (match zs with
    | hl :: b :: one :: x :: n :: N :: rest => pC H hl b one x n N (fun P => dPr H P k rest)
    | _ => False) := by
  unfold pdK at hk
  refine (pdUP (by omega)).trans ?_
  unfold padUP
  rw [if_neg (by omega), if_neg (by omega), if_neg (by omega), if_neg (by omega)]
  exact Iff.rfl
theorem pdUQ {k : Nat} (hk : pdK k) {hl b one x n N : Int} {rest : List Int} {H : List eE} : nUP k (hl :: b :: one :: x :: n :: N :: rest) H ↔ pC H hl b one x n N (fun P => dPr H P k rest) := pdUm hk
def sfA (p b : sL) : sL := sAdd (sMul 730 p) (sMul 73 b)
def sfG (p a w : sL) : sL := sAdd (sAdd (sMul 272 p) (sMul 16 a)) w
def sfL (k a o : sL) : sL := sAdd (sAdd (sMul 1700 k) (sMul 100 a)) o
/-- what of the atoms about the shortest way a write leaves -/
def sfKW (Γ : sG) (γ : List kA) (j : Nat) (i : sL) (q : kA) : List kA :=
  if (q.1 = 294 ∧ j = 28) ∨ (q.1 = 295 ∧ j = 73) then (match q.2 with
    | [_, m] => if sNN Γ (sSub i m) = true then [q] else []
    | _ => [])
  else if q.1 = 300 ∧ j = 29 then (match q.2 with
    | [_, _, _, _, _, _, p, b] => if (sNN Γ (sSub i (sfA p b)) && sNN Γ (sSub (sAdd (sMul 730 p) (sC 729)) i)) = true then [q] else []
    | _ => [])
  else if q.1 = 301 ∧ j = 29 then (match q.2 with
    | [p, b, m] => if (sNN Γ (sSub i (sAdd (sfA p b) m)) && sNN Γ (sfA p b)) = true then [q] else []
    | _ => [])
  else if q.1 = 302 ∧ j = 29 then (match q.2, kFindEl γ 29 i with
    | [h, b, o, x, n, N, p, e, w, t], some old => [(303, [h, b, o, x, n, N, p, e, w, t, i, old])]
    | _, _ => [])
  else if q.1 = 308 ∧ j = 74 then (match q.2 with
    | [_, _, _, p, a, w] => if (sNN Γ (sSub i (sfG p a w)) && (sNN Γ a && sNN Γ w)) = true then [q] else []
    | _ => [])
  else if q.1 = 311 ∧ j = 75 then (match q.2 with
    | [_, _, _, _, _, _, k, a, o] => if (sNN Γ (sSub i (sfL k a o)) && (sNN Γ (sSub (sAdd (sMul 1700 k) (sC 1699)) i) && sNN Γ o)) = true then [q] else []
    | _ => [])
  else []
section SFKW
variable {RO : List (Nat × (Nat → Int32))} {ρ : List Int} {H : List eE} {n : Nat} {zi : Int} {x : Int32} {ty : FieldType} {g : Nat → Int32}
theorem sfQ_set {j : Nat} (hj : H[j]? = some (.inl (ty, n, .inl g))) (h : j = 29 ∨ j = 75) {y : eE} {hl b one x n N : Int} {F F' : pP → Prop} (hF : ∀ P, F P → F' P) (q : pC H hl b one x n N F) : pC (H.set j y) hl b one x n N F' := pC_fr (fun c hc => nSet_ne (by rintro rfl; rcases h with rfl | rfl <;> revert hc <;> decide)) hF q
theorem sVal_6c {a b c d e f : sL} {fs : List sL} {zs : List Int} (h : sVal ρ (a :: b :: c :: d :: e :: f :: fs) = some zs) : ∃ p q r s t u zr, zs = p :: q :: r :: s :: t :: u :: zr ∧ sEv ρ a = some p ∧ sEv ρ b = some q ∧ sEv ρ c = some r ∧ sEv ρ d = some s ∧ sEv ρ e = some t ∧ sEv ρ f = some u ∧ sVal ρ fs = some zr := by
  obtain ⟨p, _, rfl, h1, h⟩ := sVal_c h
  obtain ⟨q, _, rfl, h2, h⟩ := sVal_c h
  obtain ⟨r, _, rfl, h3, h⟩ := sVal_c h
  obtain ⟨s, _, rfl, h4, h⟩ := sVal_c h
  obtain ⟨t, _, rfl, h5, h⟩ := sVal_c h
  obtain ⟨u, zr, rfl, h6, h⟩ := sVal_c h
  exact ⟨p, q, r, s, t, u, zr, rfl, h1, h2, h3, h4, h5, h6, h⟩
theorem sfA_ev {p b : sL} {zp zb : Int} (e1 : sEv ρ p = some zp) (e2 : sEv ρ b = some zb) : sEv ρ (sfA p b) = some (730 * zp + 73 * zb) := sEv_add (sEv_mul 730 e1) (sEv_mul 73 e2)
theorem sfG_ev {p a w : sL} {zp za zw : Int} (e1 : sEv ρ p = some zp) (e2 : sEv ρ a = some za) (e3 : sEv ρ w = some zw) : sEv ρ (sfG p a w) = some (272 * zp + 16 * za + zw) := sEv_add (sEv_add (sEv_mul 272 e1) (sEv_mul 16 e2)) e3
theorem sfL_ev {p a w : sL} {zp za zw : Int} (e1 : sEv ρ p = some zp) (e2 : sEv ρ a = some za) (e3 : sEv ρ w = some zw) : sEv ρ (sfL p a w) = some (1700 * zp + 100 * za + zw) := sEv_add (sEv_add (sEv_mul 1700 e1) (sEv_mul 100 e2)) e3
theorem sfUpd {f : Nat → Int32} {i e : Nat} {x : Int32} (h : e ≠ i) : upd f i x e = f e := if_neg h
theorem sfKW_ok {γ : List kA} {j : Nat} {zv : Int} {Γ : sG} {i : sL} {q : kA} (hM : sMo ρ Γ) (hg : kGh (kGP (kUP RO)) ρ γ H) (hi : sEv ρ i = some zi) (h0 : 0 ≤ zi) (hj : H[j]? = some (.inl (ty, n, .inl g))) {zs : List Int} (hz : sVal ρ q.2 = some zs) (hq : kGP (kUP RO) q.1 zs H) : kGh (kGP (kUP RO)) ρ (sfKW Γ γ j i q) (H.set j (.inl (ty, n, .inl (upd g zi.toNat (Int32.ofInt zv))))) := by
  have none_ : kGh (kGP (kUP RO)) ρ [] (H.set j (.inl (ty, n, .inl (upd g zi.toNat (Int32.ofInt zv))))) := fun a ha => by cases ha
  obtain ⟨k, fs⟩ := q
  simp only at hz hq
  have up : 294 ≤ k → k < 1000 → nUP k zs H := fun h1 h2 => by
    unfold kGP at hq
    rw [if_neg (by omega)] at hq
    exact (kUPn (by omega)).mp hq
  have one_ : ∀ {k' : Nat} {fs' : List sL} {zs' : List Int}, 294 ≤ k' → k' < 1000 → sVal ρ fs' = some zs' → nUP k' zs' (H.set j (.inl (ty, n, .inl (upd g zi.toNat (Int32.ofInt zv))))) → kGh (kGP (kUP RO)) ρ [(k', fs')] (H.set j (.inl (ty, n, .inl (upd g zi.toNat (Int32.ofInt zv))))) := fun {k' fs' zs'} h1 h2 h3 h4 b hb => by
    rcases List.mem_singleton.mp hb with rfl
    refine ⟨zs', h3, ?_⟩
    unfold kGP
    rw [if_neg (by show ¬ 1000 ≤ k'; omega)]
    exact kUPs (by omega) h4
  have upd_ : ∀ {c m : Nat} {f : Nat → Int32}, c = j → nI2 H c m f → nI2 (H.set j (.inl (ty, n, .inl (upd g zi.toNat (Int32.ofInt zv))))) c m (upd f zi.toNat (Int32.ofInt zv)) := fun {c m f} hc h => by
    have e := nI2_set (zi := zi) (x := Int32.ofInt zv) hj h
    rw [show kUpd c j zi.toNat (Int32.ofInt zv) f = upd f zi.toNat (Int32.ofInt zv) from if_pos hc] at e
    exact e
  unfold sfKW
  simp only
  by_cases c1 : (k = 294 ∧ j = 28) ∨ (k = 295 ∧ j = 73)
  · rw [if_pos c1]
    split
    · rename_i b m
      split
      · rename_i hc
        obtain ⟨zb, zm, rfl, eb, em⟩ := sVal_2 hz
        have d := sNN_ok hM (sEv_sub hi em) hc
        rcases c1 with ⟨rfl, rfl⟩ | ⟨rfl, rfl⟩
        · obtain ⟨a, b', he, hS⟩ : ∃ a b, [zb, zm] = [a, b] ∧ nSP 28 8 a b H := (sfUP (by decide)).mp (up (by decide) (by decide))
          cases he
          exact one_ (by decide) (by decide) hz ((sfUP (by decide)).mpr (show ∃ a b, [zb, zm] = [a, b] ∧ nSP 28 8 a b _ from ⟨_, _, rfl, nSP_w rfl h0 hj (by decide) (by omega) hS⟩))
        · obtain ⟨a, b', he, hS⟩ : ∃ a b, [zb, zm] = [a, b] ∧ nSP 73 8 a b H := (sfUP (by decide)).mp (up (by decide) (by decide))
          cases he
          exact one_ (by decide) (by decide) hz ((sfUP (by decide)).mpr (show ∃ a b, [zb, zm] = [a, b] ∧ nSP 73 8 a b _ from ⟨_, _, rfl, nSP_w rfl h0 hj (by decide) (by omega) hS⟩))
      · exact none_
    · exact none_
  rw [if_neg c1]
  by_cases c2 : k = 300 ∧ j = 29
  · rw [if_pos c2]
    obtain ⟨rfl, rfl⟩ := c2
    split
    · rename_i a1 a2 a3 a4 a5 a6 p b
      split
      · rename_i hc
        rw [Bool.and_eq_true] at hc
        obtain ⟨y1, y2, y3, y4, y5, y6, zr, rfl, -, -, -, -, -, -, hz2⟩ := sVal_6c hz
        obtain ⟨zp, zb, rfl, ep, eb⟩ := sVal_2 hz2
        have d1 := sNN_ok hM (sEv_sub hi (sfA_ev ep eb)) hc.1
        have d2 := sNN_ok hM (sEv_sub (sEv_add (sEv_mul 730 ep) (sEv_C 729)) hi) hc.2
        have hC := (sfUQ (Or.inl rfl)).mp (up (by decide) (by decide))
        refine one_ (by decide) (by decide) hz ((sfUQ (Or.inl rfl)).mpr (sfQ_set hj (Or.inl rfl) (fun P hP => ?_) hC))
        obtain ⟨f, f1, f2⟩ : ∃ f, nI2 H 29 5840 f ∧ pDn P f zp zb := hP
        exact show ∃ f, nI2 _ 29 5840 f ∧ pDn P f zp zb from ⟨_, upd_ rfl f1, pDn_w (i := zi.toNat) (by omega) (by omega) (fun e he => sfUpd he) f2⟩
      · exact none_
    · exact none_
  rw [if_neg c2]
  by_cases c3 : k = 301 ∧ j = 29
  · rw [if_pos c3]
    obtain ⟨rfl, rfl⟩ := c3
    split
    · rename_i p b m
      split
      · rename_i hc
        obtain ⟨zp, zb, zm, rfl, ep, eb, em⟩ := sVal_3 hz
        rw [Bool.and_eq_true] at hc
        have d := sNN_ok hM (sEv_sub hi (sEv_add (sfA_ev ep eb) em)) hc.1
        have dA := sNN_ok hM (sfA_ev ep eb) hc.2
        obtain ⟨k', be', m', he, f, f1, f2⟩ : ∃ k be m, [zp, zb, zm] = [k, be, m] ∧ pRC H k be m := (sfUP (by decide)).mp (up (by decide) (by decide))
        cases he
        refine one_ (by decide) (by decide) hz ((sfUP (by decide)).mpr (show ∃ k be m, [zp, zb, zm] = [k, be, m] ∧ pRC _ k be m from ⟨_, _, _, rfl, _, upd_ rfl f1, fun s s0 s1 => ?_⟩))
        rw [sfUpd (by omega)]
        exact f2 s s0 s1
      · exact none_
    · exact none_
  rw [if_neg c3]
  by_cases c4 : k = 302 ∧ j = 29
  · rw [if_pos c4]
    obtain ⟨rfl, rfl⟩ := c4
    split
    · rename_i a1 a2 a3 a4 a5 a6 p e w t old hold
      obtain ⟨y1, y2, y3, y4, y5, y6, zr, rfl, e1, e2, e3, e4, e5, e6, hz2⟩ := sVal_6c hz
      obtain ⟨zp, ze, zw, zt, rfl, ep, ee, ew, et⟩ := sVal_4 hz2
      obtain ⟨zo, eo, ko⟩ := kFindEl_ok hg hold hi
      have hC := (sfUQ (Or.inr (Or.inl ⟨by decide, by decide⟩))).mp (up (by decide) (by decide))
      refine one_ (zs' := [y1, y2, y3, y4, y5, y6, zp, ze, zw, zt, zi, zo]) (by decide) (by decide) (by simp only [sVal, e1, e2, e3, e4, e5, e6, ep, ee, ew, et, hi, eo]) ((sfUQ (Or.inr (Or.inl ⟨by decide, by decide⟩))).mpr (sfQ_set hj (Or.inl rfl) (fun P hP => ?_) hC))
      obtain ⟨f, f1, f2⟩ : ∃ f, nI2 H 29 5840 f ∧ pPt P f zp ze zw zt := hP
      exact show ∃ f f0, nI2 _ 29 5840 f ∧ 0 ≤ zi ∧ f0 zi.toNat = Int32.ofInt zo ∧ (∀ i : Nat, i ≠ zi.toNat → f i = f0 i) ∧ pPt P f0 zp ze zw zt from ⟨_, f, upd_ rfl f1, h0, (kElA ko f1).2, fun e he => sfUpd he, f2⟩
    · exact none_
  rw [if_neg c4]
  by_cases c5 : k = 308 ∧ j = 74
  · rw [if_pos c5]
    obtain ⟨rfl, rfl⟩ := c5
    split
    · rename_i a1 a2 a3 p a w
      split
      · rename_i hc
        obtain ⟨y1, y2, y3, zp, za, zw, rfl, e1, e2, e3, ep, ea, ew⟩ := sVal_6 hz
        simp only [Bool.and_eq_true] at hc
        have d := sNN_ok hM (sEv_sub hi (sfG_ev ep ea ew)) hc.1
        have da := sNN_ok hM ea hc.2.1
        have dw := sNN_ok hM ew hc.2.2
        obtain ⟨x1, x2, x3, x4, x5, x6, he, hN, f, f1, f2⟩ : ∃ hl one N p a w, [y1, y2, y3, zp, za, zw] = [hl, one, N, p, a, w] ∧ pGT H hl one N p a w := (sfUP (by decide)).mp (up (by decide) (by decide))
        cases he
        refine one_ (by decide) (by decide) hz ((sfUP (by decide)).mpr (show ∃ hl one N p a w, [y1, y2, y3, zp, za, zw] = [hl, one, N, p, a, w] ∧ pGT _ hl one N p a w from ⟨_, _, _, _, _, _, rfl, hN, _, upd_ rfl f1, fun p' a' w' h1 h2 h3 h4 h5 => ?_⟩))
        have e : (272 * p' + 16 * a' + w').toNat ≠ zi.toNat := by
          rcases h2 with rfl | ⟨h2, h6⟩ <;> rcases h5 with h5 | ⟨rfl, h5 | ⟨rfl, h5⟩⟩ <;> omega
        rw [sfUpd e]
        exact nGW_fr (fun c hc => nSet_ne (by simp [nAR] at hc; omega)) (nSet_ne (by decide)) (nSet_ne (by decide)) (nSet_ne (by decide)) (nSet_ne (by decide)) (f2 p' a' w' h1 h2 h3 h4 h5)
      · exact none_
    · exact none_
  rw [if_neg c5]
  by_cases c6 : k = 311 ∧ j = 75
  · rw [if_pos c6]
    obtain ⟨rfl, rfl⟩ := c6
    split
    · rename_i a1 a2 a3 a4 a5 a6 p a o
      split
      · rename_i hc
        simp only [Bool.and_eq_true] at hc
        obtain ⟨y1, y2, y3, y4, y5, y6, zr, rfl, -, -, -, -, -, -, hz2⟩ := sVal_6c hz
        obtain ⟨zp, za, zo, rfl, ep, ea, eo⟩ := sVal_3 hz2
        have d1 := sNN_ok hM (sEv_sub hi (sfL_ev ep ea eo)) hc.1
        have d2 := sNN_ok hM (sEv_sub (sEv_add (sEv_mul 1700 ep) (sEv_C 1699)) hi) hc.2.1
        have d3 := sNN_ok hM eo hc.2.2
        have hC := (sfUQ (Or.inr (Or.inr ⟨by decide, by decide⟩))).mp (up (by decide) (by decide))
        refine one_ (by decide) (by decide) hz ((sfUQ (Or.inr (Or.inr ⟨by decide, by decide⟩))).mpr (sfQ_set hj (Or.inr rfl) (fun P hP => ?_) hC))
        obtain ⟨f, f1, x1, x2, f2⟩ : ∃ f, nI2 H 75 15300 f ∧ pX P ≤ 99 ∧ pM P ≤ 16 ∧ pLt P f zp za zo := hP
        exact show ∃ f, nI2 _ 75 15300 f ∧ pX P ≤ 99 ∧ pM P ≤ 16 ∧ pLt P f zp za zo from ⟨_, upd_ rfl f1, x1, x2, pLt_w (i := zi.toNat) d3 x1 x2 (by omega) (by omega) (fun e he => sfUpd he) f2⟩
      · exact none_
    · exact none_
  rw [if_neg c6]
  exact none_
end SFKW
section PDKW
variable {RO : List (Nat × (Nat → Int32))} {ρ : List Int} {H : List eE} {n : Nat} {zi : Int} {x : Int32} {ty : FieldType} {g : Nat → Int32}
abbrev pdKc (k j : Nat) : Prop := (j = 30 + k % 2 ∧ (k / 2 = 162 ∨ k / 2 = 163 ∨ k / 2 = 165)) ∨ (j = 75 ∧ (k = 346 ∨ k = 348))
def pdKn (k : Nat) : Nat := if k < 330 then k + 8 else if k < 338 then k + 6 else k + 1
theorem pdKn_c (k : Nat) : (k < 330 ∧ pdKn k = k + 8) ∨ (330 ≤ k ∧ k < 338 ∧ pdKn k = k + 6) ∨ (338 ≤ k ∧ pdKn k = k + 1) := by
  unfold pdKn
  by_cases h : k < 330
  · rw [if_pos h]
    exact Or.inl ⟨h, rfl⟩
  · rw [if_neg h]
    by_cases h2 : k < 338
    · rw [if_pos h2]
      exact Or.inr (Or.inl ⟨by omega, h2, rfl⟩)
    · rw [if_neg h2]
      exact Or.inr (Or.inr ⟨by omega, rfl⟩)
/-- what of the atoms about what is put in a write leaves -/
def pdKW (Γ : sG) (γ : List kA) (j : Nat) (i : sL) (q : kA) : List kA :=
  if (q.1 = 328 ∧ j = 30) ∨ (q.1 = 329 ∧ j = 31) ∨ (q.1 = 344 ∧ j = 75) then (match q.2 with
    | [a] => if sNN Γ (sSub i a) = true then [q] else []
    | _ => [])
  else if pdKc q.1 j then (match kFindEl γ j i with
    | some old => [(pdKn q.1, q.2 ++ [i, old])]
    | _ => [])
  else []
theorem pdQ_set {j : Nat} (h : j = 30 ∨ j = 31 ∨ j = 75) {y : eE} {hl b one x n N : Int} {F F' : pP → Prop} (hF : ∀ P, F P → F' P) (q : pC H hl b one x n N F) : pC (H.set j y) hl b one x n N F' := pC_fr (fun c hc => nSet_ne (by rintro rfl; rcases h with rfl | rfl | rfl <;> revert hc <;> decide)) hF q
theorem pdVal : ∀ {a : List sL} {b : List sL} {za zb : List Int}, sVal ρ a = some za → sVal ρ b = some zb → sVal ρ (a ++ b) = some (za ++ zb)
  | [], b, za, zb, h1, h2 => by
    cases h1
    exact h2
  | x :: a, b, za, zb, h1, h2 => by
    obtain ⟨p, zr, rfl, e, h⟩ := sVal_c h1
    have := pdVal h h2
    simp only [List.cons_append, sVal, e, this]
theorem dRw_q {P : pP} {f : Nat → Int32} {j j' : Nat} {zs : List Int} {zo : Int} (hj : (j = 162 ∧ j' = 166) ∨ (j = 163 ∧ j' = 167) ∨ (j = 165 ∧ j' = 168)) (h : dRw P f j zs) (h0 : 0 ≤ zi) (ho : f zi.toNat = Int32.ofInt zo) : dRq P (upd f zi.toNat x) j' (zs ++ [zi, zo]) := by
  rcases hj with ⟨rfl, rfl⟩ | ⟨rfl, rfl⟩ | ⟨rfl, rfl⟩
  · match zs, h with
    | [k, p, a, w], h => exact ⟨rfl, f, h0, ho, fun i hi => if_neg hi, h⟩
    | [a], h => exact (show False from h).elim
    | [a, b, c], h => exact (show False from h).elim
  · match zs, h with
    | [k, p, a, w], h => exact (show False from h).elim
    | [a], h => exact (show False from h).elim
    | [a, b, c], h => exact ⟨rfl, f, h0, ho, fun i hi => if_neg hi, h⟩
  · match zs, h with
    | [k, p, a, w], h => exact (show False from h).elim
    | [a], h => exact ⟨rfl, f, h0, ho, fun i hi => if_neg hi, h⟩
    | [a, b, c], h => exact (show False from h).elim
theorem dTb_q {P : pP} {f : Nat → Int32} {k : Nat} {zs : List Int} {zo : Int} (hk : k = 346 ∨ k = 348) (h : dTb P f k zs) (h0 : 0 ≤ zi) (ho : f zi.toNat = Int32.ofInt zo) : dTb P (upd f zi.toNat x) (k + 1) (zs ++ [zi, zo]) := by
  rcases hk with rfl | rfl
  · match zs, h with
    | [a], h => exact absurd h.1 (by decide)
    | [a, b], h => exact absurd h.1 (by decide)
    | [a, b, c, d], h => exact absurd h.1 (by decide)
    | [a, p, b, o, w, e], h => exact ⟨rfl, f, h0, ho, fun i hi => if_neg hi, h.2⟩
    | [a, p, b, o, w, e, i, old], h => exact absurd h.1 (by decide)
  · match zs, h with
    | [a], h => exact absurd h.1 (by decide)
    | [a, b], h => exact ⟨rfl, f, h0, ho, fun i hi => if_neg hi, h.2⟩
    | [a, b, c, d], h => exact absurd h.1 (by decide)
    | [a, p, b, o, w, e], h => exact absurd h.1 (by decide)
    | [a, p, b, o, w, e, i, old], h => exact absurd h.1 (by decide)
theorem pdKW_ok {γ : List kA} {j : Nat} {zv : Int} {Γ : sG} {i : sL} {q : kA} (hM : sMo ρ Γ) (hg : kGh (kGP (kUP RO)) ρ γ H) (hi : sEv ρ i = some zi) (h0 : 0 ≤ zi) (hj : H[j]? = some (.inl (ty, n, .inl g))) {zs : List Int} (hz : sVal ρ q.2 = some zs) (hq : kGP (kUP RO) q.1 zs H) : kGh (kGP (kUP RO)) ρ (pdKW Γ γ j i q) (H.set j (.inl (ty, n, .inl (upd g zi.toNat (Int32.ofInt zv))))) := by
  have none_ : kGh (kGP (kUP RO)) ρ [] (H.set j (.inl (ty, n, .inl (upd g zi.toNat (Int32.ofInt zv))))) := fun a ha => by cases ha
  obtain ⟨k, fs⟩ := q
  simp only at hz hq
  have up : 321 ≤ k → k < 1000 → nUP k zs H := fun h1 h2 => by
    unfold kGP at hq
    rw [if_neg (by omega)] at hq
    exact (kUPn (by omega)).mp hq
  have one_ : ∀ {k' : Nat} {fs' : List sL} {zs' : List Int}, 294 ≤ k' → k' < 1000 → sVal ρ fs' = some zs' → nUP k' zs' (H.set j (.inl (ty, n, .inl (upd g zi.toNat (Int32.ofInt zv))))) → kGh (kGP (kUP RO)) ρ [(k', fs')] (H.set j (.inl (ty, n, .inl (upd g zi.toNat (Int32.ofInt zv))))) := fun {k' fs' zs'} h1 h2 h3 h4 b hb => by
    rcases List.mem_singleton.mp hb with rfl
    refine ⟨zs', h3, ?_⟩
    unfold kGP
    rw [if_neg (by show ¬ 1000 ≤ k'; omega)]
    exact kUPs (by omega) h4
  have upd_ : ∀ {c m : Nat} {f : Nat → Int32}, c = j → nI2 H c m f → nI2 (H.set j (.inl (ty, n, .inl (upd g zi.toNat (Int32.ofInt zv))))) c m (upd f zi.toNat (Int32.ofInt zv)) := fun {c m f} hc h => by
    have e := nI2_set (zi := zi) (x := Int32.ofInt zv) hj h
    rw [show kUpd c j zi.toNat (Int32.ofInt zv) f = upd f zi.toNat (Int32.ofInt zv) from if_pos hc] at e
    exact e
  unfold pdKW
  simp only
  by_cases c1 : (k = 328 ∧ j = 30) ∨ (k = 329 ∧ j = 31) ∨ (k = 344 ∧ j = 75)
  · rw [if_pos c1]
    split
    · rename_i a
      split
      · rename_i hc
        obtain ⟨za, rfl, ea⟩ := sVal_1 hz
        have d := sNN_ok hM (sEv_sub hi ea) hc
        have hU := (pdUP (by omega)).mp (up (by omega) (by omega))
        refine one_ (by omega) (by omega) hz ((pdUP (by omega)).mpr ?_)
        rcases c1 with ⟨rfl, rfl⟩ | ⟨rfl, rfl⟩ | ⟨rfl, rfl⟩
        · obtain ⟨z, he, f, h1, h2⟩ : ∃ a, [za] = [a] ∧ ∃ f, nI2 H 30 128 f ∧ ∀ i : Nat, (i : Int) < a → (f i).toInt = 100 := hU
          cases he
          refine show ∃ a, [za] = [a] ∧ ∃ f, nI2 _ 30 128 f ∧ ∀ i : Nat, (i : Int) < a → (f i).toInt = 100 from ⟨za, rfl, _, upd_ rfl h1, fun i hi => ?_⟩
          rw [sfUpd (by omega)]
          exact h2 i hi
        · obtain ⟨z, he, f, h1, h2⟩ : ∃ a, [za] = [a] ∧ ∃ f, nI2 H 31 128 f ∧ ∀ i : Nat, (i : Int) < a → (f i).toInt = 100 := hU
          cases he
          refine show ∃ a, [za] = [a] ∧ ∃ f, nI2 _ 31 128 f ∧ ∀ i : Nat, (i : Int) < a → (f i).toInt = 100 from ⟨za, rfl, _, upd_ rfl h1, fun i hi => ?_⟩
          rw [sfUpd (by omega)]
          exact h2 i hi
        · obtain ⟨z, he, f, h1, h2⟩ : ∃ a, [za] = [a] ∧ ∃ f, nI2 H 75 15300 f ∧ ∀ i : Nat, (i : Int) < a → (f i).toInt = 0 := hU
          cases he
          refine show ∃ a, [za] = [a] ∧ ∃ f, nI2 _ 75 15300 f ∧ ∀ i : Nat, (i : Int) < a → (f i).toInt = 0 from ⟨za, rfl, _, upd_ rfl h1, fun i hi => ?_⟩
          rw [sfUpd (by omega)]
          exact h2 i hi
      · exact none_
    · exact none_
  rw [if_neg c1]
  by_cases c2 : pdKc k j
  · have hkn := pdKn_c k
    rw [if_pos c2]
    split
    · rename_i old hold
      obtain ⟨zo, eo, ko⟩ := kFindEl_ok hg hold hi
      unfold pdKc at c2
      have hk : pdK k := by
        unfold pdK
        omega
      have hk' : pdK (pdKn k) := by
        unfold pdK
        omega
      have hU := (pdUm hk).mp (up (by unfold pdK at hk; omega) (by unfold pdK at hk; omega))
      refine one_ (zs' := zs ++ [zi, zo]) (by unfold pdK at hk'; omega) (by unfold pdK at hk'; omega) (pdVal hz (by simp only [sVal, hi, eo])) ((pdUm hk').mpr ?_)
      split at hU
      · rename_i hl b one x n' N rest
        refine pdQ_set (F' := fun P => dPr (H.set j (.inl (ty, _, .inl (upd g zi.toNat (Int32.ofInt zv))))) P (pdKn k) (rest ++ [zi, zo])) (by omega) (fun P hP => ?_) hU
        rcases c2 with ⟨rfl, c2⟩ | ⟨rfl, c2⟩
        · unfold dPr at hP ⊢
          rw [if_pos (by omega)] at hP
          obtain ⟨f, f1, f2⟩ := hP
          have hn2 : (k / 2 = 162 ∧ pdKn k / 2 = 166) ∨ (k / 2 = 163 ∧ pdKn k / 2 = 167) ∨ (k / 2 = 165 ∧ pdKn k / 2 = 168) := by omega
          rw [if_neg (by omega), if_pos (by omega), show pdKn k % 2 = k % 2 by omega]
          exact ⟨_, upd_ rfl f1, dRw_q hn2 f2 h0 (kElA ko f1).2⟩
        · have hn : pdKn k = k + 1 := by omega
          rw [hn]
          unfold dPr at hP ⊢
          rw [if_neg (by omega), if_neg (by omega), if_pos (by omega)] at hP ⊢
          obtain ⟨f, f1, f2⟩ := hP
          exact ⟨_, upd_ rfl f1, dTb_q c2 f2 h0 (kElA ko f1).2⟩
      · exact hU.elim
    · exact none_
  rw [if_neg c2]
  exact none_
end PDKW
/-- what of an atom a write leaves; of all that hang on the cell -/
def nKWq (Γ : sG) (γ : List kA) (j : Nat) (i v : sL) (q : kA) : List kA := fApp (kKW1 Γ j i q) (@Bool.rec (fun _ => List kA) (fApp (nKW1 Γ j i v q) (fApp (nKW2 Γ γ j i v q) (fApp (tKW Γ j i q) (fApp (wKW j i q) (fApp (sfKW Γ γ j i q) (pdKW Γ γ j i q)))))) [] (Nat.ble 1000 q.1))
def nKW (Γ : sG) (γ : List kA) (j : Nat) (i v : sL) : List kA := kFm (nKWq Γ γ j i v) j γ
theorem nKW_ok (RO : List (Nat × (Nat → Int32))) : kWOk (kUP RO) nKW := by
  intro Γ γ j i v ρ zi zv H ty n f hM hg hi hv h0 hn hj q hq
  obtain ⟨a, ha, hqa⟩ := kFm_mem hq
  obtain ⟨zs, e1, e2⟩ := hg a ha
  unfold nKWq at hqa
  rw [fApp_eq] at hqa
  rcases List.mem_append.mp hqa with hqa | hqa
  · exact kKW1_ok hM hi h0 hj e1 e2 q hqa
  · cases hb : Nat.ble 1000 a.1 with
    | true =>
      rw [hb] at hqa
      have hqa : q ∈ ([] : List kA) := hqa
      cases hqa
    | false =>
    rw [hb] at hqa
    have hqa : q ∈ fApp (nKW1 Γ j i v a) (fApp (nKW2 Γ γ j i v a) (fApp (tKW Γ j i a) (fApp (wKW j i a) (fApp (sfKW Γ γ j i a) (pdKW Γ γ j i a))))) := hqa
    rw [fApp_eq] at hqa
    rcases List.mem_append.mp hqa with hqa | hqa
    · exact nKW1_ok hM hi hv h0 hj e1 e2 q hqa
    rw [fApp_eq] at hqa
    rcases List.mem_append.mp hqa with hqa | hqa
    · exact nKW2_ok hM hg hi hv h0 hj e1 e2 q hqa
    rw [fApp_eq] at hqa
    rcases List.mem_append.mp hqa with hqa | hqa
    · exact tKW_ok hM hi h0 hj e1 e2 q hqa
    rw [fApp_eq] at hqa
    rcases List.mem_append.mp hqa with hqa | hqa
    · exact wKW_ok hi h0 hj e1 e2 q hqa
    rw [fApp_eq] at hqa
    rcases List.mem_append.mp hqa with hqa | hqa
    · exact sfKW_ok hM hg hi h0 hj e1 e2 q hqa
    · exact pdKW_ok hM hg hi h0 hj e1 e2 q hqa
end
