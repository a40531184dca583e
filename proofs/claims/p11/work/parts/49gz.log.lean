/-! The rows of changes; words taken; an image; the start; copies. -/
noncomputable section
def nLGp : List (Nat × Nat) := [(14, 61), (15, 60), (16, 62), (17, 63)]
def nLGt1 (Γ : sG) (γ : List kA) (p : Nat × Nat) (q : kA) : Option kA := if q.1 = 1000 + p.1 then (match q.2 with
  | [i, v] => if sInR Γ i 40 = true ∧ kHav γ (1000 + p.2) [i, v] = false then some (1000 + p.2, [i, v]) else none
  | _ => none) else none
def nLGt (K : kS) : Option kWs := if kHav K.2 96 [sC (-1)] = true then some [(nLGp.flatMap (fun p => K.2.filterMap (nLGt1 K.1.2.2.2.2.2.2 K.2 p)), [])] else none
def nLGq (Γ : sG) (γ : List kA) (e : sL) (p : Nat × Nat) : Bool := match kFindEl γ p.1 e, kFindEl γ p.2 e with
  | some u, some w => decide (u = w) || (match sK Γ.1 u with
    | some k => decide (sK Γ.1 w = some k)
    | none => false)
  | _, _ => false
def nLGe (K : kS) : Option kWs := match kFa K.2 96 (fun _ => true) with
  | some [e] => if e = sC (-1) then none else if nLGp.all (nLGq K.1.2.2.2.2.2.2 K.2 e) = true then some [([(96, [sC (-1)])], [])] else none
  | _ => none
/-- one more place is shifted; local 5 is not yet counted -/
def nLGr (γ : List kA) (k : sL) (p : Nat × Nat) : Bool := match kFindEl γ p.2 k with
  | some x => decide (kFindEl γ p.2 (sSub k (sC 1)) = some x)
  | none => false
def nLGn (K : kS) : Option kWs := match kLf K.1.2.1 5 with
  | some k => if (kHav K.2 98 [k] && nLGp.all (nLGr K.2 k)) = true then some [([(98, [sAdd k (sC 1)])], [])] else none
  | none => none
def nLGz (K : kS) : Option kWs := match kFa K.2 98 (fun _ => true) with
  | some [k] => if sNN K.1.2.2.2.2.2.2 (sSub k (sC 40)) = true then some [([(96, [sC 39])], [])] else none
  | _ => none
/-- words: the class begins to take some -/
def nNXi (zw : Nat) (K : kS) : Option kWs := match kWs_ 0 K, kFa K.2 99 (fun _ => true), kLf K.1.2.1 5, nFf K.1.2.2.2.1 1 zw with
  | some s, none, some a, some w => if (kHav K.2 75 [sC (-1)] && (kHav K.2 76 [sC (-1)] && (kHav K.2 77 [sC (-1)] && (kHav K.2 (14 + s) [sC (-1)] && (sNN K.1.2.2.2.2.2.2 a && sNN K.1.2.2.2.2.2.2 w))))) = true then some [([(99, [sAdd (sC (60 * (s : Int))) a, w, sC 0])], [])] else none
  | _, _, _, _ => none
/-- whether the words' numbers at a place are a row's -/
def nTk3 (Γ : sG) (γ : List kA) (c : Nat) (i : sL) (j : Nat) (p : sL) : Bool := [0, 1, 2].all (fun d => match kFindEl γ (c + d) i, kFindEl γ j (sAdd p (sC (d : Int))) with
  | some a, some x => decide (kNr Γ x = some a)
  | _, _ => false)
/-- the class has taken one more -/
def nNXs (K : kS) : Option kWs := match kWs_ 0 K, kFa K.2 100 (fun _ => true) with
  | some s, some [e, w, t, i] => (match sSub (sAdd e (sMul 3 t)) (sC (60 * (s : Int))) with
    | p => if (kHav K.2 (14 + s) [sC (-1)] && (decide (i = sAdd w t) && (sInR K.1.2.2.2.2.2.2 p 58 && nTk3 K.1.2.2.2.2.2.2 K.2 3 i (41 + 2 * s) p))) = true then some [([(99, [e, w, sAdd t (sC 1)])], [])] else none)
  | _, _ => none
def nNXe (K : kS) : Option kWs := match kWs_ 0 K, kFa K.2 99 (fun _ => true) with
  | some s, some [e, w, t] => (match kFa K.2 (41 + s) (fun _ => true) with
    | some [r, _, _, _, _] => if kEqf K.1.2.2.2.2.2.2 r (sC 0) = true then some [([(99, [e, w, sAdd t r])], [])] else none
    | _ => none)
  | _, _ => none
/-- a word is there: at least one comes -/
def nWMb (K : kS) : Option kWs := match kWs_ 1 K with
  | some s => (match kFa K.2 (kWk_ 1 s) (fun _ => true) with
    | some [r, p, n, le, w] => (match kWv K.1.2.2.2.2.2.2 K.2 1 s p 0, kWv K.1.2.2.2.2.2.2 K.2 1 s p 1, kWv K.1.2.2.2.2.2.2 K.2 1 s p 2 with
      | some a, some b, some e => if (sWf K.1.2.2.2.2.2.2 a 0 9 && (sWf K.1.2.2.2.2.2.2 b 0 7 && (sWf K.1.2.2.2.2.2.2 e 1 9 && (sNN K.1.2.2.2.2.2.2 (sSub n (sC 1)) && (sNN K.1.2.2.2.2.2.2 (sSub (sSub le p) (sC 3)) && (sNN K.1.2.2.2.2.2.2 (sSub (sC 15) w) && (sNN K.1.2.2.2.2.2.2 p && sNN K.1.2.2.2.2.2.2 w))))))) = true then some [([], [(r, 1, 16)])] else none
      | _, _, _ => none)
    | _ => none)
  | none => none
/-- the reference has taken it, too -/
def nNXm (K : kS) : Option kWs := match kFa K.2 99 (fun _ => true) with
  | some [e, w, t] => if (sNN K.1.2.2.2.2.2.2 (sSub t (sC 1)) && nTk3 K.1.2.2.2.2.2.2 K.2 53 w 84 e) = true then some [([(99, [sAdd e (sC 3), sAdd w (sC 1), sSub t (sC 1)])], [])] else none
  | _ => none
def nNXz (K : kS) : Option kWs := match kFa K.2 99 (fun _ => true) with
  | some [_, _, t] => if sNN K.1.2.2.2.2.2.2 (sMul (-1) t) = true then some [([(75, [sC (-1)]), (76, [sC (-1)]), (77, [sC (-1)])], [])] else none
  | _ => none
def nIMz (K : kS) : Option kWs := match kFa K.2 101 (fun _ => true) with
  | some [n, k] => if sNN K.1.2.2.2.2.2.2 (sSub k n) = true then some [([(103, [])], [])] else none
  | _ => none
def nIBz (K : kS) : Option kWs := match kFa K.2 102 (fun _ => true) with
  | some [n, k] => if sNN K.1.2.2.2.2.2.2 (sSub k n) = true then some [([(78, [sC (-1)])], [])] else none
  | _ => none
/-- the start -/
def nRNc (G : List sE) (zh zs : Nat) : Bool := (List.range 6).all (fun t => kZ40 G (3 + t) 16 .int && kZ40 G (53 + t) (nNn t) .int) && (([14, 15, 16, 17, 60, 61, 62, 63].all fun j => kZ40 G j 40 .int) && (kZ40 G 35 7 .int && (kZ40 G 78 7 .int && (kZ40 G 26 2560 .int && (decide (nFf G 52 zh = some (sC 0)) && (decide (nFf G 21 zs = some (sC 0)) && (kShb G 19 .int 120 && (kShb G 64 .byte 120 && (kShb G 22 .int 256 && (kSh G && kZ40 G 67 2 .int))))))))))
def nRN (zh zs : Nat) (K : kS) : Option kWs := if nRNc K.1.2.2.2.1 zh zs = true then some [((List.range 6).map (fun t => ((75 + t, [sC (-1)]) : kA)) ++ [(96, [sC (-1)]), (103, []), (84, [sC 0]), (61, [sC 0]), (62, [sC 0, sC 0])], [])] else none
/-- copies of so many -/
def nKC1 (γ : List kA) (js jd : Nat) (sp dp n : Int) : List kA := if sp = 1 ∧ dp = 0 ∧ n = 39 ∧ js = jd then
  (if jd = 14 ∧ kHav γ 96 [sC (-1)] = true then [(97, [sC 1])] else if jd = 15 ∧ kHav γ 97 [sC 1] = true then [(97, [sC 2])] else if jd = 16 ∧ kHav γ 97 [sC 2] = true then [(97, [sC 3])] else if jd = 17 ∧ kHav γ 97 [sC 3] = true then [(98, [sC 1])] else []) else []
def nKC (γ : List kA) (js jd : Nat) (sp dp n : Int) : List kA := kKC γ js jd sp dp n ++ nKC1 γ js jd sp dp n
def nIC1 (γ : List kA) (n : sL) (q : kA) : Option kA := if q.1 = 59 then (match q.2 with
  | [ln, z] => if n = sAdd z (sC 2) ∧ kFindEl γ 20 z = some (sC 0) ∧ kFindEl γ 20 (sAdd z (sC 1)) = some (sC (-1000)) then some (63, [ln, n]) else none
  | _ => none) else none
def nIC (_ : sG) (γ : List kA) (js jd _ m1 : Nat) (sp dp n : sL) : List kA := if sp = sC 0 ∧ dp = sC 0 then
  (if js = 20 ∧ jd = 22 ∧ m1 = 256 then γ.filterMap (nIC1 γ n)
   else if js = 6 ∧ jd = 35 ∧ (kHav γ 78 [sC (-1)] && kHav γ 103 []) = true then [(101, [n, sC 0])]
   else if js = 35 ∧ jd = 6 ∧ (kHav γ 78 [sC (-1)] && kHav γ 103 []) = true then [(102, [n, sC 0])] else []) else []
section NLGZ
variable {RO : List (Nat × (Nat → Int32))} {ρ : List Int} {Γ : sG} {γ : List kA} {H : List eE}
theorem nHavU (hg : kGh (kGP (kUP RO)) ρ γ H) {k : Nat} {x : Int} (h1 : 53 ≤ k) (h2 : k < 1000) (h : kHav γ k [sC x] = true) : nUP k [x] H := by
  obtain ⟨zs, e1, e2⟩ := kHav_ok hg h h2
  obtain ⟨z, rfl, ez⟩ := sVal_1 e1
  rw [sEv_C] at ez
  cases ez
  exact (kUPn h1).mp e2
/-- the four rows of either side, one by one -/
theorem nL8_at {x1 x2 x3 x4 y1 y2 y3 y4 : Nat → Int32} (h : nL8 x1 x2 x3 x4 y1 y2 y3 y4 H) {p : Nat × Nat} (hp : p ∈ nLGp) : (p = (14, 61) ∧ nI2 H p.1 40 x1 ∧ nI2 H p.2 40 y1) ∨ (p = (15, 60) ∧ nI2 H p.1 40 x2 ∧ nI2 H p.2 40 y2) ∨ (p = (16, 62) ∧ nI2 H p.1 40 x3 ∧ nI2 H p.2 40 y3) ∨ (p = (17, 63) ∧ nI2 H p.1 40 x4 ∧ nI2 H p.2 40 y4) := by
  obtain ⟨h1, h2, h3, h4, h5, h6, h7, h8⟩ := h
  simp only [nLGp, List.mem_cons, List.not_mem_nil, or_false] at hp
  rcases hp with rfl | rfl | rfl | rfl
  · exact Or.inl ⟨rfl, h1, h5⟩
  · exact Or.inr (Or.inl ⟨rfl, h2, h6⟩)
  · exact Or.inr (Or.inr (Or.inl ⟨rfl, h3, h7⟩))
  · exact Or.inr (Or.inr (Or.inr ⟨rfl, h4, h8⟩))
theorem nLGt_ok : kRok RO nLGt := by
  intro K ws h ρ R hD
  unfold nLGt at h
  split at h
  · rename_i hh
    cases h
    obtain ⟨a, he, x1, x2, x3, x4, y1, y2, y3, y4, h8, hq⟩ : ∃ a, [(-1 : Int)] = [a] ∧ nLG a R.2.2.2.1 := nHavU hD.2.2 (by decide) (by decide) hh
    cases he
    refine ⟨_, List.mem_singleton.mpr rfl, fun q hq0 => ?_, fun b hb => by cases hb⟩
    obtain ⟨p, hp, hq1⟩ := List.mem_flatMap.mp hq0
    obtain ⟨⟨k, fs⟩, ha, hs2⟩ := List.mem_filterMap.mp hq1
    unfold nLGt1 at hs2
    split at hs2
    · rename_i hk
      simp only at hk
      subst hk
      simp only at hs2
      split at hs2
      · rename_i i v
        split at hs2
        · rename_i hr
          cases hs2
          obtain ⟨zi, zv, h1, h2, h3⟩ := kElm hD.2.2 ha
          obtain ⟨r1, r2, -⟩ := sInR_at hD.1 h1 hr.1
          have g := hq zi.toNat (by omega) (by omega)
          have fin : ∀ {x y : Nat → Int32}, nI2 R.2.2.2.1 p.1 40 x → nI2 R.2.2.2.1 p.2 40 y → x zi.toNat = y zi.toNat → ∃ zs, sVal ρ [i, v] = some zs ∧ kGP (kUP RO) (1000 + p.2) zs R.2.2.2.1 := fun a b c => kEl_to h1 h2 (kEl_of b r1 (by rw [← c]; exact (kEl_v h3 a).2))
          rcases nL8_at h8 hp with ⟨-, a, b⟩ | ⟨-, a, b⟩ | ⟨-, a, b⟩ | ⟨-, a, b⟩
          · exact fin a b g.1
          · exact fin a b g.2.1
          · exact fin a b g.2.2.1
          · exact fin a b g.2.2.2
        · cases hs2
      · cases hs2
    · cases hs2
  · cases h
theorem nLGq_ok (hM : sMo ρ Γ) (hg : kGh (kGP (kUP RO)) ρ γ H) {e : sL} {ze : Int} (ee : sEv ρ e = some ze) {p : Nat × Nat} (h : nLGq Γ γ e p = true) {x y : Nat → Int32} (hx : nI2 H p.1 40 x) (hy : nI2 H p.2 40 y) : 0 ≤ ze ∧ x ze.toNat = y ze.toNat := by
  unfold nLGq at h
  split at h
  · rename_i u w hu hw
    obtain ⟨zu, eu, ku⟩ := kFindEl_ok hg hu ee
    obtain ⟨zw, ew, kw⟩ := kFindEl_ok hg hw ee
    have hz : zu = zw := by
      simp only [Bool.or_eq_true, decide_eq_true_eq] at h
      rcases h with rfl | h
      · cases eu.symm.trans ew
        rfl
      · split at h
        · rename_i k hk
          have := sK_ok hM.1 eu hk
          have := sK_ok hM.1 ew (of_decide_eq_true h)
          omega
        · cases h
    subst hz
    exact ⟨(kEl_v ku hx).1, (kEl_v ku hx).2.trans (kEl_v kw hy).2.symm⟩
  · cases h
theorem nLGp_m : ((14, 61) : Nat × Nat) ∈ nLGp ∧ ((15, 60) : Nat × Nat) ∈ nLGp ∧ ((16, 62) : Nat × Nat) ∈ nLGp ∧ ((17, 63) : Nat × Nat) ∈ nLGp := by
  simp [nLGp]
theorem nLGe_ok : kRok RO nLGe := by
  intro K ws h ρ R hD
  unfold nLGe at h
  split at h
  · rename_i e hfa
    split at h
    · cases h
    split at h
    · rename_i hc
      cases h
      obtain ⟨-, zs, e1, e2⟩ := nFa_ok hD.2.2 hfa (by decide) (by decide)
      obtain ⟨ze, rfl, ee⟩ := sVal_1 e1
      obtain ⟨a, he, x1, x2, x3, x4, y1, y2, y3, y4, h8, hq⟩ : ∃ a, [ze] = [a] ∧ nLG a R.2.2.2.1 := e2
      cases he
      have h8' := h8
      obtain ⟨g1, g2, g3, g4, g5, g6, g7, g8⟩ := h8'
      have hall := List.all_eq_true.mp hc
      have k1 := nLGq_ok hD.1 hD.2.2 ee (hall _ nLGp_m.1) g1 g5
      have k2 := nLGq_ok hD.1 hD.2.2 ee (hall _ nLGp_m.2.1) g2 g6
      have k3 := nLGq_ok hD.1 hD.2.2 ee (hall _ nLGp_m.2.2.1) g3 g7
      have k4 := nLGq_ok hD.1 hD.2.2 ee (hall _ nLGp_m.2.2.2) g4 g8
      refine ⟨_, List.mem_singleton.mpr rfl, kAt1 (zs := [-1]) (by decide) (by simp only [sVal, sEv_C]) ((kUPn (by decide)).mpr ⟨_, rfl, x1, x2, x3, x4, y1, y2, y3, y4, h8, fun i hi _ => ?_⟩), fun b hb => by cases hb⟩
      by_cases hie : (i : Int) = ze
      · have : i = ze.toNat := by omega
        rw [this]
        exact ⟨k1.2, k2.2, k3.2, k4.2⟩
      · exact hq i hi hie
    · cases h
  · cases h
theorem nLGr_ok (hg : kGh (kGP (kUP RO)) ρ γ H) {k : sL} {zk : Int} (ek : sEv ρ k = some zk) {p : Nat × Nat} (h : nLGr γ k p = true) {y : Nat → Int32} (hy : nI2 H p.2 40 y) : y zk.toNat = y (zk - 1).toNat := by
  unfold nLGr at h
  split at h
  · rename_i x hx
    obtain ⟨z1, e1, k1⟩ := kFindEl_ok hg hx ek
    obtain ⟨z2, e2, k2⟩ := kFindEl_ok hg (of_decide_eq_true h) (sEv_sub ek (sEv_C 1))
    cases e1.symm.trans e2
    exact (kEl_v k1 hy).2.trans (kEl_v k2 hy).2.symm
  · cases h
theorem nLGn_ok : kRok RO nLGn := by
  intro K ws h ρ R hD
  unfold nLGn at h
  split at h
  · rename_i k hk
    split at h
    · rename_i hc
      cases h
      simp only [Bool.and_eq_true] at hc
      obtain ⟨zs, e1, e2⟩ := kHav_ok hD.2.2 hc.1 (by decide)
      obtain ⟨zk, rfl, ek⟩ := sVal_1 e1
      obtain ⟨a, he, x1, x2, x3, x4, y1, y2, y3, y4, h8, h0, hq⟩ : ∃ a, [zk] = [a] ∧ nLGS a R.2.2.2.1 := (kUPn (by decide)).mp e2
      cases he
      have h8' := h8
      obtain ⟨g1, g2, g3, g4, g5, g6, g7, g8⟩ := h8'
      have hall := List.all_eq_true.mp hc.2
      have k1 := nLGr_ok hD.2.2 ek (hall _ nLGp_m.1) g5
      have k2 := nLGr_ok hD.2.2 ek (hall _ nLGp_m.2.1) g6
      have k3 := nLGr_ok hD.2.2 ek (hall _ nLGp_m.2.2.1) g7
      have k4 := nLGr_ok hD.2.2 ek (hall _ nLGp_m.2.2.2) g8
      have ek1 := sEv_add ek (sEv_C (ρ := ρ) 1)
      refine ⟨_, List.mem_singleton.mpr rfl, kAt1 (zs := [zk + 1]) (by decide) (by simp only [sVal, ek1]) ((kUPn (by decide)).mpr ⟨_, rfl, x1, x2, x3, x4, y1, y2, y3, y4, h8, by omega, fun i hi => ?_⟩), fun b hb => by cases hb⟩
      have q := hq i hi
      by_cases hik : (i : Int) = zk - 1
      · rw [if_neg (by omega), show i + 1 = zk.toNat by omega, k1, k2, k3, k4, show (zk - 1).toNat = i by omega] at q
        rw [if_pos (by omega)]
        exact q
      · split
        · rw [if_pos (by omega)] at q
          exact q
        · rw [if_neg (by omega)] at q
          exact q
    · cases h
  · cases h
theorem nLGz_ok : kRok RO nLGz := by
  intro K ws h ρ R hD
  unfold nLGz at h
  split at h
  · rename_i k hfa
    split at h
    · rename_i hc
      cases h
      obtain ⟨-, zs, e1, e2⟩ := nFa_ok hD.2.2 hfa (by decide) (by decide)
      obtain ⟨zk, rfl, ek⟩ := sVal_1 e1
      obtain ⟨a, he, x1, x2, x3, x4, y1, y2, y3, y4, h8, h0, hq⟩ : ∃ a, [zk] = [a] ∧ nLGS a R.2.2.2.1 := e2
      cases he
      have := sNN_ok hD.1 (sEv_sub ek (sEv_C 40)) hc
      refine ⟨_, List.mem_singleton.mpr rfl, kAt1 (zs := [39]) (by decide) (by simp only [sVal, sEv_C]) ((kUPn (by decide)).mpr ⟨_, rfl, x1, x2, x3, x4, y1, y2, y3, y4, h8, fun i hi hne => ?_⟩), fun b hb => by cases hb⟩
      have q := hq i (by omega)
      rw [if_pos (by omega)] at q
      exact q
    · cases h
  · cases h
theorem nNXi_ok (zw : Nat) : kRok RO (nNXi zw) := by
  intro K ws h ρ R hD
  unfold nNXi at h
  split at h
  · rename_i s a w hs hfa ha hw
    have hs6 := kWs_lt hs
    split at h
    · rename_i hc
      cases h
      simp only [Bool.and_eq_true] at hc
      obtain ⟨c1, c2, c3, c4, c5, c6⟩ := hc
      obtain ⟨x1, y1, q1, r1, t1⟩ := nHavNE (t := 0) (by decide) hD.2.2 c1
      obtain ⟨x2, y2, q2, r2, t2⟩ := nHavNE (t := 1) (by decide) hD.2.2 c2
      obtain ⟨x3, y3, q3, r3, t3⟩ := nHavNE (t := 2) (by decide) hD.2.2 c3
      obtain ⟨f, g, p1, p2, p3⟩ := kHavEL hs6 hD.2.2 c4
      obtain ⟨za, ea⟩ := kLf_ok hD.2.1 ha
      obtain ⟨zw', ew⟩ := nFf_ok hD.2.1.2.2.2.1 hw
      have d5 := sNN_ok hD.1 ea c5
      have d6 := sNN_ok hD.1 ew c6
      have e1 := sEv_add (sEv_C (ρ := ρ) (60 * (s : Int))) ea
      refine ⟨_, List.mem_singleton.mpr rfl, kAt1 (zs := [60 * (s : Int) + za, zw', 0]) (by decide) (by simp only [sVal, e1, ew, sEv_C]) ((kUPn (by decide)).mpr ⟨_, _, _, rfl, x1, x2, x3, y1, y2, y3, g, q1, q2, q3, ⟨r1, r2, r3⟩, p2, by omega, d6, Int.le_refl _, fun i hi _ => ?_⟩), fun b hb => by cases hb⟩
      rw [if_neg (by omega)]
      exact ⟨t1 i hi, t2 i hi, t3 i hi⟩
    · cases h
  · cases h
theorem nTk3_ok (hM : sMo ρ Γ) (hg : kGh (kGP (kUP RO)) ρ γ H) {c j n : Nat} {i p : sL} {zi zp : Int} {f : Nat → Int64} (hf : kLg j n f H) (ei : sEv ρ i = some zi) (ep : sEv ρ p = some zp) (h : nTk3 Γ γ c i j p = true) (d : Nat) (hd : d < 3) {x : Nat → Int32} {m : Nat} (hx : nI2 H (c + d) m x) : 0 ≤ zi ∧ 0 ≤ zp + d ∧ x zi.toNat = (f (zp + d).toNat).toInt32 := by
  have hall := List.all_eq_true.mp h d (by
    have : d = 0 ∨ d = 1 ∨ d = 2 := by omega
    rcases this with rfl | rfl | rfl <;> simp)
  split at hall
  · rename_i a v ha hv
    obtain ⟨za, ea, ka⟩ := kFindEl_ok hg ha ei
    obtain ⟨zv, ev, kv⟩ := kFindEl_ok hg hv (sEv_add ep (sEv_C (d : Int)))
    have e := kNr_ok hM ev (of_decide_eq_true hall)
    cases e.symm.trans ea
    obtain ⟨h0, h1⟩ := kEl_v ka hx
    obtain ⟨h2, h3⟩ := kLgE kv hf
    refine ⟨h0, h2, ?_⟩
    rw [h1, h3, Int32.ofInt_toInt]
  · cases hall
theorem nNXs_ok : kRok RO nNXs := by
  intro K ws h ρ R hD
  have hM := hD.1
  unfold nNXs at h
  split at h
  · rename_i s e w t i hs hfa
    have hs6 := kWs_lt hs
    simp only at h
    split at h
    · rename_i hc
      cases h
      simp only [Bool.and_eq_true, decide_eq_true_eq] at hc
      obtain ⟨c1, rfl, c3, c4⟩ := hc
      obtain ⟨-, zs, e1, e2⟩ := nFa_ok hD.2.2 hfa (by decide) (by decide)
      obtain ⟨ze, zw, zt, zi, rfl, ee, ew, et, ei⟩ := qVal_4 e1
      obtain ⟨a1, a2, a3, a4, he, x1, x2, x3, y1, y2, y3, g, q1, q2, q3, hW, hL, p1, p2, p3, hq⟩ : ∃ a b c e, [ze, zw, zt, zi] = [a, b, c, e] ∧ nNX a b c e R.2.2.2.1 := e2
      cases he
      cases ei.symm.trans (sEv_add ew et)
      obtain ⟨f, g', f1, f2, f3⟩ := kHavEL hs6 hD.2.2 c1
      cases kLg_one hL f2
      have epl := sEv_sub (sEv_add ee (sEv_mul 3 et)) (sEv_C (ρ := ρ) (60 * (s : Int)))
      obtain ⟨r1, r2, -⟩ := sInR_at hM epl c3
      have et1 := sEv_add et (sEv_C (ρ := ρ) 1)
      have k0 := nTk3_ok hM hD.2.2 f1 ei epl c4 0 (by decide) q1
      have k1 := nTk3_ok hM hD.2.2 f1 ei epl c4 1 (by decide) q2
      have k2 := nTk3_ok hM hD.2.2 f1 ei epl c4 2 (by decide) q3
      refine ⟨_, List.mem_singleton.mpr rfl, kAt1 (zs := [ze, zw, zt + 1]) (by decide) (by simp only [sVal, ee, ew, et1]) ((kUPn (by decide)).mpr ⟨_, _, _, rfl, x1, x2, x3, y1, y2, y3, g, q1, q2, q3, hW, hL, p1, p2, by omega, fun i' hi' _ => ?_⟩), fun b hb => by cases hb⟩
      by_cases hie : (i' : Int) = zw + zt
      · have e4 : i' = (zw + zt).toNat := by omega
        rw [if_pos (by omega), e4, k0.2.2, k1.2.2, k2.2.2]
        rw [f3 _ (by omega), f3 _ (by omega), f3 _ (by omega)]
        refine ⟨?_, ?_, ?_⟩ <;> congr 2 <;> omega
      · have q := hq i' hi' hie
        split
        · rw [if_pos (by omega)] at q
          exact q
        · rw [if_neg (by omega)] at q
          exact q
    · cases h
  · cases h
theorem nNXe_ok : kRok RO nNXe := by
  intro K ws h ρ R hD
  unfold nNXe at h
  split at h
  · rename_i s e w t hs hfa
    split at h
    · rename_i r p1 p2 p3 p4 hfr
      split at h
      · rename_i hc
        cases h
        have hs6 := kWs_lt hs
        obtain ⟨-, zs, e1, e2⟩ := nFa_ok hD.2.2 hfa (by decide) (by decide)
        obtain ⟨ze, zw, zt, rfl, ee, ew, et⟩ := sVal_3 e1
        obtain ⟨-, ys, k1, -⟩ := kFa_ok hD.2.2 hfr (by omega)
        obtain ⟨zr, _, -, er, -⟩ := sVal_cons k1
        have h0 := kEqf_ok hD.1 er (sEv_C 0) hc
        subst h0
        have etr := sEv_add et er
        rw [Int.add_zero] at etr
        exact ⟨_, List.mem_singleton.mpr rfl, kAt1 (zs := [ze, zw, zt]) (by decide) (by simp only [sVal, ee, ew, etr]) ((kUPn (by decide)).mpr e2), fun b hb => by cases hb⟩
      · cases h
    · cases h
  · cases h
theorem nWMb_ok : kRok RO nWMb := by
  intro K ws h ρ R hD
  have hM := hD.1
  have hg := hD.2.2
  unfold nWMb at h
  split at h
  · rename_i s hs
    have hs6 := kWs_lt hs
    have hk : kWk_ 1 s < 1000 := by unfold kWk_; split <;> omega
    split at h
    · rename_i rf p n le w hfa
      split at h
      · rename_i a b e ha hb he
        split at h
        · rename_i hc
          cases h
          simp only [Bool.and_eq_true] at hc
          obtain ⟨c1, c2, c3, c4, c5, c6, c7, c8⟩ := hc
          obtain ⟨-, zs, e1, e2⟩ := kFa_ok hg hfa hk
          obtain ⟨zR, zp, zn, zl, zw, rfl, eR, ep, en, el, ew⟩ := sVal_5 e1
          obtain ⟨R', p', n', le', w', hz, f, q1, q2, q3, q4⟩ := (kWany hs6).mp e2
          cases hz
          have va := kWv_ok hM hg q1 ep q2 (by omega) ha
          have vb := kWv_ok hM hg q1 ep q2 (by omega) hb
          have ve := kWv_ok hM hg q1 ep q2 (by omega) he
          obtain ⟨ya, a1, a2, a3⟩ := sWf_has hM c1
          obtain ⟨yb, b1, b2, b3⟩ := sWf_has hM c2
          obtain ⟨ye, g1, g2, g3⟩ := sWf_has hM c3
          cases a1.symm.trans va
          cases b1.symm.trans vb
          cases g1.symm.trans ve
          have d4 := sNN_ok hM (sEv_sub en (sEv_C 1)) c4
          have d5 := sNN_ok hM (sEv_sub (sEv_sub el ep) (sEv_C 3)) c5
          have d6 := sNN_ok hM (sEv_sub (sEv_C 15) ew) c6
          have d8 := sNN_ok hM ew c8
          have hok : kWok (f (kWo 1 s + zp.toNat)) (f (kWo 1 s + (zp + 1).toNat)) (f (kWo 1 s + (zp + 2).toNat)) = true := by
            unfold kWok
            simp only [Bool.and_eq_true, decide_eq_true_eq]
            rw [Int.add_zero] at a2 a3
            exact ⟨⟨a2, a3⟩, ⟨b2, b3⟩, ⟨g2, g3⟩⟩
          have hst := kWd_step (f := fun i => f (kWo 1 s + i)) (le := zl) (n := zn) (p := zp) (w := zw) (by omega) ⟨by omega, by omega, hok⟩
          have hb1 := (kWd_nn (f := fun i => f (kWo 1 s + i)) (le := zl) (zn - 1).toNat (zp + 3) (zw + 1))
          have h16 := hb1.2.2 (by omega)
          refine ⟨_, List.mem_singleton.mpr rfl, fun q hq => (by cases hq), fun b hb => ?_⟩
          rw [List.mem_singleton.mp hb]
          exact ⟨_, eR, by have := hb1.1; simp only; omega, by simp only; omega⟩
        · cases h
      · cases h
    · cases h
  · cases h
theorem nNXm_ok : kRok RO nNXm := by
  intro K ws h ρ R hD
  have hM := hD.1
  unfold nNXm at h
  split at h
  · rename_i e w t hfa
    split at h
    · rename_i hc
      cases h
      simp only [Bool.and_eq_true] at hc
      obtain ⟨-, zs, e1, e2⟩ := nFa_ok hD.2.2 hfa (by decide) (by decide)
      obtain ⟨ze, zw, zt, rfl, ee, ew, et⟩ := sVal_3 e1
      obtain ⟨a1, a2, a3, he, x1, x2, x3, y1, y2, y3, g, q1, q2, q3, ⟨w1, w2, w3⟩, hL, p1, p2, p3, hq⟩ : ∃ a b c, [ze, zw, zt] = [a, b, c] ∧ nNX a b c (-1) R.2.2.2.1 := e2
      cases he
      have d1 := sNN_ok hM (sEv_sub et (sEv_C 1)) hc.1
      have k0 := nTk3_ok hM hD.2.2 hL ew ee hc.2 0 (by decide) w1
      have k1 := nTk3_ok hM hD.2.2 hL ew ee hc.2 1 (by decide) w2
      have k2 := nTk3_ok hM hD.2.2 hL ew ee hc.2 2 (by decide) w3
      have f1 := sEv_add ee (sEv_C (ρ := ρ) 3)
      have f2 := sEv_add ew (sEv_C (ρ := ρ) 1)
      have f3 := sEv_sub et (sEv_C (ρ := ρ) 1)
      refine ⟨_, List.mem_singleton.mpr rfl, kAt1 (zs := [ze + 3, zw + 1, zt - 1]) (by decide) (by simp only [sVal, f1, f2, f3]) ((kUPn (by decide)).mpr ⟨_, _, _, rfl, x1, x2, x3, y1, y2, y3, g, q1, q2, q3, ⟨w1, w2, w3⟩, hL, by omega, by omega, by omega, fun i hi hne => ?_⟩), fun b hb => by cases hb⟩
      have q := hq i hi hne
      by_cases hiw : (i : Int) = zw
      · have e4 : i = zw.toNat := by omega
        rw [if_pos (by omega)] at q
        rw [if_neg (by omega), q.1, q.2.1, q.2.2, e4, k0.2.2, k1.2.2, k2.2.2]
        refine ⟨?_, ?_, ?_⟩ <;> congr 2 <;> omega
      · split
        · rw [if_pos (by omega)] at q
          rw [q.1, q.2.1, q.2.2]
          refine ⟨?_, ?_, ?_⟩ <;> congr 2 <;> omega
        · rw [if_neg (by omega)] at q
          exact q
    · cases h
  · cases h
theorem nNXz_ok : kRok RO nNXz := by
  intro K ws h ρ R hD
  unfold nNXz at h
  split at h
  · rename_i e w t hfa
    split at h
    · rename_i hc
      cases h
      obtain ⟨-, zs, e1, e2⟩ := nFa_ok hD.2.2 hfa (by decide) (by decide)
      obtain ⟨ze, zw, zt, rfl, ee, ew, et⟩ := sVal_3 e1
      obtain ⟨a1, a2, a3, he, x1, x2, x3, y1, y2, y3, g, q1, q2, q3, ⟨w1, w2, w3⟩, hL, p1, p2, p3, hq⟩ : ∃ a b c, [ze, zw, zt] = [a, b, c] ∧ nNX a b c (-1) R.2.2.2.1 := e2
      cases he
      have := sNN_ok hD.1 (sEv_mul (-1) et) hc
      have hh : ∀ i : Nat, i < 16 → x1 i = y1 i ∧ x2 i = y2 i ∧ x3 i = y3 i := fun i hi => by
        have q := hq i hi (by omega)
        rw [if_neg (by omega)] at q
        exact q
      exact ⟨_, List.mem_singleton.mpr rfl, kGh_cons (nAtNE (t := 0) (by decide) q1 w1 fun i hi => (hh i hi).1) (kGh_cons (nAtNE (t := 1) (by decide) q2 w2 fun i hi => (hh i hi).2.1) (nAtNE (t := 2) (by decide) q3 w3 fun i hi => (hh i hi).2.2)), fun b hb => by cases hb⟩
    · cases h
  · cases h
theorem nIMz_ok : kRok RO nIMz := by
  intro K ws h ρ R hD
  unfold nIMz at h
  split at h
  · rename_i n k hfa
    split at h
    · rename_i hc
      cases h
      obtain ⟨-, zs, e1, e2⟩ := nFa_ok hD.2.2 hfa (by decide) (by decide)
      obtain ⟨zn, zk, rfl, en, ek⟩ := sVal_2 e1
      obtain ⟨a1, a2, he, x, m, b, h1, h2, h3, h4, h5⟩ : ∃ a b, [zn, zk] = [a, b] ∧ nIM a b R.2.2.2.1 := e2
      cases he
      have := sNN_ok hD.1 (sEv_sub ek en) hc
      refine ⟨_, List.mem_singleton.mpr rfl, kAt1 (zs := []) (by decide) rfl ((kUPn (by decide)).mpr (show nE6 R.2.2.2.1 from ⟨x, b, h1, h3, fun i hi => ?_⟩)), fun b hb => by cases hb⟩
      have q := h5 i hi
      rw [if_neg (by omega)] at q
      exact q
    · cases h
  · cases h
theorem nIBz_ok : kRok RO nIBz := by
  intro K ws h ρ R hD
  unfold nIBz at h
  split at h
  · rename_i n k hfa
    split at h
    · rename_i hc
      cases h
      obtain ⟨-, zs, e1, e2⟩ := nFa_ok hD.2.2 hfa (by decide) (by decide)
      obtain ⟨zn, zk, rfl, en, ek⟩ := sVal_2 e1
      obtain ⟨a1, a2, he, x, m, b, h1, h2, h3, h4, h5⟩ : ∃ a b, [zn, zk] = [a, b] ∧ nIB a b R.2.2.2.1 := e2
      cases he
      have := sNN_ok hD.1 (sEv_sub ek en) hc
      refine ⟨_, List.mem_singleton.mpr rfl, nAtNE (t := 3) (by decide) h1 h2 fun i hi => ?_, fun b hb => by cases hb⟩
      have q := h5 i hi
      rw [if_neg (by omega)] at q
      exact q
    · cases h
  · cases h
theorem n0 {a : Int32} (h : a.toInt = 0) : a = 0 := Int32.toInt_inj.mp (by rw [h]; rfl)
theorem nRN_ok (zh zs : Nat) : kRok RO (nRN zh zs) := by
  intro K ws h ρ R hD
  have hH := hD.2.1.2.2.2.1
  unfold nRN at h
  split at h
  · rename_i hc
    cases h
    unfold nRNc at hc
    simp only [Bool.and_eq_true, decide_eq_true_eq] at hc
    obtain ⟨c1, c2, c3, c4, c5, c6, c7, c8, c9, c10, c11, c12⟩ := hc
    have hz : ∀ j, j ∈ [14, 15, 16, 17, 60, 61, 62, 63] → ∃ f : Nat → Int32, nI2 R.2.2.2.1 j 40 f ∧ ∀ k, k < 40 → (f k).toInt = 0 := fun j hj => kZ40_ok hH (List.all_eq_true.mp c2 j hj)
    refine ⟨_, List.mem_singleton.mpr rfl, fun q hq => ?_, fun b hb => by cases hb⟩
    rcases List.mem_append.mp hq with hq | hq
    · obtain ⟨t, ht, rfl⟩ := List.mem_map.mp hq
      have ht6 := List.mem_range.mp ht
      have hc := List.all_eq_true.mp c1 t ht
      simp only [Bool.and_eq_true] at hc
      obtain ⟨f, f1, f2⟩ := kZ40_ok hH hc.1
      obtain ⟨g, g1, g2⟩ := kZ40_ok hH hc.2
      have := nNn_16 t
      exact nAtNE ht6 f1 g1 (fun i hi => (n0 (f2 i (by omega))).trans (n0 (g2 i hi)).symm) _ (List.mem_singleton.mpr rfl)
    rcases List.mem_cons.mp hq with rfl | hq
    · obtain ⟨x1, a1, b1⟩ := hz 14 (by simp)
      obtain ⟨x2, a2, b2⟩ := hz 15 (by simp)
      obtain ⟨x3, a3, b3⟩ := hz 16 (by simp)
      obtain ⟨x4, a4, b4⟩ := hz 17 (by simp)
      obtain ⟨y1, a5, b5⟩ := hz 61 (by simp)
      obtain ⟨y2, a6, b6⟩ := hz 60 (by simp)
      obtain ⟨y3, a7, b7⟩ := hz 62 (by simp)
      obtain ⟨y4, a8, b8⟩ := hz 63 (by simp)
      exact kAt1 (RO := RO) (k := 96) (zs := [-1]) (by decide) (by simp only [sVal, sEv_C]) ((kUPn (by decide)).mpr ⟨_, rfl, x1, x2, x3, x4, y1, y2, y3, y4, ⟨a1, a2, a3, a4, a5, a6, a7, a8⟩, fun i hi _ => ⟨(n0 (b1 i hi)).trans (n0 (b5 i hi)).symm, (n0 (b2 i hi)).trans (n0 (b6 i hi)).symm, (n0 (b3 i hi)).trans (n0 (b7 i hi)).symm, (n0 (b4 i hi)).trans (n0 (b8 i hi)).symm⟩⟩) _ (List.mem_singleton.mpr rfl)
    rcases List.mem_cons.mp hq with rfl | hq
    · obtain ⟨x, a1, b1⟩ := kZ40_ok hH c3
      obtain ⟨y, a2, b2⟩ := kZ40_ok hH c4
      exact kAt1 (RO := RO) (k := 103) (zs := []) (by decide) rfl ((kUPn (by decide)).mpr (show nE6 R.2.2.2.1 from ⟨x, y, a1, a2, fun i hi => (n0 (b1 i hi)).trans (n0 (b2 i hi)).symm⟩)) _ (List.mem_singleton.mpr rfl)
    rcases List.mem_cons.mp hq with rfl | hq
    · obtain ⟨G, a1, b1⟩ := kZ40_ok hH c5
      exact kAt1 (RO := RO) (k := 84) (zs := [0]) (by decide) (by simp only [sVal, sEv_C]) ((kUPn (by decide)).mpr ⟨_, rfl, G, a1, fun key h1 _ => by
        rw [n0 (b1 key h1)]
        decide⟩) _ (List.mem_singleton.mpr rfl)
    rcases List.mem_cons.mp hq with rfl | hq
    · obtain ⟨B, hB⟩ := kSh1 hH (by decide) rfl c8
      obtain ⟨T, hT⟩ := kSh1 hH (by decide) rfl c9
      exact kAt1 (RO := RO) (k := 61) (zs := [0]) (by decide) (by simp only [sVal, sEv_C]) ((kUPn (by decide)).mpr ⟨_, rfl, B, T, nTp_0.mpr hB, nTp_1.mpr hT, fun i hi => by omega⟩) _ (List.mem_singleton.mpr rfl)
    · rw [List.mem_singleton.mp hq]
      obtain ⟨C, hC⟩ := kSh1 hH (by decide) rfl c10
      obtain ⟨A, W, T, E, hAW, hTE⟩ := kSh_ok hH c11
      obtain ⟨M, hM, -⟩ := kZ40_ok hH c12
      exact kAt1 (RO := RO) (k := 62) (zs := [0, 0]) (by decide) (by simp only [sVal, sEv_C]) ((kUPn (by decide)).mpr ⟨_, _, rfl, Or.inl ⟨C, hC, A, W, T, E, M, hAW, hTE, hM, Or.inl ⟨rfl, rfl⟩⟩⟩) _ (List.mem_singleton.mpr rfl)
  · cases h
theorem nCell_cpy {c j n1 m : Nat} {f g g' : Nat → Int32} (hf : nI2 H c m f) (hj : H[j]? = some (.inl (.int, n1, .inl g))) : nI2 (H.set j (.inl (.int, n1, .inl g'))) c m (if c = j then g' else f) := by
  unfold nI2 at *
  by_cases h : c = j
  · subst h
    rw [hj] at hf
    cases hf
    rw [if_pos rfl, List.getElem?_set_self (List.getElem?_eq_some_iff.mp hj).1]
  · rw [if_neg h, List.getElem?_set_ne (fun e => h e.symm)]
    exact hf
theorem nCpy39 {f : Nat → Int32} {i : Nat} (h : i < 39) : va_cpy f f 1 0 39 i = f (i + 1) := by
  unfold va_cpy
  rw [if_pos ⟨by omega, by omega⟩]
  congr 1
  omega
theorem nCpy_39 {f : Nat → Int32} : va_cpy f f 1 0 39 39 = f 39 := by
  unfold va_cpy
  rw [if_neg (by omega)]
theorem nKC1_ok : kCOk (kUP RO) nKC1 := by
  intro γ js jd sp dp n ρ H n0' n1 f g hg h1 h2 h3 hs hd
  have none_ : ∀ H', kGh (kGP (kUP RO)) ρ [] H' := fun H' a ha => by cases ha
  unfold nKC1
  split
  · rename_i hc
    obtain ⟨rfl, rfl, rfl, rfl⟩ := hc
    rw [hs] at hd
    cases hd
    show kGh (kGP (kUP RO)) ρ _ (H.set js (.inl (.int, n0', .inl (va_cpy f f 1 0 39))))
    split
    · rename_i hc
      obtain ⟨rfl, hc⟩ := hc
      obtain ⟨a, he, x1, x2, x3, x4, y1, y2, y3, y4, ⟨g1, g2, g3, g4, g5, g6, g7, g8⟩, hq⟩ : ∃ a, [(-1 : Int)] = [a] ∧ nLG a H := nHavU hg (by decide) (by decide) hc
      cases he
      have e : f = x1 := by
        have := hs.symm.trans g1
        cases this
        rfl
      subst e
      refine kAt1 (zs := [1]) (by decide) (by simp only [sVal, sEv_C]) ((kUPn (by decide)).mpr ⟨_, rfl, _, _, _, _, _, _, _, _, ⟨nCell_cpy g1 hs, nCell_cpy g2 hs, nCell_cpy g3 hs, nCell_cpy g4 hs, nCell_cpy g5 hs, nCell_cpy g6 hs, nCell_cpy g7 hs, nCell_cpy g8 hs⟩, ?_⟩)
      refine ⟨fun i hi => ?_, fun i hi => ?_, fun i hi => ?_, fun i hi => ?_, fun _ => ?_, fun _ => ?_, fun _ => ?_⟩
      · show va_cpy f f 1 0 39 i = y1 (i + 1)
        rw [nCpy39 hi]
        exact (hq (i + 1) (by omega) (by omega)).1
      · exact (hq i (by omega) (by omega)).2.1
      · exact (hq i (by omega) (by omega)).2.2.1
      · exact (hq i (by omega) (by omega)).2.2.2
      · exact (hq 39 (by omega) (by omega)).2.1
      · exact (hq 39 (by omega) (by omega)).2.2.1
      · exact (hq 39 (by omega) (by omega)).2.2.2
    split
    · rename_i hc
      obtain ⟨rfl, hc⟩ := hc
      obtain ⟨a, he, x1, x2, x3, x4, y1, y2, y3, y4, ⟨g1, g2, g3, g4, g5, g6, g7, g8⟩, s1, s2, s3, s4, t2, t3, t4⟩ : ∃ a, [(1 : Int)] = [a] ∧ nLGC a H := nHavU hg (by decide) (by decide) hc
      cases he
      have e : f = x2 := by
        have := hs.symm.trans g2
        cases this
        rfl
      subst e
      refine kAt1 (zs := [2]) (by decide) (by simp only [sVal, sEv_C]) ((kUPn (by decide)).mpr ⟨_, rfl, _, _, _, _, _, _, _, _, ⟨nCell_cpy g1 hs, nCell_cpy g2 hs, nCell_cpy g3 hs, nCell_cpy g4 hs, nCell_cpy g5 hs, nCell_cpy g6 hs, nCell_cpy g7 hs, nCell_cpy g8 hs⟩, ?_⟩)
      refine ⟨s1, fun i hi => ?_, s3, s4, fun c => absurd c (by decide), fun _ => t3 (by decide), fun _ => t4 (by decide)⟩
      show va_cpy f f 1 0 39 i = y2 (i + 1)
      rw [nCpy39 hi]
      by_cases h39 : i + 1 = 39
      · rw [h39]
        exact t2 (by decide)
      · exact s2 (i + 1) (by omega)
    split
    · rename_i hc
      obtain ⟨rfl, hc⟩ := hc
      obtain ⟨a, he, x1, x2, x3, x4, y1, y2, y3, y4, ⟨g1, g2, g3, g4, g5, g6, g7, g8⟩, s1, s2, s3, s4, t2, t3, t4⟩ : ∃ a, [(2 : Int)] = [a] ∧ nLGC a H := nHavU hg (by decide) (by decide) hc
      cases he
      have e : f = x3 := by
        have := hs.symm.trans g3
        cases this
        rfl
      subst e
      refine kAt1 (zs := [3]) (by decide) (by simp only [sVal, sEv_C]) ((kUPn (by decide)).mpr ⟨_, rfl, _, _, _, _, _, _, _, _, ⟨nCell_cpy g1 hs, nCell_cpy g2 hs, nCell_cpy g3 hs, nCell_cpy g4 hs, nCell_cpy g5 hs, nCell_cpy g6 hs, nCell_cpy g7 hs, nCell_cpy g8 hs⟩, ?_⟩)
      refine ⟨s1, s2, fun i hi => ?_, s4, fun c => absurd c (by decide), fun c => absurd c (by decide), fun _ => t4 (by decide)⟩
      show va_cpy f f 1 0 39 i = y3 (i + 1)
      rw [nCpy39 hi]
      by_cases h39 : i + 1 = 39
      · rw [h39]
        exact t3 (by decide)
      · exact s3 (i + 1) (by omega)
    split
    · rename_i hc
      obtain ⟨rfl, hc⟩ := hc
      obtain ⟨a, he, x1, x2, x3, x4, y1, y2, y3, y4, ⟨g1, g2, g3, g4, g5, g6, g7, g8⟩, s1, s2, s3, s4, t2, t3, t4⟩ : ∃ a, [(3 : Int)] = [a] ∧ nLGC a H := nHavU hg (by decide) (by decide) hc
      cases he
      have e : f = x4 := by
        have := hs.symm.trans g4
        cases this
        rfl
      subst e
      refine kAt1 (zs := [1]) (by decide) (by simp only [sVal, sEv_C]) ((kUPn (by decide)).mpr ⟨_, rfl, _, _, _, _, _, _, _, _, ⟨nCell_cpy g1 hs, nCell_cpy g2 hs, nCell_cpy g3 hs, nCell_cpy g4 hs, nCell_cpy g5 hs, nCell_cpy g6 hs, nCell_cpy g7 hs, nCell_cpy g8 hs⟩, Int.le_refl _, fun i hi => ?_⟩)
      rw [if_neg (by omega)]
      refine ⟨s1 i hi, s2 i hi, s3 i hi, ?_⟩
      show va_cpy f f 1 0 39 i = y4 (i + 1)
      rw [nCpy39 hi]
      by_cases h39 : i + 1 = 39
      · rw [h39]
        exact t4 (by decide)
      · exact s4 (i + 1) (by omega)
    · exact none_ _
  · exact none_ _
theorem nKC_ok : kCOk (kUP RO) nKC := by
  intro γ js jd sp dp n ρ H n0' n1 f g hg h1 h2 h3 hs hd q hq
  rcases List.mem_append.mp hq with hq | hq
  · exact kKC_ok RO γ js jd sp dp n ρ H n0' n1 f g hg h1 h2 h3 hs hd q hq
  · exact nKC1_ok γ js jd sp dp n ρ H n0' n1 f g hg h1 h2 h3 hs hd q hq
theorem nRL_of {B f g h : Nat → Int32} {n : Nat} {d : List nLi} {zl zz : Int} (hB : nTp 0 B H) (hd : H[22]? = some (.inl (.int, 256, .inl g))) (hn : nIt (nLt 0 B zl) zl n = .inr (.inr d)) (hA : nAg f 0 (nCl 0 d)) (hz : zz = ((nCl 0 d).length : Int)) (v0 : f zz.toNat = Int32.ofInt 0) (v1 : f (zz + 1).toNat = Int32.ofInt (-1000)) (cp : ∀ i : Nat, h i = if i < (zz + 2).toNat then f i else g i) : nRL zl (zz + 2) (H.set 22 (.inl (.int, 256, .inl h))) := by
  refine ⟨B, h, n, d, nTp_fr (d := 0) (List.getElem?_set_ne (by decide)) hB, by rw [List.getElem?_set_self (List.getElem?_eq_some_iff.mp hd).1], hn, ?_, by omega⟩
  intro i v hv
  have hi := (List.getElem?_eq_some_iff.mp hv).1
  simp only [List.length_append, List.length_cons, List.length_nil] at hi
  rw [Nat.zero_add, cp i, if_pos (by omega)]
  by_cases h1 : i < (nCl 0 d).length
  · rw [List.getElem?_append_left h1] at hv
    have := hA i v hv
    rwa [Nat.zero_add] at this
  · rw [List.getElem?_append_right (by omega)] at hv
    by_cases h2 : i = (nCl 0 d).length
    · subst h2
      rw [Nat.sub_self] at hv
      cases hv
      rw [show (nCl 0 d).length = zz.toNat by omega]
      exact v0
    · have h3 : i = (nCl 0 d).length + 1 := by omega
      subst h3
      rw [show (nCl 0 d).length + 1 - (nCl 0 d).length = 1 by omega] at hv
      cases hv
      rw [show (nCl 0 d).length + 1 = (zz + 1).toNat by omega]
      exact v1
theorem nIC_ok : kIOk (kUP RO) nIC := by
  intro Γ γ js jd sp dp n ρ zs zd zn H n0' n1 f g hM hg es ed en h1 h2 h3 h4 h5 hs hd
  have none_ : ∀ H', kGh (kGP (kUP RO)) ρ [] H' := fun H' a ha => by cases ha
  unfold nIC
  split
  · rename_i hc
    obtain ⟨rfl, rfl⟩ := hc
    rw [sEv_C] at es ed
    cases es
    cases ed
    have cp : ∀ i : Nat, va_cpy f g (0 : Int).toNat (0 : Int).toNat zn.toNat i = if i < zn.toNat then f i else g i := fun i => by
      show (if 0 ≤ i ∧ i < 0 + zn.toNat then f (0 + (i - 0)) else g i) = _
      by_cases hi : i < zn.toNat
      · rw [if_pos ⟨by omega, by omega⟩, if_pos hi]
        congr 1
        omega
      · rw [if_neg (by omega), if_neg hi]
    split
    · rename_i hc
      obtain ⟨rfl, rfl, rfl⟩ := hc
      intro q hq
      obtain ⟨⟨k, fs⟩, ha, hq⟩ := List.mem_filterMap.mp hq
      unfold nIC1 at hq
      split at hq
      · rename_i hk
        simp only at hk
        subst hk
        simp only at hq
        split at hq
        · rename_i ln z
          split at hq
          · rename_i hc
            obtain ⟨rfl, e0, e1⟩ := hc
            cases hq
            obtain ⟨ys, k1, k2⟩ := hg _ ha
            have k2 := nGP (k := 59) (by decide) (by decide) k2
            obtain ⟨zl, zz, rfl, el, ez⟩ := sVal_2 k1
            obtain ⟨a, b, he, B, C, m, d, hB, hC, hn, hA, hz⟩ : ∃ a b, [zl, zz] = [a, b] ∧ nOX a b H := k2
            cases he
            cases en.symm.trans (sEv_add ez (sEv_C 2))
            obtain ⟨y0, f0, q0⟩ := kFindEl_ok hg e0 ez
            obtain ⟨y1, f1, q1⟩ := kFindEl_ok hg e1 (sEv_add ez (sEv_C 1))
            rw [sEv_C] at f0 f1
            cases f0
            cases f1
            have e : f = C := by
              have := hs.symm.trans hC
              cases this
              rfl
            subst e
            have v0 := (kElA q0 hC).2
            have v1 := (kElA q1 hC).2
            refine kAt1 (k := 63) (zs := [zl, zz + 2]) (by decide) (by simp only [sVal, el, en]) ((kUPn (by decide)).mpr ⟨_, _, rfl, ?_⟩) _ (List.mem_singleton.mpr rfl)
            exact nRL_of hB hd hn hA hz v0 v1 cp
          · cases hq
        · cases hq
      · cases hq
    split
    · rename_i hc
      obtain ⟨rfl, rfl, hc⟩ := hc
      simp only [Bool.and_eq_true] at hc
      obtain ⟨x, m, q1, q2, q3⟩ := nHavNE (t := 3) (by decide) hg hc.1
      obtain ⟨ys, k1, k2⟩ := kHav_ok hg hc.2 (by decide)
      obtain ⟨x5, b, r1, r2, r3⟩ : nE6 H := (kUPn (by decide)).mp k2
      have e : f = x := by
        have := hs.symm.trans q1
        cases this
        rfl
      subst e
      have e : g = x5 := by
        have := hd.symm.trans r1
        cases this
        rfl
      subst e
      refine kAt1 (zs := [zn, 0]) (by decide) (by simp only [sVal, en, sEv_C]) ((kUPn (by decide)).mpr ⟨_, _, rfl, _, _, _, nCell_cpy r1 hd, nCell_cpy q2 hd, nCell_cpy r2 hd, Int.le_refl _, fun i hi => ?_⟩)
      show va_cpy f g _ _ _ i = if 0 ≤ (i : Int) ∧ (i : Int) < zn then m i else b i
      rw [cp i]
      by_cases h : i < zn.toNat
      · rw [if_pos h, if_pos ⟨by omega, by omega⟩]
        exact q3 i hi
      · rw [if_neg h, if_neg (by omega)]
        exact r3 i hi
    split
    · rename_i hc
      obtain ⟨rfl, rfl, hc⟩ := hc
      simp only [Bool.and_eq_true] at hc
      obtain ⟨x, m, q1, q2, q3⟩ := nHavNE (t := 3) (by decide) hg hc.1
      obtain ⟨ys, k1, k2⟩ := kHav_ok hg hc.2 (by decide)
      obtain ⟨x5, b, r1, r2, r3⟩ : nE6 H := (kUPn (by decide)).mp k2
      have e : g = x := by
        have := hd.symm.trans q1
        cases this
        rfl
      subst e
      have e : f = x5 := by
        have := hs.symm.trans r1
        cases this
        rfl
      subst e
      refine kAt1 (zs := [zn, 0]) (by decide) (by simp only [sVal, en, sEv_C]) ((kUPn (by decide)).mpr ⟨_, _, rfl, _, _, _, nCell_cpy q1 hd, nCell_cpy q2 hd, nCell_cpy r2 hd, Int.le_refl _, fun i hi => ?_⟩)
      show va_cpy f g _ _ _ i = if 0 ≤ (i : Int) ∧ (i : Int) < zn then b i else m i
      rw [cp i]
      by_cases h : i < zn.toNat
      · rw [if_pos h, if_pos ⟨by omega, by omega⟩]
        exact r3 i hi
      · rw [if_neg h, if_neg (by omega)]
        exact q3 i hi
    · exact none_ _
  · exact none_ _
end NLGZ
end
