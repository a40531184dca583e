/-! Sums along a sentence; what is one function of what is told. -/
noncomputable section
section NONE1
variable {H : List eE}
theorem nAg2_l {A W : Nat → Int32} {c : Nat} {p q : List (Int × Int)} (h : nAg2 A W c (p ++ q)) : nAg2 A W c p := fun i x hi => h i x (by rw [List.getElem?_append_left (List.getElem?_eq_some_iff.mp hi).1]; exact hi)
theorem nAg2_r {A W : Nat → Int32} {c : Nat} {p q : List (Int × Int)} (h : nAg2 A W c (p ++ q)) : nAg2 A W (c + p.length) q := fun i x hi => by
  have := h (p.length + i) x (by rw [List.getElem?_append_right (by omega), Nat.add_sub_cancel_left]; exact hi)
  rwa [← Nat.add_assoc] at this
def nRng (x : Int × Int) : Prop := (-2147483648 ≤ x.1 ∧ x.1 ≤ 2147483647) ∧ (-2147483648 ≤ x.2 ∧ x.2 ≤ 2147483647)
theorem n32i {a b : Int} (ha : -2147483648 ≤ a ∧ a ≤ 2147483647) (hb : -2147483648 ≤ b ∧ b ≤ 2147483647) (h : Int32.ofInt a = Int32.ofInt b) : a = b := by
  have := congrArg Int32.toInt h
  rwa [sTo32 ha.1 ha.2, sTo32 hb.1 hb.2] at this
theorem nAg2_inj {A W : Nat → Int32} {c : Nat} {p q : List (Int × Int)} (hl : p.length = q.length) (h1 : nAg2 A W c p) (h2 : nAg2 A W c q) (r1 : ∀ x ∈ p, nRng x) (r2 : ∀ x ∈ q, nRng x) : p = q := by
  apply List.ext_getElem hl
  intro i g1 g2
  have e1 := h1 i p[i] (List.getElem?_eq_getElem g1)
  have e2 := h2 i q[i] (List.getElem?_eq_getElem g2)
  have k1 := r1 p[i] (List.getElem_mem g1)
  have k2 := r2 q[i] (List.getElem_mem g2)
  exact Prod.ext (n32i k1.1 k2.1 (e1.1.symm.trans e2.1)) (n32i k1.2 k2.2 (e1.2.symm.trans e2.2))
theorem nLaw_inj {A W T E : Nat → Int32} : ∀ (d d' : List nLi) (c l b : Nat), d.length = d'.length → nAg2 A W c (nAl d) → nAg2 A W c (nAl d') → nAg2 T E l (nLv b d) → nAg2 T E l (nLv b d') → b + (nAl d).length < 2147483647 → b + (nAl d').length < 2147483647 →
    (∀ x ∈ d, nOkL x) → (∀ x ∈ d', nOkL x) → (∀ x ∈ d, ∀ t, x.1 = some t → t ≠ []) → (∀ x ∈ d', ∀ t, x.1 = some t → t ≠ []) → d = d'
  | [], [], _, _, _, _, _, _, _, _, _, _, _, _, _, _ => rfl
  | [], _ :: _, _, _, _, h, _, _, _, _, _, _, _, _, _, _ => by simp at h
  | _ :: _, [], _, _, _, h, _, _, _, _, _, _, _, _, _, _ => by simp at h
  | L :: r, L' :: r', c, l, b, hl, a1, a2, v1, v2, b1, b2, o1, o2, n1, n2 => by
    have eA : ∀ (L : nLi) (r : List nLi), nAl (L :: r) = L.1.getD [] ++ (L.2 ++ nAl r) := fun L r => by
      simp only [nAl, List.flatMap_cons, List.append_assoc]
    rw [eA] at a1 a2 b1 b2
    simp only [List.length_append] at b1 b2
    have t1 := v1 0 _ rfl
    have t2 := v2 0 _ rfl
    simp only [Nat.add_zero] at t1 t2
    have hT := n32i (by omega) (by omega) (t1.1.symm.trans t2.1)
    have hE := n32i (by omega) (by omega) (t1.2.symm.trans t2.2)
    have hT' : (L.1.getD []).length = (L'.1.getD []).length := by omega
    have hE' : L.2.length = L'.2.length := by omega
    have ok := o1 L List.mem_cons_self
    have ok' := o2 L' List.mem_cons_self
    have p1 := nAg2_inj hT' (nAg2_l a1) (nAg2_l a2) (fun x hx => nOkS_r (ok.1 x hx)) (fun x hx => nOkS_r (ok'.1 x hx))
    have a1' := nAg2_r a1
    have a2' := nAg2_r a2
    rw [← hT'] at a2'
    have p2 := nAg2_inj hE' (nAg2_l a1') (nAg2_l a2') (fun x hx => nOkS_r (ok.2 x hx)) (fun x hx => nOkS_r (ok'.2 x hx))
    have a1'' := nAg2_r a1'
    have a2'' := nAg2_r a2'
    rw [← hE'] at a2''
    have w1 : nAg2 T E (l + 1) (nLv (b + (L.1.getD []).length + L.2.length) r) := nAg2_r (p := [_]) v1
    have w2 : nAg2 T E (l + 1) (nLv (b + (L.1.getD []).length + L.2.length) r') := by
      rw [hT', hE']
      exact nAg2_r (p := [_]) v2
    have ih := nLaw_inj r r' _ _ _ (by simpa using hl) a1'' a2'' w1 w2 (by omega) (by omega) (fun x hx => o1 x (List.mem_cons_of_mem _ hx)) (fun x hx => o2 x (List.mem_cons_of_mem _ hx)) (fun x hx => n1 x (List.mem_cons_of_mem _ hx)) (fun x hx => n2 x (List.mem_cons_of_mem _ hx))
    have q1 := n1 L List.mem_cons_self
    have q2 := n2 L' List.mem_cons_self
    obtain ⟨x1, y1⟩ := L
    obtain ⟨x2, y2⟩ := L'
    simp only at p1 p2 q1 q2
    subst p2
    subst ih
    cases x1 with
    | none =>
      cases x2 with
      | none => rfl
      | some t => exact absurd p1.symm (q2 t rfl)
    | some t =>
      cases x2 with
      | none => exact absurd p1 (q1 t rfl)
      | some t' =>
        have : t = t' := p1
        rw [this]
theorem nLaw_one {d d' : List nLi} (h : nLaw d H) (h' : nLaw d' H) : d = d' := by
  obtain ⟨A, W, T, E, M, ⟨a1, a2⟩, ⟨a3, a4⟩, a5, a6, a7, a8, a9, a10, a11, -⟩ := h
  obtain ⟨A', W', T', E', M', ⟨b1, b2⟩, ⟨b3, b4⟩, b5, b6, b7, b8, b9, b10, b11, -⟩ := h'
  unfold kLM at a5 b5
  rw [a1] at b1
  cases b1
  rw [a2] at b2
  cases b2
  rw [a3] at b3
  cases b3
  rw [a4] at b4
  cases b4
  rw [a5] at b5
  cases b5
  exact nLaw_inj d d' 0 0 0 (by omega) a6 b6 a7 b7 (by omega) (by omega) a10 b10 a11 b11
theorem nGB_one {hl r r' : Int} {fs : List Int} (h : nGB hl fs r H) (h' : nGB hl fs r' H) : r = r' := by
  rcases h with ⟨h1, h2⟩ | ⟨h1, d, h2, h3⟩ <;> rcases h' with ⟨k1, k2⟩ | ⟨k1, d', k2, k3⟩
  · omega
  · omega
  · omega
  · cases nLaw_one h2 k2
    omega
theorem nI2_one {j n m : Nat} {f g : Nat → Int32} (h : nI2 H j n f) (k : nI2 H j m g) : f = g := by
  unfold nI2 at h k
  rw [h] at k
  cases k
  rfl
theorem nW3_one {a b c a' b' c' : Nat → Int32} (h : nW3 a b c H) (k : nW3 a' b' c' H) : a = a' ∧ b = b' ∧ c = c' := ⟨nI2_one h.1 k.1, nI2_one h.2.1 k.2.1, nI2_one h.2.2 k.2.2⟩
theorem nGV_one {hl w p b v r r' : Int} (h : nGV hl w p b v r H) (k : nGV hl w p b v r' H) : r = r' := by
  obtain ⟨fn, fk, fl, h1, -, -, h2⟩ := h
  obtain ⟨fn', fk', fl', k1, -, -, k2⟩ := k
  obtain ⟨rfl, rfl, rfl⟩ := nW3_one h1 k1
  exact nGB_one h2 k2
theorem kEl_one {j : Nat} {i v v' : Int} (h : kEl j i v H) (k : kEl j i v' H) (hv : -2147483648 ≤ v ∧ v ≤ 2147483647) (hv' : -2147483648 ≤ v' ∧ v' ≤ 2147483647) : v = v' := by
  obtain ⟨ty, n, arr, h1, h2, h3⟩ := h
  obtain ⟨ty', n', arr', k1, k2, k3⟩ := k
  rw [h1] at k1
  cases k1
  rcases arr with f | f | f
  · exact n32i hv hv' (h3.symm.trans k3)
  · have e : Int64.ofInt v = Int64.ofInt v' := h3.symm.trans k3
    have := congrArg (fun x => x.toInt32.toInt) e
    simp only [Int64.toInt32_ofInt] at this
    rwa [sTo32 hv.1 hv.2, sTo32 hv'.1 hv'.2] at this
  · exact h3.elim
theorem nGW_one {hl w p a one r r' : Int} (h : nGW hl w p a one r H) (k : nGW hl w p a one r' H) : r = r' := by
  obtain ⟨fn, fk, fl, b, v, h1, ⟨h2, h3⟩, h4, h5⟩ := h
  obtain ⟨fn', fk', fl', b', v', k1, ⟨k2, k3⟩, k4, k5⟩ := k
  obtain ⟨rfl, rfl, rfl⟩ := nW3_one h1 k1
  cases kEl_one h2 k2 h3 k3
  subst h5
  subst k5
  exact nGV_one h4 k4
theorem nFd_one {g : Nat → Int64} {base : Nat} {hl one : Int} : ∀ (j : Nat) {o m o' m' : Int}, nFd g base hl one H j o m → nFd g base hl one H j o' m' → o = o' ∧ m = m'
  | 0, o, m, o', m', h, k => ⟨h.1.trans k.1.symm, h.2.trans k.2.symm⟩
  | j + 1, o, m, o', m', h, k => by
    obtain ⟨o1, m1, r, h1, h2, h3, h4⟩ := h
    obtain ⟨o2, m2, r2, k1, k2, k3, k4⟩ := k
    obtain ⟨rfl, rfl⟩ := nFd_one j h1 k1
    cases nGW_one h2 k2
    subst h3
    subst k3
    exact ⟨rfl, h4.trans k4.symm⟩
theorem kLg_one {j n m : Nat} {f g : Nat → Int64} (h : kLg j n f H) (k : kLg j m g H) : f = g := by
  unfold kLg at h k
  rw [h] at k
  cases k
  rfl
theorem nSn {zs l : List Int} {r x : Int} (h : zs ++ [r] = l ++ [x]) : zs = l ∧ r = x := by
  have := List.append_inj' h rfl
  exact ⟨this.1, by simpa using this.2⟩
theorem nFd_le {g : Nat → Int64} {base : Nat} {hl one : Int} : ∀ (j : Nat) {o m : Int}, nFd g base hl one H j o m → ∀ i, i ≤ j → ∃ o' m', nFd g base hl one H i o' m' ∧ m' ≤ m
  | 0, o, m, h, i, hi => by
    obtain rfl : i = 0 := by omega
    exact ⟨o, m, h, Int.le_refl _⟩
  | j + 1, o, m, h, i, hi => by
    by_cases e : i = j + 1
    · subst e
      exact ⟨o, m, h, Int.le_refl _⟩
    · obtain ⟨o1, m1, r, h1, h2, h3, h4⟩ := h
      obtain ⟨o', m', a, b⟩ := nFd_le j h1 i (by omega)
      exact ⟨o', m', a, by omega⟩
theorem nNF_mono {hl b one i j u v m w : Int} (h : nNF hl b one i u m H) (k : nNF hl b one j v w H) (hij : i ≤ j) : m ≤ w := by
  obtain ⟨g, g1, g2, g3, g4⟩ := h
  obtain ⟨g', k1, k2, k3, k4⟩ := k
  cases kLg_one g1 k1
  obtain ⟨o', m', a, c⟩ := nFd_le _ k4 i.toNat (by omega)
  have := (nFd_one _ g4 a).2
  omega
theorem nPF_one {hl b one bd n r r' : Int} (h : nPF hl b one bd n r H) (h' : nPF hl b one bd n r' H) : r = r' := by
  rcases h with ⟨h1, u, m, h2, h3⟩ | ⟨h1, h2, ⟨u, m, h3, h4⟩, v, w, h5, h6⟩ <;> rcases h' with ⟨k1, x, y, k2, k3⟩ | ⟨k1, k2, ⟨x, y, k3, k4⟩, z, t, k5, k6⟩
  · omega
  · have := nNF_mono k5 h2 (by omega)
    omega
  · have := nNF_mono h5 k2 (by omega)
    omega
  · by_cases e : r < r'
    · have := nNF_mono h5 k3 (by omega)
      omega
    · by_cases e2 : r' < r
      · have := nNF_mono k5 h3 (by omega)
        omega
      · omega
/-- the last number is one function of the others -/
theorem nFun {k : Nat} (hk : k = 89 ∨ k = 92 ∨ k = 93 ∨ k = 111) {zs : List Int} {r r' : Int} (h : nUP k (zs ++ [r]) H) (h' : nUP k (zs ++ [r']) H) : r = r' := by
  rcases hk with rfl | rfl | rfl | rfl
  · obtain ⟨a, b, o, j, m, he, u, g, g1, g2, g3, g4⟩ : ∃ h b o j m, zs ++ [r] = [h, b, o, j, m] ∧ ∃ u, nNF h b o j u m H := h
    obtain ⟨a', b', o', j', m', he', u', g', k1, k2, k3, k4⟩ : ∃ h b o j m, zs ++ [r'] = [h, b, o, j, m] ∧ ∃ u, nNF h b o j u m H := h'
    obtain ⟨rfl, rfl⟩ := nSn (l := [a, b, o, j]) he
    obtain ⟨q, rfl⟩ := nSn (l := [a', b', o', j']) he'
    cases q
    cases kLg_one g1 k1
    exact (nFd_one _ g4 k4).2
  · obtain ⟨a, b, c, he, f, f1, f2⟩ : ∃ a b c, zs ++ [r] = [a, b, c] ∧ nHR a b c H := h
    obtain ⟨a', b', c', he', f', k1, k2⟩ : ∃ a b c, zs ++ [r'] = [a, b, c] ∧ nHR a b c H := h'
    obtain ⟨rfl, rfl⟩ := nSn (l := [a, b]) he
    obtain ⟨q, rfl⟩ := nSn (l := [a', b']) he'
    cases q
    cases nI2_one f1 k1
    rcases f2 with ⟨f2, f3⟩ | ⟨f2, y, f3, f4, f5⟩ <;> rcases k2 with ⟨k2, k3⟩ | ⟨k2, x, k3, k4, k5⟩
    · omega
    · exact absurd (f3 x k3 k4) k5
    · exact absurd (k3 y f3 f4) f5
    · omega
  · obtain ⟨a, b, c, d, he, f2⟩ : ∃ a b c e, zs ++ [r] = [a, b, c, e] ∧ e = (if 9999 < b + a * c then 9999 else b + a * c) := h
    obtain ⟨a', b', c', d', he', k2⟩ : ∃ a b c e, zs ++ [r'] = [a, b, c, e] ∧ e = (if 9999 < b + a * c then 9999 else b + a * c) := h'
    obtain ⟨rfl, rfl⟩ := nSn (l := [a, b, c]) he
    obtain ⟨q, rfl⟩ := nSn (l := [a', b', c']) he'
    cases q
    exact f2.trans k2.symm
  · obtain ⟨a, b, o, d, n, x, he, f⟩ : ∃ h b o d n x, zs ++ [r] = [h, b, o, d, n, x] ∧ nPF h b o d n x H := h
    obtain ⟨a', b', o', d', n', x', he', k⟩ : ∃ h b o d n x, zs ++ [r'] = [h, b, o, d, n, x] ∧ nPF h b o d n x H := h'
    obtain ⟨rfl, rfl⟩ := nSn (l := [a, b, o, d, n]) he
    obtain ⟨q, rfl⟩ := nSn (l := [a', b', o', d', n']) he'
    cases q
    exact nPF_one f k
end NONE1
/-- the same number by an elder form -/
def nSame (kd : Nat) (K : kS) : Option (List kS) := match K with
  | ((pc, ls, (0, r) :: st, G, c, s, Γ), γ) => (match kFa γ kd (fun fs => decide (fs.getLast? = some r)) with
    | some fs => (match (γ.filter (fun q => decide (q.1 = kd) && decide (q.2.dropLast = fs.dropLast))).getLast? with
      | some q => (match q.2.getLast? with
        | some x => if x = r then some [K] else some [((pc, ls, (0, x) :: st, G, c, s, Γ), γ)]
        | none => some [K])
      | none => some [K])
    | none => some [K])
  | _ => some [K]
/-- the word at a place of the sentence, and the one ahead -/
def nWds (Γ : sG) (γ : List kA) (cell kind : Nat) (base j : sL) : Option (sL × sL) := match kFa γ kind (fun fs => match fs with
    | [b, n] => decide (b = base) && sNN Γ (sSub (sSub n j) (sC 1))
    | _ => false), kFindEl γ cell j with
  | some [b, n], some w => if (decide (b = base) && (sNN Γ (sSub (sSub n j) (sC 1)) && (sNN Γ j && sI32 Γ.1 w))) = true then
      (if sNN Γ (sMul (-1) j) = true then some (w, sC (-1)) else (match kFindEl γ cell (sSub j (sC 1)) with
        | some a => if (sNN Γ (sSub j (sC 1)) && sI32 Γ.1 a) = true then some (w, a) else none
        | none => none)) else none
  | _, _ => none
/-- whether the sums follow -/
def nFold (Γ : sG) (γ : List kA) (hl one j w a o m o2 m2 : sL) : Bool := match kFa γ 85 (fun fs => match fs with
    | [h, w', p, a', e, _] => decide (h = hl) && (decide (w' = w) && (decide (p = j) && (decide (a' = a) && decide (e = one))))
    | _ => false) with
  | some [h, w', p, a', e, r] => decide (h = hl) && (decide (w' = w) && (decide (p = j) && (decide (a' = a) && (decide (e = one) && (((decide (o2 = sAdd o r) && sNN Γ (sAdd o r)) || (decide (o2 = sC 0) && sNN Γ (sMul (-1) (sAdd o r)))) && ((decide (m2 = m) && sNN Γ (sSub m o2)) || (decide (m2 = o2) && sNN Γ (sSub o2 m))))))))
  | _ => false
/-- one word more -/
def nNS (cell kind : Nat) (K : kS) (i o2 m2 : Option sL) : Option kWs := match kFa K.2 88 (fun _ => true), i, o2, m2 with
  | some [hl, b, one, j, o, m], some i, some o2, some m2 => if i = sAdd j (sC 1) then (match nWds K.1.2.2.2.2.2.2 K.2 cell kind b j with
    | some (w, a) => if nFold K.1.2.2.2.2.2.2 K.2 hl one j w a o m o2 m2 = true then some [([(88, [hl, b, one, i, o2, m2])], [])] else none
    | none => none) else none
  | _, _, _, _ => none
def nNSx (zr : Nat) (K : kS) : Option kWs := nNS 25 86 K (kLf K.1.2.1 2) (nFf K.1.2.2.2.1 24 zr) (kLf K.1.2.1 1)
def nNSm (K : kS) : Option kWs := nNS 72 87 K (kLf K.1.2.1 5) (kLf K.1.2.1 3) (kLf K.1.2.1 4)
/-- none yet -/
def nNIx (zn : Nat) (K : kS) : Option kWs := match kFa K.2 86 (fun _ => true), kFa K.2 62 (fun _ => true), nFf K.1.2.2.2.1 24 zn with
  | some [b, _], some [_, hl], some nv => (match kFa K.2 1057 (fun fs => match fs with
      | [_, v] => decide (v = nv)
      | _ => false), kFa K.2 88 (fun _ => true), kLf K.1.2.1 2 with
    | some [one, _], none, some i => if i = sC 0 then some [([(88, [hl, b, one, sC 0, sC 0, sC 0])], [])] else none
    | _, _, _ => none)
  | _, _, _ => none
def nNIm (zh : Nat) (K : kS) : Option kWs := match kFa K.2 87 (fun _ => true), nFf K.1.2.2.2.1 52 zh, kLf K.1.2.1 2, kFa K.2 88 (fun _ => true), kLf K.1.2.1 5 with
  | some [b, _], some hl, some one, none, some i => if i = sC 0 then some [([(88, [hl, b, one, sC 0, sC 0, sC 0])], [])] else none
  | _, _, _, _, _ => none
/-- all words -/
def nNR (K : kS) (n : Option sL) : Option kWs := match kFa K.2 88 (fun _ => true), n, kTop K with
  | some [hl, b, one, j, o, m], some n, some r => if (kEqf K.1.2.2.2.2.2.2 j n && decide (m = r)) = true then some [([(88, [hl, b, one, n, o, m]), (89, [hl, b, one, n, m])], [])] else none
  | _, _, _ => none
def nNRx (zl : Nat) (K : kS) : Option kWs := nNR K (nFf K.1.2.2.2.1 24 zl)
def nNRm (K : kS) : Option kWs := nNR K (kLf K.1.2.1 1)
section NFLD
variable {RO : List (Nat × (Nat → Int32))} {ρ : List Int} {Γ : sG} {γ : List kA} {H : List eE}
theorem nLst {l : List sL} {x : sL} (h : l.getLast? = some x) : l = l.dropLast ++ [x] := by
  obtain ⟨ys, rfl⟩ := List.getLast?_eq_some_iff.mp h
  rw [List.dropLast_concat]
theorem nSame_ok {kd : Nat} (hk : kd = 89 ∨ kd = 92 ∨ kd = 93 ∨ kd = 111) {K : kS} {L : List kS} (h : nSame kd K = some L) {ρ : List Int} {R : eR} (hD : kD (kGP (kUP RO)) ρ K R) : ∃ K' ∈ L, ∃ ρ', ρ <+: ρ' ∧ kD (kGP (kUP RO)) ρ' K' R := by
  have same : ∀ K0 : kS, K0 = K → some [K0] = some L → ∃ K' ∈ L, ∃ ρ', ρ <+: ρ' ∧ kD (kGP (kUP RO)) ρ' K' R := fun K0 e g => by
    cases g
    subst e
    exact ⟨_, List.mem_singleton.mpr rfl, ρ, List.prefix_refl _, hD⟩
  unfold nSame at h
  split at h
  · rename_i pc ls r st G c s Γ γ
    split at h
    · rename_i fs hfa
      split at h
      · rename_i q hq
        split at h
        · rename_i x hx
          split at h
          · exact same _ rfl h
          · cases h
            obtain ⟨p1, zs, e1, e2⟩ := nFa_ok hD.2.2 hfa (by omega) (by omega)
            have p1 := of_decide_eq_true p1
            obtain ⟨ys, hys⟩ := List.getLast?_eq_some_iff.mp hq
            have hqm : q ∈ γ.filter (fun q => decide (q.1 = kd) && decide (q.2.dropLast = fs.dropLast)) := by rw [hys]; simp
            obtain ⟨hqn, hc⟩ := List.mem_filter.mp hqm
            clear hqm
            simp only [Bool.and_eq_true, decide_eq_true_eq] at hc
            obtain ⟨k, gs⟩ := q
            simp only at hc hx
            obtain ⟨rfl, hc⟩ := hc
            obtain ⟨ys2, e3, e4⟩ := hD.2.2 _ hqn
            have e4 := nGP (by omega) (by omega) e4
            simp only at e3
            rw [nLst p1] at e1
            rw [nLst hx, hc] at e3
            obtain ⟨us, vs, rfl, f1, f2⟩ := sVal_appR e1
            obtain ⟨us', vs', rfl, f3, f4⟩ := sVal_appR e3
            rw [f1] at f3
            cases f3
            obtain ⟨zr, rfl, er⟩ := sVal_1 f2
            obtain ⟨zx, rfl, ex⟩ := sVal_1 f4
            have hz := nFun hk e2 e4
            subst hz
            refine ⟨_, List.mem_singleton.mpr rfl, ρ, List.prefix_refl _, hD.1, ⟨hD.2.1.1, hD.2.1.2.1, ?_, hD.2.1.2.2.2⟩, hD.2.2⟩
            obtain ⟨zw, r1, hr1, ew, hV⟩ := sVs_int hD.2.1.2.2.1
            cases ew.symm.trans er
            show sVs ρ ((0, x) :: st) R.2.2.1
            rw [hr1]
            exact ⟨⟨_, ex, rfl⟩, hV⟩
        · exact same _ rfl h
      · exact same _ rfl h
    · exact same _ rfl h
  · exact same _ rfl h
theorem nWd_at {cell n : Nat} {S : Nat → Int32} {g : Nat → Int64} {base len : Int} (hS : nI2 H cell n S) (h : ∀ k : Nat, (k : Int) < len → S k = (g (base.toNat + k)).toInt32) {w : sL} {j zw : Int} (hj : 0 ≤ j) (hl : j < len) (hk : kEl cell j zw H) (hr : -2147483648 ≤ zw ∧ zw ≤ 2147483647) : nWd g base.toNat j.toNat = zw := by
  unfold nWd
  rw [← h j.toNat (by omega), (kEl_v hk hS).2, sTo32 hr.1 hr.2]
theorem nWds_ok (hM : sMo ρ Γ) (hg : kGh (kGP (kUP RO)) ρ γ H) {cell kind n : Nat} (hk : ∀ zs, nUP kind zs H → ∃ a b, zs = [a, b] ∧ nSP cell n a b H) (hk1 : 53 ≤ kind) (hk2 : kind < 1000) {base j w a : sL} {zb zj : Int} (eb : sEv ρ base = some zb) (ej : sEv ρ j = some zj) (h : nWds Γ γ cell kind base j = some (w, a)) :
    0 ≤ zj ∧ ∃ g zw za, kLg 84 360 g H ∧ sEv ρ w = some zw ∧ sEv ρ a = some za ∧ zw = nWd g zb.toNat zj.toNat ∧ za = (if zj.toNat = 0 then -1 else nWd g zb.toNat (zj.toNat - 1)) := by
  unfold nWds at h
  split at h
  · rename_i b m w' hfa hw
    split at h
    · rename_i hc
      simp only [Bool.and_eq_true, decide_eq_true_eq] at hc
      obtain ⟨rfl, c2, c3, c4⟩ := hc
      obtain ⟨-, zs, e1, e2⟩ := nFa_ok hg hfa hk1 hk2
      obtain ⟨zb', zm, rfl, f1, f2⟩ := sVal_2 e1
      cases f1.symm.trans eb
      obtain ⟨a', b', he, S, g, hS, hL, h0, hq⟩ := hk _ e2
      cases he
      have d2 := sNN_ok hM (sEv_sub (sEv_sub f2 ej) (sEv_C 1)) c2
      have d3 := sNN_ok hM ej c3
      obtain ⟨zw, ew, kw⟩ := kFindEl_ok hg hw ej
      have hww : ∀ {x : sL}, x = w' → sEv ρ x = some zw → sI32 Γ.1 x = true → nWd g zb.toNat zj.toNat = zw := fun {x} hx ex hr => nWd_at (w := x) hS hq d3 (by omega) kw (sWi_ok hM.1 ex hr)
      have hw1 := hww rfl ew c4
      split at h
      · rename_i hz
        cases h
        have := sNN_ok hM (sEv_mul (-1) ej) hz
        exact ⟨d3, g, zw, -1, hL, ew, sEv_C _, hw1.symm, by rw [if_pos (by omega)]⟩
      · split at h
        · rename_i a' ha
          split at h
          · rename_i hc2
            cases h
            simp only [Bool.and_eq_true] at hc2
            have d4 := sNN_ok hM (sEv_sub ej (sEv_C 1)) hc2.1
            obtain ⟨za, ea, ka⟩ := kFindEl_ok hg ha (sEv_sub ej (sEv_C 1))
            have hq2 := nWd_at (w := w) (j := zj - 1) hS hq (by omega) (by omega) ka (sWi_ok hM.1 ea hc2.2)
            exact ⟨d3, g, zw, za, hL, ew, ea, hw1.symm, by rw [if_neg (by omega), show zj.toNat - 1 = (zj - 1).toNat by omega]; exact hq2.symm⟩
          · cases h
        · cases h
    · cases h
  · cases h
theorem nFold_ok (hM : sMo ρ Γ) (hg : kGh (kGP (kUP RO)) ρ γ H) {hl one j w a o m o2 m2 : sL} {zl ze zj zw za zo zm : Int} (el : sEv ρ hl = some zl) (ee : sEv ρ one = some ze) (ej : sEv ρ j = some zj) (ew : sEv ρ w = some zw) (ea : sEv ρ a = some za) (eo : sEv ρ o = some zo) (em : sEv ρ m = some zm) (h : nFold Γ γ hl one j w a o m o2 m2 = true) :
    ∃ zr z2 y2, nGW zl zw zj za ze zr H ∧ sEv ρ o2 = some z2 ∧ sEv ρ m2 = some y2 ∧ z2 = max 0 (zo + zr) ∧ y2 = max zm z2 := by
  unfold nFold at h
  split at h
  · rename_i h' w' p a' e r hfa
    simp only [Bool.and_eq_true, Bool.or_eq_true, decide_eq_true_eq] at h
    obtain ⟨rfl, rfl, rfl, rfl, rfl, h1, h2⟩ := h
    obtain ⟨-, zs, e1, e2⟩ := nFa_ok hg hfa (by decide) (by decide)
    obtain ⟨y1, y2, y3, y4, y5, y6, rfl, f1, f2, f3, f4, f5, f6⟩ := sVal_6 e1
    obtain ⟨a1, a2, a3, a4, a5, a6, he, hW⟩ : ∃ h w p a o r, [y1, y2, y3, y4, y5, y6] = [h, w, p, a, o, r] ∧ nGW h w p a o r H := e2
    cases he
    cases f1.symm.trans el
    cases f2.symm.trans ew
    cases f3.symm.trans ej
    cases f4.symm.trans ea
    cases f5.symm.trans ee
    have es := sEv_add eo f6
    obtain ⟨z2, e3, h3⟩ : ∃ z2, sEv ρ o2 = some z2 ∧ z2 = max 0 (zo + y6) := by
      rcases h1 with ⟨rfl, h1⟩ | ⟨rfl, h1⟩
      · have := sNN_ok hM es h1
        exact ⟨_, es, by omega⟩
      · have := sNN_ok hM (sEv_mul (-1) es) h1
        exact ⟨0, sEv_C _, by omega⟩
    refine ⟨y6, z2, ?_⟩
    rcases h2 with ⟨rfl, h2⟩ | ⟨rfl, h2⟩
    · have := sNN_ok hM (sEv_sub em e3) h2
      exact ⟨zm, hW, e3, em, h3, by omega⟩
    · have := sNN_ok hM (sEv_sub e3 em) h2
      exact ⟨z2, hW, e3, e3, h3, by omega⟩
  · cases h
theorem nNS_ok {cell kind n : Nat} (hk : ∀ (H : List eE) zs, nUP kind zs H → ∃ a b, zs = [a, b] ∧ nSP cell n a b H) (hk1 : 53 ≤ kind) (hk2 : kind < 1000) {K : kS} {i o2 m2 : Option sL} {ws : kWs} (h : nNS cell kind K i o2 m2 = some ws) {ρ : List Int} {R : eR} (hD : kD (kGP (kUP RO)) ρ K R) : ∃ p ∈ ws, kGh (kGP (kUP RO)) ρ p.1 R.2.2.2.1 ∧ ∀ b ∈ p.2, ∃ z, sEv ρ b.1 = some z ∧ b.2.1 ≤ z ∧ z ≤ b.2.2 := by
  have hM := hD.1
  unfold nNS at h
  split at h
  · rename_i hl b one j o m i' o2' m2' hfa
    split at h
    · rename_i hi
      subst hi
      split at h
      · rename_i w a hw
        split at h
        · rename_i hc
          cases h
          obtain ⟨-, zs, e1, e2⟩ := nFa_ok hD.2.2 hfa (by decide) (by decide)
          obtain ⟨y1, y2, y3, y4, y5, y6, rfl, f1, f2, f3, f4, f5, f6⟩ := sVal_6 e1
          obtain ⟨a1, a2, a3, a4, a5, a6, he, g, g1, g2, g3, g4⟩ : ∃ h b o j u m, [y1, y2, y3, y4, y5, y6] = [h, b, o, j, u, m] ∧ nNF h b o j u m R.2.2.2.1 := e2
          cases he
          obtain ⟨hj, g', zw, za, q1, q2, q3, q4, q5⟩ := nWds_ok hM hD.2.2 (hk _) hk1 hk2 f2 f4 hw
          cases kLg_one g1 q1
          obtain ⟨zr, z2, w2, k1, k2, k3, k4, k5⟩ := nFold_ok hM hD.2.2 f1 f3 f4 q2 q3 f5 f6 hc
          have ei := sEv_add f4 (sEv_C (ρ := ρ) 1)
          refine ⟨_, List.mem_singleton.mpr rfl, kAt1 (zs := [y1, y2, y3, y4 + 1, z2, w2]) (by decide) (by simp only [sVal, f1, f2, f3, ei, k2, k3]) ((kUPn (by decide)).mpr ⟨_, _, _, _, _, _, rfl, g, g1, g2, by omega, ?_⟩), fun b hb => by cases hb⟩
          rw [show (y4 + 1).toNat = y4.toNat + 1 by omega]
          refine ⟨y5, y6, zr, g4, ?_, k4, k5⟩
          rw [← q4, ← q5, show ((y4.toNat : Nat) : Int) = y4 by omega]
          exact k1
        · cases h
      · cases h
    · cases h
  · cases h
theorem nNSx_ok (zr : Nat) : kRok RO (nNSx zr) := fun _ _ h _ _ hD => nNS_ok (kind := 86) (fun _ _ h => h) (by decide) (by decide) h hD
theorem nNSm_ok : kRok RO nNSm := fun _ _ h _ _ hD => nNS_ok (kind := 87) (fun _ _ h => h) (by decide) (by decide) h hD
theorem nNF0 {b hl one : sL} {zb zl zo : Int} (eb : sEv ρ b = some zb) (el : sEv ρ hl = some zl) (eo : sEv ρ one = some zo) {cell n : Nat} {len : Int} (h : nSP cell n zb len H) : kGh (kGP (kUP RO)) ρ [(88, [hl, b, one, sC 0, sC 0, sC 0])] H := by
  obtain ⟨S, g, -, hL, h0, -⟩ := h
  exact kAt1 (zs := [zl, zb, zo, 0, 0, 0]) (by decide) (by simp only [sVal, el, eb, eo, sEv_C]) ((kUPn (by decide)).mpr ⟨_, _, _, _, _, _, rfl, g, hL, h0, by omega, rfl, rfl⟩)
theorem nNIx_ok (zn : Nat) : kRok RO (nNIx zn) := by
  intro K ws h ρ R hD
  unfold nNIx at h
  split at h
  · rename_i b n0 s0 hl nv hsp hlw hnv
    split at h
    · rename_i one v i hone hnf hi
      split at h
      · cases h
        obtain ⟨-, zs, e1, e2⟩ := nFa_ok hD.2.2 hsp (by decide) (by decide)
        obtain ⟨zb, zn', rfl, eb, en⟩ := sVal_2 e1
        obtain ⟨a', b', he, hS⟩ : ∃ a b, [zb, zn'] = [a, b] ∧ nSP 25 64 a b R.2.2.2.1 := e2
        cases he
        obtain ⟨-, zs, e3, -⟩ := nFa_ok hD.2.2 hlw (by decide) (by decide)
        obtain ⟨z1, zl, rfl, -, el⟩ := sVal_2 e3
        obtain ⟨zo, zv, eo, -, -⟩ := kFaEl (j := 57) hD.2.2 hone
        exact ⟨_, List.mem_singleton.mpr rfl, nNF0 eb el eo hS, fun b hb => by cases hb⟩
      · cases h
    · cases h
  · cases h
theorem nNIm_ok (zh : Nat) : kRok RO (nNIm zh) := by
  intro K ws h ρ R hD
  unfold nNIm at h
  split at h
  · rename_i b n0 hl one i hsp hhl hone hnf hi
    split at h
    · cases h
      obtain ⟨-, zs, e1, e2⟩ := nFa_ok hD.2.2 hsp (by decide) (by decide)
      obtain ⟨zb, zn', rfl, eb, en⟩ := sVal_2 e1
      obtain ⟨a', b', he, hS⟩ : ∃ a b, [zb, zn'] = [a, b] ∧ nSP 72 61 a b R.2.2.2.1 := e2
      cases he
      obtain ⟨zl, el⟩ := nFf_ok hD.2.1.2.2.2.1 hhl
      obtain ⟨zo, eo⟩ := kLf_ok hD.2.1 hone
      exact ⟨_, List.mem_singleton.mpr rfl, nNF0 eb el eo hS, fun b hb => by cases hb⟩
    · cases h
  · cases h
theorem nNR_ok {K : kS} {n : Option sL} {ws : kWs} (h : nNR K n = some ws) {ρ : List Int} {R : eR} (hn : ∀ x, n = some x → ∃ z, sEv ρ x = some z) (hD : kD (kGP (kUP RO)) ρ K R) : ∃ p ∈ ws, kGh (kGP (kUP RO)) ρ p.1 R.2.2.2.1 ∧ ∀ b ∈ p.2, ∃ z, sEv ρ b.1 = some z ∧ b.2.1 ≤ z ∧ z ≤ b.2.2 := by
  have hM := hD.1
  unfold nNR at h
  split at h
  · rename_i hl b one j o m n' r hfa hr
    split at h
    · rename_i hc
      cases h
      simp only [Bool.and_eq_true, decide_eq_true_eq] at hc
      obtain ⟨-, zs, e1, e2⟩ := nFa_ok hD.2.2 hfa (by decide) (by decide)
      obtain ⟨y1, y2, y3, y4, y5, y6, rfl, f1, f2, f3, f4, f5, f6⟩ := sVal_6 e1
      obtain ⟨a1, a2, a3, a4, a5, a6, he, hN⟩ : ∃ h b o j u m, [y1, y2, y3, y4, y5, y6] = [h, b, o, j, u, m] ∧ nNF h b o j u m R.2.2.2.1 := e2
      cases he
      obtain ⟨zn, en⟩ := hn _ rfl
      have := kEqf_ok hM f4 en hc.1
      subst this
      exact ⟨_, List.mem_singleton.mpr rfl, kGh_cons (kAt1 (zs := [y1, y2, y3, y4, y5, y6]) (by decide) (by simp only [sVal, f1, f2, f3, en, f5, f6]) ((kUPn (by decide)).mpr ⟨_, _, _, _, _, _, rfl, hN⟩)) (kAt1 (zs := [y1, y2, y3, y4, y6]) (by decide) (by simp only [sVal, f1, f2, f3, en, f6]) ((kUPn (by decide)).mpr ⟨_, _, _, _, _, rfl, _, hN⟩)), fun b hb => by cases hb⟩
    · cases h
  · cases h
theorem nNRx_ok (zl : Nat) : kRok RO (nNRx zl) := fun _ _ h _ _ hD => nNR_ok h (fun _ hx => nFf_ok hD.2.1.2.2.2.1 hx) hD
theorem nNRm_ok : kRok RO nNRm := fun _ _ h _ _ hD => nNR_ok h (fun _ hx => kLf_ok hD.2.1 hx) hD
end NFLD
end
