/-! Consequences: what follows from what is told. -/
noncomputable section
/-- what a consequence gives: several ways, each with atoms and bounds -/
abbrev kWs : Type := List (List kA × List (sL × Int × Int))
def kAss (Γ : sG) : List (sL × Int × Int) → Option sG
  | [] => some Γ
  | b :: r => match kAs Γ b.1 b.2.1 b.2.2 with
    | some Γ' => kAss Γ' r
    | none => none
theorem kAss_ok {ρ : List Int} : ∀ (bs : List (sL × Int × Int)) {Γ : sG}, sMo ρ Γ → (∀ b ∈ bs, ∃ z, sEv ρ b.1 = some z ∧ b.2.1 ≤ z ∧ z ≤ b.2.2) → ∃ Γ', kAss Γ bs = some Γ' ∧ sMo ρ Γ'
  | [], Γ, hM, _ => ⟨Γ, rfl, hM⟩
  | b :: r, Γ, hM, h => by
    obtain ⟨z, h1, h2, h3⟩ := h b List.mem_cons_self
    obtain ⟨Γ1, e1, m1⟩ := kAs_ok hM h1 h2 h3
    obtain ⟨Γ2, e2, m2⟩ := kAss_ok r m1 (fun c hc => h c (List.mem_cons_of_mem _ hc))
    exact ⟨Γ2, by simp only [kAss, e1, e2], m2⟩
def kApp (r : kS → Option kWs) (K : kS) : Option (List kS) := match r K with
  | none => some [K]
  | some ws => match K with
    | ((pc, ls, st, G, c, s, Γ), γ) => some (ws.filterMap fun p => (kAss Γ p.2).map fun Γ' => ((pc, ls, st, G, c, s, Γ'), p.1 ++ γ))
def kRok (RO : List (Nat × (Nat → Int32))) (r : kS → Option kWs) : Prop := ∀ (K : kS) (ws : kWs), r K = some ws → ∀ (ρ : List Int) (R : eR), kD (kGP (kUP RO)) ρ K R → ∃ p ∈ ws, kGh (kGP (kUP RO)) ρ p.1 R.2.2.2.1 ∧ ∀ b ∈ p.2, ∃ z, sEv ρ b.1 = some z ∧ b.2.1 ≤ z ∧ z ≤ b.2.2
theorem kApp_ok {RO : List (Nat × (Nat → Int32))} {r : kS → Option kWs} (hr : kRok RO r) {K : kS} {L : List kS} (h : kApp r K = some L) {ρ : List Int} {R : eR} (hD : kD (kGP (kUP RO)) ρ K R) : ∃ K' ∈ L, ∃ ρ', ρ <+: ρ' ∧ kD (kGP (kUP RO)) ρ' K' R := by
  unfold kApp at h
  split at h
  · cases h
    exact ⟨K, List.mem_singleton.mpr rfl, ρ, List.prefix_refl _, hD⟩
  · rename_i ws hws
    obtain ⟨p, hp, h1, h2⟩ := hr K ws hws ρ R hD
    obtain ⟨⟨pc, ls, st, G, c, s, Γ⟩, γ⟩ := K
    simp only at h
    cases h
    obtain ⟨Γ', e, m⟩ := kAss_ok p.2 hD.1 h2
    refine ⟨((pc, ls, st, G, c, s, Γ'), p.1 ++ γ), List.mem_filterMap.mpr ⟨p, hp, by simp only [e, Option.map_some]⟩, ρ, List.prefix_refl _, m, hD.2.1, fun q hq => ?_⟩
    rcases List.mem_append.mp hq with hq | hq
    · exact h1 q hq
    · exact hD.2.2 q hq
/-- one after the other -/
def kThen (f g : kS → Option (List kS)) (K : kS) : Option (List kS) := match f K with
  | none => none
  | some L => kAll g L
theorem kThen_ok {GP : Nat → List Int → List eE → Prop} {f g : kS → Option (List kS)} (hf : ∀ (K : kS) (L : List kS), f K = some L → ∀ (ρ : List Int) (R : eR), kD GP ρ K R → ∃ K' ∈ L, ∃ ρ', ρ <+: ρ' ∧ kD GP ρ' K' R) (hg : ∀ (K : kS) (L : List kS), g K = some L → ∀ (ρ : List Int) (R : eR), kD GP ρ K R → ∃ K' ∈ L, ∃ ρ', ρ <+: ρ' ∧ kD GP ρ' K' R)
    {K : kS} {L : List kS} (h : kThen f g K = some L) {ρ : List Int} {R : eR} (hD : kD GP ρ K R) : ∃ K' ∈ L, ∃ ρ', ρ <+: ρ' ∧ kD GP ρ' K' R := by
  unfold kThen at h
  split at h
  · cases h
  · rename_i L1 h1
    obtain ⟨K1, m1, ρ1, p1, d1⟩ := hf K L1 h1 ρ R hD
    obtain ⟨a, ha, hs⟩ := kAll_in h K1 m1
    obtain ⟨K2, m2, ρ2, p2, d2⟩ := hg K1 a ha ρ1 R d1
    exact ⟨K2, hs K2 m2, ρ2, p1.trans p2, d2⟩
/-- an atom of a kind -/
def kFa (γ : List kA) (k : Nat) (p : List sL → Bool) : Option (List sL) := (γ.find? (fun a => decide (a.1 = k) && p a.2)).map fun a => a.2
section KRUL
variable {RO : List (Nat × (Nat → Int32))}
theorem kFa_ok {ρ : List Int} {γ : List kA} {H : List eE} {k : Nat} {p : List sL → Bool} {fs : List sL} (hg : kGh (kGP (kUP RO)) ρ γ H) (h : kFa γ k p = some fs) (hk : k < 1000) : p fs = true ∧ ∃ zs, sVal ρ fs = some zs ∧ kUP RO k zs H := by
  unfold kFa at h
  obtain ⟨a, ha, rfl⟩ := Option.map_eq_some_iff.mp h
  have h1 := List.find?_some ha
  simp only [Bool.and_eq_true, decide_eq_true_eq] at h1
  obtain ⟨zs, e1, e2⟩ := hg a (List.mem_of_find?_eq_some ha)
  rw [h1.1] at e2
  unfold kGP at e2
  rw [if_neg (by omega)] at e2
  exact ⟨h1.2, zs, e1, e2⟩
/-- the shapes of the rows of the reference's text -/
def kShb (G : List sE) (j : Nat) (t : FieldType) (m : Nat) : Bool := match G[j]? with
  | some (.inl (ty, n, _, _)) => decide (ty = t) && decide (n = m)
  | _ => false
def kSh (G : List sE) : Bool := kShb G 65 .byte 260 && (kShb G 66 .int 260 && (kShb G 68 .short 122 && kShb G 69 .short 122))
theorem kSh1 {ρ : List Int} {G : List sE} {H : List eE} (hH : sHp ρ G H) {j : Nat} {t : FieldType} {m : Nat} (ht : t ≠ .long) (hr : t.isReference = false) (h : kShb G j t m = true) : ∃ f : Nat → Int32, H[j]? = some (.inl (t, m, .inl f)) := by
  unfold kShb at h
  split at h
  · rename_i ty n b0 ov hg
    simp only [Bool.and_eq_true, decide_eq_true_eq] at h
    obtain ⟨rfl, rfl⟩ := h
    obtain ⟨y, hy, hxy⟩ := sHp_get hH hg
    rcases y with ⟨ty', n', arr⟩ | y
    · obtain ⟨rfl, rfl, harr⟩ := hxy
      rcases arr with f | f | f
      · exact ⟨f, hy⟩
      · exact absurd harr.1 ht
      · rw [harr.1] at hr; cases hr
    · exact hxy.elim
  · cases h
theorem kSh_ok {ρ : List Int} {G : List sE} {H : List eE} (hH : sHp ρ G H) (h : kSh G = true) : ∃ A W T E, kAW A W H ∧ kTE T E H := by
  unfold kSh at h
  simp only [Bool.and_eq_true] at h
  obtain ⟨A, hA⟩ := kSh1 hH (by decide) rfl h.1
  obtain ⟨W, hW⟩ := kSh1 hH (by decide) rfl h.2.1
  obtain ⟨T, hT⟩ := kSh1 hH (by decide) rfl h.2.2.1
  obtain ⟨E, hE⟩ := kSh1 hH (by decide) rfl h.2.2.2
  exact ⟨A, W, T, E, ⟨hA, hW⟩, hT, hE⟩
def kFf (G : List sE) (j z : Nat) : Option sL := match G[j]? with
  | some (.inr (_, fs)) => (match fs[z]? with
    | some v => if v.1 = 0 then some v.2 else none
    | none => none)
  | _ => none
def kLf (ls : List (Nat × sV)) (i : Nat) : Option sL := match sGetL ls i with
  | some v => if v.1 = 0 then some v.2 else none
  | none => none
/-- a walk of no steps begins; a stretch of none; no copies yet; no line of the law yet -/
def kR5 (f : kS → Option sL) (K : kS) : Option kWs := match f K with
  | some x => if (kSh K.1.2.2.2.1 && sNN K.1.2.2.2.2.2.2 x && (sIv K.1.2.2.2.2.2.2.1 x).isSome) = true then some [([(4, [x, x, sC 0])], [])] else none
  | none => none
theorem kR5_ok (f : kS → Option sL) : kRok RO (kR5 f) := by
  intro K ws h ρ R hD
  unfold kR5 at h
  split at h
  · rename_i x hx
    split at h
    · rename_i hc
      cases h
      simp only [Bool.and_eq_true] at hc
      obtain ⟨⟨c1, c2⟩, c3⟩ := hc
      obtain ⟨A, W, T, E, hAW, -⟩ := kSh_ok hD.2.1.2.2.2.1 c1
      obtain ⟨i, hi⟩ := Option.isSome_iff_exists.mp c3
      obtain ⟨z, hz⟩ := sIv_has hD.1.1 hi
      have h0 := sNN_ok hD.1 hz c2
      refine ⟨_, List.mem_singleton.mpr rfl, fun q hq => ?_, fun b hb => by cases hb⟩
      rcases List.mem_singleton.mp hq with rfl
      refine ⟨[z, z, 0], by simp only [sVal, hz, sEv_C], ?_⟩
      exact ⟨z, z, 0, rfl, A, W, hAW, z.toNat, 0, 0, by omega, by omega, rfl, rfl⟩
    · cases h
  · cases h
def kR0 (as : List kA) (K : kS) : Option kWs := if kSh K.1.2.2.2.1 = true then some [(as, [])] else none
theorem kR0_ok {as : List kA} (ha : ∀ (ρ : List Int) (A W T E : Nat → Int32) (H : List eE), kAW A W H → kTE T E H → kGh (kGP (kUP RO)) ρ as H) : kRok RO (kR0 as) := by
  intro K ws h ρ R hD
  unfold kR0 at h
  split at h
  · rename_i hc
    cases h
    obtain ⟨A, W, T, E, hAW, hTE⟩ := kSh_ok hD.2.1.2.2.2.1 hc
    exact ⟨_, List.mem_singleton.mpr rfl, ha ρ A W T E _ hAW hTE, fun b hb => by cases hb⟩
  · cases h
theorem kAt1 {ρ : List Int} {H : List eE} {k : Nat} {fs : List sL} {zs : List Int} (hk : k < 1000) (h1 : sVal ρ fs = some zs) (h2 : kUP RO k zs H) : kGh (kGP (kUP RO)) ρ [(k, fs)] H := by
  intro q hq
  rcases List.mem_singleton.mp hq with rfl
  refine ⟨zs, h1, ?_⟩
  unfold kGP
  rw [if_neg (by simp only; omega)]
  exact h2
theorem kR0a : kRok RO (kR0 [(5, [sC 0, sC 0])]) := kR0_ok fun ρ A W T E H hAW _ => kAt1 (zs := [0, 0]) (by decide) (by simp only [sVal, sEv_C]) ⟨0, 0, rfl, A, W, hAW, 0, 0, rfl, rfl, Nat.le_refl _, 0, rfl⟩
theorem kR0b : kRok RO (kR0 [(8, [sC 0])]) := kR0_ok fun ρ A W T E H hAW _ => kAt1 (zs := [0]) (by decide) (by simp only [sVal, sEv_C]) ⟨0, rfl, A, W, hAW, Int.le_refl _, fun x hx => by omega⟩
theorem kR0c : kRok RO (kR0 [(9, [sC 0])]) := kR0_ok fun ρ A W T E H _ hTE => kAt1 (zs := [0]) (by decide) (by simp only [sVal, sEv_C]) ⟨0, rfl, T, E, hTE, Int.le_refl _, fun x hx => by omega⟩
theorem kR0d : kRok RO (kR0 [(6, [sC 0, sC 0])]) := kR0_ok fun ρ A W T E H hAW hTE => kAt1 (zs := [0, 0]) (by decide) (by simp only [sVal, sEv_C]) ⟨0, 0, rfl, A, W, T, E, hAW, hTE, 0, 0, rfl, rfl, rfl⟩
theorem kR0e : kRok RO (kR0 [(10, [sC 0, sC 0])]) := kR0_ok fun ρ A W T E H hAW hTE => kAt1 (zs := [0, 0]) (by decide) (by simp only [sVal, sEv_C]) ⟨0, 0, rfl, A, W, T, E, hAW, hTE, 0, 0, rfl, rfl, rfl⟩
/-- one step more of a walk -/
def kNx (Γ : sG) (a : sL) (w : Option sL) (n : sL) : Option sL :=
  if sK Γ.1 a = some 1 then some (sAdd n (sC 1))
  else if sK Γ.1 a = some 2 then (match w with
    | some w => if sWf Γ w 0 5 = true ∧ sI32 Γ.1 w = true then some (sAdd n (sC 1)) else none
    | none => none)
  else if sWi Γ.1 a 3 4 = true then (if sNN Γ (sSub n (sC 1)) = true then some n else none)
  else if (sWi Γ.1 a 5 2147483647 || sWi Γ.1 a (-2147483648) 0) = true then (if sNN Γ (sSub n (sC 2)) = true then some (sSub n (sC 1)) else none) else none
def kR4 (K : kS) : Option kWs := match K with
  | ((_, _, _, _, _, _, Γ), γ) => match kFa γ 4 (fun fs => match fs with
      | [_, k, _] => (kFindEl γ 65 k).isSome
      | _ => false) with
    | some [s, k, n] => (match kFindEl γ 65 k with
      | some a => if sI32 Γ.1 a = true then (match kNx Γ a (kFindEl γ 66 k) n with
        | some n' => some [([(4, [s, sAdd k (sC 1), n'])], [])]
        | none => none) else none
      | none => none)
    | _ => none
theorem kElA {c : Nat} {zi z : Int} {H : List eE} {ty : FieldType} {n : Nat} {f : Nat → Int32} (h : kEl c zi z H) (hf : H[c]? = some (.inl (ty, n, .inl f))) : 0 ≤ zi ∧ f zi.toNat = Int32.ofInt z := by
  obtain ⟨ty', n', arr, h1, h2, h3⟩ := h
  rw [hf] at h1
  cases h1
  exact ⟨h2, h3⟩
theorem kNx_ok {ρ : List Int} {Γ : sG} {a n n' : sL} {w : Option sL} {za zn : Int} {m : Nat} (hM : sMo ρ Γ) (ha : sEv ρ a = some za) (hn : sEv ρ n = some zn) (hm : zn = m) (h : kNx Γ a w n = some n') (zw : Int) (hw : ∀ f, w = some f → sI32 Γ.1 f = true → sEv ρ f = some zw) : ∃ m', kOp za zw m = some m' ∧ sEv ρ n' = some (m' : Int) := by
  unfold kNx at h
  split at h
  · rename_i hk
    cases h
    have := sK_ok hM.1 ha hk
    subst this
    exact ⟨m + 1, rfl, by rw [sEv_add hn (sEv_C 1), hm]; simp⟩
  split at h
  · rename_i hk
    split at h
    · rename_i f
      split at h
      · rename_i hc
        cases h
        have := sK_ok hM.1 ha hk
        subst this
        have hf := hw f rfl hc.2
        obtain ⟨y, e1, e2, e3⟩ := sWf_has hM hc.1
        cases hf.symm.trans e1
        refine ⟨m + 1, ?_, by rw [sEv_add hn (sEv_C 1), hm]; simp⟩
        unfold kOp
        rw [if_neg (by decide), if_pos rfl, if_pos ⟨e2, e3⟩]
      · cases h
    · cases h
  split at h
  · rename_i hk
    have hr := sWi_ok hM.1 ha hk
    split at h
    · rename_i hc
      cases h
      have h1 := sNN_ok hM (sEv_sub hn (sEv_C 1)) hc
      refine ⟨m, ?_, by rw [hn, hm]⟩
      unfold kOp
      rw [if_neg (by omega), if_neg (by omega), if_pos (by omega), if_pos (by omega)]
    · cases h
  split at h
  · rename_i hk
    have hr : 5 ≤ za ∨ za ≤ 0 := by
      rcases Bool.or_eq_true_iff.mp hk with hk | hk
      · exact Or.inl (sWi_ok hM.1 ha hk).1
      · exact Or.inr (sWi_ok hM.1 ha hk).2
    split at h
    · rename_i hc
      cases h
      have h1 := sNN_ok hM (sEv_sub hn (sEv_C 2)) hc
      refine ⟨m - 1, ?_, by rw [sEv_sub hn (sEv_C 1), hm]; congr 1; omega⟩
      unfold kOp
      rw [if_neg (by omega), if_neg (by omega), if_neg (by omega), if_pos (by omega)]
    · cases h
  · cases h
theorem kR4_ok : kRok RO kR4 := by
  intro K ws h ρ R hD
  obtain ⟨⟨pc, ls, st, G, c, s0, Γ⟩, γ⟩ := K
  have hM : sMo ρ Γ := hD.1
  have hg : kGh (kGP (kUP RO)) ρ γ R.2.2.2.1 := hD.2.2
  simp only [kR4] at h
  split at h
  · rename_i s k n hfa
    split at h
    · rename_i a ha
      split at h
      · rename_i h32
        split at h
        · rename_i n' hn'
          cases h
          obtain ⟨-, zs, e1, e2⟩ := kFa_ok hg hfa (by decide)
          obtain ⟨zs', zk, zn, rfl, es, ek, en⟩ := sVal_3 e1
          obtain ⟨s1, k1, n1, he, A, W, hAW, s', m, nn', r1, r2, r3, r4⟩ : ∃ s k n, [zs', zk, zn] = [s, k, n] ∧ kPW s k n R.2.2.2.1 := e2
          cases he
          obtain ⟨za, ea, ka⟩ := kFindEl_ok hg ha ek
          have ra := sWi_ok hM.1 ea h32
          obtain ⟨k0, kA'⟩ := kElA ka hAW.1
          have hkn : zk.toNat = s' + m := by omega
          rw [hkn] at kA'
          have eA : (A (s' + m)).toInt = za := by rw [kA', sTo32 ra.1 ra.2]
          obtain ⟨m', q1, q2⟩ := kNx_ok hM ea en r3 hn' (W (s' + m)).toInt (fun f hf h32f => by
            obtain ⟨zw, ew, kw⟩ := kFindEl_ok hg hf ek
            obtain ⟨-, kW'⟩ := kElA kw hAW.2
            rw [hkn] at kW'
            have rw_ := sWi_ok hM.1 ew h32f
            rw [kW', sTo32 rw_.1 rw_.2]
            exact ew)
          refine ⟨_, List.mem_singleton.mpr rfl, ?_, fun b hb => by cases hb⟩
          refine kAt1 (zs := [zs', zk + 1, (m' : Int)]) (by decide) ?_ ⟨zs', zk + 1, (m' : Int), rfl, A, W, hAW, s', m + 1, m', r1, by omega, rfl, ?_⟩
          · have ek1 := sEv_add ek (sEv_C 1)
            simp only [sVal, es, ek1, q2]
          · simp only [kWk, r4, eA]
            exact q1
        · cases h
      · cases h
    · cases h
  · cases h
/-- a walk is a stretch -/
def kR8 (K : kS) : Option kWs := match kFa K.2 4 (fun _ => true) with
  | some [s, k, _] => some [([(5, [s, k])], [])]
  | _ => none
theorem kR8_ok : kRok RO kR8 := by
  intro K ws h ρ R hD
  unfold kR8 at h
  split at h
  · rename_i s k n hfa
    cases h
    obtain ⟨-, zs, e1, e2⟩ := kFa_ok hD.2.2 hfa (by decide)
    obtain ⟨zs', zk, zn, rfl, es, ek, en⟩ := sVal_3 e1
    obtain ⟨s1, k1, n1, he, A, W, hAW, s', m, nn', r1, r2, r3, r4⟩ : ∃ s k n, [zs', zk, zn] = [s, k, n] ∧ kPW s k n R.2.2.2.1 := e2
    cases he
    exact ⟨_, List.mem_singleton.mpr rfl, kAt1 (zs := [zs', zk]) (by decide) (by simp only [sVal, es, ek]) ⟨zs', zk, rfl, A, W, hAW, s', s' + m, r1, r2, by omega, nn', by rw [Nat.add_sub_cancel_left]; exact r4⟩, fun b hb => by cases hb⟩
  · cases h
end KRUL
end
