/-! Numbers alike; the law that both have read; a new speaker. -/
noncomputable section
def nTN1 (Γ : sG) (γ : List kA) (t : Nat) (q : kA) : Option kA := if q.1 = 1000 + (3 + t) then (match q.2 with
  | [i, v] => if sInR Γ i (nNn t) = true ∧ kHav γ (1000 + (53 + t)) [i, v] = false then some (1000 + (53 + t), [i, v]) else none
  | _ => none) else none
def nTNs (Γ : sG) (γ : List kA) (t : Nat) : List kA := if kHav γ (75 + t) [sC (-1)] = true then γ.filterMap (nTN1 Γ γ t) else []
/-- elements of the class' numbers are the reference's -/
def nTN (K : kS) : Option kWs := some [((List.range 6).flatMap (nTNs K.1.2.2.2.2.2.2 K.2), [])]
def nTNb1 (γ : List kA) (t : Nat) : Option kA := match kFa γ (75 + t) (fun _ => true) with
  | some [e] => if e = sC (-1) then none else (match kFindEl γ (3 + t) e, kFindEl γ (53 + t) e with
    | some a, some b => if a = b then some (75 + t, [sC (-1)]) else none
    | _, _ => none)
  | _ => none
/-- alike again -/
def nTNb (K : kS) : Option kWs := some [((List.range 6).filterMap (nTNb1 K.2), [])]
/-- alike but for one -/
def nNEw (i : Nat) (K : kS) : Option kWs := match kLf K.1.2.1 i with
  | some w => if (kHav K.2 75 [sC (-1)] && !kHav K.2 75 [w]) = true then some [([(75, [w])], [])] else none
  | none => none
def nTNr1 (Γ : sG) (γ : List kA) (q : kA) : Option kA := if q.1 = 1000 + 53 then (match q.2 with
  | [i, v] => if sInR Γ i 16 = true ∧ kHav γ (1000 + 3) [i, v] = false then some (1000 + 3, [i, v]) else none
  | _ => none) else none
def nTNr (K : kS) : Option kWs := if kHav K.2 75 [sC (-1)] = true then some [(K.2.filterMap (nTNr1 K.1.2.2.2.2.2.2 K.2), [])] else none
/-- either there is no law or there is one -/
def nLS (K : kS) : Option kWs := match kFa K.2 62 (fun _ => true) with
  | some [s, h] => if (sWi K.1.2.2.2.2.2.2.1 h 0 1 && sNN K.1.2.2.2.2.2.2 (sSub (sC 256) s)) = true then some [([], [(s, 0, 0), (h, 0, 0)]), ([], [(s, 1, 256), (h, 1, 1)])] else none
  | _ => none
/-- the class has a new law: of the old one nothing is told -/
def nLWf (K : kS) : Option kWs := match kFa K.2 63 (fun _ => true), kFa K.2 62 (fun _ => true) with
  | some _, none => some [([(62, [sC 0, sC 2])], [])]
  | _, _ => none
def nByte (Γ : sG) (a b : sL) : Bool := (decide (b = a) && sWi Γ.1 a (-128) 127) || decide (nDl Γ 301 a (sC 0) = some b)
/-- one letter more is alike -/
def nTQa (K : kS) : Option kWs := match kFa K.2 61 (fun _ => true) with
  | some [n] => (match kFindEl K.2 19 n, kFindEl K.2 64 n with
    | some a, some b => if nByte K.1.2.2.2.2.2.2 a b = true then some [([(61, [sAdd n (sC 1)])], [])] else none
    | _, _ => none)
  | _ => none
def nF2 (γ : List kA) (k : Nat) (ln : sL) : Option sL := match kFa γ k (fun fs => match fs with
    | [a, _] => decide (a = ln)
    | _ => false) with
  | some [a, b] => if a = ln then some b else none
  | _ => none
/-- both have read the same tape -/
def nFIN (K : kS) : Option (List kS) := match kFa K.2 61 (fun _ => true) with
  | some [ln] => (match nF2 K.2 57 ln, nF2 K.2 58 ln with
    | some f, some g => (match K with
      | ((pc, ls, (0, r) :: st, G, c, s, Γ), γ) => if r = g then some [((pc, ls, (0, f) :: st, G, c, s, Γ), (61, [sC 0]) :: γ)] else some [K]
      | _ => some [K])
    | some _, none => if kHav K.2 64 [ln] = true then some [] else some [K]
    | none, some _ => if (nF2 K.2 63 ln).isSome = true then some [] else some [K]
    | none, none => (match nF2 K.2 63 ln with
      | some N => if kHav K.2 64 [ln] = true then some [(K.1, (62, [N, sC 1]) :: (61, [sC 0]) :: K.2)] else some [K]
      | none => some [K]))
  | _ => some [K]
/-- a new speaker: nothing that is kept counts -/
def nSpk (zt zn : Nat) (K : kS) : Option kWs := match nFf K.1.2.2.2.1 24 zt, nFf K.1.2.2.2.1 24 zn with
  | some t, some v => if kHav K.2 84 [sSub t (sC 1)] = true then some [([(82, [t, v]), (84, [t])], [])] else none
  | _, _ => none
def nCF1 (γ : List kA) (q : kA) : Option kA := if q.1 = 82 then (match q.2 with
  | [t, _] => if kHav γ 84 [t] = false then some (84, [t]) else none
  | _ => none) else none
def nCF (K : kS) : Option kWs := some [(K.2.filterMap (nCF1 K.2), [])]
def nTDu (z : Nat) (K : kS) : Option kWs := match nFf K.1.2.2.2.1 52 z with
  | some x => if (kHav K.2 104 [x] && sNN K.1.2.2.2.2.2.2 (sSub (sC (-1)) x)) = true then some [([], [(x, -2, -2)])] else none
  | none => none
def nTDr1 (Γ : sG) (γ : List kA) (G : List sE) (j : Nat) : Option kA := match kToldI G j 4 with
  | some f => if (!kHav γ 104 [f] && ((decide (sK Γ.1 f = some (-2)) || sNN Γ f) && (sIv Γ.1 f).isSome)) = true then some (104, [f]) else none
  | none => none
def nTDr (K : kS) : Option kWs := some [([33, 34].filterMap (nTDr1 K.1.2.2.2.2.2.2 K.2 K.1.2.2.2.1), [])]
/-- what is paid: the means, where it is as much -/
def nCAN (K : kS) : Option (List kS) := match K with
  | ((pc, ls, st, G, c, s, Γ), γ) => (match sGetL ls 5, kLf ls 1 with
    | some (0, p), some o => (match kFindEl γ 56 o with
      | some m => if p ≠ m ∧ kEqf Γ p m = true then some [((pc, (5, (0, m)) :: ls, st, G, c, s, Γ), γ)] else some [K]
      | none => some [K])
    | _, _ => some [K])
/-- a number of a cell that can be no other -/
def nNf (j z : Nat) (K : kS) : Option (List kS) := match K with
  | ((pc, ls, st, G, c, s, Γ), γ) => (match G[j]? with
    | some (.inr (ci, fs)) => if ci = 999 then some [K] else (match fs[z]? with
      | some (0, x) => (match sK Γ.1 x with
        | some k => some [((pc, ls, st, G.set j (.inr (ci, fs.set z (0, sC k))), c, s, Γ), γ)]
        | none => some [K])
      | _ => some [K])
    | _ => some [K])
section NNUM
variable {RO : List (Nat × (Nat → Int32))} {ρ : List Int} {Γ : sG} {γ : List kA} {H : List eE}
theorem nHavNE {t : Nat} (ht : t < 6) (hg : kGh (kGP (kUP RO)) ρ γ H) (h : kHav γ (75 + t) [sC (-1)] = true) : ∃ f g, nI2 H (3 + t) 16 f ∧ nI2 H (53 + t) (nNn t) g ∧ ∀ i : Nat, i < nNn t → f i = g i := by
  obtain ⟨zs, e1, e2⟩ := kHav_ok hg h (by omega)
  obtain ⟨z, rfl, ez⟩ := sVal_1 e1
  rw [sEv_C] at ez
  cases ez
  have hN := nUP_NE ⟨by omega, by omega⟩ ((kUPn (by omega)).mp e2)
  rw [show 75 + t - 75 = t by omega] at hN
  obtain ⟨f, g, h1, h2, h3⟩ := hN
  exact ⟨f, g, h1, h2, fun i hi => h3 i hi (by omega)⟩
theorem kEl_of {j n : Nat} {f : Nat → Int32} {zi z : Int} (hf : nI2 H j n f) (h0 : 0 ≤ zi) (h : f zi.toNat = Int32.ofInt z) : kEl j zi z H := ⟨_, _, _, hf, h0, h⟩
theorem kEl_v {j n : Nat} {f : Nat → Int32} {zi z : Int} (h : kEl j zi z H) (hf : nI2 H j n f) : 0 ≤ zi ∧ f zi.toNat = Int32.ofInt z := kElA h hf
theorem nNn_16 (t : Nat) : nNn t ≤ 16 := by unfold nNn; split <;> omega
theorem nTN_ok : kRok RO nTN := by
  intro K ws h ρ R hD
  cases h
  refine ⟨_, List.mem_singleton.mpr rfl, fun q hq => ?_, fun b hb => by cases hb⟩
  obtain ⟨t, ht, hq⟩ := List.mem_flatMap.mp hq
  have ht6 := List.mem_range.mp ht
  unfold nTNs at hq
  split at hq
  · rename_i hh
    obtain ⟨f, g, q1, q2, q3⟩ := nHavNE ht6 hD.2.2 hh
    obtain ⟨⟨k, fs⟩, ha, hs2⟩ := List.mem_filterMap.mp hq
    unfold nTN1 at hs2
    split at hs2
    · rename_i hk
      simp only at hk
      subst hk
      simp only at hs2
      split at hs2
      · rename_i i v
        split at hs2
        · rename_i hr
          cases hs2
          obtain ⟨zi, zv, h1, h2, h3⟩ := kElm hD.2.2 ha
          obtain ⟨r1, r2, -⟩ := sInR_at hD.1 h1 hr.1
          obtain ⟨-, h4⟩ := kEl_v h3 q1
          exact kEl_to (j := 53 + t) h1 h2 (kEl_of q2 (by omega) (by rw [← h4, q3 zi.toNat (by omega)]))
        · cases hs2
      · cases hs2
    · cases hs2
  · cases hq
theorem nAtNE {t : Nat} (ht : t < 6) {f g : Nat → Int32} (h1 : nI2 H (3 + t) 16 f) (h2 : nI2 H (53 + t) (nNn t) g) (h3 : ∀ i : Nat, i < nNn t → f i = g i) : kGh (kGP (kUP RO)) ρ [(75 + t, [sC (-1)])] H := by
  refine kAt1 (zs := [-1]) (by omega) (by simp only [sVal, sEv_C]) ((kUPn (by omega)).mpr (nUP_NEr ⟨by omega, by omega⟩ ?_))
  rw [show 75 + t - 75 = t by omega]
  exact ⟨f, g, h1, h2, fun i hi _ => h3 i hi⟩
theorem nTNb_ok : kRok RO nTNb := by
  intro K ws h ρ R hD
  cases h
  refine ⟨_, List.mem_singleton.mpr rfl, kGh_fm fun t ht a ha => ?_, fun b hb => by cases hb⟩
  have ht6 := List.mem_range.mp ht
  unfold nTNb1 at ha
  split at ha
  · rename_i e hfa
    split at ha
    · cases ha
    split at ha
    · rename_i x y hx hy
      split at ha
      · rename_i hxy
        subst hxy
        cases ha
        obtain ⟨-, zs, e1, e2⟩ := nFa_ok hD.2.2 hfa (by omega) (by omega)
        obtain ⟨ze, rfl, ee⟩ := sVal_1 e1
        have hN := nUP_NE ⟨by omega, by omega⟩ e2
        rw [show 75 + t - 75 = t by omega] at hN
        obtain ⟨f, g, q1, q2, q3⟩ := hN
        obtain ⟨z1, v1, k1⟩ := kFindEl_ok hD.2.2 hx ee
        obtain ⟨z2, v2, k2⟩ := kFindEl_ok hD.2.2 hy ee
        cases v1.symm.trans v2
        obtain ⟨h0, a1⟩ := kEl_v k1 q1
        obtain ⟨-, a2⟩ := kEl_v k2 q2
        refine nAtNE ht6 q1 q2 fun i hi => ?_
        by_cases hie : (i : Int) = ze
        · have e3 : i = ze.toNat := by omega
          rw [e3, a1, a2]
        · exact q3 i hi hie
      · cases ha
    · cases ha
  · cases ha
theorem nNEw_ok (i : Nat) : kRok RO (nNEw i) := by
  intro K ws h ρ R hD
  unfold nNEw at h
  split at h
  · rename_i w hw
    split at h
    · rename_i hc
      cases h
      simp only [Bool.and_eq_true] at hc
      obtain ⟨z, ez⟩ := kLf_ok hD.2.1 hw
      obtain ⟨f, g, q1, q2, q3⟩ := nHavNE (t := 0) (by decide) hD.2.2 hc.1
      exact ⟨_, List.mem_singleton.mpr rfl, kAt1 (zs := [z]) (by decide) (by simp only [sVal, ez]) ((kUPn (by decide)).mpr (nUP_NEr (k := 75) (by decide) ⟨f, g, q1, q2, fun i hi _ => q3 i hi⟩)), fun b hb => by cases hb⟩
    · cases h
  · cases h
theorem nTNr_ok : kRok RO nTNr := by
  intro K ws h ρ R hD
  unfold nTNr at h
  split at h
  · rename_i hh
    cases h
    refine ⟨_, List.mem_singleton.mpr rfl, fun q hq => ?_, fun b hb => by cases hb⟩
    obtain ⟨f, g, q1, q2, q3⟩ := nHavNE (t := 0) (by decide) hD.2.2 hh
    obtain ⟨⟨k, fs⟩, ha, hs2⟩ := List.mem_filterMap.mp hq
    unfold nTNr1 at hs2
    split at hs2
    · rename_i hk
      simp only at hk
      subst hk
      simp only at hs2
      split at hs2
      · rename_i i v
        split at hs2
        · rename_i hr
          cases hs2
          obtain ⟨zi, zv, h1, h2, h3⟩ := kElm hD.2.2 ha
          obtain ⟨r1, r2, -⟩ := sInR_at hD.1 h1 hr.1
          obtain ⟨-, h4⟩ := kEl_v h3 q2
          exact kEl_to (j := 3) h1 h2 (kEl_of (f := f) q1 (by omega) (by rw [← h4, q3 zi.toNat (by show zi.toNat < 16; omega)]))
        · cases hs2
      · cases hs2
    · cases hs2
  · cases h
theorem nLS_ok : kRok RO nLS := by
  intro K ws h ρ R hD
  unfold nLS at h
  split at h
  · rename_i s x hfa
    split at h
    · rename_i hc
      cases h
      simp only [Bool.and_eq_true] at hc
      obtain ⟨-, zs, e1, e2⟩ := nFa_ok hD.2.2 hfa (by decide) (by decide)
      obtain ⟨z1, z2, rfl, f1, f2⟩ := sVal_2 e1
      obtain ⟨a, b, he, hL⟩ : ∃ a b, [z1, z2] = [a, b] ∧ nLW a b R.2.2.2.1 := e2
      cases he
      have hb := sWi_ok hD.1.1 f2 hc.1
      have hs := sNN_ok hD.1 (sEv_sub (sEv_C 256) f1) hc.2
      rcases hL with ⟨C, hC, A, W, T, E, M, k1, k2, k3, hL⟩ | hL
      · rcases hL with ⟨h1, h2⟩ | ⟨h1, d, -, -, h2⟩
        · refine ⟨_, List.mem_cons_self, fun q hq => (by cases hq), fun b hb => ?_⟩
          rcases List.mem_cons.mp hb with rfl | hb
          · exact ⟨_, f1, by simp only; omega, by simp only; omega⟩
          · rw [List.mem_singleton.mp hb]
            exact ⟨_, f2, by simp only; omega, by simp only; omega⟩
        · refine ⟨_, List.mem_cons_of_mem _ (List.mem_singleton.mpr rfl), fun q hq => (by cases hq), fun b hb => ?_⟩
          rcases List.mem_cons.mp hb with rfl | hb
          · exact ⟨_, f1, by simp only; omega, by simp only; omega⟩
          · rw [List.mem_singleton.mp hb]
            exact ⟨_, f2, by simp only; omega, by simp only; omega⟩
      · omega
    · cases h
  · cases h
theorem nLWf_ok : kRok RO nLWf := by
  intro K ws h ρ R hD
  unfold nLWf at h
  split at h
  · cases h
    exact ⟨_, List.mem_singleton.mpr rfl, kAt1 (zs := [0, 2]) (by decide) (by simp only [sVal, sEv_C]) ((kUPn (by decide)).mpr ⟨0, 2, rfl, Or.inr (Int.le_refl _)⟩), fun b hb => by cases hb⟩
  · cases h
theorem nByte_ok (hM : sMo ρ Γ) {a b : sL} {za zb : Int} (ea : sEv ρ a = some za) (eb : sEv ρ b = some zb) (h : nByte Γ a b = true) : (Int32.ofInt zb).toInt = (Int32.ofInt za).toInt8.toInt := by
  unfold nByte at h
  simp only [Bool.or_eq_true, Bool.and_eq_true, decide_eq_true_eq] at h
  rcases h with ⟨rfl, h⟩ | h
  · cases ea.symm.trans eb
    have hr := sWi_ok hM.1 ea h
    have hb := sNarB hr.1 hr.2
    rw [vp_nar_byte] at hb
    rw [← Int8.toInt_toInt32, hb]
  · have e := nDl_ok hM ea (sEv_C 0) h
    cases e.symm.trans eb
    show (Int32.ofInt (Int32.ofInt za).toInt8.toInt32.toInt).toInt = _
    rw [Int32.ofInt_toInt, Int8.toInt_toInt32]
theorem nTp_0 {B : Nat → Int32} : nTp 0 B H ↔ H[19]? = some (.inl (.int, 120, .inl B)) := by
  unfold nTp
  rw [if_pos rfl]
theorem nTp_1 {B : Nat → Int32} : nTp 1 B H ↔ H[64]? = some (.inl (.byte, 120, .inl B)) := by
  unfold nTp
  rw [if_neg (by decide)]
theorem nTQa_ok : kRok RO nTQa := by
  intro K ws h ρ R hD
  unfold nTQa at h
  split at h
  · rename_i n hfa
    split at h
    · rename_i a b ha hb
      split at h
      · rename_i hc
        cases h
        obtain ⟨-, zs, e1, e2⟩ := nFa_ok hD.2.2 hfa (by decide) (by decide)
        obtain ⟨z1, rfl, f1⟩ := sVal_1 e1
        obtain ⟨a', he, B, T, hB, hT, hq⟩ : ∃ a, [z1] = [a] ∧ nTQ a R.2.2.2.1 := e2
        cases he
        obtain ⟨za, ea, ka⟩ := kFindEl_ok hD.2.2 ha f1
        obtain ⟨zb, eb, kb⟩ := kFindEl_ok hD.2.2 hb f1
        obtain ⟨h0, va⟩ := kElA ka (nTp_0.mp hB)
        obtain ⟨-, vb⟩ := kElA kb (nTp_1.mp hT)
        have e3 := sEv_add f1 (sEv_C (ρ := ρ) 1)
        refine ⟨_, List.mem_singleton.mpr rfl, kAt1 (zs := [z1 + 1]) (by decide) (by simp only [sVal, e3]) ((kUPn (by decide)).mpr ⟨_, rfl, B, T, hB, hT, fun i hi => ?_⟩), fun b hb => by cases hb⟩
        by_cases hie : (i : Int) = z1
        · have e4 : i = z1.toNat := by omega
          rw [e4, va, vb]
          exact nByte_ok hD.1 ea eb hc
        · exact hq i (by omega)
      · cases h
    · cases h
  · cases h
theorem nF2_ok (hg : kGh (kGP (kUP RO)) ρ γ H) {k : Nat} (h1 : 53 ≤ k) (h2 : k < 1000) {ln f : sL} {zl : Int} (el : sEv ρ ln = some zl) (h : nF2 γ k ln = some f) : ∃ zf, sEv ρ f = some zf ∧ nUP k [zl, zf] H := by
  unfold nF2 at h
  split at h
  · rename_i a b hfa
    split at h
    · rename_i hc
      subst hc
      cases h
      obtain ⟨-, zs, e1, e2⟩ := nFa_ok hg hfa h1 h2
      obtain ⟨x1, x2, rfl, f1, f2⟩ := sVal_2 e1
      cases f1.symm.trans el
      exact ⟨x2, f2, e2⟩
    · cases h
  · cases h
theorem nTQ_L {n : Int} (h : nTQ n H) {B T : Nat → Int32} (hB : nTp 0 B H) (hT : nTp 1 T H) : nLt 0 B n = nLt 1 T n := by
  obtain ⟨B', T', hB', hT', hq⟩ := h
  cases nTp_one hB hB'
  cases nTp_one hT hT'
  funext i
  show nLx B n i = nLm T n i
  unfold nLx nLm
  split
  · rename_i hc
    exact (hq i.toNat (by omega)).symm
  · rfl
theorem nTQ_0 {n : Int} (h : nTQ n H) : kGh (kGP (kUP RO)) ρ [(61, [sC 0])] H := by
  obtain ⟨B, T, hB, hT, hq⟩ := h
  exact kAt1 (zs := [0]) (by decide) (by simp only [sVal, sEv_C]) ((kUPn (by decide)).mpr ⟨_, rfl, B, T, hB, hT, fun i hi => by omega⟩)
theorem nFIN_ok {K : kS} {L : List kS} (h : nFIN K = some L) {ρ : List Int} {R : eR} (hD : kD (kGP (kUP RO)) ρ K R) : ∃ K' ∈ L, ∃ ρ', ρ <+: ρ' ∧ kD (kGP (kUP RO)) ρ' K' R := by
  have same : some [K] = some L → ∃ K' ∈ L, ∃ ρ', ρ <+: ρ' ∧ kD (kGP (kUP RO)) ρ' K' R := fun g => by
    cases g
    exact ⟨_, List.mem_singleton.mpr rfl, ρ, List.prefix_refl _, hD⟩
  unfold nFIN at h
  split at h
  · rename_i ln hfa
    obtain ⟨-, zs, e1, e2⟩ := nFa_ok hD.2.2 hfa (by decide) (by decide)
    obtain ⟨zl, rfl, el⟩ := sVal_1 e1
    obtain ⟨a', he, hq⟩ : ∃ a, [zl] = [a] ∧ nTQ a R.2.2.2.1 := e2
    cases he
    split at h
    · rename_i f g hf hg
      split at h
      · rename_i pc ls r st G c s Γ γ
        split at h
        · rename_i hr
          subst hr
          cases h
          obtain ⟨zf, ef, uf⟩ := nF2_ok hD.2.2 (by decide) (by decide) el hf
          obtain ⟨zg, eg, ug⟩ := nF2_ok hD.2.2 (by decide) (by decide) el hg
          obtain ⟨l1, f1, B, n, hz1, hB, hn⟩ := (nUP_F (d := 0) (by decide)).mp uf
          obtain ⟨l2, f2, T, m, hz2, hT, hm⟩ := (nUP_F (d := 1) (by decide)).mp ug
          cases hz1
          cases hz2
          rw [nTQ_L hq hB hT] at hn
          have := nIt_one hn hm
          cases this
          refine ⟨_, List.mem_singleton.mpr rfl, ρ, List.prefix_refl _, hD.1, ⟨hD.2.1.1, hD.2.1.2.1, ?_, hD.2.1.2.2.2⟩, fun q hq' => ?_⟩
          · obtain ⟨zw, r1, hr1, ew, hV⟩ := sVs_int hD.2.1.2.2.1
            cases ew.symm.trans eg
            show sVs ρ ((0, f) :: st) R.2.2.1
            rw [hr1]
            exact ⟨⟨_, ef, rfl⟩, hV⟩
          · rcases List.mem_cons.mp hq' with rfl | hq'
            · exact nTQ_0 hq _ (List.mem_singleton.mpr rfl)
            · exact hD.2.2 q hq'
        · exact same h
      · exact same h
    · rename_i f hf hg
      split at h
      · rename_i hh
        exfalso
        obtain ⟨zf, ef, uf⟩ := nF2_ok hD.2.2 (by decide) (by decide) el hf
        obtain ⟨l1, f1, B, n, hz1, hB, hn⟩ := (nUP_F (d := 0) (by decide)).mp uf
        cases hz1
        obtain ⟨zs, k1, k2⟩ := kHav_ok hD.2.2 hh (by decide)
        obtain ⟨x1, rfl, g1⟩ := sVal_1 k1
        obtain ⟨a2, he, T, A, W, T2, E, M, m, d, hT, -, -, -, hm, -⟩ : ∃ a, [x1] = [a] ∧ nRM a R.2.2.2.1 := (kUPn (by decide)).mp k2
        cases he
        cases g1.symm.trans el
        rw [nTQ_L hq hB hT] at hn
        have := nIt_one hn hm
        cases this
      · exact same h
    · rename_i g hf hg
      split at h
      · rename_i hh
        exfalso
        obtain ⟨N, hN⟩ := Option.isSome_iff_exists.mp hh
        obtain ⟨zg, eg, ug⟩ := nF2_ok hD.2.2 (by decide) (by decide) el hg
        obtain ⟨zN, eN, uN⟩ := nF2_ok hD.2.2 (by decide) (by decide) el hN
        obtain ⟨l2, f2, T, m, hz2, hT, hm⟩ := (nUP_F (d := 1) (by decide)).mp ug
        cases hz2
        obtain ⟨a1, a2, he, B, C, n, d, hB, -, hn, -⟩ : ∃ a b, [zl, zN] = [a, b] ∧ nRL a b R.2.2.2.1 := uN
        cases he
        rw [nTQ_L hq hB hT] at hn
        have := nIt_one hn hm
        cases this
      · exact same h
    · split at h
      · rename_i N hN
        split at h
        · rename_i hh
          cases h
          obtain ⟨zN, eN, uN⟩ := nF2_ok hD.2.2 (by decide) (by decide) el hN
          obtain ⟨a1, a2, he, B, C, n, d, hB, hC, hn, hAg, hsz⟩ : ∃ a b, [zl, zN] = [a, b] ∧ nRL a b R.2.2.2.1 := uN
          cases he
          obtain ⟨zs, k1, k2⟩ := kHav_ok hD.2.2 hh (by decide)
          obtain ⟨x1, rfl, g1⟩ := sVal_1 k1
          obtain ⟨a2, he, T, A, W, T2, E, M, m, d', hT, hAW, hTE, hLM, hm, g2, g3, g4, g5, g6⟩ : ∃ a, [x1] = [a] ∧ nRM a R.2.2.2.1 := (kUPn (by decide)).mp k2
          cases he
          cases g1.symm.trans el
          rw [nTQ_L hq hB hT] at hn
          have := nIt_one hn hm
          cases this
          have hL : nLaw d R.2.2.2.1 := ⟨A, W, T2, E, M, hAW, hTE, hLM, g2, g3, g4, ⟨g5, g6⟩, nIt_okl _ hm, nIt_endl _ hm, nIt_hl _ hm⟩
          refine ⟨_, List.mem_singleton.mpr rfl, ρ, List.prefix_refl _, hD.1, hD.2.1, fun q hq' => ?_⟩
          rcases List.mem_cons.mp hq' with rfl | hq'
          · exact kAt1 (RO := RO) (k := 62) (zs := [zN, 1]) (by decide) (by simp only [sVal, eN, sEv_C]) ((kUPn (by decide)).mpr ⟨_, _, rfl, Or.inl ⟨C, hC, A, W, T2, E, M, hAW, hTE, hLM, Or.inr ⟨rfl, d, hL, hAg, hsz⟩⟩⟩) _ (List.mem_singleton.mpr rfl)
          rcases List.mem_cons.mp hq' with rfl | hq'
          · exact nTQ_0 hq _ (List.mem_singleton.mpr rfl)
          · exact hD.2.2 q hq'
        · exact same h
      · exact same h
  · exact same h
theorem nSpk_ok (zt zn : Nat) : kRok RO (nSpk zt zn) := by
  intro K ws h ρ R hD
  unfold nSpk at h
  split at h
  · rename_i t v ht hv
    split at h
    · rename_i hc
      cases h
      obtain ⟨y, ey⟩ := nFf_ok hD.2.1.2.2.2.1 ht
      obtain ⟨u, eu⟩ := nFf_ok hD.2.1.2.2.2.1 hv
      obtain ⟨zs, k1, k2⟩ := kHav_ok hD.2.2 hc (by decide)
      obtain ⟨x1, rfl, g1⟩ := sVal_1 k1
      cases g1.symm.trans (sEv_sub ey (sEv_C 1))
      obtain ⟨a, he, G, q1, q2⟩ : ∃ a, [y - 1] = [a] ∧ nFR a (-1) R.2.2.2.1 := (kUPn (by decide)).mp k2
      cases he
      refine ⟨_, List.mem_singleton.mpr rfl, kGh_cons (kAt1 (zs := [y, u]) (by decide) (by simp only [sVal, ey, eu]) ((kUPn (by decide)).mpr ⟨_, _, rfl, G, q1, fun key h1 h2 => ⟨?_, fun h3 => ?_⟩⟩)) (kAt1 (zs := [y]) (by decide) (by simp only [sVal, ey]) ((kUPn (by decide)).mpr ⟨_, rfl, G, q1, fun key h1 h2 => ?_⟩)), fun b hb => by cases hb⟩
      · have := q2 key h1 h2; omega
      · have := q2 key h1 h2; omega
      · have := q2 key h1 h2; omega
    · cases h
  · cases h
theorem nGP {k : Nat} {zs : List Int} (h1 : 53 ≤ k) (h2 : k < 1000) (h : kGP (kUP RO) k zs H) : nUP k zs H := by
  unfold kGP at h
  rw [if_neg (by omega)] at h
  exact (kUPn h1).mp h
theorem nCF_ok : kRok RO nCF := by
  intro K ws h ρ R hD
  cases h
  refine ⟨_, List.mem_singleton.mpr rfl, fun q hq => ?_, fun b hb => by cases hb⟩
  obtain ⟨⟨k, fs⟩, ha, hs⟩ := List.mem_filterMap.mp hq
  unfold nCF1 at hs
  split at hs
  · rename_i hk
    simp only at hk
    subst hk
    simp only at hs
    split at hs
    · rename_i t v
      split at hs
      · cases hs
        obtain ⟨zs, k1, k2⟩ := hD.2.2 _ ha
        obtain ⟨x1, x2, rfl, g1, g2⟩ := sVal_2 k1
        obtain ⟨a, b, he, G, q1, q2⟩ : ∃ a b, [x1, x2] = [a, b] ∧ nCA a b (-1) R.2.2.2.1 := nGP (k := 82) (by decide) (by decide) k2
        cases he
        exact kAt1 (k := 84) (zs := [x1]) (by decide) (by simp only [sVal, g1]) ((kUPn (by decide)).mpr ⟨_, rfl, G, q1, fun key h1 h2 => (q2 key h1 h2).1⟩) _ (List.mem_singleton.mpr rfl)
      · cases hs
    · cases hs
  · cases hs
theorem nTDu_ok (z : Nat) : kRok RO (nTDu z) := by
  intro K ws h ρ R hD
  unfold nTDu at h
  split at h
  · rename_i x hx
    split at h
    · rename_i hc
      cases h
      simp only [Bool.and_eq_true] at hc
      obtain ⟨zs, k1, k2⟩ := kHav_ok hD.2.2 hc.1 (by decide)
      obtain ⟨x1, rfl, g1⟩ := sVal_1 k1
      obtain ⟨a, he, hq⟩ : ∃ a, [x1] = [a] ∧ (a = -2 ∨ 0 ≤ a) := (kUPn (by decide)).mp k2
      cases he
      have := sNN_ok hD.1 (sEv_sub (sEv_C (-1)) g1) hc.2
      refine ⟨_, List.mem_singleton.mpr rfl, fun q hq => (by cases hq), fun b hb => ?_⟩
      rw [List.mem_singleton.mp hb]
      exact ⟨_, g1, by simp only; omega, by simp only; omega⟩
    · cases h
  · cases h
theorem nTDr_ok : kRok RO nTDr := by
  intro K ws h ρ R hD
  cases h
  refine ⟨_, List.mem_singleton.mpr rfl, kGh_fm fun j hj a ha => ?_, fun b hb => by cases hb⟩
  unfold nTDr1 at ha
  split at ha
  · rename_i f hf
    split at ha
    · rename_i hc
      cases ha
      simp only [Bool.and_eq_true, Bool.or_eq_true, decide_eq_true_eq] at hc
      obtain ⟨i, hi⟩ := Option.isSome_iff_exists.mp hc.2.2
      obtain ⟨z, ez⟩ := sIv_has hD.1.1 hi
      refine kAt1 (zs := [z]) (by decide) (by simp only [sVal, ez]) ((kUPn (by decide)).mpr ⟨_, rfl, ?_⟩)
      rcases hc.2.1 with h1 | h1
      · exact Or.inl (sK_ok hD.1.1 ez h1)
      · exact Or.inr (sNN_ok hD.1 ez h1)
    · cases ha
  · cases ha
theorem nCAN_ok {K : kS} {L : List kS} (h : nCAN K = some L) {ρ : List Int} {R : eR} (hD : kD (kGP (kUP RO)) ρ K R) : ∃ K' ∈ L, ∃ ρ', ρ <+: ρ' ∧ kD (kGP (kUP RO)) ρ' K' R := by
  obtain ⟨⟨pc, ls, st, G, c, s, Γ⟩, γ⟩ := K
  have same : some [(((pc, ls, st, G, c, s, Γ), γ) : kS)] = some L → ∃ K' ∈ L, ∃ ρ', ρ <+: ρ' ∧ kD (kGP (kUP RO)) ρ' K' R := fun g => by
    cases g
    exact ⟨_, List.mem_singleton.mpr rfl, ρ, List.prefix_refl _, hD⟩
  simp only [nCAN] at h
  split at h
  · rename_i p o hp ho
    split at h
    · rename_i m hm
      split at h
      · rename_i hc
        cases h
        obtain ⟨zo, eo⟩ := kLf_ok hD.2.1 ho
        obtain ⟨zm, em, -⟩ := kFindEl_ok hD.2.2 hm eo
        refine ⟨_, List.mem_singleton.mpr rfl, ρ, List.prefix_refl _, hD.1, ⟨hD.2.1.1, fun j v hv => ?_, hD.2.1.2.2⟩, hD.2.2⟩
        by_cases hij : 5 = j
        · subst hij
          have hv : sGetL ((5, ((0, m) : sV)) :: ls) 5 = some v := hv
          rw [sGetL_hd] at hv
          cases hv
          obtain ⟨w, h1, h2⟩ := hD.2.1.2.1 5 _ hp
          refine ⟨w, h1, ?_⟩
          obtain ⟨z, e1, rfl⟩ := sVr_int h2
          have := kEqf_ok hD.1 e1 em hc.2
          subst this
          exact ⟨_, em, rfl⟩
        · have hv : sGetL ((5, ((0, m) : sV)) :: ls) j = some v := hv
          rw [sGetL_tl hij] at hv
          exact hD.2.1.2.1 j v hv
      · exact same h
    · exact same h
  · exact same h
theorem nNf_ok {GP : Nat → List Int → List eE → Prop} {j z : Nat} {K : kS} {L : List kS} (h : nNf j z K = some L) {ρ : List Int} {R : eR} (hD : kD GP ρ K R) : ∃ K' ∈ L, ∃ ρ', ρ <+: ρ' ∧ kD GP ρ' K' R := by
  obtain ⟨⟨pc, ls, st, G, c, s, Γ⟩, γ⟩ := K
  have same : some [(((pc, ls, st, G, c, s, Γ), γ) : kS)] = some L → ∃ K' ∈ L, ∃ ρ', ρ <+: ρ' ∧ kD GP ρ' K' R := fun g => by
    cases g
    exact ⟨_, List.mem_singleton.mpr rfl, ρ, List.prefix_refl _, hD⟩
  simp only [nNf] at h
  split at h
  · rename_i ci fs hg
    split at h
    · exact same h
    rename_i hci
    split at h
    · rename_i x hx
      split at h
      · rename_i k hk
        cases h
        refine ⟨_, List.mem_singleton.mpr rfl, ρ, List.prefix_refl _, hD.1, ⟨hD.2.1.1, hD.2.1.2.1, hD.2.1.2.2.1, ?_, hD.2.1.2.2.2.2⟩, hD.2.2⟩
        have hH : sHp ρ G R.2.2.2.1 := hD.2.1.2.2.2.1
        obtain ⟨y, hy, hxy⟩ := sHp_get hH hg (by simpa [sIsA] using hci)
        rcases y with y | ⟨ci', gs⟩
        · exact hxy.elim
        · obtain ⟨rfl, hV⟩ := hxy
          obtain ⟨w, h1, h2⟩ := sVs_get hV hx
          obtain ⟨zz, e1, rfl⟩ := sVr_int h2
          have hkk := sK_ok hD.1.1 e1 hk
          subst hkk
          have hs := sVs_set (v := ((0, sC zz) : sV)) (w := Value.int (Int32.ofInt zz)) ⟨zz, sEv_C _, rfl⟩ z hV
          have hse : gs.set z (Value.int (Int32.ofInt zz)) = gs := by
            apply List.ext_getElem?
            intro i
            by_cases hi : z = i
            · subst hi
              rw [List.getElem?_set_self (List.getElem?_eq_some_iff.mp h1).1, h1]
            · rw [List.getElem?_set_ne hi]
          rw [hse] at hs
          have h3 := sHp_set (x := (.inr (ci', fs.set z (0, sC zz)) : sE)) (y := .inr (ci', gs)) ⟨rfl, hs⟩ j hH
          rw [sSet_self hy] at h3
          exact h3
      · exact same h
    · exact same h
  · exact same h
end NNUM
end
