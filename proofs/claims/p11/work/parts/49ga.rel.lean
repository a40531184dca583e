/-! Consequences for what class and reference have alike: shelves, bodies, traces. -/
noncomputable section
theorem sVal_cons {ρ : List Int} {f : sL} {fs : List sL} {zs : List Int} (h : sVal ρ (f :: fs) = some zs) : ∃ z r, zs = z :: r ∧ sEv ρ f = some z ∧ sVal ρ fs = some r := by
  simp only [sVal] at h
  split at h
  · rename_i z r e1 e2
    cases h
    exact ⟨z, r, rfl, e1, e2⟩
  · cases h
theorem sVal_7 {ρ : List Int} {a b c d e f g : sL} {zs : List Int} (h : sVal ρ [a, b, c, d, e, f, g] = some zs) : ∃ p q r s t u v, zs = [p, q, r, s, t, u, v] ∧ sEv ρ a = some p ∧ sEv ρ b = some q ∧ sEv ρ c = some r ∧ sEv ρ d = some s ∧ sEv ρ e = some t ∧ sEv ρ f = some u ∧ sEv ρ g = some v := by
  obtain ⟨p, _, rfl, h1, h⟩ := sVal_cons h
  obtain ⟨q, _, rfl, h2, h⟩ := sVal_cons h
  obtain ⟨r, _, rfl, h3, h⟩ := sVal_cons h
  obtain ⟨s, _, rfl, h4, h⟩ := sVal_cons h
  obtain ⟨t, _, rfl, h5, h⟩ := sVal_cons h
  obtain ⟨u, _, rfl, h6, h⟩ := sVal_cons h
  obtain ⟨v, _, rfl, h7, h⟩ := sVal_cons h
  cases h
  exact ⟨p, q, r, s, t, u, v, rfl, h1, h2, h3, h4, h5, h6, h7⟩
def kToldI (G : List sE) (j i : Nat) : Option sL := match G[j]? with
  | some (.inl (ty, n, b, ov)) => if ty = .int ∧ i < n then (match sLk ov i with
    | some f => some f
    | none => if b.1 = b.2 then some (sC b.1) else none) else none
  | _ => none
theorem kToldI_ok {ρ : List Int} {G : List sE} {H : List eE} (hH : sHp ρ G H) {j i : Nat} {f : sL} (h : kToldI G j i = some f) : ∃ (n : Nat) (a : Nat → Int32) (z : Int), H[j]? = some (.inl (.int, n, .inl a)) ∧ i < n ∧ sEv ρ f = some z ∧ a i = Int32.ofInt z := by
  unfold kToldI at h
  split at h
  · rename_i ty n b ov hg
    split at h
    · rename_i hc
      obtain ⟨rfl, hi⟩ := hc
      obtain ⟨y, hy, hxy⟩ := sHp_get hH hg
      rcases y with ⟨ty', n', arr⟩ | y
      · obtain ⟨rfl, rfl, harr⟩ := hxy
        rcases arr with a | a | a
        · have hk := harr.2 i hi
          split at h
          · rename_i f' hf
            cases h
            rw [hf] at hk
            obtain ⟨z, e1, e2⟩ := hk
            exact ⟨_, a, z, hy, hi, e1, e2⟩
          · rename_i hf
            rw [hf] at hk
            split at h
            · rename_i hb
              cases h
              refine ⟨_, a, b.1, hy, hi, sEv_C _, ?_⟩
              have e : (a i).toInt = b.1 := by
                have h1 : b.1 ≤ (a i).toInt := hk.1
                have h2 : (a i).toInt ≤ b.2 := hk.2
                omega
              rw [← e, Int32.ofInt_toInt]
            · cases h
        · cases harr.1
        · cases harr.1
      · exact hxy.elim
    · cases h
  · cases h
/-- whether an atom is there -/
def kHav (γ : List kA) (k : Nat) (fs : List sL) : Bool := sAny (fun (q : kA) => Nat.beq q.1 k && sFeq q.2 fs) γ
def kEqf (Γ : sG) (a b : sL) : Bool := sNN Γ (sSub a b) && sNN Γ (sSub b a)
theorem kEqf_ok {ρ : List Int} {Γ : sG} {a b : sL} {x y : Int} (hM : sMo ρ Γ) (ha : sEv ρ a = some x) (hb : sEv ρ b = some y) (h : kEqf Γ a b = true) : x = y := by
  unfold kEqf at h
  simp only [Bool.and_eq_true] at h
  have h1 := sNN_ok hM (sEv_sub ha hb) h.1
  have h2 := sNN_ok hM (sEv_sub hb ha) h.2
  omega
section KREL
variable {RO : List (Nat × (Nat → Int32))}
theorem kHav_ok {ρ : List Int} {γ : List kA} {H : List eE} {k : Nat} {fs : List sL} (hg : kGh (kGP (kUP RO)) ρ γ H) (h : kHav γ k fs = true) (hk : k < 1000) : ∃ zs, sVal ρ fs = some zs ∧ kUP RO k zs H := by
  obtain ⟨a, ha, h1⟩ := sAny_ex h
  have h0 := Bool.and_eq_true_iff.mp h1
  have h1 : a.1 = k ∧ a.2 = fs := ⟨Nat.eq_of_beq_eq_true h0.1, sFeq_ok h0.2⟩
  obtain ⟨zs, e1, e2⟩ := hg a ha
  rw [h1.1] at e2
  rw [h1.2] at e1
  unfold kGP at e2
  rw [if_neg (by omega)] at e2
  exact ⟨zs, e1, e2⟩
/-- an atom of kind 12 -/
theorem kSh12 {ρ : List Int} {γ : List kA} {H : List eE} {h b so le m si w : sL} (hg : kGh (kGP (kUP RO)) ρ γ H) (hq : ((12, [h, b, so, le, m, si, w]) : kA) ∈ γ) : ∃ zh zb zso zle zm zsi zw, sEv ρ h = some zh ∧ sEv ρ b = some zb ∧ sEv ρ so = some zso ∧ sEv ρ le = some zle ∧ sEv ρ m = some zm ∧ sEv ρ si = some zsi ∧ sEv ρ w = some zw ∧ kSHR zh zb zso zle zm zsi zw := by
  obtain ⟨zs, e1, e2⟩ := hg _ hq
  obtain ⟨p, q, r, s, t, u, v, rfl, h1, h2, h3, h4, h5, h6, h7⟩ := sVal_7 e1
  obtain ⟨a1, a2, a3, a4, a5, a6, a7, he, hr⟩ : ∃ a1 a2 a3 a4 a5 a6 a7, [p, q, r, s, t, u, v] = [a1, a2, a3, a4, a5, a6, a7] ∧ kSHR a1 a2 a3 a4 a5 a6 a7 := e2
  cases he
  exact ⟨_, _, _, _, _, _, _, h1, h2, h3, h4, h5, h6, h7, hr⟩
/-- what follows for a shelf, once it is known what it holds -/
def kSUb (Γ : sG) (q : kA) : List (sL × Int × Int) := if q.1 = 12 then (match q.2 with
  | [h, b, so, le, m, si, w] => if sK Γ.1 h = some 0 then [(sAdd m (sC 1), 0, 0)]
    else if sK Γ.1 h = some 1 then (match sIv Γ.1 w with
      | some i => [(sSub m b, 0, 0), (b, 0, i.2), (sSub w (sAdd b (sC 1)), 0, i.2)]
      | none => [])
    else if sK Γ.1 h = some 2 then [(sAdd m (sAdd so (sC 2)), 0, 0), (sSub si le, 0, 0)] else []
  | _ => []) else []
def kSU (K : kS) : Option kWs := some [([], K.2.flatMap (kSUb K.1.2.2.2.2.2.2))]
theorem kSU_ok : kRok RO kSU := by
  intro K ws h ρ R hD
  cases h
  refine ⟨_, List.mem_singleton.mpr rfl, fun q hq => (by cases hq), fun b0 hb0 => ?_⟩
  have hM : sMo ρ K.1.2.2.2.2.2.2 := hD.1
  obtain ⟨q, hq, hb⟩ := List.mem_flatMap.mp hb0
  obtain ⟨k, fs⟩ := q
  unfold kSUb at hb
  split at hb
  · rename_i hk
    simp only at hk
    subst hk
    simp only at hb
    split at hb
    · rename_i h b so le m si w
      obtain ⟨zh, zb, zso, zle, zm, zsi, zw, eh, eb, eso, ele, em, esi, ew, hr⟩ := kSh12 hD.2.2 hq
      split at hb
      · rename_i hz
        have := sK_ok hM.1 eh hz
        rcases List.mem_singleton.mp hb with rfl
        refine ⟨_, sEv_add em (sEv_C 1), ?_⟩
        rcases hr with hr | hr | hr <;> simp only <;> omega
      split at hb
      · rename_i hz
        have := sK_ok hM.1 eh hz
        split at hb
        · rename_i i hi
          have hw := sIv_ok hM.1 ew hi
          simp only [List.mem_cons, List.not_mem_nil, or_false] at hb
          rcases hb with rfl | rfl | rfl
          · refine ⟨_, sEv_sub em eb, ?_⟩
            rcases hr with hr | hr | hr <;> simp only <;> omega
          · refine ⟨_, eb, ?_⟩
            rcases hr with hr | hr | hr <;> simp only <;> omega
          · refine ⟨_, sEv_sub ew (sEv_add eb (sEv_C 1)), ?_⟩
            rcases hr with hr | hr | hr <;> simp only <;> omega
        · cases hb
      split at hb
      · rename_i hz
        have := sK_ok hM.1 eh hz
        simp only [List.mem_cons, List.not_mem_nil, or_false] at hb
        rcases hb with rfl | rfl
        · refine ⟨_, sEv_add em (sEv_add eso (sEv_C 2)), ?_⟩
          rcases hr with hr | hr | hr <;> simp only <;> omega
        · refine ⟨_, sEv_sub esi ele, ?_⟩
          rcases hr with hr | hr | hr <;> simp only <;> omega
      · cases hb
    · cases hb
  · cases hb
/-- a shelf's numbers, both sides -/
def kShz (G : List sE) (s : Nat) : Option (List sL) := match kFf G (40 + 2 * s) 1, kFf G (40 + 2 * s) 2, kFf G (40 + 2 * s) 3, kFf G (40 + 2 * s) 4, kToldI G 82 s, kToldI G 83 s, kFf G 36 2 with
  | some h, some b, some so, some le, some m, some si, some w => some [h, b, so, le, m, si, w]
  | _, _, _, _, _, _, _ => none
def kSMo (Γ : sG) (h b so le m si w : sL) (q : kA) : Bool := decide (q.1 = 12) && (match q.2 with
  | [h', b', so', le', m', si', w'] => decide (h' = h ∧ b' = b ∧ so' = so ∧ le' = le ∧ m' = m ∧ si' = si) && sNN Γ (sSub w w')
  | _ => false)
def kSMc (Γ : sG) (γ : List kA) (fs : List sL) : Bool := match fs with
  | [h, b, so, le, m, si, w] => ([h, b, so, le, m, si, w].all fun x => (sIv Γ.1 x).isSome) && (γ.any (kSMo Γ h b so le m si w)
    || ((decide (sK Γ.1 h = some 0) && decide (sK Γ.1 m = some (-1)))
    || ((decide (sK Γ.1 h = some 1) && (kEqf Γ m b && (sNN Γ b && sNN Γ (sSub (sSub w b) (sC 1)))))
    || (decide (sK Γ.1 h = some 2) && (kEqf Γ m (sSub (sC (-2)) so) && kEqf Γ si le)))))
  | _ => false
theorem kSMc_ok {ρ : List Int} {Γ : sG} {γ : List kA} {H : List eE} {fs : List sL} (hM : sMo ρ Γ) (hg : kGh (kGP (kUP RO)) ρ γ H) (hc : kSMc Γ γ fs = true) : kGh (kGP (kUP RO)) ρ [(12, fs)] H := by
  unfold kSMc at hc
  split at hc
  · rename_i h b so le m si w
    simp only [Bool.and_eq_true] at hc
    obtain ⟨hall, hc⟩ := hc
    have ev : ∀ x ∈ [h, b, so, le, m, si, w], ∃ z, sEv ρ x = some z := fun x hx => by
      obtain ⟨i, hi⟩ := Option.isSome_iff_exists.mp (List.all_eq_true.mp hall x hx)
      exact sIv_has hM.1 hi
    obtain ⟨zh, eh⟩ := ev h (by simp)
    obtain ⟨zb, eb⟩ := ev b (by simp)
    obtain ⟨zso, eso⟩ := ev so (by simp)
    obtain ⟨zle, ele⟩ := ev le (by simp)
    obtain ⟨zm, em⟩ := ev m (by simp)
    obtain ⟨zsi, esi⟩ := ev si (by simp)
    obtain ⟨zw, ew⟩ := ev w (by simp)
    refine kAt1 (zs := [zh, zb, zso, zle, zm, zsi, zw]) (by decide) (by simp only [sVal, eh, eb, eso, ele, em, esi, ew]) ⟨zh, zb, zso, zle, zm, zsi, zw, rfl, ?_⟩
    rcases Bool.or_eq_true_iff.mp hc with hc | hc
    · obtain ⟨⟨k, gs⟩, hq, ho⟩ := List.any_eq_true.mp hc
      unfold kSMo at ho
      simp only [Bool.and_eq_true, decide_eq_true_eq] at ho
      obtain ⟨rfl, ho⟩ := ho
      split at ho
      · rename_i h' b' so' le' m' si' w'
        simp only [Bool.and_eq_true, decide_eq_true_eq] at ho
        obtain ⟨⟨rfl, rfl, rfl, rfl, rfl, rfl⟩, hn⟩ := ho
        obtain ⟨yh, yb, yso, yle, ym, ysi, yw, fh, fb, fso, fle, fm, fsi, fw, hr⟩ := kSh12 hg hq
        cases fh.symm.trans eh
        cases fb.symm.trans eb
        cases fso.symm.trans eso
        cases fle.symm.trans ele
        cases fm.symm.trans em
        cases fsi.symm.trans esi
        have := sNN_ok hM (sEv_sub ew fw) hn
        unfold kSHR at hr ⊢
        omega
      · cases ho
    rcases Bool.or_eq_true_iff.mp hc with hc | hc
    · simp only [Bool.and_eq_true, decide_eq_true_eq] at hc
      exact Or.inl ⟨sK_ok hM.1 eh hc.1, sK_ok hM.1 em hc.2⟩
    rcases Bool.or_eq_true_iff.mp hc with hc | hc
    · simp only [Bool.and_eq_true, decide_eq_true_eq] at hc
      obtain ⟨c1, c2, c3, c4⟩ := hc
      have h1 := sK_ok hM.1 eh c1
      have h2 := kEqf_ok hM em eb c2
      have h3 := sNN_ok hM eb c3
      have h4 := sNN_ok hM (sEv_sub (sEv_sub ew eb) (sEv_C 1)) c4
      exact Or.inr (Or.inl ⟨h1, h2, h3, by omega⟩)
    · simp only [Bool.and_eq_true, decide_eq_true_eq] at hc
      obtain ⟨c1, c2, c3⟩ := hc
      have h1 := sK_ok hM.1 eh c1
      have h2 := kEqf_ok hM em (sEv_sub (sEv_C (-2)) eso) c2
      have h3 := kEqf_ok hM esi ele c3
      exact Or.inr (Or.inr ⟨h1, h2, h3⟩)
  · cases hc
def kSMs (G : List sE) (Γ : sG) (γ : List kA) (s : Nat) : Option kA := match kShz G s with
  | some f => if kHav γ 12 f = true then none else if kSMc Γ γ f = true then some (12, f) else none
  | none => none
def kSM (K : kS) : Option kWs := some [((List.range 6).filterMap (kSMs K.1.2.2.2.1 K.1.2.2.2.2.2.2 K.2), [])]
theorem kSM_ok : kRok RO kSM := by
  intro K ws h ρ R hD
  cases h
  refine ⟨_, List.mem_singleton.mpr rfl, fun q hq => ?_, fun b hb => by cases hb⟩
  obtain ⟨s, -, hs⟩ := List.mem_filterMap.mp hq
  unfold kSMs at hs
  split at hs
  · rename_i f hf
    split at hs
    · cases hs
    split at hs
    · rename_i hc
      cases hs
      exact kSMc_ok hD.1 hD.2.2 hc _ (List.mem_singleton.mpr rfl)
    · cases hs
  · cases hs
/-- both sides have written the same at a place -/
def kK1 (K : kS) : Option kWs := match kFa K.2 13 (fun _ => true) with
  | some [e] => if e = sC (-1) then none else (match kFindEl K.2 37 e, kFindEl K.2 80 e with
    | some a, some b => if a = b ∧ sInR K.1.2.2.2.2.2.2 e 50 = true then some [([(13, [sC (-1)])], [])] else none
    | _, _ => none)
  | _ => none
theorem kK1_ok : kRok RO kK1 := by
  intro K ws h ρ R hD
  unfold kK1 at h
  split at h
  · rename_i e hfa
    split at h
    · cases h
    split at h
    · rename_i a b ha hb
      split at h
      · rename_i hc
        obtain ⟨rfl, hr⟩ := hc
        cases h
        obtain ⟨-, zs, e1, e2⟩ := kFa_ok hD.2.2 hfa (by decide)
        obtain ⟨ze, rfl, ee⟩ := sVal_1 e1
        obtain ⟨e', he, f, g, q1, q2, q3⟩ : ∃ e, [ze] = [e] ∧ kEQ e R.2.2.2.1 := e2
        cases he
        obtain ⟨z1, v1, k1⟩ := kFindEl_ok hD.2.2 ha ee
        obtain ⟨z2, v2, k2⟩ := kFindEl_ok hD.2.2 hb ee
        cases v1.symm.trans v2
        obtain ⟨h0, a1⟩ := kElA k1 q1
        obtain ⟨-, a2⟩ := kElA k2 q2
        refine ⟨_, List.mem_singleton.mpr rfl, kAt1 (zs := [-1]) (by decide) (by simp only [sVal, sEv_C]) ⟨-1, rfl, f, g, q1, q2, fun i hi _ => ?_⟩, fun b hb => by cases hb⟩
        by_cases hie : (i : Int) = ze
        · have : i = ze.toNat := by omega
          rw [this, a1, a2]
        · exact q3 i hi hie
      · cases h
    · cases h
  · cases h
/-- what was read of a body's kind is so on the other side -/
def kK2a (Γ : sG) (q : kA) : Option kA := if q.1 = 1037 then (match q.2 with
  | [i, v] => if sInR Γ i 50 = true then some (1080, [i, v]) else none
  | _ => none) else none
def kK2 (K : kS) : Option kWs := if kHav K.2 13 [sC (-1)] = true then some [(K.2.filterMap (kK2a K.1.2.2.2.2.2.2), [])] else none
theorem kElm {ρ : List Int} {γ : List kA} {H : List eE} {j : Nat} {i v : sL} (hg : kGh (kGP (kUP RO)) ρ γ H) (hq : ((1000 + j, [i, v]) : kA) ∈ γ) : ∃ zi zv, sEv ρ i = some zi ∧ sEv ρ v = some zv ∧ kEl j zi zv H := by
  obtain ⟨zs, e1, e2⟩ := hg _ hq
  obtain ⟨zi, zv, rfl, h1, h2⟩ := sVal_2 e1
  exact ⟨zi, zv, h1, h2, kGP_el.mp e2⟩
theorem kEl_to {ρ : List Int} {H : List eE} {j : Nat} {i v : sL} {zi zv : Int} (h1 : sEv ρ i = some zi) (h2 : sEv ρ v = some zv) (h : kEl j zi zv H) : ∃ zs, sVal ρ [i, v] = some zs ∧ kGP (kUP RO) (1000 + j) zs H := ⟨[zi, zv], by simp only [sVal, h1, h2], kGP_el.mpr h⟩
theorem kK2_ok : kRok RO kK2 := by
  intro K ws h ρ R hD
  unfold kK2 at h
  split at h
  · rename_i hh
    cases h
    refine ⟨_, List.mem_singleton.mpr rfl, fun q hq => ?_, fun b hb => by cases hb⟩
    obtain ⟨⟨k, fs⟩, ha, hs⟩ := List.mem_filterMap.mp hq
    obtain ⟨zs, e1, e2⟩ := kHav_ok hD.2.2 hh (by decide)
    obtain ⟨ze, rfl, ee⟩ := sVal_1 e1
    obtain ⟨e', he, f, g, q1, q2, q3⟩ : ∃ e, [ze] = [e] ∧ kEQ e R.2.2.2.1 := e2
    cases he
    rw [sEv_C] at ee
    cases ee
    unfold kK2a at hs
    split at hs
    · rename_i hk
      simp only at hk
      subst hk
      simp only at hs
      split at hs
      · rename_i i v
        split at hs
        · rename_i hr
          cases hs
          obtain ⟨zi, zv, h1, h2, h3⟩ := kElm (j := 37) hD.2.2 ha
          obtain ⟨r1, r2, -⟩ := sInR_at hD.1 h1 hr
          obtain ⟨-, h4⟩ := kElA h3 q1
          exact kEl_to (j := 80) h1 h2 ⟨_, _, _, q2, r1, by show g _ = _; rw [← q3 zi.toNat (by omega) (by omega)]; exact h4⟩
        · cases hs
      · cases hs
    · cases hs
  · cases h
/-- the kind of the body on a shelf -/
def kK3a (Γ : sG) (γ : List kA) (q : kA) : Option kA := if q.1 = 12 then (match q.2 with
  | [h, b, _, _, m, _, _] => if sK Γ.1 h = some 1 ∧ sInR Γ b 50 = true then (kFindEl γ 37 b).map fun v => (1080, [m, v]) else none
  | _ => none) else none
def kK3 (K : kS) : Option kWs := if kHav K.2 13 [sC (-1)] = true then some [(K.2.filterMap (kK3a K.1.2.2.2.2.2.2 K.2), [])] else none
theorem kK3_ok : kRok RO kK3 := by
  intro K ws h ρ R hD
  unfold kK3 at h
  split at h
  · rename_i hh
    cases h
    refine ⟨_, List.mem_singleton.mpr rfl, fun q hq => ?_, fun b hb => by cases hb⟩
    obtain ⟨⟨k, fs⟩, ha, hs⟩ := List.mem_filterMap.mp hq
    obtain ⟨zs, e1, e2⟩ := kHav_ok hD.2.2 hh (by decide)
    obtain ⟨ze, rfl, ee⟩ := sVal_1 e1
    obtain ⟨e', he, f, g, q1, q2, q3⟩ : ∃ e, [ze] = [e] ∧ kEQ e R.2.2.2.1 := e2
    cases he
    rw [sEv_C] at ee
    cases ee
    unfold kK3a at hs
    split at hs
    · rename_i hk
      simp only at hk
      subst hk
      simp only at hs
      split at hs
      · rename_i h b so le m si w
        split at hs
        · rename_i hc
          obtain ⟨v, hv, rfl⟩ := Option.map_eq_some_iff.mp hs
          obtain ⟨zh, zb, zso, zle, zm, zsi, zw, eh, eb, eso, ele, em, esi, ew, hr⟩ := kSh12 hD.2.2 ha
          have hz := sK_ok hD.1.1 eh hc.1
          have hmb : zm = zb := by rcases hr with hr | hr | hr <;> omega
          obtain ⟨zv, ev, h3⟩ := kFindEl_ok hD.2.2 hv eb
          obtain ⟨r1, r2, -⟩ := sInR_at hD.1 eb hc.2
          obtain ⟨-, h4⟩ := kElA h3 q1
          subst hmb
          exact kEl_to (j := 80) em ev ⟨_, _, _, q2, r1, by show g _ = _; rw [← q3 zm.toNat (by omega) (by omega)]; exact h4⟩
        · cases hs
      · cases hs
    · cases hs
  · cases h
/-- traces: all places are told, both sides alike -/
def kT2a (Γ : sG) (q : kA) : Option kA := if q.1 = 1038 then (match q.2 with
  | [i, v] => if sInR Γ i 24 = true then some (1081, [i, v]) else none
  | _ => none) else none
def kT2c (G : List sE) (i : Nat) : Bool := match kToldI G 38 i, kToldI G 81 i with
  | some a, some b => decide (a = b)
  | _, _ => false
def kT2 (K : kS) : Option kWs := if (List.range 24).all (kT2c K.1.2.2.2.1) = true then some [(K.2.filterMap (kT2a K.1.2.2.2.2.2.2), [])] else none
theorem kT2_ok : kRok RO kT2 := by
  intro K ws h ρ R hD
  unfold kT2 at h
  split at h
  · rename_i hh
    cases h
    refine ⟨_, List.mem_singleton.mpr rfl, fun q hq => ?_, fun b hb => by cases hb⟩
    obtain ⟨⟨k, fs⟩, ha, hs⟩ := List.mem_filterMap.mp hq
    unfold kT2a at hs
    split at hs
    · rename_i hk
      simp only at hk
      subst hk
      simp only at hs
      split at hs
      · rename_i i v
        split at hs
        · rename_i hr
          cases hs
          obtain ⟨zi, zv, h1, h2, h3⟩ := kElm (j := 38) hD.2.2 ha
          obtain ⟨r1, r2, -⟩ := sInR_at hD.1 h1 hr
          have hc := List.all_eq_true.mp hh zi.toNat (List.mem_range.mpr (by omega))
          unfold kT2c at hc
          split at hc
          · rename_i a b ta tb
            have hc := of_decide_eq_true hc
            subst hc
            obtain ⟨n1, f, y1, c1, -, c2, c3⟩ := kToldI_ok hD.2.1.2.2.2.1 ta
            obtain ⟨n2, g, y2, d1, -, d2, d3⟩ := kToldI_ok hD.2.1.2.2.2.1 tb
            cases c2.symm.trans d2
            obtain ⟨-, h4⟩ := kElA h3 c1
            exact kEl_to (j := 81) h1 h2 ⟨_, _, _, d1, r1, by show g _ = _; rw [d3, ← c3]; exact h4⟩
          · cases hc
        · cases hs
      · cases hs
    · cases hs
  · cases h
/-- whether a kind is under another one: what both sides find -/
theorem sK_has {ρ : List Int} {Γ : sG} {a : sL} {k : Int} (hM : sMo ρ Γ) (h : sK Γ.1 a = some k) : sEv ρ a = some k := by
  have h0 := h
  unfold sK at h
  split at h
  · rename_i i hi
    obtain ⟨z, hz⟩ := sIv_has hM.1 hi
    rw [hz, sK_ok hM.1 hz h0]
  · cases h
def kTop (K : kS) : Option sL := match K.1.2.2.1 with
  | v :: _ => if v.1 = 0 then some v.2 else none
  | [] => none
def kIS (K : kS) : Option kWs := match kLf K.1.2.1 0, kLf K.1.2.1 1, kTop K with
  | some a, some b, some r => (match sK K.1.2.2.2.2.2.2.1 a, sK K.1.2.2.2.2.2.2.1 b, sK K.1.2.2.2.2.2.2.1 r with
    | some k, some u, some c => if c = kUnd k u then some [([(20, [a, b, r])], [])] else none
    | _, _, _ => none)
  | _, _, _ => none
theorem kIS_ok : kRok RO kIS := by
  intro K ws h ρ R hD
  unfold kIS at h
  split at h
  · rename_i a b r ha hb hr
    split at h
    · rename_i k u c hk hu hc
      split at h
      · rename_i he
        cases h
        have e1 := sK_has hD.1 hk
        have e2 := sK_has hD.1 hu
        have e3 := sK_has hD.1 hc
        exact ⟨_, List.mem_singleton.mpr rfl, kAt1 (zs := [k, u, c]) (by decide) (by simp only [sVal, e1, e2, e3]) ⟨k, u, c, rfl, he⟩, fun b hb => by cases hb⟩
      · cases h
    · cases h
  · cases h
theorem kAt20 {ρ : List Int} {γ : List kA} {H : List eE} {a u r : sL} (hg : kGh (kGP (kUP RO)) ρ γ H) (hq : ((20, [a, u, r]) : kA) ∈ γ) : ∃ za zu, sEv ρ a = some za ∧ sEv ρ u = some zu ∧ sEv ρ r = some (kUnd za zu) := by
  obtain ⟨zs, e1, e2⟩ := hg _ hq
  obtain ⟨p, q, s, rfl, h1, h2, h3⟩ := sVal_3 e1
  obtain ⟨a1, a2, a3, he, hr⟩ : ∃ a1 a2 a3, [p, q, s] = [a1, a2, a3] ∧ a3 = kUnd a1 a2 := e2
  cases he
  subst hr
  exact ⟨p, q, h1, h2, h3⟩
def kIU1 (q q' : kA) : Option (sL × Int × Int) := if q.1 = 20 ∧ q'.1 = 20 then (match q.2, q'.2 with
  | [a, u, r], [a', u', r'] => if a = a' ∧ u = u' then some (sSub r r', 0, 0) else none
  | _, _ => none) else none
def kIUp : List kA → List (sL × Int × Int)
  | [] => []
  | q :: r => r.filterMap (kIU1 q) ++ kIUp r
theorem kIUp_in : ∀ {γ : List kA} {b : sL × Int × Int}, b ∈ kIUp γ → ∃ q ∈ γ, ∃ q' ∈ γ, kIU1 q q' = some b
  | [], _, h => by cases h
  | q :: r, b, h => by
    rcases List.mem_append.mp h with h | h
    · obtain ⟨q', h1, h2⟩ := List.mem_filterMap.mp h
      exact ⟨q, List.mem_cons_self, q', List.mem_cons_of_mem _ h1, h2⟩
    · obtain ⟨p, h1, p', h2, h3⟩ := kIUp_in h
      exact ⟨p, List.mem_cons_of_mem _ h1, p', List.mem_cons_of_mem _ h2, h3⟩
def kIU (K : kS) : Option kWs := some [([], kIUp K.2)]
theorem kIU_ok : kRok RO kIU := by
  intro K ws h ρ R hD
  cases h
  refine ⟨_, List.mem_singleton.mpr rfl, fun q hq => (by cases hq), fun b hb => ?_⟩
  obtain ⟨⟨k, fs⟩, h1, ⟨k', fs'⟩, h2, h3⟩ := kIUp_in hb
  unfold kIU1 at h3
  split at h3
  · rename_i hk
    simp only at hk
    obtain ⟨rfl, rfl⟩ := hk
    simp only at h3
    split at h3
    · rename_i a u r a' u' r'
      split at h3
      · rename_i he
        obtain ⟨rfl, rfl⟩ := he
        cases h3
        obtain ⟨za, zu, e1, e2, e3⟩ := kAt20 hD.2.2 h1
        obtain ⟨za', zu', f1, f2, f3⟩ := kAt20 hD.2.2 h2
        cases e1.symm.trans f1
        cases e2.symm.trans f2
        refine ⟨_, sEv_sub e3 f3, ?_⟩
        simp only
        omega
      · cases h3
    · cases h3
  · cases h3
def kIE1 (Γ : sG) (q : kA) : Option (sL × Int × Int) := if q.1 = 20 then (match q.2 with
  | [a, u, r] => (match sK Γ.1 a, sK Γ.1 u with
    | some x, some y => some (r, kUnd x y, kUnd x y)
    | _, _ => none)
  | _ => none) else none
def kIE (K : kS) : Option kWs := some [([], K.2.filterMap (kIE1 K.1.2.2.2.2.2.2))]
theorem kIE_ok : kRok RO kIE := by
  intro K ws h ρ R hD
  cases h
  refine ⟨_, List.mem_singleton.mpr rfl, fun q hq => (by cases hq), fun b hb => ?_⟩
  obtain ⟨⟨k, fs⟩, h1, h3⟩ := List.mem_filterMap.mp hb
  unfold kIE1 at h3
  split at h3
  · rename_i hk
    simp only at hk
    subst hk
    simp only at h3
    split at h3
    · rename_i a u r
      split at h3
      · rename_i x y hx hy
        cases h3
        obtain ⟨za, zu, e1, e2, e3⟩ := kAt20 hD.2.2 h1
        have := sK_ok hD.1.1 e1 hx
        have := sK_ok hD.1.1 e2 hy
        subst x
        subst y
        exact ⟨_, e3, Int.le_refl _, Int.le_refl _⟩
      · cases h3
    · cases h3
  · cases h3
/-- new tables of kinds are the same -/
def kRJ (K : kS) : Option kWs := if (kZ40 K.1.2.2.2.1 37 50 .int && kZ40 K.1.2.2.2.1 80 50 .int) = true then some [([(13, [sC (-1)])], [])] else none
theorem kRJ_ok : kRok RO kRJ := by
  intro K ws h ρ R hD
  unfold kRJ at h
  split at h
  · rename_i hc
    cases h
    simp only [Bool.and_eq_true] at hc
    obtain ⟨f, f1, f2⟩ := kZ40_ok hD.2.1.2.2.2.1 hc.1
    obtain ⟨g, g1, g2⟩ := kZ40_ok hD.2.1.2.2.2.1 hc.2
    exact ⟨_, List.mem_singleton.mpr rfl, kAt1 (zs := [-1]) (by decide) (by simp only [sVal, sEv_C]) ⟨-1, rfl, f, g, f1, g1, fun i hi _ => Int32.toInt_inj.mp (by rw [f2 i hi, g2 i hi])⟩, fun b hb => by cases hb⟩
  · cases h
end KREL
end
