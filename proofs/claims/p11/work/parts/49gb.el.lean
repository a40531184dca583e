/-! Consequences for the elements of rows. -/
noncomputable section
section KGB
variable {RO : List (Nat × (Nat → Int32))}
theorem kUP14 {s : Nat} (hs : s < 6) {zs : List Int} {H : List eE} : kUP RO (14 + s) zs H ↔ ∃ e, zs = [e] ∧ kEL s e H := by
  unfold kUP
  rw [if_neg (by omega), if_neg (by omega), if_neg (by omega), if_neg (by omega), if_neg (by omega), if_neg (by omega), if_neg (by omega), if_neg (by omega), if_neg (by omega), if_neg (by omega), if_neg (by omega), if_neg (by omega), if_neg (by omega), if_neg (by omega), if_neg (by omega), if_pos (by omega), Nat.add_sub_cancel_left]
theorem kUP21 {s : Nat} (hs : s < 6) {zs : List Int} {H : List eE} : kUP RO (21 + s) zs H ↔ ∃ e, zs = [e] ∧ kZC s e H := by
  unfold kUP
  rw [if_neg (by omega), if_neg (by omega), if_neg (by omega), if_neg (by omega), if_neg (by omega), if_neg (by omega), if_neg (by omega), if_neg (by omega), if_neg (by omega), if_neg (by omega), if_neg (by omega), if_neg (by omega), if_neg (by omega), if_neg (by omega), if_neg (by omega), if_neg (by omega), if_pos (by omega), Nat.add_sub_cancel_left]
theorem kUP28 {o : Nat} (ho : o < 6) {zs : List Int} {H : List eE} : kUP RO (28 + o) zs H ↔ ∃ off d n, zs = [off, d, n] ∧ kAC o off d n H := by
  unfold kUP
  rw [if_neg (by omega), if_neg (by omega), if_neg (by omega), if_neg (by omega), if_neg (by omega), if_neg (by omega), if_neg (by omega), if_neg (by omega), if_neg (by omega), if_neg (by omega), if_neg (by omega), if_neg (by omega), if_neg (by omega), if_neg (by omega), if_neg (by omega), if_neg (by omega), if_neg (by omega), if_neg (by omega), if_pos (by omega), Nat.add_sub_cancel_left]
theorem kUP35 {o : Nat} (ho : o < 6) {zs : List Int} {H : List eE} : kUP RO (35 + o) zs H ↔ ∃ d m n, zs = [d, m, n] ∧ kL2 o d m n H := by
  unfold kUP
  rw [if_neg (by omega), if_neg (by omega), if_neg (by omega), if_neg (by omega), if_neg (by omega), if_neg (by omega), if_neg (by omega), if_neg (by omega), if_neg (by omega), if_neg (by omega), if_neg (by omega), if_neg (by omega), if_neg (by omega), if_neg (by omega), if_neg (by omega), if_neg (by omega), if_neg (by omega), if_neg (by omega), if_neg (by omega), if_neg (by omega), if_pos (by omega), Nat.add_sub_cancel_left]
theorem kLgE {j n : Nat} {f : Nat → Int64} {zi z : Int} {H : List eE} (h : kEl j zi z H) (hf : kLg j n f H) : 0 ≤ zi ∧ f zi.toNat = Int64.ofInt z := by
  obtain ⟨ty', n', arr, h1, h2, h3⟩ := h
  unfold kLg at hf
  rw [hf] at h1
  cases h1
  exact ⟨h2, h3⟩
theorem kElL {j n : Nat} {f : Nat → Int64} {zi z : Int} {H : List eE} (hf : kLg j n f H) (h0 : 0 ≤ zi) (h : f zi.toNat = Int64.ofInt z) : kEl j zi z H := ⟨_, _, _, hf, h0, h⟩
theorem kHavEL {ρ : List Int} {γ : List kA} {H : List eE} {s : Nat} (hs : s < 6) (hg : kGh (kGP (kUP RO)) ρ γ H) (h : kHav γ (14 + s) [sC (-1)] = true) : ∃ f g, kLg (41 + 2 * s) 60 f H ∧ kLg 84 360 g H ∧ ∀ i : Nat, i < 60 → f i = g (60 * s + i) := by
  obtain ⟨zs, e1, e2⟩ := kHav_ok hg h (by omega)
  obtain ⟨ze, rfl, ee⟩ := sVal_1 e1
  rw [sEv_C] at ee
  cases ee
  obtain ⟨e, he, f, g, q1, q2, q3⟩ := (kUP14 hs).mp e2
  cases he
  exact ⟨f, g, q1, q2, fun i hi => q3 i hi (by omega)⟩
theorem kAtEL {ρ : List Int} {H : List eE} {s : Nat} (hs : s < 6) {f g : Nat → Int64} (q1 : kLg (41 + 2 * s) 60 f H) (q2 : kLg 84 360 g H) (q3 : ∀ i : Nat, i < 60 → f i = g (60 * s + i)) : kGh (kGP (kUP RO)) ρ [(14 + s, [sC (-1)])] H :=
  kAt1 (zs := [-1]) (by omega) (by simp only [sVal, sEv_C]) ((kUP14 hs).mpr ⟨-1, rfl, f, g, q1, q2, fun i hi _ => q3 i hi⟩)
/-- atoms of several shelves -/
theorem kGh_fm {ρ : List Int} {H : List eE} {F : Nat → Option kA} {L : List Nat} (h : ∀ s ∈ L, ∀ a, F s = some a → kGh (kGP (kUP RO)) ρ [a] H) : kGh (kGP (kUP RO)) ρ (L.filterMap F) H := fun q hq => by
  obtain ⟨s, hs, ha⟩ := List.mem_filterMap.mp hq
  exact h s hs q ha q (List.mem_singleton.mpr rfl)
/-- a copy of longs -/
def kLC1 (γ : List kA) (js jd : Nat) (sp dp n : sL) (s o : Nat) : Option kA := if js = 41 + 2 * s ∧ jd = 41 + 2 * o ∧ (kHav γ (14 + s) [sC (-1)] && kHav γ (14 + o) [sC (-1)]) = true then some (28 + o, [sAdd (sC (60 * (s : Int))) sp, dp, n]) else none
def kLC (_ : sG) (γ : List kA) (js jd : Nat) (sp dp n : sL) : List kA := (List.range 6).flatMap fun s => (List.range 6).filterMap (kLC1 γ js jd sp dp n s)
theorem kLC_ok : kLOk (kUP RO) kLC := by
  intro Γ γ js jd sp dp n ρ zs zd zn H n0 n1 f0 g0 hM hg hs hd hn s0 d0 nn0 hsn hdn hjs hjd q hq0
  unfold kLC at hq0
  obtain ⟨s, hsr, hq1⟩ := List.mem_flatMap.mp hq0
  obtain ⟨o, hor, hq⟩ := List.mem_filterMap.mp hq1
  clear hq0 hq1
  have hs6 := List.mem_range.mp hsr
  have ho6 := List.mem_range.mp hor
  unfold kLC1 at hq
  split at hq
  · rename_i hc
    obtain ⟨rfl, rfl, hc⟩ := hc
    simp only [Bool.and_eq_true] at hc
    cases hq
    obtain ⟨f, g, q1, q2, q3⟩ := kHavEL hs6 hg hc.1
    obtain ⟨f', g', r1, r2, r3⟩ := kHavEL ho6 hg hc.2
    unfold kLg at q1 q2 r1 r2
    rw [hjs] at q1
    cases q1
    rw [hjd] at r1
    cases r1
    rw [q2] at r2
    cases r2
    have es := sEv_add (sEv_C (ρ := ρ) (60 * (s : Int))) hs
    refine kAt1 (zs := [60 * (s : Int) + zs, zd, zn]) (by omega) (by simp only [sVal, es, hd, hn]) ((kUP28 ho6).mpr ⟨_, _, _, rfl, va_cpy f0 g0 zs.toNat zd.toNat zn.toNat, g, ?_, ?_, by omega, d0, fun t ht => ?_⟩) _ (List.mem_singleton.mpr rfl)
    · unfold kLg
      rw [List.getElem?_set_self (List.getElem?_eq_some_iff.mp hjd).1]
    · unfold kLg
      rw [List.getElem?_set_ne (by omega)]
      exact q2
    · unfold va_cpy
      by_cases hc1 : zd.toNat ≤ t ∧ t < zd.toNat + zn.toNat
      · rw [if_pos hc1, if_pos ⟨by omega, by omega⟩, q3 _ (by omega)]
        congr 1
        omega
      · rw [if_neg hc1, if_neg (by omega)]
        exact r3 t ht
  · cases hq
/-- the class' new row: so many are 0 -/
def kRefS (K : kS) : Option Nat := match sGetL K.1.2.1 0 with
  | some (2, x) => (List.range 6).find? (fun s => decide (x = sC (45 + 2 * (s : Int))))
  | _ => none
def kLz (G : List sE) (j n : Nat) : Bool := match G[j]? with
  | some (.inl (ty, m, _, _)) => decide (ty = .long) && decide (m = n)
  | _ => false
theorem kLz_ok {ρ : List Int} {G : List sE} {H : List eE} (hH : sHp ρ G H) {j n : Nat} (h : kLz G j n = true) : ∃ f, kLg j n f H := by
  unfold kLz at h
  split at h
  · rename_i ty m b ov hg
    simp only [Bool.and_eq_true, decide_eq_true_eq] at h
    obtain ⟨rfl, rfl⟩ := h
    obtain ⟨y, hy, hxy⟩ := sHp_get hH hg
    rcases y with ⟨ty', n', arr⟩ | y
    · obtain ⟨rfl, rfl, harr⟩ := hxy
      rcases arr with f | f | f
      · rcases harr.1 with h9 | h9 | h9 <;> cases h9
      · exact ⟨f, hy⟩
      · cases harr.1
    · exact hxy.elim
  · cases h
def kZCr (K : kS) : Option kWs := match kRefS K with
  | some s => if s < 6 then (match kFa K.2 (21 + s) (fun _ => true) with
    | none => if kLz K.1.2.2.2.1 (41 + 2 * s) 60 = true then some [([(21 + s, [sC 0])], [])] else none
    | some [m] => if kFindEl K.2 (41 + 2 * s) m = some (sC 0) then some [([(21 + s, [sAdd m (sC 1)])], [])] else none
    | _ => none) else none
  | none => none
theorem kZCr_ok : kRok RO kZCr := by
  intro K ws h ρ R hD
  unfold kZCr at h
  split at h
  · rename_i s hs
    split at h
    · rename_i hs6
      split at h
      · split at h
        · rename_i hz
          cases h
          obtain ⟨f, hf⟩ := kLz_ok hD.2.1.2.2.2.1 hz
          exact ⟨_, List.mem_singleton.mpr rfl, kAt1 (zs := [0]) (by omega) (by simp only [sVal, sEv_C]) ((kUP21 hs6).mpr ⟨0, rfl, f, hf, fun i hi _ => absurd hi (by omega)⟩), fun b hb => by cases hb⟩
        · cases h
      · rename_i m hfa
        split at h
        · rename_i hel
          cases h
          obtain ⟨-, zs, e1, e2⟩ := kFa_ok hD.2.2 hfa (by omega)
          obtain ⟨z1, rfl, ez⟩ := sVal_1 e1
          obtain ⟨e, he, f, q1, q2⟩ := (kUP21 hs6).mp e2
          cases he
          obtain ⟨zw, ew, k1⟩ := kFindEl_ok hD.2.2 hel ez
          rw [sEv_C] at ew
          cases ew
          obtain ⟨h0, h1⟩ := kLgE k1 q1
          have ez' := sEv_add ez (sEv_C (ρ := ρ) 1)
          refine ⟨_, List.mem_singleton.mpr rfl, kAt1 (zs := [z1 + 1]) (by omega) (by simp only [sVal, ez']) ((kUP21 hs6).mpr ⟨_, rfl, f, q1, fun i hi hi2 => ?_⟩), fun b hb => by cases hb⟩
          by_cases hie : (i : Int) = z1
          · have : i = z1.toNat := by omega
            rw [this, h1]
            rfl
          · exact q2 i (by omega) hi2
        · cases h
      · cases h
    · cases h
  · cases h
def kZCe (K : kS) : Option kWs := match kRefS K with
  | some s => if s < 6 then (match kFa K.2 (21 + s) (fun _ => true) with
    | some [m] => if sNN K.1.2.2.2.2.2.2 (sSub m (sC 60)) = true then some [([(21 + s, [sC 60])], [])] else none
    | _ => none) else none
  | none => none
theorem kZCe_ok : kRok RO kZCe := by
  intro K ws h ρ R hD
  unfold kZCe at h
  split at h
  · rename_i s hs
    split at h
    · rename_i hs6
      split at h
      · rename_i m hfa
        split at h
        · rename_i hc
          cases h
          obtain ⟨-, zs, e1, e2⟩ := kFa_ok hD.2.2 hfa (by omega)
          obtain ⟨z1, rfl, ez⟩ := sVal_1 e1
          obtain ⟨e, he, f, q1, q2⟩ := (kUP21 hs6).mp e2
          cases he
          have := sNN_ok hD.1 (sEv_sub ez (sEv_C 60)) hc
          exact ⟨_, List.mem_singleton.mpr rfl, kAt1 (zs := [60]) (by omega) (by simp only [sVal, sEv_C]) ((kUP21 hs6).mpr ⟨_, rfl, f, q1, fun i hi hi2 => q2 i (by omega) hi2⟩), fun b hb => by cases hb⟩
        · cases h
      · cases h
    · cases h
  · cases h
/-- the reference's new row -/
def kZRr (K : kS) : Option kWs := match kLf K.1.2.1 4 with
  | some k => (match kFa K.2 27 (fun _ => true) with
    | none => if (kLz K.1.2.2.2.1 84 360 && (sIv K.1.2.2.2.2.2.2.1 k).isSome) = true then some [([(27, [k, k])], [])] else none
    | some [lo, m] => if kFindEl K.2 84 m = some (sC 0) then some [([(27, [lo, sAdd m (sC 1)])], [])] else none
    | _ => none)
  | none => none
theorem kZRr_ok : kRok RO kZRr := by
  intro K ws h ρ R hD
  unfold kZRr at h
  split at h
  · rename_i k hk
    split at h
    · split at h
      · rename_i hz
        cases h
        simp only [Bool.and_eq_true] at hz
        obtain ⟨f, hf⟩ := kLz_ok hD.2.1.2.2.2.1 hz.1
        obtain ⟨i, hi⟩ := Option.isSome_iff_exists.mp hz.2
        obtain ⟨z, ez⟩ := sIv_has hD.1.1 hi
        exact ⟨_, List.mem_singleton.mpr rfl, kAt1 (zs := [z, z]) (by decide) (by simp only [sVal, ez]) ⟨z, z, rfl, f, hf, fun i h1 h2 => absurd h2 (by omega)⟩, fun b hb => by cases hb⟩
      · cases h
    · rename_i lo m hfa
      split at h
      · rename_i hel
        cases h
        obtain ⟨-, zs, e1, e2⟩ := kFa_ok hD.2.2 hfa (by decide)
        obtain ⟨z1, z2, rfl, ea, ez⟩ := sVal_2 e1
        obtain ⟨a, b, he, f, q1, q2⟩ : ∃ a b, [z1, z2] = [a, b] ∧ kZR a b R.2.2.2.1 := e2
        cases he
        obtain ⟨zw, ew, k1⟩ := kFindEl_ok hD.2.2 hel ez
        rw [sEv_C] at ew
        cases ew
        obtain ⟨h0, h1⟩ := kLgE k1 q1
        have ez' := sEv_add ez (sEv_C (ρ := ρ) 1)
        refine ⟨_, List.mem_singleton.mpr rfl, kAt1 (zs := [z1, z2 + 1]) (by decide) (by simp only [sVal, ea, ez']) ⟨_, _, rfl, f, q1, fun i hi hi2 => ?_⟩, fun b hb => by cases hb⟩
        by_cases hie : (i : Int) = z2
        · have : i = z2.toNat := by omega
          rw [this, h1]
          rfl
        · exact q2 i hi (by omega)
      · cases h
    · cases h
  · cases h
def kZRe (K : kS) : Option kWs := match kFa K.2 27 (fun _ => true) with
  | some [lo, m] => if sNN K.1.2.2.2.2.2.2 (sSub m (sAdd lo (sC 60))) = true then some [([(27, [lo, sAdd lo (sC 60)])], [])] else none
  | _ => none
theorem kZRe_ok : kRok RO kZRe := by
  intro K ws h ρ R hD
  unfold kZRe at h
  split at h
  · rename_i lo m hfa
    split at h
    · rename_i hc
      cases h
      obtain ⟨-, zs, e1, e2⟩ := kFa_ok hD.2.2 hfa (by decide)
      obtain ⟨z1, z2, rfl, ea, ez⟩ := sVal_2 e1
      obtain ⟨a, b, he, f, q1, q2⟩ : ∃ a b, [z1, z2] = [a, b] ∧ kZR a b R.2.2.2.1 := e2
      cases he
      have el := sEv_add ea (sEv_C (ρ := ρ) 60)
      have := sNN_ok hD.1 (sEv_sub ez el) hc
      exact ⟨_, List.mem_singleton.mpr rfl, kAt1 (zs := [z1, z1 + 60]) (by decide) (by simp only [sVal, ea, el]) ⟨_, _, rfl, f, q1, fun i hi hi2 => q2 i hi (by omega)⟩, fun b hb => by cases hb⟩
    · cases h
  · cases h
/-- new rows are alike -/
def kEZ1 (γ : List kA) (s : Nat) : Option kA := if (kHav γ (21 + s) [sC 60] && kHav γ 27 [sC (60 * (s : Int)), sC (60 * (s : Int) + 60)]) = true then some (14 + s, [sC (-1)]) else none
def kEZ (K : kS) : Option kWs := some [((List.range 6).filterMap (kEZ1 K.2), [])]
theorem kEZ_ok : kRok RO kEZ := by
  intro K ws h ρ R hD
  cases h
  refine ⟨_, List.mem_singleton.mpr rfl, kGh_fm fun s hs a ha => ?_, fun b hb => by cases hb⟩
  have hs6 := List.mem_range.mp hs
  unfold kEZ1 at ha
  split at ha
  · rename_i hc
    simp only [Bool.and_eq_true] at hc
    cases ha
    obtain ⟨zs, e1, e2⟩ := kHav_ok hD.2.2 hc.1 (by omega)
    obtain ⟨z1, rfl, ez⟩ := sVal_1 e1
    rw [sEv_C] at ez
    cases ez
    obtain ⟨e, he, f, q1, q2⟩ := (kUP21 hs6).mp e2
    cases he
    obtain ⟨zs, f1, f2⟩ := kHav_ok hD.2.2 hc.2 (by decide)
    obtain ⟨z1, z2, rfl, ea, ez⟩ := sVal_2 f1
    rw [sEv_C] at ea ez
    cases ea
    cases ez
    obtain ⟨a, b, he, g, r1, r2⟩ : ∃ a b, [60 * (s : Int), 60 * (s : Int) + 60] = [a, b] ∧ kZR a b R.2.2.2.1 := f2
    cases he
    exact kAtEL hs6 q1 r1 fun i hi => by rw [q2 i (by omega) hi, r2 (60 * s + i) (by omega) (by omega)]
  · cases ha
def kK1E1 (Γ : sG) (γ : List kA) (s : Nat) : Option kA := match kFa γ (14 + s) (fun _ => true) with
  | some [e] => if e = sC (-1) then none else (match kFindEl γ (41 + 2 * s) e, kFindEl γ 84 (sAdd (sC (60 * (s : Int))) e) with
    | some a, some b => if a = b then some (14 + s, [sC (-1)]) else none
    | _, _ => none)
  | _ => none
def kK1E (K : kS) : Option kWs := some [((List.range 6).filterMap (kK1E1 K.1.2.2.2.2.2.2 K.2), [])]
theorem kK1E_ok : kRok RO kK1E := by
  intro K ws h ρ R hD
  cases h
  refine ⟨_, List.mem_singleton.mpr rfl, kGh_fm fun s hs a ha => ?_, fun b hb => by cases hb⟩
  have hs6 := List.mem_range.mp hs
  unfold kK1E1 at ha
  split at ha
  · rename_i e hfa
    split at ha
    · cases ha
    split at ha
    · rename_i x y hx hy
      split at ha
      · rename_i hxy
        subst hxy
        cases ha
        obtain ⟨-, zs, e1, e2⟩ := kFa_ok hD.2.2 hfa (by omega)
        obtain ⟨ze, rfl, ee⟩ := sVal_1 e1
        obtain ⟨e', he, f, g, q1, q2, q3⟩ := (kUP14 hs6).mp e2
        cases he
        obtain ⟨z1, v1, k1⟩ := kFindEl_ok hD.2.2 hx ee
        obtain ⟨z2, v2, k2⟩ := kFindEl_ok hD.2.2 hy (sEv_add (sEv_C _) ee)
        cases v1.symm.trans v2
        obtain ⟨h0, a1⟩ := kLgE k1 q1
        obtain ⟨-, a2⟩ := kLgE k2 q2
        refine kAtEL hs6 q1 q2 fun i hi => ?_
        by_cases hie : (i : Int) = ze
        · have e3 : i = ze.toNat := by omega
          have e4 : 60 * s + i = (60 * (s : Int) + ze).toNat := by omega
          rw [e4, a2, e3, a1]
        · exact q3 i hi hie
      · cases ha
    · cases ha
  · cases ha
/-- what was read of a shelf stands on the other side -/
def kTE1 (Γ : sG) (s : Nat) (q : kA) : Option kA := if q.1 = 1000 + (41 + 2 * s) then (match q.2 with
  | [i, v] => if sInR Γ i 60 = true then some (1084, [sAdd (sC (60 * (s : Int))) i, v]) else none
  | _ => none) else none
def kTEs (Γ : sG) (γ : List kA) (s : Nat) : List kA := if kHav γ (14 + s) [sC (-1)] = true then γ.filterMap (kTE1 Γ s) else []
def kTEr (K : kS) : Option kWs := some [((List.range 6).flatMap (kTEs K.1.2.2.2.2.2.2 K.2), [])]
theorem kTEr_ok : kRok RO kTEr := by
  intro K ws h ρ R hD
  cases h
  refine ⟨_, List.mem_singleton.mpr rfl, fun q hq => ?_, fun b hb => by cases hb⟩
  obtain ⟨s, hs, hq⟩ := List.mem_flatMap.mp hq
  have hs6 := List.mem_range.mp hs
  unfold kTEs at hq
  split at hq
  · rename_i hh
    obtain ⟨f, g, q1, q2, q3⟩ := kHavEL hs6 hD.2.2 hh
    obtain ⟨⟨k, fs⟩, ha, hs2⟩ := List.mem_filterMap.mp hq
    unfold kTE1 at hs2
    split at hs2
    · rename_i hk
      simp only at hk
      subst hk
      simp only at hs2
      split at hs2
      · rename_i i v
        split at hs2
        · rename_i hr
          cases hs2
          obtain ⟨zi, zv, h1, h2, h3⟩ := kElm hD.2.2 ha
          obtain ⟨r1, r2, -⟩ := sInR_at hD.1 h1 hr
          obtain ⟨-, h4⟩ := kLgE h3 q1
          refine kEl_to (j := 84) (sEv_add (sEv_C _) h1) h2 (kElL q2 (by omega) ?_)
          rw [← h4, q3 zi.toNat (by omega)]
          congr 1
          omega
        · cases hs2
      · cases hs2
    · cases hs2
  · cases hq
/-- new tables of elements -/
def kZl (G : List sE) (j n : Nat) : Bool := match G[j]? with
  | some (.inl (t, m, b, ov)) => decide (t = .long) && (decide (m = n) && (decide (b = (0, 0)) && ov.isEmpty))
  | _ => false
theorem kZl_ok {ρ : List Int} {G : List sE} {H : List eE} (hH : sHp ρ G H) {j n : Nat} (h : kZl G j n = true) : ∃ f, kLg j n f H ∧ ∀ k, k < n → f k = 0 := by
  unfold kZl at h
  split at h
  · rename_i t m b ov hg
    simp only [Bool.and_eq_true, decide_eq_true_eq] at h
    obtain ⟨rfl, rfl, rfl, h4⟩ := h
    have h4 := List.isEmpty_iff.mp h4
    subst h4
    obtain ⟨y, hy, hxy⟩ := sHp_get hH hg
    rcases y with ⟨ty', n', arr⟩ | y
    · obtain ⟨rfl, rfl, harr⟩ := hxy
      rcases arr with f | f | f
      · rcases harr.1 with h9 | h9 | h9 <;> cases h9
      · refine ⟨f, hy, fun k hk => ?_⟩
        have := harr.2 k hk
        simp only [sLk_def, List.find?_nil, Option.map_none] at this
        have h0 : (f k).toInt = 0 := by omega
        exact Int64.toInt_inj.mp (by rw [h0]; rfl)
      · cases harr.1
    · exact hxy.elim
  · cases h
def kRE1 (G : List sE) (s : Nat) : Option kA := if (kZl G (41 + 2 * s) 60 && kZl G 84 360) = true then some (14 + s, [sC (-1)]) else none
def kRE (K : kS) : Option kWs := some [((List.range 6).filterMap (kRE1 K.1.2.2.2.1), [])]
theorem kRE_ok : kRok RO kRE := by
  intro K ws h ρ R hD
  cases h
  refine ⟨_, List.mem_singleton.mpr rfl, kGh_fm fun s hs a ha => ?_, fun b hb => by cases hb⟩
  have hs6 := List.mem_range.mp hs
  unfold kRE1 at ha
  split at ha
  · rename_i hc
    simp only [Bool.and_eq_true] at hc
    cases ha
    obtain ⟨f, q1, q2⟩ := kZl_ok hD.2.1.2.2.2.1 hc.1
    obtain ⟨g, r1, r2⟩ := kZl_ok hD.2.1.2.2.2.1 hc.2
    exact kAtEL hs6 q1 r1 fun i hi => by rw [q2 i hi, r2 _ (by omega)]
  · cases ha
/-- laid aside -/
def kBFr (K : kS) : Option kWs := match kFa K.2 34 (fun _ => true) with
  | none => (match kLf K.1.2.1 1, kLf K.1.2.1 2 with
    | some a, some b => if (kLz K.1.2.2.2.1 84 360 && (kLz K.1.2.2.2.1 85 60 && (sNN K.1.2.2.2.2.2.2 (sAdd (sMul 60 a) b) && (sIv K.1.2.2.2.2.2.2.1 (sAdd (sMul 60 a) b)).isSome))) = true then some [([(34, [sAdd (sMul 60 a) b, sC 0])], [])] else none
    | _, _ => none)
  | some [off, m] => (match kFindEl K.2 85 m, kFindEl K.2 84 (sAdd off m) with
    | some x, some y => if x = y then some [([(34, [off, sAdd m (sC 1)])], [])] else none
    | _, _ => none)
  | _ => none
theorem kBFr_ok : kRok RO kBFr := by
  intro K ws h ρ R hD
  unfold kBFr at h
  split at h
  · split at h
    · rename_i a b ha hb
      split at h
      · rename_i hc
        cases h
        simp only [Bool.and_eq_true] at hc
        obtain ⟨c1, c2, c3, c4⟩ := hc
        obtain ⟨g, hg⟩ := kLz_ok hD.2.1.2.2.2.1 c1
        obtain ⟨f, hf⟩ := kLz_ok hD.2.1.2.2.2.1 c2
        obtain ⟨i, hi⟩ := Option.isSome_iff_exists.mp c4
        obtain ⟨z, ez⟩ := sIv_has hD.1.1 hi
        have h0 := sNN_ok hD.1 ez c3
        exact ⟨_, List.mem_singleton.mpr rfl, kAt1 (zs := [z, 0]) (by decide) (by simp only [sVal, ez, sEv_C]) ⟨z, 0, rfl, g, f, hg, hf, h0, fun t ht => absurd ht (by omega)⟩, fun b hb => by cases hb⟩
      · cases h
    · cases h
  · rename_i off m hfa
    split at h
    · rename_i x y hx hy
      split at h
      · rename_i hxy
        subst hxy
        cases h
        obtain ⟨-, zs, e1, e2⟩ := kFa_ok hD.2.2 hfa (by decide)
        obtain ⟨z1, z2, rfl, ea, ez⟩ := sVal_2 e1
        obtain ⟨a, b, he, g, f, q1, q2, q3, q4⟩ : ∃ a b, [z1, z2] = [a, b] ∧ kBF a b R.2.2.2.1 := e2
        cases he
        obtain ⟨y1, v1, k1⟩ := kFindEl_ok hD.2.2 hx ez
        obtain ⟨y2, v2, k2⟩ := kFindEl_ok hD.2.2 hy (sEv_add ea ez)
        cases v1.symm.trans v2
        obtain ⟨h0, a1⟩ := kLgE k1 q2
        obtain ⟨-, a2⟩ := kLgE k2 q1
        have ez' := sEv_add ez (sEv_C (ρ := ρ) 1)
        refine ⟨_, List.mem_singleton.mpr rfl, kAt1 (zs := [z1, z2 + 1]) (by decide) (by simp only [sVal, ea, ez']) ⟨_, _, rfl, g, f, q1, q2, q3, fun t ht => ?_⟩, fun b hb => by cases hb⟩
        by_cases hte : (t : Int) = z2
        · have e3 : t = z2.toNat := by omega
          have e4 : (z1 + (t : Int)).toNat = (z1 + z2).toNat := by omega
          rw [e4, a2, e3, a1]
        · exact q4 t (by omega)
      · cases h
    · cases h
  · cases h
/-- from what the class copied to what the reference lays back -/
def kL2i (K : kS) : Option kWs := match kLf K.1.2.1 3, kFa K.2 34 (fun _ => true) with
  | some o, some [off, m] => (match (sK K.1.2.2.2.2.2.2.1 o).map Int.toNat with
    | some o' => if o' < 6 ∧ (kFa K.2 (35 + o') (fun _ => true)).isNone = true then (match kFa K.2 (28 + o') (fun _ => true) with
      | some [off', d, n] => if off' = off ∧ sNN K.1.2.2.2.2.2.2 (sSub m n) = true then some [([(35 + o', [d, sC 0, n])], [])] else none
      | _ => none) else none
    | none => none)
  | _, _ => none
theorem kL2i_ok : kRok RO kL2i := by
  intro K ws h ρ R hD
  unfold kL2i at h
  split at h
  · rename_i o off m ho hb
    split at h
    · rename_i o' ho'
      split at h
      · rename_i hc
        split at h
        · rename_i off' d n hfa
          split at h
          · rename_i hc2
            obtain ⟨rfl, hnn⟩ := hc2
            cases h
            obtain ⟨-, zs, e1, e2⟩ := kFa_ok hD.2.2 hb (by decide)
            obtain ⟨z1, z2, rfl, ea, ez⟩ := sVal_2 e1
            obtain ⟨a, b, he, g, f, q1, q2, q3, q4⟩ : ∃ a b, [z1, z2] = [a, b] ∧ kBF a b R.2.2.2.1 := e2
            cases he
            obtain ⟨-, zs, f1, f2⟩ := kFa_ok hD.2.2 hfa (by omega)
            obtain ⟨y1, y2, y3, rfl, b1, b2, b3⟩ := sVal_3 f1
            obtain ⟨a1, a2, a3, he, fo, g', r1, r2, r3, r4, r5⟩ := (kUP28 hc.1).mp f2
            cases he
            cases b1.symm.trans ea
            unfold kLg at q1 r2
            rw [q1] at r2
            cases r2
            have := sNN_ok hD.1 (sEv_sub ez b3) hnn
            refine ⟨_, List.mem_singleton.mpr rfl, kAt1 (zs := [y2, 0, y3]) (by omega) (by simp only [sVal, b2, b3, sEv_C]) ((kUP35 hc.1).mpr ⟨_, _, _, rfl, fo, g, f, r1, q1, q2, r4, Int.le_refl _, fun t ht => ?_⟩), fun b hb => by cases hb⟩
            rw [r5 t ht]
            by_cases hcc : y2 ≤ (t : Int) ∧ (t : Int) < y2 + y3
            · rw [if_pos hcc, if_pos ⟨by omega, hcc.2⟩, q4 _ (by omega)]
              congr 1
              omega
            · rw [if_neg hcc, if_neg (by omega)]
          · cases h
        · cases h
      · cases h
    · cases h
  · cases h
def kL2e (K : kS) : Option kWs := match kLf K.1.2.1 3 with
  | some o => (match (sK K.1.2.2.2.2.2.2.1 o).map Int.toNat with
    | some o' => if o' < 6 then (match kFa K.2 (35 + o') (fun _ => true) with
      | some [_, m, n] => if sNN K.1.2.2.2.2.2.2 (sSub m n) = true then some [([(14 + o', [sC (-1)])], [])] else none
      | _ => none) else none
    | none => none)
  | none => none
theorem kL2e_ok : kRok RO kL2e := by
  intro K ws h ρ R hD
  unfold kL2e at h
  split at h
  · rename_i o ho
    split at h
    · rename_i o' ho'
      split at h
      · rename_i hc
        split at h
        · rename_i d m n hfa
          split at h
          · rename_i hnn
            cases h
            obtain ⟨-, zs, f1, f2⟩ := kFa_ok hD.2.2 hfa (by omega)
            obtain ⟨y1, y2, y3, rfl, b1, b2, b3⟩ := sVal_3 f1
            obtain ⟨a1, a2, a3, he, fo, g, b, r1, r2, r3, r4, r5, r6⟩ := (kUP35 hc).mp f2
            cases he
            have := sNN_ok hD.1 (sEv_sub b2 b3) hnn
            exact ⟨_, List.mem_singleton.mpr rfl, kAtEL hc r1 r2 fun t ht => by rw [r6 t ht, if_neg (by omega)], fun b hb => by cases hb⟩
          · cases h
        · cases h
      · cases h
    · cases h
  · cases h
end KGB
end
