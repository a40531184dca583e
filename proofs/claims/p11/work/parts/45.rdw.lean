/-! K: the read of an array's element. -/
noncomputable section
section KRD
variable {UP : Nat → List Int → List eE → Prop} {ud : Nat → List Nat} {SO : List (Nat × List sL)} {RO : List (Nat × (Nat → Int32))} {CL : List vw_C} {CT : Nat → Nat → FieldType} {sl nx b : Nat}
theorem kLift {GP : Nat → List Int → List eE → Prop} {ρ : List Int} {o : Option eR} {L0 : List sR} {γ : List kA} {R : eR} (h : sOK ρ L0 o) (hg : kGh GP ρ γ R.2.2.2.1) (hh : ∀ R', o = some R' → R'.2.2.2.1 = R.2.2.2.1) :
    ∃ K' ∈ L0.map (fun S => ((S, γ) : kS)), ∃ ρ' R', ρ <+: ρ' ∧ o = some R' ∧ kD GP ρ' K' R' := by
  obtain ⟨S', hS, ρ', R', hp, hM, he, hD⟩ := h
  exact ⟨(S', γ), List.mem_map.mpr ⟨S', hS, rfl⟩, ρ', R', hp, he, hM, hD, by rw [hh R' he]; exact hg.mono GP hp⟩
/-- the length of the script is an atom of its own: number 0 -/
def kLenOk (UP : Nat → List Int → List eE → Prop) (RO : List (Nat × (Nat → Int32))) (sl : Nat) : Prop := ∀ (z : Int) (H : List eE), UP 0 [z] H → ∃ q, RO[sl]? = some q ∧ (q.1 : Int) = z
/-- an element of the script: number 11 -/
def kSeOk (UP : Nat → List Int → List eE → Prop) (RO : List (Nat × (Nat → Int32))) (sl : Nat) : Prop := ∀ (i v : Int) (H : List eE), UP 11 [i, v] H ↔ ∃ q, RO[sl]? = some q ∧ 0 ≤ i ∧ q.2 i.toNat = Int32.ofInt v
def kFindSe (γ : List kA) (i : sL) : Option sL := match γ.find? (fun a => decide (a.1 = 11) && (match a.2 with
  | [i', _] => decide (i' = i)
  | _ => false)) with
  | some (_, [_, v]) => some v
  | _ => none
theorem kFindSe_ok (hse : kSeOk UP RO sl) {ρ : List Int} {γ : List kA} {i v : sL} {H : List eE} {zi : Int} (hg : kGh (kGP UP) ρ γ H) (h : kFindSe γ i = some v) (hi : sEv ρ i = some zi) : ∃ z q, sEv ρ v = some z ∧ RO[sl]? = some q ∧ q.2 zi.toNat = Int32.ofInt z := by
  unfold kFindSe at h
  split at h
  · rename_i k i' v' hf
    cases h
    have hm := List.mem_of_find?_eq_some hf
    have hp := List.find?_some hf
    simp only [Bool.and_eq_true, decide_eq_true_eq] at hp
    obtain ⟨h1, h2⟩ := hp
    subst h1; subst h2
    obtain ⟨zs, h3, h4⟩ := hg _ hm
    simp only [sVal] at h3
    rw [hi] at h3
    split at h3
    · rename_i z zs' e1 e2
      cases e1
      cases hv : sEv ρ v with
      | none => rw [hv] at e2; cases e2
      | some y =>
        rw [hv] at e2
        cases e2
        cases h3
        have h4' : UP 11 [zi, y] H := h4
        obtain ⟨q, q1, -, q2⟩ := (hse _ _ _).mp h4'
        exact ⟨y, q, rfl, q1, q2⟩
    · cases h3
  · cases h
def kFindEl (γ : List kA) (j : Nat) (i : sL) : Option sL := match γ.find? (fun a => decide (a.1 = 1000 + j) && (match a.2 with
  | [i', _] => decide (i' = i)
  | _ => false)) with
  | some (_, [_, v]) => some v
  | _ => none
theorem kFindEl_ok {ρ : List Int} {γ : List kA} {j : Nat} {i v : sL} {H : List eE} {zi : Int} (hg : kGh (kGP UP) ρ γ H) (h : kFindEl γ j i = some v) (hi : sEv ρ i = some zi) : ∃ z, sEv ρ v = some z ∧ kEl j zi z H := by
  unfold kFindEl at h
  split at h
  · rename_i k i' v' hf
    cases h
    have hm := List.mem_of_find?_eq_some hf
    have hp := List.find?_some hf
    simp only [Bool.and_eq_true, decide_eq_true_eq] at hp
    obtain ⟨h1, h2⟩ := hp
    subst h1; subst h2
    obtain ⟨zs, h3, h4⟩ := hg _ hm
    simp only [sVal] at h3
    rw [hi] at h3
    split at h3
    · rename_i z zs' e1 e2
      cases e1
      cases hv : sEv ρ v with
      | none => rw [hv] at e2; cases e2
      | some y =>
        rw [hv] at e2
        cases e2
        cases h3
        exact ⟨y, rfl, kGP_el.mp h4⟩
    · cases h3
  · cases h
/-- a place that is one number, with a number of its own there; or an array of references -/
def kExact (B : List (Int × Int)) (ty : FieldType) (i : sL) (bd : Int × Int) (ov : List (Nat × sL)) : Bool := ty.isReference || (match sK B i with
  | some k => (sLk ov k.toNat).isSome || decide (bd.1 = bd.2)
  | none => false)
def kRd (SO : List (Nat × List sL)) (sl nx b : Nat) : kS → Option (List kS)
  | ((pc, ls, (0, i) :: (2, q) :: st, G, c, s, Γ), γ) =>
    if q.1.toNat < SO.length then (if q.1.toNat = sl then (match γ.find? (fun a => decide (a.1 = 0)) with
        | some (_, [len]) => if b = 0 ∧ sNN Γ i = true ∧ sNN Γ (sSub (sSub len i) (sC 1)) = true ∧ sI32 Γ.1 i = true then (match kFindSe γ i with
            | some v => some [((nx, ls, (0, v) :: st, G, c, s, Γ), γ)]
            | none => some [((nx, ls, (0, sX Γ.1.length) :: st, G, c, s, sFresh Γ (-2147483648, 2147483647)), (11, [i, sX Γ.1.length]) :: γ)]) else none
        | _ => none) else (s19 SO nx b (pc, ls, (0, i) :: (2, q) :: st, G, c, s, Γ)).map fun L => L.map fun S => (S, γ))
    else match sAt G (q.1.toNat - SO.length) with
    | some (.inl (ty, n, bd, ov)) => if kExact Γ.1 ty i bd ov = true then (s19 SO nx b (pc, ls, (0, i) :: (2, q) :: st, G, c, s, Γ)).map fun L => L.map fun S => (S, γ)
      else (match kFindEl γ (q.1.toNat - SO.length) i with
        | some v => if sInR Γ i n = true ∧ ((b = 0 ∧ ty = .int) ∨ (b = 1 ∧ ty = .byte) ∨ (b = 2 ∧ ty = .short)) then some [((nx, ls, (0, v) :: st, G, c, s, Γ), γ)]
          else if sInR Γ i n = true ∧ b = 3 ∧ ty = .long then some [((nx, ls, (1, v) :: st, G, c, s, Γ), γ)] else none
        | none => if sInR Γ i n = true then (if b = 3 then (s19l SO nx (pc, ls, (0, i) :: (2, q) :: st, G, c, s, Γ)).map fun L => L.map fun S => (S, (1000 + (q.1.toNat - SO.length), [i, sX Γ.1.length]) :: γ)
          else (s19w SO nx b (pc, ls, (0, i) :: (2, q) :: st, G, c, s, Γ)).map fun L => L.map fun S => (S, (1000 + (q.1.toNat - SO.length), [i, sX Γ.1.length]) :: γ)) else none)
    | _ => none
  | _ => none
theorem s19w_top {pc : Nat} {ls : List (Nat × sV)} {i q : sL} {st : List sV} {G : List sE} {c s : Nat} {Γ : sG} {L : List sR} (h : s19w SO nx b (pc, ls, (0, i) :: (2, q) :: st, G, c, s, Γ) = some L) : ∀ S ∈ L, ∃ r, S.2.2.1 = (0, sX Γ.1.length) :: r := by
  simp only [s19w, sAt_eq] at h
  repeat' split at h
  all_goals first | (cases h; intro S hS; rw [List.mem_singleton.mp hS]; exact ⟨_, rfl⟩) | cases h
theorem s19l_top {pc : Nat} {ls : List (Nat × sV)} {i q : sL} {st : List sV} {G : List sE} {c s : Nat} {Γ : sG} {L : List sR} (h : s19l SO nx (pc, ls, (0, i) :: (2, q) :: st, G, c, s, Γ) = some L) : ∀ S ∈ L, ∃ r, S.2.2.1 = (1, sX Γ.1.length) :: r := by
  simp only [s19l, sAt_eq] at h
  repeat' split at h
  all_goals first | (cases h; intro S hS; rw [List.mem_singleton.mp hS]; exact ⟨_, rfl⟩) | cases h
theorem kRd_ok (hlen : kLenOk UP RO sl) (hse : kSeOk UP RO sl) (hsl : sl < SO.length) {K : kS} {L : List kS} (h : kRd SO sl nx b K = some L) {ρ : List Int} {R : eR} (hRO : sRor ρ SO RO) (hD : kD (kGP UP) ρ K R) : ∃ K' ∈ L, ∃ ρ' R', ρ <+: ρ' ∧ e19 RO nx b R = some R' ∧ kD (kGP UP) ρ' K' R' := by
  have hro := sRor_len hRO
  obtain ⟨⟨pc, ls, stk, G, c, s, Γ⟩, γ⟩ := K
  obtain ⟨pc', ls', st', G', c', s'⟩ := R
  have hD0 := hD
  obtain ⟨hM, ⟨h1, hL, hV, hH, h2, h3⟩, hg⟩ := hD
  simp only at hM h1 hL hV hH h2 h3 hg
  subst h1; subst h2; subst h3
  unfold kRd at h
  simp only [sAt_eq] at h
  split at h
  · rename_i i q st G1 c1 s1 Γ1 γ1 heq
    cases heq
    obtain ⟨zi, r0, rfl, hi, hV0⟩ := sVs_int hV
    obtain ⟨r1, rfl, hV1⟩ := sVs_ref hV0
    split at h
    · rename_i hq
      split at h
      · rename_i hsl2
        split at h
        · rename_i k len hf
          split at h
          · rename_i hc
            obtain ⟨rfl, c1, c2, c3⟩ := hc
            have hm := List.mem_of_find?_eq_some hf
            have hk : k = 0 := by simpa using List.find?_some hf
            subst hk
            obtain ⟨zs, e1, e2⟩ := hg _ hm
            have n1 := sNN_ok hM hi c1
            have r32 := sWi_ok hM.1 hi c3
            simp only [sVal] at e1
            split at e1
            · rename_i zl zs' el ez
              cases ez
              cases e1
              have e2' : UP 0 [zl] G' := e2
              obtain ⟨qq, g1, g2⟩ := hlen zl G' e2'
              obtain ⟨nn, f⟩ := qq
              have n2 := sNN_ok hM (sEv_sub (sEv_sub el hi) (sEv_C 1)) c2
              simp only at g2
              obtain ⟨kk, rfl⟩ : ∃ kk : Nat, zi = (kk : Int) := ⟨zi.toNat, by omega⟩
              have ei : (Int32.ofInt (kk : Int)) = nI kk := by simp [nI, Int32.ofNat, Int32.ofInt]
              have ecl : (nI kk).toNatClampNeg = kk := nI_clamp (by omega)
              have hin : eIn (nI kk) nn = true := by
                simp only [eIn, ecl, Bool.and_eq_true, Bool.not_eq_true', decide_eq_false_iff_not, decide_eq_true_eq]
                exact ⟨nI_pos (by omega), by omega⟩
              split at h
              · rename_i v hv
                cases h
                obtain ⟨zv, q9, ev, hq9, hv9⟩ := kFindSe_ok hse hg hv hi
                rw [g1] at hq9
                cases hq9
                have hv9 : f kk = Int32.ofInt zv := hv9
                refine ⟨_, List.mem_singleton.mpr rfl, ρ, (nx, ls', .int (f kk) :: r1, G', c', s'), List.prefix_refl _, ?_, hM, ⟨rfl, hL, ⟨⟨zv, ev, by rw [hv9]⟩, hV1⟩, hH, rfl, rfl⟩, hg⟩
                simp only [e19]
                rw [if_pos (by rw [hro]; exact hq), hsl2, g1]
                simp only
                rw [ei, if_pos ⟨trivial, hin⟩, ecl]
              cases h
              have hb := sRng32 (f kk)
              obtain ⟨m, hx⟩ := sFresh_ok (b := (-2147483648, 2147483647)) hM hb.1 hb.2
              have hpre : ρ <+: ρ ++ [(f kk).toInt] := ⟨_, rfl⟩
              refine ⟨_, List.mem_singleton.mpr rfl, _, (nx, ls', .int (f kk) :: r1, G', c', s'), hpre, ?_, m, ⟨rfl, hL.mono hpre, ⟨⟨_, hx, by rw [Int32.ofInt_toInt]⟩, hV1.mono hpre⟩, hH.mono hpre, rfl, rfl⟩, fun a ha => ?_⟩
              rotate_left
              · rcases List.mem_cons.mp ha with rfl | ha
                · refine ⟨[(kk : Int), (f kk).toInt], by simp only [sVal, sEv_mono hpre hi, hx], ?_⟩
                  show UP 11 [(kk : Int), (f kk).toInt] G'
                  exact (hse _ _ _).mpr ⟨_, g1, by omega, by rw [Int32.ofInt_toInt]; rfl⟩
                · exact hg.mono _ hpre a ha
              simp only [e19]
              rw [if_pos (by rw [hro]; exact hq), hsl2, g1]
              simp only
              rw [ei, if_pos ⟨trivial, hin⟩, ecl]
            · cases e1
          · cases h
        · cases h
      · obtain ⟨L0, hL0, rfl⟩ := Option.map_eq_some_iff.mp h
        exact kLift (t19 hRO hM ⟨rfl, hL, hV, hH, rfl, rfl⟩ hL0) hg (fun R' he => f19 he)
    · rename_i hq
      split at h
      · rename_i ty n bd ov hgj
        split at h
        · obtain ⟨L0, hL0, rfl⟩ := Option.map_eq_some_iff.mp h
          exact kLift (t19 hRO hM ⟨rfl, hL, hV, hH, rfl, rfl⟩ hL0) hg (fun R' he => f19 he)
        · obtain ⟨y, hy, hxy⟩ := sHp_get hH hgj
          rcases y with ⟨ty', n', arr⟩ | y
          · obtain ⟨rfl, rfl, harr⟩ := hxy
            split at h
            · rename_i v hv
              obtain ⟨z, hz, ty2, n2, arr2, k1, k2, k3⟩ := kFindEl_ok hg hv hi
              rw [hy] at k1
              cases k1
              split at h
              · rename_i hc
                cases h
                obtain ⟨i1, i2, i3⟩ := sInR_at hM hi hc.1
                obtain ⟨-, hein⟩ := sInR_ok hM hi hc.1
                rcases arr with f | f | f
                · simp only at k3
                  refine ⟨_, List.mem_singleton.mpr rfl, ρ, (nx, ls', .int (f zi.toNat) :: r1, G', c', s'), List.prefix_refl _, ?_, hM, ⟨rfl, hL, ⟨⟨z, hz, by rw [k3]⟩, hV1⟩, hH, rfl, rfl⟩, hg⟩
                  simp only [e19]
                  rw [if_neg (by rw [hro]; exact hq), hro, hy]
                  simp only
                  rw [if_pos ⟨hc.2, hein⟩, i3]
                · have := harr.1
                  subst this
                  rcases hc.2 with ⟨-, h9⟩ | ⟨-, h9⟩ | ⟨-, h9⟩ <;> cases h9
                · exact k3.elim
              · split at h
                · rename_i hc
                  cases h
                  obtain ⟨i1, i2, i3⟩ := sInR_at hM hi hc.1
                  obtain ⟨-, hein⟩ := sInR_ok hM hi hc.1
                  obtain ⟨-, rfl, rfl⟩ := hc
                  rcases arr with f | f | f
                  · rcases harr.1 with h9 | h9 | h9 <;> cases h9
                  · simp only at k3
                    refine ⟨_, List.mem_singleton.mpr rfl, ρ, (nx, ls', .long (f zi.toNat) :: r1, G', c', s'), List.prefix_refl _, ?_, hM, ⟨rfl, hL, ⟨⟨z, hz, by rw [k3]⟩, hV1⟩, hH, rfl, rfl⟩, hg⟩
                    simp only [e19]
                    rw [if_neg (by rw [hro]; exact hq), hro, hy]
                    simp only
                    rw [if_pos ⟨⟨trivial, trivial⟩, hein⟩, i3]
                  · exact k3.elim
                · cases h
            · split at h
              · rename_i hin
                obtain ⟨i1, i2, i3⟩ := sInR_at hM hi hin
                have fin : ∀ {t : Nat} {L0 : List sR}, t ≤ 1 → sOK ρ L0 (e19 RO nx b (pc', ls', .int (Int32.ofInt zi) :: .ref q.1.toNat :: r1, G', c', s')) → (∀ S ∈ L0, ∃ r, S.2.2.1 = (t, sX Γ.1.length) :: r) →
                    ∃ K' ∈ L0.map (fun S => ((S, (1000 + (q.1.toNat - SO.length), [i, sX Γ.1.length]) :: γ) : kS)), ∃ ρ' R', ρ <+: ρ' ∧ e19 RO nx b (pc', ls', .int (Int32.ofInt zi) :: .ref q.1.toNat :: r1, G', c', s') = some R' ∧ kD (kGP UP) ρ' K' R' := by
                  intro t L0 ht hok htop
                  obtain ⟨S', hS, ρ', R', hp, hM', he, hD'⟩ := hok
                  obtain ⟨r, hr⟩ := htop S' hS
                  have hV' := hD'.2.2.1
                  rw [hr] at hV'
                  obtain ⟨z, hz, hel⟩ := kRdEl he (by rw [hro]; exact hq) i1 i3 ht hV'
                  have hheap : R'.2.2.2.1 = G' := f19 he
                  refine ⟨_, List.mem_map.mpr ⟨S', hS, rfl⟩, ρ', R', hp, he, hM', hD', fun a ha => ?_⟩
                  rw [hheap]
                  rcases List.mem_cons.mp ha with rfl | ha
                  · refine ⟨[zi, z], by simp only [sVal, sEv_mono hp hi, hz], ?_⟩
                    rw [hro] at hel
                    exact kGP_el.mpr hel
                  · exact hg.mono _ hp a ha
                split at h
                · rename_i b3
                  subst b3
                  obtain ⟨L0, hL0, rfl⟩ := Option.map_eq_some_iff.mp h
                  exact fin (t := 1) (by omega) (t19l hRO hM ⟨rfl, hL, hV, hH, rfl, rfl⟩ hL0) (s19l_top hL0)
                · obtain ⟨L0, hL0, rfl⟩ := Option.map_eq_some_iff.mp h
                  exact fin (t := 0) (by omega) (t19w hRO hM ⟨rfl, hL, hV, hH, rfl, rfl⟩ hL0) (s19w_top hL0)
              · cases h
          · exact hxy.elim
      · cases h
  · cases h
end KRD
end
