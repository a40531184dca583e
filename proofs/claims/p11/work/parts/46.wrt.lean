/-! K: the write of an array's element, of a field. -/
noncomputable section
section KWR
variable {UP : Nat → List Int → List eE → Prop} {ud : Nat → List Nat} {SO : List (Nat × List sL)} {RO : List (Nat × (Nat → Int32))} {CL : List vw_C} {CT : Nat → Nat → FieldType} {nx b : Nat}
theorem e20_I {pc : Nat} {ls : List (Nat × Value)} {w : Value} {i : Int32} {q : Nat} {st : List Value} {G : List eE} {c s : Nat} {R' : eR} {ty : FieldType} {n : Nat} {f : Nat → Int32} (h : e20 RO CL nx b (pc, ls, w :: .int i :: .ref q :: st, G, c, s) = some R') (hq : ¬ q < RO.length) (hg : G[q - RO.length]? = some (.inl (ty, n, .inl f))) :
    ∃ x x', w = .int x ∧ R'.2.2.2.1 = G.set (q - RO.length) (.inl (ty, n, .inl (upd f i.toNatClampNeg x'))) ∧ ((b = 0 ∧ x' = x) ∨ (b = 1 ∧ x' = vp_nar .byte x) ∨ (b = 2 ∧ x' = vp_nar .short x)) := by
  cases w with
  | int x =>
    simp only [e20] at h
    rw [if_neg hq, hg] at h
    simp only at h
    split at h
    · split at h
      · rename_i hb
        cases h
        exact ⟨x, x, rfl, rfl, Or.inl ⟨hb.1, rfl⟩⟩
      split at h
      · rename_i hb
        cases h
        exact ⟨x, _, rfl, rfl, Or.inr (Or.inl ⟨hb.1, rfl⟩)⟩
      split at h
      · rename_i hb
        cases h
        exact ⟨x, _, rfl, rfl, Or.inr (Or.inr ⟨hb.1, rfl⟩)⟩
      · cases h
    · cases h
  | _ =>
    simp only [e20] at h
    rw [if_neg hq] at h
    first | (rw [hg] at h; cases h) | cases h
theorem e20_L {pc : Nat} {ls : List (Nat × Value)} {w : Value} {i : Int32} {q : Nat} {st : List Value} {G : List eE} {c s : Nat} {R' : eR} {ty : FieldType} {n : Nat} {f : Nat → Int64} (h : e20 RO CL nx b (pc, ls, w :: .int i :: .ref q :: st, G, c, s) = some R') (hq : ¬ q < RO.length) (hg : G[q - RO.length]? = some (.inl (ty, n, .inr (.inl f)))) :
    b = 3 ∧ ∃ x, w = .long x ∧ R'.2.2.2.1 = G.set (q - RO.length) (.inl (ty, n, .inr (.inl (vp_updL f i.toNatClampNeg x)))) := by
  cases w with
  | long x =>
    simp only [e20] at h
    rw [if_neg hq, hg] at h
    simp only at h
    split at h
    · rename_i hb
      cases h
      exact ⟨hb.1.1, x, rfl, rfl⟩
    · cases h
  | _ =>
    simp only [e20] at h
    rw [if_neg hq] at h
    first | (rw [hg] at h; cases h) | cases h
/-- what atoms of the caller's own hold behind a write -/
def kWOk (UP : Nat → List Int → List eE → Prop) (KW : sG → List kA → Nat → sL → sL → List kA) : Prop := ∀ (Γ : sG) (γ : List kA) (j : Nat) (i v : sL) (ρ : List Int) (zi zv : Int) (H : List eE) (ty : FieldType) (n : Nat) (f : Nat → Int32), sMo ρ Γ → kGh (kGP UP) ρ γ H → sEv ρ i = some zi → sEv ρ v = some zv → 0 ≤ zi → zi < n → H[j]? = some (.inl (ty, n, .inl f)) →
  kGh (kGP UP) ρ (KW Γ γ j i v) (H.set j (.inl (ty, n, .inl (upd f zi.toNat (Int32.ofInt zv)))))
/-- the same for an array of longs -/
def kWOkL (UP : Nat → List Int → List eE → Prop) (KL : sG → List kA → Nat → sL → sL → List kA) : Prop := ∀ (Γ : sG) (γ : List kA) (j : Nat) (i v : sL) (ρ : List Int) (zi zv : Int) (H : List eE) (ty : FieldType) (n : Nat) (f : Nat → Int64), sMo ρ Γ → kGh (kGP UP) ρ γ H → sEv ρ i = some zi → sEv ρ v = some zv → 0 ≤ zi → zi < n → H[j]? = some (.inl (ty, n, .inr (.inl f))) →
  kGh (kGP UP) ρ (KL Γ γ j i v) (H.set j (.inl (ty, n, .inr (.inl (vp_updL f zi.toNat (Int64.ofInt zv))))))
def kWrA (KW KL : sG → List kA → Nat → sL → sL → List kA) (Γ : sG) (γ : List kA) (b j n : Nat) (i v : sL) : List kA :=
  if (sInR Γ i n && (decide (b = 0) || (decide (b = 1) && sWi Γ.1 v (-128) 127 || decide (b = 2) && sWi Γ.1 v (-32768) 32767))) = true then (1000 + j, [i, v]) :: KW Γ γ j i v
  else if (sInR Γ i n && decide (b = 3)) = true then (1000 + j, [i, v]) :: KL Γ γ j i v else []
def kWr (SO : List (Nat × List sL)) (CL : List vw_C) (ud : Nat → List Nat) (KW KL : sG → List kA → Nat → sL → sL → List kA) (md : Nat → Bool) (nx b : Nat) : kS → Option (List kS)
  | ((pc, ls, (t, v) :: (0, i) :: (2, q) :: st, G, c, s, Γ), γ) => if q.1.toNat < SO.length then none else if md (q.1.toNat - SO.length) = true then (match sAt G (q.1.toNat - SO.length) with
    | some (.inl (ty, n, _, _)) => (if (ty.isReference || (sK Γ.1 i).isSome) = true then s20 SO CL nx b (pc, ls, (t, v) :: (0, i) :: (2, q) :: st, G, c, s, Γ) else if b = 3 then s20l SO nx (pc, ls, (t, v) :: (0, i) :: (2, q) :: st, G, c, s, Γ) else s20w SO nx b (pc, ls, (t, v) :: (0, i) :: (2, q) :: st, G, c, s, Γ)).map fun L => L.map fun S => (S, (if ty.isReference = true then [] else kWrA KW KL Γ γ b (q.1.toNat - SO.length) n i v) ++ kRest ud (q.1.toNat - SO.length) γ)
    | _ => none) else none
  | _ => none
theorem kWr_ok (hU : ∀ k zs (H H' : List eE), (∀ j ∈ ud k, H'[j]? = H[j]?) → UP k zs H → UP k zs H') {KW KL : sG → List kA → Nat → sL → sL → List kA} (hKW : kWOk UP KW) (hKL : kWOkL UP KL) {md : Nat → Bool} {K : kS} {L : List kS} (h : kWr SO CL ud KW KL md nx b K = some L) {ρ : List Int} {R : eR} (hRO : sRor ρ SO RO) (hD : kD (kGP UP) ρ K R) :
    ∃ K' ∈ L, ∃ ρ' R', ρ <+: ρ' ∧ e20 RO CL nx b R = some R' ∧ kD (kGP UP) ρ' K' R' ∧ (∀ j, j < R.2.2.2.1.length → md j = false → R'.2.2.2.1[j]? = R.2.2.2.1[j]?) ∧ R.2.2.2.1.length ≤ R'.2.2.2.1.length := by
  have hro := sRor_len hRO
  obtain ⟨⟨pc, ls, stk, G, c, s, Γ⟩, γ⟩ := K
  obtain ⟨pc', ls', st', G', c', s'⟩ := R
  obtain ⟨hM, ⟨h1, hL, hV, hH, h2, h3⟩, hg⟩ := hD
  simp only at hM h1 hL hV hH h2 h3 hg
  subst h1; subst h2; subst h3
  unfold kWr at h
  simp only [sAt_eq] at h
  split at h
  · rename_i t v i q st G1 c1 s1 Γ1 γ1 heq
    cases heq
    obtain ⟨w, r9, rfl, hw, hV9⟩ := sVs_cons hV
    obtain ⟨zi, r0, rfl, hi, hV0⟩ := sVs_int hV9
    obtain ⟨r1, rfl, hV1⟩ := sVs_ref hV0
    split at h
    · cases h
    rename_i hq
    split at h
    · rename_i hmd
      split at h
      · rename_i ty n bd ov hgj
        obtain ⟨L0, hL0, rfl⟩ := Option.map_eq_some_iff.mp h
        have hDs : sD ρ (pc', ls, (t, v) :: (0, i) :: (2, q) :: st, G, c', s', Γ) (pc', ls', w :: .int (Int32.ofInt zi) :: .ref q.1.toNat :: r1, G', c', s') := ⟨rfl, hL, hV, hH, rfl, rfl⟩
        have hok : sOK ρ L0 (e20 RO CL nx b (pc', ls', w :: .int (Int32.ofInt zi) :: .ref q.1.toNat :: r1, G', c', s')) := by
          split at hL0
          · exact t20 hRO hM hDs hL0
          · split at hL0
            · rename_i b3
              subst b3
              exact t20l hRO hM hDs hL0
            · exact t20w hRO hM hDs hL0
        obtain ⟨S', hS, ρ', R', hp, hM', he, hD'⟩ := hok
        obtain ⟨x, hx⟩ := f20 he rfl
        simp only at hx
        rw [hro] at hx
        refine ⟨_, List.mem_map.mpr ⟨S', hS, rfl⟩, ρ', R', hp, he, ⟨hM', hD', fun a ha => ?_⟩, fun j hj hmj => ?_, ?_⟩
        · change a ∈ (if ty.isReference = true then [] else kWrA KW KL Γ γ b (q.1.toNat - SO.length) n i v) ++ kRest ud (q.1.toNat - SO.length) γ at ha
          rcases List.mem_append.mp ha with ha1 | ha1
          · clear ha
            have ha := ha1
            split at ha
            · cases ha
            rename_i href
            obtain ⟨y, hy, hxy⟩ := sHp_get hH hgj
            rcases y with ⟨ty', n', arr⟩ | y
            · obtain ⟨rfl, rfl, harr⟩ := hxy
              have hjl : q.1.toNat - SO.length < G'.length := (List.getElem?_eq_some_iff.mp hy).1
              have hq' : ¬ q.1.toNat < RO.length := by rw [hro]; exact hq
              unfold kWrA at ha
              split at ha
              · rename_i hc
                simp only [Bool.and_eq_true, Bool.or_eq_true, decide_eq_true_eq] at hc
                obtain ⟨hin, hb⟩ := hc
                obtain ⟨i1, i2, i3⟩ := sInR_at hM hi hin
                rcases arr with f | f | f
                · obtain ⟨xw, x', rfl, hheap, hxx⟩ := e20_I he hq' (by rw [hro]; exact hy)
                  rw [i3, hro] at hheap
                  have hvz : ∃ z, sEv ρ v = some z ∧ x' = Int32.ofInt z := by
                    by_cases ht : t = 0
                    · subst ht
                      obtain ⟨z, e1, e2⟩ := sVr_int hw
                      have e2 := Value.int.inj e2
                      refine ⟨z, e1, ?_⟩
                      rcases hxx with ⟨rfl, e3⟩ | ⟨rfl, e3⟩ | ⟨rfl, e3⟩
                      · rw [e3, e2]
                      · have hwi : sWi Γ.1 v (-128) 127 = true := by
                          rcases hb with hb | ⟨-, hb⟩ | ⟨hb, -⟩
                          · cases hb
                          · exact hb
                          · cases hb
                        have := sWi_ok hM.1 e1 hwi
                        rw [e3, e2, sNarB this.1 this.2]
                      · have hwi : sWi Γ.1 v (-32768) 32767 = true := by
                          rcases hb with hb | ⟨hb, -⟩ | ⟨-, hb⟩
                          · cases hb
                          · cases hb
                          · exact hb
                        have := sWi_ok hM.1 e1 hwi
                        rw [e3, e2, sNarS this.1 this.2]
                    · exfalso
                      unfold sVr at hw
                      rw [if_neg ht] at hw
                      split at hw
                      · obtain ⟨_, -, hw⟩ := hw; cases hw
                      split at hw
                      · cases hw
                      split at hw
                      · cases hw
                      split at hw
                      · obtain ⟨_, -, hw⟩ := hw; cases hw
                      · exact hw
                  obtain ⟨z, hz, hxz⟩ := hvz
                  rw [hxz] at hheap
                  rcases List.mem_cons.mp ha with rfl | ha
                  · refine ⟨[zi, z], by simp only [sVal, sEv_mono hp hi, sEv_mono hp hz], kGP_el.mpr ⟨ty', n', .inl (upd f zi.toNat (Int32.ofInt z)), by rw [hheap, List.getElem?_set_self hjl], i1, by simp [upd]⟩⟩
                  · rw [hheap]
                    exact (hKW Γ γ _ i v ρ zi z G' ty' n' f hM hg hi hz i1 i2 hy).mono _ hp a ha
                · exfalso
                  have h9 := (e20_L he hq' (by rw [hro]; exact hy)).1
                  rcases hb with hb | ⟨hb, -⟩ | ⟨hb, -⟩ <;> omega
                · exact absurd harr.1 href
              · split at ha
                · rename_i hc
                  simp only [Bool.and_eq_true, decide_eq_true_eq] at hc
                  obtain ⟨hin, hb⟩ := hc
                  subst hb
                  obtain ⟨i1, i2, i3⟩ := sInR_at hM hi hin
                  rcases arr with f | f | f
                  · exfalso
                    obtain ⟨xw, x', rfl, -, hxx⟩ := e20_I he hq' (by rw [hro]; exact hy)
                    rcases hxx with ⟨h9, -⟩ | ⟨h9, -⟩ | ⟨h9, -⟩ <;> cases h9
                  · obtain ⟨-, xw, rfl, hheap⟩ := e20_L he hq' (by rw [hro]; exact hy)
                    rw [i3, hro] at hheap
                    have hvz : ∃ z, sEv ρ v = some z ∧ xw = Int64.ofInt z := by
                      by_cases ht : t = 1
                      · subst ht
                        obtain ⟨z, e1, e2⟩ := sVr_long hw
                        exact ⟨z, e1, Value.long.inj e2⟩
                      · exfalso
                        unfold sVr at hw
                        repeat' split at hw
                        all_goals first | (obtain ⟨_, -, hw⟩ := hw; cases hw; done) | (exact ht ‹_›) | (cases hw; done) | exact hw
                    obtain ⟨z, hz, hxz⟩ := hvz
                    rw [hxz] at hheap
                    rcases List.mem_cons.mp ha with rfl | ha
                    · exact ⟨[zi, z], by simp only [sVal, sEv_mono hp hi, sEv_mono hp hz], kGP_el.mpr ⟨ty', n', .inr (.inl (vp_updL f zi.toNat (Int64.ofInt z))), by rw [hheap, List.getElem?_set_self hjl], i1, by simp [vp_updL]⟩⟩
                    · rw [hheap]
                      exact (hKL Γ γ _ i v ρ zi z G' ty' n' f hM hg hi hz i1 i2 hy).mono _ hp a ha
                  · exact absurd harr.1 href
                · cases ha
            · exact hxy.elim
          · rw [hx]
            exact (kRest_ok hU hg).mono _ hp a ha1
        · rw [hx]
          have hne : q.1.toNat - SO.length ≠ j := by
            rintro rfl
            rw [hmd] at hmj
            cases hmj
          rw [List.getElem?_set_ne hne]
        · rw [hx, List.length_set]
          exact Nat.le_refl _
      · cases h
    · cases h
  · cases h
/-- a field -/
def kFl (SO : List (Nat × List sL)) (CT : Nat → Nat → FieldType) (ud : Nat → List Nat) (md : Nat → Bool) (nx b k : Nat) : kS → Option (List kS)
  | ((pc, ls, v :: (2, q) :: st, G, c, s, Γ), γ) => if md (q.1.toNat - SO.length) = true then (s17 SO CT nx b k (pc, ls, v :: (2, q) :: st, G, c, s, Γ)).map fun L => L.map fun S => (S, kRest ud (q.1.toNat - SO.length) γ) else none
  | _ => none
theorem kFl_ok (hU : ∀ k zs (H H' : List eE), (∀ j ∈ ud k, H'[j]? = H[j]?) → UP k zs H → UP k zs H') {k : Nat} {md : Nat → Bool} {K : kS} {L : List kS} (h : kFl SO CT ud md nx b k K = some L) {ρ : List Int} {R : eR} (hRO : sRor ρ SO RO) (hD : kD (kGP UP) ρ K R) :
    ∃ K' ∈ L, ∃ ρ' R', ρ <+: ρ' ∧ e17 RO CT nx b k R = some R' ∧ kD (kGP UP) ρ' K' R' ∧ (∀ j, j < R.2.2.2.1.length → md j = false → R'.2.2.2.1[j]? = R.2.2.2.1[j]?) ∧ R.2.2.2.1.length ≤ R'.2.2.2.1.length := by
  have hro := sRor_len hRO
  obtain ⟨⟨pc, ls, stk, G, c, s, Γ⟩, γ⟩ := K
  obtain ⟨pc', ls', st', G', c', s'⟩ := R
  obtain ⟨hM, ⟨h1, hL, hV, hH, h2, h3⟩, hg⟩ := hD
  simp only at hM h1 hL hV hH h2 h3 hg
  subst h1; subst h2; subst h3
  unfold kFl at h
  split at h
  · rename_i v q st G1 c1 s1 Γ1 γ1 heq
    cases heq
    obtain ⟨w, r9, rfl, hw, hV9⟩ := sVs_cons hV
    obtain ⟨r1, rfl, hV1⟩ := sVs_ref hV9
    split at h
    · rename_i hmd
      obtain ⟨L0, hL0, rfl⟩ := Option.map_eq_some_iff.mp h
      obtain ⟨S', hS, ρ', R', hp, hM', he, hD'⟩ := t17 hro hM (R := (pc', ls', w :: .ref q.1.toNat :: r1, G', c', s')) ⟨rfl, hL, hV, hH, rfl, rfl⟩ hL0
      obtain ⟨x, hx⟩ := f17 he rfl
      simp only at hx
      rw [hro] at hx
      refine ⟨_, List.mem_map.mpr ⟨S', hS, rfl⟩, ρ', R', hp, he, ⟨hM', hD', ?_⟩, fun j hj hmj => ?_, ?_⟩
      · rw [hx]
        exact (kRest_ok hU hg).mono _ hp
      · rw [hx]
        have hne : q.1.toNat - SO.length ≠ j := by
          rintro rfl
          rw [hmd] at hmj
          cases hmj
        rw [List.getElem?_set_ne hne]
      · rw [hx, List.length_set]
        exact Nat.le_refl _
    · cases h
  · cases h
end KWR
end
