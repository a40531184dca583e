/-! The class begins to work the law out; there is no law. -/
noncomputable section
def nFf (G : List sE) (j z : Nat) : Option sL := match G[j]? with
  | some (.inr (c, fs)) => if c = 999 then none else (match fs[z]? with
    | some v => if v.1 = 0 then some v.2 else none
    | none => none)
  | _ => none
def nFfs (G : List sE) (j : Nat) : List Nat → Option (List sL)
  | [] => some []
  | i :: r => match nFf G j i, nFfs G j r with
    | some f, some fs => some (f :: fs)
    | _, _ => none
theorem nVs_int {ρ : List Int} : ∀ {vs : List sV} {ws : List Value} {z : Nat} {f : sL}, sVs ρ vs ws → vs[z]? = some (0, f) → ∃ y, sEv ρ f = some y
  | [], _, _, _, _, h => by cases h
  | v :: vs, ws, z, f, q, h => by
    obtain ⟨w, r, rfl, h1, h2⟩ := sVs_cons q
    cases z with
    | zero =>
      cases h
      obtain ⟨y, e, -⟩ := sVr_int h1
      exact ⟨y, e⟩
    | succ z =>
      rw [List.getElem?_cons_succ] at h
      exact nVs_int h2 h
theorem nFf_ok {ρ : List Int} {G : List sE} {H : List eE} (hH : sHp ρ G H) {j z : Nat} {f : sL} (h : nFf G j z = some f) : ∃ y, sEv ρ f = some y := by
  unfold nFf at h
  split at h
  · rename_i c fs hg
    split at h
    · cases h
    · rename_i hc
      split at h
      · rename_i v hv
        split at h
        · rename_i h0
          cases h
          obtain ⟨y, hy, hxy⟩ := sHp_get hH hg (by simpa [sIsA] using hc)
          obtain ⟨t, x⟩ := v
          simp only at h0
          subst h0
          match y, hxy with
          | .inr (ci, gs), hxy => exact nVs_int hxy.2 hv
        · cases h
      · cases h
  · cases h
theorem nFfs_ok {ρ : List Int} {G : List sE} {H : List eE} (hH : sHp ρ G H) {j : Nat} : ∀ {ix : List Nat} {fs : List sL}, nFfs G j ix = some fs → ∃ zs, sVal ρ fs = some zs
  | [], fs, h => by
    cases h
    exact ⟨[], rfl⟩
  | i :: r, fs, h => by
    simp only [nFfs] at h
    split at h
    · rename_i f gs h1 h2
      cases h
      obtain ⟨y, ey⟩ := nFf_ok hH h1
      obtain ⟨zs, ez⟩ := nFfs_ok hH h2
      exact ⟨y :: zs, by simp only [sVal, ey, ez]⟩
    · cases h
def nXZ (ix : List Nat) (K : kS) : Option nWs := match nFfs K.1.2.2.2.1 21 ix, kTop K, kFa K.2 62 (fun _ => true) with
  | some [f0, f1, f2, f3, f4, f5], some r, some [_, hl] => if (decide (sK K.1.2.2.2.2.2.2.1 hl = some 0) && decide (r = sAdd f0 f4)) = true then some (nOne [(74, [hl, f0, f1, f2, f3, f4, f5, r])]) else none
  | _, _, _ => none
def nXI (ix : List Nat) (zx : Nat) (K : kS) : Option nWs := match nFfs K.1.2.2.2.1 21 ix, nFf K.1.2.2.2.1 21 zx, kFa K.2 62 (fun _ => true) with
  | some [f0, f1, f2, f3, f4, f5], some sz, some [s2, hl] => if (decide (s2 = sz) && (sWi K.1.2.2.2.2.2.2.1 hl 0 1 && (sNN K.1.2.2.2.2.2.2 (sSub sz (sC 1)) && (sNN K.1.2.2.2.2.2.2 (sSub (sC 256) sz) && kShb K.1.2.2.2.1 23 .int 256)))) = true
      then some (nOne [(65, [sz, sC 0, sC 0, sC 0, f0, f1, f2, f3, f4, f5])]) else none
  | _, _, _ => none
section NXIZ
variable {RO : List (Nat × (Nat → Int32))}
theorem sVal_6 {ρ : List Int} {f0 f1 f2 f3 f4 f5 : sL} {zs : List Int} (h : sVal ρ [f0, f1, f2, f3, f4, f5] = some zs) : ∃ z0 z1 z2 z3 z4 z5, zs = [z0, z1, z2, z3, z4, z5] ∧ sEv ρ f0 = some z0 ∧ sEv ρ f1 = some z1 ∧ sEv ρ f2 = some z2 ∧ sEv ρ f3 = some z3 ∧ sEv ρ f4 = some z4 ∧ sEv ρ f5 = some z5 := by
  obtain ⟨z0, _, rfl, h0, h⟩ := sVal_cons h
  obtain ⟨z1, _, rfl, h1, h⟩ := sVal_cons h
  obtain ⟨z2, _, rfl, h2, h⟩ := sVal_cons h
  obtain ⟨z3, _, rfl, h3, h⟩ := sVal_cons h
  obtain ⟨z4, _, rfl, h4, h⟩ := sVal_cons h
  obtain ⟨z5, rfl, h5⟩ := sVal_1 h
  exact ⟨z0, z1, z2, z3, z4, z5, rfl, h0, h1, h2, h3, h4, h5⟩
theorem nXZ_ok (ix : List Nat) : nRok RO (nXZ ix) := by
  intro K ws h ρ R hD
  have hM := hD.1
  unfold nXZ at h
  split at h
  · rename_i f0 f1 f2 f3 f4 f5 r s2 hl hfs hr hlw
    split at h
    · rename_i hc
      cases h
      simp only [Bool.and_eq_true, decide_eq_true_eq] at hc
      obtain ⟨c1, c2⟩ := hc
      obtain ⟨zs, ez⟩ := nFfs_ok hD.2.1.2.2.2.1 hfs
      obtain ⟨z0, z1, z2, z3, z4, z5, rfl, e0, e1, e2, e3, e4, e5⟩ := sVal_6 ez
      obtain ⟨-, zl, f1', -⟩ := nFa_ok hD.2.2 hlw (by decide) (by decide)
      obtain ⟨zs2, zh, rfl, es2, eh⟩ := sVal_2 f1'
      have h2 := sK_ok hM.1 eh c1
      subst h2
      have er := sEv_add e0 e4
      rw [← c2] at er
      refine nOne_ok (fun q hq => ?_)
      rw [List.mem_singleton.mp hq]
      exact nAt1 (k := 74) (zs := [0, z0, z1, z2, z3, z4, z5, z0 + z4]) (by decide) (by decide) (by simp only [sVal, eh, e0, e1, e2, e3, e4, e5, er]) ⟨0, z0, z1, z2, z3, z4, z5, z0 + z4, rfl, Or.inl ⟨rfl, rfl⟩⟩
    · cases h
  · cases h
theorem nXI_ok (ix : List Nat) (zx : Nat) : nRok RO (nXI ix zx) := by
  intro K ws h ρ R hD
  have hM := hD.1
  unfold nXI at h
  split at h
  · rename_i f0 f1 f2 f3 f4 f5 sz s2 hl hfs hsz hlw
    split at h
    · rename_i hc
      cases h
      simp only [Bool.and_eq_true, decide_eq_true_eq] at hc
      obtain ⟨c1, c2, c3, c4, c5⟩ := hc
      subst c1
      obtain ⟨zs, ez⟩ := nFfs_ok hD.2.1.2.2.2.1 hfs
      obtain ⟨z0, z1, z2, z3, z4, z5, rfl, e0, e1, e2, e3, e4, e5⟩ := sVal_6 ez
      obtain ⟨-, zl, f1', f2'⟩ := nFa_ok hD.2.2 hlw (by decide) (by decide)
      obtain ⟨zs2, zh, rfl, es2, eh⟩ := sVal_2 f1'
      have hh := sWi_ok hM.1 eh c2
      have h3 := sNN_ok hM (sEv_sub es2 (sEv_C 1)) c3
      have h4 := sNN_ok hM (sEv_sub (sEv_C 256) es2) c4
      obtain ⟨P, hP⟩ := kSh1 hD.2.1.2.2.2.1 (by decide) rfl c5
      obtain ⟨a, b, he, hL⟩ : ∃ a b, [zs2, zh] = [a, b] ∧ nLW a b R.2.2.2.1 := f2'
      cases he
      rcases hL with ⟨C, hC, -, -, -, -, -, -, -, -, hL⟩ | hL
      · rcases hL with ⟨-, hL⟩ | ⟨-, d, hd, hA, hz⟩
        · omega
        · have hd' := hd
          obtain ⟨-, -, -, -, -, -, -, -, -, -, -, -, hok, -, hhl⟩ := hd'
          have q0 := sEv_C (ρ := ρ) 0
          refine nOne_ok (fun q hq => ?_)
          rw [List.mem_singleton.mp hq]
          refine nAt1 (k := 65) (zs := [zs2, 0, 0, 0, z0, z1, z2, z3, z4, z5]) (by decide) (by decide) (by simp only [sVal, es2, q0, e0, e1, e2, e3, e4, e5]) ⟨zs2, 0, 0, 0, z0, z1, z2, z3, z4, z5, rfl, C, P, d, [], hC, hP, hd, by omega, by omega, by omega, by omega, by omega, rfl, fun i x q => (by simp at q), ?_⟩
          exact nPh_start (c := 0) hA (by omega) hok hhl
      · omega
    · cases h
  · cases h
end NXIZ
end
