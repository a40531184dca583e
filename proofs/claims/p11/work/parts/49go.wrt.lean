/-! The class works the law out: a step is done, the answer is there. -/
noncomputable section
/-- the state, with what is told apart of the stack's top -/
def nXp (γ : List kA) : Option (sL × sL × sL × sL × List sL × List sL) := match nX10 γ with
  | some (sz, a, t, s, fs) => some (sz, a, t, s, fs, [])
  | none => (match kFa γ 66 (fun _ => true) with
    | some [sz, a, t, s, n1, n2, n3, n4, n5, n6, u] => some (sz, a, t, s, [n1, n2, n3, n4, n5, n6], [u])
    | some _ => none
    | none => (match kFa γ 67 (fun _ => true) with
      | some [sz, a, t, s, n1, n2, n3, n4, n5, n6, u, v] => some (sz, a, t, s, [n1, n2, n3, n4, n5, n6], [v, u])
      | _ => none))
/-- an element that is told -/
def nE1 (γ : List kA) (j : Nat) (i : sL) (e : Option sL) : Bool := match kFindEl γ j i, e with
  | some v, some w => decide (v = w)
  | _, _ => false
/-- whether the step is done: the new height, what the number there is -/
def nXc (Γ : sG) (γ : List kA) (a t : sL) (fs pd : List sL) (now t2 a2 : sL) : Bool :=
  (match sIv Γ.1 now with
  | some i => if 0 ≤ i.1 then (decide (pd = []) && (decide (t2 = sAdd t (sC 1)) && (decide (a2 = sAdd a (sC 1)) && nE1 γ 23 t (some now))))
    else if sK Γ.1 now = some (-1001) then (match pd, kFindEl γ 23 (sSub t (sC 1)) with
      | [], some u => sI32 Γ.1 u && (decide (t2 = sSub t (sC 1)) && ((nNt Γ u 0 && decide (a2 = sAdd a (sC 2))) || (nZ0 Γ u && (match kFindEl γ 22 (sAdd a (sC 1)) with
        | some g => sI32 Γ.1 g && decide (a2 = g)
        | none => false))))
      | _, _ => false)
    else if sK Γ.1 now = some (-1002) then (match pd with
      | [u] => decide (t2 = t) && (decide (a2 = sAdd a (sC 1)) && nE1 γ 23 (sSub t (sC 1)) (kNr Γ (sMul (-1) u)))
      | _ => false)
    else if sK Γ.1 now = some (-33) then (match pd with
      | [u] => decide (t2 = t) && (decide (a2 = sAdd a (sC 1)) && (sI32 Γ.1 u && ((nE1 γ 23 (sSub t (sC 1)) (some (sC 1)) && nZ0 Γ u) || (nE1 γ 23 (sSub t (sC 1)) (some (sC 0)) && nNt Γ u 0))))
      | _ => false)
    else if nXneg Γ now = true then ([-1000, -1001, -1002, -33].all (fun c => nNt Γ now c) && (match pd with
      | [v, u] => decide (t2 = sSub t (sC 1)) && (decide (a2 = sAdd a (sC 1)) && (match kFindEl γ 23 (sSub t (sC 2)) with
        | some w => nTwo Γ (sMul (-1) now) u v w
        | none => false))
      | _ => false))
    else (match sK Γ.1 now with
      | some c => decide (pd = []) && (decide (t2 = sAdd t (sC 1)) && (decide (a2 = sAdd a (sC 1)) && ((List.range 6).any (fun w => decide (c = -(nNl (w : Int))) && nE1 γ 23 t fs[w]?))))
      | none => false)
  | none => false)
def nXN (K : kS) : Option nWs := match nXp K.2, kLf K.1.2.1 1, kLf K.1.2.1 2, kLf K.1.2.1 3 with
  | some (sz, a, t, s, fs, pd), some t2, some a2, some s2 => (match kFindEl K.2 22 a with
    | some now => if (decide (s2 = sAdd s (sC 1)) && (sI32 K.1.2.2.2.2.2.2.1 now && nXc K.1.2.2.2.2.2.2 K.2 a t fs pd now t2 a2)) = true then some (nOne [(65, sz :: a2 :: t2 :: s2 :: fs)]) else none
    | none => none)
  | _, _, _, _ => none
/-- between -99 and 99 -/
def nCp (Γ : sG) (u r : sL) : Bool := if r = u then sNN Γ (sSub (sC 99) u) && sNN Γ (sAdd u (sC 99)) else if r = sC 99 then sNN Γ (sSub u (sC 99)) else decide (r = sC (-99)) && sNN Γ (sSub (sC (-99)) u)
def nXR (K : kS) : Option nWs := match nX10 K.2, kTop K with
  | some (_, a, t, _, fs), some r => (match kFindEl K.2 22 a, kFindEl K.2 23 (sSub t (sC 1)), kFa K.2 62 (fun _ => true) with
    | some now, some u, some [_, hl] => if (decide (sK K.1.2.2.2.2.2.2.1 now = some (-1000)) && (sI32 K.1.2.2.2.2.2.2.1 u && (nCp K.1.2.2.2.2.2.2 u r && decide (sK K.1.2.2.2.2.2.2.1 hl = some 1)))) = true then some (nOne [(74, hl :: (fs ++ [r]))]) else none
    | _, _, _ => none)
  | _, _ => none
section NXN
variable {RO : List (Nat × (Nat → Int32))} {ρ : List Int} {Γ : sG} {γ : List kA} {H : List eE}
theorem nCp_ok (hM : sMo ρ Γ) {u r : sL} {zu zr : Int} (eu : sEv ρ u = some zu) (er : sEv ρ r = some zr) (h : nCp Γ u r = true) : zr = nClip zu := by
  unfold nCp at h
  unfold nClip
  split at h
  · rename_i e
    subst e
    simp only [Bool.and_eq_true] at h
    cases eu.symm.trans er
    have h1 := sNN_ok hM (sEv_sub (sEv_C 99) eu) h.1
    have h2 := sNN_ok hM (sEv_add eu (sEv_C 99)) h.2
    rw [if_neg (by omega), if_neg (by omega)]
  · split at h
    · rename_i e
      subst e
      have h1 := sNN_ok hM (sEv_sub eu (sEv_C 99)) h
      cases er.symm.trans (sEv_C (ρ := ρ) 99)
      rw [if_neg (by omega)]
      split <;> omega
    · simp only [Bool.and_eq_true, decide_eq_true_eq] at h
      obtain ⟨rfl, h⟩ := h
      have h1 := sNN_ok hM (sEv_sub (sEv_C (-99)) eu) h
      cases er.symm.trans (sEv_C (ρ := ρ) (-99))
      split
      · rfl
      · rw [if_neg (by omega)]
        omega
theorem nTop_ev {K : kS} {R : eR} (hD : sD ρ K.1 R) {r : sL} (h : kTop K = some r) : ∃ z, sEv ρ r = some z := by
  unfold kTop at h
  split at h
  · rename_i v vs hst
    split at h
    · rename_i h0
      cases h
      have hV := hD.2.2.1
      rw [hst] at hV
      obtain ⟨w, r', e, hw, -⟩ := sVs_cons hV
      obtain ⟨t, x⟩ := v
      simp only at h0
      subst h0
      obtain ⟨z, hz, -⟩ := sVr_int hw
      exact ⟨z, hz⟩
    · cases h
  · cases h
theorem nXR_ok : nRok RO nXR := by
  intro K ws h ρ R hD
  have hM := hD.1
  unfold nXR at h
  split at h
  · rename_i sz a t s fs r hx hr
    split at h
    · rename_i now u l hl hn hu hlw
      split at h
      · rename_i hc
        cases h
        simp only [Bool.and_eq_true, decide_eq_true_eq] at hc
        obtain ⟨c1, c2, c3, c4⟩ := hc
        obtain ⟨z1, z2, z3, z4, zf, e1, e2, e3, e4, e5, e6, hX⟩ := nX10_ok hD.2.2 hx
        obtain ⟨z, ez, hk⟩ := kFindEl_ok hD.2.2 hn e2
        obtain ⟨y, ey, hy⟩ := kFindEl_ok hD.2.2 hu (sEv_sub e3 (sEv_C 1))
        have h1 := sK_ok hM.1 ez c1
        subst h1
        obtain ⟨dn, q1, q2⟩ := nXS_ans hX hk hy
        obtain ⟨-, zs, f1, f2⟩ := nFa_ok hD.2.2 hlw (by decide) (by decide)
        obtain ⟨zl, zh, rfl, el, eh⟩ := sVal_2 f1
        have h2 := sK_ok hM.1 eh c4
        subst h2
        obtain ⟨zr, er⟩ := nTop_ev hD.2.1 hr
        have ry := sWi_ok hM.1 ey c2
        have hcl := nCp_ok hM ey er c3
        match zf, e6, e5, hX, q2 with
        | [n1, n2, n3, n4, n5, n6], _, e5, hX, q2 =>
          refine nOne_ok (fun q hq => ?_)
          rw [List.mem_singleton.mp hq]
          have ev : sVal ρ (hl :: (fs ++ [r])) = some [1, n1, n2, n3, n4, n5, n6, zr] := by
            have key : ∀ {gs : List sL} {zs : List Int}, sVal ρ gs = some zs → sVal ρ (gs ++ [r]) = some (zs ++ [zr]) := fun {gs} => by
              induction gs with
              | nil =>
                intro zs h
                cases h
                simp only [List.nil_append, sVal, er]
              | cons g gs ih =>
                intro zs h
                obtain ⟨z, zr', rfl, b1, b2⟩ := sVal_cons h
                have := ih b2
                simp only [List.cons_append, sVal, b1, this]
            have := key e5
            simp only [sVal, eh, this]
            rfl
          exact nAt1 (k := 74) (by decide) (by decide) ev ⟨1, n1, n2, n3, n4, n5, n6, zr, rfl, Or.inr ⟨rfl, dn, q1, by rw [q2, sTo32 ry.1 ry.2]; exact hcl⟩⟩
      · cases h
    · cases h
  · cases h
end NXN
end
