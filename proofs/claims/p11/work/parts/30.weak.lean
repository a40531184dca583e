/-! The same for arrays of longs. -/
noncomputable section
section SWEAK3
variable {ρ : List Int} {S : sR} {R : eR} {L : List sR} {SO : List (Nat × List sL)} {RO : List (Nat × (Nat → Int32))} {CL : List vw_C} {nx : Nat}
theorem sHull_L {ρ : List Int} {B : List (Int × Int)} (hB : sBd ρ B) {b h : Int × Int} {ov : List (Nat × sL)} {n : Nat} {f : Nat → Int64} (hA : sArL ρ b ov n f) (hh : sHull B b ov = some h) (h1 : -9223372036854775808 ≤ h.1) (h2 : h.2 ≤ 9223372036854775807) {i : Nat} (hi : i < n) : h.1 ≤ (f i).toInt ∧ (f i).toInt ≤ h.2 := by
  have q := hA i hi
  split at q
  · rename_i a ha
    obtain ⟨x, hx, rfl⟩ := sLk_mem ha
    obtain ⟨z, e1, e2⟩ := q
    have e3 := sHull_in hB hh x hx z e1
    rw [e2, Int64.toInt_ofInt_of_le (by omega) (by omega)]
    exact e3
  · have := sHull_b hh
    omega
theorem sArL_w {ρ : List Int} {B : List (Int × Int)} (hB : sBd ρ B) {b h : Int × Int} {ov : List (Nat × sL)} {n k : Nat} {f : Nat → Int64} {lv : sL} {z : Int} (hz : sEv ρ lv = some z) (hA : sArL ρ b ov n f) (hh : sHull B b ((0, lv) :: ov) = some h) (h1 : -9223372036854775808 ≤ h.1) (h2 : h.2 ≤ 9223372036854775807) : sArL ρ h [] n (vp_updL f k (Int64.ofInt z)) := by
  intro j hj
  show h.1 ≤ (vp_updL f k (Int64.ofInt z) j).toInt ∧ (vp_updL f k (Int64.ofInt z) j).toInt ≤ h.2
  by_cases hjk : j = k
  · subst hjk
    have q := sHull_in hB hh (0, lv) List.mem_cons_self z hz
    have e : vp_updL f j (Int64.ofInt z) j = Int64.ofInt z := by simp [vp_updL]
    rw [e, Int64.toInt_ofInt_of_le (by omega) (by omega)]
    exact q
  · have e : vp_updL f k (Int64.ofInt z) j = f j := by simp [vp_updL, hjk]
    rw [e]
    obtain ⟨h', hh', q1, q2⟩ := sHull_tl hh
    have := sHull_L hB hA hh' (by omega) (by omega) hj
    omega
def s19l (SO : List (Nat × List sL)) (nx : Nat) : sR → Option (List sR)
  | (_, ls, (0, i) :: (2, q) :: st, G, c, s, Γ) => if q.1.toNat < SO.length then none else match sAt G (q.1.toNat - SO.length) with
    | some (.inl (ty, n, bd, ov)) => if ty = .long then (match sHull Γ.1 bd ov with
        | some h => if sInR Γ i n = true ∧ -9223372036854775808 ≤ h.1 ∧ h.2 ≤ 9223372036854775807 then some [(nx, ls, (1, sX Γ.1.length) :: st, G, c, s, sFresh Γ h)] else none
        | none => none) else none
    | _ => none
  | _ => none
theorem t19l (hRO : sRor ρ SO RO) (hM : sMo ρ S.2.2.2.2.2.2) (hD : sD ρ S R) (h : s19l SO nx S = some L) : sOK ρ L (e19 RO nx 3 R) := by
  have hro := sRor_len hRO
  obtain ⟨pc, ls, st, G, c, s, Γ⟩ := S
  obtain ⟨pc', ls', st', G', c', s'⟩ := R
  obtain ⟨h1, hL, hV, hH, h2, h3⟩ := hD
  simp only at h1 hL hV hH h2 h3 hM
  subst h1; subst h2; subst h3
  unfold s19l at h
  simp only [sAt_eq] at h
  split at h
  · rename_i i q st1 G1 c1 s1 Γ1 heq
    cases heq
    obtain ⟨zi, r0, rfl, hi, hV0⟩ := sVs_int hV
    obtain ⟨r1, rfl, hV1⟩ := sVs_ref hV0
    split at h
    · cases h
    · rename_i hq
      split at h
      · rename_i ty n bd ov hg
        split at h
        · rename_i hc
          subst hc
          split at h
          · rename_i hu hhu
            split at h
            · rename_i hin
              cases h
              obtain ⟨hin, hb1, hb2⟩ := hin
              obtain ⟨hlt, hein⟩ := sInR_ok hM hi hin
              obtain ⟨y, hy, hxy⟩ := sHp_get hH hg
              rcases y with ⟨ty', n', arr⟩ | y
              · obtain ⟨rfl, rfl, harr⟩ := hxy
                rcases arr with f | f | f
                · rcases harr.1 with h9 | h9 | h9 <;> cases h9
                · have hb := sHull_L hM.1 harr.2 hhu hb1 hb2 hlt
                  obtain ⟨m, hx⟩ := sFresh_ok hM hb.1 hb.2
                  have hpre : ρ <+: ρ ++ [(f (Int32.ofInt zi).toNatClampNeg).toInt] := ⟨_, rfl⟩
                  refine sOK.one hpre m (R' := (nx, ls', .long (f (Int32.ofInt zi).toNatClampNeg) :: r1, G', c', s')) ?_ ⟨rfl, hL.mono hpre, ⟨⟨_, hx, by rw [Int64.ofInt_toInt]⟩, hV1.mono hpre⟩, hH.mono hpre, rfl, rfl⟩
                  simp only [e19]
                  rw [if_neg (by rw [hro]; exact hq), hro, hy]
                  simp only
                  rw [if_pos ⟨⟨trivial, trivial⟩, hein⟩]
                · have := harr.1
                  cases this
              · exact hxy.elim
            · cases h
          · cases h
        · cases h
      · cases h
  · cases h
def s20l (SO : List (Nat × List sL)) (nx : Nat) : sR → Option (List sR)
  | (_, ls, (1, lv) :: (0, i) :: (2, q) :: st, G, c, s, Γ) => if q.1.toNat < SO.length then none else match sAt G (q.1.toNat - SO.length) with
    | some (.inl (ty, n, bd, ov)) => if ty = .long then (match sHull Γ.1 bd ((0, lv) :: ov) with
        | some h => if sInR Γ i n = true ∧ -9223372036854775808 ≤ h.1 ∧ h.2 ≤ 9223372036854775807 then some [(nx, ls, st, sSet G (q.1.toNat - SO.length) (.inl (ty, n, h, [])), c, s, Γ)] else none
        | none => none) else none
    | _ => none
  | _ => none
theorem t20l (hRO : sRor ρ SO RO) (hM : sMo ρ S.2.2.2.2.2.2) (hD : sD ρ S R) (h : s20l SO nx S = some L) : sOK ρ L (e20 RO CL nx 3 R) := by
  have hro := sRor_len hRO
  obtain ⟨pc, ls, st, G, c, s, Γ⟩ := S
  obtain ⟨pc', ls', st', G', c', s'⟩ := R
  obtain ⟨h1, hL, hV, hH, h2, h3⟩ := hD
  simp only at h1 hL hV hH h2 h3 hM
  subst h1; subst h2; subst h3
  unfold s20l at h
  simp only [sAt_eq, sSet_eq] at h
  split at h
  · rename_i lv i q st1 G1 c1 s1 Γ1 heq
    cases heq
    obtain ⟨z, rv, rfl, hz, hVv⟩ := sVs_long hV
    obtain ⟨zi, r0, rfl, hi, hV0⟩ := sVs_int hVv
    obtain ⟨r1, rfl, hV1⟩ := sVs_ref hV0
    split at h
    · cases h
    rename_i hq
    split at h
    · rename_i ty n bd ov hg
      split at h
      · rename_i hc
        subst hc
        split at h
        · rename_i hu hhu
          split at h
          · rename_i hin
            cases h
            obtain ⟨hin, hb1, hb2⟩ := hin
            obtain ⟨hlt, hein⟩ := sInR_ok hM hi hin
            obtain ⟨y, hy, hxy⟩ := sHp_get hH hg
            rcases y with ⟨ty', n', arr⟩ | y
            · obtain ⟨rfl, rfl, harr⟩ := hxy
              rcases arr with f | f | f
              · rcases harr.1 with h9 | h9 | h9 <;> cases h9
              · refine sOK.one (List.prefix_refl _) hM (R' := (nx, ls', r1, G'.set (q.1.toNat - SO.length) (.inl (.long, n', .inr (.inl (vp_updL f (Int32.ofInt zi).toNatClampNeg (Int64.ofInt z))))), c', s')) ?_ ⟨rfl, hL, hV1, sHp_set (x := .inl (.long, n', hu, [])) (y := .inl (.long, n', .inr (.inl (vp_updL f (Int32.ofInt zi).toNatClampNeg (Int64.ofInt z))))) ⟨rfl, rfl, harr.1, sArL_w hM.1 hz harr.2 hhu hb1 hb2⟩ _ hH, rfl, rfl⟩
                simp only [e20]
                rw [if_neg (by rw [hro]; exact hq), hro, hy]
                simp only
                rw [if_pos ⟨⟨trivial, trivial⟩, hein⟩]
              · have := harr.1
                cases this
            · exact hxy.elim
          · cases h
        · cases h
      · cases h
    · cases h
  · cases h
end SWEAK3
end
