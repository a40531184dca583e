/-! Writes at an index that is no one number. -/
noncomputable section
section SWEAK2
variable {ρ : List Int} {S : sR} {R : eR} {L : List sR} {SO : List (Nat × List sL)} {RO : List (Nat × (Nat → Int32))} {CL : List vw_C} {nx b : Nat}
def s20w (SO : List (Nat × List sL)) (nx b : Nat) : sR → Option (List sR)
  | (_, ls, (0, lv) :: (0, i) :: (2, q) :: st, G, c, s, Γ) => if q.1.toNat < SO.length then none else match sAt G (q.1.toNat - SO.length) with
    | some (.inl (ty, n, bd, ov)) => if (b = 0 ∧ ty = .int) ∨ (b = 1 ∧ ty = .byte ∧ sWi Γ.1 lv (-128) 127 = true) ∨ (b = 2 ∧ ty = .short ∧ sWi Γ.1 lv (-32768) 32767 = true) then (match sHull Γ.1 bd ((0, lv) :: ov) with
        | some h => if sInR Γ i n = true ∧ -2147483648 ≤ h.1 ∧ h.2 ≤ 2147483647 then some [(nx, ls, st, sSet G (q.1.toNat - SO.length) (.inl (ty, n, h, [])), c, s, Γ)] else none
        | none => none) else none
    | _ => none
  | _ => none
theorem sHull_tl {B : List (Int × Int)} {b h : Int × Int} {x : Nat × sL} {ov : List (Nat × sL)} (hh : sHull B b (x :: ov) = some h) : ∃ h', sHull B b ov = some h' ∧ h.1 ≤ h'.1 ∧ h'.2 ≤ h.2 := by
  simp only [sHull] at hh
  split at hh
  · rename_i h' i hh' _
    cases hh
    exact ⟨h', hh', by simp only; omega, by simp only; omega⟩
  · cases hh
theorem sArI_w {ρ : List Int} {B : List (Int × Int)} (hB : sBd ρ B) {b h : Int × Int} {ov : List (Nat × sL)} {n k : Nat} {f : Nat → Int32} {lv : sL} {z : Int} (hz : sEv ρ lv = some z) (hA : sArI ρ b ov n f) (hh : sHull B b ((0, lv) :: ov) = some h) (h1 : -2147483648 ≤ h.1) (h2 : h.2 ≤ 2147483647) : sArI ρ h [] n (upd f k (Int32.ofInt z)) := by
  intro j hj
  show h.1 ≤ (upd f k (Int32.ofInt z) j).toInt ∧ (upd f k (Int32.ofInt z) j).toInt ≤ h.2
  by_cases hjk : j = k
  · subst hjk
    have q := sHull_in hB hh (0, lv) List.mem_cons_self z hz
    have e : upd f j (Int32.ofInt z) j = Int32.ofInt z := by simp [upd]
    rw [e, Int32.toInt_ofInt_of_le (by omega) (by omega)]
    exact q
  · have e : upd f k (Int32.ofInt z) j = f j := by simp [upd, hjk]
    rw [e]
    obtain ⟨h', hh', q1, q2⟩ := sHull_tl hh
    have := sHull_I hB hA hh' (by omega) (by omega) hj
    omega
theorem t20w (hRO : sRor ρ SO RO) (hM : sMo ρ S.2.2.2.2.2.2) (hD : sD ρ S R) (h : s20w SO nx b S = some L) : sOK ρ L (e20 RO CL nx b R) := by
  have hro := sRor_len hRO
  obtain ⟨pc, ls, st, G, c, s, Γ⟩ := S
  obtain ⟨pc', ls', st', G', c', s'⟩ := R
  obtain ⟨h1, hL, hV, hH, h2, h3⟩ := hD
  simp only at h1 hL hV hH h2 h3 hM
  subst h1; subst h2; subst h3
  unfold s20w at h
  simp only [sAt_eq, sSet_eq] at h
  split at h
  · rename_i lv i q st1 G1 c1 s1 Γ1 heq
    cases heq
    obtain ⟨z, rv, rfl, hz, hVv⟩ := sVs_int hV
    obtain ⟨zi, r0, rfl, hi, hV0⟩ := sVs_int hVv
    obtain ⟨r1, rfl, hV1⟩ := sVs_ref hV0
    split at h
    · cases h
    rename_i hq
    split at h
    · rename_i ty n bd ov hg
      split at h
      · rename_i hc
        split at h
        · rename_i hu hhu
          split at h
          · rename_i hin
            cases h
            obtain ⟨hin, hb1, hb2⟩ := hin
            obtain ⟨hlt, hein⟩ := sInR_ok hM hi hin
            obtain ⟨y, hy, hxy⟩ := sHp_get hH hg
            rcases y with ⟨ty', n', arr⟩ | y
            · obtain ⟨rfl, rfl, harr⟩ := hxy
              rcases arr with f | f | f
              · have key : ∀ x : Int32, x = Int32.ofInt z → sD ρ (nx, ls, st1, G.set (q.1.toNat - SO.length) (.inl (ty', n', hu, [])), c', s', Γ) (nx, ls', r1, G'.set (q.1.toNat - SO.length) (.inl (ty', n', .inl (upd f (Int32.ofInt zi).toNatClampNeg x))), c', s') := by
                  intro x hx
                  subst hx
                  exact ⟨rfl, hL, hV1, sHp_set (x := .inl (ty', n', hu, [])) (y := .inl (ty', n', .inl (upd f (Int32.ofInt zi).toNatClampNeg (Int32.ofInt z)))) ⟨rfl, rfl, harr.1, sArI_w hM.1 hz harr.2 hhu hb1 hb2⟩ _ hH, rfl, rfl⟩
                rcases hc with ⟨rfl, rfl⟩ | ⟨rfl, rfl, hw⟩ | ⟨rfl, rfl, hw⟩
                · refine sOK.one (List.prefix_refl _) hM ?_ (key (Int32.ofInt z) rfl)
                  simp only [e20]
                  rw [if_neg (by rw [hro]; exact hq), hro, hy]
                  simp only
                  rw [if_pos hein, if_pos ⟨trivial, trivial⟩]
                · have qw := sWi_ok hM.1 hz hw
                  refine sOK.one (List.prefix_refl _) hM ?_ (key _ (sNarB qw.1 qw.2))
                  simp only [e20]
                  rw [if_neg (by rw [hro]; exact hq), hro, hy]
                  simp only
                  rw [if_pos hein, if_neg (by decide), if_pos ⟨trivial, trivial⟩]
                · have qw := sWi_ok hM.1 hz hw
                  refine sOK.one (List.prefix_refl _) hM ?_ (key _ (sNarS qw.1 qw.2))
                  simp only [e20]
                  rw [if_neg (by rw [hro]; exact hq), hro, hy]
                  simp only
                  rw [if_pos hein, if_neg (by decide), if_neg (by decide), if_pos ⟨trivial, trivial⟩]
              · have := harr.1
                subst this
                rcases hc with ⟨-, h9⟩ | ⟨-, h9, -⟩ | ⟨-, h9, -⟩ <;> cases h9
              · have := harr.1
                rcases hc with ⟨-, rfl⟩ | ⟨-, rfl, -⟩ | ⟨-, rfl, -⟩ <;> cases this
            · exact hxy.elim
          · cases h
        · cases h
      · cases h
    · cases h
  · cases h
end SWEAK2
end
