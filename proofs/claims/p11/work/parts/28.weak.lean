/-! Reads and writes at an index that is no one number. -/
noncomputable section
section SWEAK
variable {ρ : List Int} {S : sR} {R : eR} {L : List sR} {SO : List (Nat × List sL)} {RO : List (Nat × (Nat → Int32))} {nx b : Nat}
def s19w (SO : List (Nat × List sL)) (nx b : Nat) : sR → Option (List sR)
  | (_, ls, (0, i) :: (2, q) :: st, G, c, s, Γ) => if q.1.toNat < SO.length then none else match sAt G (q.1.toNat - SO.length) with
    | some (.inl (ty, n, bd, ov)) => if (b = 0 ∧ ty = .int) ∨ (b = 1 ∧ ty = .byte) ∨ (b = 2 ∧ ty = .short) then (match sHull Γ.1 bd ov with
        | some h => if sInR Γ i n = true ∧ -2147483648 ≤ h.1 ∧ h.2 ≤ 2147483647 then some [(nx, ls, (0, sX Γ.1.length) :: st, G, c, s, sFresh Γ h)] else none
        | none => none) else none
    | _ => none
  | _ => none
theorem t19w (hRO : sRor ρ SO RO) (hM : sMo ρ S.2.2.2.2.2.2) (hD : sD ρ S R) (h : s19w SO nx b S = some L) : sOK ρ L (e19 RO nx b R) := by
  have hro := sRor_len hRO
  obtain ⟨pc, ls, st, G, c, s, Γ⟩ := S
  obtain ⟨pc', ls', st', G', c', s'⟩ := R
  obtain ⟨h1, hL, hV, hH, h2, h3⟩ := hD
  simp only at h1 hL hV hH h2 h3 hM
  subst h1; subst h2; subst h3
  unfold s19w at h
  simp only [sAt_eq] at h
  split at h
  · rename_i i q st1 G1 c1 s1 Γ1 heq
    cases heq
    obtain ⟨zi, r0, rfl, hi, hV0⟩ := sVs_int hV
    obtain ⟨r1, rfl, hV1⟩ := sVs_ref hV0
    split at h
    · cases h
    · rename_i hq
      split at h
      · rename_i ty n bd ov hg
        split at h
        · rename_i hc
          split at h
          · rename_i hu hhu
            split at h
            · rename_i hin
              cases h
              obtain ⟨hin, hb1, hb2⟩ := hin
              obtain ⟨hlt, hein⟩ := sInR_ok hM hi hin
              obtain ⟨y, hy, hxy⟩ := sHp_get hH hg
              rcases y with ⟨ty', n', arr⟩ | y
              · obtain ⟨rfl, rfl, harr⟩ := hxy
                rcases arr with f | f | f
                · have hb := sHull_I hM.1 harr.2 hhu hb1 hb2 hlt
                  obtain ⟨m, hx⟩ := sFresh_ok hM hb.1 hb.2
                  have hpre : ρ <+: ρ ++ [(f (Int32.ofInt zi).toNatClampNeg).toInt] := ⟨_, rfl⟩
                  refine sOK.one hpre m (R' := (nx, ls', .int (f (Int32.ofInt zi).toNatClampNeg) :: r1, G', c', s')) ?_ ⟨rfl, hL.mono hpre, ⟨⟨_, hx, by rw [Int32.ofInt_toInt]⟩, hV1.mono hpre⟩, hH.mono hpre, rfl, rfl⟩
                  simp only [e19]
                  rw [if_neg (by rw [hro]; exact hq), hro, hy]
                  simp only
                  rw [if_pos ⟨hc, hein⟩]
                · have := harr.1
                  subst this
                  rcases hc with ⟨-, h9⟩ | ⟨-, h9⟩ | ⟨-, h9⟩ <;> cases h9
                · have := harr.1
                  rcases hc with ⟨-, rfl⟩ | ⟨-, rfl⟩ | ⟨-, rfl⟩ <;> cases this
              · exact hxy.elim
            · cases h
          · cases h
        · cases h
      · cases h
  · cases h
end SWEAK
end
