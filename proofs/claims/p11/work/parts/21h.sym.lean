/-! S: the proofs for arrays, new cells, and the rest. -/
section SPROOF3
variable {ρ : List Int} {S : sR} {R : eR} {L : List sR} {SO : List (Nat × List sL)} {RO : List (Nat × (Nat → Int32))} {CL : List vw_C} {CT : Nat → Nat → FieldType} {nx a b mL : Nat}
theorem t19 (hRO : sRor ρ SO RO) (hM : sMo ρ S.2.2.2.2.2.2) (hD : sD ρ S R) (h : s19 SO nx b S = some L) : sOK ρ L (e19 RO nx b R) := by
  have hro := sRor_len hRO
  obtain ⟨pc, ls, st, G, c, s, Γ⟩ := S
  obtain ⟨pc', ls', st', G', c', s'⟩ := R
  obtain ⟨h1, hL, hV, hH, h2, h3⟩ := hD
  simp only at h1 hL hV hH h2 h3 hM
  subst h1; subst h2; subst h3
  unfold s19 at h
  simp only [sAt_eq] at h
  split at h
  · rename_i i q st1 G1 c1 s1 Γ1 heq
    cases heq
    obtain ⟨zi, r0, rfl, hi, hV0⟩ := sVs_int hV
    obtain ⟨r1, rfl, hV1⟩ := sVs_ref hV0
    split at h
    · rename_i hq
      split at h
      · rename_i b0
        subst b0
        split at h
        · rename_i n l hso
          obtain ⟨ks, hks, rfl⟩ := Option.map_eq_some_iff.mp h
          obtain ⟨k, hk, m, hkn, hcl, hin⟩ := sIdx_ok hM hi hks
          obtain ⟨⟨n', f⟩, hy, hn, hf⟩ := sRor_get hRO hso
          simp only at hn hf
          have hn := hn.resolve_left (by omega)
          subst hn
          obtain ⟨lf, z, hl, hz, hfz⟩ := hf k.1 hkn
          refine ⟨(nx, ls, (0, lf) :: st1, G, c', s', k.2), List.mem_flatMap.mpr ⟨k, hk, by rw [hl]; exact List.mem_singleton.mpr rfl⟩, ρ, (nx, ls', .int (f k.1) :: r1, G', c', s'), List.prefix_refl _, m, ?_, rfl, hL, ⟨⟨z, hz, by rw [hfz]⟩, hV1⟩, hH, rfl, rfl⟩
          simp only [e19]
          rw [if_pos (by rw [hro]; exact hq), hy]
          simp only
          rw [if_pos ⟨trivial, hin⟩, hcl]
        · cases h
      · cases h
    · rename_i hq
      split at h
      · rename_i ty n bd ov hg
        split at h
        · cases h
        · rename_i ks hks
          obtain ⟨k, hk, m, hkn, hcl, hin⟩ := sIdx_ok hM hi hks
          obtain ⟨y, hy, hxy⟩ := sHp_get hH hg
          rcases y with ⟨ty', n', arr⟩ | y
          · obtain ⟨rfl, rfl, harr⟩ := hxy
            split at h
            · rename_i hc
              split at h
              · rename_i hall
                cases h
                have hka := List.all_eq_true.mp hall k hk
                rcases arr with f | f | f
                · have hf := harr.2 k.1 hkn
                  have hval : sVr ρ (0, (sLk ov k.1).getD (sC bd.1)) (.int (f k.1)) := by
                    cases hlk : sLk ov k.1 with
                    | some aa =>
                      rw [hlk] at hf
                      obtain ⟨z, e1, e2⟩ := hf
                      exact ⟨z, e1, by rw [e2]⟩
                    | none =>
                      rw [hlk] at hf hka
                      have hb : bd.1 = bd.2 := by simpa using hka
                      refine ⟨bd.1, sEv_C _, ?_⟩
                      have : (f k.1).toInt = bd.1 := by omega
                      rw [← this, Int32.ofInt_toInt]
                  refine ⟨_, List.mem_map.mpr ⟨k, hk, rfl⟩, ρ, (nx, ls', .int (f k.1) :: r1, G', c', s'), List.prefix_refl _, m, ?_, rfl, hL, ⟨hval, hV1⟩, hH, rfl, rfl⟩
                  simp only [e19]
                  rw [if_neg (by rw [hro]; exact hq), hro, hy]
                  simp only
                  rw [if_pos ⟨hc, hin⟩, hcl]
                · have := harr.1
                  subst this
                  rcases hc with ⟨-, h9⟩ | ⟨-, h9⟩ | ⟨-, h9⟩ <;> cases h9
                · have := harr.1
                  rcases hc with ⟨-, rfl⟩ | ⟨-, rfl⟩ | ⟨-, rfl⟩ <;> cases this
              · cases h
            rename_i hc0
            split at h
            · rename_i hc
              obtain ⟨rfl, rfl⟩ := hc
              split at h
              · rename_i hall
                cases h
                have hka := List.all_eq_true.mp hall k hk
                rcases arr with f | f | f
                · rcases harr.1 with h9 | h9 | h9 <;> cases h9
                · have hf := harr.2 k.1 hkn
                  have hval : sVr ρ (1, (sLk ov k.1).getD (sC bd.1)) (.long (f k.1)) := by
                    cases hlk : sLk ov k.1 with
                    | some aa =>
                      rw [hlk] at hf
                      obtain ⟨z, e1, e2⟩ := hf
                      exact ⟨z, e1, by rw [e2]⟩
                    | none =>
                      rw [hlk] at hf hka
                      have hb : bd.1 = bd.2 := by simpa using hka
                      refine ⟨bd.1, sEv_C _, ?_⟩
                      have : (f k.1).toInt = bd.1 := by omega
                      rw [← this, Int64.ofInt_toInt]
                  refine ⟨_, List.mem_map.mpr ⟨k, hk, rfl⟩, ρ, (nx, ls', .long (f k.1) :: r1, G', c', s'), List.prefix_refl _, m, ?_, rfl, hL, ⟨hval, hV1⟩, hH, rfl, rfl⟩
                  simp only [e19]
                  rw [if_neg (by rw [hro]; exact hq), hro, hy]
                  simp only
                  rw [if_pos ⟨⟨trivial, trivial⟩, hin⟩, hcl]
                · have := harr.1
                  cases this
              · cases h
            rename_i hc1
            split at h
            · rename_i hc
              obtain ⟨rfl, hty⟩ := hc
              cases h
              rcases arr with f | f | f
              · rcases harr.1 with rfl | rfl | rfl <;> cases hty
              · have := harr.1; subst this; cases hty
              · have hf := harr.2 k.1 hkn
                have hval : sVr ρ (match sLk ov k.1 with | some a => (2, a) | none => (3, sC 0)) (eRf (f k.1)) := by
                  rw [hf]
                  cases hlk : sLk ov k.1 with
                  | some aa => exact rfl
                  | none => exact rfl
                refine ⟨_, List.mem_map.mpr ⟨k, hk, rfl⟩, ρ, (nx, ls', eRf (f k.1) :: r1, G', c', s'), List.prefix_refl _, m, ?_, rfl, hL, ⟨hval, hV1⟩, hH, rfl, rfl⟩
                simp only [e19]
                rw [if_neg (by rw [hro]; exact hq), hro, hy]
                simp only
                rw [if_pos ⟨⟨trivial, hty⟩, hin⟩, hcl]
            · cases h
          · exact hxy.elim
      · cases h
  · cases h
theorem sNarB {z : Int} (h1 : -128 ≤ z) (h2 : z ≤ 127) : vp_nar .byte (Int32.ofInt z) = Int32.ofInt z := by
  rw [vp_nar_byte]
  apply Int32.toInt_inj.mp
  rw [Int8.toInt_toInt32, Int32.toInt_toInt8, sTo32 (by omega) (by omega)]
  exact Int.bmod_eq_of_le (by omega) (by omega)
theorem sNarS {z : Int} (h1 : -32768 ≤ z) (h2 : z ≤ 32767) : vp_nar .short (Int32.ofInt z) = Int32.ofInt z := by
  rw [vp_nar_short]
  apply Int32.toInt_inj.mp
  rw [Int16.toInt_toInt32, Int32.toInt_toInt16, sTo32 (by omega) (by omega)]
  exact Int.bmod_eq_of_le (by omega) (by omega)
theorem t20 (hRO : sRor ρ SO RO) (hM : sMo ρ S.2.2.2.2.2.2) (hD : sD ρ S R) (h : s20 SO CL nx b S = some L) : sOK ρ L (e20 RO CL nx b R) := by
  have hro := sRor_len hRO
  obtain ⟨pc, ls, st, G, c, s, Γ⟩ := S
  obtain ⟨pc', ls', st', G', c', s'⟩ := R
  obtain ⟨h1, hL, hV, hH, h2, h3⟩ := hD
  simp only at h1 hL hV hH h2 h3 hM
  subst h1; subst h2; subst h3
  unfold s20 at h
  simp only [sAt_eq, sSet_eq] at h
  split at h
  · rename_i v i q st1 G1 c1 s1 Γ1 heq
    cases heq
    obtain ⟨w, rv, rfl, hvw, hVv⟩ := sVs_cons hV
    obtain ⟨zi, r0, rfl, hi, hV0⟩ := sVs_int hVv
    obtain ⟨r1, rfl, hV1⟩ := sVs_ref hV0
    split at h
    · cases h
    rename_i hq
    split at h
    · rename_i ty n bd ov hg
      split at h
      · cases h
      · rename_i ks hks
        obtain ⟨k, hk, m, hkn, hcl, hin⟩ := sIdx_ok hM hi hks
        obtain ⟨y, hy, hxy⟩ := sHp_get hH hg
        rcases y with ⟨ty', n', arr⟩ | y
        · obtain ⟨rfl, rfl, harr⟩ := hxy
          obtain ⟨tg, lv⟩ := v
          split at h
          · rename_i hc
            cases h
            rcases arr with f | f | f
            · have hint : tg = 0 := by
                rcases hc with ⟨-, -, h9⟩ | ⟨-, -, h9, -⟩ | ⟨-, -, h9, -⟩ | ⟨-, h8, -⟩
                · exact h9
                · exact h9
                · exact h9
                · subst h8; rcases harr.1 with h9 | h9 | h9 <;> cases h9
              subst hint
              obtain ⟨z, hz, rfl⟩ := sVr_int hvw
              have key : ∀ x : Int32, x = Int32.ofInt z → sD ρ (nx, ls, st1, G.set (q.1.toNat - SO.length) (.inl (ty', n', bd, sUp bd ov k.1 lv)), c', s', k.2) (nx, ls', r1, G'.set (q.1.toNat - SO.length) (.inl (ty', n', .inl (upd f k.1 x))), c', s') := by
                intro x hx
                subst hx
                exact ⟨rfl, hL, hV1, sHp_set (x := .inl (ty', n', bd, sUp bd ov k.1 lv)) (y := .inl (ty', n', .inl (upd f k.1 (Int32.ofInt z)))) ⟨rfl, rfl, harr.1, sArI_up harr.2 hz⟩ _ hH, rfl, rfl⟩
              rcases hc with ⟨rfl, rfl, -⟩ | ⟨rfl, rfl, -, hw⟩ | ⟨rfl, rfl, -, hw⟩ | ⟨-, h8, -⟩
              · refine ⟨_, List.mem_map.mpr ⟨k, hk, rfl⟩, ρ, _, List.prefix_refl _, m, ?_, key (Int32.ofInt z) rfl⟩
                simp only [e20]
                rw [if_neg (by rw [hro]; exact hq), hro, hy]
                simp only
                rw [if_pos hin, if_pos ⟨trivial, trivial⟩, hcl]
              · have qw := sWi_ok hM.1 hz hw
                refine ⟨_, List.mem_map.mpr ⟨k, hk, rfl⟩, ρ, _, List.prefix_refl _, m, ?_, key _ (sNarB qw.1 qw.2)⟩
                simp only [e20]
                rw [if_neg (by rw [hro]; exact hq), hro, hy]
                simp only
                rw [if_pos hin, if_neg (by decide), if_pos ⟨trivial, trivial⟩, hcl]
              · have qw := sWi_ok hM.1 hz hw
                refine ⟨_, List.mem_map.mpr ⟨k, hk, rfl⟩, ρ, _, List.prefix_refl _, m, ?_, key _ (sNarS qw.1 qw.2)⟩
                simp only [e20]
                rw [if_neg (by rw [hro]; exact hq), hro, hy]
                simp only
                rw [if_pos hin, if_neg (by decide), if_neg (by decide), if_pos ⟨trivial, trivial⟩, hcl]
              · subst h8; rcases harr.1 with h9 | h9 | h9 <;> cases h9
            · have := harr.1
              subst this
              rcases hc with ⟨-, h9, -⟩ | ⟨-, h9, -⟩ | ⟨-, h9, -⟩ | ⟨rfl, -, h9⟩
              · cases h9
              · cases h9
              · cases h9
              · simp only at h9
                subst h9
                obtain ⟨z, hz, rfl⟩ := sVr_long hvw
                refine ⟨_, List.mem_map.mpr ⟨k, hk, rfl⟩, ρ, (nx, ls', r1, G'.set (q.1.toNat - SO.length) (.inl (.long, n', .inr (.inl (vp_updL f k.1 (Int64.ofInt z))))), c', s'), List.prefix_refl _, m, ?_, rfl, hL, hV1, sHp_set (x := .inl (.long, n', bd, sUp bd ov k.1 lv)) (y := .inl (.long, n', .inr (.inl (vp_updL f k.1 (Int64.ofInt z))))) ⟨rfl, rfl, rfl, sArL_up harr.2 hz⟩ _ hH, rfl, rfl⟩
                simp only [e20]
                rw [if_neg (by rw [hro]; exact hq), hro, hy]
                simp only
                rw [if_pos ⟨⟨trivial, trivial⟩, hin⟩, hcl]
            · have h9 := harr.1
              rcases hc with ⟨-, rfl, -⟩ | ⟨-, rfl, -⟩ | ⟨-, rfl, -⟩ | ⟨-, rfl, -⟩ <;> cases h9
          · split at h
            · rename_i hc
              obtain ⟨rfl, htg, hr⟩ := hc
              simp only at htg hr
              subst htg
              split at h
              · rename_i ci fs hgr
                split at h
                · rename_i kk hkk
                  split at h
                  · rename_i hty
                    obtain ⟨hty, h999⟩ := hty
                    cases h
                    rcases arr with f | f | f
                    · subst hty; rcases harr.1 with h9 | h9 | h9 <;> cases h9
                    · subst hty; have h9 := harr.1; cases h9
                    · obtain ⟨yr, hyr, hxr⟩ := sHp_get hH hgr (sIsA_ne h999)
                      rcases yr with yr | ⟨cj, gs⟩
                      · exact hxr.elim
                      obtain ⟨rfl, hgs⟩ := hxr
                      have hw := sVr_ref hvw
                      subst hw
                      refine ⟨_, List.mem_map.mpr ⟨k, hk, rfl⟩, ρ, (nx, ls', r1, G'.set (q.1.toNat - SO.length) (.inl (ty', n', .inr (.inr (va_up f k.1 (some lv.1.toNat))))), c', s'), List.prefix_refl _, m, ?_, rfl, hL, hV1, sHp_set (x := .inl (ty', n', bd, sUpQ ov k.1 lv)) (y := .inl (ty', n', .inr (.inr (va_up f k.1 (some lv.1.toNat))))) ⟨rfl, rfl, harr.1, sArQ_up harr.2⟩ _ hH, rfl, rfl⟩
                      simp only [e20]
                      rw [if_neg (by rw [hro]; exact hq), hro, hy]
                      simp only
                      rw [if_pos ⟨trivial, hin, hr⟩, hyr]
                      simp only [hkk]
                      rw [if_pos hty, hcl]
                  · cases h
                · cases h
              · cases h
            · cases h
        · exact hxy.elim
    · cases h
  · cases h
end SPROOF3
