/-! S: new cells, copies, and the rest: the proofs. -/
section SPROOF4
variable {ρ : List Int} {S : sR} {R : eR} {L : List sR} {SO : List (Nat × List sL)} {RO : List (Nat × (Nat → Int32))} {CL : List vw_C} {CT : Nat → Nat → FieldType} {nx a b mL : Nat}
theorem sOfNat (n : Nat) : Int32.ofNat n = Int32.ofInt (n : Int) := by simp [Int32.ofNat, Int32.ofInt]
theorem t21 (hRO : sRor ρ SO RO) (hM : sMo ρ S.2.2.2.2.2.2) (hD : sD ρ S R) (h : s21 SO nx S = some L) : sOK ρ L (e21 RO nx R) := by
  have hro := sRor_len hRO
  obtain ⟨pc, ls, st, G, c, s, Γ⟩ := S
  obtain ⟨pc', ls', st', G', c', s'⟩ := R
  obtain ⟨h1, hL, hV, hH, h2, h3⟩ := hD
  simp only at h1 hL hV hH h2 h3 hM
  subst h1; subst h2; subst h3
  unfold s21 at h
  simp only [sAt_eq] at h
  split at h
  · rename_i heq
    cases heq
    obtain ⟨r1, rfl, hV1⟩ := sVs_ref hV
    split at h
    · rename_i hq
      split at h
      · rename_i n l hso
        split at h
        · rename_i h0n
          cases h
          obtain ⟨⟨n', f⟩, hy, hn, -⟩ := sRor_get hRO hso
          simp only at hn
          have hn := hn.resolve_left (by omega)
          subst hn
          refine sOK.one (List.prefix_refl _) hM (R' := (nx, ls', .int (Int32.ofNat n') :: r1, G', c', s')) ?_ ⟨rfl, hL, ⟨⟨n', sEv_C _, by rw [sOfNat]⟩, hV1⟩, hH, rfl, rfl⟩
          simp only [e21]
          rw [if_pos (by rw [hro]; exact hq), hy]
        · cases h
      · cases h
    · rename_i hq
      split at h
      · rename_i ty n bd ov hg
        cases h
        obtain ⟨y, hy, hxy⟩ := sHp_get hH hg
        rcases y with ⟨ty', n', arr⟩ | y
        · obtain ⟨rfl, rfl, harr⟩ := hxy
          refine sOK.one (List.prefix_refl _) hM (R' := (nx, ls', .int (Int32.ofNat n') :: r1, G', c', s')) ?_ ⟨rfl, hL, ⟨⟨n', sEv_C _, by rw [sOfNat]⟩, hV1⟩, hH, rfl, rfl⟩
          simp only [e21]
          rw [if_neg (by rw [hro]; exact hq), hro, hy]
        · exact hxy.elim
      · cases h
  · cases h
theorem sVs_dflt {f : Nat → FieldType} : ∀ l : List Nat, (∀ j ∈ l, (sDf (f j)).1 ≠ 9) → sVs ρ (l.map fun j => sDf (f j)) (l.map fun j => defaultValue (f j))
  | [], _ => trivial
  | j :: r, h => ⟨sDf_ok (h j List.mem_cons_self), sVs_dflt r (fun k hk => h k (List.mem_cons_of_mem _ hk))⟩
theorem sHp_push {G : List sE} {G' : List eE} {x : sE} {y : eE} (h : sHp ρ G G') (hx : sEr ρ x y) : sHp ρ (G ++ [x]) (G' ++ [y]) := sHp_app h ⟨Or.inr hx, trivial⟩
theorem t22 (hRO : sRor ρ SO RO) (hM : sMo ρ S.2.2.2.2.2.2) (hD : sD ρ S R) (h : s22 SO CL CT nx b S = some L) : sOK ρ L (e22 RO CL CT nx b R) := by
  have hro := sRor_len hRO
  obtain ⟨pc, ls, st, G, c, s, Γ⟩ := S
  obtain ⟨pc', ls', st', G', c', s'⟩ := R
  obtain ⟨h1, hL, hV, hH, h2, h3⟩ := hD
  simp only at h1 hL hV hH h2 h3 hM
  subst h1; subst h2; subst h3
  simp only [s22] at h
  split at h
  · rename_i k hk
    split at h
    · rename_i hall
      cases h
      have hx : sEr ρ (.inr (b, (List.range k.2.2).map (fun j => sDf (CT b j)))) (.inr (b, (List.range k.2.2).map (fun j => defaultValue (CT b j)))) := ⟨rfl, sVs_dflt _ (fun j hj => of_decide_eq_true (List.all_eq_true.mp hall j hj))⟩
      refine sOK.one (List.prefix_refl _) hM (R' := (nx, ls', .ref (RO.length + G'.length) :: st', G' ++ [.inr (b, (List.range k.2.2).map (fun j => defaultValue (CT b j)))], c' + 1, s' + k.2.2)) ?_ ⟨rfl, hL, ⟨?_, hV⟩, sHp_push hH hx, rfl, rfl⟩
      · simp only [e22, hk]
      · show Value.ref _ = Value.ref _
        rw [hro, sHp_len hH]
        rfl
    · cases h
  · cases h
theorem sArr0 {ty : FieldType} {n b : Nat} (h : sNwT b = some ty) : ∃ y, eNewK b n = some y ∧ sEr ρ (.inl (ty, n, (0, 0), [])) y := by
  unfold sNwT at h
  unfold eNewK
  by_cases b0 : b = 0
  · rw [if_pos b0] at h ⊢; cases h
    exact ⟨_, rfl, rfl, rfl, Or.inl rfl, fun i hi => by simp [sLk_def]⟩
  rw [if_neg b0] at h ⊢
  by_cases b1 : b = 1
  · rw [if_pos b1] at h ⊢; cases h
    exact ⟨_, rfl, rfl, rfl, Or.inr (Or.inl rfl), fun i hi => by simp [sLk_def]⟩
  rw [if_neg b1] at h ⊢
  by_cases b2 : b = 2
  · rw [if_pos b2] at h ⊢; cases h
    exact ⟨_, rfl, rfl, rfl, Or.inr (Or.inr rfl), fun i hi => by simp [sLk_def]⟩
  rw [if_neg b2] at h ⊢
  by_cases b3 : b = 3
  · rw [if_pos b3] at h ⊢; cases h
    exact ⟨_, rfl, rfl, rfl, rfl, fun i hi => by simp [sLk_def]⟩
  rw [if_neg b3] at h
  cases h
theorem sCl {z : Int} (h0 : 0 ≤ z) (h1 : z ≤ 65536) : (Int32.ofInt z).toNatClampNeg = z.toNat ∧ ¬ Int32.ofInt z < 0 := by
  obtain ⟨k, rfl⟩ := Int.eq_ofNat_of_zero_le h0
  have e1 : (Int32.ofInt (k : Int)) = nI k := by simp [nI, Int32.ofNat, Int32.ofInt]
  rw [e1]
  exact ⟨nI_clamp (by omega), nI_pos (by omega)⟩
theorem t23 (hRO : sRor ρ SO RO) (hM : sMo ρ S.2.2.2.2.2.2) (hD : sD ρ S R) (h : s23 SO nx b S = some L) : sOK ρ L (e23 RO nx b R) := by
  have hro := sRor_len hRO
  obtain ⟨pc, ls, st, G, c, s, Γ⟩ := S
  obtain ⟨pc', ls', st', G', c', s'⟩ := R
  obtain ⟨h1, hL, hV, hH, h2, h3⟩ := hD
  simp only at h1 hL hV hH h2 h3 hM
  subst h1; subst h2; subst h3
  unfold s23 at h
  split at h
  · rename_i heq
    cases heq
    obtain ⟨z, r1, rfl, hz, hV1⟩ := sVs_int hV
    split at h
    · rename_i k ty hk hty
      split at h
      · rename_i hc
        cases h
        have e := sK_ok hM.1 hz hk
        subst e
        obtain ⟨y, hy, hr⟩ := sArr0 (ρ := ρ) (n := z.toNat) hty
        obtain ⟨q1, q2⟩ := sCl hc.1 hc.2
        refine sOK.one (List.prefix_refl _) hM (R' := (nx, ls', .ref (RO.length + G'.length) :: r1, G' ++ [y], c' + 1, s' + z.toNat)) ?_ ⟨rfl, hL, ⟨?_, hV1⟩, sHp_app hH ⟨Or.inr hr, trivial⟩, rfl, rfl⟩
        · simp only [e23]
          rw [if_neg q2, q1, if_pos (by omega), hy]
          rfl
        · show Value.ref _ = Value.ref _
          rw [hro, sHp_len hH]
          rfl
      · cases h
    · cases h
  · cases h
theorem t24 (hRO : sRor ρ SO RO) (hM : sMo ρ S.2.2.2.2.2.2) (hD : sD ρ S R) (h : s24 SO CL nx b S = some L) : sOK ρ L (e24 RO CL nx b R) := by
  have hro := sRor_len hRO
  obtain ⟨pc, ls, st, G, c, s, Γ⟩ := S
  obtain ⟨pc', ls', st', G', c', s'⟩ := R
  obtain ⟨h1, hL, hV, hH, h2, h3⟩ := hD
  simp only at h1 hL hV hH h2 h3 hM
  subst h1; subst h2; subst h3
  unfold s24 at h
  split at h
  · rename_i heq
    cases heq
    obtain ⟨z, r1, rfl, hz, hV1⟩ := sVs_int hV
    split at h
    · rename_i k kc hk hkc
      split at h
      · rename_i hc
        cases h
        have e := sK_ok hM.1 hz hk
        subst e
        obtain ⟨q1, q2⟩ := sCl hc.1 hc.2
        have hx : sEr ρ (.inl (.object kc.1, z.toNat, (0, 0), [])) (.inl (.object kc.1, z.toNat, .inr (.inr (fun _ => none)))) := ⟨rfl, rfl, rfl, fun i hi => by simp [sLk_def]⟩
        refine sOK.one (List.prefix_refl _) hM (R' := (nx, ls', .ref (RO.length + G'.length) :: r1, G' ++ [.inl (.object kc.1, z.toNat, .inr (.inr (fun _ => none)))], c' + 1, s' + z.toNat)) ?_ ⟨rfl, hL, ⟨?_, hV1⟩, sHp_push hH hx, rfl, rfl⟩
        · simp only [e24]
          rw [if_neg q2, q1, if_pos (by omega), hkc]
        · show Value.ref _ = Value.ref _
          rw [hro, sHp_len hH]
          rfl
      · cases h
    · cases h
  · cases h
theorem sLk_map (g : Nat → sL) (n : Nat) {i : Nat} (hi : i < n) : sLk ((List.range n).map fun j => (j, g j)) i = some (g i) := by
  simp only [sLk_def]
  rw [List.find?_map]
  have : List.find? ((fun q : Nat × sL => q.1 == i) ∘ fun j => (j, g j)) (List.range n) = some i := by
    rw [List.find?_range_eq_some]
    refine ⟨by simp, List.mem_range.mpr hi, fun j hj => ?_⟩
    simp
    omega
  rw [this]
  rfl
theorem sHp_rep {x : sE} {y : eE} (h : sEr ρ x y) : ∀ n : Nat, sHp ρ (List.replicate n x) (List.replicate n y)
  | 0 => trivial
  | n + 1 => ⟨Or.inr h, sHp_rep h n⟩
theorem t25 (hRO : sRor ρ SO RO) (hM : sMo ρ S.2.2.2.2.2.2) (hD : sD ρ S R) (h : s25 SO nx S = some L) : sOK ρ L (e25 RO nx R) := by
  have hro := sRor_len hRO
  obtain ⟨pc, ls, st, G, c, s, Γ⟩ := S
  obtain ⟨pc', ls', st', G', c', s'⟩ := R
  obtain ⟨h1, hL, hV, hH, h2, h3⟩ := hD
  simp only at h1 hL hV hH h2 h3 hM
  subst h1; subst h2; subst h3
  unfold s25 at h
  split at h
  · rename_i heq
    cases heq
    obtain ⟨z, r1, rfl, hz, hV1⟩ := sVs_int hV
    obtain ⟨y, r2, rfl, hy, hV2⟩ := sVs_int hV1
    split at h
    · rename_i k n hk hn
      split at h
      · rename_i hc
        cases h
        have e := sK_ok hM.1 hz hk
        subst e
        have e := sK_ok hM.1 hy hn
        subst e
        obtain ⟨q1, q2⟩ := sCl hc.1 hc.2.1
        obtain ⟨q3, q4⟩ := sCl hc.2.2.1 hc.2.2.2
        have hlen := sHp_len hH
        have hx : sEr ρ (.inl (.array .int, y.toNat, (0, 0), (List.range y.toNat).map fun i => (i, sC (SO.length + G.length + 1 + i : Nat)))) (.inl (.array .int, y.toNat, .inr (.inr (fun i => if i < y.toNat then some (RO.length + G'.length + 1 + i) else none)))) := ⟨rfl, rfl, rfl, fun i hi => by
          simp only
          rw [sLk_map _ _ hi, if_pos hi, hro, hlen]
          rfl⟩
        have hx2 : sEr ρ (.inl (.int, z.toNat, (0, 0), [])) (.inl (.int, z.toNat, .inl (fun _ => 0))) := ⟨rfl, rfl, Or.inl rfl, fun i hi => by simp [sLk_def]⟩
        refine sOK.one (List.prefix_refl _) hM (R' := (nx, ls', .ref (RO.length + G'.length) :: r2, (G' ++ [.inl (.array .int, y.toNat, .inr (.inr (fun i => if i < y.toNat then some (RO.length + G'.length + 1 + i) else none)))]) ++ List.replicate y.toNat (.inl (.int, z.toNat, .inl (fun _ => 0))),
          c' + 1 + y.toNat, s' + y.toNat + y.toNat * z.toNat)) ?_ ⟨rfl, hL, ⟨?_, hV2⟩, sHp_app (sHp_push hH hx) (sHp_rep hx2 _), rfl, rfl⟩
        · simp only [e25]
          rw [if_neg (by rintro (h9 | h9) <;> contradiction), q1, q3, if_pos ⟨by omega, by omega⟩]
        · show Value.ref _ = Value.ref _
          rw [hro, hlen]
          rfl
      · cases h
    · cases h
  · cases h
theorem t26 (hM : sMo ρ S.2.2.2.2.2.2) (hD : sD ρ S R) (h : s26 nx b S = some L) : sOK ρ L (e26 nx b R) := by
  obtain ⟨pc, ls, st, G, c, s, Γ⟩ := S
  obtain ⟨pc', ls', st', G', c', s'⟩ := R
  obtain ⟨h1, hL, hV, hH, h2, h3⟩ := hD
  simp only at h1 hL hV hH h2 h3 hM
  subst h1; subst h2; subst h3
  unfold s26 at h
  split at h
  · rename_i heq
    cases heq
    obtain ⟨w, r, rfl, hvw, hV1⟩ := sVs_cons hV
    split at h
    · rename_i hcat
      have hwc : w.category = 1 := (sVr_cat hvw).trans hcat
      by_cases b0 : b = 0
      · rw [if_pos b0] at h; cases h
        refine sOK.one (List.prefix_refl _) hM (R' := (nx, ls', w :: w :: r, G', c', s')) ?_ ⟨rfl, hL, ⟨hvw, hvw, hV1⟩, hH, rfl, rfl⟩
        simp only [e26]
        rw [if_pos hwc, if_pos b0]
      rw [if_neg b0] at h
      by_cases b1 : b = 1
      · rw [if_pos b1] at h; cases h
        refine sOK.one (List.prefix_refl _) hM (R' := (nx, ls', r, G', c', s')) ?_ ⟨rfl, hL, hV1, hH, rfl, rfl⟩
        simp only [e26]
        rw [if_pos hwc, if_neg b0, if_pos b1]
      rw [if_neg b1] at h
      by_cases b2 : b = 2
      · rw [if_pos b2] at h
        split at h
        · split at h
          · rename_i hu
            cases h
            obtain ⟨w2, r2, rfl, huw, hV2⟩ := sVs_cons hV1
            refine sOK.one (List.prefix_refl _) hM (R' := (nx, ls', w :: w2 :: w :: w2 :: r2, G', c', s')) ?_ ⟨rfl, hL, ⟨hvw, huw, hvw, huw, hV2⟩, hH, rfl, rfl⟩
            simp only [e26]
            rw [if_pos hwc, if_neg b0, if_neg b1, if_pos b2, if_pos ((sVr_cat huw).trans hu)]
          · cases h
        · cases h
      rw [if_neg b2] at h
      cases h
    · split at h
      · rename_i hc2
        obtain ⟨hcat, rfl⟩ := hc2
        cases h
        have hwc : w.category = 2 := (sVr_cat hvw).trans hcat
        refine sOK.one (List.prefix_refl _) hM (R' := (nx, ls', r, G', c', s')) ?_ ⟨rfl, hL, hV1, hH, rfl, rfl⟩
        simp only [e26]
        rw [if_neg (by omega), if_pos ⟨hwc, trivial⟩]
      · cases h
  · cases h
theorem t30 (hM : sMo ρ S.2.2.2.2.2.2) (hD : sD ρ S R) (h : s30 nx S = some L) : sOK ρ L (e30 nx R) := by
  obtain ⟨pc, ls, st, G, c, s, Γ⟩ := S
  obtain ⟨pc', ls', st', G', c', s'⟩ := R
  obtain ⟨h1, hL, hV, hH, h2, h3⟩ := hD
  simp only at h1 hL hV hH h2 h3 hM
  subst h1; subst h2; subst h3
  unfold s30 at h
  split at h
  · rename_i heq
    cases heq
    obtain ⟨r1, rfl, hV1⟩ := sVs_ref hV
    split at h
    · rename_i hc
      cases h
      refine sOK.one (List.prefix_refl _) hM (R' := (nx, ls', r1, G', c', s')) ?_ ⟨rfl, hL, hV1, hH, rfl, rfl⟩
      simp only [e30]
      rw [if_pos (by rw [sVs_cats hV1]; exact hc)]
    · cases h
  · cases h
theorem sLk_copy {o1 : List (Nat × sL)} {g : Nat → sL} {dp n : Nat} (i : Nat) : sLk (((List.range n).map fun j => (dp + j, g j)) ++ o1.filter (fun q => !(decide (dp ≤ q.1) && decide (q.1 < dp + n)))) i = if dp ≤ i ∧ i < dp + n then some (g (i - dp)) else sLk o1 i := by
  split
  · rename_i h
    simp only [sLk_def]
    rw [List.find?_append, List.find?_map]
    have : List.find? ((fun q : Nat × sL => q.1 == i) ∘ fun j => (dp + j, g j)) (List.range n) = some (i - dp) := by
      rw [List.find?_range_eq_some]
      refine ⟨?_, List.mem_range.mpr (by omega), fun j hj => ?_⟩
      · simp
        omega
      · simp
        omega
    rw [this]
    rfl
  · rename_i h
    have h0 : List.find? (fun q : Nat × sL => q.1 == i) ((List.range n).map fun j => (dp + j, g j)) = none := by
      rw [List.find?_eq_none]
      intro q hq
      obtain ⟨j, hj, rfl⟩ := List.mem_map.mp hq
      have := List.mem_range.mp hj
      simp
      omega
    have h1 := sLk_filter (f := fun q => !(decide (dp ≤ q.1) && decide (q.1 < dp + n))) (i := i) (fun q hq => by
      subst hq
      simp only [Bool.not_eq_true', Bool.and_eq_false_iff, decide_eq_false_iff_not]
      omega) o1
    simp only [sLk_def] at h1 ⊢
    rw [List.find?_append, h0]
    exact h1
theorem t31 (hRO : sRor ρ SO RO) (hM : sMo ρ S.2.2.2.2.2.2) (hD : sD ρ S R) (h : s31 SO nx S = some L) : sOK ρ L (e31 RO nx R) := by
  have hro := sRor_len hRO
  obtain ⟨pc, ls, st, G, c, s, Γ⟩ := S
  obtain ⟨pc', ls', st', G', c', s'⟩ := R
  obtain ⟨h1, hL, hV, hH, h2, h3⟩ := hD
  simp only at h1 hL hV hH h2 h3 hM
  subst h1; subst h2; subst h3
  unfold s31 at h
  split at h
  · rename_i heq
    cases heq
    obtain ⟨zn, r0, rfl, hn, hV0⟩ := sVs_int hV
    obtain ⟨zd, r1, rfl, hd, hV1⟩ := sVs_int hV0
    obtain ⟨r2, rfl, hV2⟩ := sVs_ref hV1
    obtain ⟨zs, r3, rfl, hs, hV3⟩ := sVs_int hV2
    obtain ⟨r4, rfl, hV4⟩ := sVs_ref hV3
    split at h
    · cases h
    rename_i hc0
    simp only [not_or] at hc0
    split at h
    · rename_i n dp sp ty n0 b0 o0 ty1 n1 b1 o1 hkn hkd hks hg0 hg1
      split at h
      · rename_i hc
        cases h
        obtain ⟨c1, c2, c3, c4, c5, c6, rfl, rfl, c7, c8, c9⟩ := hc
        have e := sK_ok hM.1 hn hkn
        subst e
        have e := sK_ok hM.1 hd hkd
        subst e
        have e := sK_ok hM.1 hs hks
        subst e
        obtain ⟨a1, a2⟩ := sCl c1 c4
        obtain ⟨a3, a4⟩ := sCl c2 c5
        obtain ⟨a5, a6⟩ := sCl c3 c6
        obtain ⟨y0, hy0, hx0⟩ := sHp_get hH hg0
        obtain ⟨y1, hy1, hx1⟩ := sHp_get hH hg1
        rcases y0 with ⟨t0, m0, arr0⟩ | y0
        · rcases y1 with ⟨t1, m1, arr1⟩ | y1
          · obtain ⟨rfl, rfl, q0⟩ := hx0
            obtain ⟨rfl, rfl, q1⟩ := hx1
            rcases arr0 with f | f | f
            · rcases arr1 with g | g | g
              · have hf := q0.2
                have hg := q1.2
                refine sOK.one (List.prefix_refl _) hM (R' := (nx, ls', r4, G'.set _ (.inl (.int, m1, .inl (va_cpy f g zs.toNat zd.toNat zn.toNat))), c', s')) ?_ ⟨rfl, hL, hV4, sHp_set (x := .inl (.int, m1, b1, ((List.range zn.toNat).map fun j => (zd.toNat + j, (sLk o0 (zs.toNat + j)).getD (sC b0.1))) ++ o1.filter (fun q => !(decide (zd.toNat ≤ q.1) && decide (q.1 < zd.toNat + zn.toNat))))) (y := .inl (.int, m1, .inl (va_cpy f g zs.toNat zd.toNat zn.toNat))) ⟨rfl, rfl, Or.inl rfl, fun i hi => ?_⟩ _ hH, rfl, rfl⟩
                · simp only [e31]
                  rw [if_neg (by rw [hro, sVs_cats hV4]; rintro (h9 | h9 | h9 | h9 | h9 | h9) <;> first | exact hc0.1 h9 | exact hc0.2.1 h9 | exact a2 h9 | exact a4 h9 | exact a6 h9 | exact hc0.2.2 h9), hro, hy0, hy1]
                  simp only
                  rw [a1, a3, a5, if_pos ⟨trivial, trivial, c7, c8⟩]
                · rw [sLk_copy (g := fun j => (sLk o0 (zs.toNat + j)).getD (sC b0.1)) i]
                  unfold va_cpy
                  split
                  · rename_i hh
                    split at hh
                    · rename_i hin
                      simp only [Option.some.injEq] at hh
                      subst hh
                      rw [if_pos hin]
                      have hf1 := hf (zs.toNat + (i - zd.toNat)) (by omega)
                      cases hlk : sLk o0 (zs.toNat + (i - zd.toNat)) with
                      | some aa => rw [hlk] at hf1; exact hf1
                      | none =>
                        rw [hlk] at hf1
                        refine ⟨b0.1, sEv_C _, ?_⟩
                        have : (f (zs.toNat + (i - zd.toNat))).toInt = b0.1 := by omega
                        rw [← this, Int32.ofInt_toInt]
                    · rename_i hin
                      rw [if_neg hin]
                      have hg1 := hg i hi
                      rw [hh] at hg1
                      exact hg1
                  · rename_i hh
                    split at hh
                    · cases hh
                    · rename_i hin
                      rw [if_neg hin]
                      have hg1 := hg i hi
                      rw [hh] at hg1
                      exact hg1
              · have := q1.1; cases this
              · have := q1.1; cases this
            · have := q0.1; cases this
            · have := q0.1; cases this
          · exact hx1.elim
        · exact hx0.elim
      · cases h
    · cases h
  · cases h
theorem t32 (hM : sMo ρ S.2.2.2.2.2.2) (hD : sD ρ S R) (h : s32 nx b S = some L) : sOK ρ L (e32 nx b R) := by
  obtain ⟨pc, ls, st, G, c, s, Γ⟩ := S
  obtain ⟨pc', ls', st', G', c', s'⟩ := R
  obtain ⟨h1, hL, hV, hH, h2, h3⟩ := hD
  simp only at h1 hL hV hH h2 h3 hM
  subst h1; subst h2; subst h3
  unfold s32 at h
  split at h
  · rename_i heq
    cases heq
    obtain ⟨zy, r1, rfl, hy, hV1⟩ := sVs_int hV
    obtain ⟨zx, r2, rfl, hx, hV2⟩ := sVs_int hV1
    split at h
    · rename_i hc
      cases h
      have hcat : ¬ 8 < (r2.map fun v => v.category).sum := by rw [sVs_cats hV2]; have := hc.2.2; omega
      rcases sCnd_ok (if b = 0 then 2 else 4) hM hx hy hc.1 hc.2.1 with ⟨e1, Γ', e2, m⟩ | ⟨e1, Γ', e2, m⟩
      · refine ⟨_, List.mem_append_left _ (sOpt_in e2), ρ, (nx, ls', .int (Int32.ofInt zy) :: r2, G', c', s'), List.prefix_refl _, m, ?_, rfl, hL, ⟨⟨zy, hy, rfl⟩, hV2⟩, hH, rfl, rfl⟩
        simp only [e32]
        rw [if_neg hcat]
        by_cases b0 : b = 0
        · rw [if_pos b0] at e1 ⊢
          rw [if_pos (by simpa [eCmp] using e1)]
        · rw [if_neg b0] at e1 ⊢
          rw [if_pos (by simpa [eCmp] using e1)]
      · refine ⟨_, List.mem_append_right _ (sOpt_in e2), ρ, (nx, ls', .int (Int32.ofInt zx) :: r2, G', c', s'), List.prefix_refl _, m, ?_, rfl, hL, ⟨⟨zx, hx, rfl⟩, hV2⟩, hH, rfl, rfl⟩
        simp only [e32]
        rw [if_neg hcat]
        by_cases b0 : b = 0
        · rw [if_pos b0] at e1 ⊢
          rw [if_neg (by simpa [eCmp] using e1)]
        · rw [if_neg b0] at e1 ⊢
          rw [if_neg (by simpa [eCmp] using e1)]
    · cases h
  · cases h
end SPROOF4
