/-! S: compares, jumps, fields. -/
section SPROOF2
variable {ρ : List Int} {S : sR} {R : eR} {L : List sR} {SO : List (Nat × List sL)} {RO : List (Nat × (Nat → Int32))} {CL : List vw_C} {CT : Nat → Nat → FieldType} {nx a b mL : Nat}
theorem sOpt_in {o : Option sG} {f : sG → sR} {Γ : sG} (h : o = some Γ) : f Γ ∈ sOpt o f := by
  subst h
  exact List.mem_singleton.mpr rfl
theorem sGt64 {x y : Int} (hx : -9223372036854775808 ≤ x ∧ x ≤ 9223372036854775807) (hy : -9223372036854775808 ≤ y ∧ y ≤ 9223372036854775807) : (y < x → lg_cmp (Int64.ofInt x) (Int64.ofInt y) = 1) ∧ (x = y → lg_cmp (Int64.ofInt x) (Int64.ofInt y) = 0) ∧ (x < y → lg_cmp (Int64.ofInt x) (Int64.ofInt y) = -1) := by
  have t1 := sTo64 hx.1 hx.2
  have t2 := sTo64 hy.1 hy.2
  have eGt : Int64.ofInt x > Int64.ofInt y ↔ y < x := by rw [gt_iff_lt, Int64.lt_iff_toInt_lt, t1, t2]
  have eEq : Int64.ofInt x = Int64.ofInt y ↔ x = y := by rw [← Int64.toInt_inj, t1, t2]
  unfold lg_cmp
  refine ⟨fun h => if_pos (eGt.mpr h), fun h => ?_, fun h => ?_⟩
  · rw [if_neg (fun q => by have := eGt.mp q; omega), if_pos (eEq.mpr h)]
  · rw [if_neg (fun q => by have := eGt.mp q; omega), if_neg (fun q => by have := eEq.mp q; omega)]
theorem t9 (hM : sMo ρ S.2.2.2.2.2.2) (hD : sD ρ S R) (h : s9 nx S = some L) : sOK ρ L (e9 nx R) := by
  obtain ⟨pc, ls, st, G, c, s, Γ⟩ := S
  obtain ⟨pc', ls', st', G', c', s'⟩ := R
  obtain ⟨h1, hL, hV, hH, h2, h3⟩ := hD
  simp only at h1 hL hV hH h2 h3 hM
  subst h1; subst h2; subst h3
  unfold s9 at h
  split at h
  · rename_i heq
    cases heq
    obtain ⟨zy, r1, rfl, hy, hV1⟩ := sVs_long hV
    obtain ⟨zx, r2, rfl, hx, hV2⟩ := sVs_long hV1
    split at h
    · rename_i hc
      cases h
      have qx := sWi_ok hM.1 hx hc.1
      have qy := sWi_ok hM.1 hy hc.2
      have ht := sEv_sub hx hy
      obtain ⟨c1, c2, c3⟩ := sGt64 qx qy
      have fin : ∀ (z : Int) (Γ' : sG), sMo ρ Γ' → Int32.ofInt z = lg_cmp (Int64.ofInt zx) (Int64.ofInt zy) → sD ρ (nx, ls, (0, sC z) :: _, G, c', s', Γ') (nx, ls', .int (lg_cmp (Int64.ofInt zx) (Int64.ofInt zy)) :: r2, G', c', s') := fun z Γ' _ hz => ⟨rfl, hL, ⟨⟨z, sEv_C z, by rw [hz]⟩, hV2⟩, hH, rfl, rfl⟩
      rcases Int.lt_trichotomy zx zy with h9 | h9 | h9
      · obtain ⟨Γ', e, m⟩ := sAsm_ok hM (sEv_sub (sEv_C (ρ := ρ) (-1)) ht) (by omega)
        exact ⟨_, List.mem_append_right _ (List.mem_append_right _ (sOpt_in e)), ρ, _, List.prefix_refl _, m, rfl, fin (-1) Γ' m (by rw [c3 h9]; rfl)⟩
      · obtain ⟨Γ', e, m⟩ := sAsE_ok (t := sSub _ _) hM (by rw [ht]; congr 1; omega)
        exact ⟨_, List.mem_append_right _ (List.mem_append_left _ (sOpt_in e)), ρ, _, List.prefix_refl _, m, rfl, fin 0 Γ' m (by rw [c2 h9]; rfl)⟩
      · obtain ⟨Γ', e, m⟩ := sAsm_ok hM (sEv_sub ht (sEv_C (ρ := ρ) 1)) (by omega)
        exact ⟨_, List.mem_append_left _ (sOpt_in e), ρ, _, List.prefix_refl _, m, rfl, fin 1 Γ' m (by rw [c1 h9]; rfl)⟩
    · cases h
  · cases h
theorem t10 (hM : sMo ρ S.2.2.2.2.2.2) (hD : sD ρ S R) (h : s10 nx S = some L) : sOK ρ L (e10 nx R) := by
  obtain ⟨pc, ls, st, G, c, s, Γ⟩ := S
  obtain ⟨pc', ls', st', G', c', s'⟩ := R
  obtain ⟨h1, hL, hV, hH, h2, h3⟩ := hD
  simp only at h1 hL hV hH h2 h3 hM
  subst h1; subst h2; subst h3
  unfold s10 at h
  split at h
  · rename_i heq
    cases heq
    obtain ⟨zy, r1, rfl, hy, hV1⟩ := sVs_int hV
    obtain ⟨zx, r2, rfl, hx, hV2⟩ := sVs_long hV1
    cases h
    have e : sOp 200 zx zy = (Int64.ofInt zx <<< ((Int32.ofInt zy).toInt64 &&& 63)).toInt := rfl
    have q := sRng64 (Int64.ofInt zx <<< ((Int32.ofInt zy).toInt64 &&& 63))
    obtain ⟨ρ', p1, p2, p3⟩ := sNew_ok (op := 200) (lo := -9223372036854775808) (hi := 9223372036854775807) hM hx hy (by rw [e]; exact q.1) (by rw [e]; exact q.2)
    refine sOK.one p1 p2 (R' := (nx, ls', .long (Int64.ofInt zx <<< ((Int32.ofInt zy).toInt64 &&& 63)) :: r2, G', c', s')) rfl ⟨rfl, hL.mono p1, ⟨⟨_, p3, by rw [e, Int64.ofInt_toInt]⟩, hV2.mono p1⟩, hH.mono p1, rfl, rfl⟩
  · cases h
theorem t12 (hM : sMo ρ S.2.2.2.2.2.2) (hD : sD ρ S R) (h : s12 nx a b S = some L) : sOK ρ L (e12 nx a b R) := by
  obtain ⟨pc, ls, st, G, c, s, Γ⟩ := S
  obtain ⟨pc', ls', st', G', c', s'⟩ := R
  obtain ⟨h1, hL, hV, hH, h2, h3⟩ := hD
  simp only at h1 hL hV hH h2 h3 hM
  subst h1; subst h2; subst h3
  unfold s12 at h
  split at h
  · rename_i heq
    cases heq
    obtain ⟨zx, r1, rfl, hx, hV1⟩ := sVs_int hV
    split at h
    · rename_i hc
      cases h
      have h0 : Int32.ofInt 0 = 0 := rfl
      rcases sCnd_ok b hM hx (sEv_C (ρ := ρ) 0) hc (by simp [sI32, sWi, sIv, sIvT, sC]) with ⟨e1, Γ', e2, m⟩ | ⟨e1, Γ', e2, m⟩
      · rw [h0] at e1
        exact ⟨_, List.mem_append_left _ (sOpt_in e2), ρ, (a, ls', r1, G', c', s'), List.prefix_refl _, m, by simp only [e12]; rw [if_pos e1], rfl, hL, hV1, hH, rfl, rfl⟩
      · rw [h0] at e1
        exact ⟨_, List.mem_append_right _ (sOpt_in e2), ρ, (nx, ls', r1, G', c', s'), List.prefix_refl _, m, by simp only [e12]; rw [if_neg e1], rfl, hL, hV1, hH, rfl, rfl⟩
    · cases h
  · cases h
theorem t13 (hM : sMo ρ S.2.2.2.2.2.2) (hD : sD ρ S R) (h : s13 nx a b S = some L) : sOK ρ L (e13 nx a b R) := by
  obtain ⟨pc, ls, st, G, c, s, Γ⟩ := S
  obtain ⟨pc', ls', st', G', c', s'⟩ := R
  obtain ⟨h1, hL, hV, hH, h2, h3⟩ := hD
  simp only at h1 hL hV hH h2 h3 hM
  subst h1; subst h2; subst h3
  unfold s13 at h
  split at h
  · rename_i heq
    cases heq
    obtain ⟨zy, r1, rfl, hy, hV1⟩ := sVs_int hV
    obtain ⟨zx, r2, rfl, hx, hV2⟩ := sVs_int hV1
    split at h
    · rename_i hc
      cases h
      rcases sCnd_ok b hM hx hy hc.1 hc.2 with ⟨e1, Γ', e2, m⟩ | ⟨e1, Γ', e2, m⟩
      · exact ⟨_, List.mem_append_left _ (sOpt_in e2), ρ, (a, ls', r2, G', c', s'), List.prefix_refl _, m, by simp only [e13]; rw [if_pos e1], rfl, hL, hV2, hH, rfl, rfl⟩
      · exact ⟨_, List.mem_append_right _ (sOpt_in e2), ρ, (nx, ls', r2, G', c', s'), List.prefix_refl _, m, by simp only [e13]; rw [if_neg e1], rfl, hL, hV2, hH, rfl, rfl⟩
    · cases h
  · cases h
theorem eSw_cases (d : Nat) (x : Int) : ∀ sw : List (Int × Nat), ((∀ q ∈ sw, q.1 ≠ x) ∧ eSw sw d x = d) ∨ ∃ q ∈ sw, q.1 = x ∧ eSw sw d x = q.2
  | [] => Or.inl ⟨fun q hq => (by cases hq), rfl⟩
  | q :: r => by
    by_cases h : q.1 = x
    · exact Or.inr ⟨q, List.mem_cons_self, h, by simp only [eSw, if_pos h]⟩
    · simp only [eSw, if_neg h]
      rcases eSw_cases d x r with ⟨h0, h1⟩ | ⟨q', h1, h2, h3⟩
      · refine Or.inl ⟨fun q' hq' => ?_, h1⟩
        rcases List.mem_cons.mp hq' with rfl | hq'
        · exact h
        · exact h0 q' hq'
      · exact Or.inr ⟨q', List.mem_cons_of_mem _ h1, h2, h3⟩
theorem sDft_ok {x : sL} {z : Int} (hx : sEv ρ x = some z) : ∀ (sw : List (Int × Nat)) (Γ : sG), sMo ρ Γ → (∀ q ∈ sw, q.1 ≠ z) → ∃ Γ', sDft x sw Γ = some Γ' ∧ sMo ρ Γ'
  | [], Γ, hM, _ => ⟨Γ, rfl, hM⟩
  | q :: r, Γ, hM, h => by
    have h1 := h q List.mem_cons_self
    obtain ⟨Γ1, e1, m1⟩ := sAsN_ok hM (sEv_sub hx (sEv_C (ρ := ρ) q.1)) (by omega)
    obtain ⟨Γ2, e2, m2⟩ := sDft_ok hx r Γ1 m1 (fun q' hq' => h q' (List.mem_cons_of_mem _ hq'))
    exact ⟨Γ2, by simp only [sDft, e1, e2], m2⟩
theorem t15 {sw : List (Int × Nat)} (hM : sMo ρ S.2.2.2.2.2.2) (hD : sD ρ S R) (h : s15 a sw S = some L) : sOK ρ L (e15 a sw R) := by
  obtain ⟨pc, ls, st, G, c, s, Γ⟩ := S
  obtain ⟨pc', ls', st', G', c', s'⟩ := R
  obtain ⟨h1, hL, hV, hH, h2, h3⟩ := hD
  simp only at h1 hL hV hH h2 h3 hM
  subst h1; subst h2; subst h3
  unfold s15 at h
  split at h
  · rename_i heq
    cases heq
    obtain ⟨zx, r1, rfl, hx, hV1⟩ := sVs_int hV
    split at h
    · rename_i hc
      have q := sWi_ok hM.1 hx hc
      have hto := sTo32 q.1 q.2
      split at h
      · rename_i k hk
        cases h
        have e := sK_ok hM.1 hx hk
        subst e
        exact sOK.one (List.prefix_refl _) hM (R' := (eSw sw a zx, ls', r1, G', c', s')) (by simp only [e15, hto]) ⟨rfl, hL, hV1, hH, rfl, rfl⟩
      · cases h
        rcases eSw_cases a zx sw with ⟨h8, h9⟩ | ⟨q9, hq, h8, h9⟩
        · obtain ⟨Γ', e, m⟩ := sDft_ok hx sw Γ hM h8
          exact ⟨_, List.mem_append_left _ (sOpt_in e), ρ, (a, ls', r1, G', c', s'), List.prefix_refl _, m, by simp only [e15, hto, h9], rfl, hL, hV1, hH, rfl, rfl⟩
        · obtain ⟨Γ', e, m⟩ := sAsE_ok (t := sSub _ (sC q9.1)) hM (by rw [sEv_sub hx (sEv_C q9.1)]; congr 1; omega)
          exact ⟨_, List.mem_append_right _ (List.mem_flatMap.mpr ⟨q9, hq, sOpt_in e⟩), ρ, (q9.2, ls', r1, G', c', s'), List.prefix_refl _, m, by simp only [e15, hto, h9], rfl, hL, hV1, hH, rfl, rfl⟩
    · cases h
  · cases h
theorem t16 {k : Nat} (hro : RO.length = SO.length) (hM : sMo ρ S.2.2.2.2.2.2) (hD : sD ρ S R) (h : s16 SO nx b k S = some L) : sOK ρ L (e16 RO nx b k R) := by
  obtain ⟨pc, ls, st, G, c, s, Γ⟩ := S
  obtain ⟨pc', ls', st', G', c', s'⟩ := R
  obtain ⟨h1, hL, hV, hH, h2, h3⟩ := hD
  simp only at h1 hL hV hH h2 h3 hM
  subst h1; subst h2; subst h3
  unfold s16 at h
  simp only [sAt_eq, sSet_eq] at h
  split at h
  · rename_i q st1 G1 c1 s1 Γ1 heq
    cases heq
    obtain ⟨r1, rfl, hV1⟩ := sVs_ref hV
    split at h
    · cases h
    rename_i hq
    split at h
    · rename_i ci fs hg
      split at h
      · rename_i hci
        obtain ⟨hci, h999⟩ := hci
        subst hci
        obtain ⟨v, hv, rfl⟩ := Option.map_eq_some_iff.mp h
        obtain ⟨y, hy, hxy⟩ := sHp_get hH hg (sIsA_ne h999)
        rcases y with y | ⟨cj, gs⟩
        · exact hxy.elim
        obtain ⟨rfl, hfs⟩ := hxy
        obtain ⟨w, hw, hvw⟩ := sVs_get hfs hv
        split
        · rename_i h4
          obtain ⟨r, hr, rfl⟩ : ∃ r ∈ v.2.2, w = .ref r.1 := by
            unfold sVr at hvw
            rw [if_neg (by omega), if_neg (by omega), if_neg (by omega), if_neg (by omega), if_pos h4] at hvw
            exact hvw
          have hvr : sVr ρ (2, sC (r.1 : Int)) (.ref r.1) := rfl
          have hset := sVs_set hvr k hfs
          rw [sSet_self hw] at hset
          have hH2 := sHp_set (x := .inr (cj, fs.set k (2, sC (r.1 : Int)))) (y := .inr (cj, gs)) ⟨rfl, hset⟩ (q.1.toNat - SO.length) hH
          rw [sSet_self hy] at hH2
          refine ⟨_, List.mem_map.mpr ⟨r, hr, rfl⟩, ρ, (nx, ls', .ref r.1 :: r1, G', c', s'), List.prefix_refl _, hM, ?_, rfl, hL, ⟨hvr, hV1⟩, hH2, rfl, rfl⟩
          simp only [e16, hro]
          rw [if_neg hq, hy]
          simp only [if_true, hw, Option.map_some]
        refine sOK.one (List.prefix_refl _) hM (R' := (nx, ls', w :: r1, G', c', s')) ?_ ⟨rfl, hL, ⟨hvw, hV1⟩, hH, rfl, rfl⟩
        simp only [e16, hro]
        rw [if_neg hq, hy]
        simp only [if_true, hw, Option.map_some]
      · cases h
    · cases h
  · cases h
theorem sFit_ok {B : List (Int × Int)} {ty : FieldType} {v : sV} {w : Value} (hB : sBd ρ B) (h : sFit B ty v = true) (hv : sVr ρ v w) : eFit ty w = true := by
  obtain ⟨t, x⟩ := v
  unfold sFit at h
  split at h
  · have h := of_decide_eq_true h
    simp only at h; subst h
    rw [sVr_ref hv]; rfl
  · have h := of_decide_eq_true h
    simp only at h; subst h
    rw [sVr_ref hv]; rfl
  · have h := of_decide_eq_true h
    simp only at h; subst h
    obtain ⟨z, -, rfl⟩ := sVr_int hv; rfl
  · simp only [Bool.and_eq_true, decide_eq_true_eq] at h
    obtain ⟨h, h2⟩ := h
    subst h
    obtain ⟨z, hz, rfl⟩ := sVr_int hv
    have q := sWi_ok hB hz h2
    have hz2 : z = 0 ∨ z = 1 := by omega
    rcases hz2 with rfl | rfl <;> rfl
  · have h := of_decide_eq_true h
    simp only at h; subst h
    obtain ⟨z, -, rfl⟩ := sVr_long hv; rfl
  · cases h
theorem t17 {k : Nat} (hro : RO.length = SO.length) (hM : sMo ρ S.2.2.2.2.2.2) (hD : sD ρ S R) (h : s17 SO CT nx b k S = some L) : sOK ρ L (e17 RO CT nx b k R) := by
  obtain ⟨pc, ls, st, G, c, s, Γ⟩ := S
  obtain ⟨pc', ls', st', G', c', s'⟩ := R
  obtain ⟨h1, hL, hV, hH, h2, h3⟩ := hD
  simp only at h1 hL hV hH h2 h3 hM
  subst h1; subst h2; subst h3
  unfold s17 at h
  simp only [sAt_eq, sSet_eq] at h
  split at h
  · rename_i heq
    cases heq
    obtain ⟨w, r0, rfl, hvw, hV0⟩ := sVs_cons hV
    obtain ⟨r1, rfl, hV1⟩ := sVs_ref hV0
    split at h
    · cases h
    rename_i hq
    split at h
    · rename_i ci fs hg
      split at h
      · rename_i hci
        obtain ⟨⟨rfl, h999⟩, hkl, hfit⟩ := hci
        cases h
        obtain ⟨y, hy, hxy⟩ := sHp_get hH hg (sIsA_ne h999)
        rcases y with y | ⟨cj, gs⟩
        · exact hxy.elim
        obtain ⟨rfl, hfs⟩ := hxy
        refine sOK.one (List.prefix_refl _) hM (R' := (nx, ls', r1, G'.set _ (.inr (cj, gs.set k w)), c', s')) ?_ ⟨rfl, hL, hV1, sHp_set (x := .inr (cj, fs.set k _)) (y := .inr (cj, gs.set k w)) ⟨rfl, sVs_set hvw k hfs⟩ _ hH, rfl, rfl⟩
        simp only [e17, hro]
        rw [if_neg hq, hy]
        simp only
        rw [if_pos ⟨trivial, by rw [sVs_len hfs]; exact hkl, sFit_ok hM.1 hfit hvw⟩]
      · cases h
    · cases h
  · cases h
theorem t18 (hM : sMo ρ S.2.2.2.2.2.2) (hD : sD ρ S R) (h : s18 nx b S = some L) : sOK ρ L (e18 nx b R) := by
  obtain ⟨pc, ls, st, G, c, s, Γ⟩ := S
  obtain ⟨pc', ls', st', G', c', s'⟩ := R
  obtain ⟨h1, hL, hV, hH, h2, h3⟩ := hD
  simp only at h1 hL hV hH h2 h3 hM
  subst h1; subst h2; subst h3
  cases h
  exact sOK.one (List.prefix_refl _) hM (R' := (nx, ls', .ref b :: st', G', c', s')) rfl ⟨rfl, hL, ⟨rfl, hV⟩, hH, rfl, rfl⟩
end SPROOF2
