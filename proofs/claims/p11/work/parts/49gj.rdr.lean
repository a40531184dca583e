/-! The readers' rules: lines, the start, the end. -/
section NRU4
variable {RO : List (Nat × (Nat → Int32))} {ρ : List Int} {Γ : sG} {γ : List kA} {H : List eE} {d : Nat}
theorem sVal_2r {f g : sL} {zs : List Int} (h : sVal ρ [f, g] = some zs) : ∃ y z, zs = [y, z] ∧ sEv ρ f = some y ∧ sEv ρ g = some z := sVal_2 h
theorem sVal_4 {f1 f2 f3 f4 : sL} {zs : List Int} (h : sVal ρ [f1, f2, f3, f4] = some zs) : ∃ z1 z2 z3 z4, zs = [z1, z2, z3, z4] ∧ sEv ρ f1 = some z1 ∧ sEv ρ f2 = some z2 ∧ sEv ρ f3 = some z3 ∧ sEv ρ f4 = some z4 := by
  obtain ⟨p, _, rfl, h1, h⟩ := sVal_cons h
  obtain ⟨q, _, rfl, h2, h⟩ := sVal_cons h
  obtain ⟨r, _, rfl, h3, h⟩ := sVal_cons h
  obtain ⟨s, _, rfl, h4, h⟩ := sVal_cons h
  cases h
  exact ⟨p, q, r, s, rfl, h1, h2, h3, h4⟩
/-- the top is taken off, something else is laid on -/
theorem nG_swap {ln o a k t fo k2 md' o' a' t' fo' : Int} {r r' : List Int} (h : nG d (ln :: 20 :: o :: a :: k :: r) H) (hU : nU d [ln, k, t, fo, k2] H) {g : nEs → nEs}
    (hs : ∀ B, nTp d B H → ∀ e, nS (nLt d B ln) ln (20, o, a, e, (t, fo) :: nK (nLt d B ln) ln k2.toNat) = .inl (md', o', a', g e, (t', fo') :: nK (nLt d B ln) ln k2.toNat)) (hl : ∀ e, nLd d 20 e r H → nLd d md' (g e) r' H) :
    ∃ B n e, nTp d B H ∧ 0 ≤ k2 ∧ nIt (nLt d B ln) ln n = .inl (md', o', a', e, (t', fo') :: nK (nLt d B ln) ln k2.toNat) ∧ nLd d md' e r' H := by
  obtain ⟨ln', md1, o1, a1, k1, r1, B, n, e, hz, hB, hk, hn, hd⟩ := h
  cases hz
  have hU0 := hU
  obtain ⟨x1, x2, x3, x4, x5, x6, hz, -, h0, -⟩ := hU0
  cases hz
  rw [nU_at hU hB] at hn
  exact ⟨B, n + 1, g e, hB, h0, by rw [nIt_next hn]; exact hs B hB e, hl e hd⟩
theorem nG_drop {ln o a k t fo k2 md' o' a' : Int} {r r' : List Int} (h : nG d (ln :: 20 :: o :: a :: k :: r) H) (hU : nU d [ln, k, t, fo, k2] H) {g : nEs → nEs}
    (hs : ∀ B, nTp d B H → ∀ e, nS (nLt d B ln) ln (20, o, a, e, (t, fo) :: nK (nLt d B ln) ln k2.toNat) = .inl (md', o', a', g e, nK (nLt d B ln) ln k2.toNat)) (hl : ∀ e, nLd d 20 e r H → nLd d md' (g e) r' H) :
    nG d (ln :: md' :: o' :: a' :: k2 :: r') H := by
  obtain ⟨ln', md1, o1, a1, k1, r1, B, n, e, hz, hB, hk, hn, hd⟩ := h
  cases hz
  have hU0 := hU
  obtain ⟨x1, x2, x3, x4, x5, x6, hz, -, h0, -⟩ := hU0
  cases hz
  rw [nU_at hU hB] at hn
  exact ⟨ln, md', o', a', k2, r', B, n + 1, g e, rfl, hB, h0, by rw [nIt_next hn]; exact hs B hB e, hl e hd⟩
theorem nS_303 {L : Int → Int} {len o a fo : Int} {e : nEs} {r : List (Int × Int)} : nS L len (20, o, a, e, (303, fo) :: r) = if L a = 63 then .inl (5, fo, a + 1, (e.1, some e.2.2, []), (304, fo) :: r) else .inl (21, fo, a, (e.1 ++ [(none, e.2.2)], none, []), r) := by
  simp only [nS]
  rw [if_neg (by omega), if_neg (by omega), if_neg (by omega), if_pos (by trivial), if_neg (by omega), if_neg (by decide), if_neg (by omega), if_neg (by omega), if_neg (by omega), if_pos (by trivial)]
theorem nS_304 {L : Int → Int} {len o a fo : Int} {e : nEs} {r : List (Int × Int)} : nS L len (20, o, a, e, (304, fo) :: r) = .inl (24, fo, a, e, r) := by
  simp only [nS]
  rw [if_neg (by omega), if_neg (by omega), if_neg (by omega), if_pos (by trivial), if_neg (by omega), if_neg (by decide), if_neg (by omega), if_neg (by omega), if_neg (by omega), if_neg (by omega)]
theorem nPtx_ok : nRok RO nPtx := by
  intro K ws h ρ R hD
  have hM := hD.1
  have hg := hD.2.2
  unfold nPtx at h
  split at h
  · rename_i ln m o a k z t hs
    split at h
    · rename_i tg fo k2 l ht hl
      split at h
      · rename_i htm
        obtain ⟨zl, zo, za, zk, zr, el, eo, ea, ek, er, hG⟩ := nGs_ok hg (by decide) hs
        obtain ⟨hp, zf, z2, ef, e2, hU⟩ := nTo_ok hg (by decide) el ek ht
        have hp := of_decide_eq_true hp
        subst hp
        obtain ⟨zz, zt, rfl, ez, et⟩ := sVal_2 er
        rw [htm] at et
        cases et.symm.trans (sEv_C (ρ := ρ) (-1))
        have ez1 := sEv_add ez (sEv_C (ρ := ρ) 1)
        have ez2 := sEv_add ez (sEv_C (ρ := ρ) 2)
        split at h
        · rename_i hc
          cases h
          simp only [Bool.and_eq_true, decide_eq_true_eq] at hc
          obtain ⟨c1, c2, c3, c4⟩ := hc
          have h4 := sNN_ok hM (sEv_sub (sEv_C 120) ea) c4
          refine nPush_ok (by decide) hM el ef (sEv_add ea (sEv_C 1)) e2 (zr := [zz + 2, zz + 1]) (by simp only [sVal, ez1, ez2]) ef (nG_swap hG hU (g := fun e => (e.1, some e.2.2, [])) (fun B hB e => ?_) (fun e he => nLd_qx he rfl (fun C hC => ⟨(nEl_ok hM hg ez (sEv_C _) hC c2).2, (nEl_ok hM hg ez1 (sEv_C _) hC c3).2⟩))) (by omega)
          rw [nS_303, if_pos ((nLe_all hM hg el ea hl hB).1 63 c1 (by omega))]
        · split at h
          · rename_i hc
            cases h
            simp only [Bool.and_eq_true] at hc
            refine nOne_ok (nGk_ok (by decide) el ef ea e2 (zr := [zz + 1, -1]) (by have := sEv_C (ρ := ρ) (-1); simp only [sVal, ez1, this]) (nG_drop hG hU (g := fun e => (e.1 ++ [(none, e.2.2)], none, [])) (fun B hB e => ?_) (fun e he => nLd_nx he rfl (fun C hC => (nEl_ok hM hg ez (sEv_C _) hC hc.2).2))))
            rw [nS_303, if_neg ((nLe_all hM hg el ea hl hB).2.1 63 hc.1 (by omega))]
          · cases h
      · cases h
    · cases h
  · cases h
theorem nPtm_ok : nRok RO nPtm := by
  intro K ws h ρ R hD
  have hM := hD.1
  have hg := hD.2.2
  unfold nPtm at h
  split at h
  · rename_i ln m0 o a k l1 m f t hs
    split at h
    · rename_i tg fo k2 l ht hl
      split at h
      · rename_i htm
        obtain ⟨zl, zo, za, zk, zr, el, eo, ea, ek, er, hG⟩ := nGs_ok hg (by decide) hs
        obtain ⟨hp, zf, z2, ef, e2, hU⟩ := nTo_ok hg (by decide) el ek ht
        have hp := of_decide_eq_true hp
        subst hp
        obtain ⟨y1, ym, yf, yt, rfl, e1, em, eff, et⟩ := sVal_4 er
        rw [htm] at et
        cases et.symm.trans (sEv_C (ρ := ρ) (-1))
        split at h
        · rename_i hc
          cases h
          simp only [Bool.and_eq_true, decide_eq_true_eq] at hc
          have h4 := sNN_ok hM (sEv_sub (sEv_C 120) ea) hc.2
          refine nPush_ok (by decide) hM el ef (sEv_add ea (sEv_C 1)) e2 (zr := [y1, ym, yf, y1]) (by simp only [sVal, e1, em, eff]) ef (nG_swap hG hU (g := fun e => (e.1, some e.2.2, [])) (fun B hB e => ?_) (fun e he => nLd_qm he rfl)) (by omega)
          rw [nS_303, if_pos ((nLe_all hM hg el ea hl hB).1 63 hc.1 (by omega))]
        · split at h
          · rename_i hc
            cases h
            simp only [Bool.and_eq_true] at hc
            obtain ⟨c1, c2, c3, c4⟩ := hc
            have em1 := sEv_add em (sEv_C (ρ := ρ) 1)
            have em61 := sEv_add em (sEv_C (ρ := ρ) 61)
            have hm0 := sNN_ok hM em c2
            refine nOne_ok (nGk_ok (by decide) el ef ea e2 (zr := [y1, ym + 1, y1, -1]) (by have := sEv_C (ρ := ρ) (-1); simp only [sVal, e1, em1, this]) (nG_drop hG hU (g := fun e => (e.1 ++ [(none, e.2.2)], none, [])) (fun B hB e => ?_) (fun e he => ?_)))
            · rw [nS_303, if_neg ((nLe_all hM hg el ea hl hB).2.1 63 c1 (by omega))]
            · obtain ⟨A, W, T, E, l', m', f', t', hr, -, -, -, -, -, -, hf, ht'⟩ : ∃ A W T E l' m' f' t', [y1, ym, yf, -1] = [l', m', f', t'] ∧ kAW A W R.2.2.2.1 ∧ kTE T E R.2.2.2.1 ∧ nAg2 A W 130 (nAs e) ∧ l' = ((nAs e).length : Int) ∧ nAg2 T E 61 (nLv 0 e.1) ∧ m' = (e.1.length : Int) ∧ f' = ((nAl e.1).length : Int) ∧ t' = nPm e := nLd_1.mp he
              cases hr
              refine nLd_lm he (nPm_neg ht'.symm) (f0 := yf) (by rw [hf]; simp) (fun T E hT => ?_)
              rw [show 61 + ym.toNat = (ym + 61).toNat by omega]
              exact ⟨(nEl_ok hM hg em61 eff hT.1 c3).2, (nEl_ok hM hg em61 e1 hT.2 c4).2⟩
          · cases h
      · cases h
    · cases h
  · cases h
theorem nPbx_ok : nRok RO nPbx := by
  intro K ws h ρ R hD
  have hM := hD.1
  have hg := hD.2.2
  unfold nPbx at h
  split at h
  · rename_i ln m o a k z t hs
    split at h
    · rename_i tg fo k2 ht
      split at h
      · rename_i hc
        cases h
        obtain ⟨zl, zo, za, zk, zr, el, eo, ea, ek, er, hG⟩ := nGs_ok hg (by decide) hs
        obtain ⟨hp, zf, z2, ef, e2, hU⟩ := nTo_ok hg (by decide) el ek ht
        have hp := of_decide_eq_true hp
        subst hp
        obtain ⟨zz, zt, rfl, ez, et⟩ := sVal_2 er
        have ez1 := sEv_add ez (sEv_C (ρ := ρ) 1)
        exact nOne_ok (nGk_ok (by decide) el ef ea e2 (zr := [zz + 1, zt]) (by simp only [sVal, ez1, et]) (nG_drop hG hU (g := id) (fun B hB e => nS_304) (fun e he => nLd_vx he (fun C hC => (nEl_ok hM hg ez (sEv_C _) hC hc).2))))
      · cases h
    · cases h
  · cases h
theorem nPbm_ok : nRok RO nPbm := by
  intro K ws h ρ R hD
  have hM := hD.1
  have hg := hD.2.2
  unfold nPbm at h
  split at h
  · rename_i ln m0 o a k l1 m f t hs
    split at h
    · rename_i tg fo k2 ht
      split at h
      · rename_i hc
        cases h
        simp only [Bool.and_eq_true] at hc
        obtain ⟨c0, c2, c3, c4⟩ := hc
        obtain ⟨zl, zo, za, zk, zr, el, eo, ea, ek, er, hG⟩ := nGs_ok hg (by decide) hs
        obtain ⟨hp, zf, z2, ef, e2, hU⟩ := nTo_ok hg (by decide) el ek ht
        have hp := of_decide_eq_true hp
        subst hp
        obtain ⟨y1, ym, yf, yt, rfl, e1, em, eff, et⟩ := sVal_4 er
        have em1 := sEv_add em (sEv_C (ρ := ρ) 1)
        have em61 := sEv_add em (sEv_C (ρ := ρ) 61)
        have hm0 := sNN_ok hM em c2
        have ht0 := sNN_ok hM et c0
        refine nOne_ok (nGk_ok (by decide) el ef ea e2 (zr := [y1, ym + 1, y1, -1]) (by have := sEv_C (ρ := ρ) (-1); simp only [sVal, e1, em1, this]) ?_)
        obtain ⟨ln', md1, o1, a1, k1, r1, B, n, e, hz, hB, hk, hn, he⟩ := hG
        cases hz
        have hU0 := hU
        obtain ⟨x1, x2, x3, x4, x5, x6, hz, -, h0, -⟩ := hU0
        cases hz
        rw [nU_at hU hB] at hn
        have hn1 : nIt (nLt 1 B zl) zl (n + 1) = .inl (24, zf, za, e, nK (nLt 1 B zl) zl z2.toNat) := by rw [nIt_next hn, nS_304]
        have hn2 : nIt (nLt 1 B zl) zl (n + 2) = .inl (21, zf, za, (e.1 ++ [(e.2.1, e.2.2)], none, []), nK (nLt 1 B zl) zl z2.toNat) := by
          rw [nIt_next hn1]
          simp only [nS]
          rw [if_neg (by omega), if_neg (by omega), if_neg (by omega), if_neg (by omega), if_pos (by trivial)]
        refine ⟨zl, 21, zf, za, z2, _, B, n + 2, _, rfl, hB, h0, hn2, ?_⟩
        obtain ⟨A, W, T, E, l', m', f', t', hr, -, -, -, -, -, -, hf, ht'⟩ : ∃ A W T E l' m' f' t', [y1, ym, yf, yt] = [l', m', f', t'] ∧ kAW A W R.2.2.2.1 ∧ kTE T E R.2.2.2.1 ∧ nAg2 A W 130 (nAs e) ∧ l' = ((nAs e).length : Int) ∧ nAg2 T E 61 (nLv 0 e.1) ∧ m' = (e.1.length : Int) ∧ f' = ((nAl e.1).length : Int) ∧ t' = nPm e := nLd_1.mp he
        cases hr
        refine nLd_lm he rfl (f0 := yt) ?_ (fun T E hT => ?_)
        · rw [ht']
          unfold nPm
          split
          · rename_i hq
            rw [ht'] at ht0
            unfold nPm at ht0
            rw [hq] at ht0
            simp only at ht0
            omega
          · rename_i te hq
            rw [hq]
            rfl
        · rw [show 61 + ym.toNat = (ym + 61).toNat by omega]
          exact ⟨(nEl_ok hM hg em61 et hT.1 c3).2, (nEl_ok hM hg em61 e1 hT.2 c4).2⟩
      · cases h
    · cases h
  · cases h
theorem nK_0 (L : Int → Int) (len : Int) : nK L len 0 = [] := rfl
theorem nIt_1 (L : Int → Int) (len : Int) : nIt L len 1 = .inl (5, 0, 0, ([], none, []), [(303, 0)]) := by
  rw [nIt_next (n := 0) rfl]
  simp only [nS]
  rw [if_neg (by omega), if_neg (by omega), if_neg (by omega), if_neg (by omega), if_neg (by omega), if_neg (by omega)]
theorem nPsx_ok : nRok RO nPsx := by
  intro K ws h ρ R hD
  have hM := hD.1
  unfold nPsx at h
  split at h
  · rename_i ln hln
    split at h
    · rename_i hc
      cases h
      simp only [Bool.and_eq_true] at hc
      obtain ⟨c1, c2, c3⟩ := hc
      obtain ⟨i, hi⟩ := Option.isSome_iff_exists.mp c3
      obtain ⟨zl, el⟩ := sIv_has hM.1 hi
      obtain ⟨B, hB⟩ := kSh1 hD.2.1.2.2.2.1 (by decide) rfl c1
      obtain ⟨C, hC⟩ := kSh1 hD.2.1.2.2.2.1 (by decide) rfl c2
      have e0 := sEv_C (ρ := ρ) 0
      have e1 := sEv_C (ρ := ρ) (-1)
      refine nPush_ok (by decide) hM el e0 e0 e0 (zr := [0, -1]) (by simp only [sVal, e0, e1]) e0 ⟨B, 1, ([], none, []), hB, by omega, by rw [nIt_1]; rfl, ?_⟩ (by omega)
      exact ⟨C, 0, -1, rfl, hC, fun i v hi => (by cases hi), rfl, rfl⟩
    · cases h
  · cases h
theorem nPsm_ok : nRok RO nPsm := by
  intro K ws h ρ R hD
  have hM := hD.1
  unfold nPsm at h
  split at h
  · rename_i ln hln
    split at h
    · rename_i hc
      cases h
      simp only [Bool.and_eq_true] at hc
      obtain ⟨c1, c2, c3⟩ := hc
      obtain ⟨i, hi⟩ := Option.isSome_iff_exists.mp c3
      obtain ⟨zl, el⟩ := sIv_has hM.1 hi
      obtain ⟨B, hB⟩ := kSh1 hD.2.1.2.2.2.1 (by decide) rfl c1
      obtain ⟨A, W, T, E, hAW, hTE⟩ := kSh_ok hD.2.1.2.2.2.1 c2
      have e0 := sEv_C (ρ := ρ) 0
      have e1 := sEv_C (ρ := ρ) (-1)
      refine nPush_ok (by decide) hM el e0 e0 e0 (zr := [0, 0, 0, -1]) (by simp only [sVal, e0, e1]) e0 ⟨B, 1, ([], none, []), hB, by omega, by rw [nIt_1]; rfl, ?_⟩ (by omega)
      exact ⟨A, W, T, E, 0, 0, 0, -1, rfl, hAW, hTE, fun i v hi => (by cases hi), rfl, fun i v hi => (by cases hi), rfl, rfl, rfl⟩
    · cases h
  · cases h
theorem nPl_ok (hd : d < 2) : nRok RO (nPl d) := by
  intro K ws h ρ R hD
  have hM := hD.1
  have hg := hD.2.2
  unfold nPl at h
  split at h
  · rename_i ln m o a k r hs
    split at h
    · rename_i l hl
      split at h
      · rename_i hc
        cases h
        simp only [Bool.and_eq_true, decide_eq_true_eq] at hc
        obtain ⟨zl, zo, za, zk, zr, el, eo, ea, ek, er, hG⟩ := nGs_ok hg hd hs
        have h1 := sNN_ok hM (sEv_sub (sEv_C 120) ea) hc.2
        refine nPush_ok hd hM el eo (sEv_add ea (sEv_C 1)) ek er eo (nG_go (md' := 5) (o' := zo) (a' := za + 1) (f := fun κ => (303, zo) :: κ) hG (by omega) (by omega) (fun B hB e => ?_)) (by omega)
        simp only [nS]
        rw [if_neg (by omega), if_neg (by omega), if_neg (by omega), if_neg (by omega), if_neg (by omega), if_pos (by trivial), if_pos ((nLe_all hM hg el ea hl hB).1 59 hc.1 (by omega))]
      · cases h
    · cases h
  · cases h
theorem nPk_ok (hd : d < 2) : nRok RO (nPk d) := by
  intro K ws h ρ R hD
  have hM := hD.1
  have hg := hD.2.2
  unfold nPk at h
  split at h
  · rename_i ln m o a k r hs
    split at h
    · rename_i l hl
      split at h
      · rename_i hno
        obtain ⟨zl, zo, za, zk, zr, el, eo, ea, ek, er, hG⟩ := nGs_ok hg hd hs
        split at h
        · rename_i hc
          cases h
          have h1 := sNN_ok hM (sEv_sub (sEv_sub el ea) (sEv_C 1)) hc
          refine nOne_ok (nFk_ok hd el ea (nG_end hG (fun B hB e => ?_)))
          simp only [nS]
          rw [if_neg (by omega), if_neg (by omega), if_neg (by omega), if_neg (by omega), if_neg (by omega), if_pos (by trivial), if_neg ((nLe_all hM hg el ea hl hB).2.1 59 hno (by omega)), if_pos (by omega)]
        · split at h
          · rename_i hc
            have h1 := sNN_ok hM (sEv_sub ea el) hc
            obtain ⟨ln', md1, o1, a1, k1, r1, B, n, e, hz, hB, hk, hn, he⟩ := hG
            cases hz
            have hinv := (nIt_inv n hn).2.2.2 rfl
            have hn1 : nIt (nLt d B zl) zl (n + 1) = .inr (.inr e.1) := by
              rw [nIt_next hn]
              simp only [nS]
              rw [if_neg (by omega), if_neg (by omega), if_neg (by omega), if_neg (by omega), if_neg (by omega), if_pos (by trivial), if_neg ((nLe_all hM hg el ea hl hB).2.1 59 hno (by omega)), if_neg (by omega)]
            obtain ⟨dn, ts⟩ := e
            simp only at hinv
            subst hinv
            split at h
            · rename_i z t
              split at h
              · rename_i hd0
                subst hd0
                cases h
                obtain ⟨zz, zt, rfl, ez, et⟩ := sVal_2 er
                obtain ⟨C, z', t', hr, hC, hA, hz, ht'⟩ : ∃ C z' t', [zz, zt] = [z', t'] ∧ R.2.2.2.1[20]? = some (.inl (.int, 256, .inl C)) ∧ nAg C 0 (nPc 21 (dn, none, [])) ∧ z' = ((nPc 21 (dn, none, [])).length : Int) ∧ t' = nPn (dn, none, []) := nLd_0.mp he
                cases hr
                have hp : nPc 21 (dn, none, []) = nCl 0 dn := by
                  show nCl 0 dn ++ nEc [] = _
                  simp [nEc]
                rw [hp] at hA hz
                exact nOne_ok (fun q hq => by
                  rw [List.mem_singleton.mp hq]
                  exact nAt1 (k := 59) (zs := [zl, zz]) (by decide) (by decide) (by show sVal ρ [ln, z] = _; simp only [sVal, el, ez]) ⟨zl, zz, rfl, B, C, n + 1, dn, hB, hC, hn1, hA, hz⟩)
              · cases h
            · rename_i l1 m1 f1 t1
              split at h
              · rename_i hd1
                subst hd1
                cases h
                obtain ⟨y1, ym, yf, yt, rfl, e1, em, eff, et⟩ := sVal_4 er
                obtain ⟨A, W, T, E, l', m', f', t', hr, hA, hT, hg2, hl2, hv, hm, -⟩ : ∃ A W T E l' m' f' t', [y1, ym, yf, yt] = [l', m', f', t'] ∧ kAW A W R.2.2.2.1 ∧ kTE T E R.2.2.2.1 ∧ nAg2 A W 130 (nAs (dn, none, [])) ∧ l' = ((nAs (dn, none, [])).length : Int) ∧ nAg2 T E 61 (nLv 0 dn) ∧ m' = (dn.length : Int) ∧ f' = ((nAl dn).length : Int) ∧ t' = nPm (dn, none, []) := nLd_1.mp he
                cases hr
                have hp : nAs (dn, none, []) = nAl dn := by simp [nAs]
                rw [hp] at hg2 hl2
                exact nOne_ok (fun q hq => by
                  rw [List.mem_singleton.mp hq]
                  exact nAt1 (k := 60) (zs := [zl, y1, ym]) (by decide) (by decide) (by show sVal ρ [ln, l1, m1] = _; simp only [sVal, el, e1, em]) ⟨zl, y1, ym, rfl, B, A, W, T, E, n + 1, dn, hB, hA, hT, hn1, hg2, hl2, hv, hm⟩)
              · cases h
            · cases h
          · cases h
      · cases h
    · cases h
  · cases h
theorem nPrm_ok : nRok RO nPrm := by
  intro K ws h ρ R hD
  have hM := hD.1
  have hg := hD.2.2
  unfold nPrm at h
  split at h
  · rename_i ln l m k f hfa hfk hf
    split at h
    · rename_i hc
      cases h
      simp only [Bool.and_eq_true] at hc
      obtain ⟨c1, c2, c3, c4, c5, c6⟩ := hc
      obtain ⟨-, zs, e1, e2⟩ := nFa_ok hg hfa (by decide) (by decide)
      obtain ⟨zl, y1, ym, rfl, el, e1, em⟩ := sVal_3 e1
      obtain ⟨a1, a2, a3, hz, B, A, W, T, E, n, dn, hB, hAW, hTE, hn, hg2, hl2, hv, hm⟩ : ∃ a b c, [zl, y1, ym] = [a, b, c] ∧ nOM a b c R.2.2.2.1 := e2
      cases hz
      obtain ⟨-, zs, e3, e4⟩ := kFa_ok hg hfk (by decide)
      obtain ⟨zk, rfl, ek⟩ := sVal_1 e3
      obtain ⟨k1, he, T2, E2, hTE2, r4, r5⟩ : ∃ k, [zk] = [k] ∧ kCT k R.2.2.2.1 := e4
      cases he
      obtain ⟨rfl, rfl⟩ := kTE_u hTE hTE2
      obtain ⟨zs, e5, e6⟩ := kHas_ok hg c1 (by decide)
      obtain ⟨zL2, rfl, eL2⟩ := sVal_1 e5
      cases e1.symm.trans eL2
      obtain ⟨k1, he, A2, W2, hAW2, r6, r7⟩ : ∃ k, [y1] = [k] ∧ kCP k R.2.2.2.1 := e6
      cases he
      obtain ⟨rfl, rfl⟩ := kAW_u hAW hAW2
      obtain ⟨M, zf, hLM, ef, hM0⟩ := kM0_ok hD.2.1.2.2.2.1 hf
      have q1 := sNN_ok hM (sEv_sub ek em) c2
      have q2 := sNN_ok hM (sEv_sub ef em) c3
      have q3 := sNN_ok hM (sEv_sub em ef) c4
      refine nOne_ok (fun q hq => ?_)
      rw [List.mem_singleton.mp hq]
      refine nAt1 (k := 64) (zs := [zl]) (by decide) (by decide) (by show sVal ρ [ln] = _; simp only [sVal, el]) ⟨zl, rfl, B, _, _, _, _, M, n, dn, hB, hAW, hTE, hLM, hn, ?_, ?_, ?_, ?_⟩
      · intro i x hi
        have hlt := (List.getElem?_eq_some_iff.mp hi).1
        have := hg2 i x hi
        have h7 := r7 i (by omega)
        rw [Nat.zero_add, h7.1, h7.2]
        exact this
      · intro i x hi
        have hlt := (List.getElem?_eq_some_iff.mp hi).1
        rw [nLv_len] at hlt
        have := hv i x hi
        have h7 := r5 i (by omega)
        rw [Nat.zero_add, h7.1, h7.2]
        exact this
      · obtain ⟨_, e9, q8, q9⟩ := sWf_has hM c5
        cases ef.symm.trans e9
        rw [hM0, sTo32 (by omega) (by omega)]
        omega
      · obtain ⟨_, e9, q8, q9⟩ := sWf_has hM c5
        cases ef.symm.trans e9
        obtain ⟨_, e8, q6, q7⟩ := sWf_has hM c6
        cases e1.symm.trans e8
        omega
    · cases h
  · cases h
end NRU4
