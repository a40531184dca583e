/-! The readers' rules: numbers, lines, the start, the end: that they are right. -/
section NRU3
variable {RO : List (Nat × (Nat → Int32))} {ρ : List Int} {Γ : sG} {γ : List kA} {H : List eE} {d : Nat}
theorem nDs_ok (hM : sMo ρ Γ) (hg : kGh (kGP (kUP RO)) ρ γ H) {ln : sL} {zl : Int} (el : sEv ρ ln = some zl) {B : Nat → Int32} (hB : nTp d B H) : ∀ (n : Nat) {a v v' a' : sL} {za zv : Int}, nDs Γ γ d ln n a v = some (v', a') → sEv ρ a = some za → sEv ρ v = some zv →
    ∃ zv' za', sEv ρ v' = some zv' ∧ sEv ρ a' = some za' ∧ nNum (nLt d B zl) n za zv = (zv', za')
  | 0, a, v, v', a', za, zv, h, ea, ev => by
    cases h
    exact ⟨zv, za, ev, ea, rfl⟩
  | n + 1, a, v, v', a', za, zv, h, ea, ev => by
    simp only [nDs] at h
    split at h
    · rename_i l hl
      split at h
      · rename_i hd
        split at h
        · rename_i x
          have hdg := ((nLe_all hM hg el ea hl hB).2.2.1 hd).1
          rcases nLe_ok hM hg el ea hl hB with ⟨hn, -⟩ | ⟨y, z, hy, ey, hL, -⟩
          · cases hn
          · cases hy
            have hr := sWi_ok hM.1 ey hd
            have hL2 : nLt d B zl za = z := by
              rw [hL]
              unfold nLv1
              rw [if_pos (by omega)]
            obtain ⟨zv', za', e1, e2, e3⟩ := nDs_ok hM hg el hB n h (sEv_add ea (sEv_C 1)) (sEv_add (sEv_mul 10 ev) (sEv_sub ey (sEv_C 48)))
            refine ⟨zv', za', e1, e2, ?_⟩
            simp only [nNum]
            rw [if_pos hdg, hL2]
            exact e3
        · cases h
      · split at h
        · rename_i hnd
          cases h
          refine ⟨zv, za, ev, ea, ?_⟩
          simp only [nNum]
          rw [if_neg (by rw [(nLe_all hM hg el ea hl hB).2.2.2 hnd]; exact Bool.false_ne_true)]
        · cases h
    · cases h
theorem nPd_ok (hd : d < 2) : nRok RO (nPd d) := by
  intro K ws h ρ R hD
  have hM := hD.1
  have hg := hD.2.2
  unfold nPd at h
  split at h
  · rename_i ln m o a k z r hs
    split at h
    · rename_i l v b hl hds
      split at h
      · rename_i hc
        cases h
        simp only [Bool.and_eq_true] at hc
        obtain ⟨zl, zo, za, zk, zr, el, eo, ea, ek, er, hG⟩ := nGs_ok hg hd hs
        obtain ⟨zz, zr', rfl, ez, er⟩ := sVal_cons er
        have hG0 := hG
        obtain ⟨-, -, -, -, -, -, B0, -, -, -, hB0, -⟩ := hG0
        obtain ⟨zv, zb, ev, eb, hnum⟩ := nDs_ok hM hg el hB0 4 hds ea (sEv_C 0)
        have hx := nEm_ok hM hg ez ev (fun hq => absurd rfl hq) (nG_cells hG).1 (nG_cells hG).2 hc.2
        have er' : sVal ρ (sAdd z (sC 1) :: r) = some ((zz + 1) :: zr') := by
          have := sEv_add ez (sEv_C (ρ := ρ) 1)
          simp only [sVal, this, er]
        exact nOne_ok (nGk_ok hd el (sEv_C 0) eb ek er' (nG_same (nG_ad (md' := 20) (o' := 0) (a' := zb) (f := id) hG (by omega) (by omega) (fun B hB e => by
          cases nTp_one hB hB0
          have hdg := ((nLe_all hM hg el ea hl hB).2.2.1 hc.1).1
          simp only [nS]
          rw [if_pos (by trivial), if_pos hdg, hnum]
          rfl) hx)))
      · cases h
    · cases h
  · cases h
theorem nPz_ok (hd : d < 2) : nRok RO (nPz d) := by
  intro K ws h ρ R hD
  have hM := hD.1
  have hg := hD.2.2
  unfold nPz at h
  split at h
  · rename_i ln m o a k r hs
    split at h
    · rename_i l v b hl hds
      split at h
      · rename_i l2 hl2
        split at h
        · rename_i hc
          cases h
          simp only [Bool.and_eq_true] at hc
          obtain ⟨zl, zo, za, zk, zr, el, eo, ea, ek, er, hG⟩ := nGs_ok hg hd hs
          obtain ⟨ln1, md1, o1, a1, k1, r1, B, n, e, hz, hB, hk, hn, -⟩ := hG
          cases hz
          obtain ⟨zv, zb, ev, eb, hnum⟩ := nDs_ok hM hg el hB 4 hds ea (sEv_C 0)
          have hdg := ((nLe_all hM hg el ea hl hB).2.2.1 hc.1).1
          have hdb := (nLe_all hM hg el eb hl2 hB).2.2.1 hc.2
          have hn1 : nIt (nLt d B zl) zl (n + 1) = .inl (20, 0, zb, nAd e (1, zv), nK (nLt d B zl) zl zk.toNat) := by
            rw [nIt_next hn]
            simp only [nS]
            rw [if_pos (by trivial), if_pos hdg, hnum]
          obtain ⟨n', hn'⟩ := nIt_dig hdb.1 hdb.2 _ (Nat.le_refl _) (Or.inl rfl) hn1
          exact nOne_ok (nFk_ok hd el eb ⟨zl, zb, B, n', rfl, hB, hn'⟩)
        · cases h
      · cases h
    · cases h
  · cases h
theorem nEl_ok (hM : sMo ρ Γ) (hg : kGh (kGP (kUP RO)) ρ γ H) {j : Nat} {i e : sL} {zi ze : Int} {ty : FieldType} {n : Nat} {f : Nat → Int32} (ei : sEv ρ i = some zi) (ee : sEv ρ e = some ze) (hf : H[j]? = some (.inl (ty, n, .inl f))) (h : nEl Γ γ j i e = true) : 0 ≤ zi ∧ f zi.toNat = Int32.ofInt ze := by
  unfold nEl at h
  simp only [Bool.and_eq_true] at h
  obtain ⟨h1, h2⟩ := h
  split at h2
  · rename_i v hv
    obtain ⟨z, e1, hk⟩ := kFindEl_ok hg hv ei
    rw [nEq_ok hM e1 ee h2] at hk
    exact ⟨sNN_ok hM ei h1, (kElA hk hf).2⟩
  · cases h2
theorem nPn_neg {e : nEs} (h : nPn e = -1) : e.2.1 = none := by
  unfold nPn at h
  split at h
  · assumption
  · omega
theorem nPm_neg {e : nEs} (h : nPm e = -1) : e.2.1 = none := by
  unfold nPm at h
  split at h
  · assumption
  · omega
/-- the class: a line's first part ends in a question -/
theorem nLd_qx {e : nEs} {z t : Int} (h : nLd 0 20 e [z, t] H) (ht : t = -1) (h1 : ∀ C, H[20]? = some (.inl (.int, 256, .inl C)) → C z.toNat = Int32.ofInt (-1001) ∧ C (z + 1).toNat = Int32.ofInt 0) : nLd 0 5 (e.1, some e.2.2, []) [z + 2, z + 1] H := by
  obtain ⟨C, z', t', hr, hC, hA, hz, ht'⟩ : ∃ C z' t', [z, t] = [z', t'] ∧ H[20]? = some (.inl (.int, 256, .inl C)) ∧ nAg C 0 (nPc 20 e) ∧ z' = ((nPc 20 e).length : Int) ∧ t' = nPn e := nLd_0.mp h
  cases hr
  have hn := nPn_neg (ht'.symm.trans ht)
  obtain ⟨q1, q2⟩ := h1 C hC
  obtain ⟨dn, ts, cu⟩ := e
  simp only at hn
  subst hn
  have hp : nPc 20 (dn, none, cu) = nCl 0 dn ++ nEc cu := rfl
  rw [hp] at hA hz
  have hp2 : nPc 5 (dn, some cu, []) = (nCl 0 dn ++ nEc cu) ++ ([-1001] ++ [0]) := by
    show nCl 0 dn ++ (nEc cu ++ ([-1001, 0] ++ nEc [])) = _
    simp [nEc]
  refine nLd_0.mpr ⟨C, z + 2, z + 1, rfl, hC, ?_, ?_, ?_⟩
  · rw [hp2]
    refine nAg_app hA (nAg_app (nAg_one ?_) (nAg_one ?_))
    · rw [Nat.zero_add]
      rw [hz] at q1
      rw [Int.toNat_natCast] at q1; exact q1
    · rw [Nat.zero_add]
      rw [hz] at q2
      have e1 : (((nCl 0 dn ++ nEc cu).length : Int) + 1).toNat = (nCl 0 dn ++ nEc cu).length + [(-1001 : Int)].length := by
        simp only [List.length_singleton]
        omega
      rw [e1] at q2
      exact q2
  · rw [hp2, hz]
    simp only [List.length_append, List.length_singleton]
    omega
  · show z + 1 = (((nCl 0 dn).length + cu.length + 1 : Nat) : Int)
    rw [hz]
    simp only [List.length_append, nEc, List.length_map]
    omega
theorem nLd_nx {e : nEs} {z t : Int} (h : nLd 0 20 e [z, t] H) (ht : t = -1) (h1 : ∀ C, H[20]? = some (.inl (.int, 256, .inl C)) → C z.toNat = Int32.ofInt (-1000)) : nLd 0 21 (e.1 ++ [(none, e.2.2)], none, []) [z + 1, -1] H := by
  obtain ⟨C, z', t', hr, hC, hA, hz, ht'⟩ : ∃ C z' t', [z, t] = [z', t'] ∧ H[20]? = some (.inl (.int, 256, .inl C)) ∧ nAg C 0 (nPc 20 e) ∧ z' = ((nPc 20 e).length : Int) ∧ t' = nPn e := nLd_0.mp h
  cases hr
  have hn := nPn_neg (ht'.symm.trans ht)
  have q1 := h1 C hC
  obtain ⟨dn, ts, cu⟩ := e
  simp only at hn
  subst hn
  have hp : nPc 20 (dn, none, cu) = nCl 0 dn ++ nEc cu := rfl
  rw [hp] at hA hz
  have hp2 : nPc 21 (dn ++ [(none, cu)], none, []) = (nCl 0 dn ++ nEc cu) ++ [-1000] := by
    show nCl 0 (dn ++ [(none, cu)]) ++ nEc [] = _
    rw [nCl_app]
    simp [nLc, nEc]
  refine nLd_0.mpr ⟨C, z + 1, -1, rfl, hC, ?_, ?_, rfl⟩
  · rw [hp2]
    refine nAg_app hA (nAg_one ?_)
    rw [Nat.zero_add]
    rw [hz] at q1
    rw [Int.toNat_natCast] at q1; exact q1
  · rw [hp2, hz]
    simp only [List.length_append, List.length_singleton]
    omega
theorem nLd_vx {e : nEs} {z t : Int} (h : nLd 0 20 e [z, t] H) (h1 : ∀ C, H[20]? = some (.inl (.int, 256, .inl C)) → C z.toNat = Int32.ofInt (-1000)) : nLd 0 24 e [z + 1, t] H := by
  obtain ⟨C, z', t', hr, hC, hA, hz, ht'⟩ : ∃ C z' t', [z, t] = [z', t'] ∧ H[20]? = some (.inl (.int, 256, .inl C)) ∧ nAg C 0 (nPc 20 e) ∧ z' = ((nPc 20 e).length : Int) ∧ t' = nPn e := nLd_0.mp h
  cases hr
  have q1 := h1 C hC
  have hp : nPc 20 e = nPt e := rfl
  have hp2 : nPc 24 e = nPt e ++ [-1000] := rfl
  rw [hp] at hA hz
  refine nLd_0.mpr ⟨C, z + 1, t, rfl, hC, ?_, ?_, ht'⟩
  · rw [hp2]
    refine nAg_app hA (nAg_one ?_)
    rw [Nat.zero_add]
    rw [hz] at q1
    simpa using q1
  · rw [hp2, hz, List.length_append, List.length_singleton]
    omega
/-- the reference: the same -/
theorem nLd_qm {e : nEs} {l m f t : Int} (h : nLd 1 20 e [l, m, f, t] H) (ht : t = -1) : nLd 1 5 (e.1, some e.2.2, []) [l, m, f, l] H := by
  obtain ⟨A, W, T, E, l', m', f', t', hr, hA, hT, hg, hl, hv, hm, hf, ht'⟩ : ∃ A W T E l' m' f' t', [l, m, f, t] = [l', m', f', t'] ∧ kAW A W H ∧ kTE T E H ∧ nAg2 A W 130 (nAs e) ∧ l' = ((nAs e).length : Int) ∧ nAg2 T E 61 (nLv 0 e.1) ∧ m' = (e.1.length : Int) ∧ f' = ((nAl e.1).length : Int) ∧ t' = nPm e := nLd_1.mp h
  cases hr
  have hn := nPm_neg (ht'.symm.trans ht)
  obtain ⟨dn, ts, cu⟩ := e
  simp only at hn hv hm hf
  subst hn
  have hp : nAs (dn, none, cu) = nAl dn ++ cu := by simp [nAs]
  have hp2 : nAs (dn, some cu, []) = nAl dn ++ cu := by simp [nAs]
  rw [hp] at hg hl
  refine nLd_1.mpr ⟨A, W, T, E, l, m, f, l, rfl, hA, hT, by rw [hp2]; exact hg, by rw [hp2]; exact hl, hv, hm, hf, ?_⟩
  show l = (((nAl dn).length + cu.length : Nat) : Int)
  rw [hl, List.length_append]
theorem nLd_lm {e : nEs} {l m f t f0 : Int} {t0 : Option (List nSp)} (h : nLd 1 20 e [l, m, f, t] H) (h0 : e.2.1 = t0) (hf0 : f0 = (((nAl e.1).length + (t0.getD []).length : Nat) : Int)) (h1 : ∀ T E, kTE T E H → T (61 + m.toNat) = Int32.ofInt f0 ∧ E (61 + m.toNat) = Int32.ofInt l) : nLd 1 21 (e.1 ++ [(t0, e.2.2)], none, []) [l, m + 1, l, -1] H := by
  obtain ⟨A, W, T, E, l', m', f', t', hr, hA, hT, hg, hl, hv, hm, hf, ht'⟩ : ∃ A W T E l' m' f' t', [l, m, f, t] = [l', m', f', t'] ∧ kAW A W H ∧ kTE T E H ∧ nAg2 A W 130 (nAs e) ∧ l' = ((nAs e).length : Int) ∧ nAg2 T E 61 (nLv 0 e.1) ∧ m' = (e.1.length : Int) ∧ f' = ((nAl e.1).length : Int) ∧ t' = nPm e := nLd_1.mp h
  cases hr
  obtain ⟨q1, q2⟩ := h1 T E hT
  obtain ⟨dn, ts, cu⟩ := e
  simp only at h0 hv hm hf hf0
  subst h0
  have hp : nAs (dn, ts, cu) = nAl dn ++ (ts.getD [] ++ cu) := rfl
  have hp2 : nAs (dn ++ [(ts, cu)], none, []) = nAl dn ++ (ts.getD [] ++ cu) := by
    show nAl (dn ++ [(ts, cu)]) ++ ((none : Option (List nSp)).getD [] ++ []) = _
    rw [nAl_app]
    simp
  rw [hp] at hg hl
  refine nLd_1.mpr ⟨A, W, T, E, l, m + 1, l, -1, rfl, hA, hT, by rw [hp2]; exact hg, by rw [hp2]; exact hl, ?_, ?_, ?_, rfl⟩
  · show nAg2 T E 61 (nLv 0 (dn ++ [(ts, cu)]))
    rw [nLv_app]
    refine nAg2_app hv (nAg2_one ?_ ?_)
    · rw [nLv_len]
      rw [hm] at q1
      simp only [Int.toNat_natCast] at q1
      rw [q1, hf0, Nat.zero_add]
    · rw [nLv_len]
      rw [hm] at q2
      simp only [Int.toNat_natCast] at q2
      rw [q2, hl, Nat.zero_add]
      congr 1
      simp only [List.length_append]
      omega
  · show m + 1 = (((dn ++ [(ts, cu)]).length : Nat) : Int)
    rw [List.length_append, List.length_singleton, hm]
    omega
  · show l = (((nAl (dn ++ [(ts, cu)])).length : Nat) : Int)
    rw [nAl_app, hl]
end NRU3
