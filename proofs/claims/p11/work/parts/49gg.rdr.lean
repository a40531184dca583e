/-! The readers' rules. -/
noncomputable section
def nGood (RO : List (Nat × (Nat → Int32))) (ρ : List Int) (H : List eE) (ws : nWs) : Prop := ∃ p ∈ ws, ∃ new : List Int, nNw p.1 new ∧ kGh (kGP (kUP RO)) (ρ ++ new) p.2.1 H ∧ ∀ b ∈ p.2.2, ∃ z, sEv (ρ ++ new) b.1 = some z ∧ b.2.1 ≤ z ∧ z ≤ b.2.2
def nOps (nt : Nat) : List Int := if nt = 1 then [42, 47, 37] else if nt = 2 then [43, 45] else if nt = 3 then [60, 61, 62] else if nt = 4 then [38] else [124]
def nNames : List Int := [110, 107, 108, 112, 98, 118]
def nPu (d nt : Nat) (K : kS) : Option nWs := match nGs d nt K.2 with
  | some (ln :: _ :: o :: a :: k :: r) => if sNN K.1.2.2.2.2.2.2 (sSub (sC 121) a) = true then some (nPush d K.1.2.2.2.2.2.2 ln ((nt : Int) - 1) o a k r nt o) else none
  | _ => none
def nPa (d nt : Nat) (K : kS) : Option nWs := match nGs d 20 K.2 with
  | some (ln :: _ :: _ :: a :: k :: r) => (match nTo d K.2 ln k (fun t => decide (t = (nt : Int))) with
    | some (_, fo, k2) => some (nOne [nGk d ln (10 + nt) fo a k2 r])
    | none => none)
  | _ => none
def nPo (d nt : Nat) (K : kS) : Option nWs := match nGs d (10 + nt) K.2 with
  | some (ln :: _ :: o :: a :: k :: r) => (match nLe K.1.2.2.2.2.2.2 K.2 d ln a with
    | some l => (match nIs K.1.2.2.2.2.2.2 l with
      | some c => if (decide (nOp c = nt) && sNN K.1.2.2.2.2.2.2 (sSub (sC 120) a)) = true then some (nPush d K.1.2.2.2.2.2.2 ln ((nt : Int) - 1) o (sAdd a (sC 1)) k r (100 + c) o) else none
      | none => none)
    | none => none)
  | _ => none
def nPx (d nt : Nat) (K : kS) : Option nWs := match nGs d (10 + nt) K.2 with
  | some (ln :: _ :: _ :: a :: k :: r) => (match nLe K.1.2.2.2.2.2.2 K.2 d ln a with
    | some l => if (nOps nt).all (fun c => nNo K.1.2.2.2.2.2.2 l c) = true then some (nOne [nGk d ln 20 (sC 0) a k r]) else none
    | none => none)
  | _ => none
def nPe (d : Nat) (K : kS) : Option nWs := match nGs d 20 K.2 with
  | some (ln :: _ :: _ :: a :: k :: z :: r) => (match nTo d K.2 ln k (fun t => decide (1 ≤ nOp (t - 100))) with
    | some (t, fo, k2) => if nEm K.1.2.2.2.2.2.2 K.2 d z (t - 100) (sC 0) = true then
        some (nOne [if nOp (t - 100) = 3 then nGk d ln 20 (sC 0) a k2 (sAdd z (sC 1) :: r) else nGk d ln (10 + nOp (t - 100)) fo a k2 (sAdd z (sC 1) :: r)]) else none
    | none => none)
  | _ => none
def nPnm (d : Nat) (K : kS) : Option nWs := match nGs d 0 K.2 with
  | some (ln :: _ :: _ :: a :: k :: z :: r) => (match nLe K.1.2.2.2.2.2.2 K.2 d ln a with
    | some l => (match nIs K.1.2.2.2.2.2.2 l with
      | some c => if (decide (0 ≤ nNm c) && nEm K.1.2.2.2.2.2.2 K.2 d z 2 (sC (nNm c))) = true then some (nOne [nGk d ln 20 (sC 0) (sAdd a (sC 1)) k (sAdd z (sC 1) :: r)]) else none
      | none => none)
    | none => none)
  | _ => none
def nPv (d : Nat) (K : kS) : Option nWs := match nGs d 0 K.2 with
  | some (ln :: _ :: o :: a :: k :: r) => (match nLe K.1.2.2.2.2.2.2 K.2 d ln a with
    | some l => (match nIs K.1.2.2.2.2.2.2 l with
      | some c => if ((decide (c = 33) || (decide (c = 45) || decide (c = 40))) && (sNN K.1.2.2.2.2.2.2 (sSub (sC 5) o) && sNN K.1.2.2.2.2.2.2 (sSub (sC 120) a))) = true then
          some (nPush d K.1.2.2.2.2.2.2 ln (if c = 40 then 5 else 0) (sAdd o (sC 1)) (sAdd a (sC 1)) k r (if c = 33 then 300 else if c = 45 then 301 else 302) o) else none
      | none => none)
    | none => none)
  | _ => none
def nN4 (t : Int) : Int := if t = 300 then 3 else 4
def nPw (d : Nat) (K : kS) : Option nWs := match nGs d 20 K.2 with
  | some (ln :: _ :: _ :: a :: k :: z :: r) => (match nTo d K.2 ln k (fun t => decide (t = 300) || decide (t = 301)) with
    | some (t, _, k2) => if nEm K.1.2.2.2.2.2.2 K.2 d z (nN4 t) (sC 0) = true then some (nOne [nGk d ln 20 (sC 0) a k2 (sAdd z (sC 1) :: r)]) else none
    | none => none)
  | _ => none
def nPq (d : Nat) (K : kS) : Option nWs := match nGs d 20 K.2 with
  | some (ln :: _ :: _ :: a :: k :: r) => (match nTo d K.2 ln k (fun t => decide (t = 302)), nLe K.1.2.2.2.2.2.2 K.2 d ln a with
    | some (_, _, k2), some l => if nIs K.1.2.2.2.2.2.2 l = some 41 then some (nOne [nGk d ln 20 (sC 0) (sAdd a (sC 1)) k2 r]) else if nNo K.1.2.2.2.2.2.2 l 41 = true then some (nOne [(57 + d, [ln, a])]) else none
    | _, _ => none)
  | _ => none
def nPf (d : Nat) (K : kS) : Option nWs := match nGs d 0 K.2 with
  | some (ln :: _ :: o :: a :: _ :: _) => (match nLe K.1.2.2.2.2.2.2 K.2 d ln a with
    | some l => if (nNd K.1.2.2.2.2.2.2 l && (nNames.all (fun c => nNo K.1.2.2.2.2.2.2 l c) && (sNN K.1.2.2.2.2.2.2 (sSub o (sC 6)) || (nNo K.1.2.2.2.2.2.2 l 33 && (nNo K.1.2.2.2.2.2.2 l 45 && nNo K.1.2.2.2.2.2.2 l 40))))) = true then some (nOne [(57 + d, [ln, a])]) else none
    | none => none)
  | _ => none
section NRU2
variable {RO : List (Nat × (Nat → Int32))} {ρ : List Int} {Γ : sG} {γ : List kA} {H : List eE} {d : Nat}
theorem nOne_ok {as_ : List kA} (h : kGh (kGP (kUP RO)) ρ as_ H) : nGood RO ρ H (nOne as_) := ⟨_, List.mem_singleton.mpr rfl, [], rfl, by rw [List.append_nil]; exact h, fun b hb => (by cases hb)⟩
theorem nGk_ok (hd : d < 2) {ln o a k : sL} {md zl zo za zk : Int} {r : List sL} {zr : List Int} (el : sEv ρ ln = some zl) (eo : sEv ρ o = some zo) (ea : sEv ρ a = some za) (ek : sEv ρ k = some zk) (er : sVal ρ r = some zr) (h : nG d (zl :: md :: zo :: za :: zk :: zr) H) :
    kGh (kGP (kUP RO)) ρ [nGk d ln md o a k r] H := fun q hq => by
  rw [List.mem_singleton.mp hq]
  have em := sEv_C (ρ := ρ) md
  exact nAt1 (zs := zl :: md :: zo :: za :: zk :: zr) (by show 53 ≤ 53 + d; omega) (by show 53 + d < 1000; omega) (by show sVal ρ (ln :: sC md :: o :: a :: k :: r) = _; simp only [sVal, el, em, eo, ea, ek, er]) ((nUP_G hd).mpr h)
theorem nFk_ok (hd : d < 2) {ln a : sL} {zl za : Int} (el : sEv ρ ln = some zl) (ea : sEv ρ a = some za) (h : nF d [zl, za] H) : kGh (kGP (kUP RO)) ρ [(57 + d, [ln, a])] H := fun q hq => by
  rw [List.mem_singleton.mp hq]
  exact nAt1 (zs := [zl, za]) (by show 53 ≤ 57 + d; omega) (by show 57 + d < 1000; omega) (by show sVal ρ [ln, a] = _; simp only [sVal, el, ea]) ((nUP_F hd).mpr h)
theorem nPush_ok (hd : d < 2) (hM : sMo ρ Γ) {ln o a k fo : sL} {md zl zo za zk zf t : Int} {r : List sL} {zr : List Int} (el : sEv ρ ln = some zl) (eo : sEv ρ o = some zo) (ea : sEv ρ a = some za) (ek : sEv ρ k = some zk) (er : sVal ρ r = some zr) (ef : sEv ρ fo = some zf)
    (h : ∃ B n e, nTp d B H ∧ 0 ≤ zk ∧ nIt (nLt d B zl) zl n = .inl (md, zo, za, e, (t, zf) :: nK (nLt d B zl) zl zk.toNat) ∧ nLd d md e zr H) (ha : za ≤ 121) : nGood RO ρ H (nPush d Γ ln md o a k r t fo) := by
  obtain ⟨k', h0, h1, hG, hU⟩ := nG_push h ha
  have hpre : ρ <+: ρ ++ [k'] := ⟨_, rfl⟩
  have ex := (sFresh_ok (b := ((0 : Int), (3000 : Int))) hM h0 h1).2
  refine ⟨_, List.mem_singleton.mpr rfl, [k'], ⟨k', rfl, h0, h1⟩, fun q hq => ?_, fun b hb => (by cases hb)⟩
  rcases List.mem_cons.mp hq with hq | hq
  · subst hq
    exact nGk_ok hd (sEv_mono hpre el) (sEv_mono hpre eo) (sEv_mono hpre ea) ex (sVal_mono hpre er) hG _ (List.mem_singleton.mpr rfl)
  · rw [List.mem_singleton.mp hq]
    have e1 := sEv_mono hpre el
    have e2 := sEv_mono hpre ef
    have e3 := sEv_mono hpre ek
    have e4 := sEv_C (ρ := ρ ++ [k']) t
    exact nAt1 (zs := [zl, k', t, zf, zk]) (by show 53 ≤ 55 + d; omega) (by show 55 + d < 1000; omega) (by show sVal _ [ln, sX Γ.1.length, sC t, fo, k] = _; simp only [sVal, e1, ex, e4, e2, e3]) ((nUP_U hd).mpr hU)
/-- the rows that are laid are there -/
theorem nG_cells {zs : List Int} (h : nG d zs H) : (d = 0 → ∃ C, H[20]? = some (.inl (.int, 256, .inl C))) ∧ (d ≠ 0 → ∃ A W, kAW A W H) := by
  obtain ⟨ln, md, o, a, k, r, B, n, e, -, -, -, -, h⟩ := h
  unfold nLd at h
  split at h
  · rename_i hd
    obtain ⟨C, z, t, -, hC, -⟩ := h
    exact ⟨fun _ => ⟨C, hC⟩, fun hn => absurd hd hn⟩
  · rename_i hd
    obtain ⟨A, W, T, E, l, m, f, t, -, hA, -⟩ := h
    exact ⟨fun hn => absurd hn hd, fun _ => ⟨A, W, hA⟩⟩
theorem nPu_ok {nt : Nat} (hd : d < 2) (hn : 1 ≤ nt ∧ nt ≤ 5) : nRok RO (nPu d nt) := by
  intro K ws h ρ R hD
  have hM := hD.1
  have hg := hD.2.2
  unfold nPu at h
  split at h
  · rename_i ln m o a k r hs
    split at h
    · rename_i hc
      cases h
      obtain ⟨zl, zo, za, zk, zr, el, eo, ea, ek, er, hG⟩ := nGs_ok hg hd hs
      have h1 := sNN_ok hM (sEv_sub (sEv_C 121) ea) hc
      exact nPush_ok hd hM el eo ea ek er eo (nG_go (md' := (nt : Int) - 1) (o' := zo) (a' := za) (f := fun κ => ((nt : Int), zo) :: κ) hG (by omega) (by omega) (fun B hB e => by
        simp only [nS]
        rw [if_neg (by omega), if_pos ⟨by omega, by omega⟩])) (by omega)
    · cases h
  · cases h
theorem nPa_ok {nt : Nat} (hd : d < 2) (hn : 1 ≤ nt ∧ nt ≤ 5) : nRok RO (nPa d nt) := by
  intro K ws h ρ R hD
  have hg := hD.2.2
  unfold nPa at h
  split at h
  · rename_i ln m o a k r hs
    split at h
    · rename_i t fo k2 ht
      cases h
      obtain ⟨zl, zo, za, zk, zr, el, eo, ea, ek, er, hG⟩ := nGs_ok hg hd hs
      obtain ⟨hp, zf, z2, ef, e2, hU⟩ := nTo_ok hg hd el ek ht
      have hp := of_decide_eq_true hp
      subst hp
      exact nOne_ok (nGk_ok hd el ef ea e2 er (nG_pop hU (nG_go (md' := 10 + (nt : Int)) (o' := zf) (a' := za) (f := List.tail) hG (by omega) (by omega) (fun B hB e => by
        rw [nU_at hU hB]
        simp only [nS]
        rw [if_neg (by omega), if_neg (by omega), if_neg (by omega), if_pos (by trivial), if_pos ⟨by omega, by omega⟩]
        rfl))))
    · cases h
  · cases h
theorem nPo_ok {nt : Nat} (hd : d < 2) (hn : 1 ≤ nt ∧ nt ≤ 5) : nRok RO (nPo d nt) := by
  intro K ws h ρ R hD
  have hM := hD.1
  have hg := hD.2.2
  unfold nPo at h
  split at h
  · rename_i ln m o a k r hs
    split at h
    · rename_i l hl
      split at h
      · rename_i c hc
        split at h
        · rename_i hcc
          cases h
          simp only [Bool.and_eq_true, decide_eq_true_eq] at hcc
          obtain ⟨zl, zo, za, zk, zr, el, eo, ea, ek, er, hG⟩ := nGs_ok hg hd hs
          have h1 := sNN_ok hM (sEv_sub (sEv_C 120) ea) hcc.2
          have hc127 : c ≤ 127 := by
            have := hcc.1
            unfold nOp at this
            split at this
            · omega
            split at this
            · omega
            split at this
            · omega
            split at this
            · omega
            split at this <;> omega
          exact nPush_ok hd hM el eo (sEv_add ea (sEv_C 1)) ek er eo (nG_go (md' := (nt : Int) - 1) (o' := zo) (a' := za + 1) (f := fun κ => (100 + c, zo) :: κ) hG (by omega) (by omega) (fun B hB e => by
            have hL := (nLe_all hM hg el ea hl hB).1 c hc hc127
            simp only [nS]
            rw [if_neg (by omega), if_neg (by omega), if_pos ⟨by omega, by omega⟩, if_pos (by rw [hL, hcc.1]; omega), hL, show 10 + (nt : Int) - 11 = (nt : Int) - 1 by omega])) (by omega)
        · cases h
      · cases h
    · cases h
  · cases h
theorem nOps_in {nt : Nat} {c : Int} (hn : 1 ≤ nt ∧ nt ≤ 5) (h : nOp c = nt) : c ∈ nOps nt := by
  unfold nOp at h
  unfold nOps
  split at h
  · rw [if_pos (by omega)]
    simp only [List.mem_cons, List.not_mem_nil, or_false]
    omega
  split at h
  · rw [if_neg (by omega), if_pos (by omega)]
    simp only [List.mem_cons, List.not_mem_nil, or_false]
    omega
  split at h
  · rw [if_neg (by omega), if_neg (by omega), if_pos (by omega)]
    simp only [List.mem_cons, List.not_mem_nil, or_false]
    omega
  split at h
  · rw [if_neg (by omega), if_neg (by omega), if_neg (by omega), if_pos (by omega)]
    simp only [List.mem_cons, List.not_mem_nil, or_false]
    omega
  split at h
  · rw [if_neg (by omega), if_neg (by omega), if_neg (by omega), if_neg (by omega)]
    simp only [List.mem_cons, List.not_mem_nil, or_false]
    omega
  · omega
theorem nOps_r {nt : Nat} {c : Int} (h : c ∈ nOps nt) : 0 ≤ c ∧ c ≤ 127 := by
  unfold nOps at h
  split at h
  · simp only [List.mem_cons, List.not_mem_nil, or_false] at h
    omega
  split at h
  · simp only [List.mem_cons, List.not_mem_nil, or_false] at h
    omega
  split at h
  · simp only [List.mem_cons, List.not_mem_nil, or_false] at h
    omega
  split at h
  · simp only [List.mem_cons, List.not_mem_nil, or_false] at h
    omega
  · simp only [List.mem_cons, List.not_mem_nil, or_false] at h
    omega
theorem nPx_ok {nt : Nat} (hd : d < 2) (hn : 1 ≤ nt ∧ nt ≤ 5) : nRok RO (nPx d nt) := by
  intro K ws h ρ R hD
  have hM := hD.1
  have hg := hD.2.2
  unfold nPx at h
  split at h
  · rename_i ln m o a k r hs
    split at h
    · rename_i l hl
      split at h
      · rename_i hc
        cases h
        obtain ⟨zl, zo, za, zk, zr, el, eo, ea, ek, er, hG⟩ := nGs_ok hg hd hs
        exact nOne_ok (nGk_ok hd el (sEv_C 0) ea ek er (nG_same (nG_go (md' := 20) (o' := 0) (a' := za) (f := id) hG (by omega) (by omega) (fun B hB e => by
          simp only [nS]
          rw [if_neg (by omega), if_neg (by omega), if_pos ⟨by omega, by omega⟩, if_neg (fun hq => by
            have hin := nOps_in (c := nLt d B zl za) hn (by rw [hq]; omega)
            exact (nLe_all hM hg el ea hl hB).2.1 _ (List.all_eq_true.mp hc _ hin) (nOps_r hin) rfl)]
          rfl))))
      · cases h
    · cases h
  · cases h
theorem nPe_ok (hd : d < 2) : nRok RO (nPe d) := by
  intro K ws h ρ R hD
  have hM := hD.1
  have hg := hD.2.2
  unfold nPe at h
  split at h
  · rename_i ln m o a k z r hs
    split at h
    · rename_i t fo k2 ht
      split at h
      · rename_i hc
        cases h
        obtain ⟨zl, zo, za, zk, zr, el, eo, ea, ek, er, hG⟩ := nGs_ok hg hd hs
        obtain ⟨hp, zf, z2, ef, e2, hU⟩ := nTo_ok hg hd el ek ht
        have hp := of_decide_eq_true hp
        obtain ⟨zz, zr', rfl, ez, er⟩ := sVal_cons er
        have hx := nEm_ok hM hg ez (sEv_C 0) (fun _ => rfl) (nG_cells hG).1 (nG_cells hG).2 hc
        have er' : sVal ρ (sAdd z (sC 1) :: r) = some ((zz + 1) :: zr') := by
          have := sEv_add ez (sEv_C (ρ := ρ) 1)
          simp only [sVal, this, er]
        have ht5 : ¬ (1 ≤ t ∧ t ≤ 5) := fun hq => by
          have : nOp (t - 100) = 0 := by
            unfold nOp
            rw [if_neg (by omega), if_neg (by omega), if_neg (by omega), if_neg (by omega), if_neg (by omega)]
          omega
        by_cases h3 : nOp (t - 100) = 3
        · rw [if_pos h3]
          exact nOne_ok (nGk_ok hd el (sEv_C 0) ea e2 er' (nG_pop hU (nG_ad (md' := 20) (o' := 0) (a' := za) (f := List.tail) hG (by omega) (by omega) (fun B hB e => by
            rw [nU_at hU hB]
            simp only [nS]
            rw [if_neg (by omega), if_neg (by omega), if_neg (by omega), if_pos (by trivial), if_neg ht5, if_pos hp, if_pos h3]
            rfl) hx)))
        · rw [if_neg h3]
          have := nOp_r (t - 100)
          exact nOne_ok (nGk_ok hd el ef ea e2 er' (nG_pop hU (nG_ad (md' := 10 + nOp (t - 100)) (o' := zf) (a' := za) (f := List.tail) hG (by omega) (by omega) (fun B hB e => by
            rw [nU_at hU hB]
            simp only [nS]
            rw [if_neg (by omega), if_neg (by omega), if_neg (by omega), if_pos (by trivial), if_neg ht5, if_pos hp, if_neg h3]
            rfl) hx)))
      · cases h
    · cases h
  · cases h
theorem nNm_le {c : Int} (h : 0 ≤ nNm c) : c ≤ 127 ∧ nDg c = false := by
  unfold nDg
  unfold nNm at h
  split at h
  · exact ⟨by omega, decide_eq_false (by omega)⟩
  split at h
  · exact ⟨by omega, decide_eq_false (by omega)⟩
  split at h
  · exact ⟨by omega, decide_eq_false (by omega)⟩
  split at h
  · exact ⟨by omega, decide_eq_false (by omega)⟩
  split at h
  · exact ⟨by omega, decide_eq_false (by omega)⟩
  split at h
  · exact ⟨by omega, decide_eq_false (by omega)⟩
  · omega
theorem nPnm_ok (hd : d < 2) : nRok RO (nPnm d) := by
  intro K ws h ρ R hD
  have hM := hD.1
  have hg := hD.2.2
  unfold nPnm at h
  split at h
  · rename_i ln m o a k z r hs
    split at h
    · rename_i l hl
      split at h
      · rename_i c hc
        split at h
        · rename_i hcc
          cases h
          simp only [Bool.and_eq_true, decide_eq_true_eq] at hcc
          obtain ⟨zl, zo, za, zk, zr, el, eo, ea, ek, er, hG⟩ := nGs_ok hg hd hs
          obtain ⟨zz, zr', rfl, ez, er⟩ := sVal_cons er
          have hx := nEm_ok hM hg ez (sEv_C (nNm c)) (fun _ => rfl) (nG_cells hG).1 (nG_cells hG).2 hcc.2
          have er' : sVal ρ (sAdd z (sC 1) :: r) = some ((zz + 1) :: zr') := by
            have := sEv_add ez (sEv_C (ρ := ρ) 1)
            simp only [sVal, this, er]
          exact nOne_ok (nGk_ok hd el (sEv_C 0) (sEv_add ea (sEv_C 1)) ek er' (nG_same (nG_ad (md' := 20) (o' := 0) (a' := za + 1) (f := id) hG (by omega) (by omega) (fun B hB e => by
            have hL := (nLe_all hM hg el ea hl hB).1 c hc (nNm_le hcc.1).1
            simp only [nS]
            rw [if_pos (by trivial), if_neg (by rw [hL, (nNm_le hcc.1).2]; exact Bool.false_ne_true), if_pos (by rw [hL]; exact hcc.1), hL]
            rfl) hx)))
        · cases h
      · cases h
    · cases h
  · cases h
theorem nPv_ok (hd : d < 2) : nRok RO (nPv d) := by
  intro K ws h ρ R hD
  have hM := hD.1
  have hg := hD.2.2
  unfold nPv at h
  split at h
  · rename_i ln m o a k r hs
    split at h
    · rename_i l hl
      split at h
      · rename_i c hc
        split at h
        · rename_i hcc
          cases h
          simp only [Bool.and_eq_true, Bool.or_eq_true, decide_eq_true_eq] at hcc
          obtain ⟨c1, c2, c3⟩ := hcc
          obtain ⟨zl, zo, za, zk, zr, el, eo, ea, ek, er, hG⟩ := nGs_ok hg hd hs
          have h1 := sNN_ok hM (sEv_sub (sEv_C 5) eo) c2
          have h2 := sNN_ok hM (sEv_sub (sEv_C 120) ea) c3
          refine nPush_ok hd hM el (sEv_add eo (sEv_C 1)) (sEv_add ea (sEv_C 1)) ek er eo (nG_go (md' := if c = 40 then 5 else 0) (o' := zo + 1) (a' := za + 1) (f := fun κ => (if c = 33 then 300 else if c = 45 then 301 else 302, zo) :: κ) hG (by omega) (by split <;> omega) (fun B hB e => ?_)) (by omega)
          have hL := (nLe_all hM hg el ea hl hB).1 c hc (by omega)
          have hdg : nDg (nLt d B zl za) = false := by rw [hL]; exact decide_eq_false (by omega)
          have hnm : nNm (nLt d B zl za) = -1 := by
            rw [hL]
            unfold nNm
            rw [if_neg (by omega), if_neg (by omega), if_neg (by omega), if_neg (by omega), if_neg (by omega), if_neg (by omega)]
          simp only [nS]
          rw [if_pos (by trivial), if_neg (by rw [hdg]; exact Bool.false_ne_true), if_neg (by rw [hnm]; omega)]
          rcases c1 with rfl | rfl | rfl
          · rw [if_pos ⟨by omega, hL⟩]
            rfl
          · rw [if_neg (by rw [hL]; omega), if_pos ⟨by omega, hL⟩]
            rfl
          · rw [if_neg (by rw [hL]; omega), if_neg (by rw [hL]; omega), if_pos ⟨by omega, hL⟩]
            rfl
        · cases h
      · cases h
    · cases h
  · cases h
theorem nPw_ok (hd : d < 2) : nRok RO (nPw d) := by
  intro K ws h ρ R hD
  have hM := hD.1
  have hg := hD.2.2
  unfold nPw at h
  split at h
  · rename_i ln m o a k z r hs
    split at h
    · rename_i t fo k2 ht
      split at h
      · rename_i hc
        cases h
        obtain ⟨zl, zo, za, zk, zr, el, eo, ea, ek, er, hG⟩ := nGs_ok hg hd hs
        obtain ⟨hp, zf, z2, ef, e2, hU⟩ := nTo_ok hg hd el ek ht
        simp only [Bool.or_eq_true, decide_eq_true_eq] at hp
        obtain ⟨zz, zr', rfl, ez, er⟩ := sVal_cons er
        have hx := nEm_ok hM hg ez (sEv_C 0) (fun _ => rfl) (nG_cells hG).1 (nG_cells hG).2 hc
        have er' : sVal ρ (sAdd z (sC 1) :: r) = some ((zz + 1) :: zr') := by
          have := sEv_add ez (sEv_C (ρ := ρ) 1)
          simp only [sVal, this, er]
        refine nOne_ok (nGk_ok hd el (sEv_C 0) ea e2 er' (nG_pop hU (nG_ad (md' := 20) (o' := 0) (a' := za) (f := List.tail) hG (by omega) (by omega) (fun B hB e => ?_) hx)))
        rw [nU_at hU hB]
        simp only [nS]
        rw [if_neg (by omega), if_neg (by omega), if_neg (by omega), if_pos (by trivial)]
        rcases hp with rfl | rfl
        · rw [if_neg (by omega), if_neg (by decide), if_pos (by trivial)]
          rfl
        · rw [if_neg (by omega), if_neg (by decide), if_neg (by omega), if_pos (by trivial)]
          rfl
      · cases h
    · cases h
  · cases h
theorem nPq_ok (hd : d < 2) : nRok RO (nPq d) := by
  intro K ws h ρ R hD
  have hM := hD.1
  have hg := hD.2.2
  unfold nPq at h
  split at h
  · rename_i ln m o a k r hs
    split at h
    · rename_i t fo k2 l ht hl
      obtain ⟨zl, zo, za, zk, zr, el, eo, ea, ek, er, hG⟩ := nGs_ok hg hd hs
      obtain ⟨hp, zf, z2, ef, e2, hU⟩ := nTo_ok hg hd el ek ht
      have hp := of_decide_eq_true hp
      subst hp
      split at h
      · rename_i hc
        cases h
        refine nOne_ok (nGk_ok hd el (sEv_C 0) (sEv_add ea (sEv_C 1)) e2 er (nG_pop hU (nG_go (md' := 20) (o' := 0) (a' := za + 1) (f := List.tail) hG (by omega) (by omega) (fun B hB e => ?_))))
        have hL := (nLe_all hM hg el ea hl hB).1 41 hc (by omega)
        rw [nU_at hU hB]
        simp only [nS]
        rw [if_neg (by omega), if_neg (by omega), if_neg (by omega), if_pos (by trivial), if_neg (by omega), if_neg (by decide), if_neg (by omega), if_neg (by omega), if_pos (by trivial), if_pos hL]
        rfl
      · split at h
        · rename_i hc
          cases h
          refine nOne_ok (nFk_ok hd el ea (nG_end hG (fun B hB e => ?_)))
          have hL := (nLe_all hM hg el ea hl hB).2.1 41 hc (by omega)
          rw [nU_at hU hB]
          simp only [nS]
          rw [if_neg (by omega), if_neg (by omega), if_neg (by omega), if_pos (by trivial), if_neg (by omega), if_neg (by decide), if_neg (by omega), if_neg (by omega), if_pos (by trivial), if_neg hL]
        · cases h
    · cases h
  · cases h
theorem nPf_ok (hd : d < 2) : nRok RO (nPf d) := by
  intro K ws h ρ R hD
  have hM := hD.1
  have hg := hD.2.2
  unfold nPf at h
  split at h
  · rename_i ln m o a k r hs
    split at h
    · rename_i l hl
      split at h
      · rename_i hc
        cases h
        simp only [Bool.and_eq_true, Bool.or_eq_true] at hc
        obtain ⟨c1, c2, c3⟩ := hc
        obtain ⟨zl, zo, za, zk, zr, el, eo, ea, ek, er, hG⟩ := nGs_ok hg hd hs
        refine nOne_ok (nFk_ok hd el ea (nG_end hG (fun B hB e => ?_)))
        have hL := nLe_all hM hg el ea hl hB
        have hno : ∀ c, nNo K.1.2.2.2.2.2.2 l c = true → 0 ≤ c ∧ c ≤ 127 → nLt d B zl za ≠ c := hL.2.1
        have hnm : ¬ 0 ≤ nNm (nLt d B zl za) := fun hq => by
          have hall : ∀ c ∈ nNames, nLt d B zl za ≠ c := fun c hin => hno c (List.all_eq_true.mp c2 c hin) (by
            simp only [nNames, List.mem_cons, List.not_mem_nil, or_false] at hin
            omega)
          unfold nNm at hq
          rw [if_neg (hall 110 (by decide)), if_neg (hall 107 (by decide)), if_neg (hall 108 (by decide)), if_neg (hall 112 (by decide)), if_neg (hall 98 (by decide)), if_neg (hall 118 (by decide))] at hq
          omega
        simp only [nS]
        rw [if_pos (by trivial), if_neg (by rw [hL.2.2.2 c1]; exact Bool.false_ne_true), if_neg hnm]
        rcases c3 with c3 | ⟨c3, c4, c5⟩
        · have := sNN_ok hM (sEv_sub eo (sEv_C 6)) c3
          rw [if_neg (by omega), if_neg (by omega), if_neg (by omega)]
        · rw [if_neg (fun q => hno 33 c3 (by omega) q.2), if_neg (fun q => hno 45 c4 (by omega) q.2), if_neg (fun q => hno 40 c5 (by omega) q.2)]
      · cases h
    · cases h
  · cases h
end NRU2
end
