/-! The reference works steps out: a step is done. -/
noncomputable section
/-- the state, with what is told apart of the stack's top -/
def nWp (γ : List kA) : Option (sL × sL × sL × List sL) := match kFa γ 68 (fun _ => true) with
  | some [s, k, n] => some (s, k, n, [])
  | some _ => none
  | none => (match kFa γ 69 (fun _ => true) with
    | some [s, k, n, u] => some (s, k, n, [u])
    | some _ => none
    | none => (match kFa γ 70 (fun _ => true) with
      | some [s, k, n, u, v] => some (s, k, n, [v, u])
      | _ => none))
/-- whether the step is done, and the new height -/
def nWc (Γ : sG) (γ : List kA) (k n : sL) (pd : List sL) (a n2 : sL) : Bool := match pd with
  | [] => decide (n2 = sAdd n (sC 1)) && (match kFindEl γ 66 k with
    | some w => (decide (sK Γ.1 a = some 1) && nE1 γ 71 n (some w)) || (decide (sK Γ.1 a = some 2) && (sI32 Γ.1 w && nE1 γ 71 n (kFindEl γ 70 w)))
    | none => false)
  | [u] => decide (n2 = n) && ((decide (sK Γ.1 a = some 4) && nE1 γ 71 (sSub n (sC 1)) (kNr Γ (sMul (-1) u)))
    || (decide (sK Γ.1 a = some 3) && (sI32 Γ.1 u && ((nE1 γ 71 (sSub n (sC 1)) (some (sC 1)) && nZ0 Γ u) || (nE1 γ 71 (sSub n (sC 1)) (some (sC 0)) && nNt Γ u 0)))))
  | [v, u] => decide (n2 = sSub n (sC 1)) && ([1, 2, 3, 4].all (fun c => nNt Γ a c) && (sI32 Γ.1 a && (match kFindEl γ 71 (sSub n (sC 2)) with
    | some w => nTwo Γ a u v w
    | none => false)))
  | _ => false
def nWN (K : kS) : Option nWs := match nWp K.2, kLf K.1.2.1 4, kLf K.1.2.1 5 with
  | some (s, k, n, pd), some n2, some k2 => (match kFindEl K.2 65 k with
    | some a => if (decide (k2 = k) && nWc K.1.2.2.2.2.2.2 K.2 k n pd a n2) = true then some (nOne [(68, [s, sAdd k (sC 1), n2])]) else none
    | none => none)
  | _, _, _ => none
section NWN
variable {RO : List (Nat × (Nat → Int32))} {ρ : List Int} {Γ : sG} {γ : List kA} {H : List eE}
theorem nWp_ok (hg : kGh (kGP (kUP RO)) ρ γ H) {s k n : sL} {pd : List sL} (h : nWp γ = some (s, k, n, pd)) : ∃ z1 z2 z3 zp, sEv ρ s = some z1 ∧ sEv ρ k = some z2 ∧ sEv ρ n = some z3 ∧ sVal ρ pd = some zp ∧ nWS z1 z2 z3 zp H := by
  unfold nWp at h
  split at h
  · rename_i s' k' n' hfa
    cases h
    obtain ⟨-, zs, e1, e2⟩ := nFa_ok hg hfa (by decide) (by decide)
    obtain ⟨x1, x2, x3, rfl, f1, f2, f3⟩ := sVal_3 e1
    obtain ⟨a, b, c, he, hW⟩ : ∃ a b c, [x1, x2, x3] = [a, b, c] ∧ nWS a b c [] H := e2
    cases he
    exact ⟨_, _, _, [], f1, f2, f3, rfl, hW⟩
  · cases h
  · split at h
    · rename_i s' k' n' u hfa
      cases h
      obtain ⟨-, zs, e1, e2⟩ := nFa_ok hg hfa (by decide) (by decide)
      obtain ⟨a, b, c, y, he, hW⟩ : ∃ a b c u, zs = [a, b, c, u] ∧ nWS a b c [u] H := e2
      subst he
      obtain ⟨_, _, q, f1, e1⟩ := sVal_cons e1
      cases q
      obtain ⟨_, _, q, f2, e1⟩ := sVal_cons e1
      cases q
      obtain ⟨_, _, q, f3, e1⟩ := sVal_cons e1
      cases q
      exact ⟨_, _, _, [y], f1, f2, f3, e1, hW⟩
    · cases h
    · split at h
      · rename_i s' k' n' u v hfa
        cases h
        obtain ⟨-, zs, e1, e2⟩ := nFa_ok hg hfa (by decide) (by decide)
        obtain ⟨a, b, c, y, w, he, hW⟩ : ∃ a b c u v, zs = [a, b, c, u, v] ∧ nWS a b c [v, u] H := e2
        subst he
        obtain ⟨_, _, q, f1, e1⟩ := sVal_cons e1
        cases q
        obtain ⟨_, _, q, f2, e1⟩ := sVal_cons e1
        cases q
        obtain ⟨_, _, q, f3, e1⟩ := sVal_cons e1
        cases q
        obtain ⟨_, _, q, i1, e1⟩ := sVal_cons e1
        cases q
        obtain ⟨_, _, q, i2, e1⟩ := sVal_cons e1
        cases q
        exact ⟨_, _, _, [w, y], f1, f2, f3, by simp only [sVal, i1, i2], hW⟩
      · cases h
theorem nWS_step {s k n n2 : Int} {pend : List Int} (h : nWS s k n pend H) (hs : ∀ A W F P st, kAW A W H → nI2 H 70 6 F → nI2 H 71 130 P → nSk P st → n = ((pend.length + st.length : Nat) : Int) →
    ∃ st' : List Int32, nSt1 (fun w => F w.toNat) ((A k.toNat).toInt, (W k.toNat).toInt) (pend.map Int32.ofInt ++ st) = st' ∧ nSk P st' ∧ n2 = (st'.length : Int)) : nWS s (k + 1) n2 [] H := by
  obtain ⟨A, W, F, P, st, hAW, hF, hP, h0, hsk, hn, hst, hr⟩ := h
  obtain ⟨st', e1, e2, e3⟩ := hs A W F P st hAW hF hP hst hn
  refine ⟨A, W, F, P, st', hAW, hF, hP, h0, by omega, by simp only [List.length_nil, Nat.zero_add]; exact e3, e2, ?_⟩
  rw [show (k + 1 - s).toNat = (k - s).toNat + 1 by omega, nSeg_succ, nRun_app, hr, show s.toNat + (k - s).toNat = k.toNat by omega]
  exact e1
theorem nWN_ok : nRok RO nWN := by
  intro K ws h ρ R hD
  have hM := hD.1
  have hg := hD.2.2
  unfold nWN at h
  split at h
  · rename_i s k n pd n2 k2 hx hn hk
    split at h
    · rename_i a ha
      split at h
      · rename_i hc
        cases h
        simp only [Bool.and_eq_true, decide_eq_true_eq] at hc
        obtain ⟨-, c3⟩ := hc
        obtain ⟨z1, z2, z3, zp, e1, e2, e3, ep, hW⟩ := nWp_ok hg hx
        obtain ⟨za, ez, hka⟩ := kFindEl_ok hg ha e2
        have done : ∀ {x : Int}, sEv ρ n2 = some x → nWS z1 (z2 + 1) x [] R.2.2.2.1 → nGood RO ρ R.2.2.2.1 (nOne [(68, [s, sAdd k (sC 1), n2])]) := fun {x} q hX' => by
          refine nOne_ok (fun q' hq => ?_)
          rw [List.mem_singleton.mp hq]
          have es := sEv_add e2 (sEv_C (ρ := ρ) 1)
          exact nAt1 (k := 68) (zs := [z1, z2 + 1, x]) (by decide) (by decide) (by simp only [sVal, e1, es, q]) ⟨_, _, _, rfl, hX'⟩
        have hA : ∀ {A W : Nat → Int32}, kAW A W R.2.2.2.1 → A z2.toNat = Int32.ofInt za := fun {A W} q => (kElA hka q.1).2
        unfold nWc at c3
        split at c3
        · -- a number, a name
          simp only [Bool.and_eq_true, decide_eq_true_eq] at c3
          obtain ⟨d1, d2⟩ := c3
          cases ep
          have et' := sEv_add e3 (sEv_C (ρ := ρ) 1)
          rw [← d1] at et'
          split at d2
          · rename_i w hw
            obtain ⟨zw, ew, hkw⟩ := kFindEl_ok hg hw e2
            simp only [Bool.or_eq_true, Bool.and_eq_true, decide_eq_true_eq] at d2
            rcases d2 with ⟨d2, d3⟩ | ⟨d2, dr, d3⟩
            · have := sK_ok hM.1 ez d2
              subst this
              obtain ⟨y, ey, hy⟩ := nE1_ok hg e3 d3
              cases ey.symm.trans ew
              refine done et' (nWS_step hW (fun A W F P st hAW hF hP hst hlen => ⟨W z2.toNat :: st, ?_, nSk_cons.mpr ⟨hst, ?_⟩, ?_⟩))
              · rw [hA hAW]
                show nSt1 _ ((Int32.ofInt 1).toInt, (W z2.toNat).toInt) st = _
                rw [sTo32 (by decide) (by decide)]
                unfold nSt1
                rw [if_pos rfl]
                show Int32.ofInt (W z2.toNat).toInt :: st = _
                rw [Int32.ofInt_toInt]
              · have h1 := (kElA hy hP).2
                have h2 := (kElA hkw hAW.2).2
                simp only [List.length_nil, Nat.zero_add] at hlen
                rw [hlen, Int.toNat_natCast] at h1
                rw [h1, h2]
              · simp only [List.length_nil, Nat.zero_add] at hlen
                simp only [List.length_cons]
                omega
            · have := sK_ok hM.1 ez d2
              subst this
              have rw_ := sWi_ok hM.1 ew dr
              cases hx70 : kFindEl K.2 70 w with
              | none =>
                rw [hx70] at d3
                unfold nE1 at d3
                split at d3
                · rename_i q
                  cases q
                · cases d3
              | some g =>
                rw [hx70] at d3
                obtain ⟨y, ey, hy⟩ := nE1_ok hg e3 d3
                obtain ⟨y2, ey2, hy2⟩ := kFindEl_ok hg hx70 ew
                cases ey2.symm.trans ey
                refine done et' (nWS_step hW (fun A W F P st hAW hF hP hst hlen => ⟨F (W z2.toNat).toInt.toNat :: st, ?_, nSk_cons.mpr ⟨hst, ?_⟩, ?_⟩))
                · rw [hA hAW]
                  show nSt1 _ ((Int32.ofInt 2).toInt, (W z2.toNat).toInt) st = _
                  rw [sTo32 (by decide) (by decide)]
                  unfold nSt1
                  rw [if_neg (show ¬ ((2 : Int) = 1) by decide), if_pos rfl]
                · have h1 := (kElA hy hP).2
                  have h2 := (kElA hkw hAW.2).2
                  have h3 := (kElA hy2 hF).2
                  simp only [List.length_nil, Nat.zero_add] at hlen
                  rw [hlen, Int.toNat_natCast] at h1
                  rw [h1, h2, sTo32 rw_.1 rw_.2, h3]
                · simp only [List.length_nil, Nat.zero_add] at hlen
                  simp only [List.length_cons]
                  omega
          · cases d2
        · -- minus, not
          rename_i u
          simp only [Bool.and_eq_true, Bool.or_eq_true, decide_eq_true_eq] at c3
          obtain ⟨d1, d2⟩ := c3
          obtain ⟨yu, eu, hzp⟩ : ∃ y, sEv ρ u = some y ∧ zp = [y] := by
            obtain ⟨y, _, q, f1, f2⟩ := sVal_cons ep
            cases f2
            exact ⟨y, f1, q⟩
          subst hzp
          have et' := e3
          rw [← d1] at et'
          rcases d2 with ⟨d2, d3⟩ | ⟨d2, d0, d3⟩
          · have := sK_ok hM.1 ez d2
            subst this
            cases hnr : kNr K.1.2.2.2.2.2.2 (sMul (-1) u) with
            | none =>
              rw [hnr] at d3
              unfold nE1 at d3
              split at d3
              · rename_i q
                cases q
              · cases d3
            | some w =>
              rw [hnr] at d3
              obtain ⟨y, ey, hy⟩ := nE1_ok hg (sEv_sub e3 (sEv_C 1)) d3
              have hw := nNr_ok hM (sEv_mul (-1) eu) ey (decide_eq_true hnr)
              refine done et' (nWS_step hW (fun A W F P st hAW hF hP hst hlen => ⟨(-(Int32.ofInt yu)) :: st, ?_, nSk_cons.mpr ⟨hst, ?_⟩, ?_⟩))
              · rw [hA hAW]
                show nSt1 _ ((Int32.ofInt 4).toInt, (W z2.toNat).toInt) (Int32.ofInt yu :: st) = _
                rw [sTo32 (by decide) (by decide)]
                unfold nSt1
                rw [if_neg (show ¬ ((4 : Int) = 1) by decide), if_neg (show ¬ ((4 : Int) = 2) by decide), if_neg (show ¬ ((4 : Int) = 3) by decide), if_pos rfl]
              · have := (kElA hy hP).2
                simp only [List.length_singleton] at hlen
                rw [show (z3 - 1).toNat = st.length by omega, hw, show (-1 : Int) * yu = -yu by omega, Int32.ofInt_neg] at this
                exact this
              · simp only [List.length_singleton] at hlen
                simp only [List.length_cons]
                omega
          · have := sK_ok hM.1 ez d2
            subst this
            have ru := sWi_ok hM.1 eu d0
            have hw : ∀ P, nI2 R.2.2.2.1 71 130 P → P (z3 - 1).toNat = if Int32.ofInt yu = 0 then 1 else 0 := fun P hP => by
              rcases d3 with ⟨d3, d4⟩ | ⟨d3, d4⟩
              · obtain ⟨y, ey, hy⟩ := nE1_ok hg (sEv_sub e3 (sEv_C 1)) d3
                cases ey.symm.trans (sEv_C (ρ := ρ) 1)
                rw [(kElA hy hP).2, if_pos ((nI0 ru).mpr (nZ0_ok hM eu d4))]
                rfl
              · obtain ⟨y, ey, hy⟩ := nE1_ok hg (sEv_sub e3 (sEv_C 1)) d3
                cases ey.symm.trans (sEv_C (ρ := ρ) 0)
                rw [(kElA hy hP).2, if_neg (fun q => nNt_ok hM eu d4 ((nI0 ru).mp q))]
                rfl
            refine done et' (nWS_step hW (fun A W F P st hAW hF hP hst hlen => ⟨(if Int32.ofInt yu = 0 then 1 else 0) :: st, ?_, nSk_cons.mpr ⟨hst, ?_⟩, ?_⟩))
            · rw [hA hAW]
              show nSt1 _ ((Int32.ofInt 3).toInt, (W z2.toNat).toInt) (Int32.ofInt yu :: st) = _
              rw [sTo32 (by decide) (by decide)]
              unfold nSt1
              rw [if_neg (show ¬ ((3 : Int) = 1) by decide), if_neg (show ¬ ((3 : Int) = 2) by decide), if_pos rfl]
            · have := hw P hP
              simp only [List.length_singleton] at hlen
              rwa [show (z3 - 1).toNat = st.length by omega] at this
            · simp only [List.length_singleton] at hlen
              simp only [List.length_cons]
              omega
        · -- a sign
          rename_i v u
          simp only [Bool.and_eq_true, decide_eq_true_eq] at c3
          obtain ⟨d1, d2, dr, d3⟩ := c3
          obtain ⟨yv, yu, hzp, ev, eu⟩ := sVal_2 ep
          subst hzp
          have ra := sWi_ok hM.1 ez dr
          have hall : ∀ c ∈ [1, 2, 3, 4], za ≠ c := fun c hc => nNt_ok hM ez (List.all_eq_true.mp d2 c hc)
          have n1 := hall 1 (by decide)
          have n2 := hall 2 (by decide)
          have n3 := hall 3 (by decide)
          have n4 := hall 4 (by decide)
          split at d3
          · rename_i w hw
            have et' := sEv_sub e3 (sEv_C (ρ := ρ) 1)
            rw [← d1] at et'
            obtain ⟨y, ey, hy⟩ := kFindEl_ok hg hw (sEv_sub e3 (sEv_C 2))
            have htw := nTwo_ok hM ez eu ev ey d3
            refine done et' (nWS_step hW (fun A W F P st hAW hF hP hst hlen => ⟨nJ za (Int32.ofInt yu) (Int32.ofInt yv) :: st, ?_, nSk_cons.mpr ⟨hst, ?_⟩, ?_⟩))
            · rw [hA hAW]
              show nSt1 _ ((Int32.ofInt za).toInt, (W z2.toNat).toInt) (Int32.ofInt yv :: Int32.ofInt yu :: st) = _
              rw [sTo32 ra.1 ra.2]
              unfold nSt1
              rw [if_neg n1, if_neg n2, if_neg n3, if_neg n4]
            · have := (kElA hy hP).2
              simp only [List.length_cons, List.length_nil] at hlen
              rw [show (z3 - 2).toNat = st.length by omega, ← htw] at this
              exact this
            · simp only [List.length_cons, List.length_nil] at hlen
              simp only [List.length_cons]
              omega
          · cases d3
        · cases c3
      · cases h
    · cases h
  · cases h
end NWN
end
