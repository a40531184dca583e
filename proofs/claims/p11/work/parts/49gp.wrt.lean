/-! The class works the law out: a step is done: that it is right. -/
section NXN2
variable {RO : List (Nat × (Nat → Int32))} {ρ : List Int} {Γ : sG} {γ : List kA} {H : List eE}
theorem nXp_ok (hg : kGh (kGP (kUP RO)) ρ γ H) {sz a t s : sL} {fs pd : List sL} (h : nXp γ = some (sz, a, t, s, fs, pd)) : ∃ z1 z2 z3 z4 zf zp, sEv ρ sz = some z1 ∧ sEv ρ a = some z2 ∧ sEv ρ t = some z3 ∧ sEv ρ s = some z4 ∧ sVal ρ fs = some zf ∧ sVal ρ pd = some zp ∧ zf.length = 6 ∧ nXS z1 z2 z3 z4 zf zp H := by
  unfold nXp at h
  split at h
  · rename_i sz' a' t' s' fs' hx
    cases h
    obtain ⟨z1, z2, z3, z4, zf, e1, e2, e3, e4, e5, e6, hX⟩ := nX10_ok hg hx
    exact ⟨z1, z2, z3, z4, zf, [], e1, e2, e3, e4, e5, rfl, e6, hX⟩
  · split at h
    · rename_i sz' a' t' s' n1 n2 n3 n4 n5 n6 u hfa
      cases h
      obtain ⟨-, zs, e1, e2⟩ := nFa_ok hg hfa (by decide) (by decide)
      obtain ⟨b1, b2, b3, b4, m1, m2, m3, m4, m5, m6, y, he, hx⟩ : ∃ a b c e n1 n2 n3 n4 n5 n6 u, zs = [a, b, c, e, n1, n2, n3, n4, n5, n6, u] ∧ nXS a b c e [n1, n2, n3, n4, n5, n6] [u] H := e2
      subst he
      obtain ⟨_, _, q, f1, e1⟩ := sVal_cons e1
      cases q
      obtain ⟨_, _, q, f2, e1⟩ := sVal_cons e1
      cases q
      obtain ⟨_, _, q, f3, e1⟩ := sVal_cons e1
      cases q
      obtain ⟨_, _, q, f4, e1⟩ := sVal_cons e1
      cases q
      obtain ⟨_, _, q, g1, e1⟩ := sVal_cons e1
      cases q
      obtain ⟨_, _, q, g2, e1⟩ := sVal_cons e1
      cases q
      obtain ⟨_, _, q, g3, e1⟩ := sVal_cons e1
      cases q
      obtain ⟨_, _, q, g4, e1⟩ := sVal_cons e1
      cases q
      obtain ⟨_, _, q, g5, e1⟩ := sVal_cons e1
      cases q
      obtain ⟨_, _, q, g6, e1⟩ := sVal_cons e1
      cases q
      exact ⟨_, _, _, _, [m1, m2, m3, m4, m5, m6], [y], f1, f2, f3, f4, by simp only [sVal, g1, g2, g3, g4, g5, g6], e1, rfl, hx⟩
    · cases h
    · split at h
      · rename_i sz' a' t' s' n1 n2 n3 n4 n5 n6 u v hfa
        cases h
        obtain ⟨-, zs, e1, e2⟩ := nFa_ok hg hfa (by decide) (by decide)
        obtain ⟨b1, b2, b3, b4, m1, m2, m3, m4, m5, m6, y, w, he, hx⟩ : ∃ a b c e n1 n2 n3 n4 n5 n6 u v, zs = [a, b, c, e, n1, n2, n3, n4, n5, n6, u, v] ∧ nXS a b c e [n1, n2, n3, n4, n5, n6] [v, u] H := e2
        subst he
        obtain ⟨_, _, q, f1, e1⟩ := sVal_cons e1
        cases q
        obtain ⟨_, _, q, f2, e1⟩ := sVal_cons e1
        cases q
        obtain ⟨_, _, q, f3, e1⟩ := sVal_cons e1
        cases q
        obtain ⟨_, _, q, f4, e1⟩ := sVal_cons e1
        cases q
        obtain ⟨_, _, q, g1, e1⟩ := sVal_cons e1
        cases q
        obtain ⟨_, _, q, g2, e1⟩ := sVal_cons e1
        cases q
        obtain ⟨_, _, q, g3, e1⟩ := sVal_cons e1
        cases q
        obtain ⟨_, _, q, g4, e1⟩ := sVal_cons e1
        cases q
        obtain ⟨_, _, q, g5, e1⟩ := sVal_cons e1
        cases q
        obtain ⟨_, _, q, g6, e1⟩ := sVal_cons e1
        cases q
        obtain ⟨_, _, q, i1, e1⟩ := sVal_cons e1
        cases q
        obtain ⟨_, _, q, i2, e1⟩ := sVal_cons e1
        cases q
        exact ⟨_, _, _, _, [m1, m2, m3, m4, m5, m6], [w, y], f1, f2, f3, f4, by simp only [sVal, g1, g2, g3, g4, g5, g6], by simp only [sVal, i1, i2], rfl, hx⟩
      · cases h
theorem nE1_ok (hg : kGh (kGP (kUP RO)) ρ γ H) {j : Nat} {i w : sL} {zi : Int} (ei : sEv ρ i = some zi) (h : nE1 γ j i (some w) = true) : ∃ z, sEv ρ w = some z ∧ kEl j zi z H := by
  unfold nE1 at h
  split at h
  · rename_i v w' hv hw
    have h := of_decide_eq_true h
    cases hw
    subst h
    exact kFindEl_ok hg hv ei
  · cases h
theorem nOp_nl {c w : Int} (h : 1 ≤ nOp c) (hw : 0 ≤ w ∧ w ≤ 5) : c ≠ nNl w := by
  rcases nOp_v h with e | e | e | e | e | e | e | e | e | e <;> rcases nNl_r hw with ⟨q, -⟩ | ⟨q, -⟩ | ⟨q, -⟩ | ⟨q, -⟩ | ⟨q, -⟩ | ⟨q, -⟩ <;> omega
theorem nNl_b {w : Int} (hw : 0 ≤ w ∧ w ≤ 5) : 98 ≤ nNl w ∧ nNl w ≤ 118 := by
  rcases nNl_r hw with ⟨q, -⟩ | ⟨q, -⟩ | ⟨q, -⟩ | ⟨q, -⟩ | ⟨q, -⟩ | ⟨q, -⟩ <;> omega
theorem nNl_i {v w : Int} (hv : 0 ≤ v ∧ v ≤ 5) (hw : 0 ≤ w ∧ w ≤ 5) (h : nNl v = nNl w) : v = w := by
  rcases nNl_r hv with ⟨q, r⟩ | ⟨q, r⟩ | ⟨q, r⟩ | ⟨q, r⟩ | ⟨q, r⟩ | ⟨q, r⟩ <;> rcases nNl_r hw with ⟨q2, r2⟩ | ⟨q2, r2⟩ | ⟨q2, r2⟩ | ⟨q2, r2⟩ | ⟨q2, r2⟩ | ⟨q2, r2⟩ <;> omega
theorem nOp_b {c : Int} (h : 1 ≤ nOp c) : 37 ≤ c ∧ c ≤ 124 := by
  rcases nOp_v h with e | e | e | e | e | e | e | e | e | e <;> omega
/-- which step it is -/
theorem nWhich {now : Int} {y : nSp} (oy : nOkS y) (e : nEn1 y = now) : (0 ≤ now → y = (1, now)) ∧ (∀ w, 0 ≤ w ∧ w ≤ 5 → now = -(nNl w) → y = (2, w)) ∧ (now = -33 → y.1 = 3) ∧ (now = -1002 → y.1 = 4) ∧ (now < 0 → (∀ c, now = -(nNl c) → ¬ (0 ≤ c ∧ c ≤ 5)) → now ≠ -33 → now ≠ -1002 → 1 ≤ nOp y.1 ∧ y.1 = -now) := by
  have hv := (nEn_v oy).2.2.2.2
  rw [e] at hv
  obtain ⟨y1, y2⟩ := y
  simp only at hv
  refine ⟨fun h => ?_, fun w hw h => ?_, fun h => ?_, fun h => ?_, fun h1 h2 h3 h4 => ?_⟩
  · rcases hv with ⟨a, b, c⟩ | ⟨a, b, c⟩ | ⟨a, b⟩ | ⟨a, b⟩ | ⟨a, b⟩
    · rw [a, c]
    · have := nNl_b b; omega
    · omega
    · omega
    · have := nOp_b a; omega
  · have hb := nNl_b hw
    rcases hv with ⟨a, b, c⟩ | ⟨a, b, c⟩ | ⟨a, b⟩ | ⟨a, b⟩ | ⟨a, b⟩
    · omega
    · rw [a, nNl_i b hw (by omega)]
    · omega
    · omega
    · exact absurd (show y1 = nNl w by omega) (nOp_nl a hw)
  · rcases hv with ⟨a, b, c⟩ | ⟨a, b, c⟩ | ⟨a, b⟩ | ⟨a, b⟩ | ⟨a, b⟩
    · omega
    · have := nNl_b b; omega
    · exact a
    · omega
    · have := nOp_b a; omega
  · rcases hv with ⟨a, b, c⟩ | ⟨a, b, c⟩ | ⟨a, b⟩ | ⟨a, b⟩ | ⟨a, b⟩
    · omega
    · have := nNl_b b; omega
    · omega
    · exact a
    · have := nOp_b a; omega
  · rcases hv with ⟨a, b, c⟩ | ⟨a, b, c⟩ | ⟨a, b⟩ | ⟨a, b⟩ | ⟨a, b⟩
    · omega
    · exact absurd b (h2 y2 c)
    · omega
    · omega
    · exact ⟨a, by omega⟩
theorem nOk2 {y : nSp} (oy : nOkS y) (h1 : y.1 ≠ 1) (h2 : y.1 ≠ 2) : y.2 = 0 := by
  rcases oy with ⟨a, b⟩ | ⟨a, b⟩ | ⟨a, b⟩ | ⟨a, b⟩ | ⟨a, b⟩
  · exact absurd a h1
  · exact absurd a h2
  · exact b
  · exact b
  · exact b
theorem nXN_ok : nRok RO nXN := by
  intro K ws h ρ R hD
  have hM := hD.1
  have hg := hD.2.2
  unfold nXN at h
  split at h
  · rename_i sz a t s fs pd t2 a2 s2 hx ht ha hs
    split at h
    · rename_i now hn
      split at h
      · rename_i hc
        cases h
        simp only [Bool.and_eq_true, decide_eq_true_eq] at hc
        obtain ⟨c1, c2, c3⟩ := hc
        obtain ⟨z1, z2, z3, z4, zf, zp, e1, e2, e3, e4, e5, ep, e6, hX⟩ := nXp_ok hg hx
        obtain ⟨z, ez, hk⟩ := kFindEl_ok hg hn e2
        have hr := sWi_ok hM.1 ez c2
        -- what is to be shown
        have done : ∀ {x2 x3 : Int}, sEv ρ a2 = some x2 → sEv ρ t2 = some x3 → nXS z1 x2 x3 (z4 + 1) zf [] R.2.2.2.1 → nGood RO ρ R.2.2.2.1 (nOne [(65, sz :: a2 :: t2 :: s2 :: fs)]) := fun {x2 x3} q2 q3 hX' => by
          match zf, e6, e5, hX' with
          | [n1, n2, n3, n4, n5, n6], _, e5, hX' =>
            refine nOne_ok (fun q hq => ?_)
            rw [List.mem_singleton.mp hq]
            have es := sEv_add e4 (sEv_C (ρ := ρ) 1)
            rw [← c1] at es
            exact nAt1 (k := 65) (zs := [z1, x2, x3, z4 + 1, n1, n2, n3, n4, n5, n6]) (by decide) (by decide) (by show sVal ρ (sz :: a2 :: t2 :: s2 :: fs) = _; simp only [sVal, e1, q2, q3, es, e5]) ⟨_, _, _, _, _, _, _, _, _, _, rfl, hX'⟩
        unfold nXc at c3
        split at c3
        · rename_i i hi
          have hb := sIv_ok hM.1 ez hi
          split at c3
          · -- a number
            rename_i h0
            simp only [Bool.and_eq_true, decide_eq_true_eq] at c3
            obtain ⟨d1, d2, d3, d4⟩ := c3
            subst d1
            cases ep
            obtain ⟨y, ey, hy⟩ := nE1_ok hg e3 d4
            cases ey.symm.trans ez
            have ea' := sEv_add e2 (sEv_C (ρ := ρ) 1)
            have et' := sEv_add e3 (sEv_C (ρ := ρ) 1)
            rw [← d3] at ea'
            rw [← d2] at et'
            have hr2 := nXS_now hX hk hr
            refine done ea' et' (nXS_step hX hk ⟨hr2.1, hr2.2.1⟩ (x := (1, z)) (fun w ow ew => (nWhich ow ew).1 (by omega)) (by omega) (by omega) (fun P st hP hst hlen => ⟨Int32.ofInt z :: st, rfl, nSk_cons.mpr ⟨hst, ?_⟩, ?_⟩) (by omega))
            · have := (kElA hy hP).2
              simp only [List.length_nil, Nat.zero_add] at hlen
              rwa [hlen, Int.toNat_natCast] at this
            · simp only [List.length_nil, Nat.zero_add] at hlen
              simp only [List.length_cons]
              omega
          split at c3
          · -- a question
            rename_i h0 hq
            have := sK_ok hM.1 ez hq
            subst this
            split at c3
            · rename_i u hu
              cases ep
              simp only [Bool.and_eq_true, Bool.or_eq_true, decide_eq_true_eq] at c3
              obtain ⟨d1, d2, d3⟩ := c3
              obtain ⟨y, ey, hy⟩ := kFindEl_ok hg hu (sEv_sub e3 (sEv_C 1))
              have et' := sEv_sub e3 (sEv_C (ρ := ρ) 1)
              rw [← d2] at et'
              have hsk := nXS_skip hX hk hy (sWi_ok hM.1 ey d1)
              rcases d3 with ⟨d3, d4⟩ | ⟨d3, d4⟩
              · have ea' := sEv_add e2 (sEv_C (ρ := ρ) 2)
                rw [← d4] at ea'
                exact done ea' et' (hsk.2.1 (nNt_ok hM ey d3))
              · split at d4
                · rename_i g hg2
                  simp only [Bool.and_eq_true, decide_eq_true_eq] at d4
                  obtain ⟨w, ew, hw⟩ := kFindEl_ok hg hg2 (sEv_add e2 (sEv_C 1))
                  have ea' := ew
                  rw [← d4.2] at ea'
                  exact done ea' et' ((hsk.2.2 w hw (sWi_ok hM.1 ew d4.1)).2.2 (nZ0_ok hM ey d3))
                · cases d4
            · cases c3
          split at c3
          · -- minus
            rename_i h0 h1 hq
            have := sK_ok hM.1 ez hq
            subst this
            split at c3
            · rename_i u
              simp only [Bool.and_eq_true, decide_eq_true_eq] at c3
              obtain ⟨d1, d2, d3⟩ := c3
              obtain ⟨yu, eu, -⟩ : ∃ y, sEv ρ u = some y ∧ zp = [y] := by
                obtain ⟨y, _, q, f1, f2⟩ := sVal_cons ep
                cases f2
                exact ⟨y, f1, q⟩
              have hzp : zp = [yu] := by
                have : sVal ρ [u] = some [yu] := by simp only [sVal, eu]
                exact Option.some.inj (ep.symm.trans this)
              subst hzp
              have ea' := sEv_add e2 (sEv_C (ρ := ρ) 1)
              rw [← d2] at ea'
              have et' := e3
              rw [← d1] at et'
              cases hnr : kNr K.1.2.2.2.2.2.2 (sMul (-1) u) with
              | none =>
                rw [hnr] at d3
                unfold nE1 at d3
                split at d3
                · rename_i q
                  cases q
                · cases d3
              | some w =>
                rw [hnr] at d3
                obtain ⟨y, ey, hy⟩ := nE1_ok hg (sEv_sub e3 (sEv_C 1)) d3
                have hw := nNr_ok hM (sEv_mul (-1) eu) ey (decide_eq_true hnr)
                refine done ea' et' (nXS_step hX hk (by omega) (x := (4, 0)) (fun v ov ev => ?_) (by omega) (by omega) (fun P st hP hst hlen => ⟨(-(Int32.ofInt yu)) :: st, rfl, nSk_cons.mpr ⟨hst, ?_⟩, ?_⟩) (by omega))
                · have h4 := (nWhich ov ev).2.2.2.1 rfl
                  exact Prod.ext h4 (nOk2 ov (by omega) (by omega))
                · have := (kElA hy hP).2
                  simp only [List.length_singleton] at hlen
                  rw [show (z3 - 1).toNat = st.length by omega, hw, show (-1 : Int) * yu = -yu by omega, Int32.ofInt_neg] at this
                  exact this
                · simp only [List.length_singleton] at hlen
                  simp only [List.length_cons]
                  omega
            · cases c3
          split at c3
          · -- not
            rename_i h0 h1 h2 hq
            have := sK_ok hM.1 ez hq
            subst this
            split at c3
            · rename_i u
              simp only [Bool.and_eq_true, Bool.or_eq_true, decide_eq_true_eq] at c3
              obtain ⟨d1, d2, d0, d3⟩ := c3
              obtain ⟨yu, eu, hzp⟩ : ∃ y, sEv ρ u = some y ∧ zp = [y] := by
                obtain ⟨y, _, q, f1, f2⟩ := sVal_cons ep
                cases f2
                exact ⟨y, f1, q⟩
              subst hzp
              have ru := sWi_ok hM.1 eu d0
              have ea' := sEv_add e2 (sEv_C (ρ := ρ) 1)
              rw [← d2] at ea'
              have et' := e3
              rw [← d1] at et'
              have hw : ∀ P, nI2 R.2.2.2.1 23 256 P → P (z3 - 1).toNat = if Int32.ofInt yu = 0 then 1 else 0 := fun P hP => by
                rcases d3 with ⟨d3, d4⟩ | ⟨d3, d4⟩
                · obtain ⟨y, ey, hy⟩ := nE1_ok hg (sEv_sub e3 (sEv_C 1)) d3
                  cases ey.symm.trans (sEv_C (ρ := ρ) 1)
                  rw [(kElA hy hP).2, if_pos ((nI0 ru).mpr (nZ0_ok hM eu d4))]
                  rfl
                · obtain ⟨y, ey, hy⟩ := nE1_ok hg (sEv_sub e3 (sEv_C 1)) d3
                  cases ey.symm.trans (sEv_C (ρ := ρ) 0)
                  rw [(kElA hy hP).2, if_neg (fun q => nNt_ok hM eu d4 ((nI0 ru).mp q))]
                  rfl
              refine done ea' et' (nXS_step hX hk (by omega) (x := (3, 0)) (fun v ov ev => ?_) (by omega) (by omega) (fun P st hP hst hlen => ⟨(if Int32.ofInt yu = 0 then 1 else 0) :: st, rfl, nSk_cons.mpr ⟨hst, ?_⟩, ?_⟩) (by omega))
              · have h4 := (nWhich ov ev).2.2.1 rfl
                exact Prod.ext h4 (nOk2 ov (by omega) (by omega))
              · have := hw P hP
                simp only [List.length_singleton] at hlen
                rwa [show (z3 - 1).toNat = st.length by omega] at this
              · simp only [List.length_singleton] at hlen
                simp only [List.length_cons]
                omega
            · cases c3
          split at c3
          · -- a sign
            rename_i h0 h1 h2 h3 hneg
            simp only [Bool.and_eq_true] at c3
            obtain ⟨call, c3⟩ := c3
            have hx2 := nXneg_ok hM ez hneg
            have hall : ∀ k ∈ [-1000, -1001, -1002, -33], z ≠ k := fun k hk => nNt_ok hM ez (List.all_eq_true.mp call k hk)
            have n1 := hall (-1000) (by decide)
            have n2 := hall (-1001) (by decide)
            have n3 := hall (-1002) (by decide)
            have n4 := hall (-33) (by decide)
            split at c3
            · rename_i v u
              simp only [Bool.and_eq_true, decide_eq_true_eq] at c3
              obtain ⟨d1, d2, d3⟩ := c3
              obtain ⟨yv, yu, ev, eu, hzp⟩ : ∃ y w, sEv ρ v = some y ∧ sEv ρ u = some w ∧ zp = [y, w] := by
                obtain ⟨y, w, q, f1, f2⟩ := sVal_2 ep
                exact ⟨y, w, f1, f2, q⟩
              subst hzp
              split at d3
              · rename_i w hw
                have ea' := sEv_add e2 (sEv_C (ρ := ρ) 1)
                rw [← d2] at ea'
                have et' := sEv_sub e3 (sEv_C (ρ := ρ) 1)
                rw [← d1] at et'
                obtain ⟨y, ey, hy⟩ := kFindEl_ok hg hw (sEv_sub e3 (sEv_C 2))
                have htw := nTwo_ok hM (sEv_mul (-1) ez) eu ev ey d3
                have hrr : -1002 ≤ z ∧ z ≤ -37 := by
                  obtain ⟨C, P, d, st, q1, q2, q3, q4, q5, q6, q7, q8, q9, q10, q11⟩ := hX
                  have hC := (kElA hk q1).2
                  obtain ⟨-, hh⟩ := nPh_at q11
                  rcases hh with ⟨x, ox, f1, -⟩ | ⟨f1, -⟩ | ⟨f1, -⟩
                  · have hv := nEn_v ox
                    rw [hC] at f1
                    have := congrArg Int32.toInt f1
                    rw [sTo32 hr.1 hr.2, sTo32 (by omega) (by omega)] at this
                    have h4 := (nWhich ox this.symm).2.2.2.2 hx2.1 hx2.2 n4 n3
                    have := nOp_b h4.1
                    omega
                  · rw [hC] at f1
                    have := congrArg Int32.toInt f1
                    rw [sTo32 hr.1 hr.2, sTo32 (by omega) (by omega)] at this
                    omega
                  · rw [hC] at f1
                    have := congrArg Int32.toInt f1
                    rw [sTo32 hr.1 hr.2, sTo32 (by omega) (by omega)] at this
                    omega
                refine done ea' et' (nXS_step hX hk ⟨hrr.1, by omega⟩ (x := (-z, 0)) (fun w0 ow ew => ?_) n1 n2 (fun P st hP hst hlen => ⟨nJ (-z) (Int32.ofInt yu) (Int32.ofInt yv) :: st, ?_, nSk_cons.mpr ⟨hst, ?_⟩, ?_⟩) (by omega))
                · have h4 := (nWhich ow ew).2.2.2.2 hx2.1 hx2.2 n4 n3
                  have := nOp_b h4.1
                  exact Prod.ext h4.2 (nOk2 ow (by omega) (by omega))
                · show nSt1 (nFs zf) (-z, 0) (Int32.ofInt yv :: Int32.ofInt yu :: st) = _
                  have hz : ∀ k : Int, (k = 1 ∨ k = 2 ∨ k = 3 ∨ k = 4) → ¬ -z = k := fun k hkk he => by omega
                  unfold nSt1
                  rw [if_neg (hz 1 (by omega)), if_neg (hz 2 (by omega)), if_neg (hz 3 (by omega)), if_neg (hz 4 (by omega))]
                · have := (kElA hy hP).2
                  simp only [List.length_cons, List.length_nil] at hlen
                  rw [show (z3 - 2).toNat = st.length by omega, ← htw, show (-1 : Int) * z = -z by omega] at this
                  exact this
                · simp only [List.length_cons, List.length_nil] at hlen
                  simp only [List.length_cons]
                  omega
              · cases d3
            · cases c3
          · -- a name
            rename_i h0 h1 h2 h3 h4
            split at c3
            · rename_i c hcc
              have := sK_ok hM.1 ez hcc
              subst this
              simp only [Bool.and_eq_true, decide_eq_true_eq] at c3
              obtain ⟨d1, d2, d3, d4⟩ := c3
              subst d1
              cases ep
              obtain ⟨w, hw, d4⟩ := List.any_eq_true.mp d4
              have hw := List.mem_range.mp hw
              simp only [Bool.and_eq_true, decide_eq_true_eq] at d4
              obtain ⟨d4, d5⟩ := d4
              have ea' := sEv_add e2 (sEv_C (ρ := ρ) 1)
              have et' := sEv_add e3 (sEv_C (ρ := ρ) 1)
              rw [← d3] at ea'
              rw [← d2] at et'
              have hbb := nNl_b (w := (w : Int)) (by omega)
              cases hfw : fs[w]? with
              | none =>
                rw [hfw] at d5
                unfold nE1 at d5
                split at d5
                · rename_i q
                  cases q
                · cases d5
              | some g =>
                rw [hfw] at d5
                obtain ⟨y, ey, hy⟩ := nE1_ok hg e3 d5
                have hzw : zf[w]? = some y := by
                  have key : ∀ {gs : List sL} {zs : List Int} {n : Nat} {g : sL}, sVal ρ gs = some zs → gs[n]? = some g → sEv ρ g = some y → zs[n]? = some y := fun {gs} => by
                    induction gs with
                    | nil => intro zs n g h h2 h3; cases h2
                    | cons f fs ih =>
                      intro zs n g h h2 h3
                      obtain ⟨z, zr', rfl, b1, b2⟩ := sVal_cons h
                      cases n with
                      | zero =>
                        cases h2
                        cases b1.symm.trans h3
                        rfl
                      | succ n =>
                        have hh := ih (n := n) b2 h2 h3
                        rw [List.getElem?_cons_succ]
                        exact hh
                  exact key e5 hfw ey
                refine done ea' et' (nXS_step hX hk (by omega) (x := (2, (w : Int))) (fun v ov ev => (nWhich ov ev).2.1 w (by omega) d4) (by omega) (by omega) (fun P st hP hst hlen => ⟨nFs zf (w : Int) :: st, rfl, nSk_cons.mpr ⟨hst, ?_⟩, ?_⟩) (by omega))
                · have := (kElA hy hP).2
                  simp only [List.length_nil, Nat.zero_add] at hlen
                  rw [hlen, Int.toNat_natCast] at this
                  rw [this]
                  unfold nFs
                  rw [Int.toNat_natCast, hzw]
                  rfl
                · simp only [List.length_nil, Nat.zero_add] at hlen
                  simp only [List.length_cons]
                  omega
            · cases c3
        · cases c3
      · cases h
    · cases h
  · cases h
end NXN2
