/-! K: a run that uses contracts is right. -/
noncomputable section
section KRUNP
variable {GP : Nat → List Int → List eE → Prop} {SO : List (Nat × List sL)} {RO : List (Nat × (Nat → Int32))} {CL : List vw_C} {CT : Nat → Nat → FieldType} {MT : Nat → Option eM} {dep : Nat → List Nat} {nh : Nat}
variable {HK : Nat → Nat → kS → Option (List kS)} {KS : (Nat → Bool) → Nat → eI → kS → Option (List kS)} {CS : Nat → Nat → List kC}
/-- what is lower holds -/
def kIH (GP : Nat → List Int → List eE → Prop) (RO : List (Nat × (Nat → Int32))) (CL : List vw_C) (CT : Nat → Nat → FieldType) (MT : Nat → Option eM) (nh : Nat) (CS : Nat → Nat → List kC) (lev : Nat) (rv : Int) : Prop :=
  ∀ (mi pc : Nat) (c : kC), c ∈ CS mi pc → ∀ (vs : List Int) (z : Int), (c.2.2.2.1.2.1 < lev ∨ (c.2.2.2.1.2.1 = lev ∧ sEv vs c.2.2.2.1.2.2 = some z ∧ 0 ≤ z ∧ z < rv)) → kHolds GP RO CL CT MT nh c vs
/-- an end of a run from a place: a state of the list stands for it -/
def kDone (GP : Nat → List Int → List eE → Prop) (RO : List (Nat × (Nat → Int32))) (CL : List vw_C) (CT : Nat → Nat → FieldType) (MT : Nat → Option eM) (md : Nat → Bool) (d mi : Nat) (ρ : List Int) (R : eR) (L : List kS) : Prop :=
  ∃ K' ∈ L, ∃ ρ' Rf, ρ <+: ρ' ∧ eC RO CL CT MT d mi R Rf ∧ kE GP ρ' K' Rf ∧ (∀ j, j < R.2.2.2.1.length → md j = false → Rf.2.2.2.1[j]? = R.2.2.2.1[j]?) ∧ R.2.2.2.1.length ≤ Rf.2.2.2.1.length
theorem kUse_ok (hGP : ∀ k zs (H H' : List eE), (∀ j ∈ dep k, H'[j]? = H[j]?) → GP k zs H → GP k zs H') (hCS : ∀ (mi pc : Nat) (c : kC), c ∈ CS mi pc → c.1 = (mi, pc)) {X : kX} {i c0 s0 mi pc : Nat} {ls : List (Nat × sV)} {G : List sE} {Γ : sG} {γ : List kA} {outs : List kS} {ρ : List Int} {ws : List (Nat × Value)} {H : List eE} {dv rv : Int}
    (hD : sEv ρ X.2.2.2 = some dv) (hR : sEv ρ X.2.2.1 = some rv) (hIH : kIH GP RO CL CT MT nh CS X.2.1 rv) (hM : sMo ρ Γ) (hL : sLs ρ ls ws) (hH : sHp ρ G H) (hg : kGh GP ρ γ H) :
    ∀ (cs : List kC), (∀ c ∈ cs, c ∈ CS mi pc) → kUse dep nh X i c0 s0 ls G Γ γ cs = some outs → kDone GP RO CL CT MT X.1 (dv - i).toNat mi ρ (pc, ws, [], H, c0, s0) outs
  | [], _, h => by cases h
  | c :: r, hcs, h => by
    simp only [kUse] at h
    split at h
    · rename_i σ hσ
      split at h
      · rename_i hc
        have hcin := hcs c List.mem_cons_self
        have hc1 := hCS mi pc c hcin
        obtain ⟨vs, hv, hpre⟩ := kMat_ok (GP := GP) hσ hM hL hH hg
        simp only [kMay, Bool.and_eq_true, Bool.or_eq_true, decide_eq_true_eq] at hc
        obtain ⟨⟨hlev, hmd, hdep⟩, rfl, rfl⟩ := hc
        have hlow : ∃ z, (c.2.2.2.1.2.1 < X.2.1 ∨ (c.2.2.2.1.2.1 = X.2.1 ∧ sEv vs c.2.2.2.1.2.2 = some z ∧ 0 ≤ z ∧ z < rv)) := by
          rcases hlev with h1 | ⟨h1, h2⟩
          · exact ⟨0, Or.inl h1⟩
          · split at h2
            · rename_i rr hrr
              obtain ⟨z, e1, e2⟩ := sSubst_has hv hrr
              simp only [Bool.and_eq_true] at h2
              have q1 := sNN_ok hM e2 h2.1
              have q2 := sNN_ok hM (sEv_sub (sEv_sub hR e2) (sEv_C 1)) h2.2
              exact ⟨z, Or.inr ⟨h1, e1, q1, by omega⟩⟩
            · cases h2
        obtain ⟨z, hlow⟩ := hlow
        have hh := hIH mi pc c hcin vs z hlow
        split at hdep
        · rename_i d hd
          obtain ⟨dv', e1, e2⟩ := sSubst_has hv hd
          have q3 := sNN_ok hM (sEv_sub (sEv_sub hD e2) (sEv_C (i : Int))) hdep
          obtain ⟨U, hU, new, Rf, hrun, hpost⟩ := hh ws H hpre dv' e1
          obtain ⟨a, ha, hsub⟩ := kAll_in h U hU
          obtain ⟨K', hK', rfl⟩ := Option.map_eq_some_iff.mp ha
          refine ⟨K', hsub K' (List.mem_singleton.mpr rfl), ρ ++ new, Rf, ⟨_, rfl⟩, ?_, kEnd_ok hGP hK' hM hv hH hg hpost, fun j _ hj => hpost.2.2.2.2.1 j ?_, ?_⟩
          · rw [hc1] at hrun
            exact hrun.up (by omega)
          · by_cases hjm : c.2.2.2.2.1.contains j = true
            · have hin := List.all_eq_true.mp hmd j (List.contains_iff_mem.mp hjm)
              rw [hj] at hin
              cases hin
            · exact Bool.eq_false_iff.mpr hjm
          · exact Nat.le_of_eq hpost.2.2.1.symm
        · cases hdep
      · exact kUse_ok hGP hCS hD hR hIH hM hL hH hg r (fun c hc => hcs c (List.mem_cons_of_mem _ hc)) h
    · exact kUse_ok hGP hCS hD hR hIH hM hL hH hg r (fun c hc => hcs c (List.mem_cons_of_mem _ hc)) h
/-- what a step must keep to -/
def kStepOk (GP : Nat → List Int → List eE → Prop) (SO : List (Nat × List sL)) (RO : List (Nat × (Nat → Int32))) (CL : List vw_C) (CT : Nat → Nat → FieldType) (KS : (Nat → Bool) → Nat → eI → kS → Option (List kS)) : Prop :=
  ∀ (md : Nat → Bool) (mL : Nat) (I : eI) (K : kS) (L : List kS), KS md mL I K = some L → ∀ (ρ : List Int) (R : eR), sRor ρ SO RO → kD GP ρ K R →
    ∃ K' ∈ L, ∃ ρ' R', ρ <+: ρ' ∧ eStep RO CL CT mL I R = some R' ∧ kD GP ρ' K' R' ∧ (∀ j, j < R.2.2.2.1.length → md j = false → R'.2.2.2.1[j]? = R.2.2.2.1[j]?) ∧ R.2.2.2.1.length ≤ R'.2.2.2.1.length
/-- what a consequence must keep to -/
def kHookOk (GP : Nat → List Int → List eE → Prop) (HK : Nat → Nat → kS → Option (List kS)) : Prop :=
  ∀ (mi pc : Nat) (K : kS) (L : List kS), HK mi pc K = some L → ∀ (ρ : List Int) (R : eR), kD GP ρ K R → ∃ K' ∈ L, ∃ ρ', ρ <+: ρ' ∧ kD GP ρ' K' R
theorem kDone.more {md : Nat → Bool} {d mi : Nat} {ρ ρ' : List Int} {R : eR} {La L : List kS} (h : kDone GP RO CL CT MT md d mi ρ' R La) (hp : ρ <+: ρ') (hs : ∀ y ∈ La, y ∈ L) : kDone GP RO CL CT MT md d mi ρ R L := by
  obtain ⟨K', h1, ρ2, Rf, h2, h3⟩ := h
  exact ⟨K', hs K' h1, ρ2, Rf, hp.trans h2, h3⟩
theorem sCallP_ok {ρ : List Int} {S : sR} {R : eR} {I : eI} {ar : List sV × List sV} (hRO : sRor ρ SO RO) (hD : sD ρ S R) (har : sCallP SO MT I S = some ar) :
    ∃ (M2 : eM) (av rv : List Value), eCallP RO MT I R = some (M2, av, rv) ∧ sVs ρ ar.1 av ∧ sVs ρ ar.2 rv := by
  have hro := sRor_len hRO
  have hV := hD.2.2.1
  have hH := hD.2.2.2.1
  unfold sCallP at har
  split at har
  · cases har
  rename_i M2 hM2
  generalize hN : I.2.2.2.2.1.toNat + (if I.1 = 41 then 0 else 1) = N1 at har
  split at har
  · rename_i hlen
    split at har
    · rename_i hc
      cases har
      obtain ⟨hc1, hc2, hc3⟩ := hc
      have hVt : sVs ρ (S.2.2.1.take N1).reverse (R.2.2.1.take N1).reverse := sVs_rev (sVs_take N1 hV)
      have hVd : sVs ρ (S.2.2.1.drop N1) (R.2.2.1.drop N1) := sVs_drop N1 hV
      have hrc : I.1 = 41 ∨ eRecv RO R.2.2.2.1 I.2.2.1 (R.2.2.1.take N1).reverse.head? = true := by
        rcases hc3 with hc3 | hc3
        · exact Or.inl hc3
        · right
          generalize (S.2.2.1.take N1).reverse = sv at hc3 hVt
          generalize (R.2.2.1.take N1).reverse = ev at hVt
          unfold sRecv at hc3
          simp only [sAt_eq] at hc3
          split at hc3
          · rename_i q hq
            cases sv with
            | nil => cases hq
            | cons v vs =>
              simp only [List.head?_cons, Option.some.injEq] at hq
              subst hq
              obtain ⟨r, rfl, -⟩ := sVs_ref hVt
              simp only [Bool.and_eq_true, Bool.not_eq_true', decide_eq_false_iff_not] at hc3
              obtain ⟨hq1, hc3⟩ := hc3
              split at hc3
              · rename_i cj fs hg
                have hc3 := of_decide_eq_true hc3
                obtain ⟨y, hy, hxy⟩ := sHp_get hH hg (sIsA_ne hc3.2)
                rcases y with y | ⟨ck, gs⟩
                · exact hxy.elim
                obtain ⟨rfl, -⟩ := hxy
                simp only [eRecv, List.head?_cons, Bool.and_eq_true, Bool.not_eq_true', decide_eq_false_iff_not]
                rw [hro]
                refine ⟨hq1, ?_⟩
                rw [hy]
                exact decide_eq_true hc3.1
              · cases hc3
          · cases hc3
      refine ⟨M2, _, _, ?_, hVt, hVd⟩
      unfold eCallP
      rw [hM2]
      simp only
      rw [hN]
      unfold eArgs
      rw [if_pos (by rw [sVs_len hV]; exact hlen)]
      simp only
      rw [if_pos ⟨by rw [sVs_cats hVd]; exact hc1, by rw [sVs_cats hVt]; exact hc2, hrc⟩]
    · cases har
  · cases har
theorem kRun_ok (hGP : ∀ k zs (H H' : List eE), (∀ j ∈ dep k, H'[j]? = H[j]?) → GP k zs H → GP k zs H') (hCS : ∀ (mi pc : Nat) (c : kC), c ∈ CS mi pc → c.1 = (mi, pc)) (hKS : kStepOk GP SO RO CL CT KS) (hHK : kHookOk GP HK) (X : kX) :
    ∀ (n i mi : Nat) (K : kS) (L : List kS), kRun SO MT dep nh HK KS CS X n i mi K = some L → ∀ (ρ : List Int) (R : eR) (dv rv : Int), sRor ρ SO RO → sEv ρ X.2.2.2 = some dv → sEv ρ X.2.2.1 = some rv → (i : Int) + 1 ≤ dv → kIH GP RO CL CT MT nh CS X.2.1 rv → kD GP ρ K R → kDone GP RO CL CT MT X.1 (dv - i).toNat mi ρ R L
  | 0, _, _, _, _, h => by simp [kRun] at h
  | n + 1, i, mi, K0, L, h => by
    intro ρ0 R dv rv hRO0 hDv0 hRv0 hi hIH hD0
    have ih := kRun_ok hGP hCS hKS hHK X n
    simp only [kRun] at h
    split at h
    · cases h
    rename_i M hMi
    split at h
    · cases h
    rename_i hlt
    split at h
    · cases h
    rename_i I hI
    split at h
    · cases h
    rename_i Ks hKs
    obtain ⟨K, hKin, ρ, hp0, hD⟩ := hHK mi K0.1.1 K0 Ks hKs ρ0 R hD0
    obtain ⟨La, hLa, hsub⟩ := kAll_in h K hKin
    have hRO := hRO0.mono hp0
    have hDv := sEv_mono hp0 hDv0
    have hRv := sEv_mono hp0 hRv0
    refine kDone.more (La := La) ?_ hp0 hsub
    clear h
    have hpc0 : R.1 = K0.1.1 := hD0.2.1.1
    have hlt' : R.1 < M.2.2.2.2.1 := by rw [hpc0]; omega
    have hI' : M.2.2.2.2.2 R.1 = some I := by rw [hpc0]; exact hI
    obtain ⟨dn, hdn⟩ : ∃ dn, (dv - i).toNat = dn + 1 := ⟨(dv - i).toNat - 1, by omega⟩
    split at hLa
    · cases hLa
    rename_i hpcK
    have hpcK : K.1.1 = K0.1.1 := Decidable.not_not.mp hpcK
    split at hLa
    · rename_i outs houts
      cases hLa
      split at houts
      · rename_i hemp
        have hemp' : K.1.2.2.1 = [] := List.isEmpty_iff.mp hemp
        have hV := hD.2.1.2.2.1
        rw [hemp'] at hV
        have hstk : R.2.2.1 = [] := sVs_nil hV
        have hu := kUse_ok hGP hCS hDv hRv hIH hD.1 hD.2.1.2.1 hD.2.1.2.2.2.1 hD.2.2 _ (fun c hc => hc) houts
        have hRe : R = (K.1.1, R.2.1, [], R.2.2.2.1, K.1.2.2.2.2.1, K.1.2.2.2.2.2.1) := by
          rw [← hD.2.1.1, ← hD.2.1.2.2.2.2.1, ← hD.2.1.2.2.2.2.2, ← hstk]
        rw [hRe]
        exact hu
      · cases houts
    · split at hLa
      · rename_i h50
        split at hLa
        · rename_i ha
          cases hLa
          refine ⟨K, List.mem_singleton.mpr rfl, ρ, R, List.prefix_refl _, ?_, hD.toE, fun _ _ _ => rfl, Nat.le_refl _⟩
          rw [hdn]
          exact eC.ret hMi hlt' hI' h50 (sAns_ok hD.1.1 ha hD.2.1.2.2.1)
        · cases hLa
      rename_i h50
      split at hLa
      · rename_i h40
        split at hLa
        · cases hLa
        rename_i ar har
        obtain ⟨M2, av, rs, hcp, hVa, hVr⟩ := sCallP_ok hRO hD.2.1 har
        have cont : ∀ outs : List kS, kAll (fun o => kRun SO MT dep nh HK KS CS X n i mi ((I.2.1, K.1.2.1, o.1.2.2.1 ++ ar.2, o.1.2.2.2.1, K.1.2.2.2.2.1 + o.1.2.2.2.2.1, K.1.2.2.2.2.2.1 + o.1.2.2.2.2.2.1, o.1.2.2.2.2.2.2), o.2)) outs = some La →
            kDone GP RO CL CT MT X.1 dn I.2.2.2.1 ρ (0, lv_args 0 av, [], R.2.2.2.1, 0, 0) outs → kDone GP RO CL CT MT X.1 (dv - i).toNat mi ρ R La := by
          rintro outs hall ⟨o, ho, ρ1, R2, hp1, hc, hE, hfr, hlen⟩
          obtain ⟨Lb, hLb, hsub2⟩ := kAll_in hall o ho
          obtain ⟨K', g1, ρ2, Rf, g2, g3, g4, g5, g6⟩ := ih i mi _ Lb hLb ρ1 (I.2.1, R.2.1, R2.2.2.1 ++ rs, R2.2.2.2.1, R.2.2.2.2.1 + R2.2.2.2.2.1, R.2.2.2.2.2 + R2.2.2.2.2.2) dv rv (hRO.mono hp1) (sEv_mono hp1 hDv) (sEv_mono hp1 hRv) hi hIH
            ⟨hE.1, ⟨rfl, hD.2.1.2.1.mono hp1, sVs_app hE.2.1 (hVr.mono hp1), hE.2.2.1, by rw [hD.2.1.2.2.2.2.1, hE.2.2.2.1.1], by rw [hD.2.1.2.2.2.2.2, hE.2.2.2.1.2]⟩, hE.2.2.2.2⟩
          refine ⟨K', hsub2 K' g1, ρ2, Rf, hp1.trans g2, ?_, g4, fun j hj hmd => ?_, Nat.le_trans hlen g6⟩
          · rw [hdn] at g3 ⊢
            exact eC.call hMi hlt' hI' h50 h40 hcp hc g3
          · exact (g5 j (Nat.lt_of_lt_of_le hj hlen) hmd).trans (hfr j hj hmd)
        split at hLa
        · rename_i outs houts
          refine cont outs hLa ?_
          have hu := kUse_ok hGP hCS hDv hRv hIH hD.1 (sLs_args 0 hVa) hD.2.1.2.2.2.1 hD.2.2 _ (fun c hc => hc) houts
          have e : (dv - ((i + 1 : Nat) : Int)).toNat = dn := by omega
          rw [e] at hu
          exact hu
        · split at hLa
          · rename_i hnn
            split at hLa
            · cases hLa
            rename_i outs houts
            refine cont outs hLa ?_
            have q := sNN_ok hD.1 (sEv_sub hDv (sEv_C ((i + 2 : Nat) : Int))) hnn
            have hu := ih (i + 1) I.2.2.2.1 _ outs houts ρ (0, lv_args 0 av, [], R.2.2.2.1, 0, 0) dv rv hRO hDv hRv (by omega) hIH ⟨hD.1, ⟨rfl, sLs_args 0 hVa, trivial, hD.2.1.2.2.2.1, rfl, rfl⟩, hD.2.2⟩
            have e : (dv - ((i + 1 : Nat) : Int)).toNat = dn := by omega
            rw [e] at hu
            exact hu
          · cases hLa
      · rename_i h40
        split at hLa
        · cases hLa
        rename_i Lc hLc
        obtain ⟨K1, hK1, ρ1, R1, hp1, hs, hD1, hfr, hlen⟩ := hKS X.1 M.2.2.1 I K Lc hLc ρ R hRO hD
        obtain ⟨Lb, hLb, hsub2⟩ := kAll_in hLa K1 hK1
        obtain ⟨K', g1, ρ2, Rf, g2, g3, g4, g5, g6⟩ := ih i mi K1 Lb hLb ρ1 R1 dv rv (hRO.mono hp1) (sEv_mono hp1 hDv) (sEv_mono hp1 hRv) hi hIH hD1
        refine ⟨K', hsub2 K' g1, ρ2, Rf, hp1.trans g2, ?_, g4, fun j hj hmd => ?_, Nat.le_trans hlen g6⟩
        · rw [hdn] at g3 ⊢
          exact eC.step hMi hlt' hI' h40 hs g3
        · exact (g5 j (Nat.lt_of_lt_of_le hj hlen) hmd).trans (hfr j hj hmd)
end KRUNP
end
