/-! S: a whole symbolic run. -/
noncomputable section
section SRUN
variable (SO : List (Nat × List sL)) (CL : List vw_C) (CT : Nat → Nat → FieldType) (MT : Nat → Option eM)
def sStep (mL : Nat) (I : eI) (S : sR) : Option (List sR) := match I with
  | (op, nx, a, b, z, _, sw) =>
    sIf op 3 (s3 nx a b S) (
    sIf op 16 (s16 SO nx b z.toNat S) (
    sIf op 0 ((match S with | (_, ls, st, G, c, s, Γ) => some [(nx, ls, (0, sC z) :: st, G, c, s, Γ)])) (
    sIf op 4 (s4 mL nx a b S) (
    sIf op 5 (s5 mL nx a z S) (
    sIf op 6 (s6 nx b S) (
    sIf op 12 (s12 nx a b S) (
    sIf op 13 (s13 nx a b S) (
    sIf op 14 ((match S with | (_, ls, st, G, c, s, Γ) => some [(a, ls, st, G, c, s, Γ)])) (
    sIf op 19 (s19 SO nx b S) (
    sIf op 20 (s20 SO CL nx b S) (
    sIf op 17 (s17 SO CT nx b z.toNat S) (
    sIf op 26 (s26 nx b S) (
    sIf op 1 ((match S with | (_, ls, st, G, c, s, Γ) => some [(nx, ls, (1, sC z) :: st, G, c, s, Γ)])) (
    sIf op 7 (s7 nx b S) (
    sIf op 8 (s8 nx b S) (
    sIf op 9 (s9 nx S) (
    sIf op 10 (s10 nx S) (
    sIf op 15 (s15 a sw S) (
    sIf op 18 (s18 nx b S) (
    sIf op 21 (s21 SO nx S) (
    sIf op 22 (s22 SO CL CT nx b S) (
    sIf op 23 (s23 SO nx b S) (
    sIf op 24 (s24 SO CL nx b S) (
    sIf op 25 (s25 SO nx S) (
    sIf op 30 (s30 nx S) (
    sIf op 31 (s31 SO nx S) (
    sIf op 32 (s32 nx b S) (
    none))))))))))))))))))))))))))))
def sAll (f : sR → Option (List sR)) : List sR → Option (List sR)
  | [] => some []
  | x :: r => match f x with
    | none => none
    | some a => match sAll f r with
      | none => none
      | some b => some (a ++ b)
def sAns (B : List (Int × Int)) (b : Nat) (ret : Option FieldType) (st : List sV) : Bool := match st with
  | [] => decide (b = 0) && decide (ret = none)
  | [(0, x)] => decide (b = 1) && (decide (ret = some .int) || (decide (ret = some .boolean) && sWi B x 0 1))
  | [(1, _)] => decide (b = 2) && decide (ret = some .long)
  | _ => false
def sRecv (G : List sE) (ci : Nat) (v : Option sV) : Bool := match v with
  | some (2, q) => !decide (q.1.toNat < SO.length) && (match sAt G (q.1.toNat - SO.length) with
    | some (.inr (cj, _)) => decide (cj = ci ∧ cj ≠ 999)
    | _ => false)
  | _ => false
def sCallP (I : eI) (S : sR) : Option (List sV × List sV) := match MT I.2.2.2.1 with
  | none => none
  | some M2 => if I.2.2.2.2.1.toNat + (if I.1 = 41 then 0 else 1) ≤ S.2.2.1.length then
      (if ((S.2.2.1.drop (I.2.2.2.2.1.toNat + (if I.1 = 41 then 0 else 1))).map sCat).sum ≤ 8 ∧ (((S.2.2.1.take (I.2.2.2.2.1.toNat + (if I.1 = 41 then 0 else 1))).reverse).map sCat).sum ≤ M2.2.2.1 ∧ (I.1 = 41 ∨ sRecv SO S.2.2.2.1 I.2.2.1 (S.2.2.1.take (I.2.2.2.2.1.toNat + (if I.1 = 41 then 0 else 1))).reverse.head? = true) then
        some ((S.2.2.1.take (I.2.2.2.2.1.toNat + (if I.1 = 41 then 0 else 1))).reverse, S.2.2.1.drop (I.2.2.2.2.1.toNat + (if I.1 = 41 then 0 else 1))) else none) else none
def sRun : Nat → Nat → Nat → sR → Option (List sR)
  | 0, _, _, _ => none
  | _ + 1, 0, _, _ => none
  | n + 1, d + 1, mi, S => match MT mi with
    | none => none
    | some M => if M.2.2.2.2.1 ≤ S.1 then none else match M.2.2.2.2.2 S.1 with
      | none => none
      | some I => if I.1 = 50 then (if sAns S.2.2.2.2.2.2.1 I.2.2.2.1 M.2.2.2.1 S.2.2.1 = true then some [S] else none)
        else if 40 ≤ I.1 then (match sCallP SO MT I S with
          | none => none
          | some ar => match sRun n d I.2.2.2.1 (0, sArgs 0 ar.1, [], S.2.2.2.1, 0, 0, S.2.2.2.2.2.2) with
            | none => none
            | some outs => sAll (fun o => sRun n (d + 1) mi (I.2.1, S.2.1, o.2.2.1 ++ ar.2, o.2.2.2.1, S.2.2.2.2.1 + o.2.2.2.2.1, S.2.2.2.2.2.1 + o.2.2.2.2.2.1, o.2.2.2.2.2.2)) outs)
        else match sStep SO CL CT M.2.2.1 I S with
          | none => none
          | some L => sAll (sRun n (d + 1) mi) L
end SRUN
section SRUNP
variable {ρ : List Int} {S : sR} {R : eR} {L : List sR} {SO : List (Nat × List sL)} {RO : List (Nat × (Nat → Int32))} {CL : List vw_C} {CT : Nat → Nat → FieldType} {MT : Nat → Option eM} {nx a b mL : Nat}
theorem sAll_in {f : sR → Option (List sR)} : ∀ {xs : List sR} {L : List sR}, sAll f xs = some L → ∀ x ∈ xs, ∃ a, f x = some a ∧ ∀ y ∈ a, y ∈ L
  | [], L, h, x, hx => by cases hx
  | y :: r, L, h, x, hx => by
    simp only [sAll] at h
    split at h
    · cases h
    rename_i a ha
    split at h
    · cases h
    rename_i b hb
    cases h
    rcases List.mem_cons.mp hx with rfl | hx
    · exact ⟨a, ha, fun z hz => List.mem_append_left _ hz⟩
    · obtain ⟨a', h1, h2⟩ := sAll_in hb x hx
      exact ⟨a', h1, fun z hz => List.mem_append_right _ (h2 z hz)⟩
theorem sOK.more {ρ ρ' : List Int} {La L : List sR} {o : Option eR} (h : sOK ρ' La o) (hp : ρ <+: ρ') (hs : ∀ y ∈ La, y ∈ L) : sOK ρ L o := by
  obtain ⟨S', h1, ρ2, R', h2, h3⟩ := h
  exact ⟨S', hs S' h1, ρ2, R', hp.trans h2, h3⟩
theorem sStep_ok (hRO : sRor ρ SO RO) (hM : sMo ρ S.2.2.2.2.2.2) (hD : sD ρ S R) {I : eI} (h : sStep SO CL CT mL I S = some L) : sOK ρ L (eStep RO CL CT mL I R) := by
  have hro := sRor_len hRO
  obtain ⟨op, nx, a, b, z, ws, sw⟩ := I
  simp only [sStep, sIf_eq] at h
  simp only [eStep]
  by_cases o3 : op = 3
  · subst o3; simp only [if_true] at h; exact t3 hM hD h
  rw [if_neg o3] at h
  by_cases o16 : op = 16
  · subst o16; simp only [if_true] at h; exact t16 hro hM hD h
  rw [if_neg o16] at h
  by_cases o0 : op = 0
  · subst o0
    simp only [if_true] at h ⊢
    obtain ⟨pc, ls, st, G, c, s, Γ⟩ := S
    obtain ⟨pc', ls', st', G', c', s'⟩ := R
    obtain ⟨h1, hL, hV, hH, h2, h3⟩ := hD
    cases h
    exact sOK.one (List.prefix_refl _) hM rfl ⟨rfl, hL, ⟨⟨z, sEv_C z, rfl⟩, hV⟩, hH, h2, h3⟩
  rw [if_neg o0] at h
  rw [if_neg o0]
  by_cases o4 : op = 4
  · subst o4; exact t4 hM hD h
  rw [if_neg o4] at h
  by_cases o5 : op = 5
  · subst o5; exact t5 hM hD h
  rw [if_neg o5] at h
  by_cases o6 : op = 6
  · subst o6; exact t6 hM hD h
  rw [if_neg o6] at h
  by_cases o12 : op = 12
  · subst o12; exact t12 hM hD h
  rw [if_neg o12] at h
  by_cases o13 : op = 13
  · subst o13; exact t13 hM hD h
  rw [if_neg o13] at h
  by_cases o14 : op = 14
  · subst o14
    obtain ⟨pc, ls, st, G, c, s, Γ⟩ := S
    obtain ⟨pc', ls', st', G', c', s'⟩ := R
    obtain ⟨h1, hL, hV, hH, h2, h3⟩ := hD
    cases h
    exact sOK.one (List.prefix_refl _) hM rfl ⟨rfl, hL, hV, hH, h2, h3⟩
  rw [if_neg o14] at h
  by_cases o19 : op = 19
  · subst o19; exact t19 hRO hM hD h
  rw [if_neg o19] at h
  by_cases o20 : op = 20
  · subst o20; exact t20 hRO hM hD h
  rw [if_neg o20] at h
  by_cases o17 : op = 17
  · subst o17; exact t17 hro hM hD h
  rw [if_neg o17] at h
  by_cases o26 : op = 26
  · subst o26; exact t26 hM hD h
  rw [if_neg o26] at h
  by_cases o1 : op = 1
  · subst o1
    obtain ⟨pc, ls, st, G, c, s, Γ⟩ := S
    obtain ⟨pc', ls', st', G', c', s'⟩ := R
    obtain ⟨h1, hL, hV, hH, h2, h3⟩ := hD
    cases h
    exact sOK.one (List.prefix_refl _) hM rfl ⟨rfl, hL, ⟨⟨z, sEv_C z, rfl⟩, hV⟩, hH, h2, h3⟩
  rw [if_neg o1] at h
  by_cases o7 : op = 7
  · subst o7; exact t7 hM hD h
  rw [if_neg o7] at h
  by_cases o8 : op = 8
  · subst o8; exact t8 hM hD h
  rw [if_neg o8] at h
  by_cases o9 : op = 9
  · subst o9; exact t9 hM hD h
  rw [if_neg o9] at h
  by_cases o10 : op = 10
  · subst o10; exact t10 hM hD h
  rw [if_neg o10] at h
  by_cases o15 : op = 15
  · subst o15; exact t15 hM hD h
  rw [if_neg o15] at h
  by_cases o18 : op = 18
  · subst o18; exact t18 hM hD h
  rw [if_neg o18] at h
  by_cases o21 : op = 21
  · subst o21; exact t21 hRO hM hD h
  rw [if_neg o21] at h
  by_cases o22 : op = 22
  · subst o22; exact t22 hRO hM hD h
  rw [if_neg o22] at h
  by_cases o23 : op = 23
  · subst o23; exact t23 hRO hM hD h
  rw [if_neg o23] at h
  by_cases o24 : op = 24
  · subst o24; exact t24 hRO hM hD h
  rw [if_neg o24] at h
  by_cases o25 : op = 25
  · subst o25; exact t25 hRO hM hD h
  rw [if_neg o25] at h
  by_cases o30 : op = 30
  · subst o30; exact t30 hM hD h
  rw [if_neg o30] at h
  by_cases o31 : op = 31
  · subst o31; exact t31 hRO hM hD h
  rw [if_neg o31] at h
  by_cases o32 : op = 32
  · subst o32; exact t32 hM hD h
  rw [if_neg o32] at h
  cases h
theorem sAns_ok {B : List (Int × Int)} {ret : Option FieldType} {st : List sV} {st' : List Value} (hB : sBd ρ B) (h : sAns B b ret st = true) (hV : sVs ρ st st') : eAns b ret st' = true := by
  unfold sAns at h
  split at h
  · rw [sVs_nil hV]
    exact h
  · obtain ⟨z, r, rfl, hz, hr⟩ := sVs_int hV
    rw [sVs_nil hr]
    simp only [Bool.and_eq_true, Bool.or_eq_true] at h
    simp only [eAns, Bool.and_eq_true, Bool.or_eq_true]
    refine ⟨h.1, ?_⟩
    rcases h.2 with h2 | ⟨h2, h3⟩
    · exact Or.inl h2
    · have q := sWi_ok hB hz h3
      refine Or.inr ⟨h2, ?_⟩
      have hz2 : z = 0 ∨ z = 1 := by omega
      rcases hz2 with rfl | rfl
      · exact Or.inl (by decide)
      · exact Or.inr (by decide)
  · obtain ⟨z, r, rfl, hz, hr⟩ := sVs_long hV
    rw [sVs_nil hr]
    exact h
  · cases h
theorem sRun_ok (hRO0 : ∀ ρ ρ', ρ <+: ρ' → sRor ρ SO RO → sRor ρ' SO RO := fun _ _ h q => q.mono h) : ∀ (n d mi : Nat) (S : sR) (L : List sR), sRun SO CL CT MT n d mi S = some L → ∀ (ρ : List Int) (R : eR), sRor ρ SO RO → sMo ρ S.2.2.2.2.2.2 → sD ρ S R → sOK ρ L (eRun RO CL CT MT n d mi R)
  | 0, _, _, _, _, h => by simp [sRun] at h
  | _ + 1, 0, _, _, _, h => by simp [sRun] at h
  | n + 1, d + 1, mi, S, L, h => by
    intro ρ R hRO hM hD
    simp only [sRun] at h
    simp only [eRun]
    split at h
    · cases h
    rename_i M hMi
    rw [hMi]
    simp only
    have hpc : R.1 = S.1 := hD.1
    split at h
    · cases h
    rename_i hlt
    rw [if_neg (by rw [hpc]; exact hlt), hpc]
    split at h
    · cases h
    rename_i I hI
    rw [hI]
    simp only
    by_cases h50 : I.1 = 50
    · rw [if_pos h50] at h
      rw [if_pos h50]
      split at h
      · rename_i ha
        cases h
        rw [if_pos (sAns_ok hM.1 ha hD.2.2.1)]
        exact ⟨S, List.mem_singleton.mpr rfl, ρ, R, List.prefix_refl _, hM, rfl, hD⟩
      · cases h
    rw [if_neg h50] at h
    rw [if_neg h50]
    by_cases h40 : 40 ≤ I.1
    · rw [if_pos h40] at h
      rw [if_pos h40]
      split at h
      · cases h
      rename_i ar har
      split at h
      · cases h
      rename_i outs houts
      have hro := sRor_len hRO
      have hV := hD.2.2.1
      have hH := hD.2.2.2.1
      unfold sCallP at har
      split at har
      · cases har
      rename_i M2 hM2
      generalize hN : I.2.2.2.2.1.toNat + (if I.1 = 41 then 0 else 1) = N1 at har
      split at har
      · rename_i hlen
        split at har
        · rename_i hc
          cases har
          obtain ⟨hc1, hc2, hc3⟩ := hc
          have hVt : sVs ρ (S.2.2.1.take N1).reverse (R.2.2.1.take N1).reverse := sVs_rev (sVs_take N1 hV)
          have hVd : sVs ρ (S.2.2.1.drop N1) (R.2.2.1.drop N1) := sVs_drop N1 hV
          have hrc : I.1 = 41 ∨ eRecv RO R.2.2.2.1 I.2.2.1 (R.2.2.1.take N1).reverse.head? = true := by
            rcases hc3 with hc3 | hc3
            · exact Or.inl hc3
            · right
              generalize (S.2.2.1.take N1).reverse = sv at hc3 hVt
              generalize (R.2.2.1.take N1).reverse = ev at hVt
              unfold sRecv at hc3
              simp only [sAt_eq] at hc3
              split at hc3
              · rename_i q hq
                cases sv with
                | nil => cases hq
                | cons v vs =>
                  simp only [List.head?_cons, Option.some.injEq] at hq
                  subst hq
                  obtain ⟨r, rfl, -⟩ := sVs_ref hVt
                  simp only [Bool.and_eq_true, Bool.not_eq_true', decide_eq_false_iff_not] at hc3
                  obtain ⟨hq1, hc3⟩ := hc3
                  split at hc3
                  · rename_i cj fs hg
                    have hc3 := of_decide_eq_true hc3
                    obtain ⟨y, hy, hxy⟩ := sHp_get hH hg (sIsA_ne hc3.2)
                    rcases y with y | ⟨ck, gs⟩
                    · exact hxy.elim
                    obtain ⟨rfl, -⟩ := hxy
                    simp only [eRecv, List.head?_cons, Bool.and_eq_true, Bool.not_eq_true', decide_eq_false_iff_not]
                    rw [hro]
                    refine ⟨hq1, ?_⟩
                    rw [hy]
                    exact decide_eq_true hc3.1
                  · cases hc3
              · cases hc3
          have hcp : eCallP RO MT I R = some (M2, (R.2.2.1.take N1).reverse, R.2.2.1.drop N1) := by
            unfold eCallP
            rw [hM2]
            simp only
            rw [hN]
            unfold eArgs
            rw [if_pos (by rw [sVs_len hV]; exact hlen)]
            simp only
            rw [if_pos ⟨by rw [sVs_cats hVd]; exact hc1, by rw [sVs_cats hVt]; exact hc2, hrc⟩]
          rw [hcp]
          simp only
          have hD0 : sD ρ (0, sArgs 0 (S.2.2.1.take N1).reverse, [], S.2.2.2.1, 0, 0, S.2.2.2.2.2.2) (0, lv_args 0 (R.2.2.1.take N1).reverse, [], R.2.2.2.1, 0, 0) := ⟨rfl, sLs_args 0 hVt, trivial, hH, rfl, rfl⟩
          obtain ⟨o, ho, ρ', R2, hp, hM', he, hD'⟩ := sRun_ok hRO0 n d I.2.2.2.1 _ outs houts ρ _ hRO hM hD0
          rw [he]
          simp only
          obtain ⟨La, hLa, hsub⟩ := sAll_in h o ho
          obtain ⟨e1, e2, e3, e4, e5, e6⟩ := hD'
          refine (sRun_ok hRO0 n (d + 1) mi _ La hLa ρ' (I.2.1, R.2.1, R2.2.2.1 ++ R.2.2.1.drop N1, R2.2.2.2.1, R.2.2.2.2.1 + R2.2.2.2.2.1, R.2.2.2.2.2 + R2.2.2.2.2.2) (hRO0 _ _ hp hRO) hM' ⟨rfl, hD.2.1.mono hp, sVs_app e3 (hVd.mono hp), e4, ?_, ?_⟩).more hp hsub
          · show R.2.2.2.2.1 + _ = S.2.2.2.2.1 + _
            rw [hD.2.2.2.2.1, e5]
          · show R.2.2.2.2.2 + _ = S.2.2.2.2.2.1 + _
            rw [hD.2.2.2.2.2, e6]
        · cases har
      · cases har
    · rw [if_neg h40] at h
      rw [if_neg h40]
      split at h
      · cases h
      rename_i L1 hL1
      obtain ⟨S1, hS1, ρ', R1, hp, hM', he, hD'⟩ := sStep_ok hRO hM hD hL1
      rw [he]
      simp only
      obtain ⟨La, hLa, hsub⟩ := sAll_in h S1 hS1
      exact (sRun_ok hRO0 n (d + 1) mi S1 La hLa ρ' R1 (hRO0 _ _ hp hRO) hM' hD').more hp hsub
end SRUNP
end
