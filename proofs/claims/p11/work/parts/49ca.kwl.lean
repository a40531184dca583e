/-! What is told of rows of longs, behind a write. -/
noncomputable section
def kLU (c j i : Nat) (x : Int64) (f : Nat → Int64) : Nat → Int64 := if c = j then vp_updL f i x else f
theorem kLU_ne {c j i k : Nat} {x : Int64} {f : Nat → Int64} (h : k ≠ i) : kLU c j i x f k = f k := by
  unfold kLU
  split
  · simp [vp_updL, h]
  · rfl
theorem kLU_off {c j i : Nat} {x : Int64} {f : Nat → Int64} (h : c ≠ j) : kLU c j i x f = f := if_neg h
theorem kLU_at {j i : Nat} {x : Int64} {f : Nat → Int64} : kLU j j i x f i = x := by
  unfold kLU
  rw [if_pos rfl]
  simp [vp_updL]
theorem kLg_set {c j i n m : Nat} {x : Int64} {f g : Nat → Int64} {ty : FieldType} {H : List eE} (hf : kLg c m f H) (hj : H[j]? = some (.inl (ty, n, .inr (.inl g)))) : kLg c m (kLU c j i x f) (H.set j (.inl (ty, n, .inr (.inl (vp_updL g i x))))) := by
  unfold kLg at hf ⊢
  unfold kLU
  split
  · rename_i h
    subst h
    rw [hj] at hf
    cases hf
    rw [List.getElem?_set_self (List.getElem?_eq_some_iff.mp hj).1]
  · rename_i h
    rw [List.getElem?_set_ne (fun e => h e.symm)]
    exact hf
def kKWL1 (Γ : sG) (γ : List kA) (j : Nat) (i v : sL) (q : kA) : List kA :=
  if q.1 = 1000 + j then (match q.2 with
    | [i', _] => if (sSub i' i).2 = [] ∧ (sSub i' i).1 ≠ 0 then [q] else []
    | _ => [])
  else if 14 ≤ q.1 ∧ q.1 < 20 then (match q.2 with
    | [e] => if j = 41 + 2 * (q.1 - 14) then (if e = sC (-1) ∨ e = i then [(q.1, [i])] else [])
      else if j = 84 then (if (sNN Γ (sSub i (sC (60 * ((q.1 - 14 : Nat) : Int) + 60))) || sNN Γ (sSub (sC (60 * ((q.1 - 14 : Nat) : Int) - 1)) i)) = true then [q]
        else if e = sC (-1) ∨ e = sSub i (sC (60 * ((q.1 - 14 : Nat) : Int))) then [(q.1, [sSub i (sC (60 * ((q.1 - 14 : Nat) : Int)))])] else [])
      else []
    | _ => [])
  else if 21 ≤ q.1 ∧ q.1 < 27 then (match q.2 with
    | [m] => if j = 41 + 2 * (q.1 - 21) ∧ sNN Γ (sSub i m) = true then [q] else []
    | _ => [])
  else if q.1 = 27 then (match q.2 with
    | [lo, m] => if j = 84 ∧ (sNN Γ (sSub i m) || sNN Γ (sSub (sSub lo (sC 1)) i)) = true then [q] else []
    | _ => [])
  else if q.1 = 34 then (match q.2 with
    | [_, m] => if j = 85 ∧ sNN Γ (sSub i m) = true then [q] else []
    | _ => [])
  else if 35 ≤ q.1 ∧ q.1 < 41 then (match q.2 with
    | [d, m, n] => if j = 84 ∧ i = sAdd (sC (60 * ((q.1 - 35 : Nat) : Int))) (sAdd d m) ∧ kFindEl γ 85 m = some v ∧ (sNN Γ m && (sNN Γ d && sNN Γ (sSub (sSub n m) (sC 1)))) = true then [(q.1, [d, sAdd m (sC 1), n])] else []
    | _ => [])
  else []
def kKWL (Γ : sG) (γ : List kA) (j : Nat) (i v : sL) : List kA := kFm (kKWL1 Γ γ j i v) j γ
section KKWL
variable {RO : List (Nat × (Nat → Int32))} {ρ : List Int} {H : List eE} {j n : Nat} {zi zv : Int} {ty : FieldType} {g : Nat → Int64}
theorem kKWL1_ok {Γ : sG} {γ : List kA} {i v : sL} {q : kA} (hM : sMo ρ Γ) (hg : kGh (kGP (kUP RO)) ρ γ H) (hi : sEv ρ i = some zi) (hv : sEv ρ v = some zv) (h0 : 0 ≤ zi) (hn : zi < n) (hj : H[j]? = some (.inl (ty, n, .inr (.inl g)))) {zs : List Int} (hz : sVal ρ q.2 = some zs) (hq : kGP (kUP RO) q.1 zs H) : kGh (kGP (kUP RO)) ρ (kKWL1 Γ γ j i v q) (H.set j (.inl (ty, n, .inr (.inl (vp_updL g zi.toNat (Int64.ofInt zv)))))) := by
  generalize hH' : H.set j (.inl (ty, n, .inr (.inl (vp_updL g zi.toNat (Int64.ofInt zv))))) = H'
  have none_ : kGh (kGP (kUP RO)) ρ [] H' := fun a ha => by cases ha
  have one_ : ∀ {a : kA} {zs' : List Int}, sVal ρ a.2 = some zs' → kGP (kUP RO) a.1 zs' H' → kGh (kGP (kUP RO)) ρ [a] H' := fun h1 h2 b hb => by
    rcases List.mem_singleton.mp hb with rfl
    exact ⟨_, h1, h2⟩
  have lgs : ∀ {c m : Nat} {f : Nat → Int64}, kLg c m f H → kLg c m (kLU c j zi.toNat (Int64.ofInt zv) f) H' := fun h => by
    rw [← hH']
    exact kLg_set h hj
  have up : ∀ {k' : Nat} {zs' : List Int} {H' : List eE}, k' < 1000 → (kGP (kUP RO) k' zs' H' ↔ kUP RO k' zs' H') := fun h => by
    unfold kGP
    rw [if_neg (by omega)]
  obtain ⟨k, fs⟩ := q
  simp only at hz hq
  unfold kKWL1
  simp only
  by_cases k0 : k = 1000 + j
  · rw [if_pos k0]
    subst k0
    split
    · rename_i i' v'
      split
      · rename_i hc
        obtain ⟨z1, z2, rfl, e1, e2⟩ := sVal_2 hz
        refine one_ (zs' := [z1, z2]) hz (kGP_el.mpr ?_)
        obtain ⟨ty2, n2, arr, h1, h2, h3⟩ := kGP_el.mp hq
        rw [hj] at h1
        cases h1
        refine ⟨ty, n, .inr (.inl (vp_updL g zi.toNat (Int64.ofInt zv))), by rw [← hH', List.getElem?_set_self (List.getElem?_eq_some_iff.mp hj).1], h2, ?_⟩
        have hs := sEv_sub e1 hi
        have hform : sSub i' i = ((sSub i' i).1, []) := Prod.ext rfl hc.1
        rw [hform] at hs
        simp only [sEv, sEvT, Option.map_some, Option.some.injEq] at hs
        have hne : z1.toNat ≠ zi.toNat := by have := hc.2; omega
        simp only at h3 ⊢
        simp [vp_updL, hne, h3]
      · exact none_
    · exact none_
  rw [if_neg k0]
  by_cases k14 : 14 ≤ k ∧ k < 20
  · rw [if_pos k14]
    obtain ⟨s, rfl⟩ : ∃ s, k = 14 + s := ⟨k - 14, by omega⟩
    have hs6 : s < 6 := by omega
    rw [Nat.add_sub_cancel_left]
    have un : ∀ {zs' : List Int} {H' : List eE}, kUP RO (14 + s) zs' H' ↔ ∃ e, zs' = [e] ∧ kEL s e H' := fun {zs' H'} => by
      unfold kUP
      rw [if_neg (by omega), if_neg (by omega), if_neg (by omega), if_neg (by omega), if_neg (by omega), if_neg (by omega), if_neg (by omega), if_neg (by omega), if_neg (by omega), if_neg (by omega), if_neg (by omega), if_neg (by omega), if_neg (by omega), if_neg (by omega), if_neg (by omega), if_pos k14, Nat.add_sub_cancel_left]
    split
    · rename_i e
      obtain ⟨z1, rfl, e1⟩ := sVal_1 hz
      obtain ⟨e', he', f, g2, q1, q2, q3⟩ := un.mp ((up (by omega)).mp hq)
      cases he'
      split
      · rename_i hjs
        split
        · rename_i hc
          refine one_ (zs' := [zi]) (by simp only [sVal, hi]) ((up (by simp only; omega)).mpr (un.mpr ⟨zi, rfl, _, _, lgs q1, lgs q2, fun y hy hne => ?_⟩))
          have hk2 : y ≠ zi.toNat := by omega
          rw [kLU_ne hk2, kLU_off (by omega)]
          refine q3 y hy ?_
          rcases hc with rfl | rfl
          · rw [sEv_C] at e1; cases e1; omega
          · cases e1.symm.trans hi; omega
        · exact none_
      · rename_i hjs
        split
        · rename_i hj84
          split
          · rename_i hc
            have hout : 60 * (s : Int) + 60 ≤ zi ∨ zi ≤ 60 * (s : Int) - 1 := by
              rcases Bool.or_eq_true_iff.mp hc with hc | hc
              · have := sNN_ok hM (sEv_sub hi (sEv_C _)) hc
                left; omega
              · have := sNN_ok hM (sEv_sub (sEv_C _) hi) hc
                right; omega
            refine one_ (zs' := [z1]) hz ((up (by simp only; omega)).mpr (un.mpr ⟨z1, rfl, _, _, lgs q1, lgs q2, fun y hy hne => ?_⟩))
            rw [kLU_off (by omega), kLU_ne (by omega)]
            exact q3 y hy hne
          split
          · rename_i hc
            have es := sEv_sub hi (sEv_C (ρ := ρ) (60 * (s : Int)))
            refine one_ (zs' := [zi - 60 * (s : Int)]) (by simp only [sVal, es]) ((up (by simp only; omega)).mpr (un.mpr ⟨_, rfl, _, _, lgs q1, lgs q2, fun y hy hne => ?_⟩))
            rw [kLU_off (by omega), kLU_ne (by omega)]
            refine q3 y hy ?_
            rcases hc with rfl | rfl
            · rw [sEv_C] at e1; cases e1; omega
            · cases e1.symm.trans es; exact hne
          · exact none_
        · exact none_
    · exact none_
  rw [if_neg k14]
  by_cases k21 : 21 ≤ k ∧ k < 27
  · rw [if_pos k21]
    obtain ⟨s, rfl⟩ : ∃ s, k = 21 + s := ⟨k - 21, by omega⟩
    rw [Nat.add_sub_cancel_left]
    have un : ∀ {zs' : List Int} {H' : List eE}, kUP RO (21 + s) zs' H' ↔ ∃ e, zs' = [e] ∧ kZC s e H' := fun {zs' H'} => by
      unfold kUP
      rw [if_neg (by omega), if_neg (by omega), if_neg (by omega), if_neg (by omega), if_neg (by omega), if_neg (by omega), if_neg (by omega), if_neg (by omega), if_neg (by omega), if_neg (by omega), if_neg (by omega), if_neg (by omega), if_neg (by omega), if_neg (by omega), if_neg (by omega), if_neg (by omega), if_pos k21, Nat.add_sub_cancel_left]
    split
    · rename_i m
      split
      · rename_i hc
        obtain ⟨z1, rfl, e1⟩ := sVal_1 hz
        obtain ⟨e', he', f, q1, q2⟩ := un.mp ((up (by omega)).mp hq)
        cases he'
        have := sNN_ok hM (sEv_sub hi e1) hc.2
        refine one_ (zs' := [z1]) hz ((up (by simp only; omega)).mpr (un.mpr ⟨z1, rfl, _, lgs q1, fun y hy hy2 => ?_⟩))
        rw [kLU_ne (by omega)]
        exact q2 y hy hy2
      · exact none_
    · exact none_
  rw [if_neg k21]
  by_cases k27 : k = 27
  · rw [if_pos k27]
    subst k27
    split
    · rename_i lo m
      split
      · rename_i hc
        obtain ⟨z1, z2, rfl, e1, e2⟩ := sVal_2 hz
        obtain ⟨a, b, he', f, q1, q2⟩ : ∃ a b, [z1, z2] = [a, b] ∧ kZR a b H := (up (by decide)).mp hq
        cases he'
        have hout : z2 ≤ zi ∨ zi ≤ z1 - 1 := by
          rcases Bool.or_eq_true_iff.mp hc.2 with hc | hc
          · have := sNN_ok hM (sEv_sub hi e2) hc
            left; omega
          · have := sNN_ok hM (sEv_sub (sEv_sub e1 (sEv_C 1)) hi) hc
            right; omega
        refine one_ (zs' := [z1, z2]) hz ((up (by simp)).mpr ⟨z1, z2, rfl, _, lgs q1, fun y hy hy2 => ?_⟩)
        rw [kLU_ne (by omega)]
        exact q2 y hy hy2
      · exact none_
    · exact none_
  rw [if_neg k27]
  by_cases k34 : k = 34
  · rw [if_pos k34]
    subst k34
    split
    · rename_i off m
      split
      · rename_i hc
        obtain ⟨hj85, hc⟩ := hc
        obtain ⟨z1, z2, rfl, e1, e2⟩ := sVal_2 hz
        obtain ⟨a, b, he', f, f2, q1, q2, q3, q4⟩ : ∃ a b, [z1, z2] = [a, b] ∧ kBF a b H := (up (by decide)).mp hq
        cases he'
        have := sNN_ok hM (sEv_sub hi e2) hc
        refine one_ (zs' := [z1, z2]) hz ((up (by simp)).mpr ⟨z1, z2, rfl, _, _, lgs q1, lgs q2, q3, fun y hy => ?_⟩)
        rw [kLU_ne (by omega), kLU_off (by omega)]
        exact q4 y hy
      · exact none_
    · exact none_
  rw [if_neg k34]
  by_cases k35 : 35 ≤ k ∧ k < 41
  · rw [if_pos k35]
    obtain ⟨o, rfl⟩ : ∃ o, k = 35 + o := ⟨k - 35, by omega⟩
    rw [Nat.add_sub_cancel_left]
    have un : ∀ {zs' : List Int} {H' : List eE}, kUP RO (35 + o) zs' H' ↔ ∃ d m n, zs' = [d, m, n] ∧ kL2 o d m n H' := fun {zs' H'} => by
      unfold kUP
      rw [if_neg (by omega), if_neg (by omega), if_neg (by omega), if_neg (by omega), if_neg (by omega), if_neg (by omega), if_neg (by omega), if_neg (by omega), if_neg (by omega), if_neg (by omega), if_neg (by omega), if_neg (by omega), if_neg (by omega), if_neg (by omega), if_neg (by omega), if_neg (by omega), if_neg (by omega), if_neg (by omega), if_neg (by omega), if_neg (by omega), if_pos k35, Nat.add_sub_cancel_left]
    split
    · rename_i d m n'
      split
      · rename_i hc
        obtain ⟨hj84, hif, hfe, hc⟩ := hc
        simp only [Bool.and_eq_true] at hc
        obtain ⟨z1, z2, z3, rfl, e1, e2, e3⟩ := sVal_3 hz
        obtain ⟨a, b, c, he', f, g2, b2, q1, q2, q3, q4, q5, q6⟩ := un.mp ((up (by omega)).mp hq)
        cases he'
        obtain ⟨zw, ew, hel⟩ := kFindEl_ok hg hfe e2
        cases ew.symm.trans hv
        have hze : zi = 60 * (o : Int) + (z1 + z2) := by
          rw [hif, sEv_add (sEv_C _) (sEv_add e1 e2)] at hi
          exact (Option.some.inj hi).symm
        have hb2 : b2 z2.toNat = Int64.ofInt zv := by
          obtain ⟨t1, n1, arr, h1, -, h3⟩ := hel
          unfold kLg at q3
          rw [q3] at h1
          cases h1
          exact h3
        have e2' := sEv_add e2 (sEv_C (ρ := ρ) 1)
        subst hj84
        refine one_ (zs' := [z1, z2 + 1, z3]) (by simp only [sVal, e1, e2', e3]) ((up (by simp only; omega)).mpr (un.mpr ⟨z1, z2 + 1, z3, rfl, _, _, _, lgs q1, lgs q2, lgs q3, q4, by omega, fun y hy => ?_⟩))
        rw [kLU_off (by omega), q6 y hy]
        by_cases hyz : (y : Int) = z1 + z2
        · have hyi : 60 * o + y = zi.toNat := by omega
          have hlt := sNN_ok hM (sEv_sub (sEv_sub e3 e2) (sEv_C 1)) hc.2.2
          rw [if_pos ⟨by omega, by omega⟩, if_neg (by omega), hyi, kLU_at, show ((y : Int) - z1).toNat = z2.toNat by omega]
          exact hb2
        · rw [kLU_ne (show 60 * o + y ≠ zi.toNat by omega), kLU_off (show (85 : Nat) ≠ 84 by decide)]
          by_cases hc1 : z1 + z2 ≤ (y : Int) ∧ (y : Int) < z1 + z3
          · rw [if_pos hc1, if_pos ⟨by omega, hc1.2⟩]
          · rw [if_neg hc1, if_neg (by omega)]
      · exact none_
    · exact none_
  rw [if_neg k35]
  exact none_
end KKWL
theorem kKWL_ok (RO : List (Nat × (Nat → Int32))) : kWOkL (kUP RO) kKWL := by
  intro Γ γ j i v ρ zi zv H ty n f hM hg hi hv h0 hn hj q hq
  obtain ⟨a, ha, hqa⟩ := kFm_mem hq
  obtain ⟨zs, e1, e2⟩ := hg a ha
  exact kKWL1_ok hM hg hi hv h0 hn hj e1 e2 q hqa
end
