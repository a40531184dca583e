/-! The rows of changes: what is told of them together. -/
noncomputable section
def kIX (w : Int) : Int := if w ≤ 2 then 15 else if w ≤ 5 then 6 else 0
def kVL (w : Int) : Int := if w = 3 then -2147483648 else if w = 8 ∨ w = 9 then 1 else 0
def kVH (w : Int) : Int := if w = 1 then 7 else if w = 3 then 2147483647 else if w = 5 then 127 else if w = 6 then 9999 else if w = 7 ∨ w = 8 ∨ w = 9 then 99 else 9
/-- a change: what, whose, what it was, what it becomes -/
def kTup (w i b a : Int) : Prop := 0 ≤ w ∧ w ≤ 9 ∧ 0 ≤ i ∧ i ≤ kIX w ∧ (kVL w ≤ b ∧ b ≤ kVH w) ∧ (kVL w ≤ a ∧ a ≤ kVH w)
def kI40 (H : List eE) (c : Nat) (f : Nat → Int32) : Prop := H[c]? = some (.inl (.int, 40, .inl f))
def kTp (fw fi fb fa : Nat → Int32) (k : Nat) : Prop := kTup (fw k).toInt (fi k).toInt (fb k).toInt (fa k).toInt
/-- all changes but one are right -/
def kLog (cw ci cb ca : Nat) (e : Int) (H : List eE) : Prop := ∃ fw fi fb fa, kI40 H cw fw ∧ kI40 H ci fi ∧ kI40 H cb fb ∧ kI40 H ca fa ∧ ∀ k : Nat, k < 40 → (k : Int) ≠ e → kTp fw fi fb fa k
/-- so many of the four rows are shifted by one -/
def kShf (cw ci cb ca : Nat) (j : Int) (H : List eE) : Prop := ∃ fw fi fb fa gw gi gb ga, kI40 H cw gw ∧ kI40 H ci gi ∧ kI40 H cb gb ∧ kI40 H ca ga ∧ (∀ k : Nat, k < 40 → kTp fw fi fb fa k) ∧
  gi = (if 1 ≤ j then va_cpy fi fi 1 0 39 else fi) ∧ gw = (if 2 ≤ j then va_cpy fw fw 1 0 39 else fw) ∧ gb = (if 3 ≤ j then va_cpy fb fb 1 0 39 else fb) ∧ ga = fa
theorem kEl_at {c : Nat} {zi z : Int} {H : List eE} {f : Nat → Int32} (h : kEl c zi z H) (hf : kI40 H c f) : 0 ≤ zi ∧ f zi.toNat = Int32.ofInt z := by
  obtain ⟨ty, n, arr, h1, h2, h3⟩ := h
  unfold kI40 at hf
  rw [hf] at h1
  cases h1
  exact ⟨h2, h3⟩
section KLG
variable {UP : Nat → List Int → List eE → Prop}
def kHas (γ : List kA) (k : Nat) (fs : List sL) : Bool := γ.any (fun q => decide (q.1 = k) && decide (q.2 = fs))
theorem kHas_ok {ρ : List Int} {γ : List kA} {H : List eE} {k : Nat} {fs : List sL} (hg : kGh (kGP UP) ρ γ H) (h : kHas γ k fs = true) (hk : k < 1000) : ∃ zs, sVal ρ fs = some zs ∧ UP k zs H := by
  obtain ⟨q, hq, h1⟩ := List.any_eq_true.mp h
  simp only [Bool.and_eq_true, decide_eq_true_eq] at h1
  obtain ⟨zs, e1, e2⟩ := hg q hq
  rw [h1.2] at e1
  rw [h1.1] at e2
  unfold kGP at e2
  rw [if_neg (by omega)] at e2
  exact ⟨zs, e1, e2⟩
theorem sVal_1 {ρ : List Int} {f : sL} {zs : List Int} (h : sVal ρ [f] = some zs) : ∃ z, zs = [z] ∧ sEv ρ f = some z := by
  simp only [sVal] at h
  split at h
  · rename_i z r e1 e2
    cases e2; cases h
    exact ⟨z, rfl, e1⟩
  · cases h
/-- to take a form as within bounds -/
def kAs (Γ : sG) (x : sL) (lo hi : Int) : Option sG := match sAsm Γ (sSub x (sC lo)) with
  | some Γ' => sAsm Γ' (sSub (sC hi) x)
  | none => none
theorem kAs_ok {ρ : List Int} {Γ : sG} {x : sL} {lo hi z : Int} (hM : sMo ρ Γ) (hx : sEv ρ x = some z) (h1 : lo ≤ z) (h2 : z ≤ hi) : ∃ Γ', kAs Γ x lo hi = some Γ' ∧ sMo ρ Γ' := by
  unfold kAs
  obtain ⟨Γ1, e1, m1⟩ := sAsm_ok hM (sEv_sub hx (sEv_C lo)) (by omega)
  rw [e1]
  exact sAsm_ok m1 (sEv_sub (sEv_C hi) hx) (by omega)
/-- of a change that was read: bounds for whose it is and for the number -/
def kLg1 (pr cw ci cv : Nat) (K : kS) : Option (List kS) := match K with
  | ((pc, ls, st, G, c, s, Γ), γ) => match γ.find? (fun a => decide (a.1 = 1000 + cw)) with
    | some (_, [i, u]) => (match sK Γ.1 u, kFindEl γ ci i, kFindEl γ cv i with
      | some w, some v, some b => if (kHas γ pr [sC (-1)] && (sInR Γ i 40 && (sI32 Γ.1 u && (sI32 Γ.1 v && sI32 Γ.1 b)))) = true then (match kAs Γ v 0 (kIX w) with
          | some Γ1 => (match kAs Γ1 b (kVL w) (kVH w) with
            | some Γ2 => some [((pc, ls, st, G, c, s, Γ2), γ)]
            | none => some [])
          | none => some []) else some [K]
      | _, _, _ => some [K])
    | _ => some [K]
theorem kLg1_ok {pr cw ci cb ca cv : Nat} (hpr : pr < 1000) (hUP : ∀ e H, UP pr [e] H → kLog cw ci cb ca e H) (hcv : cv = cb ∨ cv = ca) {K : kS} {L : List kS} (h : kLg1 pr cw ci cv K = some L) {ρ : List Int} {R : eR} (hD : kD (kGP UP) ρ K R) : ∃ K' ∈ L, ∃ ρ', ρ <+: ρ' ∧ kD (kGP UP) ρ' K' R := by
  obtain ⟨⟨pc, ls, st, G, c, s, Γ⟩, γ⟩ := K
  have hD0 := hD
  obtain ⟨hM, hS, hg⟩ := hD
  simp only at hM hg
  have keep : some [(((pc, ls, st, G, c, s, Γ), γ) : kS)] = some L → ∃ K' ∈ L, ∃ ρ', ρ <+: ρ' ∧ kD (kGP UP) ρ' K' R := by
    intro h
    cases h
    exact ⟨_, List.mem_singleton.mpr rfl, ρ, List.prefix_refl _, hD0⟩
  simp only [kLg1] at h
  split at h
  · rename_i k i u hf
    split at h
    · rename_i w v b hw hv hb
      split at h
      · rename_i hc
        simp only [Bool.and_eq_true] at hc
        obtain ⟨c1, c2, c3, c4, c5⟩ := hc
        have hm := List.mem_of_find?_eq_some hf
        have hk : k = 1000 + cw := by simpa using List.find?_some hf
        subst hk
        obtain ⟨zs, e1, e2⟩ := hg _ hm
        simp only [sVal] at e1
        split at e1
        · rename_i zi r1 ei er
          split at er
          · rename_i zu r2 eu er2
            cases er2; cases er; cases e1
            have e2 := kGP_el.mp e2
            obtain ⟨zv, ev, kv⟩ := kFindEl_ok hg hv ei
            obtain ⟨zb, eb, kb⟩ := kFindEl_ok hg hb ei
            obtain ⟨zs2, e3, e4⟩ := kHas_ok hg c1 hpr
            obtain ⟨e, rfl, e5⟩ := sVal_1 e3
            rw [sEv_C] at e5
            cases e5
            obtain ⟨fw, fi, fb, fa, q1, q2, q3, q4, q5⟩ := hUP _ _ e4
            obtain ⟨i1, i2, -⟩ := sInR_at hM ei c2
            have t := q5 zi.toNat (by omega) (by omega)
            unfold kTp at t
            rw [(kEl_at e2 q1).2, (kEl_at kv q2).2] at t
            have ru := sWi_ok hM.1 eu c3
            have rv := sWi_ok hM.1 ev c4
            have rb := sWi_ok hM.1 eb c5
            rw [sTo32 ru.1 ru.2, sTo32 rv.1 rv.2] at t
            have hwz := sK_ok hM.1 eu hw
            subst hwz
            obtain ⟨t1, t2, t3, t4, t5, t6⟩ := t
            have tb : kVL zu ≤ zb ∧ zb ≤ kVH zu := by
              rcases hcv with rfl | rfl
              · rw [(kEl_at kb q3).2, sTo32 rb.1 rb.2] at t5
                exact t5
              · rw [(kEl_at kb q4).2, sTo32 rb.1 rb.2] at t6
                exact t6
            obtain ⟨Γ1, g1, m1⟩ := kAs_ok hM ev t3 t4
            rw [g1] at h
            simp only at h
            obtain ⟨Γ2, g2, m2⟩ := kAs_ok m1 eb tb.1 tb.2
            rw [g2] at h
            cases h
            exact ⟨_, List.mem_singleton.mpr rfl, ρ, List.prefix_refl _, m2, hS, hg⟩
          · cases er
        · cases e1
      · exact keep h
    · exact keep h
  · exact keep h
/-- a change that has been laid down is right: all are right -/
def kLg2 (pr cw ci cb ca : Nat) (K : kS) : Option (List kS) := match K with
  | ((pc, ls, st, G, c, s, Γ), γ) => match γ.find? (fun a => decide (a.1 = pr)) with
    | some (_, [i]) => (match kFindEl γ cw i, kFindEl γ ci i, kFindEl γ cb i, kFindEl γ ca i with
      | some u, some v, some b, some a => (match sK Γ.1 u with
        | some w => if (decide (0 ≤ w ∧ w ≤ 9) && (sInR Γ i 40 && (sWf Γ v 0 (kIX w) && (sWf Γ b (kVL w) (kVH w) && sWf Γ a (kVL w) (kVH w))))) = true then some [((pc, ls, st, G, c, s, Γ), (pr, [sC (-1)]) :: γ)] else some [K]
        | none => some [K])
      | _, _, _, _ => some [K])
    | _ => some [K]
theorem kIX_r (w : Int) : 0 ≤ kIX w ∧ kIX w ≤ 15 := by
  unfold kIX
  split
  · omega
  split <;> omega
theorem kV_r (w : Int) : -2147483648 ≤ kVL w ∧ kVH w ≤ 2147483647 := by
  unfold kVL kVH
  constructor
  · split
    · omega
    split <;> omega
  · repeat' split
    all_goals omega
theorem kLg2_ok {pr cw ci cb ca : Nat} (hpr : pr < 1000) (hUP : ∀ e H, UP pr [e] H ↔ kLog cw ci cb ca e H) {K : kS} {L : List kS} (h : kLg2 pr cw ci cb ca K = some L) {ρ : List Int} {R : eR} (hD : kD (kGP UP) ρ K R) : ∃ K' ∈ L, ∃ ρ', ρ <+: ρ' ∧ kD (kGP UP) ρ' K' R := by
  obtain ⟨⟨pc, ls, st, G, c, s, Γ⟩, γ⟩ := K
  have hD0 := hD
  obtain ⟨hM, hS, hg⟩ := hD
  simp only at hM hg
  have keep : some [(((pc, ls, st, G, c, s, Γ), γ) : kS)] = some L → ∃ K' ∈ L, ∃ ρ', ρ <+: ρ' ∧ kD (kGP UP) ρ' K' R := by
    intro h
    cases h
    exact ⟨_, List.mem_singleton.mpr rfl, ρ, List.prefix_refl _, hD0⟩
  simp only [kLg2] at h
  split at h
  · rename_i k i hf
    split at h
    · rename_i u v b a hu hv hb ha
      split at h
      · rename_i w hw
        split at h
        · rename_i hc
          cases h
          simp only [Bool.and_eq_true, decide_eq_true_eq] at hc
          obtain ⟨c1, c2, c3, c4, c5⟩ := hc
          have hm := List.mem_of_find?_eq_some hf
          have hk : k = pr := by simpa using List.find?_some hf
          subst hk
          obtain ⟨zs, e1, e2⟩ := hg _ hm
          obtain ⟨zi, rfl, ei⟩ := sVal_1 e1
          unfold kGP at e2
          rw [if_neg (by omega)] at e2
          obtain ⟨fw, fi, fb, fa, q1, q2, q3, q4, q5⟩ := (hUP _ _).mp e2
          obtain ⟨zu, eu, ku⟩ := kFindEl_ok hg hu ei
          obtain ⟨zv, ev, kv⟩ := kFindEl_ok hg hv ei
          obtain ⟨zb, eb, kb⟩ := kFindEl_ok hg hb ei
          obtain ⟨za, ea, ka⟩ := kFindEl_ok hg ha ei
          obtain ⟨i1, i2, -⟩ := sInR_at hM ei c2
          have hwz := sK_ok hM.1 eu hw
          subst hwz
          obtain ⟨_, e3, v1, v2⟩ := sWf_has hM c3
          cases ev.symm.trans e3
          obtain ⟨_, e3, b1, b2⟩ := sWf_has hM c4
          cases eb.symm.trans e3
          obtain ⟨_, e3, a1, a2⟩ := sWf_has hM c5
          cases ea.symm.trans e3
          have r1 := kIX_r zu
          have r2 := kV_r zu
          refine ⟨_, List.mem_singleton.mpr rfl, ρ, List.prefix_refl _, hM, hS, fun q hq => ?_⟩
          rcases List.mem_cons.mp hq with rfl | hq
          · refine ⟨[-1], by simp only [sVal, sEv_C], ?_⟩
            unfold kGP
            rw [if_neg (by omega)]
            refine (hUP _ _).mpr ⟨fw, fi, fb, fa, q1, q2, q3, q4, fun k hk _ => ?_⟩
            by_cases hki : (k : Int) = zi
            · have : k = zi.toNat := by omega
              subst this
              unfold kTp
              rw [(kEl_at ku q1).2, (kEl_at kv q2).2, (kEl_at kb q3).2, (kEl_at ka q4).2, sTo32 (by omega) (by omega), sTo32 (by omega) (by omega), sTo32 (by omega) (by omega), sTo32 (by omega) (by omega)]
              exact ⟨c1.1, c1.2, v1, v2, ⟨b1, b2⟩, a1, a2⟩
            · exact q5 k hk hki
          · exact hg q hq
        · exact keep h
      · exact keep h
    · exact keep h
  · exact keep h
/-- a change that has been moved from another place: all are right -/
def kLg3 (pr cw ci cb ca : Nat) (K : kS) : Option (List kS) := match K with
  | ((pc, ls, st, G, c, s, Γ), γ) => match γ.find? (fun a => decide (a.1 = pr)) with
    | some (_, [e]) => (match γ.find? (fun a => decide (a.1 = 1000 + cw) && (match a.2 with
        | [i, _] => decide (i ≠ e)
        | _ => false)) with
      | some (_, [i, u]) => if (decide ((sSub i e).2 = [] ∧ (sSub i e).1 ≠ 0) && (sInR Γ i 40 && (sInR Γ e 40 && (decide (kFindEl γ cw e = some u) && (decide (kFindEl γ ci i = kFindEl γ ci e ∧ (kFindEl γ ci e).isSome = true) && (decide (kFindEl γ cb i = kFindEl γ cb e ∧ (kFindEl γ cb e).isSome = true) && decide (kFindEl γ ca i = kFindEl γ ca e ∧ (kFindEl γ ca e).isSome = true))))))) = true then some [((pc, ls, st, G, c, s, Γ), (pr, [sC (-1)]) :: γ)] else some [K]
      | _ => some [K])
    | _ => some [K]
theorem kLg3_ok {pr cw ci cb ca : Nat} (hpr : pr < 1000) (hUP : ∀ e H, UP pr [e] H ↔ kLog cw ci cb ca e H) {K : kS} {L : List kS} (h : kLg3 pr cw ci cb ca K = some L) {ρ : List Int} {R : eR} (hD : kD (kGP UP) ρ K R) : ∃ K' ∈ L, ∃ ρ', ρ <+: ρ' ∧ kD (kGP UP) ρ' K' R := by
  obtain ⟨⟨pc, ls, st, G, c, s, Γ⟩, γ⟩ := K
  have hD0 := hD
  obtain ⟨hM, hS, hg⟩ := hD
  simp only at hM hg
  have keep : some [(((pc, ls, st, G, c, s, Γ), γ) : kS)] = some L → ∃ K' ∈ L, ∃ ρ', ρ <+: ρ' ∧ kD (kGP UP) ρ' K' R := by
    intro h
    cases h
    exact ⟨_, List.mem_singleton.mpr rfl, ρ, List.prefix_refl _, hD0⟩
  simp only [kLg3] at h
  split at h
  · rename_i k e hf
    split at h
    · rename_i k2 i u hf2
      split at h
      · rename_i hc
        cases h
        simp only [Bool.and_eq_true, decide_eq_true_eq] at hc
        obtain ⟨⟨c1, c2⟩, c3, c4, c5, ⟨c6, c7⟩, ⟨c8, c9⟩, c10, c11⟩ := hc
        have hm := List.mem_of_find?_eq_some hf
        have hk : k = pr := by simpa using List.find?_some hf
        subst hk
        have hm2 := List.mem_of_find?_eq_some hf2
        have hp2 := List.find?_some hf2
        simp only [Bool.and_eq_true, decide_eq_true_eq] at hp2
        have hk2 : k2 = 1000 + cw := hp2.1
        subst hk2
        obtain ⟨zs, e1, e2⟩ := hg _ hm
        obtain ⟨ze, rfl, ee⟩ := sVal_1 e1
        unfold kGP at e2
        rw [if_neg (by omega)] at e2
        obtain ⟨fw, fi, fb, fa, q1, q2, q3, q4, q5⟩ := (hUP _ _).mp e2
        obtain ⟨zs, e3, e4⟩ := hg _ hm2
        simp only [sVal] at e3
        split at e3
        · rename_i zi r1 ei er
          split at er
          · rename_i zu r2 eu er2
            cases er2; cases er; cases e3
            have e4 := kGP_el.mp e4
            obtain ⟨zu', eu', ku⟩ := kFindEl_ok hg c5 ee
            cases eu.symm.trans eu'
            obtain ⟨v, hv⟩ := Option.isSome_iff_exists.mp c7
            obtain ⟨b, hb⟩ := Option.isSome_iff_exists.mp c9
            obtain ⟨a, ha⟩ := Option.isSome_iff_exists.mp c11
            rw [hv] at c6; rw [hb] at c8; rw [ha] at c10
            obtain ⟨zv, ev, kv⟩ := kFindEl_ok hg hv ee
            obtain ⟨zv', ev', kv'⟩ := kFindEl_ok hg c6 ei
            cases ev.symm.trans ev'
            obtain ⟨zb, eb, kb⟩ := kFindEl_ok hg hb ee
            obtain ⟨zb', eb', kb'⟩ := kFindEl_ok hg c8 ei
            cases eb.symm.trans eb'
            obtain ⟨za, ea, ka⟩ := kFindEl_ok hg ha ee
            obtain ⟨za', ea', ka'⟩ := kFindEl_ok hg c10 ei
            cases ea.symm.trans ea'
            obtain ⟨i1, i2, -⟩ := sInR_at hM ei c3
            obtain ⟨j1, j2, -⟩ := sInR_at hM ee c4
            have hne : zi ≠ ze := by
              have hs := sEv_sub ei ee
              have hform : sSub i e = ((sSub i e).1, []) := Prod.ext rfl c1
              rw [hform] at hs
              simp only [sEv, sEvT, Option.map_some, Option.some.injEq] at hs
              omega
            refine ⟨_, List.mem_singleton.mpr rfl, ρ, List.prefix_refl _, hM, hS, fun q hq => ?_⟩
            rcases List.mem_cons.mp hq with rfl | hq
            · refine ⟨[-1], by simp only [sVal, sEv_C], ?_⟩
              unfold kGP
              rw [if_neg (by omega)]
              refine (hUP _ _).mpr ⟨fw, fi, fb, fa, q1, q2, q3, q4, fun k hk _ => ?_⟩
              by_cases hke : (k : Int) = ze
              · have hk' : k = ze.toNat := by omega
                subst hk'
                have t := q5 zi.toNat (by omega) (by omega)
                unfold kTp at t ⊢
                rw [(kEl_at ku q1).2, (kEl_at kv q2).2, (kEl_at kb q3).2, (kEl_at ka q4).2]
                rw [(kEl_at e4 q1).2, (kEl_at kv' q2).2, (kEl_at kb' q3).2, (kEl_at ka' q4).2] at t
                exact t
              · exact q5 k hk hke
            · exact hg q hq
          · cases er
        · cases e3
      · exact keep h
    · exact keep h
  · exact keep h
end KLG
end
