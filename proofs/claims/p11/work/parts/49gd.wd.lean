/-! Words out of a row: how many still come. -/
noncomputable section
theorem kWd_nn {f : Nat → Int64} {le : Int} : ∀ (n : Nat) (p w : Int), 0 ≤ kWd f le n p w ∧ kWd f le n p w ≤ n ∧ (w ≤ 16 → w + kWd f le n p w ≤ 16)
  | 0, p, w => ⟨by simp [kWd], by simp [kWd], fun h => by simp [kWd]; omega⟩
  | n + 1, p, w => by
    have ih := kWd_nn (f := f) (le := le) n (p + 3) (w + 1)
    simp only [kWd]
    split
    · rename_i hc
      have := ih.2.2 (by omega)
      refine ⟨by omega, by omega, fun _ => by omega⟩
    · exact ⟨by omega, by omega, fun h => by omega⟩
theorem kWd_eq {f g : Nat → Int64} {le : Int} (hle : le ≤ 60) (h : ∀ i : Nat, i < 60 → f i = g i) : ∀ (n : Nat) (p w : Int), 0 ≤ p → kWd f le n p w = kWd g le n p w
  | 0, _, _, _ => rfl
  | n + 1, p, w, hp => by
    simp only [kWd]
    by_cases hpl : p + 3 ≤ le
    · rw [h p.toNat (by omega), h (p + 1).toNat (by omega), h (p + 2).toNat (by omega), kWd_eq hle h n (p + 3) (w + 1) (by omega)]
    · rw [if_neg (fun c => hpl c.1), if_neg (fun c => hpl c.1)]
theorem kWd_step {f : Nat → Int64} {le n p w : Int} (hn : 1 ≤ n) (hc : p + 3 ≤ le ∧ w < 16 ∧ kWok (f p.toNat) (f (p + 1).toNat) (f (p + 2).toNat) = true) : kWd f le n.toNat p w = 1 + kWd f le (n - 1).toNat (p + 3) (w + 1) := by
  obtain ⟨m, hm⟩ : ∃ m, n.toNat = m + 1 := ⟨n.toNat - 1, by omega⟩
  rw [hm, show (n - 1).toNat = m by omega]
  simp only [kWd]
  rw [if_pos hc]
theorem kWd_stop {f : Nat → Int64} {le n p w : Int} (hc : n ≤ 0 ∨ ¬ (p + 3 ≤ le ∧ w < 16 ∧ kWok (f p.toNat) (f (p + 1).toNat) (f (p + 2).toNat) = true)) : kWd f le n.toNat p w = 0 := by
  by_cases hn : n ≤ 0
  · rw [show n.toNat = 0 by omega]
    rfl
  · obtain ⟨m, hm⟩ : ∃ m, n.toNat = m + 1 := ⟨n.toNat - 1, by omega⟩
    rw [hm]
    have hc2 := hc.resolve_left hn
    simp only [kWd]
    rw [if_neg hc2]
theorem sVal_5 {ρ : List Int} {a b c d e : sL} {zs : List Int} (h : sVal ρ [a, b, c, d, e] = some zs) : ∃ p q r s t, zs = [p, q, r, s, t] ∧ sEv ρ a = some p ∧ sEv ρ b = some q ∧ sEv ρ c = some r ∧ sEv ρ d = some s ∧ sEv ρ e = some t := by
  obtain ⟨p, _, rfl, h1, h⟩ := sVal_cons h
  obtain ⟨q, _, rfl, h2, h⟩ := sVal_cons h
  obtain ⟨r, _, rfl, h3, h⟩ := sVal_cons h
  obtain ⟨s, _, rfl, h4, h⟩ := sVal_cons h
  obtain ⟨t, _, rfl, h5, h⟩ := sVal_cons h
  cases h
  exact ⟨p, q, r, s, t, rfl, h1, h2, h3, h4, h5⟩
/-- the lower half of a long: the form that is known for it -/
def kNr (Γ : sG) (v : sL) : Option sL := if sI32 Γ.1 v = true then some v else (Γ.2.2.2.find? (fun q => decide (q.1 = 304) && (decide (q.2.1 = v) && decide (q.2.2.1 = sC 0)))).map fun q => sX q.2.2.2
theorem kNr_ok {ρ : List Int} {Γ : sG} (hM : sMo ρ Γ) {v r : sL} {z : Int} (hv : sEv ρ v = some z) (h : kNr Γ v = some r) : sEv ρ r = some (Int64.ofInt z).toInt32.toInt := by
  rw [Int64.toInt32_ofInt]
  unfold kNr at h
  split at h
  · rename_i h32
    cases h
    have := sWi_ok hM.1 hv h32
    rw [hv, sTo32 this.1 this.2]
  · obtain ⟨q, hq, rfl⟩ := Option.map_eq_some_iff.mp h
    have hm := List.mem_of_find?_eq_some hq
    have hp := List.find?_some hq
    simp only [Bool.and_eq_true, decide_eq_true_eq] at hp
    obtain ⟨h1, h2, h3⟩ := hp
    obtain ⟨za, zb, e1, e2, e3⟩ := hM.2.2.2 q hm
    rw [h2, hv] at e1
    cases e1
    rw [h3, sEv_C] at e2
    cases e2
    rw [h1] at e3
    exact sEv_X e3
section KWDS
variable {RO : List (Nat × (Nat → Int32))}
theorem kUP41 {s : Nat} (hs : s < 6) {zs : List Int} {H : List eE} : kUP RO (41 + s) zs H ↔ ∃ R p n le w, zs = [R, p, n, le, w] ∧ kWT s R p n le w H := by
  unfold kUP
  rw [if_neg (by omega), if_neg (by omega), if_neg (by omega), if_neg (by omega), if_neg (by omega), if_neg (by omega), if_neg (by omega), if_neg (by omega), if_neg (by omega), if_neg (by omega), if_neg (by omega), if_neg (by omega), if_neg (by omega), if_neg (by omega), if_neg (by omega), if_neg (by omega), if_neg (by omega), if_neg (by omega), if_neg (by omega), if_neg (by omega), if_neg (by omega), if_pos (by omega), Nat.add_sub_cancel_left]
theorem kUP47 {s : Nat} (hs : s < 6) {zs : List Int} {H : List eE} : kUP RO (47 + s) zs H ↔ ∃ R p n le w, zs = [R, p, n, le, w] ∧ kWM s R p n le w H := by
  unfold kUP
  rw [if_neg (by omega), if_neg (by omega), if_neg (by omega), if_neg (by omega), if_neg (by omega), if_neg (by omega), if_neg (by omega), if_neg (by omega), if_neg (by omega), if_neg (by omega), if_neg (by omega), if_neg (by omega), if_neg (by omega), if_neg (by omega), if_neg (by omega), if_neg (by omega), if_neg (by omega), if_neg (by omega), if_neg (by omega), if_neg (by omega), if_neg (by omega), if_neg (by omega), if_pos (by omega), Nat.add_sub_cancel_left]
/-- which shelf: the class' one by a reference, the reference's one by a number -/
def kWs_ (d : Nat) (K : kS) : Option Nat := if d = 0 then (match sGetL K.1.2.1 1 with
    | some (2, x) => (List.range 6).find? (fun s => decide (x = sC (45 + 2 * (s : Int))))
    | _ => none)
  else (match kLf K.1.2.1 1 with
    | some v => (match (sK K.1.2.2.2.2.2.2.1 v) with
      | some z => if 0 ≤ z ∧ z < 6 then some z.toNat else none
      | none => none)
    | none => none)
theorem kWs_lt {d : Nat} {K : kS} {s : Nat} (h : kWs_ d K = some s) : s < 6 := by
  unfold kWs_ at h
  split at h
  · split at h
    · exact List.mem_range.mp (List.mem_of_find?_eq_some h)
    · cases h
  · split at h
    · split at h
      · split at h
        · cases h
          omega
        · cases h
      · cases h
    · cases h
/-- the row that is read: its cell, where it begins there -/
def kWc (d s : Nat) : Nat := if d = 0 then 41 + 2 * s else 84
def kWo (d s : Nat) : Nat := if d = 0 then 0 else 60 * s
def kWk_ (d s : Nat) : Nat := if d = 0 then 41 + s else 47 + s
def kWn (d : Nat) : Nat := if d = 0 then 60 else 360
/-- both sides' atoms at once -/
theorem kWany {d s : Nat} (hs : s < 6) {zs : List Int} {H : List eE} : kUP RO (kWk_ d s) zs H ↔ ∃ R p n le w, zs = [R, p, n, le, w] ∧ ∃ f, kLg (kWc d s) (kWn d) f H ∧ 0 ≤ p ∧ le ≤ 60 ∧ R = kWd (fun i => f (kWo d s + i)) le n.toNat p w := by
  by_cases hd : d = 0
  · subst hd
    simp only [kWk_, kWc, kWn, kWo, if_pos, Nat.zero_add]
    exact kUP41 hs
  · simp only [kWk_, kWc, kWn, kWo, if_neg hd]
    exact kUP47 hs
/-- what was read there, halved -/
def kWv (Γ : sG) (γ : List kA) (d s : Nat) (p : sL) (j : Int) : Option sL := match kFindEl γ (kWc d s) (sAdd p (sC ((kWo d s : Nat) + j))) with
  | some v => kNr Γ v
  | none => none
theorem kWv_ok {ρ : List Int} {Γ : sG} {γ : List kA} {H : List eE} {d s : Nat} {p r : sL} {j zp : Int} {f : Nat → Int64} (hM : sMo ρ Γ) (hg : kGh (kGP (kUP RO)) ρ γ H) (hf : kLg (kWc d s) (kWn d) f H) (hp : sEv ρ p = some zp) (h0 : 0 ≤ zp) (hj : 0 ≤ j) (h : kWv Γ γ d s p j = some r) : sEv ρ r = some (f (kWo d s + (zp + j).toNat)).toInt32.toInt := by
  unfold kWv at h
  split at h
  · rename_i v hv
    obtain ⟨z, e1, e2⟩ := kFindEl_ok hg hv (sEv_add hp (sEv_C _))
    obtain ⟨-, h3⟩ := kLgE e2 hf
    have e := kNr_ok hM e1 h
    rw [show kWo d s + (zp + j).toNat = (zp + ((kWo d s : Nat) + j)).toNat by omega, h3]
    exact e
  · cases h
/-- no less than so much -/
def kGe (Γ : sG) (f : sL) (lo : Int) : Option sG := match sIv Γ.1 f with
  | some i => kAs Γ f lo i.2
  | none => some Γ
theorem kGe_ok {ρ : List Int} {Γ : sG} {f : sL} {lo z : Int} (hM : sMo ρ Γ) (hf : sEv ρ f = some z) (h : lo ≤ z) : ∃ Γ', kGe Γ f lo = some Γ' ∧ sMo ρ Γ' := by
  unfold kGe
  split
  · rename_i i hi
    exact kAs_ok hM hf h (sIv_ok hM.1 hf hi).2
  · exact ⟨Γ, rfl, hM⟩
def kWstep (d s : Nat) (K : kS) : Option (List kS) := match K with
  | ((pc, ls, st, G, c, s0, Γ), γ) => (match kFa γ (kWk_ d s) (fun _ => true) with
    | some [R, p, n, le, w] => (match kWv Γ γ d s p 0, kWv Γ γ d s p 1, kWv Γ γ d s p 2 with
      | some a, some b, some e => if (sWf Γ a 0 9 && (sWf Γ b 0 7 && (sWf Γ e 1 9 && (sNN Γ (sSub n (sC 1)) && (sNN Γ (sSub (sSub le p) (sC 3)) && (sNN Γ (sSub (sC 15) w) && sNN Γ p)))))) = true then
          (match kGe Γ R 1 with
          | some Γ' => some [((pc, ls, st, G, c, s0, Γ'), (kWk_ d s, [sSub R (sC 1), sAdd p (sC 3), sSub n (sC 1), le, sAdd w (sC 1)]) :: γ)]
          | none => some []) else some [K]
      | _, _, _ => some [K])
    | _ => some [K])
theorem kWstep_ok {d s : Nat} (hs : s < 6) {K : kS} {L : List kS} (h : kWstep d s K = some L) {ρ : List Int} {R : eR} (hD : kD (kGP (kUP RO)) ρ K R) : ∃ K' ∈ L, ∃ ρ', ρ <+: ρ' ∧ kD (kGP (kUP RO)) ρ' K' R := by
  obtain ⟨⟨pc, ls, st, G, c, s0, Γ⟩, γ⟩ := K
  have same : ∃ K' ∈ [(((pc, ls, st, G, c, s0, Γ), γ) : kS)], ∃ ρ', ρ <+: ρ' ∧ kD (kGP (kUP RO)) ρ' K' R := ⟨_, List.mem_singleton.mpr rfl, ρ, List.prefix_refl _, hD⟩
  have hM : sMo ρ Γ := hD.1
  have hg : kGh (kGP (kUP RO)) ρ γ R.2.2.2.1 := hD.2.2
  have hk : kWk_ d s < 1000 := by unfold kWk_; split <;> omega
  simp only [kWstep] at h
  split at h
  · rename_i rf p n le w hfa
    split at h
    · rename_i a b e ha hb he
      split at h
      · rename_i hc
        simp only [Bool.and_eq_true] at hc
        obtain ⟨c1, c2, c3, c4, c5, c6, c7⟩ := hc
        obtain ⟨-, zs, e1, e2⟩ := kFa_ok hg hfa hk
        obtain ⟨zR, zp, zn, zl, zw, rfl, eR, ep, en, el, ew⟩ := sVal_5 e1
        obtain ⟨R', p', n', le', w', hz, f, q1, q2, q3, q4⟩ := (kWany hs).mp e2
        cases hz
        have va := kWv_ok hM hg q1 ep q2 (by omega) ha
        have vb := kWv_ok hM hg q1 ep q2 (by omega) hb
        have ve := kWv_ok hM hg q1 ep q2 (by omega) he
        obtain ⟨ya, a1, a2, a3⟩ := sWf_has hM c1
        obtain ⟨yb, b1, b2, b3⟩ := sWf_has hM c2
        obtain ⟨ye, g1, g2, g3⟩ := sWf_has hM c3
        cases a1.symm.trans va
        cases b1.symm.trans vb
        cases g1.symm.trans ve
        have d4 := sNN_ok hM (sEv_sub en (sEv_C 1)) c4
        have d5 := sNN_ok hM (sEv_sub (sEv_sub el ep) (sEv_C 3)) c5
        have d6 := sNN_ok hM (sEv_sub (sEv_C 15) ew) c6
        have hok : kWok (f (kWo d s + zp.toNat)) (f (kWo d s + (zp + 1).toNat)) (f (kWo d s + (zp + 2).toNat)) = true := by
          unfold kWok
          simp only [Bool.and_eq_true, decide_eq_true_eq]
          rw [Int.add_zero] at a2 a3
          exact ⟨⟨a2, a3⟩, ⟨b2, b3⟩, ⟨g2, g3⟩⟩
        have hst := kWd_step (f := fun i => f (kWo d s + i)) (le := zl) (n := zn) (p := zp) (w := zw) (by omega) ⟨by omega, by omega, hok⟩
        have hb2 := (kWd_nn (f := fun i => f (kWo d s + i)) (le := zl) zn.toNat zp zw)
        have hb1 := (kWd_nn (f := fun i => f (kWo d s + i)) (le := zl) (zn - 1).toNat (zp + 3) (zw + 1))
        have h16 := hb1.2.2 (by omega)
        obtain ⟨Γ1, s1, s2⟩ := kGe_ok hM eR (lo := 1) (by have := hb1.1; omega)
        rw [s1] at h
        cases h
        refine ⟨_, List.mem_singleton.mpr rfl, ρ, List.prefix_refl _, s2, hD.2.1, fun q hq => ?_⟩
        rcases List.mem_cons.mp hq with rfl | hq
        · have f1 := sEv_sub eR (sEv_C (ρ := ρ) 1)
          have f2 := sEv_add ep (sEv_C (ρ := ρ) 3)
          have f3 := sEv_sub en (sEv_C (ρ := ρ) 1)
          have f4 := sEv_add ew (sEv_C (ρ := ρ) 1)
          exact kAt1 (zs := [zR - 1, zp + 3, zn - 1, zl, zw + 1]) hk (by simp only [sVal, f1, f2, f3, el, f4]) ((kWany hs).mpr ⟨_, _, _, _, _, rfl, f, q1, by omega, q3, by omega⟩) _ (List.mem_singleton.mpr rfl)
        · exact hg q hq
      · cases h
        exact same
    · cases h
      exact same
  · cases h
    exact same
/-- a new count, at the class' loop -/
def kWnew (s : Nat) (K : kS) : Option (List kS) := match K with
  | ((pc, ls, st, G, c, s0, Γ), γ) => (match kLf ls 5, kLf ls 3, kLf ls 6, kFf G (40 + 2 * s) 4, kFf G 1 1 with
    | some p, some n, some k, some le, some w => if (kLz G (41 + 2 * s) 60 && (sNN Γ p && (sNN Γ (sSub (sC 16) w) && (sNN Γ (sSub (sC 16) (sSub n k)) && (sNN Γ (sSub (sC 60) le) && ((sIv Γ.1 p).isSome && ((sIv Γ.1 (sSub n k)).isSome && ((sIv Γ.1 le).isSome && (sIv Γ.1 w).isSome)))))))) = true then
        (match kGe (sFresh Γ (0, 16)) (sSub (sSub (sC 16) w) (sX Γ.1.length)) 0 with
        | some Γ' => some [((pc, ls, st, G, c, s0, Γ'), (41 + s, [sX Γ.1.length, p, sSub n k, le, w]) :: γ)]
        | none => some []) else some [K]
    | _, _, _, _, _ => some [K])
theorem kLf_ok {ρ : List Int} {S : sR} {R : eR} (hD : sD ρ S R) {i : Nat} {x : sL} (h : kLf S.2.1 i = some x) : ∃ z, sEv ρ x = some z := by
  unfold kLf at h
  split at h
  · rename_i v hv
    split at h
    · rename_i h0
      cases h
      obtain ⟨w, -, hw⟩ := hD.2.1 i v hv
      obtain ⟨t, x⟩ := v
      simp only at h0
      subst h0
      obtain ⟨z, hz, -⟩ := sVr_int hw
      exact ⟨z, hz⟩
    · cases h
  · cases h
theorem kWnew_ok {s : Nat} (hs : s < 6) {K : kS} {L : List kS} (h : kWnew s K = some L) {ρ : List Int} {R : eR} (hD : kD (kGP (kUP RO)) ρ K R) : ∃ K' ∈ L, ∃ ρ', ρ <+: ρ' ∧ kD (kGP (kUP RO)) ρ' K' R := by
  obtain ⟨⟨pc, ls, st, G, c, s0, Γ⟩, γ⟩ := K
  have same : ∃ K' ∈ [(((pc, ls, st, G, c, s0, Γ), γ) : kS)], ∃ ρ', ρ <+: ρ' ∧ kD (kGP (kUP RO)) ρ' K' R := ⟨_, List.mem_singleton.mpr rfl, ρ, List.prefix_refl _, hD⟩
  have hM : sMo ρ Γ := hD.1
  simp only [kWnew] at h
  split at h
  · rename_i p n k le w hp hn hk hle hw
    split at h
    · rename_i hc
      simp only [Bool.and_eq_true] at hc
      obtain ⟨c1, c2, c3, c4, c5, c6, c7, c8, c9⟩ := hc
      obtain ⟨f, hf⟩ := kLz_ok hD.2.1.2.2.2.1 c1
      have ev : ∀ x : sL, (sIv Γ.1 x).isSome = true → ∃ z, sEv ρ x = some z := fun x hx => by
        obtain ⟨i, hi⟩ := Option.isSome_iff_exists.mp hx
        exact sIv_has hM.1 hi
      obtain ⟨zp, ep⟩ := ev _ c6
      obtain ⟨zn, en⟩ := ev _ c7
      obtain ⟨zl, el⟩ := ev _ c8
      obtain ⟨zw, ew⟩ := ev _ c9
      have d2 := sNN_ok hM ep c2
      have d3 := sNN_ok hM (sEv_sub (sEv_C 16) ew) c3
      have d4 := sNN_ok hM (sEv_sub (sEv_C 16) en) c4
      have d5 := sNN_ok hM (sEv_sub (sEv_C 60) el) c5
      have hb := kWd_nn (f := f) (le := zl) zn.toNat zp zw
      have h16 := hb.2.2 (by omega)
      obtain ⟨m1, m2⟩ := sFresh_ok (b := ((0 : Int), (16 : Int))) (z := kWd f zl zn.toNat zp zw) hM hb.1 (by have := hb.2.1; simp only; omega)
      have hpre : ρ <+: ρ ++ [kWd f zl zn.toNat zp zw] := ⟨_, rfl⟩
      obtain ⟨Γ1, s1, s2⟩ := kGe_ok m1 (sEv_sub (sEv_sub (sEv_C 16) (sEv_mono hpre ew)) m2) (lo := 0) (by omega)
      rw [s1] at h
      cases h
      refine ⟨_, List.mem_singleton.mpr rfl, _, hpre, s2, ⟨hD.2.1.1, hD.2.1.2.1.mono hpre, hD.2.1.2.2.1.mono hpre, hD.2.1.2.2.2.1.mono hpre, hD.2.1.2.2.2.2⟩, fun q hq => ?_⟩
      rcases List.mem_cons.mp hq with rfl | hq
      · have f1 := sEv_mono hpre ep
        have f2 := sEv_mono hpre en
        have f3 := sEv_mono hpre el
        have f4 := sEv_mono hpre ew
        exact kAt1 (zs := [kWd f zl zn.toNat zp zw, zp, zn, zl, zw]) (by omega) (by simp only [sVal, m2, f1, f2, f3, f4]) ((kUP41 hs).mpr ⟨_, _, _, _, _, rfl, f, hf, d2, by omega, rfl⟩) _ (List.mem_singleton.mpr rfl)
      · obtain ⟨zs, e1, e2⟩ := hD.2.2 q hq
        exact ⟨zs, sVal_mono hpre e1, e2⟩
    · cases h
      exact same
  · cases h
    exact same
def kWCr (K : kS) : Option (List kS) := match kWs_ 0 K with
  | some s => if (kFa K.2 (41 + s) (fun _ => true)).isSome = true then kWstep 0 s K else kWnew s K
  | none => some [K]
def kWMr (K : kS) : Option (List kS) := match kWs_ 1 K with
  | some s => kWstep 1 s K
  | none => some [K]
theorem kWCr_ok {K : kS} {L : List kS} (h : kWCr K = some L) {ρ : List Int} {R : eR} (hD : kD (kGP (kUP RO)) ρ K R) : ∃ K' ∈ L, ∃ ρ', ρ <+: ρ' ∧ kD (kGP (kUP RO)) ρ' K' R := by
  unfold kWCr at h
  split at h
  · rename_i s hs
    split at h
    · exact kWstep_ok (kWs_lt hs) h hD
    · exact kWnew_ok (kWs_lt hs) h hD
  · cases h
    exact ⟨K, List.mem_singleton.mpr rfl, ρ, List.prefix_refl _, hD⟩
theorem kWMr_ok {K : kS} {L : List kS} (h : kWMr K = some L) {ρ : List Int} {R : eR} (hD : kD (kGP (kUP RO)) ρ K R) : ∃ K' ∈ L, ∃ ρ', ρ <+: ρ' ∧ kD (kGP (kUP RO)) ρ' K' R := by
  unfold kWMr at h
  split at h
  · rename_i s hs
    exact kWstep_ok (kWs_lt hs) h hD
  · cases h
    exact ⟨K, List.mem_singleton.mpr rfl, ρ, List.prefix_refl _, hD⟩
/-- no word comes any more -/
def kWo1 (Γ : sG) (γ : List kA) (d s : Nat) (p : sL) (j lo hi : Int) : Bool := match kWv Γ γ d s p j with
  | some a => (match sIv Γ.1 a with
    | some i => decide (i.2 < lo ∨ hi < i.1)
    | none => false)
  | none => false
def kWz (Γ : sG) (γ : List kA) (d s : Nat) (p n le w : sL) : Bool := sNN Γ (sMul (-1) n) || (sNN Γ (sAdd (sSub p le) (sC 2)) || (sNN Γ (sSub w (sC 16)) || (kWo1 Γ γ d s p 0 0 9 || (kWo1 Γ γ d s p 1 0 7 || kWo1 Γ γ d s p 2 1 9))))
def kFadd (G : List sE) (j z : Nat) (f : sL) : Option (List sE) := match G[j]? with
  | some (.inr (ci, fs)) => (match fs[z]? with
    | some (0, x) => if ci = 999 then none else some (G.set j (.inr (ci, fs.set z (0, sAdd x f))))
    | _ => none)
  | _ => none
def kPut0 (st : List sV) (f : sL → sL) : Option (List sV) := match st with
  | (0, x) :: r => some ((0, f x) :: r)
  | _ => none
theorem kPut0_ok {ρ : List Int} {f : sL → sL} (hf : ∀ x z, sEv ρ x = some z → sEv ρ (f x) = some z) : ∀ {st st' : List sV} {ws : List Value}, kPut0 st f = some st' → sVs ρ st ws → sVs ρ st' ws
  | [], _, _, h, _ => by cases h
  | (t, x) :: r, st', [], h, hv => hv.elim
  | (t, x) :: r, st', w :: ws, h, hv => by
    by_cases ht : t = 0
    · subst ht
      cases h
      obtain ⟨z, e1, e2⟩ := sVr_int hv.1
      exact ⟨⟨z, hf x z e1, e2⟩, hv.2⟩
    · exfalso
      unfold kPut0 at h
      split at h
      · rename_i heq
        cases heq
        exact ht rfl
      · cases h
def kWe (d md : Nat) (K : kS) : Option (List kS) := match K with
  | ((pc, ls, st, G, c, s0, Γ), γ) => (match kWs_ d K with
    | some s => (match kFa γ (kWk_ d s) (fun _ => true) with
      | some [R, p, n, le, w] => if (kWz Γ γ d s p n le w && (sNN Γ p && (decide (md = 0) || kEqf Γ n (sC 0)))) = true then
          (match kPut0 st (fun x => if md = 0 then sAdd x R else sAdd x (sSub R n)), kFadd G (if d = 0 then 1 else 52) 1 R with
          | some st', some G' => (match kAs Γ R 0 0 with
            | some Γ' => some [((pc, ls, st', G', c, s0, Γ'), γ)]
            | none => some [])
          | _, _ => some [K]) else some [K]
      | _ => some [K])
    | none => some [K])
theorem kFadd_ok {ρ : List Int} {G G' : List sE} {H : List eE} {j z : Nat} {f : sL} (hH : sHp ρ G H) (hf : sEv ρ f = some 0) (h : kFadd G j z f = some G') : sHp ρ G' H := by
  unfold kFadd at h
  split at h
  · rename_i ci fs hg
    split at h
    · rename_i x hx
      split at h
      · cases h
      rename_i hci
      cases h
      obtain ⟨y, hy, hxy⟩ := sHp_get hH hg (by simp [sIsA, hci])
      have hset : H.set j y = H := by
        apply List.ext_getElem?
        intro k
        by_cases hk : j = k
        · subst hk
          rw [List.getElem?_set_self (List.getElem?_eq_some_iff.mp hy).1, hy]
        · rw [List.getElem?_set_ne hk]
      rw [← hset]
      refine sHp_set ?_ j hH
      rcases y with y | ⟨ck, gs⟩
      · exact hxy.elim
      · obtain ⟨rfl, hv⟩ := hxy
        refine ⟨rfl, ?_⟩
        have key : ∀ (z : Nat) (fs : List sV) (gs : List Value), sVs ρ fs gs → fs[z]? = some (0, x) → sVs ρ (fs.set z (0, sAdd x f)) gs := by
          intro z
          induction z with
          | zero =>
            intro fs gs hv hx
            match fs, gs, hv, hx with
            | v :: vs, w :: ws, hv, hx =>
              cases hx
              refine ⟨?_, hv.2⟩
              obtain ⟨y, e1, e2⟩ := sVr_int hv.1
              exact ⟨y, by rw [sEv_add e1 hf, Int.add_zero], e2⟩
          | succ z ih =>
            intro fs gs hv hx
            match fs, gs, hv, hx with
            | v :: vs, w :: ws, hv, hx => exact ⟨hv.1, ih vs ws hv.2 hx⟩
        exact key z fs gs hv hx
    · cases h
  · cases h
theorem kWe_ok {d md : Nat} {K : kS} {L : List kS} (h : kWe d md K = some L) {ρ : List Int} {R : eR} (hD : kD (kGP (kUP RO)) ρ K R) : ∃ K' ∈ L, ∃ ρ', ρ <+: ρ' ∧ kD (kGP (kUP RO)) ρ' K' R := by
  have same : ∃ K' ∈ [K], ∃ ρ', ρ <+: ρ' ∧ kD (kGP (kUP RO)) ρ' K' R := ⟨K, List.mem_singleton.mpr rfl, ρ, List.prefix_refl _, hD⟩
  obtain ⟨⟨pc, ls, st, G, c, s0, Γ⟩, γ⟩ := K
  have hM : sMo ρ Γ := hD.1
  have hg : kGh (kGP (kUP RO)) ρ γ R.2.2.2.1 := hD.2.2
  simp only [kWe] at h
  split at h
  · rename_i s hs
    have hs6 := kWs_lt hs
    have hk : kWk_ d s < 1000 := by unfold kWk_; split <;> omega
    split at h
    · rename_i rf p n le w hfa
      split at h
      · rename_i hc
        simp only [Bool.and_eq_true] at hc
        obtain ⟨cz, cp, cm⟩ := hc
        obtain ⟨-, zs, e1, e2⟩ := kFa_ok hg hfa hk
        obtain ⟨zR, zp, zn, zl, zw, rfl, eR, ep, en, el, ew⟩ := sVal_5 e1
        obtain ⟨R', p', n', le', w', hz, f, q1, q2, q3, q4⟩ := (kWany hs6).mp e2
        cases hz
        have hzero : zR = 0 := by
          rw [q4]
          apply kWd_stop
          unfold kWz at cz
          rcases Bool.or_eq_true_iff.mp cz with cz | cz
          · have := sNN_ok hM (sEv_mul (-1) en) cz
            left; omega
          rcases Bool.or_eq_true_iff.mp cz with cz | cz
          · have := sNN_ok hM (sEv_add (sEv_sub ep el) (sEv_C 2)) cz
            right; intro hh; omega
          rcases Bool.or_eq_true_iff.mp cz with cz | cz
          · have := sNN_ok hM (sEv_sub ew (sEv_C 16)) cz
            right; intro hh; omega
          have out : ∀ {j lo hi : Int}, 0 ≤ j → kWo1 Γ γ d s p j lo hi = true → (f (kWo d s + (zp + j).toNat)).toInt32.toInt < lo ∨ hi < (f (kWo d s + (zp + j).toNat)).toInt32.toInt := fun {j lo hi} h0 h1 => by
            unfold kWo1 at h1
            split at h1
            · rename_i a ha
              split at h1
              · rename_i i hi
                have h1 := of_decide_eq_true h1
                have va := kWv_ok hM hg q1 ep q2 h0 ha
                have := sIv_ok hM.1 va hi
                omega
              · cases h1
            · cases h1
          right
          rintro ⟨-, -, hok⟩
          unfold kWok at hok
          simp only [Bool.and_eq_true, decide_eq_true_eq] at hok
          obtain ⟨o1, o2, o3⟩ := hok
          rcases Bool.or_eq_true_iff.mp cz with cz | cz
          · have := out (by omega) cz
            rw [Int.add_zero] at this
            omega
          rcases Bool.or_eq_true_iff.mp cz with cz | cz
          · have := out (by omega) cz
            omega
          · have := out (by omega) cz
            omega
        subst hzero
        obtain ⟨Γ1, s1, s2⟩ := kAs_ok hM eR (lo := 0) (hi := 0) (Int.le_refl _) (Int.le_refl _)
        split at h
        · rename_i st2 G2 h1 h2
          rw [s1] at h
          cases h
          have hG := kFadd_ok hD.2.1.2.2.2.1 eR h2
          have hV := kPut0_ok (fun x z ex => by
            by_cases hmd : md = 0
            · rw [if_pos hmd, sEv_add ex eR, Int.add_zero]
            · rw [if_neg hmd]
              rcases Bool.or_eq_true_iff.mp cm with cm | cm
              · exact absurd (of_decide_eq_true cm) hmd
              · have := kEqf_ok hM en (sEv_C 0) cm
                subst this
                rw [sEv_add ex (sEv_sub eR en)]
                simp) h1 hD.2.1.2.2.1
          exact ⟨_, List.mem_singleton.mpr rfl, ρ, List.prefix_refl _, s2, ⟨hD.2.1.1, hD.2.1.2.1, hV, hG, hD.2.1.2.2.2.2⟩, hg⟩
        · cases h
          exact same
      · cases h
        exact same
    · cases h
      exact same
  · cases h
    exact same
/-- the reference's count is the class' -/
def kWX1 (s : Nat) (q : kA) : Option kA := if q.1 = 41 + s then some (47 + s, q.2) else none
def kWXs (γ : List kA) (s : Nat) : List kA := if kHav γ (14 + s) [sC (-1)] = true then γ.filterMap (kWX1 s) else []
def kWX (K : kS) : Option kWs := some [((List.range 6).flatMap (kWXs K.2), [])]
theorem kWX_ok : kRok RO kWX := by
  intro K ws h ρ R hD
  cases h
  refine ⟨_, List.mem_singleton.mpr rfl, fun q hq => ?_, fun b hb => by cases hb⟩
  obtain ⟨s, hs, hq⟩ := List.mem_flatMap.mp hq
  have hs6 := List.mem_range.mp hs
  unfold kWXs at hq
  split at hq
  · rename_i hh
    obtain ⟨f, g, q1, q2, q3⟩ := kHavEL hs6 hD.2.2 hh
    obtain ⟨⟨k, fs⟩, ha, hs2⟩ := List.mem_filterMap.mp hq
    unfold kWX1 at hs2
    split at hs2
    · rename_i hk
      simp only at hk
      subst hk
      cases hs2
      obtain ⟨zs, e1, e2⟩ := hD.2.2 _ ha
      unfold kGP at e2
      rw [if_neg (by simp only; omega)] at e2
      obtain ⟨r, p, n, le, w, he, f', r1, r2, r3, r4⟩ := (kUP41 hs6).mp e2
      unfold kLg at q1 r1
      rw [q1] at r1
      cases r1
      subst he
      exact kAt1 (by omega) e1 ((kUP47 hs6).mpr ⟨r, p, n, le, w, rfl, g, q2, r2, r3, by rw [r4]; exact kWd_eq r3 q3 _ _ _ r2⟩) _ (List.mem_singleton.mpr rfl)
    · cases hs2
  · cases hq
end KWDS
end
