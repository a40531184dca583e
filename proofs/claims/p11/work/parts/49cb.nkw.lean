/-! What of the readers' atoms a write leaves. -/
noncomputable section
def nKW1 (Γ : sG) (j : Nat) (i v : sL) (q : kA) : List kA :=
  if q.1 = 53 ∧ j = 20 then (match q.2 with
    | [ln, m, o, a, k, z, t] => if sNN Γ (sSub i z) = true then [q] else if m = sC 24 ∧ i = t ∧ v = z then [(53, [ln, sC 21, o, a, k, z, sC (-1)])] else []
    | _ => [])
  else if q.1 = 59 ∧ j = 20 then (match q.2 with
    | [_, z] => if sNN Γ (sSub i z) = true then [q] else []
    | _ => [])
  else if q.1 = 54 ∧ (j = 65 ∨ j = 66) then (match q.2 with
    | [_, _, _, _, _, l, _, _, _] => if sNN Γ (sSub (sSub i l) (sC 130)) = true ∨ sNN Γ (sSub (sC 129) i) = true then [q] else []
    | _ => [])
  else if q.1 = 54 ∧ (j = 68 ∨ j = 69) then (match q.2 with
    | [_, _, _, _, _, _, m, _, _] => if sNN Γ (sSub (sSub i m) (sC 61)) = true ∨ sNN Γ (sSub (sC 60) i) = true then [q] else []
    | _ => [])
  else if q.1 = 60 ∧ (j = 65 ∨ j = 66) then (if sNN Γ (sSub (sC 129) i) = true then [q] else [])
  else if q.1 = 60 ∧ (j = 68 ∨ j = 69) then (if sNN Γ (sSub (sC 60) i) = true then [q] else [])
  else if q.1 = 61 ∧ (j = 19 ∨ j = 64) then (match q.2 with
    | [n] => if sNN Γ (sSub i n) = true then [q] else []
    | _ => [])
  else if q.1 = 62 ∧ (j = 65 ∨ j = 66) then (if sNN Γ (sSub i (sC 130)) = true then [q] else [])
  else if q.1 = 62 ∧ (j = 68 ∨ j = 69) then (if sNN Γ (sSub i (sC 61)) = true then [q] else [])
  else if q.1 = 62 ∧ j = 67 then (if sNN Γ (sSub i (sC 1)) = true then [q] else [])
  else []
section NKW
variable {H : List eE} {j n : Nat} {zi : Int} {x : Int32} {ty : FieldType} {g : Nat → Int32} {d : Nat}
theorem nTp_set {B : Nat → Int32} (hj : H[j]? = some (.inl (ty, n, .inl g))) (h : nTp d B H) : nTp d (kUpd (if d = 0 then 19 else 64) j zi.toNat x B) (H.set j (.inl (ty, n, .inl (upd g zi.toNat x)))) := by
  unfold nTp at h ⊢
  split at h
  · rename_i hd
    rw [if_pos hd, if_pos hd]
    exact kCell_set h hj
  · rename_i hd
    rw [if_neg hd, if_neg hd]
    exact kCell_set h hj
theorem nTp_off {B : Nat → Int32} (hj : H[j]? = some (.inl (ty, n, .inl g))) (hc : (if d = 0 then 19 else 64) ≠ j) (h : nTp d B H) : nTp d B (H.set j (.inl (ty, n, .inl (upd g zi.toNat x)))) := by
  have := nTp_set (zi := zi) (x := x) hj h
  rw [kUpd_off hc] at this
  exact this
theorem nLaw_wi {d : List nLi} (h0 : 0 ≤ zi) (hj : H[j]? = some (.inl (ty, n, .inl g))) (hi : (j = 65 ∨ j = 66 → 130 ≤ zi) ∧ (j = 68 ∨ j = 69 → 61 ≤ zi) ∧ (j = 67 → 1 ≤ zi)) (h : nLaw d H) : nLaw d (H.set j (.inl (ty, n, .inl (upd g zi.toNat x)))) := by
  obtain ⟨A, W, T, E, M, a, b, c, e1, e2, e3, hl, e4⟩ := h
  refine ⟨_, _, _, _, kUpd 67 j zi.toNat x M, kAW_set hj a, kTE_set hj b, kCell_set c hj, nAg2_eq (fun i h1 h2 => ?_) e1, nAg2_eq (fun i h1 h2 => ?_) e2, ?_, hl, e4⟩
  · constructor
    · by_cases hk : (65 : Nat) = j
      · exact kUpd_ne (by have := hi.1 (Or.inl hk.symm); omega)
      · rw [kUpd_off hk]
    · by_cases hk : (66 : Nat) = j
      · exact kUpd_ne (by have := hi.1 (Or.inr hk.symm); omega)
      · rw [kUpd_off hk]
  · rw [nLv_len] at h2
    constructor
    · by_cases hk : (68 : Nat) = j
      · exact kUpd_ne (by have := hi.2.1 (Or.inl hk.symm); omega)
      · rw [kUpd_off hk]
    · by_cases hk : (69 : Nat) = j
      · exact kUpd_ne (by have := hi.2.1 (Or.inr hk.symm); omega)
      · rw [kUpd_off hk]
  · by_cases hk : (67 : Nat) = j
    · rw [kUpd_ne (by have := hi.2.2 hk.symm; omega)]
      exact e3
    · rw [kUpd_off hk]
      exact e3
variable {RO : List (Nat × (Nat → Int32))} {ρ : List Int} {Γ : sG}
theorem nG0_w (h0 : 0 ≤ zi) (hj : H[20]? = some (.inl (ty, n, .inl g))) {ln md o a k z t : Int} (h : nG 0 [ln, md, o, a, k, z, t] H) (hz : z ≤ zi) : nG 0 [ln, md, o, a, k, z, t] (H.set 20 (.inl (ty, n, .inl (upd g zi.toNat x)))) := by
  obtain ⟨ln', md', o', a', k', r, B, m, e, he, hB, hk, hn, hl⟩ := h
  cases he
  obtain ⟨C, z', t', hr, hC, hA, hzl, ht⟩ : ∃ C z' t', [z, t] = [z', t'] ∧ H[20]? = some (.inl (.int, 256, .inl C)) ∧ nAg C 0 (nPc md e) ∧ z' = ((nPc md e).length : Int) ∧ t' = nPn e := nLd_0.mp hl
  cases hr
  refine ⟨ln, md, o, a, k, [z, t], B, m, e, rfl, nTp_off hj (by decide) hB, hk, hn, ?_⟩
  refine nLd_0.mpr ⟨kUpd 20 20 zi.toNat x C, z, t, rfl, kCell_set hC hj, nAg_eq (fun i h1 h2 => kUpd_ne (by omega)) hA, hzl, ht⟩
/-- the place of a line's second part is told -/
theorem nG0_p (h0 : 0 ≤ zi) (hj : H[20]? = some (.inl (ty, n, .inl g))) {ln o a k z t : Int} (h : nG 0 [ln, 24, o, a, k, z, t] H) (hz : zi = t) (hx : x = Int32.ofInt z) : nG 0 [ln, 21, o, a, k, z, -1] (H.set 20 (.inl (ty, n, .inl (upd g zi.toNat x)))) := by
  obtain ⟨ln', md', o', a', k', r, B, m, e, he, hB, hk, hn, hl⟩ := h
  cases he
  obtain ⟨C, z', t', hr, hC, hA, hzl, ht⟩ : ∃ C z' t', [z, t] = [z', t'] ∧ H[20]? = some (.inl (.int, 256, .inl C)) ∧ nAg C 0 (nPc 24 e) ∧ z' = ((nPc 24 e).length : Int) ∧ t' = nPn e := nLd_0.mp hl
  cases hr
  have hn1 : nIt (nLt 0 B ln) ln (m + 1) = .inl (21, o, a, (e.1 ++ [(e.2.1, e.2.2)], none, []), nK (nLt 0 B ln) ln k.toNat) := by
    rw [nIt_next hn]
    simp only [nS]
    rw [if_neg (by omega), if_neg (by omega), if_neg (by omega), if_neg (by omega), if_pos (by trivial)]
  refine ⟨ln, 21, o, a, k, [z, -1], B, m + 1, _, rfl, nTp_off hj (by decide) hB, hk, hn1, ?_⟩
  obtain ⟨dn, ts, cu⟩ := e
  cases ts with
  | none =>
    exfalso
    have : t = -1 := ht
    omega
  | some te =>
    have ht : t = (((nCl 0 dn).length + te.length + 1 : Nat) : Int) := ht
    have hp : nPc 24 (dn, some te, cu) = ((nCl 0 dn ++ nEc te ++ [-1001]) ++ [0]) ++ (nEc cu ++ [-1000]) := by
      show (nCl 0 dn ++ (nEc te ++ ([-1001, 0] ++ nEc cu))) ++ [-1000] = _
      simp
    have hp2 : nPc 21 (dn ++ [(some te, cu)], none, []) = ((nCl 0 dn ++ nEc te ++ [-1001]) ++ [z]) ++ (nEc cu ++ [-1000]) := by
      show nCl 0 (dn ++ [(some te, cu)]) ++ nEc [] = _
      rw [nCl_app]
      have hzz : (((0 + (nCl 0 dn).length + te.length + cu.length + 3 : Nat)) : Int) = z := by
        rw [hzl, hp]
        simp only [List.length_append, List.length_singleton, nEc, List.length_map]
        omega
      simp only [nLc, nEc, List.map_nil, List.append_nil]
      rw [hzz]
      simp
    have hlen : (nCl 0 dn ++ nEc te ++ [-1001]).length = zi.toNat := by
      simp only [List.length_append, List.length_singleton, nEc, List.length_map]
      omega
    rw [hp] at hA hzl
    refine nLd_0.mpr ⟨kUpd 20 20 zi.toNat x C, z, -1, rfl, kCell_set hC hj, ?_, ?_, rfl⟩
    · rw [hp2]
      have hA1 := nAg_l (nAg_l hA)
      have hA3 := nAg_r hA
      refine nAg_app (nAg_app (nAg_eq (fun i h1 h2 => kUpd_ne (by omega)) hA1) (nAg_one ?_)) (nAg_eq (fun i h1 h2 => kUpd_ne ?_) ?_)
      · rw [Nat.zero_add, hlen, hx]
        have hg2 := hj.symm.trans hC
        simp [kUpd, upd]
      · simp only [List.length_append, List.length_singleton, nEc, List.length_map] at h1 hlen
        omega
      · rw [List.length_append, List.length_singleton] at hA3 ⊢
        exact hA3
    · rw [hp2, hzl]
      simp only [List.length_append, List.length_singleton]
theorem nG1_w (h0 : 0 ≤ zi) (hj : H[j]? = some (.inl (ty, n, .inl g))) {ln md o a k l m f t : Int} (h : nG 1 [ln, md, o, a, k, l, m, f, t] H) (h1 : j ≠ 64) (ha : j = 65 ∨ j = 66 → 130 + l ≤ zi ∨ zi ≤ 129) (ht : j = 68 ∨ j = 69 → 61 + m ≤ zi ∨ zi ≤ 60) : nG 1 [ln, md, o, a, k, l, m, f, t] (H.set j (.inl (ty, n, .inl (upd g zi.toNat x)))) := by
  obtain ⟨ln', md', o', a', k', r, B, q, e, he, hB, hk, hn, hl⟩ := h
  cases he
  obtain ⟨A, W, T, E, l', m', f', t', hr, hA, hT, hg, hll, hv, hm, hf, htt⟩ : ∃ A W T E l' m' f' t', [l, m, f, t] = [l', m', f', t'] ∧ kAW A W H ∧ kTE T E H ∧ nAg2 A W 130 (nAs e) ∧ l' = ((nAs e).length : Int) ∧ nAg2 T E 61 (nLv 0 e.1) ∧ m' = (e.1.length : Int) ∧ f' = ((nAl e.1).length : Int) ∧ t' = nPm e := nLd_1.mp hl
  cases hr
  refine ⟨ln, md, o, a, k, [l, m, f, t], B, q, e, rfl, nTp_off hj (by simpa using fun e => h1 e.symm) hB, hk, hn, ?_⟩
  refine nLd_1.mpr ⟨_, _, _, _, l, m, f, t, rfl, kAW_set hj hA, kTE_set hj hT, nAg2_eq (fun i q1 q2 => ?_) hg, hll, nAg2_eq (fun i q1 q2 => ?_) hv, hm, hf, htt⟩
  · constructor
    · by_cases hk : (65 : Nat) = j
      · exact kUpd_ne (by have := ha (Or.inl hk.symm); omega)
      · rw [kUpd_off hk]
    · by_cases hk : (66 : Nat) = j
      · exact kUpd_ne (by have := ha (Or.inr hk.symm); omega)
      · rw [kUpd_off hk]
  · rw [nLv_len] at q2
    constructor
    · by_cases hk : (68 : Nat) = j
      · exact kUpd_ne (by have := ht (Or.inl hk.symm); omega)
      · rw [kUpd_off hk]
    · by_cases hk : (69 : Nat) = j
      · exact kUpd_ne (by have := ht (Or.inr hk.symm); omega)
      · rw [kUpd_off hk]
end NKW
section NKW2
variable {RO : List (Nat × (Nat → Int32))} {ρ : List Int} {H : List eE} {j n : Nat} {zi zv : Int} {ty : FieldType} {g : Nat → Int32}
theorem sVal_c {f : sL} {fs : List sL} {zs : List Int} (h : sVal ρ (f :: fs) = some zs) : ∃ z r, zs = z :: r ∧ sEv ρ f = some z ∧ sVal ρ fs = some r := by
  simp only [sVal] at h
  split at h
  · rename_i z r e1 e2
    cases h
    exact ⟨z, r, rfl, e1, e2⟩
  · cases h
theorem sVal_7n {a b c d e f g : sL} {zs : List Int} (h : sVal ρ [a, b, c, d, e, f, g] = some zs) : ∃ p q r s t u v, zs = [p, q, r, s, t, u, v] ∧ sEv ρ a = some p ∧ sEv ρ b = some q ∧ sEv ρ c = some r ∧ sEv ρ d = some s ∧ sEv ρ e = some t ∧ sEv ρ f = some u ∧ sEv ρ g = some v := by
  obtain ⟨p, _, rfl, h1, h⟩ := sVal_c h
  obtain ⟨q, _, rfl, h2, h⟩ := sVal_c h
  obtain ⟨r, _, rfl, h3, h⟩ := sVal_c h
  obtain ⟨s, _, rfl, h4, h⟩ := sVal_c h
  obtain ⟨t, _, rfl, h5, h⟩ := sVal_c h
  obtain ⟨u, _, rfl, h6, h⟩ := sVal_c h
  obtain ⟨v, _, rfl, h7, h⟩ := sVal_c h
  cases h
  exact ⟨p, q, r, s, t, u, v, rfl, h1, h2, h3, h4, h5, h6, h7⟩
theorem sVal_9n {a b c d e f g h1 h2 : sL} {zs : List Int} (h : sVal ρ [a, b, c, d, e, f, g, h1, h2] = some zs) : ∃ p q r s t u v w x, zs = [p, q, r, s, t, u, v, w, x] ∧ sEv ρ f = some u ∧ sEv ρ g = some v := by
  obtain ⟨p, _, rfl, -, h⟩ := sVal_c h
  obtain ⟨q, _, rfl, -, h⟩ := sVal_c h
  obtain ⟨r, _, rfl, -, h⟩ := sVal_c h
  obtain ⟨s, _, rfl, -, h⟩ := sVal_c h
  obtain ⟨t, _, rfl, -, h⟩ := sVal_c h
  obtain ⟨u, _, rfl, e6, h⟩ := sVal_c h
  obtain ⟨v, _, rfl, e7, h⟩ := sVal_c h
  obtain ⟨w, _, rfl, -, h⟩ := sVal_c h
  obtain ⟨x, _, rfl, -, h⟩ := sVal_c h
  cases h
  exact ⟨p, q, r, s, t, u, v, w, x, rfl, e6, e7⟩
theorem nKW1_ok {Γ : sG} {i v : sL} {q : kA} (hM : sMo ρ Γ) (hi : sEv ρ i = some zi) (hv : sEv ρ v = some zv) (h0 : 0 ≤ zi) (hj : H[j]? = some (.inl (ty, n, .inl g))) {zs : List Int} (hz : sVal ρ q.2 = some zs) (hq : kGP (kUP RO) q.1 zs H) : kGh (kGP (kUP RO)) ρ (nKW1 Γ j i v q) (H.set j (.inl (ty, n, .inl (upd g zi.toNat (Int32.ofInt zv))))) := by
  have none_ : kGh (kGP (kUP RO)) ρ [] (H.set j (.inl (ty, n, .inl (upd g zi.toNat (Int32.ofInt zv))))) := fun a ha => by cases ha
  obtain ⟨k, fs⟩ := q
  simp only at hz hq
  have up : 53 ≤ k → k < 1000 → nUP k zs H := fun h1 h2 => by
    unfold kGP at hq
    rw [if_neg (by omega)] at hq
    exact (kUPn h1).mp hq
  have one_ : ∀ {k' : Nat} {fs' : List sL} {zs' : List Int}, 53 ≤ k' → k' < 1000 → sVal ρ fs' = some zs' → nUP k' zs' (H.set j (.inl (ty, n, .inl (upd g zi.toNat (Int32.ofInt zv))))) → kGh (kGP (kUP RO)) ρ [(k', fs')] (H.set j (.inl (ty, n, .inl (upd g zi.toNat (Int32.ofInt zv))))) := fun {k' fs' zs'} h1 h2 h3 h4 b hb => by
    rcases List.mem_singleton.mp hb with rfl
    refine ⟨zs', h3, ?_⟩
    unfold kGP
    rw [if_neg (by show ¬ 1000 ≤ k'; omega)]
    exact kUPs h1 h4
  unfold nKW1
  simp only
  by_cases c1 : k = 53 ∧ j = 20
  · rw [if_pos c1]
    obtain ⟨rfl, rfl⟩ := c1
    split
    · rename_i ln m o a k z t
      obtain ⟨p1, p2, p3, p4, p5, p6, p7, rfl, e1, e2, e3, e4, e5, e6, e7⟩ := sVal_7n hz
      have hG : nG 0 [p1, p2, p3, p4, p5, p6, p7] H := up (by decide) (by decide)
      split
      · rename_i hc
        have := sNN_ok hM (sEv_sub hi e6) hc
        exact one_ (by decide) (by decide) hz (show nG 0 _ _ from nG0_w h0 hj hG (by omega))
      · split
        · rename_i hc
          obtain ⟨rfl, rfl, rfl⟩ := hc
          cases e2.symm.trans (sEv_C (ρ := ρ) 24)
          cases hi.symm.trans e7
          cases hv.symm.trans e6
          have e21 := sEv_C (ρ := ρ) 21
          have em1 := sEv_C (ρ := ρ) (-1)
          exact one_ (zs' := [p1, 21, p3, p4, p5, zv, -1]) (by decide) (by decide) (by simp only [sVal, e1, e21, e3, e4, e5, e6, em1]) (show nG 0 _ _ from nG0_p h0 hj hG rfl rfl)
        · exact none_
    · exact none_
  rw [if_neg c1]
  by_cases c2 : k = 59 ∧ j = 20
  · rw [if_pos c2]
    obtain ⟨rfl, rfl⟩ := c2
    split
    · rename_i ln z
      obtain ⟨p1, p2, rfl, e1, e2⟩ := sVal_2 hz
      split
      · rename_i hc
        have := sNN_ok hM (sEv_sub hi e2) hc
        obtain ⟨a, b, he, B, C, m, dn, h1, h2, h3, h4, h5⟩ : ∃ a b, [p1, p2] = [a, b] ∧ nOX a b H := up (by decide) (by decide)
        cases he
        refine one_ (by decide) (by decide) hz (show ∃ a b, [p1, p2] = [a, b] ∧ nOX a b _ from ⟨p1, p2, rfl, B, _, m, dn, nTp_off hj (by decide) h1, kCell_set h2 hj, h3, nAg_eq (fun i q1 q2 => kUpd_ne (by omega)) h4, h5⟩)
      · exact none_
    · exact none_
  rw [if_neg c2]
  by_cases c3 : k = 54 ∧ (j = 65 ∨ j = 66)
  · rw [if_pos c3]
    obtain ⟨rfl, c3⟩ := c3
    split
    · rename_i x1 x2 x3 x4 x5 l m x8 x9
      obtain ⟨p1, p2, p3, p4, p5, p6, p7, p8, p9, rfl, e6, e7⟩ := sVal_9n hz
      have hG : nG 1 [p1, p2, p3, p4, p5, p6, p7, p8, p9] H := up (by decide) (by decide)
      split
      · rename_i hc
        refine one_ (by decide) (by decide) hz (show nG 1 _ _ from nG1_w h0 hj hG (by omega) (fun _ => ?_) (fun hq => by omega))
        rcases hc with hc | hc
        · have := sNN_ok hM (sEv_sub (sEv_sub hi e6) (sEv_C 130)) hc
          left; omega
        · have := sNN_ok hM (sEv_sub (sEv_C 129) hi) hc
          right; omega
      · exact none_
    · exact none_
  rw [if_neg c3]
  by_cases c4 : k = 54 ∧ (j = 68 ∨ j = 69)
  · rw [if_pos c4]
    obtain ⟨rfl, c4⟩ := c4
    split
    · rename_i x1 x2 x3 x4 x5 l m x8 x9
      obtain ⟨p1, p2, p3, p4, p5, p6, p7, p8, p9, rfl, e6, e7⟩ := sVal_9n hz
      have hG : nG 1 [p1, p2, p3, p4, p5, p6, p7, p8, p9] H := up (by decide) (by decide)
      split
      · rename_i hc
        refine one_ (by decide) (by decide) hz (show nG 1 _ _ from nG1_w h0 hj hG (by omega) (fun hq => by omega) (fun _ => ?_))
        rcases hc with hc | hc
        · have := sNN_ok hM (sEv_sub (sEv_sub hi e7) (sEv_C 61)) hc
          left; omega
        · have := sNN_ok hM (sEv_sub (sEv_C 60) hi) hc
          right; omega
      · exact none_
    · exact none_
  rw [if_neg c4]
  have om : ∀ {lo : Int}, ((j = 65 ∨ j = 66) → zi ≤ 129) → ((j = 68 ∨ j = 69) → zi ≤ 60) → j ≠ 64 → (∃ a b c, zs = [a, b, c] ∧ nOM a b c H) → ∃ a b c, zs = [a, b, c] ∧ nOM a b c (H.set j (.inl (ty, n, .inl (upd g zi.toNat (Int32.ofInt zv))))) := fun {lo} q1 q2 q3 h => by
    obtain ⟨a, b, c, he, B, A, W, T, E, m, dn, h1, h2, h3, h4, h5, h6, h7, h8⟩ := h
    refine ⟨a, b, c, he, B, _, _, _, _, m, dn, nTp_off hj (by simpa using fun e => q3 e.symm) h1, kAW_set hj h2, kTE_set hj h3, h4, nAg2_eq (fun i r1 r2 => ?_) h5, h6, nAg2_eq (fun i r1 r2 => ?_) h7, h8⟩
    · constructor
      · by_cases hk : (65 : Nat) = j
        · exact kUpd_ne (by have := q1 (Or.inl hk.symm); omega)
        · rw [kUpd_off hk]
      · by_cases hk : (66 : Nat) = j
        · exact kUpd_ne (by have := q1 (Or.inr hk.symm); omega)
        · rw [kUpd_off hk]
    · constructor
      · by_cases hk : (68 : Nat) = j
        · exact kUpd_ne (by have := q2 (Or.inl hk.symm); omega)
        · rw [kUpd_off hk]
      · by_cases hk : (69 : Nat) = j
        · exact kUpd_ne (by have := q2 (Or.inr hk.symm); omega)
        · rw [kUpd_off hk]
  by_cases c5 : k = 60 ∧ (j = 65 ∨ j = 66)
  · rw [if_pos c5]
    obtain ⟨rfl, c5⟩ := c5
    split
    · rename_i hc
      have := sNN_ok hM (sEv_sub (sEv_C 129) hi) hc
      exact one_ (by decide) (by decide) hz (om (lo := 0) (fun _ => by omega) (fun hq => by omega) (by omega) (up (by decide) (by decide)))
    · exact none_
  rw [if_neg c5]
  by_cases c6 : k = 60 ∧ (j = 68 ∨ j = 69)
  · rw [if_pos c6]
    obtain ⟨rfl, c6⟩ := c6
    split
    · rename_i hc
      have := sNN_ok hM (sEv_sub (sEv_C 60) hi) hc
      exact one_ (by decide) (by decide) hz (om (lo := 0) (fun hq => by omega) (fun _ => by omega) (by omega) (up (by decide) (by decide)))
    · exact none_
  rw [if_neg c6]
  by_cases c7 : k = 61 ∧ (j = 19 ∨ j = 64)
  · rw [if_pos c7]
    obtain ⟨rfl, c7⟩ := c7
    split
    · rename_i m
      obtain ⟨p1, rfl, e1⟩ := sVal_1 hz
      split
      · rename_i hc
        have := sNN_ok hM (sEv_sub hi e1) hc
        obtain ⟨a, he, B, T, h1, h2, h3⟩ : ∃ a, [p1] = [a] ∧ nTQ a H := up (by decide) (by decide)
        cases he
        refine one_ (by decide) (by decide) hz (show ∃ a, [p1] = [a] ∧ nTQ a _ from ⟨p1, rfl, _, _, nTp_set hj h1, nTp_set hj h2, fun i hi => ?_⟩)
        rw [kUpd_ne (by omega), kUpd_ne (by omega)]
        exact h3 i hi
      · exact none_
    · exact none_
  rw [if_neg c7]
  have lw : ((j = 65 ∨ j = 66) → 130 ≤ zi) → ((j = 68 ∨ j = 69) → 61 ≤ zi) → (j = 67 → 1 ≤ zi) → j ≠ 22 → (∃ a b, zs = [a, b] ∧ nLW a b H) → ∃ a b, zs = [a, b] ∧ nLW a b (H.set j (.inl (ty, n, .inl (upd g zi.toNat (Int32.ofInt zv))))) := fun q1 q2 q3 q4 h => by
    obtain ⟨a, b, he, h⟩ := h
    refine ⟨a, b, he, ?_⟩
    rcases h with ⟨C, h1, A, W, T, E, M, h2, h3, h4, h5⟩ | h
    · refine Or.inl ⟨C, ?_, _, _, _, _, _, kAW_set hj h2, kTE_set hj h3, kCell_set h4 hj, ?_⟩
      · rw [List.getElem?_set_ne (fun e => q4 e)]
        exact h1
      · rcases h5 with h5 | ⟨h5, dn, h6, h7⟩
        · exact Or.inl h5
        · exact Or.inr ⟨h5, dn, nLaw_wi h0 hj ⟨q1, q2, q3⟩ h6, h7⟩
    · exact Or.inr h
  by_cases c8 : k = 62 ∧ (j = 65 ∨ j = 66)
  · rw [if_pos c8]
    obtain ⟨rfl, c8⟩ := c8
    split
    · rename_i hc
      have := sNN_ok hM (sEv_sub hi (sEv_C 130)) hc
      exact one_ (by decide) (by decide) hz (lw (fun _ => by omega) (fun hq => by omega) (fun hq => by omega) (by omega) (up (by decide) (by decide)))
    · exact none_
  rw [if_neg c8]
  by_cases c9 : k = 62 ∧ (j = 68 ∨ j = 69)
  · rw [if_pos c9]
    obtain ⟨rfl, c9⟩ := c9
    split
    · rename_i hc
      have := sNN_ok hM (sEv_sub hi (sEv_C 61)) hc
      exact one_ (by decide) (by decide) hz (lw (fun hq => by omega) (fun _ => by omega) (fun hq => by omega) (by omega) (up (by decide) (by decide)))
    · exact none_
  rw [if_neg c9]
  by_cases c10 : k = 62 ∧ j = 67
  · rw [if_pos c10]
    obtain ⟨rfl, rfl⟩ := c10
    split
    · rename_i hc
      have := sNN_ok hM (sEv_sub hi (sEv_C 1)) hc
      exact one_ (by decide) (by decide) hz (lw (fun hq => by omega) (fun hq => by omega) (fun _ => by omega) (by omega) (up (by decide) (by decide)))
    · exact none_
  rw [if_neg c10]
  exact none_
end NKW2
end
