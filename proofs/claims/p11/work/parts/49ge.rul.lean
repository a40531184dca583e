/-! Consequences with a new unknown; the readers' steps. -/
noncomputable section
abbrev nWs : Type := List (Option (Int × Int) × List kA × List (sL × Int × Int))
def nFr (Γ : sG) (b : Option (Int × Int)) : sG := match b with
  | none => Γ
  | some b => sFresh Γ b
def nApp (r : kS → Option nWs) (K : kS) : Option (List kS) := match r K with
  | none => some [K]
  | some ws => match K with
    | ((pc, ls, st, G, c, s, Γ), γ) => some (ws.filterMap fun p => (kAss (nFr Γ p.1) p.2.2).map fun Γ' => ((pc, ls, st, G, c, s, Γ'), p.2.1 ++ γ))
def nNw (b : Option (Int × Int)) (new : List Int) : Prop := match b with
  | none => new = []
  | some b => ∃ z, new = [z] ∧ b.1 ≤ z ∧ z ≤ b.2
def nRok (RO : List (Nat × (Nat → Int32))) (r : kS → Option nWs) : Prop := ∀ (K : kS) (ws : nWs), r K = some ws → ∀ (ρ : List Int) (R : eR), kD (kGP (kUP RO)) ρ K R →
  ∃ p ∈ ws, ∃ new : List Int, nNw p.1 new ∧ kGh (kGP (kUP RO)) (ρ ++ new) p.2.1 R.2.2.2.1 ∧ ∀ b ∈ p.2.2, ∃ z, sEv (ρ ++ new) b.1 = some z ∧ b.2.1 ≤ z ∧ z ≤ b.2.2
theorem nApp_ok {RO : List (Nat × (Nat → Int32))} {r : kS → Option nWs} (hr : nRok RO r) {K : kS} {L : List kS} (h : nApp r K = some L) {ρ : List Int} {R : eR} (hD : kD (kGP (kUP RO)) ρ K R) : ∃ K' ∈ L, ∃ ρ', ρ <+: ρ' ∧ kD (kGP (kUP RO)) ρ' K' R := by
  unfold nApp at h
  split at h
  · cases h
    exact ⟨K, List.mem_singleton.mpr rfl, ρ, List.prefix_refl _, hD⟩
  · rename_i ws hws
    obtain ⟨p, hp, new, hn, h1, h2⟩ := hr K ws hws ρ R hD
    obtain ⟨⟨pc, ls, st, G, c, s, Γ⟩, γ⟩ := K
    simp only at h
    cases h
    have hM : sMo ρ Γ := hD.1
    have hM' : sMo (ρ ++ new) (nFr Γ p.1) := by
      unfold nFr
      unfold nNw at hn
      split
      · rename_i e
        rw [e] at hn
        simp only at hn
        subst hn
        rw [List.append_nil]
        exact hM
      · rename_i b e
        rw [e] at hn
        obtain ⟨z, rfl, b1, b2⟩ := hn
        exact (sFresh_ok hM b1 b2).1
    obtain ⟨Γ', e, m⟩ := kAss_ok p.2.2 hM' h2
    have hpre : ρ <+: ρ ++ new := ⟨_, rfl⟩
    refine ⟨((pc, ls, st, G, c, s, Γ'), p.2.1 ++ γ), List.mem_filterMap.mpr ⟨p, hp, by simp only [e, Option.map_some]⟩, ρ ++ new, hpre, m, ⟨hD.2.1.1, hD.2.1.2.1.mono hpre, hD.2.1.2.2.1.mono hpre, hD.2.1.2.2.2.1.mono hpre, hD.2.1.2.2.2.2⟩, fun q hq => ?_⟩
    rcases List.mem_append.mp hq with hq | hq
    · exact h1 q hq
    · obtain ⟨zs, e1, e2⟩ := hD.2.2 q hq
      exact ⟨zs, sVal_mono hpre e1, e2⟩
section NVAL
variable {d : Nat} {H : List eE}
theorem nTp_one {B B' : Nat → Int32} (h : nTp d B H) (g : nTp d B' H) : B = B' := by
  unfold nTp at h g
  split at h
  · rename_i hd
    rw [if_pos hd] at g
    rw [h] at g
    cases g
    rfl
  · rename_i hd
    rw [if_neg hd] at g
    rw [h] at g
    cases g
    rfl
theorem nLd_md {md md' : Int} {e : nEs} {r : List Int} (h1 : md ≠ 24) (h2 : md' ≠ 24) (h : nLd d md e r H) : nLd d md' e r H := by
  unfold nLd at h ⊢
  split at h
  · rename_i hd
    rw [if_pos hd]
    unfold nPc at h ⊢
    rw [if_neg h1] at h
    rw [if_neg h2]
    exact h
  · rename_i hd
    rw [if_neg hd]
    exact h
/-- the next step is laid: by side -/
def nNx (d : Nat) (z : Int) (x : nSp) (H : List eE) : Prop := 0 ≤ z → if d = 0 then (∃ C, H[20]? = some (.inl (.int, 256, .inl C)) ∧ C z.toNat = Int32.ofInt (nEn1 x)) else (∃ A W, kAW A W H ∧ A (130 + z.toNat) = Int32.ofInt x.1 ∧ W (130 + z.toNat) = Int32.ofInt x.2)
theorem nLd_ad {md md' : Int} {e : nEs} {z : Int} {r : List Int} {x : nSp} (h1 : md ≠ 24) (h2 : md' ≠ 24) (h : nLd d md e (z :: r) H) (hx : nNx d z x H) : nLd d md' (nAd e x) ((z + 1) :: r) H := by
  unfold nLd at h ⊢
  split at h
  · rename_i hd
    rw [if_pos hd]
    obtain ⟨C, z', t, hr, hC, hA, hz, ht⟩ := h
    cases hr
    unfold nPc at hA hz ⊢
    rw [if_neg h1] at hA hz
    rw [if_neg h2, nPt_ad]
    unfold nNx at hx
    rw [if_pos hd] at hx
    obtain ⟨C', hC', hx⟩ := hx (by omega)
    rw [hC] at hC'
    cases hC'
    refine ⟨C, _, _, rfl, hC, nAg_app hA (nAg_one ?_), ?_, ht⟩
    · rw [Nat.zero_add]
      rw [hz] at hx
      simpa using hx
    · rw [List.length_append, List.length_singleton, hz]
      omega
  · rename_i hd
    rw [if_neg hd]
    obtain ⟨A, W, T, E, l, m, f, t, hr, hA, hT, hg, hl, hv, hm, hf, ht⟩ := h
    cases hr
    unfold nNx at hx
    rw [if_neg hd] at hx
    obtain ⟨A', W', hA', x1, x2⟩ := hx (by omega)
    obtain ⟨a1, a2⟩ := hA
    obtain ⟨b1, b2⟩ := hA'
    rw [a1] at b1
    cases b1
    rw [a2] at b2
    cases b2
    refine ⟨A, W, T, E, _, _, _, _, rfl, ⟨a1, a2⟩, hT, ?_, ?_, hv, hm, hf, ht⟩
    · rw [nAs_ad]
      rw [hl] at x1 x2
      simp only [Int.toNat_natCast] at x1 x2
      exact nAg2_app hg (nAg2_one x1 x2)
    · rw [nAs_ad, List.length_append, List.length_singleton, hl]
      omega
/-- the reader goes on: nothing is laid -/
theorem nG_go {ln md o a k md' o' a' : Int} {r : List Int} (h : nG d (ln :: md :: o :: a :: k :: r) H) (h1 : md ≠ 24) (h2 : md' ≠ 24) {f : List (Int × Int) → List (Int × Int)}
    (hs : ∀ B, nTp d B H → ∀ e, nS (nLt d B ln) ln (md, o, a, e, nK (nLt d B ln) ln k.toNat) = .inl (md', o', a', e, f (nK (nLt d B ln) ln k.toNat))) :
    ∃ B n e, nTp d B H ∧ 0 ≤ k ∧ nIt (nLt d B ln) ln n = .inl (md', o', a', e, f (nK (nLt d B ln) ln k.toNat)) ∧ nLd d md' e r H := by
  obtain ⟨ln', md1, o1, a1, k1, r1, B, n, e, hz, hB, hk, hn, hl⟩ := h
  cases hz
  exact ⟨B, n + 1, e, hB, hk, by rw [nIt_next hn]; exact hs B hB e, nLd_md h1 h2 hl⟩
/-- one step more is laid -/
theorem nG_ad {ln md o a k z md' o' a' : Int} {r : List Int} {x : nSp} (h : nG d (ln :: md :: o :: a :: k :: z :: r) H) (h1 : md ≠ 24) (h2 : md' ≠ 24) {f : List (Int × Int) → List (Int × Int)}
    (hs : ∀ B, nTp d B H → ∀ e, nS (nLt d B ln) ln (md, o, a, e, nK (nLt d B ln) ln k.toNat) = .inl (md', o', a', nAd e x, f (nK (nLt d B ln) ln k.toNat))) (hx : nNx d z x H) :
    ∃ B n e, nTp d B H ∧ 0 ≤ k ∧ nIt (nLt d B ln) ln n = .inl (md', o', a', e, f (nK (nLt d B ln) ln k.toNat)) ∧ nLd d md' e ((z + 1) :: r) H := by
  obtain ⟨ln', md1, o1, a1, k1, r1, B, n, e, hz, hB, hk, hn, hl⟩ := h
  cases hz
  exact ⟨B, n + 1, nAd e x, hB, hk, by rw [nIt_next hn]; exact hs B hB e, nLd_ad h1 h2 hl hx⟩
theorem nG_push {ln md o a t fo k : Int} {r : List Int} (h : ∃ B n e, nTp d B H ∧ 0 ≤ k ∧ nIt (nLt d B ln) ln n = .inl (md, o, a, e, (t, fo) :: nK (nLt d B ln) ln k.toNat) ∧ nLd d md e r H) (ha : a ≤ 121) :
    ∃ k', 0 ≤ k' ∧ k' ≤ 3000 ∧ nG d (ln :: md :: o :: a :: k' :: r) H ∧ nU d [ln, k', t, fo, k] H := by
  obtain ⟨B, n, e, hB, hk, hn, hl⟩ := h
  have hK : nK (nLt d B ln) ln n = (t, fo) :: nK (nLt d B ln) ln k.toNat := by
    show (match nIt (nLt d B ln) ln n with
      | .inl s => s.2.2.2.2
      | .inr _ => []) = _
    rw [hn]
  refine ⟨(n : Int), by omega, by have := nIt_cnt hn ha; omega, ⟨ln, md, o, a, n, r, B, n, e, rfl, hB, by omega, ?_, hl⟩, ⟨ln, n, t, fo, k, B, rfl, hB, hk, ?_⟩⟩
  · rw [Int.toNat_natCast, hK]
    exact hn
  · rw [Int.toNat_natCast]
    exact hK
theorem nG_same {ln md o a k : Int} {r : List Int} (h : ∃ B n e, nTp d B H ∧ 0 ≤ k ∧ nIt (nLt d B ln) ln n = .inl (md, o, a, e, nK (nLt d B ln) ln k.toNat) ∧ nLd d md e r H) : nG d (ln :: md :: o :: a :: k :: r) H := by
  obtain ⟨B, n, e, hB, hk, hn, hl⟩ := h
  exact ⟨ln, md, o, a, k, r, B, n, e, rfl, hB, hk, hn, hl⟩
/-- what was on top is taken off -/
theorem nG_pop {ln md o a k t fo k2 : Int} {r : List Int} (hu : nU d [ln, k, t, fo, k2] H) (h : ∃ B n e, nTp d B H ∧ 0 ≤ k ∧ nIt (nLt d B ln) ln n = .inl (md, o, a, e, (nK (nLt d B ln) ln k.toNat).tail) ∧ nLd d md e r H) : nG d (ln :: md :: o :: a :: k2 :: r) H := by
  obtain ⟨B, n, e, hB, hk, hn, hl⟩ := h
  obtain ⟨ln', k', t', fo', k2', B', hz, hB', h0, hK⟩ := hu
  cases hz
  cases nTp_one hB hB'
  rw [hK] at hn
  exact ⟨ln, md, o, a, k2, r, B, n, e, rfl, hB, h0, hn, hl⟩
theorem nU_at {ln k t fo k2 : Int} (hu : nU d [ln, k, t, fo, k2] H) {B : Nat → Int32} (hB : nTp d B H) : nK (nLt d B ln) ln k.toNat = (t, fo) :: nK (nLt d B ln) ln k2.toNat := by
  obtain ⟨ln', k', t', fo', k2', B', hz, hB', h0, hK⟩ := hu
  cases hz
  cases nTp_one hB hB'
  exact hK
theorem nG_end {ln md o a k f : Int} {r : List Int} (h : nG d (ln :: md :: o :: a :: k :: r) H) (hs : ∀ B, nTp d B H → ∀ e, nS (nLt d B ln) ln (md, o, a, e, nK (nLt d B ln) ln k.toNat) = .inr (.inl f)) : nF d [ln, f] H := by
  obtain ⟨ln', md1, o1, a1, k1, r1, B, n, e, hz, hB, hk, hn, hl⟩ := h
  cases hz
  exact ⟨ln, f, B, n + 1, rfl, hB, by rw [nIt_next hn]; exact hs B hB e⟩
/-- a digit where nothing can go on with one -/
theorem nG_dig {ln o a k : Int} {r : List Int} (h : nG d (ln :: 20 :: o :: a :: k :: r) H) (hd : ∀ B, nTp d B H → nDg (nLt d B ln a) = true) (hl : a < ln) : nF d [ln, a] H := by
  obtain ⟨ln', md1, o1, a1, k1, r1, B, n, e, hz, hB, hk, hn, -⟩ := h
  cases hz
  obtain ⟨n', hn'⟩ := nIt_dig (hd B hB) hl _ (Nat.le_refl _) (Or.inl rfl) hn
  exact ⟨ln, a, B, n', rfl, hB, hn'⟩
end NVAL
end
