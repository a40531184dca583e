/-! How high the stack stands where the reader is. -/
noncomputable section
/-- how many numbers wait below -/
def nBg : List (Int × Int) → Nat
  | [] => 0
  | (t, _) :: r => if 1 ≤ t ∧ t ≤ 5 then nBg r else if 1 ≤ nOp (t - 100) then nBg r + 1 else if t = 300 ∨ t = 301 ∨ t = 302 then nBg r else 0
def nWh (md : Int) (κ : List (Int × Int)) : Nat := if 0 ≤ md ∧ md ≤ 5 then nBg κ else if md = 24 then 1 else if md = 20 ∨ (11 ≤ md ∧ md ≤ 15) then nBg κ + 1 else 0
def nHI (s : nSt) : Prop := nHt 0 s.2.2.2.1.2.2 = some (nWh s.1 s.2.2.2.2) ∧ (∀ t, s.2.2.2.1.2.1 = some t → nHt 0 t = some 1) ∧ ∀ l ∈ s.2.2.2.1.1, nHl l
theorem nOp_37 {c : Int} (h : 1 ≤ nOp c) : 37 ≤ c := by
  unfold nOp at h
  split at h
  · omega
  split at h
  · omega
  split at h
  · omega
  split at h
  · omega
  split at h
  · omega
  · omega
theorem nHt_ad {e : nEs} {x : nSp} {h n : Nat} (h1 : nHt 0 e.2.2 = some h) (h2 : kOp x.1 x.2 h = some n) : nHt 0 (nAd e x).2.2 = some n := by
  show nHt 0 (e.2.2 ++ [x]) = some n
  rw [nHt_app, h1]
  show nHt h [x] = some n
  simp only [nHt, h2]
theorem kOp_b {c : Int} {n : Nat} (h : 1 ≤ nOp c) : kOp c 0 (n + 2) = some (n + 1) := by
  have := nOp_37 h
  unfold kOp
  rw [if_neg (by omega), if_neg (by omega), if_neg (by omega), if_pos (by omega)]
  rfl
theorem nHI_app {d : List nLi} {t0 : Option (List nSp)} {cu : List nSp} {o a : Int} {κ : List (Int × Int)} (h : ∀ l ∈ d, nHl l) (ht : ∀ t, t0 = some t → nHt 0 t = some 1) (hc : nHt 0 cu = some 1) : nHI (21, o, a, (d ++ [(t0, cu)], none, []), κ) := by
  refine ⟨?_, fun t q => (by cases q), fun l hl => ?_⟩
  · show some 0 = some (nWh 21 κ)
    unfold nWh
    rw [if_neg (by omega), if_neg (by omega), if_neg (by omega)]
  · rcases List.mem_append.mp hl with hl | hl
    · exact h l hl
    · rw [List.mem_singleton.mp hl]
      exact ⟨hc, ht⟩
theorem nS_hgt {L : Int → Int} {len : Int} {s s' : nSt} (h : nS L len s = .inl s') (hs : nHI s) : nHI s' := by
  obtain ⟨md, o, a, e, κ⟩ := s
  obtain ⟨h1, h2, h3⟩ := hs
  simp only at h1 h2 h3
  have w0 : ∀ {m : Int} {κ : List (Int × Int)}, 0 ≤ m ∧ m ≤ 5 → nWh m κ = nBg κ := fun {m κ} q => by unfold nWh; rw [if_pos q]
  have w1 : ∀ {m : Int} {κ : List (Int × Int)}, (m = 20 ∨ (11 ≤ m ∧ m ≤ 15)) → nWh m κ = nBg κ + 1 := fun {m κ} q => by unfold nWh; rw [if_neg (by omega), if_neg (by omega), if_pos q]
  have w4 : ∀ {κ : List (Int × Int)}, nWh 24 κ = 1 := fun {κ} => by unfold nWh; rw [if_neg (by omega), if_pos rfl]
  have bn : ∀ {t fo : Int} {r : List (Int × Int)}, (1 ≤ t ∧ t ≤ 5) ∨ t = 300 ∨ t = 301 ∨ t = 302 → nBg ((t, fo) :: r) = nBg r := fun {t fo r} q => by
    simp only [nBg]
    by_cases q1 : 1 ≤ t ∧ t ≤ 5
    · rw [if_pos q1]
    rw [if_neg q1]
    have q : t = 300 ∨ t = 301 ∨ t = 302 := q.resolve_left q1
    have : ¬ 1 ≤ nOp (t - 100) := by
      rcases q with rfl | rfl | rfl <;> decide
    rw [if_neg this, if_pos q]
  have bz : ∀ {fo : Int} {r : List (Int × Int)}, nBg ((303, fo) :: r) = 0 ∧ nBg ((304, fo) :: r) = 0 := fun {fo r} => ⟨rfl, rfl⟩
  have bb : ∀ {t fo : Int} {r : List (Int × Int)}, 1 ≤ nOp (t - 100) → nBg ((t, fo) :: r) = nBg r + 1 := fun {t fo r} q => by
    have := nOp_37 q
    simp only [nBg]
    rw [if_neg (by omega), if_pos q]
  simp only [nS] at h
  by_cases m0 : md = 0
  · subst m0
    rw [if_pos rfl] at h
    rw [w0 (by omega)] at h1
    split at h
    · cases h
      refine ⟨?_, h2, h3⟩
      rw [w1 (by omega)]
      exact nHt_ad h1 (by unfold kOp; rw [if_pos rfl])
    split at h
    · rename_i hn
      cases h
      refine ⟨?_, h2, h3⟩
      rw [w1 (by omega)]
      exact nHt_ad h1 (by unfold kOp; rw [if_neg (show ¬ (2 : Int) = 1 by decide), if_pos rfl, if_pos ⟨hn, nNm_r _⟩])
    split at h
    · cases h
      exact ⟨by show _ = some (nWh 0 _); rw [w0 (by omega), bn (by omega)]; exact h1, h2, h3⟩
    split at h
    · cases h
      exact ⟨by show _ = some (nWh 0 _); rw [w0 (by omega), bn (by omega)]; exact h1, h2, h3⟩
    split at h
    · cases h
      exact ⟨by show _ = some (nWh 5 _); rw [w0 (by omega), bn (by omega)]; exact h1, h2, h3⟩
    · cases h
  rw [if_neg m0] at h
  by_cases m1 : 1 ≤ md ∧ md ≤ 5
  · rw [if_pos m1] at h
    rw [w0 (by omega)] at h1
    cases h
    exact ⟨by show _ = some (nWh (md - 1) _); rw [w0 (by omega), bn (Or.inl m1)]; exact h1, h2, h3⟩
  rw [if_neg m1] at h
  by_cases m2 : 11 ≤ md ∧ md ≤ 15
  · rw [if_pos m2] at h
    rw [w1 (Or.inr m2)] at h1
    split at h
    · rename_i hop
      cases h
      have hb : nBg ((100 + L a, o) :: κ) = nBg κ + 1 := bb (by rw [show 100 + L a - 100 = L a by omega]; omega)
      exact ⟨by show _ = some (nWh (md - 11) _); rw [w0 (by omega), hb]; exact h1, h2, h3⟩
    · cases h
      exact ⟨by show _ = some (nWh 20 _); rw [w1 (Or.inl rfl)]; exact h1, h2, h3⟩
  rw [if_neg m2] at h
  by_cases m3 : md = 20
  · subst m3
    rw [if_pos rfl] at h
    rw [w1 (Or.inl rfl)] at h1
    cases κ with
    | nil => cases h
    | cons q r =>
      obtain ⟨t, fo⟩ := q
      have ho := nOp_r (t - 100)
      simp only at h
      split at h
      · rename_i q1
        cases h
        rw [bn (Or.inl q1)] at h1
        exact ⟨by show _ = some (nWh (10 + t) _); rw [w1 (by omega)]; exact h1, h2, h3⟩
      split at h
      · rename_i ht5 ht
        rw [bb ht] at h1
        split at h
        · cases h
          exact ⟨by show _ = some (nWh 20 _); rw [w1 (Or.inl rfl)]; exact nHt_ad h1 (kOp_b ht), h2, h3⟩
        · cases h
          exact ⟨by show _ = some (nWh (10 + nOp (t - 100)) _); rw [w1 (by omega)]; exact nHt_ad h1 (kOp_b ht), h2, h3⟩
      rename_i t5 tb
      split at h
      · rename_i e3
        cases h
        rw [bn (by omega)] at h1
        exact ⟨by show _ = some (nWh 20 _); rw [w1 (Or.inl rfl)]; exact nHt_ad h1 (by unfold kOp; rw [if_neg (by decide), if_neg (by decide), if_pos (Or.inl rfl), if_pos (by omega)]), h2, h3⟩
      split at h
      · rename_i e3
        cases h
        rw [bn (by omega)] at h1
        exact ⟨by show _ = some (nWh 20 _); rw [w1 (Or.inl rfl)]; exact nHt_ad h1 (by unfold kOp; rw [if_neg (by decide), if_neg (by decide), if_pos (Or.inr rfl), if_pos (by omega)]), h2, h3⟩
      split at h
      · split at h
        · cases h
          rw [bn (by omega)] at h1
          exact ⟨by show _ = some (nWh 20 _); rw [w1 (Or.inl rfl)]; exact h1, h2, h3⟩
        · cases h
      rename_i n0 n1 n2
      have hz : nBg ((t, fo) :: r) = 0 := by
        simp only [nBg]
        rw [if_neg t5, if_neg tb, if_neg (by omega)]
      rw [hz] at h1
      split at h
      · split at h
        · cases h
          refine ⟨?_, fun t0 q => ?_, h3⟩
          · show some 0 = some (nWh 5 _)
            rw [w0 (by omega), bz.2]
          · cases q
            exact h1
        · cases h
          exact nHI_app h3 (fun t q => (by cases q)) h1
      · cases h
        exact ⟨by show _ = some (nWh 24 _); rw [w4]; exact h1, h2, h3⟩
  rw [if_neg m3] at h
  by_cases m4 : md = 24
  · subst m4
    rw [if_pos rfl] at h
    rw [w4] at h1
    cases h
    exact nHI_app h3 h2 h1
  rw [if_neg m4] at h
  have wz : nWh md κ = 0 := by
    unfold nWh
    rw [if_neg (by omega), if_neg m4, if_neg (by omega)]
  rw [wz] at h1
  by_cases m5 : md = 21
  · subst m5
    rw [if_pos rfl] at h
    split at h
    · cases h
      exact ⟨by show _ = some (nWh 5 _); rw [w0 (by omega), bz.1]; exact h1, h2, h3⟩
    split at h
    · cases h
    · cases h
  rw [if_neg m5] at h
  cases h
  exact ⟨by show _ = some (nWh 5 _); rw [w0 (by omega), bz.1]; exact h1, h2, h3⟩
theorem nIt_hgt {L : Int → Int} {len : Int} : ∀ (n : Nat) {s : nSt}, nIt L len n = .inl s → nHI s
  | 0, s, h => by
    cases h
    exact ⟨rfl, fun t q => (by cases q), fun l hl => (by cases hl)⟩
  | n + 1, s, h => by
    simp only [nIt] at h
    split at h
    · rename_i s0 hs
      exact nS_hgt h (nIt_hgt n hs)
    · cases h
/-- every line that is laid leaves one number -/
theorem nIt_hl {L : Int → Int} {len : Int} : ∀ (n : Nat) {d : List nLi}, nIt L len n = .inr (.inr d) → nHs d
  | 0, d, h => by cases h
  | n + 1, d, h => by
    simp only [nIt] at h
    split at h
    · rename_i s0 hs
      have hi := nIt_hgt n hs
      obtain ⟨md, o, a, e, κ⟩ := s0
      cases nS_end h
      exact hi.2.2
    · rename_i e0 hs
      cases h
      exact nIt_hl n hs
end
