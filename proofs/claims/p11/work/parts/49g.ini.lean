/-! What is told of a new table. -/
noncomputable section
def kZ40 (G : List sE) (j n : Nat) (ty : FieldType) : Bool := match G[j]? with
  | some (.inl (t, m, b, ov)) => decide (t = ty) && (decide (m = n) && (decide (b = (0, 0)) && ov.isEmpty))
  | _ => false
theorem kZ40_ok {ρ : List Int} {G : List sE} {H : List eE} (hH : sHp ρ G H) {j n : Nat} (h : kZ40 G j n .int = true) : ∃ f : Nat → Int32, H[j]? = some (.inl (.int, n, .inl f)) ∧ ∀ k, k < n → (f k).toInt = 0 := by
  unfold kZ40 at h
  split at h
  · rename_i t m b ov hg
    simp only [Bool.and_eq_true, decide_eq_true_eq] at h
    obtain ⟨rfl, rfl, rfl, h4⟩ := h
    have h4 := List.isEmpty_iff.mp h4
    subst h4
    obtain ⟨y, hy, hxy⟩ := sHp_get hH hg
    rcases y with ⟨ty', n', arr⟩ | y
    · obtain ⟨rfl, rfl, harr⟩ := hxy
      rcases arr with f | f | f
      · refine ⟨f, hy, fun k hk => ?_⟩
        have := harr.2 k hk
        simp only [sLk_def, List.find?_nil, Option.map_none] at this
        omega
      · cases harr.1
      · cases harr.1
    · exact hxy.elim
  · cases h
section KINI
variable {RO : List (Nat × (Nat → Int32))}
theorem kLog0 {ρ : List Int} {G : List sE} {H : List eE} (hH : sHp ρ G H) {cw ci cb ca : Nat} (h1 : kZ40 G cw 40 .int = true) (h2 : kZ40 G ci 40 .int = true) (h3 : kZ40 G cb 40 .int = true) (h4 : kZ40 G ca 40 .int = true) : kLog cw ci cb ca (-1) H := by
  obtain ⟨fw, w1, w2⟩ := kZ40_ok hH h1
  obtain ⟨fi, i1, i2⟩ := kZ40_ok hH h2
  obtain ⟨fb, b1, b2⟩ := kZ40_ok hH h3
  obtain ⟨fa, a1, a2⟩ := kZ40_ok hH h4
  refine ⟨fw, fi, fb, fa, w1, i1, b1, a1, fun k hk _ => ?_⟩
  unfold kTp
  rw [w2 k hk, i2 k hk, b2 k hk, a2 k hk]
  unfold kTup
  decide
def kRI (K : kS) : Option kWs := match K.1.2.2.2.1 with
  | G => if (kZ40 G 14 40 .int && (kZ40 G 15 40 .int && (kZ40 G 16 40 .int && (kZ40 G 17 40 .int && (kZ40 G 60 40 .int && (kZ40 G 61 40 .int && (kZ40 G 62 40 .int && (kZ40 G 63 40 .int && (kZ40 G 67 2 .int && kSh G))))))))) = true then some [([(1, [sC (-1)]), (2, [sC (-1)]), (7, [])], [])] else none
theorem kRI_ok : kRok RO kRI := by
  intro K ws h ρ R hD
  have hH := hD.2.1.2.2.2.1
  unfold kRI at h
  simp only at h
  split at h
  · rename_i hc
    cases h
    simp only [Bool.and_eq_true] at hc
    obtain ⟨c1, c2, c3, c4, c5, c6, c7, c8, c9, c10⟩ := hc
    obtain ⟨A, W, T, E, hAW, hTE⟩ := kSh_ok hH c10
    obtain ⟨M, hM, hM0⟩ := kZ40_ok hH c9
    have a1 := kAt1 (RO := RO) (ρ := ρ) (k := 1) (fs := [sC (-1)]) (zs := [-1]) (H := R.2.2.2.1) (by decide) (by simp only [sVal, sEv_C]) ⟨-1, rfl, kLog0 hH c2 c1 c3 c4⟩
    have a2 := kAt1 (RO := RO) (ρ := ρ) (k := 2) (fs := [sC (-1)]) (zs := [-1]) (H := R.2.2.2.1) (by decide) (by simp only [sVal, sEv_C]) ⟨-1, rfl, kLog0 hH c5 c6 c7 c8⟩
    have a3 := kAt1 (RO := RO) (ρ := ρ) (k := 7) (fs := []) (zs := []) (H := R.2.2.2.1) (by decide) rfl ⟨A, W, T, E, M, hAW, hTE, hM, 0, 0, hM0 0 (by decide), by decide, by decide, rfl⟩
    exact ⟨_, List.mem_singleton.mpr rfl, kGh_cons a1 (kGh_cons a2 a3), fun b hb => by cases hb⟩
  · cases h
end KINI
end
