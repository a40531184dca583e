/-! All that is told. -/
noncomputable section
/-- all that is told -/
def kUP (RO : List (Nat × (Nat → Int32))) (k : Nat) (zs : List Int) (H : List eE) : Prop :=
  if k = 0 then (∃ z q, zs = [z] ∧ RO[4]? = some q ∧ ((q.1 : Nat) : Int) = z)
  else if k = 1 then (∃ e, zs = [e] ∧ kLog 15 14 16 17 e H)
  else if k = 2 then (∃ e, zs = [e] ∧ kLog 60 61 62 63 e H)
  else if k = 3 then (∃ e, zs = [e] ∧ kShf 15 14 16 17 e H)
  else if k = 4 then (∃ s k n, zs = [s, k, n] ∧ kPW s k n H)
  else if k = 5 then (∃ s e, zs = [s, e] ∧ kSG s e H)
  else if k = 6 then (∃ m L, zs = [m, L] ∧ kLN m L H)
  else if k = 7 then kPG H
  else if k = 8 then (∃ k, zs = [k] ∧ kCP k H)
  else if k = 9 then (∃ k, zs = [k] ∧ kCT k H)
  else if k = 10 then (∃ l f, zs = [l, f] ∧ kFL l f H)
  else if k = 11 then (∃ i v q, zs = [i, v] ∧ RO[4]? = some q ∧ 0 ≤ i ∧ q.2 i.toNat = Int32.ofInt v)
  else if k = 12 then (∃ h b so le m si w, zs = [h, b, so, le, m, si, w] ∧ kSHR h b so le m si w)
  else if k = 13 then (∃ e, zs = [e] ∧ kEQ e H)
  else if k = 20 then (∃ a u r, zs = [a, u, r] ∧ r = kUnd a u)
  else if 14 ≤ k ∧ k < 20 then (∃ e, zs = [e] ∧ kEL (k - 14) e H)
  else if 21 ≤ k ∧ k < 27 then (∃ m, zs = [m] ∧ kZC (k - 21) m H)
  else if k = 27 then (∃ lo m, zs = [lo, m] ∧ kZR lo m H)
  else if 28 ≤ k ∧ k < 34 then (∃ off d n, zs = [off, d, n] ∧ kAC (k - 28) off d n H)
  else if k = 34 then (∃ off m, zs = [off, m] ∧ kBF off m H)
  else if 35 ≤ k ∧ k < 41 then (∃ d m n, zs = [d, m, n] ∧ kL2 (k - 35) d m n H)
  else if 41 ≤ k ∧ k < 47 then (∃ R p n le w, zs = [R, p, n, le, w] ∧ kWT (k - 41) R p n le w H)
  else if 47 ≤ k ∧ k < 53 then (∃ R p n le w, zs = [R, p, n, le, w] ∧ kWM (k - 47) R p n le w H)
  else if 53 ≤ k then nUP k zs H
  else False
def kUD (k : Nat) : List Nat :=
  if k = 0 then [] else if k = 1 then [14, 15, 16, 17] else if k = 2 then [60, 61, 62, 63] else if k = 3 then [14, 15, 16, 17] else if k = 4 then [65, 66] else if k = 5 then [65, 66] else if k = 6 then [65, 66, 68, 69] else if k = 7 then [65, 66, 67, 68, 69]
  else if k = 8 then [65, 66] else if k = 9 then [68, 69] else if k = 10 then [65, 66, 68, 69] else if k = 13 then [37, 80] else if 14 ≤ k ∧ k < 20 then [41 + 2 * (k - 14), 84] else if 21 ≤ k ∧ k < 27 then [41 + 2 * (k - 21)] else if k = 27 then [84] else if 28 ≤ k ∧ k < 34 then [41 + 2 * (k - 28), 84] else if k = 34 then [84, 85] else if 35 ≤ k ∧ k < 41 then [41 + 2 * (k - 35), 84, 85] else if 41 ≤ k ∧ k < 47 then [41 + 2 * (k - 41)] else if 47 ≤ k ∧ k < 53 then [84] else if 53 ≤ k then nUD k else []
theorem kLog_fr {cw ci cb ca : Nat} {e : Int} {H H' : List eE} (hw : H'[cw]? = H[cw]?) (hi : H'[ci]? = H[ci]?) (hb : H'[cb]? = H[cb]?) (ha : H'[ca]? = H[ca]?) (h : kLog cw ci cb ca e H) : kLog cw ci cb ca e H' := by
  obtain ⟨fw, fi, fb, fa, q1, q2, q3, q4, q5⟩ := h
  exact ⟨fw, fi, fb, fa, hw.trans q1, hi.trans q2, hb.trans q3, ha.trans q4, q5⟩
theorem kUP_fr (RO : List (Nat × (Nat → Int32))) : ∀ k zs (H H' : List eE), (∀ j ∈ kUD k, H'[j]? = H[j]?) → kUP RO k zs H → kUP RO k zs H' := by
  intro k zs H H' hd h
  unfold kUP at h ⊢
  unfold kUD at hd
  by_cases k0 : k = 0
  · rw [if_pos k0] at h ⊢; exact h
  rw [if_neg k0] at h ⊢ hd
  by_cases k1 : k = 1
  · rw [if_pos k1] at h ⊢ hd
    obtain ⟨e, h1, h2⟩ := h
    exact ⟨e, h1, kLog_fr (hd 15 (by simp)) (hd 14 (by simp)) (hd 16 (by simp)) (hd 17 (by simp)) h2⟩
  rw [if_neg k1] at h ⊢ hd
  by_cases k2 : k = 2
  · rw [if_pos k2] at h ⊢ hd
    obtain ⟨e, h1, h2⟩ := h
    exact ⟨e, h1, kLog_fr (hd 60 (by simp)) (hd 61 (by simp)) (hd 62 (by simp)) (hd 63 (by simp)) h2⟩
  rw [if_neg k2] at h ⊢ hd
  by_cases k3 : k = 3
  · rw [if_pos k3] at h ⊢ hd
    obtain ⟨e, h1, fw, fi, fb, fa, gw, gi, gb, ga, q1, q2, q3, q4, q5⟩ := h
    exact ⟨e, h1, fw, fi, fb, fa, gw, gi, gb, ga, (hd 15 (by simp)).trans q1, (hd 14 (by simp)).trans q2, (hd 16 (by simp)).trans q3, (hd 17 (by simp)).trans q4, q5⟩
  rw [if_neg k3] at h ⊢ hd
  have aw : ∀ {A W : Nat → Int32}, H'[65]? = H[65]? → H'[66]? = H[66]? → kAW A W H → kAW A W H' := fun a b q => ⟨a.trans q.1, b.trans q.2⟩
  have te : ∀ {A W : Nat → Int32}, H'[68]? = H[68]? → H'[69]? = H[69]? → kTE A W H → kTE A W H' := fun a b q => ⟨a.trans q.1, b.trans q.2⟩
  by_cases k4 : k = 4
  · rw [if_pos k4] at h ⊢ hd
    obtain ⟨s, k, n, h1, A, W, h2, h3⟩ := h
    exact ⟨s, k, n, h1, A, W, aw (hd 65 (by simp)) (hd 66 (by simp)) h2, h3⟩
  rw [if_neg k4] at h ⊢ hd
  by_cases k5 : k = 5
  · rw [if_pos k5] at h ⊢ hd
    obtain ⟨s, e, h1, A, W, h2, h3⟩ := h
    exact ⟨s, e, h1, A, W, aw (hd 65 (by simp)) (hd 66 (by simp)) h2, h3⟩
  rw [if_neg k5] at h ⊢ hd
  by_cases k6 : k = 6
  · rw [if_pos k6] at h ⊢ hd
    obtain ⟨m, L, h1, A, W, T, E, h2, h3, h4⟩ := h
    exact ⟨m, L, h1, A, W, T, E, aw (hd 65 (by simp)) (hd 66 (by simp)) h2, te (hd 68 (by simp)) (hd 69 (by simp)) h3, h4⟩
  rw [if_neg k6] at h ⊢ hd
  by_cases k7 : k = 7
  · rw [if_pos k7] at h ⊢ hd
    obtain ⟨A, W, T, E, M, h2, h3, h4, h5⟩ := h
    exact ⟨A, W, T, E, M, aw (hd 65 (by simp)) (hd 66 (by simp)) h2, te (hd 68 (by simp)) (hd 69 (by simp)) h3, (hd 67 (by simp)).trans h4, h5⟩
  rw [if_neg k7] at h ⊢ hd
  by_cases k8 : k = 8
  · rw [if_pos k8] at h ⊢ hd
    obtain ⟨s, h1, A, W, h2, h3⟩ := h
    exact ⟨s, h1, A, W, aw (hd 65 (by simp)) (hd 66 (by simp)) h2, h3⟩
  rw [if_neg k8] at h ⊢ hd
  by_cases k9 : k = 9
  · rw [if_pos k9] at h ⊢ hd
    obtain ⟨s, h1, A, W, h2, h3⟩ := h
    exact ⟨s, h1, A, W, te (hd 68 (by simp)) (hd 69 (by simp)) h2, h3⟩
  rw [if_neg k9] at h ⊢ hd
  by_cases k10 : k = 10
  · rw [if_pos k10] at h ⊢ hd
    obtain ⟨m, L, h1, A, W, T, E, h2, h3, h4⟩ := h
    exact ⟨m, L, h1, A, W, T, E, aw (hd 65 (by simp)) (hd 66 (by simp)) h2, te (hd 68 (by simp)) (hd 69 (by simp)) h3, h4⟩
  rw [if_neg k10] at h ⊢ hd
  by_cases k11 : k = 11
  · rw [if_pos k11] at h ⊢
    exact h
  rw [if_neg k11] at h ⊢
  by_cases k12 : k = 12
  · rw [if_pos k12] at h ⊢
    exact h
  rw [if_neg k12] at h ⊢
  by_cases k13 : k = 13
  · rw [if_pos k13] at h ⊢ hd
    obtain ⟨e, h1, f, g, q1, q2, q3⟩ := h
    exact ⟨e, h1, f, g, (hd 37 (by simp)).trans q1, (hd 80 (by simp)).trans q2, q3⟩
  rw [if_neg k13] at h ⊢ hd
  by_cases k20 : k = 20
  · rw [if_pos k20] at h ⊢
    exact h
  rw [if_neg k20] at h ⊢
  have lg : ∀ {j n : Nat} {f : Nat → Int64}, H'[j]? = H[j]? → kLg j n f H → kLg j n f H' := fun a q => a.trans q
  by_cases k14 : 14 ≤ k ∧ k < 20
  · rw [if_pos k14] at h ⊢ hd
    obtain ⟨e, h1, f, g, q1, q2, q3⟩ := h
    exact ⟨e, h1, f, g, lg (hd _ (by simp)) q1, lg (hd 84 (by simp)) q2, q3⟩
  rw [if_neg k14] at h ⊢ hd
  by_cases k21 : 21 ≤ k ∧ k < 27
  · rw [if_pos k21] at h ⊢ hd
    obtain ⟨m, h1, f, q1, q2⟩ := h
    exact ⟨m, h1, f, lg (hd _ (by simp)) q1, q2⟩
  rw [if_neg k21] at h ⊢ hd
  by_cases k27 : k = 27
  · rw [if_pos k27] at h ⊢ hd
    obtain ⟨lo, m, h1, g, q1, q2⟩ := h
    exact ⟨lo, m, h1, g, lg (hd 84 (by simp)) q1, q2⟩
  rw [if_neg k27] at h ⊢ hd
  by_cases k28 : 28 ≤ k ∧ k < 34
  · rw [if_pos k28] at h ⊢ hd
    obtain ⟨off, d, n, h1, f, g, q1, q2, q3⟩ := h
    exact ⟨off, d, n, h1, f, g, lg (hd _ (by simp)) q1, lg (hd 84 (by simp)) q2, q3⟩
  rw [if_neg k28] at h ⊢ hd
  by_cases k34 : k = 34
  · rw [if_pos k34] at h ⊢ hd
    obtain ⟨off, m, h1, g, b, q1, q2, q3⟩ := h
    exact ⟨off, m, h1, g, b, lg (hd 84 (by simp)) q1, lg (hd 85 (by simp)) q2, q3⟩
  rw [if_neg k34] at h ⊢ hd
  by_cases k35 : 35 ≤ k ∧ k < 41
  · rw [if_pos k35] at h ⊢ hd
    obtain ⟨d, m, n, h1, f, g, b, q1, q2, q3, q4⟩ := h
    exact ⟨d, m, n, h1, f, g, b, lg (hd _ (by simp)) q1, lg (hd 84 (by simp)) q2, lg (hd 85 (by simp)) q3, q4⟩
  rw [if_neg k35] at h ⊢ hd
  by_cases k41 : 41 ≤ k ∧ k < 47
  · rw [if_pos k41] at h ⊢ hd
    obtain ⟨R, p, n, le, w, h1, f, q1, q2⟩ := h
    exact ⟨R, p, n, le, w, h1, f, lg (hd _ (by simp)) q1, q2⟩
  rw [if_neg k41] at h ⊢ hd
  by_cases k47 : 47 ≤ k ∧ k < 53
  · rw [if_pos k47] at h ⊢ hd
    obtain ⟨R, p, n, le, w, h1, f, q1, q2⟩ := h
    exact ⟨R, p, n, le, w, h1, f, lg (hd 84 (by simp)) q1, q2⟩
  rw [if_neg k47] at h ⊢ hd
  by_cases k53 : 53 ≤ k
  · rw [if_pos k53] at h ⊢ hd
    exact nUP_fr k zs H H' hd h
  rw [if_neg k53] at h
  exact h.elim
theorem kUPn {RO : List (Nat × (Nat → Int32))} {k : Nat} (hk : 53 ≤ k) {zs : List Int} {H : List eE} : kUP RO k zs H ↔ nUP k zs H := by
  unfold kUP
  rw [if_neg (by omega), if_neg (by omega), if_neg (by omega), if_neg (by omega), if_neg (by omega), if_neg (by omega), if_neg (by omega), if_neg (by omega), if_neg (by omega), if_neg (by omega), if_neg (by omega), if_neg (by omega), if_neg (by omega), if_neg (by omega), if_neg (by omega), if_neg (by omega), if_neg (by omega), if_neg (by omega), if_neg (by omega), if_neg (by omega), if_neg (by omega), if_neg (by omega), if_neg (by omega), if_pos hk]
theorem kUPs {RO : List (Nat × (Nat → Int32))} {k : Nat} {zs : List Int} {H : List eE} (hk : 53 ≤ k) (h : nUP k zs H) : kUP RO k zs H := (kUPn hk).mpr h
theorem kUP_len (RO : List (Nat × (Nat → Int32))) : kLenOk (kUP RO) RO 4 := by
  intro z H h
  obtain ⟨y, q, h1, h2, h3⟩ : ∃ (y : Int) (q : Nat × (Nat → Int32)), [z] = [y] ∧ RO[4]? = some q ∧ ((q.1 : Nat) : Int) = y := h
  cases h1
  exact ⟨q, h2, h3⟩
theorem kUP_se (RO : List (Nat × (Nat → Int32))) : kSeOk (kUP RO) RO 4 := by
  intro i v H
  constructor
  · intro h
    obtain ⟨a, b, q, h1, h2, h3, h4⟩ : ∃ (a b : Int) (q : Nat × (Nat → Int32)), [i, v] = [a, b] ∧ RO[4]? = some q ∧ 0 ≤ a ∧ q.2 a.toNat = Int32.ofInt b := h
    cases h1
    exact ⟨q, h2, h3, h4⟩
  · rintro ⟨q, h2, h3, h4⟩
    exact ⟨i, v, q, rfl, h2, h3, h4⟩
theorem kUPp {RO : List (Nat × (Nat → Int32))} {k : Nat} (hk : 105 ≤ k ∧ k < 110) {zs : List Int} {H : List eE} : kUP RO k zs H ↔ pUP k zs := (kUPn (by omega)).trans (nUP_P hk)
end
