/-! What is told of the rows, behind a copy. -/
noncomputable section
def kKC (γ : List kA) (js jd : Nat) (sp dp n : Int) : List kA := if sp = 1 ∧ dp = 0 ∧ n = 39 ∧ js = jd then
  (if jd = 14 ∧ kHas γ 1 [sC (-1)] = true then [(3, [sC 1])] else if jd = 15 ∧ kHas γ 3 [sC 1] = true then [(3, [sC 2])] else if jd = 16 ∧ kHas γ 3 [sC 2] = true then [(3, [sC 3])] else if jd = 17 ∧ kHas γ 3 [sC 3] = true then [(1, [sC (-1)])] else []) else []
theorem kI40_set {c j n1 : Nat} {f g g' : Nat → Int32} {H : List eE} (hf : kI40 H c f) (hj : H[j]? = some (.inl (.int, n1, .inl g))) : kI40 (H.set j (.inl (.int, n1, .inl g'))) c (if c = j then g' else f) := by
  unfold kI40 at *
  split
  · rename_i h
    subst h
    rw [hj] at hf
    cases hf
    rw [List.getElem?_set_self (List.getElem?_eq_some_iff.mp hj).1]
  · rename_i h
    rw [List.getElem?_set_ne (fun e => h e.symm)]
    exact hf
theorem kTp_shift {fw fi fb fa : Nat → Int32} (h : ∀ k : Nat, k < 40 → kTp fw fi fb fa k) : ∀ k : Nat, k < 40 → kTp (va_cpy fw fw 1 0 39) (va_cpy fi fi 1 0 39) (va_cpy fb fb 1 0 39) (va_cpy fa fa 1 0 39) k := by
  intro k hk
  have e : ∀ f : Nat → Int32, va_cpy f f 1 0 39 k = f (if k < 39 then k + 1 else k) := by
    intro f
    unfold va_cpy
    by_cases h39 : k < 39
    · simp only [if_pos h39]
      rw [if_pos (by omega)]
      congr 1
      omega
    · simp only [if_neg h39]
      rw [if_neg (by omega)]
  unfold kTp
  rw [e, e, e, e]
  split
  · exact h (k + 1) (by omega)
  · exact h k hk
theorem kKC_ok (RO : List (Nat × (Nat → Int32))) : kCOk (kUP RO) kKC := by
  intro γ js jd sp dp n ρ H n0 n1 f g hg h1 h2 h3 hs hd
  have none_ : ∀ H', kGh (kGP (kUP RO)) ρ [] H' := fun H' a ha => by cases ha
  have one_ : ∀ {H' : List eE} {k : Nat} {z : Int}, k < 1000 → kUP RO k [z] H' → kGh (kGP (kUP RO)) ρ [(k, [sC z])] H' := fun hk h b hb => by
    rcases List.mem_singleton.mp hb with rfl
    refine ⟨_, by simp only [sVal, sEv_C]; rfl, ?_⟩
    unfold kGP
    rw [if_neg (by simp only; omega)]
    exact h
  have has_ : ∀ {k : Nat} {z : Int}, k < 1000 → kHas γ k [sC z] = true → kUP RO k [z] H := fun hk h => by
    obtain ⟨zs, e1, e2⟩ := kHas_ok hg h hk
    obtain ⟨y, rfl, e3⟩ := sVal_1 e1
    rw [sEv_C] at e3
    cases e3
    exact e2
  unfold kKC
  split
  · rename_i hc
    obtain ⟨rfl, rfl, rfl, rfl⟩ := hc
    rw [hs] at hd
    cases hd
    have ecp : va_cpy f f (1 : Int).toNat (0 : Int).toNat (39 : Int).toNat = va_cpy f f 1 0 39 := rfl
    rw [ecp]
    split
    · rename_i hc
      obtain ⟨rfl, hh⟩ := hc
      obtain ⟨e, he, fw, fi, fb, fa, q1, q2, q3, q4, q5⟩ : ∃ e, [(-1 : Int)] = [e] ∧ kLog 15 14 16 17 e H := has_ (by decide) hh
      cases he
      refine one_ (by decide) ?_
      have hfi : f = fi := by unfold kI40 at q2; rw [hs] at q2; cases q2; rfl
      subst hfi
      exact ⟨1, rfl, fw, f, fb, fa, _, _, _, _, kI40_set q1 hs, kI40_set q2 hs, kI40_set q3 hs, kI40_set q4 hs, fun k hk => q5 k hk (by omega), rfl, rfl, rfl, rfl⟩
    split
    · rename_i hc
      obtain ⟨rfl, hh⟩ := hc
      obtain ⟨e, he, fw, fi, fb, fa, gw, gi, gb, ga, q1, q2, q3, q4, q5, r1, r2, r3, r4⟩ : ∃ e, [(1 : Int)] = [e] ∧ kShf 15 14 16 17 e H := has_ (by decide) hh
      cases he
      have hf : f = gw := by unfold kI40 at q1; rw [hs] at q1; cases q1; rfl
      subst hf
      have r2 : f = fw := r2
      subst r2
      refine one_ (by decide) ?_
      exact ⟨2, rfl, f, fi, fb, fa, _, _, _, _, kI40_set q1 hs, kI40_set q2 hs, kI40_set q3 hs, kI40_set q4 hs, q5, r1, rfl, r3, r4⟩
    split
    · rename_i hc
      obtain ⟨rfl, hh⟩ := hc
      obtain ⟨e, he, fw, fi, fb, fa, gw, gi, gb, ga, q1, q2, q3, q4, q5, r1, r2, r3, r4⟩ : ∃ e, [(2 : Int)] = [e] ∧ kShf 15 14 16 17 e H := has_ (by decide) hh
      cases he
      have hf : f = gb := by unfold kI40 at q3; rw [hs] at q3; cases q3; rfl
      subst hf
      have r3 : f = fb := r3
      subst r3
      refine one_ (by decide) ?_
      exact ⟨3, rfl, fw, fi, f, fa, _, _, _, _, kI40_set q1 hs, kI40_set q2 hs, kI40_set q3 hs, kI40_set q4 hs, q5, r1, r2, rfl, r4⟩
    split
    · rename_i hc
      obtain ⟨rfl, hh⟩ := hc
      obtain ⟨e, he, fw, fi, fb, fa, gw, gi, gb, ga, q1, q2, q3, q4, q5, r1, r2, r3, r4⟩ : ∃ e, [(3 : Int)] = [e] ∧ kShf 15 14 16 17 e H := has_ (by decide) hh
      cases he
      have hf : f = ga := by unfold kI40 at q4; rw [hs] at q4; cases q4; rfl
      subst hf
      subst r4
      have r1 : gi = va_cpy fi fi 1 0 39 := r1
      have r2 : gw = va_cpy fw fw 1 0 39 := r2
      have r3 : gb = va_cpy fb fb 1 0 39 := r3
      subst r1; subst r2; subst r3
      refine one_ (by decide) ?_
      exact ⟨-1, rfl, _, _, _, _, kI40_set q1 hs, kI40_set q2 hs, kI40_set q3 hs, kI40_set q4 hs, fun k hk _ => kTp_shift q5 k hk⟩
    · exact none_ _
  · exact none_ _
end
