/-! A template's things, in the caller's forms. -/
noncomputable section
def sPV (σ : List sL) (t : sV) : Option sV := if t.1 ≤ 1 then (sSubst σ t.2).map fun f => (t.1, f) else some t
theorem sPV_ok {ρ vs : List Int} {σ : List sL} (hv : sVal ρ σ = some vs) {t a : sV} {w : Value} (h : sPV σ t = some a) (q : sVr vs t w) : sVr ρ a w := by
  unfold sPV at h
  split at h
  · rename_i hle
    obtain ⟨f, hf, rfl⟩ := Option.map_eq_some_iff.mp h
    obtain ⟨y, e1, e2⟩ := sSubst_has hv hf
    unfold sVr at q ⊢
    simp only
    by_cases h0 : t.1 = 0
    · rw [if_pos h0] at q ⊢
      obtain ⟨z, e3, e4⟩ := q
      cases e1.symm.trans e3
      exact ⟨_, e2, e4⟩
    · have h1 : t.1 = 1 := by omega
      rw [if_neg h0, if_pos h1] at q ⊢
      obtain ⟨z, e3, e4⟩ := q
      cases e1.symm.trans e3
      exact ⟨_, e2, e4⟩
  · rename_i hgt
    cases h
    unfold sVr at q ⊢
    rw [if_neg (by omega), if_neg (by omega)] at q ⊢
    exact q
def sPVs (σ : List sL) : List sV → Option (List sV)
  | [] => some []
  | t :: ts => match sPV σ t, sPVs σ ts with
    | some a, some as => some (a :: as)
    | _, _ => none
theorem sPVs_ok {ρ vs : List Int} {σ : List sL} (hv : sVal ρ σ = some vs) : ∀ {ts as : List sV} {ws : List Value}, sPVs σ ts = some as → sVs vs ts ws → sVs ρ as ws
  | [], as, [], h, _ => by cases h; exact trivial
  | [], _, _ :: _, _, q => q.elim
  | t :: ts, _, [], _, q => q.elim
  | t :: ts, as, w :: ws, h, q => by
    simp only [sPVs] at h
    split at h
    · rename_i a as' ha has
      cases h
      exact ⟨sPV_ok hv ha q.1, sPVs_ok hv has q.2⟩
    · cases h
def sPO (σ : List sL) : List (Nat × sL) → Option (List (Nat × sL))
  | [] => some []
  | x :: r => match sSubst σ x.2, sPO σ r with
    | some f, some r' => some ((x.1, f) :: r')
    | _, _ => none
theorem sPO_lk {σ : List sL} {i : Nat} : ∀ {ov ov' : List (Nat × sL)}, sPO σ ov = some ov' → (sLk ov i = none ∧ sLk ov' i = none) ∨ ∃ a f, sLk ov i = some a ∧ sSubst σ a = some f ∧ sLk ov' i = some f
  | [], ov', h => by cases h; exact Or.inl ⟨rfl, rfl⟩
  | x :: r, ov', h => by
    simp only [sPO] at h
    split at h
    · rename_i f r' hf hr
      cases h
      by_cases hx : (x.1 == i) = true
      · exact Or.inr ⟨x.2, f, by simp [sLk_def, List.find?_cons, hx], hf, by simp [sLk_def, List.find?_cons, hx]⟩
      · have ih := sPO_lk (i := i) hr
        have e1 : sLk (x :: r) i = sLk r i := by simp [sLk_def, List.find?_cons, hx]
        have e2 : sLk ((x.1, f) :: r') i = sLk r' i := by simp [sLk_def, List.find?_cons, hx]
        rw [e1, e2]
        exact ih
    · cases h
end
