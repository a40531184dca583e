/-! A template's heap, in the caller's forms. -/
noncomputable section
theorem sPO_I {ρ vs : List Int} {σ : List sL} (hv : sVal ρ σ = some vs) {b : Int × Int} {ov ov' : List (Nat × sL)} {n : Nat} {f : Nat → Int32} (h : sPO σ ov = some ov') (q : sArI vs b ov n f) : sArI ρ b ov' n f := by
  intro i hi
  have qi := q i hi
  rcases sPO_lk (i := i) h with ⟨e1, e2⟩ | ⟨a, g, e1, e2, e3⟩
  · rw [e1] at qi
    rw [e2]
    exact qi
  · rw [e1] at qi
    rw [e3]
    obtain ⟨z, q1, q2⟩ := qi
    exact ⟨z, sSubst_ev hv e2 q1, q2⟩
theorem sPO_L {ρ vs : List Int} {σ : List sL} (hv : sVal ρ σ = some vs) {b : Int × Int} {ov ov' : List (Nat × sL)} {n : Nat} {f : Nat → Int64} (h : sPO σ ov = some ov') (q : sArL vs b ov n f) : sArL ρ b ov' n f := by
  intro i hi
  have qi := q i hi
  rcases sPO_lk (i := i) h with ⟨e1, e2⟩ | ⟨a, g, e1, e2, e3⟩
  · rw [e1] at qi
    rw [e2]
    exact qi
  · rw [e1] at qi
    rw [e3]
    obtain ⟨z, q1, q2⟩ := qi
    exact ⟨z, sSubst_ev hv e2 q1, q2⟩
def sPE (σ : List sL) (t : sE) : Option sE := match t with
  | .inl (ty, n, b, ov) => if ty.isReference = true then some (.inl (ty, n, b, ov)) else (sPO σ ov).map fun ov' => .inl (ty, n, b, ov')
  | .inr (ci, fs) => (sPVs σ fs).map fun gs => .inr (ci, gs)
theorem sPE_ok {ρ vs : List Int} {σ : List sL} (hv : sVal ρ σ = some vs) {t a : sE} {y : eE} (h : sPE σ t = some a) (q : sEr vs t y) : sEr ρ a y := by
  rcases t with ⟨ty, n, b, ov⟩ | ⟨ci, fs⟩
  · rcases y with ⟨ty2, n2, arr⟩ | y
    · obtain ⟨rfl, rfl, harr⟩ := q
      simp only [sPE] at h
      split at h
      · rename_i href
        cases h
        refine ⟨rfl, rfl, ?_⟩
        rcases arr with f | f | f
        · rcases harr.1 with rfl | rfl | rfl <;> cases href
        · have := harr.1
          subst this
          cases href
        · exact harr
      · rename_i href
        obtain ⟨ov', ho, rfl⟩ := Option.map_eq_some_iff.mp h
        refine ⟨rfl, rfl, ?_⟩
        rcases arr with f | f | f
        · exact ⟨harr.1, sPO_I hv ho harr.2⟩
        · exact ⟨harr.1, sPO_L hv ho harr.2⟩
        · exact absurd harr.1 href
    · exact q.elim
  · rcases y with y | ⟨c2, hs⟩
    · exact q.elim
    · obtain ⟨rfl, q⟩ := q
      simp only [sPE] at h
      obtain ⟨gs, hg, rfl⟩ := Option.map_eq_some_iff.mp h
      exact ⟨rfl, sPVs_ok hv hg q⟩
end
