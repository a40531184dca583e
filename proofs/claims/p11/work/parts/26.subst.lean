/-! Templates: forms over a template's unknowns, laid over the forms of a caller. -/
noncomputable section
def sSubT (σ : List sL) : List (Nat × Int) → Option sL
  | [] => some (0, [])
  | q :: r => match sAt σ q.1, sSubT σ r with
    | some a, some b => some (sAdd (sMul q.2 a) b)
    | _, _ => none
def sSubst (σ : List sL) (a : sL) : Option sL := (sSubT σ a.2).map fun b => sAdd (sC a.1) b
/-- what the template's unknowns are worth -/
def sVal (ρ : List Int) : List sL → Option (List Int)
  | [] => some []
  | a :: r => match sEv ρ a, sVal ρ r with
    | some z, some zs => some (z :: zs)
    | _, _ => none
theorem sVal_get {ρ : List Int} : ∀ {σ : List sL} {vs : List Int}, sVal ρ σ = some vs → ∀ {i : Nat} {a : sL}, σ[i]? = some a → ∃ z, vs[i]? = some z ∧ sEv ρ a = some z
  | [], _, _, i, a, h => by cases h
  | b :: r, vs, hv, i, a, h => by
    simp only [sVal] at hv
    split at hv
    · rename_i z zs hz hzs
      cases hv
      cases i with
      | zero => cases h; exact ⟨z, rfl, hz⟩
      | succ i => exact sVal_get hzs (i := i) h
    · cases hv
theorem sVal_len {ρ : List Int} : ∀ {σ : List sL} {vs : List Int}, sVal ρ σ = some vs → vs.length = σ.length
  | [], vs, h => by cases h; rfl
  | b :: r, vs, h => by
    simp only [sVal] at h
    split at h
    · rename_i z zs hz hzs
      cases h
      exact congrArg Nat.succ (sVal_len hzs)
    · cases h
theorem sSubT_ev {ρ : List Int} {σ : List sL} {vs : List Int} (hv : sVal ρ σ = some vs) : ∀ {l : List (Nat × Int)} {b : sL} {y : Int}, sSubT σ l = some b → sEvT vs l = some y → sEv ρ b = some y
  | [], b, y, h, hy => by
    cases h
    cases hy
    rfl
  | q :: r, b, y, h, hy => by
    simp only [sSubT, sAt_eq] at h
    split at h
    · rename_i a b' ha hb
      cases h
      simp only [sEvT] at hy
      split at hy
      · rename_i z w hz hw
        cases hy
        obtain ⟨z', h1, h2⟩ := sVal_get hv ha
        cases hz.symm.trans h1
        exact sEv_add (sEv_mul q.2 h2) (sSubT_ev hv hb hw)
      · cases hy
    · cases h
theorem sSubst_ev {ρ : List Int} {σ : List sL} {vs : List Int} (hv : sVal ρ σ = some vs) {a b : sL} {y : Int} (h : sSubst σ a = some b) (hy : sEv vs a = some y) : sEv ρ b = some y := by
  unfold sSubst at h
  obtain ⟨b', hb, rfl⟩ := Option.map_eq_some_iff.mp h
  unfold sEv at hy
  obtain ⟨w, hw, rfl⟩ := Option.map_eq_some_iff.mp hy
  exact sEv_add (sEv_C a.1) (sSubT_ev hv hb hw)
/-- a form of the template is worth something as soon as its image is there -/
theorem sSubT_has {ρ : List Int} {σ : List sL} {vs : List Int} (hv : sVal ρ σ = some vs) : ∀ {l : List (Nat × Int)} {b : sL}, sSubT σ l = some b → ∃ y, sEvT vs l = some y
  | [], b, _ => ⟨0, rfl⟩
  | q :: r, b, h => by
    simp only [sSubT, sAt_eq] at h
    split at h
    · rename_i a b' ha hb
      obtain ⟨z, h1, -⟩ := sVal_get hv ha
      obtain ⟨w, hw⟩ := sSubT_has hv hb
      exact ⟨q.2 * z + w, by simp only [sEvT, h1, hw]⟩
    · cases h
theorem sSubst_has {ρ : List Int} {σ : List sL} {vs : List Int} (hv : sVal ρ σ = some vs) {a b : sL} (h : sSubst σ a = some b) : ∃ y, sEv vs a = some y ∧ sEv ρ b = some y := by
  have h0 := h
  unfold sSubst at h
  obtain ⟨b', hb, rfl⟩ := Option.map_eq_some_iff.mp h
  obtain ⟨w, hw⟩ := sSubT_has hv hb
  have hy : sEv vs a = some (a.1 + w) := by unfold sEv; rw [hw]; rfl
  exact ⟨_, hy, sSubst_ev hv h0 hy⟩
end
