/-! A contract's new unknowns, laid behind the caller's. -/
noncomputable section
theorem sVal_mono {ρ ρ' : List Int} (hp : ρ <+: ρ') : ∀ {σ : List sL} {vs : List Int}, sVal ρ σ = some vs → sVal ρ' σ = some vs
  | [], vs, h => h
  | a :: r, vs, h => by
    simp only [sVal] at h ⊢
    split at h
    · rename_i z zs hz hzs
      rw [sEv_mono hp hz, sVal_mono hp hzs]
      exact h
    · cases h
theorem sVal_app {ρ : List Int} {τ : List sL} {ws : List Int} (hw : sVal ρ τ = some ws) : ∀ {σ : List sL} {vs : List Int}, sVal ρ σ = some vs → sVal ρ (σ ++ τ) = some (vs ++ ws)
  | [], vs, h => by cases h; exact hw
  | a :: r, vs, h => by
    simp only [sVal] at h
    split at h
    · rename_i z zs hz hzs
      cases h
      simp only [List.cons_append, sVal, hz, sVal_app hw hzs]
    · cases h
def sNewX : Nat → Nat → List sL
  | _, 0 => []
  | k, n + 1 => sX k :: sNewX (k + 1) n
theorem sVal_new {ρ : List Int} : ∀ {new : List Int} {k : Nat}, (∀ (i : Nat) (z : Int), new[i]? = some z → ρ[k + i]? = some z) → sVal ρ (sNewX k new.length) = some new
  | [], _, _ => rfl
  | z :: r, k, h => by
    have h0 : sEv ρ (sX k) = some z := sEv_X (by simpa using h 0 z rfl)
    have hr : sVal ρ (sNewX (k + 1) r.length) = some r := sVal_new fun i y hy => by
      have := h (i + 1) y (by simpa using hy)
      rw [show k + 1 + i = k + (i + 1) by omega]
      exact this
    simp only [List.length_cons, sNewX, sVal, h0, hr]
theorem sVal_lay {ρ new : List Int} {σ : List sL} {vs : List Int} (h : sVal ρ σ = some vs) : sVal (ρ ++ new) (σ ++ sNewX ρ.length new.length) = some (vs ++ new) :=
  sVal_app (sVal_new fun i z hz => by rw [List.getElem?_append_right (by omega), Nat.add_sub_cancel_left]; exact hz) (sVal_mono ⟨new, rfl⟩ h)
end
