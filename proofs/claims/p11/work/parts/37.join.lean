/-! The caller's world behind a contract. -/
noncomputable section
def sPF (σ : List sL) : List sL → Option (List sL)
  | [] => some []
  | f :: r => match sSubst σ f, sPF σ r with
    | some g, some r' => some (g :: r')
    | _, _ => none
theorem sPF_in {σ : List sL} : ∀ {fs gs : List sL}, sPF σ fs = some gs → ∀ g ∈ gs, ∃ f ∈ fs, sSubst σ f = some g
  | [], gs, h, g, hg => by cases h; cases hg
  | f :: r, gs, h, g, hg => by
    simp only [sPF] at h
    split at h
    · rename_i g0 r' hg0 hr
      cases h
      rcases List.mem_cons.mp hg with rfl | hg
      · exact ⟨f, List.mem_cons_self, hg0⟩
      · obtain ⟨f', h1, h2⟩ := sPF_in hr g hg
        exact ⟨f', List.mem_cons_of_mem _ h1, h2⟩
    · cases h
def sJoin (Γ : sG) (σ : List sL) (m : Nat) (U : sG) : Option sG := (sPF σ U.2.1).map fun fs => (Γ.1 ++ U.1.drop m, fs ++ Γ.2.1, Γ.2.2)
theorem sJoin_ok {ρ vs new : List Int} {Γ U Γ' : sG} {σ : List sL} (hM : sMo ρ Γ) (hv : sVal (ρ ++ new) σ = some (vs ++ new)) (hU : sMo (vs ++ new) U) (h : sJoin Γ σ vs.length U = some Γ') : sMo (ρ ++ new) Γ' := by
  have hpre : ρ <+: ρ ++ new := ⟨_, rfl⟩
  obtain ⟨fs, hf, rfl⟩ := Option.map_eq_some_iff.mp h
  have hl : Γ.1.length = ρ.length := hM.1.1
  have hlU : U.1.length = vs.length + new.length := by rw [hU.1.1, List.length_append]
  refine ⟨⟨by simp [hl, hlU], fun i b z hi hz => ?_⟩, fun f hff => ?_, fun f hff => ?_, fun q hq => ?_⟩
  · simp only at hi
    by_cases hlt : i < ρ.length
    · rw [List.getElem?_append_left (by rw [hl]; exact hlt)] at hi
      rw [List.getElem?_append_left hlt] at hz
      exact hM.1.2 i b z hi hz
    · rw [List.getElem?_append_right (by omega), hl, List.getElem?_drop] at hi
      rw [List.getElem?_append_right (by omega)] at hz
      exact hU.1.2 (vs.length + (i - ρ.length)) b z hi (by rw [List.getElem?_append_right (by omega), Nat.add_sub_cancel_left]; exact hz)
  · rcases List.mem_append.mp hff with hff | hff
    · obtain ⟨f0, h1, h2⟩ := sPF_in hf f hff
      obtain ⟨z, e1, e2⟩ := hU.2.1 f0 h1
      exact ⟨z, sSubst_ev hv h2 e1, e2⟩
    · obtain ⟨z, e1, e2⟩ := hM.2.1 f hff
      exact ⟨z, sEv_mono hpre e1, e2⟩
  · obtain ⟨z, e1, e2⟩ := hM.2.2.1 f hff
    exact ⟨z, sEv_mono hpre e1, e2⟩
  · obtain ⟨ya, yb, e1, e2, e3⟩ := hM.2.2.2 q hq
    exact ⟨ya, yb, sEv_mono hpre e1, sEv_mono hpre e2, by rw [List.getElem?_append_left (List.getElem?_eq_some_iff.mp e3).1]; exact e3⟩
end
