/-! A number on the stack that can be no other. -/
noncomputable section
def nTopc (K : kS) : Option (List kS) := match K with
  | ((pc, ls, (0, x) :: st, G, c, s, Γ), γ) => (match sK Γ.1 x with
    | some k => some [((pc, ls, (0, sC k) :: st, G, c, s, Γ), γ)]
    | none => some [K])
  | _ => some [K]
theorem nTopc_ok {GP : Nat → List Int → List eE → Prop} {K : kS} {L : List kS} (h : nTopc K = some L) {ρ : List Int} {R : eR} (hD : kD GP ρ K R) : ∃ K' ∈ L, ∃ ρ', ρ <+: ρ' ∧ kD GP ρ' K' R := by
  have same : ∀ K0 : kS, K0 = K → some [K0] = some L → ∃ K' ∈ L, ∃ ρ', ρ <+: ρ' ∧ kD GP ρ' K' R := fun K0 e g => by
    cases g
    subst e
    exact ⟨_, List.mem_singleton.mpr rfl, ρ, List.prefix_refl _, hD⟩
  unfold nTopc at h
  split at h
  · rename_i pc ls x st G c s Γ γ
    split at h
    · rename_i k hk
      cases h
      refine ⟨_, List.mem_singleton.mpr rfl, ρ, List.prefix_refl _, hD.1, ⟨hD.2.1.1, hD.2.1.2.1, ?_, hD.2.1.2.2.2⟩, hD.2.2⟩
      obtain ⟨zw, r1, hr1, ew, hV⟩ := sVs_int hD.2.1.2.2.1
      have hz := sK_ok hD.1.1 ew hk
      subst hz
      show sVs ρ ((0, sC zw) :: st) R.2.2.1
      rw [hr1]
      exact ⟨⟨_, sEv_C _, rfl⟩, hV⟩
    · exact same _ rfl h
  · exact same _ rfl h
end
