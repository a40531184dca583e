/-! K: consequences at told places; what is told of the script. -/
def kLive (Γ : sG) : Bool := !(Γ.2.2.1.any (fun f => decide (sK Γ.1 f = some 0)))
theorem kLive_ok {ρ : List Int} {Γ : sG} (hM : sMo ρ Γ) : kLive Γ = true := by
  unfold kLive
  rw [Bool.not_eq_true', List.any_eq_false]
  intro f hf h
  obtain ⟨z, e1, e2⟩ := hM.2.2.1 f hf
  exact e2 (sK_ok hM.1 e1 (of_decide_eq_true h))
/-- a number, split into all that it may be -/
def kSpl (x : sL) (n : Nat) (K : kS) : Option (List kS) := match K with
  | ((pc, ls, st, G, c, s, Γ), γ) => (sIdx Γ x n).map fun l => (l.filter fun q => kLive q.2).map fun q => ((pc, ls, st, G, c, s, q.2), γ)
def kSplL (i n : Nat) (K : kS) : Option (List kS) := match sGetL K.1.2.1 i with
  | some v => if v.1 = 0 then kSpl v.2 n K else none
  | none => none
def kSplS (i n : Nat) (K : kS) : Option (List kS) := match K.1.2.2.1[i]? with
  | some v => if v.1 = 0 then kSpl v.2 n K else none
  | none => none
theorem kSpl_ok {GP : Nat → List Int → List eE → Prop} {x : sL} {n : Nat} {K : kS} {L : List kS} (h : kSpl x n K = some L) {ρ : List Int} {R : eR} {z : Int} (hx : sEv ρ x = some z) (hD : kD GP ρ K R) : ∃ K' ∈ L, ∃ ρ', ρ <+: ρ' ∧ kD GP ρ' K' R := by
  obtain ⟨⟨pc, ls, st, G, c, s, Γ⟩, γ⟩ := K
  simp only [kSpl] at h
  obtain ⟨l, hl, rfl⟩ := Option.map_eq_some_iff.mp h
  obtain ⟨q, hq, hM, -⟩ := sIdx_ok hD.1 hx hl
  exact ⟨_, List.mem_map.mpr ⟨q, List.mem_filter.mpr ⟨hq, kLive_ok hM⟩, rfl⟩, ρ, List.prefix_refl _, hM, hD.2.1, hD.2.2⟩
theorem kSplL_ok {GP : Nat → List Int → List eE → Prop} {i n : Nat} {K : kS} {L : List kS} (h : kSplL i n K = some L) {ρ : List Int} {R : eR} (hD : kD GP ρ K R) : ∃ K' ∈ L, ∃ ρ', ρ <+: ρ' ∧ kD GP ρ' K' R := by
  unfold kSplL at h
  split at h
  · rename_i v hv
    split at h
    · rename_i h0
      obtain ⟨w, -, hw⟩ := hD.2.1.2.1 i v hv
      obtain ⟨t, x⟩ := v
      simp only at h0
      subst h0
      obtain ⟨z, hz, -⟩ := sVr_int hw
      exact kSpl_ok h hz hD
    · cases h
  · cases h
theorem kSplS_ok {GP : Nat → List Int → List eE → Prop} {i n : Nat} {K : kS} {L : List kS} (h : kSplS i n K = some L) {ρ : List Int} {R : eR} (hD : kD GP ρ K R) : ∃ K' ∈ L, ∃ ρ', ρ <+: ρ' ∧ kD GP ρ' K' R := by
  unfold kSplS at h
  split at h
  · rename_i v hv
    split at h
    · rename_i h0
      obtain ⟨w, -, hw⟩ := sVs_get hD.2.1.2.2.1 hv
      obtain ⟨t, x⟩ := v
      simp only at h0
      subst h0
      obtain ⟨z, hz, -⟩ := sVr_int hw
      exact kSpl_ok h hz hD
    · cases h
  · cases h
def kUD (_ : Nat) : List Nat := []
def kKW (_ : sG) (_ : List kA) (_ : Nat) (_ _ : sL) : List kA := []
def kHKx (mi pc : Nat) (K : kS) : Option (List kS) :=
  if mi = 69 then (if pc = 17 then kSplL 2 10 K else some [K])
  else if mi = 177 then (if pc = 24 then kSplL 2 4 K else if pc = 31 then kSplS 0 8 K else some [K])
  else some [K]
def kSOx : List (Nat × List sL) := [(10, eT_LEAST.map fun v => sC v.toInt), (10, eT_MOST.map fun v => sC v.toInt), (8, eT_ABOVE.map fun v => sC v.toInt), (32, eT_OWN.map fun v => sC v.toInt), (0, [])]
