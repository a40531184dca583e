/-! K: atoms; reads and writes of arrays. -/
noncomputable section
/-- an element of an array -/
def kEl (j : Nat) (i v : Int) (H : List eE) : Prop := ∃ ty n arr, H[j]? = some (.inl (ty, n, arr)) ∧ 0 ≤ i ∧ (match arr with
  | .inl f => f i.toNat = Int32.ofInt v
  | .inr (.inl f) => f i.toNat = Int64.ofInt v
  | .inr (.inr _) => False)
section KATM
variable (UP : Nat → List Int → List eE → Prop) (ud : Nat → List Nat)
def kGP (k : Nat) (zs : List Int) (H : List eE) : Prop := if 1000 ≤ k then (match zs with
  | [i, v] => kEl (k - 1000) i v H
  | _ => False) else UP k zs H
def kDp (k : Nat) : List Nat := if 1000 ≤ k then [k - 1000] else ud k
variable {UP ud}
theorem kGP_fr (hU : ∀ k zs (H H' : List eE), (∀ j ∈ ud k, H'[j]? = H[j]?) → UP k zs H → UP k zs H') : ∀ k zs (H H' : List eE), (∀ j ∈ kDp ud k, H'[j]? = H[j]?) → kGP UP k zs H → kGP UP k zs H' := by
  intro k zs H H' hd h
  unfold kGP at h ⊢
  unfold kDp at hd
  split at h
  · rename_i hk
    rw [if_pos hk] at hd
    rw [if_pos hk]
    split at h
    · obtain ⟨ty, n, arr, h1, h2⟩ := h
      exact ⟨ty, n, arr, by rw [hd _ (List.mem_singleton.mpr rfl)]; exact h1, h2⟩
    · exact h.elim
  · rename_i hk
    rw [if_neg hk] at hd
    rw [if_neg hk]
    exact hU k zs H H' hd h
/-- the atoms that a write to a cell leaves -/
def kRest (ud : Nat → List Nat) (j : Nat) (γ : List kA) : List kA := γ.filter (fun q => !(kDp ud q.1).contains j)
theorem kRest_ok (hU : ∀ k zs (H H' : List eE), (∀ j ∈ ud k, H'[j]? = H[j]?) → UP k zs H → UP k zs H') {ρ : List Int} {γ : List kA} {H : List eE} {j : Nat} {x : eE} (h : kGh (kGP UP) ρ γ H) : kGh (kGP UP) ρ (kRest ud j γ) (H.set j x) := by
  intro q hq
  obtain ⟨hq, hd⟩ := List.mem_filter.mp hq
  obtain ⟨zs, h1, h2⟩ := h q hq
  refine ⟨zs, h1, kGP_fr hU _ _ H _ (fun k hk => ?_) h2⟩
  by_cases hkj : j = k
  · subst hkj
    exact absurd hk (by simpa using hd)
  · rw [List.getElem?_set_ne hkj]
theorem kGP_el {j : Nat} {i v : Int} {H : List eE} : kGP UP (1000 + j) [i, v] H ↔ kEl j i v H := by
  unfold kGP
  rw [if_pos (by omega), Nat.add_sub_cancel_left]
theorem sInR_at {ρ : List Int} {Γ : sG} (hM : sMo ρ Γ) {a : sL} {n : Nat} {z : Int} (ha : sEv ρ a = some z) (h : sInR Γ a n = true) : 0 ≤ z ∧ z < n ∧ (Int32.ofInt z).toNatClampNeg = z.toNat := by
  unfold sInR at h
  simp only [Bool.and_eq_true, decide_eq_true_eq] at h
  obtain ⟨h1, h2, h3⟩ := h
  have h1 := sNN_ok hM ha h1
  have h2 := sNN_ok hM (sEv_sub (sEv_C ((n : Int) - 1)) ha) h2
  obtain ⟨k, rfl⟩ : ∃ k : Nat, z = (k : Int) := ⟨z.toNat, by omega⟩
  have e1 : (Int32.ofInt (k : Int)) = nI k := by simp [nI, Int32.ofNat, Int32.ofInt]
  rw [e1, nI_clamp (by omega)]
  exact ⟨by omega, by omega, by omega⟩
theorem e19_val {RO : List (Nat × (Nat → Int32))} {nx b : Nat} {pc : Nat} {ls : List (Nat × Value)} {i : Int32} {q : Nat} {st : List Value} {G : List eE} {c s : Nat} {R' : eR} (h : e19 RO nx b (pc, ls, .int i :: .ref q :: st, G, c, s) = some R') (hq : ¬ q < RO.length) :
    ∃ ty n arr, G[q - RO.length]? = some (.inl (ty, n, arr)) ∧ (match arr with
      | .inl f => R' = (nx, ls, .int (f i.toNatClampNeg) :: st, G, c, s)
      | .inr (.inl f) => R' = (nx, ls, .long (f i.toNatClampNeg) :: st, G, c, s)
      | .inr (.inr f) => R' = (nx, ls, eRf (f i.toNatClampNeg) :: st, G, c, s)) := by
  simp only [e19] at h
  rw [if_neg hq] at h
  split at h
  · rename_i ty n f hg
    split at h
    · cases h
      exact ⟨ty, n, .inl f, hg, rfl⟩
    · cases h
  · rename_i ty n f hg
    split at h
    · cases h
      exact ⟨ty, n, .inr (.inl f), hg, rfl⟩
    · cases h
  · rename_i ty n f hg
    split at h
    · cases h
      exact ⟨ty, n, .inr (.inr f), hg, rfl⟩
    · cases h
  · cases h
/-- what was read is an element -/
theorem kRdEl {ρ : List Int} {RO : List (Nat × (Nat → Int32))} {nx b pc : Nat} {ls : List (Nat × Value)} {zi : Int} {q : Nat} {st : List Value} {G : List eE} {c s : Nat} {R' : eR} (h : e19 RO nx b (pc, ls, .int (Int32.ofInt zi) :: .ref q :: st, G, c, s) = some R') (hq : ¬ q < RO.length)
    (h0 : 0 ≤ zi) (hcl : (Int32.ofInt zi).toNatClampNeg = zi.toNat) {t : Nat} {v : sL} {vs : List sV} (ht : t ≤ 1) (hV : sVs ρ ((t, v) :: vs) R'.2.2.1) : ∃ z, sEv ρ v = some z ∧ kEl (q - RO.length) zi z G := by
  obtain ⟨ty, n, arr, h1, h2⟩ := e19_val h hq
  rw [hcl] at h2
  rcases arr with f | f | f
  · simp only at h2
    subst h2
    obtain ⟨w, r, e, hw, -⟩ := sVs_cons hV
    cases e
    rcases Nat.le_one_iff_eq_zero_or_eq_one.mp ht with rfl | rfl
    · obtain ⟨z, e1, e2⟩ := sVr_int hw
      refine ⟨z, e1, ty, n, _, h1, h0, ?_⟩
      exact Value.int.inj e2
    · obtain ⟨z, e1, e2⟩ := sVr_long hw
      cases e2
  · simp only at h2
    subst h2
    obtain ⟨w, r, e, hw, -⟩ := sVs_cons hV
    cases e
    rcases Nat.le_one_iff_eq_zero_or_eq_one.mp ht with rfl | rfl
    · obtain ⟨z, e1, e2⟩ := sVr_int hw
      cases e2
    · obtain ⟨z, e1, e2⟩ := sVr_long hw
      refine ⟨z, e1, ty, n, _, h1, h0, ?_⟩
      exact Value.long.inj e2
  · simp only at h2
    subst h2
    obtain ⟨w, r, e, hw, -⟩ := sVs_cons hV
    cases e
    exfalso
    rcases Nat.le_one_iff_eq_zero_or_eq_one.mp ht with rfl | rfl
    · obtain ⟨z, e1, e2⟩ := sVr_int hw
      unfold eRf at e2
      split at e2 <;> cases e2
    · obtain ⟨z, e1, e2⟩ := sVr_long hw
      unfold eRf at e2
      split at e2 <;> cases e2
end KATM
end
