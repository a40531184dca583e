/-! A state below a template: its unknowns, their bounds and facts. -/
noncomputable section
theorem sIvT_has {ρ : List Int} {B : List (Int × Int)} (hB : sBd ρ B) : ∀ {l : List (Nat × Int)} {i : Int × Int}, sIvT B l = some i → ∃ y, sEvT ρ l = some y
  | [], _, _ => ⟨0, rfl⟩
  | q :: r, i, h => by
    simp only [sIvT, sAt_eq] at h
    split at h
    · rename_i b j hb hj
      obtain ⟨y, hy⟩ := sIvT_has hB hj
      have hl : q.1 < ρ.length := by rw [← hB.1]; exact (List.getElem?_eq_some_iff.mp hb).1
      exact ⟨q.2 * ρ[q.1] + y, by simp only [sEvT, List.getElem?_eq_getElem hl, hy]⟩
    · cases h
theorem sWi_has {ρ : List Int} {B : List (Int × Int)} (hB : sBd ρ B) {a : sL} {lo hi : Int} (h : sWi B a lo hi = true) : ∃ z, sEv ρ a = some z ∧ lo ≤ z ∧ z ≤ hi := by
  have h0 := h
  unfold sWi at h
  split at h
  · rename_i i hi'
    unfold sIv at hi'
    obtain ⟨j, hj, -⟩ := Option.map_eq_some_iff.mp hi'
    obtain ⟨y, hy⟩ := sIvT_has hB hj
    have e : sEv ρ a = some (a.1 + y) := by unfold sEv; rw [hy]; rfl
    exact ⟨_, e, sWi_ok hB e h0⟩
  · cases h
theorem sIv_has {ρ : List Int} {B : List (Int × Int)} (hB : sBd ρ B) {a : sL} {i : Int × Int} (h : sIv B a = some i) : ∃ z, sEv ρ a = some z := by
  unfold sIv at h
  obtain ⟨j, hj, -⟩ := Option.map_eq_some_iff.mp h
  obtain ⟨y, hy⟩ := sIvT_has hB hj
  exact ⟨a.1 + y, by unfold sEv; rw [hy]; rfl⟩
/-- a form within bounds, by its own interval or by facts -/
def sWf (Γ : sG) (a : sL) (lo hi : Int) : Bool := match sIv Γ.1 a with
  | some i => (decide (lo ≤ i.1) || sNN Γ (sSub a (sC lo))) && (decide (i.2 ≤ hi) || sNN Γ (sSub (sC hi) a))
  | none => false
theorem sWf_has {ρ : List Int} {Γ : sG} (hM : sMo ρ Γ) {a : sL} {lo hi : Int} (h : sWf Γ a lo hi = true) : ∃ z, sEv ρ a = some z ∧ lo ≤ z ∧ z ≤ hi := by
  unfold sWf at h
  split at h
  · rename_i i hi'
    obtain ⟨z, hz⟩ := sIv_has hM.1 hi'
    have hb := sIv_ok hM.1 hz hi'
    simp only [Bool.and_eq_true, Bool.or_eq_true, decide_eq_true_eq] at h
    refine ⟨z, hz, ?_, ?_⟩
    · rcases h.1 with h1 | h1
      · omega
      · have := sNN_ok hM (sEv_sub hz (sEv_C lo)) h1
        omega
    · rcases h.2 with h1 | h1
      · omega
      · have := sNN_ok hM (sEv_sub (sEv_C hi) hz) h1
        omega
  · cases h
def sBb (Γ : sG) : List (Int × Int) → List sL → Bool
  | [], [] => true
  | b :: bs, a :: as => sWf Γ a b.1 b.2 && sBb Γ bs as
  | _, _ => false
theorem sBb_ok {ρ : List Int} {Γ : sG} (hM : sMo ρ Γ) : ∀ {T : List (Int × Int)} {σ : List sL}, sBb Γ T σ = true → ∃ vs, sVal ρ σ = some vs ∧ sBd vs T
  | [], [], _ => ⟨[], rfl, rfl, fun i b z h _ => by simp at h⟩
  | _ :: _, [], h => by simp [sBb] at h
  | [], _ :: _, h => by simp [sBb] at h
  | b :: bs, a :: as, h => by
    simp only [sBb, Bool.and_eq_true] at h
    obtain ⟨z, e1, e2⟩ := sWf_has hM h.1
    obtain ⟨vs, e3, e4, e5⟩ := sBb_ok hM h.2
    refine ⟨z :: vs, by simp only [sVal, e1, e3], by simp [e4], fun i b' z' hi hz => ?_⟩
    cases i with
    | zero => simp at hi hz; subst hi; subst hz; exact e2
    | succ i => exact e5 i b' z' (by simpa using hi) (by simpa using hz)
/-- a template's bounds and facts hold of what is laid in; it has no definitions and no facts of the other kind -/
def sGb (Γ : sG) (σ : List sL) (T : sG) : Bool := sBb Γ T.1 σ && (T.2.1.all (fun f => match sSubst σ f with
  | some g => sNN Γ g
  | none => false) && (T.2.2.1.isEmpty && T.2.2.2.isEmpty))
theorem sGb_ok {ρ : List Int} {Γ : sG} {σ : List sL} {T : sG} (hM : sMo ρ Γ) (h : sGb Γ σ T = true) : ∃ vs, sVal ρ σ = some vs ∧ sMo vs T := by
  unfold sGb at h
  simp only [Bool.and_eq_true] at h
  obtain ⟨h1, h2, h3, h4⟩ := h
  obtain ⟨vs, hv, hb⟩ := sBb_ok hM h1
  refine ⟨vs, hv, hb, fun f hf => ?_, fun f hf => ?_, fun q hq => ?_⟩
  · have h5 := List.all_eq_true.mp h2 f hf
    split at h5
    · rename_i g hg
      obtain ⟨y, e1, e2⟩ := sSubst_has hv hg
      exact ⟨y, e1, sNN_ok hM e2 h5⟩
    · cases h5
  · rw [List.isEmpty_iff.mp h3] at hf
    cases hf
  · rw [List.isEmpty_iff.mp h4] at hq
    cases hq
end
