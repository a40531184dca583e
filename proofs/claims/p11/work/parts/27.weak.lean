/-! Fresh unknowns, facts that follow, indices that are no one number. -/
noncomputable section
def sFresh (Γ : sG) (b : Int × Int) : sG := (Γ.1 ++ [b], Γ.2)
theorem sFresh_ok {ρ : List Int} {Γ : sG} {b : Int × Int} {z : Int} (hM : sMo ρ Γ) (h1 : b.1 ≤ z) (h2 : z ≤ b.2) : sMo (ρ ++ [z]) (sFresh Γ b) ∧ sEv (ρ ++ [z]) (sX Γ.1.length) = some z := by
  have hpre : ρ <+: ρ ++ [z] := ⟨_, rfl⟩
  have hl : Γ.1.length = ρ.length := hM.1.1
  have hnew : (ρ ++ [z])[Γ.1.length]? = some z := by rw [hl]; simp
  refine ⟨⟨⟨by simp [sFresh, hl], fun i q y hi hz => ?_⟩, fun f hf => ?_, fun f hf => ?_, fun q hq => ?_⟩, sEv_X hnew⟩
  · simp only [sFresh] at hi
    by_cases hlt : i < ρ.length
    · rw [List.getElem?_append_left (by rw [hl]; exact hlt)] at hi
      rw [List.getElem?_append_left hlt] at hz
      exact hM.1.2 i q y hi hz
    · have hi2 : i < Γ.1.length + 1 := by have := (List.getElem?_eq_some_iff.mp hi).1; simpa using this
      have hie : i = ρ.length := by omega
      subst hie
      rw [← hl] at hi hz
      rw [hnew] at hz
      simp at hi
      cases hz; cases hi
      exact ⟨h1, h2⟩
  · obtain ⟨y, e1, e2⟩ := hM.2.1 f hf
    exact ⟨y, sEv_mono hpre e1, e2⟩
  · obtain ⟨y, e1, e2⟩ := hM.2.2.1 f hf
    exact ⟨y, sEv_mono hpre e1, e2⟩
  · obtain ⟨ya, yb, e1, e2, e3⟩ := hM.2.2.2 q hq
    exact ⟨ya, yb, sEv_mono hpre e1, sEv_mono hpre e2, by rw [List.getElem?_append_left (List.getElem?_eq_some_iff.mp e3).1]; exact e3⟩
/-- not below 0, by bounds or by one known fact -/
def sN2 (Γ : sG) (s : sL) : Bool := sAny (fun (g : sL) => sSh s g && sLo0 Γ.1 (sSub s g)) Γ.2.1
def sNN (Γ : sG) (a : sL) : Bool := sLo0 Γ.1 a || (sN2 Γ a || sAny (fun (f : sL) => sSh a f && (sLo0 Γ.1 (sSub (sMul 2 a) f) || sN2 Γ (sSub a f))) Γ.2.1)
theorem sN2_ok {ρ : List Int} {Γ : sG} (hM : sMo ρ Γ) {a : sL} {z : Int} (ha : sEv ρ a = some z) (h : sN2 Γ a = true) : 0 ≤ z := by
  unfold sN2 at h
  obtain ⟨f, hf, h⟩ := sAny_ex h
  have h := (Bool.and_eq_true_iff.mp h).2
  obtain ⟨y, e1, e2⟩ := hM.2.1 f hf
  have := sLo0_ok hM.1 (sEv_sub ha e1) h
  omega
theorem sNN_ok {ρ : List Int} {Γ : sG} (hM : sMo ρ Γ) {a : sL} {z : Int} (ha : sEv ρ a = some z) (h : sNN Γ a = true) : 0 ≤ z := by
  unfold sNN at h
  rcases Bool.or_eq_true_iff.mp h with h | h
  · exact sLo0_ok hM.1 ha h
  rcases Bool.or_eq_true_iff.mp h with h | h
  · exact sN2_ok hM ha h
  · obtain ⟨f, hf, h⟩ := sAny_ex h
    have h := (Bool.and_eq_true_iff.mp h).2
    obtain ⟨y, e1, e2⟩ := hM.2.1 f hf
    rcases Bool.or_eq_true_iff.mp h with h | h
    · have := sLo0_ok hM.1 (sEv_sub (sEv_mul 2 ha) e1) h
      omega
    · have := sN2_ok hM (sEv_sub ha e1) h
      omega
/-- an index within an array -/
def sInR (Γ : sG) (a : sL) (n : Nat) : Bool := sNN Γ a && (sNN Γ (sSub (sC ((n : Int) - 1)) a) && decide (n ≤ 2147483647))
theorem sInR_ok {ρ : List Int} {Γ : sG} (hM : sMo ρ Γ) {a : sL} {n : Nat} {z : Int} (ha : sEv ρ a = some z) (h : sInR Γ a n = true) : (Int32.ofInt z).toNatClampNeg < n ∧ eIn (Int32.ofInt z) n = true := by
  unfold sInR at h
  simp only [Bool.and_eq_true, decide_eq_true_eq] at h
  obtain ⟨h1, h2, h3⟩ := h
  have h1 := sNN_ok hM ha h1
  have h2 := sNN_ok hM (sEv_sub (sEv_C ((n : Int) - 1)) ha) h2
  obtain ⟨k, rfl⟩ : ∃ k : Nat, z = (k : Int) := ⟨z.toNat, by omega⟩
  have e1 : (Int32.ofInt (k : Int)) = nI k := by simp [nI, Int32.ofNat, Int32.ofInt]
  have e2 : (nI k).toNatClampNeg = k := nI_clamp (by omega)
  rw [e1]
  refine ⟨by rw [e2]; omega, ?_⟩
  simp only [eIn, e2, Bool.and_eq_true, Bool.not_eq_true', decide_eq_false_iff_not, decide_eq_true_eq]
  exact ⟨nI_pos (by omega), by omega⟩
/-- between what all an array's numbers lie -/
def sHull (B : List (Int × Int)) (b : Int × Int) : List (Nat × sL) → Option (Int × Int)
  | [] => some b
  | q :: r => match sHull B b r, sIv B q.2 with
    | some h, some i => some (min h.1 i.1, max h.2 i.2)
    | _, _ => none
theorem sHull_b {B : List (Int × Int)} {b : Int × Int} : ∀ {ov : List (Nat × sL)} {h : Int × Int}, sHull B b ov = some h → h.1 ≤ b.1 ∧ b.2 ≤ h.2
  | [], h, q => by cases q; exact ⟨Int.le_refl _, Int.le_refl _⟩
  | x :: r, h, q => by
    simp only [sHull] at q
    split at q
    · rename_i h' i hh _
      cases q
      have ih := sHull_b hh
      simp only
      omega
    · cases q
theorem sHull_in {ρ : List Int} {B : List (Int × Int)} (hB : sBd ρ B) {b : Int × Int} : ∀ {ov : List (Nat × sL)} {h : Int × Int}, sHull B b ov = some h → ∀ x ∈ ov, ∀ z, sEv ρ x.2 = some z → h.1 ≤ z ∧ z ≤ h.2
  | [], h, _, x, hx, _, _ => by cases hx
  | y :: r, h, q, x, hx, z, hz => by
    simp only [sHull] at q
    split at q
    · rename_i h' i hh hi
      cases q
      simp only
      rcases List.mem_cons.mp hx with rfl | hx
      · have := sIv_ok hB hz hi
        omega
      · have := sHull_in hB hh x hx z hz
        omega
    · cases q
theorem sLk_mem {ov : List (Nat × sL)} {i : Nat} {a : sL} (h : sLk ov i = some a) : ∃ x ∈ ov, x.2 = a := by
  simp only [sLk_def] at h
  obtain ⟨x, hx, rfl⟩ := Option.map_eq_some_iff.mp h
  exact ⟨x, List.mem_of_find?_eq_some hx, rfl⟩
/-- any number of an array of ints lies within its hull -/
theorem sHull_I {ρ : List Int} {B : List (Int × Int)} (hB : sBd ρ B) {b h : Int × Int} {ov : List (Nat × sL)} {n : Nat} {f : Nat → Int32} (hA : sArI ρ b ov n f) (hh : sHull B b ov = some h) (h1 : -2147483648 ≤ h.1) (h2 : h.2 ≤ 2147483647) {i : Nat} (hi : i < n) : h.1 ≤ (f i).toInt ∧ (f i).toInt ≤ h.2 := by
  have q := hA i hi
  split at q
  · rename_i a ha
    obtain ⟨x, hx, rfl⟩ := sLk_mem ha
    obtain ⟨z, e1, e2⟩ := q
    have e3 := sHull_in hB hh x hx z e1
    rw [e2, Int32.toInt_ofInt_of_le (by omega) (by omega)]
    exact e3
  · have := sHull_b hh
    omega
end
