/-! A state below a template: values and arrays. -/
noncomputable section
def sVb (σ : List sL) (t a : sV) : Bool := if t.1 = 4 then (if a.1 = 2 then t.2.2.any (fun q => q.1 == a.2.1.toNat) else decide (a.1 = 4) && a.2.2.all (fun r => t.2.2.any (fun q => q.1 == r.1))) else decide (t.1 = a.1) && (if t.1 ≤ 1 then (match sSubst σ t.2 with
  | some f => decide (f = a.2)
  | none => false) else if t.1 = 2 then decide (t.2.1 = a.2.1) else decide (t.1 = 3))
theorem sVb_ok {ρ vs : List Int} {σ : List sL} (hv : sVal ρ σ = some vs) {t a : sV} {w : Value} (h : sVb σ t a = true) (q : sVr ρ a w) : sVr vs t w := by
  unfold sVb at h
  split at h
  · rename_i h4
    unfold sVr
    rw [if_neg (by omega), if_neg (by omega), if_neg (by omega), if_neg (by omega), if_pos h4]
    split at h
    · rename_i h2
      obtain ⟨r, hr, hq⟩ := List.any_eq_true.mp h
      unfold sVr at q
      rw [if_neg (by omega), if_neg (by omega), if_pos h2] at q
      exact ⟨r, hr, by rw [q, beq_iff_eq.mp hq]⟩
    · simp only [Bool.and_eq_true, decide_eq_true_eq] at h
      obtain ⟨h1, h2⟩ := h
      unfold sVr at q
      rw [if_neg (by omega), if_neg (by omega), if_neg (by omega), if_neg (by omega), if_pos h1] at q
      obtain ⟨r, hr, rfl⟩ := q
      obtain ⟨r2, hr2, hq⟩ := List.any_eq_true.mp (List.all_eq_true.mp h2 r hr)
      exact ⟨r2, hr2, by rw [beq_iff_eq.mp hq]⟩
  rename_i hn4
  simp only [Bool.and_eq_true, decide_eq_true_eq] at h
  obtain ⟨h1, h2⟩ := h
  obtain ⟨t1, t2⟩ := t
  obtain ⟨a1, a2⟩ := a
  simp only at h1 h2 hn4
  subst h1
  unfold sVr at q ⊢
  simp only at q ⊢
  split at h2
  · rename_i hle
    split at h2
    · rename_i f hf
      have h2 := of_decide_eq_true h2
      subst h2
      obtain ⟨y, e1, e2⟩ := sSubst_has hv hf
      by_cases h0 : t1 = 0
      · rw [if_pos h0] at q ⊢
        obtain ⟨z, e3, e4⟩ := q
        cases e2.symm.trans e3
        exact ⟨y, e1, e4⟩
      · have h1 : t1 = 1 := by omega
        rw [if_neg h0, if_pos h1] at q ⊢
        obtain ⟨z, e3, e4⟩ := q
        cases e2.symm.trans e3
        exact ⟨y, e1, e4⟩
    · cases h2
  · rename_i hgt
    rw [if_neg (by omega), if_neg (by omega)] at q ⊢
    split at h2
    · rename_i h22
      rw [if_pos h22] at q ⊢
      rw [of_decide_eq_true h2]
      exact q
    · rename_i h22
      have h3 := of_decide_eq_true h2
      rw [if_neg h22, if_pos h3] at q ⊢
      exact q
def sVsb (σ : List sL) : List sV → List sV → Bool
  | [], [] => true
  | t :: ts, a :: as => sVb σ t a && sVsb σ ts as
  | _, _ => false
theorem sVsb_ok {ρ vs : List Int} {σ : List sL} (hv : sVal ρ σ = some vs) : ∀ {ts as : List sV} {ws : List Value}, sVsb σ ts as = true → sVs ρ as ws → sVs vs ts ws
  | [], [], [], _, _ => trivial
  | [], [], _ :: _, _, q => q.elim
  | _ :: _, [], _, h, _ => by simp [sVsb] at h
  | [], _ :: _, _, h, _ => by simp [sVsb] at h
  | t :: ts, a :: as, [], _, q => q.elim
  | t :: ts, a :: as, w :: ws, h, q => by
    simp only [sVsb, Bool.and_eq_true] at h
    exact ⟨sVb_ok hv h.1 q.1, sVsb_ok hv h.2 q.2⟩
theorem sLk_at {ov : List (Nat × sL)} {i : Nat} {a : sL} (h : sLk ov i = some a) : (i, a) ∈ ov := by
  simp only [sLk_def] at h
  obtain ⟨x, hx, rfl⟩ := Option.map_eq_some_iff.mp h
  have h1 := List.find?_some hx
  have h2 : x.1 = i := beq_iff_eq.mp h1
  rw [← h2]
  exact List.mem_of_find?_eq_some hx
/-- the told places of a template's array stand in the state, with the same forms; all else lies within its bounds -/
def sOvb (σ : List sL) (b : Int × Int) (tov ov : List (Nat × sL)) : Bool := tov.all (fun x => match sLk ov x.1, sSubst σ x.2 with
  | some a, some f => decide (a = f)
  | none, some f => decide (b.1 = b.2) && decide (sC b.1 = f)
  | _, _ => false)
def sAb (B : List (Int × Int)) (σ : List sL) (lo hi : Int) (tb b : Int × Int) (tov ov : List (Nat × sL)) : Bool := sOvb σ b tov ov && (match sHull B b (ov.filter (fun q => (sLk tov q.1).isNone)) with
  | some h => decide (tb.1 ≤ h.1) && (decide (h.2 ≤ tb.2) && (decide (lo ≤ h.1) && decide (h.2 ≤ hi)))
  | none => false)
theorem sAbI_ok {ρ vs : List Int} {σ : List sL} (hv : sVal ρ σ = some vs) {B : List (Int × Int)} (hB : sBd ρ B) {tb b : Int × Int} {tov ov : List (Nat × sL)} {n : Nat} {f : Nat → Int32} (h : sAb B σ (-2147483648) 2147483647 tb b tov ov = true) (q : sArI ρ b ov n f) : sArI vs tb tov n f := by
  unfold sAb at h
  rw [Bool.and_eq_true] at h
  obtain ⟨h1, h2⟩ := h
  split at h2
  · rename_i hu hhu
    simp only [Bool.and_eq_true, decide_eq_true_eq] at h2
    intro i hi
    have qi := q i hi
    split
    · rename_i tf htf
      have h3 := List.all_eq_true.mp h1 (i, tf) (sLk_at htf)
      simp only at h3
      split at h3
      · rename_i a ff ha hff
        have h3 := of_decide_eq_true h3
        subst h3
        rw [ha] at qi
        obtain ⟨z, e1, e2⟩ := qi
        obtain ⟨y, e3, e4⟩ := sSubst_has hv hff
        cases e1.symm.trans e4
        exact ⟨_, e3, e2⟩
      · rename_i ff ha hff
        simp only [Bool.and_eq_true, decide_eq_true_eq] at h3
        obtain ⟨h3, h4⟩ := h3
        rw [ha] at qi
        subst h4
        obtain ⟨y, e3, e4⟩ := sSubst_has hv hff
        rw [sEv_C] at e4
        cases e4
        refine ⟨_, e3, ?_⟩
        have e5 : (f i).toInt = b.1 := by omega
        rw [← e5]
        simp
      · cases h3
    · rename_i hno
      split at qi
      · rename_i a ha
        obtain ⟨z, e1, e2⟩ := qi
        have hm : (i, a) ∈ ov.filter (fun q => (sLk tov q.1).isNone) := List.mem_filter.mpr ⟨sLk_at ha, by simp [hno]⟩
        have e3 := sHull_in hB hhu (i, a) hm z e1
        rw [e2, Int32.toInt_ofInt_of_le (by omega) (by omega)]
        omega
      · have := sHull_b hhu
        omega
  · cases h2
theorem sAbL_ok {ρ vs : List Int} {σ : List sL} (hv : sVal ρ σ = some vs) {B : List (Int × Int)} (hB : sBd ρ B) {tb b : Int × Int} {tov ov : List (Nat × sL)} {n : Nat} {f : Nat → Int64} (h : sAb B σ (-9223372036854775808) 9223372036854775807 tb b tov ov = true) (q : sArL ρ b ov n f) : sArL vs tb tov n f := by
  unfold sAb at h
  rw [Bool.and_eq_true] at h
  obtain ⟨h1, h2⟩ := h
  split at h2
  · rename_i hu hhu
    simp only [Bool.and_eq_true, decide_eq_true_eq] at h2
    intro i hi
    have qi := q i hi
    split
    · rename_i tf htf
      have h3 := List.all_eq_true.mp h1 (i, tf) (sLk_at htf)
      simp only at h3
      split at h3
      · rename_i a ff ha hff
        have h3 := of_decide_eq_true h3
        subst h3
        rw [ha] at qi
        obtain ⟨z, e1, e2⟩ := qi
        obtain ⟨y, e3, e4⟩ := sSubst_has hv hff
        cases e1.symm.trans e4
        exact ⟨_, e3, e2⟩
      · rename_i ff ha hff
        simp only [Bool.and_eq_true, decide_eq_true_eq] at h3
        obtain ⟨h3, h4⟩ := h3
        rw [ha] at qi
        subst h4
        obtain ⟨y, e3, e4⟩ := sSubst_has hv hff
        rw [sEv_C] at e4
        cases e4
        refine ⟨_, e3, ?_⟩
        have e5 : (f i).toInt = b.1 := by omega
        rw [← e5]
        simp
      · cases h3
    · rename_i hno
      split at qi
      · rename_i a ha
        obtain ⟨z, e1, e2⟩ := qi
        have hm : (i, a) ∈ ov.filter (fun q => (sLk tov q.1).isNone) := List.mem_filter.mpr ⟨sLk_at ha, by simp [hno]⟩
        have e3 := sHull_in hB hhu (i, a) hm z e1
        rw [e2, Int64.toInt_ofInt_of_le (by omega) (by omega)]
        omega
      · have := sHull_b hhu
        omega
  · cases h2
end
