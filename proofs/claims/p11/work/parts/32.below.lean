/-! A state below a template: the whole heap, the facts. -/
noncomputable section
def sQb (tov ov : List (Nat × sL)) (n : Nat) : Bool := (List.range n).all (fun i => decide ((sLk tov i).map (fun a => a.1.toNat) = (sLk ov i).map (fun a => a.1.toNat)))
theorem sQb_ok {tov ov : List (Nat × sL)} {n : Nat} {f : Nat → Option Nat} (h : sQb tov ov n = true) (q : sArQ ov n f) : sArQ tov n f := by
  intro i hi
  rw [q i hi]
  exact (of_decide_eq_true (List.all_eq_true.mp h i (List.mem_range.mpr hi))).symm
def sEb (B : List (Int × Int)) (σ : List sL) (t a : sE) : Bool := match t, a with
  | .inl (ty, n, tb, tov), .inl (ty', n', b, ov) => decide (ty = ty') && (decide (n = n') && (if ty.isReference = true then sQb tov ov n else if ty = .long then sAb B σ (-9223372036854775808) 9223372036854775807 tb b tov ov else sAb B σ (-2147483648) 2147483647 tb b tov ov))
  | .inr (ci, fs), .inr (ci', gs) => decide (ci = ci') && sVsb σ fs gs
  | _, _ => false
theorem sEb_ok {ρ vs : List Int} {σ : List sL} (hv : sVal ρ σ = some vs) {B : List (Int × Int)} (hB : sBd ρ B) {t a : sE} {y : eE} (h : sEb B σ t a = true) (q : sEr ρ a y) : sEr vs t y := by
  rcases t with ⟨ty, n, tb, tov⟩ | ⟨ci, fs⟩
  · rcases a with ⟨ty', n', b, ov⟩ | ⟨ci', gs⟩
    · simp only [sEb, Bool.and_eq_true, decide_eq_true_eq] at h
      obtain ⟨rfl, rfl, h⟩ := h
      rcases y with ⟨ty2, n2, arr⟩ | y
      · obtain ⟨rfl, rfl, harr⟩ := q
        refine ⟨rfl, rfl, ?_⟩
        rcases arr with f | f | f
        · obtain ⟨h1, h2⟩ := harr
          rw [if_neg (by rcases h1 with rfl | rfl | rfl <;> decide), if_neg (by rcases h1 with rfl | rfl | rfl <;> decide)] at h
          exact ⟨h1, sAbI_ok hv hB h h2⟩
        · obtain ⟨h1, h2⟩ := harr
          subst h1
          rw [if_neg (by decide), if_pos rfl] at h
          exact ⟨rfl, sAbL_ok hv hB h h2⟩
        · obtain ⟨h1, h2⟩ := harr
          rw [if_pos h1] at h
          exact ⟨h1, sQb_ok h h2⟩
      · exact q.elim
    · simp [sEb] at h
  · rcases a with ⟨ty', n', b, ov⟩ | ⟨ci', gs⟩
    · simp [sEb] at h
    · simp only [sEb, Bool.and_eq_true, decide_eq_true_eq] at h
      obtain ⟨rfl, h⟩ := h
      rcases y with y | ⟨c2, hs⟩
      · exact q.elim
      · obtain ⟨rfl, q⟩ := q
        exact ⟨rfl, sVsb_ok hv h q⟩
/-- each told local of a template stands in the state -/
def sLsb (σ : List sL) (ts as : List (Nat × sV)) : Bool := ts.all (fun t => match sGetL as t.1 with
  | some a => sVb σ t.2 a
  | none => false)
theorem sLsb_ok {ρ vs : List Int} {σ : List sL} (hv : sVal ρ σ = some vs) {ts as : List (Nat × sV)} {ws : List (Nat × Value)} (h : sLsb σ ts as = true) (q : sLs ρ as ws) : sLs vs ts ws := by
  intro i t ht
  simp only [sGetL_def] at ht
  obtain ⟨p, hp, rfl⟩ := Option.map_eq_some_iff.mp ht
  have h1 := List.all_eq_true.mp h p (List.mem_of_find?_eq_some hp)
  have h2a := List.find?_some hp
  have h2 : p.1 = i := beq_iff_eq.mp h2a
  subst h2
  split at h1
  · rename_i a ha
    obtain ⟨w, h3, h4⟩ := q p.1 a ha
    exact ⟨w, h3, sVb_ok hv h1 h4⟩
  · cases h1
end
