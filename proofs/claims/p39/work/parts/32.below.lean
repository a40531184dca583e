/-! A state below a template: the whole heap, the facts. -/
def sQb (tov ov : List (Nat × sL)) (n : Nat) : Bool := (List.range n).all (fun i => decide ((sLk tov i).map (fun a => a.1.toNat) = (sLk ov i).map (fun a => a.1.toNat)))
theorem sQb_ok {tov ov : List (Nat × sL)} {n : Nat} {f : Nat → Option Nat} (h : sQb tov ov n = true) (q : sArQ ov n f) : sArQ tov n f := by
  intro i hi
  rw [q i hi]
  exact (of_decide_eq_true (List.all_eq_true.mp h i (List.mem_range.mpr hi))).symm
def sEb (B : List (Int × Int)) (σ : List sL) (t a : sE) : Bool := match t, a with
  | .inl (ty, n, tb, tov), .inl (ty', n', b, ov) => decide (ty = ty') && (decide (n = n') && (if ty.isReference = true then sQb tov ov n else if ty = .long then sAb B σ (-9223372036854775808) 9223372036854775807 tb b tov ov else sAb B σ (-2147483648) 2147483647 tb b tov ov))
  | .inr (ci, fs), .inr (ci', gs) => decide (ci = ci') && sVsb σ fs gs
  | _, _ => false
theorem sEb_ok {ρ vs : List Int} {σ : List sL} (hv : sVal ρ σ = some vs) {B : List (Int × Int)} (hB : sBd ρ B) {t a : sE} {y : eE} (h : sEb B σ t a = true) (q : sEr ρ a y) : sEr vs t y := by
  rcases t with ⟨ty, n, tb, tov⟩ | ⟨ci, fs⟩
  · rcases a with ⟨ty', n', b, ov⟩ | ⟨ci', gs⟩
    · simp only [sEb, Bool.and_eq_true, decide_eq_true_eq] at h
      obtain ⟨rfl, rfl, h⟩ := h
      rcases y with ⟨ty2, n2, arr⟩ | y
      · obtain ⟨rfl, rfl, harr⟩ := q
        refine ⟨rfl, rfl, ?_⟩
        rcases arr with f | f | f
        · obtain ⟨h1, h2⟩ := harr
          rw [if_neg (by rcases h1 with rfl | rfl | rfl <;> decide), if_neg (by rcases h1 with rfl | rfl | rfl <;> decide)] at h
          exact ⟨h1, sAbI_ok hv hB h h2⟩
        · obtain ⟨h1, h2⟩ := harr
          subst h1
          rw [if_neg (by decide), if_pos rfl] at h
          exact ⟨rfl, sAbL_ok hv hB h h2⟩
        · obtain ⟨h1, h2⟩ := harr
          rw [if_pos h1] at h
          exact ⟨h1, sQb_ok h h2⟩
      · exact q.elim
    · simp [sEb] at h
  · rcases a with ⟨ty', n', b, ov⟩ | ⟨ci', gs⟩
    · simp [sEb] at h
    · simp only [sEb, Bool.and_eq_true, decide_eq_true_eq] at h
      obtain ⟨rfl, h⟩ := h
      rcases y with y | ⟨c2, hs⟩
      · exact q.elim
      · obtain ⟨rfl, q⟩ := q
        exact ⟨rfl, sVsb_ok hv h q⟩
def sHb (B : List (Int × Int)) (σ : List sL) : List sE → List sE → Bool
  | [], [] => true
  | t :: ts, a :: as => sEb B σ t a && sHb B σ ts as
  | _, _ => false
theorem sHb_ok {ρ vs : List Int} {σ : List sL} (hv : sVal ρ σ = some vs) {B : List (Int × Int)} (hB : sBd ρ B) : ∀ {ts as : List sE} {ys : List eE}, sHb B σ ts as = true → sHp ρ as ys → sHp vs ts ys
  | [], [], [], _, _ => trivial
  | [], [], _ :: _, _, q => q.elim
  | _ :: _, [], _, h, _ => by simp [sHb] at h
  | [], _ :: _, _, h, _ => by simp [sHb] at h
  | t :: ts, a :: as, [], _, q => q.elim
  | t :: ts, a :: as, y :: ys, h, q => by
    simp only [sHb, Bool.and_eq_true] at h
    exact ⟨sEb_ok hv hB h.1 q.1, sHb_ok hv hB h.2 q.2⟩
def sLsb (σ : List sL) : List (Nat × sV) → List (Nat × sV) → Bool
  | [], [] => true
  | t :: ts, a :: as => decide (t.1 = a.1) && (sVb σ t.2 a.2 && sLsb σ ts as)
  | _, _ => false
theorem sLsb_ok {ρ vs : List Int} {σ : List sL} (hv : sVal ρ σ = some vs) : ∀ {ts as : List (Nat × sV)} {ws : List (Nat × Value)}, sLsb σ ts as = true → sLs ρ as ws → sLs vs ts ws
  | [], [], [], _, _ => trivial
  | [], [], _ :: _, _, q => q.elim
  | _ :: _, [], _, h, _ => by simp [sLsb] at h
  | [], _ :: _, _, h, _ => by simp [sLsb] at h
  | t :: ts, a :: as, [], _, q => q.elim
  | t :: ts, a :: as, w :: ws, h, q => by
    simp only [sLsb, Bool.and_eq_true, decide_eq_true_eq] at h
    exact ⟨⟨q.1.1.trans h.1.symm, sVb_ok hv h.2.1 q.1.2⟩, sLsb_ok hv h.2.2 q.2⟩
