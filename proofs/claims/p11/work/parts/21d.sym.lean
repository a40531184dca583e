/-! S: what a symbolic state stands for. -/
noncomputable section
def sCat (v : sV) : Nat := if v.1 = 1 then 2 else 1
def sVr (ρ : List Int) (v : sV) (w : Value) : Prop :=
  if v.1 = 0 then ∃ z, sEv ρ v.2 = some z ∧ w = .int (Int32.ofInt z) else if v.1 = 1 then ∃ z, sEv ρ v.2 = some z ∧ w = .long (Int64.ofInt z)
  else if v.1 = 2 then w = .ref v.2.1.toNat else if v.1 = 3 then w = .null else if v.1 = 4 then ∃ q ∈ v.2.2, w = .ref q.1 else False
def sVs (ρ : List Int) : List sV → List Value → Prop
  | [], [] => True
  | v :: vs, w :: ws => sVr ρ v w ∧ sVs ρ vs ws
  | _, _ => False
def sGetL (ls : List (Nat × sV)) (i : Nat) : Option sV := @List.rec (Nat × sV) (fun _ => Option sV) none (fun q _ ih => @Bool.rec (fun _ => Option sV) ih (some q.2) (Nat.beq q.1 i)) ls
theorem sBq (a b : Nat) : (a == b) = Nat.beq a b := by
  cases h : Nat.beq a b with
  | true => rw [Nat.eq_of_beq_eq_true h]; simp
  | false =>
    have hn : a ≠ b := fun e => by rw [e, Nat.beq_refl] at h; cases h
    simpa using hn
theorem sFnd {α : Type} (i : Nat) : ∀ ls : List (Nat × α), @List.rec (Nat × α) (fun _ => Option α) none (fun q _ ih => @Bool.rec (fun _ => Option α) ih (some q.2) (Nat.beq q.1 i)) ls = (ls.find? (fun q => q.1 == i)).map (fun q => q.2)
  | [] => rfl
  | q :: r => by
    have ih := sFnd i r
    show @Bool.rec (fun _ => Option α) _ (some q.2) (Nat.beq q.1 i) = _
    rw [List.find?_cons, ih]
    have e : (q.1 == i) = Nat.beq q.1 i := sBq _ _
    rw [e]
    cases Nat.beq q.1 i <;> rfl
theorem sGetL_def (ls : List (Nat × sV)) (i : Nat) : sGetL ls i = (ls.find? (fun q => q.1 == i)).map (fun q => q.2) := sFnd i ls
/-- what the locals that are told hold -/
def sLs (ρ : List Int) (vs : List (Nat × sV)) (ws : List (Nat × Value)) : Prop := ∀ (i : Nat) (v : sV), sGetL vs i = some v → ∃ w, eGetL ws i = some w ∧ sVr ρ v w
def sLk (ov : List (Nat × sL)) (i : Nat) : Option sL := @List.rec (Nat × sL) (fun _ => Option sL) none (fun q _ ih => @Bool.rec (fun _ => Option sL) ih (some q.2) (Nat.beq q.1 i)) ov
theorem sLk_def (ov : List (Nat × sL)) (i : Nat) : sLk ov i = (ov.find? (fun q => q.1 == i)).map fun q => q.2 := sFnd i ov
def sArI (ρ : List Int) (b : Int × Int) (ov : List (Nat × sL)) (n : Nat) (f : Nat → Int32) : Prop := ∀ i, i < n → match sLk ov i with
  | some a => ∃ z, sEv ρ a = some z ∧ f i = Int32.ofInt z
  | none => b.1 ≤ (f i).toInt ∧ (f i).toInt ≤ b.2
def sArL (ρ : List Int) (b : Int × Int) (ov : List (Nat × sL)) (n : Nat) (f : Nat → Int64) : Prop := ∀ i, i < n → match sLk ov i with
  | some a => ∃ z, sEv ρ a = some z ∧ f i = Int64.ofInt z
  | none => b.1 ≤ (f i).toInt ∧ (f i).toInt ≤ b.2
def sArQ (ov : List (Nat × sL)) (n : Nat) (f : Nat → Option Nat) : Prop := ∀ i, i < n → f i = (sLk ov i).map fun a => a.1.toNat
def sEr (ρ : List Int) (x : sE) (y : eE) : Prop := match x, y with
  | .inl (ty, n, b, ov), .inl (ty', n', arr) => ty' = ty ∧ n' = n ∧ (match arr with
    | .inl f => (ty = .int ∨ ty = .byte ∨ ty = .short) ∧ sArI ρ b ov n f
    | .inr (.inl f) => ty = .long ∧ sArL ρ b ov n f
    | .inr (.inr f) => ty.isReference = true ∧ sArQ ov n f)
  | .inr (ci, fs), .inr (ci', gs) => ci' = ci ∧ sVs ρ fs gs
  | _, _ => False
/-- a cell of which nothing is told -/
def sIsA (x : sE) : Bool := match x with
  | .inr (c, _) => c == 999
  | .inl _ => false
def sHp (ρ : List Int) : List sE → List eE → Prop
  | [], [] => True
  | x :: xs, y :: ys => (sIsA x = true ∨ sEr ρ x y) ∧ sHp ρ xs ys
  | _, _ => False
def sRor (ρ : List Int) : List (Nat × List sL) → List (Nat × (Nat → Int32)) → Prop
  | [], [] => True
  | x :: xs, y :: ys => ((x.1 = 0 ∨ y.1 = x.1) ∧ ∀ i, i < x.1 → ∃ a z, x.2[i]? = some a ∧ sEv ρ a = some z ∧ y.2 i = Int32.ofInt z) ∧ sRor ρ xs ys
  | _, _ => False
def sD (ρ : List Int) (S : sR) (R : eR) : Prop := R.1 = S.1 ∧ sLs ρ S.2.1 R.2.1 ∧ sVs ρ S.2.2.1 R.2.2.1 ∧ sHp ρ S.2.2.2.1 R.2.2.2.1 ∧ R.2.2.2.2.1 = S.2.2.2.2.1 ∧ R.2.2.2.2.2 = S.2.2.2.2.2.1
theorem sVr.mono {ρ ρ' : List Int} (h : ρ <+: ρ') {v : sV} {w : Value} (q : sVr ρ v w) : sVr ρ' v w := by
  unfold sVr at q ⊢
  split
  · rename_i h0
    rw [if_pos h0] at q
    obtain ⟨z, e1, e2⟩ := q
    exact ⟨z, sEv_mono h e1, e2⟩
  · rename_i h0
    rw [if_neg h0] at q
    split
    · rename_i h1
      rw [if_pos h1] at q
      obtain ⟨z, e1, e2⟩ := q
      exact ⟨z, sEv_mono h e1, e2⟩
    · rename_i h1
      rw [if_neg h1] at q
      exact q
theorem sVs.mono {ρ ρ' : List Int} (h : ρ <+: ρ') : ∀ {vs : List sV} {ws : List Value}, sVs ρ vs ws → sVs ρ' vs ws
  | [], [], _ => trivial
  | _ :: _, _ :: _, q => ⟨q.1.mono h, q.2.mono h⟩
theorem sLs.mono {ρ ρ' : List Int} (h : ρ <+: ρ') {vs : List (Nat × sV)} {ws : List (Nat × Value)} (q : sLs ρ vs ws) : sLs ρ' vs ws := fun i v hv => by
  obtain ⟨w, h1, h2⟩ := q i v hv
  exact ⟨w, h1, h2.mono h⟩
theorem sEr.mono {ρ ρ' : List Int} (h : ρ <+: ρ') {x : sE} {y : eE} (q : sEr ρ x y) : sEr ρ' x y := by
  rcases x with ⟨ty, n, b, ov⟩ | ⟨ci, fs⟩ <;> rcases y with ⟨ty', n', arr⟩ | ⟨cj, gs⟩
  · obtain ⟨h1, h2, h3⟩ := q
    refine ⟨h1, h2, ?_⟩
    rcases arr with f | f | f
    · refine ⟨h3.1, fun i hi => ?_⟩
      have h4 := h3.2 i hi
      split at h4
      · obtain ⟨z, e1, e2⟩ := h4; exact ⟨z, sEv_mono h e1, e2⟩
      · exact h4
    · refine ⟨h3.1, fun i hi => ?_⟩
      have h4 := h3.2 i hi
      split at h4
      · obtain ⟨z, e1, e2⟩ := h4; exact ⟨z, sEv_mono h e1, e2⟩
      · exact h4
    · exact h3
  · exact q.elim
  · exact q.elim
  · exact ⟨q.1, q.2.mono h⟩
theorem sHp.mono {ρ ρ' : List Int} (h : ρ <+: ρ') : ∀ {xs : List sE} {ys : List eE}, sHp ρ xs ys → sHp ρ' xs ys
  | [], [], _ => trivial
  | _ :: _, _ :: _, q => ⟨q.1.imp id (fun q => q.mono h), q.2.mono h⟩
theorem sRor.mono {ρ ρ' : List Int} (h : ρ <+: ρ') : ∀ {xs : List (Nat × List sL)} {ys : List (Nat × (Nat → Int32))}, sRor ρ xs ys → sRor ρ' xs ys
  | [], [], _ => trivial
  | _ :: _, _ :: _, q => ⟨⟨q.1.1, fun i hi => by obtain ⟨a, z, e1, e2, e3⟩ := q.1.2 i hi; exact ⟨a, z, e1, sEv_mono h e2, e3⟩⟩, q.2.mono h⟩
theorem sVr_cat {ρ : List Int} {v : sV} {w : Value} (q : sVr ρ v w) : w.category = sCat v := by
  unfold sVr at q
  unfold sCat
  split at q
  · rename_i h; obtain ⟨z, -, rfl⟩ := q; rw [if_neg (by omega)]; rfl
  split at q
  · rename_i h; obtain ⟨z, -, rfl⟩ := q; rw [if_pos h]; rfl
  split at q
  · rename_i h1 h; subst q; rw [if_neg h1]; rfl
  split at q
  · rename_i h1 _ h; subst q; rw [if_neg h1]; rfl
  split at q
  · rename_i h1 _ _ h; obtain ⟨_, -, rfl⟩ := q; rw [if_neg h1]; rfl
  · exact q.elim
theorem sVr_tag {ρ : List Int} {v : sV} {w : Value} (q : sVr ρ v w) {k : Nat} (hk : v.1 = k) (h3 : k < 3) : eTag w = k := by
  subst hk
  unfold sVr at q
  split at q
  · rename_i h; obtain ⟨z, -, rfl⟩ := q; rw [h]; rfl
  split at q
  · rename_i h; obtain ⟨z, -, rfl⟩ := q; rw [h]; rfl
  split at q
  · rename_i h; subst q; rw [h]; rfl
  · omega
theorem sVr_int {ρ : List Int} {x : sL} {w : Value} (q : sVr ρ (0, x) w) : ∃ z, sEv ρ x = some z ∧ w = .int (Int32.ofInt z) := q
theorem sVr_long {ρ : List Int} {x : sL} {w : Value} (q : sVr ρ (1, x) w) : ∃ z, sEv ρ x = some z ∧ w = .long (Int64.ofInt z) := q
theorem sVr_ref {ρ : List Int} {x : sL} {w : Value} (q : sVr ρ (2, x) w) : w = .ref x.1.toNat := q
theorem sVs_cons {ρ : List Int} {v : sV} {vs : List sV} {ws : List Value} (q : sVs ρ (v :: vs) ws) : ∃ w r, ws = w :: r ∧ sVr ρ v w ∧ sVs ρ vs r := by
  cases ws with
  | nil => exact q.elim
  | cons w r => exact ⟨w, r, rfl, q.1, q.2⟩
theorem sVs_nil {ρ : List Int} {ws : List Value} (q : sVs ρ [] ws) : ws = [] := by
  cases ws with
  | nil => rfl
  | cons w r => exact q.elim
theorem sVs_int {ρ : List Int} {x : sL} {vs : List sV} {ws : List Value} (q : sVs ρ ((0, x) :: vs) ws) : ∃ z r, ws = .int (Int32.ofInt z) :: r ∧ sEv ρ x = some z ∧ sVs ρ vs r := by
  obtain ⟨w, r, rfl, h1, h2⟩ := sVs_cons q
  obtain ⟨z, e1, rfl⟩ := sVr_int h1
  exact ⟨z, r, rfl, e1, h2⟩
theorem sVs_long {ρ : List Int} {x : sL} {vs : List sV} {ws : List Value} (q : sVs ρ ((1, x) :: vs) ws) : ∃ z r, ws = .long (Int64.ofInt z) :: r ∧ sEv ρ x = some z ∧ sVs ρ vs r := by
  obtain ⟨w, r, rfl, h1, h2⟩ := sVs_cons q
  obtain ⟨z, e1, rfl⟩ := sVr_long h1
  exact ⟨z, r, rfl, e1, h2⟩
theorem sVs_ref {ρ : List Int} {x : sL} {vs : List sV} {ws : List Value} (q : sVs ρ ((2, x) :: vs) ws) : ∃ r, ws = .ref x.1.toNat :: r ∧ sVs ρ vs r := by
  obtain ⟨w, r, rfl, h1, h2⟩ := sVs_cons q
  exact ⟨r, by rw [sVr_ref h1], h2⟩
theorem sVs_len {ρ : List Int} : ∀ {vs : List sV} {ws : List Value}, sVs ρ vs ws → ws.length = vs.length
  | [], [], _ => rfl
  | _ :: _, _ :: _, q => congrArg Nat.succ (sVs_len q.2)
theorem sVs_app {ρ : List Int} : ∀ {v1 : List sV} {w1 : List Value} {v2 : List sV} {w2 : List Value}, sVs ρ v1 w1 → sVs ρ v2 w2 → sVs ρ (v1 ++ v2) (w1 ++ w2)
  | [], [], _, _, _, h => h
  | _ :: _, _ :: _, _, _, q, h => ⟨q.1, sVs_app q.2 h⟩
theorem sVs_rev {ρ : List Int} : ∀ {vs : List sV} {ws : List Value}, sVs ρ vs ws → sVs ρ vs.reverse ws.reverse
  | [], [], _ => trivial
  | _ :: _, _ :: _, q => by
    rw [List.reverse_cons, List.reverse_cons]
    exact sVs_app (sVs_rev q.2) ⟨q.1, trivial⟩
theorem sVs_take {ρ : List Int} : ∀ (n : Nat) {vs : List sV} {ws : List Value}, sVs ρ vs ws → sVs ρ (vs.take n) (ws.take n)
  | 0, _, _, _ => by simp only [List.take_zero]; exact trivial
  | _ + 1, [], [], _ => trivial
  | n + 1, _ :: _, _ :: _, q => ⟨q.1, sVs_take n q.2⟩
theorem sVs_drop {ρ : List Int} : ∀ (n : Nat) {vs : List sV} {ws : List Value}, sVs ρ vs ws → sVs ρ (vs.drop n) (ws.drop n)
  | 0, _, _, h => h
  | _ + 1, [], [], _ => trivial
  | n + 1, _ :: _, _ :: _, q => sVs_drop n q.2
theorem sVs_cats {ρ : List Int} : ∀ {vs : List sV} {ws : List Value}, sVs ρ vs ws → (ws.map fun v => v.category) = vs.map sCat
  | [], [], _ => rfl
  | _ :: _, _ :: _, q => by
    rw [List.map_cons, List.map_cons, sVr_cat q.1, sVs_cats q.2]
theorem sVs_get {ρ : List Int} : ∀ {vs : List sV} {ws : List Value}, sVs ρ vs ws → ∀ {k : Nat} {v : sV}, vs[k]? = some v → ∃ w, ws[k]? = some w ∧ sVr ρ v w
  | [], [], _, k, v, h => by cases h
  | _ :: _, w :: _, q, 0, v, h => by
    cases h
    exact ⟨w, rfl, q.1⟩
  | _ :: _, _ :: _, q, k + 1, v, h => sVs_get q.2 (k := k) h
theorem sVs_set {ρ : List Int} {v : sV} {w : Value} (hv : sVr ρ v w) : ∀ {vs : List sV} {ws : List Value} (k : Nat), sVs ρ vs ws → sVs ρ (vs.set k v) (ws.set k w)
  | [], [], _, _ => trivial
  | _ :: _, _ :: _, 0, q => ⟨hv, q.2⟩
  | _ :: _, _ :: _, k + 1, q => ⟨q.1, sVs_set hv k q.2⟩
theorem sLs_get {ρ : List Int} {vs : List (Nat × sV)} {ws : List (Nat × Value)} (h : sLs ρ vs ws) {i : Nat} {v : sV} (hv : sGetL vs i = some v) : ∃ w, eGetL ws i = some w ∧ sVr ρ v w := h i v hv
/-- a filter that goes by the key alone -/
theorem sGetL_filter {f : Nat × sV → Bool} (i : Nat) : ∀ (vs : List (Nat × sV)), (∀ q ∈ vs, q.1 = i → f q = true) → sGetL (vs.filter f) i = sGetL vs i
  | [], _ => rfl
  | q :: r, hf => by
    have ih := sGetL_filter (f := f) i r (fun q hq => hf q (List.mem_cons_of_mem _ hq))
    simp only [sGetL_def] at ih ⊢
    rw [List.filter_cons, List.find?_cons]
    by_cases hq : (q.1 == i) = true
    · rw [if_pos (hf q List.mem_cons_self (beq_iff_eq.mp hq)), List.find?_cons]
      simp only [hq]
    · simp only [hq]
      split
      · rw [List.find?_cons]
        simp only [hq]
        exact ih
      · exact ih
theorem sGetL_none {f : Nat × sV → Bool} (i : Nat) (vs : List (Nat × sV)) (hf : ∀ q ∈ vs, q.1 = i → f q = false) : sGetL (vs.filter f) i = none := by
  rw [sGetL_def, Option.map_eq_none_iff, List.find?_eq_none]
  intro q hq hqi
  obtain ⟨h1, h2⟩ := List.mem_filter.mp hq
  rw [hf q h1 (beq_iff_eq.mp hqi)] at h2
  cases h2
theorem eGetL_filter {g : Nat × Value → Bool} {i : Nat} {w : Value} (hg : g (i, w) = true) : ∀ {ws : List (Nat × Value)}, eGetL ws i = some w → eGetL (ws.filter g) i = some w
  | [], h => by cases h
  | q :: r, h => by
    unfold eGetL at h ⊢
    rw [List.find?_cons] at h
    rw [List.filter_cons]
    by_cases hq : (q.1 == i) = true
    · simp only [hq, Option.map_some, Option.some.injEq] at h
      have e : q = (i, w) := Prod.ext (beq_iff_eq.mp hq) h
      rw [e, if_pos hg, List.find?_cons]
      simp
    · simp only [hq] at h
      have ih := eGetL_filter (g := g) hg (ws := r) h
      unfold eGetL at ih
      split
      · rw [List.find?_cons]
        simp only [hq]
        exact ih
      · exact ih
/-- whether a local of two slots stands right ahead -/
def sWide (ls : List (Nat × sV)) (j : Nat) : Bool := match sGetL ls j with
  | some v => sCat v == 2
  | none => false
def sSt1 (ls : List (Nat × sV)) (i : Nat) (v : sV) : List (Nat × sV) := (i, v) :: @List.rec (Nat × sV) (fun _ => List (Nat × sV)) [] (fun q _ ih => @Bool.rec (fun _ => List (Nat × sV)) (@Bool.rec (fun _ => List (Nat × sV)) (q :: ih) (@Bool.rec (fun _ => List (Nat × sV)) (q :: ih) ih (sWide ls q.1)) (Nat.beq (q.1 + 1) i)) ih (Nat.beq q.1 i)) ls
theorem sSt1_def (ls : List (Nat × sV)) (i : Nat) (v : sV) : sSt1 ls i v = (i, v) :: ls.filter (fun q => !(q.1 == i) && !(q.1 + 1 == i && sWide ls q.1)) := by
  unfold sSt1
  congr 1
  have key : ∀ (w : Nat → Bool) (r : List (Nat × sV)), @List.rec (Nat × sV) (fun _ => List (Nat × sV)) [] (fun q _ ih => @Bool.rec (fun _ => List (Nat × sV)) (@Bool.rec (fun _ => List (Nat × sV)) (q :: ih) (@Bool.rec (fun _ => List (Nat × sV)) (q :: ih) ih (w q.1)) (Nat.beq (q.1 + 1) i)) ih (Nat.beq q.1 i)) r = r.filter (fun q => !(q.1 == i) && !(q.1 + 1 == i && w q.1)) := by
    intro w r
    induction r with
    | nil => rfl
    | cons q r ih =>
      show @Bool.rec (fun _ => List (Nat × sV)) (@Bool.rec (fun _ => List (Nat × sV)) (q :: _) (@Bool.rec (fun _ => List (Nat × sV)) (q :: _) _ (w q.1)) (Nat.beq (q.1 + 1) i)) _ (Nat.beq q.1 i) = _
      rw [ih, List.filter_cons]
      have e1 : (q.1 == i) = Nat.beq q.1 i := sBq _ _
      have e2 : (q.1 + 1 == i) = Nat.beq (q.1 + 1) i := sBq _ _
      rw [e1, e2]
      cases Nat.beq q.1 i <;> cases Nat.beq (q.1 + 1) i <;> cases w q.1 <;> rfl
  exact key (sWide ls) ls
def sSt2 (ls : List (Nat × sV)) (i : Nat) (v : sV) : List (Nat × sV) := (i, v) :: ls.filter (fun q => !(q.1 == i) && (!(q.1 == i + 1) && !(q.1 + 1 == i && sWide ls q.1)))
theorem sGetL_hd (i : Nat) (v : sV) (r : List (Nat × sV)) : sGetL ((i, v) :: r) i = some v := by simp [sGetL_def]
theorem eGetL_hd (i : Nat) (v : Value) (r : List (Nat × Value)) : eGetL ((i, v) :: r) i = some v := by simp [eGetL]
theorem sGetL_tl {i j : Nat} (h : ¬ i = j) (v : sV) (r : List (Nat × sV)) : sGetL ((i, v) :: r) j = sGetL r j := by
  have : (i == j) = false := by simpa using h
  simp [sGetL_def, List.find?_cons, this]
theorem eGetL_tl {i j : Nat} (h : ¬ i = j) (v : Value) (r : List (Nat × Value)) : eGetL ((i, v) :: r) j = eGetL r j := by
  have : (i == j) = false := by simpa using h
  simp [eGetL, List.find?_cons, this]
theorem sLs_st {ρ : List Int} {vs : List (Nat × sV)} {ws : List (Nat × Value)} (h : sLs ρ vs ws) {i : Nat} {v : sV} {w : Value} (hv : sVr ρ v w) {f : Nat × sV → Bool} {g : Nat × Value → Bool}
    (hd : ∀ j, ¬ i = j → (∀ q : Nat × sV, q.1 = j → f q = false) ∨ ((∀ q : Nat × sV, q.1 = j → f q = true) ∧ ∀ (u : sV) (x : Value), sGetL vs j = some u → sVr ρ u x → g (j, x) = true)) : sLs ρ ((i, v) :: vs.filter f) ((i, w) :: ws.filter g) := by
  intro j u hu
  by_cases hij : i = j
  · subst hij
    rw [sGetL_hd] at hu
    cases hu
    exact ⟨w, eGetL_hd _ _ _, hv⟩
  · rw [sGetL_tl hij] at hu
    rcases hd j hij with h1 | ⟨h1, h2⟩
    · rw [sGetL_none j vs (fun q _ hq => h1 q hq)] at hu
      cases hu
    · rw [sGetL_filter j vs (fun q _ hq => h1 q hq)] at hu
      obtain ⟨x, h3, h4⟩ := h j u hu
      exact ⟨x, by rw [eGetL_tl hij]; exact eGetL_filter (h2 u x hu h4) h3, h4⟩
theorem sLs_st1 {ρ : List Int} {vs : List (Nat × sV)} {ws : List (Nat × Value)} (h : sLs ρ vs ws) {i : Nat} {v : sV} {w : Value} (hv : sVr ρ v w) : sLs ρ (sSt1 vs i v) (eSt1 ws i w) := by
  rw [sSt1_def]
  refine sLs_st h hv fun j hij => ?_
  have hji : (j == i) = false := by simpa using fun z : j = i => hij z.symm
  by_cases hw : (j + 1 == i && sWide vs j) = true
  · left
    intro q hq
    subst hq
    rw [hw]
    simp
  · right
    have hw := Bool.eq_false_iff.mpr hw
    refine ⟨fun q hq => by subst hq; rw [hji, hw]; rfl, fun u x hu hx => ?_⟩
    have e : sWide vs j = (sCat u == 2) := by simp [sWide, hu]
    simp only [hji, Bool.not_false, Bool.true_and]
    rw [sVr_cat hx, ← e, hw]
    rfl
theorem sLs_st2 {ρ : List Int} {vs : List (Nat × sV)} {ws : List (Nat × Value)} (h : sLs ρ vs ws) {i : Nat} {v : sV} {w : Value} (hv : sVr ρ v w) : sLs ρ (sSt2 vs i v) (eSt2 ws i w) := by
  refine sLs_st h hv fun j hij => ?_
  have hji : (j == i) = false := by simpa using fun z : j = i => hij z.symm
  by_cases hj1 : (j == i + 1) = true
  · left
    intro q hq
    subst hq
    simp [hj1]
  by_cases hw : (j + 1 == i && sWide vs j) = true
  · left
    intro q hq
    subst hq
    rw [hw]
    simp
  · right
    have hw := Bool.eq_false_iff.mpr hw
    have hj1 := Bool.eq_false_iff.mpr hj1
    refine ⟨fun q hq => by subst hq; rw [hji, hj1, hw]; rfl, fun u x hu hx => ?_⟩
    have e : sWide vs j = (sCat u == 2) := by simp [sWide, hu]
    simp only [hji, hj1, Bool.not_false, Bool.true_and]
    rw [sVr_cat hx, ← e, hw]
    rfl
def sArgs : Nat → List sV → List (Nat × sV)
  | _, [] => []
  | i, v :: vs => (i, v) :: sArgs (if sCat v = 2 then i + 2 else i + 1) vs
theorem sLs_args {ρ : List Int} : ∀ (i : Nat) {vs : List sV} {ws : List Value}, sVs ρ vs ws → sLs ρ (sArgs i vs) (lv_args i ws)
  | _, [], [], _ => fun j u hu => by cases hu
  | i, v :: vs, w :: ws, h => by
    simp only [lv_args, sArgs]
    rw [sVr_cat h.1]
    intro j u hu
    by_cases hij : i = j
    · subst hij
      rw [sGetL_hd] at hu
      cases hu
      exact ⟨w, eGetL_hd _ _ _, h.1⟩
    · rw [sGetL_tl hij] at hu
      rw [eGetL_tl hij]
      exact sLs_args _ h.2 j u hu
theorem sHp_len {ρ : List Int} : ∀ {xs : List sE} {ys : List eE}, sHp ρ xs ys → ys.length = xs.length
  | [], [], _ => rfl
  | _ :: _, _ :: _, q => congrArg Nat.succ (sHp_len q.2)
theorem sHp_get0 {ρ : List Int} : ∀ {xs : List sE} {ys : List eE}, sHp ρ xs ys → ∀ {k : Nat} {x : sE}, xs[k]? = some x → ∃ y, ys[k]? = some y ∧ (sIsA x = true ∨ sEr ρ x y)
  | [], [], _, k, v, h => by cases h
  | _ :: _, w :: _, q, 0, v, h => by
    cases h
    exact ⟨w, rfl, q.1⟩
  | _ :: _, _ :: _, q, k + 1, v, h => sHp_get0 q.2 (k := k) h
theorem sHp_get {ρ : List Int} {xs : List sE} {ys : List eE} (h : sHp ρ xs ys) {k : Nat} {x : sE} (hk : xs[k]? = some x) (hx : sIsA x = false := by rfl) : ∃ y, ys[k]? = some y ∧ sEr ρ x y := by
  obtain ⟨y, h1, h2⟩ := sHp_get0 h hk
  refine ⟨y, h1, h2.resolve_left fun h3 => ?_⟩
  rw [hx] at h3
  cases h3
theorem sSet_self {α : Type} : ∀ {l : List α} {k : Nat} {x : α}, l[k]? = some x → l.set k x = l
  | [], _, _, h => by cases h
  | _ :: _, 0, _, h => by cases h; rfl
  | y :: r, k + 1, x, h => congrArg (List.cons y) (sSet_self (l := r) (k := k) h)
theorem sIsA_ne {c : Nat} {fs : List sV} (h : c ≠ 999) : sIsA (.inr (c, fs)) = false := by simp [sIsA, h]
theorem sHp_set {ρ : List Int} {x : sE} {y : eE} (hv : sEr ρ x y) : ∀ {xs : List sE} {ys : List eE} (k : Nat), sHp ρ xs ys → sHp ρ (xs.set k x) (ys.set k y)
  | [], [], _, _ => trivial
  | _ :: _, _ :: _, 0, q => ⟨Or.inr hv, q.2⟩
  | _ :: _, _ :: _, k + 1, q => ⟨q.1, sHp_set hv k q.2⟩
theorem sHp_app {ρ : List Int} : ∀ {v1 : List sE} {w1 : List eE} {v2 : List sE} {w2 : List eE}, sHp ρ v1 w1 → sHp ρ v2 w2 → sHp ρ (v1 ++ v2) (w1 ++ w2)
  | [], [], _, _, _, h => h
  | _ :: _, _ :: _, _, _, q, h => ⟨q.1, sHp_app q.2 h⟩
theorem sRor_len {ρ : List Int} : ∀ {xs : List (Nat × List sL)} {ys : List (Nat × (Nat → Int32))}, sRor ρ xs ys → ys.length = xs.length
  | [], [], _ => rfl
  | _ :: _, _ :: _, q => congrArg Nat.succ (sRor_len q.2)
theorem sRor_get {ρ : List Int} : ∀ {xs : List (Nat × List sL)} {ys : List (Nat × (Nat → Int32))}, sRor ρ xs ys → ∀ {k : Nat} {x : Nat × List sL}, xs[k]? = some x → ∃ y, ys[k]? = some y ∧ (x.1 = 0 ∨ y.1 = x.1) ∧ ∀ i, i < x.1 → ∃ a z, x.2[i]? = some a ∧ sEv ρ a = some z ∧ y.2 i = Int32.ofInt z
  | [], [], _, k, v, h => by cases h
  | _ :: _, w :: _, q, 0, v, h => by
    cases h
    exact ⟨w, rfl, q.1.1, q.1.2⟩
  | _ :: _, _ :: _, q, k + 1, v, h => sRor_get q.2 (k := k) h
end
