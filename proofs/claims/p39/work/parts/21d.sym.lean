/-! S: what a symbolic state stands for. -/
def sCat (v : sV) : Nat := if v.1 = 1 then 2 else 1
def sVr (ρ : List Int) (v : sV) (w : Value) : Prop :=
  if v.1 = 0 then ∃ z, sEv ρ v.2 = some z ∧ w = .int (Int32.ofInt z) else if v.1 = 1 then ∃ z, sEv ρ v.2 = some z ∧ w = .long (Int64.ofInt z)
  else if v.1 = 2 then w = .ref v.2.1.toNat else if v.1 = 3 then w = .null else False
def sVs (ρ : List Int) : List sV → List Value → Prop
  | [], [] => True
  | v :: vs, w :: ws => sVr ρ v w ∧ sVs ρ vs ws
  | _, _ => False
def sLs (ρ : List Int) : List (Nat × sV) → List (Nat × Value) → Prop
  | [], [] => True
  | v :: vs, w :: ws => (w.1 = v.1 ∧ sVr ρ v.2 w.2) ∧ sLs ρ vs ws
  | _, _ => False
def sLk (ov : List (Nat × sL)) (i : Nat) : Option sL := (ov.find? (fun q => q.1 == i)).map fun q => q.2
def sArI (ρ : List Int) (b : Int × Int) (ov : List (Nat × sL)) (n : Nat) (f : Nat → Int32) : Prop := ∀ i, i < n → match sLk ov i with
  | some a => ∃ z, sEv ρ a = some z ∧ f i = Int32.ofInt z
  | none => b.1 ≤ (f i).toInt ∧ (f i).toInt ≤ b.2
def sArL (ρ : List Int) (b : Int × Int) (ov : List (Nat × sL)) (n : Nat) (f : Nat → Int64) : Prop := ∀ i, i < n → match sLk ov i with
  | some a => ∃ z, sEv ρ a = some z ∧ f i = Int64.ofInt z
  | none => b.1 ≤ (f i).toInt ∧ (f i).toInt ≤ b.2
def sArQ (ov : List (Nat × sL)) (n : Nat) (f : Nat → Option Nat) : Prop := ∀ i, i < n → f i = (sLk ov i).map fun a => a.1.toNat
def sEr (ρ : List Int) (x : sE) (y : eE) : Prop := match x, y with
  | .inl (ty, n, b, ov), .inl (ty', n', arr) => ty' = ty ∧ n' = n ∧ (match arr with
    | .inl f => (ty = .int ∨ ty = .byte ∨ ty = .short) ∧ sArI ρ b ov n f
    | .inr (.inl f) => ty = .long ∧ sArL ρ b ov n f
    | .inr (.inr f) => ty.isReference = true ∧ sArQ ov n f)
  | .inr (ci, fs), .inr (ci', gs) => ci' = ci ∧ sVs ρ fs gs
  | _, _ => False
def sHp (ρ : List Int) : List sE → List eE → Prop
  | [], [] => True
  | x :: xs, y :: ys => sEr ρ x y ∧ sHp ρ xs ys
  | _, _ => False
def sRor (ρ : List Int) : List (Nat × List sL) → List (Nat × (Nat → Int32)) → Prop
  | [], [] => True
  | x :: xs, y :: ys => (y.1 = x.1 ∧ ∀ i, i < x.1 → ∃ a z, x.2[i]? = some a ∧ sEv ρ a = some z ∧ y.2 i = Int32.ofInt z) ∧ sRor ρ xs ys
  | _, _ => False
def sD (ρ : List Int) (S : sR) (R : eR) : Prop := R.1 = S.1 ∧ sLs ρ S.2.1 R.2.1 ∧ sVs ρ S.2.2.1 R.2.2.1 ∧ sHp ρ S.2.2.2.1 R.2.2.2.1 ∧ R.2.2.2.2.1 = S.2.2.2.2.1 ∧ R.2.2.2.2.2 = S.2.2.2.2.2.1
theorem sVr.mono {ρ ρ' : List Int} (h : ρ <+: ρ') {v : sV} {w : Value} (q : sVr ρ v w) : sVr ρ' v w := by
  unfold sVr at q ⊢
  split
  · rename_i h0
    rw [if_pos h0] at q
    obtain ⟨z, e1, e2⟩ := q
    exact ⟨z, sEv_mono h e1, e2⟩
  · rename_i h0
    rw [if_neg h0] at q
    split
    · rename_i h1
      rw [if_pos h1] at q
      obtain ⟨z, e1, e2⟩ := q
      exact ⟨z, sEv_mono h e1, e2⟩
    · rename_i h1
      rw [if_neg h1] at q
      exact q
theorem sVs.mono {ρ ρ' : List Int} (h : ρ <+: ρ') : ∀ {vs : List sV} {ws : List Value}, sVs ρ vs ws → sVs ρ' vs ws
  | [], [], _ => trivial
  | _ :: _, _ :: _, q => ⟨q.1.mono h, q.2.mono h⟩
theorem sLs.mono {ρ ρ' : List Int} (h : ρ <+: ρ') : ∀ {vs : List (Nat × sV)} {ws : List (Nat × Value)}, sLs ρ vs ws → sLs ρ' vs ws
  | [], [], _ => trivial
  | _ :: _, _ :: _, q => ⟨⟨q.1.1, q.1.2.mono h⟩, q.2.mono h⟩
theorem sEr.mono {ρ ρ' : List Int} (h : ρ <+: ρ') {x : sE} {y : eE} (q : sEr ρ x y) : sEr ρ' x y := by
  rcases x with ⟨ty, n, b, ov⟩ | ⟨ci, fs⟩ <;> rcases y with ⟨ty', n', arr⟩ | ⟨cj, gs⟩
  · obtain ⟨h1, h2, h3⟩ := q
    refine ⟨h1, h2, ?_⟩
    rcases arr with f | f | f
    · refine ⟨h3.1, fun i hi => ?_⟩
      have h4 := h3.2 i hi
      split at h4
      · obtain ⟨z, e1, e2⟩ := h4; exact ⟨z, sEv_mono h e1, e2⟩
      · exact h4
    · refine ⟨h3.1, fun i hi => ?_⟩
      have h4 := h3.2 i hi
      split at h4
      · obtain ⟨z, e1, e2⟩ := h4; exact ⟨z, sEv_mono h e1, e2⟩
      · exact h4
    · exact h3
  · exact q.elim
  · exact q.elim
  · exact ⟨q.1, q.2.mono h⟩
theorem sHp.mono {ρ ρ' : List Int} (h : ρ <+: ρ') : ∀ {xs : List sE} {ys : List eE}, sHp ρ xs ys → sHp ρ' xs ys
  | [], [], _ => trivial
  | _ :: _, _ :: _, q => ⟨q.1.mono h, q.2.mono h⟩
theorem sRor.mono {ρ ρ' : List Int} (h : ρ <+: ρ') : ∀ {xs : List (Nat × List sL)} {ys : List (Nat × (Nat → Int32))}, sRor ρ xs ys → sRor ρ' xs ys
  | [], [], _ => trivial
  | _ :: _, _ :: _, q => ⟨⟨q.1.1, fun i hi => by obtain ⟨a, z, e1, e2, e3⟩ := q.1.2 i hi; exact ⟨a, z, e1, sEv_mono h e2, e3⟩⟩, q.2.mono h⟩
theorem sVr_cat {ρ : List Int} {v : sV} {w : Value} (q : sVr ρ v w) : w.category = sCat v := by
  unfold sVr at q
  unfold sCat
  split at q
  · rename_i h; obtain ⟨z, -, rfl⟩ := q; rw [if_neg (by omega)]; rfl
  split at q
  · rename_i h; obtain ⟨z, -, rfl⟩ := q; rw [if_pos h]; rfl
  split at q
  · rename_i h1 h; subst q; rw [if_neg h1]; rfl
  split at q
  · rename_i h1 _ h; subst q; rw [if_neg h1]; rfl
  · exact q.elim
theorem sVr_tag {ρ : List Int} {v : sV} {w : Value} (q : sVr ρ v w) {k : Nat} (hk : v.1 = k) (h3 : k < 3) : eTag w = k := by
  subst hk
  unfold sVr at q
  split at q
  · rename_i h; obtain ⟨z, -, rfl⟩ := q; rw [h]; rfl
  split at q
  · rename_i h; obtain ⟨z, -, rfl⟩ := q; rw [h]; rfl
  split at q
  · rename_i h; subst q; rw [h]; rfl
  · omega
theorem sVr_int {ρ : List Int} {x : sL} {w : Value} (q : sVr ρ (0, x) w) : ∃ z, sEv ρ x = some z ∧ w = .int (Int32.ofInt z) := q
theorem sVr_long {ρ : List Int} {x : sL} {w : Value} (q : sVr ρ (1, x) w) : ∃ z, sEv ρ x = some z ∧ w = .long (Int64.ofInt z) := q
theorem sVr_ref {ρ : List Int} {x : sL} {w : Value} (q : sVr ρ (2, x) w) : w = .ref x.1.toNat := q
theorem sVs_cons {ρ : List Int} {v : sV} {vs : List sV} {ws : List Value} (q : sVs ρ (v :: vs) ws) : ∃ w r, ws = w :: r ∧ sVr ρ v w ∧ sVs ρ vs r := by
  cases ws with
  | nil => exact q.elim
  | cons w r => exact ⟨w, r, rfl, q.1, q.2⟩
theorem sVs_nil {ρ : List Int} {ws : List Value} (q : sVs ρ [] ws) : ws = [] := by
  cases ws with
  | nil => rfl
  | cons w r => exact q.elim
theorem sVs_int {ρ : List Int} {x : sL} {vs : List sV} {ws : List Value} (q : sVs ρ ((0, x) :: vs) ws) : ∃ z r, ws = .int (Int32.ofInt z) :: r ∧ sEv ρ x = some z ∧ sVs ρ vs r := by
  obtain ⟨w, r, rfl, h1, h2⟩ := sVs_cons q
  obtain ⟨z, e1, rfl⟩ := sVr_int h1
  exact ⟨z, r, rfl, e1, h2⟩
theorem sVs_long {ρ : List Int} {x : sL} {vs : List sV} {ws : List Value} (q : sVs ρ ((1, x) :: vs) ws) : ∃ z r, ws = .long (Int64.ofInt z) :: r ∧ sEv ρ x = some z ∧ sVs ρ vs r := by
  obtain ⟨w, r, rfl, h1, h2⟩ := sVs_cons q
  obtain ⟨z, e1, rfl⟩ := sVr_long h1
  exact ⟨z, r, rfl, e1, h2⟩
theorem sVs_ref {ρ : List Int} {x : sL} {vs : List sV} {ws : List Value} (q : sVs ρ ((2, x) :: vs) ws) : ∃ r, ws = .ref x.1.toNat :: r ∧ sVs ρ vs r := by
  obtain ⟨w, r, rfl, h1, h2⟩ := sVs_cons q
  exact ⟨r, by rw [sVr_ref h1], h2⟩
theorem sVs_len {ρ : List Int} : ∀ {vs : List sV} {ws : List Value}, sVs ρ vs ws → ws.length = vs.length
  | [], [], _ => rfl
  | _ :: _, _ :: _, q => congrArg Nat.succ (sVs_len q.2)
theorem sVs_app {ρ : List Int} : ∀ {v1 : List sV} {w1 : List Value} {v2 : List sV} {w2 : List Value}, sVs ρ v1 w1 → sVs ρ v2 w2 → sVs ρ (v1 ++ v2) (w1 ++ w2)
  | [], [], _, _, _, h => h
  | _ :: _, _ :: _, _, _, q, h => ⟨q.1, sVs_app q.2 h⟩
theorem sVs_rev {ρ : List Int} : ∀ {vs : List sV} {ws : List Value}, sVs ρ vs ws → sVs ρ vs.reverse ws.reverse
  | [], [], _ => trivial
  | _ :: _, _ :: _, q => by
    rw [List.reverse_cons, List.reverse_cons]
    exact sVs_app (sVs_rev q.2) ⟨q.1, trivial⟩
theorem sVs_take {ρ : List Int} : ∀ (n : Nat) {vs : List sV} {ws : List Value}, sVs ρ vs ws → sVs ρ (vs.take n) (ws.take n)
  | 0, _, _, _ => by simp only [List.take_zero]; exact trivial
  | _ + 1, [], [], _ => trivial
  | n + 1, _ :: _, _ :: _, q => ⟨q.1, sVs_take n q.2⟩
theorem sVs_drop {ρ : List Int} : ∀ (n : Nat) {vs : List sV} {ws : List Value}, sVs ρ vs ws → sVs ρ (vs.drop n) (ws.drop n)
  | 0, _, _, h => h
  | _ + 1, [], [], _ => trivial
  | n + 1, _ :: _, _ :: _, q => sVs_drop n q.2
theorem sVs_cats {ρ : List Int} : ∀ {vs : List sV} {ws : List Value}, sVs ρ vs ws → (ws.map fun v => v.category) = vs.map sCat
  | [], [], _ => rfl
  | _ :: _, _ :: _, q => by
    rw [List.map_cons, List.map_cons, sVr_cat q.1, sVs_cats q.2]
theorem sVs_get {ρ : List Int} : ∀ {vs : List sV} {ws : List Value}, sVs ρ vs ws → ∀ {k : Nat} {v : sV}, vs[k]? = some v → ∃ w, ws[k]? = some w ∧ sVr ρ v w
  | [], [], _, k, v, h => by cases h
  | _ :: _, w :: _, q, 0, v, h => by
    cases h
    exact ⟨w, rfl, q.1⟩
  | _ :: _, _ :: _, q, k + 1, v, h => sVs_get q.2 (k := k) h
theorem sVs_set {ρ : List Int} {v : sV} {w : Value} (hv : sVr ρ v w) : ∀ {vs : List sV} {ws : List Value} (k : Nat), sVs ρ vs ws → sVs ρ (vs.set k v) (ws.set k w)
  | [], [], _, _ => trivial
  | _ :: _, _ :: _, 0, q => ⟨hv, q.2⟩
  | _ :: _, _ :: _, k + 1, q => ⟨q.1, sVs_set hv k q.2⟩
def sGetL (ls : List (Nat × sV)) (i : Nat) : Option sV := (ls.find? (fun q => q.1 == i)).map (fun q => q.2)
theorem sLs_get {ρ : List Int} : ∀ {vs : List (Nat × sV)} {ws : List (Nat × Value)}, sLs ρ vs ws → ∀ {i : Nat} {v : sV}, sGetL vs i = some v → ∃ w, eGetL ws i = some w ∧ sVr ρ v w
  | [], [], _, i, v, h => by cases h
  | p :: vs, q :: ws, hq, i, v, h => by
    have e : (q.1 == i) = (p.1 == i) := by rw [hq.1.1]
    by_cases hp : (p.1 == i) = true
    · simp only [sGetL, List.find?_cons, hp, Option.map_some] at h
      cases h
      refine ⟨q.2, ?_, hq.1.2⟩
      simp only [eGetL, List.find?_cons, e, hp, Option.map_some]
    · have h' : sGetL vs i = some v := by
        simp only [sGetL, List.find?_cons] at h ⊢
        simpa [hp] using h
      obtain ⟨w, h1, h2⟩ := sLs_get hq.2 h'
      refine ⟨w, ?_, h2⟩
      simp only [eGetL, List.find?_cons] at h1 ⊢
      simpa [e, hp] using h1
theorem sLs_filter {ρ : List Int} (f : Nat × sV → Bool) (g : Nat × Value → Bool) (hf : ∀ (p : Nat × sV) (q : Nat × Value), q.1 = p.1 → q.2.category = sCat p.2 → f p = g q) : ∀ {vs : List (Nat × sV)} {ws : List (Nat × Value)}, sLs ρ vs ws → sLs ρ (vs.filter f) (ws.filter g)
  | [], [], _ => trivial
  | p :: vs, q :: ws, h => by
    have e := hf p q h.1.1 (sVr_cat h.1.2)
    rw [List.filter_cons, List.filter_cons, ← e]
    split
    · exact ⟨h.1, sLs_filter f g hf h.2⟩
    · exact sLs_filter f g hf h.2
def sSt1 (ls : List (Nat × sV)) (i : Nat) (v : sV) : List (Nat × sV) := (i, v) :: ls.filter (fun q => !(q.1 == i) && !(q.1 + 1 == i && sCat q.2 == 2))
def sSt2 (ls : List (Nat × sV)) (i : Nat) (v : sV) : List (Nat × sV) := (i, v) :: ls.filter (fun q => !(q.1 == i) && (!(q.1 == i + 1) && !(q.1 + 1 == i && sCat q.2 == 2)))
theorem sLs_st1 {ρ : List Int} {vs : List (Nat × sV)} {ws : List (Nat × Value)} (h : sLs ρ vs ws) {i : Nat} {v : sV} {w : Value} (hv : sVr ρ v w) : sLs ρ (sSt1 vs i v) (eSt1 ws i w) :=
  ⟨⟨rfl, hv⟩, sLs_filter _ _ (fun p q h1 h2 => by rw [h1, h2]) h⟩
theorem sLs_st2 {ρ : List Int} {vs : List (Nat × sV)} {ws : List (Nat × Value)} (h : sLs ρ vs ws) {i : Nat} {v : sV} {w : Value} (hv : sVr ρ v w) : sLs ρ (sSt2 vs i v) (eSt2 ws i w) :=
  ⟨⟨rfl, hv⟩, sLs_filter _ _ (fun p q h1 h2 => by rw [h1, h2]) h⟩
def sArgs : Nat → List sV → List (Nat × sV)
  | _, [] => []
  | i, v :: vs => (i, v) :: sArgs (if sCat v = 2 then i + 2 else i + 1) vs
theorem sLs_args {ρ : List Int} : ∀ (i : Nat) {vs : List sV} {ws : List Value}, sVs ρ vs ws → sLs ρ (sArgs i vs) (lv_args i ws)
  | _, [], [], _ => trivial
  | i, v :: vs, w :: ws, h => by
    simp only [lv_args, sArgs]
    rw [sVr_cat h.1]
    exact ⟨⟨rfl, h.1⟩, sLs_args _ h.2⟩
theorem sHp_len {ρ : List Int} : ∀ {xs : List sE} {ys : List eE}, sHp ρ xs ys → ys.length = xs.length
  | [], [], _ => rfl
  | _ :: _, _ :: _, q => congrArg Nat.succ (sHp_len q.2)
theorem sHp_get {ρ : List Int} : ∀ {xs : List sE} {ys : List eE}, sHp ρ xs ys → ∀ {k : Nat} {x : sE}, xs[k]? = some x → ∃ y, ys[k]? = some y ∧ sEr ρ x y
  | [], [], _, k, v, h => by cases h
  | _ :: _, w :: _, q, 0, v, h => by
    cases h
    exact ⟨w, rfl, q.1⟩
  | _ :: _, _ :: _, q, k + 1, v, h => sHp_get q.2 (k := k) h
theorem sHp_set {ρ : List Int} {x : sE} {y : eE} (hv : sEr ρ x y) : ∀ {xs : List sE} {ys : List eE} (k : Nat), sHp ρ xs ys → sHp ρ (xs.set k x) (ys.set k y)
  | [], [], _, _ => trivial
  | _ :: _, _ :: _, 0, q => ⟨hv, q.2⟩
  | _ :: _, _ :: _, k + 1, q => ⟨q.1, sHp_set hv k q.2⟩
theorem sHp_app {ρ : List Int} : ∀ {v1 : List sE} {w1 : List eE} {v2 : List sE} {w2 : List eE}, sHp ρ v1 w1 → sHp ρ v2 w2 → sHp ρ (v1 ++ v2) (w1 ++ w2)
  | [], [], _, _, _, h => h
  | _ :: _, _ :: _, _, _, q, h => ⟨q.1, sHp_app q.2 h⟩
theorem sRor_len {ρ : List Int} : ∀ {xs : List (Nat × List sL)} {ys : List (Nat × (Nat → Int32))}, sRor ρ xs ys → ys.length = xs.length
  | [], [], _ => rfl
  | _ :: _, _ :: _, q => congrArg Nat.succ (sRor_len q.2)
theorem sRor_get {ρ : List Int} : ∀ {xs : List (Nat × List sL)} {ys : List (Nat × (Nat → Int32))}, sRor ρ xs ys → ∀ {k : Nat} {x : Nat × List sL}, xs[k]? = some x → ∃ y, ys[k]? = some y ∧ y.1 = x.1 ∧ ∀ i, i < x.1 → ∃ a z, x.2[i]? = some a ∧ sEv ρ a = some z ∧ y.2 i = Int32.ofInt z
  | [], [], _, k, v, h => by cases h
  | _ :: _, w :: _, q, 0, v, h => by
    cases h
    exact ⟨w, rfl, q.1.1, q.1.2⟩
  | _ :: _, _ :: _, q, k + 1, v, h => sRor_get q.2 (k := k) h
