/-! The abstract heap against the machine's: values, locals, cells, worlds. 'ads': the addresses of the abstract heap's cells. -/
def eV (ads : List Nat) (v w : Value) : Prop := match v with
  | .ref k => ∃ a, ads[k]? = some a ∧ w = .ref a
  | v => w = v
def eVs (ads : List Nat) : List Value → List Value → Prop
  | [], [] => True
  | v :: vs, w :: ws => eV ads v w ∧ eVs ads vs ws
  | _, _ => False
def eLs (ads : List Nat) : List (Nat × Value) → List (Nat × Value) → Prop
  | [], [] => True
  | v :: vs, w :: ws => (v.1 = w.1 ∧ eV ads v.2 w.2) ∧ eLs ads vs ws
  | _, _ => False
def eO (ads : List Nat) (r t : Option Nat) : Prop := match r with
  | none => t = none
  | some k => ∃ a, ads[k]? = some a ∧ t = some a
def eAr (ads : List Nat) (n : Nat) (x : eA) (y : (Nat → Int32) ⊕ (Nat → Int64) ⊕ (Nat → UInt32) ⊕ (Nat → UInt64) ⊕ (Nat → Option Nat)) : Prop := match x with
  | .inl f => y = .inl f
  | .inr (.inl f) => y = .inr (.inl f)
  | .inr (.inr f) => ∃ g, y = .inr (.inr (.inr (.inr g))) ∧ ∀ i, i < n → eO ads (f i) (g i)
def eEn (tys : List (ClassId × FieldType)) (ads : List Nat) (x : eE) (y : va_E) : Prop := match x with
  | .inl (ty, n, u) => ∃ (cA : ClassId) (t : Nat) (w : _), y = .inl (cA, n, w) ∧ tys[t]? = some (cA, ty) ∧ eAr ads n u w
  | .inr (ci, fs) => ∃ gs, y = .inr (ci, gs) ∧ eVs ads fs gs
def eHp (tys : List (ClassId × FieldType)) (ads : List Nat) (G : List eE) (ws : va_W) : Prop := G.length = ws.length ∧ ∀ (k : Nat) (x : eE) (y : Nat × va_E), G[k]? = some x → ws[k]? = some y → eEn tys ads x y.2
theorem eV.mono {a1 a2 : List Nat} (h : a1 <+: a2) {v w : Value} (hv : eV a1 v w) : eV a2 v w := by
  obtain ⟨t, rfl⟩ := h
  cases v with
  | ref k =>
    obtain ⟨a, h1, h2⟩ := hv
    exact ⟨a, by rw [List.getElem?_append_left (List.getElem?_eq_some_iff.mp h1).1]; exact h1, h2⟩
  | _ => exact hv
theorem eVs.mono {a1 a2 : List Nat} (h : a1 <+: a2) : ∀ {vs ws : List Value}, eVs a1 vs ws → eVs a2 vs ws
  | [], [], _ => trivial
  | _ :: _, _ :: _, q => ⟨q.1.mono h, q.2.mono h⟩
theorem eLs.mono {a1 a2 : List Nat} (h : a1 <+: a2) : ∀ {vs ws : List (Nat × Value)}, eLs a1 vs ws → eLs a2 vs ws
  | [], [], _ => trivial
  | _ :: _, _ :: _, q => ⟨⟨q.1.1, q.1.2.mono h⟩, q.2.mono h⟩
theorem eO.mono {a1 a2 : List Nat} (h : a1 <+: a2) {r t : Option Nat} (q : eO a1 r t) : eO a2 r t := by
  obtain ⟨u, rfl⟩ := h
  cases r with
  | none => exact q
  | some k =>
    obtain ⟨a, h1, h2⟩ := q
    exact ⟨a, by rw [List.getElem?_append_left (List.getElem?_eq_some_iff.mp h1).1]; exact h1, h2⟩
theorem eAr.mono {a1 a2 : List Nat} (h : a1 <+: a2) {n : Nat} {x : eA} {y} (q : eAr a1 n x y) : eAr a2 n x y := by
  rcases x with f | f | f
  · exact q
  · exact q
  · obtain ⟨g, h1, h2⟩ := q
    exact ⟨g, h1, fun i hi => (h2 i hi).mono h⟩
theorem eEn.mono {t1 t2 : List (ClassId × FieldType)} {a1 a2 : List Nat} (ht : t1 <+: t2) (h : a1 <+: a2) {x : eE} {y : va_E} (q : eEn t1 a1 x y) : eEn t2 a2 x y := by
  obtain ⟨u, rfl⟩ := ht
  rcases x with ⟨ty, n, f⟩ | ⟨ci, fs⟩
  · obtain ⟨cA, t, w, h1, h2, h3⟩ := q
    exact ⟨cA, t, w, h1, by rw [List.getElem?_append_left (List.getElem?_eq_some_iff.mp h2).1]; exact h2, h3.mono h⟩
  · obtain ⟨gs, h1, h2⟩ := q
    exact ⟨gs, h1, h2.mono h⟩
theorem eV_cat {ads : List Nat} {v w : Value} (h : eV ads v w) : w.category = v.category := by
  cases v with
  | ref k =>
    obtain ⟨a, -, rfl⟩ := h
    rfl
  | _ =>
    have h : w = _ := h
    rw [h]
theorem eVs_int {ads : List Nat} {x : Int32} {vs ws : List Value} (h : eVs ads (.int x :: vs) ws) : ∃ r, ws = .int x :: r ∧ eVs ads vs r := by
  cases ws with
  | nil => exact h.elim
  | cons w r => exact ⟨r, by rw [show w = .int x from h.1], h.2⟩
theorem eVs_long {ads : List Nat} {x : Int64} {vs ws : List Value} (h : eVs ads (.long x :: vs) ws) : ∃ r, ws = .long x :: r ∧ eVs ads vs r := by
  cases ws with
  | nil => exact h.elim
  | cons w r => exact ⟨r, by rw [show w = .long x from h.1], h.2⟩
theorem eVs_ref {ads : List Nat} {k : Nat} {vs ws : List Value} (h : eVs ads (.ref k :: vs) ws) : ∃ a r, ws = .ref a :: r ∧ ads[k]? = some a ∧ eVs ads vs r := by
  cases ws with
  | nil => exact h.elim
  | cons w r =>
    obtain ⟨⟨a, h1, h2⟩, h3⟩ := h
    exact ⟨a, r, by rw [h2], h1, h3⟩
theorem eVs_cons {ads : List Nat} {v : Value} {vs ws : List Value} (h : eVs ads (v :: vs) ws) : ∃ w r, ws = w :: r ∧ eV ads v w ∧ eVs ads vs r := by
  cases ws with
  | nil => exact h.elim
  | cons w r => exact ⟨w, r, rfl, h.1, h.2⟩
theorem eVs_nil {ads : List Nat} {ws : List Value} (h : eVs ads [] ws) : ws = [] := by
  cases ws with
  | nil => rfl
  | cons w r => exact h.elim
theorem eVs_len {ads : List Nat} : ∀ {vs ws : List Value}, eVs ads vs ws → vs.length = ws.length
  | [], [], _ => rfl
  | _ :: _, _ :: _, q => congrArg Nat.succ (eVs_len q.2)
theorem eVs_app {ads : List Nat} : ∀ {v1 w1 v2 w2 : List Value}, eVs ads v1 w1 → eVs ads v2 w2 → eVs ads (v1 ++ v2) (w1 ++ w2)
  | [], [], _, _, _, h => h
  | _ :: _, _ :: _, _, _, q, h => ⟨q.1, eVs_app q.2 h⟩
theorem eVs_rev {ads : List Nat} : ∀ {vs ws : List Value}, eVs ads vs ws → eVs ads vs.reverse ws.reverse
  | [], [], _ => trivial
  | _ :: _, _ :: _, q => by
    rw [List.reverse_cons, List.reverse_cons]
    exact eVs_app (eVs_rev q.2) ⟨q.1, trivial⟩
theorem eVs_take {ads : List Nat} : ∀ (n : Nat) {vs ws : List Value}, eVs ads vs ws → eVs ads (vs.take n) (ws.take n)
  | 0, _, _, _ => by simp only [List.take_zero]; exact trivial
  | _ + 1, [], [], _ => trivial
  | n + 1, _ :: _, _ :: _, q => ⟨q.1, eVs_take n q.2⟩
theorem eVs_drop {ads : List Nat} : ∀ (n : Nat) {vs ws : List Value}, eVs ads vs ws → eVs ads (vs.drop n) (ws.drop n)
  | 0, _, _, h => h
  | _ + 1, [], [], _ => trivial
  | n + 1, _ :: _, _ :: _, q => eVs_drop n q.2
theorem eVs_cats {ads : List Nat} : ∀ {vs ws : List Value}, eVs ads vs ws → (ws.map fun v => v.category) = (vs.map fun v => v.category)
  | [], [], _ => rfl
  | _ :: _, _ :: _, q => by
    rw [List.map_cons, List.map_cons, eV_cat q.1, eVs_cats q.2]
theorem eVs_get {ads : List Nat} : ∀ {vs ws : List Value}, eVs ads vs ws → ∀ {k : Nat} {v : Value}, vs[k]? = some v → ∃ w, ws[k]? = some w ∧ eV ads v w
  | [], [], _, k, v, h => by cases h
  | _ :: _, w :: _, q, 0, v, h => by
    cases h
    exact ⟨w, rfl, q.1⟩
  | _ :: _, _ :: _, q, k + 1, v, h => eVs_get q.2 (k := k) h
theorem eVs_set {ads : List Nat} {v w : Value} (hv : eV ads v w) : ∀ {vs ws : List Value} (k : Nat), eVs ads vs ws → eVs ads (vs.set k v) (ws.set k w)
  | [], [], _, _ => trivial
  | _ :: _, _ :: _, 0, q => ⟨hv, q.2⟩
  | _ :: _, _ :: _, k + 1, q => ⟨q.1, eVs_set hv k q.2⟩
theorem eLs_get {ads : List Nat} : ∀ {vs ws : List (Nat × Value)}, eLs ads vs ws → ∀ {i : Nat} {v : Value}, eGetL vs i = some v → ∃ w, (i, w) ∈ ws ∧ eV ads v w
  | [], [], _, i, v, h => by cases h
  | p :: vs, q :: ws, hq, i, v, h => by
    by_cases hp : (p.1 == i) = true
    · simp only [eGetL, List.find?_cons, hp, Option.map_some] at h
      cases h
      refine ⟨q.2, ?_, hq.1.2⟩
      have e : i = q.1 := by rw [← hq.1.1]; exact (beq_iff_eq.mp hp).symm
      rw [e]
      exact List.mem_cons_self
    · have h' : eGetL vs i = some v := by
        simp only [eGetL, List.find?_cons] at h ⊢
        simpa [hp] using h
      obtain ⟨w, h1, h2⟩ := eLs_get hq.2 h'
      exact ⟨w, List.mem_cons_of_mem _ h1, h2⟩
theorem eLs_filter {ads : List Nat} (f : Nat × Value → Bool) (hf : ∀ p q : Nat × Value, p.1 = q.1 → q.2.category = p.2.category → f p = f q) : ∀ {vs ws : List (Nat × Value)}, eLs ads vs ws → eLs ads (vs.filter f) (ws.filter f)
  | [], [], _ => trivial
  | p :: vs, q :: ws, h => by
    have e := hf p q h.1.1 (eV_cat h.1.2)
    rw [List.filter_cons, List.filter_cons, ← e]
    split
    · exact ⟨h.1, eLs_filter f hf h.2⟩
    · exact eLs_filter f hf h.2
theorem eLs_st1 {ads : List Nat} {vs ws : List (Nat × Value)} (h : eLs ads vs ws) {i : Nat} {v w : Value} (hv : eV ads v w) : eLs ads (eSt1 vs i v) ((i, w) :: ws.filter (fun q => !(q.1 == i) && !(q.1 + 1 == i && q.2.category == 2))) :=
  ⟨⟨rfl, hv⟩, eLs_filter _ (fun p q h1 h2 => by rw [h1, h2]) h⟩
theorem eLs_st2 {ads : List Nat} {vs ws : List (Nat × Value)} (h : eLs ads vs ws) {i : Nat} {v w : Value} (hv : eV ads v w) : eLs ads (eSt2 vs i v) ((i, w) :: ws.filter (fun q => !(q.1 == i) && (!(q.1 == i + 1) && !(q.1 + 1 == i && q.2.category == 2)))) :=
  ⟨⟨rfl, hv⟩, eLs_filter _ (fun p q h1 h2 => by rw [h1, h2]) h⟩
theorem eLs_args {ads : List Nat} : ∀ (i : Nat) {vs ws : List Value}, eVs ads vs ws → eLs ads (lv_args i vs) (lv_args i ws)
  | _, [], [], _ => trivial
  | i, v :: vs, w :: ws, h => by
    simp only [lv_args]
    rw [eV_cat h.1]
    exact ⟨⟨rfl, h.1⟩, eLs_args _ h.2⟩
theorem eHp_at {tys : List (ClassId × FieldType)} {ads : List Nat} {G : List eE} {ws : va_W} (h : eHp tys ads G ws) {k : Nat} {x : eE} (hk : G[k]? = some x) : ∃ y, ws[k]? = some y ∧ eEn tys ads x y.2 := by
  have h1 : k < ws.length := by rw [← h.1]; exact (List.getElem?_eq_some_iff.mp hk).1
  exact ⟨ws[k], List.getElem?_eq_getElem h1, h.2 k x _ hk (List.getElem?_eq_getElem h1)⟩
theorem eHp_set {tys : List (ClassId × FieldType)} {ads : List Nat} {G : List eE} {ws : va_W} (h : eHp tys ads G ws) {k : Nat} {x : eE} {y : Nat × va_E} (hx : eEn tys ads x y.2) : eHp tys ads (G.set k x) (ws.set k y) := by
  refine ⟨by rw [List.length_set, List.length_set]; exact h.1, fun j u v h1 h2 => ?_⟩
  by_cases hj : k = j
  · subst hj
    have l1 : k < G.length := by have := (List.getElem?_eq_some_iff.mp h1).1; rwa [List.length_set] at this
    rw [List.getElem?_set_self l1] at h1
    rw [List.getElem?_set_self (by rw [← h.1]; exact l1)] at h2
    cases h1; cases h2
    exact hx
  · rw [List.getElem?_set_ne hj] at h1 h2
    exact h.2 j u v h1 h2
theorem eHp_app {t1 t2 : List (ClassId × FieldType)} {a1 a2 : List Nat} {G G2 : List eE} {ws w2 : va_W} (ht : t1 <+: t2) (ha : a1 <+: a2) (h : eHp t1 a1 G ws) (h2 : eHp t2 a2 G2 w2) : eHp t2 a2 (G ++ G2) (ws ++ w2) := by
  refine ⟨by rw [List.length_append, List.length_append, h.1, h2.1], fun j u v q1 q2 => ?_⟩
  by_cases hj : j < G.length
  · rw [List.getElem?_append_left hj] at q1
    rw [List.getElem?_append_left (by rw [← h.1]; exact hj)] at q2
    exact (h.2 j u v q1 q2).mono ht ha
  · rw [List.getElem?_append_right (by omega)] at q1
    rw [List.getElem?_append_right (by rw [← h.1]; omega), ← h.1] at q2
    exact h2.2 _ u v q1 q2
theorem eMapSet {ws : va_W} {k a : Nat} {e0 e : va_E} (h : ws[k]? = some (a, e0)) : (ws.set k (a, e)).map Prod.fst = ws.map Prod.fst := by
  rw [List.map_set]
  apply List.ext_getElem?
  intro j
  by_cases hj : k = j
  · subst hj
    have hl := (List.getElem?_eq_some_iff.mp h).1
    rw [List.getElem?_set_self (by rw [List.length_map]; exact hl), List.getElem?_map, h]
    rfl
  · rw [List.getElem?_set_ne hj]
theorem eAt {roA : List Nat} {ws : va_W} {q a nr : Nat} (hn : roA.length = nr) (hq : ¬ q < nr) (h : (roA ++ ws.map Prod.fst)[q]? = some a) {y : Nat × va_E} (hy : ws[q - nr]? = some y) : y.1 = a := by
  rw [List.getElem?_append_right (by omega), hn, List.getElem?_map, hy] at h
  exact Option.some.inj h
theorem eAtR {roA as : List Nat} {q a : Nat} (hq : q < roA.length) (h : (roA ++ as)[q]? = some a) : roA[q]? = some a := by
  rw [List.getElem?_append_left hq] at h
  exact h
theorem eIn_of {i : Int32} {n : Nat} (h : eIn i n = true) : vp_in i n := by
  simp only [eIn, Bool.and_eq_true, Bool.not_eq_true', decide_eq_false_iff_not, decide_eq_true_eq] at h
  intro q
  rcases q with q | q
  · exact h.1 q
  · exact absurd h.2 (Nat.not_lt.mpr q)
