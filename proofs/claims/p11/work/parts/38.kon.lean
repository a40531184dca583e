/-! K: states with atoms; what a contract is. -/
noncomputable section
/-- an atom: which, of which numbers -/
abbrev kA : Type := Nat × List sL
abbrev kS : Type := sR × List kA
/-- an end of a contract: bounds and facts (the template's first), stack, told cells, atoms -/
abbrev kU : Type := sG × List sV × List (Nat × sE) × List kA
/-- a contract: method, place; (locals, told cells, bounds and facts, atoms); ends; (depth, level, rank); cells that may change, counts -/
abbrev kC : Type := (Nat × Nat) × (List (Nat × sV) × List (Nat × sE) × sG × List kA) × List kU × (sL × Nat × sL) × List Nat × Nat × Nat
def sIsAny : sE := .inr (999, [])
/-- sHp, place by place -/
theorem sHp_at {ρ : List Int} : ∀ {xs : List sE} {ys : List eE}, sHp ρ xs ys ↔ ys.length = xs.length ∧ ∀ (k : Nat) (x : sE) (y : eE), xs[k]? = some x → ys[k]? = some y → sIsA x = true ∨ sEr ρ x y
  | [], [] => ⟨fun _ => ⟨rfl, fun k x y h _ => by simp at h⟩, fun _ => trivial⟩
  | [], _ :: _ => ⟨fun h => h.elim, fun h => by simp at h⟩
  | _ :: _, [] => ⟨fun h => h.elim, fun h => by simp at h⟩
  | a :: xs, b :: ys => by
    have ih := sHp_at (ρ := ρ) (xs := xs) (ys := ys)
    constructor
    · rintro ⟨h1, h2⟩
      obtain ⟨h3, h4⟩ := ih.mp h2
      refine ⟨congrArg Nat.succ h3, fun k x y hx hy => ?_⟩
      cases k with
      | zero => simp at hx hy; subst hx; subst hy; exact h1
      | succ k => exact h4 k x y (by simpa using hx) (by simpa using hy)
    · rintro ⟨h1, h2⟩
      exact ⟨h2 0 a b rfl rfl, ih.mpr ⟨by simpa using h1, fun k x y hx hy => h2 (k + 1) x y (by simpa using hx) (by simpa using hy)⟩⟩
/-- cells of which nothing is told any more -/
def kForget (md : List Nat) (G : List sE) : List sE := md.foldl (fun G j => G.set j sIsAny) G
theorem kForget_len : ∀ (md : List Nat) (G : List sE), (kForget md G).length = G.length
  | [], _ => rfl
  | j :: r, G => by
    have := kForget_len r (G.set j sIsAny)
    rw [List.length_set] at this
    exact this
theorem kForget_at {k : Nat} : ∀ (md : List Nat) (G : List sE) (x : sE), (kForget md G)[k]? = some x → sIsA x = true ∨ (md.contains k = false ∧ G[k]? = some x)
  | [], G, x, h => Or.inr ⟨rfl, h⟩
  | j :: r, G, x, h => by
    rcases kForget_at r (G.set j sIsAny) x h with h1 | ⟨h1, h2⟩
    · exact Or.inl h1
    · by_cases hjk : j = k
      · subst hjk
        have hl : j < (G.set j sIsAny).length := (List.getElem?_eq_some_iff.mp h2).1
        rw [List.length_set] at hl
        rw [List.getElem?_set_self hl] at h2
        cases h2
        exact Or.inl rfl
      · rw [List.getElem?_set_ne hjk] at h2
        refine Or.inr ⟨?_, h2⟩
        rw [List.contains_cons, h1, Bool.or_false]
        simpa using fun e : k = j => hjk e.symm
theorem kForget_ok {ρ : List Int} {md : List Nat} {G : List sE} {H H' : List eE} (h : sHp ρ G H) (hl : H'.length = H.length) (hf : ∀ j, md.contains j = false → H'[j]? = H[j]?) : sHp ρ (kForget md G) H' := by
  obtain ⟨h1, h2⟩ := sHp_at.mp h
  refine sHp_at.mpr ⟨by rw [kForget_len, hl, h1], fun k x y hx hy => ?_⟩
  rcases kForget_at md G x hx with h3 | ⟨h3, h4⟩
  · exact Or.inl h3
  · rw [hf k h3] at hy
    exact h2 k x y h4 hy
/-- told cells, laid into a heap -/
def kLay (cs : List (Nat × sE)) (G : List sE) : List sE := cs.foldl (fun G q => G.set q.1 q.2) G
theorem kLay_ok {ρ : List Int} {H : List eE} : ∀ {cs : List (Nat × sE)} {G : List sE}, sHp ρ G H → (∀ q ∈ cs, ∃ y, H[q.1]? = some y ∧ sEr ρ q.2 y) → sHp ρ (kLay cs G) H
  | [], _, h, _ => h
  | q :: r, G, h, hc => by
    obtain ⟨y, h1, h2⟩ := hc q List.mem_cons_self
    have h3 := sHp_set h2 q.1 h
    rw [sSet_self h1] at h3
    show sHp ρ (kLay r (G.set q.1 q.2)) H
    exact kLay_ok h3 fun p hp => hc p (List.mem_cons_of_mem _ hp)
def kIn (md : List Nat) (k : Nat) : Bool := @List.rec Nat (fun _ => Bool) false (fun j _ ih => @Bool.rec (fun _ => Bool) ih true (Nat.beq j k)) md
theorem kIn_ff {k : Nat} : ∀ {md : List Nat}, kIn md k = false → md.contains k = false
  | [], _ => rfl
  | j :: r, h => by
    have h : @Bool.rec (fun _ => Bool) (kIn r k) true (Nat.beq j k) = false := h
    cases hb : Nat.beq j k with
    | true => rw [hb] at h; cases h
    | false =>
      rw [hb] at h
      have hne : j ≠ k := fun e => by rw [e, Nat.beq_refl] at hb; cases hb
      rw [List.contains_cons, kIn_ff (md := r) h, Bool.or_false]
      simpa using fun e : k = j => hne e.symm
def kFi (cs : List (Nat × sE)) (k : Nat) : Option sE := @List.rec (Nat × sE) (fun _ => Option sE) none (fun q _ ih => @Bool.rec (fun _ => Option sE) ih (some q.2) (Nat.beq q.1 k)) cs
theorem kFi_in {cs : List (Nat × sE)} {k : Nat} {x : sE} (h : kFi cs k = some x) : (k, x) ∈ cs := by
  have h : (cs.find? (fun q => q.1 == k)).map (fun q => q.2) = some x := (sFnd k cs).symm.trans h
  obtain ⟨q, h1, rfl⟩ := Option.map_eq_some_iff.mp h
  have h2 := List.find?_some h1
  have e : q.1 = k := by simpa using h2
  subst e
  exact List.mem_of_find?_eq_some h1
/-- a cell after told cells are laid and others forgotten -/
def kSel (md : List Nat) (cs : List (Nat × sE)) (k : Nat) (g : sE) : sE := @Option.rec sE (fun _ => sE) (@Bool.rec (fun _ => sE) g sIsAny (kIn md k)) (fun x => x) (kFi cs k)
def kFgl (md : List Nat) (cs : List (Nat × sE)) (G : List sE) : Nat → List sE := @List.rec sE (fun _ => Nat → List sE) (fun _ => []) (fun g _ ih k => kSel md cs k g :: ih (k + 1)) G
theorem kFgl_at (md : List Nat) (cs : List (Nat × sE)) : ∀ (G : List sE) (n k : Nat), (kFgl md cs G n)[k]? = (G[k]?).map (kSel md cs (n + k))
  | [], _, _ => rfl
  | g :: r, n, 0 => rfl
  | g :: r, n, k + 1 => by
    have ih := kFgl_at md cs r (n + 1) k
    show (kSel md cs n g :: kFgl md cs r (n + 1))[k + 1]? = _
    rw [List.getElem?_cons_succ, List.getElem?_cons_succ, ih]
    congr 2
    omega
theorem kFgl_len (md : List Nat) (cs : List (Nat × sE)) : ∀ (G : List sE) (n : Nat), (kFgl md cs G n).length = G.length
  | [], _ => rfl
  | _ :: r, n => congrArg Nat.succ (kFgl_len md cs r (n + 1))
theorem kFgl_ok {ρ : List Int} {md : List Nat} {cs : List (Nat × sE)} {G : List sE} {H H' : List eE} (h : sHp ρ G H) (hl : H'.length = H.length) (hf : ∀ j, md.contains j = false → H'[j]? = H[j]?) (hc : ∀ q ∈ cs, ∃ y, H'[q.1]? = some y ∧ sEr ρ q.2 y) : sHp ρ (kFgl md cs G 0) H' := by
  obtain ⟨h1, h2⟩ := sHp_at.mp h
  refine sHp_at.mpr ⟨by rw [kFgl_len, hl, h1], fun k x y hx hy => ?_⟩
  rw [kFgl_at, Nat.zero_add] at hx
  obtain ⟨g, hg, rfl⟩ := Option.map_eq_some_iff.mp hx
  unfold kSel
  cases hi : kFi cs k with
  | some z =>
    obtain ⟨y', h3, h4⟩ := hc _ (kFi_in hi)
    cases h3.symm.trans hy
    exact Or.inr h4
  | none =>
    show sIsA (@Bool.rec (fun _ => sE) g sIsAny (kIn md k)) = true ∨ sEr ρ (@Bool.rec (fun _ => sE) g sIsAny (kIn md k)) y
    cases hm : kIn md k with
    | true => exact Or.inl rfl
    | false =>
      rw [hf k (kIn_ff hm)] at hy
      exact h2 k g y hg hy
theorem kLay_len : ∀ (cs : List (Nat × sE)) (G : List sE), (kLay cs G).length = G.length
  | [], _ => rfl
  | q :: r, G => by
    have := kLay_len r (G.set q.1 q.2)
    rw [List.length_set] at this
    exact this
theorem kAnyHp {ρ : List Int} : ∀ {H : List eE}, sHp ρ (List.replicate H.length sIsAny) H
  | [] => trivial
  | _ :: r => ⟨Or.inl rfl, kAnyHp (H := r)⟩
/-- forms, over a caller's -/
def kSub (σ : List sL) (fs : List sL) : Option (List sL) := sPF σ fs
theorem sVal_sub {ρ vs : List Int} {σ : List sL} (hv : sVal ρ σ = some vs) : ∀ {fs gs : List sL} {zs : List Int}, sPF σ fs = some gs → sVal vs fs = some zs → sVal ρ gs = some zs
  | [], gs, zs, h, hz => by cases h; cases hz; rfl
  | f :: r, gs, zs, h, hz => by
    simp only [sPF] at h
    simp only [sVal] at hz
    split at h
    · rename_i g r' hg hr
      cases h
      split at hz
      · rename_i z zs' e1 e2
        cases hz
        simp only [sVal, sSubst_ev hv hg e1, sVal_sub hv hr e2]
      · cases hz
    · cases h
theorem sVal_subR {ρ vs : List Int} {σ : List sL} (hv : sVal ρ σ = some vs) : ∀ {fs gs : List sL} {zs : List Int}, sPF σ fs = some gs → sVal ρ gs = some zs → sVal vs fs = some zs
  | [], gs, zs, h, hz => by cases h; cases hz; rfl
  | f :: r, gs, zs, h, hz => by
    simp only [sPF] at h
    split at h
    · rename_i g r' hg hr
      cases h
      simp only [sVal] at hz
      split at hz
      · rename_i z zs' e1 e2
        cases hz
        obtain ⟨y, e3, e4⟩ := sSubst_has hv hg
        cases e1.symm.trans e4
        simp only [sVal, e3, sVal_subR hv hr e2]
      · cases hz
    · cases h
section KDEF
variable (GP : Nat → List Int → List eE → Prop)
def kGh (ρ : List Int) (γ : List kA) (H : List eE) : Prop := ∀ q ∈ γ, ∃ zs, sVal ρ q.2 = some zs ∧ GP q.1 zs H
def kD (ρ : List Int) (K : kS) (R : eR) : Prop := sMo ρ K.1.2.2.2.2.2.2 ∧ sD ρ K.1 R ∧ kGh GP ρ K.2 R.2.2.2.1
/-- at an end: all but place and locals -/
def kE (ρ : List Int) (K : kS) (R : eR) : Prop := sMo ρ K.1.2.2.2.2.2.2 ∧ sVs ρ K.1.2.2.1 R.2.2.1 ∧ sHp ρ K.1.2.2.2.1 R.2.2.2.1 ∧ (R.2.2.2.2.1 = K.1.2.2.2.2.1 ∧ R.2.2.2.2.2 = K.1.2.2.2.2.2.1) ∧ kGh GP ρ K.2 R.2.2.2.1
theorem kGh.mono {ρ ρ' : List Int} (h : ρ <+: ρ') {γ : List kA} {H : List eE} (q : kGh GP ρ γ H) : kGh GP ρ' γ H := fun a ha => by
  obtain ⟨zs, h1, h2⟩ := q a ha
  exact ⟨zs, sVal_mono h h1, h2⟩
theorem kD.toE {ρ : List Int} {K : kS} {R : eR} (h : kD GP ρ K R) : kE GP ρ K R := ⟨h.1, h.2.1.2.2.1, h.2.1.2.2.2.1, h.2.1.2.2.2.2, h.2.2⟩
/-- told cells of a heap -/
def kCe (ρ : List Int) (cs : List (Nat × sE)) (H : List eE) : Prop := ∀ q ∈ cs, ∃ y, H[q.1]? = some y ∧ sEr ρ q.2 y
def kPre (nh : Nat) (c : kC) (vs : List Int) (ws : List (Nat × Value)) (H : List eE) : Prop :=
  sMo vs c.2.1.2.2.1 ∧ sLs vs c.2.1.1 ws ∧ H.length = nh ∧ kCe vs c.2.1.2.1 H ∧ kGh GP vs c.2.1.2.2.2 H
def kPost (c : kC) (U : kU) (vs new : List Int) (H : List eE) (Rf : eR) : Prop :=
  sMo (vs ++ new) U.1 ∧ sVs (vs ++ new) U.2.1 Rf.2.2.1 ∧ Rf.2.2.2.1.length = H.length ∧ kCe (vs ++ new) U.2.2.1 Rf.2.2.2.1 ∧ (∀ j, c.2.2.2.2.1.contains j = false → Rf.2.2.2.1[j]? = H[j]?) ∧ (Rf.2.2.2.2.1 = c.2.2.2.2.2.1 ∧ Rf.2.2.2.2.2 = c.2.2.2.2.2.2) ∧ kGh GP (vs ++ new) U.2.2.2 Rf.2.2.2.1
variable (RO : List (Nat × (Nat → Int32))) (CL : List vw_C) (CT : Nat → Nat → FieldType) (MT : Nat → Option eM)
def kHolds (nh : Nat) (c : kC) (vs : List Int) : Prop := ∀ (ws : List (Nat × Value)) (H : List eE), kPre GP nh c vs ws H → ∀ dv, sEv vs c.2.2.2.1.1 = some dv →
  ∃ U ∈ c.2.2.1, ∃ new Rf, eC RO CL CT MT dv.toNat c.1.1 (c.1.2, ws, [], H, c.2.2.2.2.2.1, c.2.2.2.2.2.2) Rf ∧ kPost GP c U vs new H Rf
end KDEF
end
