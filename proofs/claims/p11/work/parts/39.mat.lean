/-! K: laying a state's forms into a contract's template. -/
noncomputable section
/-- the next unknown of a template, if the form is just that -/
def kPut (t a : sL) (p : Nat × List sL) : Nat × List sL := match t.2 with
  | [q] => if q.1 = p.1 ∧ q.2 = 1 ∧ t.1 = 0 then (p.1 + 1, a :: p.2) else p
  | [q, r] => if q.1 = p.1 ∧ r.1 = p.1 + 1 ∧ r.2 = 1 ∧ t.1 = 0 ∧ 1 < q.2 then (match ((a.1 / q.2, (a.2.filter (fun u => decide (u.2 % q.2 = 0))).map fun u => (u.1, u.2 / q.2)) : sL) with
    | u => (p.1 + 2, sSub a (sMul q.2 u) :: u :: p.2)) else p
  | _ => p
def kPutV (t a : sV) (p : Nat × List sL) : Nat × List sL := if t.1 ≤ 1 then kPut t.2 a.2 p else p
def kPutVs : List sV → List sV → Nat × List sL → Nat × List sL
  | t :: ts, a :: as, p => kPutVs ts as (kPutV t a p)
  | _, _, p => p
def kPutO (b : Int × Int) (ov : List (Nat × sL)) : List (Nat × sL) → Nat × List sL → Nat × List sL
  | [], p => p
  | x :: r, p => kPutO b ov r (kPut x.2 ((sLk ov x.1).getD (sC b.1)) p)
def kPutE (t a : sE) (p : Nat × List sL) : Nat × List sL := match t, a with
  | .inl (ty, _, _, tov), .inl (_, _, b, ov) => if ty.isReference = true then p else kPutO b ov tov p
  | .inr (_, fs), .inr (_, gs) => kPutVs fs gs p
  | _, _ => p
def kPutL (as : List (Nat × sV)) : List (Nat × sV) → Nat × List sL → Nat × List sL
  | [], p => p
  | t :: r, p => kPutL as r (match sGetL as t.1 with
    | some a => kPutV t.2 a p
    | none => p)
def kPutH (G : List sE) : List (Nat × sE) → Nat × List sL → Nat × List sL
  | [], p => p
  | t :: r, p => kPutH G r (match sAt G (t.1) with
    | some a => kPutE t.2 a p
    | none => p)
def kPutF : List sL → List sL → Nat × List sL → Nat × List sL
  | t :: ts, a :: as, p => kPutF ts as (kPut t a p)
  | _, _, p => p
/-- whether forms agree as far as the template's unknowns are known -/
def kCon (n : Nat) (σ : List sL) : List sL → List sL → Bool
  | [], [] => true
  | t :: ts, a :: as => (if t.2.any (fun q => decide (n ≤ q.1)) then true else match sSubst σ t with
    | some f => sLeq f a
    | none => false) && kCon n σ ts as
  | _, _ => false
def kPutA (γ : List kA) : List kA → Nat × List sL → Nat × List sL
  | [], p => p
  | t :: r, p => kPutA γ r (match sFnF (fun (q : kA) => Nat.beq q.1 t.1 && kCon p.1 p.2.reverse t.2 q.2) γ with
    | some q => kPutF t.2 q.2 p
    | none => p)
/-- told cells below a heap's -/
def kCb (B : List (Int × Int)) (σ : List sL) (G : List sE) (cs : List (Nat × sE)) : Bool := cs.all (fun t => match sAt G (t.1) with
  | some a => !sIsA a && sEb B σ t.2 a
  | none => false)
def kAb (σ : List sL) (γ : List kA) (ts : List kA) : Bool := ts.all (fun t => match sPF σ t.2 with
  | some fs => sAny (fun (q : kA) => Nat.beq q.1 t.1 && sFeq q.2 fs) γ
  | none => false)
theorem kCb_ok {ρ vs : List Int} {σ : List sL} (hv : sVal ρ σ = some vs) {B : List (Int × Int)} (hB : sBd ρ B) {G : List sE} {H : List eE} {cs : List (Nat × sE)} (hH : sHp ρ G H) (h : kCb B σ G cs = true) : kCe vs cs H := by
  intro t ht
  have h1 := List.all_eq_true.mp h t ht
  simp only [sAt_eq] at h1
  split at h1
  · rename_i a ha
    simp only [Bool.and_eq_true, Bool.not_eq_true'] at h1
    obtain ⟨y, h2, h3⟩ := sHp_get hH ha h1.1
    exact ⟨y, h2, sEb_ok hv hB h1.2 h3⟩
  · cases h1
theorem kAb_ok {GP : Nat → List Int → List eE → Prop} {ρ vs : List Int} {σ : List sL} (hv : sVal ρ σ = some vs) {γ ts : List kA} {H : List eE} (hg : kGh GP ρ γ H) (h : kAb σ γ ts = true) : kGh GP vs ts H := by
  intro t ht
  have h1 := List.all_eq_true.mp h t ht
  split at h1
  · rename_i fs hfs
    obtain ⟨q, hq, h2⟩ := sAny_ex h1
    have h3 := Bool.and_eq_true_iff.mp h2
    have h4 : q.1 = t.1 := Nat.eq_of_beq_eq_true h3.1
    have h5 : q.2 = fs := sFeq_ok h3.2
    obtain ⟨zs, e1, e2⟩ := hg q hq
    rw [h5] at e1
    rw [h4] at e2
    exact ⟨zs, sVal_subR hv hfs e1, e2⟩
  · cases h1
/-- a state's forms for a contract's unknowns -/
def kMat (nh : Nat) (c : kC) (ls : List (Nat × sV)) (G : List sE) (Γ : sG) (γ : List kA) : Option (List sL) :=
  match (kPutA γ c.2.1.2.2.2 (kPutH G c.2.1.2.1 (kPutL ls c.2.1.1 (0, [])))).2.reverse with
  | σ => if (sLsb σ c.2.1.1 ls && (decide (G.length = nh) && (sGb Γ σ c.2.1.2.2.1 && (kCb Γ.1 σ G c.2.1.2.1 && kAb σ γ c.2.1.2.2.2)))) = true then some σ else none
theorem kMat_ok {GP : Nat → List Int → List eE → Prop} {nh : Nat} {c : kC} {ls : List (Nat × sV)} {G : List sE} {Γ : sG} {γ : List kA} {σ : List sL} (h : kMat nh c ls G Γ γ = some σ) {ρ : List Int} {ws : List (Nat × Value)} {H : List eE} (hM : sMo ρ Γ) (hL : sLs ρ ls ws) (hH : sHp ρ G H) (hg : kGh GP ρ γ H) :
    ∃ vs, sVal ρ σ = some vs ∧ kPre GP nh c vs ws H := by
  unfold kMat at h
  simp only at h
  split at h
  · rename_i hc
    simp only [Bool.and_eq_true, decide_eq_true_eq] at hc
    obtain ⟨h3, h1, h2, h4, h5⟩ := hc
    simp only [Option.some.injEq] at h
    subst h
    obtain ⟨vs, hv, hT⟩ := sGb_ok hM h2
    exact ⟨vs, hv, hT, sLsb_ok hv h3 hL, by rw [(sHp_at.mp hH).1, h1], kCb_ok hv hM.1 hH h4, kAb_ok hv hg h5⟩
  · cases h
def sPC (σ : List sL) : List (Nat × sE) → Option (List (Nat × sE))
  | [] => some []
  | t :: r => match sPE σ t.2, sPC σ r with
    | some a, some as => some ((t.1, a) :: as)
    | _, _ => none
theorem sPC_ok {ρ vs : List Int} {σ : List sL} (hv : sVal ρ σ = some vs) {H : List eE} : ∀ {cs ds : List (Nat × sE)}, sPC σ cs = some ds → kCe vs cs H → kCe ρ ds H
  | [], ds, h, _ => by cases h; exact fun q hq => by cases hq
  | t :: r, ds, h, hc => by
    simp only [sPC] at h
    split at h
    · rename_i a as ha has
      cases h
      have ih := sPC_ok hv has (fun q hq => hc q (List.mem_cons_of_mem _ hq))
      intro q hq
      rcases List.mem_cons.mp hq with rfl | hq
      · obtain ⟨y, h1, h2⟩ := hc t List.mem_cons_self
        exact ⟨y, h1, sPE_ok hv ha h2⟩
      · exact ih q hq
    · cases h
def sPA (σ : List sL) : List kA → Option (List kA)
  | [] => some []
  | t :: r => match sPF σ t.2, sPA σ r with
    | some a, some as => some ((t.1, a) :: as)
    | _, _ => none
theorem sPA_ok {GP : Nat → List Int → List eE → Prop} {ρ vs : List Int} {σ : List sL} (hv : sVal ρ σ = some vs) {H : List eE} : ∀ {cs ds : List kA}, sPA σ cs = some ds → kGh GP vs cs H → kGh GP ρ ds H
  | [], ds, h, _ => by cases h; exact fun q hq => by cases hq
  | t :: r, ds, h, hc => by
    simp only [sPA] at h
    split at h
    · rename_i a as ha has
      cases h
      have ih := sPA_ok hv has (fun q hq => hc q (List.mem_cons_of_mem _ hq))
      intro q hq
      rcases List.mem_cons.mp hq with rfl | hq
      · obtain ⟨zs, h1, h2⟩ := hc t List.mem_cons_self
        exact ⟨zs, sVal_sub hv ha h1, h2⟩
      · exact ih q hq
    · cases h
/-- a contract's end, in the caller's forms -/
def kEnd (dep : Nat → List Nat) (c : kC) (σ : List sL) (G : List sE) (Γ : sG) (γ : List kA) (U : kU) : Option kS :=
  match σ ++ sNewX Γ.1.length (U.1.1.length - σ.length) with
  | τ => match sJoin Γ τ σ.length U.1, sPVs τ U.2.1, sPC τ U.2.2.1, sPA τ U.2.2.2 with
    | some Γ', some st, some cs, some as => some ((0, [], st, kFgl c.2.2.2.2.1 cs G 0, c.2.2.2.2.2.1, c.2.2.2.2.2.2, Γ'), as ++ γ.filter (fun q => (dep q.1).all (fun j => !c.2.2.2.2.1.contains j)))
    | _, _, _, _ => none
theorem kEnd_ok {GP : Nat → List Int → List eE → Prop} {dep : Nat → List Nat} (hGP : ∀ k zs (H H' : List eE), (∀ j ∈ dep k, H'[j]? = H[j]?) → GP k zs H → GP k zs H') {c : kC} {σ : List sL} {G : List sE} {Γ : sG} {γ : List kA} {U : kU} {K' : kS} (h : kEnd dep c σ G Γ γ U = some K')
    {ρ vs new : List Int} {H : List eE} {Rf : eR} (hM : sMo ρ Γ) (hv : sVal ρ σ = some vs) (hH : sHp ρ G H) (hg : kGh GP ρ γ H) (hP : kPost GP c U vs new H Rf) : kE GP (ρ ++ new) K' Rf := by
  obtain ⟨p1, p2, p3, p4, p5, p6, p7⟩ := hP
  have hls := sVal_len hv
  have hlU : U.1.1.length - σ.length = new.length := by rw [p1.1.1, List.length_append, hls]; omega
  have hlay := sVal_lay (new := new) hv
  rw [← hM.1.1] at hlay
  unfold kEnd at h
  rw [hlU] at h
  simp only at h
  split at h
  · rename_i Γ' st cs as e1 e2 e3 e4
    cases h
    rw [← hls] at e1
    have hpre : ρ <+: ρ ++ new := ⟨_, rfl⟩
    refine ⟨sJoin_ok hM hlay p1 e1, sPVs_ok hlay e2 p2, kFgl_ok (hH.mono hpre) p3 p5 (sPC_ok hlay e3 p4), p6, fun q hq => ?_⟩
    rcases List.mem_append.mp hq with hq | hq
    · exact sPA_ok hlay e4 p7 q hq
    · obtain ⟨hq, hd⟩ := List.mem_filter.mp hq
      obtain ⟨zs, q1, q2⟩ := hg q hq
      refine ⟨zs, sVal_mono hpre q1, hGP _ _ H _ (fun j hj => ?_) q2⟩
      have := List.all_eq_true.mp hd j hj
      exact p5 j (by simpa using this)
  · cases h
end
