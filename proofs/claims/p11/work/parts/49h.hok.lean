/-! K: consequences at told places; what is told of the script. -/
noncomputable section
def kLive (Γ : sG) : Bool := !(Γ.2.2.1.any (fun f => decide (sK Γ.1 f = some 0)))
theorem kLive_ok {ρ : List Int} {Γ : sG} (hM : sMo ρ Γ) : kLive Γ = true := by
  unfold kLive
  rw [Bool.not_eq_true', List.any_eq_false]
  intro f hf h
  obtain ⟨z, e1, e2⟩ := hM.2.2.1 f hf
  exact e2 (sK_ok hM.1 e1 (of_decide_eq_true h))
/-- a number, split into all that it may be -/
def kSpl (x : sL) (n : Nat) (K : kS) : Option (List kS) := match K with
  | ((pc, ls, st, G, c, s, Γ), γ) => (sIdx Γ x n).map fun l => (l.filter fun q => kLive q.2).map fun q => ((pc, ls, st, G, c, s, q.2), γ)
def kSplL (i n : Nat) (K : kS) : Option (List kS) := match sGetL K.1.2.1 i with
  | some v => if v.1 = 0 then kSpl v.2 n K else none
  | none => none
def kSplS (i n : Nat) (K : kS) : Option (List kS) := match K.1.2.2.1[i]? with
  | some v => if v.1 = 0 then kSpl v.2 n K else none
  | none => none
theorem kSpl_ok {GP : Nat → List Int → List eE → Prop} {x : sL} {n : Nat} {K : kS} {L : List kS} (h : kSpl x n K = some L) {ρ : List Int} {R : eR} {z : Int} (hx : sEv ρ x = some z) (hD : kD GP ρ K R) : ∃ K' ∈ L, ∃ ρ', ρ <+: ρ' ∧ kD GP ρ' K' R := by
  obtain ⟨⟨pc, ls, st, G, c, s, Γ⟩, γ⟩ := K
  simp only [kSpl] at h
  obtain ⟨l, hl, rfl⟩ := Option.map_eq_some_iff.mp h
  obtain ⟨q, hq, hM, -⟩ := sIdx_ok hD.1 hx hl
  exact ⟨_, List.mem_map.mpr ⟨q, List.mem_filter.mpr ⟨hq, kLive_ok hM⟩, rfl⟩, ρ, List.prefix_refl _, hM, hD.2.1, hD.2.2⟩
theorem kSplL_ok {GP : Nat → List Int → List eE → Prop} {i n : Nat} {K : kS} {L : List kS} (h : kSplL i n K = some L) {ρ : List Int} {R : eR} (hD : kD GP ρ K R) : ∃ K' ∈ L, ∃ ρ', ρ <+: ρ' ∧ kD GP ρ' K' R := by
  unfold kSplL at h
  split at h
  · rename_i v hv
    split at h
    · rename_i h0
      obtain ⟨w, -, hw⟩ := hD.2.1.2.1 i v hv
      obtain ⟨t, x⟩ := v
      simp only at h0
      subst h0
      obtain ⟨z, hz, -⟩ := sVr_int hw
      exact kSpl_ok h hz hD
    · cases h
  · cases h
theorem kSplS_ok {GP : Nat → List Int → List eE → Prop} {i n : Nat} {K : kS} {L : List kS} (h : kSplS i n K = some L) {ρ : List Int} {R : eR} (hD : kD GP ρ K R) : ∃ K' ∈ L, ∃ ρ', ρ <+: ρ' ∧ kD GP ρ' K' R := by
  unfold kSplS at h
  split at h
  · rename_i v hv
    split at h
    · rename_i h0
      obtain ⟨w, -, hw⟩ := sVs_get hD.2.1.2.2.1 hv
      obtain ⟨t, x⟩ := v
      simp only at h0
      subst h0
      obtain ⟨z, hz, -⟩ := sVr_int hw
      exact kSpl_ok h hz hD
    · cases h
  · cases h
/-! Further steps that need no time. -/
/-- a number that can be no other -/
def kNrm (i : Nat) (K : kS) : Option (List kS) := match K with
  | ((pc, ls, st, G, c, s, Γ), γ) => (match sGetL ls i with
    | some (0, x) => (match sK Γ.1 x with
      | some k => some [((pc, (i, (0, sC k)) :: ls, st, G, c, s, Γ), γ)]
      | none => some [K])
    | _ => some [K])
theorem kNrm_ok {GP : Nat → List Int → List eE → Prop} {i : Nat} {K : kS} {L : List kS} (h : kNrm i K = some L) {ρ : List Int} {R : eR} (hD : kD GP ρ K R) : ∃ K' ∈ L, ∃ ρ', ρ <+: ρ' ∧ kD GP ρ' K' R := by
  obtain ⟨⟨pc, ls, st, G, c, s, Γ⟩, γ⟩ := K
  have same : ∃ K' ∈ [(((pc, ls, st, G, c, s, Γ), γ) : kS)], ∃ ρ', ρ <+: ρ' ∧ kD GP ρ' K' R := ⟨_, List.mem_singleton.mpr rfl, ρ, List.prefix_refl _, hD⟩
  simp only [kNrm] at h
  split at h
  · rename_i x hx
    split at h
    · rename_i k hk
      cases h
      refine ⟨_, List.mem_singleton.mpr rfl, ρ, List.prefix_refl _, hD.1, ⟨hD.2.1.1, fun j v hv => ?_, hD.2.1.2.2⟩, hD.2.2⟩
      by_cases hij : i = j
      · subst hij
        have hv : sGetL ((i, ((0, sC k) : sV)) :: ls) i = some v := hv
        rw [sGetL_hd] at hv
        cases hv
        obtain ⟨w, h1, h2⟩ := hD.2.1.2.1 i _ hx
        refine ⟨w, h1, ?_⟩
        obtain ⟨z, e1, rfl⟩ := sVr_int h2
        have := sK_ok hD.1.1 e1 hk
        subst this
        exact ⟨_, sEv_C _, rfl⟩
      · have hv : sGetL ((i, ((0, sC k) : sV)) :: ls) j = some v := hv
        rw [sGetL_tl hij] at hv
        exact hD.2.1.2.1 j v hv
    · cases h
      exact same
  · cases h
    exact same
/-- what can't be -/
def kPN (K : kS) : Option (List kS) := if K.1.2.2.2.2.2.2.2.2.1.any (fun f => sNN K.1.2.2.2.2.2.2 f && sNN K.1.2.2.2.2.2.2 (sMul (-1) f)) = true then some [] else some [K]
theorem kPN_ok {GP : Nat → List Int → List eE → Prop} {K : kS} {L : List kS} (h : kPN K = some L) {ρ : List Int} {R : eR} (hD : kD GP ρ K R) : ∃ K' ∈ L, ∃ ρ', ρ <+: ρ' ∧ kD GP ρ' K' R := by
  unfold kPN at h
  split at h
  · rename_i hc
    exfalso
    obtain ⟨f, hf, hc⟩ := List.any_eq_true.mp hc
    simp only [Bool.and_eq_true] at hc
    obtain ⟨z, e1, e2⟩ := hD.1.2.2.1 f hf
    have h1 := sNN_ok hD.1 e1 hc.1
    have h2 := sNN_ok hD.1 (sEv_mul (-1) e1) hc.2
    omega
  · cases h
    exact ⟨K, List.mem_singleton.mpr rfl, ρ, List.prefix_refl _, hD⟩
/-- whether a shelf holds a body or a row -/
def kSplH (s : Nat) (K : kS) : Option (List kS) := match kShz K.1.2.2.2.1 s with
  | some (h :: _) => if sIv K.1.2.2.2.2.2.2.1 h = some (1, 2) then kSpl h 3 K else some [K]
  | _ => some [K]
theorem kSplH_ok {GP : Nat → List Int → List eE → Prop} {s : Nat} {K : kS} {L : List kS} (h : kSplH s K = some L) {ρ : List Int} {R : eR} (hD : kD GP ρ K R) : ∃ K' ∈ L, ∃ ρ', ρ <+: ρ' ∧ kD GP ρ' K' R := by
  have same : ∃ K' ∈ [K], ∃ ρ', ρ <+: ρ' ∧ kD GP ρ' K' R := ⟨K, List.mem_singleton.mpr rfl, ρ, List.prefix_refl _, hD⟩
  unfold kSplH at h
  split at h
  · rename_i x r hx
    split at h
    · rename_i hi
      obtain ⟨z, hz⟩ := sIv_has hD.1.1 hi
      exact kSpl_ok h hz hD
    · cases h
      exact same
  · cases h
    exact same
/-- a told element, by another form of the same worth -/
def kOvr (G : List sE) (j s : Nat) (f : sL) : List sE := match G[j]? with
  | some (.inl (ty, n, b, ov)) => if (sLk ov s).isSome = true then G.set j (.inl (ty, n, b, ov.map (fun q => if q.1 = s then (s, f) else q))) else G
  | _ => G
theorem kLk_map (ov : List (Nat × sL)) (s : Nat) (f : sL) (i : Nat) : sLk (ov.map (fun q => if q.1 = s then (s, f) else q)) i = if i = s then (sLk ov s).map (fun _ => f) else sLk ov i := by
  induction ov with
  | nil => simp [sLk_def]
  | cons q r ih =>
    simp only [sLk_def] at ih ⊢
    simp only [List.map_cons, List.find?_cons]
    by_cases hq : q.1 = s
    · rw [if_pos hq]
      by_cases hi : i = s
      · subst hi
        simp [hq]
      · have h1 : (s == i) = false := by simp; omega
        have h2 : (q.1 == i) = false := by simp; omega
        rw [h1, h2, ih, if_neg hi, if_neg hi]
    · rw [if_neg hq]
      by_cases hi : i = s
      · subst hi
        have h2 : (q.1 == i) = false := by simp [hq]
        rw [h2, ih, if_pos rfl]
      · rw [if_neg hi]
        rw [if_neg hi] at ih
        cases q.1 == i with
        | true => rfl
        | false => exact ih
theorem kOvr_ok {ρ : List Int} {G : List sE} {H : List eE} (hH : sHp ρ G H) {j s : Nat} {f m : sL} {z : Int} (hm : kToldI G j s = some m) (em : sEv ρ m = some z) (hf : sEv ρ f = some z) : sHp ρ (kOvr G j s f) H := by
  unfold kOvr
  split
  · rename_i ty n b ov hg
    split
    · rename_i hsome
      obtain ⟨n', a, z', hy', hlt, e1, e2⟩ := kToldI_ok hH hm
      cases e1.symm.trans em
      obtain ⟨y, hy, hxy⟩ := sHp_get hH hg
      have hset : H.set j y = H := by
        apply List.ext_getElem?
        intro k
        by_cases hk : j = k
        · subst hk
          rw [List.getElem?_set_self (List.getElem?_eq_some_iff.mp hy).1, hy]
        · rw [List.getElem?_set_ne hk]
      rw [← hset]
      refine sHp_set ?_ j hH
      rw [hy'] at hy
      cases hy
      obtain ⟨rfl, rfl, h1, h2⟩ := hxy
      refine ⟨rfl, rfl, h1, fun i hi => ?_⟩
      have h3 := h2 i hi
      rw [kLk_map]
      by_cases his : i = s
      · subst his
        rw [if_pos rfl]
        obtain ⟨f0, hf0⟩ := Option.isSome_iff_exists.mp hsome
        rw [hf0]
        exact ⟨_, hf, e2⟩
      · rw [if_neg his]
        exact h3
    · exact hH
  · exact hH
/-- the reference's shelf, told by the class' numbers -/
def kSWs (s : Nat) (K : kS) : Option (List kS) := match K with
  | ((pc, ls, st, G, c, s0, Γ), γ) => (match kShz G s with
    | some [h, b, so, le, m, si, w] => if kHav γ 12 [h, b, so, le, m, si, w] = true then
        (if sK Γ.1 h = some 0 then some [((pc, ls, st, kOvr G 82 s (sC (-1)), c, s0, Γ), γ)]
        else if sK Γ.1 h = some 1 then some [((pc, ls, st, kOvr G 82 s b, c, s0, Γ), γ)]
        else if sK Γ.1 h = some 2 then some [((pc, ls, st, kOvr (kOvr G 82 s (sSub (sC (-2)) so)) 83 s le, c, s0, Γ), γ)]
        else some [K]) else some [K]
    | _ => some [K])
theorem kShz_told {G : List sE} {s : Nat} {h b so le m si w : sL} (hs : kShz G s = some [h, b, so, le, m, si, w]) : kToldI G 82 s = some m ∧ kToldI G 83 s = some si := by
  unfold kShz at hs
  split at hs
  · rename_i a1 a2 a3 a4 a5 a6 a7 h1 h2 h3 h4 h5 h6 h7
    cases hs
    exact ⟨h5, h6⟩
  · cases hs
theorem kOvr_ne {G : List sE} {j k s i : Nat} {f : sL} (h : j ≠ k) : kToldI (kOvr G j s f) k i = kToldI G k i := by
  unfold kOvr
  split
  · split
    · unfold kToldI
      rw [List.getElem?_set_ne h]
    · rfl
  · rfl
theorem kSWs_ok {RO : List (Nat × (Nat → Int32))} {s : Nat} {K : kS} {L : List kS} (h : kSWs s K = some L) {ρ : List Int} {R : eR} (hD : kD (kGP (kUP RO)) ρ K R) : ∃ K' ∈ L, ∃ ρ', ρ <+: ρ' ∧ kD (kGP (kUP RO)) ρ' K' R := by
  obtain ⟨⟨pc, ls, st, G, c, s0, Γ⟩, γ⟩ := K
  have same : ∃ K' ∈ [(((pc, ls, st, G, c, s0, Γ), γ) : kS)], ∃ ρ', ρ <+: ρ' ∧ kD (kGP (kUP RO)) ρ' K' R := ⟨_, List.mem_singleton.mpr rfl, ρ, List.prefix_refl _, hD⟩
  have hH := hD.2.1.2.2.2.1
  have put : ∀ {G' : List sE}, sHp ρ G' R.2.2.2.1 → ∃ K' ∈ [(((pc, ls, st, G', c, s0, Γ), γ) : kS)], ∃ ρ', ρ <+: ρ' ∧ kD (kGP (kUP RO)) ρ' K' R := fun h => ⟨_, List.mem_singleton.mpr rfl, ρ, List.prefix_refl _, hD.1, ⟨hD.2.1.1, hD.2.1.2.1, hD.2.1.2.2.1, h, hD.2.1.2.2.2.2⟩, hD.2.2⟩
  simp only [kSWs] at h
  split at h
  · rename_i xh b so le m si w hs
    obtain ⟨tm, ts⟩ := kShz_told hs
    split at h
    · rename_i hh
      obtain ⟨zs, e1, e2⟩ := kHav_ok hD.2.2 hh (by decide)
      obtain ⟨p, q, r, t, u, v, x, rfl, h1, h2, h3, h4, h5, h6, h7⟩ := sVal_7 e1
      obtain ⟨a1, a2, a3, a4, a5, a6, a7, he, hr⟩ : ∃ a1 a2 a3 a4 a5 a6 a7, [p, q, r, t, u, v, x] = [a1, a2, a3, a4, a5, a6, a7] ∧ kSHR a1 a2 a3 a4 a5 a6 a7 := e2
      cases he
      split at h
      · rename_i hz
        have := sK_ok hD.1.1 h1 hz
        have hu : u = -1 := by rcases hr with hr | hr | hr <;> omega
        subst hu
        cases h
        exact put (kOvr_ok hH tm h5 (sEv_C _))
      split at h
      · rename_i hz
        have := sK_ok hD.1.1 h1 hz
        have hu : u = q := by rcases hr with hr | hr | hr <;> omega
        subst hu
        cases h
        exact put (kOvr_ok hH tm h5 h2)
      split at h
      · rename_i hz
        have := sK_ok hD.1.1 h1 hz
        have hu : u = -2 - r := by rcases hr with hr | hr | hr <;> omega
        have hv : v = t := by rcases hr with hr | hr | hr <;> omega
        subst hu
        subst hv
        cases h
        exact put (kOvr_ok (kOvr_ok hH tm h5 (sEv_sub (sEv_C _) h3)) (by rw [kOvr_ne (by decide)]; exact ts) h6 h4)
      · cases h
        exact same
    · cases h
      exact same
  · cases h
    exact same
/-- a number on the stack: each of the first so many, below, above -/
def kSplV1 (x : sL) (K : kS) (b : Int × Int) : Option kS := match K with
  | ((pc, ls, st, G, c, s, Γ), γ) => (kAs Γ x b.1 b.2).map fun Γ' => ((pc, ls, st, G, c, s, Γ'), γ)
def kSplV (n : Nat) (K : kS) : Option (List kS) := match kTop K with
  | some x => (match sIv K.1.2.2.2.2.2.2.1 x with
    | some i => some (((List.range n).map (fun k : Nat => ((k : Int), (k : Int))) ++ [(i.1, -1), ((n : Int), i.2)]).filterMap (kSplV1 x K))
    | none => some [K])
  | none => some [K]
theorem kSplV_ok {GP : Nat → List Int → List eE → Prop} {n : Nat} {K : kS} {L : List kS} (h : kSplV n K = some L) {ρ : List Int} {R : eR} (hD : kD GP ρ K R) : ∃ K' ∈ L, ∃ ρ', ρ <+: ρ' ∧ kD GP ρ' K' R := by
  have same : ∃ K' ∈ [K], ∃ ρ', ρ <+: ρ' ∧ kD GP ρ' K' R := ⟨K, List.mem_singleton.mpr rfl, ρ, List.prefix_refl _, hD⟩
  unfold kSplV at h
  split at h
  · rename_i x hx
    split at h
    · rename_i i hi
      cases h
      obtain ⟨z, hz⟩ := sIv_has hD.1.1 hi
      have hb := sIv_ok hD.1.1 hz hi
      have key : ∀ b : Int × Int, b ∈ (List.range n).map (fun k : Nat => ((k : Int), (k : Int))) ++ [(i.1, -1), ((n : Int), i.2)] → b.1 ≤ z → z ≤ b.2 → ∃ K' ∈ ((List.range n).map (fun k : Nat => ((k : Int), (k : Int))) ++ [(i.1, -1), ((n : Int), i.2)]).filterMap (kSplV1 x K), ∃ ρ', ρ <+: ρ' ∧ kD GP ρ' K' R := fun b hbm h1 h2 => by
        obtain ⟨⟨pc, ls, st, G, c, s, Γ⟩, γ⟩ := K
        obtain ⟨Γ', e, m⟩ := kAs_ok hD.1 hz h1 h2
        exact ⟨((pc, ls, st, G, c, s, Γ'), γ), List.mem_filterMap.mpr ⟨b, hbm, by simp only [kSplV1]; rw [e]; rfl⟩, ρ, List.prefix_refl _, m, hD.2.1, hD.2.2⟩
      by_cases hneg : z ≤ -1
      · exact key (i.1, -1) (by simp) hb.1 hneg
      by_cases hbig : (n : Int) ≤ z
      · exact key ((n : Int), i.2) (by simp) hbig hb.2
      · refine key (z, z) (List.mem_append_left _ (List.mem_map.mpr ⟨z.toNat, List.mem_range.mpr (by omega), ?_⟩)) (Int.le_refl _) (Int.le_refl _)
        rw [show ((z.toNat : Nat) : Int) = z by omega]
    · cases h
      exact same
  · cases h
    exact same
/-- nothing is told of copies of ints by forms -/
def kIC (_ : sG) (_ : List kA) (_ _ _ _ : Nat) (_ _ _ : sL) : List kA := []
theorem kIC_ok {UP : Nat → List Int → List eE → Prop} : kIOk UP kIC := by
  intro Γ γ js jd sp dp n ρ zs zd zn H n0 n1 f g hM hg es ed en h1 h2 h3 h4 h5 hs hd q hq
  cases hq
/-! The consequences at their places. -/
def kF130 (j z : Nat) (K : kS) : Option sL := (kFf K.1.2.2.2.1 j z).map fun f => sAdd f (sC 130)
def kFst (K : kS) : Option sL := match K.1.2.2.1 with
  | v :: _ => if v.1 = 0 then some v.2 else none
  | [] => none
def kSWa : kS → Option (List kS) := kThen (kSWs 0) (kThen (kSWs 1) (kThen (kSWs 2) (kThen (kSWs 3) (kThen (kSWs 4) (kSWs 5)))))
def kOne (RO : List (Nat × (Nat → Int32))) (f : kS → Option (List kS)) : Prop := ∀ (K : kS) (L : List kS), f K = some L → ∀ (ρ : List Int) (R : eR), kD (kGP (kUP RO)) ρ K R → ∃ K' ∈ L, ∃ ρ', ρ <+: ρ' ∧ kD (kGP (kUP RO)) ρ' K' R
section KONE
variable {RO : List (Nat × (Nat → Int32))}
theorem kUP_1 {e : Int} {H : List eE} : kUP RO 1 [e] H ↔ kLog 15 14 16 17 e H := by
  constructor
  · intro h
    obtain ⟨e', h1, h2⟩ : ∃ e' : Int, [e] = [e'] ∧ kLog 15 14 16 17 e' H := h
    cases h1
    exact h2
  · intro h
    exact ⟨e, rfl, h⟩
theorem kUP_2 {e : Int} {H : List eE} : kUP RO 2 [e] H ↔ kLog 60 61 62 63 e H := by
  constructor
  · intro h
    obtain ⟨e', h1, h2⟩ : ∃ e' : Int, [e] = [e'] ∧ kLog 60 61 62 63 e' H := h
    cases h1
    exact h2
  · intro h
    exact ⟨e, rfl, h⟩
theorem kO_of {f : kS → Option (List kS)} (hf : ∀ {K : kS} {L : List kS}, f K = some L → ∀ {ρ : List Int} {R : eR}, kD (kGP (kUP RO)) ρ K R → ∃ K' ∈ L, ∃ ρ', ρ <+: ρ' ∧ kD (kGP (kUP RO)) ρ' K' R) : kOne RO f := fun _ _ h _ _ hD => hf h hD
theorem kO_splL (i n : Nat) : kOne RO (kSplL i n) := fun _ _ h _ _ hD => kSplL_ok h hD
theorem kO_splS (i n : Nat) : kOne RO (kSplS i n) := fun _ _ h _ _ hD => kSplS_ok h hD
theorem kO_app {r : kS → Option kWs} (hr : kRok RO r) : kOne RO (kApp r) := fun _ _ h _ _ hD => kApp_ok hr h hD
theorem nO_app {r : kS → Option nWs} (hr : nRok RO r) : kOne RO (nApp r) := fun _ _ h _ _ hD => nApp_ok hr h hD
theorem kO_lg1 {pr cw ci cb ca cv : Nat} (hpr : pr < 1000) (hUP : ∀ e H, kUP RO pr [e] H → kLog cw ci cb ca e H) (hcv : cv = cb ∨ cv = ca) : kOne RO (kLg1 pr cw ci cv) := fun _ _ h _ _ hD => kLg1_ok hpr hUP hcv h hD
theorem kO_lg2 {pr cw ci cb ca : Nat} (hpr : pr < 1000) (hUP : ∀ e H, kUP RO pr [e] H ↔ kLog cw ci cb ca e H) : kOne RO (kLg2 pr cw ci cb ca) := fun _ _ h _ _ hD => kLg2_ok hpr hUP h hD
theorem kO_lg3 {pr cw ci cb ca : Nat} (hpr : pr < 1000) (hUP : ∀ e H, kUP RO pr [e] H ↔ kLog cw ci cb ca e H) : kOne RO (kLg3 pr cw ci cb ca) := fun _ _ h _ _ hD => kLg3_ok hpr hUP h hD
theorem kO_then {f g : kS → Option (List kS)} (hf : kOne RO f) (hg : kOne RO g) : kOne RO (kThen f g) := fun _ _ h _ _ hD => kThen_ok hf hg h hD
theorem kO_SWs (s : Nat) : kOne RO (kSWs s) := fun _ _ h _ _ hD => kSWs_ok h hD
theorem kO_SW : kOne RO kSWa := kO_then (kO_SWs 0) (kO_then (kO_SWs 1) (kO_then (kO_SWs 2) (kO_then (kO_SWs 3) (kO_then (kO_SWs 4) (kO_SWs 5)))))
theorem kO_id : kOne RO (fun K => some [K]) := fun K L h ρ R hD => by
  cases h
  exact ⟨K, List.mem_singleton.mpr rfl, ρ, List.prefix_refl _, hD⟩
def kHf_0 : kS → Option (List kS) := (kThen (kWCr) (kApp (nNXi 1)))
theorem kO_0 : kOne RO kHf_0 := by
  delta kHf_0
  exact (kO_then (fun _ _ h _ _ hD => kWCr_ok h hD) (kO_app (nNXi_ok 1)))
def kHf_1 : kS → Option (List kS) := (kThen (kWe 0 0) (kApp nNXe))
theorem kO_1 : kOne RO kHf_1 := by
  delta kHf_1
  exact (kO_then (fun _ _ h _ _ hD => kWe_ok h hD) (kO_app nNXe_ok))
def kHf_2 : kS → Option (List kS) := (kThen (kWe 0 0) (kApp nNXe))
theorem kO_2 : kOne RO kHf_2 := by
  delta kHf_2
  exact (kO_then (fun _ _ h _ _ hD => kWe_ok h hD) (kO_app nNXe_ok))
def kHf_3 : kS → Option (List kS) := (kApp nNXs)
theorem kO_3 : kOne RO kHf_3 := by
  delta kHf_3
  exact (kO_app nNXs_ok)
def kHf_4 : kS → Option (List kS) := (kThen (kWe 0 0) (kApp nNXe))
theorem kO_4 : kOne RO kHf_4 := by
  delta kHf_4
  exact (kO_then (fun _ _ h _ _ hD => kWe_ok h hD) (kO_app nNXe_ok))
def kHf_5 : kS → Option (List kS) := (kApp nTN)
theorem kO_5 : kOne RO kHf_5 := by
  delta kHf_5
  exact (kO_app nTN_ok)
def kHf_6 : kS → Option (List kS) := (kApp (pdPXx 4))
theorem kO_6 : kOne RO kHf_6 := by
  delta kHf_6
  exact (kO_app (pdPXx_ok 4))
def kHf_7 : kS → Option (List kS) := (kApp nTN)
theorem kO_7 : kOne RO kHf_7 := by
  delta kHf_7
  exact (kO_app nTN_ok)
def kHf_8 : kS → Option (List kS) := (kApp (nNEw 5))
theorem kO_8 : kOne RO kHf_8 := by
  delta kHf_8
  exact (kO_app (nNEw_ok 5))
def kHf_9 : kS → Option (List kS) := (kApp nTNb)
theorem kO_9 : kOne RO kHf_9 := by
  delta kHf_9
  exact (kO_app nTNb_ok)
def kHf_10 : kS → Option (List kS) := (kThen (kSplS 0 6) (nTopc))
theorem kO_10 : kOne RO kHf_10 := by
  delta kHf_10
  exact (kO_then (kO_splS 0 6) (fun _ _ h _ _ hD => nTopc_ok h hD))
def kHf_11 : kS → Option (List kS) := (kNrm 1)
theorem kO_11 : kOne RO kHf_11 := by
  delta kHf_11
  exact (fun _ _ h _ _ hD => kNrm_ok h hD)
def kHf_12 : kS → Option (List kS) := (kThen (kApp kQPX) (kApp kQCO))
theorem kO_12 : kOne RO kHf_12 := by
  delta kHf_12
  exact (kO_then (kO_app kQPX_ok) (kO_app kQCO_ok))
def kHf_13 : kS → Option (List kS) := (kThen (kNrm 1) (kNrm 3))
theorem kO_13 : kOne RO kHf_13 := by
  delta kHf_13
  exact (kO_then (fun _ _ h _ _ hD => kNrm_ok h hD) (fun _ _ h _ _ hD => kNrm_ok h hD))
def kHf_14 : kS → Option (List kS) := (kApp kQSX)
theorem kO_14 : kOne RO kHf_14 := by
  delta kHf_14
  exact (kO_app kQSX_ok)
def kHf_15 : kS → Option (List kS) := (kApp kQSX)
theorem kO_15 : kOne RO kHf_15 := by
  delta kHf_15
  exact (kO_app kQSX_ok)
def kHf_16 : kS → Option (List kS) := (kApp kQSX)
theorem kO_16 : kOne RO kHf_16 := by
  delta kHf_16
  exact (kO_app kQSX_ok)
def kHf_17 : kS → Option (List kS) := (kApp kQSX)
theorem kO_17 : kOne RO kHf_17 := by
  delta kHf_17
  exact (kO_app kQSX_ok)
def kHf_18 : kS → Option (List kS) := (kNrm 1)
theorem kO_18 : kOne RO kHf_18 := by
  delta kHf_18
  exact (fun _ _ h _ _ hD => kNrm_ok h hD)
def kHf_19 : kS → Option (List kS) := (kWMr)
theorem kO_19 : kOne RO kHf_19 := by
  delta kHf_19
  exact (fun _ _ h _ _ hD => kWMr_ok h hD)
def kHf_20 : kS → Option (List kS) := (kThen (kWe 1 0) (kApp nNXz))
theorem kO_20 : kOne RO kHf_20 := by
  delta kHf_20
  exact (kO_then (fun _ _ h _ _ hD => kWe_ok h hD) (kO_app nNXz_ok))
def kHf_21 : kS → Option (List kS) := (kThen (kWe 1 0) (kApp nNXz))
theorem kO_21 : kOne RO kHf_21 := by
  delta kHf_21
  exact (kO_then (fun _ _ h _ _ hD => kWe_ok h hD) (kO_app nNXz_ok))
def kHf_22 : kS → Option (List kS) := (kApp nWMb)
theorem kO_22 : kOne RO kHf_22 := by
  delta kHf_22
  exact (kO_app nWMb_ok)
def kHf_23 : kS → Option (List kS) := (kApp nNXm)
theorem kO_23 : kOne RO kHf_23 := by
  delta kHf_23
  exact (kO_app nNXm_ok)
def kHf_24 : kS → Option (List kS) := (kThen (kWe 1 1) (kApp nNXz))
theorem kO_24 : kOne RO kHf_24 := by
  delta kHf_24
  exact (kO_then (fun _ _ h _ _ hD => kWe_ok h hD) (kO_app nNXz_ok))
def kHf_25 : kS → Option (List kS) := (kNrm 1)
theorem kO_25 : kOne RO kHf_25 := by
  delta kHf_25
  exact (fun _ _ h _ _ hD => kNrm_ok h hD)
def kHf_26 : kS → Option (List kS) := (kPN)
theorem kO_26 : kOne RO kHf_26 := by
  delta kHf_26
  exact (fun _ _ h _ _ hD => kPN_ok h hD)
def kHf_27 : kS → Option (List kS) := (kThen (kLg3 2 60 61 62 63) (kApp nLGn))
theorem kO_27 : kOne RO kHf_27 := by
  delta kHf_27
  exact (kO_then (kO_lg3 (by decide) (fun e H => kUP_2)) (kO_app nLGn_ok))
def kHf_28 : kS → Option (List kS) := (kApp nLGz)
theorem kO_28 : kOne RO kHf_28 := by
  delta kHf_28
  exact (kO_app nLGz_ok)
def kHf_29 : kS → Option (List kS) := (nNf 52 10)
theorem kO_29 : kOne RO kHf_29 := by
  delta kHf_29
  exact (fun _ _ h _ _ hD => nNf_ok (j := 52) (z := 10) h hD)
def kHf_30 : kS → Option (List kS) := (kLg2 2 60 61 62 63)
theorem kO_30 : kOne RO kHf_30 := by
  delta kHf_30
  exact (kO_lg2 (by decide) (fun e H => kUP_2))
def kHf_31 : kS → Option (List kS) := (kApp kR4)
theorem kO_31 : kOne RO kHf_31 := by
  delta kHf_31
  exact (kO_app kR4_ok)
def kHf_32 : kS → Option (List kS) := (nApp (nPz 1))
theorem kO_32 : kOne RO kHf_32 := by
  delta kHf_32
  exact (nO_app (nPz_ok (d := 1) (by decide)))
def kHf_33 : kS → Option (List kS) := (nApp (nPnm 1))
theorem kO_33 : kOne RO kHf_33 := by
  delta kHf_33
  exact (nO_app (nPnm_ok (d := 1) (by decide)))
def kHf_34 : kS → Option (List kS) := (nApp (nPf 1))
theorem kO_34 : kOne RO kHf_34 := by
  delta kHf_34
  exact (nO_app (nPf_ok (d := 1) (by decide)))
def kHf_35 : kS → Option (List kS) := (nApp (nPv 1))
theorem kO_35 : kOne RO kHf_35 := by
  delta kHf_35
  exact (nO_app (nPv_ok (d := 1) (by decide)))
def kHf_36 : kS → Option (List kS) := (nApp (nPw 1))
theorem kO_36 : kOne RO kHf_36 := by
  delta kHf_36
  exact (nO_app (nPw_ok (d := 1) (by decide)))
def kHf_37 : kS → Option (List kS) := (nApp (nPf 1))
theorem kO_37 : kOne RO kHf_37 := by
  delta kHf_37
  exact (nO_app (nPf_ok (d := 1) (by decide)))
def kHf_38 : kS → Option (List kS) := (nApp (nPv 1))
theorem kO_38 : kOne RO kHf_38 := by
  delta kHf_38
  exact (nO_app (nPv_ok (d := 1) (by decide)))
def kHf_39 : kS → Option (List kS) := (nApp (nPq 1))
theorem kO_39 : kOne RO kHf_39 := by
  delta kHf_39
  exact (nO_app (nPq_ok (d := 1) (by decide)))
def kHf_40 : kS → Option (List kS) := (nApp (nPq 1))
theorem kO_40 : kOne RO kHf_40 := by
  delta kHf_40
  exact (nO_app (nPq_ok (d := 1) (by decide)))
def kHf_41 : kS → Option (List kS) := (kThen (nApp (nPd 1)) (nApp (nPf 1)))
theorem kO_41 : kOne RO kHf_41 := by
  delta kHf_41
  exact (kO_then (nO_app (nPd_ok (d := 1) (by decide))) (nO_app (nPf_ok (d := 1) (by decide))))
def kHf_42 : kS → Option (List kS) := (nApp (nPu 1 1))
theorem kO_42 : kOne RO kHf_42 := by
  delta kHf_42
  exact (nO_app (nPu_ok (d := 1) (nt := 1) (by decide) (by decide)))
def kHf_43 : kS → Option (List kS) := (nApp (nPa 1 1))
theorem kO_43 : kOne RO kHf_43 := by
  delta kHf_43
  exact (nO_app (nPa_ok (d := 1) (nt := 1) (by decide) (by decide)))
def kHf_44 : kS → Option (List kS) := (nApp (nPo 1 1))
theorem kO_44 : kOne RO kHf_44 := by
  delta kHf_44
  exact (nO_app (nPo_ok (d := 1) (nt := 1) (by decide) (by decide)))
def kHf_45 : kS → Option (List kS) := (nApp (nPe 1))
theorem kO_45 : kOne RO kHf_45 := by
  delta kHf_45
  exact (nO_app (nPe_ok (d := 1) (by decide)))
def kHf_46 : kS → Option (List kS) := (nApp (nPx 1 1))
theorem kO_46 : kOne RO kHf_46 := by
  delta kHf_46
  exact (nO_app (nPx_ok (d := 1) (nt := 1) (by decide) (by decide)))
def kHf_47 : kS → Option (List kS) := (nApp (nPu 1 2))
theorem kO_47 : kOne RO kHf_47 := by
  delta kHf_47
  exact (nO_app (nPu_ok (d := 1) (nt := 2) (by decide) (by decide)))
def kHf_48 : kS → Option (List kS) := (nApp (nPa 1 2))
theorem kO_48 : kOne RO kHf_48 := by
  delta kHf_48
  exact (nO_app (nPa_ok (d := 1) (nt := 2) (by decide) (by decide)))
def kHf_49 : kS → Option (List kS) := (nApp (nPo 1 2))
theorem kO_49 : kOne RO kHf_49 := by
  delta kHf_49
  exact (nO_app (nPo_ok (d := 1) (nt := 2) (by decide) (by decide)))
def kHf_50 : kS → Option (List kS) := (nApp (nPe 1))
theorem kO_50 : kOne RO kHf_50 := by
  delta kHf_50
  exact (nO_app (nPe_ok (d := 1) (by decide)))
def kHf_51 : kS → Option (List kS) := (nApp (nPx 1 2))
theorem kO_51 : kOne RO kHf_51 := by
  delta kHf_51
  exact (nO_app (nPx_ok (d := 1) (nt := 2) (by decide) (by decide)))
def kHf_52 : kS → Option (List kS) := (nApp (nPu 1 3))
theorem kO_52 : kOne RO kHf_52 := by
  delta kHf_52
  exact (nO_app (nPu_ok (d := 1) (nt := 3) (by decide) (by decide)))
def kHf_53 : kS → Option (List kS) := (nApp (nPa 1 3))
theorem kO_53 : kOne RO kHf_53 := by
  delta kHf_53
  exact (nO_app (nPa_ok (d := 1) (nt := 3) (by decide) (by decide)))
def kHf_54 : kS → Option (List kS) := (nApp (nPx 1 3))
theorem kO_54 : kOne RO kHf_54 := by
  delta kHf_54
  exact (nO_app (nPx_ok (d := 1) (nt := 3) (by decide) (by decide)))
def kHf_55 : kS → Option (List kS) := (nApp (nPo 1 3))
theorem kO_55 : kOne RO kHf_55 := by
  delta kHf_55
  exact (nO_app (nPo_ok (d := 1) (nt := 3) (by decide) (by decide)))
def kHf_56 : kS → Option (List kS) := (nApp (nPe 1))
theorem kO_56 : kOne RO kHf_56 := by
  delta kHf_56
  exact (nO_app (nPe_ok (d := 1) (by decide)))
def kHf_57 : kS → Option (List kS) := (nApp (nPu 1 4))
theorem kO_57 : kOne RO kHf_57 := by
  delta kHf_57
  exact (nO_app (nPu_ok (d := 1) (nt := 4) (by decide) (by decide)))
def kHf_58 : kS → Option (List kS) := (nApp (nPa 1 4))
theorem kO_58 : kOne RO kHf_58 := by
  delta kHf_58
  exact (nO_app (nPa_ok (d := 1) (nt := 4) (by decide) (by decide)))
def kHf_59 : kS → Option (List kS) := (nApp (nPo 1 4))
theorem kO_59 : kOne RO kHf_59 := by
  delta kHf_59
  exact (nO_app (nPo_ok (d := 1) (nt := 4) (by decide) (by decide)))
def kHf_60 : kS → Option (List kS) := (nApp (nPe 1))
theorem kO_60 : kOne RO kHf_60 := by
  delta kHf_60
  exact (nO_app (nPe_ok (d := 1) (by decide)))
def kHf_61 : kS → Option (List kS) := (nApp (nPx 1 4))
theorem kO_61 : kOne RO kHf_61 := by
  delta kHf_61
  exact (nO_app (nPx_ok (d := 1) (nt := 4) (by decide) (by decide)))
def kHf_62 : kS → Option (List kS) := (nApp (nPu 1 5))
theorem kO_62 : kOne RO kHf_62 := by
  delta kHf_62
  exact (nO_app (nPu_ok (d := 1) (nt := 5) (by decide) (by decide)))
def kHf_63 : kS → Option (List kS) := (nApp (nPa 1 5))
theorem kO_63 : kOne RO kHf_63 := by
  delta kHf_63
  exact (nO_app (nPa_ok (d := 1) (nt := 5) (by decide) (by decide)))
def kHf_64 : kS → Option (List kS) := (nApp (nPo 1 5))
theorem kO_64 : kOne RO kHf_64 := by
  delta kHf_64
  exact (nO_app (nPo_ok (d := 1) (nt := 5) (by decide) (by decide)))
def kHf_65 : kS → Option (List kS) := (nApp (nPe 1))
theorem kO_65 : kOne RO kHf_65 := by
  delta kHf_65
  exact (nO_app (nPe_ok (d := 1) (by decide)))
def kHf_66 : kS → Option (List kS) := (nApp (nPx 1 5))
theorem kO_66 : kOne RO kHf_66 := by
  delta kHf_66
  exact (nO_app (nPx_ok (d := 1) (nt := 5) (by decide) (by decide)))
def kHf_67 : kS → Option (List kS) := (kThen (kApp (kR0 [(5, [sC 0, sC 0])])) (kApp (kR5 (kF130 52 21))))
theorem kO_67 : kOne RO kHf_67 := by
  delta kHf_67
  exact (kO_then (kO_app kR0a) (kO_app (kR5_ok _)))
def kHf_68 : kS → Option (List kS) := (kThen (kApp kR8) (kThen (kApp (kR5 (kF130 52 21))) (nApp nPtm)))
theorem kO_68 : kOne RO kHf_68 := by
  delta kHf_68
  exact (kO_then (kO_app kR8_ok) (kO_then (kO_app (kR5_ok _)) (nO_app (nPtm_ok))))
def kHf_69 : kS → Option (List kS) := (kThen (nApp nPtm) (nApp nPbm))
theorem kO_69 : kOne RO kHf_69 := by
  delta kHf_69
  exact (kO_then (nO_app (nPtm_ok)) (nO_app (nPbm_ok)))
def kHf_70 : kS → Option (List kS) := (kThen (kApp kR8) (kApp kR6))
theorem kO_70 : kOne RO kHf_70 := by
  delta kHf_70
  exact (kO_then (kO_app kR8_ok) (kO_app kR6_ok))
def kHf_71 : kS → Option (List kS) := (kThen (kApp (kR0 [(6, [sC 0, sC 0])])) (nApp nPsm))
theorem kO_71 : kOne RO kHf_71 := by
  delta kHf_71
  exact (kO_then (kO_app kR0d) (nO_app (nPsm_ok)))
def kHf_72 : kS → Option (List kS) := (nApp (nPl 1))
theorem kO_72 : kOne RO kHf_72 := by
  delta kHf_72
  exact (nO_app (nPl_ok (d := 1) (by decide)))
def kHf_73 : kS → Option (List kS) := (nApp (nPk 1))
theorem kO_73 : kOne RO kHf_73 := by
  delta kHf_73
  exact (nO_app (nPk_ok (d := 1) (by decide)))
def kHf_74 : kS → Option (List kS) := (kApp (kR0 [(8, [sC 0])]))
theorem kO_74 : kOne RO kHf_74 := by
  delta kHf_74
  exact (kO_app kR0b)
def kHf_75 : kS → Option (List kS) := (kApp (kR9 8 65 66 130))
theorem kO_75 : kOne RO kHf_75 := by
  delta kHf_75
  exact (kO_app kR9a)
def kHf_76 : kS → Option (List kS) := (kApp (kR15 52 21))
theorem kO_76 : kOne RO kHf_76 := by
  delta kHf_76
  exact (kO_app (kR15_ok 52 21))
def kHf_77 : kS → Option (List kS) := (kApp (kR0 [(9, [sC 0])]))
theorem kO_77 : kOne RO kHf_77 := by
  delta kHf_77
  exact (kO_app kR0c)
def kHf_78 : kS → Option (List kS) := (kApp (kR9 9 68 69 61))
theorem kO_78 : kOne RO kHf_78 := by
  delta kHf_78
  exact (kO_app kR9b)
def kHf_79 : kS → Option (List kS) := (kThen (kApp kR7) (nApp nPrm))
theorem kO_79 : kOne RO kHf_79 := by
  delta kHf_79
  exact (kO_then (kO_app kR7_ok) (nO_app (nPrm_ok)))
def kHf_80 : kS → Option (List kS) := (kApp (kR5 kFst))
theorem kO_80 : kOne RO kHf_80 := by
  delta kHf_80
  exact (kO_app (kR5_ok _))
def kHf_81 : kS → Option (List kS) := (nApp nWI)
theorem kO_81 : kOne RO kHf_81 := by
  delta kHf_81
  exact (nO_app (nWI_ok))
def kHf_82 : kS → Option (List kS) := (kApp (kR11 5))
theorem kO_82 : kOne RO kHf_82 := by
  delta kHf_82
  exact (kO_app (kR11_ok 5))
def kHf_83 : kS → Option (List kS) := (kApp (kR12 5))
theorem kO_83 : kOne RO kHf_83 := by
  delta kHf_83
  exact (kO_app (kR12_ok 5))
def kHf_84 : kS → Option (List kS) := (kThen (kApp kR4) (nApp nWN))
theorem kO_84 : kOne RO kHf_84 := by
  delta kHf_84
  exact (kO_then (kO_app kR4_ok) (nO_app (nWN_ok)))
def kHf_85 : kS → Option (List kS) := (nApp nWE)
theorem kO_85 : kOne RO kHf_85 := by
  delta kHf_85
  exact (nO_app (nWE_ok))
def kHf_86 : kS → Option (List kS) := (kThen (kApp (kR0 [(10, [sC 0, sC 0])])) (nApp nGI))
theorem kO_86 : kOne RO kHf_86 := by
  delta kHf_86
  exact (kO_then (kO_app kR0e) (nO_app (nGI_ok)))
def kHf_87 : kS → Option (List kS) := (kApp kR10)
theorem kO_87 : kOne RO kHf_87 := by
  delta kHf_87
  exact (kO_app kR10_ok)
def kHf_88 : kS → Option (List kS) := (kApp kR10)
theorem kO_88 : kOne RO kHf_88 := by
  delta kHf_88
  exact (kO_app kR10_ok)
def kHf_89 : kS → Option (List kS) := (nApp nGE)
theorem kO_89 : kOne RO kHf_89 := by
  delta kHf_89
  exact (nO_app (nGE_ok))
def kHf_90 : kS → Option (List kS) := (kApp kR10)
theorem kO_90 : kOne RO kHf_90 := by
  delta kHf_90
  exact (kO_app kR10_ok)
def kHf_91 : kS → Option (List kS) := (nApp nGN)
theorem kO_91 : kOne RO kHf_91 := by
  delta kHf_91
  exact (nO_app (nGN_ok))
def kHf_92 : kS → Option (List kS) := (nApp nGZ)
theorem kO_92 : kOne RO kHf_92 := by
  delta kHf_92
  exact (nO_app (nGZ_ok))
def kHf_93 : kS → Option (List kS) := (nFIN)
theorem kO_93 : kOne RO kHf_93 := by
  delta kHf_93
  exact (fun _ _ h _ _ hD => nFIN_ok h hD)
def kHf_94 : kS → Option (List kS) := (kApp (nWG 29))
theorem kO_94 : kOne RO kHf_94 := by
  delta kHf_94
  exact (kO_app (nWG_ok 29))
def kHf_95 : kS → Option (List kS) := (kNrm 1)
theorem kO_95 : kOne RO kHf_95 := by
  delta kHf_95
  exact (fun _ _ h _ _ hD => kNrm_ok h hD)
def kHf_96 : kS → Option (List kS) := (kApp (nLSi 31))
theorem kO_96 : kOne RO kHf_96 := by
  delta kHf_96
  exact (kO_app (nLSi_ok 31))
def kHf_97 : kS → Option (List kS) := (kApp (nLSs 31))
theorem kO_97 : kOne RO kHf_97 := by
  delta kHf_97
  exact (kO_app (nLSs_ok 31))
def kHf_98 : kS → Option (List kS) := (nLSe 31)
theorem kO_98 : kOne RO kHf_98 := by
  delta kHf_98
  exact (fun _ _ h _ _ hD => nLSe_ok _ h hD)
def kHf_99 : kS → Option (List kS) := (kApp (nNIm 29))
theorem kO_99 : kOne RO kHf_99 := by
  delta kHf_99
  exact (kO_app (nNIm_ok 29))
def kHf_100 : kS → Option (List kS) := (kApp nNSm)
theorem kO_100 : kOne RO kHf_100 := by
  delta kHf_100
  exact (kO_app nNSm_ok)
def kHf_101 : kS → Option (List kS) := (kApp nNRm)
theorem kO_101 : kOne RO kHf_101 := by
  delta kHf_101
  exact (kO_app nNRm_ok)
def kHf_102 : kS → Option (List kS) := (kApp nHNi)
theorem kO_102 : kOne RO kHf_102 := by
  delta kHf_102
  exact (kO_app nHNi_ok)
def kHf_103 : kS → Option (List kS) := (kApp (nHRm 5))
theorem kO_103 : kOne RO kHf_103 := by
  delta kHf_103
  exact (kO_app (nHRm_ok 5))
def kHf_104 : kS → Option (List kS) := (kApp nHNs)
theorem kO_104 : kOne RO kHf_104 := by
  delta kHf_104
  exact (kO_app nHNs_ok)
def kHf_105 : kS → Option (List kS) := (kApp (nHRm 5))
theorem kO_105 : kOne RO kHf_105 := by
  delta kHf_105
  exact (kO_app (nHRm_ok 5))
def kHf_106 : kS → Option (List kS) := (kApp nSUm)
theorem kO_106 : kOne RO kHf_106 := by
  delta kHf_106
  exact (kO_app nSUm_ok)
def kHf_107 : kS → Option (List kS) := (nSame 92)
theorem kO_107 : kOne RO kHf_107 := by
  delta kHf_107
  exact (fun _ _ h _ _ hD => nSame_ok (kd := 92) (by decide) h hD)
def kHf_108 : kS → Option (List kS) := (kNrm 1)
theorem kO_108 : kOne RO kHf_108 := by
  delta kHf_108
  exact (fun _ _ h _ _ hD => kNrm_ok h hD)
def kHf_109 : kS → Option (List kS) := (kApp (sfKi0 1 4 33))
theorem kO_109 : kOne RO kHf_109 := by
  delta kHf_109
  exact (kO_app (sfKi0_ok (d := 1) (Or.inr rfl) 4 33))
def kHf_110 : kS → Option (List kS) := (kApp (sfKs1 1 4 33))
theorem kO_110 : kOne RO kHf_110 := by
  delta kHf_110
  exact (kO_app (sfKs1_ok (d := 1) (Or.inr rfl) 4 33))
def kHf_111 : kS → Option (List kS) := (kApp (sfKe1 1 4 33))
theorem kO_111 : kOne RO kHf_111 := by
  delta kHf_111
  exact (kO_app (sfKe1_ok (d := 1) 4 33))
def kHf_112 : kS → Option (List kS) := (kApp (sfGTi 29 1))
theorem kO_112 : kOne RO kHf_112 := by
  delta kHf_112
  exact (kO_app (sfGTi_ok 29 1))
def kHf_113 : kS → Option (List kS) := (kApp (sfVAi 4 1))
theorem kO_113 : kOne RO kHf_113 := by
  delta kHf_113
  exact (kO_app (sfVAi_ok 4 1))
def kHf_114 : kS → Option (List kS) := (kApp (sfGTs 29 1))
theorem kO_114 : kOne RO kHf_114 := by
  delta kHf_114
  exact (kO_app (sfGTs_ok 29 1))
def kHf_115 : kS → Option (List kS) := (kApp (sfGTa 29 1))
theorem kO_115 : kOne RO kHf_115 := by
  delta kHf_115
  exact (kO_app (sfGTa_ok 29 1))
def kHf_116 : kS → Option (List kS) := (kApp (sfGTp 29 1))
theorem kO_116 : kOne RO kHf_116 := by
  delta kHf_116
  exact (kO_app (sfGTp_ok 29 1))
def kHf_117 : kS → Option (List kS) := (kApp (sfGTe 29 1))
theorem kO_117 : kOne RO kHf_117 := by
  delta kHf_117
  exact (kO_app (sfGTe_ok 29 1))
def kHf_118 : kS → Option (List kS) := (kApp sfGTr)
theorem kO_118 : kOne RO kHf_118 := by
  delta kHf_118
  exact (kO_app sfGTr_ok)
def kHf_119 : kS → Option (List kS) := (kApp (pdV4 1))
theorem kO_119 : kOne RO kHf_119 := by
  delta kHf_119
  exact (kO_app (pdV4_ok 1))
def kHf_120 : kS → Option (List kS) := (kApp (pdV4 1))
theorem kO_120 : kOne RO kHf_120 := by
  delta kHf_120
  exact (kO_app (pdV4_ok 1))
def kHf_121 : kS → Option (List kS) := (kApp (pdTGd 29 33 1))
theorem kO_121 : kOne RO kHf_121 := by
  delta kHf_121
  exact (kO_app (pdTGd_ok 29 33 1))
def kHf_122 : kS → Option (List kS) := (kApp (pdTGe 29 33 1))
theorem kO_122 : kOne RO kHf_122 := by
  delta kHf_122
  exact (kO_app (pdTGe_ok 29 33 1))
def kHf_123 : kS → Option (List kS) := (kApp (pdTGw 29 33 1))
theorem kO_123 : kOne RO kHf_123 := by
  delta kHf_123
  exact (kO_app (pdTGw_ok 29 33 1))
def kHf_124 : kS → Option (List kS) := (kApp (pdTGo 29 33 1))
theorem kO_124 : kOne RO kHf_124 := by
  delta kHf_124
  exact (kO_app (pdTGo_ok 29 33 1))
def kHf_125 : kS → Option (List kS) := (kThen (kApp pdK0) (pdNRF 1))
theorem kO_125 : kOne RO kHf_125 := by
  delta kHf_125
  exact (kO_then (kO_app pdK0_ok) (fun _ _ h _ _ hD => pdNRF_ok (i := 1) h hD))
def kHf_126 : kS → Option (List kS) := (kApp (pdTGi 29 33 1))
theorem kO_126 : kOne RO kHf_126 := by
  delta kHf_126
  exact (kO_app (pdTGi_ok 29 33 1))
def kHf_127 : kS → Option (List kS) := (kThen (pdNRF 3) (kApp (pdTG0 29 33 1)))
theorem kO_127 : kOne RO kHf_127 := by
  delta kHf_127
  exact (kO_then (fun _ _ h _ _ hD => pdNRF_ok (i := 3) h hD) (kO_app (pdTG0_ok 29 33 1)))
def kHf_128 : kS → Option (List kS) := (kApp (pdSRC 29 33 1))
theorem kO_128 : kOne RO kHf_128 := by
  delta kHf_128
  exact (kO_app (pdSRC_ok 29 33 1))
def kHf_129 : kS → Option (List kS) := (kApp (pdTGn 29 33 1))
theorem kO_129 : kOne RO kHf_129 := by
  delta kHf_129
  exact (kO_app (pdTGn_ok 29 33 1))
def kHf_130 : kS → Option (List kS) := (kApp (pdTGa 29 33 1))
theorem kO_130 : kOne RO kHf_130 := by
  delta kHf_130
  exact (kO_app (pdTGa_ok 29 33 1))
def kHf_131 : kS → Option (List kS) := (kApp (pdTGp 29 33 1))
theorem kO_131 : kOne RO kHf_131 := by
  delta kHf_131
  exact (kO_app (pdTGp_ok 29 33 1))
def kHf_132 : kS → Option (List kS) := (kApp (pdTSi 29 33 1))
theorem kO_132 : kOne RO kHf_132 := by
  delta kHf_132
  exact (kO_app (pdTSi_ok 29 33 1))
def kHf_133 : kS → Option (List kS) := (kApp pdV4s)
theorem kO_133 : kOne RO kHf_133 := by
  delta kHf_133
  exact (kO_app pdV4s_ok)
def kHf_134 : kS → Option (List kS) := (kApp (pdTSs 29 33 1))
theorem kO_134 : kOne RO kHf_134 := by
  delta kHf_134
  exact (kO_app (pdTSs_ok 29 33 1))
def kHf_135 : kS → Option (List kS) := (kApp (pdTSe 29 33 1))
theorem kO_135 : kOne RO kHf_135 := by
  delta kHf_135
  exact (kO_app (pdTSe_ok 29 33 1))
def kHf_136 : kS → Option (List kS) := (kApp (pdPR0 29 33 1))
theorem kO_136 : kOne RO kHf_136 := by
  delta kHf_136
  exact (kO_app (pdPR0_ok 29 33 1))
def kHf_137 : kS → Option (List kS) := (kApp pdTZi)
theorem kO_137 : kOne RO kHf_137 := by
  delta kHf_137
  exact (kO_app pdTZi_ok)
def kHf_138 : kS → Option (List kS) := (kApp pdTZs)
theorem kO_138 : kOne RO kHf_138 := by
  delta kHf_138
  exact (kO_app pdTZs_ok)
def kHf_139 : kS → Option (List kS) := (kApp (pdTBi 29 33 1))
theorem kO_139 : kOne RO kHf_139 := by
  delta kHf_139
  exact (kO_app (pdTBi_ok 29 33 1))
def kHf_140 : kS → Option (List kS) := (pdOXr)
theorem kO_140 : kOne RO kHf_140 := by
  delta kHf_140
  exact (fun _ _ h _ _ hD => pdOXr_ok h hD)
def kHf_141 : kS → Option (List kS) := (kApp (pdTBk 29 33 1))
theorem kO_141 : kOne RO kHf_141 := by
  delta kHf_141
  exact (kO_app (pdTBk_ok 29 33 1))
def kHf_142 : kS → Option (List kS) := (kApp (pdTBn 29 33 1))
theorem kO_142 : kOne RO kHf_142 := by
  delta kHf_142
  exact (kO_app (pdTBn_ok 29 33 1))
def kHf_143 : kS → Option (List kS) := (kApp (pdPRi 29 33 1))
theorem kO_143 : kOne RO kHf_143 := by
  delta kHf_143
  exact (kO_app (pdPRi_ok 29 33 1))
def kHf_144 : kS → Option (List kS) := (kApp (pdPRe 29 33 1))
theorem kO_144 : kOne RO kHf_144 := by
  delta kHf_144
  exact (kO_app (pdPRe_ok 29 33 1))
def kHf_145 : kS → Option (List kS) := (kApp (pdPRs 29 33 1))
theorem kO_145 : kOne RO kHf_145 := by
  delta kHf_145
  exact (kO_app (pdPRs_ok 29 33 1))
def kHf_146 : kS → Option (List kS) := (kApp (pdPRe 29 33 1))
theorem kO_146 : kOne RO kHf_146 := by
  delta kHf_146
  exact (kO_app (pdPRe_ok 29 33 1))
def kHf_147 : kS → Option (List kS) := (nSame 93)
theorem kO_147 : kOne RO kHf_147 := by
  delta kHf_147
  exact (fun _ _ h _ _ hD => nSame_ok (kd := 93) (by decide) h hD)
def kHf_148 : kS → Option (List kS) := (nSame 93)
theorem kO_148 : kOne RO kHf_148 := by
  delta kHf_148
  exact (fun _ _ h _ _ hD => nSame_ok (kd := 93) (by decide) h hD)
def kHf_149 : kS → Option (List kS) := (nSame 93)
theorem kO_149 : kOne RO kHf_149 := by
  delta kHf_149
  exact (fun _ _ h _ _ hD => nSame_ok (kd := 93) (by decide) h hD)
def kHf_150 : kS → Option (List kS) := (kApp nTNr)
theorem kO_150 : kOne RO kHf_150 := by
  delta kHf_150
  exact (kO_app nTNr_ok)
def kHf_151 : kS → Option (List kS) := (kApp (nNEw 4))
theorem kO_151 : kOne RO kHf_151 := by
  delta kHf_151
  exact (kO_app (nNEw_ok 4))
def kHf_152 : kS → Option (List kS) := (kApp nTNb)
theorem kO_152 : kOne RO kHf_152 := by
  delta kHf_152
  exact (kO_app nTNb_ok)
def kHf_153 : kS → Option (List kS) := (kNrm 2)
theorem kO_153 : kOne RO kHf_153 := by
  delta kHf_153
  exact (fun _ _ h _ _ hD => kNrm_ok h hD)
def kHf_154 : kS → Option (List kS) := (nSame 89)
theorem kO_154 : kOne RO kHf_154 := by
  delta kHf_154
  exact (fun _ _ h _ _ hD => nSame_ok (kd := 89) (by decide) h hD)
def kHf_155 : kS → Option (List kS) := (kApp (nTDu 46))
theorem kO_155 : kOne RO kHf_155 := by
  delta kHf_155
  exact (kO_app (nTDu_ok 46))
def kHf_156 : kS → Option (List kS) := (nSame 92)
theorem kO_156 : kOne RO kHf_156 := by
  delta kHf_156
  exact (fun _ _ h _ _ hD => nSame_ok (kd := 92) (by decide) h hD)
def kHf_157 : kS → Option (List kS) := (nSame 93)
theorem kO_157 : kOne RO kHf_157 := by
  delta kHf_157
  exact (fun _ _ h _ _ hD => nSame_ok (kd := 93) (by decide) h hD)
def kHf_158 : kS → Option (List kS) := (nCAN)
theorem kO_158 : kOne RO kHf_158 := by
  delta kHf_158
  exact (fun _ _ h _ _ hD => nCAN_ok h hD)
def kHf_159 : kS → Option (List kS) := (kThen (kSplL 0 8) (kSplL 1 8))
theorem kO_159 : kOne RO kHf_159 := by
  delta kHf_159
  exact (kO_then (kO_splL 0 8) (kO_splL 1 8))
def kHf_160 : kS → Option (List kS) := (kApp kIS)
theorem kO_160 : kOne RO kHf_160 := by
  delta kHf_160
  exact (kO_app kIS_ok)
def kHf_161 : kS → Option (List kS) := (kNrm 1)
theorem kO_161 : kOne RO kHf_161 := by
  delta kHf_161
  exact (fun _ _ h _ _ hD => kNrm_ok h hD)
def kHf_162 : kS → Option (List kS) := (kApp kZRr)
theorem kO_162 : kOne RO kHf_162 := by
  delta kHf_162
  exact (kO_app kZRr_ok)
def kHf_163 : kS → Option (List kS) := (kApp kZRe)
theorem kO_163 : kOne RO kHf_163 := by
  delta kHf_163
  exact (kO_app kZRe_ok)
def kHf_164 : kS → Option (List kS) := (kNrm 1)
theorem kO_164 : kOne RO kHf_164 := by
  delta kHf_164
  exact (fun _ _ h _ _ hD => kNrm_ok h hD)
def kHf_165 : kS → Option (List kS) := (kQPM)
theorem kO_165 : kOne RO kHf_165 := by
  delta kHf_165
  exact (fun _ _ h _ _ hD => kQPM_ok h hD)
def kHf_166 : kS → Option (List kS) := (kThen (kQPM) (kNT))
theorem kO_166 : kOne RO kHf_166 := by
  delta kHf_166
  exact (kO_then (fun _ _ h _ _ hD => kQPM_ok h hD) (fun _ _ h _ _ hD => kNT_ok h hD))
def kHf_167 : kS → Option (List kS) := (kQCS)
theorem kO_167 : kOne RO kHf_167 := by
  delta kHf_167
  exact (fun _ _ h _ _ hD => kQCS_ok h hD)
def kHf_168 : kS → Option (List kS) := (kApp kK1E)
theorem kO_168 : kOne RO kHf_168 := by
  delta kHf_168
  exact (kO_app kK1E_ok)
def kHf_169 : kS → Option (List kS) := (kThen (kNrm 1) (kNrm 3))
theorem kO_169 : kOne RO kHf_169 := by
  delta kHf_169
  exact (kO_then (fun _ _ h _ _ hD => kNrm_ok h hD) (fun _ _ h _ _ hD => kNrm_ok h hD))
def kHf_170 : kS → Option (List kS) := (kQSM)
theorem kO_170 : kOne RO kHf_170 := by
  delta kHf_170
  exact (fun _ _ h _ _ hD => kQSM_ok h hD)
def kHf_171 : kS → Option (List kS) := (kQSM)
theorem kO_171 : kOne RO kHf_171 := by
  delta kHf_171
  exact (fun _ _ h _ _ hD => kQSM_ok h hD)
def kHf_172 : kS → Option (List kS) := (kQSM)
theorem kO_172 : kOne RO kHf_172 := by
  delta kHf_172
  exact (fun _ _ h _ _ hD => kQSM_ok h hD)
def kHf_173 : kS → Option (List kS) := (kQSM)
theorem kO_173 : kOne RO kHf_173 := by
  delta kHf_173
  exact (fun _ _ h _ _ hD => kQSM_ok h hD)
def kHf_174 : kS → Option (List kS) := (kApp kBFr)
theorem kO_174 : kOne RO kHf_174 := by
  delta kHf_174
  exact (kO_app kBFr_ok)
def kHf_175 : kS → Option (List kS) := (kApp kL2i)
theorem kO_175 : kOne RO kHf_175 := by
  delta kHf_175
  exact (kO_app kL2i_ok)
def kHf_176 : kS → Option (List kS) := (kApp kL2e)
theorem kO_176 : kOne RO kHf_176 := by
  delta kHf_176
  exact (kO_app kL2e_ok)
def kHf_177 : kS → Option (List kS) := (kThen (kSplL 0 8) (kSplL 1 8))
theorem kO_177 : kOne RO kHf_177 := by
  delta kHf_177
  exact (kO_then (kO_splL 0 8) (kO_splL 1 8))
def kHf_178 : kS → Option (List kS) := (kApp kIS)
theorem kO_178 : kOne RO kHf_178 := by
  delta kHf_178
  exact (kO_app kIS_ok)
def kHf_179 : kS → Option (List kS) := (kSplL 2 4)
theorem kO_179 : kOne RO kHf_179 := by
  delta kHf_179
  exact (kO_splL 2 4)
def kHf_180 : kS → Option (List kS) := (kSplS 0 8)
theorem kO_180 : kOne RO kHf_180 := by
  delta kHf_180
  exact (kO_splS 0 8)
def kHf_181 : kS → Option (List kS) := (pdSWs)
theorem kO_181 : kOne RO kHf_181 := by
  delta kHf_181
  exact (fun _ _ h _ _ hD => pdSWs_ok h hD)
def kHf_182 : kS → Option (List kS) := (kThen (kApp pdSWa) (kApp (sfKi0 0 4 33)))
theorem kO_182 : kOne RO kHf_182 := by
  delta kHf_182
  exact (kO_then (kO_app pdSWa_ok) (kO_app (sfKi0_ok (d := 0) (Or.inl rfl) 4 33)))
def kHf_183 : kS → Option (List kS) := (pdSWs)
theorem kO_183 : kOne RO kHf_183 := by
  delta kHf_183
  exact (fun _ _ h _ _ hD => pdSWs_ok h hD)
def kHf_184 : kS → Option (List kS) := (kThen (kApp pdSWa) (kApp (sfKs1 0 4 33)))
theorem kO_184 : kOne RO kHf_184 := by
  delta kHf_184
  exact (kO_then (kO_app pdSWa_ok) (kO_app (sfKs1_ok (d := 0) (Or.inl rfl) 4 33)))
def kHf_185 : kS → Option (List kS) := (kApp (sfKe1 0 4 33))
theorem kO_185 : kOne RO kHf_185 := by
  delta kHf_185
  exact (kO_app (sfKe1_ok (d := 0) 4 33))
def kHf_186 : kS → Option (List kS) := (kThen (kApp nTN) (kApp sfBW))
theorem kO_186 : kOne RO kHf_186 := by
  delta kHf_186
  exact (kO_then (kO_app nTN_ok) (kO_app sfBW_ok))
def kHf_187 : kS → Option (List kS) := (pdSWs)
theorem kO_187 : kOne RO kHf_187 := by
  delta kHf_187
  exact (fun _ _ h _ _ hD => pdSWs_ok h hD)
def kHf_188 : kS → Option (List kS) := (kApp (pdPC0 4))
theorem kO_188 : kOne RO kHf_188 := by
  delta kHf_188
  exact (kO_app (pdPC0_ok 4))
def kHf_189 : kS → Option (List kS) := (kApp (pdN0i 4))
theorem kO_189 : kOne RO kHf_189 := by
  delta kHf_189
  exact (kO_app (pdN0i_ok 4))
def kHf_190 : kS → Option (List kS) := (kThen (kApp nTN) (kApp (pdN0s 4)))
theorem kO_190 : kOne RO kHf_190 := by
  delta kHf_190
  exact (kO_then (kO_app nTN_ok) (kO_app (pdN0s_ok 4)))
def kHf_191 : kS → Option (List kS) := (kApp (pdN0e 4))
theorem kO_191 : kOne RO kHf_191 := by
  delta kHf_191
  exact (kO_app (pdN0e_ok 4))
def kHf_192 : kS → Option (List kS) := (kApp (pdNDi 4))
theorem kO_192 : kOne RO kHf_192 := by
  delta kHf_192
  exact (kO_app (pdNDi_ok 4))
def kHf_193 : kS → Option (List kS) := (kApp (pdRUe 4))
theorem kO_193 : kOne RO kHf_193 := by
  delta kHf_193
  exact (kO_app (pdRUe_ok 4))
def kHf_194 : kS → Option (List kS) := (kApp (pdRUn 4))
theorem kO_194 : kOne RO kHf_194 := by
  delta kHf_194
  exact (kO_app (pdRUn_ok 4))
def kHf_195 : kS → Option (List kS) := (kApp pdSWa)
theorem kO_195 : kOne RO kHf_195 := by
  delta kHf_195
  exact (kO_app pdSWa_ok)
def kHf_196 : kS → Option (List kS) := (kApp (pdMNr 4))
theorem kO_196 : kOne RO kHf_196 := by
  delta kHf_196
  exact (kO_app (pdMNr_ok 4))
def kHf_197 : kS → Option (List kS) := (kThen (kApp nTN) (kApp (pdNDs 4)))
theorem kO_197 : kOne RO kHf_197 := by
  delta kHf_197
  exact (kO_then (kO_app nTN_ok) (kO_app (pdNDs_ok 4)))
def kHf_198 : kS → Option (List kS) := (kApp (pdNDw 4))
theorem kO_198 : kOne RO kHf_198 := by
  delta kHf_198
  exact (kO_app (pdNDw_ok 4))
def kHf_199 : kS → Option (List kS) := (kApp (pdNDe 4))
theorem kO_199 : kOne RO kHf_199 := by
  delta kHf_199
  exact (kO_app (pdNDe_ok 4))
def kHf_200 : kS → Option (List kS) := (kApp (pdBNi 4))
theorem kO_200 : kOne RO kHf_200 := by
  delta kHf_200
  exact (kO_app (pdBNi_ok 4))
def kHf_201 : kS → Option (List kS) := (kThen (kApp nTN) (kApp (pdBNs 4)))
theorem kO_201 : kOne RO kHf_201 := by
  delta kHf_201
  exact (kO_then (kO_app nTN_ok) (kO_app (pdBNs_ok 4)))
def kHf_202 : kS → Option (List kS) := (kApp (pdBNe 4))
theorem kO_202 : kOne RO kHf_202 := by
  delta kHf_202
  exact (kO_app (pdBNe_ok 4))
def kHf_203 : kS → Option (List kS) := (kThen (kApp nTN) (kApp (pdNPs 4)))
theorem kO_203 : kOne RO kHf_203 := by
  delta kHf_203
  exact (kO_then (kO_app nTN_ok) (kO_app (pdNPs_ok 4)))
def kHf_204 : kS → Option (List kS) := (kApp (pdNPe 4))
theorem kO_204 : kOne RO kHf_204 := by
  delta kHf_204
  exact (kO_app (pdNPe_ok 4))
def kHf_205 : kS → Option (List kS) := (kApp (pdALi 4))
theorem kO_205 : kOne RO kHf_205 := by
  delta kHf_205
  exact (kO_app (pdALi_ok 4))
def kHf_206 : kS → Option (List kS) := (kApp (pdALs 4))
theorem kO_206 : kOne RO kHf_206 := by
  delta kHf_206
  exact (kO_app (pdALs_ok 4))
def kHf_207 : kS → Option (List kS) := (kApp (pdALe 4))
theorem kO_207 : kOne RO kHf_207 := by
  delta kHf_207
  exact (kO_app (pdALe_ok 4))
def kHf_208 : kS → Option (List kS) := (kApp pdCLi)
theorem kO_208 : kOne RO kHf_208 := by
  delta kHf_208
  exact (kO_app pdCLi_ok)
def kHf_209 : kS → Option (List kS) := (kApp pdCLs)
theorem kO_209 : kOne RO kHf_209 := by
  delta kHf_209
  exact (kO_app pdCLs_ok)
def kHf_210 : kS → Option (List kS) := (kApp pdCLe)
theorem kO_210 : kOne RO kHf_210 := by
  delta kHf_210
  exact (kO_app pdCLe_ok)
def kHf_211 : kS → Option (List kS) := (pdOFv)
theorem kO_211 : kOne RO kHf_211 := by
  delta kHf_211
  exact (fun _ _ h _ _ hD => pdOFv_ok h hD)
def kHf_212 : kS → Option (List kS) := (kApp (pdPCi 4))
theorem kO_212 : kOne RO kHf_212 := by
  delta kHf_212
  exact (kO_app (pdPCi_ok 4))
def kHf_213 : kS → Option (List kS) := (kApp (pdPCe 4))
theorem kO_213 : kOne RO kHf_213 := by
  delta kHf_213
  exact (kO_app (pdPCe_ok 4))
def kHf_214 : kS → Option (List kS) := (kApp (pdPCs 4))
theorem kO_214 : kOne RO kHf_214 := by
  delta kHf_214
  exact (kO_app (pdPCs_ok 4))
def kHf_215 : kS → Option (List kS) := (kApp (pdPCe 4))
theorem kO_215 : kOne RO kHf_215 := by
  delta kHf_215
  exact (kO_app (pdPCe_ok 4))
def kHf_216 : kS → Option (List kS) := (kLg2 1 15 14 16 17)
theorem kO_216 : kOne RO kHf_216 := by
  delta kHf_216
  exact (kO_lg2 (by decide) (fun e H => kUP_1))
def kHf_217 : kS → Option (List kS) := (kLg1 1 15 14 16)
theorem kO_217 : kOne RO kHf_217 := by
  delta kHf_217
  exact (kO_lg1 (cb := 16) (ca := 17) (by decide) (fun e H h => kUP_1.mp h) (by decide))
def kHf_218 : kS → Option (List kS) := (kLg1 1 15 14 17)
theorem kO_218 : kOne RO kHf_218 := by
  delta kHf_218
  exact (kO_lg1 (cb := 16) (ca := 17) (by decide) (fun e H h => kUP_1.mp h) (by decide))
def kHf_219 : kS → Option (List kS) := (kApp nTN)
theorem kO_219 : kOne RO kHf_219 := by
  delta kHf_219
  exact (kO_app nTN_ok)
def kHf_220 : kS → Option (List kS) := (nApp (nXZ [3, 4, 5, 6, 7, 8]))
theorem kO_220 : kOne RO kHf_220 := by
  delta kHf_220
  exact (nO_app (nXZ_ok [3, 4, 5, 6, 7, 8]))
def kHf_221 : kS → Option (List kS) := (nApp (nXI [3, 4, 5, 6, 7, 8] 2))
theorem kO_221 : kOne RO kHf_221 := by
  delta kHf_221
  exact (nO_app (nXI_ok [3, 4, 5, 6, 7, 8] 2))
def kHf_222 : kS → Option (List kS) := (nApp nXHD)
theorem kO_222 : kOne RO kHf_222 := by
  delta kHf_222
  exact (nO_app (nXHD_ok))
def kHf_223 : kS → Option (List kS) := (nApp nXB)
theorem kO_223 : kOne RO kHf_223 := by
  delta kHf_223
  exact (nO_app (nXB_ok))
def kHf_224 : kS → Option (List kS) := (nApp (nXT false))
theorem kO_224 : kOne RO kHf_224 := by
  delta kHf_224
  exact (nO_app (nXT_ok false))
def kHf_225 : kS → Option (List kS) := (nApp nXR)
theorem kO_225 : kOne RO kHf_225 := by
  delta kHf_225
  exact (nO_app (nXR_ok))
def kHf_226 : kS → Option (List kS) := (nApp nXSZ)
theorem kO_226 : kOne RO kHf_226 := by
  delta kHf_226
  exact (nO_app (nXSZ_ok))
def kHf_227 : kS → Option (List kS) := (nApp nXTG)
theorem kO_227 : kOne RO kHf_227 := by
  delta kHf_227
  exact (nO_app (nXTG_ok))
def kHf_228 : kS → Option (List kS) := (nApp (nXT true))
theorem kO_228 : kOne RO kHf_228 := by
  delta kHf_228
  exact (nO_app (nXT_ok true))
def kHf_229 : kS → Option (List kS) := (nApp nXN)
theorem kO_229 : kOne RO kHf_229 := by
  delta kHf_229
  exact (nO_app (nXN_ok))
def kHf_230 : kS → Option (List kS) := (nApp nPsx)
theorem kO_230 : kOne RO kHf_230 := by
  delta kHf_230
  exact (nO_app (nPsx_ok))
def kHf_231 : kS → Option (List kS) := (nApp (nPl 0))
theorem kO_231 : kOne RO kHf_231 := by
  delta kHf_231
  exact (nO_app (nPl_ok (d := 0) (by decide)))
def kHf_232 : kS → Option (List kS) := (nApp (nPk 0))
theorem kO_232 : kOne RO kHf_232 := by
  delta kHf_232
  exact (nO_app (nPk_ok (d := 0) (by decide)))
def kHf_233 : kS → Option (List kS) := (nApp nPtx)
theorem kO_233 : kOne RO kHf_233 := by
  delta kHf_233
  exact (nO_app (nPtx_ok))
def kHf_234 : kS → Option (List kS) := (nApp nPbx)
theorem kO_234 : kOne RO kHf_234 := by
  delta kHf_234
  exact (nO_app (nPbx_ok))
def kHf_235 : kS → Option (List kS) := (nApp nPtx)
theorem kO_235 : kOne RO kHf_235 := by
  delta kHf_235
  exact (nO_app (nPtx_ok))
def kHf_236 : kS → Option (List kS) := (nApp (nPu 0 5))
theorem kO_236 : kOne RO kHf_236 := by
  delta kHf_236
  exact (nO_app (nPu_ok (d := 0) (nt := 5) (by decide) (by decide)))
def kHf_237 : kS → Option (List kS) := (nApp (nPa 0 5))
theorem kO_237 : kOne RO kHf_237 := by
  delta kHf_237
  exact (nO_app (nPa_ok (d := 0) (nt := 5) (by decide) (by decide)))
def kHf_238 : kS → Option (List kS) := (nApp (nPo 0 5))
theorem kO_238 : kOne RO kHf_238 := by
  delta kHf_238
  exact (nO_app (nPo_ok (d := 0) (nt := 5) (by decide) (by decide)))
def kHf_239 : kS → Option (List kS) := (nApp (nPe 0))
theorem kO_239 : kOne RO kHf_239 := by
  delta kHf_239
  exact (nO_app (nPe_ok (d := 0) (by decide)))
def kHf_240 : kS → Option (List kS) := (nApp (nPx 0 5))
theorem kO_240 : kOne RO kHf_240 := by
  delta kHf_240
  exact (nO_app (nPx_ok (d := 0) (nt := 5) (by decide) (by decide)))
def kHf_241 : kS → Option (List kS) := (nApp (nPu 0 4))
theorem kO_241 : kOne RO kHf_241 := by
  delta kHf_241
  exact (nO_app (nPu_ok (d := 0) (nt := 4) (by decide) (by decide)))
def kHf_242 : kS → Option (List kS) := (nApp (nPa 0 4))
theorem kO_242 : kOne RO kHf_242 := by
  delta kHf_242
  exact (nO_app (nPa_ok (d := 0) (nt := 4) (by decide) (by decide)))
def kHf_243 : kS → Option (List kS) := (nApp (nPo 0 4))
theorem kO_243 : kOne RO kHf_243 := by
  delta kHf_243
  exact (nO_app (nPo_ok (d := 0) (nt := 4) (by decide) (by decide)))
def kHf_244 : kS → Option (List kS) := (nApp (nPe 0))
theorem kO_244 : kOne RO kHf_244 := by
  delta kHf_244
  exact (nO_app (nPe_ok (d := 0) (by decide)))
def kHf_245 : kS → Option (List kS) := (nApp (nPx 0 4))
theorem kO_245 : kOne RO kHf_245 := by
  delta kHf_245
  exact (nO_app (nPx_ok (d := 0) (nt := 4) (by decide) (by decide)))
def kHf_246 : kS → Option (List kS) := (nApp (nPu 0 3))
theorem kO_246 : kOne RO kHf_246 := by
  delta kHf_246
  exact (nO_app (nPu_ok (d := 0) (nt := 3) (by decide) (by decide)))
def kHf_247 : kS → Option (List kS) := (nApp (nPa 0 3))
theorem kO_247 : kOne RO kHf_247 := by
  delta kHf_247
  exact (nO_app (nPa_ok (d := 0) (nt := 3) (by decide) (by decide)))
def kHf_248 : kS → Option (List kS) := (nApp (nPo 0 3))
theorem kO_248 : kOne RO kHf_248 := by
  delta kHf_248
  exact (nO_app (nPo_ok (d := 0) (nt := 3) (by decide) (by decide)))
def kHf_249 : kS → Option (List kS) := (kThen (nApp (nPe 0)) (nApp (nPx 0 3)))
theorem kO_249 : kOne RO kHf_249 := by
  delta kHf_249
  exact (kO_then (nO_app (nPe_ok (d := 0) (by decide))) (nO_app (nPx_ok (d := 0) (nt := 3) (by decide) (by decide))))
def kHf_250 : kS → Option (List kS) := (nApp (nPu 0 2))
theorem kO_250 : kOne RO kHf_250 := by
  delta kHf_250
  exact (nO_app (nPu_ok (d := 0) (nt := 2) (by decide) (by decide)))
def kHf_251 : kS → Option (List kS) := (nApp (nPa 0 2))
theorem kO_251 : kOne RO kHf_251 := by
  delta kHf_251
  exact (nO_app (nPa_ok (d := 0) (nt := 2) (by decide) (by decide)))
def kHf_252 : kS → Option (List kS) := (nApp (nPo 0 2))
theorem kO_252 : kOne RO kHf_252 := by
  delta kHf_252
  exact (nO_app (nPo_ok (d := 0) (nt := 2) (by decide) (by decide)))
def kHf_253 : kS → Option (List kS) := (nApp (nPe 0))
theorem kO_253 : kOne RO kHf_253 := by
  delta kHf_253
  exact (nO_app (nPe_ok (d := 0) (by decide)))
def kHf_254 : kS → Option (List kS) := (nApp (nPx 0 2))
theorem kO_254 : kOne RO kHf_254 := by
  delta kHf_254
  exact (nO_app (nPx_ok (d := 0) (nt := 2) (by decide) (by decide)))
def kHf_255 : kS → Option (List kS) := (nApp (nPu 0 1))
theorem kO_255 : kOne RO kHf_255 := by
  delta kHf_255
  exact (nO_app (nPu_ok (d := 0) (nt := 1) (by decide) (by decide)))
def kHf_256 : kS → Option (List kS) := (nApp (nPa 0 1))
theorem kO_256 : kOne RO kHf_256 := by
  delta kHf_256
  exact (nO_app (nPa_ok (d := 0) (nt := 1) (by decide) (by decide)))
def kHf_257 : kS → Option (List kS) := (nApp (nPo 0 1))
theorem kO_257 : kOne RO kHf_257 := by
  delta kHf_257
  exact (nO_app (nPo_ok (d := 0) (nt := 1) (by decide) (by decide)))
def kHf_258 : kS → Option (List kS) := (nApp (nPe 0))
theorem kO_258 : kOne RO kHf_258 := by
  delta kHf_258
  exact (nO_app (nPe_ok (d := 0) (by decide)))
def kHf_259 : kS → Option (List kS) := (nApp (nPx 0 1))
theorem kO_259 : kOne RO kHf_259 := by
  delta kHf_259
  exact (nO_app (nPx_ok (d := 0) (nt := 1) (by decide) (by decide)))
def kHf_260 : kS → Option (List kS) := (nApp (nPd 0))
theorem kO_260 : kOne RO kHf_260 := by
  delta kHf_260
  exact (nO_app (nPd_ok (d := 0) (by decide)))
def kHf_261 : kS → Option (List kS) := (nApp (nPnm 0))
theorem kO_261 : kOne RO kHf_261 := by
  delta kHf_261
  exact (nO_app (nPnm_ok (d := 0) (by decide)))
def kHf_262 : kS → Option (List kS) := (nApp (nPv 0))
theorem kO_262 : kOne RO kHf_262 := by
  delta kHf_262
  exact (nO_app (nPv_ok (d := 0) (by decide)))
def kHf_263 : kS → Option (List kS) := (nApp (nPw 0))
theorem kO_263 : kOne RO kHf_263 := by
  delta kHf_263
  exact (nO_app (nPw_ok (d := 0) (by decide)))
def kHf_264 : kS → Option (List kS) := (nApp (nPv 0))
theorem kO_264 : kOne RO kHf_264 := by
  delta kHf_264
  exact (nO_app (nPv_ok (d := 0) (by decide)))
def kHf_265 : kS → Option (List kS) := (nApp (nPq 0))
theorem kO_265 : kOne RO kHf_265 := by
  delta kHf_265
  exact (nO_app (nPq_ok (d := 0) (by decide)))
def kHf_266 : kS → Option (List kS) := (nApp (nPf 0))
theorem kO_266 : kOne RO kHf_266 := by
  delta kHf_266
  exact (nO_app (nPf_ok (d := 0) (by decide)))
def kHf_267 : kS → Option (List kS) := (kApp nSUx)
theorem kO_267 : kOne RO kHf_267 := by
  delta kHf_267
  exact (kO_app nSUx_ok)
def kHf_268 : kS → Option (List kS) := (kApp nHNi)
theorem kO_268 : kOne RO kHf_268 := by
  delta kHf_268
  exact (kO_app nHNi_ok)
def kHf_269 : kS → Option (List kS) := (kThen (kApp nTN) (kApp (nHRx 2)))
theorem kO_269 : kOne RO kHf_269 := by
  delta kHf_269
  exact (kO_then (kO_app nTN_ok) (kO_app (nHRx_ok 2)))
def kHf_270 : kS → Option (List kS) := (kThen (kApp nTN) (kApp nHNs))
theorem kO_270 : kOne RO kHf_270 := by
  delta kHf_270
  exact (kO_then (kO_app nTN_ok) (kO_app nHNs_ok))
def kHf_271 : kS → Option (List kS) := (kApp (nHRx 2))
theorem kO_271 : kOne RO kHf_271 := by
  delta kHf_271
  exact (kO_app (nHRx_ok 2))
def kHf_272 : kS → Option (List kS) := (nSame 92)
theorem kO_272 : kOne RO kHf_272 := by
  delta kHf_272
  exact (fun _ _ h _ _ hD => nSame_ok (kd := 92) (by decide) h hD)
def kHf_273 : kS → Option (List kS) := (kApp kZCr)
theorem kO_273 : kOne RO kHf_273 := by
  delta kHf_273
  exact (kO_app kZCr_ok)
def kHf_274 : kS → Option (List kS) := (kApp kZCe)
theorem kO_274 : kOne RO kHf_274 := by
  delta kHf_274
  exact (kO_app kZCe_ok)
def kHf_275 : kS → Option (List kS) := (kThen (kApp nTN) (kApp (nSpk 5 4)))
theorem kO_275 : kOne RO kHf_275 := by
  delta kHf_275
  exact (kO_then (kO_app nTN_ok) (kO_app (nSpk_ok 5 4)))
def kHf_276 : kS → Option (List kS) := (kApp nLS)
theorem kO_276 : kOne RO kHf_276 := by
  delta kHf_276
  exact (kO_app nLS_ok)
def kHf_277 : kS → Option (List kS) := (kApp nGH)
theorem kO_277 : kOne RO kHf_277 := by
  delta kHf_277
  exact (kO_app nGH_ok)
def kHf_278 : kS → Option (List kS) := (kThen (kApp nTN) (kApp nGVr))
theorem kO_278 : kOne RO kHf_278 := by
  delta kHf_278
  exact (kO_then (kO_app nTN_ok) (kO_app nGVr_ok))
def kHf_279 : kS → Option (List kS) := (kThen (kApp nCAr) (kApp nFRr))
theorem kO_279 : kOne RO kHf_279 := by
  delta kHf_279
  exact (kO_then (kO_app nCAr_ok) (kO_app nFRr_ok))
def kHf_280 : kS → Option (List kS) := (kThen (kApp nTN) (kApp nGA))
theorem kO_280 : kOne RO kHf_280 := by
  delta kHf_280
  exact (kO_then (kO_app nTN_ok) (kO_app nGA_ok))
def kHf_281 : kS → Option (List kS) := (kApp (nNIx 4))
theorem kO_281 : kOne RO kHf_281 := by
  delta kHf_281
  exact (kO_app (nNIx_ok 4))
def kHf_282 : kS → Option (List kS) := (kApp (nNSx 6))
theorem kO_282 : kOne RO kHf_282 := by
  delta kHf_282
  exact (kO_app (nNSx_ok 6))
def kHf_283 : kS → Option (List kS) := (kApp (nNRx 7))
theorem kO_283 : kOne RO kHf_283 := by
  delta kHf_283
  exact (kO_app (nNRx_ok 7))
def kHf_284 : kS → Option (List kS) := (kApp (nMNr 4))
theorem kO_284 : kOne RO kHf_284 := by
  delta kHf_284
  exact (kO_app (nMNr_ok 4))
def kHf_285 : kS → Option (List kS) := (nApp (nRSi 4 1))
theorem kO_285 : kOne RO kHf_285 := by
  delta kHf_285
  exact (nO_app (nRSi_ok 4 1))
def kHf_286 : kS → Option (List kS) := (kApp (nRSs 7))
theorem kO_286 : kOne RO kHf_286 := by
  delta kHf_286
  exact (kO_app (nRSs_ok 7))
def kHf_287 : kS → Option (List kS) := (nRSe 7)
theorem kO_287 : kOne RO kHf_287 := by
  delta kHf_287
  exact (fun _ _ h _ _ hD => nRSe_ok _ h hD)
def kHf_288 : kS → Option (List kS) := (kThen (kApp kRI) (kThen (kApp kRJ) (kThen (kApp kRE) (kThen (kApp kSM) (kThen (kApp kEZ) (kThen (kApp (nRN 29 2)) (kThen (kApp nTNb) (kThen (kApp nLGe) (kThen (kApp nTQa) (kThen (kApp nTDr) (kThen (kApp pdSWa) (kThen (kApp nIMz) (kApp nIBz)))))))))))))
theorem kO_288 : kOne RO kHf_288 := by
  delta kHf_288
  exact (kO_then (kO_app kRI_ok) (kO_then (kO_app kRJ_ok) (kO_then (kO_app kRE_ok) (kO_then (kO_app kSM_ok) (kO_then (kO_app kEZ_ok) (kO_then (kO_app (nRN_ok 29 2)) (kO_then (kO_app nTNb_ok) (kO_then (kO_app nLGe_ok) (kO_then (kO_app nTQa_ok) (kO_then (kO_app nTDr_ok) (kO_then (kO_app pdSWa_ok) (kO_then (kO_app nIMz_ok) (kO_app nIBz_ok)))))))))))))
def kHf_289 : kS → Option (List kS) := (kSplV 6)
theorem kO_289 : kOne RO kHf_289 := by
  delta kHf_289
  exact (fun _ _ h _ _ hD => kSplV_ok h hD)
def kHf_290 : kS → Option (List kS) := (kThen (kApp kSU) (kThen (kSWa) (kApp kWX)))
theorem kO_290 : kOne RO kHf_290 := by
  delta kHf_290
  exact (kO_then (kO_app kSU_ok) (kO_then (kO_SW) (kO_app kWX_ok)))
def kHf_291 : kS → Option (List kS) := (kSplV 10)
theorem kO_291 : kOne RO kHf_291 := by
  delta kHf_291
  exact (fun _ _ h _ _ hD => kSplV_ok h hD)
def kHf_292 : kS → Option (List kS) := (kApp nTN)
theorem kO_292 : kOne RO kHf_292 := by
  delta kHf_292
  exact (kO_app nTN_ok)
def kHf_293 : kS → Option (List kS) := (kApp nLWf)
theorem kO_293 : kOne RO kHf_293 := by
  delta kHf_293
  exact (kO_app nLWf_ok)
def kHf_294 : kS → Option (List kS) := (kThen (kApp kSU) (kSWa))
theorem kO_294 : kOne RO kHf_294 := by
  delta kHf_294
  exact (kO_then (kO_app kSU_ok) (kO_SW))
def kHf_295 : kS → Option (List kS) := (kThen (kApp kSU) (kThen (kSWa) (kApp nCF)))
theorem kO_295 : kOne RO kHf_295 := by
  delta kHf_295
  exact (kO_then (kO_app kSU_ok) (kO_then (kO_SW) (kO_app nCF_ok)))
def kHf_296 : kS → Option (List kS) := (nSame 343)
theorem kO_296 : kOne RO kHf_296 := by
  delta kHf_296
  exact (fun _ _ h _ _ hD => pdSame_ok (kd := 343) (by decide) h hD)
def kHf_297 : kS → Option (List kS) := (kSplV 6)
theorem kO_297 : kOne RO kHf_297 := by
  delta kHf_297
  exact (fun _ _ h _ _ hD => kSplV_ok h hD)
def kHf_298 : kS → Option (List kS) := (kThen (kApp kSU) (kThen (kSWa) (kApp nCF)))
theorem kO_298 : kOne RO kHf_298 := by
  delta kHf_298
  exact (kO_then (kO_app kSU_ok) (kO_then (kO_SW) (kO_app nCF_ok)))
def kHf_299 : kS → Option (List kS) := (kApp nLGt)
theorem kO_299 : kOne RO kHf_299 := by
  delta kHf_299
  exact (kO_app nLGt_ok)
def kHf_300 : kS → Option (List kS) := (kApp nLGt)
theorem kO_300 : kOne RO kHf_300 := by
  delta kHf_300
  exact (kO_app nLGt_ok)
def kHf_301 : kS → Option (List kS) := (kSplV 6)
theorem kO_301 : kOne RO kHf_301 := by
  delta kHf_301
  exact (fun _ _ h _ _ hD => kSplV_ok h hD)
def kHf_302 : kS → Option (List kS) := (kApp kQT)
theorem kO_302 : kOne RO kHf_302 := by
  delta kHf_302
  exact (kO_app kQT_ok)
def kHf_303 : kS → Option (List kS) := (kSplV 6)
theorem kO_303 : kOne RO kHf_303 := by
  delta kHf_303
  exact (fun _ _ h _ _ hD => kSplV_ok h hD)
def kHf_304 : kS → Option (List kS) := (kSplV 6)
theorem kO_304 : kOne RO kHf_304 := by
  delta kHf_304
  exact (fun _ _ h _ _ hD => kSplV_ok h hD)
def kHf_305 : kS → Option (List kS) := (kApp kQT)
theorem kO_305 : kOne RO kHf_305 := by
  delta kHf_305
  exact (kO_app kQT_ok)
end KONE
def kOnO (RO : List (Nat × (Nat → Int32))) (o : Option (kS → Option (List kS))) : Prop := ∀ f, o = some f → kOne RO f
theorem kOnB {RO : List (Nat × (Nat → Int32))} {t : Bool} {a b : Option (kS → Option (List kS))} (ha : kOnO RO a) (hb : kOnO RO b) : kOnO RO (@Bool.rec (fun _ => Option (kS → Option (List kS))) a b t) := by
  cases t
  · exact ha
  · exact hb
theorem kOnN {RO : List (Nat × (Nat → Int32))} : kOnO RO none := fun f h => by cases h
theorem kOnS {RO : List (Nat × (Nat → Int32))} {g : kS → Option (List kS)} (h : kOne RO g) : kOnO RO (some g) := fun f e => by
  cases e
  exact h
def kHo_3 (pc : Nat) : Option (kS → Option (List kS)) := (@Bool.rec (fun _ => Option (kS → Option (List kS))) (@Bool.rec (fun _ => Option (kS → Option (List kS))) (@Bool.rec (fun _ => Option (kS → Option (List kS))) (@Bool.rec (fun _ => Option (kS → Option (List kS))) none (some kHf_4) (Nat.beq pc 106)) (@Bool.rec (fun _ => Option (kS → Option (List kS))) none (some kHf_3) (Nat.beq pc 101)) (Nat.blt pc 106)) (@Bool.rec (fun _ => Option (kS → Option (List kS))) none (some kHf_2) (Nat.beq pc 91)) (Nat.blt pc 101)) (@Bool.rec (fun _ => Option (kS → Option (List kS))) (@Bool.rec (fun _ => Option (kS → Option (List kS))) none (some kHf_1) (Nat.beq pc 28)) (@Bool.rec (fun _ => Option (kS → Option (List kS))) none (some kHf_0) (Nat.beq pc 9)) (Nat.blt pc 28)) (Nat.blt pc 91))
theorem kHo_3_ok {RO : List (Nat × (Nat → Int32))} (pc : Nat) : kOnO RO (kHo_3 pc) := by
  delta kHo_3
  exact (kOnB (kOnB (kOnB (kOnB kOnN (kOnS kO_4)) (kOnB kOnN (kOnS kO_3))) (kOnB kOnN (kOnS kO_2))) (kOnB (kOnB kOnN (kOnS kO_1)) (kOnB kOnN (kOnS kO_0))))
def kHo_5 (pc : Nat) : Option (kS → Option (List kS)) := (@Bool.rec (fun _ => Option (kS → Option (List kS))) none (some kHf_5) (Nat.beq pc 39))
theorem kHo_5_ok {RO : List (Nat × (Nat → Int32))} (pc : Nat) : kOnO RO (kHo_5 pc) := by
  delta kHo_5
  exact (kOnB kOnN (kOnS kO_5))
def kHo_11 (pc : Nat) : Option (kS → Option (List kS)) := (@Bool.rec (fun _ => Option (kS → Option (List kS))) none (some kHf_6) (Nat.beq pc 69))
theorem kHo_11_ok {RO : List (Nat × (Nat → Int32))} (pc : Nat) : kOnO RO (kHo_11 pc) := by
  delta kHo_11
  exact (kOnB kOnN (kOnS kO_6))
def kHo_32 (pc : Nat) : Option (kS → Option (List kS)) := (@Bool.rec (fun _ => Option (kS → Option (List kS))) (@Bool.rec (fun _ => Option (kS → Option (List kS))) (@Bool.rec (fun _ => Option (kS → Option (List kS))) none (some kHf_9) (Nat.beq pc 143)) (@Bool.rec (fun _ => Option (kS → Option (List kS))) none (some kHf_8) (Nat.beq pc 83)) (Nat.blt pc 143)) (@Bool.rec (fun _ => Option (kS → Option (List kS))) none (some kHf_7) (Nat.beq pc 72)) (Nat.blt pc 83))
theorem kHo_32_ok {RO : List (Nat × (Nat → Int32))} (pc : Nat) : kOnO RO (kHo_32 pc) := by
  delta kHo_32
  exact (kOnB (kOnB (kOnB kOnN (kOnS kO_9)) (kOnB kOnN (kOnS kO_8))) (kOnB kOnN (kOnS kO_7)))
def kHo_37 (pc : Nat) : Option (kS → Option (List kS)) := (@Bool.rec (fun _ => Option (kS → Option (List kS))) none (some kHf_10) (Nat.beq pc 21))
theorem kHo_37_ok {RO : List (Nat × (Nat → Int32))} (pc : Nat) : kOnO RO (kHo_37 pc) := by
  delta kHo_37
  exact (kOnB kOnN (kOnS kO_10))
def kHo_47 (pc : Nat) : Option (kS → Option (List kS)) := (@Bool.rec (fun _ => Option (kS → Option (List kS))) (@Bool.rec (fun _ => Option (kS → Option (List kS))) none (some kHf_12) (Nat.beq pc 48)) (@Bool.rec (fun _ => Option (kS → Option (List kS))) none (some kHf_11) (Nat.beq pc 0)) (Nat.blt pc 48))
theorem kHo_47_ok {RO : List (Nat × (Nat → Int32))} (pc : Nat) : kOnO RO (kHo_47 pc) := by
  delta kHo_47
  exact (kOnB (kOnB kOnN (kOnS kO_12)) (kOnB kOnN (kOnS kO_11)))
def kHo_49 (pc : Nat) : Option (kS → Option (List kS)) := (@Bool.rec (fun _ => Option (kS → Option (List kS))) (@Bool.rec (fun _ => Option (kS → Option (List kS))) (@Bool.rec (fun _ => Option (kS → Option (List kS))) (@Bool.rec (fun _ => Option (kS → Option (List kS))) none (some kHf_17) (Nat.beq pc 131)) (@Bool.rec (fun _ => Option (kS → Option (List kS))) none (some kHf_16) (Nat.beq pc 110)) (Nat.blt pc 131)) (@Bool.rec (fun _ => Option (kS → Option (List kS))) none (some kHf_15) (Nat.beq pc 84)) (Nat.blt pc 110)) (@Bool.rec (fun _ => Option (kS → Option (List kS))) (@Bool.rec (fun _ => Option (kS → Option (List kS))) none (some kHf_14) (Nat.beq pc 50)) (@Bool.rec (fun _ => Option (kS → Option (List kS))) none (some kHf_13) (Nat.beq pc 0)) (Nat.blt pc 50)) (Nat.blt pc 84))
theorem kHo_49_ok {RO : List (Nat × (Nat → Int32))} (pc : Nat) : kOnO RO (kHo_49 pc) := by
  delta kHo_49
  exact (kOnB (kOnB (kOnB (kOnB kOnN (kOnS kO_17)) (kOnB kOnN (kOnS kO_16))) (kOnB kOnN (kOnS kO_15))) (kOnB (kOnB kOnN (kOnS kO_14)) (kOnB kOnN (kOnS kO_13))))
def kHo_60 (pc : Nat) : Option (kS → Option (List kS)) := (@Bool.rec (fun _ => Option (kS → Option (List kS))) (@Bool.rec (fun _ => Option (kS → Option (List kS))) (@Bool.rec (fun _ => Option (kS → Option (List kS))) (@Bool.rec (fun _ => Option (kS → Option (List kS))) none (some kHf_24) (Nat.beq pc 218)) (@Bool.rec (fun _ => Option (kS → Option (List kS))) none (some kHf_23) (Nat.beq pc 214)) (Nat.blt pc 218)) (@Bool.rec (fun _ => Option (kS → Option (List kS))) (@Bool.rec (fun _ => Option (kS → Option (List kS))) none (some kHf_22) (Nat.beq pc 178)) (@Bool.rec (fun _ => Option (kS → Option (List kS))) none (some kHf_21) (Nat.beq pc 177)) (Nat.blt pc 178)) (Nat.blt pc 214)) (@Bool.rec (fun _ => Option (kS → Option (List kS))) (@Bool.rec (fun _ => Option (kS → Option (List kS))) (@Bool.rec (fun _ => Option (kS → Option (List kS))) none (some kHf_20) (Nat.beq pc 109)) (@Bool.rec (fun _ => Option (kS → Option (List kS))) none (some kHf_19) (Nat.beq pc 58)) (Nat.blt pc 109)) (@Bool.rec (fun _ => Option (kS → Option (List kS))) none (some kHf_18) (Nat.beq pc 0)) (Nat.blt pc 58)) (Nat.blt pc 177))
theorem kHo_60_ok {RO : List (Nat × (Nat → Int32))} (pc : Nat) : kOnO RO (kHo_60 pc) := by
  delta kHo_60
  exact (kOnB (kOnB (kOnB (kOnB kOnN (kOnS kO_24)) (kOnB kOnN (kOnS kO_23))) (kOnB (kOnB kOnN (kOnS kO_22)) (kOnB kOnN (kOnS kO_21)))) (kOnB (kOnB (kOnB kOnN (kOnS kO_20)) (kOnB kOnN (kOnS kO_19))) (kOnB kOnN (kOnS kO_18))))
def kHo_64 (pc : Nat) : Option (kS → Option (List kS)) := (@Bool.rec (fun _ => Option (kS → Option (List kS))) (@Bool.rec (fun _ => Option (kS → Option (List kS))) (@Bool.rec (fun _ => Option (kS → Option (List kS))) (@Bool.rec (fun _ => Option (kS → Option (List kS))) none (some kHf_30) (Nat.beq pc 162)) (@Bool.rec (fun _ => Option (kS → Option (List kS))) none (some kHf_29) (Nat.beq pc 121)) (Nat.blt pc 162)) (@Bool.rec (fun _ => Option (kS → Option (List kS))) none (some kHf_28) (Nat.beq pc 111)) (Nat.blt pc 121)) (@Bool.rec (fun _ => Option (kS → Option (List kS))) (@Bool.rec (fun _ => Option (kS → Option (List kS))) (@Bool.rec (fun _ => Option (kS → Option (List kS))) none (some kHf_27) (Nat.beq pc 105)) (@Bool.rec (fun _ => Option (kS → Option (List kS))) none (some kHf_26) (Nat.beq pc 17)) (Nat.blt pc 105)) (@Bool.rec (fun _ => Option (kS → Option (List kS))) none (some kHf_25) (Nat.beq pc 0)) (Nat.blt pc 17)) (Nat.blt pc 111))
theorem kHo_64_ok {RO : List (Nat × (Nat → Int32))} (pc : Nat) : kOnO RO (kHo_64 pc) := by
  delta kHo_64
  exact (kOnB (kOnB (kOnB (kOnB kOnN (kOnS kO_30)) (kOnB kOnN (kOnS kO_29))) (kOnB kOnN (kOnS kO_28))) (kOnB (kOnB (kOnB kOnN (kOnS kO_27)) (kOnB kOnN (kOnS kO_26))) (kOnB kOnN (kOnS kO_25))))
def kHo_74 (pc : Nat) : Option (kS → Option (List kS)) := (@Bool.rec (fun _ => Option (kS → Option (List kS))) none (some kHf_31) (Nat.beq pc 29))
theorem kHo_74_ok {RO : List (Nat × (Nat → Int32))} (pc : Nat) : kOnO RO (kHo_74 pc) := by
  delta kHo_74
  exact (kOnB kOnN (kOnS kO_31))
def kHo_77 (pc : Nat) : Option (kS → Option (List kS)) := (@Bool.rec (fun _ => Option (kS → Option (List kS))) none (some kHf_32) (Nat.beq pc 74))
theorem kHo_77_ok {RO : List (Nat × (Nat → Int32))} (pc : Nat) : kOnO RO (kHo_77 pc) := by
  delta kHo_77
  exact (kOnB kOnN (kOnS kO_32))
def kHo_78 (pc : Nat) : Option (kS → Option (List kS)) := (@Bool.rec (fun _ => Option (kS → Option (List kS))) (@Bool.rec (fun _ => Option (kS → Option (List kS))) (@Bool.rec (fun _ => Option (kS → Option (List kS))) (@Bool.rec (fun _ => Option (kS → Option (List kS))) (@Bool.rec (fun _ => Option (kS → Option (List kS))) none (some kHf_41) (Nat.beq pc 154)) (@Bool.rec (fun _ => Option (kS → Option (List kS))) none (some kHf_40) (Nat.beq pc 147)) (Nat.blt pc 154)) (@Bool.rec (fun _ => Option (kS → Option (List kS))) none (some kHf_39) (Nat.beq pc 126)) (Nat.blt pc 147)) (@Bool.rec (fun _ => Option (kS → Option (List kS))) (@Bool.rec (fun _ => Option (kS → Option (List kS))) none (some kHf_38) (Nat.beq pc 101)) (@Bool.rec (fun _ => Option (kS → Option (List kS))) none (some kHf_37) (Nat.beq pc 100)) (Nat.blt pc 101)) (Nat.blt pc 126)) (@Bool.rec (fun _ => Option (kS → Option (List kS))) (@Bool.rec (fun _ => Option (kS → Option (List kS))) (@Bool.rec (fun _ => Option (kS → Option (List kS))) none (some kHf_36) (Nat.beq pc 84)) (@Bool.rec (fun _ => Option (kS → Option (List kS))) none (some kHf_35) (Nat.beq pc 54)) (Nat.blt pc 84)) (@Bool.rec (fun _ => Option (kS → Option (List kS))) (@Bool.rec (fun _ => Option (kS → Option (List kS))) none (some kHf_34) (Nat.beq pc 53)) (@Bool.rec (fun _ => Option (kS → Option (List kS))) none (some kHf_33) (Nat.beq pc 31)) (Nat.blt pc 53)) (Nat.blt pc 54)) (Nat.blt pc 100))
theorem kHo_78_ok {RO : List (Nat × (Nat → Int32))} (pc : Nat) : kOnO RO (kHo_78 pc) := by
  delta kHo_78
  exact (kOnB (kOnB (kOnB (kOnB (kOnB kOnN (kOnS kO_41)) (kOnB kOnN (kOnS kO_40))) (kOnB kOnN (kOnS kO_39))) (kOnB (kOnB kOnN (kOnS kO_38)) (kOnB kOnN (kOnS kO_37)))) (kOnB (kOnB (kOnB kOnN (kOnS kO_36)) (kOnB kOnN (kOnS kO_35))) (kOnB (kOnB kOnN (kOnS kO_34)) (kOnB kOnN (kOnS kO_33)))))
def kHo_79 (pc : Nat) : Option (kS → Option (List kS)) := (@Bool.rec (fun _ => Option (kS → Option (List kS))) (@Bool.rec (fun _ => Option (kS → Option (List kS))) (@Bool.rec (fun _ => Option (kS → Option (List kS))) (@Bool.rec (fun _ => Option (kS → Option (List kS))) none (some kHf_46) (Nat.beq pc 66)) (@Bool.rec (fun _ => Option (kS → Option (List kS))) none (some kHf_45) (Nat.beq pc 63)) (Nat.blt pc 66)) (@Bool.rec (fun _ => Option (kS → Option (List kS))) none (some kHf_44) (Nat.beq pc 53)) (Nat.blt pc 63)) (@Bool.rec (fun _ => Option (kS → Option (List kS))) (@Bool.rec (fun _ => Option (kS → Option (List kS))) none (some kHf_43) (Nat.beq pc 4)) (@Bool.rec (fun _ => Option (kS → Option (List kS))) none (some kHf_42) (Nat.beq pc 0)) (Nat.blt pc 4)) (Nat.blt pc 53))
theorem kHo_79_ok {RO : List (Nat × (Nat → Int32))} (pc : Nat) : kOnO RO (kHo_79 pc) := by
  delta kHo_79
  exact (kOnB (kOnB (kOnB (kOnB kOnN (kOnS kO_46)) (kOnB kOnN (kOnS kO_45))) (kOnB kOnN (kOnS kO_44))) (kOnB (kOnB kOnN (kOnS kO_43)) (kOnB kOnN (kOnS kO_42))))
def kHo_80 (pc : Nat) : Option (kS → Option (List kS)) := (@Bool.rec (fun _ => Option (kS → Option (List kS))) (@Bool.rec (fun _ => Option (kS → Option (List kS))) (@Bool.rec (fun _ => Option (kS → Option (List kS))) (@Bool.rec (fun _ => Option (kS → Option (List kS))) none (some kHf_51) (Nat.beq pc 57)) (@Bool.rec (fun _ => Option (kS → Option (List kS))) none (some kHf_50) (Nat.beq pc 54)) (Nat.blt pc 57)) (@Bool.rec (fun _ => Option (kS → Option (List kS))) none (some kHf_49) (Nat.beq pc 44)) (Nat.blt pc 54)) (@Bool.rec (fun _ => Option (kS → Option (List kS))) (@Bool.rec (fun _ => Option (kS → Option (List kS))) none (some kHf_48) (Nat.beq pc 4)) (@Bool.rec (fun _ => Option (kS → Option (List kS))) none (some kHf_47) (Nat.beq pc 0)) (Nat.blt pc 4)) (Nat.blt pc 44))
theorem kHo_80_ok {RO : List (Nat × (Nat → Int32))} (pc : Nat) : kOnO RO (kHo_80 pc) := by
  delta kHo_80
  exact (kOnB (kOnB (kOnB (kOnB kOnN (kOnS kO_51)) (kOnB kOnN (kOnS kO_50))) (kOnB kOnN (kOnS kO_49))) (kOnB (kOnB kOnN (kOnS kO_48)) (kOnB kOnN (kOnS kO_47))))
def kHo_81 (pc : Nat) : Option (kS → Option (List kS)) := (@Bool.rec (fun _ => Option (kS → Option (List kS))) (@Bool.rec (fun _ => Option (kS → Option (List kS))) (@Bool.rec (fun _ => Option (kS → Option (List kS))) (@Bool.rec (fun _ => Option (kS → Option (List kS))) none (some kHf_56) (Nat.beq pc 55)) (@Bool.rec (fun _ => Option (kS → Option (List kS))) none (some kHf_55) (Nat.beq pc 45)) (Nat.blt pc 55)) (@Bool.rec (fun _ => Option (kS → Option (List kS))) none (some kHf_54) (Nat.beq pc 34)) (Nat.blt pc 45)) (@Bool.rec (fun _ => Option (kS → Option (List kS))) (@Bool.rec (fun _ => Option (kS → Option (List kS))) none (some kHf_53) (Nat.beq pc 4)) (@Bool.rec (fun _ => Option (kS → Option (List kS))) none (some kHf_52) (Nat.beq pc 0)) (Nat.blt pc 4)) (Nat.blt pc 34))
theorem kHo_81_ok {RO : List (Nat × (Nat → Int32))} (pc : Nat) : kOnO RO (kHo_81 pc) := by
  delta kHo_81
  exact (kOnB (kOnB (kOnB (kOnB kOnN (kOnS kO_56)) (kOnB kOnN (kOnS kO_55))) (kOnB kOnN (kOnS kO_54))) (kOnB (kOnB kOnN (kOnS kO_53)) (kOnB kOnN (kOnS kO_52))))
def kHo_82 (pc : Nat) : Option (kS → Option (List kS)) := (@Bool.rec (fun _ => Option (kS → Option (List kS))) (@Bool.rec (fun _ => Option (kS → Option (List kS))) (@Bool.rec (fun _ => Option (kS → Option (List kS))) (@Bool.rec (fun _ => Option (kS → Option (List kS))) none (some kHf_61) (Nat.beq pc 44)) (@Bool.rec (fun _ => Option (kS → Option (List kS))) none (some kHf_60) (Nat.beq pc 41)) (Nat.blt pc 44)) (@Bool.rec (fun _ => Option (kS → Option (List kS))) none (some kHf_59) (Nat.beq pc 30)) (Nat.blt pc 41)) (@Bool.rec (fun _ => Option (kS → Option (List kS))) (@Bool.rec (fun _ => Option (kS → Option (List kS))) none (some kHf_58) (Nat.beq pc 4)) (@Bool.rec (fun _ => Option (kS → Option (List kS))) none (some kHf_57) (Nat.beq pc 0)) (Nat.blt pc 4)) (Nat.blt pc 30))
theorem kHo_82_ok {RO : List (Nat × (Nat → Int32))} (pc : Nat) : kOnO RO (kHo_82 pc) := by
  delta kHo_82
  exact (kOnB (kOnB (kOnB (kOnB kOnN (kOnS kO_61)) (kOnB kOnN (kOnS kO_60))) (kOnB kOnN (kOnS kO_59))) (kOnB (kOnB kOnN (kOnS kO_58)) (kOnB kOnN (kOnS kO_57))))
def kHo_83 (pc : Nat) : Option (kS → Option (List kS)) := (@Bool.rec (fun _ => Option (kS → Option (List kS))) (@Bool.rec (fun _ => Option (kS → Option (List kS))) (@Bool.rec (fun _ => Option (kS → Option (List kS))) (@Bool.rec (fun _ => Option (kS → Option (List kS))) none (some kHf_66) (Nat.beq pc 44)) (@Bool.rec (fun _ => Option (kS → Option (List kS))) none (some kHf_65) (Nat.beq pc 41)) (Nat.blt pc 44)) (@Bool.rec (fun _ => Option (kS → Option (List kS))) none (some kHf_64) (Nat.beq pc 30)) (Nat.blt pc 41)) (@Bool.rec (fun _ => Option (kS → Option (List kS))) (@Bool.rec (fun _ => Option (kS → Option (List kS))) none (some kHf_63) (Nat.beq pc 4)) (@Bool.rec (fun _ => Option (kS → Option (List kS))) none (some kHf_62) (Nat.beq pc 0)) (Nat.blt pc 4)) (Nat.blt pc 30))
theorem kHo_83_ok {RO : List (Nat × (Nat → Int32))} (pc : Nat) : kOnO RO (kHo_83 pc) := by
  delta kHo_83
  exact (kOnB (kOnB (kOnB (kOnB kOnN (kOnS kO_66)) (kOnB kOnN (kOnS kO_65))) (kOnB kOnN (kOnS kO_64))) (kOnB (kOnB kOnN (kOnS kO_63)) (kOnB kOnN (kOnS kO_62))))
def kHo_84 (pc : Nat) : Option (kS → Option (List kS)) := (@Bool.rec (fun _ => Option (kS → Option (List kS))) (@Bool.rec (fun _ => Option (kS → Option (List kS))) (@Bool.rec (fun _ => Option (kS → Option (List kS))) none (some kHf_70) (Nat.beq pc 87)) (@Bool.rec (fun _ => Option (kS → Option (List kS))) none (some kHf_69) (Nat.beq pc 77)) (Nat.blt pc 87)) (@Bool.rec (fun _ => Option (kS → Option (List kS))) (@Bool.rec (fun _ => Option (kS → Option (List kS))) none (some kHf_68) (Nat.beq pc 62)) (@Bool.rec (fun _ => Option (kS → Option (List kS))) none (some kHf_67) (Nat.beq pc 21)) (Nat.blt pc 62)) (Nat.blt pc 77))
theorem kHo_84_ok {RO : List (Nat × (Nat → Int32))} (pc : Nat) : kOnO RO (kHo_84 pc) := by
  delta kHo_84
  exact (kOnB (kOnB (kOnB kOnN (kOnS kO_70)) (kOnB kOnN (kOnS kO_69))) (kOnB (kOnB kOnN (kOnS kO_68)) (kOnB kOnN (kOnS kO_67))))
def kHo_85 (pc : Nat) : Option (kS → Option (List kS)) := (@Bool.rec (fun _ => Option (kS → Option (List kS))) (@Bool.rec (fun _ => Option (kS → Option (List kS))) (@Bool.rec (fun _ => Option (kS → Option (List kS))) (@Bool.rec (fun _ => Option (kS → Option (List kS))) (@Bool.rec (fun _ => Option (kS → Option (List kS))) none (some kHf_79) (Nat.beq pc 233)) (@Bool.rec (fun _ => Option (kS → Option (List kS))) none (some kHf_78) (Nat.beq pc 227)) (Nat.blt pc 233)) (@Bool.rec (fun _ => Option (kS → Option (List kS))) none (some kHf_77) (Nat.beq pc 175)) (Nat.blt pc 227)) (@Bool.rec (fun _ => Option (kS → Option (List kS))) (@Bool.rec (fun _ => Option (kS → Option (List kS))) none (some kHf_76) (Nat.beq pc 163)) (@Bool.rec (fun _ => Option (kS → Option (List kS))) none (some kHf_75) (Nat.beq pc 157)) (Nat.blt pc 163)) (Nat.blt pc 175)) (@Bool.rec (fun _ => Option (kS → Option (List kS))) (@Bool.rec (fun _ => Option (kS → Option (List kS))) (@Bool.rec (fun _ => Option (kS → Option (List kS))) none (some kHf_74) (Nat.beq pc 103)) (@Bool.rec (fun _ => Option (kS → Option (List kS))) none (some kHf_73) (Nat.beq pc 86)) (Nat.blt pc 103)) (@Bool.rec (fun _ => Option (kS → Option (List kS))) (@Bool.rec (fun _ => Option (kS → Option (List kS))) none (some kHf_72) (Nat.beq pc 57)) (@Bool.rec (fun _ => Option (kS → Option (List kS))) none (some kHf_71) (Nat.beq pc 27)) (Nat.blt pc 57)) (Nat.blt pc 86)) (Nat.blt pc 157))
theorem kHo_85_ok {RO : List (Nat × (Nat → Int32))} (pc : Nat) : kOnO RO (kHo_85 pc) := by
  delta kHo_85
  exact (kOnB (kOnB (kOnB (kOnB (kOnB kOnN (kOnS kO_79)) (kOnB kOnN (kOnS kO_78))) (kOnB kOnN (kOnS kO_77))) (kOnB (kOnB kOnN (kOnS kO_76)) (kOnB kOnN (kOnS kO_75)))) (kOnB (kOnB (kOnB kOnN (kOnS kO_74)) (kOnB kOnN (kOnS kO_73))) (kOnB (kOnB kOnN (kOnS kO_72)) (kOnB kOnN (kOnS kO_71)))))
def kHo_87 (pc : Nat) : Option (kS → Option (List kS)) := (@Bool.rec (fun _ => Option (kS → Option (List kS))) (@Bool.rec (fun _ => Option (kS → Option (List kS))) (@Bool.rec (fun _ => Option (kS → Option (List kS))) (@Bool.rec (fun _ => Option (kS → Option (List kS))) none (some kHf_85) (Nat.beq pc 194)) (@Bool.rec (fun _ => Option (kS → Option (List kS))) none (some kHf_84) (Nat.beq pc 182)) (Nat.blt pc 194)) (@Bool.rec (fun _ => Option (kS → Option (List kS))) none (some kHf_83) (Nat.beq pc 78)) (Nat.blt pc 182)) (@Bool.rec (fun _ => Option (kS → Option (List kS))) (@Bool.rec (fun _ => Option (kS → Option (List kS))) (@Bool.rec (fun _ => Option (kS → Option (List kS))) none (some kHf_82) (Nat.beq pc 33)) (@Bool.rec (fun _ => Option (kS → Option (List kS))) none (some kHf_81) (Nat.beq pc 12)) (Nat.blt pc 33)) (@Bool.rec (fun _ => Option (kS → Option (List kS))) none (some kHf_80) (Nat.beq pc 10)) (Nat.blt pc 12)) (Nat.blt pc 78))
theorem kHo_87_ok {RO : List (Nat × (Nat → Int32))} (pc : Nat) : kOnO RO (kHo_87 pc) := by
  delta kHo_87
  exact (kOnB (kOnB (kOnB (kOnB kOnN (kOnS kO_85)) (kOnB kOnN (kOnS kO_84))) (kOnB kOnN (kOnS kO_83))) (kOnB (kOnB (kOnB kOnN (kOnS kO_82)) (kOnB kOnN (kOnS kO_81))) (kOnB kOnN (kOnS kO_80))))
def kHo_88 (pc : Nat) : Option (kS → Option (List kS)) := (@Bool.rec (fun _ => Option (kS → Option (List kS))) (@Bool.rec (fun _ => Option (kS → Option (List kS))) (@Bool.rec (fun _ => Option (kS → Option (List kS))) (@Bool.rec (fun _ => Option (kS → Option (List kS))) none (some kHf_92) (Nat.beq pc 78)) (@Bool.rec (fun _ => Option (kS → Option (List kS))) none (some kHf_91) (Nat.beq pc 75)) (Nat.blt pc 78)) (@Bool.rec (fun _ => Option (kS → Option (List kS))) (@Bool.rec (fun _ => Option (kS → Option (List kS))) none (some kHf_90) (Nat.beq pc 71)) (@Bool.rec (fun _ => Option (kS → Option (List kS))) none (some kHf_89) (Nat.beq pc 64)) (Nat.blt pc 71)) (Nat.blt pc 75)) (@Bool.rec (fun _ => Option (kS → Option (List kS))) (@Bool.rec (fun _ => Option (kS → Option (List kS))) (@Bool.rec (fun _ => Option (kS → Option (List kS))) none (some kHf_88) (Nat.beq pc 61)) (@Bool.rec (fun _ => Option (kS → Option (List kS))) none (some kHf_87) (Nat.beq pc 41)) (Nat.blt pc 61)) (@Bool.rec (fun _ => Option (kS → Option (List kS))) none (some kHf_86) (Nat.beq pc 6)) (Nat.blt pc 41)) (Nat.blt pc 64))
theorem kHo_88_ok {RO : List (Nat × (Nat → Int32))} (pc : Nat) : kOnO RO (kHo_88 pc) := by
  delta kHo_88
  exact (kOnB (kOnB (kOnB (kOnB kOnN (kOnS kO_92)) (kOnB kOnN (kOnS kO_91))) (kOnB (kOnB kOnN (kOnS kO_90)) (kOnB kOnN (kOnS kO_89)))) (kOnB (kOnB (kOnB kOnN (kOnS kO_88)) (kOnB kOnN (kOnS kO_87))) (kOnB kOnN (kOnS kO_86))))
def kHo_89 (pc : Nat) : Option (kS → Option (List kS)) := (@Bool.rec (fun _ => Option (kS → Option (List kS))) none (some kHf_93) (Nat.beq pc 5))
theorem kHo_89_ok {RO : List (Nat × (Nat → Int32))} (pc : Nat) : kOnO RO (kHo_89 pc) := by
  delta kHo_89
  exact (kOnB kOnN (kOnS kO_93))
def kHo_90 (pc : Nat) : Option (kS → Option (List kS)) := (@Bool.rec (fun _ => Option (kS → Option (List kS))) none (some kHf_94) (Nat.beq pc 146))
theorem kHo_90_ok {RO : List (Nat × (Nat → Int32))} (pc : Nat) : kOnO RO (kHo_90 pc) := by
  delta kHo_90
  exact (kOnB kOnN (kOnS kO_94))
def kHo_93 (pc : Nat) : Option (kS → Option (List kS)) := (@Bool.rec (fun _ => Option (kS → Option (List kS))) (@Bool.rec (fun _ => Option (kS → Option (List kS))) (@Bool.rec (fun _ => Option (kS → Option (List kS))) none (some kHf_98) (Nat.beq pc 74)) (@Bool.rec (fun _ => Option (kS → Option (List kS))) none (some kHf_97) (Nat.beq pc 71)) (Nat.blt pc 74)) (@Bool.rec (fun _ => Option (kS → Option (List kS))) (@Bool.rec (fun _ => Option (kS → Option (List kS))) none (some kHf_96) (Nat.beq pc 5)) (@Bool.rec (fun _ => Option (kS → Option (List kS))) none (some kHf_95) (Nat.beq pc 0)) (Nat.blt pc 5)) (Nat.blt pc 71))
theorem kHo_93_ok {RO : List (Nat × (Nat → Int32))} (pc : Nat) : kOnO RO (kHo_93 pc) := by
  delta kHo_93
  exact (kOnB (kOnB (kOnB kOnN (kOnS kO_98)) (kOnB kOnN (kOnS kO_97))) (kOnB (kOnB kOnN (kOnS kO_96)) (kOnB kOnN (kOnS kO_95))))
def kHo_94 (pc : Nat) : Option (kS → Option (List kS)) := (@Bool.rec (fun _ => Option (kS → Option (List kS))) (@Bool.rec (fun _ => Option (kS → Option (List kS))) (@Bool.rec (fun _ => Option (kS → Option (List kS))) none (some kHf_101) (Nat.beq pc 72)) (@Bool.rec (fun _ => Option (kS → Option (List kS))) none (some kHf_100) (Nat.beq pc 67)) (Nat.blt pc 72)) (@Bool.rec (fun _ => Option (kS → Option (List kS))) none (some kHf_99) (Nat.beq pc 8)) (Nat.blt pc 67))
theorem kHo_94_ok {RO : List (Nat × (Nat → Int32))} (pc : Nat) : kOnO RO (kHo_94 pc) := by
  delta kHo_94
  exact (kOnB (kOnB (kOnB kOnN (kOnS kO_101)) (kOnB kOnN (kOnS kO_100))) (kOnB kOnN (kOnS kO_99)))
def kHo_98 (pc : Nat) : Option (kS → Option (List kS)) := (@Bool.rec (fun _ => Option (kS → Option (List kS))) (@Bool.rec (fun _ => Option (kS → Option (List kS))) (@Bool.rec (fun _ => Option (kS → Option (List kS))) none (some kHf_105) (Nat.beq pc 38)) (@Bool.rec (fun _ => Option (kS → Option (List kS))) none (some kHf_104) (Nat.beq pc 31)) (Nat.blt pc 38)) (@Bool.rec (fun _ => Option (kS → Option (List kS))) (@Bool.rec (fun _ => Option (kS → Option (List kS))) none (some kHf_103) (Nat.beq pc 30)) (@Bool.rec (fun _ => Option (kS → Option (List kS))) none (some kHf_102) (Nat.beq pc 2)) (Nat.blt pc 30)) (Nat.blt pc 31))
theorem kHo_98_ok {RO : List (Nat × (Nat → Int32))} (pc : Nat) : kOnO RO (kHo_98 pc) := by
  delta kHo_98
  exact (kOnB (kOnB (kOnB kOnN (kOnS kO_105)) (kOnB kOnN (kOnS kO_104))) (kOnB (kOnB kOnN (kOnS kO_103)) (kOnB kOnN (kOnS kO_102))))
def kHo_99 (pc : Nat) : Option (kS → Option (List kS)) := (@Bool.rec (fun _ => Option (kS → Option (List kS))) none (some kHf_106) (Nat.beq pc 34))
theorem kHo_99_ok {RO : List (Nat × (Nat → Int32))} (pc : Nat) : kOnO RO (kHo_99 pc) := by
  delta kHo_99
  exact (kOnB kOnN (kOnS kO_106))
def kHo_100 (pc : Nat) : Option (kS → Option (List kS)) := (@Bool.rec (fun _ => Option (kS → Option (List kS))) none (some kHf_107) (Nat.beq pc 5))
theorem kHo_100_ok {RO : List (Nat × (Nat → Int32))} (pc : Nat) : kOnO RO (kHo_100 pc) := by
  delta kHo_100
  exact (kOnB kOnN (kOnS kO_107))
def kHo_103 (pc : Nat) : Option (kS → Option (List kS)) := (@Bool.rec (fun _ => Option (kS → Option (List kS))) (@Bool.rec (fun _ => Option (kS → Option (List kS))) (@Bool.rec (fun _ => Option (kS → Option (List kS))) none (some kHf_111) (Nat.beq pc 76)) (@Bool.rec (fun _ => Option (kS → Option (List kS))) none (some kHf_110) (Nat.beq pc 73)) (Nat.blt pc 76)) (@Bool.rec (fun _ => Option (kS → Option (List kS))) (@Bool.rec (fun _ => Option (kS → Option (List kS))) none (some kHf_109) (Nat.beq pc 5)) (@Bool.rec (fun _ => Option (kS → Option (List kS))) none (some kHf_108) (Nat.beq pc 0)) (Nat.blt pc 5)) (Nat.blt pc 73))
theorem kHo_103_ok {RO : List (Nat × (Nat → Int32))} (pc : Nat) : kOnO RO (kHo_103 pc) := by
  delta kHo_103
  exact (kOnB (kOnB (kOnB kOnN (kOnS kO_111)) (kOnB kOnN (kOnS kO_110))) (kOnB (kOnB kOnN (kOnS kO_109)) (kOnB kOnN (kOnS kO_108))))
def kHo_104 (pc : Nat) : Option (kS → Option (List kS)) := (@Bool.rec (fun _ => Option (kS → Option (List kS))) (@Bool.rec (fun _ => Option (kS → Option (List kS))) (@Bool.rec (fun _ => Option (kS → Option (List kS))) (@Bool.rec (fun _ => Option (kS → Option (List kS))) none (some kHf_117) (Nat.beq pc 106)) (@Bool.rec (fun _ => Option (kS → Option (List kS))) none (some kHf_116) (Nat.beq pc 100)) (Nat.blt pc 106)) (@Bool.rec (fun _ => Option (kS → Option (List kS))) none (some kHf_115) (Nat.beq pc 94)) (Nat.blt pc 100)) (@Bool.rec (fun _ => Option (kS → Option (List kS))) (@Bool.rec (fun _ => Option (kS → Option (List kS))) (@Bool.rec (fun _ => Option (kS → Option (List kS))) none (some kHf_114) (Nat.beq pc 88)) (@Bool.rec (fun _ => Option (kS → Option (List kS))) none (some kHf_113) (Nat.beq pc 36)) (Nat.blt pc 88)) (@Bool.rec (fun _ => Option (kS → Option (List kS))) none (some kHf_112) (Nat.beq pc 2)) (Nat.blt pc 36)) (Nat.blt pc 94))
theorem kHo_104_ok {RO : List (Nat × (Nat → Int32))} (pc : Nat) : kOnO RO (kHo_104 pc) := by
  delta kHo_104
  exact (kOnB (kOnB (kOnB (kOnB kOnN (kOnS kO_117)) (kOnB kOnN (kOnS kO_116))) (kOnB kOnN (kOnS kO_115))) (kOnB (kOnB (kOnB kOnN (kOnS kO_114)) (kOnB kOnN (kOnS kO_113))) (kOnB kOnN (kOnS kO_112))))
def kHo_105 (pc : Nat) : Option (kS → Option (List kS)) := (@Bool.rec (fun _ => Option (kS → Option (List kS))) none (some kHf_118) (Nat.beq pc 19))
theorem kHo_105_ok {RO : List (Nat × (Nat → Int32))} (pc : Nat) : kOnO RO (kHo_105 pc) := by
  delta kHo_105
  exact (kOnB kOnN (kOnS kO_118))
def kHo_111 (pc : Nat) : Option (kS → Option (List kS)) := (@Bool.rec (fun _ => Option (kS → Option (List kS))) none (some kHf_119) (Nat.beq pc 6))
theorem kHo_111_ok {RO : List (Nat × (Nat → Int32))} (pc : Nat) : kOnO RO (kHo_111 pc) := by
  delta kHo_111
  exact (kOnB kOnN (kOnS kO_119))
def kHo_112 (pc : Nat) : Option (kS → Option (List kS)) := (@Bool.rec (fun _ => Option (kS → Option (List kS))) none (some kHf_120) (Nat.beq pc 7))
theorem kHo_112_ok {RO : List (Nat × (Nat → Int32))} (pc : Nat) : kOnO RO (kHo_112 pc) := by
  delta kHo_112
  exact (kOnB kOnN (kOnS kO_120))
def kHo_113 (pc : Nat) : Option (kS → Option (List kS)) := (@Bool.rec (fun _ => Option (kS → Option (List kS))) (@Bool.rec (fun _ => Option (kS → Option (List kS))) (@Bool.rec (fun _ => Option (kS → Option (List kS))) none (some kHf_124) (Nat.beq pc 203)) (@Bool.rec (fun _ => Option (kS → Option (List kS))) none (some kHf_123) (Nat.beq pc 197)) (Nat.blt pc 203)) (@Bool.rec (fun _ => Option (kS → Option (List kS))) (@Bool.rec (fun _ => Option (kS → Option (List kS))) none (some kHf_122) (Nat.beq pc 191)) (@Bool.rec (fun _ => Option (kS → Option (List kS))) none (some kHf_121) (Nat.beq pc 70)) (Nat.blt pc 191)) (Nat.blt pc 197))
theorem kHo_113_ok {RO : List (Nat × (Nat → Int32))} (pc : Nat) : kOnO RO (kHo_113 pc) := by
  delta kHo_113
  exact (kOnB (kOnB (kOnB kOnN (kOnS kO_124)) (kOnB kOnN (kOnS kO_123))) (kOnB (kOnB kOnN (kOnS kO_122)) (kOnB kOnN (kOnS kO_121))))
def kHo_114 (pc : Nat) : Option (kS → Option (List kS)) := (@Bool.rec (fun _ => Option (kS → Option (List kS))) (@Bool.rec (fun _ => Option (kS → Option (List kS))) (@Bool.rec (fun _ => Option (kS → Option (List kS))) (@Bool.rec (fun _ => Option (kS → Option (List kS))) (@Bool.rec (fun _ => Option (kS → Option (List kS))) none (some kHf_135) (Nat.beq pc 126)) (@Bool.rec (fun _ => Option (kS → Option (List kS))) none (some kHf_134) (Nat.beq pc 120)) (Nat.blt pc 126)) (@Bool.rec (fun _ => Option (kS → Option (List kS))) none (some kHf_133) (Nat.beq pc 117)) (Nat.blt pc 120)) (@Bool.rec (fun _ => Option (kS → Option (List kS))) (@Bool.rec (fun _ => Option (kS → Option (List kS))) (@Bool.rec (fun _ => Option (kS → Option (List kS))) none (some kHf_132) (Nat.beq pc 101)) (@Bool.rec (fun _ => Option (kS → Option (List kS))) none (some kHf_131) (Nat.beq pc 95)) (Nat.blt pc 101)) (@Bool.rec (fun _ => Option (kS → Option (List kS))) none (some kHf_130) (Nat.beq pc 89)) (Nat.blt pc 95)) (Nat.blt pc 117)) (@Bool.rec (fun _ => Option (kS → Option (List kS))) (@Bool.rec (fun _ => Option (kS → Option (List kS))) (@Bool.rec (fun _ => Option (kS → Option (List kS))) (@Bool.rec (fun _ => Option (kS → Option (List kS))) none (some kHf_129) (Nat.beq pc 83)) (@Bool.rec (fun _ => Option (kS → Option (List kS))) none (some kHf_128) (Nat.beq pc 72)) (Nat.blt pc 83)) (@Bool.rec (fun _ => Option (kS → Option (List kS))) none (some kHf_127) (Nat.beq pc 11)) (Nat.blt pc 72)) (@Bool.rec (fun _ => Option (kS → Option (List kS))) (@Bool.rec (fun _ => Option (kS → Option (List kS))) none (some kHf_126) (Nat.beq pc 2)) (@Bool.rec (fun _ => Option (kS → Option (List kS))) none (some kHf_125) (Nat.beq pc 0)) (Nat.blt pc 2)) (Nat.blt pc 11)) (Nat.blt pc 89))
theorem kHo_114_ok {RO : List (Nat × (Nat → Int32))} (pc : Nat) : kOnO RO (kHo_114 pc) := by
  delta kHo_114
  exact (kOnB (kOnB (kOnB (kOnB (kOnB kOnN (kOnS kO_135)) (kOnB kOnN (kOnS kO_134))) (kOnB kOnN (kOnS kO_133))) (kOnB (kOnB (kOnB kOnN (kOnS kO_132)) (kOnB kOnN (kOnS kO_131))) (kOnB kOnN (kOnS kO_130)))) (kOnB (kOnB (kOnB (kOnB kOnN (kOnS kO_129)) (kOnB kOnN (kOnS kO_128))) (kOnB kOnN (kOnS kO_127))) (kOnB (kOnB kOnN (kOnS kO_126)) (kOnB kOnN (kOnS kO_125)))))
def kHo_115 (pc : Nat) : Option (kS → Option (List kS)) := (@Bool.rec (fun _ => Option (kS → Option (List kS))) (@Bool.rec (fun _ => Option (kS → Option (List kS))) (@Bool.rec (fun _ => Option (kS → Option (List kS))) (@Bool.rec (fun _ => Option (kS → Option (List kS))) (@Bool.rec (fun _ => Option (kS → Option (List kS))) none (some kHf_146) (Nat.beq pc 142)) (@Bool.rec (fun _ => Option (kS → Option (List kS))) none (some kHf_145) (Nat.beq pc 134)) (Nat.blt pc 142)) (@Bool.rec (fun _ => Option (kS → Option (List kS))) none (some kHf_144) (Nat.beq pc 133)) (Nat.blt pc 134)) (@Bool.rec (fun _ => Option (kS → Option (List kS))) (@Bool.rec (fun _ => Option (kS → Option (List kS))) (@Bool.rec (fun _ => Option (kS → Option (List kS))) none (some kHf_143) (Nat.beq pc 110)) (@Bool.rec (fun _ => Option (kS → Option (List kS))) none (some kHf_142) (Nat.beq pc 107)) (Nat.blt pc 110)) (@Bool.rec (fun _ => Option (kS → Option (List kS))) none (some kHf_141) (Nat.beq pc 101)) (Nat.blt pc 107)) (Nat.blt pc 133)) (@Bool.rec (fun _ => Option (kS → Option (List kS))) (@Bool.rec (fun _ => Option (kS → Option (List kS))) (@Bool.rec (fun _ => Option (kS → Option (List kS))) (@Bool.rec (fun _ => Option (kS → Option (List kS))) none (some kHf_140) (Nat.beq pc 98)) (@Bool.rec (fun _ => Option (kS → Option (List kS))) none (some kHf_139) (Nat.beq pc 82)) (Nat.blt pc 98)) (@Bool.rec (fun _ => Option (kS → Option (List kS))) none (some kHf_138) (Nat.beq pc 73)) (Nat.blt pc 82)) (@Bool.rec (fun _ => Option (kS → Option (List kS))) (@Bool.rec (fun _ => Option (kS → Option (List kS))) none (some kHf_137) (Nat.beq pc 57)) (@Bool.rec (fun _ => Option (kS → Option (List kS))) none (some kHf_136) (Nat.beq pc 43)) (Nat.blt pc 57)) (Nat.blt pc 73)) (Nat.blt pc 101))
theorem kHo_115_ok {RO : List (Nat × (Nat → Int32))} (pc : Nat) : kOnO RO (kHo_115 pc) := by
  delta kHo_115
  exact (kOnB (kOnB (kOnB (kOnB (kOnB kOnN (kOnS kO_146)) (kOnB kOnN (kOnS kO_145))) (kOnB kOnN (kOnS kO_144))) (kOnB (kOnB (kOnB kOnN (kOnS kO_143)) (kOnB kOnN (kOnS kO_142))) (kOnB kOnN (kOnS kO_141)))) (kOnB (kOnB (kOnB (kOnB kOnN (kOnS kO_140)) (kOnB kOnN (kOnS kO_139))) (kOnB kOnN (kOnS kO_138))) (kOnB (kOnB kOnN (kOnS kO_137)) (kOnB kOnN (kOnS kO_136)))))
def kHo_119 (pc : Nat) : Option (kS → Option (List kS)) := (@Bool.rec (fun _ => Option (kS → Option (List kS))) none (some kHf_147) (Nat.beq pc 16))
theorem kHo_119_ok {RO : List (Nat × (Nat → Int32))} (pc : Nat) : kOnO RO (kHo_119 pc) := by
  delta kHo_119
  exact (kOnB kOnN (kOnS kO_147))
def kHo_123 (pc : Nat) : Option (kS → Option (List kS)) := (@Bool.rec (fun _ => Option (kS → Option (List kS))) (@Bool.rec (fun _ => Option (kS → Option (List kS))) none (some kHf_149) (Nat.beq pc 40)) (@Bool.rec (fun _ => Option (kS → Option (List kS))) none (some kHf_148) (Nat.beq pc 31)) (Nat.blt pc 40))
theorem kHo_123_ok {RO : List (Nat × (Nat → Int32))} (pc : Nat) : kOnO RO (kHo_123 pc) := by
  delta kHo_123
  exact (kOnB (kOnB kOnN (kOnS kO_149)) (kOnB kOnN (kOnS kO_148)))
def kHo_136 (pc : Nat) : Option (kS → Option (List kS)) := (@Bool.rec (fun _ => Option (kS → Option (List kS))) (@Bool.rec (fun _ => Option (kS → Option (List kS))) (@Bool.rec (fun _ => Option (kS → Option (List kS))) none (some kHf_152) (Nat.beq pc 121)) (@Bool.rec (fun _ => Option (kS → Option (List kS))) none (some kHf_151) (Nat.beq pc 71)) (Nat.blt pc 121)) (@Bool.rec (fun _ => Option (kS → Option (List kS))) none (some kHf_150) (Nat.beq pc 63)) (Nat.blt pc 71))
theorem kHo_136_ok {RO : List (Nat × (Nat → Int32))} (pc : Nat) : kOnO RO (kHo_136 pc) := by
  delta kHo_136
  exact (kOnB (kOnB (kOnB kOnN (kOnS kO_152)) (kOnB kOnN (kOnS kO_151))) (kOnB kOnN (kOnS kO_150)))
def kHo_138 (pc : Nat) : Option (kS → Option (List kS)) := (@Bool.rec (fun _ => Option (kS → Option (List kS))) (@Bool.rec (fun _ => Option (kS → Option (List kS))) (@Bool.rec (fun _ => Option (kS → Option (List kS))) (@Bool.rec (fun _ => Option (kS → Option (List kS))) none (some kHf_158) (Nat.beq pc 119)) (@Bool.rec (fun _ => Option (kS → Option (List kS))) none (some kHf_157) (Nat.beq pc 95)) (Nat.blt pc 119)) (@Bool.rec (fun _ => Option (kS → Option (List kS))) none (some kHf_156) (Nat.beq pc 77)) (Nat.blt pc 95)) (@Bool.rec (fun _ => Option (kS → Option (List kS))) (@Bool.rec (fun _ => Option (kS → Option (List kS))) (@Bool.rec (fun _ => Option (kS → Option (List kS))) none (some kHf_155) (Nat.beq pc 67)) (@Bool.rec (fun _ => Option (kS → Option (List kS))) none (some kHf_154) (Nat.beq pc 55)) (Nat.blt pc 67)) (@Bool.rec (fun _ => Option (kS → Option (List kS))) none (some kHf_153) (Nat.beq pc 0)) (Nat.blt pc 55)) (Nat.blt pc 77))
theorem kHo_138_ok {RO : List (Nat × (Nat → Int32))} (pc : Nat) : kOnO RO (kHo_138 pc) := by
  delta kHo_138
  exact (kOnB (kOnB (kOnB (kOnB kOnN (kOnS kO_158)) (kOnB kOnN (kOnS kO_157))) (kOnB kOnN (kOnS kO_156))) (kOnB (kOnB (kOnB kOnN (kOnS kO_155)) (kOnB kOnN (kOnS kO_154))) (kOnB kOnN (kOnS kO_153))))
def kHo_148 (pc : Nat) : Option (kS → Option (List kS)) := (@Bool.rec (fun _ => Option (kS → Option (List kS))) (@Bool.rec (fun _ => Option (kS → Option (List kS))) none (some kHf_160) (Nat.beq pc 61)) (@Bool.rec (fun _ => Option (kS → Option (List kS))) none (some kHf_159) (Nat.beq pc 0)) (Nat.blt pc 61))
theorem kHo_148_ok {RO : List (Nat × (Nat → Int32))} (pc : Nat) : kOnO RO (kHo_148 pc) := by
  delta kHo_148
  exact (kOnB (kOnB kOnN (kOnS kO_160)) (kOnB kOnN (kOnS kO_159)))
def kHo_164 (pc : Nat) : Option (kS → Option (List kS)) := (@Bool.rec (fun _ => Option (kS → Option (List kS))) (@Bool.rec (fun _ => Option (kS → Option (List kS))) (@Bool.rec (fun _ => Option (kS → Option (List kS))) none (some kHf_163) (Nat.beq pc 80)) (@Bool.rec (fun _ => Option (kS → Option (List kS))) none (some kHf_162) (Nat.beq pc 54)) (Nat.blt pc 80)) (@Bool.rec (fun _ => Option (kS → Option (List kS))) none (some kHf_161) (Nat.beq pc 0)) (Nat.blt pc 54))
theorem kHo_164_ok {RO : List (Nat × (Nat → Int32))} (pc : Nat) : kOnO RO (kHo_164 pc) := by
  delta kHo_164
  exact (kOnB (kOnB (kOnB kOnN (kOnS kO_163)) (kOnB kOnN (kOnS kO_162))) (kOnB kOnN (kOnS kO_161)))
def kHo_166 (pc : Nat) : Option (kS → Option (List kS)) := (@Bool.rec (fun _ => Option (kS → Option (List kS))) (@Bool.rec (fun _ => Option (kS → Option (List kS))) (@Bool.rec (fun _ => Option (kS → Option (List kS))) (@Bool.rec (fun _ => Option (kS → Option (List kS))) none (some kHf_168) (Nat.beq pc 97)) (@Bool.rec (fun _ => Option (kS → Option (List kS))) none (some kHf_167) (Nat.beq pc 95)) (Nat.blt pc 97)) (@Bool.rec (fun _ => Option (kS → Option (List kS))) none (some kHf_166) (Nat.beq pc 16)) (Nat.blt pc 95)) (@Bool.rec (fun _ => Option (kS → Option (List kS))) (@Bool.rec (fun _ => Option (kS → Option (List kS))) none (some kHf_165) (Nat.beq pc 15)) (@Bool.rec (fun _ => Option (kS → Option (List kS))) none (some kHf_164) (Nat.beq pc 0)) (Nat.blt pc 15)) (Nat.blt pc 16))
theorem kHo_166_ok {RO : List (Nat × (Nat → Int32))} (pc : Nat) : kOnO RO (kHo_166 pc) := by
  delta kHo_166
  exact (kOnB (kOnB (kOnB (kOnB kOnN (kOnS kO_168)) (kOnB kOnN (kOnS kO_167))) (kOnB kOnN (kOnS kO_166))) (kOnB (kOnB kOnN (kOnS kO_165)) (kOnB kOnN (kOnS kO_164))))
def kHo_168 (pc : Nat) : Option (kS → Option (List kS)) := (@Bool.rec (fun _ => Option (kS → Option (List kS))) (@Bool.rec (fun _ => Option (kS → Option (List kS))) (@Bool.rec (fun _ => Option (kS → Option (List kS))) (@Bool.rec (fun _ => Option (kS → Option (List kS))) none (some kHf_176) (Nat.beq pc 185)) (@Bool.rec (fun _ => Option (kS → Option (List kS))) none (some kHf_175) (Nat.beq pc 150)) (Nat.blt pc 185)) (@Bool.rec (fun _ => Option (kS → Option (List kS))) (@Bool.rec (fun _ => Option (kS → Option (List kS))) none (some kHf_174) (Nat.beq pc 113)) (@Bool.rec (fun _ => Option (kS → Option (List kS))) none (some kHf_173) (Nat.beq pc 110)) (Nat.blt pc 113)) (Nat.blt pc 150)) (@Bool.rec (fun _ => Option (kS → Option (List kS))) (@Bool.rec (fun _ => Option (kS → Option (List kS))) (@Bool.rec (fun _ => Option (kS → Option (List kS))) none (some kHf_172) (Nat.beq pc 109)) (@Bool.rec (fun _ => Option (kS → Option (List kS))) none (some kHf_171) (Nat.beq pc 65)) (Nat.blt pc 109)) (@Bool.rec (fun _ => Option (kS → Option (List kS))) (@Bool.rec (fun _ => Option (kS → Option (List kS))) none (some kHf_170) (Nat.beq pc 38)) (@Bool.rec (fun _ => Option (kS → Option (List kS))) none (some kHf_169) (Nat.beq pc 0)) (Nat.blt pc 38)) (Nat.blt pc 65)) (Nat.blt pc 110))
theorem kHo_168_ok {RO : List (Nat × (Nat → Int32))} (pc : Nat) : kOnO RO (kHo_168 pc) := by
  delta kHo_168
  exact (kOnB (kOnB (kOnB (kOnB kOnN (kOnS kO_176)) (kOnB kOnN (kOnS kO_175))) (kOnB (kOnB kOnN (kOnS kO_174)) (kOnB kOnN (kOnS kO_173)))) (kOnB (kOnB (kOnB kOnN (kOnS kO_172)) (kOnB kOnN (kOnS kO_171))) (kOnB (kOnB kOnN (kOnS kO_170)) (kOnB kOnN (kOnS kO_169)))))
def kHo_172 (pc : Nat) : Option (kS → Option (List kS)) := (@Bool.rec (fun _ => Option (kS → Option (List kS))) (@Bool.rec (fun _ => Option (kS → Option (List kS))) none (some kHf_178) (Nat.beq pc 44)) (@Bool.rec (fun _ => Option (kS → Option (List kS))) none (some kHf_177) (Nat.beq pc 0)) (Nat.blt pc 44))
theorem kHo_172_ok {RO : List (Nat × (Nat → Int32))} (pc : Nat) : kOnO RO (kHo_172 pc) := by
  delta kHo_172
  exact (kOnB (kOnB kOnN (kOnS kO_178)) (kOnB kOnN (kOnS kO_177)))
def kHo_177 (pc : Nat) : Option (kS → Option (List kS)) := (@Bool.rec (fun _ => Option (kS → Option (List kS))) (@Bool.rec (fun _ => Option (kS → Option (List kS))) none (some kHf_180) (Nat.beq pc 31)) (@Bool.rec (fun _ => Option (kS → Option (List kS))) none (some kHf_179) (Nat.beq pc 24)) (Nat.blt pc 31))
theorem kHo_177_ok {RO : List (Nat × (Nat → Int32))} (pc : Nat) : kOnO RO (kHo_177 pc) := by
  delta kHo_177
  exact (kOnB (kOnB kOnN (kOnS kO_180)) (kOnB kOnN (kOnS kO_179)))
def kHo_181 (pc : Nat) : Option (kS → Option (List kS)) := (@Bool.rec (fun _ => Option (kS → Option (List kS))) (@Bool.rec (fun _ => Option (kS → Option (List kS))) (@Bool.rec (fun _ => Option (kS → Option (List kS))) (@Bool.rec (fun _ => Option (kS → Option (List kS))) none (some kHf_185) (Nat.beq pc 70)) (@Bool.rec (fun _ => Option (kS → Option (List kS))) none (some kHf_184) (Nat.beq pc 64)) (Nat.blt pc 70)) (@Bool.rec (fun _ => Option (kS → Option (List kS))) none (some kHf_183) (Nat.beq pc 54)) (Nat.blt pc 64)) (@Bool.rec (fun _ => Option (kS → Option (List kS))) (@Bool.rec (fun _ => Option (kS → Option (List kS))) none (some kHf_182) (Nat.beq pc 23)) (@Bool.rec (fun _ => Option (kS → Option (List kS))) none (some kHf_181) (Nat.beq pc 0)) (Nat.blt pc 23)) (Nat.blt pc 54))
theorem kHo_181_ok {RO : List (Nat × (Nat → Int32))} (pc : Nat) : kOnO RO (kHo_181 pc) := by
  delta kHo_181
  exact (kOnB (kOnB (kOnB (kOnB kOnN (kOnS kO_185)) (kOnB kOnN (kOnS kO_184))) (kOnB kOnN (kOnS kO_183))) (kOnB (kOnB kOnN (kOnS kO_182)) (kOnB kOnN (kOnS kO_181))))
def kHo_191 (pc : Nat) : Option (kS → Option (List kS)) := (@Bool.rec (fun _ => Option (kS → Option (List kS))) none (some kHf_186) (Nat.beq pc 39))
theorem kHo_191_ok {RO : List (Nat × (Nat → Int32))} (pc : Nat) : kOnO RO (kHo_191 pc) := by
  delta kHo_191
  exact (kOnB kOnN (kOnS kO_186))
def kHo_192 (pc : Nat) : Option (kS → Option (List kS)) := (@Bool.rec (fun _ => Option (kS → Option (List kS))) (@Bool.rec (fun _ => Option (kS → Option (List kS))) (@Bool.rec (fun _ => Option (kS → Option (List kS))) (@Bool.rec (fun _ => Option (kS → Option (List kS))) (@Bool.rec (fun _ => Option (kS → Option (List kS))) none (some kHf_195) (Nat.beq pc 132)) (@Bool.rec (fun _ => Option (kS → Option (List kS))) none (some kHf_194) (Nat.beq pc 128)) (Nat.blt pc 132)) (@Bool.rec (fun _ => Option (kS → Option (List kS))) none (some kHf_193) (Nat.beq pc 122)) (Nat.blt pc 128)) (@Bool.rec (fun _ => Option (kS → Option (List kS))) (@Bool.rec (fun _ => Option (kS → Option (List kS))) none (some kHf_192) (Nat.beq pc 99)) (@Bool.rec (fun _ => Option (kS → Option (List kS))) none (some kHf_191) (Nat.beq pc 63)) (Nat.blt pc 99)) (Nat.blt pc 122)) (@Bool.rec (fun _ => Option (kS → Option (List kS))) (@Bool.rec (fun _ => Option (kS → Option (List kS))) (@Bool.rec (fun _ => Option (kS → Option (List kS))) none (some kHf_190) (Nat.beq pc 57)) (@Bool.rec (fun _ => Option (kS → Option (List kS))) none (some kHf_189) (Nat.beq pc 15)) (Nat.blt pc 57)) (@Bool.rec (fun _ => Option (kS → Option (List kS))) (@Bool.rec (fun _ => Option (kS → Option (List kS))) none (some kHf_188) (Nat.beq pc 8)) (@Bool.rec (fun _ => Option (kS → Option (List kS))) none (some kHf_187) (Nat.beq pc 0)) (Nat.blt pc 8)) (Nat.blt pc 15)) (Nat.blt pc 63))
theorem kHo_192_ok {RO : List (Nat × (Nat → Int32))} (pc : Nat) : kOnO RO (kHo_192 pc) := by
  delta kHo_192
  exact (kOnB (kOnB (kOnB (kOnB (kOnB kOnN (kOnS kO_195)) (kOnB kOnN (kOnS kO_194))) (kOnB kOnN (kOnS kO_193))) (kOnB (kOnB kOnN (kOnS kO_192)) (kOnB kOnN (kOnS kO_191)))) (kOnB (kOnB (kOnB kOnN (kOnS kO_190)) (kOnB kOnN (kOnS kO_189))) (kOnB (kOnB kOnN (kOnS kO_188)) (kOnB kOnN (kOnS kO_187)))))
def kHo_193 (pc : Nat) : Option (kS → Option (List kS)) := (@Bool.rec (fun _ => Option (kS → Option (List kS))) (@Bool.rec (fun _ => Option (kS → Option (List kS))) (@Bool.rec (fun _ => Option (kS → Option (List kS))) none (some kHf_199) (Nat.beq pc 108)) (@Bool.rec (fun _ => Option (kS → Option (List kS))) none (some kHf_198) (Nat.beq pc 102)) (Nat.blt pc 108)) (@Bool.rec (fun _ => Option (kS → Option (List kS))) (@Bool.rec (fun _ => Option (kS → Option (List kS))) none (some kHf_197) (Nat.beq pc 96)) (@Bool.rec (fun _ => Option (kS → Option (List kS))) none (some kHf_196) (Nat.beq pc 29)) (Nat.blt pc 96)) (Nat.blt pc 102))
theorem kHo_193_ok {RO : List (Nat × (Nat → Int32))} (pc : Nat) : kOnO RO (kHo_193 pc) := by
  delta kHo_193
  exact (kOnB (kOnB (kOnB kOnN (kOnS kO_199)) (kOnB kOnN (kOnS kO_198))) (kOnB (kOnB kOnN (kOnS kO_197)) (kOnB kOnN (kOnS kO_196))))
def kHo_194 (pc : Nat) : Option (kS → Option (List kS)) := (@Bool.rec (fun _ => Option (kS → Option (List kS))) (@Bool.rec (fun _ => Option (kS → Option (List kS))) (@Bool.rec (fun _ => Option (kS → Option (List kS))) (@Bool.rec (fun _ => Option (kS → Option (List kS))) none (some kHf_204) (Nat.beq pc 167)) (@Bool.rec (fun _ => Option (kS → Option (List kS))) none (some kHf_203) (Nat.beq pc 161)) (Nat.blt pc 167)) (@Bool.rec (fun _ => Option (kS → Option (List kS))) none (some kHf_202) (Nat.beq pc 94)) (Nat.blt pc 161)) (@Bool.rec (fun _ => Option (kS → Option (List kS))) (@Bool.rec (fun _ => Option (kS → Option (List kS))) none (some kHf_201) (Nat.beq pc 88)) (@Bool.rec (fun _ => Option (kS → Option (List kS))) none (some kHf_200) (Nat.beq pc 13)) (Nat.blt pc 88)) (Nat.blt pc 94))
theorem kHo_194_ok {RO : List (Nat × (Nat → Int32))} (pc : Nat) : kOnO RO (kHo_194 pc) := by
  delta kHo_194
  exact (kOnB (kOnB (kOnB (kOnB kOnN (kOnS kO_204)) (kOnB kOnN (kOnS kO_203))) (kOnB kOnN (kOnS kO_202))) (kOnB (kOnB kOnN (kOnS kO_201)) (kOnB kOnN (kOnS kO_200))))
def kHo_195 (pc : Nat) : Option (kS → Option (List kS)) := (@Bool.rec (fun _ => Option (kS → Option (List kS))) (@Bool.rec (fun _ => Option (kS → Option (List kS))) (@Bool.rec (fun _ => Option (kS → Option (List kS))) none (some kHf_207) (Nat.beq pc 38)) (@Bool.rec (fun _ => Option (kS → Option (List kS))) none (some kHf_206) (Nat.beq pc 32)) (Nat.blt pc 38)) (@Bool.rec (fun _ => Option (kS → Option (List kS))) none (some kHf_205) (Nat.beq pc 5)) (Nat.blt pc 32))
theorem kHo_195_ok {RO : List (Nat × (Nat → Int32))} (pc : Nat) : kOnO RO (kHo_195 pc) := by
  delta kHo_195
  exact (kOnB (kOnB (kOnB kOnN (kOnS kO_207)) (kOnB kOnN (kOnS kO_206))) (kOnB kOnN (kOnS kO_205)))
def kHo_196 (pc : Nat) : Option (kS → Option (List kS)) := (@Bool.rec (fun _ => Option (kS → Option (List kS))) (@Bool.rec (fun _ => Option (kS → Option (List kS))) (@Bool.rec (fun _ => Option (kS → Option (List kS))) none (some kHf_210) (Nat.beq pc 25)) (@Bool.rec (fun _ => Option (kS → Option (List kS))) none (some kHf_209) (Nat.beq pc 19)) (Nat.blt pc 25)) (@Bool.rec (fun _ => Option (kS → Option (List kS))) none (some kHf_208) (Nat.beq pc 2)) (Nat.blt pc 19))
theorem kHo_196_ok {RO : List (Nat × (Nat → Int32))} (pc : Nat) : kOnO RO (kHo_196 pc) := by
  delta kHo_196
  exact (kOnB (kOnB (kOnB kOnN (kOnS kO_210)) (kOnB kOnN (kOnS kO_209))) (kOnB kOnN (kOnS kO_208)))
def kHo_197 (pc : Nat) : Option (kS → Option (List kS)) := (@Bool.rec (fun _ => Option (kS → Option (List kS))) none (some kHf_211) (Nat.beq pc 44))
theorem kHo_197_ok {RO : List (Nat × (Nat → Int32))} (pc : Nat) : kOnO RO (kHo_197 pc) := by
  delta kHo_197
  exact (kOnB kOnN (kOnS kO_211))
def kHo_198 (pc : Nat) : Option (kS → Option (List kS)) := (@Bool.rec (fun _ => Option (kS → Option (List kS))) (@Bool.rec (fun _ => Option (kS → Option (List kS))) (@Bool.rec (fun _ => Option (kS → Option (List kS))) none (some kHf_215) (Nat.beq pc 37)) (@Bool.rec (fun _ => Option (kS → Option (List kS))) none (some kHf_214) (Nat.beq pc 29)) (Nat.blt pc 37)) (@Bool.rec (fun _ => Option (kS → Option (List kS))) (@Bool.rec (fun _ => Option (kS → Option (List kS))) none (some kHf_213) (Nat.beq pc 28)) (@Bool.rec (fun _ => Option (kS → Option (List kS))) none (some kHf_212) (Nat.beq pc 2)) (Nat.blt pc 28)) (Nat.blt pc 29))
theorem kHo_198_ok {RO : List (Nat × (Nat → Int32))} (pc : Nat) : kOnO RO (kHo_198 pc) := by
  delta kHo_198
  exact (kOnB (kOnB (kOnB kOnN (kOnS kO_215)) (kOnB kOnN (kOnS kO_214))) (kOnB (kOnB kOnN (kOnS kO_213)) (kOnB kOnN (kOnS kO_212))))
def kHo_200 (pc : Nat) : Option (kS → Option (List kS)) := (@Bool.rec (fun _ => Option (kS → Option (List kS))) none (some kHf_216) (Nat.beq pc 74))
theorem kHo_200_ok {RO : List (Nat × (Nat → Int32))} (pc : Nat) : kOnO RO (kHo_200 pc) := by
  delta kHo_200
  exact (kOnB kOnN (kOnS kO_216))
def kHo_202 (pc : Nat) : Option (kS → Option (List kS)) := (@Bool.rec (fun _ => Option (kS → Option (List kS))) none (some kHf_217) (Nat.beq pc 55))
theorem kHo_202_ok {RO : List (Nat × (Nat → Int32))} (pc : Nat) : kOnO RO (kHo_202 pc) := by
  delta kHo_202
  exact (kOnB kOnN (kOnS kO_217))
def kHo_203 (pc : Nat) : Option (kS → Option (List kS)) := (@Bool.rec (fun _ => Option (kS → Option (List kS))) none (some kHf_218) (Nat.beq pc 35))
theorem kHo_203_ok {RO : List (Nat × (Nat → Int32))} (pc : Nat) : kOnO RO (kHo_203 pc) := by
  delta kHo_203
  exact (kOnB kOnN (kOnS kO_218))
def kHo_205 (pc : Nat) : Option (kS → Option (List kS)) := (@Bool.rec (fun _ => Option (kS → Option (List kS))) none (some kHf_219) (Nat.beq pc 51))
theorem kHo_205_ok {RO : List (Nat × (Nat → Int32))} (pc : Nat) : kOnO RO (kHo_205 pc) := by
  delta kHo_205
  exact (kOnB kOnN (kOnS kO_219))
def kHo_215 (pc : Nat) : Option (kS → Option (List kS)) := (@Bool.rec (fun _ => Option (kS → Option (List kS))) (@Bool.rec (fun _ => Option (kS → Option (List kS))) (@Bool.rec (fun _ => Option (kS → Option (List kS))) (@Bool.rec (fun _ => Option (kS → Option (List kS))) (@Bool.rec (fun _ => Option (kS → Option (List kS))) none (some kHf_229) (Nat.beq pc 285)) (@Bool.rec (fun _ => Option (kS → Option (List kS))) none (some kHf_228) (Nat.beq pc 248)) (Nat.blt pc 285)) (@Bool.rec (fun _ => Option (kS → Option (List kS))) none (some kHf_227) (Nat.beq pc 177)) (Nat.blt pc 248)) (@Bool.rec (fun _ => Option (kS → Option (List kS))) (@Bool.rec (fun _ => Option (kS → Option (List kS))) none (some kHf_226) (Nat.beq pc 161)) (@Bool.rec (fun _ => Option (kS → Option (List kS))) none (some kHf_225) (Nat.beq pc 135)) (Nat.blt pc 161)) (Nat.blt pc 177)) (@Bool.rec (fun _ => Option (kS → Option (List kS))) (@Bool.rec (fun _ => Option (kS → Option (List kS))) (@Bool.rec (fun _ => Option (kS → Option (List kS))) (@Bool.rec (fun _ => Option (kS → Option (List kS))) none (some kHf_224) (Nat.beq pc 104)) (@Bool.rec (fun _ => Option (kS → Option (List kS))) none (some kHf_223) (Nat.beq pc 53)) (Nat.blt pc 104)) (@Bool.rec (fun _ => Option (kS → Option (List kS))) none (some kHf_222) (Nat.beq pc 23)) (Nat.blt pc 53)) (@Bool.rec (fun _ => Option (kS → Option (List kS))) (@Bool.rec (fun _ => Option (kS → Option (List kS))) none (some kHf_221) (Nat.beq pc 17)) (@Bool.rec (fun _ => Option (kS → Option (List kS))) none (some kHf_220) (Nat.beq pc 16)) (Nat.blt pc 17)) (Nat.blt pc 23)) (Nat.blt pc 135))
theorem kHo_215_ok {RO : List (Nat × (Nat → Int32))} (pc : Nat) : kOnO RO (kHo_215 pc) := by
  delta kHo_215
  exact (kOnB (kOnB (kOnB (kOnB (kOnB kOnN (kOnS kO_229)) (kOnB kOnN (kOnS kO_228))) (kOnB kOnN (kOnS kO_227))) (kOnB (kOnB kOnN (kOnS kO_226)) (kOnB kOnN (kOnS kO_225)))) (kOnB (kOnB (kOnB (kOnB kOnN (kOnS kO_224)) (kOnB kOnN (kOnS kO_223))) (kOnB kOnN (kOnS kO_222))) (kOnB (kOnB kOnN (kOnS kO_221)) (kOnB kOnN (kOnS kO_220)))))
def kHo_221 (pc : Nat) : Option (kS → Option (List kS)) := (@Bool.rec (fun _ => Option (kS → Option (List kS))) (@Bool.rec (fun _ => Option (kS → Option (List kS))) (@Bool.rec (fun _ => Option (kS → Option (List kS))) none (some kHf_232) (Nat.beq pc 91)) (@Bool.rec (fun _ => Option (kS → Option (List kS))) none (some kHf_231) (Nat.beq pc 54)) (Nat.blt pc 91)) (@Bool.rec (fun _ => Option (kS → Option (List kS))) none (some kHf_230) (Nat.beq pc 15)) (Nat.blt pc 54))
theorem kHo_221_ok {RO : List (Nat × (Nat → Int32))} (pc : Nat) : kOnO RO (kHo_221 pc) := by
  delta kHo_221
  exact (kOnB (kOnB (kOnB kOnN (kOnS kO_232)) (kOnB kOnN (kOnS kO_231))) (kOnB kOnN (kOnS kO_230)))
def kHo_222 (pc : Nat) : Option (kS → Option (List kS)) := (@Bool.rec (fun _ => Option (kS → Option (List kS))) (@Bool.rec (fun _ => Option (kS → Option (List kS))) (@Bool.rec (fun _ => Option (kS → Option (List kS))) none (some kHf_235) (Nat.beq pc 90)) (@Bool.rec (fun _ => Option (kS → Option (List kS))) none (some kHf_234) (Nat.beq pc 61)) (Nat.blt pc 90)) (@Bool.rec (fun _ => Option (kS → Option (List kS))) none (some kHf_233) (Nat.beq pc 49)) (Nat.blt pc 61))
theorem kHo_222_ok {RO : List (Nat × (Nat → Int32))} (pc : Nat) : kOnO RO (kHo_222 pc) := by
  delta kHo_222
  exact (kOnB (kOnB (kOnB kOnN (kOnS kO_235)) (kOnB kOnN (kOnS kO_234))) (kOnB kOnN (kOnS kO_233)))
def kHo_223 (pc : Nat) : Option (kS → Option (List kS)) := (@Bool.rec (fun _ => Option (kS → Option (List kS))) (@Bool.rec (fun _ => Option (kS → Option (List kS))) (@Bool.rec (fun _ => Option (kS → Option (List kS))) (@Bool.rec (fun _ => Option (kS → Option (List kS))) none (some kHf_240) (Nat.beq pc 57)) (@Bool.rec (fun _ => Option (kS → Option (List kS))) none (some kHf_239) (Nat.beq pc 51)) (Nat.blt pc 57)) (@Bool.rec (fun _ => Option (kS → Option (List kS))) none (some kHf_238) (Nat.beq pc 40)) (Nat.blt pc 51)) (@Bool.rec (fun _ => Option (kS → Option (List kS))) (@Bool.rec (fun _ => Option (kS → Option (List kS))) none (some kHf_237) (Nat.beq pc 5)) (@Bool.rec (fun _ => Option (kS → Option (List kS))) none (some kHf_236) (Nat.beq pc 0)) (Nat.blt pc 5)) (Nat.blt pc 40))
theorem kHo_223_ok {RO : List (Nat × (Nat → Int32))} (pc : Nat) : kOnO RO (kHo_223 pc) := by
  delta kHo_223
  exact (kOnB (kOnB (kOnB (kOnB kOnN (kOnS kO_240)) (kOnB kOnN (kOnS kO_239))) (kOnB kOnN (kOnS kO_238))) (kOnB (kOnB kOnN (kOnS kO_237)) (kOnB kOnN (kOnS kO_236))))
def kHo_224 (pc : Nat) : Option (kS → Option (List kS)) := (@Bool.rec (fun _ => Option (kS → Option (List kS))) (@Bool.rec (fun _ => Option (kS → Option (List kS))) (@Bool.rec (fun _ => Option (kS → Option (List kS))) (@Bool.rec (fun _ => Option (kS → Option (List kS))) none (some kHf_245) (Nat.beq pc 57)) (@Bool.rec (fun _ => Option (kS → Option (List kS))) none (some kHf_244) (Nat.beq pc 51)) (Nat.blt pc 57)) (@Bool.rec (fun _ => Option (kS → Option (List kS))) none (some kHf_243) (Nat.beq pc 40)) (Nat.blt pc 51)) (@Bool.rec (fun _ => Option (kS → Option (List kS))) (@Bool.rec (fun _ => Option (kS → Option (List kS))) none (some kHf_242) (Nat.beq pc 5)) (@Bool.rec (fun _ => Option (kS → Option (List kS))) none (some kHf_241) (Nat.beq pc 0)) (Nat.blt pc 5)) (Nat.blt pc 40))
theorem kHo_224_ok {RO : List (Nat × (Nat → Int32))} (pc : Nat) : kOnO RO (kHo_224 pc) := by
  delta kHo_224
  exact (kOnB (kOnB (kOnB (kOnB kOnN (kOnS kO_245)) (kOnB kOnN (kOnS kO_244))) (kOnB kOnN (kOnS kO_243))) (kOnB (kOnB kOnN (kOnS kO_242)) (kOnB kOnN (kOnS kO_241))))
def kHo_225 (pc : Nat) : Option (kS → Option (List kS)) := (@Bool.rec (fun _ => Option (kS → Option (List kS))) (@Bool.rec (fun _ => Option (kS → Option (List kS))) (@Bool.rec (fun _ => Option (kS → Option (List kS))) none (some kHf_249) (Nat.beq pc 57)) (@Bool.rec (fun _ => Option (kS → Option (List kS))) none (some kHf_248) (Nat.beq pc 46)) (Nat.blt pc 57)) (@Bool.rec (fun _ => Option (kS → Option (List kS))) (@Bool.rec (fun _ => Option (kS → Option (List kS))) none (some kHf_247) (Nat.beq pc 5)) (@Bool.rec (fun _ => Option (kS → Option (List kS))) none (some kHf_246) (Nat.beq pc 0)) (Nat.blt pc 5)) (Nat.blt pc 46))
theorem kHo_225_ok {RO : List (Nat × (Nat → Int32))} (pc : Nat) : kOnO RO (kHo_225 pc) := by
  delta kHo_225
  exact (kOnB (kOnB (kOnB kOnN (kOnS kO_249)) (kOnB kOnN (kOnS kO_248))) (kOnB (kOnB kOnN (kOnS kO_247)) (kOnB kOnN (kOnS kO_246))))
def kHo_226 (pc : Nat) : Option (kS → Option (List kS)) := (@Bool.rec (fun _ => Option (kS → Option (List kS))) (@Bool.rec (fun _ => Option (kS → Option (List kS))) (@Bool.rec (fun _ => Option (kS → Option (List kS))) (@Bool.rec (fun _ => Option (kS → Option (List kS))) none (some kHf_254) (Nat.beq pc 71)) (@Bool.rec (fun _ => Option (kS → Option (List kS))) none (some kHf_253) (Nat.beq pc 65)) (Nat.blt pc 71)) (@Bool.rec (fun _ => Option (kS → Option (List kS))) none (some kHf_252) (Nat.beq pc 54)) (Nat.blt pc 65)) (@Bool.rec (fun _ => Option (kS → Option (List kS))) (@Bool.rec (fun _ => Option (kS → Option (List kS))) none (some kHf_251) (Nat.beq pc 5)) (@Bool.rec (fun _ => Option (kS → Option (List kS))) none (some kHf_250) (Nat.beq pc 0)) (Nat.blt pc 5)) (Nat.blt pc 54))
theorem kHo_226_ok {RO : List (Nat × (Nat → Int32))} (pc : Nat) : kOnO RO (kHo_226 pc) := by
  delta kHo_226
  exact (kOnB (kOnB (kOnB (kOnB kOnN (kOnS kO_254)) (kOnB kOnN (kOnS kO_253))) (kOnB kOnN (kOnS kO_252))) (kOnB (kOnB kOnN (kOnS kO_251)) (kOnB kOnN (kOnS kO_250))))
def kHo_227 (pc : Nat) : Option (kS → Option (List kS)) := (@Bool.rec (fun _ => Option (kS → Option (List kS))) (@Bool.rec (fun _ => Option (kS → Option (List kS))) (@Bool.rec (fun _ => Option (kS → Option (List kS))) (@Bool.rec (fun _ => Option (kS → Option (List kS))) none (some kHf_259) (Nat.beq pc 63)) (@Bool.rec (fun _ => Option (kS → Option (List kS))) none (some kHf_258) (Nat.beq pc 57)) (Nat.blt pc 63)) (@Bool.rec (fun _ => Option (kS → Option (List kS))) none (some kHf_257) (Nat.beq pc 46)) (Nat.blt pc 57)) (@Bool.rec (fun _ => Option (kS → Option (List kS))) (@Bool.rec (fun _ => Option (kS → Option (List kS))) none (some kHf_256) (Nat.beq pc 5)) (@Bool.rec (fun _ => Option (kS → Option (List kS))) none (some kHf_255) (Nat.beq pc 0)) (Nat.blt pc 5)) (Nat.blt pc 46))
theorem kHo_227_ok {RO : List (Nat × (Nat → Int32))} (pc : Nat) : kOnO RO (kHo_227 pc) := by
  delta kHo_227
  exact (kOnB (kOnB (kOnB (kOnB kOnN (kOnS kO_259)) (kOnB kOnN (kOnS kO_258))) (kOnB kOnN (kOnS kO_257))) (kOnB (kOnB kOnN (kOnS kO_256)) (kOnB kOnN (kOnS kO_255))))
def kHo_229 (pc : Nat) : Option (kS → Option (List kS)) := (@Bool.rec (fun _ => Option (kS → Option (List kS))) (@Bool.rec (fun _ => Option (kS → Option (List kS))) (@Bool.rec (fun _ => Option (kS → Option (List kS))) (@Bool.rec (fun _ => Option (kS → Option (List kS))) none (some kHf_266) (Nat.beq pc 154)) (@Bool.rec (fun _ => Option (kS → Option (List kS))) none (some kHf_265) (Nat.beq pc 143)) (Nat.blt pc 154)) (@Bool.rec (fun _ => Option (kS → Option (List kS))) (@Bool.rec (fun _ => Option (kS → Option (List kS))) none (some kHf_264) (Nat.beq pc 132)) (@Bool.rec (fun _ => Option (kS → Option (List kS))) none (some kHf_263) (Nat.beq pc 107)) (Nat.blt pc 132)) (Nat.blt pc 143)) (@Bool.rec (fun _ => Option (kS → Option (List kS))) (@Bool.rec (fun _ => Option (kS → Option (List kS))) (@Bool.rec (fun _ => Option (kS → Option (List kS))) none (some kHf_262) (Nat.beq pc 82)) (@Bool.rec (fun _ => Option (kS → Option (List kS))) none (some kHf_261) (Nat.beq pc 51)) (Nat.blt pc 82)) (@Bool.rec (fun _ => Option (kS → Option (List kS))) none (some kHf_260) (Nat.beq pc 25)) (Nat.blt pc 51)) (Nat.blt pc 107))
theorem kHo_229_ok {RO : List (Nat × (Nat → Int32))} (pc : Nat) : kOnO RO (kHo_229 pc) := by
  delta kHo_229
  exact (kOnB (kOnB (kOnB (kOnB kOnN (kOnS kO_266)) (kOnB kOnN (kOnS kO_265))) (kOnB (kOnB kOnN (kOnS kO_264)) (kOnB kOnN (kOnS kO_263)))) (kOnB (kOnB (kOnB kOnN (kOnS kO_262)) (kOnB kOnN (kOnS kO_261))) (kOnB kOnN (kOnS kO_260))))
def kHo_249 (pc : Nat) : Option (kS → Option (List kS)) := (@Bool.rec (fun _ => Option (kS → Option (List kS))) none (some kHf_267) (Nat.beq pc 30))
theorem kHo_249_ok {RO : List (Nat × (Nat → Int32))} (pc : Nat) : kOnO RO (kHo_249 pc) := by
  delta kHo_249
  exact (kOnB kOnN (kOnS kO_267))
def kHo_250 (pc : Nat) : Option (kS → Option (List kS)) := (@Bool.rec (fun _ => Option (kS → Option (List kS))) (@Bool.rec (fun _ => Option (kS → Option (List kS))) (@Bool.rec (fun _ => Option (kS → Option (List kS))) none (some kHf_271) (Nat.beq pc 39)) (@Bool.rec (fun _ => Option (kS → Option (List kS))) none (some kHf_270) (Nat.beq pc 32)) (Nat.blt pc 39)) (@Bool.rec (fun _ => Option (kS → Option (List kS))) (@Bool.rec (fun _ => Option (kS → Option (List kS))) none (some kHf_269) (Nat.beq pc 31)) (@Bool.rec (fun _ => Option (kS → Option (List kS))) none (some kHf_268) (Nat.beq pc 2)) (Nat.blt pc 31)) (Nat.blt pc 32))
theorem kHo_250_ok {RO : List (Nat × (Nat → Int32))} (pc : Nat) : kOnO RO (kHo_250 pc) := by
  delta kHo_250
  exact (kOnB (kOnB (kOnB kOnN (kOnS kO_271)) (kOnB kOnN (kOnS kO_270))) (kOnB (kOnB kOnN (kOnS kO_269)) (kOnB kOnN (kOnS kO_268))))
def kHo_251 (pc : Nat) : Option (kS → Option (List kS)) := (@Bool.rec (fun _ => Option (kS → Option (List kS))) none (some kHf_272) (Nat.beq pc 9))
theorem kHo_251_ok {RO : List (Nat × (Nat → Int32))} (pc : Nat) : kOnO RO (kHo_251 pc) := by
  delta kHo_251
  exact (kOnB kOnN (kOnS kO_272))
def kHo_257 (pc : Nat) : Option (kS → Option (List kS)) := (@Bool.rec (fun _ => Option (kS → Option (List kS))) (@Bool.rec (fun _ => Option (kS → Option (List kS))) none (some kHf_274) (Nat.beq pc 36)) (@Bool.rec (fun _ => Option (kS → Option (List kS))) none (some kHf_273) (Nat.beq pc 17)) (Nat.blt pc 36))
theorem kHo_257_ok {RO : List (Nat × (Nat → Int32))} (pc : Nat) : kOnO RO (kHo_257 pc) := by
  delta kHo_257
  exact (kOnB (kOnB kOnN (kOnS kO_274)) (kOnB kOnN (kOnS kO_273)))
def kHo_265 (pc : Nat) : Option (kS → Option (List kS)) := (@Bool.rec (fun _ => Option (kS → Option (List kS))) none (some kHf_275) (Nat.beq pc 25))
theorem kHo_265_ok {RO : List (Nat × (Nat → Int32))} (pc : Nat) : kOnO RO (kHo_265 pc) := by
  delta kHo_265
  exact (kOnB kOnN (kOnS kO_275))
def kHo_266 (pc : Nat) : Option (kS → Option (List kS)) := (@Bool.rec (fun _ => Option (kS → Option (List kS))) (@Bool.rec (fun _ => Option (kS → Option (List kS))) (@Bool.rec (fun _ => Option (kS → Option (List kS))) none (some kHf_279) (Nat.beq pc 162)) (@Bool.rec (fun _ => Option (kS → Option (List kS))) none (some kHf_278) (Nat.beq pc 134)) (Nat.blt pc 162)) (@Bool.rec (fun _ => Option (kS → Option (List kS))) (@Bool.rec (fun _ => Option (kS → Option (List kS))) none (some kHf_277) (Nat.beq pc 82)) (@Bool.rec (fun _ => Option (kS → Option (List kS))) none (some kHf_276) (Nat.beq pc 0)) (Nat.blt pc 82)) (Nat.blt pc 134))
theorem kHo_266_ok {RO : List (Nat × (Nat → Int32))} (pc : Nat) : kOnO RO (kHo_266 pc) := by
  delta kHo_266
  exact (kOnB (kOnB (kOnB kOnN (kOnS kO_279)) (kOnB kOnN (kOnS kO_278))) (kOnB (kOnB kOnN (kOnS kO_277)) (kOnB kOnN (kOnS kO_276))))
def kHo_268 (pc : Nat) : Option (kS → Option (List kS)) := (@Bool.rec (fun _ => Option (kS → Option (List kS))) none (some kHf_280) (Nat.beq pc 37))
theorem kHo_268_ok {RO : List (Nat × (Nat → Int32))} (pc : Nat) : kOnO RO (kHo_268 pc) := by
  delta kHo_268
  exact (kOnB kOnN (kOnS kO_280))
def kHo_269 (pc : Nat) : Option (kS → Option (List kS)) := (@Bool.rec (fun _ => Option (kS → Option (List kS))) (@Bool.rec (fun _ => Option (kS → Option (List kS))) (@Bool.rec (fun _ => Option (kS → Option (List kS))) none (some kHf_283) (Nat.beq pc 51)) (@Bool.rec (fun _ => Option (kS → Option (List kS))) none (some kHf_282) (Nat.beq pc 47)) (Nat.blt pc 51)) (@Bool.rec (fun _ => Option (kS → Option (List kS))) none (some kHf_281) (Nat.beq pc 9)) (Nat.blt pc 47))
theorem kHo_269_ok {RO : List (Nat × (Nat → Int32))} (pc : Nat) : kOnO RO (kHo_269 pc) := by
  delta kHo_269
  exact (kOnB (kOnB (kOnB kOnN (kOnS kO_283)) (kOnB kOnN (kOnS kO_282))) (kOnB kOnN (kOnS kO_281)))
def kHo_278 (pc : Nat) : Option (kS → Option (List kS)) := (@Bool.rec (fun _ => Option (kS → Option (List kS))) (@Bool.rec (fun _ => Option (kS → Option (List kS))) (@Bool.rec (fun _ => Option (kS → Option (List kS))) none (some kHf_287) (Nat.beq pc 52)) (@Bool.rec (fun _ => Option (kS → Option (List kS))) none (some kHf_286) (Nat.beq pc 49)) (Nat.blt pc 52)) (@Bool.rec (fun _ => Option (kS → Option (List kS))) (@Bool.rec (fun _ => Option (kS → Option (List kS))) none (some kHf_285) (Nat.beq pc 17)) (@Bool.rec (fun _ => Option (kS → Option (List kS))) none (some kHf_284) (Nat.beq pc 15)) (Nat.blt pc 17)) (Nat.blt pc 49))
theorem kHo_278_ok {RO : List (Nat × (Nat → Int32))} (pc : Nat) : kOnO RO (kHo_278 pc) := by
  delta kHo_278
  exact (kOnB (kOnB (kOnB kOnN (kOnS kO_287)) (kOnB kOnN (kOnS kO_286))) (kOnB (kOnB kOnN (kOnS kO_285)) (kOnB kOnN (kOnS kO_284))))
def kHo_280 (pc : Nat) : Option (kS → Option (List kS)) := (@Bool.rec (fun _ => Option (kS → Option (List kS))) (@Bool.rec (fun _ => Option (kS → Option (List kS))) (@Bool.rec (fun _ => Option (kS → Option (List kS))) (@Bool.rec (fun _ => Option (kS → Option (List kS))) (@Bool.rec (fun _ => Option (kS → Option (List kS))) (@Bool.rec (fun _ => Option (kS → Option (List kS))) none (some kHf_305) (Nat.beq pc 1449)) (@Bool.rec (fun _ => Option (kS → Option (List kS))) none (some kHf_304) (Nat.beq pc 1436)) (Nat.blt pc 1449)) (@Bool.rec (fun _ => Option (kS → Option (List kS))) none (some kHf_303) (Nat.beq pc 1426)) (Nat.blt pc 1436)) (@Bool.rec (fun _ => Option (kS → Option (List kS))) (@Bool.rec (fun _ => Option (kS → Option (List kS))) none (some kHf_302) (Nat.beq pc 1348)) (@Bool.rec (fun _ => Option (kS → Option (List kS))) none (some kHf_301) (Nat.beq pc 1320)) (Nat.blt pc 1348)) (Nat.blt pc 1426)) (@Bool.rec (fun _ => Option (kS → Option (List kS))) (@Bool.rec (fun _ => Option (kS → Option (List kS))) (@Bool.rec (fun _ => Option (kS → Option (List kS))) none (some kHf_300) (Nat.beq pc 1140)) (@Bool.rec (fun _ => Option (kS → Option (List kS))) none (some kHf_299) (Nat.beq pc 1127)) (Nat.blt pc 1140)) (@Bool.rec (fun _ => Option (kS → Option (List kS))) (@Bool.rec (fun _ => Option (kS → Option (List kS))) none (some kHf_298) (Nat.beq pc 1029)) (@Bool.rec (fun _ => Option (kS → Option (List kS))) none (some kHf_297) (Nat.beq pc 1026)) (Nat.blt pc 1029)) (Nat.blt pc 1127)) (Nat.blt pc 1320)) (@Bool.rec (fun _ => Option (kS → Option (List kS))) (@Bool.rec (fun _ => Option (kS → Option (List kS))) (@Bool.rec (fun _ => Option (kS → Option (List kS))) (@Bool.rec (fun _ => Option (kS → Option (List kS))) (@Bool.rec (fun _ => Option (kS → Option (List kS))) none (some kHf_296) (Nat.beq pc 545)) (@Bool.rec (fun _ => Option (kS → Option (List kS))) none (some kHf_295) (Nat.beq pc 531)) (Nat.blt pc 545)) (@Bool.rec (fun _ => Option (kS → Option (List kS))) none (some kHf_294) (Nat.beq pc 493)) (Nat.blt pc 531)) (@Bool.rec (fun _ => Option (kS → Option (List kS))) (@Bool.rec (fun _ => Option (kS → Option (List kS))) none (some kHf_293) (Nat.beq pc 422)) (@Bool.rec (fun _ => Option (kS → Option (List kS))) none (some kHf_292) (Nat.beq pc 376)) (Nat.blt pc 422)) (Nat.blt pc 493)) (@Bool.rec (fun _ => Option (kS → Option (List kS))) (@Bool.rec (fun _ => Option (kS → Option (List kS))) (@Bool.rec (fun _ => Option (kS → Option (List kS))) none (some kHf_291) (Nat.beq pc 330)) (@Bool.rec (fun _ => Option (kS → Option (List kS))) none (some kHf_290) (Nat.beq pc 272)) (Nat.blt pc 330)) (@Bool.rec (fun _ => Option (kS → Option (List kS))) (@Bool.rec (fun _ => Option (kS → Option (List kS))) none (some kHf_289) (Nat.beq pc 259)) (@Bool.rec (fun _ => Option (kS → Option (List kS))) none (some kHf_288) (Nat.beq pc 18)) (Nat.blt pc 259)) (Nat.blt pc 272)) (Nat.blt pc 376)) (Nat.blt pc 1026))
theorem kHo_280_ok {RO : List (Nat × (Nat → Int32))} (pc : Nat) : kOnO RO (kHo_280 pc) := by
  delta kHo_280
  exact (kOnB (kOnB (kOnB (kOnB (kOnB (kOnB kOnN (kOnS kO_305)) (kOnB kOnN (kOnS kO_304))) (kOnB kOnN (kOnS kO_303))) (kOnB (kOnB kOnN (kOnS kO_302)) (kOnB kOnN (kOnS kO_301)))) (kOnB (kOnB (kOnB kOnN (kOnS kO_300)) (kOnB kOnN (kOnS kO_299))) (kOnB (kOnB kOnN (kOnS kO_298)) (kOnB kOnN (kOnS kO_297))))) (kOnB (kOnB (kOnB (kOnB (kOnB kOnN (kOnS kO_296)) (kOnB kOnN (kOnS kO_295))) (kOnB kOnN (kOnS kO_294))) (kOnB (kOnB kOnN (kOnS kO_293)) (kOnB kOnN (kOnS kO_292)))) (kOnB (kOnB (kOnB kOnN (kOnS kO_291)) (kOnB kOnN (kOnS kO_290))) (kOnB (kOnB kOnN (kOnS kO_289)) (kOnB kOnN (kOnS kO_288))))))
def kHg_1 (mi pc : Nat) : Option (kS → Option (List kS)) := (@Bool.rec (fun _ => Option (kS → Option (List kS))) (@Bool.rec (fun _ => Option (kS → Option (List kS))) (@Bool.rec (fun _ => Option (kS → Option (List kS))) (@Bool.rec (fun _ => Option (kS → Option (List kS))) none (kHo_64 pc) (Nat.beq mi 64)) (@Bool.rec (fun _ => Option (kS → Option (List kS))) none (kHo_60 pc) (Nat.beq mi 60)) (Nat.blt mi 64)) (@Bool.rec (fun _ => Option (kS → Option (List kS))) none (kHo_49 pc) (Nat.beq mi 49)) (Nat.blt mi 60)) (@Bool.rec (fun _ => Option (kS → Option (List kS))) (@Bool.rec (fun _ => Option (kS → Option (List kS))) none (kHo_47 pc) (Nat.beq mi 47)) (@Bool.rec (fun _ => Option (kS → Option (List kS))) none (kHo_37 pc) (Nat.beq mi 37)) (Nat.blt mi 47)) (Nat.blt mi 49))
theorem kHg_1_ok {RO : List (Nat × (Nat → Int32))} (mi pc : Nat) : kOnO RO (kHg_1 mi pc) := by
  delta kHg_1
  exact (kOnB (kOnB (kOnB (kOnB kOnN (kHo_64_ok pc)) (kOnB kOnN (kHo_60_ok pc))) (kOnB kOnN (kHo_49_ok pc))) (kOnB (kOnB kOnN (kHo_47_ok pc)) (kOnB kOnN (kHo_37_ok pc))))
def kHg_2 (mi pc : Nat) : Option (kS → Option (List kS)) := (@Bool.rec (fun _ => Option (kS → Option (List kS))) (kHg_1 mi pc) (@Bool.rec (fun _ => Option (kS → Option (List kS))) (@Bool.rec (fun _ => Option (kS → Option (List kS))) (@Bool.rec (fun _ => Option (kS → Option (List kS))) none (kHo_32 pc) (Nat.beq mi 32)) (@Bool.rec (fun _ => Option (kS → Option (List kS))) none (kHo_11 pc) (Nat.beq mi 11)) (Nat.blt mi 32)) (@Bool.rec (fun _ => Option (kS → Option (List kS))) (@Bool.rec (fun _ => Option (kS → Option (List kS))) none (kHo_5 pc) (Nat.beq mi 5)) (@Bool.rec (fun _ => Option (kS → Option (List kS))) none (kHo_3 pc) (Nat.beq mi 3)) (Nat.blt mi 5)) (Nat.blt mi 11)) (Nat.blt mi 37))
theorem kHg_2_ok {RO : List (Nat × (Nat → Int32))} (mi pc : Nat) : kOnO RO (kHg_2 mi pc) := by
  delta kHg_2
  exact (kOnB (kHg_1_ok mi pc) (kOnB (kOnB (kOnB kOnN (kHo_32_ok pc)) (kOnB kOnN (kHo_11_ok pc))) (kOnB (kOnB kOnN (kHo_5_ok pc)) (kOnB kOnN (kHo_3_ok pc)))))
def kHg_3 (mi pc : Nat) : Option (kS → Option (List kS)) := (@Bool.rec (fun _ => Option (kS → Option (List kS))) (@Bool.rec (fun _ => Option (kS → Option (List kS))) (@Bool.rec (fun _ => Option (kS → Option (List kS))) (@Bool.rec (fun _ => Option (kS → Option (List kS))) none (kHo_80 pc) (Nat.beq mi 80)) (@Bool.rec (fun _ => Option (kS → Option (List kS))) none (kHo_79 pc) (Nat.beq mi 79)) (Nat.blt mi 80)) (@Bool.rec (fun _ => Option (kS → Option (List kS))) none (kHo_78 pc) (Nat.beq mi 78)) (Nat.blt mi 79)) (@Bool.rec (fun _ => Option (kS → Option (List kS))) (@Bool.rec (fun _ => Option (kS → Option (List kS))) none (kHo_77 pc) (Nat.beq mi 77)) (@Bool.rec (fun _ => Option (kS → Option (List kS))) none (kHo_74 pc) (Nat.beq mi 74)) (Nat.blt mi 77)) (Nat.blt mi 78))
theorem kHg_3_ok {RO : List (Nat × (Nat → Int32))} (mi pc : Nat) : kOnO RO (kHg_3 mi pc) := by
  delta kHg_3
  exact (kOnB (kOnB (kOnB (kOnB kOnN (kHo_80_ok pc)) (kOnB kOnN (kHo_79_ok pc))) (kOnB kOnN (kHo_78_ok pc))) (kOnB (kOnB kOnN (kHo_77_ok pc)) (kOnB kOnN (kHo_74_ok pc))))
def kHg_4 (mi pc : Nat) : Option (kS → Option (List kS)) := (@Bool.rec (fun _ => Option (kS → Option (List kS))) (@Bool.rec (fun _ => Option (kS → Option (List kS))) (@Bool.rec (fun _ => Option (kS → Option (List kS))) (@Bool.rec (fun _ => Option (kS → Option (List kS))) none (kHo_85 pc) (Nat.beq mi 85)) (@Bool.rec (fun _ => Option (kS → Option (List kS))) none (kHo_84 pc) (Nat.beq mi 84)) (Nat.blt mi 85)) (@Bool.rec (fun _ => Option (kS → Option (List kS))) none (kHo_83 pc) (Nat.beq mi 83)) (Nat.blt mi 84)) (@Bool.rec (fun _ => Option (kS → Option (List kS))) (@Bool.rec (fun _ => Option (kS → Option (List kS))) none (kHo_82 pc) (Nat.beq mi 82)) (@Bool.rec (fun _ => Option (kS → Option (List kS))) none (kHo_81 pc) (Nat.beq mi 81)) (Nat.blt mi 82)) (Nat.blt mi 83))
theorem kHg_4_ok {RO : List (Nat × (Nat → Int32))} (mi pc : Nat) : kOnO RO (kHg_4 mi pc) := by
  delta kHg_4
  exact (kOnB (kOnB (kOnB (kOnB kOnN (kHo_85_ok pc)) (kOnB kOnN (kHo_84_ok pc))) (kOnB kOnN (kHo_83_ok pc))) (kOnB (kOnB kOnN (kHo_82_ok pc)) (kOnB kOnN (kHo_81_ok pc))))
def kHg_5 (mi pc : Nat) : Option (kS → Option (List kS)) := (@Bool.rec (fun _ => Option (kS → Option (List kS))) (kHg_4 mi pc) (kHg_3 mi pc) (Nat.blt mi 81))
theorem kHg_5_ok {RO : List (Nat × (Nat → Int32))} (mi pc : Nat) : kOnO RO (kHg_5 mi pc) := by
  delta kHg_5
  exact (kOnB (kHg_4_ok mi pc) (kHg_3_ok mi pc))
def kHg_6 (mi pc : Nat) : Option (kS → Option (List kS)) := (@Bool.rec (fun _ => Option (kS → Option (List kS))) (kHg_5 mi pc) (kHg_2 mi pc) (Nat.blt mi 74))
theorem kHg_6_ok {RO : List (Nat × (Nat → Int32))} (mi pc : Nat) : kOnO RO (kHg_6 mi pc) := by
  delta kHg_6
  exact (kOnB (kHg_5_ok mi pc) (kHg_2_ok mi pc))
def kHg_7 (mi pc : Nat) : Option (kS → Option (List kS)) := (@Bool.rec (fun _ => Option (kS → Option (List kS))) (@Bool.rec (fun _ => Option (kS → Option (List kS))) (@Bool.rec (fun _ => Option (kS → Option (List kS))) (@Bool.rec (fun _ => Option (kS → Option (List kS))) none (kHo_93 pc) (Nat.beq mi 93)) (@Bool.rec (fun _ => Option (kS → Option (List kS))) none (kHo_90 pc) (Nat.beq mi 90)) (Nat.blt mi 93)) (@Bool.rec (fun _ => Option (kS → Option (List kS))) none (kHo_89 pc) (Nat.beq mi 89)) (Nat.blt mi 90)) (@Bool.rec (fun _ => Option (kS → Option (List kS))) (@Bool.rec (fun _ => Option (kS → Option (List kS))) none (kHo_88 pc) (Nat.beq mi 88)) (@Bool.rec (fun _ => Option (kS → Option (List kS))) none (kHo_87 pc) (Nat.beq mi 87)) (Nat.blt mi 88)) (Nat.blt mi 89))
theorem kHg_7_ok {RO : List (Nat × (Nat → Int32))} (mi pc : Nat) : kOnO RO (kHg_7 mi pc) := by
  delta kHg_7
  exact (kOnB (kOnB (kOnB (kOnB kOnN (kHo_93_ok pc)) (kOnB kOnN (kHo_90_ok pc))) (kOnB kOnN (kHo_89_ok pc))) (kOnB (kOnB kOnN (kHo_88_ok pc)) (kOnB kOnN (kHo_87_ok pc))))
def kHg_8 (mi pc : Nat) : Option (kS → Option (List kS)) := (@Bool.rec (fun _ => Option (kS → Option (List kS))) (@Bool.rec (fun _ => Option (kS → Option (List kS))) (@Bool.rec (fun _ => Option (kS → Option (List kS))) (@Bool.rec (fun _ => Option (kS → Option (List kS))) none (kHo_103 pc) (Nat.beq mi 103)) (@Bool.rec (fun _ => Option (kS → Option (List kS))) none (kHo_100 pc) (Nat.beq mi 100)) (Nat.blt mi 103)) (@Bool.rec (fun _ => Option (kS → Option (List kS))) none (kHo_99 pc) (Nat.beq mi 99)) (Nat.blt mi 100)) (@Bool.rec (fun _ => Option (kS → Option (List kS))) (@Bool.rec (fun _ => Option (kS → Option (List kS))) none (kHo_98 pc) (Nat.beq mi 98)) (@Bool.rec (fun _ => Option (kS → Option (List kS))) none (kHo_94 pc) (Nat.beq mi 94)) (Nat.blt mi 98)) (Nat.blt mi 99))
theorem kHg_8_ok {RO : List (Nat × (Nat → Int32))} (mi pc : Nat) : kOnO RO (kHg_8 mi pc) := by
  delta kHg_8
  exact (kOnB (kOnB (kOnB (kOnB kOnN (kHo_103_ok pc)) (kOnB kOnN (kHo_100_ok pc))) (kOnB kOnN (kHo_99_ok pc))) (kOnB (kOnB kOnN (kHo_98_ok pc)) (kOnB kOnN (kHo_94_ok pc))))
def kHg_9 (mi pc : Nat) : Option (kS → Option (List kS)) := (@Bool.rec (fun _ => Option (kS → Option (List kS))) (kHg_8 mi pc) (kHg_7 mi pc) (Nat.blt mi 94))
theorem kHg_9_ok {RO : List (Nat × (Nat → Int32))} (mi pc : Nat) : kOnO RO (kHg_9 mi pc) := by
  delta kHg_9
  exact (kOnB (kHg_8_ok mi pc) (kHg_7_ok mi pc))
def kHg_10 (mi pc : Nat) : Option (kS → Option (List kS)) := (@Bool.rec (fun _ => Option (kS → Option (List kS))) (@Bool.rec (fun _ => Option (kS → Option (List kS))) (@Bool.rec (fun _ => Option (kS → Option (List kS))) (@Bool.rec (fun _ => Option (kS → Option (List kS))) none (kHo_113 pc) (Nat.beq mi 113)) (@Bool.rec (fun _ => Option (kS → Option (List kS))) none (kHo_112 pc) (Nat.beq mi 112)) (Nat.blt mi 113)) (@Bool.rec (fun _ => Option (kS → Option (List kS))) none (kHo_111 pc) (Nat.beq mi 111)) (Nat.blt mi 112)) (@Bool.rec (fun _ => Option (kS → Option (List kS))) (@Bool.rec (fun _ => Option (kS → Option (List kS))) none (kHo_105 pc) (Nat.beq mi 105)) (@Bool.rec (fun _ => Option (kS → Option (List kS))) none (kHo_104 pc) (Nat.beq mi 104)) (Nat.blt mi 105)) (Nat.blt mi 111))
theorem kHg_10_ok {RO : List (Nat × (Nat → Int32))} (mi pc : Nat) : kOnO RO (kHg_10 mi pc) := by
  delta kHg_10
  exact (kOnB (kOnB (kOnB (kOnB kOnN (kHo_113_ok pc)) (kOnB kOnN (kHo_112_ok pc))) (kOnB kOnN (kHo_111_ok pc))) (kOnB (kOnB kOnN (kHo_105_ok pc)) (kOnB kOnN (kHo_104_ok pc))))
def kHg_11 (mi pc : Nat) : Option (kS → Option (List kS)) := (@Bool.rec (fun _ => Option (kS → Option (List kS))) (@Bool.rec (fun _ => Option (kS → Option (List kS))) (@Bool.rec (fun _ => Option (kS → Option (List kS))) (@Bool.rec (fun _ => Option (kS → Option (List kS))) none (kHo_136 pc) (Nat.beq mi 136)) (@Bool.rec (fun _ => Option (kS → Option (List kS))) none (kHo_123 pc) (Nat.beq mi 123)) (Nat.blt mi 136)) (@Bool.rec (fun _ => Option (kS → Option (List kS))) none (kHo_119 pc) (Nat.beq mi 119)) (Nat.blt mi 123)) (@Bool.rec (fun _ => Option (kS → Option (List kS))) (@Bool.rec (fun _ => Option (kS → Option (List kS))) none (kHo_115 pc) (Nat.beq mi 115)) (@Bool.rec (fun _ => Option (kS → Option (List kS))) none (kHo_114 pc) (Nat.beq mi 114)) (Nat.blt mi 115)) (Nat.blt mi 119))
theorem kHg_11_ok {RO : List (Nat × (Nat → Int32))} (mi pc : Nat) : kOnO RO (kHg_11 mi pc) := by
  delta kHg_11
  exact (kOnB (kOnB (kOnB (kOnB kOnN (kHo_136_ok pc)) (kOnB kOnN (kHo_123_ok pc))) (kOnB kOnN (kHo_119_ok pc))) (kOnB (kOnB kOnN (kHo_115_ok pc)) (kOnB kOnN (kHo_114_ok pc))))
def kHg_12 (mi pc : Nat) : Option (kS → Option (List kS)) := (@Bool.rec (fun _ => Option (kS → Option (List kS))) (kHg_11 mi pc) (kHg_10 mi pc) (Nat.blt mi 114))
theorem kHg_12_ok {RO : List (Nat × (Nat → Int32))} (mi pc : Nat) : kOnO RO (kHg_12 mi pc) := by
  delta kHg_12
  exact (kOnB (kHg_11_ok mi pc) (kHg_10_ok mi pc))
def kHg_13 (mi pc : Nat) : Option (kS → Option (List kS)) := (@Bool.rec (fun _ => Option (kS → Option (List kS))) (kHg_12 mi pc) (kHg_9 mi pc) (Nat.blt mi 104))
theorem kHg_13_ok {RO : List (Nat × (Nat → Int32))} (mi pc : Nat) : kOnO RO (kHg_13 mi pc) := by
  delta kHg_13
  exact (kOnB (kHg_12_ok mi pc) (kHg_9_ok mi pc))
def kHg_14 (mi pc : Nat) : Option (kS → Option (List kS)) := (@Bool.rec (fun _ => Option (kS → Option (List kS))) (kHg_13 mi pc) (kHg_6 mi pc) (Nat.blt mi 87))
theorem kHg_14_ok {RO : List (Nat × (Nat → Int32))} (mi pc : Nat) : kOnO RO (kHg_14 mi pc) := by
  delta kHg_14
  exact (kOnB (kHg_13_ok mi pc) (kHg_6_ok mi pc))
def kHg_15 (mi pc : Nat) : Option (kS → Option (List kS)) := (@Bool.rec (fun _ => Option (kS → Option (List kS))) (@Bool.rec (fun _ => Option (kS → Option (List kS))) (@Bool.rec (fun _ => Option (kS → Option (List kS))) (@Bool.rec (fun _ => Option (kS → Option (List kS))) none (kHo_191 pc) (Nat.beq mi 191)) (@Bool.rec (fun _ => Option (kS → Option (List kS))) none (kHo_181 pc) (Nat.beq mi 181)) (Nat.blt mi 191)) (@Bool.rec (fun _ => Option (kS → Option (List kS))) none (kHo_177 pc) (Nat.beq mi 177)) (Nat.blt mi 181)) (@Bool.rec (fun _ => Option (kS → Option (List kS))) (@Bool.rec (fun _ => Option (kS → Option (List kS))) none (kHo_172 pc) (Nat.beq mi 172)) (@Bool.rec (fun _ => Option (kS → Option (List kS))) none (kHo_168 pc) (Nat.beq mi 168)) (Nat.blt mi 172)) (Nat.blt mi 177))
theorem kHg_15_ok {RO : List (Nat × (Nat → Int32))} (mi pc : Nat) : kOnO RO (kHg_15 mi pc) := by
  delta kHg_15
  exact (kOnB (kOnB (kOnB (kOnB kOnN (kHo_191_ok pc)) (kOnB kOnN (kHo_181_ok pc))) (kOnB kOnN (kHo_177_ok pc))) (kOnB (kOnB kOnN (kHo_172_ok pc)) (kOnB kOnN (kHo_168_ok pc))))
def kHg_16 (mi pc : Nat) : Option (kS → Option (List kS)) := (@Bool.rec (fun _ => Option (kS → Option (List kS))) (kHg_15 mi pc) (@Bool.rec (fun _ => Option (kS → Option (List kS))) (@Bool.rec (fun _ => Option (kS → Option (List kS))) (@Bool.rec (fun _ => Option (kS → Option (List kS))) none (kHo_166 pc) (Nat.beq mi 166)) (@Bool.rec (fun _ => Option (kS → Option (List kS))) none (kHo_164 pc) (Nat.beq mi 164)) (Nat.blt mi 166)) (@Bool.rec (fun _ => Option (kS → Option (List kS))) (@Bool.rec (fun _ => Option (kS → Option (List kS))) none (kHo_148 pc) (Nat.beq mi 148)) (@Bool.rec (fun _ => Option (kS → Option (List kS))) none (kHo_138 pc) (Nat.beq mi 138)) (Nat.blt mi 148)) (Nat.blt mi 164)) (Nat.blt mi 168))
theorem kHg_16_ok {RO : List (Nat × (Nat → Int32))} (mi pc : Nat) : kOnO RO (kHg_16 mi pc) := by
  delta kHg_16
  exact (kOnB (kHg_15_ok mi pc) (kOnB (kOnB (kOnB kOnN (kHo_166_ok pc)) (kOnB kOnN (kHo_164_ok pc))) (kOnB (kOnB kOnN (kHo_148_ok pc)) (kOnB kOnN (kHo_138_ok pc)))))
def kHg_17 (mi pc : Nat) : Option (kS → Option (List kS)) := (@Bool.rec (fun _ => Option (kS → Option (List kS))) (@Bool.rec (fun _ => Option (kS → Option (List kS))) (@Bool.rec (fun _ => Option (kS → Option (List kS))) (@Bool.rec (fun _ => Option (kS → Option (List kS))) none (kHo_196 pc) (Nat.beq mi 196)) (@Bool.rec (fun _ => Option (kS → Option (List kS))) none (kHo_195 pc) (Nat.beq mi 195)) (Nat.blt mi 196)) (@Bool.rec (fun _ => Option (kS → Option (List kS))) none (kHo_194 pc) (Nat.beq mi 194)) (Nat.blt mi 195)) (@Bool.rec (fun _ => Option (kS → Option (List kS))) (@Bool.rec (fun _ => Option (kS → Option (List kS))) none (kHo_193 pc) (Nat.beq mi 193)) (@Bool.rec (fun _ => Option (kS → Option (List kS))) none (kHo_192 pc) (Nat.beq mi 192)) (Nat.blt mi 193)) (Nat.blt mi 194))
theorem kHg_17_ok {RO : List (Nat × (Nat → Int32))} (mi pc : Nat) : kOnO RO (kHg_17 mi pc) := by
  delta kHg_17
  exact (kOnB (kOnB (kOnB (kOnB kOnN (kHo_196_ok pc)) (kOnB kOnN (kHo_195_ok pc))) (kOnB kOnN (kHo_194_ok pc))) (kOnB (kOnB kOnN (kHo_193_ok pc)) (kOnB kOnN (kHo_192_ok pc))))
def kHg_18 (mi pc : Nat) : Option (kS → Option (List kS)) := (@Bool.rec (fun _ => Option (kS → Option (List kS))) (@Bool.rec (fun _ => Option (kS → Option (List kS))) (@Bool.rec (fun _ => Option (kS → Option (List kS))) (@Bool.rec (fun _ => Option (kS → Option (List kS))) none (kHo_203 pc) (Nat.beq mi 203)) (@Bool.rec (fun _ => Option (kS → Option (List kS))) none (kHo_202 pc) (Nat.beq mi 202)) (Nat.blt mi 203)) (@Bool.rec (fun _ => Option (kS → Option (List kS))) none (kHo_200 pc) (Nat.beq mi 200)) (Nat.blt mi 202)) (@Bool.rec (fun _ => Option (kS → Option (List kS))) (@Bool.rec (fun _ => Option (kS → Option (List kS))) none (kHo_198 pc) (Nat.beq mi 198)) (@Bool.rec (fun _ => Option (kS → Option (List kS))) none (kHo_197 pc) (Nat.beq mi 197)) (Nat.blt mi 198)) (Nat.blt mi 200))
theorem kHg_18_ok {RO : List (Nat × (Nat → Int32))} (mi pc : Nat) : kOnO RO (kHg_18 mi pc) := by
  delta kHg_18
  exact (kOnB (kOnB (kOnB (kOnB kOnN (kHo_203_ok pc)) (kOnB kOnN (kHo_202_ok pc))) (kOnB kOnN (kHo_200_ok pc))) (kOnB (kOnB kOnN (kHo_198_ok pc)) (kOnB kOnN (kHo_197_ok pc))))
def kHg_19 (mi pc : Nat) : Option (kS → Option (List kS)) := (@Bool.rec (fun _ => Option (kS → Option (List kS))) (kHg_18 mi pc) (kHg_17 mi pc) (Nat.blt mi 197))
theorem kHg_19_ok {RO : List (Nat × (Nat → Int32))} (mi pc : Nat) : kOnO RO (kHg_19 mi pc) := by
  delta kHg_19
  exact (kOnB (kHg_18_ok mi pc) (kHg_17_ok mi pc))
def kHg_20 (mi pc : Nat) : Option (kS → Option (List kS)) := (@Bool.rec (fun _ => Option (kS → Option (List kS))) (kHg_19 mi pc) (kHg_16 mi pc) (Nat.blt mi 192))
theorem kHg_20_ok {RO : List (Nat × (Nat → Int32))} (mi pc : Nat) : kOnO RO (kHg_20 mi pc) := by
  delta kHg_20
  exact (kOnB (kHg_19_ok mi pc) (kHg_16_ok mi pc))
def kHg_21 (mi pc : Nat) : Option (kS → Option (List kS)) := (@Bool.rec (fun _ => Option (kS → Option (List kS))) (@Bool.rec (fun _ => Option (kS → Option (List kS))) (@Bool.rec (fun _ => Option (kS → Option (List kS))) (@Bool.rec (fun _ => Option (kS → Option (List kS))) none (kHo_223 pc) (Nat.beq mi 223)) (@Bool.rec (fun _ => Option (kS → Option (List kS))) none (kHo_222 pc) (Nat.beq mi 222)) (Nat.blt mi 223)) (@Bool.rec (fun _ => Option (kS → Option (List kS))) none (kHo_221 pc) (Nat.beq mi 221)) (Nat.blt mi 222)) (@Bool.rec (fun _ => Option (kS → Option (List kS))) (@Bool.rec (fun _ => Option (kS → Option (List kS))) none (kHo_215 pc) (Nat.beq mi 215)) (@Bool.rec (fun _ => Option (kS → Option (List kS))) none (kHo_205 pc) (Nat.beq mi 205)) (Nat.blt mi 215)) (Nat.blt mi 221))
theorem kHg_21_ok {RO : List (Nat × (Nat → Int32))} (mi pc : Nat) : kOnO RO (kHg_21 mi pc) := by
  delta kHg_21
  exact (kOnB (kOnB (kOnB (kOnB kOnN (kHo_223_ok pc)) (kOnB kOnN (kHo_222_ok pc))) (kOnB kOnN (kHo_221_ok pc))) (kOnB (kOnB kOnN (kHo_215_ok pc)) (kOnB kOnN (kHo_205_ok pc))))
def kHg_22 (mi pc : Nat) : Option (kS → Option (List kS)) := (@Bool.rec (fun _ => Option (kS → Option (List kS))) (@Bool.rec (fun _ => Option (kS → Option (List kS))) (@Bool.rec (fun _ => Option (kS → Option (List kS))) (@Bool.rec (fun _ => Option (kS → Option (List kS))) none (kHo_229 pc) (Nat.beq mi 229)) (@Bool.rec (fun _ => Option (kS → Option (List kS))) none (kHo_227 pc) (Nat.beq mi 227)) (Nat.blt mi 229)) (@Bool.rec (fun _ => Option (kS → Option (List kS))) none (kHo_226 pc) (Nat.beq mi 226)) (Nat.blt mi 227)) (@Bool.rec (fun _ => Option (kS → Option (List kS))) (@Bool.rec (fun _ => Option (kS → Option (List kS))) none (kHo_225 pc) (Nat.beq mi 225)) (@Bool.rec (fun _ => Option (kS → Option (List kS))) none (kHo_224 pc) (Nat.beq mi 224)) (Nat.blt mi 225)) (Nat.blt mi 226))
theorem kHg_22_ok {RO : List (Nat × (Nat → Int32))} (mi pc : Nat) : kOnO RO (kHg_22 mi pc) := by
  delta kHg_22
  exact (kOnB (kOnB (kOnB (kOnB kOnN (kHo_229_ok pc)) (kOnB kOnN (kHo_227_ok pc))) (kOnB kOnN (kHo_226_ok pc))) (kOnB (kOnB kOnN (kHo_225_ok pc)) (kOnB kOnN (kHo_224_ok pc))))
def kHg_23 (mi pc : Nat) : Option (kS → Option (List kS)) := (@Bool.rec (fun _ => Option (kS → Option (List kS))) (kHg_22 mi pc) (kHg_21 mi pc) (Nat.blt mi 224))
theorem kHg_23_ok {RO : List (Nat × (Nat → Int32))} (mi pc : Nat) : kOnO RO (kHg_23 mi pc) := by
  delta kHg_23
  exact (kOnB (kHg_22_ok mi pc) (kHg_21_ok mi pc))
def kHg_24 (mi pc : Nat) : Option (kS → Option (List kS)) := (@Bool.rec (fun _ => Option (kS → Option (List kS))) (@Bool.rec (fun _ => Option (kS → Option (List kS))) (@Bool.rec (fun _ => Option (kS → Option (List kS))) (@Bool.rec (fun _ => Option (kS → Option (List kS))) none (kHo_265 pc) (Nat.beq mi 265)) (@Bool.rec (fun _ => Option (kS → Option (List kS))) none (kHo_257 pc) (Nat.beq mi 257)) (Nat.blt mi 265)) (@Bool.rec (fun _ => Option (kS → Option (List kS))) none (kHo_251 pc) (Nat.beq mi 251)) (Nat.blt mi 257)) (@Bool.rec (fun _ => Option (kS → Option (List kS))) (@Bool.rec (fun _ => Option (kS → Option (List kS))) none (kHo_250 pc) (Nat.beq mi 250)) (@Bool.rec (fun _ => Option (kS → Option (List kS))) none (kHo_249 pc) (Nat.beq mi 249)) (Nat.blt mi 250)) (Nat.blt mi 251))
theorem kHg_24_ok {RO : List (Nat × (Nat → Int32))} (mi pc : Nat) : kOnO RO (kHg_24 mi pc) := by
  delta kHg_24
  exact (kOnB (kOnB (kOnB (kOnB kOnN (kHo_265_ok pc)) (kOnB kOnN (kHo_257_ok pc))) (kOnB kOnN (kHo_251_ok pc))) (kOnB (kOnB kOnN (kHo_250_ok pc)) (kOnB kOnN (kHo_249_ok pc))))
def kHg_25 (mi pc : Nat) : Option (kS → Option (List kS)) := (@Bool.rec (fun _ => Option (kS → Option (List kS))) (@Bool.rec (fun _ => Option (kS → Option (List kS))) (@Bool.rec (fun _ => Option (kS → Option (List kS))) (@Bool.rec (fun _ => Option (kS → Option (List kS))) none (kHo_280 pc) (Nat.beq mi 280)) (@Bool.rec (fun _ => Option (kS → Option (List kS))) none (kHo_278 pc) (Nat.beq mi 278)) (Nat.blt mi 280)) (@Bool.rec (fun _ => Option (kS → Option (List kS))) none (kHo_269 pc) (Nat.beq mi 269)) (Nat.blt mi 278)) (@Bool.rec (fun _ => Option (kS → Option (List kS))) (@Bool.rec (fun _ => Option (kS → Option (List kS))) none (kHo_268 pc) (Nat.beq mi 268)) (@Bool.rec (fun _ => Option (kS → Option (List kS))) none (kHo_266 pc) (Nat.beq mi 266)) (Nat.blt mi 268)) (Nat.blt mi 269))
theorem kHg_25_ok {RO : List (Nat × (Nat → Int32))} (mi pc : Nat) : kOnO RO (kHg_25 mi pc) := by
  delta kHg_25
  exact (kOnB (kOnB (kOnB (kOnB kOnN (kHo_280_ok pc)) (kOnB kOnN (kHo_278_ok pc))) (kOnB kOnN (kHo_269_ok pc))) (kOnB (kOnB kOnN (kHo_268_ok pc)) (kOnB kOnN (kHo_266_ok pc))))
def kHg_26 (mi pc : Nat) : Option (kS → Option (List kS)) := (@Bool.rec (fun _ => Option (kS → Option (List kS))) (kHg_25 mi pc) (kHg_24 mi pc) (Nat.blt mi 266))
theorem kHg_26_ok {RO : List (Nat × (Nat → Int32))} (mi pc : Nat) : kOnO RO (kHg_26 mi pc) := by
  delta kHg_26
  exact (kOnB (kHg_25_ok mi pc) (kHg_24_ok mi pc))
def kHg_27 (mi pc : Nat) : Option (kS → Option (List kS)) := (@Bool.rec (fun _ => Option (kS → Option (List kS))) (kHg_26 mi pc) (kHg_23 mi pc) (Nat.blt mi 249))
theorem kHg_27_ok {RO : List (Nat × (Nat → Int32))} (mi pc : Nat) : kOnO RO (kHg_27 mi pc) := by
  delta kHg_27
  exact (kOnB (kHg_26_ok mi pc) (kHg_23_ok mi pc))
def kHg_28 (mi pc : Nat) : Option (kS → Option (List kS)) := (@Bool.rec (fun _ => Option (kS → Option (List kS))) (kHg_27 mi pc) (kHg_20 mi pc) (Nat.blt mi 205))
theorem kHg_28_ok {RO : List (Nat × (Nat → Int32))} (mi pc : Nat) : kOnO RO (kHg_28 mi pc) := by
  delta kHg_28
  exact (kOnB (kHg_27_ok mi pc) (kHg_20_ok mi pc))
def kHg_29 (mi pc : Nat) : Option (kS → Option (List kS)) := (@Bool.rec (fun _ => Option (kS → Option (List kS))) (kHg_28 mi pc) (kHg_14 mi pc) (Nat.blt mi 138))
theorem kHg_29_ok {RO : List (Nat × (Nat → Int32))} (mi pc : Nat) : kOnO RO (kHg_29 mi pc) := by
  delta kHg_29
  exact (kOnB (kHg_28_ok mi pc) (kHg_14_ok mi pc))
def kHKo (mi pc : Nat) : Option (kS → Option (List kS)) := (kHg_29 mi pc)
theorem kHKo_ok {RO : List (Nat × (Nat → Int32))} (mi pc : Nat) : kOnO RO (kHKo mi pc) := by
  delta kHKo
  exact (kHg_29_ok mi pc)
def fHk (o : Option (kS → Option (List kS))) (K : kS) : Option (List kS) := @Option.rec (kS → Option (List kS)) (fun _ => Option (List kS)) (some [K]) (fun f => f K) o
def kHKx (mi pc : Nat) (K : kS) : Option (List kS) := fHk (kHKo mi pc) K
theorem kHKo_eq {mi pc : Nat} {K : kS} : kHKx mi pc K = fHk (kHKo mi pc) K := rfl
theorem kHx_ok {RO : List (Nat × (Nat → Int32))} (mi pc : Nat) : kOne RO (kHKx mi pc) := by
  have h := kHKo_ok (RO := RO) mi pc
  show kOne RO (fun K => fHk (kHKo mi pc) K)
  cases ho : kHKo mi pc with
  | none => exact kO_id
  | some f => exact h f ho
theorem kHKx_ok (RO : List (Nat × (Nat → Int32))) : kHookOk (kGP (kUP RO)) kHKx := fun mi pc K L h ρ R hD => kHx_ok mi pc K L h ρ R hD
/-- on which cells an atom depends, looked up -/
def kUDt : List (List Nat) := [kUD 0, kUD 1, kUD 2, kUD 3, kUD 4, kUD 5, kUD 6, kUD 7, kUD 8, kUD 9, kUD 10, kUD 11, kUD 12, kUD 13, kUD 14, kUD 15, kUD 16, kUD 17, kUD 18, kUD 19, kUD 20, kUD 21, kUD 22, kUD 23, kUD 24, kUD 25, kUD 26, kUD 27, kUD 28, kUD 29, kUD 30, kUD 31, kUD 32, kUD 33, kUD 34, kUD 35, kUD 36, kUD 37, kUD 38, kUD 39, kUD 40, kUD 41, kUD 42, kUD 43, kUD 44, kUD 45, kUD 46, kUD 47, kUD 48, kUD 49, kUD 50, kUD 51, kUD 52, kUD 53, kUD 54, kUD 55, kUD 56, kUD 57, kUD 58, kUD 59, kUD 60, kUD 61, kUD 62, kUD 63, kUD 64, kUD 65, kUD 66, kUD 67, kUD 68, kUD 69, kUD 70, kUD 71, kUD 72, kUD 73, kUD 74, kUD 75, kUD 76, kUD 77, kUD 78, kUD 79, kUD 80, kUD 81, kUD 82, kUD 83, kUD 84, kUD 85, kUD 86, kUD 87, kUD 88, kUD 89, kUD 90, kUD 91, kUD 92, kUD 93, kUD 94, kUD 95, kUD 96, kUD 97, kUD 98, kUD 99, kUD 100, kUD 101, kUD 102, kUD 103, kUD 104, kUD 105, kUD 106, kUD 107, kUD 108, kUD 109, kUD 110, kUD 111, kUD 112, kUD 113, kUD 114, kUD 115, kUD 116, kUD 117, kUD 118, kUD 119, kUD 120, kUD 121, kUD 122, kUD 123, kUD 124, kUD 125, kUD 126, kUD 127, kUD 128, kUD 129, kUD 130, kUD 131, kUD 132, kUD 133, kUD 134, kUD 135, kUD 136, kUD 137, kUD 138, kUD 139, kUD 140, kUD 141, kUD 142, kUD 143, kUD 144, kUD 145, kUD 146, kUD 147, kUD 148, kUD 149, kUD 150, kUD 151, kUD 152, kUD 153, kUD 154, kUD 155, kUD 156, kUD 157, kUD 158, kUD 159, kUD 160, kUD 161, kUD 162, kUD 163, kUD 164, kUD 165, kUD 166, kUD 167, kUD 168, kUD 169, kUD 170, kUD 171, kUD 172, kUD 173, kUD 174, kUD 175, kUD 176, kUD 177, kUD 178, kUD 179, kUD 180, kUD 181, kUD 182, kUD 183, kUD 184, kUD 185, kUD 186, kUD 187, kUD 188, kUD 189, kUD 190, kUD 191, kUD 192, kUD 193, kUD 194, kUD 195, kUD 196, kUD 197, kUD 198, kUD 199, kUD 200, kUD 201, kUD 202, kUD 203, kUD 204, kUD 205, kUD 206, kUD 207, kUD 208, kUD 209, kUD 210, kUD 211, kUD 212, kUD 213, kUD 214, kUD 215, kUD 216, kUD 217, kUD 218, kUD 219, kUD 220, kUD 221, kUD 222, kUD 223, kUD 224, kUD 225, kUD 226, kUD 227, kUD 228, kUD 229, kUD 230, kUD 231, kUD 232, kUD 233, kUD 234, kUD 235, kUD 236, kUD 237, kUD 238, kUD 239, kUD 240, kUD 241, kUD 242, kUD 243, kUD 244, kUD 245, kUD 246, kUD 247, kUD 248, kUD 249, kUD 250, kUD 251, kUD 252, kUD 253, kUD 254, kUD 255, kUD 256, kUD 257, kUD 258, kUD 259, kUD 260, kUD 261, kUD 262, kUD 263, kUD 264, kUD 265, kUD 266, kUD 267, kUD 268, kUD 269, kUD 270, kUD 271, kUD 272, kUD 273, kUD 274, kUD 275, kUD 276, kUD 277, kUD 278, kUD 279, kUD 280, kUD 281, kUD 282, kUD 283, kUD 284, kUD 285, kUD 286, kUD 287, kUD 288, kUD 289, kUD 290, kUD 291, kUD 292, kUD 293, kUD 294, kUD 295, kUD 296, kUD 297, kUD 298, kUD 299, kUD 300, kUD 301, kUD 302, kUD 303, kUD 304, kUD 305, kUD 306, kUD 307, kUD 308, kUD 309, kUD 310, kUD 311, kUD 312, kUD 313, kUD 314, kUD 315, kUD 316, kUD 317, kUD 318, kUD 319, kUD 320, kUD 321, kUD 322, kUD 323, kUD 324, kUD 325, kUD 326, kUD 327, kUD 328, kUD 329, kUD 330, kUD 331, kUD 332, kUD 333, kUD 334, kUD 335, kUD 336, kUD 337, kUD 338, kUD 339, kUD 340, kUD 341, kUD 342, kUD 343, kUD 344, kUD 345, kUD 346, kUD 347, kUD 348, kUD 349, kUD 350, kUD 351]
def kUDf (k : Nat) : List Nat := @Option.rec (List Nat) (fun _ => List Nat) (kUD k) (fun l => l) (sAt kUDt k)
set_option maxRecDepth 100000 in
theorem kUDt_eq : kUDt = (List.range 352).map kUD := rfl
theorem kUDf_eq (k : Nat) : kUDf k = kUD k := by
  unfold kUDf
  rw [sAt_eq, kUDt_eq, List.getElem?_map]
  cases h : (List.range 352)[k]? with
  | none => rfl
  | some j =>
    obtain ⟨hk, e⟩ := List.getElem?_eq_some_iff.mp h
    rw [List.getElem_range] at e
    subst e
    rfl
theorem kUP_frf (RO : List (Nat × (Nat → Int32))) : ∀ k zs (H H' : List eE), (∀ j ∈ kUDf k, H'[j]? = H[j]?) → kUP RO k zs H → kUP RO k zs H' := fun k zs H H' h => kUP_fr RO k zs H H' (by rw [kUDf_eq] at h; exact h)
def kSOx : List (Nat × List sL) := [(10, eT_LEAST.map fun v => sC v.toInt), (10, eT_MOST.map fun v => sC v.toInt), (8, eT_ABOVE.map fun v => sC v.toInt), (32, eT_OWN.map fun v => sC v.toInt), (0, [])]
end
