/-! K: consequences at told places; what is told of the script. -/
noncomputable section
def kLive (Γ : sG) : Bool := !(Γ.2.2.1.any (fun f => decide (sK Γ.1 f = some 0)))
theorem kLive_ok {ρ : List Int} {Γ : sG} (hM : sMo ρ Γ) : kLive Γ = true := by
  unfold kLive
  rw [Bool.not_eq_true', List.any_eq_false]
  intro f hf h
  obtain ⟨z, e1, e2⟩ := hM.2.2.1 f hf
  exact e2 (sK_ok hM.1 e1 (of_decide_eq_true h))
/-- a number, split into all that it may be -/
def kSpl (x : sL) (n : Nat) (K : kS) : Option (List kS) := match K with
  | ((pc, ls, st, G, c, s, Γ), γ) => (sIdx Γ x n).map fun l => (l.filter fun q => kLive q.2).map fun q => ((pc, ls, st, G, c, s, q.2), γ)
def kSplL (i n : Nat) (K : kS) : Option (List kS) := match sGetL K.1.2.1 i with
  | some v => if v.1 = 0 then kSpl v.2 n K else none
  | none => none
def kSplS (i n : Nat) (K : kS) : Option (List kS) := match K.1.2.2.1[i]? with
  | some v => if v.1 = 0 then kSpl v.2 n K else none
  | none => none
theorem kSpl_ok {GP : Nat → List Int → List eE → Prop} {x : sL} {n : Nat} {K : kS} {L : List kS} (h : kSpl x n K = some L) {ρ : List Int} {R : eR} {z : Int} (hx : sEv ρ x = some z) (hD : kD GP ρ K R) : ∃ K' ∈ L, ∃ ρ', ρ <+: ρ' ∧ kD GP ρ' K' R := by
  obtain ⟨⟨pc, ls, st, G, c, s, Γ⟩, γ⟩ := K
  simp only [kSpl] at h
  obtain ⟨l, hl, rfl⟩ := Option.map_eq_some_iff.mp h
  obtain ⟨q, hq, hM, -⟩ := sIdx_ok hD.1 hx hl
  exact ⟨_, List.mem_map.mpr ⟨q, List.mem_filter.mpr ⟨hq, kLive_ok hM⟩, rfl⟩, ρ, List.prefix_refl _, hM, hD.2.1, hD.2.2⟩
theorem kSplL_ok {GP : Nat → List Int → List eE → Prop} {i n : Nat} {K : kS} {L : List kS} (h : kSplL i n K = some L) {ρ : List Int} {R : eR} (hD : kD GP ρ K R) : ∃ K' ∈ L, ∃ ρ', ρ <+: ρ' ∧ kD GP ρ' K' R := by
  unfold kSplL at h
  split at h
  · rename_i v hv
    split at h
    · rename_i h0
      obtain ⟨w, -, hw⟩ := hD.2.1.2.1 i v hv
      obtain ⟨t, x⟩ := v
      simp only at h0
      subst h0
      obtain ⟨z, hz, -⟩ := sVr_int hw
      exact kSpl_ok h hz hD
    · cases h
  · cases h
theorem kSplS_ok {GP : Nat → List Int → List eE → Prop} {i n : Nat} {K : kS} {L : List kS} (h : kSplS i n K = some L) {ρ : List Int} {R : eR} (hD : kD GP ρ K R) : ∃ K' ∈ L, ∃ ρ', ρ <+: ρ' ∧ kD GP ρ' K' R := by
  unfold kSplS at h
  split at h
  · rename_i v hv
    split at h
    · rename_i h0
      obtain ⟨w, -, hw⟩ := sVs_get hD.2.1.2.2.1 hv
      obtain ⟨t, x⟩ := v
      simp only at h0
      subst h0
      obtain ⟨z, hz, -⟩ := sVr_int hw
      exact kSpl_ok h hz hD
    · cases h
  · cases h
/-! Further steps that need no time. -/
/-- a number that can be no other -/
def kNrm (i : Nat) (K : kS) : Option (List kS) := match K with
  | ((pc, ls, st, G, c, s, Γ), γ) => (match sGetL ls i with
    | some (0, x) => (match sK Γ.1 x with
      | some k => some [((pc, (i, (0, sC k)) :: ls, st, G, c, s, Γ), γ)]
      | none => some [K])
    | _ => some [K])
theorem kNrm_ok {GP : Nat → List Int → List eE → Prop} {i : Nat} {K : kS} {L : List kS} (h : kNrm i K = some L) {ρ : List Int} {R : eR} (hD : kD GP ρ K R) : ∃ K' ∈ L, ∃ ρ', ρ <+: ρ' ∧ kD GP ρ' K' R := by
  obtain ⟨⟨pc, ls, st, G, c, s, Γ⟩, γ⟩ := K
  have same : ∃ K' ∈ [(((pc, ls, st, G, c, s, Γ), γ) : kS)], ∃ ρ', ρ <+: ρ' ∧ kD GP ρ' K' R := ⟨_, List.mem_singleton.mpr rfl, ρ, List.prefix_refl _, hD⟩
  simp only [kNrm] at h
  split at h
  · rename_i x hx
    split at h
    · rename_i k hk
      cases h
      refine ⟨_, List.mem_singleton.mpr rfl, ρ, List.prefix_refl _, hD.1, ⟨hD.2.1.1, fun j v hv => ?_, hD.2.1.2.2⟩, hD.2.2⟩
      by_cases hij : i = j
      · subst hij
        have hv : sGetL ((i, ((0, sC k) : sV)) :: ls) i = some v := hv
        rw [sGetL_hd] at hv
        cases hv
        obtain ⟨w, h1, h2⟩ := hD.2.1.2.1 i _ hx
        refine ⟨w, h1, ?_⟩
        obtain ⟨z, e1, rfl⟩ := sVr_int h2
        have := sK_ok hD.1.1 e1 hk
        subst this
        exact ⟨_, sEv_C _, rfl⟩
      · have hv : sGetL ((i, ((0, sC k) : sV)) :: ls) j = some v := hv
        rw [sGetL_tl hij] at hv
        exact hD.2.1.2.1 j v hv
    · cases h
      exact same
  · cases h
    exact same
/-- what can't be -/
def kPN (K : kS) : Option (List kS) := if K.1.2.2.2.2.2.2.2.2.1.any (fun f => sNN K.1.2.2.2.2.2.2 f && sNN K.1.2.2.2.2.2.2 (sMul (-1) f)) = true then some [] else some [K]
theorem kPN_ok {GP : Nat → List Int → List eE → Prop} {K : kS} {L : List kS} (h : kPN K = some L) {ρ : List Int} {R : eR} (hD : kD GP ρ K R) : ∃ K' ∈ L, ∃ ρ', ρ <+: ρ' ∧ kD GP ρ' K' R := by
  unfold kPN at h
  split at h
  · rename_i hc
    exfalso
    obtain ⟨f, hf, hc⟩ := List.any_eq_true.mp hc
    simp only [Bool.and_eq_true] at hc
    obtain ⟨z, e1, e2⟩ := hD.1.2.2.1 f hf
    have h1 := sNN_ok hD.1 e1 hc.1
    have h2 := sNN_ok hD.1 (sEv_mul (-1) e1) hc.2
    omega
  · cases h
    exact ⟨K, List.mem_singleton.mpr rfl, ρ, List.prefix_refl _, hD⟩
/-- whether a shelf holds a body or a row -/
def kSplH (s : Nat) (K : kS) : Option (List kS) := match kShz K.1.2.2.2.1 s with
  | some (h :: _) => if sIv K.1.2.2.2.2.2.2.1 h = some (1, 2) then kSpl h 3 K else some [K]
  | _ => some [K]
theorem kSplH_ok {GP : Nat → List Int → List eE → Prop} {s : Nat} {K : kS} {L : List kS} (h : kSplH s K = some L) {ρ : List Int} {R : eR} (hD : kD GP ρ K R) : ∃ K' ∈ L, ∃ ρ', ρ <+: ρ' ∧ kD GP ρ' K' R := by
  have same : ∃ K' ∈ [K], ∃ ρ', ρ <+: ρ' ∧ kD GP ρ' K' R := ⟨K, List.mem_singleton.mpr rfl, ρ, List.prefix_refl _, hD⟩
  unfold kSplH at h
  split at h
  · rename_i x r hx
    split at h
    · rename_i hi
      obtain ⟨z, hz⟩ := sIv_has hD.1.1 hi
      exact kSpl_ok h hz hD
    · cases h
      exact same
  · cases h
    exact same
/-- a told element, by another form of the same worth -/
def kOvr (G : List sE) (j s : Nat) (f : sL) : List sE := match G[j]? with
  | some (.inl (ty, n, b, ov)) => if (sLk ov s).isSome = true then G.set j (.inl (ty, n, b, ov.map (fun q => if q.1 = s then (s, f) else q))) else G
  | _ => G
theorem kLk_map (ov : List (Nat × sL)) (s : Nat) (f : sL) (i : Nat) : sLk (ov.map (fun q => if q.1 = s then (s, f) else q)) i = if i = s then (sLk ov s).map (fun _ => f) else sLk ov i := by
  induction ov with
  | nil => simp [sLk_def]
  | cons q r ih =>
    simp only [sLk_def] at ih ⊢
    simp only [List.map_cons, List.find?_cons]
    by_cases hq : q.1 = s
    · rw [if_pos hq]
      by_cases hi : i = s
      · subst hi
        simp [hq]
      · have h1 : (s == i) = false := by simp; omega
        have h2 : (q.1 == i) = false := by simp; omega
        rw [h1, h2, ih, if_neg hi, if_neg hi]
    · rw [if_neg hq]
      by_cases hi : i = s
      · subst hi
        have h2 : (q.1 == i) = false := by simp [hq]
        rw [h2, ih, if_pos rfl]
      · rw [if_neg hi]
        rw [if_neg hi] at ih
        cases q.1 == i with
        | true => rfl
        | false => exact ih
theorem kOvr_ok {ρ : List Int} {G : List sE} {H : List eE} (hH : sHp ρ G H) {j s : Nat} {f m : sL} {z : Int} (hm : kToldI G j s = some m) (em : sEv ρ m = some z) (hf : sEv ρ f = some z) : sHp ρ (kOvr G j s f) H := by
  unfold kOvr
  split
  · rename_i ty n b ov hg
    split
    · rename_i hsome
      obtain ⟨n', a, z', hy', hlt, e1, e2⟩ := kToldI_ok hH hm
      cases e1.symm.trans em
      obtain ⟨y, hy, hxy⟩ := sHp_get hH hg
      have hset : H.set j y = H := by
        apply List.ext_getElem?
        intro k
        by_cases hk : j = k
        · subst hk
          rw [List.getElem?_set_self (List.getElem?_eq_some_iff.mp hy).1, hy]
        · rw [List.getElem?_set_ne hk]
      rw [← hset]
      refine sHp_set ?_ j hH
      rw [hy'] at hy
      cases hy
      obtain ⟨rfl, rfl, h1, h2⟩ := hxy
      refine ⟨rfl, rfl, h1, fun i hi => ?_⟩
      have h3 := h2 i hi
      rw [kLk_map]
      by_cases his : i = s
      · subst his
        rw [if_pos rfl]
        obtain ⟨f0, hf0⟩ := Option.isSome_iff_exists.mp hsome
        rw [hf0]
        exact ⟨_, hf, e2⟩
      · rw [if_neg his]
        exact h3
    · exact hH
  · exact hH
/-- the reference's shelf, told by the class' numbers -/
def kSWs (s : Nat) (K : kS) : Option (List kS) := match K with
  | ((pc, ls, st, G, c, s0, Γ), γ) => (match kShz G s with
    | some [h, b, so, le, m, si, w] => if kHav γ 12 [h, b, so, le, m, si, w] = true then
        (if sK Γ.1 h = some 0 then some [((pc, ls, st, kOvr G 82 s (sC (-1)), c, s0, Γ), γ)]
        else if sK Γ.1 h = some 1 then some [((pc, ls, st, kOvr G 82 s b, c, s0, Γ), γ)]
        else if sK Γ.1 h = some 2 then some [((pc, ls, st, kOvr (kOvr G 82 s (sSub (sC (-2)) so)) 83 s le, c, s0, Γ), γ)]
        else some [K]) else some [K]
    | _ => some [K])
theorem kShz_told {G : List sE} {s : Nat} {h b so le m si w : sL} (hs : kShz G s = some [h, b, so, le, m, si, w]) : kToldI G 82 s = some m ∧ kToldI G 83 s = some si := by
  unfold kShz at hs
  split at hs
  · rename_i a1 a2 a3 a4 a5 a6 a7 h1 h2 h3 h4 h5 h6 h7
    cases hs
    exact ⟨h5, h6⟩
  · cases hs
theorem kOvr_ne {G : List sE} {j k s i : Nat} {f : sL} (h : j ≠ k) : kToldI (kOvr G j s f) k i = kToldI G k i := by
  unfold kOvr
  split
  · split
    · unfold kToldI
      rw [List.getElem?_set_ne h]
    · rfl
  · rfl
theorem kSWs_ok {RO : List (Nat × (Nat → Int32))} {s : Nat} {K : kS} {L : List kS} (h : kSWs s K = some L) {ρ : List Int} {R : eR} (hD : kD (kGP (kUP RO)) ρ K R) : ∃ K' ∈ L, ∃ ρ', ρ <+: ρ' ∧ kD (kGP (kUP RO)) ρ' K' R := by
  obtain ⟨⟨pc, ls, st, G, c, s0, Γ⟩, γ⟩ := K
  have same : ∃ K' ∈ [(((pc, ls, st, G, c, s0, Γ), γ) : kS)], ∃ ρ', ρ <+: ρ' ∧ kD (kGP (kUP RO)) ρ' K' R := ⟨_, List.mem_singleton.mpr rfl, ρ, List.prefix_refl _, hD⟩
  have hH := hD.2.1.2.2.2.1
  have put : ∀ {G' : List sE}, sHp ρ G' R.2.2.2.1 → ∃ K' ∈ [(((pc, ls, st, G', c, s0, Γ), γ) : kS)], ∃ ρ', ρ <+: ρ' ∧ kD (kGP (kUP RO)) ρ' K' R := fun h => ⟨_, List.mem_singleton.mpr rfl, ρ, List.prefix_refl _, hD.1, ⟨hD.2.1.1, hD.2.1.2.1, hD.2.1.2.2.1, h, hD.2.1.2.2.2.2⟩, hD.2.2⟩
  simp only [kSWs] at h
  split at h
  · rename_i xh b so le m si w hs
    obtain ⟨tm, ts⟩ := kShz_told hs
    split at h
    · rename_i hh
      obtain ⟨zs, e1, e2⟩ := kHav_ok hD.2.2 hh (by decide)
      obtain ⟨p, q, r, t, u, v, x, rfl, h1, h2, h3, h4, h5, h6, h7⟩ := sVal_7 e1
      obtain ⟨a1, a2, a3, a4, a5, a6, a7, he, hr⟩ : ∃ a1 a2 a3 a4 a5 a6 a7, [p, q, r, t, u, v, x] = [a1, a2, a3, a4, a5, a6, a7] ∧ kSHR a1 a2 a3 a4 a5 a6 a7 := e2
      cases he
      split at h
      · rename_i hz
        have := sK_ok hD.1.1 h1 hz
        have hu : u = -1 := by rcases hr with hr | hr | hr <;> omega
        subst hu
        cases h
        exact put (kOvr_ok hH tm h5 (sEv_C _))
      split at h
      · rename_i hz
        have := sK_ok hD.1.1 h1 hz
        have hu : u = q := by rcases hr with hr | hr | hr <;> omega
        subst hu
        cases h
        exact put (kOvr_ok hH tm h5 h2)
      split at h
      · rename_i hz
        have := sK_ok hD.1.1 h1 hz
        have hu : u = -2 - r := by rcases hr with hr | hr | hr <;> omega
        have hv : v = t := by rcases hr with hr | hr | hr <;> omega
        subst hu
        subst hv
        cases h
        exact put (kOvr_ok (kOvr_ok hH tm h5 (sEv_sub (sEv_C _) h3)) (by rw [kOvr_ne (by decide)]; exact ts) h6 h4)
      · cases h
        exact same
    · cases h
      exact same
  · cases h
    exact same
/-- a number on the stack: each of the first so many, below, above -/
def kSplV1 (x : sL) (K : kS) (b : Int × Int) : Option kS := match K with
  | ((pc, ls, st, G, c, s, Γ), γ) => (kAs Γ x b.1 b.2).map fun Γ' => ((pc, ls, st, G, c, s, Γ'), γ)
def kSplV (n : Nat) (K : kS) : Option (List kS) := match kTop K with
  | some x => (match sIv K.1.2.2.2.2.2.2.1 x with
    | some i => some (((List.range n).map (fun k : Nat => ((k : Int), (k : Int))) ++ [(i.1, -1), ((n : Int), i.2)]).filterMap (kSplV1 x K))
    | none => some [K])
  | none => some [K]
theorem kSplV_ok {GP : Nat → List Int → List eE → Prop} {n : Nat} {K : kS} {L : List kS} (h : kSplV n K = some L) {ρ : List Int} {R : eR} (hD : kD GP ρ K R) : ∃ K' ∈ L, ∃ ρ', ρ <+: ρ' ∧ kD GP ρ' K' R := by
  have same : ∃ K' ∈ [K], ∃ ρ', ρ <+: ρ' ∧ kD GP ρ' K' R := ⟨K, List.mem_singleton.mpr rfl, ρ, List.prefix_refl _, hD⟩
  unfold kSplV at h
  split at h
  · rename_i x hx
    split at h
    · rename_i i hi
      cases h
      obtain ⟨z, hz⟩ := sIv_has hD.1.1 hi
      have hb := sIv_ok hD.1.1 hz hi
      have key : ∀ b : Int × Int, b ∈ (List.range n).map (fun k : Nat => ((k : Int), (k : Int))) ++ [(i.1, -1), ((n : Int), i.2)] → b.1 ≤ z → z ≤ b.2 → ∃ K' ∈ ((List.range n).map (fun k : Nat => ((k : Int), (k : Int))) ++ [(i.1, -1), ((n : Int), i.2)]).filterMap (kSplV1 x K), ∃ ρ', ρ <+: ρ' ∧ kD GP ρ' K' R := fun b hbm h1 h2 => by
        obtain ⟨⟨pc, ls, st, G, c, s, Γ⟩, γ⟩ := K
        obtain ⟨Γ', e, m⟩ := kAs_ok hD.1 hz h1 h2
        exact ⟨((pc, ls, st, G, c, s, Γ'), γ), List.mem_filterMap.mpr ⟨b, hbm, by simp only [kSplV1]; rw [e]; rfl⟩, ρ, List.prefix_refl _, m, hD.2.1, hD.2.2⟩
      by_cases hneg : z ≤ -1
      · exact key (i.1, -1) (by simp) hb.1 hneg
      by_cases hbig : (n : Int) ≤ z
      · exact key ((n : Int), i.2) (by simp) hbig hb.2
      · refine key (z, z) (List.mem_append_left _ (List.mem_map.mpr ⟨z.toNat, List.mem_range.mpr (by omega), ?_⟩)) (Int.le_refl _) (Int.le_refl _)
        rw [show ((z.toNat : Nat) : Int) = z by omega]
    · cases h
      exact same
  · cases h
    exact same
/-- nothing is told of copies of ints by forms -/
def kIC (_ : sG) (_ : List kA) (_ _ _ _ : Nat) (_ _ _ : sL) : List kA := []
theorem kIC_ok {UP : Nat → List Int → List eE → Prop} : kIOk UP kIC := by
  intro Γ γ js jd sp dp n ρ zs zd zn H n0 n1 f g hM hg es ed en h1 h2 h3 h4 h5 hs hd q hq
  cases hq
/-! The consequences at their places. -/
def kF130 (j z : Nat) (K : kS) : Option sL := (kFf K.1.2.2.2.1 j z).map fun f => sAdd f (sC 130)
def kFst (K : kS) : Option sL := match K.1.2.2.1 with
  | v :: _ => if v.1 = 0 then some v.2 else none
  | [] => none
def kSWa : kS → Option (List kS) := kThen (kSWs 0) (kThen (kSWs 1) (kThen (kSWs 2) (kThen (kSWs 3) (kThen (kSWs 4) (kSWs 5)))))
def kOne (RO : List (Nat × (Nat → Int32))) (f : kS → Option (List kS)) : Prop := ∀ (K : kS) (L : List kS), f K = some L → ∀ (ρ : List Int) (R : eR), kD (kGP (kUP RO)) ρ K R → ∃ K' ∈ L, ∃ ρ', ρ <+: ρ' ∧ kD (kGP (kUP RO)) ρ' K' R
section KONE
variable {RO : List (Nat × (Nat → Int32))}
theorem kUP_1 {e : Int} {H : List eE} : kUP RO 1 [e] H ↔ kLog 15 14 16 17 e H := by
  constructor
  · intro h
    obtain ⟨e', h1, h2⟩ : ∃ e' : Int, [e] = [e'] ∧ kLog 15 14 16 17 e' H := h
    cases h1
    exact h2
  · intro h
    exact ⟨e, rfl, h⟩
theorem kUP_2 {e : Int} {H : List eE} : kUP RO 2 [e] H ↔ kLog 60 61 62 63 e H := by
  constructor
  · intro h
    obtain ⟨e', h1, h2⟩ : ∃ e' : Int, [e] = [e'] ∧ kLog 60 61 62 63 e' H := h
    cases h1
    exact h2
  · intro h
    exact ⟨e, rfl, h⟩
theorem kO_of {f : kS → Option (List kS)} (hf : ∀ {K : kS} {L : List kS}, f K = some L → ∀ {ρ : List Int} {R : eR}, kD (kGP (kUP RO)) ρ K R → ∃ K' ∈ L, ∃ ρ', ρ <+: ρ' ∧ kD (kGP (kUP RO)) ρ' K' R) : kOne RO f := fun _ _ h _ _ hD => hf h hD
theorem kO_splL (i n : Nat) : kOne RO (kSplL i n) := fun _ _ h _ _ hD => kSplL_ok h hD
theorem kO_splS (i n : Nat) : kOne RO (kSplS i n) := fun _ _ h _ _ hD => kSplS_ok h hD
theorem kO_app {r : kS → Option kWs} (hr : kRok RO r) : kOne RO (kApp r) := fun _ _ h _ _ hD => kApp_ok hr h hD
theorem kO_lg1 {pr cw ci cb ca cv : Nat} (hpr : pr < 1000) (hUP : ∀ e H, kUP RO pr [e] H → kLog cw ci cb ca e H) (hcv : cv = cb ∨ cv = ca) : kOne RO (kLg1 pr cw ci cv) := fun _ _ h _ _ hD => kLg1_ok hpr hUP hcv h hD
theorem kO_lg2 {pr cw ci cb ca : Nat} (hpr : pr < 1000) (hUP : ∀ e H, kUP RO pr [e] H ↔ kLog cw ci cb ca e H) : kOne RO (kLg2 pr cw ci cb ca) := fun _ _ h _ _ hD => kLg2_ok hpr hUP h hD
theorem kO_lg3 {pr cw ci cb ca : Nat} (hpr : pr < 1000) (hUP : ∀ e H, kUP RO pr [e] H ↔ kLog cw ci cb ca e H) : kOne RO (kLg3 pr cw ci cb ca) := fun _ _ h _ _ hD => kLg3_ok hpr hUP h hD
theorem kO_then {f g : kS → Option (List kS)} (hf : kOne RO f) (hg : kOne RO g) : kOne RO (kThen f g) := fun _ _ h _ _ hD => kThen_ok hf hg h hD
theorem kO_SWs (s : Nat) : kOne RO (kSWs s) := fun _ _ h _ _ hD => kSWs_ok h hD
theorem kO_SW : kOne RO kSWa := kO_then (kO_SWs 0) (kO_then (kO_SWs 1) (kO_then (kO_SWs 2) (kO_then (kO_SWs 3) (kO_then (kO_SWs 4) (kO_SWs 5)))))
theorem kO_id : kOne RO (fun K => some [K]) := fun K L h ρ R hD => by
  cases h
  exact ⟨K, List.mem_singleton.mpr rfl, ρ, List.prefix_refl _, hD⟩
def kHf_0 : kS → Option (List kS) := (kWCr)
theorem kO_0 : kOne RO kHf_0 := by
  delta kHf_0
  exact (fun _ _ h _ _ hD => kWCr_ok h hD)
def kHf_1 : kS → Option (List kS) := (kWe 0 0)
theorem kO_1 : kOne RO kHf_1 := by
  delta kHf_1
  exact (fun _ _ h _ _ hD => kWe_ok h hD)
def kHf_2 : kS → Option (List kS) := (kWe 0 0)
theorem kO_2 : kOne RO kHf_2 := by
  delta kHf_2
  exact (fun _ _ h _ _ hD => kWe_ok h hD)
def kHf_3 : kS → Option (List kS) := (kWe 0 0)
theorem kO_3 : kOne RO kHf_3 := by
  delta kHf_3
  exact (fun _ _ h _ _ hD => kWe_ok h hD)
def kHf_4 : kS → Option (List kS) := (kThen (kLg1 2 60 61 62) (kLg1 2 60 61 63))
theorem kO_4 : kOne RO kHf_4 := by
  delta kHf_4
  exact (kO_then (kO_lg1 (cb := 62) (ca := 63) (by decide) (fun e H h => kUP_2.mp h) (by decide)) (kO_lg1 (cb := 62) (ca := 63) (by decide) (fun e H h => kUP_2.mp h) (by decide)))
def kHf_5 : kS → Option (List kS) := (kThen (kLg1 2 60 61 62) (kLg1 2 60 61 63))
theorem kO_5 : kOne RO kHf_5 := by
  delta kHf_5
  exact (kO_then (kO_lg1 (cb := 62) (ca := 63) (by decide) (fun e H h => kUP_2.mp h) (by decide)) (kO_lg1 (cb := 62) (ca := 63) (by decide) (fun e H h => kUP_2.mp h) (by decide)))
def kHf_6 : kS → Option (List kS) := (kThen (kLg1 2 60 61 62) (kLg1 2 60 61 63))
theorem kO_6 : kOne RO kHf_6 := by
  delta kHf_6
  exact (kO_then (kO_lg1 (cb := 62) (ca := 63) (by decide) (fun e H h => kUP_2.mp h) (by decide)) (kO_lg1 (cb := 62) (ca := 63) (by decide) (fun e H h => kUP_2.mp h) (by decide)))
def kHf_7 : kS → Option (List kS) := (kThen (kLg1 2 60 61 62) (kLg1 2 60 61 63))
theorem kO_7 : kOne RO kHf_7 := by
  delta kHf_7
  exact (kO_then (kO_lg1 (cb := 62) (ca := 63) (by decide) (fun e H h => kUP_2.mp h) (by decide)) (kO_lg1 (cb := 62) (ca := 63) (by decide) (fun e H h => kUP_2.mp h) (by decide)))
def kHf_8 : kS → Option (List kS) := (kThen (kLg1 2 60 61 62) (kLg1 2 60 61 63))
theorem kO_8 : kOne RO kHf_8 := by
  delta kHf_8
  exact (kO_then (kO_lg1 (cb := 62) (ca := 63) (by decide) (fun e H h => kUP_2.mp h) (by decide)) (kO_lg1 (cb := 62) (ca := 63) (by decide) (fun e H h => kUP_2.mp h) (by decide)))
def kHf_9 : kS → Option (List kS) := (kThen (kLg1 2 60 61 62) (kLg1 2 60 61 63))
theorem kO_9 : kOne RO kHf_9 := by
  delta kHf_9
  exact (kO_then (kO_lg1 (cb := 62) (ca := 63) (by decide) (fun e H h => kUP_2.mp h) (by decide)) (kO_lg1 (cb := 62) (ca := 63) (by decide) (fun e H h => kUP_2.mp h) (by decide)))
def kHf_10 : kS → Option (List kS) := (kSplL 1 10)
theorem kO_10 : kOne RO kHf_10 := by
  delta kHf_10
  exact (kO_splL 1 10)
def kHf_11 : kS → Option (List kS) := (kThen (kLg1 2 60 61 62) (kLg1 2 60 61 63))
theorem kO_11 : kOne RO kHf_11 := by
  delta kHf_11
  exact (kO_then (kO_lg1 (cb := 62) (ca := 63) (by decide) (fun e H h => kUP_2.mp h) (by decide)) (kO_lg1 (cb := 62) (ca := 63) (by decide) (fun e H h => kUP_2.mp h) (by decide)))
def kHf_12 : kS → Option (List kS) := (kLg3 2 60 61 62 63)
theorem kO_12 : kOne RO kHf_12 := by
  delta kHf_12
  exact (kO_lg3 (by decide) (fun e H => kUP_2))
def kHf_13 : kS → Option (List kS) := (kLg2 2 60 61 62 63)
theorem kO_13 : kOne RO kHf_13 := by
  delta kHf_13
  exact (kO_lg2 (by decide) (fun e H => kUP_2))
def kHf_14 : kS → Option (List kS) := (kSplL 2 10)
theorem kO_14 : kOne RO kHf_14 := by
  delta kHf_14
  exact (kO_splL 2 10)
def kHf_15 : kS → Option (List kS) := (kApp kR4)
theorem kO_15 : kOne RO kHf_15 := by
  delta kHf_15
  exact (kO_app kR4_ok)
def kHf_16 : kS → Option (List kS) := (kThen (kApp (kR0 [(5, [sC 0, sC 0])])) (kApp (kR5 (kF130 52 21))))
theorem kO_16 : kOne RO kHf_16 := by
  delta kHf_16
  exact (kO_then (kO_app kR0a) (kO_app (kR5_ok _)))
def kHf_17 : kS → Option (List kS) := (kThen (kApp kR8) (kApp (kR5 (kF130 52 21))))
theorem kO_17 : kOne RO kHf_17 := by
  delta kHf_17
  exact (kO_then (kO_app kR8_ok) (kO_app (kR5_ok _)))
def kHf_18 : kS → Option (List kS) := (kThen (kApp kR8) (kApp kR6))
theorem kO_18 : kOne RO kHf_18 := by
  delta kHf_18
  exact (kO_then (kO_app kR8_ok) (kO_app kR6_ok))
def kHf_19 : kS → Option (List kS) := (kApp (kR0 [(6, [sC 0, sC 0])]))
theorem kO_19 : kOne RO kHf_19 := by
  delta kHf_19
  exact (kO_app kR0d)
def kHf_20 : kS → Option (List kS) := (kApp (kR0 [(8, [sC 0])]))
theorem kO_20 : kOne RO kHf_20 := by
  delta kHf_20
  exact (kO_app kR0b)
def kHf_21 : kS → Option (List kS) := (kApp (kR9 8 65 66 130))
theorem kO_21 : kOne RO kHf_21 := by
  delta kHf_21
  exact (kO_app kR9a)
def kHf_22 : kS → Option (List kS) := (kApp (kR15 52 21))
theorem kO_22 : kOne RO kHf_22 := by
  delta kHf_22
  exact (kO_app (kR15_ok 52 21))
def kHf_23 : kS → Option (List kS) := (kApp (kR0 [(9, [sC 0])]))
theorem kO_23 : kOne RO kHf_23 := by
  delta kHf_23
  exact (kO_app kR0c)
def kHf_24 : kS → Option (List kS) := (kApp (kR9 9 68 69 61))
theorem kO_24 : kOne RO kHf_24 := by
  delta kHf_24
  exact (kO_app kR9b)
def kHf_25 : kS → Option (List kS) := (kApp kR7)
theorem kO_25 : kOne RO kHf_25 := by
  delta kHf_25
  exact (kO_app kR7_ok)
def kHf_26 : kS → Option (List kS) := (kApp (kR5 kFst))
theorem kO_26 : kOne RO kHf_26 := by
  delta kHf_26
  exact (kO_app (kR5_ok _))
def kHf_27 : kS → Option (List kS) := (kApp (kR11 5))
theorem kO_27 : kOne RO kHf_27 := by
  delta kHf_27
  exact (kO_app (kR11_ok 5))
def kHf_28 : kS → Option (List kS) := (kApp (kR12 5))
theorem kO_28 : kOne RO kHf_28 := by
  delta kHf_28
  exact (kO_app (kR12_ok 5))
def kHf_29 : kS → Option (List kS) := (kApp kR4)
theorem kO_29 : kOne RO kHf_29 := by
  delta kHf_29
  exact (kO_app kR4_ok)
def kHf_30 : kS → Option (List kS) := (kApp (kR0 [(10, [sC 0, sC 0])]))
theorem kO_30 : kOne RO kHf_30 := by
  delta kHf_30
  exact (kO_app kR0e)
def kHf_31 : kS → Option (List kS) := (kApp kR10)
theorem kO_31 : kOne RO kHf_31 := by
  delta kHf_31
  exact (kO_app kR10_ok)
def kHf_32 : kS → Option (List kS) := (kApp kR10)
theorem kO_32 : kOne RO kHf_32 := by
  delta kHf_32
  exact (kO_app kR10_ok)
def kHf_33 : kS → Option (List kS) := (kApp kR10)
theorem kO_33 : kOne RO kHf_33 := by
  delta kHf_33
  exact (kO_app kR10_ok)
def kHf_34 : kS → Option (List kS) := (kThen (kSplL 0 8) (kSplL 1 8))
theorem kO_34 : kOne RO kHf_34 := by
  delta kHf_34
  exact (kO_then (kO_splL 0 8) (kO_splL 1 8))
def kHf_35 : kS → Option (List kS) := (kApp kIS)
theorem kO_35 : kOne RO kHf_35 := by
  delta kHf_35
  exact (kO_app kIS_ok)
def kHf_36 : kS → Option (List kS) := (kNrm 1)
theorem kO_36 : kOne RO kHf_36 := by
  delta kHf_36
  exact (fun _ _ h _ _ hD => kNrm_ok h hD)
def kHf_37 : kS → Option (List kS) := (kApp kZRr)
theorem kO_37 : kOne RO kHf_37 := by
  delta kHf_37
  exact (kO_app kZRr_ok)
def kHf_38 : kS → Option (List kS) := (kApp kBFr)
theorem kO_38 : kOne RO kHf_38 := by
  delta kHf_38
  exact (kO_app kBFr_ok)
def kHf_39 : kS → Option (List kS) := (kThen (kSplL 0 8) (kSplL 1 8))
theorem kO_39 : kOne RO kHf_39 := by
  delta kHf_39
  exact (kO_then (kO_splL 0 8) (kO_splL 1 8))
def kHf_40 : kS → Option (List kS) := (kApp kIS)
theorem kO_40 : kOne RO kHf_40 := by
  delta kHf_40
  exact (kO_app kIS_ok)
def kHf_41 : kS → Option (List kS) := (kSplS 0 8)
theorem kO_41 : kOne RO kHf_41 := by
  delta kHf_41
  exact (kO_splS 0 8)
def kHf_42 : kS → Option (List kS) := (kLg2 1 15 14 16 17)
theorem kO_42 : kOne RO kHf_42 := by
  delta kHf_42
  exact (kO_lg2 (by decide) (fun e H => kUP_1))
def kHf_43 : kS → Option (List kS) := (kLg1 1 15 14 16)
theorem kO_43 : kOne RO kHf_43 := by
  delta kHf_43
  exact (kO_lg1 (cb := 16) (ca := 17) (by decide) (fun e H h => kUP_1.mp h) (by decide))
def kHf_44 : kS → Option (List kS) := (kLg1 1 15 14 17)
theorem kO_44 : kOne RO kHf_44 := by
  delta kHf_44
  exact (kO_lg1 (cb := 16) (ca := 17) (by decide) (fun e H h => kUP_1.mp h) (by decide))
def kHf_45 : kS → Option (List kS) := (kApp kZCr)
theorem kO_45 : kOne RO kHf_45 := by
  delta kHf_45
  exact (kO_app kZCr_ok)
def kHf_46 : kS → Option (List kS) := (kThen (kApp kRI) (kThen (kApp kRJ) (kThen (kApp kRE) (kThen (kApp kSM) (kApp kK1)))))
theorem kO_46 : kOne RO kHf_46 := by
  delta kHf_46
  exact (kO_then (kO_app kRI_ok) (kO_then (kO_app kRJ_ok) (kO_then (kO_app kRE_ok) (kO_then (kO_app kSM_ok) (kO_app kK1_ok)))))
def kHf_47 : kS → Option (List kS) := (kSplV 4)
theorem kO_47 : kOne RO kHf_47 := by
  delta kHf_47
  exact (fun _ _ h _ _ hD => kSplV_ok h hD)
def kHf_48 : kS → Option (List kS) := (kApp kK2)
theorem kO_48 : kOne RO kHf_48 := by
  delta kHf_48
  exact (kO_app kK2_ok)
def kHf_49 : kS → Option (List kS) := (kApp kT2)
theorem kO_49 : kOne RO kHf_49 := by
  delta kHf_49
  exact (kO_app kT2_ok)
end KONE
def kOnO (RO : List (Nat × (Nat → Int32))) (o : Option (kS → Option (List kS))) : Prop := ∀ f, o = some f → kOne RO f
theorem kOnB {RO : List (Nat × (Nat → Int32))} {t : Bool} {a b : Option (kS → Option (List kS))} (ha : kOnO RO a) (hb : kOnO RO b) : kOnO RO (@Bool.rec (fun _ => Option (kS → Option (List kS))) a b t) := by
  cases t
  · exact ha
  · exact hb
theorem kOnN {RO : List (Nat × (Nat → Int32))} : kOnO RO none := fun f h => by cases h
theorem kOnS {RO : List (Nat × (Nat → Int32))} {g : kS → Option (List kS)} (h : kOne RO g) : kOnO RO (some g) := fun f e => by
  cases e
  exact h
def kHo_3 (pc : Nat) : Option (kS → Option (List kS)) := (@Bool.rec (fun _ => Option (kS → Option (List kS))) (@Bool.rec (fun _ => Option (kS → Option (List kS))) (@Bool.rec (fun _ => Option (kS → Option (List kS))) none (some kHf_3) (Nat.beq pc 106)) (@Bool.rec (fun _ => Option (kS → Option (List kS))) none (some kHf_2) (Nat.beq pc 91)) (Nat.blt pc 106)) (@Bool.rec (fun _ => Option (kS → Option (List kS))) (@Bool.rec (fun _ => Option (kS → Option (List kS))) none (some kHf_1) (Nat.beq pc 28)) (@Bool.rec (fun _ => Option (kS → Option (List kS))) none (some kHf_0) (Nat.beq pc 9)) (Nat.blt pc 28)) (Nat.blt pc 91))
theorem kHo_3_ok {RO : List (Nat × (Nat → Int32))} (pc : Nat) : kOnO RO (kHo_3 pc) := by
  delta kHo_3
  exact (kOnB (kOnB (kOnB kOnN (kOnS kO_3)) (kOnB kOnN (kOnS kO_2))) (kOnB (kOnB kOnN (kOnS kO_1)) (kOnB kOnN (kOnS kO_0))))
def kHo_63 (pc : Nat) : Option (kS → Option (List kS)) := (@Bool.rec (fun _ => Option (kS → Option (List kS))) (@Bool.rec (fun _ => Option (kS → Option (List kS))) (@Bool.rec (fun _ => Option (kS → Option (List kS))) (@Bool.rec (fun _ => Option (kS → Option (List kS))) none (some kHf_11) (Nat.beq pc 109)) (@Bool.rec (fun _ => Option (kS → Option (List kS))) none (some kHf_10) (Nat.beq pc 100)) (Nat.blt pc 109)) (@Bool.rec (fun _ => Option (kS → Option (List kS))) (@Bool.rec (fun _ => Option (kS → Option (List kS))) none (some kHf_9) (Nat.beq pc 96)) (@Bool.rec (fun _ => Option (kS → Option (List kS))) none (some kHf_8) (Nat.beq pc 86)) (Nat.blt pc 96)) (Nat.blt pc 100)) (@Bool.rec (fun _ => Option (kS → Option (List kS))) (@Bool.rec (fun _ => Option (kS → Option (List kS))) (@Bool.rec (fun _ => Option (kS → Option (List kS))) none (some kHf_7) (Nat.beq pc 76)) (@Bool.rec (fun _ => Option (kS → Option (List kS))) none (some kHf_6) (Nat.beq pc 66)) (Nat.blt pc 76)) (@Bool.rec (fun _ => Option (kS → Option (List kS))) (@Bool.rec (fun _ => Option (kS → Option (List kS))) none (some kHf_5) (Nat.beq pc 56)) (@Bool.rec (fun _ => Option (kS → Option (List kS))) none (some kHf_4) (Nat.beq pc 46)) (Nat.blt pc 56)) (Nat.blt pc 66)) (Nat.blt pc 86))
theorem kHo_63_ok {RO : List (Nat × (Nat → Int32))} (pc : Nat) : kOnO RO (kHo_63 pc) := by
  delta kHo_63
  exact (kOnB (kOnB (kOnB (kOnB kOnN (kOnS kO_11)) (kOnB kOnN (kOnS kO_10))) (kOnB (kOnB kOnN (kOnS kO_9)) (kOnB kOnN (kOnS kO_8)))) (kOnB (kOnB (kOnB kOnN (kOnS kO_7)) (kOnB kOnN (kOnS kO_6))) (kOnB (kOnB kOnN (kOnS kO_5)) (kOnB kOnN (kOnS kO_4)))))
def kHo_64 (pc : Nat) : Option (kS → Option (List kS)) := (@Bool.rec (fun _ => Option (kS → Option (List kS))) (@Bool.rec (fun _ => Option (kS → Option (List kS))) none (some kHf_13) (Nat.beq pc 162)) (@Bool.rec (fun _ => Option (kS → Option (List kS))) none (some kHf_12) (Nat.beq pc 105)) (Nat.blt pc 162))
theorem kHo_64_ok {RO : List (Nat × (Nat → Int32))} (pc : Nat) : kOnO RO (kHo_64 pc) := by
  delta kHo_64
  exact (kOnB (kOnB kOnN (kOnS kO_13)) (kOnB kOnN (kOnS kO_12)))
def kHo_69 (pc : Nat) : Option (kS → Option (List kS)) := (@Bool.rec (fun _ => Option (kS → Option (List kS))) none (some kHf_14) (Nat.beq pc 17))
theorem kHo_69_ok {RO : List (Nat × (Nat → Int32))} (pc : Nat) : kOnO RO (kHo_69 pc) := by
  delta kHo_69
  exact (kOnB kOnN (kOnS kO_14))
def kHo_74 (pc : Nat) : Option (kS → Option (List kS)) := (@Bool.rec (fun _ => Option (kS → Option (List kS))) none (some kHf_15) (Nat.beq pc 29))
theorem kHo_74_ok {RO : List (Nat × (Nat → Int32))} (pc : Nat) : kOnO RO (kHo_74 pc) := by
  delta kHo_74
  exact (kOnB kOnN (kOnS kO_15))
def kHo_84 (pc : Nat) : Option (kS → Option (List kS)) := (@Bool.rec (fun _ => Option (kS → Option (List kS))) (@Bool.rec (fun _ => Option (kS → Option (List kS))) (@Bool.rec (fun _ => Option (kS → Option (List kS))) none (some kHf_18) (Nat.beq pc 87)) (@Bool.rec (fun _ => Option (kS → Option (List kS))) none (some kHf_17) (Nat.beq pc 62)) (Nat.blt pc 87)) (@Bool.rec (fun _ => Option (kS → Option (List kS))) none (some kHf_16) (Nat.beq pc 21)) (Nat.blt pc 62))
theorem kHo_84_ok {RO : List (Nat × (Nat → Int32))} (pc : Nat) : kOnO RO (kHo_84 pc) := by
  delta kHo_84
  exact (kOnB (kOnB (kOnB kOnN (kOnS kO_18)) (kOnB kOnN (kOnS kO_17))) (kOnB kOnN (kOnS kO_16)))
def kHo_85 (pc : Nat) : Option (kS → Option (List kS)) := (@Bool.rec (fun _ => Option (kS → Option (List kS))) (@Bool.rec (fun _ => Option (kS → Option (List kS))) (@Bool.rec (fun _ => Option (kS → Option (List kS))) (@Bool.rec (fun _ => Option (kS → Option (List kS))) none (some kHf_25) (Nat.beq pc 233)) (@Bool.rec (fun _ => Option (kS → Option (List kS))) none (some kHf_24) (Nat.beq pc 227)) (Nat.blt pc 233)) (@Bool.rec (fun _ => Option (kS → Option (List kS))) (@Bool.rec (fun _ => Option (kS → Option (List kS))) none (some kHf_23) (Nat.beq pc 175)) (@Bool.rec (fun _ => Option (kS → Option (List kS))) none (some kHf_22) (Nat.beq pc 163)) (Nat.blt pc 175)) (Nat.blt pc 227)) (@Bool.rec (fun _ => Option (kS → Option (List kS))) (@Bool.rec (fun _ => Option (kS → Option (List kS))) (@Bool.rec (fun _ => Option (kS → Option (List kS))) none (some kHf_21) (Nat.beq pc 157)) (@Bool.rec (fun _ => Option (kS → Option (List kS))) none (some kHf_20) (Nat.beq pc 103)) (Nat.blt pc 157)) (@Bool.rec (fun _ => Option (kS → Option (List kS))) none (some kHf_19) (Nat.beq pc 27)) (Nat.blt pc 103)) (Nat.blt pc 163))
theorem kHo_85_ok {RO : List (Nat × (Nat → Int32))} (pc : Nat) : kOnO RO (kHo_85 pc) := by
  delta kHo_85
  exact (kOnB (kOnB (kOnB (kOnB kOnN (kOnS kO_25)) (kOnB kOnN (kOnS kO_24))) (kOnB (kOnB kOnN (kOnS kO_23)) (kOnB kOnN (kOnS kO_22)))) (kOnB (kOnB (kOnB kOnN (kOnS kO_21)) (kOnB kOnN (kOnS kO_20))) (kOnB kOnN (kOnS kO_19))))
def kHo_87 (pc : Nat) : Option (kS → Option (List kS)) := (@Bool.rec (fun _ => Option (kS → Option (List kS))) (@Bool.rec (fun _ => Option (kS → Option (List kS))) (@Bool.rec (fun _ => Option (kS → Option (List kS))) none (some kHf_29) (Nat.beq pc 182)) (@Bool.rec (fun _ => Option (kS → Option (List kS))) none (some kHf_28) (Nat.beq pc 78)) (Nat.blt pc 182)) (@Bool.rec (fun _ => Option (kS → Option (List kS))) (@Bool.rec (fun _ => Option (kS → Option (List kS))) none (some kHf_27) (Nat.beq pc 33)) (@Bool.rec (fun _ => Option (kS → Option (List kS))) none (some kHf_26) (Nat.beq pc 10)) (Nat.blt pc 33)) (Nat.blt pc 78))
theorem kHo_87_ok {RO : List (Nat × (Nat → Int32))} (pc : Nat) : kOnO RO (kHo_87 pc) := by
  delta kHo_87
  exact (kOnB (kOnB (kOnB kOnN (kOnS kO_29)) (kOnB kOnN (kOnS kO_28))) (kOnB (kOnB kOnN (kOnS kO_27)) (kOnB kOnN (kOnS kO_26))))
def kHo_88 (pc : Nat) : Option (kS → Option (List kS)) := (@Bool.rec (fun _ => Option (kS → Option (List kS))) (@Bool.rec (fun _ => Option (kS → Option (List kS))) (@Bool.rec (fun _ => Option (kS → Option (List kS))) none (some kHf_33) (Nat.beq pc 71)) (@Bool.rec (fun _ => Option (kS → Option (List kS))) none (some kHf_32) (Nat.beq pc 61)) (Nat.blt pc 71)) (@Bool.rec (fun _ => Option (kS → Option (List kS))) (@Bool.rec (fun _ => Option (kS → Option (List kS))) none (some kHf_31) (Nat.beq pc 41)) (@Bool.rec (fun _ => Option (kS → Option (List kS))) none (some kHf_30) (Nat.beq pc 6)) (Nat.blt pc 41)) (Nat.blt pc 61))
theorem kHo_88_ok {RO : List (Nat × (Nat → Int32))} (pc : Nat) : kOnO RO (kHo_88 pc) := by
  delta kHo_88
  exact (kOnB (kOnB (kOnB kOnN (kOnS kO_33)) (kOnB kOnN (kOnS kO_32))) (kOnB (kOnB kOnN (kOnS kO_31)) (kOnB kOnN (kOnS kO_30))))
def kHo_148 (pc : Nat) : Option (kS → Option (List kS)) := (@Bool.rec (fun _ => Option (kS → Option (List kS))) (@Bool.rec (fun _ => Option (kS → Option (List kS))) none (some kHf_35) (Nat.beq pc 61)) (@Bool.rec (fun _ => Option (kS → Option (List kS))) none (some kHf_34) (Nat.beq pc 0)) (Nat.blt pc 61))
theorem kHo_148_ok {RO : List (Nat × (Nat → Int32))} (pc : Nat) : kOnO RO (kHo_148 pc) := by
  delta kHo_148
  exact (kOnB (kOnB kOnN (kOnS kO_35)) (kOnB kOnN (kOnS kO_34)))
def kHo_164 (pc : Nat) : Option (kS → Option (List kS)) := (@Bool.rec (fun _ => Option (kS → Option (List kS))) (@Bool.rec (fun _ => Option (kS → Option (List kS))) none (some kHf_37) (Nat.beq pc 54)) (@Bool.rec (fun _ => Option (kS → Option (List kS))) none (some kHf_36) (Nat.beq pc 0)) (Nat.blt pc 54))
theorem kHo_164_ok {RO : List (Nat × (Nat → Int32))} (pc : Nat) : kOnO RO (kHo_164 pc) := by
  delta kHo_164
  exact (kOnB (kOnB kOnN (kOnS kO_37)) (kOnB kOnN (kOnS kO_36)))
def kHo_168 (pc : Nat) : Option (kS → Option (List kS)) := (@Bool.rec (fun _ => Option (kS → Option (List kS))) none (some kHf_38) (Nat.beq pc 113))
theorem kHo_168_ok {RO : List (Nat × (Nat → Int32))} (pc : Nat) : kOnO RO (kHo_168 pc) := by
  delta kHo_168
  exact (kOnB kOnN (kOnS kO_38))
def kHo_172 (pc : Nat) : Option (kS → Option (List kS)) := (@Bool.rec (fun _ => Option (kS → Option (List kS))) (@Bool.rec (fun _ => Option (kS → Option (List kS))) none (some kHf_40) (Nat.beq pc 44)) (@Bool.rec (fun _ => Option (kS → Option (List kS))) none (some kHf_39) (Nat.beq pc 0)) (Nat.blt pc 44))
theorem kHo_172_ok {RO : List (Nat × (Nat → Int32))} (pc : Nat) : kOnO RO (kHo_172 pc) := by
  delta kHo_172
  exact (kOnB (kOnB kOnN (kOnS kO_40)) (kOnB kOnN (kOnS kO_39)))
def kHo_177 (pc : Nat) : Option (kS → Option (List kS)) := (@Bool.rec (fun _ => Option (kS → Option (List kS))) none (some kHf_41) (Nat.beq pc 31))
theorem kHo_177_ok {RO : List (Nat × (Nat → Int32))} (pc : Nat) : kOnO RO (kHo_177 pc) := by
  delta kHo_177
  exact (kOnB kOnN (kOnS kO_41))
def kHo_200 (pc : Nat) : Option (kS → Option (List kS)) := (@Bool.rec (fun _ => Option (kS → Option (List kS))) none (some kHf_42) (Nat.beq pc 74))
theorem kHo_200_ok {RO : List (Nat × (Nat → Int32))} (pc : Nat) : kOnO RO (kHo_200 pc) := by
  delta kHo_200
  exact (kOnB kOnN (kOnS kO_42))
def kHo_202 (pc : Nat) : Option (kS → Option (List kS)) := (@Bool.rec (fun _ => Option (kS → Option (List kS))) none (some kHf_43) (Nat.beq pc 55))
theorem kHo_202_ok {RO : List (Nat × (Nat → Int32))} (pc : Nat) : kOnO RO (kHo_202 pc) := by
  delta kHo_202
  exact (kOnB kOnN (kOnS kO_43))
def kHo_203 (pc : Nat) : Option (kS → Option (List kS)) := (@Bool.rec (fun _ => Option (kS → Option (List kS))) none (some kHf_44) (Nat.beq pc 35))
theorem kHo_203_ok {RO : List (Nat × (Nat → Int32))} (pc : Nat) : kOnO RO (kHo_203 pc) := by
  delta kHo_203
  exact (kOnB kOnN (kOnS kO_44))
def kHo_257 (pc : Nat) : Option (kS → Option (List kS)) := (@Bool.rec (fun _ => Option (kS → Option (List kS))) none (some kHf_45) (Nat.beq pc 17))
theorem kHo_257_ok {RO : List (Nat × (Nat → Int32))} (pc : Nat) : kOnO RO (kHo_257 pc) := by
  delta kHo_257
  exact (kOnB kOnN (kOnS kO_45))
def kHo_280 (pc : Nat) : Option (kS → Option (List kS)) := (@Bool.rec (fun _ => Option (kS → Option (List kS))) (@Bool.rec (fun _ => Option (kS → Option (List kS))) (@Bool.rec (fun _ => Option (kS → Option (List kS))) none (some kHf_49) (Nat.beq pc 1224)) (@Bool.rec (fun _ => Option (kS → Option (List kS))) none (some kHf_48) (Nat.beq pc 1191)) (Nat.blt pc 1224)) (@Bool.rec (fun _ => Option (kS → Option (List kS))) (@Bool.rec (fun _ => Option (kS → Option (List kS))) none (some kHf_47) (Nat.beq pc 1183)) (@Bool.rec (fun _ => Option (kS → Option (List kS))) none (some kHf_46) (Nat.beq pc 18)) (Nat.blt pc 1183)) (Nat.blt pc 1191))
theorem kHo_280_ok {RO : List (Nat × (Nat → Int32))} (pc : Nat) : kOnO RO (kHo_280 pc) := by
  delta kHo_280
  exact (kOnB (kOnB (kOnB kOnN (kOnS kO_49)) (kOnB kOnN (kOnS kO_48))) (kOnB (kOnB kOnN (kOnS kO_47)) (kOnB kOnN (kOnS kO_46))))
def kHg_1 (mi pc : Nat) : Option (kS → Option (List kS)) := (@Bool.rec (fun _ => Option (kS → Option (List kS))) (@Bool.rec (fun _ => Option (kS → Option (List kS))) (@Bool.rec (fun _ => Option (kS → Option (List kS))) (@Bool.rec (fun _ => Option (kS → Option (List kS))) none (kHo_88 pc) (Nat.beq mi 88)) (@Bool.rec (fun _ => Option (kS → Option (List kS))) none (kHo_87 pc) (Nat.beq mi 87)) (Nat.blt mi 88)) (@Bool.rec (fun _ => Option (kS → Option (List kS))) none (kHo_85 pc) (Nat.beq mi 85)) (Nat.blt mi 87)) (@Bool.rec (fun _ => Option (kS → Option (List kS))) (@Bool.rec (fun _ => Option (kS → Option (List kS))) none (kHo_84 pc) (Nat.beq mi 84)) (@Bool.rec (fun _ => Option (kS → Option (List kS))) none (kHo_74 pc) (Nat.beq mi 74)) (Nat.blt mi 84)) (Nat.blt mi 85))
theorem kHg_1_ok {RO : List (Nat × (Nat → Int32))} (mi pc : Nat) : kOnO RO (kHg_1 mi pc) := by
  delta kHg_1
  exact (kOnB (kOnB (kOnB (kOnB kOnN (kHo_88_ok pc)) (kOnB kOnN (kHo_87_ok pc))) (kOnB kOnN (kHo_85_ok pc))) (kOnB (kOnB kOnN (kHo_84_ok pc)) (kOnB kOnN (kHo_74_ok pc))))
def kHg_2 (mi pc : Nat) : Option (kS → Option (List kS)) := (@Bool.rec (fun _ => Option (kS → Option (List kS))) (kHg_1 mi pc) (@Bool.rec (fun _ => Option (kS → Option (List kS))) (@Bool.rec (fun _ => Option (kS → Option (List kS))) (@Bool.rec (fun _ => Option (kS → Option (List kS))) none (kHo_69 pc) (Nat.beq mi 69)) (@Bool.rec (fun _ => Option (kS → Option (List kS))) none (kHo_64 pc) (Nat.beq mi 64)) (Nat.blt mi 69)) (@Bool.rec (fun _ => Option (kS → Option (List kS))) (@Bool.rec (fun _ => Option (kS → Option (List kS))) none (kHo_63 pc) (Nat.beq mi 63)) (@Bool.rec (fun _ => Option (kS → Option (List kS))) none (kHo_3 pc) (Nat.beq mi 3)) (Nat.blt mi 63)) (Nat.blt mi 64)) (Nat.blt mi 74))
theorem kHg_2_ok {RO : List (Nat × (Nat → Int32))} (mi pc : Nat) : kOnO RO (kHg_2 mi pc) := by
  delta kHg_2
  exact (kOnB (kHg_1_ok mi pc) (kOnB (kOnB (kOnB kOnN (kHo_69_ok pc)) (kOnB kOnN (kHo_64_ok pc))) (kOnB (kOnB kOnN (kHo_63_ok pc)) (kOnB kOnN (kHo_3_ok pc)))))
def kHg_3 (mi pc : Nat) : Option (kS → Option (List kS)) := (@Bool.rec (fun _ => Option (kS → Option (List kS))) (@Bool.rec (fun _ => Option (kS → Option (List kS))) (@Bool.rec (fun _ => Option (kS → Option (List kS))) (@Bool.rec (fun _ => Option (kS → Option (List kS))) none (kHo_177 pc) (Nat.beq mi 177)) (@Bool.rec (fun _ => Option (kS → Option (List kS))) none (kHo_172 pc) (Nat.beq mi 172)) (Nat.blt mi 177)) (@Bool.rec (fun _ => Option (kS → Option (List kS))) none (kHo_168 pc) (Nat.beq mi 168)) (Nat.blt mi 172)) (@Bool.rec (fun _ => Option (kS → Option (List kS))) (@Bool.rec (fun _ => Option (kS → Option (List kS))) none (kHo_164 pc) (Nat.beq mi 164)) (@Bool.rec (fun _ => Option (kS → Option (List kS))) none (kHo_148 pc) (Nat.beq mi 148)) (Nat.blt mi 164)) (Nat.blt mi 168))
theorem kHg_3_ok {RO : List (Nat × (Nat → Int32))} (mi pc : Nat) : kOnO RO (kHg_3 mi pc) := by
  delta kHg_3
  exact (kOnB (kOnB (kOnB (kOnB kOnN (kHo_177_ok pc)) (kOnB kOnN (kHo_172_ok pc))) (kOnB kOnN (kHo_168_ok pc))) (kOnB (kOnB kOnN (kHo_164_ok pc)) (kOnB kOnN (kHo_148_ok pc))))
def kHg_4 (mi pc : Nat) : Option (kS → Option (List kS)) := (@Bool.rec (fun _ => Option (kS → Option (List kS))) (@Bool.rec (fun _ => Option (kS → Option (List kS))) (@Bool.rec (fun _ => Option (kS → Option (List kS))) (@Bool.rec (fun _ => Option (kS → Option (List kS))) none (kHo_280 pc) (Nat.beq mi 280)) (@Bool.rec (fun _ => Option (kS → Option (List kS))) none (kHo_257 pc) (Nat.beq mi 257)) (Nat.blt mi 280)) (@Bool.rec (fun _ => Option (kS → Option (List kS))) none (kHo_203 pc) (Nat.beq mi 203)) (Nat.blt mi 257)) (@Bool.rec (fun _ => Option (kS → Option (List kS))) (@Bool.rec (fun _ => Option (kS → Option (List kS))) none (kHo_202 pc) (Nat.beq mi 202)) (@Bool.rec (fun _ => Option (kS → Option (List kS))) none (kHo_200 pc) (Nat.beq mi 200)) (Nat.blt mi 202)) (Nat.blt mi 203))
theorem kHg_4_ok {RO : List (Nat × (Nat → Int32))} (mi pc : Nat) : kOnO RO (kHg_4 mi pc) := by
  delta kHg_4
  exact (kOnB (kOnB (kOnB (kOnB kOnN (kHo_280_ok pc)) (kOnB kOnN (kHo_257_ok pc))) (kOnB kOnN (kHo_203_ok pc))) (kOnB (kOnB kOnN (kHo_202_ok pc)) (kOnB kOnN (kHo_200_ok pc))))
def kHg_5 (mi pc : Nat) : Option (kS → Option (List kS)) := (@Bool.rec (fun _ => Option (kS → Option (List kS))) (kHg_4 mi pc) (kHg_3 mi pc) (Nat.blt mi 200))
theorem kHg_5_ok {RO : List (Nat × (Nat → Int32))} (mi pc : Nat) : kOnO RO (kHg_5 mi pc) := by
  delta kHg_5
  exact (kOnB (kHg_4_ok mi pc) (kHg_3_ok mi pc))
def kHg_6 (mi pc : Nat) : Option (kS → Option (List kS)) := (@Bool.rec (fun _ => Option (kS → Option (List kS))) (kHg_5 mi pc) (kHg_2 mi pc) (Nat.blt mi 148))
theorem kHg_6_ok {RO : List (Nat × (Nat → Int32))} (mi pc : Nat) : kOnO RO (kHg_6 mi pc) := by
  delta kHg_6
  exact (kOnB (kHg_5_ok mi pc) (kHg_2_ok mi pc))
def kHKo (mi pc : Nat) : Option (kS → Option (List kS)) := (kHg_6 mi pc)
theorem kHKo_ok {RO : List (Nat × (Nat → Int32))} (mi pc : Nat) : kOnO RO (kHKo mi pc) := by
  delta kHKo
  exact (kHg_6_ok mi pc)
def fHk (o : Option (kS → Option (List kS))) (K : kS) : Option (List kS) := @Option.rec (kS → Option (List kS)) (fun _ => Option (List kS)) (some [K]) (fun f => f K) o
def kHKx (mi pc : Nat) (K : kS) : Option (List kS) := fHk (kHKo mi pc) K
theorem kHKo_eq {mi pc : Nat} {K : kS} : kHKx mi pc K = fHk (kHKo mi pc) K := rfl
theorem kHx_ok {RO : List (Nat × (Nat → Int32))} (mi pc : Nat) : kOne RO (kHKx mi pc) := by
  have h := kHKo_ok (RO := RO) mi pc
  show kOne RO (fun K => fHk (kHKo mi pc) K)
  cases ho : kHKo mi pc with
  | none => exact kO_id
  | some f => exact h f ho
theorem kHKx_ok (RO : List (Nat × (Nat → Int32))) : kHookOk (kGP (kUP RO)) kHKx := fun mi pc K L h ρ R hD => kHx_ok mi pc K L h ρ R hD
/-- on which cells an atom depends, looked up -/
def kUDt : List (List Nat) := [kUD 0, kUD 1, kUD 2, kUD 3, kUD 4, kUD 5, kUD 6, kUD 7, kUD 8, kUD 9, kUD 10, kUD 11, kUD 12, kUD 13, kUD 14, kUD 15, kUD 16, kUD 17, kUD 18, kUD 19, kUD 20, kUD 21, kUD 22, kUD 23, kUD 24, kUD 25, kUD 26, kUD 27, kUD 28, kUD 29, kUD 30, kUD 31, kUD 32, kUD 33, kUD 34, kUD 35, kUD 36, kUD 37, kUD 38, kUD 39, kUD 40, kUD 41, kUD 42, kUD 43, kUD 44, kUD 45, kUD 46, kUD 47, kUD 48, kUD 49, kUD 50, kUD 51, kUD 52]
def kUDf (k : Nat) : List Nat := @Option.rec (List Nat) (fun _ => List Nat) (kUD k) (fun l => l) (sAt kUDt k)
set_option maxRecDepth 100000 in
theorem kUDt_eq : kUDt = (List.range 53).map kUD := rfl
theorem kUDf_eq (k : Nat) : kUDf k = kUD k := by
  unfold kUDf
  rw [sAt_eq, kUDt_eq, List.getElem?_map]
  cases h : (List.range 53)[k]? with
  | none => rfl
  | some j =>
    obtain ⟨hk, e⟩ := List.getElem?_eq_some_iff.mp h
    rw [List.getElem_range] at e
    subst e
    rfl
theorem kUP_frf (RO : List (Nat × (Nat → Int32))) : ∀ k zs (H H' : List eE), (∀ j ∈ kUDf k, H'[j]? = H[j]?) → kUP RO k zs H → kUP RO k zs H' := fun k zs H H' h => kUP_fr RO k zs H H' (by rw [kUDf_eq] at h; exact h)
def kSOx : List (Nat × List sL) := [(10, eT_LEAST.map fun v => sC v.toInt), (10, eT_MOST.map fun v => sC v.toInt), (8, eT_ABOVE.map fun v => sC v.toInt), (32, eT_OWN.map fun v => sC v.toInt), (0, [])]
end
