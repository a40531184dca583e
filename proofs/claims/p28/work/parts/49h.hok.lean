/-! K: consequences at told places; what is told of the script. -/
def kLive (Γ : sG) : Bool := !(Γ.2.2.1.any (fun f => decide (sK Γ.1 f = some 0)))
theorem kLive_ok {ρ : List Int} {Γ : sG} (hM : sMo ρ Γ) : kLive Γ = true := by
  unfold kLive
  rw [Bool.not_eq_true', List.any_eq_false]
  intro f hf h
  obtain ⟨z, e1, e2⟩ := hM.2.2.1 f hf
  exact e2 (sK_ok hM.1 e1 (of_decide_eq_true h))
/-- a number, split into all that it may be -/
def kSpl (x : sL) (n : Nat) (K : kS) : Option (List kS) := match K with
  | ((pc, ls, st, G, c, s, Γ), γ) => (sIdx Γ x n).map fun l => (l.filter fun q => kLive q.2).map fun q => ((pc, ls, st, G, c, s, q.2), γ)
def kSplL (i n : Nat) (K : kS) : Option (List kS) := match sGetL K.1.2.1 i with
  | some v => if v.1 = 0 then kSpl v.2 n K else none
  | none => none
def kSplS (i n : Nat) (K : kS) : Option (List kS) := match K.1.2.2.1[i]? with
  | some v => if v.1 = 0 then kSpl v.2 n K else none
  | none => none
theorem kSpl_ok {GP : Nat → List Int → List eE → Prop} {x : sL} {n : Nat} {K : kS} {L : List kS} (h : kSpl x n K = some L) {ρ : List Int} {R : eR} {z : Int} (hx : sEv ρ x = some z) (hD : kD GP ρ K R) : ∃ K' ∈ L, ∃ ρ', ρ <+: ρ' ∧ kD GP ρ' K' R := by
  obtain ⟨⟨pc, ls, st, G, c, s, Γ⟩, γ⟩ := K
  simp only [kSpl] at h
  obtain ⟨l, hl, rfl⟩ := Option.map_eq_some_iff.mp h
  obtain ⟨q, hq, hM, -⟩ := sIdx_ok hD.1 hx hl
  exact ⟨_, List.mem_map.mpr ⟨q, List.mem_filter.mpr ⟨hq, kLive_ok hM⟩, rfl⟩, ρ, List.prefix_refl _, hM, hD.2.1, hD.2.2⟩
theorem kSplL_ok {GP : Nat → List Int → List eE → Prop} {i n : Nat} {K : kS} {L : List kS} (h : kSplL i n K = some L) {ρ : List Int} {R : eR} (hD : kD GP ρ K R) : ∃ K' ∈ L, ∃ ρ', ρ <+: ρ' ∧ kD GP ρ' K' R := by
  unfold kSplL at h
  split at h
  · rename_i v hv
    split at h
    · rename_i h0
      obtain ⟨w, -, hw⟩ := hD.2.1.2.1 i v hv
      obtain ⟨t, x⟩ := v
      simp only at h0
      subst h0
      obtain ⟨z, hz, -⟩ := sVr_int hw
      exact kSpl_ok h hz hD
    · cases h
  · cases h
theorem kSplS_ok {GP : Nat → List Int → List eE → Prop} {i n : Nat} {K : kS} {L : List kS} (h : kSplS i n K = some L) {ρ : List Int} {R : eR} (hD : kD GP ρ K R) : ∃ K' ∈ L, ∃ ρ', ρ <+: ρ' ∧ kD GP ρ' K' R := by
  unfold kSplS at h
  split at h
  · rename_i v hv
    split at h
    · rename_i h0
      obtain ⟨w, -, hw⟩ := sVs_get hD.2.1.2.2.1 hv
      obtain ⟨t, x⟩ := v
      simp only at h0
      subst h0
      obtain ⟨z, hz, -⟩ := sVr_int hw
      exact kSpl_ok h hz hD
    · cases h
  · cases h
/-! Further steps that need no time. -/
/-- a number that can be no other -/
def kNrm (i : Nat) (K : kS) : Option (List kS) := match K with
  | ((pc, ls, st, G, c, s, Γ), γ) => (match sGetL ls i with
    | some (0, x) => (match sK Γ.1 x with
      | some k => some [((pc, (i, (0, sC k)) :: ls, st, G, c, s, Γ), γ)]
      | none => some [K])
    | _ => some [K])
theorem kNrm_ok {GP : Nat → List Int → List eE → Prop} {i : Nat} {K : kS} {L : List kS} (h : kNrm i K = some L) {ρ : List Int} {R : eR} (hD : kD GP ρ K R) : ∃ K' ∈ L, ∃ ρ', ρ <+: ρ' ∧ kD GP ρ' K' R := by
  obtain ⟨⟨pc, ls, st, G, c, s, Γ⟩, γ⟩ := K
  have same : ∃ K' ∈ [(((pc, ls, st, G, c, s, Γ), γ) : kS)], ∃ ρ', ρ <+: ρ' ∧ kD GP ρ' K' R := ⟨_, List.mem_singleton.mpr rfl, ρ, List.prefix_refl _, hD⟩
  simp only [kNrm] at h
  split at h
  · rename_i x hx
    split at h
    · rename_i k hk
      cases h
      refine ⟨_, List.mem_singleton.mpr rfl, ρ, List.prefix_refl _, hD.1, ⟨hD.2.1.1, fun j v hv => ?_, hD.2.1.2.2⟩, hD.2.2⟩
      by_cases hij : i = j
      · subst hij
        have hv : sGetL ((i, ((0, sC k) : sV)) :: ls) i = some v := hv
        rw [sGetL_hd] at hv
        cases hv
        obtain ⟨w, h1, h2⟩ := hD.2.1.2.1 i _ hx
        refine ⟨w, h1, ?_⟩
        obtain ⟨z, e1, rfl⟩ := sVr_int h2
        have := sK_ok hD.1.1 e1 hk
        subst this
        exact ⟨_, sEv_C _, rfl⟩
      · have hv : sGetL ((i, ((0, sC k) : sV)) :: ls) j = some v := hv
        rw [sGetL_tl hij] at hv
        exact hD.2.1.2.1 j v hv
    · cases h
      exact same
  · cases h
    exact same
/-- what can't be -/
def kPN (K : kS) : Option (List kS) := if K.1.2.2.2.2.2.2.2.2.1.any (fun f => sNN K.1.2.2.2.2.2.2 f && sNN K.1.2.2.2.2.2.2 (sMul (-1) f)) = true then some [] else some [K]
theorem kPN_ok {GP : Nat → List Int → List eE → Prop} {K : kS} {L : List kS} (h : kPN K = some L) {ρ : List Int} {R : eR} (hD : kD GP ρ K R) : ∃ K' ∈ L, ∃ ρ', ρ <+: ρ' ∧ kD GP ρ' K' R := by
  unfold kPN at h
  split at h
  · rename_i hc
    exfalso
    obtain ⟨f, hf, hc⟩ := List.any_eq_true.mp hc
    simp only [Bool.and_eq_true] at hc
    obtain ⟨z, e1, e2⟩ := hD.1.2.2.1 f hf
    have h1 := sNN_ok hD.1 e1 hc.1
    have h2 := sNN_ok hD.1 (sEv_mul (-1) e1) hc.2
    omega
  · cases h
    exact ⟨K, List.mem_singleton.mpr rfl, ρ, List.prefix_refl _, hD⟩
/-- whether a shelf holds a body or a row -/
def kSplH (s : Nat) (K : kS) : Option (List kS) := match kShz K.1.2.2.2.1 s with
  | some (h :: _) => if sIv K.1.2.2.2.2.2.2.1 h = some (1, 2) then kSpl h 3 K else some [K]
  | _ => some [K]
theorem kSplH_ok {GP : Nat → List Int → List eE → Prop} {s : Nat} {K : kS} {L : List kS} (h : kSplH s K = some L) {ρ : List Int} {R : eR} (hD : kD GP ρ K R) : ∃ K' ∈ L, ∃ ρ', ρ <+: ρ' ∧ kD GP ρ' K' R := by
  have same : ∃ K' ∈ [K], ∃ ρ', ρ <+: ρ' ∧ kD GP ρ' K' R := ⟨K, List.mem_singleton.mpr rfl, ρ, List.prefix_refl _, hD⟩
  unfold kSplH at h
  split at h
  · rename_i x r hx
    split at h
    · rename_i hi
      obtain ⟨z, hz⟩ := sIv_has hD.1.1 hi
      exact kSpl_ok h hz hD
    · cases h
      exact same
  · cases h
    exact same
/-- a told element, by another form of the same worth -/
def kOvr (G : List sE) (j s : Nat) (f : sL) : List sE := match G[j]? with
  | some (.inl (ty, n, b, ov)) => if (sLk ov s).isSome = true then G.set j (.inl (ty, n, b, ov.map (fun q => if q.1 = s then (s, f) else q))) else G
  | _ => G
theorem kLk_map (ov : List (Nat × sL)) (s : Nat) (f : sL) (i : Nat) : sLk (ov.map (fun q => if q.1 = s then (s, f) else q)) i = if i = s then (sLk ov s).map (fun _ => f) else sLk ov i := by
  induction ov with
  | nil => simp [sLk]
  | cons q r ih =>
    unfold sLk at ih ⊢
    simp only [List.map_cons, List.find?_cons]
    by_cases hq : q.1 = s
    · rw [if_pos hq]
      by_cases hi : i = s
      · subst hi
        simp [hq]
      · have h1 : (s == i) = false := by simp; omega
        have h2 : (q.1 == i) = false := by simp; omega
        rw [h1, h2, ih, if_neg hi, if_neg hi]
    · rw [if_neg hq]
      by_cases hi : i = s
      · subst hi
        have h2 : (q.1 == i) = false := by simp [hq]
        rw [h2, ih, if_pos rfl]
      · rw [if_neg hi]
        rw [if_neg hi] at ih
        cases q.1 == i with
        | true => rfl
        | false => exact ih
theorem kOvr_ok {ρ : List Int} {G : List sE} {H : List eE} (hH : sHp ρ G H) {j s : Nat} {f m : sL} {z : Int} (hm : kToldI G j s = some m) (em : sEv ρ m = some z) (hf : sEv ρ f = some z) : sHp ρ (kOvr G j s f) H := by
  unfold kOvr
  split
  · rename_i ty n b ov hg
    split
    · rename_i hsome
      obtain ⟨n', a, z', hy', hlt, e1, e2⟩ := kToldI_ok hH hm
      cases e1.symm.trans em
      obtain ⟨y, hy, hxy⟩ := sHp_get hH hg
      have hset : H.set j y = H := by
        apply List.ext_getElem?
        intro k
        by_cases hk : j = k
        · subst hk
          rw [List.getElem?_set_self (List.getElem?_eq_some_iff.mp hy).1, hy]
        · rw [List.getElem?_set_ne hk]
      rw [← hset]
      refine sHp_set ?_ j hH
      rw [hy'] at hy
      cases hy
      obtain ⟨rfl, rfl, h1, h2⟩ := hxy
      refine ⟨rfl, rfl, h1, fun i hi => ?_⟩
      have h3 := h2 i hi
      rw [kLk_map]
      by_cases his : i = s
      · subst his
        rw [if_pos rfl]
        obtain ⟨f0, hf0⟩ := Option.isSome_iff_exists.mp hsome
        rw [hf0]
        exact ⟨_, hf, e2⟩
      · rw [if_neg his]
        exact h3
    · exact hH
  · exact hH
/-- the reference's shelf, told by the class' numbers -/
def kSWs (s : Nat) (K : kS) : Option (List kS) := match K with
  | ((pc, ls, st, G, c, s0, Γ), γ) => (match kShz G s with
    | some [h, b, so, le, m, si, w] => if kHav γ 12 [h, b, so, le, m, si, w] = true then
        (if sK Γ.1 h = some 0 then some [((pc, ls, st, kOvr G 82 s (sC (-1)), c, s0, Γ), γ)]
        else if sK Γ.1 h = some 1 then some [((pc, ls, st, kOvr G 82 s b, c, s0, Γ), γ)]
        else if sK Γ.1 h = some 2 then some [((pc, ls, st, kOvr (kOvr G 82 s (sSub (sC (-2)) so)) 83 s le, c, s0, Γ), γ)]
        else some [K]) else some [K]
    | _ => some [K])
theorem kShz_told {G : List sE} {s : Nat} {h b so le m si w : sL} (hs : kShz G s = some [h, b, so, le, m, si, w]) : kToldI G 82 s = some m ∧ kToldI G 83 s = some si := by
  unfold kShz at hs
  split at hs
  · rename_i a1 a2 a3 a4 a5 a6 a7 h1 h2 h3 h4 h5 h6 h7
    cases hs
    exact ⟨h5, h6⟩
  · cases hs
theorem kOvr_ne {G : List sE} {j k s i : Nat} {f : sL} (h : j ≠ k) : kToldI (kOvr G j s f) k i = kToldI G k i := by
  unfold kOvr
  split
  · split
    · unfold kToldI
      rw [List.getElem?_set_ne h]
    · rfl
  · rfl
theorem kSWs_ok {RO : List (Nat × (Nat → Int32))} {s : Nat} {K : kS} {L : List kS} (h : kSWs s K = some L) {ρ : List Int} {R : eR} (hD : kD (kGP (kUP RO)) ρ K R) : ∃ K' ∈ L, ∃ ρ', ρ <+: ρ' ∧ kD (kGP (kUP RO)) ρ' K' R := by
  obtain ⟨⟨pc, ls, st, G, c, s0, Γ⟩, γ⟩ := K
  have same : ∃ K' ∈ [(((pc, ls, st, G, c, s0, Γ), γ) : kS)], ∃ ρ', ρ <+: ρ' ∧ kD (kGP (kUP RO)) ρ' K' R := ⟨_, List.mem_singleton.mpr rfl, ρ, List.prefix_refl _, hD⟩
  have hH := hD.2.1.2.2.2.1
  have put : ∀ {G' : List sE}, sHp ρ G' R.2.2.2.1 → ∃ K' ∈ [(((pc, ls, st, G', c, s0, Γ), γ) : kS)], ∃ ρ', ρ <+: ρ' ∧ kD (kGP (kUP RO)) ρ' K' R := fun h => ⟨_, List.mem_singleton.mpr rfl, ρ, List.prefix_refl _, hD.1, ⟨hD.2.1.1, hD.2.1.2.1, hD.2.1.2.2.1, h, hD.2.1.2.2.2.2⟩, hD.2.2⟩
  simp only [kSWs] at h
  split at h
  · rename_i xh b so le m si w hs
    obtain ⟨tm, ts⟩ := kShz_told hs
    split at h
    · rename_i hh
      obtain ⟨zs, e1, e2⟩ := kHav_ok hD.2.2 hh (by decide)
      obtain ⟨p, q, r, t, u, v, x, rfl, h1, h2, h3, h4, h5, h6, h7⟩ := sVal_7 e1
      obtain ⟨a1, a2, a3, a4, a5, a6, a7, he, hr⟩ : ∃ a1 a2 a3 a4 a5 a6 a7, [p, q, r, t, u, v, x] = [a1, a2, a3, a4, a5, a6, a7] ∧ kSHR a1 a2 a3 a4 a5 a6 a7 := e2
      cases he
      split at h
      · rename_i hz
        have := sK_ok hD.1.1 h1 hz
        have hu : u = -1 := by rcases hr with hr | hr | hr <;> omega
        subst hu
        cases h
        exact put (kOvr_ok hH tm h5 (sEv_C _))
      split at h
      · rename_i hz
        have := sK_ok hD.1.1 h1 hz
        have hu : u = q := by rcases hr with hr | hr | hr <;> omega
        subst hu
        cases h
        exact put (kOvr_ok hH tm h5 h2)
      split at h
      · rename_i hz
        have := sK_ok hD.1.1 h1 hz
        have hu : u = -2 - r := by rcases hr with hr | hr | hr <;> omega
        have hv : v = t := by rcases hr with hr | hr | hr <;> omega
        subst hu
        subst hv
        cases h
        exact put (kOvr_ok (kOvr_ok hH tm h5 (sEv_sub (sEv_C _) h3)) (by rw [kOvr_ne (by decide)]; exact ts) h6 h4)
      · cases h
        exact same
    · cases h
      exact same
  · cases h
    exact same
/-- a number on the stack: each of the first so many, below, above -/
def kSplV1 (x : sL) (K : kS) (b : Int × Int) : Option kS := match K with
  | ((pc, ls, st, G, c, s, Γ), γ) => (kAs Γ x b.1 b.2).map fun Γ' => ((pc, ls, st, G, c, s, Γ'), γ)
def kSplV (n : Nat) (K : kS) : Option (List kS) := match kTop K with
  | some x => (match sIv K.1.2.2.2.2.2.2.1 x with
    | some i => some (((List.range n).map (fun k : Nat => ((k : Int), (k : Int))) ++ [(i.1, -1), ((n : Int), i.2)]).filterMap (kSplV1 x K))
    | none => some [K])
  | none => some [K]
theorem kSplV_ok {GP : Nat → List Int → List eE → Prop} {n : Nat} {K : kS} {L : List kS} (h : kSplV n K = some L) {ρ : List Int} {R : eR} (hD : kD GP ρ K R) : ∃ K' ∈ L, ∃ ρ', ρ <+: ρ' ∧ kD GP ρ' K' R := by
  have same : ∃ K' ∈ [K], ∃ ρ', ρ <+: ρ' ∧ kD GP ρ' K' R := ⟨K, List.mem_singleton.mpr rfl, ρ, List.prefix_refl _, hD⟩
  unfold kSplV at h
  split at h
  · rename_i x hx
    split at h
    · rename_i i hi
      cases h
      obtain ⟨z, hz⟩ := sIv_has hD.1.1 hi
      have hb := sIv_ok hD.1.1 hz hi
      have key : ∀ b : Int × Int, b ∈ (List.range n).map (fun k : Nat => ((k : Int), (k : Int))) ++ [(i.1, -1), ((n : Int), i.2)] → b.1 ≤ z → z ≤ b.2 → ∃ K' ∈ ((List.range n).map (fun k : Nat => ((k : Int), (k : Int))) ++ [(i.1, -1), ((n : Int), i.2)]).filterMap (kSplV1 x K), ∃ ρ', ρ <+: ρ' ∧ kD GP ρ' K' R := fun b hbm h1 h2 => by
        obtain ⟨⟨pc, ls, st, G, c, s, Γ⟩, γ⟩ := K
        obtain ⟨Γ', e, m⟩ := kAs_ok hD.1 hz h1 h2
        exact ⟨((pc, ls, st, G, c, s, Γ'), γ), List.mem_filterMap.mpr ⟨b, hbm, by simp only [kSplV1]; rw [e]; rfl⟩, ρ, List.prefix_refl _, m, hD.2.1, hD.2.2⟩
      by_cases hneg : z ≤ -1
      · exact key (i.1, -1) (by simp) hb.1 hneg
      by_cases hbig : (n : Int) ≤ z
      · exact key ((n : Int), i.2) (by simp) hbig hb.2
      · refine key (z, z) (List.mem_append_left _ (List.mem_map.mpr ⟨z.toNat, List.mem_range.mpr (by omega), ?_⟩)) (Int.le_refl _) (Int.le_refl _)
        rw [show ((z.toNat : Nat) : Int) = z by omega]
    · cases h
      exact same
  · cases h
    exact same
/-! The consequences at their places. -/
def kF130 (j z : Nat) (K : kS) : Option sL := (kFf K.1.2.2.2.1 j z).map fun f => sAdd f (sC 130)
def kFst (K : kS) : Option sL := match K.1.2.2.1 with
  | v :: _ => if v.1 = 0 then some v.2 else none
  | [] => none
def kSWa : kS → Option (List kS) := kThen (kSWs 0) (kThen (kSWs 1) (kThen (kSWs 2) (kThen (kSWs 3) (kThen (kSWs 4) (kSWs 5)))))
def kOne (RO : List (Nat × (Nat → Int32))) (f : kS → Option (List kS)) : Prop := ∀ (K : kS) (L : List kS), f K = some L → ∀ (ρ : List Int) (R : eR), kD (kGP (kUP RO)) ρ K R → ∃ K' ∈ L, ∃ ρ', ρ <+: ρ' ∧ kD (kGP (kUP RO)) ρ' K' R
section KONE
variable {RO : List (Nat × (Nat → Int32))}
theorem kUP_1 {e : Int} {H : List eE} : kUP RO 1 [e] H ↔ kLog 15 14 16 17 e H := by
  constructor
  · intro h
    obtain ⟨e', h1, h2⟩ : ∃ e' : Int, [e] = [e'] ∧ kLog 15 14 16 17 e' H := h
    cases h1
    exact h2
  · intro h
    exact ⟨e, rfl, h⟩
theorem kUP_2 {e : Int} {H : List eE} : kUP RO 2 [e] H ↔ kLog 60 61 62 63 e H := by
  constructor
  · intro h
    obtain ⟨e', h1, h2⟩ : ∃ e' : Int, [e] = [e'] ∧ kLog 60 61 62 63 e' H := h
    cases h1
    exact h2
  · intro h
    exact ⟨e, rfl, h⟩
theorem kO_of {f : kS → Option (List kS)} (hf : ∀ {K : kS} {L : List kS}, f K = some L → ∀ {ρ : List Int} {R : eR}, kD (kGP (kUP RO)) ρ K R → ∃ K' ∈ L, ∃ ρ', ρ <+: ρ' ∧ kD (kGP (kUP RO)) ρ' K' R) : kOne RO f := fun _ _ h _ _ hD => hf h hD
theorem kO_splL (i n : Nat) : kOne RO (kSplL i n) := fun _ _ h _ _ hD => kSplL_ok h hD
theorem kO_splS (i n : Nat) : kOne RO (kSplS i n) := fun _ _ h _ _ hD => kSplS_ok h hD
theorem kO_app {r : kS → Option kWs} (hr : kRok RO r) : kOne RO (kApp r) := fun _ _ h _ _ hD => kApp_ok hr h hD
theorem kO_lg1 {pr cw ci cb ca cv : Nat} (hpr : pr < 1000) (hUP : ∀ e H, kUP RO pr [e] H → kLog cw ci cb ca e H) (hcv : cv = cb ∨ cv = ca) : kOne RO (kLg1 pr cw ci cv) := fun _ _ h _ _ hD => kLg1_ok hpr hUP hcv h hD
theorem kO_lg2 {pr cw ci cb ca : Nat} (hpr : pr < 1000) (hUP : ∀ e H, kUP RO pr [e] H ↔ kLog cw ci cb ca e H) : kOne RO (kLg2 pr cw ci cb ca) := fun _ _ h _ _ hD => kLg2_ok hpr hUP h hD
theorem kO_lg3 {pr cw ci cb ca : Nat} (hpr : pr < 1000) (hUP : ∀ e H, kUP RO pr [e] H ↔ kLog cw ci cb ca e H) : kOne RO (kLg3 pr cw ci cb ca) := fun _ _ h _ _ hD => kLg3_ok hpr hUP h hD
theorem kO_then {f g : kS → Option (List kS)} (hf : kOne RO f) (hg : kOne RO g) : kOne RO (kThen f g) := fun _ _ h _ _ hD => kThen_ok hf hg h hD
theorem kO_SWs (s : Nat) : kOne RO (kSWs s) := fun _ _ h _ _ hD => kSWs_ok h hD
theorem kO_SW : kOne RO kSWa := kO_then (kO_SWs 0) (kO_then (kO_SWs 1) (kO_then (kO_SWs 2) (kO_then (kO_SWs 3) (kO_then (kO_SWs 4) (kO_SWs 5)))))
theorem kO_id : kOne RO (fun K => some [K]) := fun K L h ρ R hD => by
  cases h
  exact ⟨K, List.mem_singleton.mpr rfl, ρ, List.prefix_refl _, hD⟩
theorem kO_0 : kOne RO (kWCr) := (fun _ _ h _ _ hD => kWCr_ok h hD)
theorem kO_1 : kOne RO (kWe 0 0) := (fun _ _ h _ _ hD => kWe_ok h hD)
theorem kO_2 : kOne RO (kWe 0 0) := (fun _ _ h _ _ hD => kWe_ok h hD)
theorem kO_3 : kOne RO (kWe 0 0) := (fun _ _ h _ _ hD => kWe_ok h hD)
theorem kO_4 : kOne RO (kNrm 1) := (fun _ _ h _ _ hD => kNrm_ok h hD)
theorem kO_5 : kOne RO (kWMr) := (fun _ _ h _ _ hD => kWMr_ok h hD)
theorem kO_6 : kOne RO (kWe 1 0) := (fun _ _ h _ _ hD => kWe_ok h hD)
theorem kO_7 : kOne RO (kWe 1 0) := (fun _ _ h _ _ hD => kWe_ok h hD)
theorem kO_8 : kOne RO (kWe 1 1) := (fun _ _ h _ _ hD => kWe_ok h hD)
theorem kO_9 : kOne RO (kThen (kLg1 2 60 61 62) (kLg1 2 60 61 63)) := (kO_then (kO_lg1 (cb := 62) (ca := 63) (by decide) (fun e H h => kUP_2.mp h) (by decide)) (kO_lg1 (cb := 62) (ca := 63) (by decide) (fun e H h => kUP_2.mp h) (by decide)))
theorem kO_10 : kOne RO (kThen (kLg1 2 60 61 62) (kLg1 2 60 61 63)) := (kO_then (kO_lg1 (cb := 62) (ca := 63) (by decide) (fun e H h => kUP_2.mp h) (by decide)) (kO_lg1 (cb := 62) (ca := 63) (by decide) (fun e H h => kUP_2.mp h) (by decide)))
theorem kO_11 : kOne RO (kThen (kLg1 2 60 61 62) (kLg1 2 60 61 63)) := (kO_then (kO_lg1 (cb := 62) (ca := 63) (by decide) (fun e H h => kUP_2.mp h) (by decide)) (kO_lg1 (cb := 62) (ca := 63) (by decide) (fun e H h => kUP_2.mp h) (by decide)))
theorem kO_12 : kOne RO (kThen (kLg1 2 60 61 62) (kLg1 2 60 61 63)) := (kO_then (kO_lg1 (cb := 62) (ca := 63) (by decide) (fun e H h => kUP_2.mp h) (by decide)) (kO_lg1 (cb := 62) (ca := 63) (by decide) (fun e H h => kUP_2.mp h) (by decide)))
theorem kO_13 : kOne RO (kThen (kLg1 2 60 61 62) (kLg1 2 60 61 63)) := (kO_then (kO_lg1 (cb := 62) (ca := 63) (by decide) (fun e H h => kUP_2.mp h) (by decide)) (kO_lg1 (cb := 62) (ca := 63) (by decide) (fun e H h => kUP_2.mp h) (by decide)))
theorem kO_14 : kOne RO (kThen (kLg1 2 60 61 62) (kLg1 2 60 61 63)) := (kO_then (kO_lg1 (cb := 62) (ca := 63) (by decide) (fun e H h => kUP_2.mp h) (by decide)) (kO_lg1 (cb := 62) (ca := 63) (by decide) (fun e H h => kUP_2.mp h) (by decide)))
theorem kO_15 : kOne RO (kSplL 1 10) := (kO_splL 1 10)
theorem kO_16 : kOne RO (kThen (kLg1 2 60 61 62) (kLg1 2 60 61 63)) := (kO_then (kO_lg1 (cb := 62) (ca := 63) (by decide) (fun e H h => kUP_2.mp h) (by decide)) (kO_lg1 (cb := 62) (ca := 63) (by decide) (fun e H h => kUP_2.mp h) (by decide)))
theorem kO_17 : kOne RO (kLg3 2 60 61 62 63) := (kO_lg3 (by decide) (fun e H => kUP_2))
theorem kO_18 : kOne RO (kLg2 2 60 61 62 63) := (kO_lg2 (by decide) (fun e H => kUP_2))
theorem kO_19 : kOne RO (kSplL 2 10) := (kO_splL 2 10)
theorem kO_20 : kOne RO (kApp kR4) := (kO_app kR4_ok)
theorem kO_21 : kOne RO (kThen (kApp (kR0 [(5, [sC 0, sC 0])])) (kApp (kR5 (kF130 52 21)))) := (kO_then (kO_app kR0a) (kO_app (kR5_ok _)))
theorem kO_22 : kOne RO (kThen (kApp kR8) (kApp (kR5 (kF130 52 21)))) := (kO_then (kO_app kR8_ok) (kO_app (kR5_ok _)))
theorem kO_23 : kOne RO (kThen (kApp kR8) (kApp kR6)) := (kO_then (kO_app kR8_ok) (kO_app kR6_ok))
theorem kO_24 : kOne RO (kApp (kR0 [(6, [sC 0, sC 0])])) := (kO_app kR0d)
theorem kO_25 : kOne RO (kApp (kR0 [(8, [sC 0])])) := (kO_app kR0b)
theorem kO_26 : kOne RO (kApp (kR9 8 65 66 130)) := (kO_app kR9a)
theorem kO_27 : kOne RO (kApp (kR15 52 21)) := (kO_app (kR15_ok 52 21))
theorem kO_28 : kOne RO (kApp (kR0 [(9, [sC 0])])) := (kO_app kR0c)
theorem kO_29 : kOne RO (kApp (kR9 9 68 69 61)) := (kO_app kR9b)
theorem kO_30 : kOne RO (kApp kR7) := (kO_app kR7_ok)
theorem kO_31 : kOne RO (kApp (kR5 kFst)) := (kO_app (kR5_ok _))
theorem kO_32 : kOne RO (kApp (kR11 5)) := (kO_app (kR11_ok 5))
theorem kO_33 : kOne RO (kApp (kR12 5)) := (kO_app (kR12_ok 5))
theorem kO_34 : kOne RO (kApp kR4) := (kO_app kR4_ok)
theorem kO_35 : kOne RO (kApp (kR0 [(10, [sC 0, sC 0])])) := (kO_app kR0e)
theorem kO_36 : kOne RO (kApp kR10) := (kO_app kR10_ok)
theorem kO_37 : kOne RO (kApp kR10) := (kO_app kR10_ok)
theorem kO_38 : kOne RO (kApp kR10) := (kO_app kR10_ok)
theorem kO_39 : kOne RO (kThen (kSplL 0 8) (kSplL 1 8)) := (kO_then (kO_splL 0 8) (kO_splL 1 8))
theorem kO_40 : kOne RO (kApp kIS) := (kO_app kIS_ok)
theorem kO_41 : kOne RO (kApp kIE) := (kO_app kIE_ok)
theorem kO_42 : kOne RO (kApp kIE) := (kO_app kIE_ok)
theorem kO_43 : kOne RO (kNrm 1) := (fun _ _ h _ _ hD => kNrm_ok h hD)
theorem kO_44 : kOne RO (kApp kZRr) := (kO_app kZRr_ok)
theorem kO_45 : kOne RO (kApp kZRe) := (kO_app kZRe_ok)
theorem kO_46 : kOne RO (kNrm 1) := (fun _ _ h _ _ hD => kNrm_ok h hD)
theorem kO_47 : kOne RO (kNrm 1) := (fun _ _ h _ _ hD => kNrm_ok h hD)
theorem kO_48 : kOne RO (kThen (kNrm 1) (kNrm 3)) := (kO_then (fun _ _ h _ _ hD => kNrm_ok h hD) (fun _ _ h _ _ hD => kNrm_ok h hD))
theorem kO_49 : kOne RO (kPN) := (fun _ _ h _ _ hD => kPN_ok h hD)
theorem kO_50 : kOne RO (kApp kBFr) := (kO_app kBFr_ok)
theorem kO_51 : kOne RO (kApp kL2i) := (kO_app kL2i_ok)
theorem kO_52 : kOne RO (kApp kL2e) := (kO_app kL2e_ok)
theorem kO_53 : kOne RO (kApp kIU) := (kO_app kIU_ok)
theorem kO_54 : kOne RO (kThen (kSplL 0 8) (kSplL 1 8)) := (kO_then (kO_splL 0 8) (kO_splL 1 8))
theorem kO_55 : kOne RO (kApp kIS) := (kO_app kIS_ok)
theorem kO_56 : kOne RO (kSplL 2 4) := (kO_splL 2 4)
theorem kO_57 : kOne RO (kSplS 0 8) := (kO_splS 0 8)
theorem kO_58 : kOne RO (kLg2 1 15 14 16 17) := (kO_lg2 (by decide) (fun e H => kUP_1))
theorem kO_59 : kOne RO (kLg1 1 15 14 16) := (kO_lg1 (cb := 16) (ca := 17) (by decide) (fun e H h => kUP_1.mp h) (by decide))
theorem kO_60 : kOne RO (kLg1 1 15 14 17) := (kO_lg1 (cb := 16) (ca := 17) (by decide) (fun e H h => kUP_1.mp h) (by decide))
theorem kO_61 : kOne RO (kApp kZCr) := (kO_app kZCr_ok)
theorem kO_62 : kOne RO (kApp kZCe) := (kO_app kZCe_ok)
theorem kO_63 : kOne RO (kThen (kApp kRI) (kThen (kApp kRJ) (kThen (kApp kRE) (kThen (kApp kSM) (kThen (kApp kK1) (kThen (kApp kEZ) (kApp kK1E))))))) := (kO_then (kO_app kRI_ok) (kO_then (kO_app kRJ_ok) (kO_then (kO_app kRE_ok) (kO_then (kO_app kSM_ok) (kO_then (kO_app kK1_ok) (kO_then (kO_app kEZ_ok) (kO_app kK1E_ok)))))))
theorem kO_64 : kOne RO (kThen (kSplH 0) (kThen (kSplH 1) (kThen (kSplH 2) (kThen (kSplH 3) (kThen (kSplH 4) (kThen (kSplH 5) (kThen (kApp kSU) (kThen (kSWa) (kThen (kApp kK2) (kThen (kApp kK3) (kThen (kApp kT2) (kThen (kApp kTEr) (kApp kWX))))))))))))) := (kO_then (fun _ _ h _ _ hD => kSplH_ok h hD) (kO_then (fun _ _ h _ _ hD => kSplH_ok h hD) (kO_then (fun _ _ h _ _ hD => kSplH_ok h hD) (kO_then (fun _ _ h _ _ hD => kSplH_ok h hD) (kO_then (fun _ _ h _ _ hD => kSplH_ok h hD) (kO_then (fun _ _ h _ _ hD => kSplH_ok h hD) (kO_then (kO_app kSU_ok) (kO_then (kO_SW) (kO_then (kO_app kK2_ok) (kO_then (kO_app kK3_ok) (kO_then (kO_app kT2_ok) (kO_then (kO_app kTEr_ok) (kO_app kWX_ok)))))))))))))
theorem kO_65 : kOne RO (kThen (kSplH 0) (kThen (kSplH 1) (kThen (kSplH 2) (kThen (kSplH 3) (kThen (kSplH 4) (kThen (kSplH 5) (kThen (kApp kSU) (kThen (kSWa) (kThen (kApp kK2) (kThen (kApp kK3) (kThen (kApp kT2) (kThen (kApp kTEr) (kApp kWX))))))))))))) := (kO_then (fun _ _ h _ _ hD => kSplH_ok h hD) (kO_then (fun _ _ h _ _ hD => kSplH_ok h hD) (kO_then (fun _ _ h _ _ hD => kSplH_ok h hD) (kO_then (fun _ _ h _ _ hD => kSplH_ok h hD) (kO_then (fun _ _ h _ _ hD => kSplH_ok h hD) (kO_then (fun _ _ h _ _ hD => kSplH_ok h hD) (kO_then (kO_app kSU_ok) (kO_then (kO_SW) (kO_then (kO_app kK2_ok) (kO_then (kO_app kK3_ok) (kO_then (kO_app kT2_ok) (kO_then (kO_app kTEr_ok) (kO_app kWX_ok)))))))))))))
theorem kO_66 : kOne RO (kThen (kSplH 0) (kThen (kSplH 1) (kThen (kSplH 2) (kThen (kSplH 3) (kThen (kSplH 4) (kThen (kSplH 5) (kThen (kApp kSU) (kThen (kSWa) (kThen (kApp kK2) (kThen (kApp kK3) (kThen (kApp kT2) (kThen (kApp kTEr) (kApp kWX))))))))))))) := (kO_then (fun _ _ h _ _ hD => kSplH_ok h hD) (kO_then (fun _ _ h _ _ hD => kSplH_ok h hD) (kO_then (fun _ _ h _ _ hD => kSplH_ok h hD) (kO_then (fun _ _ h _ _ hD => kSplH_ok h hD) (kO_then (fun _ _ h _ _ hD => kSplH_ok h hD) (kO_then (fun _ _ h _ _ hD => kSplH_ok h hD) (kO_then (kO_app kSU_ok) (kO_then (kO_SW) (kO_then (kO_app kK2_ok) (kO_then (kO_app kK3_ok) (kO_then (kO_app kT2_ok) (kO_then (kO_app kTEr_ok) (kO_app kWX_ok)))))))))))))
theorem kO_67 : kOne RO (kThen (kSplH 0) (kThen (kSplH 1) (kThen (kSplH 2) (kThen (kSplH 3) (kThen (kSplH 4) (kThen (kSplH 5) (kThen (kApp kSU) (kThen (kSWa) (kThen (kApp kK2) (kThen (kApp kK3) (kThen (kApp kT2) (kThen (kApp kTEr) (kApp kWX))))))))))))) := (kO_then (fun _ _ h _ _ hD => kSplH_ok h hD) (kO_then (fun _ _ h _ _ hD => kSplH_ok h hD) (kO_then (fun _ _ h _ _ hD => kSplH_ok h hD) (kO_then (fun _ _ h _ _ hD => kSplH_ok h hD) (kO_then (fun _ _ h _ _ hD => kSplH_ok h hD) (kO_then (fun _ _ h _ _ hD => kSplH_ok h hD) (kO_then (kO_app kSU_ok) (kO_then (kO_SW) (kO_then (kO_app kK2_ok) (kO_then (kO_app kK3_ok) (kO_then (kO_app kT2_ok) (kO_then (kO_app kTEr_ok) (kO_app kWX_ok)))))))))))))
theorem kO_68 : kOne RO (kThen (kSplH 0) (kThen (kSplH 1) (kThen (kSplH 2) (kThen (kSplH 3) (kThen (kSplH 4) (kThen (kSplH 5) (kThen (kApp kSU) (kThen (kSWa) (kThen (kApp kK2) (kThen (kApp kK3) (kThen (kApp kT2) (kThen (kApp kTEr) (kApp kWX))))))))))))) := (kO_then (fun _ _ h _ _ hD => kSplH_ok h hD) (kO_then (fun _ _ h _ _ hD => kSplH_ok h hD) (kO_then (fun _ _ h _ _ hD => kSplH_ok h hD) (kO_then (fun _ _ h _ _ hD => kSplH_ok h hD) (kO_then (fun _ _ h _ _ hD => kSplH_ok h hD) (kO_then (fun _ _ h _ _ hD => kSplH_ok h hD) (kO_then (kO_app kSU_ok) (kO_then (kO_SW) (kO_then (kO_app kK2_ok) (kO_then (kO_app kK3_ok) (kO_then (kO_app kT2_ok) (kO_then (kO_app kTEr_ok) (kO_app kWX_ok)))))))))))))
theorem kO_69 : kOne RO (kThen (kSplH 0) (kThen (kSplH 1) (kThen (kSplH 2) (kThen (kSplH 3) (kThen (kSplH 4) (kThen (kSplH 5) (kThen (kApp kSU) (kThen (kSWa) (kThen (kApp kK2) (kThen (kApp kK3) (kThen (kApp kT2) (kThen (kApp kTEr) (kApp kWX))))))))))))) := (kO_then (fun _ _ h _ _ hD => kSplH_ok h hD) (kO_then (fun _ _ h _ _ hD => kSplH_ok h hD) (kO_then (fun _ _ h _ _ hD => kSplH_ok h hD) (kO_then (fun _ _ h _ _ hD => kSplH_ok h hD) (kO_then (fun _ _ h _ _ hD => kSplH_ok h hD) (kO_then (fun _ _ h _ _ hD => kSplH_ok h hD) (kO_then (kO_app kSU_ok) (kO_then (kO_SW) (kO_then (kO_app kK2_ok) (kO_then (kO_app kK3_ok) (kO_then (kO_app kT2_ok) (kO_then (kO_app kTEr_ok) (kO_app kWX_ok)))))))))))))
theorem kO_70 : kOne RO (kThen (kSplH 0) (kThen (kSplH 1) (kThen (kSplH 2) (kThen (kSplH 3) (kThen (kSplH 4) (kThen (kSplH 5) (kThen (kApp kSU) (kThen (kSWa) (kThen (kApp kK2) (kThen (kApp kK3) (kThen (kApp kT2) (kThen (kApp kTEr) (kApp kWX))))))))))))) := (kO_then (fun _ _ h _ _ hD => kSplH_ok h hD) (kO_then (fun _ _ h _ _ hD => kSplH_ok h hD) (kO_then (fun _ _ h _ _ hD => kSplH_ok h hD) (kO_then (fun _ _ h _ _ hD => kSplH_ok h hD) (kO_then (fun _ _ h _ _ hD => kSplH_ok h hD) (kO_then (fun _ _ h _ _ hD => kSplH_ok h hD) (kO_then (kO_app kSU_ok) (kO_then (kO_SW) (kO_then (kO_app kK2_ok) (kO_then (kO_app kK3_ok) (kO_then (kO_app kT2_ok) (kO_then (kO_app kTEr_ok) (kO_app kWX_ok)))))))))))))
theorem kO_71 : kOne RO (kThen (kSplH 0) (kThen (kSplH 1) (kThen (kSplH 2) (kThen (kSplH 3) (kThen (kSplH 4) (kThen (kSplH 5) (kThen (kApp kSU) (kThen (kSWa) (kThen (kApp kK2) (kThen (kApp kK3) (kThen (kApp kT2) (kThen (kApp kTEr) (kApp kWX))))))))))))) := (kO_then (fun _ _ h _ _ hD => kSplH_ok h hD) (kO_then (fun _ _ h _ _ hD => kSplH_ok h hD) (kO_then (fun _ _ h _ _ hD => kSplH_ok h hD) (kO_then (fun _ _ h _ _ hD => kSplH_ok h hD) (kO_then (fun _ _ h _ _ hD => kSplH_ok h hD) (kO_then (fun _ _ h _ _ hD => kSplH_ok h hD) (kO_then (kO_app kSU_ok) (kO_then (kO_SW) (kO_then (kO_app kK2_ok) (kO_then (kO_app kK3_ok) (kO_then (kO_app kT2_ok) (kO_then (kO_app kTEr_ok) (kO_app kWX_ok)))))))))))))
theorem kO_72 : kOne RO (kThen (kSplH 0) (kThen (kSplH 1) (kThen (kSplH 2) (kThen (kSplH 3) (kThen (kSplH 4) (kThen (kSplH 5) (kThen (kApp kSU) (kThen (kSWa) (kThen (kApp kK2) (kThen (kApp kK3) (kThen (kApp kT2) (kThen (kApp kTEr) (kApp kWX))))))))))))) := (kO_then (fun _ _ h _ _ hD => kSplH_ok h hD) (kO_then (fun _ _ h _ _ hD => kSplH_ok h hD) (kO_then (fun _ _ h _ _ hD => kSplH_ok h hD) (kO_then (fun _ _ h _ _ hD => kSplH_ok h hD) (kO_then (fun _ _ h _ _ hD => kSplH_ok h hD) (kO_then (fun _ _ h _ _ hD => kSplH_ok h hD) (kO_then (kO_app kSU_ok) (kO_then (kO_SW) (kO_then (kO_app kK2_ok) (kO_then (kO_app kK3_ok) (kO_then (kO_app kT2_ok) (kO_then (kO_app kTEr_ok) (kO_app kWX_ok)))))))))))))
theorem kO_73 : kOne RO (kThen (kSplH 0) (kThen (kSplH 1) (kThen (kSplH 2) (kThen (kSplH 3) (kThen (kSplH 4) (kThen (kSplH 5) (kThen (kApp kSU) (kThen (kSWa) (kThen (kApp kK2) (kThen (kApp kK3) (kThen (kApp kT2) (kThen (kApp kTEr) (kApp kWX))))))))))))) := (kO_then (fun _ _ h _ _ hD => kSplH_ok h hD) (kO_then (fun _ _ h _ _ hD => kSplH_ok h hD) (kO_then (fun _ _ h _ _ hD => kSplH_ok h hD) (kO_then (fun _ _ h _ _ hD => kSplH_ok h hD) (kO_then (fun _ _ h _ _ hD => kSplH_ok h hD) (kO_then (fun _ _ h _ _ hD => kSplH_ok h hD) (kO_then (kO_app kSU_ok) (kO_then (kO_SW) (kO_then (kO_app kK2_ok) (kO_then (kO_app kK3_ok) (kO_then (kO_app kT2_ok) (kO_then (kO_app kTEr_ok) (kO_app kWX_ok)))))))))))))
theorem kO_74 : kOne RO (kThen (kSplH 0) (kThen (kSplH 1) (kThen (kSplH 2) (kThen (kSplH 3) (kThen (kSplH 4) (kThen (kSplH 5) (kThen (kApp kSU) (kThen (kSWa) (kThen (kApp kK2) (kThen (kApp kK3) (kThen (kApp kT2) (kThen (kApp kTEr) (kApp kWX))))))))))))) := (kO_then (fun _ _ h _ _ hD => kSplH_ok h hD) (kO_then (fun _ _ h _ _ hD => kSplH_ok h hD) (kO_then (fun _ _ h _ _ hD => kSplH_ok h hD) (kO_then (fun _ _ h _ _ hD => kSplH_ok h hD) (kO_then (fun _ _ h _ _ hD => kSplH_ok h hD) (kO_then (fun _ _ h _ _ hD => kSplH_ok h hD) (kO_then (kO_app kSU_ok) (kO_then (kO_SW) (kO_then (kO_app kK2_ok) (kO_then (kO_app kK3_ok) (kO_then (kO_app kT2_ok) (kO_then (kO_app kTEr_ok) (kO_app kWX_ok)))))))))))))
theorem kO_75 : kOne RO (kThen (kSplH 0) (kThen (kSplH 1) (kThen (kSplH 2) (kThen (kSplH 3) (kThen (kSplH 4) (kThen (kSplH 5) (kThen (kApp kSU) (kThen (kSWa) (kThen (kApp kK2) (kThen (kApp kK3) (kThen (kApp kT2) (kThen (kApp kTEr) (kApp kWX))))))))))))) := (kO_then (fun _ _ h _ _ hD => kSplH_ok h hD) (kO_then (fun _ _ h _ _ hD => kSplH_ok h hD) (kO_then (fun _ _ h _ _ hD => kSplH_ok h hD) (kO_then (fun _ _ h _ _ hD => kSplH_ok h hD) (kO_then (fun _ _ h _ _ hD => kSplH_ok h hD) (kO_then (fun _ _ h _ _ hD => kSplH_ok h hD) (kO_then (kO_app kSU_ok) (kO_then (kO_SW) (kO_then (kO_app kK2_ok) (kO_then (kO_app kK3_ok) (kO_then (kO_app kT2_ok) (kO_then (kO_app kTEr_ok) (kO_app kWX_ok)))))))))))))
theorem kO_76 : kOne RO (kThen (kSplH 0) (kThen (kSplH 1) (kThen (kSplH 2) (kThen (kSplH 3) (kThen (kSplH 4) (kThen (kSplH 5) (kThen (kApp kSU) (kThen (kSWa) (kThen (kApp kK2) (kThen (kApp kK3) (kThen (kApp kT2) (kThen (kApp kTEr) (kApp kWX))))))))))))) := (kO_then (fun _ _ h _ _ hD => kSplH_ok h hD) (kO_then (fun _ _ h _ _ hD => kSplH_ok h hD) (kO_then (fun _ _ h _ _ hD => kSplH_ok h hD) (kO_then (fun _ _ h _ _ hD => kSplH_ok h hD) (kO_then (fun _ _ h _ _ hD => kSplH_ok h hD) (kO_then (fun _ _ h _ _ hD => kSplH_ok h hD) (kO_then (kO_app kSU_ok) (kO_then (kO_SW) (kO_then (kO_app kK2_ok) (kO_then (kO_app kK3_ok) (kO_then (kO_app kT2_ok) (kO_then (kO_app kTEr_ok) (kO_app kWX_ok)))))))))))))
theorem kO_77 : kOne RO (kThen (kSplH 0) (kThen (kSplH 1) (kThen (kSplH 2) (kThen (kSplH 3) (kThen (kSplH 4) (kThen (kSplH 5) (kThen (kApp kSU) (kThen (kSWa) (kThen (kApp kK2) (kThen (kApp kK3) (kThen (kApp kT2) (kThen (kApp kTEr) (kApp kWX))))))))))))) := (kO_then (fun _ _ h _ _ hD => kSplH_ok h hD) (kO_then (fun _ _ h _ _ hD => kSplH_ok h hD) (kO_then (fun _ _ h _ _ hD => kSplH_ok h hD) (kO_then (fun _ _ h _ _ hD => kSplH_ok h hD) (kO_then (fun _ _ h _ _ hD => kSplH_ok h hD) (kO_then (fun _ _ h _ _ hD => kSplH_ok h hD) (kO_then (kO_app kSU_ok) (kO_then (kO_SW) (kO_then (kO_app kK2_ok) (kO_then (kO_app kK3_ok) (kO_then (kO_app kT2_ok) (kO_then (kO_app kTEr_ok) (kO_app kWX_ok)))))))))))))
theorem kO_78 : kOne RO (kThen (kSplH 0) (kThen (kSplH 1) (kThen (kSplH 2) (kThen (kSplH 3) (kThen (kSplH 4) (kThen (kSplH 5) (kThen (kApp kSU) (kThen (kSWa) (kThen (kApp kK2) (kThen (kApp kK3) (kThen (kApp kT2) (kThen (kApp kTEr) (kApp kWX))))))))))))) := (kO_then (fun _ _ h _ _ hD => kSplH_ok h hD) (kO_then (fun _ _ h _ _ hD => kSplH_ok h hD) (kO_then (fun _ _ h _ _ hD => kSplH_ok h hD) (kO_then (fun _ _ h _ _ hD => kSplH_ok h hD) (kO_then (fun _ _ h _ _ hD => kSplH_ok h hD) (kO_then (fun _ _ h _ _ hD => kSplH_ok h hD) (kO_then (kO_app kSU_ok) (kO_then (kO_SW) (kO_then (kO_app kK2_ok) (kO_then (kO_app kK3_ok) (kO_then (kO_app kT2_ok) (kO_then (kO_app kTEr_ok) (kO_app kWX_ok)))))))))))))
theorem kO_79 : kOne RO (kThen (kSplH 0) (kThen (kSplH 1) (kThen (kSplH 2) (kThen (kSplH 3) (kThen (kSplH 4) (kThen (kSplH 5) (kThen (kApp kSU) (kThen (kSWa) (kThen (kApp kK2) (kThen (kApp kK3) (kThen (kApp kT2) (kThen (kApp kTEr) (kApp kWX))))))))))))) := (kO_then (fun _ _ h _ _ hD => kSplH_ok h hD) (kO_then (fun _ _ h _ _ hD => kSplH_ok h hD) (kO_then (fun _ _ h _ _ hD => kSplH_ok h hD) (kO_then (fun _ _ h _ _ hD => kSplH_ok h hD) (kO_then (fun _ _ h _ _ hD => kSplH_ok h hD) (kO_then (fun _ _ h _ _ hD => kSplH_ok h hD) (kO_then (kO_app kSU_ok) (kO_then (kO_SW) (kO_then (kO_app kK2_ok) (kO_then (kO_app kK3_ok) (kO_then (kO_app kT2_ok) (kO_then (kO_app kTEr_ok) (kO_app kWX_ok)))))))))))))
theorem kO_80 : kOne RO (kThen (kSplH 0) (kThen (kSplH 1) (kThen (kSplH 2) (kThen (kSplH 3) (kThen (kSplH 4) (kThen (kSplH 5) (kThen (kApp kSU) (kThen (kSWa) (kThen (kApp kK2) (kThen (kApp kK3) (kThen (kApp kT2) (kThen (kApp kTEr) (kApp kWX))))))))))))) := (kO_then (fun _ _ h _ _ hD => kSplH_ok h hD) (kO_then (fun _ _ h _ _ hD => kSplH_ok h hD) (kO_then (fun _ _ h _ _ hD => kSplH_ok h hD) (kO_then (fun _ _ h _ _ hD => kSplH_ok h hD) (kO_then (fun _ _ h _ _ hD => kSplH_ok h hD) (kO_then (fun _ _ h _ _ hD => kSplH_ok h hD) (kO_then (kO_app kSU_ok) (kO_then (kO_SW) (kO_then (kO_app kK2_ok) (kO_then (kO_app kK3_ok) (kO_then (kO_app kT2_ok) (kO_then (kO_app kTEr_ok) (kO_app kWX_ok)))))))))))))
theorem kO_81 : kOne RO (kThen (kSplH 0) (kThen (kSplH 1) (kThen (kSplH 2) (kThen (kSplH 3) (kThen (kSplH 4) (kThen (kSplH 5) (kThen (kApp kSU) (kThen (kSWa) (kThen (kApp kK2) (kThen (kApp kK3) (kThen (kApp kT2) (kThen (kApp kTEr) (kApp kWX))))))))))))) := (kO_then (fun _ _ h _ _ hD => kSplH_ok h hD) (kO_then (fun _ _ h _ _ hD => kSplH_ok h hD) (kO_then (fun _ _ h _ _ hD => kSplH_ok h hD) (kO_then (fun _ _ h _ _ hD => kSplH_ok h hD) (kO_then (fun _ _ h _ _ hD => kSplH_ok h hD) (kO_then (fun _ _ h _ _ hD => kSplH_ok h hD) (kO_then (kO_app kSU_ok) (kO_then (kO_SW) (kO_then (kO_app kK2_ok) (kO_then (kO_app kK3_ok) (kO_then (kO_app kT2_ok) (kO_then (kO_app kTEr_ok) (kO_app kWX_ok)))))))))))))
theorem kO_82 : kOne RO (kThen (kSplH 0) (kThen (kSplH 1) (kThen (kSplH 2) (kThen (kSplH 3) (kThen (kSplH 4) (kThen (kSplH 5) (kThen (kApp kSU) (kThen (kSWa) (kThen (kApp kK2) (kThen (kApp kK3) (kThen (kApp kT2) (kThen (kApp kTEr) (kApp kWX))))))))))))) := (kO_then (fun _ _ h _ _ hD => kSplH_ok h hD) (kO_then (fun _ _ h _ _ hD => kSplH_ok h hD) (kO_then (fun _ _ h _ _ hD => kSplH_ok h hD) (kO_then (fun _ _ h _ _ hD => kSplH_ok h hD) (kO_then (fun _ _ h _ _ hD => kSplH_ok h hD) (kO_then (fun _ _ h _ _ hD => kSplH_ok h hD) (kO_then (kO_app kSU_ok) (kO_then (kO_SW) (kO_then (kO_app kK2_ok) (kO_then (kO_app kK3_ok) (kO_then (kO_app kT2_ok) (kO_then (kO_app kTEr_ok) (kO_app kWX_ok)))))))))))))
theorem kO_83 : kOne RO (kThen (kSplH 0) (kThen (kSplH 1) (kThen (kSplH 2) (kThen (kSplH 3) (kThen (kSplH 4) (kThen (kSplH 5) (kThen (kApp kSU) (kThen (kSWa) (kThen (kApp kK2) (kThen (kApp kK3) (kThen (kApp kT2) (kThen (kApp kTEr) (kApp kWX))))))))))))) := (kO_then (fun _ _ h _ _ hD => kSplH_ok h hD) (kO_then (fun _ _ h _ _ hD => kSplH_ok h hD) (kO_then (fun _ _ h _ _ hD => kSplH_ok h hD) (kO_then (fun _ _ h _ _ hD => kSplH_ok h hD) (kO_then (fun _ _ h _ _ hD => kSplH_ok h hD) (kO_then (fun _ _ h _ _ hD => kSplH_ok h hD) (kO_then (kO_app kSU_ok) (kO_then (kO_SW) (kO_then (kO_app kK2_ok) (kO_then (kO_app kK3_ok) (kO_then (kO_app kT2_ok) (kO_then (kO_app kTEr_ok) (kO_app kWX_ok)))))))))))))
theorem kO_84 : kOne RO (kThen (kSplH 0) (kThen (kSplH 1) (kThen (kSplH 2) (kThen (kSplH 3) (kThen (kSplH 4) (kThen (kSplH 5) (kThen (kApp kSU) (kThen (kSWa) (kThen (kApp kK2) (kThen (kApp kK3) (kThen (kApp kT2) (kThen (kApp kTEr) (kApp kWX))))))))))))) := (kO_then (fun _ _ h _ _ hD => kSplH_ok h hD) (kO_then (fun _ _ h _ _ hD => kSplH_ok h hD) (kO_then (fun _ _ h _ _ hD => kSplH_ok h hD) (kO_then (fun _ _ h _ _ hD => kSplH_ok h hD) (kO_then (fun _ _ h _ _ hD => kSplH_ok h hD) (kO_then (fun _ _ h _ _ hD => kSplH_ok h hD) (kO_then (kO_app kSU_ok) (kO_then (kO_SW) (kO_then (kO_app kK2_ok) (kO_then (kO_app kK3_ok) (kO_then (kO_app kT2_ok) (kO_then (kO_app kTEr_ok) (kO_app kWX_ok)))))))))))))
theorem kO_85 : kOne RO (kThen (kSplH 0) (kThen (kSplH 1) (kThen (kSplH 2) (kThen (kSplH 3) (kThen (kSplH 4) (kThen (kSplH 5) (kThen (kApp kSU) (kThen (kSWa) (kThen (kApp kK2) (kThen (kApp kK3) (kThen (kApp kT2) (kThen (kApp kTEr) (kApp kWX))))))))))))) := (kO_then (fun _ _ h _ _ hD => kSplH_ok h hD) (kO_then (fun _ _ h _ _ hD => kSplH_ok h hD) (kO_then (fun _ _ h _ _ hD => kSplH_ok h hD) (kO_then (fun _ _ h _ _ hD => kSplH_ok h hD) (kO_then (fun _ _ h _ _ hD => kSplH_ok h hD) (kO_then (fun _ _ h _ _ hD => kSplH_ok h hD) (kO_then (kO_app kSU_ok) (kO_then (kO_SW) (kO_then (kO_app kK2_ok) (kO_then (kO_app kK3_ok) (kO_then (kO_app kT2_ok) (kO_then (kO_app kTEr_ok) (kO_app kWX_ok)))))))))))))
theorem kO_86 : kOne RO (kThen (kSplH 0) (kThen (kSplH 1) (kThen (kSplH 2) (kThen (kSplH 3) (kThen (kSplH 4) (kThen (kSplH 5) (kThen (kApp kSU) (kThen (kSWa) (kThen (kApp kK2) (kThen (kApp kK3) (kThen (kApp kT2) (kThen (kApp kTEr) (kApp kWX))))))))))))) := (kO_then (fun _ _ h _ _ hD => kSplH_ok h hD) (kO_then (fun _ _ h _ _ hD => kSplH_ok h hD) (kO_then (fun _ _ h _ _ hD => kSplH_ok h hD) (kO_then (fun _ _ h _ _ hD => kSplH_ok h hD) (kO_then (fun _ _ h _ _ hD => kSplH_ok h hD) (kO_then (fun _ _ h _ _ hD => kSplH_ok h hD) (kO_then (kO_app kSU_ok) (kO_then (kO_SW) (kO_then (kO_app kK2_ok) (kO_then (kO_app kK3_ok) (kO_then (kO_app kT2_ok) (kO_then (kO_app kTEr_ok) (kO_app kWX_ok)))))))))))))
theorem kO_87 : kOne RO (kThen (kSplH 0) (kThen (kSplH 1) (kThen (kSplH 2) (kThen (kSplH 3) (kThen (kSplH 4) (kThen (kSplH 5) (kThen (kApp kSU) (kThen (kSWa) (kThen (kApp kK2) (kThen (kApp kK3) (kThen (kApp kT2) (kThen (kApp kTEr) (kApp kWX))))))))))))) := (kO_then (fun _ _ h _ _ hD => kSplH_ok h hD) (kO_then (fun _ _ h _ _ hD => kSplH_ok h hD) (kO_then (fun _ _ h _ _ hD => kSplH_ok h hD) (kO_then (fun _ _ h _ _ hD => kSplH_ok h hD) (kO_then (fun _ _ h _ _ hD => kSplH_ok h hD) (kO_then (fun _ _ h _ _ hD => kSplH_ok h hD) (kO_then (kO_app kSU_ok) (kO_then (kO_SW) (kO_then (kO_app kK2_ok) (kO_then (kO_app kK3_ok) (kO_then (kO_app kT2_ok) (kO_then (kO_app kTEr_ok) (kO_app kWX_ok)))))))))))))
theorem kO_88 : kOne RO (kThen (kSplH 0) (kThen (kSplH 1) (kThen (kSplH 2) (kThen (kSplH 3) (kThen (kSplH 4) (kThen (kSplH 5) (kThen (kApp kSU) (kThen (kSWa) (kThen (kApp kK2) (kThen (kApp kK3) (kThen (kApp kT2) (kThen (kApp kTEr) (kApp kWX))))))))))))) := (kO_then (fun _ _ h _ _ hD => kSplH_ok h hD) (kO_then (fun _ _ h _ _ hD => kSplH_ok h hD) (kO_then (fun _ _ h _ _ hD => kSplH_ok h hD) (kO_then (fun _ _ h _ _ hD => kSplH_ok h hD) (kO_then (fun _ _ h _ _ hD => kSplH_ok h hD) (kO_then (fun _ _ h _ _ hD => kSplH_ok h hD) (kO_then (kO_app kSU_ok) (kO_then (kO_SW) (kO_then (kO_app kK2_ok) (kO_then (kO_app kK3_ok) (kO_then (kO_app kT2_ok) (kO_then (kO_app kTEr_ok) (kO_app kWX_ok)))))))))))))
theorem kO_89 : kOne RO (kThen (kSplH 0) (kThen (kSplH 1) (kThen (kSplH 2) (kThen (kSplH 3) (kThen (kSplH 4) (kThen (kSplH 5) (kThen (kApp kSU) (kThen (kSWa) (kThen (kApp kK2) (kThen (kApp kK3) (kThen (kApp kT2) (kThen (kApp kTEr) (kApp kWX))))))))))))) := (kO_then (fun _ _ h _ _ hD => kSplH_ok h hD) (kO_then (fun _ _ h _ _ hD => kSplH_ok h hD) (kO_then (fun _ _ h _ _ hD => kSplH_ok h hD) (kO_then (fun _ _ h _ _ hD => kSplH_ok h hD) (kO_then (fun _ _ h _ _ hD => kSplH_ok h hD) (kO_then (fun _ _ h _ _ hD => kSplH_ok h hD) (kO_then (kO_app kSU_ok) (kO_then (kO_SW) (kO_then (kO_app kK2_ok) (kO_then (kO_app kK3_ok) (kO_then (kO_app kT2_ok) (kO_then (kO_app kTEr_ok) (kO_app kWX_ok)))))))))))))
theorem kO_90 : kOne RO (kThen (kSplH 0) (kThen (kSplH 1) (kThen (kSplH 2) (kThen (kSplH 3) (kThen (kSplH 4) (kThen (kSplH 5) (kThen (kApp kSU) (kThen (kSWa) (kThen (kApp kK2) (kThen (kApp kK3) (kThen (kApp kT2) (kThen (kApp kTEr) (kApp kWX))))))))))))) := (kO_then (fun _ _ h _ _ hD => kSplH_ok h hD) (kO_then (fun _ _ h _ _ hD => kSplH_ok h hD) (kO_then (fun _ _ h _ _ hD => kSplH_ok h hD) (kO_then (fun _ _ h _ _ hD => kSplH_ok h hD) (kO_then (fun _ _ h _ _ hD => kSplH_ok h hD) (kO_then (fun _ _ h _ _ hD => kSplH_ok h hD) (kO_then (kO_app kSU_ok) (kO_then (kO_SW) (kO_then (kO_app kK2_ok) (kO_then (kO_app kK3_ok) (kO_then (kO_app kT2_ok) (kO_then (kO_app kTEr_ok) (kO_app kWX_ok)))))))))))))
theorem kO_91 : kOne RO (kThen (kSplH 0) (kThen (kSplH 1) (kThen (kSplH 2) (kThen (kSplH 3) (kThen (kSplH 4) (kThen (kSplH 5) (kThen (kApp kSU) (kThen (kSWa) (kThen (kApp kK2) (kThen (kApp kK3) (kThen (kApp kT2) (kThen (kApp kTEr) (kApp kWX))))))))))))) := (kO_then (fun _ _ h _ _ hD => kSplH_ok h hD) (kO_then (fun _ _ h _ _ hD => kSplH_ok h hD) (kO_then (fun _ _ h _ _ hD => kSplH_ok h hD) (kO_then (fun _ _ h _ _ hD => kSplH_ok h hD) (kO_then (fun _ _ h _ _ hD => kSplH_ok h hD) (kO_then (fun _ _ h _ _ hD => kSplH_ok h hD) (kO_then (kO_app kSU_ok) (kO_then (kO_SW) (kO_then (kO_app kK2_ok) (kO_then (kO_app kK3_ok) (kO_then (kO_app kT2_ok) (kO_then (kO_app kTEr_ok) (kO_app kWX_ok)))))))))))))
theorem kO_92 : kOne RO (kThen (kSplH 0) (kThen (kSplH 1) (kThen (kSplH 2) (kThen (kSplH 3) (kThen (kSplH 4) (kThen (kSplH 5) (kThen (kApp kSU) (kThen (kSWa) (kThen (kApp kK2) (kThen (kApp kK3) (kThen (kApp kT2) (kThen (kApp kTEr) (kApp kWX))))))))))))) := (kO_then (fun _ _ h _ _ hD => kSplH_ok h hD) (kO_then (fun _ _ h _ _ hD => kSplH_ok h hD) (kO_then (fun _ _ h _ _ hD => kSplH_ok h hD) (kO_then (fun _ _ h _ _ hD => kSplH_ok h hD) (kO_then (fun _ _ h _ _ hD => kSplH_ok h hD) (kO_then (fun _ _ h _ _ hD => kSplH_ok h hD) (kO_then (kO_app kSU_ok) (kO_then (kO_SW) (kO_then (kO_app kK2_ok) (kO_then (kO_app kK3_ok) (kO_then (kO_app kT2_ok) (kO_then (kO_app kTEr_ok) (kO_app kWX_ok)))))))))))))
theorem kO_93 : kOne RO (kThen (kSplH 0) (kThen (kSplH 1) (kThen (kSplH 2) (kThen (kSplH 3) (kThen (kSplH 4) (kThen (kSplH 5) (kThen (kApp kSU) (kThen (kSWa) (kThen (kApp kK2) (kThen (kApp kK3) (kThen (kApp kT2) (kThen (kApp kTEr) (kApp kWX))))))))))))) := (kO_then (fun _ _ h _ _ hD => kSplH_ok h hD) (kO_then (fun _ _ h _ _ hD => kSplH_ok h hD) (kO_then (fun _ _ h _ _ hD => kSplH_ok h hD) (kO_then (fun _ _ h _ _ hD => kSplH_ok h hD) (kO_then (fun _ _ h _ _ hD => kSplH_ok h hD) (kO_then (fun _ _ h _ _ hD => kSplH_ok h hD) (kO_then (kO_app kSU_ok) (kO_then (kO_SW) (kO_then (kO_app kK2_ok) (kO_then (kO_app kK3_ok) (kO_then (kO_app kT2_ok) (kO_then (kO_app kTEr_ok) (kO_app kWX_ok)))))))))))))
theorem kO_94 : kOne RO (kThen (kSplH 0) (kThen (kSplH 1) (kThen (kSplH 2) (kThen (kSplH 3) (kThen (kSplH 4) (kThen (kSplH 5) (kThen (kApp kSU) (kThen (kSWa) (kThen (kApp kK2) (kThen (kApp kK3) (kThen (kApp kT2) (kThen (kApp kTEr) (kApp kWX))))))))))))) := (kO_then (fun _ _ h _ _ hD => kSplH_ok h hD) (kO_then (fun _ _ h _ _ hD => kSplH_ok h hD) (kO_then (fun _ _ h _ _ hD => kSplH_ok h hD) (kO_then (fun _ _ h _ _ hD => kSplH_ok h hD) (kO_then (fun _ _ h _ _ hD => kSplH_ok h hD) (kO_then (fun _ _ h _ _ hD => kSplH_ok h hD) (kO_then (kO_app kSU_ok) (kO_then (kO_SW) (kO_then (kO_app kK2_ok) (kO_then (kO_app kK3_ok) (kO_then (kO_app kT2_ok) (kO_then (kO_app kTEr_ok) (kO_app kWX_ok)))))))))))))
theorem kO_95 : kOne RO (kThen (kSplH 0) (kThen (kSplH 1) (kThen (kSplH 2) (kThen (kSplH 3) (kThen (kSplH 4) (kThen (kSplH 5) (kThen (kApp kSU) (kThen (kSWa) (kThen (kApp kK2) (kThen (kApp kK3) (kThen (kApp kT2) (kThen (kApp kTEr) (kApp kWX))))))))))))) := (kO_then (fun _ _ h _ _ hD => kSplH_ok h hD) (kO_then (fun _ _ h _ _ hD => kSplH_ok h hD) (kO_then (fun _ _ h _ _ hD => kSplH_ok h hD) (kO_then (fun _ _ h _ _ hD => kSplH_ok h hD) (kO_then (fun _ _ h _ _ hD => kSplH_ok h hD) (kO_then (fun _ _ h _ _ hD => kSplH_ok h hD) (kO_then (kO_app kSU_ok) (kO_then (kO_SW) (kO_then (kO_app kK2_ok) (kO_then (kO_app kK3_ok) (kO_then (kO_app kT2_ok) (kO_then (kO_app kTEr_ok) (kO_app kWX_ok)))))))))))))
theorem kO_96 : kOne RO (kThen (kSplH 0) (kThen (kSplH 1) (kThen (kSplH 2) (kThen (kSplH 3) (kThen (kSplH 4) (kThen (kSplH 5) (kThen (kApp kSU) (kThen (kSWa) (kThen (kApp kK2) (kThen (kApp kK3) (kThen (kApp kT2) (kThen (kApp kTEr) (kApp kWX))))))))))))) := (kO_then (fun _ _ h _ _ hD => kSplH_ok h hD) (kO_then (fun _ _ h _ _ hD => kSplH_ok h hD) (kO_then (fun _ _ h _ _ hD => kSplH_ok h hD) (kO_then (fun _ _ h _ _ hD => kSplH_ok h hD) (kO_then (fun _ _ h _ _ hD => kSplH_ok h hD) (kO_then (fun _ _ h _ _ hD => kSplH_ok h hD) (kO_then (kO_app kSU_ok) (kO_then (kO_SW) (kO_then (kO_app kK2_ok) (kO_then (kO_app kK3_ok) (kO_then (kO_app kT2_ok) (kO_then (kO_app kTEr_ok) (kO_app kWX_ok)))))))))))))
theorem kO_97 : kOne RO (kThen (kSplH 0) (kThen (kSplH 1) (kThen (kSplH 2) (kThen (kSplH 3) (kThen (kSplH 4) (kThen (kSplH 5) (kThen (kApp kSU) (kThen (kSWa) (kThen (kApp kK2) (kThen (kApp kK3) (kThen (kApp kT2) (kThen (kApp kTEr) (kApp kWX))))))))))))) := (kO_then (fun _ _ h _ _ hD => kSplH_ok h hD) (kO_then (fun _ _ h _ _ hD => kSplH_ok h hD) (kO_then (fun _ _ h _ _ hD => kSplH_ok h hD) (kO_then (fun _ _ h _ _ hD => kSplH_ok h hD) (kO_then (fun _ _ h _ _ hD => kSplH_ok h hD) (kO_then (fun _ _ h _ _ hD => kSplH_ok h hD) (kO_then (kO_app kSU_ok) (kO_then (kO_SW) (kO_then (kO_app kK2_ok) (kO_then (kO_app kK3_ok) (kO_then (kO_app kT2_ok) (kO_then (kO_app kTEr_ok) (kO_app kWX_ok)))))))))))))
theorem kO_98 : kOne RO (kThen (kSplH 0) (kThen (kSplH 1) (kThen (kSplH 2) (kThen (kSplH 3) (kThen (kSplH 4) (kThen (kSplH 5) (kThen (kApp kSU) (kThen (kSWa) (kThen (kApp kK2) (kThen (kApp kK3) (kThen (kApp kT2) (kThen (kApp kTEr) (kApp kWX))))))))))))) := (kO_then (fun _ _ h _ _ hD => kSplH_ok h hD) (kO_then (fun _ _ h _ _ hD => kSplH_ok h hD) (kO_then (fun _ _ h _ _ hD => kSplH_ok h hD) (kO_then (fun _ _ h _ _ hD => kSplH_ok h hD) (kO_then (fun _ _ h _ _ hD => kSplH_ok h hD) (kO_then (fun _ _ h _ _ hD => kSplH_ok h hD) (kO_then (kO_app kSU_ok) (kO_then (kO_SW) (kO_then (kO_app kK2_ok) (kO_then (kO_app kK3_ok) (kO_then (kO_app kT2_ok) (kO_then (kO_app kTEr_ok) (kO_app kWX_ok)))))))))))))
theorem kO_99 : kOne RO (kThen (kSplH 0) (kThen (kSplH 1) (kThen (kSplH 2) (kThen (kSplH 3) (kThen (kSplH 4) (kThen (kSplH 5) (kThen (kApp kSU) (kThen (kSWa) (kThen (kApp kK2) (kThen (kApp kK3) (kThen (kApp kT2) (kThen (kApp kTEr) (kApp kWX))))))))))))) := (kO_then (fun _ _ h _ _ hD => kSplH_ok h hD) (kO_then (fun _ _ h _ _ hD => kSplH_ok h hD) (kO_then (fun _ _ h _ _ hD => kSplH_ok h hD) (kO_then (fun _ _ h _ _ hD => kSplH_ok h hD) (kO_then (fun _ _ h _ _ hD => kSplH_ok h hD) (kO_then (fun _ _ h _ _ hD => kSplH_ok h hD) (kO_then (kO_app kSU_ok) (kO_then (kO_SW) (kO_then (kO_app kK2_ok) (kO_then (kO_app kK3_ok) (kO_then (kO_app kT2_ok) (kO_then (kO_app kTEr_ok) (kO_app kWX_ok)))))))))))))
theorem kO_100 : kOne RO (kThen (kSplH 0) (kThen (kSplH 1) (kThen (kSplH 2) (kThen (kSplH 3) (kThen (kSplH 4) (kThen (kSplH 5) (kThen (kApp kSU) (kThen (kSWa) (kThen (kApp kK2) (kThen (kApp kK3) (kThen (kApp kT2) (kThen (kApp kTEr) (kApp kWX))))))))))))) := (kO_then (fun _ _ h _ _ hD => kSplH_ok h hD) (kO_then (fun _ _ h _ _ hD => kSplH_ok h hD) (kO_then (fun _ _ h _ _ hD => kSplH_ok h hD) (kO_then (fun _ _ h _ _ hD => kSplH_ok h hD) (kO_then (fun _ _ h _ _ hD => kSplH_ok h hD) (kO_then (fun _ _ h _ _ hD => kSplH_ok h hD) (kO_then (kO_app kSU_ok) (kO_then (kO_SW) (kO_then (kO_app kK2_ok) (kO_then (kO_app kK3_ok) (kO_then (kO_app kT2_ok) (kO_then (kO_app kTEr_ok) (kO_app kWX_ok)))))))))))))
theorem kO_101 : kOne RO (kThen (kSplH 0) (kThen (kSplH 1) (kThen (kSplH 2) (kThen (kSplH 3) (kThen (kSplH 4) (kThen (kSplH 5) (kThen (kApp kSU) (kThen (kSWa) (kThen (kApp kK2) (kThen (kApp kK3) (kThen (kApp kT2) (kThen (kApp kTEr) (kApp kWX))))))))))))) := (kO_then (fun _ _ h _ _ hD => kSplH_ok h hD) (kO_then (fun _ _ h _ _ hD => kSplH_ok h hD) (kO_then (fun _ _ h _ _ hD => kSplH_ok h hD) (kO_then (fun _ _ h _ _ hD => kSplH_ok h hD) (kO_then (fun _ _ h _ _ hD => kSplH_ok h hD) (kO_then (fun _ _ h _ _ hD => kSplH_ok h hD) (kO_then (kO_app kSU_ok) (kO_then (kO_SW) (kO_then (kO_app kK2_ok) (kO_then (kO_app kK3_ok) (kO_then (kO_app kT2_ok) (kO_then (kO_app kTEr_ok) (kO_app kWX_ok)))))))))))))
theorem kO_102 : kOne RO (kThen (kSplH 0) (kThen (kSplH 1) (kThen (kSplH 2) (kThen (kSplH 3) (kThen (kSplH 4) (kThen (kSplH 5) (kThen (kApp kSU) (kThen (kSWa) (kThen (kApp kK2) (kThen (kApp kK3) (kThen (kApp kT2) (kThen (kApp kTEr) (kApp kWX))))))))))))) := (kO_then (fun _ _ h _ _ hD => kSplH_ok h hD) (kO_then (fun _ _ h _ _ hD => kSplH_ok h hD) (kO_then (fun _ _ h _ _ hD => kSplH_ok h hD) (kO_then (fun _ _ h _ _ hD => kSplH_ok h hD) (kO_then (fun _ _ h _ _ hD => kSplH_ok h hD) (kO_then (fun _ _ h _ _ hD => kSplH_ok h hD) (kO_then (kO_app kSU_ok) (kO_then (kO_SW) (kO_then (kO_app kK2_ok) (kO_then (kO_app kK3_ok) (kO_then (kO_app kT2_ok) (kO_then (kO_app kTEr_ok) (kO_app kWX_ok)))))))))))))
theorem kO_103 : kOne RO (kThen (kSplH 0) (kThen (kSplH 1) (kThen (kSplH 2) (kThen (kSplH 3) (kThen (kSplH 4) (kThen (kSplH 5) (kThen (kApp kSU) (kThen (kSWa) (kThen (kApp kK2) (kThen (kApp kK3) (kThen (kApp kT2) (kThen (kApp kTEr) (kApp kWX))))))))))))) := (kO_then (fun _ _ h _ _ hD => kSplH_ok h hD) (kO_then (fun _ _ h _ _ hD => kSplH_ok h hD) (kO_then (fun _ _ h _ _ hD => kSplH_ok h hD) (kO_then (fun _ _ h _ _ hD => kSplH_ok h hD) (kO_then (fun _ _ h _ _ hD => kSplH_ok h hD) (kO_then (fun _ _ h _ _ hD => kSplH_ok h hD) (kO_then (kO_app kSU_ok) (kO_then (kO_SW) (kO_then (kO_app kK2_ok) (kO_then (kO_app kK3_ok) (kO_then (kO_app kT2_ok) (kO_then (kO_app kTEr_ok) (kO_app kWX_ok)))))))))))))
theorem kO_104 : kOne RO (kThen (kSplH 0) (kThen (kSplH 1) (kThen (kSplH 2) (kThen (kSplH 3) (kThen (kSplH 4) (kThen (kSplH 5) (kThen (kApp kSU) (kThen (kSWa) (kThen (kApp kK2) (kThen (kApp kK3) (kThen (kApp kT2) (kThen (kApp kTEr) (kApp kWX))))))))))))) := (kO_then (fun _ _ h _ _ hD => kSplH_ok h hD) (kO_then (fun _ _ h _ _ hD => kSplH_ok h hD) (kO_then (fun _ _ h _ _ hD => kSplH_ok h hD) (kO_then (fun _ _ h _ _ hD => kSplH_ok h hD) (kO_then (fun _ _ h _ _ hD => kSplH_ok h hD) (kO_then (fun _ _ h _ _ hD => kSplH_ok h hD) (kO_then (kO_app kSU_ok) (kO_then (kO_SW) (kO_then (kO_app kK2_ok) (kO_then (kO_app kK3_ok) (kO_then (kO_app kT2_ok) (kO_then (kO_app kTEr_ok) (kO_app kWX_ok)))))))))))))
theorem kO_105 : kOne RO (kThen (kSplH 0) (kThen (kSplH 1) (kThen (kSplH 2) (kThen (kSplH 3) (kThen (kSplH 4) (kThen (kSplH 5) (kThen (kApp kSU) (kThen (kSWa) (kThen (kApp kK2) (kThen (kApp kK3) (kThen (kApp kT2) (kThen (kApp kTEr) (kApp kWX))))))))))))) := (kO_then (fun _ _ h _ _ hD => kSplH_ok h hD) (kO_then (fun _ _ h _ _ hD => kSplH_ok h hD) (kO_then (fun _ _ h _ _ hD => kSplH_ok h hD) (kO_then (fun _ _ h _ _ hD => kSplH_ok h hD) (kO_then (fun _ _ h _ _ hD => kSplH_ok h hD) (kO_then (fun _ _ h _ _ hD => kSplH_ok h hD) (kO_then (kO_app kSU_ok) (kO_then (kO_SW) (kO_then (kO_app kK2_ok) (kO_then (kO_app kK3_ok) (kO_then (kO_app kT2_ok) (kO_then (kO_app kTEr_ok) (kO_app kWX_ok)))))))))))))
theorem kO_106 : kOne RO (kThen (kSplH 0) (kThen (kSplH 1) (kThen (kSplH 2) (kThen (kSplH 3) (kThen (kSplH 4) (kThen (kSplH 5) (kThen (kApp kSU) (kThen (kSWa) (kThen (kApp kK2) (kThen (kApp kK3) (kThen (kApp kT2) (kThen (kApp kTEr) (kApp kWX))))))))))))) := (kO_then (fun _ _ h _ _ hD => kSplH_ok h hD) (kO_then (fun _ _ h _ _ hD => kSplH_ok h hD) (kO_then (fun _ _ h _ _ hD => kSplH_ok h hD) (kO_then (fun _ _ h _ _ hD => kSplH_ok h hD) (kO_then (fun _ _ h _ _ hD => kSplH_ok h hD) (kO_then (fun _ _ h _ _ hD => kSplH_ok h hD) (kO_then (kO_app kSU_ok) (kO_then (kO_SW) (kO_then (kO_app kK2_ok) (kO_then (kO_app kK3_ok) (kO_then (kO_app kT2_ok) (kO_then (kO_app kTEr_ok) (kO_app kWX_ok)))))))))))))
end KONE
def kHKx (mi pc : Nat) (K : kS) : Option (List kS) := (if mi = 3 then (if pc = 9 then (kWCr) K else (if pc = 28 then (kWe 0 0) K else (if pc = 91 then (kWe 0 0) K else (if pc = 106 then (kWe 0 0) K else some [K])))) else (if mi = 60 then (if pc = 0 then (kNrm 1) K else (if pc = 58 then (kWMr) K else (if pc = 109 then (kWe 1 0) K else (if pc = 177 then (kWe 1 0) K else (if pc = 218 then (kWe 1 1) K else some [K]))))) else (if mi = 63 then (if pc = 46 then (kThen (kLg1 2 60 61 62) (kLg1 2 60 61 63)) K else (if pc = 56 then (kThen (kLg1 2 60 61 62) (kLg1 2 60 61 63)) K else (if pc = 66 then (kThen (kLg1 2 60 61 62) (kLg1 2 60 61 63)) K else (if pc = 76 then (kThen (kLg1 2 60 61 62) (kLg1 2 60 61 63)) K else (if pc = 86 then (kThen (kLg1 2 60 61 62) (kLg1 2 60 61 63)) K else (if pc = 96 then (kThen (kLg1 2 60 61 62) (kLg1 2 60 61 63)) K else (if pc = 100 then (kSplL 1 10) K else (if pc = 109 then (kThen (kLg1 2 60 61 62) (kLg1 2 60 61 63)) K else some [K])))))))) else (if mi = 64 then (if pc = 105 then (kLg3 2 60 61 62 63) K else (if pc = 162 then (kLg2 2 60 61 62 63) K else some [K])) else (if mi = 69 then (if pc = 17 then (kSplL 2 10) K else some [K]) else (if mi = 74 then (if pc = 29 then (kApp kR4) K else some [K]) else (if mi = 84 then (if pc = 21 then (kThen (kApp (kR0 [(5, [sC 0, sC 0])])) (kApp (kR5 (kF130 52 21)))) K else (if pc = 62 then (kThen (kApp kR8) (kApp (kR5 (kF130 52 21)))) K else (if pc = 87 then (kThen (kApp kR8) (kApp kR6)) K else some [K]))) else (if mi = 85 then (if pc = 27 then (kApp (kR0 [(6, [sC 0, sC 0])])) K else (if pc = 103 then (kApp (kR0 [(8, [sC 0])])) K else (if pc = 157 then (kApp (kR9 8 65 66 130)) K else (if pc = 163 then (kApp (kR15 52 21)) K else (if pc = 175 then (kApp (kR0 [(9, [sC 0])])) K else (if pc = 227 then (kApp (kR9 9 68 69 61)) K else (if pc = 233 then (kApp kR7) K else some [K]))))))) else (if mi = 87 then (if pc = 10 then (kApp (kR5 kFst)) K else (if pc = 33 then (kApp (kR11 5)) K else (if pc = 78 then (kApp (kR12 5)) K else (if pc = 182 then (kApp kR4) K else some [K])))) else (if mi = 88 then (if pc = 6 then (kApp (kR0 [(10, [sC 0, sC 0])])) K else (if pc = 41 then (kApp kR10) K else (if pc = 61 then (kApp kR10) K else (if pc = 71 then (kApp kR10) K else some [K])))) else (if mi = 148 then (if pc = 0 then (kThen (kSplL 0 8) (kSplL 1 8)) K else (if pc = 61 then (kApp kIS) K else some [K])) else (if mi = 151 then (if pc = 10 then (kApp kIE) K else some [K]) else (if mi = 154 then (if pc = 10 then (kApp kIE) K else some [K]) else (if mi = 164 then (if pc = 0 then (kNrm 1) K else (if pc = 54 then (kApp kZRr) K else (if pc = 80 then (kApp kZRe) K else some [K]))) else (if mi = 166 then (if pc = 0 then (kNrm 1) K else some [K]) else (if mi = 167 then (if pc = 0 then (kNrm 1) K else some [K]) else (if mi = 168 then (if pc = 0 then (kThen (kNrm 1) (kNrm 3)) K else (if pc = 63 then (kPN) K else (if pc = 113 then (kApp kBFr) K else (if pc = 150 then (kApp kL2i) K else (if pc = 185 then (kApp kL2e) K else some [K]))))) else (if mi = 169 then (if pc = 56 then (kApp kIU) K else some [K]) else (if mi = 172 then (if pc = 0 then (kThen (kSplL 0 8) (kSplL 1 8)) K else (if pc = 44 then (kApp kIS) K else some [K])) else (if mi = 177 then (if pc = 24 then (kSplL 2 4) K else (if pc = 31 then (kSplS 0 8) K else some [K])) else (if mi = 200 then (if pc = 74 then (kLg2 1 15 14 16 17) K else some [K]) else (if mi = 202 then (if pc = 55 then (kLg1 1 15 14 16) K else some [K]) else (if mi = 203 then (if pc = 35 then (kLg1 1 15 14 17) K else some [K]) else (if mi = 257 then (if pc = 17 then (kApp kZCr) K else (if pc = 36 then (kApp kZCe) K else some [K])) else (if mi = 280 then (if pc = 18 then (kThen (kApp kRI) (kThen (kApp kRJ) (kThen (kApp kRE) (kThen (kApp kSM) (kThen (kApp kK1) (kThen (kApp kEZ) (kApp kK1E))))))) K else (if pc = 234 then (kThen (kSplH 0) (kThen (kSplH 1) (kThen (kSplH 2) (kThen (kSplH 3) (kThen (kSplH 4) (kThen (kSplH 5) (kThen (kApp kSU) (kThen (kSWa) (kThen (kApp kK2) (kThen (kApp kK3) (kThen (kApp kT2) (kThen (kApp kTEr) (kApp kWX))))))))))))) K else (if pc = 272 then (kThen (kSplH 0) (kThen (kSplH 1) (kThen (kSplH 2) (kThen (kSplH 3) (kThen (kSplH 4) (kThen (kSplH 5) (kThen (kApp kSU) (kThen (kSWa) (kThen (kApp kK2) (kThen (kApp kK3) (kThen (kApp kT2) (kThen (kApp kTEr) (kApp kWX))))))))))))) K else (if pc = 305 then (kThen (kSplH 0) (kThen (kSplH 1) (kThen (kSplH 2) (kThen (kSplH 3) (kThen (kSplH 4) (kThen (kSplH 5) (kThen (kApp kSU) (kThen (kSWa) (kThen (kApp kK2) (kThen (kApp kK3) (kThen (kApp kT2) (kThen (kApp kTEr) (kApp kWX))))))))))))) K else (if pc = 338 then (kThen (kSplH 0) (kThen (kSplH 1) (kThen (kSplH 2) (kThen (kSplH 3) (kThen (kSplH 4) (kThen (kSplH 5) (kThen (kApp kSU) (kThen (kSWa) (kThen (kApp kK2) (kThen (kApp kK3) (kThen (kApp kT2) (kThen (kApp kTEr) (kApp kWX))))))))))))) K else (if pc = 376 then (kThen (kSplH 0) (kThen (kSplH 1) (kThen (kSplH 2) (kThen (kSplH 3) (kThen (kSplH 4) (kThen (kSplH 5) (kThen (kApp kSU) (kThen (kSWa) (kThen (kApp kK2) (kThen (kApp kK3) (kThen (kApp kT2) (kThen (kApp kTEr) (kApp kWX))))))))))))) K else (if pc = 404 then (kThen (kSplH 0) (kThen (kSplH 1) (kThen (kSplH 2) (kThen (kSplH 3) (kThen (kSplH 4) (kThen (kSplH 5) (kThen (kApp kSU) (kThen (kSWa) (kThen (kApp kK2) (kThen (kApp kK3) (kThen (kApp kT2) (kThen (kApp kTEr) (kApp kWX))))))))))))) K else (if pc = 422 then (kThen (kSplH 0) (kThen (kSplH 1) (kThen (kSplH 2) (kThen (kSplH 3) (kThen (kSplH 4) (kThen (kSplH 5) (kThen (kApp kSU) (kThen (kSWa) (kThen (kApp kK2) (kThen (kApp kK3) (kThen (kApp kT2) (kThen (kApp kTEr) (kApp kWX))))))))))))) K else (if pc = 450 then (kThen (kSplH 0) (kThen (kSplH 1) (kThen (kSplH 2) (kThen (kSplH 3) (kThen (kSplH 4) (kThen (kSplH 5) (kThen (kApp kSU) (kThen (kSWa) (kThen (kApp kK2) (kThen (kApp kK3) (kThen (kApp kT2) (kThen (kApp kTEr) (kApp kWX))))))))))))) K else (if pc = 493 then (kThen (kSplH 0) (kThen (kSplH 1) (kThen (kSplH 2) (kThen (kSplH 3) (kThen (kSplH 4) (kThen (kSplH 5) (kThen (kApp kSU) (kThen (kSWa) (kThen (kApp kK2) (kThen (kApp kK3) (kThen (kApp kT2) (kThen (kApp kTEr) (kApp kWX))))))))))))) K else (if pc = 531 then (kThen (kSplH 0) (kThen (kSplH 1) (kThen (kSplH 2) (kThen (kSplH 3) (kThen (kSplH 4) (kThen (kSplH 5) (kThen (kApp kSU) (kThen (kSWa) (kThen (kApp kK2) (kThen (kApp kK3) (kThen (kApp kT2) (kThen (kApp kTEr) (kApp kWX))))))))))))) K else (if pc = 564 then (kThen (kSplH 0) (kThen (kSplH 1) (kThen (kSplH 2) (kThen (kSplH 3) (kThen (kSplH 4) (kThen (kSplH 5) (kThen (kApp kSU) (kThen (kSWa) (kThen (kApp kK2) (kThen (kApp kK3) (kThen (kApp kT2) (kThen (kApp kTEr) (kApp kWX))))))))))))) K else (if pc = 597 then (kThen (kSplH 0) (kThen (kSplH 1) (kThen (kSplH 2) (kThen (kSplH 3) (kThen (kSplH 4) (kThen (kSplH 5) (kThen (kApp kSU) (kThen (kSWa) (kThen (kApp kK2) (kThen (kApp kK3) (kThen (kApp kT2) (kThen (kApp kTEr) (kApp kWX))))))))))))) K else (if pc = 625 then (kThen (kSplH 0) (kThen (kSplH 1) (kThen (kSplH 2) (kThen (kSplH 3) (kThen (kSplH 4) (kThen (kSplH 5) (kThen (kApp kSU) (kThen (kSWa) (kThen (kApp kK2) (kThen (kApp kK3) (kThen (kApp kT2) (kThen (kApp kTEr) (kApp kWX))))))))))))) K else (if pc = 648 then (kThen (kSplH 0) (kThen (kSplH 1) (kThen (kSplH 2) (kThen (kSplH 3) (kThen (kSplH 4) (kThen (kSplH 5) (kThen (kApp kSU) (kThen (kSWa) (kThen (kApp kK2) (kThen (kApp kK3) (kThen (kApp kT2) (kThen (kApp kTEr) (kApp kWX))))))))))))) K else (if pc = 671 then (kThen (kSplH 0) (kThen (kSplH 1) (kThen (kSplH 2) (kThen (kSplH 3) (kThen (kSplH 4) (kThen (kSplH 5) (kThen (kApp kSU) (kThen (kSWa) (kThen (kApp kK2) (kThen (kApp kK3) (kThen (kApp kT2) (kThen (kApp kTEr) (kApp kWX))))))))))))) K else (if pc = 694 then (kThen (kSplH 0) (kThen (kSplH 1) (kThen (kSplH 2) (kThen (kSplH 3) (kThen (kSplH 4) (kThen (kSplH 5) (kThen (kApp kSU) (kThen (kSWa) (kThen (kApp kK2) (kThen (kApp kK3) (kThen (kApp kT2) (kThen (kApp kTEr) (kApp kWX))))))))))))) K else (if pc = 717 then (kThen (kSplH 0) (kThen (kSplH 1) (kThen (kSplH 2) (kThen (kSplH 3) (kThen (kSplH 4) (kThen (kSplH 5) (kThen (kApp kSU) (kThen (kSWa) (kThen (kApp kK2) (kThen (kApp kK3) (kThen (kApp kT2) (kThen (kApp kTEr) (kApp kWX))))))))))))) K else (if pc = 745 then (kThen (kSplH 0) (kThen (kSplH 1) (kThen (kSplH 2) (kThen (kSplH 3) (kThen (kSplH 4) (kThen (kSplH 5) (kThen (kApp kSU) (kThen (kSWa) (kThen (kApp kK2) (kThen (kApp kK3) (kThen (kApp kT2) (kThen (kApp kTEr) (kApp kWX))))))))))))) K else (if pc = 778 then (kThen (kSplH 0) (kThen (kSplH 1) (kThen (kSplH 2) (kThen (kSplH 3) (kThen (kSplH 4) (kThen (kSplH 5) (kThen (kApp kSU) (kThen (kSWa) (kThen (kApp kK2) (kThen (kApp kK3) (kThen (kApp kT2) (kThen (kApp kTEr) (kApp kWX))))))))))))) K else (if pc = 816 then (kThen (kSplH 0) (kThen (kSplH 1) (kThen (kSplH 2) (kThen (kSplH 3) (kThen (kSplH 4) (kThen (kSplH 5) (kThen (kApp kSU) (kThen (kSWa) (kThen (kApp kK2) (kThen (kApp kK3) (kThen (kApp kT2) (kThen (kApp kTEr) (kApp kWX))))))))))))) K else (if pc = 849 then (kThen (kSplH 0) (kThen (kSplH 1) (kThen (kSplH 2) (kThen (kSplH 3) (kThen (kSplH 4) (kThen (kSplH 5) (kThen (kApp kSU) (kThen (kSWa) (kThen (kApp kK2) (kThen (kApp kK3) (kThen (kApp kT2) (kThen (kApp kTEr) (kApp kWX))))))))))))) K else (if pc = 877 then (kThen (kSplH 0) (kThen (kSplH 1) (kThen (kSplH 2) (kThen (kSplH 3) (kThen (kSplH 4) (kThen (kSplH 5) (kThen (kApp kSU) (kThen (kSWa) (kThen (kApp kK2) (kThen (kApp kK3) (kThen (kApp kT2) (kThen (kApp kTEr) (kApp kWX))))))))))))) K else (if pc = 915 then (kThen (kSplH 0) (kThen (kSplH 1) (kThen (kSplH 2) (kThen (kSplH 3) (kThen (kSplH 4) (kThen (kSplH 5) (kThen (kApp kSU) (kThen (kSWa) (kThen (kApp kK2) (kThen (kApp kK3) (kThen (kApp kT2) (kThen (kApp kTEr) (kApp kWX))))))))))))) K else (if pc = 953 then (kThen (kSplH 0) (kThen (kSplH 1) (kThen (kSplH 2) (kThen (kSplH 3) (kThen (kSplH 4) (kThen (kSplH 5) (kThen (kApp kSU) (kThen (kSWa) (kThen (kApp kK2) (kThen (kApp kK3) (kThen (kApp kT2) (kThen (kApp kTEr) (kApp kWX))))))))))))) K else (if pc = 991 then (kThen (kSplH 0) (kThen (kSplH 1) (kThen (kSplH 2) (kThen (kSplH 3) (kThen (kSplH 4) (kThen (kSplH 5) (kThen (kApp kSU) (kThen (kSWa) (kThen (kApp kK2) (kThen (kApp kK3) (kThen (kApp kT2) (kThen (kApp kTEr) (kApp kWX))))))))))))) K else (if pc = 1029 then (kThen (kSplH 0) (kThen (kSplH 1) (kThen (kSplH 2) (kThen (kSplH 3) (kThen (kSplH 4) (kThen (kSplH 5) (kThen (kApp kSU) (kThen (kSWa) (kThen (kApp kK2) (kThen (kApp kK3) (kThen (kApp kT2) (kThen (kApp kTEr) (kApp kWX))))))))))))) K else (if pc = 1052 then (kThen (kSplH 0) (kThen (kSplH 1) (kThen (kSplH 2) (kThen (kSplH 3) (kThen (kSplH 4) (kThen (kSplH 5) (kThen (kApp kSU) (kThen (kSWa) (kThen (kApp kK2) (kThen (kApp kK3) (kThen (kApp kT2) (kThen (kApp kTEr) (kApp kWX))))))))))))) K else (if pc = 1065 then (kThen (kSplH 0) (kThen (kSplH 1) (kThen (kSplH 2) (kThen (kSplH 3) (kThen (kSplH 4) (kThen (kSplH 5) (kThen (kApp kSU) (kThen (kSWa) (kThen (kApp kK2) (kThen (kApp kK3) (kThen (kApp kT2) (kThen (kApp kTEr) (kApp kWX))))))))))))) K else (if pc = 1083 then (kThen (kSplH 0) (kThen (kSplH 1) (kThen (kSplH 2) (kThen (kSplH 3) (kThen (kSplH 4) (kThen (kSplH 5) (kThen (kApp kSU) (kThen (kSWa) (kThen (kApp kK2) (kThen (kApp kK3) (kThen (kApp kT2) (kThen (kApp kTEr) (kApp kWX))))))))))))) K else (if pc = 1101 then (kThen (kSplH 0) (kThen (kSplH 1) (kThen (kSplH 2) (kThen (kSplH 3) (kThen (kSplH 4) (kThen (kSplH 5) (kThen (kApp kSU) (kThen (kSWa) (kThen (kApp kK2) (kThen (kApp kK3) (kThen (kApp kT2) (kThen (kApp kTEr) (kApp kWX))))))))))))) K else (if pc = 1114 then (kThen (kSplH 0) (kThen (kSplH 1) (kThen (kSplH 2) (kThen (kSplH 3) (kThen (kSplH 4) (kThen (kSplH 5) (kThen (kApp kSU) (kThen (kSWa) (kThen (kApp kK2) (kThen (kApp kK3) (kThen (kApp kT2) (kThen (kApp kTEr) (kApp kWX))))))))))))) K else (if pc = 1127 then (kThen (kSplH 0) (kThen (kSplH 1) (kThen (kSplH 2) (kThen (kSplH 3) (kThen (kSplH 4) (kThen (kSplH 5) (kThen (kApp kSU) (kThen (kSWa) (kThen (kApp kK2) (kThen (kApp kK3) (kThen (kApp kT2) (kThen (kApp kTEr) (kApp kWX))))))))))))) K else (if pc = 1140 then (kThen (kSplH 0) (kThen (kSplH 1) (kThen (kSplH 2) (kThen (kSplH 3) (kThen (kSplH 4) (kThen (kSplH 5) (kThen (kApp kSU) (kThen (kSWa) (kThen (kApp kK2) (kThen (kApp kK3) (kThen (kApp kT2) (kThen (kApp kTEr) (kApp kWX))))))))))))) K else (if pc = 1158 then (kThen (kSplH 0) (kThen (kSplH 1) (kThen (kSplH 2) (kThen (kSplH 3) (kThen (kSplH 4) (kThen (kSplH 5) (kThen (kApp kSU) (kThen (kSWa) (kThen (kApp kK2) (kThen (kApp kK3) (kThen (kApp kT2) (kThen (kApp kTEr) (kApp kWX))))))))))))) K else (if pc = 1191 then (kThen (kSplH 0) (kThen (kSplH 1) (kThen (kSplH 2) (kThen (kSplH 3) (kThen (kSplH 4) (kThen (kSplH 5) (kThen (kApp kSU) (kThen (kSWa) (kThen (kApp kK2) (kThen (kApp kK3) (kThen (kApp kT2) (kThen (kApp kTEr) (kApp kWX))))))))))))) K else (if pc = 1224 then (kThen (kSplH 0) (kThen (kSplH 1) (kThen (kSplH 2) (kThen (kSplH 3) (kThen (kSplH 4) (kThen (kSplH 5) (kThen (kApp kSU) (kThen (kSWa) (kThen (kApp kK2) (kThen (kApp kK3) (kThen (kApp kT2) (kThen (kApp kTEr) (kApp kWX))))))))))))) K else (if pc = 1252 then (kThen (kSplH 0) (kThen (kSplH 1) (kThen (kSplH 2) (kThen (kSplH 3) (kThen (kSplH 4) (kThen (kSplH 5) (kThen (kApp kSU) (kThen (kSWa) (kThen (kApp kK2) (kThen (kApp kK3) (kThen (kApp kT2) (kThen (kApp kTEr) (kApp kWX))))))))))))) K else (if pc = 1290 then (kThen (kSplH 0) (kThen (kSplH 1) (kThen (kSplH 2) (kThen (kSplH 3) (kThen (kSplH 4) (kThen (kSplH 5) (kThen (kApp kSU) (kThen (kSWa) (kThen (kApp kK2) (kThen (kApp kK3) (kThen (kApp kT2) (kThen (kApp kTEr) (kApp kWX))))))))))))) K else (if pc = 1348 then (kThen (kSplH 0) (kThen (kSplH 1) (kThen (kSplH 2) (kThen (kSplH 3) (kThen (kSplH 4) (kThen (kSplH 5) (kThen (kApp kSU) (kThen (kSWa) (kThen (kApp kK2) (kThen (kApp kK3) (kThen (kApp kT2) (kThen (kApp kTEr) (kApp kWX))))))))))))) K else (if pc = 1401 then (kThen (kSplH 0) (kThen (kSplH 1) (kThen (kSplH 2) (kThen (kSplH 3) (kThen (kSplH 4) (kThen (kSplH 5) (kThen (kApp kSU) (kThen (kSWa) (kThen (kApp kK2) (kThen (kApp kK3) (kThen (kApp kT2) (kThen (kApp kTEr) (kApp kWX))))))))))))) K else (if pc = 1449 then (kThen (kSplH 0) (kThen (kSplH 1) (kThen (kSplH 2) (kThen (kSplH 3) (kThen (kSplH 4) (kThen (kSplH 5) (kThen (kApp kSU) (kThen (kSWa) (kThen (kApp kK2) (kThen (kApp kK3) (kThen (kApp kT2) (kThen (kApp kTEr) (kApp kWX))))))))))))) K else (if pc = 1497 then (kThen (kSplH 0) (kThen (kSplH 1) (kThen (kSplH 2) (kThen (kSplH 3) (kThen (kSplH 4) (kThen (kSplH 5) (kThen (kApp kSU) (kThen (kSWa) (kThen (kApp kK2) (kThen (kApp kK3) (kThen (kApp kT2) (kThen (kApp kTEr) (kApp kWX))))))))))))) K else (if pc = 1525 then (kThen (kSplH 0) (kThen (kSplH 1) (kThen (kSplH 2) (kThen (kSplH 3) (kThen (kSplH 4) (kThen (kSplH 5) (kThen (kApp kSU) (kThen (kSWa) (kThen (kApp kK2) (kThen (kApp kK3) (kThen (kApp kT2) (kThen (kApp kTEr) (kApp kWX))))))))))))) K else some [K])))))))))))))))))))))))))))))))))))))))))))) else some [K])))))))))))))))))))))))))
theorem kHKx_ok (RO : List (Nat × (Nat → Int32))) : kHookOk (kGP (kUP RO)) kHKx := by
  intro mi pc K L h ρ R hD
  unfold kHKx at h
  by_cases m3 : mi = 3
  · rw [if_pos m3] at h
    by_cases p9 : pc = 9
    · rw [if_pos p9] at h
      exact kO_0 K L h ρ R hD
    rw [if_neg p9] at h
    by_cases p28 : pc = 28
    · rw [if_pos p28] at h
      exact kO_1 K L h ρ R hD
    rw [if_neg p28] at h
    by_cases p91 : pc = 91
    · rw [if_pos p91] at h
      exact kO_2 K L h ρ R hD
    rw [if_neg p91] at h
    by_cases p106 : pc = 106
    · rw [if_pos p106] at h
      exact kO_3 K L h ρ R hD
    rw [if_neg p106] at h
    exact kO_id K L h ρ R hD
  rw [if_neg m3] at h
  by_cases m60 : mi = 60
  · rw [if_pos m60] at h
    by_cases p0 : pc = 0
    · rw [if_pos p0] at h
      exact kO_4 K L h ρ R hD
    rw [if_neg p0] at h
    by_cases p58 : pc = 58
    · rw [if_pos p58] at h
      exact kO_5 K L h ρ R hD
    rw [if_neg p58] at h
    by_cases p109 : pc = 109
    · rw [if_pos p109] at h
      exact kO_6 K L h ρ R hD
    rw [if_neg p109] at h
    by_cases p177 : pc = 177
    · rw [if_pos p177] at h
      exact kO_7 K L h ρ R hD
    rw [if_neg p177] at h
    by_cases p218 : pc = 218
    · rw [if_pos p218] at h
      exact kO_8 K L h ρ R hD
    rw [if_neg p218] at h
    exact kO_id K L h ρ R hD
  rw [if_neg m60] at h
  by_cases m63 : mi = 63
  · rw [if_pos m63] at h
    by_cases p46 : pc = 46
    · rw [if_pos p46] at h
      exact kO_9 K L h ρ R hD
    rw [if_neg p46] at h
    by_cases p56 : pc = 56
    · rw [if_pos p56] at h
      exact kO_10 K L h ρ R hD
    rw [if_neg p56] at h
    by_cases p66 : pc = 66
    · rw [if_pos p66] at h
      exact kO_11 K L h ρ R hD
    rw [if_neg p66] at h
    by_cases p76 : pc = 76
    · rw [if_pos p76] at h
      exact kO_12 K L h ρ R hD
    rw [if_neg p76] at h
    by_cases p86 : pc = 86
    · rw [if_pos p86] at h
      exact kO_13 K L h ρ R hD
    rw [if_neg p86] at h
    by_cases p96 : pc = 96
    · rw [if_pos p96] at h
      exact kO_14 K L h ρ R hD
    rw [if_neg p96] at h
    by_cases p100 : pc = 100
    · rw [if_pos p100] at h
      exact kO_15 K L h ρ R hD
    rw [if_neg p100] at h
    by_cases p109 : pc = 109
    · rw [if_pos p109] at h
      exact kO_16 K L h ρ R hD
    rw [if_neg p109] at h
    exact kO_id K L h ρ R hD
  rw [if_neg m63] at h
  by_cases m64 : mi = 64
  · rw [if_pos m64] at h
    by_cases p105 : pc = 105
    · rw [if_pos p105] at h
      exact kO_17 K L h ρ R hD
    rw [if_neg p105] at h
    by_cases p162 : pc = 162
    · rw [if_pos p162] at h
      exact kO_18 K L h ρ R hD
    rw [if_neg p162] at h
    exact kO_id K L h ρ R hD
  rw [if_neg m64] at h
  by_cases m69 : mi = 69
  · rw [if_pos m69] at h
    by_cases p17 : pc = 17
    · rw [if_pos p17] at h
      exact kO_19 K L h ρ R hD
    rw [if_neg p17] at h
    exact kO_id K L h ρ R hD
  rw [if_neg m69] at h
  by_cases m74 : mi = 74
  · rw [if_pos m74] at h
    by_cases p29 : pc = 29
    · rw [if_pos p29] at h
      exact kO_20 K L h ρ R hD
    rw [if_neg p29] at h
    exact kO_id K L h ρ R hD
  rw [if_neg m74] at h
  by_cases m84 : mi = 84
  · rw [if_pos m84] at h
    by_cases p21 : pc = 21
    · rw [if_pos p21] at h
      exact kO_21 K L h ρ R hD
    rw [if_neg p21] at h
    by_cases p62 : pc = 62
    · rw [if_pos p62] at h
      exact kO_22 K L h ρ R hD
    rw [if_neg p62] at h
    by_cases p87 : pc = 87
    · rw [if_pos p87] at h
      exact kO_23 K L h ρ R hD
    rw [if_neg p87] at h
    exact kO_id K L h ρ R hD
  rw [if_neg m84] at h
  by_cases m85 : mi = 85
  · rw [if_pos m85] at h
    by_cases p27 : pc = 27
    · rw [if_pos p27] at h
      exact kO_24 K L h ρ R hD
    rw [if_neg p27] at h
    by_cases p103 : pc = 103
    · rw [if_pos p103] at h
      exact kO_25 K L h ρ R hD
    rw [if_neg p103] at h
    by_cases p157 : pc = 157
    · rw [if_pos p157] at h
      exact kO_26 K L h ρ R hD
    rw [if_neg p157] at h
    by_cases p163 : pc = 163
    · rw [if_pos p163] at h
      exact kO_27 K L h ρ R hD
    rw [if_neg p163] at h
    by_cases p175 : pc = 175
    · rw [if_pos p175] at h
      exact kO_28 K L h ρ R hD
    rw [if_neg p175] at h
    by_cases p227 : pc = 227
    · rw [if_pos p227] at h
      exact kO_29 K L h ρ R hD
    rw [if_neg p227] at h
    by_cases p233 : pc = 233
    · rw [if_pos p233] at h
      exact kO_30 K L h ρ R hD
    rw [if_neg p233] at h
    exact kO_id K L h ρ R hD
  rw [if_neg m85] at h
  by_cases m87 : mi = 87
  · rw [if_pos m87] at h
    by_cases p10 : pc = 10
    · rw [if_pos p10] at h
      exact kO_31 K L h ρ R hD
    rw [if_neg p10] at h
    by_cases p33 : pc = 33
    · rw [if_pos p33] at h
      exact kO_32 K L h ρ R hD
    rw [if_neg p33] at h
    by_cases p78 : pc = 78
    · rw [if_pos p78] at h
      exact kO_33 K L h ρ R hD
    rw [if_neg p78] at h
    by_cases p182 : pc = 182
    · rw [if_pos p182] at h
      exact kO_34 K L h ρ R hD
    rw [if_neg p182] at h
    exact kO_id K L h ρ R hD
  rw [if_neg m87] at h
  by_cases m88 : mi = 88
  · rw [if_pos m88] at h
    by_cases p6 : pc = 6
    · rw [if_pos p6] at h
      exact kO_35 K L h ρ R hD
    rw [if_neg p6] at h
    by_cases p41 : pc = 41
    · rw [if_pos p41] at h
      exact kO_36 K L h ρ R hD
    rw [if_neg p41] at h
    by_cases p61 : pc = 61
    · rw [if_pos p61] at h
      exact kO_37 K L h ρ R hD
    rw [if_neg p61] at h
    by_cases p71 : pc = 71
    · rw [if_pos p71] at h
      exact kO_38 K L h ρ R hD
    rw [if_neg p71] at h
    exact kO_id K L h ρ R hD
  rw [if_neg m88] at h
  by_cases m148 : mi = 148
  · rw [if_pos m148] at h
    by_cases p0 : pc = 0
    · rw [if_pos p0] at h
      exact kO_39 K L h ρ R hD
    rw [if_neg p0] at h
    by_cases p61 : pc = 61
    · rw [if_pos p61] at h
      exact kO_40 K L h ρ R hD
    rw [if_neg p61] at h
    exact kO_id K L h ρ R hD
  rw [if_neg m148] at h
  by_cases m151 : mi = 151
  · rw [if_pos m151] at h
    by_cases p10 : pc = 10
    · rw [if_pos p10] at h
      exact kO_41 K L h ρ R hD
    rw [if_neg p10] at h
    exact kO_id K L h ρ R hD
  rw [if_neg m151] at h
  by_cases m154 : mi = 154
  · rw [if_pos m154] at h
    by_cases p10 : pc = 10
    · rw [if_pos p10] at h
      exact kO_42 K L h ρ R hD
    rw [if_neg p10] at h
    exact kO_id K L h ρ R hD
  rw [if_neg m154] at h
  by_cases m164 : mi = 164
  · rw [if_pos m164] at h
    by_cases p0 : pc = 0
    · rw [if_pos p0] at h
      exact kO_43 K L h ρ R hD
    rw [if_neg p0] at h
    by_cases p54 : pc = 54
    · rw [if_pos p54] at h
      exact kO_44 K L h ρ R hD
    rw [if_neg p54] at h
    by_cases p80 : pc = 80
    · rw [if_pos p80] at h
      exact kO_45 K L h ρ R hD
    rw [if_neg p80] at h
    exact kO_id K L h ρ R hD
  rw [if_neg m164] at h
  by_cases m166 : mi = 166
  · rw [if_pos m166] at h
    by_cases p0 : pc = 0
    · rw [if_pos p0] at h
      exact kO_46 K L h ρ R hD
    rw [if_neg p0] at h
    exact kO_id K L h ρ R hD
  rw [if_neg m166] at h
  by_cases m167 : mi = 167
  · rw [if_pos m167] at h
    by_cases p0 : pc = 0
    · rw [if_pos p0] at h
      exact kO_47 K L h ρ R hD
    rw [if_neg p0] at h
    exact kO_id K L h ρ R hD
  rw [if_neg m167] at h
  by_cases m168 : mi = 168
  · rw [if_pos m168] at h
    by_cases p0 : pc = 0
    · rw [if_pos p0] at h
      exact kO_48 K L h ρ R hD
    rw [if_neg p0] at h
    by_cases p63 : pc = 63
    · rw [if_pos p63] at h
      exact kO_49 K L h ρ R hD
    rw [if_neg p63] at h
    by_cases p113 : pc = 113
    · rw [if_pos p113] at h
      exact kO_50 K L h ρ R hD
    rw [if_neg p113] at h
    by_cases p150 : pc = 150
    · rw [if_pos p150] at h
      exact kO_51 K L h ρ R hD
    rw [if_neg p150] at h
    by_cases p185 : pc = 185
    · rw [if_pos p185] at h
      exact kO_52 K L h ρ R hD
    rw [if_neg p185] at h
    exact kO_id K L h ρ R hD
  rw [if_neg m168] at h
  by_cases m169 : mi = 169
  · rw [if_pos m169] at h
    by_cases p56 : pc = 56
    · rw [if_pos p56] at h
      exact kO_53 K L h ρ R hD
    rw [if_neg p56] at h
    exact kO_id K L h ρ R hD
  rw [if_neg m169] at h
  by_cases m172 : mi = 172
  · rw [if_pos m172] at h
    by_cases p0 : pc = 0
    · rw [if_pos p0] at h
      exact kO_54 K L h ρ R hD
    rw [if_neg p0] at h
    by_cases p44 : pc = 44
    · rw [if_pos p44] at h
      exact kO_55 K L h ρ R hD
    rw [if_neg p44] at h
    exact kO_id K L h ρ R hD
  rw [if_neg m172] at h
  by_cases m177 : mi = 177
  · rw [if_pos m177] at h
    by_cases p24 : pc = 24
    · rw [if_pos p24] at h
      exact kO_56 K L h ρ R hD
    rw [if_neg p24] at h
    by_cases p31 : pc = 31
    · rw [if_pos p31] at h
      exact kO_57 K L h ρ R hD
    rw [if_neg p31] at h
    exact kO_id K L h ρ R hD
  rw [if_neg m177] at h
  by_cases m200 : mi = 200
  · rw [if_pos m200] at h
    by_cases p74 : pc = 74
    · rw [if_pos p74] at h
      exact kO_58 K L h ρ R hD
    rw [if_neg p74] at h
    exact kO_id K L h ρ R hD
  rw [if_neg m200] at h
  by_cases m202 : mi = 202
  · rw [if_pos m202] at h
    by_cases p55 : pc = 55
    · rw [if_pos p55] at h
      exact kO_59 K L h ρ R hD
    rw [if_neg p55] at h
    exact kO_id K L h ρ R hD
  rw [if_neg m202] at h
  by_cases m203 : mi = 203
  · rw [if_pos m203] at h
    by_cases p35 : pc = 35
    · rw [if_pos p35] at h
      exact kO_60 K L h ρ R hD
    rw [if_neg p35] at h
    exact kO_id K L h ρ R hD
  rw [if_neg m203] at h
  by_cases m257 : mi = 257
  · rw [if_pos m257] at h
    by_cases p17 : pc = 17
    · rw [if_pos p17] at h
      exact kO_61 K L h ρ R hD
    rw [if_neg p17] at h
    by_cases p36 : pc = 36
    · rw [if_pos p36] at h
      exact kO_62 K L h ρ R hD
    rw [if_neg p36] at h
    exact kO_id K L h ρ R hD
  rw [if_neg m257] at h
  by_cases m280 : mi = 280
  · rw [if_pos m280] at h
    by_cases p18 : pc = 18
    · rw [if_pos p18] at h
      exact kO_63 K L h ρ R hD
    rw [if_neg p18] at h
    by_cases p234 : pc = 234
    · rw [if_pos p234] at h
      exact kO_64 K L h ρ R hD
    rw [if_neg p234] at h
    by_cases p272 : pc = 272
    · rw [if_pos p272] at h
      exact kO_65 K L h ρ R hD
    rw [if_neg p272] at h
    by_cases p305 : pc = 305
    · rw [if_pos p305] at h
      exact kO_66 K L h ρ R hD
    rw [if_neg p305] at h
    by_cases p338 : pc = 338
    · rw [if_pos p338] at h
      exact kO_67 K L h ρ R hD
    rw [if_neg p338] at h
    by_cases p376 : pc = 376
    · rw [if_pos p376] at h
      exact kO_68 K L h ρ R hD
    rw [if_neg p376] at h
    by_cases p404 : pc = 404
    · rw [if_pos p404] at h
      exact kO_69 K L h ρ R hD
    rw [if_neg p404] at h
    by_cases p422 : pc = 422
    · rw [if_pos p422] at h
      exact kO_70 K L h ρ R hD
    rw [if_neg p422] at h
    by_cases p450 : pc = 450
    · rw [if_pos p450] at h
      exact kO_71 K L h ρ R hD
    rw [if_neg p450] at h
    by_cases p493 : pc = 493
    · rw [if_pos p493] at h
      exact kO_72 K L h ρ R hD
    rw [if_neg p493] at h
    by_cases p531 : pc = 531
    · rw [if_pos p531] at h
      exact kO_73 K L h ρ R hD
    rw [if_neg p531] at h
    by_cases p564 : pc = 564
    · rw [if_pos p564] at h
      exact kO_74 K L h ρ R hD
    rw [if_neg p564] at h
    by_cases p597 : pc = 597
    · rw [if_pos p597] at h
      exact kO_75 K L h ρ R hD
    rw [if_neg p597] at h
    by_cases p625 : pc = 625
    · rw [if_pos p625] at h
      exact kO_76 K L h ρ R hD
    rw [if_neg p625] at h
    by_cases p648 : pc = 648
    · rw [if_pos p648] at h
      exact kO_77 K L h ρ R hD
    rw [if_neg p648] at h
    by_cases p671 : pc = 671
    · rw [if_pos p671] at h
      exact kO_78 K L h ρ R hD
    rw [if_neg p671] at h
    by_cases p694 : pc = 694
    · rw [if_pos p694] at h
      exact kO_79 K L h ρ R hD
    rw [if_neg p694] at h
    by_cases p717 : pc = 717
    · rw [if_pos p717] at h
      exact kO_80 K L h ρ R hD
    rw [if_neg p717] at h
    by_cases p745 : pc = 745
    · rw [if_pos p745] at h
      exact kO_81 K L h ρ R hD
    rw [if_neg p745] at h
    by_cases p778 : pc = 778
    · rw [if_pos p778] at h
      exact kO_82 K L h ρ R hD
    rw [if_neg p778] at h
    by_cases p816 : pc = 816
    · rw [if_pos p816] at h
      exact kO_83 K L h ρ R hD
    rw [if_neg p816] at h
    by_cases p849 : pc = 849
    · rw [if_pos p849] at h
      exact kO_84 K L h ρ R hD
    rw [if_neg p849] at h
    by_cases p877 : pc = 877
    · rw [if_pos p877] at h
      exact kO_85 K L h ρ R hD
    rw [if_neg p877] at h
    by_cases p915 : pc = 915
    · rw [if_pos p915] at h
      exact kO_86 K L h ρ R hD
    rw [if_neg p915] at h
    by_cases p953 : pc = 953
    · rw [if_pos p953] at h
      exact kO_87 K L h ρ R hD
    rw [if_neg p953] at h
    by_cases p991 : pc = 991
    · rw [if_pos p991] at h
      exact kO_88 K L h ρ R hD
    rw [if_neg p991] at h
    by_cases p1029 : pc = 1029
    · rw [if_pos p1029] at h
      exact kO_89 K L h ρ R hD
    rw [if_neg p1029] at h
    by_cases p1052 : pc = 1052
    · rw [if_pos p1052] at h
      exact kO_90 K L h ρ R hD
    rw [if_neg p1052] at h
    by_cases p1065 : pc = 1065
    · rw [if_pos p1065] at h
      exact kO_91 K L h ρ R hD
    rw [if_neg p1065] at h
    by_cases p1083 : pc = 1083
    · rw [if_pos p1083] at h
      exact kO_92 K L h ρ R hD
    rw [if_neg p1083] at h
    by_cases p1101 : pc = 1101
    · rw [if_pos p1101] at h
      exact kO_93 K L h ρ R hD
    rw [if_neg p1101] at h
    by_cases p1114 : pc = 1114
    · rw [if_pos p1114] at h
      exact kO_94 K L h ρ R hD
    rw [if_neg p1114] at h
    by_cases p1127 : pc = 1127
    · rw [if_pos p1127] at h
      exact kO_95 K L h ρ R hD
    rw [if_neg p1127] at h
    by_cases p1140 : pc = 1140
    · rw [if_pos p1140] at h
      exact kO_96 K L h ρ R hD
    rw [if_neg p1140] at h
    by_cases p1158 : pc = 1158
    · rw [if_pos p1158] at h
      exact kO_97 K L h ρ R hD
    rw [if_neg p1158] at h
    by_cases p1191 : pc = 1191
    · rw [if_pos p1191] at h
      exact kO_98 K L h ρ R hD
    rw [if_neg p1191] at h
    by_cases p1224 : pc = 1224
    · rw [if_pos p1224] at h
      exact kO_99 K L h ρ R hD
    rw [if_neg p1224] at h
    by_cases p1252 : pc = 1252
    · rw [if_pos p1252] at h
      exact kO_100 K L h ρ R hD
    rw [if_neg p1252] at h
    by_cases p1290 : pc = 1290
    · rw [if_pos p1290] at h
      exact kO_101 K L h ρ R hD
    rw [if_neg p1290] at h
    by_cases p1348 : pc = 1348
    · rw [if_pos p1348] at h
      exact kO_102 K L h ρ R hD
    rw [if_neg p1348] at h
    by_cases p1401 : pc = 1401
    · rw [if_pos p1401] at h
      exact kO_103 K L h ρ R hD
    rw [if_neg p1401] at h
    by_cases p1449 : pc = 1449
    · rw [if_pos p1449] at h
      exact kO_104 K L h ρ R hD
    rw [if_neg p1449] at h
    by_cases p1497 : pc = 1497
    · rw [if_pos p1497] at h
      exact kO_105 K L h ρ R hD
    rw [if_neg p1497] at h
    by_cases p1525 : pc = 1525
    · rw [if_pos p1525] at h
      exact kO_106 K L h ρ R hD
    rw [if_neg p1525] at h
    exact kO_id K L h ρ R hD
  rw [if_neg m280] at h
  exact kO_id K L h ρ R hD
def kSOx : List (Nat × List sL) := [(10, eT_LEAST.map fun v => sC v.toInt), (10, eT_MOST.map fun v => sC v.toInt), (8, eT_ABOVE.map fun v => sC v.toInt), (32, eT_OWN.map fun v => sC v.toInt), (0, [])]
