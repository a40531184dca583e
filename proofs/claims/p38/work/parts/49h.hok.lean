/-! K: consequences at told places; what is told of the script. -/
noncomputable section
def kLive (Γ : sG) : Bool := !(Γ.2.2.1.any (fun f => decide (sK Γ.1 f = some 0)))
theorem kLive_ok {ρ : List Int} {Γ : sG} (hM : sMo ρ Γ) : kLive Γ = true := by
  unfold kLive
  rw [Bool.not_eq_true', List.any_eq_false]
  intro f hf h
  obtain ⟨z, e1, e2⟩ := hM.2.2.1 f hf
  exact e2 (sK_ok hM.1 e1 (of_decide_eq_true h))
/-- a number, split into all that it may be -/
def kSpl (x : sL) (n : Nat) (K : kS) : Option (List kS) := match K with
  | ((pc, ls, st, G, c, s, Γ), γ) => (sIdx Γ x n).map fun l => (l.filter fun q => kLive q.2).map fun q => ((pc, ls, st, G, c, s, q.2), γ)
def kSplL (i n : Nat) (K : kS) : Option (List kS) := match sGetL K.1.2.1 i with
  | some v => if v.1 = 0 then kSpl v.2 n K else none
  | none => none
def kSplS (i n : Nat) (K : kS) : Option (List kS) := match K.1.2.2.1[i]? with
  | some v => if v.1 = 0 then kSpl v.2 n K else none
  | none => none
theorem kSpl_ok {GP : Nat → List Int → List eE → Prop} {x : sL} {n : Nat} {K : kS} {L : List kS} (h : kSpl x n K = some L) {ρ : List Int} {R : eR} {z : Int} (hx : sEv ρ x = some z) (hD : kD GP ρ K R) : ∃ K' ∈ L, ∃ ρ', ρ <+: ρ' ∧ kD GP ρ' K' R := by
  obtain ⟨⟨pc, ls, st, G, c, s, Γ⟩, γ⟩ := K
  simp only [kSpl] at h
  obtain ⟨l, hl, rfl⟩ := Option.map_eq_some_iff.mp h
  obtain ⟨q, hq, hM, -⟩ := sIdx_ok hD.1 hx hl
  exact ⟨_, List.mem_map.mpr ⟨q, List.mem_filter.mpr ⟨hq, kLive_ok hM⟩, rfl⟩, ρ, List.prefix_refl _, hM, hD.2.1, hD.2.2⟩
theorem kSplL_ok {GP : Nat → List Int → List eE → Prop} {i n : Nat} {K : kS} {L : List kS} (h : kSplL i n K = some L) {ρ : List Int} {R : eR} (hD : kD GP ρ K R) : ∃ K' ∈ L, ∃ ρ', ρ <+: ρ' ∧ kD GP ρ' K' R := by
  unfold kSplL at h
  split at h
  · rename_i v hv
    split at h
    · rename_i h0
      obtain ⟨w, -, hw⟩ := hD.2.1.2.1 i v hv
      obtain ⟨t, x⟩ := v
      simp only at h0
      subst h0
      obtain ⟨z, hz, -⟩ := sVr_int hw
      exact kSpl_ok h hz hD
    · cases h
  · cases h
theorem kSplS_ok {GP : Nat → List Int → List eE → Prop} {i n : Nat} {K : kS} {L : List kS} (h : kSplS i n K = some L) {ρ : List Int} {R : eR} (hD : kD GP ρ K R) : ∃ K' ∈ L, ∃ ρ', ρ <+: ρ' ∧ kD GP ρ' K' R := by
  unfold kSplS at h
  split at h
  · rename_i v hv
    split at h
    · rename_i h0
      obtain ⟨w, -, hw⟩ := sVs_get hD.2.1.2.2.1 hv
      obtain ⟨t, x⟩ := v
      simp only at h0
      subst h0
      obtain ⟨z, hz, -⟩ := sVr_int hw
      exact kSpl_ok h hz hD
    · cases h
  · cases h
/-! Further steps that need no time. -/
/-- a number that can be no other -/
def kNrm (i : Nat) (K : kS) : Option (List kS) := match K with
  | ((pc, ls, st, G, c, s, Γ), γ) => (match sGetL ls i with
    | some (0, x) => (match sK Γ.1 x with
      | some k => some [((pc, (i, (0, sC k)) :: ls, st, G, c, s, Γ), γ)]
      | none => some [K])
    | _ => some [K])
theorem kNrm_ok {GP : Nat → List Int → List eE → Prop} {i : Nat} {K : kS} {L : List kS} (h : kNrm i K = some L) {ρ : List Int} {R : eR} (hD : kD GP ρ K R) : ∃ K' ∈ L, ∃ ρ', ρ <+: ρ' ∧ kD GP ρ' K' R := by
  obtain ⟨⟨pc, ls, st, G, c, s, Γ⟩, γ⟩ := K
  have same : ∃ K' ∈ [(((pc, ls, st, G, c, s, Γ), γ) : kS)], ∃ ρ', ρ <+: ρ' ∧ kD GP ρ' K' R := ⟨_, List.mem_singleton.mpr rfl, ρ, List.prefix_refl _, hD⟩
  simp only [kNrm] at h
  split at h
  · rename_i x hx
    split at h
    · rename_i k hk
      cases h
      refine ⟨_, List.mem_singleton.mpr rfl, ρ, List.prefix_refl _, hD.1, ⟨hD.2.1.1, fun j v hv => ?_, hD.2.1.2.2⟩, hD.2.2⟩
      by_cases hij : i = j
      · subst hij
        have hv : sGetL ((i, ((0, sC k) : sV)) :: ls) i = some v := hv
        rw [sGetL_hd] at hv
        cases hv
        obtain ⟨w, h1, h2⟩ := hD.2.1.2.1 i _ hx
        refine ⟨w, h1, ?_⟩
        obtain ⟨z, e1, rfl⟩ := sVr_int h2
        have := sK_ok hD.1.1 e1 hk
        subst this
        exact ⟨_, sEv_C _, rfl⟩
      · have hv : sGetL ((i, ((0, sC k) : sV)) :: ls) j = some v := hv
        rw [sGetL_tl hij] at hv
        exact hD.2.1.2.1 j v hv
    · cases h
      exact same
  · cases h
    exact same
/-- what can't be -/
def kPN (K : kS) : Option (List kS) := if K.1.2.2.2.2.2.2.2.2.1.any (fun f => sNN K.1.2.2.2.2.2.2 f && sNN K.1.2.2.2.2.2.2 (sMul (-1) f)) = true then some [] else some [K]
theorem kPN_ok {GP : Nat → List Int → List eE → Prop} {K : kS} {L : List kS} (h : kPN K = some L) {ρ : List Int} {R : eR} (hD : kD GP ρ K R) : ∃ K' ∈ L, ∃ ρ', ρ <+: ρ' ∧ kD GP ρ' K' R := by
  unfold kPN at h
  split at h
  · rename_i hc
    exfalso
    obtain ⟨f, hf, hc⟩ := List.any_eq_true.mp hc
    simp only [Bool.and_eq_true] at hc
    obtain ⟨z, e1, e2⟩ := hD.1.2.2.1 f hf
    have h1 := sNN_ok hD.1 e1 hc.1
    have h2 := sNN_ok hD.1 (sEv_mul (-1) e1) hc.2
    omega
  · cases h
    exact ⟨K, List.mem_singleton.mpr rfl, ρ, List.prefix_refl _, hD⟩
/-- whether a shelf holds a body or a row -/
def kSplH (s : Nat) (K : kS) : Option (List kS) := match kShz K.1.2.2.2.1 s with
  | some (h :: _) => if sIv K.1.2.2.2.2.2.2.1 h = some (1, 2) then kSpl h 3 K else some [K]
  | _ => some [K]
theorem kSplH_ok {GP : Nat → List Int → List eE → Prop} {s : Nat} {K : kS} {L : List kS} (h : kSplH s K = some L) {ρ : List Int} {R : eR} (hD : kD GP ρ K R) : ∃ K' ∈ L, ∃ ρ', ρ <+: ρ' ∧ kD GP ρ' K' R := by
  have same : ∃ K' ∈ [K], ∃ ρ', ρ <+: ρ' ∧ kD GP ρ' K' R := ⟨K, List.mem_singleton.mpr rfl, ρ, List.prefix_refl _, hD⟩
  unfold kSplH at h
  split at h
  · rename_i x r hx
    split at h
    · rename_i hi
      obtain ⟨z, hz⟩ := sIv_has hD.1.1 hi
      exact kSpl_ok h hz hD
    · cases h
      exact same
  · cases h
    exact same
/-- a told element, by another form of the same worth -/
def kOvr (G : List sE) (j s : Nat) (f : sL) : List sE := match G[j]? with
  | some (.inl (ty, n, b, ov)) => if (sLk ov s).isSome = true then G.set j (.inl (ty, n, b, ov.map (fun q => if q.1 = s then (s, f) else q))) else G
  | _ => G
theorem kLk_map (ov : List (Nat × sL)) (s : Nat) (f : sL) (i : Nat) : sLk (ov.map (fun q => if q.1 = s then (s, f) else q)) i = if i = s then (sLk ov s).map (fun _ => f) else sLk ov i := by
  induction ov with
  | nil => simp [sLk_def]
  | cons q r ih =>
    simp only [sLk_def] at ih ⊢
    simp only [List.map_cons, List.find?_cons]
    by_cases hq : q.1 = s
    · rw [if_pos hq]
      by_cases hi : i = s
      · subst hi
        simp [hq]
      · have h1 : (s == i) = false := by simp; omega
        have h2 : (q.1 == i) = false := by simp; omega
        rw [h1, h2, ih, if_neg hi, if_neg hi]
    · rw [if_neg hq]
      by_cases hi : i = s
      · subst hi
        have h2 : (q.1 == i) = false := by simp [hq]
        rw [h2, ih, if_pos rfl]
      · rw [if_neg hi]
        rw [if_neg hi] at ih
        cases q.1 == i with
        | true => rfl
        | false => exact ih
theorem kOvr_ok {ρ : List Int} {G : List sE} {H : List eE} (hH : sHp ρ G H) {j s : Nat} {f m : sL} {z : Int} (hm : kToldI G j s = some m) (em : sEv ρ m = some z) (hf : sEv ρ f = some z) : sHp ρ (kOvr G j s f) H := by
  unfold kOvr
  split
  · rename_i ty n b ov hg
    split
    · rename_i hsome
      obtain ⟨n', a, z', hy', hlt, e1, e2⟩ := kToldI_ok hH hm
      cases e1.symm.trans em
      obtain ⟨y, hy, hxy⟩ := sHp_get hH hg
      have hset : H.set j y = H := by
        apply List.ext_getElem?
        intro k
        by_cases hk : j = k
        · subst hk
          rw [List.getElem?_set_self (List.getElem?_eq_some_iff.mp hy).1, hy]
        · rw [List.getElem?_set_ne hk]
      rw [← hset]
      refine sHp_set ?_ j hH
      rw [hy'] at hy
      cases hy
      obtain ⟨rfl, rfl, h1, h2⟩ := hxy
      refine ⟨rfl, rfl, h1, fun i hi => ?_⟩
      have h3 := h2 i hi
      rw [kLk_map]
      by_cases his : i = s
      · subst his
        rw [if_pos rfl]
        obtain ⟨f0, hf0⟩ := Option.isSome_iff_exists.mp hsome
        rw [hf0]
        exact ⟨_, hf, e2⟩
      · rw [if_neg his]
        exact h3
    · exact hH
  · exact hH
/-- the reference's shelf, told by the class' numbers -/
def kSWs (s : Nat) (K : kS) : Option (List kS) := match K with
  | ((pc, ls, st, G, c, s0, Γ), γ) => (match kShz G s with
    | some [h, b, so, le, m, si, w] => if kHav γ 12 [h, b, so, le, m, si, w] = true then
        (if sK Γ.1 h = some 0 then some [((pc, ls, st, kOvr G 82 s (sC (-1)), c, s0, Γ), γ)]
        else if sK Γ.1 h = some 1 then some [((pc, ls, st, kOvr G 82 s b, c, s0, Γ), γ)]
        else if sK Γ.1 h = some 2 then some [((pc, ls, st, kOvr (kOvr G 82 s (sSub (sC (-2)) so)) 83 s le, c, s0, Γ), γ)]
        else some [K]) else some [K]
    | _ => some [K])
theorem kShz_told {G : List sE} {s : Nat} {h b so le m si w : sL} (hs : kShz G s = some [h, b, so, le, m, si, w]) : kToldI G 82 s = some m ∧ kToldI G 83 s = some si := by
  unfold kShz at hs
  split at hs
  · rename_i a1 a2 a3 a4 a5 a6 a7 h1 h2 h3 h4 h5 h6 h7
    cases hs
    exact ⟨h5, h6⟩
  · cases hs
theorem kOvr_ne {G : List sE} {j k s i : Nat} {f : sL} (h : j ≠ k) : kToldI (kOvr G j s f) k i = kToldI G k i := by
  unfold kOvr
  split
  · split
    · unfold kToldI
      rw [List.getElem?_set_ne h]
    · rfl
  · rfl
theorem kSWs_ok {RO : List (Nat × (Nat → Int32))} {s : Nat} {K : kS} {L : List kS} (h : kSWs s K = some L) {ρ : List Int} {R : eR} (hD : kD (kGP (kUP RO)) ρ K R) : ∃ K' ∈ L, ∃ ρ', ρ <+: ρ' ∧ kD (kGP (kUP RO)) ρ' K' R := by
  obtain ⟨⟨pc, ls, st, G, c, s0, Γ⟩, γ⟩ := K
  have same : ∃ K' ∈ [(((pc, ls, st, G, c, s0, Γ), γ) : kS)], ∃ ρ', ρ <+: ρ' ∧ kD (kGP (kUP RO)) ρ' K' R := ⟨_, List.mem_singleton.mpr rfl, ρ, List.prefix_refl _, hD⟩
  have hH := hD.2.1.2.2.2.1
  have put : ∀ {G' : List sE}, sHp ρ G' R.2.2.2.1 → ∃ K' ∈ [(((pc, ls, st, G', c, s0, Γ), γ) : kS)], ∃ ρ', ρ <+: ρ' ∧ kD (kGP (kUP RO)) ρ' K' R := fun h => ⟨_, List.mem_singleton.mpr rfl, ρ, List.prefix_refl _, hD.1, ⟨hD.2.1.1, hD.2.1.2.1, hD.2.1.2.2.1, h, hD.2.1.2.2.2.2⟩, hD.2.2⟩
  simp only [kSWs] at h
  split at h
  · rename_i xh b so le m si w hs
    obtain ⟨tm, ts⟩ := kShz_told hs
    split at h
    · rename_i hh
      obtain ⟨zs, e1, e2⟩ := kHav_ok hD.2.2 hh (by decide)
      obtain ⟨p, q, r, t, u, v, x, rfl, h1, h2, h3, h4, h5, h6, h7⟩ := sVal_7 e1
      obtain ⟨a1, a2, a3, a4, a5, a6, a7, he, hr⟩ : ∃ a1 a2 a3 a4 a5 a6 a7, [p, q, r, t, u, v, x] = [a1, a2, a3, a4, a5, a6, a7] ∧ kSHR a1 a2 a3 a4 a5 a6 a7 := e2
      cases he
      split at h
      · rename_i hz
        have := sK_ok hD.1.1 h1 hz
        have hu : u = -1 := by rcases hr with hr | hr | hr <;> omega
        subst hu
        cases h
        exact put (kOvr_ok hH tm h5 (sEv_C _))
      split at h
      · rename_i hz
        have := sK_ok hD.1.1 h1 hz
        have hu : u = q := by rcases hr with hr | hr | hr <;> omega
        subst hu
        cases h
        exact put (kOvr_ok hH tm h5 h2)
      split at h
      · rename_i hz
        have := sK_ok hD.1.1 h1 hz
        have hu : u = -2 - r := by rcases hr with hr | hr | hr <;> omega
        have hv : v = t := by rcases hr with hr | hr | hr <;> omega
        subst hu
        subst hv
        cases h
        exact put (kOvr_ok (kOvr_ok hH tm h5 (sEv_sub (sEv_C _) h3)) (by rw [kOvr_ne (by decide)]; exact ts) h6 h4)
      · cases h
        exact same
    · cases h
      exact same
  · cases h
    exact same
/-- a number on the stack: each of the first so many, below, above -/
def kSplV1 (x : sL) (K : kS) (b : Int × Int) : Option kS := match K with
  | ((pc, ls, st, G, c, s, Γ), γ) => (kAs Γ x b.1 b.2).map fun Γ' => ((pc, ls, st, G, c, s, Γ'), γ)
def kSplV (n : Nat) (K : kS) : Option (List kS) := match kTop K with
  | some x => (match sIv K.1.2.2.2.2.2.2.1 x with
    | some i => some (((List.range n).map (fun k : Nat => ((k : Int), (k : Int))) ++ [(i.1, -1), ((n : Int), i.2)]).filterMap (kSplV1 x K))
    | none => some [K])
  | none => some [K]
theorem kSplV_ok {GP : Nat → List Int → List eE → Prop} {n : Nat} {K : kS} {L : List kS} (h : kSplV n K = some L) {ρ : List Int} {R : eR} (hD : kD GP ρ K R) : ∃ K' ∈ L, ∃ ρ', ρ <+: ρ' ∧ kD GP ρ' K' R := by
  have same : ∃ K' ∈ [K], ∃ ρ', ρ <+: ρ' ∧ kD GP ρ' K' R := ⟨K, List.mem_singleton.mpr rfl, ρ, List.prefix_refl _, hD⟩
  unfold kSplV at h
  split at h
  · rename_i x hx
    split at h
    · rename_i i hi
      cases h
      obtain ⟨z, hz⟩ := sIv_has hD.1.1 hi
      have hb := sIv_ok hD.1.1 hz hi
      have key : ∀ b : Int × Int, b ∈ (List.range n).map (fun k : Nat => ((k : Int), (k : Int))) ++ [(i.1, -1), ((n : Int), i.2)] → b.1 ≤ z → z ≤ b.2 → ∃ K' ∈ ((List.range n).map (fun k : Nat => ((k : Int), (k : Int))) ++ [(i.1, -1), ((n : Int), i.2)]).filterMap (kSplV1 x K), ∃ ρ', ρ <+: ρ' ∧ kD GP ρ' K' R := fun b hbm h1 h2 => by
        obtain ⟨⟨pc, ls, st, G, c, s, Γ⟩, γ⟩ := K
        obtain ⟨Γ', e, m⟩ := kAs_ok hD.1 hz h1 h2
        exact ⟨((pc, ls, st, G, c, s, Γ'), γ), List.mem_filterMap.mpr ⟨b, hbm, by simp only [kSplV1]; rw [e]; rfl⟩, ρ, List.prefix_refl _, m, hD.2.1, hD.2.2⟩
      by_cases hneg : z ≤ -1
      · exact key (i.1, -1) (by simp) hb.1 hneg
      by_cases hbig : (n : Int) ≤ z
      · exact key ((n : Int), i.2) (by simp) hbig hb.2
      · refine key (z, z) (List.mem_append_left _ (List.mem_map.mpr ⟨z.toNat, List.mem_range.mpr (by omega), ?_⟩)) (Int.le_refl _) (Int.le_refl _)
        rw [show ((z.toNat : Nat) : Int) = z by omega]
    · cases h
      exact same
  · cases h
    exact same
/-- nothing is told of copies of ints by forms -/
def kIC (_ : sG) (_ : List kA) (_ _ _ _ : Nat) (_ _ _ : sL) : List kA := []
theorem kIC_ok {UP : Nat → List Int → List eE → Prop} : kIOk UP kIC := by
  intro Γ γ js jd sp dp n ρ zs zd zn H n0 n1 f g hM hg es ed en h1 h2 h3 h4 h5 hs hd q hq
  cases hq
/-! The consequences at their places. -/
def kF130 (j z : Nat) (K : kS) : Option sL := (kFf K.1.2.2.2.1 j z).map fun f => sAdd f (sC 130)
def kFst (K : kS) : Option sL := match K.1.2.2.1 with
  | v :: _ => if v.1 = 0 then some v.2 else none
  | [] => none
def kSWa : kS → Option (List kS) := kThen (kSWs 0) (kThen (kSWs 1) (kThen (kSWs 2) (kThen (kSWs 3) (kThen (kSWs 4) (kSWs 5)))))
def kOne (RO : List (Nat × (Nat → Int32))) (f : kS → Option (List kS)) : Prop := ∀ (K : kS) (L : List kS), f K = some L → ∀ (ρ : List Int) (R : eR), kD (kGP (kUP RO)) ρ K R → ∃ K' ∈ L, ∃ ρ', ρ <+: ρ' ∧ kD (kGP (kUP RO)) ρ' K' R
section KONE
variable {RO : List (Nat × (Nat → Int32))}
theorem kUP_1 {e : Int} {H : List eE} : kUP RO 1 [e] H ↔ kLog 15 14 16 17 e H := by
  constructor
  · intro h
    obtain ⟨e', h1, h2⟩ : ∃ e' : Int, [e] = [e'] ∧ kLog 15 14 16 17 e' H := h
    cases h1
    exact h2
  · intro h
    exact ⟨e, rfl, h⟩
theorem kUP_2 {e : Int} {H : List eE} : kUP RO 2 [e] H ↔ kLog 60 61 62 63 e H := by
  constructor
  · intro h
    obtain ⟨e', h1, h2⟩ : ∃ e' : Int, [e] = [e'] ∧ kLog 60 61 62 63 e' H := h
    cases h1
    exact h2
  · intro h
    exact ⟨e, rfl, h⟩
theorem kO_of {f : kS → Option (List kS)} (hf : ∀ {K : kS} {L : List kS}, f K = some L → ∀ {ρ : List Int} {R : eR}, kD (kGP (kUP RO)) ρ K R → ∃ K' ∈ L, ∃ ρ', ρ <+: ρ' ∧ kD (kGP (kUP RO)) ρ' K' R) : kOne RO f := fun _ _ h _ _ hD => hf h hD
theorem kO_splL (i n : Nat) : kOne RO (kSplL i n) := fun _ _ h _ _ hD => kSplL_ok h hD
theorem kO_splS (i n : Nat) : kOne RO (kSplS i n) := fun _ _ h _ _ hD => kSplS_ok h hD
theorem kO_app {r : kS → Option kWs} (hr : kRok RO r) : kOne RO (kApp r) := fun _ _ h _ _ hD => kApp_ok hr h hD
theorem kO_lg1 {pr cw ci cb ca cv : Nat} (hpr : pr < 1000) (hUP : ∀ e H, kUP RO pr [e] H → kLog cw ci cb ca e H) (hcv : cv = cb ∨ cv = ca) : kOne RO (kLg1 pr cw ci cv) := fun _ _ h _ _ hD => kLg1_ok hpr hUP hcv h hD
theorem kO_lg2 {pr cw ci cb ca : Nat} (hpr : pr < 1000) (hUP : ∀ e H, kUP RO pr [e] H ↔ kLog cw ci cb ca e H) : kOne RO (kLg2 pr cw ci cb ca) := fun _ _ h _ _ hD => kLg2_ok hpr hUP h hD
theorem kO_lg3 {pr cw ci cb ca : Nat} (hpr : pr < 1000) (hUP : ∀ e H, kUP RO pr [e] H ↔ kLog cw ci cb ca e H) : kOne RO (kLg3 pr cw ci cb ca) := fun _ _ h _ _ hD => kLg3_ok hpr hUP h hD
theorem kO_then {f g : kS → Option (List kS)} (hf : kOne RO f) (hg : kOne RO g) : kOne RO (kThen f g) := fun _ _ h _ _ hD => kThen_ok hf hg h hD
theorem kO_SWs (s : Nat) : kOne RO (kSWs s) := fun _ _ h _ _ hD => kSWs_ok h hD
theorem kO_SW : kOne RO kSWa := kO_then (kO_SWs 0) (kO_then (kO_SWs 1) (kO_then (kO_SWs 2) (kO_then (kO_SWs 3) (kO_then (kO_SWs 4) (kO_SWs 5)))))
theorem kO_id : kOne RO (fun K => some [K]) := fun K L h ρ R hD => by
  cases h
  exact ⟨K, List.mem_singleton.mpr rfl, ρ, List.prefix_refl _, hD⟩
theorem kO_0 : kOne RO (kWCr) := (fun _ _ h _ _ hD => kWCr_ok h hD)
theorem kO_1 : kOne RO (kWe 0 0) := (fun _ _ h _ _ hD => kWe_ok h hD)
theorem kO_2 : kOne RO (kWe 0 0) := (fun _ _ h _ _ hD => kWe_ok h hD)
theorem kO_3 : kOne RO (kWe 0 0) := (fun _ _ h _ _ hD => kWe_ok h hD)
theorem kO_4 : kOne RO (kNrm 1) := (fun _ _ h _ _ hD => kNrm_ok h hD)
theorem kO_5 : kOne RO (kWMr) := (fun _ _ h _ _ hD => kWMr_ok h hD)
theorem kO_6 : kOne RO (kWe 1 0) := (fun _ _ h _ _ hD => kWe_ok h hD)
theorem kO_7 : kOne RO (kWe 1 0) := (fun _ _ h _ _ hD => kWe_ok h hD)
theorem kO_8 : kOne RO (kWe 1 1) := (fun _ _ h _ _ hD => kWe_ok h hD)
theorem kO_9 : kOne RO (kThen (kLg1 2 60 61 62) (kLg1 2 60 61 63)) := (kO_then (kO_lg1 (cb := 62) (ca := 63) (by decide) (fun e H h => kUP_2.mp h) (by decide)) (kO_lg1 (cb := 62) (ca := 63) (by decide) (fun e H h => kUP_2.mp h) (by decide)))
theorem kO_10 : kOne RO (kThen (kLg1 2 60 61 62) (kLg1 2 60 61 63)) := (kO_then (kO_lg1 (cb := 62) (ca := 63) (by decide) (fun e H h => kUP_2.mp h) (by decide)) (kO_lg1 (cb := 62) (ca := 63) (by decide) (fun e H h => kUP_2.mp h) (by decide)))
theorem kO_11 : kOne RO (kThen (kLg1 2 60 61 62) (kLg1 2 60 61 63)) := (kO_then (kO_lg1 (cb := 62) (ca := 63) (by decide) (fun e H h => kUP_2.mp h) (by decide)) (kO_lg1 (cb := 62) (ca := 63) (by decide) (fun e H h => kUP_2.mp h) (by decide)))
theorem kO_12 : kOne RO (kThen (kLg1 2 60 61 62) (kLg1 2 60 61 63)) := (kO_then (kO_lg1 (cb := 62) (ca := 63) (by decide) (fun e H h => kUP_2.mp h) (by decide)) (kO_lg1 (cb := 62) (ca := 63) (by decide) (fun e H h => kUP_2.mp h) (by decide)))
theorem kO_13 : kOne RO (kThen (kLg1 2 60 61 62) (kLg1 2 60 61 63)) := (kO_then (kO_lg1 (cb := 62) (ca := 63) (by decide) (fun e H h => kUP_2.mp h) (by decide)) (kO_lg1 (cb := 62) (ca := 63) (by decide) (fun e H h => kUP_2.mp h) (by decide)))
theorem kO_14 : kOne RO (kThen (kLg1 2 60 61 62) (kLg1 2 60 61 63)) := (kO_then (kO_lg1 (cb := 62) (ca := 63) (by decide) (fun e H h => kUP_2.mp h) (by decide)) (kO_lg1 (cb := 62) (ca := 63) (by decide) (fun e H h => kUP_2.mp h) (by decide)))
theorem kO_15 : kOne RO (kSplL 1 10) := (kO_splL 1 10)
theorem kO_16 : kOne RO (kThen (kLg1 2 60 61 62) (kLg1 2 60 61 63)) := (kO_then (kO_lg1 (cb := 62) (ca := 63) (by decide) (fun e H h => kUP_2.mp h) (by decide)) (kO_lg1 (cb := 62) (ca := 63) (by decide) (fun e H h => kUP_2.mp h) (by decide)))
theorem kO_17 : kOne RO (kLg3 2 60 61 62 63) := (kO_lg3 (by decide) (fun e H => kUP_2))
theorem kO_18 : kOne RO (kLg2 2 60 61 62 63) := (kO_lg2 (by decide) (fun e H => kUP_2))
theorem kO_19 : kOne RO (kSplL 2 10) := (kO_splL 2 10)
theorem kO_20 : kOne RO (kApp kR4) := (kO_app kR4_ok)
theorem kO_21 : kOne RO (kThen (kApp (kR0 [(5, [sC 0, sC 0])])) (kApp (kR5 (kF130 52 21)))) := (kO_then (kO_app kR0a) (kO_app (kR5_ok _)))
theorem kO_22 : kOne RO (kThen (kApp kR8) (kApp (kR5 (kF130 52 21)))) := (kO_then (kO_app kR8_ok) (kO_app (kR5_ok _)))
theorem kO_23 : kOne RO (kThen (kApp kR8) (kApp kR6)) := (kO_then (kO_app kR8_ok) (kO_app kR6_ok))
theorem kO_24 : kOne RO (kApp (kR0 [(6, [sC 0, sC 0])])) := (kO_app kR0d)
theorem kO_25 : kOne RO (kApp (kR0 [(8, [sC 0])])) := (kO_app kR0b)
theorem kO_26 : kOne RO (kApp (kR9 8 65 66 130)) := (kO_app kR9a)
theorem kO_27 : kOne RO (kApp (kR15 52 21)) := (kO_app (kR15_ok 52 21))
theorem kO_28 : kOne RO (kApp (kR0 [(9, [sC 0])])) := (kO_app kR0c)
theorem kO_29 : kOne RO (kApp (kR9 9 68 69 61)) := (kO_app kR9b)
theorem kO_30 : kOne RO (kApp kR7) := (kO_app kR7_ok)
theorem kO_31 : kOne RO (kApp (kR5 kFst)) := (kO_app (kR5_ok _))
theorem kO_32 : kOne RO (kApp (kR11 5)) := (kO_app (kR11_ok 5))
theorem kO_33 : kOne RO (kApp (kR12 5)) := (kO_app (kR12_ok 5))
theorem kO_34 : kOne RO (kApp kR4) := (kO_app kR4_ok)
theorem kO_35 : kOne RO (kApp (kR0 [(10, [sC 0, sC 0])])) := (kO_app kR0e)
theorem kO_36 : kOne RO (kApp kR10) := (kO_app kR10_ok)
theorem kO_37 : kOne RO (kApp kR10) := (kO_app kR10_ok)
theorem kO_38 : kOne RO (kApp kR10) := (kO_app kR10_ok)
theorem kO_39 : kOne RO (kThen (kSplL 0 8) (kSplL 1 8)) := (kO_then (kO_splL 0 8) (kO_splL 1 8))
theorem kO_40 : kOne RO (kApp kIS) := (kO_app kIS_ok)
theorem kO_41 : kOne RO (kApp kIE) := (kO_app kIE_ok)
theorem kO_42 : kOne RO (kApp kIE) := (kO_app kIE_ok)
theorem kO_43 : kOne RO (kNrm 1) := (fun _ _ h _ _ hD => kNrm_ok h hD)
theorem kO_44 : kOne RO (kApp kZRr) := (kO_app kZRr_ok)
theorem kO_45 : kOne RO (kApp kZRe) := (kO_app kZRe_ok)
theorem kO_46 : kOne RO (kNrm 1) := (fun _ _ h _ _ hD => kNrm_ok h hD)
theorem kO_47 : kOne RO (kNrm 1) := (fun _ _ h _ _ hD => kNrm_ok h hD)
theorem kO_48 : kOne RO (kThen (kNrm 1) (kNrm 3)) := (kO_then (fun _ _ h _ _ hD => kNrm_ok h hD) (fun _ _ h _ _ hD => kNrm_ok h hD))
theorem kO_49 : kOne RO (kPN) := (fun _ _ h _ _ hD => kPN_ok h hD)
theorem kO_50 : kOne RO (kApp kBFr) := (kO_app kBFr_ok)
theorem kO_51 : kOne RO (kApp kL2i) := (kO_app kL2i_ok)
theorem kO_52 : kOne RO (kApp kL2e) := (kO_app kL2e_ok)
theorem kO_53 : kOne RO (kApp kIU) := (kO_app kIU_ok)
theorem kO_54 : kOne RO (kThen (kSplL 0 8) (kSplL 1 8)) := (kO_then (kO_splL 0 8) (kO_splL 1 8))
theorem kO_55 : kOne RO (kApp kIS) := (kO_app kIS_ok)
theorem kO_56 : kOne RO (kSplL 2 4) := (kO_splL 2 4)
theorem kO_57 : kOne RO (kSplS 0 8) := (kO_splS 0 8)
theorem kO_58 : kOne RO (kLg2 1 15 14 16 17) := (kO_lg2 (by decide) (fun e H => kUP_1))
theorem kO_59 : kOne RO (kLg1 1 15 14 16) := (kO_lg1 (cb := 16) (ca := 17) (by decide) (fun e H h => kUP_1.mp h) (by decide))
theorem kO_60 : kOne RO (kLg1 1 15 14 17) := (kO_lg1 (cb := 16) (ca := 17) (by decide) (fun e H h => kUP_1.mp h) (by decide))
theorem kO_61 : kOne RO (kApp kZCr) := (kO_app kZCr_ok)
theorem kO_62 : kOne RO (kApp kZCe) := (kO_app kZCe_ok)
theorem kO_63 : kOne RO (kThen (kApp kRI) (kThen (kApp kRJ) (kThen (kApp kRE) (kThen (kApp kSM) (kThen (kApp kK1) (kThen (kApp kEZ) (kApp kK1E))))))) := (kO_then (kO_app kRI_ok) (kO_then (kO_app kRJ_ok) (kO_then (kO_app kRE_ok) (kO_then (kO_app kSM_ok) (kO_then (kO_app kK1_ok) (kO_then (kO_app kEZ_ok) (kO_app kK1E_ok)))))))
theorem kO_64 : kOne RO (kThen (kSplH 0) (kThen (kSplH 1) (kThen (kSplH 2) (kThen (kSplH 3) (kThen (kSplH 4) (kThen (kSplH 5) (kThen (kApp kSU) (kThen (kSWa) (kThen (kApp kK2) (kThen (kApp kK3) (kThen (kApp kT2) (kThen (kApp kTEr) (kApp kWX))))))))))))) := (kO_then (fun _ _ h _ _ hD => kSplH_ok h hD) (kO_then (fun _ _ h _ _ hD => kSplH_ok h hD) (kO_then (fun _ _ h _ _ hD => kSplH_ok h hD) (kO_then (fun _ _ h _ _ hD => kSplH_ok h hD) (kO_then (fun _ _ h _ _ hD => kSplH_ok h hD) (kO_then (fun _ _ h _ _ hD => kSplH_ok h hD) (kO_then (kO_app kSU_ok) (kO_then (kO_SW) (kO_then (kO_app kK2_ok) (kO_then (kO_app kK3_ok) (kO_then (kO_app kT2_ok) (kO_then (kO_app kTEr_ok) (kO_app kWX_ok)))))))))))))
theorem kO_65 : kOne RO (kThen (kSplH 0) (kThen (kSplH 1) (kThen (kSplH 2) (kThen (kSplH 3) (kThen (kSplH 4) (kThen (kSplH 5) (kThen (kApp kSU) (kThen (kSWa) (kThen (kApp kK2) (kThen (kApp kK3) (kThen (kApp kT2) (kThen (kApp kTEr) (kApp kWX))))))))))))) := (kO_then (fun _ _ h _ _ hD => kSplH_ok h hD) (kO_then (fun _ _ h _ _ hD => kSplH_ok h hD) (kO_then (fun _ _ h _ _ hD => kSplH_ok h hD) (kO_then (fun _ _ h _ _ hD => kSplH_ok h hD) (kO_then (fun _ _ h _ _ hD => kSplH_ok h hD) (kO_then (fun _ _ h _ _ hD => kSplH_ok h hD) (kO_then (kO_app kSU_ok) (kO_then (kO_SW) (kO_then (kO_app kK2_ok) (kO_then (kO_app kK3_ok) (kO_then (kO_app kT2_ok) (kO_then (kO_app kTEr_ok) (kO_app kWX_ok)))))))))))))
theorem kO_66 : kOne RO (kThen (kSplH 0) (kThen (kSplH 1) (kThen (kSplH 2) (kThen (kSplH 3) (kThen (kSplH 4) (kThen (kSplH 5) (kThen (kApp kSU) (kThen (kSWa) (kThen (kApp kK2) (kThen (kApp kK3) (kThen (kApp kT2) (kThen (kApp kTEr) (kApp kWX))))))))))))) := (kO_then (fun _ _ h _ _ hD => kSplH_ok h hD) (kO_then (fun _ _ h _ _ hD => kSplH_ok h hD) (kO_then (fun _ _ h _ _ hD => kSplH_ok h hD) (kO_then (fun _ _ h _ _ hD => kSplH_ok h hD) (kO_then (fun _ _ h _ _ hD => kSplH_ok h hD) (kO_then (fun _ _ h _ _ hD => kSplH_ok h hD) (kO_then (kO_app kSU_ok) (kO_then (kO_SW) (kO_then (kO_app kK2_ok) (kO_then (kO_app kK3_ok) (kO_then (kO_app kT2_ok) (kO_then (kO_app kTEr_ok) (kO_app kWX_ok)))))))))))))
theorem kO_67 : kOne RO (kThen (kSplH 0) (kThen (kSplH 1) (kThen (kSplH 2) (kThen (kSplH 3) (kThen (kSplH 4) (kThen (kSplH 5) (kThen (kApp kSU) (kThen (kSWa) (kThen (kApp kK2) (kThen (kApp kK3) (kThen (kApp kT2) (kThen (kApp kTEr) (kApp kWX))))))))))))) := (kO_then (fun _ _ h _ _ hD => kSplH_ok h hD) (kO_then (fun _ _ h _ _ hD => kSplH_ok h hD) (kO_then (fun _ _ h _ _ hD => kSplH_ok h hD) (kO_then (fun _ _ h _ _ hD => kSplH_ok h hD) (kO_then (fun _ _ h _ _ hD => kSplH_ok h hD) (kO_then (fun _ _ h _ _ hD => kSplH_ok h hD) (kO_then (kO_app kSU_ok) (kO_then (kO_SW) (kO_then (kO_app kK2_ok) (kO_then (kO_app kK3_ok) (kO_then (kO_app kT2_ok) (kO_then (kO_app kTEr_ok) (kO_app kWX_ok)))))))))))))
theorem kO_68 : kOne RO (kThen (kSplH 0) (kThen (kSplH 1) (kThen (kSplH 2) (kThen (kSplH 3) (kThen (kSplH 4) (kThen (kSplH 5) (kThen (kApp kSU) (kThen (kSWa) (kThen (kApp kK2) (kThen (kApp kK3) (kThen (kApp kT2) (kThen (kApp kTEr) (kApp kWX))))))))))))) := (kO_then (fun _ _ h _ _ hD => kSplH_ok h hD) (kO_then (fun _ _ h _ _ hD => kSplH_ok h hD) (kO_then (fun _ _ h _ _ hD => kSplH_ok h hD) (kO_then (fun _ _ h _ _ hD => kSplH_ok h hD) (kO_then (fun _ _ h _ _ hD => kSplH_ok h hD) (kO_then (fun _ _ h _ _ hD => kSplH_ok h hD) (kO_then (kO_app kSU_ok) (kO_then (kO_SW) (kO_then (kO_app kK2_ok) (kO_then (kO_app kK3_ok) (kO_then (kO_app kT2_ok) (kO_then (kO_app kTEr_ok) (kO_app kWX_ok)))))))))))))
theorem kO_69 : kOne RO (kThen (kSplH 0) (kThen (kSplH 1) (kThen (kSplH 2) (kThen (kSplH 3) (kThen (kSplH 4) (kThen (kSplH 5) (kThen (kApp kSU) (kThen (kSWa) (kThen (kApp kK2) (kThen (kApp kK3) (kThen (kApp kT2) (kThen (kApp kTEr) (kApp kWX))))))))))))) := (kO_then (fun _ _ h _ _ hD => kSplH_ok h hD) (kO_then (fun _ _ h _ _ hD => kSplH_ok h hD) (kO_then (fun _ _ h _ _ hD => kSplH_ok h hD) (kO_then (fun _ _ h _ _ hD => kSplH_ok h hD) (kO_then (fun _ _ h _ _ hD => kSplH_ok h hD) (kO_then (fun _ _ h _ _ hD => kSplH_ok h hD) (kO_then (kO_app kSU_ok) (kO_then (kO_SW) (kO_then (kO_app kK2_ok) (kO_then (kO_app kK3_ok) (kO_then (kO_app kT2_ok) (kO_then (kO_app kTEr_ok) (kO_app kWX_ok)))))))))))))
theorem kO_70 : kOne RO (kThen (kSplH 0) (kThen (kSplH 1) (kThen (kSplH 2) (kThen (kSplH 3) (kThen (kSplH 4) (kThen (kSplH 5) (kThen (kApp kSU) (kThen (kSWa) (kThen (kApp kK2) (kThen (kApp kK3) (kThen (kApp kT2) (kThen (kApp kTEr) (kApp kWX))))))))))))) := (kO_then (fun _ _ h _ _ hD => kSplH_ok h hD) (kO_then (fun _ _ h _ _ hD => kSplH_ok h hD) (kO_then (fun _ _ h _ _ hD => kSplH_ok h hD) (kO_then (fun _ _ h _ _ hD => kSplH_ok h hD) (kO_then (fun _ _ h _ _ hD => kSplH_ok h hD) (kO_then (fun _ _ h _ _ hD => kSplH_ok h hD) (kO_then (kO_app kSU_ok) (kO_then (kO_SW) (kO_then (kO_app kK2_ok) (kO_then (kO_app kK3_ok) (kO_then (kO_app kT2_ok) (kO_then (kO_app kTEr_ok) (kO_app kWX_ok)))))))))))))
theorem kO_71 : kOne RO (kThen (kSplH 0) (kThen (kSplH 1) (kThen (kSplH 2) (kThen (kSplH 3) (kThen (kSplH 4) (kThen (kSplH 5) (kThen (kApp kSU) (kThen (kSWa) (kThen (kApp kK2) (kThen (kApp kK3) (kThen (kApp kT2) (kThen (kApp kTEr) (kApp kWX))))))))))))) := (kO_then (fun _ _ h _ _ hD => kSplH_ok h hD) (kO_then (fun _ _ h _ _ hD => kSplH_ok h hD) (kO_then (fun _ _ h _ _ hD => kSplH_ok h hD) (kO_then (fun _ _ h _ _ hD => kSplH_ok h hD) (kO_then (fun _ _ h _ _ hD => kSplH_ok h hD) (kO_then (fun _ _ h _ _ hD => kSplH_ok h hD) (kO_then (kO_app kSU_ok) (kO_then (kO_SW) (kO_then (kO_app kK2_ok) (kO_then (kO_app kK3_ok) (kO_then (kO_app kT2_ok) (kO_then (kO_app kTEr_ok) (kO_app kWX_ok)))))))))))))
theorem kO_72 : kOne RO (kThen (kSplH 0) (kThen (kSplH 1) (kThen (kSplH 2) (kThen (kSplH 3) (kThen (kSplH 4) (kThen (kSplH 5) (kThen (kApp kSU) (kThen (kSWa) (kThen (kApp kK2) (kThen (kApp kK3) (kThen (kApp kT2) (kThen (kApp kTEr) (kApp kWX))))))))))))) := (kO_then (fun _ _ h _ _ hD => kSplH_ok h hD) (kO_then (fun _ _ h _ _ hD => kSplH_ok h hD) (kO_then (fun _ _ h _ _ hD => kSplH_ok h hD) (kO_then (fun _ _ h _ _ hD => kSplH_ok h hD) (kO_then (fun _ _ h _ _ hD => kSplH_ok h hD) (kO_then (fun _ _ h _ _ hD => kSplH_ok h hD) (kO_then (kO_app kSU_ok) (kO_then (kO_SW) (kO_then (kO_app kK2_ok) (kO_then (kO_app kK3_ok) (kO_then (kO_app kT2_ok) (kO_then (kO_app kTEr_ok) (kO_app kWX_ok)))))))))))))
theorem kO_73 : kOne RO (kThen (kSplH 0) (kThen (kSplH 1) (kThen (kSplH 2) (kThen (kSplH 3) (kThen (kSplH 4) (kThen (kSplH 5) (kThen (kApp kSU) (kThen (kSWa) (kThen (kApp kK2) (kThen (kApp kK3) (kThen (kApp kT2) (kThen (kApp kTEr) (kApp kWX))))))))))))) := (kO_then (fun _ _ h _ _ hD => kSplH_ok h hD) (kO_then (fun _ _ h _ _ hD => kSplH_ok h hD) (kO_then (fun _ _ h _ _ hD => kSplH_ok h hD) (kO_then (fun _ _ h _ _ hD => kSplH_ok h hD) (kO_then (fun _ _ h _ _ hD => kSplH_ok h hD) (kO_then (fun _ _ h _ _ hD => kSplH_ok h hD) (kO_then (kO_app kSU_ok) (kO_then (kO_SW) (kO_then (kO_app kK2_ok) (kO_then (kO_app kK3_ok) (kO_then (kO_app kT2_ok) (kO_then (kO_app kTEr_ok) (kO_app kWX_ok)))))))))))))
theorem kO_74 : kOne RO (kThen (kSplH 0) (kThen (kSplH 1) (kThen (kSplH 2) (kThen (kSplH 3) (kThen (kSplH 4) (kThen (kSplH 5) (kThen (kApp kSU) (kThen (kSWa) (kThen (kApp kK2) (kThen (kApp kK3) (kThen (kApp kT2) (kThen (kApp kTEr) (kApp kWX))))))))))))) := (kO_then (fun _ _ h _ _ hD => kSplH_ok h hD) (kO_then (fun _ _ h _ _ hD => kSplH_ok h hD) (kO_then (fun _ _ h _ _ hD => kSplH_ok h hD) (kO_then (fun _ _ h _ _ hD => kSplH_ok h hD) (kO_then (fun _ _ h _ _ hD => kSplH_ok h hD) (kO_then (fun _ _ h _ _ hD => kSplH_ok h hD) (kO_then (kO_app kSU_ok) (kO_then (kO_SW) (kO_then (kO_app kK2_ok) (kO_then (kO_app kK3_ok) (kO_then (kO_app kT2_ok) (kO_then (kO_app kTEr_ok) (kO_app kWX_ok)))))))))))))
theorem kO_75 : kOne RO (kThen (kSplH 0) (kThen (kSplH 1) (kThen (kSplH 2) (kThen (kSplH 3) (kThen (kSplH 4) (kThen (kSplH 5) (kThen (kApp kSU) (kThen (kSWa) (kThen (kApp kK2) (kThen (kApp kK3) (kThen (kApp kT2) (kThen (kApp kTEr) (kApp kWX))))))))))))) := (kO_then (fun _ _ h _ _ hD => kSplH_ok h hD) (kO_then (fun _ _ h _ _ hD => kSplH_ok h hD) (kO_then (fun _ _ h _ _ hD => kSplH_ok h hD) (kO_then (fun _ _ h _ _ hD => kSplH_ok h hD) (kO_then (fun _ _ h _ _ hD => kSplH_ok h hD) (kO_then (fun _ _ h _ _ hD => kSplH_ok h hD) (kO_then (kO_app kSU_ok) (kO_then (kO_SW) (kO_then (kO_app kK2_ok) (kO_then (kO_app kK3_ok) (kO_then (kO_app kT2_ok) (kO_then (kO_app kTEr_ok) (kO_app kWX_ok)))))))))))))
theorem kO_76 : kOne RO (kThen (kSplH 0) (kThen (kSplH 1) (kThen (kSplH 2) (kThen (kSplH 3) (kThen (kSplH 4) (kThen (kSplH 5) (kThen (kApp kSU) (kThen (kSWa) (kThen (kApp kK2) (kThen (kApp kK3) (kThen (kApp kT2) (kThen (kApp kTEr) (kApp kWX))))))))))))) := (kO_then (fun _ _ h _ _ hD => kSplH_ok h hD) (kO_then (fun _ _ h _ _ hD => kSplH_ok h hD) (kO_then (fun _ _ h _ _ hD => kSplH_ok h hD) (kO_then (fun _ _ h _ _ hD => kSplH_ok h hD) (kO_then (fun _ _ h _ _ hD => kSplH_ok h hD) (kO_then (fun _ _ h _ _ hD => kSplH_ok h hD) (kO_then (kO_app kSU_ok) (kO_then (kO_SW) (kO_then (kO_app kK2_ok) (kO_then (kO_app kK3_ok) (kO_then (kO_app kT2_ok) (kO_then (kO_app kTEr_ok) (kO_app kWX_ok)))))))))))))
theorem kO_77 : kOne RO (kThen (kSplH 0) (kThen (kSplH 1) (kThen (kSplH 2) (kThen (kSplH 3) (kThen (kSplH 4) (kThen (kSplH 5) (kThen (kApp kSU) (kThen (kSWa) (kThen (kApp kK2) (kThen (kApp kK3) (kThen (kApp kT2) (kThen (kApp kTEr) (kApp kWX))))))))))))) := (kO_then (fun _ _ h _ _ hD => kSplH_ok h hD) (kO_then (fun _ _ h _ _ hD => kSplH_ok h hD) (kO_then (fun _ _ h _ _ hD => kSplH_ok h hD) (kO_then (fun _ _ h _ _ hD => kSplH_ok h hD) (kO_then (fun _ _ h _ _ hD => kSplH_ok h hD) (kO_then (fun _ _ h _ _ hD => kSplH_ok h hD) (kO_then (kO_app kSU_ok) (kO_then (kO_SW) (kO_then (kO_app kK2_ok) (kO_then (kO_app kK3_ok) (kO_then (kO_app kT2_ok) (kO_then (kO_app kTEr_ok) (kO_app kWX_ok)))))))))))))
theorem kO_78 : kOne RO (kThen (kSplH 0) (kThen (kSplH 1) (kThen (kSplH 2) (kThen (kSplH 3) (kThen (kSplH 4) (kThen (kSplH 5) (kThen (kApp kSU) (kThen (kSWa) (kThen (kApp kK2) (kThen (kApp kK3) (kThen (kApp kT2) (kThen (kApp kTEr) (kApp kWX))))))))))))) := (kO_then (fun _ _ h _ _ hD => kSplH_ok h hD) (kO_then (fun _ _ h _ _ hD => kSplH_ok h hD) (kO_then (fun _ _ h _ _ hD => kSplH_ok h hD) (kO_then (fun _ _ h _ _ hD => kSplH_ok h hD) (kO_then (fun _ _ h _ _ hD => kSplH_ok h hD) (kO_then (fun _ _ h _ _ hD => kSplH_ok h hD) (kO_then (kO_app kSU_ok) (kO_then (kO_SW) (kO_then (kO_app kK2_ok) (kO_then (kO_app kK3_ok) (kO_then (kO_app kT2_ok) (kO_then (kO_app kTEr_ok) (kO_app kWX_ok)))))))))))))
theorem kO_79 : kOne RO (kThen (kSplH 0) (kThen (kSplH 1) (kThen (kSplH 2) (kThen (kSplH 3) (kThen (kSplH 4) (kThen (kSplH 5) (kThen (kApp kSU) (kThen (kSWa) (kThen (kApp kK2) (kThen (kApp kK3) (kThen (kApp kT2) (kThen (kApp kTEr) (kApp kWX))))))))))))) := (kO_then (fun _ _ h _ _ hD => kSplH_ok h hD) (kO_then (fun _ _ h _ _ hD => kSplH_ok h hD) (kO_then (fun _ _ h _ _ hD => kSplH_ok h hD) (kO_then (fun _ _ h _ _ hD => kSplH_ok h hD) (kO_then (fun _ _ h _ _ hD => kSplH_ok h hD) (kO_then (fun _ _ h _ _ hD => kSplH_ok h hD) (kO_then (kO_app kSU_ok) (kO_then (kO_SW) (kO_then (kO_app kK2_ok) (kO_then (kO_app kK3_ok) (kO_then (kO_app kT2_ok) (kO_then (kO_app kTEr_ok) (kO_app kWX_ok)))))))))))))
theorem kO_80 : kOne RO (kThen (kSplH 0) (kThen (kSplH 1) (kThen (kSplH 2) (kThen (kSplH 3) (kThen (kSplH 4) (kThen (kSplH 5) (kThen (kApp kSU) (kThen (kSWa) (kThen (kApp kK2) (kThen (kApp kK3) (kThen (kApp kT2) (kThen (kApp kTEr) (kApp kWX))))))))))))) := (kO_then (fun _ _ h _ _ hD => kSplH_ok h hD) (kO_then (fun _ _ h _ _ hD => kSplH_ok h hD) (kO_then (fun _ _ h _ _ hD => kSplH_ok h hD) (kO_then (fun _ _ h _ _ hD => kSplH_ok h hD) (kO_then (fun _ _ h _ _ hD => kSplH_ok h hD) (kO_then (fun _ _ h _ _ hD => kSplH_ok h hD) (kO_then (kO_app kSU_ok) (kO_then (kO_SW) (kO_then (kO_app kK2_ok) (kO_then (kO_app kK3_ok) (kO_then (kO_app kT2_ok) (kO_then (kO_app kTEr_ok) (kO_app kWX_ok)))))))))))))
theorem kO_81 : kOne RO (kThen (kSplH 0) (kThen (kSplH 1) (kThen (kSplH 2) (kThen (kSplH 3) (kThen (kSplH 4) (kThen (kSplH 5) (kThen (kApp kSU) (kThen (kSWa) (kThen (kApp kK2) (kThen (kApp kK3) (kThen (kApp kT2) (kThen (kApp kTEr) (kApp kWX))))))))))))) := (kO_then (fun _ _ h _ _ hD => kSplH_ok h hD) (kO_then (fun _ _ h _ _ hD => kSplH_ok h hD) (kO_then (fun _ _ h _ _ hD => kSplH_ok h hD) (kO_then (fun _ _ h _ _ hD => kSplH_ok h hD) (kO_then (fun _ _ h _ _ hD => kSplH_ok h hD) (kO_then (fun _ _ h _ _ hD => kSplH_ok h hD) (kO_then (kO_app kSU_ok) (kO_then (kO_SW) (kO_then (kO_app kK2_ok) (kO_then (kO_app kK3_ok) (kO_then (kO_app kT2_ok) (kO_then (kO_app kTEr_ok) (kO_app kWX_ok)))))))))))))
theorem kO_82 : kOne RO (kThen (kSplH 0) (kThen (kSplH 1) (kThen (kSplH 2) (kThen (kSplH 3) (kThen (kSplH 4) (kThen (kSplH 5) (kThen (kApp kSU) (kThen (kSWa) (kThen (kApp kK2) (kThen (kApp kK3) (kThen (kApp kT2) (kThen (kApp kTEr) (kApp kWX))))))))))))) := (kO_then (fun _ _ h _ _ hD => kSplH_ok h hD) (kO_then (fun _ _ h _ _ hD => kSplH_ok h hD) (kO_then (fun _ _ h _ _ hD => kSplH_ok h hD) (kO_then (fun _ _ h _ _ hD => kSplH_ok h hD) (kO_then (fun _ _ h _ _ hD => kSplH_ok h hD) (kO_then (fun _ _ h _ _ hD => kSplH_ok h hD) (kO_then (kO_app kSU_ok) (kO_then (kO_SW) (kO_then (kO_app kK2_ok) (kO_then (kO_app kK3_ok) (kO_then (kO_app kT2_ok) (kO_then (kO_app kTEr_ok) (kO_app kWX_ok)))))))))))))
theorem kO_83 : kOne RO (kThen (kSplH 0) (kThen (kSplH 1) (kThen (kSplH 2) (kThen (kSplH 3) (kThen (kSplH 4) (kThen (kSplH 5) (kThen (kApp kSU) (kThen (kSWa) (kThen (kApp kK2) (kThen (kApp kK3) (kThen (kApp kT2) (kThen (kApp kTEr) (kApp kWX))))))))))))) := (kO_then (fun _ _ h _ _ hD => kSplH_ok h hD) (kO_then (fun _ _ h _ _ hD => kSplH_ok h hD) (kO_then (fun _ _ h _ _ hD => kSplH_ok h hD) (kO_then (fun _ _ h _ _ hD => kSplH_ok h hD) (kO_then (fun _ _ h _ _ hD => kSplH_ok h hD) (kO_then (fun _ _ h _ _ hD => kSplH_ok h hD) (kO_then (kO_app kSU_ok) (kO_then (kO_SW) (kO_then (kO_app kK2_ok) (kO_then (kO_app kK3_ok) (kO_then (kO_app kT2_ok) (kO_then (kO_app kTEr_ok) (kO_app kWX_ok)))))))))))))
theorem kO_84 : kOne RO (kThen (kSplH 0) (kThen (kSplH 1) (kThen (kSplH 2) (kThen (kSplH 3) (kThen (kSplH 4) (kThen (kSplH 5) (kThen (kApp kSU) (kThen (kSWa) (kThen (kApp kK2) (kThen (kApp kK3) (kThen (kApp kT2) (kThen (kApp kTEr) (kApp kWX))))))))))))) := (kO_then (fun _ _ h _ _ hD => kSplH_ok h hD) (kO_then (fun _ _ h _ _ hD => kSplH_ok h hD) (kO_then (fun _ _ h _ _ hD => kSplH_ok h hD) (kO_then (fun _ _ h _ _ hD => kSplH_ok h hD) (kO_then (fun _ _ h _ _ hD => kSplH_ok h hD) (kO_then (fun _ _ h _ _ hD => kSplH_ok h hD) (kO_then (kO_app kSU_ok) (kO_then (kO_SW) (kO_then (kO_app kK2_ok) (kO_then (kO_app kK3_ok) (kO_then (kO_app kT2_ok) (kO_then (kO_app kTEr_ok) (kO_app kWX_ok)))))))))))))
theorem kO_85 : kOne RO (kThen (kSplH 0) (kThen (kSplH 1) (kThen (kSplH 2) (kThen (kSplH 3) (kThen (kSplH 4) (kThen (kSplH 5) (kThen (kApp kSU) (kThen (kSWa) (kThen (kApp kK2) (kThen (kApp kK3) (kThen (kApp kT2) (kThen (kApp kTEr) (kApp kWX))))))))))))) := (kO_then (fun _ _ h _ _ hD => kSplH_ok h hD) (kO_then (fun _ _ h _ _ hD => kSplH_ok h hD) (kO_then (fun _ _ h _ _ hD => kSplH_ok h hD) (kO_then (fun _ _ h _ _ hD => kSplH_ok h hD) (kO_then (fun _ _ h _ _ hD => kSplH_ok h hD) (kO_then (fun _ _ h _ _ hD => kSplH_ok h hD) (kO_then (kO_app kSU_ok) (kO_then (kO_SW) (kO_then (kO_app kK2_ok) (kO_then (kO_app kK3_ok) (kO_then (kO_app kT2_ok) (kO_then (kO_app kTEr_ok) (kO_app kWX_ok)))))))))))))
theorem kO_86 : kOne RO (kThen (kSplH 0) (kThen (kSplH 1) (kThen (kSplH 2) (kThen (kSplH 3) (kThen (kSplH 4) (kThen (kSplH 5) (kThen (kApp kSU) (kThen (kSWa) (kThen (kApp kK2) (kThen (kApp kK3) (kThen (kApp kT2) (kThen (kApp kTEr) (kApp kWX))))))))))))) := (kO_then (fun _ _ h _ _ hD => kSplH_ok h hD) (kO_then (fun _ _ h _ _ hD => kSplH_ok h hD) (kO_then (fun _ _ h _ _ hD => kSplH_ok h hD) (kO_then (fun _ _ h _ _ hD => kSplH_ok h hD) (kO_then (fun _ _ h _ _ hD => kSplH_ok h hD) (kO_then (fun _ _ h _ _ hD => kSplH_ok h hD) (kO_then (kO_app kSU_ok) (kO_then (kO_SW) (kO_then (kO_app kK2_ok) (kO_then (kO_app kK3_ok) (kO_then (kO_app kT2_ok) (kO_then (kO_app kTEr_ok) (kO_app kWX_ok)))))))))))))
theorem kO_87 : kOne RO (kThen (kSplH 0) (kThen (kSplH 1) (kThen (kSplH 2) (kThen (kSplH 3) (kThen (kSplH 4) (kThen (kSplH 5) (kThen (kApp kSU) (kThen (kSWa) (kThen (kApp kK2) (kThen (kApp kK3) (kThen (kApp kT2) (kThen (kApp kTEr) (kApp kWX))))))))))))) := (kO_then (fun _ _ h _ _ hD => kSplH_ok h hD) (kO_then (fun _ _ h _ _ hD => kSplH_ok h hD) (kO_then (fun _ _ h _ _ hD => kSplH_ok h hD) (kO_then (fun _ _ h _ _ hD => kSplH_ok h hD) (kO_then (fun _ _ h _ _ hD => kSplH_ok h hD) (kO_then (fun _ _ h _ _ hD => kSplH_ok h hD) (kO_then (kO_app kSU_ok) (kO_then (kO_SW) (kO_then (kO_app kK2_ok) (kO_then (kO_app kK3_ok) (kO_then (kO_app kT2_ok) (kO_then (kO_app kTEr_ok) (kO_app kWX_ok)))))))))))))
theorem kO_88 : kOne RO (kThen (kSplH 0) (kThen (kSplH 1) (kThen (kSplH 2) (kThen (kSplH 3) (kThen (kSplH 4) (kThen (kSplH 5) (kThen (kApp kSU) (kThen (kSWa) (kThen (kApp kK2) (kThen (kApp kK3) (kThen (kApp kT2) (kThen (kApp kTEr) (kApp kWX))))))))))))) := (kO_then (fun _ _ h _ _ hD => kSplH_ok h hD) (kO_then (fun _ _ h _ _ hD => kSplH_ok h hD) (kO_then (fun _ _ h _ _ hD => kSplH_ok h hD) (kO_then (fun _ _ h _ _ hD => kSplH_ok h hD) (kO_then (fun _ _ h _ _ hD => kSplH_ok h hD) (kO_then (fun _ _ h _ _ hD => kSplH_ok h hD) (kO_then (kO_app kSU_ok) (kO_then (kO_SW) (kO_then (kO_app kK2_ok) (kO_then (kO_app kK3_ok) (kO_then (kO_app kT2_ok) (kO_then (kO_app kTEr_ok) (kO_app kWX_ok)))))))))))))
theorem kO_89 : kOne RO (kThen (kSplH 0) (kThen (kSplH 1) (kThen (kSplH 2) (kThen (kSplH 3) (kThen (kSplH 4) (kThen (kSplH 5) (kThen (kApp kSU) (kThen (kSWa) (kThen (kApp kK2) (kThen (kApp kK3) (kThen (kApp kT2) (kThen (kApp kTEr) (kApp kWX))))))))))))) := (kO_then (fun _ _ h _ _ hD => kSplH_ok h hD) (kO_then (fun _ _ h _ _ hD => kSplH_ok h hD) (kO_then (fun _ _ h _ _ hD => kSplH_ok h hD) (kO_then (fun _ _ h _ _ hD => kSplH_ok h hD) (kO_then (fun _ _ h _ _ hD => kSplH_ok h hD) (kO_then (fun _ _ h _ _ hD => kSplH_ok h hD) (kO_then (kO_app kSU_ok) (kO_then (kO_SW) (kO_then (kO_app kK2_ok) (kO_then (kO_app kK3_ok) (kO_then (kO_app kT2_ok) (kO_then (kO_app kTEr_ok) (kO_app kWX_ok)))))))))))))
theorem kO_90 : kOne RO (kThen (kSplH 0) (kThen (kSplH 1) (kThen (kSplH 2) (kThen (kSplH 3) (kThen (kSplH 4) (kThen (kSplH 5) (kThen (kApp kSU) (kThen (kSWa) (kThen (kApp kK2) (kThen (kApp kK3) (kThen (kApp kT2) (kThen (kApp kTEr) (kApp kWX))))))))))))) := (kO_then (fun _ _ h _ _ hD => kSplH_ok h hD) (kO_then (fun _ _ h _ _ hD => kSplH_ok h hD) (kO_then (fun _ _ h _ _ hD => kSplH_ok h hD) (kO_then (fun _ _ h _ _ hD => kSplH_ok h hD) (kO_then (fun _ _ h _ _ hD => kSplH_ok h hD) (kO_then (fun _ _ h _ _ hD => kSplH_ok h hD) (kO_then (kO_app kSU_ok) (kO_then (kO_SW) (kO_then (kO_app kK2_ok) (kO_then (kO_app kK3_ok) (kO_then (kO_app kT2_ok) (kO_then (kO_app kTEr_ok) (kO_app kWX_ok)))))))))))))
theorem kO_91 : kOne RO (kThen (kSplH 0) (kThen (kSplH 1) (kThen (kSplH 2) (kThen (kSplH 3) (kThen (kSplH 4) (kThen (kSplH 5) (kThen (kApp kSU) (kThen (kSWa) (kThen (kApp kK2) (kThen (kApp kK3) (kThen (kApp kT2) (kThen (kApp kTEr) (kApp kWX))))))))))))) := (kO_then (fun _ _ h _ _ hD => kSplH_ok h hD) (kO_then (fun _ _ h _ _ hD => kSplH_ok h hD) (kO_then (fun _ _ h _ _ hD => kSplH_ok h hD) (kO_then (fun _ _ h _ _ hD => kSplH_ok h hD) (kO_then (fun _ _ h _ _ hD => kSplH_ok h hD) (kO_then (fun _ _ h _ _ hD => kSplH_ok h hD) (kO_then (kO_app kSU_ok) (kO_then (kO_SW) (kO_then (kO_app kK2_ok) (kO_then (kO_app kK3_ok) (kO_then (kO_app kT2_ok) (kO_then (kO_app kTEr_ok) (kO_app kWX_ok)))))))))))))
theorem kO_92 : kOne RO (kThen (kSplH 0) (kThen (kSplH 1) (kThen (kSplH 2) (kThen (kSplH 3) (kThen (kSplH 4) (kThen (kSplH 5) (kThen (kApp kSU) (kThen (kSWa) (kThen (kApp kK2) (kThen (kApp kK3) (kThen (kApp kT2) (kThen (kApp kTEr) (kApp kWX))))))))))))) := (kO_then (fun _ _ h _ _ hD => kSplH_ok h hD) (kO_then (fun _ _ h _ _ hD => kSplH_ok h hD) (kO_then (fun _ _ h _ _ hD => kSplH_ok h hD) (kO_then (fun _ _ h _ _ hD => kSplH_ok h hD) (kO_then (fun _ _ h _ _ hD => kSplH_ok h hD) (kO_then (fun _ _ h _ _ hD => kSplH_ok h hD) (kO_then (kO_app kSU_ok) (kO_then (kO_SW) (kO_then (kO_app kK2_ok) (kO_then (kO_app kK3_ok) (kO_then (kO_app kT2_ok) (kO_then (kO_app kTEr_ok) (kO_app kWX_ok)))))))))))))
theorem kO_93 : kOne RO (kThen (kSplH 0) (kThen (kSplH 1) (kThen (kSplH 2) (kThen (kSplH 3) (kThen (kSplH 4) (kThen (kSplH 5) (kThen (kApp kSU) (kThen (kSWa) (kThen (kApp kK2) (kThen (kApp kK3) (kThen (kApp kT2) (kThen (kApp kTEr) (kApp kWX))))))))))))) := (kO_then (fun _ _ h _ _ hD => kSplH_ok h hD) (kO_then (fun _ _ h _ _ hD => kSplH_ok h hD) (kO_then (fun _ _ h _ _ hD => kSplH_ok h hD) (kO_then (fun _ _ h _ _ hD => kSplH_ok h hD) (kO_then (fun _ _ h _ _ hD => kSplH_ok h hD) (kO_then (fun _ _ h _ _ hD => kSplH_ok h hD) (kO_then (kO_app kSU_ok) (kO_then (kO_SW) (kO_then (kO_app kK2_ok) (kO_then (kO_app kK3_ok) (kO_then (kO_app kT2_ok) (kO_then (kO_app kTEr_ok) (kO_app kWX_ok)))))))))))))
theorem kO_94 : kOne RO (kThen (kSplH 0) (kThen (kSplH 1) (kThen (kSplH 2) (kThen (kSplH 3) (kThen (kSplH 4) (kThen (kSplH 5) (kThen (kApp kSU) (kThen (kSWa) (kThen (kApp kK2) (kThen (kApp kK3) (kThen (kApp kT2) (kThen (kApp kTEr) (kApp kWX))))))))))))) := (kO_then (fun _ _ h _ _ hD => kSplH_ok h hD) (kO_then (fun _ _ h _ _ hD => kSplH_ok h hD) (kO_then (fun _ _ h _ _ hD => kSplH_ok h hD) (kO_then (fun _ _ h _ _ hD => kSplH_ok h hD) (kO_then (fun _ _ h _ _ hD => kSplH_ok h hD) (kO_then (fun _ _ h _ _ hD => kSplH_ok h hD) (kO_then (kO_app kSU_ok) (kO_then (kO_SW) (kO_then (kO_app kK2_ok) (kO_then (kO_app kK3_ok) (kO_then (kO_app kT2_ok) (kO_then (kO_app kTEr_ok) (kO_app kWX_ok)))))))))))))
theorem kO_95 : kOne RO (kThen (kSplH 0) (kThen (kSplH 1) (kThen (kSplH 2) (kThen (kSplH 3) (kThen (kSplH 4) (kThen (kSplH 5) (kThen (kApp kSU) (kThen (kSWa) (kThen (kApp kK2) (kThen (kApp kK3) (kThen (kApp kT2) (kThen (kApp kTEr) (kApp kWX))))))))))))) := (kO_then (fun _ _ h _ _ hD => kSplH_ok h hD) (kO_then (fun _ _ h _ _ hD => kSplH_ok h hD) (kO_then (fun _ _ h _ _ hD => kSplH_ok h hD) (kO_then (fun _ _ h _ _ hD => kSplH_ok h hD) (kO_then (fun _ _ h _ _ hD => kSplH_ok h hD) (kO_then (fun _ _ h _ _ hD => kSplH_ok h hD) (kO_then (kO_app kSU_ok) (kO_then (kO_SW) (kO_then (kO_app kK2_ok) (kO_then (kO_app kK3_ok) (kO_then (kO_app kT2_ok) (kO_then (kO_app kTEr_ok) (kO_app kWX_ok)))))))))))))
theorem kO_96 : kOne RO (kThen (kSplH 0) (kThen (kSplH 1) (kThen (kSplH 2) (kThen (kSplH 3) (kThen (kSplH 4) (kThen (kSplH 5) (kThen (kApp kSU) (kThen (kSWa) (kThen (kApp kK2) (kThen (kApp kK3) (kThen (kApp kT2) (kThen (kApp kTEr) (kApp kWX))))))))))))) := (kO_then (fun _ _ h _ _ hD => kSplH_ok h hD) (kO_then (fun _ _ h _ _ hD => kSplH_ok h hD) (kO_then (fun _ _ h _ _ hD => kSplH_ok h hD) (kO_then (fun _ _ h _ _ hD => kSplH_ok h hD) (kO_then (fun _ _ h _ _ hD => kSplH_ok h hD) (kO_then (fun _ _ h _ _ hD => kSplH_ok h hD) (kO_then (kO_app kSU_ok) (kO_then (kO_SW) (kO_then (kO_app kK2_ok) (kO_then (kO_app kK3_ok) (kO_then (kO_app kT2_ok) (kO_then (kO_app kTEr_ok) (kO_app kWX_ok)))))))))))))
theorem kO_97 : kOne RO (kThen (kSplH 0) (kThen (kSplH 1) (kThen (kSplH 2) (kThen (kSplH 3) (kThen (kSplH 4) (kThen (kSplH 5) (kThen (kApp kSU) (kThen (kSWa) (kThen (kApp kK2) (kThen (kApp kK3) (kThen (kApp kT2) (kThen (kApp kTEr) (kApp kWX))))))))))))) := (kO_then (fun _ _ h _ _ hD => kSplH_ok h hD) (kO_then (fun _ _ h _ _ hD => kSplH_ok h hD) (kO_then (fun _ _ h _ _ hD => kSplH_ok h hD) (kO_then (fun _ _ h _ _ hD => kSplH_ok h hD) (kO_then (fun _ _ h _ _ hD => kSplH_ok h hD) (kO_then (fun _ _ h _ _ hD => kSplH_ok h hD) (kO_then (kO_app kSU_ok) (kO_then (kO_SW) (kO_then (kO_app kK2_ok) (kO_then (kO_app kK3_ok) (kO_then (kO_app kT2_ok) (kO_then (kO_app kTEr_ok) (kO_app kWX_ok)))))))))))))
theorem kO_98 : kOne RO (kThen (kSplH 0) (kThen (kSplH 1) (kThen (kSplH 2) (kThen (kSplH 3) (kThen (kSplH 4) (kThen (kSplH 5) (kThen (kApp kSU) (kThen (kSWa) (kThen (kApp kK2) (kThen (kApp kK3) (kThen (kApp kT2) (kThen (kApp kTEr) (kApp kWX))))))))))))) := (kO_then (fun _ _ h _ _ hD => kSplH_ok h hD) (kO_then (fun _ _ h _ _ hD => kSplH_ok h hD) (kO_then (fun _ _ h _ _ hD => kSplH_ok h hD) (kO_then (fun _ _ h _ _ hD => kSplH_ok h hD) (kO_then (fun _ _ h _ _ hD => kSplH_ok h hD) (kO_then (fun _ _ h _ _ hD => kSplH_ok h hD) (kO_then (kO_app kSU_ok) (kO_then (kO_SW) (kO_then (kO_app kK2_ok) (kO_then (kO_app kK3_ok) (kO_then (kO_app kT2_ok) (kO_then (kO_app kTEr_ok) (kO_app kWX_ok)))))))))))))
theorem kO_99 : kOne RO (kThen (kSplH 0) (kThen (kSplH 1) (kThen (kSplH 2) (kThen (kSplH 3) (kThen (kSplH 4) (kThen (kSplH 5) (kThen (kApp kSU) (kThen (kSWa) (kThen (kApp kK2) (kThen (kApp kK3) (kThen (kApp kT2) (kThen (kApp kTEr) (kApp kWX))))))))))))) := (kO_then (fun _ _ h _ _ hD => kSplH_ok h hD) (kO_then (fun _ _ h _ _ hD => kSplH_ok h hD) (kO_then (fun _ _ h _ _ hD => kSplH_ok h hD) (kO_then (fun _ _ h _ _ hD => kSplH_ok h hD) (kO_then (fun _ _ h _ _ hD => kSplH_ok h hD) (kO_then (fun _ _ h _ _ hD => kSplH_ok h hD) (kO_then (kO_app kSU_ok) (kO_then (kO_SW) (kO_then (kO_app kK2_ok) (kO_then (kO_app kK3_ok) (kO_then (kO_app kT2_ok) (kO_then (kO_app kTEr_ok) (kO_app kWX_ok)))))))))))))
theorem kO_100 : kOne RO (kThen (kSplH 0) (kThen (kSplH 1) (kThen (kSplH 2) (kThen (kSplH 3) (kThen (kSplH 4) (kThen (kSplH 5) (kThen (kApp kSU) (kThen (kSWa) (kThen (kApp kK2) (kThen (kApp kK3) (kThen (kApp kT2) (kThen (kApp kTEr) (kApp kWX))))))))))))) := (kO_then (fun _ _ h _ _ hD => kSplH_ok h hD) (kO_then (fun _ _ h _ _ hD => kSplH_ok h hD) (kO_then (fun _ _ h _ _ hD => kSplH_ok h hD) (kO_then (fun _ _ h _ _ hD => kSplH_ok h hD) (kO_then (fun _ _ h _ _ hD => kSplH_ok h hD) (kO_then (fun _ _ h _ _ hD => kSplH_ok h hD) (kO_then (kO_app kSU_ok) (kO_then (kO_SW) (kO_then (kO_app kK2_ok) (kO_then (kO_app kK3_ok) (kO_then (kO_app kT2_ok) (kO_then (kO_app kTEr_ok) (kO_app kWX_ok)))))))))))))
theorem kO_101 : kOne RO (kThen (kSplH 0) (kThen (kSplH 1) (kThen (kSplH 2) (kThen (kSplH 3) (kThen (kSplH 4) (kThen (kSplH 5) (kThen (kApp kSU) (kThen (kSWa) (kThen (kApp kK2) (kThen (kApp kK3) (kThen (kApp kT2) (kThen (kApp kTEr) (kApp kWX))))))))))))) := (kO_then (fun _ _ h _ _ hD => kSplH_ok h hD) (kO_then (fun _ _ h _ _ hD => kSplH_ok h hD) (kO_then (fun _ _ h _ _ hD => kSplH_ok h hD) (kO_then (fun _ _ h _ _ hD => kSplH_ok h hD) (kO_then (fun _ _ h _ _ hD => kSplH_ok h hD) (kO_then (fun _ _ h _ _ hD => kSplH_ok h hD) (kO_then (kO_app kSU_ok) (kO_then (kO_SW) (kO_then (kO_app kK2_ok) (kO_then (kO_app kK3_ok) (kO_then (kO_app kT2_ok) (kO_then (kO_app kTEr_ok) (kO_app kWX_ok)))))))))))))
theorem kO_102 : kOne RO (kThen (kSplH 0) (kThen (kSplH 1) (kThen (kSplH 2) (kThen (kSplH 3) (kThen (kSplH 4) (kThen (kSplH 5) (kThen (kApp kSU) (kThen (kSWa) (kThen (kApp kK2) (kThen (kApp kK3) (kThen (kApp kT2) (kThen (kApp kTEr) (kApp kWX))))))))))))) := (kO_then (fun _ _ h _ _ hD => kSplH_ok h hD) (kO_then (fun _ _ h _ _ hD => kSplH_ok h hD) (kO_then (fun _ _ h _ _ hD => kSplH_ok h hD) (kO_then (fun _ _ h _ _ hD => kSplH_ok h hD) (kO_then (fun _ _ h _ _ hD => kSplH_ok h hD) (kO_then (fun _ _ h _ _ hD => kSplH_ok h hD) (kO_then (kO_app kSU_ok) (kO_then (kO_SW) (kO_then (kO_app kK2_ok) (kO_then (kO_app kK3_ok) (kO_then (kO_app kT2_ok) (kO_then (kO_app kTEr_ok) (kO_app kWX_ok)))))))))))))
theorem kO_103 : kOne RO (kThen (kSplH 0) (kThen (kSplH 1) (kThen (kSplH 2) (kThen (kSplH 3) (kThen (kSplH 4) (kThen (kSplH 5) (kThen (kApp kSU) (kThen (kSWa) (kThen (kApp kK2) (kThen (kApp kK3) (kThen (kApp kT2) (kThen (kApp kTEr) (kApp kWX))))))))))))) := (kO_then (fun _ _ h _ _ hD => kSplH_ok h hD) (kO_then (fun _ _ h _ _ hD => kSplH_ok h hD) (kO_then (fun _ _ h _ _ hD => kSplH_ok h hD) (kO_then (fun _ _ h _ _ hD => kSplH_ok h hD) (kO_then (fun _ _ h _ _ hD => kSplH_ok h hD) (kO_then (fun _ _ h _ _ hD => kSplH_ok h hD) (kO_then (kO_app kSU_ok) (kO_then (kO_SW) (kO_then (kO_app kK2_ok) (kO_then (kO_app kK3_ok) (kO_then (kO_app kT2_ok) (kO_then (kO_app kTEr_ok) (kO_app kWX_ok)))))))))))))
theorem kO_104 : kOne RO (kThen (kSplH 0) (kThen (kSplH 1) (kThen (kSplH 2) (kThen (kSplH 3) (kThen (kSplH 4) (kThen (kSplH 5) (kThen (kApp kSU) (kThen (kSWa) (kThen (kApp kK2) (kThen (kApp kK3) (kThen (kApp kT2) (kThen (kApp kTEr) (kApp kWX))))))))))))) := (kO_then (fun _ _ h _ _ hD => kSplH_ok h hD) (kO_then (fun _ _ h _ _ hD => kSplH_ok h hD) (kO_then (fun _ _ h _ _ hD => kSplH_ok h hD) (kO_then (fun _ _ h _ _ hD => kSplH_ok h hD) (kO_then (fun _ _ h _ _ hD => kSplH_ok h hD) (kO_then (fun _ _ h _ _ hD => kSplH_ok h hD) (kO_then (kO_app kSU_ok) (kO_then (kO_SW) (kO_then (kO_app kK2_ok) (kO_then (kO_app kK3_ok) (kO_then (kO_app kT2_ok) (kO_then (kO_app kTEr_ok) (kO_app kWX_ok)))))))))))))
theorem kO_105 : kOne RO (kThen (kSplH 0) (kThen (kSplH 1) (kThen (kSplH 2) (kThen (kSplH 3) (kThen (kSplH 4) (kThen (kSplH 5) (kThen (kApp kSU) (kThen (kSWa) (kThen (kApp kK2) (kThen (kApp kK3) (kThen (kApp kT2) (kThen (kApp kTEr) (kApp kWX))))))))))))) := (kO_then (fun _ _ h _ _ hD => kSplH_ok h hD) (kO_then (fun _ _ h _ _ hD => kSplH_ok h hD) (kO_then (fun _ _ h _ _ hD => kSplH_ok h hD) (kO_then (fun _ _ h _ _ hD => kSplH_ok h hD) (kO_then (fun _ _ h _ _ hD => kSplH_ok h hD) (kO_then (fun _ _ h _ _ hD => kSplH_ok h hD) (kO_then (kO_app kSU_ok) (kO_then (kO_SW) (kO_then (kO_app kK2_ok) (kO_then (kO_app kK3_ok) (kO_then (kO_app kT2_ok) (kO_then (kO_app kTEr_ok) (kO_app kWX_ok)))))))))))))
theorem kO_106 : kOne RO (kThen (kSplH 0) (kThen (kSplH 1) (kThen (kSplH 2) (kThen (kSplH 3) (kThen (kSplH 4) (kThen (kSplH 5) (kThen (kApp kSU) (kThen (kSWa) (kThen (kApp kK2) (kThen (kApp kK3) (kThen (kApp kT2) (kThen (kApp kTEr) (kApp kWX))))))))))))) := (kO_then (fun _ _ h _ _ hD => kSplH_ok h hD) (kO_then (fun _ _ h _ _ hD => kSplH_ok h hD) (kO_then (fun _ _ h _ _ hD => kSplH_ok h hD) (kO_then (fun _ _ h _ _ hD => kSplH_ok h hD) (kO_then (fun _ _ h _ _ hD => kSplH_ok h hD) (kO_then (fun _ _ h _ _ hD => kSplH_ok h hD) (kO_then (kO_app kSU_ok) (kO_then (kO_SW) (kO_then (kO_app kK2_ok) (kO_then (kO_app kK3_ok) (kO_then (kO_app kT2_ok) (kO_then (kO_app kTEr_ok) (kO_app kWX_ok)))))))))))))
end KONE
theorem kO_b {RO : List (Nat × (Nat → Int32))} {b : Bool} {f g : kS → Option (List kS)} (hf : kOne RO f) (hg : kOne RO g) : kOne RO (fun K => @Bool.rec (fun _ => Option (List kS)) (f K) (g K) b) := by
  cases b
  · exact hf
  · exact hg
def kHm_3 (pc : Nat) (K : kS) : Option (List kS) := (@Bool.rec (fun _ => Option (List kS)) (@Bool.rec (fun _ => Option (List kS)) (@Bool.rec (fun _ => Option (List kS)) (some [K]) ((kWe 0 0) K) (Nat.beq pc 106)) (@Bool.rec (fun _ => Option (List kS)) (some [K]) ((kWe 0 0) K) (Nat.beq pc 91)) (Nat.blt pc 106)) (@Bool.rec (fun _ => Option (List kS)) (@Bool.rec (fun _ => Option (List kS)) (some [K]) ((kWe 0 0) K) (Nat.beq pc 28)) (@Bool.rec (fun _ => Option (List kS)) (some [K]) ((kWCr) K) (Nat.beq pc 9)) (Nat.blt pc 28)) (Nat.blt pc 91))
theorem kHm_3_ok {RO : List (Nat × (Nat → Int32))} (pc : Nat) : kOne RO (kHm_3 pc) := by
  delta kHm_3
  exact (kO_b (kO_b (kO_b kO_id kO_3) (kO_b kO_id kO_2)) (kO_b (kO_b kO_id kO_1) (kO_b kO_id kO_0)))
def kHm_60 (pc : Nat) (K : kS) : Option (List kS) := (@Bool.rec (fun _ => Option (List kS)) (@Bool.rec (fun _ => Option (List kS)) (@Bool.rec (fun _ => Option (List kS)) (@Bool.rec (fun _ => Option (List kS)) (some [K]) ((kWe 1 1) K) (Nat.beq pc 218)) (@Bool.rec (fun _ => Option (List kS)) (some [K]) ((kWe 1 0) K) (Nat.beq pc 177)) (Nat.blt pc 218)) (@Bool.rec (fun _ => Option (List kS)) (some [K]) ((kWe 1 0) K) (Nat.beq pc 109)) (Nat.blt pc 177)) (@Bool.rec (fun _ => Option (List kS)) (@Bool.rec (fun _ => Option (List kS)) (some [K]) ((kWMr) K) (Nat.beq pc 58)) (@Bool.rec (fun _ => Option (List kS)) (some [K]) ((kNrm 1) K) (Nat.beq pc 0)) (Nat.blt pc 58)) (Nat.blt pc 109))
theorem kHm_60_ok {RO : List (Nat × (Nat → Int32))} (pc : Nat) : kOne RO (kHm_60 pc) := by
  delta kHm_60
  exact (kO_b (kO_b (kO_b (kO_b kO_id kO_8) (kO_b kO_id kO_7)) (kO_b kO_id kO_6)) (kO_b (kO_b kO_id kO_5) (kO_b kO_id kO_4)))
def kHm_63 (pc : Nat) (K : kS) : Option (List kS) := (@Bool.rec (fun _ => Option (List kS)) (@Bool.rec (fun _ => Option (List kS)) (@Bool.rec (fun _ => Option (List kS)) (@Bool.rec (fun _ => Option (List kS)) (some [K]) ((kThen (kLg1 2 60 61 62) (kLg1 2 60 61 63)) K) (Nat.beq pc 109)) (@Bool.rec (fun _ => Option (List kS)) (some [K]) ((kSplL 1 10) K) (Nat.beq pc 100)) (Nat.blt pc 109)) (@Bool.rec (fun _ => Option (List kS)) (@Bool.rec (fun _ => Option (List kS)) (some [K]) ((kThen (kLg1 2 60 61 62) (kLg1 2 60 61 63)) K) (Nat.beq pc 96)) (@Bool.rec (fun _ => Option (List kS)) (some [K]) ((kThen (kLg1 2 60 61 62) (kLg1 2 60 61 63)) K) (Nat.beq pc 86)) (Nat.blt pc 96)) (Nat.blt pc 100)) (@Bool.rec (fun _ => Option (List kS)) (@Bool.rec (fun _ => Option (List kS)) (@Bool.rec (fun _ => Option (List kS)) (some [K]) ((kThen (kLg1 2 60 61 62) (kLg1 2 60 61 63)) K) (Nat.beq pc 76)) (@Bool.rec (fun _ => Option (List kS)) (some [K]) ((kThen (kLg1 2 60 61 62) (kLg1 2 60 61 63)) K) (Nat.beq pc 66)) (Nat.blt pc 76)) (@Bool.rec (fun _ => Option (List kS)) (@Bool.rec (fun _ => Option (List kS)) (some [K]) ((kThen (kLg1 2 60 61 62) (kLg1 2 60 61 63)) K) (Nat.beq pc 56)) (@Bool.rec (fun _ => Option (List kS)) (some [K]) ((kThen (kLg1 2 60 61 62) (kLg1 2 60 61 63)) K) (Nat.beq pc 46)) (Nat.blt pc 56)) (Nat.blt pc 66)) (Nat.blt pc 86))
theorem kHm_63_ok {RO : List (Nat × (Nat → Int32))} (pc : Nat) : kOne RO (kHm_63 pc) := by
  delta kHm_63
  exact (kO_b (kO_b (kO_b (kO_b kO_id kO_16) (kO_b kO_id kO_15)) (kO_b (kO_b kO_id kO_14) (kO_b kO_id kO_13))) (kO_b (kO_b (kO_b kO_id kO_12) (kO_b kO_id kO_11)) (kO_b (kO_b kO_id kO_10) (kO_b kO_id kO_9))))
def kHm_64 (pc : Nat) (K : kS) : Option (List kS) := (@Bool.rec (fun _ => Option (List kS)) (@Bool.rec (fun _ => Option (List kS)) (some [K]) ((kLg2 2 60 61 62 63) K) (Nat.beq pc 162)) (@Bool.rec (fun _ => Option (List kS)) (some [K]) ((kLg3 2 60 61 62 63) K) (Nat.beq pc 105)) (Nat.blt pc 162))
theorem kHm_64_ok {RO : List (Nat × (Nat → Int32))} (pc : Nat) : kOne RO (kHm_64 pc) := by
  delta kHm_64
  exact (kO_b (kO_b kO_id kO_18) (kO_b kO_id kO_17))
def kHm_69 (pc : Nat) (K : kS) : Option (List kS) := (@Bool.rec (fun _ => Option (List kS)) (some [K]) ((kSplL 2 10) K) (Nat.beq pc 17))
theorem kHm_69_ok {RO : List (Nat × (Nat → Int32))} (pc : Nat) : kOne RO (kHm_69 pc) := by
  delta kHm_69
  exact (kO_b kO_id kO_19)
def kHm_74 (pc : Nat) (K : kS) : Option (List kS) := (@Bool.rec (fun _ => Option (List kS)) (some [K]) ((kApp kR4) K) (Nat.beq pc 29))
theorem kHm_74_ok {RO : List (Nat × (Nat → Int32))} (pc : Nat) : kOne RO (kHm_74 pc) := by
  delta kHm_74
  exact (kO_b kO_id kO_20)
def kHm_84 (pc : Nat) (K : kS) : Option (List kS) := (@Bool.rec (fun _ => Option (List kS)) (@Bool.rec (fun _ => Option (List kS)) (@Bool.rec (fun _ => Option (List kS)) (some [K]) ((kThen (kApp kR8) (kApp kR6)) K) (Nat.beq pc 87)) (@Bool.rec (fun _ => Option (List kS)) (some [K]) ((kThen (kApp kR8) (kApp (kR5 (kF130 52 21)))) K) (Nat.beq pc 62)) (Nat.blt pc 87)) (@Bool.rec (fun _ => Option (List kS)) (some [K]) ((kThen (kApp (kR0 [(5, [sC 0, sC 0])])) (kApp (kR5 (kF130 52 21)))) K) (Nat.beq pc 21)) (Nat.blt pc 62))
theorem kHm_84_ok {RO : List (Nat × (Nat → Int32))} (pc : Nat) : kOne RO (kHm_84 pc) := by
  delta kHm_84
  exact (kO_b (kO_b (kO_b kO_id kO_23) (kO_b kO_id kO_22)) (kO_b kO_id kO_21))
def kHm_85 (pc : Nat) (K : kS) : Option (List kS) := (@Bool.rec (fun _ => Option (List kS)) (@Bool.rec (fun _ => Option (List kS)) (@Bool.rec (fun _ => Option (List kS)) (@Bool.rec (fun _ => Option (List kS)) (some [K]) ((kApp kR7) K) (Nat.beq pc 233)) (@Bool.rec (fun _ => Option (List kS)) (some [K]) ((kApp (kR9 9 68 69 61)) K) (Nat.beq pc 227)) (Nat.blt pc 233)) (@Bool.rec (fun _ => Option (List kS)) (@Bool.rec (fun _ => Option (List kS)) (some [K]) ((kApp (kR0 [(9, [sC 0])])) K) (Nat.beq pc 175)) (@Bool.rec (fun _ => Option (List kS)) (some [K]) ((kApp (kR15 52 21)) K) (Nat.beq pc 163)) (Nat.blt pc 175)) (Nat.blt pc 227)) (@Bool.rec (fun _ => Option (List kS)) (@Bool.rec (fun _ => Option (List kS)) (@Bool.rec (fun _ => Option (List kS)) (some [K]) ((kApp (kR9 8 65 66 130)) K) (Nat.beq pc 157)) (@Bool.rec (fun _ => Option (List kS)) (some [K]) ((kApp (kR0 [(8, [sC 0])])) K) (Nat.beq pc 103)) (Nat.blt pc 157)) (@Bool.rec (fun _ => Option (List kS)) (some [K]) ((kApp (kR0 [(6, [sC 0, sC 0])])) K) (Nat.beq pc 27)) (Nat.blt pc 103)) (Nat.blt pc 163))
theorem kHm_85_ok {RO : List (Nat × (Nat → Int32))} (pc : Nat) : kOne RO (kHm_85 pc) := by
  delta kHm_85
  exact (kO_b (kO_b (kO_b (kO_b kO_id kO_30) (kO_b kO_id kO_29)) (kO_b (kO_b kO_id kO_28) (kO_b kO_id kO_27))) (kO_b (kO_b (kO_b kO_id kO_26) (kO_b kO_id kO_25)) (kO_b kO_id kO_24)))
def kHm_87 (pc : Nat) (K : kS) : Option (List kS) := (@Bool.rec (fun _ => Option (List kS)) (@Bool.rec (fun _ => Option (List kS)) (@Bool.rec (fun _ => Option (List kS)) (some [K]) ((kApp kR4) K) (Nat.beq pc 182)) (@Bool.rec (fun _ => Option (List kS)) (some [K]) ((kApp (kR12 5)) K) (Nat.beq pc 78)) (Nat.blt pc 182)) (@Bool.rec (fun _ => Option (List kS)) (@Bool.rec (fun _ => Option (List kS)) (some [K]) ((kApp (kR11 5)) K) (Nat.beq pc 33)) (@Bool.rec (fun _ => Option (List kS)) (some [K]) ((kApp (kR5 kFst)) K) (Nat.beq pc 10)) (Nat.blt pc 33)) (Nat.blt pc 78))
theorem kHm_87_ok {RO : List (Nat × (Nat → Int32))} (pc : Nat) : kOne RO (kHm_87 pc) := by
  delta kHm_87
  exact (kO_b (kO_b (kO_b kO_id kO_34) (kO_b kO_id kO_33)) (kO_b (kO_b kO_id kO_32) (kO_b kO_id kO_31)))
def kHm_88 (pc : Nat) (K : kS) : Option (List kS) := (@Bool.rec (fun _ => Option (List kS)) (@Bool.rec (fun _ => Option (List kS)) (@Bool.rec (fun _ => Option (List kS)) (some [K]) ((kApp kR10) K) (Nat.beq pc 71)) (@Bool.rec (fun _ => Option (List kS)) (some [K]) ((kApp kR10) K) (Nat.beq pc 61)) (Nat.blt pc 71)) (@Bool.rec (fun _ => Option (List kS)) (@Bool.rec (fun _ => Option (List kS)) (some [K]) ((kApp kR10) K) (Nat.beq pc 41)) (@Bool.rec (fun _ => Option (List kS)) (some [K]) ((kApp (kR0 [(10, [sC 0, sC 0])])) K) (Nat.beq pc 6)) (Nat.blt pc 41)) (Nat.blt pc 61))
theorem kHm_88_ok {RO : List (Nat × (Nat → Int32))} (pc : Nat) : kOne RO (kHm_88 pc) := by
  delta kHm_88
  exact (kO_b (kO_b (kO_b kO_id kO_38) (kO_b kO_id kO_37)) (kO_b (kO_b kO_id kO_36) (kO_b kO_id kO_35)))
def kHm_148 (pc : Nat) (K : kS) : Option (List kS) := (@Bool.rec (fun _ => Option (List kS)) (@Bool.rec (fun _ => Option (List kS)) (some [K]) ((kApp kIS) K) (Nat.beq pc 61)) (@Bool.rec (fun _ => Option (List kS)) (some [K]) ((kThen (kSplL 0 8) (kSplL 1 8)) K) (Nat.beq pc 0)) (Nat.blt pc 61))
theorem kHm_148_ok {RO : List (Nat × (Nat → Int32))} (pc : Nat) : kOne RO (kHm_148 pc) := by
  delta kHm_148
  exact (kO_b (kO_b kO_id kO_40) (kO_b kO_id kO_39))
def kHm_151 (pc : Nat) (K : kS) : Option (List kS) := (@Bool.rec (fun _ => Option (List kS)) (some [K]) ((kApp kIE) K) (Nat.beq pc 10))
theorem kHm_151_ok {RO : List (Nat × (Nat → Int32))} (pc : Nat) : kOne RO (kHm_151 pc) := by
  delta kHm_151
  exact (kO_b kO_id kO_41)
def kHm_154 (pc : Nat) (K : kS) : Option (List kS) := (@Bool.rec (fun _ => Option (List kS)) (some [K]) ((kApp kIE) K) (Nat.beq pc 10))
theorem kHm_154_ok {RO : List (Nat × (Nat → Int32))} (pc : Nat) : kOne RO (kHm_154 pc) := by
  delta kHm_154
  exact (kO_b kO_id kO_42)
def kHm_164 (pc : Nat) (K : kS) : Option (List kS) := (@Bool.rec (fun _ => Option (List kS)) (@Bool.rec (fun _ => Option (List kS)) (@Bool.rec (fun _ => Option (List kS)) (some [K]) ((kApp kZRe) K) (Nat.beq pc 80)) (@Bool.rec (fun _ => Option (List kS)) (some [K]) ((kApp kZRr) K) (Nat.beq pc 54)) (Nat.blt pc 80)) (@Bool.rec (fun _ => Option (List kS)) (some [K]) ((kNrm 1) K) (Nat.beq pc 0)) (Nat.blt pc 54))
theorem kHm_164_ok {RO : List (Nat × (Nat → Int32))} (pc : Nat) : kOne RO (kHm_164 pc) := by
  delta kHm_164
  exact (kO_b (kO_b (kO_b kO_id kO_45) (kO_b kO_id kO_44)) (kO_b kO_id kO_43))
def kHm_166 (pc : Nat) (K : kS) : Option (List kS) := (@Bool.rec (fun _ => Option (List kS)) (some [K]) ((kNrm 1) K) (Nat.beq pc 0))
theorem kHm_166_ok {RO : List (Nat × (Nat → Int32))} (pc : Nat) : kOne RO (kHm_166 pc) := by
  delta kHm_166
  exact (kO_b kO_id kO_46)
def kHm_167 (pc : Nat) (K : kS) : Option (List kS) := (@Bool.rec (fun _ => Option (List kS)) (some [K]) ((kNrm 1) K) (Nat.beq pc 0))
theorem kHm_167_ok {RO : List (Nat × (Nat → Int32))} (pc : Nat) : kOne RO (kHm_167 pc) := by
  delta kHm_167
  exact (kO_b kO_id kO_47)
def kHm_168 (pc : Nat) (K : kS) : Option (List kS) := (@Bool.rec (fun _ => Option (List kS)) (@Bool.rec (fun _ => Option (List kS)) (@Bool.rec (fun _ => Option (List kS)) (@Bool.rec (fun _ => Option (List kS)) (some [K]) ((kApp kL2e) K) (Nat.beq pc 185)) (@Bool.rec (fun _ => Option (List kS)) (some [K]) ((kApp kL2i) K) (Nat.beq pc 150)) (Nat.blt pc 185)) (@Bool.rec (fun _ => Option (List kS)) (some [K]) ((kApp kBFr) K) (Nat.beq pc 113)) (Nat.blt pc 150)) (@Bool.rec (fun _ => Option (List kS)) (@Bool.rec (fun _ => Option (List kS)) (some [K]) ((kPN) K) (Nat.beq pc 63)) (@Bool.rec (fun _ => Option (List kS)) (some [K]) ((kThen (kNrm 1) (kNrm 3)) K) (Nat.beq pc 0)) (Nat.blt pc 63)) (Nat.blt pc 113))
theorem kHm_168_ok {RO : List (Nat × (Nat → Int32))} (pc : Nat) : kOne RO (kHm_168 pc) := by
  delta kHm_168
  exact (kO_b (kO_b (kO_b (kO_b kO_id kO_52) (kO_b kO_id kO_51)) (kO_b kO_id kO_50)) (kO_b (kO_b kO_id kO_49) (kO_b kO_id kO_48)))
def kHm_169 (pc : Nat) (K : kS) : Option (List kS) := (@Bool.rec (fun _ => Option (List kS)) (some [K]) ((kApp kIU) K) (Nat.beq pc 56))
theorem kHm_169_ok {RO : List (Nat × (Nat → Int32))} (pc : Nat) : kOne RO (kHm_169 pc) := by
  delta kHm_169
  exact (kO_b kO_id kO_53)
def kHm_172 (pc : Nat) (K : kS) : Option (List kS) := (@Bool.rec (fun _ => Option (List kS)) (@Bool.rec (fun _ => Option (List kS)) (some [K]) ((kApp kIS) K) (Nat.beq pc 44)) (@Bool.rec (fun _ => Option (List kS)) (some [K]) ((kThen (kSplL 0 8) (kSplL 1 8)) K) (Nat.beq pc 0)) (Nat.blt pc 44))
theorem kHm_172_ok {RO : List (Nat × (Nat → Int32))} (pc : Nat) : kOne RO (kHm_172 pc) := by
  delta kHm_172
  exact (kO_b (kO_b kO_id kO_55) (kO_b kO_id kO_54))
def kHm_177 (pc : Nat) (K : kS) : Option (List kS) := (@Bool.rec (fun _ => Option (List kS)) (@Bool.rec (fun _ => Option (List kS)) (some [K]) ((kSplS 0 8) K) (Nat.beq pc 31)) (@Bool.rec (fun _ => Option (List kS)) (some [K]) ((kSplL 2 4) K) (Nat.beq pc 24)) (Nat.blt pc 31))
theorem kHm_177_ok {RO : List (Nat × (Nat → Int32))} (pc : Nat) : kOne RO (kHm_177 pc) := by
  delta kHm_177
  exact (kO_b (kO_b kO_id kO_57) (kO_b kO_id kO_56))
def kHm_200 (pc : Nat) (K : kS) : Option (List kS) := (@Bool.rec (fun _ => Option (List kS)) (some [K]) ((kLg2 1 15 14 16 17) K) (Nat.beq pc 74))
theorem kHm_200_ok {RO : List (Nat × (Nat → Int32))} (pc : Nat) : kOne RO (kHm_200 pc) := by
  delta kHm_200
  exact (kO_b kO_id kO_58)
def kHm_202 (pc : Nat) (K : kS) : Option (List kS) := (@Bool.rec (fun _ => Option (List kS)) (some [K]) ((kLg1 1 15 14 16) K) (Nat.beq pc 55))
theorem kHm_202_ok {RO : List (Nat × (Nat → Int32))} (pc : Nat) : kOne RO (kHm_202 pc) := by
  delta kHm_202
  exact (kO_b kO_id kO_59)
def kHm_203 (pc : Nat) (K : kS) : Option (List kS) := (@Bool.rec (fun _ => Option (List kS)) (some [K]) ((kLg1 1 15 14 17) K) (Nat.beq pc 35))
theorem kHm_203_ok {RO : List (Nat × (Nat → Int32))} (pc : Nat) : kOne RO (kHm_203 pc) := by
  delta kHm_203
  exact (kO_b kO_id kO_60)
def kHm_257 (pc : Nat) (K : kS) : Option (List kS) := (@Bool.rec (fun _ => Option (List kS)) (@Bool.rec (fun _ => Option (List kS)) (some [K]) ((kApp kZCe) K) (Nat.beq pc 36)) (@Bool.rec (fun _ => Option (List kS)) (some [K]) ((kApp kZCr) K) (Nat.beq pc 17)) (Nat.blt pc 36))
theorem kHm_257_ok {RO : List (Nat × (Nat → Int32))} (pc : Nat) : kOne RO (kHm_257 pc) := by
  delta kHm_257
  exact (kO_b (kO_b kO_id kO_62) (kO_b kO_id kO_61))
def kHm_280 (pc : Nat) (K : kS) : Option (List kS) := (@Bool.rec (fun _ => Option (List kS)) (@Bool.rec (fun _ => Option (List kS)) (@Bool.rec (fun _ => Option (List kS)) (@Bool.rec (fun _ => Option (List kS)) (@Bool.rec (fun _ => Option (List kS)) (@Bool.rec (fun _ => Option (List kS)) (@Bool.rec (fun _ => Option (List kS)) (some [K]) ((kThen (kSplH 0) (kThen (kSplH 1) (kThen (kSplH 2) (kThen (kSplH 3) (kThen (kSplH 4) (kThen (kSplH 5) (kThen (kApp kSU) (kThen (kSWa) (kThen (kApp kK2) (kThen (kApp kK3) (kThen (kApp kT2) (kThen (kApp kTEr) (kApp kWX))))))))))))) K) (Nat.beq pc 1525)) (@Bool.rec (fun _ => Option (List kS)) (some [K]) ((kThen (kSplH 0) (kThen (kSplH 1) (kThen (kSplH 2) (kThen (kSplH 3) (kThen (kSplH 4) (kThen (kSplH 5) (kThen (kApp kSU) (kThen (kSWa) (kThen (kApp kK2) (kThen (kApp kK3) (kThen (kApp kT2) (kThen (kApp kTEr) (kApp kWX))))))))))))) K) (Nat.beq pc 1497)) (Nat.blt pc 1525)) (@Bool.rec (fun _ => Option (List kS)) (some [K]) ((kThen (kSplH 0) (kThen (kSplH 1) (kThen (kSplH 2) (kThen (kSplH 3) (kThen (kSplH 4) (kThen (kSplH 5) (kThen (kApp kSU) (kThen (kSWa) (kThen (kApp kK2) (kThen (kApp kK3) (kThen (kApp kT2) (kThen (kApp kTEr) (kApp kWX))))))))))))) K) (Nat.beq pc 1449)) (Nat.blt pc 1497)) (@Bool.rec (fun _ => Option (List kS)) (@Bool.rec (fun _ => Option (List kS)) (@Bool.rec (fun _ => Option (List kS)) (some [K]) ((kThen (kSplH 0) (kThen (kSplH 1) (kThen (kSplH 2) (kThen (kSplH 3) (kThen (kSplH 4) (kThen (kSplH 5) (kThen (kApp kSU) (kThen (kSWa) (kThen (kApp kK2) (kThen (kApp kK3) (kThen (kApp kT2) (kThen (kApp kTEr) (kApp kWX))))))))))))) K) (Nat.beq pc 1401)) (@Bool.rec (fun _ => Option (List kS)) (some [K]) ((kThen (kSplH 0) (kThen (kSplH 1) (kThen (kSplH 2) (kThen (kSplH 3) (kThen (kSplH 4) (kThen (kSplH 5) (kThen (kApp kSU) (kThen (kSWa) (kThen (kApp kK2) (kThen (kApp kK3) (kThen (kApp kT2) (kThen (kApp kTEr) (kApp kWX))))))))))))) K) (Nat.beq pc 1348)) (Nat.blt pc 1401)) (@Bool.rec (fun _ => Option (List kS)) (some [K]) ((kThen (kSplH 0) (kThen (kSplH 1) (kThen (kSplH 2) (kThen (kSplH 3) (kThen (kSplH 4) (kThen (kSplH 5) (kThen (kApp kSU) (kThen (kSWa) (kThen (kApp kK2) (kThen (kApp kK3) (kThen (kApp kT2) (kThen (kApp kTEr) (kApp kWX))))))))))))) K) (Nat.beq pc 1290)) (Nat.blt pc 1348)) (Nat.blt pc 1449)) (@Bool.rec (fun _ => Option (List kS)) (@Bool.rec (fun _ => Option (List kS)) (@Bool.rec (fun _ => Option (List kS)) (@Bool.rec (fun _ => Option (List kS)) (some [K]) ((kThen (kSplH 0) (kThen (kSplH 1) (kThen (kSplH 2) (kThen (kSplH 3) (kThen (kSplH 4) (kThen (kSplH 5) (kThen (kApp kSU) (kThen (kSWa) (kThen (kApp kK2) (kThen (kApp kK3) (kThen (kApp kT2) (kThen (kApp kTEr) (kApp kWX))))))))))))) K) (Nat.beq pc 1252)) (@Bool.rec (fun _ => Option (List kS)) (some [K]) ((kThen (kSplH 0) (kThen (kSplH 1) (kThen (kSplH 2) (kThen (kSplH 3) (kThen (kSplH 4) (kThen (kSplH 5) (kThen (kApp kSU) (kThen (kSWa) (kThen (kApp kK2) (kThen (kApp kK3) (kThen (kApp kT2) (kThen (kApp kTEr) (kApp kWX))))))))))))) K) (Nat.beq pc 1224)) (Nat.blt pc 1252)) (@Bool.rec (fun _ => Option (List kS)) (some [K]) ((kThen (kSplH 0) (kThen (kSplH 1) (kThen (kSplH 2) (kThen (kSplH 3) (kThen (kSplH 4) (kThen (kSplH 5) (kThen (kApp kSU) (kThen (kSWa) (kThen (kApp kK2) (kThen (kApp kK3) (kThen (kApp kT2) (kThen (kApp kTEr) (kApp kWX))))))))))))) K) (Nat.beq pc 1191)) (Nat.blt pc 1224)) (@Bool.rec (fun _ => Option (List kS)) (@Bool.rec (fun _ => Option (List kS)) (some [K]) ((kThen (kSplH 0) (kThen (kSplH 1) (kThen (kSplH 2) (kThen (kSplH 3) (kThen (kSplH 4) (kThen (kSplH 5) (kThen (kApp kSU) (kThen (kSWa) (kThen (kApp kK2) (kThen (kApp kK3) (kThen (kApp kT2) (kThen (kApp kTEr) (kApp kWX))))))))))))) K) (Nat.beq pc 1158)) (@Bool.rec (fun _ => Option (List kS)) (some [K]) ((kThen (kSplH 0) (kThen (kSplH 1) (kThen (kSplH 2) (kThen (kSplH 3) (kThen (kSplH 4) (kThen (kSplH 5) (kThen (kApp kSU) (kThen (kSWa) (kThen (kApp kK2) (kThen (kApp kK3) (kThen (kApp kT2) (kThen (kApp kTEr) (kApp kWX))))))))))))) K) (Nat.beq pc 1140)) (Nat.blt pc 1158)) (Nat.blt pc 1191)) (Nat.blt pc 1290)) (@Bool.rec (fun _ => Option (List kS)) (@Bool.rec (fun _ => Option (List kS)) (@Bool.rec (fun _ => Option (List kS)) (@Bool.rec (fun _ => Option (List kS)) (@Bool.rec (fun _ => Option (List kS)) (some [K]) ((kThen (kSplH 0) (kThen (kSplH 1) (kThen (kSplH 2) (kThen (kSplH 3) (kThen (kSplH 4) (kThen (kSplH 5) (kThen (kApp kSU) (kThen (kSWa) (kThen (kApp kK2) (kThen (kApp kK3) (kThen (kApp kT2) (kThen (kApp kTEr) (kApp kWX))))))))))))) K) (Nat.beq pc 1127)) (@Bool.rec (fun _ => Option (List kS)) (some [K]) ((kThen (kSplH 0) (kThen (kSplH 1) (kThen (kSplH 2) (kThen (kSplH 3) (kThen (kSplH 4) (kThen (kSplH 5) (kThen (kApp kSU) (kThen (kSWa) (kThen (kApp kK2) (kThen (kApp kK3) (kThen (kApp kT2) (kThen (kApp kTEr) (kApp kWX))))))))))))) K) (Nat.beq pc 1114)) (Nat.blt pc 1127)) (@Bool.rec (fun _ => Option (List kS)) (some [K]) ((kThen (kSplH 0) (kThen (kSplH 1) (kThen (kSplH 2) (kThen (kSplH 3) (kThen (kSplH 4) (kThen (kSplH 5) (kThen (kApp kSU) (kThen (kSWa) (kThen (kApp kK2) (kThen (kApp kK3) (kThen (kApp kT2) (kThen (kApp kTEr) (kApp kWX))))))))))))) K) (Nat.beq pc 1101)) (Nat.blt pc 1114)) (@Bool.rec (fun _ => Option (List kS)) (@Bool.rec (fun _ => Option (List kS)) (@Bool.rec (fun _ => Option (List kS)) (some [K]) ((kThen (kSplH 0) (kThen (kSplH 1) (kThen (kSplH 2) (kThen (kSplH 3) (kThen (kSplH 4) (kThen (kSplH 5) (kThen (kApp kSU) (kThen (kSWa) (kThen (kApp kK2) (kThen (kApp kK3) (kThen (kApp kT2) (kThen (kApp kTEr) (kApp kWX))))))))))))) K) (Nat.beq pc 1083)) (@Bool.rec (fun _ => Option (List kS)) (some [K]) ((kThen (kSplH 0) (kThen (kSplH 1) (kThen (kSplH 2) (kThen (kSplH 3) (kThen (kSplH 4) (kThen (kSplH 5) (kThen (kApp kSU) (kThen (kSWa) (kThen (kApp kK2) (kThen (kApp kK3) (kThen (kApp kT2) (kThen (kApp kTEr) (kApp kWX))))))))))))) K) (Nat.beq pc 1065)) (Nat.blt pc 1083)) (@Bool.rec (fun _ => Option (List kS)) (some [K]) ((kThen (kSplH 0) (kThen (kSplH 1) (kThen (kSplH 2) (kThen (kSplH 3) (kThen (kSplH 4) (kThen (kSplH 5) (kThen (kApp kSU) (kThen (kSWa) (kThen (kApp kK2) (kThen (kApp kK3) (kThen (kApp kT2) (kThen (kApp kTEr) (kApp kWX))))))))))))) K) (Nat.beq pc 1052)) (Nat.blt pc 1065)) (Nat.blt pc 1101)) (@Bool.rec (fun _ => Option (List kS)) (@Bool.rec (fun _ => Option (List kS)) (@Bool.rec (fun _ => Option (List kS)) (@Bool.rec (fun _ => Option (List kS)) (some [K]) ((kThen (kSplH 0) (kThen (kSplH 1) (kThen (kSplH 2) (kThen (kSplH 3) (kThen (kSplH 4) (kThen (kSplH 5) (kThen (kApp kSU) (kThen (kSWa) (kThen (kApp kK2) (kThen (kApp kK3) (kThen (kApp kT2) (kThen (kApp kTEr) (kApp kWX))))))))))))) K) (Nat.beq pc 1029)) (@Bool.rec (fun _ => Option (List kS)) (some [K]) ((kThen (kSplH 0) (kThen (kSplH 1) (kThen (kSplH 2) (kThen (kSplH 3) (kThen (kSplH 4) (kThen (kSplH 5) (kThen (kApp kSU) (kThen (kSWa) (kThen (kApp kK2) (kThen (kApp kK3) (kThen (kApp kT2) (kThen (kApp kTEr) (kApp kWX))))))))))))) K) (Nat.beq pc 991)) (Nat.blt pc 1029)) (@Bool.rec (fun _ => Option (List kS)) (some [K]) ((kThen (kSplH 0) (kThen (kSplH 1) (kThen (kSplH 2) (kThen (kSplH 3) (kThen (kSplH 4) (kThen (kSplH 5) (kThen (kApp kSU) (kThen (kSWa) (kThen (kApp kK2) (kThen (kApp kK3) (kThen (kApp kT2) (kThen (kApp kTEr) (kApp kWX))))))))))))) K) (Nat.beq pc 953)) (Nat.blt pc 991)) (@Bool.rec (fun _ => Option (List kS)) (@Bool.rec (fun _ => Option (List kS)) (some [K]) ((kThen (kSplH 0) (kThen (kSplH 1) (kThen (kSplH 2) (kThen (kSplH 3) (kThen (kSplH 4) (kThen (kSplH 5) (kThen (kApp kSU) (kThen (kSWa) (kThen (kApp kK2) (kThen (kApp kK3) (kThen (kApp kT2) (kThen (kApp kTEr) (kApp kWX))))))))))))) K) (Nat.beq pc 915)) (@Bool.rec (fun _ => Option (List kS)) (some [K]) ((kThen (kSplH 0) (kThen (kSplH 1) (kThen (kSplH 2) (kThen (kSplH 3) (kThen (kSplH 4) (kThen (kSplH 5) (kThen (kApp kSU) (kThen (kSWa) (kThen (kApp kK2) (kThen (kApp kK3) (kThen (kApp kT2) (kThen (kApp kTEr) (kApp kWX))))))))))))) K) (Nat.beq pc 877)) (Nat.blt pc 915)) (Nat.blt pc 953)) (Nat.blt pc 1052)) (Nat.blt pc 1140)) (@Bool.rec (fun _ => Option (List kS)) (@Bool.rec (fun _ => Option (List kS)) (@Bool.rec (fun _ => Option (List kS)) (@Bool.rec (fun _ => Option (List kS)) (@Bool.rec (fun _ => Option (List kS)) (@Bool.rec (fun _ => Option (List kS)) (some [K]) ((kThen (kSplH 0) (kThen (kSplH 1) (kThen (kSplH 2) (kThen (kSplH 3) (kThen (kSplH 4) (kThen (kSplH 5) (kThen (kApp kSU) (kThen (kSWa) (kThen (kApp kK2) (kThen (kApp kK3) (kThen (kApp kT2) (kThen (kApp kTEr) (kApp kWX))))))))))))) K) (Nat.beq pc 849)) (@Bool.rec (fun _ => Option (List kS)) (some [K]) ((kThen (kSplH 0) (kThen (kSplH 1) (kThen (kSplH 2) (kThen (kSplH 3) (kThen (kSplH 4) (kThen (kSplH 5) (kThen (kApp kSU) (kThen (kSWa) (kThen (kApp kK2) (kThen (kApp kK3) (kThen (kApp kT2) (kThen (kApp kTEr) (kApp kWX))))))))))))) K) (Nat.beq pc 816)) (Nat.blt pc 849)) (@Bool.rec (fun _ => Option (List kS)) (some [K]) ((kThen (kSplH 0) (kThen (kSplH 1) (kThen (kSplH 2) (kThen (kSplH 3) (kThen (kSplH 4) (kThen (kSplH 5) (kThen (kApp kSU) (kThen (kSWa) (kThen (kApp kK2) (kThen (kApp kK3) (kThen (kApp kT2) (kThen (kApp kTEr) (kApp kWX))))))))))))) K) (Nat.beq pc 778)) (Nat.blt pc 816)) (@Bool.rec (fun _ => Option (List kS)) (@Bool.rec (fun _ => Option (List kS)) (@Bool.rec (fun _ => Option (List kS)) (some [K]) ((kThen (kSplH 0) (kThen (kSplH 1) (kThen (kSplH 2) (kThen (kSplH 3) (kThen (kSplH 4) (kThen (kSplH 5) (kThen (kApp kSU) (kThen (kSWa) (kThen (kApp kK2) (kThen (kApp kK3) (kThen (kApp kT2) (kThen (kApp kTEr) (kApp kWX))))))))))))) K) (Nat.beq pc 745)) (@Bool.rec (fun _ => Option (List kS)) (some [K]) ((kThen (kSplH 0) (kThen (kSplH 1) (kThen (kSplH 2) (kThen (kSplH 3) (kThen (kSplH 4) (kThen (kSplH 5) (kThen (kApp kSU) (kThen (kSWa) (kThen (kApp kK2) (kThen (kApp kK3) (kThen (kApp kT2) (kThen (kApp kTEr) (kApp kWX))))))))))))) K) (Nat.beq pc 717)) (Nat.blt pc 745)) (@Bool.rec (fun _ => Option (List kS)) (some [K]) ((kThen (kSplH 0) (kThen (kSplH 1) (kThen (kSplH 2) (kThen (kSplH 3) (kThen (kSplH 4) (kThen (kSplH 5) (kThen (kApp kSU) (kThen (kSWa) (kThen (kApp kK2) (kThen (kApp kK3) (kThen (kApp kT2) (kThen (kApp kTEr) (kApp kWX))))))))))))) K) (Nat.beq pc 694)) (Nat.blt pc 717)) (Nat.blt pc 778)) (@Bool.rec (fun _ => Option (List kS)) (@Bool.rec (fun _ => Option (List kS)) (@Bool.rec (fun _ => Option (List kS)) (@Bool.rec (fun _ => Option (List kS)) (some [K]) ((kThen (kSplH 0) (kThen (kSplH 1) (kThen (kSplH 2) (kThen (kSplH 3) (kThen (kSplH 4) (kThen (kSplH 5) (kThen (kApp kSU) (kThen (kSWa) (kThen (kApp kK2) (kThen (kApp kK3) (kThen (kApp kT2) (kThen (kApp kTEr) (kApp kWX))))))))))))) K) (Nat.beq pc 671)) (@Bool.rec (fun _ => Option (List kS)) (some [K]) ((kThen (kSplH 0) (kThen (kSplH 1) (kThen (kSplH 2) (kThen (kSplH 3) (kThen (kSplH 4) (kThen (kSplH 5) (kThen (kApp kSU) (kThen (kSWa) (kThen (kApp kK2) (kThen (kApp kK3) (kThen (kApp kT2) (kThen (kApp kTEr) (kApp kWX))))))))))))) K) (Nat.beq pc 648)) (Nat.blt pc 671)) (@Bool.rec (fun _ => Option (List kS)) (some [K]) ((kThen (kSplH 0) (kThen (kSplH 1) (kThen (kSplH 2) (kThen (kSplH 3) (kThen (kSplH 4) (kThen (kSplH 5) (kThen (kApp kSU) (kThen (kSWa) (kThen (kApp kK2) (kThen (kApp kK3) (kThen (kApp kT2) (kThen (kApp kTEr) (kApp kWX))))))))))))) K) (Nat.beq pc 625)) (Nat.blt pc 648)) (@Bool.rec (fun _ => Option (List kS)) (@Bool.rec (fun _ => Option (List kS)) (some [K]) ((kThen (kSplH 0) (kThen (kSplH 1) (kThen (kSplH 2) (kThen (kSplH 3) (kThen (kSplH 4) (kThen (kSplH 5) (kThen (kApp kSU) (kThen (kSWa) (kThen (kApp kK2) (kThen (kApp kK3) (kThen (kApp kT2) (kThen (kApp kTEr) (kApp kWX))))))))))))) K) (Nat.beq pc 597)) (@Bool.rec (fun _ => Option (List kS)) (some [K]) ((kThen (kSplH 0) (kThen (kSplH 1) (kThen (kSplH 2) (kThen (kSplH 3) (kThen (kSplH 4) (kThen (kSplH 5) (kThen (kApp kSU) (kThen (kSWa) (kThen (kApp kK2) (kThen (kApp kK3) (kThen (kApp kT2) (kThen (kApp kTEr) (kApp kWX))))))))))))) K) (Nat.beq pc 564)) (Nat.blt pc 597)) (Nat.blt pc 625)) (Nat.blt pc 694)) (@Bool.rec (fun _ => Option (List kS)) (@Bool.rec (fun _ => Option (List kS)) (@Bool.rec (fun _ => Option (List kS)) (@Bool.rec (fun _ => Option (List kS)) (@Bool.rec (fun _ => Option (List kS)) (some [K]) ((kThen (kSplH 0) (kThen (kSplH 1) (kThen (kSplH 2) (kThen (kSplH 3) (kThen (kSplH 4) (kThen (kSplH 5) (kThen (kApp kSU) (kThen (kSWa) (kThen (kApp kK2) (kThen (kApp kK3) (kThen (kApp kT2) (kThen (kApp kTEr) (kApp kWX))))))))))))) K) (Nat.beq pc 531)) (@Bool.rec (fun _ => Option (List kS)) (some [K]) ((kThen (kSplH 0) (kThen (kSplH 1) (kThen (kSplH 2) (kThen (kSplH 3) (kThen (kSplH 4) (kThen (kSplH 5) (kThen (kApp kSU) (kThen (kSWa) (kThen (kApp kK2) (kThen (kApp kK3) (kThen (kApp kT2) (kThen (kApp kTEr) (kApp kWX))))))))))))) K) (Nat.beq pc 493)) (Nat.blt pc 531)) (@Bool.rec (fun _ => Option (List kS)) (some [K]) ((kThen (kSplH 0) (kThen (kSplH 1) (kThen (kSplH 2) (kThen (kSplH 3) (kThen (kSplH 4) (kThen (kSplH 5) (kThen (kApp kSU) (kThen (kSWa) (kThen (kApp kK2) (kThen (kApp kK3) (kThen (kApp kT2) (kThen (kApp kTEr) (kApp kWX))))))))))))) K) (Nat.beq pc 450)) (Nat.blt pc 493)) (@Bool.rec (fun _ => Option (List kS)) (@Bool.rec (fun _ => Option (List kS)) (@Bool.rec (fun _ => Option (List kS)) (some [K]) ((kThen (kSplH 0) (kThen (kSplH 1) (kThen (kSplH 2) (kThen (kSplH 3) (kThen (kSplH 4) (kThen (kSplH 5) (kThen (kApp kSU) (kThen (kSWa) (kThen (kApp kK2) (kThen (kApp kK3) (kThen (kApp kT2) (kThen (kApp kTEr) (kApp kWX))))))))))))) K) (Nat.beq pc 422)) (@Bool.rec (fun _ => Option (List kS)) (some [K]) ((kThen (kSplH 0) (kThen (kSplH 1) (kThen (kSplH 2) (kThen (kSplH 3) (kThen (kSplH 4) (kThen (kSplH 5) (kThen (kApp kSU) (kThen (kSWa) (kThen (kApp kK2) (kThen (kApp kK3) (kThen (kApp kT2) (kThen (kApp kTEr) (kApp kWX))))))))))))) K) (Nat.beq pc 404)) (Nat.blt pc 422)) (@Bool.rec (fun _ => Option (List kS)) (some [K]) ((kThen (kSplH 0) (kThen (kSplH 1) (kThen (kSplH 2) (kThen (kSplH 3) (kThen (kSplH 4) (kThen (kSplH 5) (kThen (kApp kSU) (kThen (kSWa) (kThen (kApp kK2) (kThen (kApp kK3) (kThen (kApp kT2) (kThen (kApp kTEr) (kApp kWX))))))))))))) K) (Nat.beq pc 376)) (Nat.blt pc 404)) (Nat.blt pc 450)) (@Bool.rec (fun _ => Option (List kS)) (@Bool.rec (fun _ => Option (List kS)) (@Bool.rec (fun _ => Option (List kS)) (@Bool.rec (fun _ => Option (List kS)) (some [K]) ((kThen (kSplH 0) (kThen (kSplH 1) (kThen (kSplH 2) (kThen (kSplH 3) (kThen (kSplH 4) (kThen (kSplH 5) (kThen (kApp kSU) (kThen (kSWa) (kThen (kApp kK2) (kThen (kApp kK3) (kThen (kApp kT2) (kThen (kApp kTEr) (kApp kWX))))))))))))) K) (Nat.beq pc 338)) (@Bool.rec (fun _ => Option (List kS)) (some [K]) ((kThen (kSplH 0) (kThen (kSplH 1) (kThen (kSplH 2) (kThen (kSplH 3) (kThen (kSplH 4) (kThen (kSplH 5) (kThen (kApp kSU) (kThen (kSWa) (kThen (kApp kK2) (kThen (kApp kK3) (kThen (kApp kT2) (kThen (kApp kTEr) (kApp kWX))))))))))))) K) (Nat.beq pc 305)) (Nat.blt pc 338)) (@Bool.rec (fun _ => Option (List kS)) (some [K]) ((kThen (kSplH 0) (kThen (kSplH 1) (kThen (kSplH 2) (kThen (kSplH 3) (kThen (kSplH 4) (kThen (kSplH 5) (kThen (kApp kSU) (kThen (kSWa) (kThen (kApp kK2) (kThen (kApp kK3) (kThen (kApp kT2) (kThen (kApp kTEr) (kApp kWX))))))))))))) K) (Nat.beq pc 272)) (Nat.blt pc 305)) (@Bool.rec (fun _ => Option (List kS)) (@Bool.rec (fun _ => Option (List kS)) (some [K]) ((kThen (kSplH 0) (kThen (kSplH 1) (kThen (kSplH 2) (kThen (kSplH 3) (kThen (kSplH 4) (kThen (kSplH 5) (kThen (kApp kSU) (kThen (kSWa) (kThen (kApp kK2) (kThen (kApp kK3) (kThen (kApp kT2) (kThen (kApp kTEr) (kApp kWX))))))))))))) K) (Nat.beq pc 234)) (@Bool.rec (fun _ => Option (List kS)) (some [K]) ((kThen (kApp kRI) (kThen (kApp kRJ) (kThen (kApp kRE) (kThen (kApp kSM) (kThen (kApp kK1) (kThen (kApp kEZ) (kApp kK1E))))))) K) (Nat.beq pc 18)) (Nat.blt pc 234)) (Nat.blt pc 272)) (Nat.blt pc 376)) (Nat.blt pc 564)) (Nat.blt pc 877))
theorem kHm_280_ok {RO : List (Nat × (Nat → Int32))} (pc : Nat) : kOne RO (kHm_280 pc) := by
  delta kHm_280
  exact (kO_b (kO_b (kO_b (kO_b (kO_b (kO_b (kO_b kO_id kO_106) (kO_b kO_id kO_105)) (kO_b kO_id kO_104)) (kO_b (kO_b (kO_b kO_id kO_103) (kO_b kO_id kO_102)) (kO_b kO_id kO_101))) (kO_b (kO_b (kO_b (kO_b kO_id kO_100) (kO_b kO_id kO_99)) (kO_b kO_id kO_98)) (kO_b (kO_b kO_id kO_97) (kO_b kO_id kO_96)))) (kO_b (kO_b (kO_b (kO_b (kO_b kO_id kO_95) (kO_b kO_id kO_94)) (kO_b kO_id kO_93)) (kO_b (kO_b (kO_b kO_id kO_92) (kO_b kO_id kO_91)) (kO_b kO_id kO_90))) (kO_b (kO_b (kO_b (kO_b kO_id kO_89) (kO_b kO_id kO_88)) (kO_b kO_id kO_87)) (kO_b (kO_b kO_id kO_86) (kO_b kO_id kO_85))))) (kO_b (kO_b (kO_b (kO_b (kO_b (kO_b kO_id kO_84) (kO_b kO_id kO_83)) (kO_b kO_id kO_82)) (kO_b (kO_b (kO_b kO_id kO_81) (kO_b kO_id kO_80)) (kO_b kO_id kO_79))) (kO_b (kO_b (kO_b (kO_b kO_id kO_78) (kO_b kO_id kO_77)) (kO_b kO_id kO_76)) (kO_b (kO_b kO_id kO_75) (kO_b kO_id kO_74)))) (kO_b (kO_b (kO_b (kO_b (kO_b kO_id kO_73) (kO_b kO_id kO_72)) (kO_b kO_id kO_71)) (kO_b (kO_b (kO_b kO_id kO_70) (kO_b kO_id kO_69)) (kO_b kO_id kO_68))) (kO_b (kO_b (kO_b (kO_b kO_id kO_67) (kO_b kO_id kO_66)) (kO_b kO_id kO_65)) (kO_b (kO_b kO_id kO_64) (kO_b kO_id kO_63))))))
def kHKx (mi pc : Nat) (K : kS) : Option (List kS) := (@Bool.rec (fun _ => Option (List kS)) (@Bool.rec (fun _ => Option (List kS)) (@Bool.rec (fun _ => Option (List kS)) (@Bool.rec (fun _ => Option (List kS)) (@Bool.rec (fun _ => Option (List kS)) (@Bool.rec (fun _ => Option (List kS)) (some [K]) (kHm_280 pc K) (Nat.beq mi 280)) (@Bool.rec (fun _ => Option (List kS)) (some [K]) (kHm_257 pc K) (Nat.beq mi 257)) (Nat.blt mi 280)) (@Bool.rec (fun _ => Option (List kS)) (@Bool.rec (fun _ => Option (List kS)) (some [K]) (kHm_203 pc K) (Nat.beq mi 203)) (@Bool.rec (fun _ => Option (List kS)) (some [K]) (kHm_202 pc K) (Nat.beq mi 202)) (Nat.blt mi 203)) (Nat.blt mi 257)) (@Bool.rec (fun _ => Option (List kS)) (@Bool.rec (fun _ => Option (List kS)) (@Bool.rec (fun _ => Option (List kS)) (some [K]) (kHm_200 pc K) (Nat.beq mi 200)) (@Bool.rec (fun _ => Option (List kS)) (some [K]) (kHm_177 pc K) (Nat.beq mi 177)) (Nat.blt mi 200)) (@Bool.rec (fun _ => Option (List kS)) (some [K]) (kHm_172 pc K) (Nat.beq mi 172)) (Nat.blt mi 177)) (Nat.blt mi 202)) (@Bool.rec (fun _ => Option (List kS)) (@Bool.rec (fun _ => Option (List kS)) (@Bool.rec (fun _ => Option (List kS)) (@Bool.rec (fun _ => Option (List kS)) (some [K]) (kHm_169 pc K) (Nat.beq mi 169)) (@Bool.rec (fun _ => Option (List kS)) (some [K]) (kHm_168 pc K) (Nat.beq mi 168)) (Nat.blt mi 169)) (@Bool.rec (fun _ => Option (List kS)) (some [K]) (kHm_167 pc K) (Nat.beq mi 167)) (Nat.blt mi 168)) (@Bool.rec (fun _ => Option (List kS)) (@Bool.rec (fun _ => Option (List kS)) (@Bool.rec (fun _ => Option (List kS)) (some [K]) (kHm_166 pc K) (Nat.beq mi 166)) (@Bool.rec (fun _ => Option (List kS)) (some [K]) (kHm_164 pc K) (Nat.beq mi 164)) (Nat.blt mi 166)) (@Bool.rec (fun _ => Option (List kS)) (some [K]) (kHm_154 pc K) (Nat.beq mi 154)) (Nat.blt mi 164)) (Nat.blt mi 167)) (Nat.blt mi 172)) (@Bool.rec (fun _ => Option (List kS)) (@Bool.rec (fun _ => Option (List kS)) (@Bool.rec (fun _ => Option (List kS)) (@Bool.rec (fun _ => Option (List kS)) (@Bool.rec (fun _ => Option (List kS)) (some [K]) (kHm_151 pc K) (Nat.beq mi 151)) (@Bool.rec (fun _ => Option (List kS)) (some [K]) (kHm_148 pc K) (Nat.beq mi 148)) (Nat.blt mi 151)) (@Bool.rec (fun _ => Option (List kS)) (some [K]) (kHm_88 pc K) (Nat.beq mi 88)) (Nat.blt mi 148)) (@Bool.rec (fun _ => Option (List kS)) (@Bool.rec (fun _ => Option (List kS)) (@Bool.rec (fun _ => Option (List kS)) (some [K]) (kHm_87 pc K) (Nat.beq mi 87)) (@Bool.rec (fun _ => Option (List kS)) (some [K]) (kHm_85 pc K) (Nat.beq mi 85)) (Nat.blt mi 87)) (@Bool.rec (fun _ => Option (List kS)) (some [K]) (kHm_84 pc K) (Nat.beq mi 84)) (Nat.blt mi 85)) (Nat.blt mi 88)) (@Bool.rec (fun _ => Option (List kS)) (@Bool.rec (fun _ => Option (List kS)) (@Bool.rec (fun _ => Option (List kS)) (@Bool.rec (fun _ => Option (List kS)) (some [K]) (kHm_74 pc K) (Nat.beq mi 74)) (@Bool.rec (fun _ => Option (List kS)) (some [K]) (kHm_69 pc K) (Nat.beq mi 69)) (Nat.blt mi 74)) (@Bool.rec (fun _ => Option (List kS)) (some [K]) (kHm_64 pc K) (Nat.beq mi 64)) (Nat.blt mi 69)) (@Bool.rec (fun _ => Option (List kS)) (@Bool.rec (fun _ => Option (List kS)) (@Bool.rec (fun _ => Option (List kS)) (some [K]) (kHm_63 pc K) (Nat.beq mi 63)) (@Bool.rec (fun _ => Option (List kS)) (some [K]) (kHm_60 pc K) (Nat.beq mi 60)) (Nat.blt mi 63)) (@Bool.rec (fun _ => Option (List kS)) (some [K]) (kHm_3 pc K) (Nat.beq mi 3)) (Nat.blt mi 60)) (Nat.blt mi 64)) (Nat.blt mi 84)) (Nat.blt mi 154))
theorem kHx_ok {RO : List (Nat × (Nat → Int32))} (mi pc : Nat) : kOne RO (kHKx mi pc) := by
  delta kHKx
  exact (kO_b (kO_b (kO_b (kO_b (kO_b (kO_b kO_id (kHm_280_ok pc)) (kO_b kO_id (kHm_257_ok pc))) (kO_b (kO_b kO_id (kHm_203_ok pc)) (kO_b kO_id (kHm_202_ok pc)))) (kO_b (kO_b (kO_b kO_id (kHm_200_ok pc)) (kO_b kO_id (kHm_177_ok pc))) (kO_b kO_id (kHm_172_ok pc)))) (kO_b (kO_b (kO_b (kO_b kO_id (kHm_169_ok pc)) (kO_b kO_id (kHm_168_ok pc))) (kO_b kO_id (kHm_167_ok pc))) (kO_b (kO_b (kO_b kO_id (kHm_166_ok pc)) (kO_b kO_id (kHm_164_ok pc))) (kO_b kO_id (kHm_154_ok pc))))) (kO_b (kO_b (kO_b (kO_b (kO_b kO_id (kHm_151_ok pc)) (kO_b kO_id (kHm_148_ok pc))) (kO_b kO_id (kHm_88_ok pc))) (kO_b (kO_b (kO_b kO_id (kHm_87_ok pc)) (kO_b kO_id (kHm_85_ok pc))) (kO_b kO_id (kHm_84_ok pc)))) (kO_b (kO_b (kO_b (kO_b kO_id (kHm_74_ok pc)) (kO_b kO_id (kHm_69_ok pc))) (kO_b kO_id (kHm_64_ok pc))) (kO_b (kO_b (kO_b kO_id (kHm_63_ok pc)) (kO_b kO_id (kHm_60_ok pc))) (kO_b kO_id (kHm_3_ok pc))))))
theorem kHKx_ok (RO : List (Nat × (Nat → Int32))) : kHookOk (kGP (kUP RO)) kHKx := fun mi pc K L h ρ R hD => kHx_ok mi pc K L h ρ R hD
/-- on which cells an atom depends, looked up -/
def kUDt : List (List Nat) := [kUD 0, kUD 1, kUD 2, kUD 3, kUD 4, kUD 5, kUD 6, kUD 7, kUD 8, kUD 9, kUD 10, kUD 11, kUD 12, kUD 13, kUD 14, kUD 15, kUD 16, kUD 17, kUD 18, kUD 19, kUD 20, kUD 21, kUD 22, kUD 23, kUD 24, kUD 25, kUD 26, kUD 27, kUD 28, kUD 29, kUD 30, kUD 31, kUD 32, kUD 33, kUD 34, kUD 35, kUD 36, kUD 37, kUD 38, kUD 39, kUD 40, kUD 41, kUD 42, kUD 43, kUD 44, kUD 45, kUD 46, kUD 47, kUD 48, kUD 49, kUD 50, kUD 51, kUD 52]
def kUDf (k : Nat) : List Nat := @Option.rec (List Nat) (fun _ => List Nat) (kUD k) (fun l => l) (sAt kUDt k)
theorem kUDt_eq : kUDt = (List.range 53).map kUD := rfl
theorem kUDf_eq (k : Nat) : kUDf k = kUD k := by
  unfold kUDf
  rw [sAt_eq, kUDt_eq, List.getElem?_map]
  cases h : (List.range 53)[k]? with
  | none => rfl
  | some j =>
    obtain ⟨hk, e⟩ := List.getElem?_eq_some_iff.mp h
    rw [List.getElem_range] at e
    subst e
    rfl
theorem kUP_frf (RO : List (Nat × (Nat → Int32))) : ∀ k zs (H H' : List eE), (∀ j ∈ kUDf k, H'[j]? = H[j]?) → kUP RO k zs H → kUP RO k zs H' := fun k zs H H' h => kUP_fr RO k zs H H' (by rw [kUDf_eq] at h; exact h)
def kSOx : List (Nat × List sL) := [(10, eT_LEAST.map fun v => sC v.toInt), (10, eT_MOST.map fun v => sC v.toInt), (8, eT_ABOVE.map fun v => sC v.toInt), (32, eT_OWN.map fun v => sC v.toInt), (0, [])]
end
