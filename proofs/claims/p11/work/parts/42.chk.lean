/-! K: a contract's check, and that all contracts hold. -/
noncomputable section
section KCHK
variable (SO : List (Nat × List sL)) (MT : Nat → Option eM) (dep : Nat → List Nat) (nh : Nat)
variable (HK : Nat → Nat → kS → Option (List kS)) (KS : (Nat → Bool) → Nat → eI → kS → Option (List kS)) (CS : Nat → Nat → List kC)
/-- the state that a contract begins with -/
def kIni (c : kC) : kS := ((c.1.2, c.2.1.1, [], kFgl [] c.2.1.2.1 (List.replicate nh sIsAny) 0, c.2.2.2.2.2.1, c.2.2.2.2.2.2, c.2.1.2.2.1), c.2.1.2.2.2)
/-- an end of the run below one of the contract's ends -/
def kBel (c : kC) (K : kS) (U : kU) : Bool :=
  match (kPutA K.2 U.2.2.2 (kPutH K.1.2.2.2.1 U.2.2.1 (kPutVs U.2.1 K.1.2.2.1 (c.2.1.2.2.1.1.length, (sNewX 0 c.2.1.2.2.1.1.length).reverse)))).2.reverse with
  | σ => decide (σ.take c.2.1.2.2.1.1.length = sNewX 0 c.2.1.2.2.1.1.length) && (decide (K.1.2.2.2.1.length = nh ∧ K.1.2.2.2.2.1 = c.2.2.2.2.2.1 ∧ K.1.2.2.2.2.2.1 = c.2.2.2.2.2.2) && (sGb K.1.2.2.2.2.2.2 σ U.1 && (sVsb σ U.2.1 K.1.2.2.1 && (kCb K.1.2.2.2.2.2.2.1 σ K.1.2.2.2.1 U.2.2.1 && kAb σ K.2 U.2.2.2))))
def kChk (fuel : Nat) (c : kC) : Bool := (sIv c.2.1.2.2.1.1 c.2.2.2.1.2.2).isSome && ((sIv c.2.1.2.2.1.1 c.2.2.2.1.1).isSome && (sNN c.2.1.2.2.1 (sSub c.2.2.2.1.1 (sC 1)) &&
  (match kRun SO MT dep nh HK KS CS ((fun j => c.2.2.2.2.1.contains j), c.2.2.2.1.2.1, c.2.2.2.1.2.2, c.2.2.2.1.1) fuel 0 c.1.1 (kIni nh c) with
    | some L => L.all (fun K => c.2.2.1.any (fun U => kBel nh c K U))
    | none => false)))
end KCHK
section KCHKP
variable {GP : Nat → List Int → List eE → Prop} {SO : List (Nat × List sL)} {RO : List (Nat × (Nat → Int32))} {CL : List vw_C} {CT : Nat → Nat → FieldType} {MT : Nat → Option eM} {dep : Nat → List Nat} {nh : Nat}
variable {HK : Nat → Nat → kS → Option (List kS)} {KS : (Nat → Bool) → Nat → eI → kS → Option (List kS)} {CS : Nat → Nat → List kC}
theorem sNewX_len : ∀ k n : Nat, (sNewX k n).length = n
  | _, 0 => rfl
  | k, n + 1 => congrArg Nat.succ (sNewX_len (k + 1) n)
theorem sVal_appR {ρ : List Int} : ∀ {σ τ : List sL} {ws : List Int}, sVal ρ (σ ++ τ) = some ws → ∃ us vs, ws = us ++ vs ∧ sVal ρ σ = some us ∧ sVal ρ τ = some vs
  | [], τ, ws, h => ⟨[], ws, rfl, rfl, h⟩
  | a :: r, τ, ws, h => by
    simp only [List.cons_append, sVal] at h
    split at h
    · rename_i z zs hz hzs
      cases h
      obtain ⟨us, vs, rfl, h1, h2⟩ := sVal_appR hzs
      exact ⟨z :: us, vs, rfl, by simp only [sVal, hz, h1], h2⟩
    · cases h
theorem kHold1 (hGP : ∀ k zs (H H' : List eE), (∀ j ∈ dep k, H'[j]? = H[j]?) → GP k zs H → GP k zs H') (hCS : ∀ (mi pc : Nat) (c : kC), c ∈ CS mi pc → c.1 = (mi, pc)) (hKS : kStepOk GP SO RO CL CT KS) (hHK : kHookOk GP HK) (hRO : sRor [] SO RO)
    {fuel : Nat} {c : kC} (hc : kChk SO MT dep nh HK KS CS fuel c = true) {vs : List Int} {rv : Int} (hrv : sEv vs c.2.2.2.1.2.2 = some rv) (hIH : kIH GP RO CL CT MT nh CS c.2.2.2.1.2.1 rv) : kHolds GP RO CL CT MT nh c vs := by
  intro ws H hpre dv hdv
  obtain ⟨hM, hL, hlen, hC, hg⟩ := hpre
  unfold kChk at hc
  simp only [Bool.and_eq_true] at hc
  obtain ⟨-, -, hd1, hc⟩ := hc
  split at hc
  · rename_i L hL0
    have hdv1 := sNN_ok hM (sEv_sub hdv (sEv_C 1)) hd1
    have hD : kD GP vs (kIni nh c) (c.1.2, ws, [], H, c.2.2.2.2.2.1, c.2.2.2.2.2.2) := ⟨hM, ⟨rfl, hL, trivial, kFgl_ok (by rw [← hlen]; exact kAnyHp) rfl (fun _ _ => rfl) hC, rfl, rfl⟩, hg⟩
    obtain ⟨K, hK, ρ', Rf, hp, hrun, hE, hfr, hle⟩ := kRun_ok hGP hCS hKS hHK _ fuel 0 c.1.1 (kIni nh c) L hL0 vs _ dv rv (hRO.mono (List.nil_prefix)) hdv hrv (by omega) hIH hD
    have hb := List.all_eq_true.mp hc K hK
    obtain ⟨U, hU, hb⟩ := List.any_eq_true.mp hb
    unfold kBel at hb
    simp only [Bool.and_eq_true, decide_eq_true_eq] at hb
    obtain ⟨b1, ⟨b2, b3, b4⟩, b5, b6, b7, b8⟩ := hb
    generalize (kPutA K.2 U.2.2.2 (kPutH K.1.2.2.2.1 U.2.2.1 (kPutVs U.2.1 K.1.2.2.1 (c.2.1.2.2.1.1.length, (sNewX 0 c.2.1.2.2.1.1.length).reverse)))).2.reverse = σ at b1 b5 b6 b7 b8
    obtain ⟨w, hw, hU1⟩ := sGb_ok hE.1 b5
    obtain ⟨new, hnew⟩ : ∃ new, w = vs ++ new := by
      rw [← List.take_append_drop c.2.1.2.2.1.1.length σ, b1] at hw
      obtain ⟨us, new, rfl, h1, -⟩ := sVal_appR hw
      have h2 : sVal ρ' (sNewX 0 vs.length) = some vs := sVal_new fun i z hz => by
        obtain ⟨t, rfl⟩ := hp
        rw [Nat.zero_add, List.getElem?_append_left (List.getElem?_eq_some_iff.mp hz).1]
        exact hz
      rw [← hM.1.1] at h2
      cases h1.symm.trans h2
      exact ⟨new, rfl⟩
    subst hnew
    have hlf : Rf.2.2.2.1.length = H.length := by rw [(sHp_at.mp hE.2.2.1).1, b2, hlen]
    refine ⟨U, hU, new, Rf, ?_, hU1, sVsb_ok hw b6 hE.2.1, hlf, kCb_ok hw hE.1.1 hE.2.2.1 b7, fun j hj => ?_, ⟨by rw [hE.2.2.2.1.1, b3], by rw [hE.2.2.2.1.2, b4]⟩, kAb_ok hw hE.2.2.2.2 b8⟩
    · have e : (dv - ((0 : Nat) : Int)).toNat = dv.toNat := by omega
      rw [e] at hrun
      exact hrun
    · by_cases hjl : j < H.length
      · exact hfr j hjl hj
      · rw [List.getElem?_eq_none (by omega), List.getElem?_eq_none (by omega)]
  · cases hc
theorem kHoldAll (hGP : ∀ k zs (H H' : List eE), (∀ j ∈ dep k, H'[j]? = H[j]?) → GP k zs H → GP k zs H') (hCS : ∀ (mi pc : Nat) (c : kC), c ∈ CS mi pc → c.1 = (mi, pc)) (hKS : kStepOk GP SO RO CL CT KS) (hHK : kHookOk GP HK) (hRO : sRor [] SO RO)
    (hc : ∀ (mi pc : Nat) (c : kC), c ∈ CS mi pc → ∃ fuel, kChk SO MT dep nh HK KS CS fuel c = true) : ∀ (lev : Nat) (r : Nat) (mi pc : Nat) (c : kC), c ∈ CS mi pc → c.2.2.2.1.2.1 = lev → ∀ (vs : List Int), (∀ z, sEv vs c.2.2.2.1.2.2 = some z → z.toNat = r) → kHolds GP RO CL CT MT nh c vs := by
  intro lev
  induction lev using Nat.strongRecOn with
  | _ lev ihl =>
    intro r
    induction r using Nat.strongRecOn with
    | _ r ihr =>
      intro mi pc c hcin hlev vs hr
      obtain ⟨fuel, hk⟩ := hc mi pc c hcin
      intro ws H hpre
      have hk0 := hk
      unfold kChk at hk0
      simp only [Bool.and_eq_true] at hk0
      obtain ⟨i, hi⟩ := Option.isSome_iff_exists.mp hk0.1
      obtain ⟨rv, hrv⟩ := sIv_has hpre.1.1 hi
      refine kHold1 hGP hCS hKS hHK hRO hk hrv ?_ ws H hpre
      intro mi' pc' c' hc' vs' z hz
      rcases hz with h1 | ⟨h1, h2, h3, h4⟩
      · rw [hlev] at h1
        by_cases hex : ∃ y, sEv vs' c'.2.2.2.1.2.2 = some y
        · obtain ⟨y, hy⟩ := hex
          exact ihl _ h1 y.toNat mi' pc' c' hc' rfl vs' (fun x hx => by cases hy.symm.trans hx; rfl)
        · exact ihl _ h1 0 mi' pc' c' hc' rfl vs' (fun x hx => absurd ⟨x, hx⟩ hex)
      · have h5 := hr rv hrv
        exact ihr z.toNat (by omega) mi' pc' c' hc' (h1.trans hlev) vs' (fun x hx => by cases h2.symm.trans hx; rfl)
/-- all contracts hold -/
theorem kHold (hGP : ∀ k zs (H H' : List eE), (∀ j ∈ dep k, H'[j]? = H[j]?) → GP k zs H → GP k zs H') (hCS : ∀ (mi pc : Nat) (c : kC), c ∈ CS mi pc → c.1 = (mi, pc)) (hKS : kStepOk GP SO RO CL CT KS) (hHK : kHookOk GP HK) (hRO : sRor [] SO RO)
    (hc : ∀ (mi pc : Nat) (c : kC), c ∈ CS mi pc → ∃ fuel, kChk SO MT dep nh HK KS CS fuel c = true) {mi pc : Nat} {c : kC} (h : c ∈ CS mi pc) (vs : List Int) : kHolds GP RO CL CT MT nh c vs := by
  by_cases hex : ∃ y, sEv vs c.2.2.2.1.2.2 = some y
  · obtain ⟨y, hy⟩ := hex
    exact kHoldAll hGP hCS hKS hHK hRO hc _ y.toNat mi pc c h rfl vs (fun x hx => by cases hy.symm.trans hx; rfl)
  · exact kHoldAll hGP hCS hKS hHK hRO hc _ 0 mi pc c h rfl vs (fun x hx => absurd ⟨x, hx⟩ hex)
end KCHKP
end
