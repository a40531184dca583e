/-! K: copies; one step. -/
noncomputable section
section KSTP
variable {UP : Nat → List Int → List eE → Prop} {ud : Nat → List Nat} {SO : List (Nat × List sL)} {RO : List (Nat × (Nat → Int32))} {CL : List vw_C} {CT : Nat → Nat → FieldType} {sl nx b : Nat}
/-- a copy of which only bounds are kept -/
def s31w (SO : List (Nat × List sL)) (nx : Nat) : sR → Option (List sR)
  | (_, ls, (0, n) :: (0, dp) :: (2, kd) :: (0, sp) :: (2, ks) :: st, G, c, s, Γ) => if kd.1.toNat < SO.length ∨ ks.1.toNat < SO.length ∨ 8 < (st.map sCat).sum then none else
    match G[ks.1.toNat - SO.length]?, G[kd.1.toNat - SO.length]? with
    | some (.inl (ty, n0, b0, o0)), some (.inl (ty1, n1, b1, o1)) => (match sHull Γ.1 b0 o0, sHull Γ.1 b1 o1 with
      | some h0, some h1 => if (sNN Γ n && (sNN Γ dp && (sNN Γ sp && (sNN Γ (sSub (sSub (sC n0) sp) n) && (sNN Γ (sSub (sSub (sC n1) dp) n) && (decide (n0 ≤ 2147483647) && (decide (n1 ≤ 2147483647) && (decide (ty = ty1) && ((decide (ty = .int) && (decide (-2147483648 ≤ h0.1 ∧ h0.2 ≤ 2147483647) && decide (-2147483648 ≤ h1.1 ∧ h1.2 ≤ 2147483647))) || (decide (ty = .long) && (decide (-9223372036854775808 ≤ h0.1 ∧ h0.2 ≤ 9223372036854775807) && decide (-9223372036854775808 ≤ h1.1 ∧ h1.2 ≤ 9223372036854775807)))))))))))) = true then
          some [(nx, ls, st, G.set (kd.1.toNat - SO.length) (.inl (ty, n1, (min h0.1 h1.1, max h0.2 h1.2), [])), c, s, Γ)] else none
      | _, _ => none)
    | _, _ => none
  | _ => none
theorem kCl {z : Int} (h0 : 0 ≤ z) (h1 : z ≤ 2147483647) : (Int32.ofInt z).toNatClampNeg = z.toNat ∧ ¬ Int32.ofInt z < 0 := by
  obtain ⟨k, rfl⟩ := Int.eq_ofNat_of_zero_le h0
  have e1 : (Int32.ofInt (k : Int)) = nI k := by simp [nI, Int32.ofNat, Int32.ofInt]
  rw [e1]
  exact ⟨nI_clamp (by omega), nI_pos (by omega)⟩
theorem t31w {ρ : List Int} {S : sR} {R : eR} {L : List sR} (hRO : sRor ρ SO RO) (hM : sMo ρ S.2.2.2.2.2.2) (hD : sD ρ S R) (h : s31w SO nx S = some L) : sOK ρ L (e31 RO nx R) := by
  have hro := sRor_len hRO
  obtain ⟨pc, ls, st, G, c, s, Γ⟩ := S
  obtain ⟨pc', ls', st', G', c', s'⟩ := R
  obtain ⟨h1, hL, hV, hH, h2, h3⟩ := hD
  simp only at h1 hL hV hH h2 h3 hM
  subst h1; subst h2; subst h3
  unfold s31w at h
  split at h
  · rename_i n dp kd sp ks st1 G1 c1 s1 Γ1 heq
    cases heq
    obtain ⟨zn, r0, rfl, hn, hV0⟩ := sVs_int hV
    obtain ⟨zd, r1, rfl, hd, hV1⟩ := sVs_int hV0
    obtain ⟨r2, rfl, hV2⟩ := sVs_ref hV1
    obtain ⟨zs, r3, rfl, hs, hV3⟩ := sVs_int hV2
    obtain ⟨r4, rfl, hV4⟩ := sVs_ref hV3
    split at h
    · cases h
    rename_i hc0
    simp only [not_or] at hc0
    split at h
    · rename_i ty n0 b0 o0 ty1 n1 b1 o1 hg0 hg1
      split at h
      · rename_i u0 u1 hu0 hu1
        split at h
        · rename_i hc
          cases h
          simp only [Bool.and_eq_true, Bool.or_eq_true, decide_eq_true_eq] at hc
          obtain ⟨c1, c2, c3, c4, c5, c6, c7, rfl, c8⟩ := hc
          have q1 := sNN_ok hM hn c1
          have q2 := sNN_ok hM hd c2
          have q3 := sNN_ok hM hs c3
          have q4 := sNN_ok hM (sEv_sub (sEv_sub (sEv_C (n0 : Int)) hs) hn) c4
          have q5 := sNN_ok hM (sEv_sub (sEv_sub (sEv_C (n1 : Int)) hd) hn) c5
          obtain ⟨a1, a2⟩ := kCl (z := zn) q1 (by omega)
          obtain ⟨a3, a4⟩ := kCl (z := zd) q2 (by omega)
          obtain ⟨a5, a6⟩ := kCl (z := zs) q3 (by omega)
          obtain ⟨y0, hy0, hx0⟩ := sHp_get hH hg0
          obtain ⟨y1, hy1, hx1⟩ := sHp_get hH hg1
          rcases y0 with ⟨t0, m0, arr0⟩ | y0
          · rcases y1 with ⟨t1, m1, arr1⟩ | y1
            · obtain ⟨rfl, rfl, g0⟩ := hx0
              obtain ⟨rfl, rfl, g1⟩ := hx1
              have hcond : ¬ (kd.1.toNat < RO.length ∨ ks.1.toNat < RO.length ∨ Int32.ofInt zn < 0 ∨ Int32.ofInt zd < 0 ∨ Int32.ofInt zs < 0 ∨ 8 < (r4.map fun v => v.category).sum) := by
                rw [hro, sVs_cats hV4]
                rintro (h9 | h9 | h9 | h9 | h9 | h9) <;> first | exact hc0.1 h9 | exact hc0.2.1 h9 | exact a2 h9 | exact a4 h9 | exact a6 h9 | exact hc0.2.2 h9
              rcases c8 with ⟨rfl, ⟨d1, d2⟩, d3, d4⟩ | ⟨rfl, ⟨d1, d2⟩, d3, d4⟩
              · rcases arr0 with f | f | f
                · rcases arr1 with g | g | g
                  · refine sOK.one (List.prefix_refl _) hM (R' := (nx, ls', r4, G'.set _ (.inl (.int, m1, .inl (va_cpy f g zs.toNat zd.toNat zn.toNat))), c', s')) ?_ ⟨rfl, hL, hV4, sHp_set (x := .inl (.int, m1, (min u0.1 u1.1, max u0.2 u1.2), [])) (y := .inl (.int, m1, .inl (va_cpy f g zs.toNat zd.toNat zn.toNat))) ⟨rfl, rfl, Or.inl rfl, fun i hi => ?_⟩ _ hH, rfl, rfl⟩
                    · simp only [e31]
                      rw [if_neg hcond, hro, hy0, hy1]
                      simp only
                      rw [a1, a3, a5, if_pos ⟨trivial, trivial, by omega, by omega⟩]
                    · show _ ≤ (va_cpy f g zs.toNat zd.toNat zn.toNat i).toInt ∧ (va_cpy f g zs.toNat zd.toNat zn.toNat i).toInt ≤ _
                      unfold va_cpy
                      simp only
                      split
                      · have := sHull_I hM.1 g0.2 hu0 d1 d2 (i := zs.toNat + (i - zd.toNat)) (by omega)
                        omega
                      · have := sHull_I hM.1 g1.2 hu1 d3 d4 hi
                        omega
                  · have := g1.1; cases this
                  · have := g1.1; cases this
                · have := g0.1; cases this
                · have := g0.1; cases this
              · rcases arr0 with f | f | f
                · rcases g0.1 with h9 | h9 | h9 <;> cases h9
                · rcases arr1 with g | g | g
                  · rcases g1.1 with h9 | h9 | h9 <;> cases h9
                  · refine sOK.one (List.prefix_refl _) hM (R' := (nx, ls', r4, G'.set _ (.inl (.long, m1, .inr (.inl (va_cpy f g zs.toNat zd.toNat zn.toNat)))), c', s')) ?_ ⟨rfl, hL, hV4, sHp_set (x := .inl (.long, m1, (min u0.1 u1.1, max u0.2 u1.2), [])) (y := .inl (.long, m1, .inr (.inl (va_cpy f g zs.toNat zd.toNat zn.toNat)))) ⟨rfl, rfl, rfl, fun i hi => ?_⟩ _ hH, rfl, rfl⟩
                    · simp only [e31]
                      rw [if_neg hcond, hro, hy0, hy1]
                      simp only
                      rw [a1, a3, a5, if_pos ⟨trivial, trivial, by omega, by omega⟩]
                    · show _ ≤ (va_cpy f g zs.toNat zd.toNat zn.toNat i).toInt ∧ (va_cpy f g zs.toNat zd.toNat zn.toNat i).toInt ≤ _
                      unfold va_cpy
                      simp only
                      split
                      · have := sHull_L hM.1 g0.2 hu0 d1 d2 (i := zs.toNat + (i - zd.toNat)) (by omega)
                        omega
                      · have := sHull_L hM.1 g1.2 hu1 d3 d4 hi
                        omega
                  · have := g1.1; cases this
                · have := g0.1; cases this
            · exact hx1.elim
          · exact hx0.elim
        · cases h
      · cases h
    · cases h
  · cases h
theorem e31_I {pc : Nat} {ls : List (Nat × Value)} {n dp sp : Int32} {kd ks : Nat} {st : List Value} {G : List eE} {c s : Nat} {R' : eR} {ty ty1 : FieldType} {n0 n1 : Nat} {f g : Nat → Int32} (h : e31 RO nx (pc, ls, .int n :: .int dp :: .ref kd :: .int sp :: .ref ks :: st, G, c, s) = some R') (hs : G[ks - RO.length]? = some (.inl (ty, n0, .inl f))) (hd : G[kd - RO.length]? = some (.inl (ty1, n1, .inl g))) :
    ty1 = .int ∧ R'.2.2.2.1 = G.set (kd - RO.length) (.inl (.int, n1, .inl (va_cpy f g sp.toNatClampNeg dp.toNatClampNeg n.toNatClampNeg))) := by
  simp only [e31] at h
  split at h
  · cases h
  rw [hs, hd] at h
  simp only at h
  split at h
  · rename_i hc
    cases h
    exact ⟨hc.2.1, rfl⟩
  · cases h
theorem e31_L {pc : Nat} {ls : List (Nat × Value)} {n dp sp : Int32} {kd ks : Nat} {st : List Value} {G : List eE} {c s : Nat} {R' : eR} {ty ty1 : FieldType} {n0 n1 : Nat} {f g : Nat → Int64} (h : e31 RO nx (pc, ls, .int n :: .int dp :: .ref kd :: .int sp :: .ref ks :: st, G, c, s) = some R') (hs : G[ks - RO.length]? = some (.inl (ty, n0, .inr (.inl f)))) (hd : G[kd - RO.length]? = some (.inl (ty1, n1, .inr (.inl g)))) :
    R'.2.2.2.1 = G.set (kd - RO.length) (.inl (.long, n1, .inr (.inl (va_cpy f g sp.toNatClampNeg dp.toNatClampNeg n.toNatClampNeg)))) := by
  simp only [e31] at h
  split at h
  · cases h
  rw [hs, hd] at h
  simp only at h
  split at h
  · cases h
    rfl
  · cases h
/-- what atoms hold behind a copy of longs -/
def kLOk (UP : Nat → List Int → List eE → Prop) (LC : sG → List kA → Nat → Nat → sL → sL → sL → List kA) : Prop := ∀ (Γ : sG) (γ : List kA) (js jd : Nat) (sp dp n : sL) (ρ : List Int) (zs zd zn : Int) (H : List eE) (n0 n1 : Nat) (f g : Nat → Int64), sMo ρ Γ → kGh (kGP UP) ρ γ H → sEv ρ sp = some zs → sEv ρ dp = some zd → sEv ρ n = some zn → 0 ≤ zs → 0 ≤ zd → 0 ≤ zn → zs + zn ≤ n0 → zd + zn ≤ n1 → H[js]? = some (.inl (.long, n0, .inr (.inl f))) → H[jd]? = some (.inl (.long, n1, .inr (.inl g))) →
  kGh (kGP UP) ρ (LC Γ γ js jd sp dp n) (H.set jd (.inl (.long, n1, .inr (.inl (va_cpy f g zs.toNat zd.toNat zn.toNat)))))
/-- what atoms hold behind a copy -/
def kCOk (UP : Nat → List Int → List eE → Prop) (KC : List kA → Nat → Nat → Int → Int → Int → List kA) : Prop := ∀ (γ : List kA) (js jd : Nat) (sp dp n : Int) (ρ : List Int) (H : List eE) (n0 n1 : Nat) (f g : Nat → Int32), kGh (kGP UP) ρ γ H → 0 ≤ sp → 0 ≤ dp → 0 ≤ n → H[js]? = some (.inl (.int, n0, .inl f)) → H[jd]? = some (.inl (.int, n1, .inl g)) →
  kGh (kGP UP) ρ (KC γ js jd sp dp n) (H.set jd (.inl (.int, n1, .inl (va_cpy f g sp.toNat dp.toNat n.toNat))))
def kCpA (SO : List (Nat × List sL)) (KC : List kA → Nat → Nat → Int → Int → Int → List kA) (LC : sG → List kA → Nat → Nat → sL → sL → sL → List kA) (Γ : sG) (G : List sE) (γ : List kA) (n dp kd : sL) (v w : sV) : List kA := match v, w with
  | (0, sp), (2, ks) => (match G[ks.1.toNat - SO.length]?, G[kd.1.toNat - SO.length]? with
    | some (.inl (t0, m0, _, _)), some (.inl (t1, m1, _, _)) => if t0 = .long ∧ t1 = .long then
        (if (sNN Γ n && (sNN Γ dp && (sNN Γ sp && (sNN Γ (sSub (sSub (sC (m0 : Int)) sp) n) && (sNN Γ (sSub (sSub (sC (m1 : Int)) dp) n) && (decide (m0 ≤ 65536) && decide (m1 ≤ 65536))))))) = true then LC Γ γ (ks.1.toNat - SO.length) (kd.1.toNat - SO.length) sp dp n else [])
      else (match sK Γ.1 n, sK Γ.1 dp, sK Γ.1 sp with
        | some n', some dp', some sp' => if 0 ≤ n' ∧ 0 ≤ dp' ∧ 0 ≤ sp' ∧ n' ≤ 65536 ∧ dp' ≤ 65536 ∧ sp' ≤ 65536 ∧ t0 = .int ∧ t1 = .int then KC γ (ks.1.toNat - SO.length) (kd.1.toNat - SO.length) sp' dp' n' else []
        | _, _, _ => [])
    | _, _ => [])
  | _, _ => []
/-- the same for ints, by forms -/
def kIOk (UP : Nat → List Int → List eE → Prop) (IC : sG → List kA → Nat → Nat → Nat → Nat → sL → sL → sL → List kA) : Prop := ∀ (Γ : sG) (γ : List kA) (js jd : Nat) (sp dp n : sL) (ρ : List Int) (zs zd zn : Int) (H : List eE) (n0 n1 : Nat) (f g : Nat → Int32), sMo ρ Γ → kGh (kGP UP) ρ γ H → sEv ρ sp = some zs → sEv ρ dp = some zd → sEv ρ n = some zn → 0 ≤ zs → 0 ≤ zd → 0 ≤ zn → zs + zn ≤ n0 → zd + zn ≤ n1 → H[js]? = some (.inl (.int, n0, .inl f)) → H[jd]? = some (.inl (.int, n1, .inl g)) →
  kGh (kGP UP) ρ (IC Γ γ js jd n0 n1 sp dp n) (H.set jd (.inl (.int, n1, .inl (va_cpy f g zs.toNat zd.toNat zn.toNat))))
def kCpI (SO : List (Nat × List sL)) (IC : sG → List kA → Nat → Nat → Nat → Nat → sL → sL → sL → List kA) (Γ : sG) (G : List sE) (γ : List kA) (n dp kd : sL) (v w : sV) : List kA := match v, w with
  | (0, sp), (2, ks) => (match G[ks.1.toNat - SO.length]?, G[kd.1.toNat - SO.length]? with
    | some (.inl (t0, m0, _, _)), some (.inl (t1, m1, _, _)) => if (decide (t0 = .int ∧ t1 = .int) && (sNN Γ n && (sNN Γ dp && (sNN Γ sp && (sNN Γ (sSub (sSub (sC (m0 : Int)) sp) n) && (sNN Γ (sSub (sSub (sC (m1 : Int)) dp) n) && (decide (m0 ≤ 65536) && decide (m1 ≤ 65536)))))))) = true then IC Γ γ (ks.1.toNat - SO.length) (kd.1.toNat - SO.length) m0 m1 sp dp n else []
    | _, _ => [])
  | _, _ => []
def kCp (SO : List (Nat × List sL)) (ud : Nat → List Nat) (KC : List kA → Nat → Nat → Int → Int → Int → List kA) (LC : sG → List kA → Nat → Nat → sL → sL → sL → List kA) (IC : sG → List kA → Nat → Nat → Nat → Nat → sL → sL → sL → List kA) (md : Nat → Bool) (nx : Nat) : kS → Option (List kS)
  | ((pc, ls, (0, n) :: (0, dp) :: (2, kd) :: v :: w :: st, G, c, s, Γ), γ) => if md (kd.1.toNat - SO.length) = true then (match s31 SO nx (pc, ls, (0, n) :: (0, dp) :: (2, kd) :: v :: w :: st, G, c, s, Γ) with
    | some L => some (L.map fun S => (S, (kCpA SO KC LC Γ G γ n dp kd v w ++ kCpI SO IC Γ G γ n dp kd v w) ++ kRest ud (kd.1.toNat - SO.length) γ))
    | none => (s31w SO nx (pc, ls, (0, n) :: (0, dp) :: (2, kd) :: v :: w :: st, G, c, s, Γ)).map fun L => L.map fun S => (S, (kCpA SO KC LC Γ G γ n dp kd v w ++ kCpI SO IC Γ G γ n dp kd v w) ++ kRest ud (kd.1.toNat - SO.length) γ)) else none
  | _ => none
theorem kCp_ok (hU : ∀ k zs (H H' : List eE), (∀ j ∈ ud k, H'[j]? = H[j]?) → UP k zs H → UP k zs H') {KC : List kA → Nat → Nat → Int → Int → Int → List kA} (hKC : kCOk UP KC) {LC : sG → List kA → Nat → Nat → sL → sL → sL → List kA} (hLC : kLOk UP LC) {IC : sG → List kA → Nat → Nat → Nat → Nat → sL → sL → sL → List kA} (hIC : kIOk UP IC) {md : Nat → Bool} {K : kS} {L : List kS} (h : kCp SO ud KC LC IC md nx K = some L) {ρ : List Int} {R : eR} (hRO : sRor ρ SO RO) (hD : kD (kGP UP) ρ K R) :
    ∃ K' ∈ L, ∃ ρ' R', ρ <+: ρ' ∧ e31 RO nx R = some R' ∧ kD (kGP UP) ρ' K' R' ∧ (∀ j, j < R.2.2.2.1.length → md j = false → R'.2.2.2.1[j]? = R.2.2.2.1[j]?) ∧ R.2.2.2.1.length ≤ R'.2.2.2.1.length := by
  have hro := sRor_len hRO
  obtain ⟨⟨pc, ls, stk, G, c, s, Γ⟩, γ⟩ := K
  obtain ⟨pc', ls', st', G', c', s'⟩ := R
  obtain ⟨hM, ⟨h1, hL, hV, hH, h2, h3⟩, hg⟩ := hD
  simp only at hM h1 hL hV hH h2 h3 hg
  subst h1; subst h2; subst h3
  unfold kCp at h
  split at h
  · rename_i n dp kd v w st G1 c1 s1 Γ1 γ1 heq
    cases heq
    obtain ⟨zn, r0, rfl, hn, hV0⟩ := sVs_int hV
    obtain ⟨zd, r1, rfl, hd, hV1⟩ := sVs_int hV0
    obtain ⟨r2, rfl, hV2⟩ := sVs_ref hV1
    obtain ⟨wv, r3, rfl, hwv, hV3⟩ := sVs_cons hV2
    obtain ⟨ww, r4, rfl, hww, hV4⟩ := sVs_cons hV3
    split at h
    · rename_i hmd
      have fin : ∀ L0 : List sR, sOK ρ L0 (e31 RO nx (pc', ls', .int (Int32.ofInt zn) :: .int (Int32.ofInt zd) :: .ref kd.1.toNat :: wv :: ww :: r4, G', c', s')) → L = L0.map (fun S => (S, (kCpA SO KC LC Γ G γ n dp kd v w ++ kCpI SO IC Γ G γ n dp kd v w) ++ kRest ud (kd.1.toNat - SO.length) γ)) →
          ∃ K' ∈ L, ∃ ρ' R', ρ <+: ρ' ∧ e31 RO nx (pc', ls', .int (Int32.ofInt zn) :: .int (Int32.ofInt zd) :: .ref kd.1.toNat :: wv :: ww :: r4, G', c', s') = some R' ∧ kD (kGP UP) ρ' K' R' ∧ (∀ j, j < G'.length → md j = false → R'.2.2.2.1[j]? = G'[j]?) ∧ G'.length ≤ R'.2.2.2.1.length := by
        rintro L0 ⟨S', hS, ρ', R', hp, hM', he, hD'⟩ rfl
        obtain ⟨x, hx⟩ := f31 he rfl
        simp only at hx
        rw [hro] at hx
        refine ⟨_, List.mem_map.mpr ⟨S', hS, rfl⟩, ρ', R', hp, he, ⟨hM', hD', fun a ha => ?_⟩, fun j hj hmj => ?_, ?_⟩
        · change a ∈ (kCpA SO KC LC Γ G γ n dp kd v w ++ kCpI SO IC Γ G γ n dp kd v w) ++ kRest ud (kd.1.toNat - SO.length) γ at ha
          rcases List.mem_append.mp ha with ha | ha
          rcases List.mem_append.mp ha with ha | ha
          rotate_left
          · unfold kCpI at ha
            split at ha
            · rename_i sp ks
              obtain ⟨zs, hs, rfl⟩ := sVr_int hwv
              have hks := sVr_ref hww
              subst hks
              split at ha
              · rename_i t0 m0 b0 o0 t1 m1 b1 o1 hg0 hg1
                split at ha
                · rename_i hc
                  simp only [Bool.and_eq_true, decide_eq_true_eq] at hc
                  obtain ⟨⟨rfl, rfl⟩, c1, c2, c3, c4, c5, c6, c7⟩ := hc
                  obtain ⟨y0, hy0, hx0⟩ := sHp_get hH hg0
                  obtain ⟨y1, hy1, hx1⟩ := sHp_get hH hg1
                  rcases y0 with ⟨q0, p0, arr0⟩ | y0
                  · rcases y1 with ⟨q1, p1, arr1⟩ | y1
                    · obtain ⟨rfl, rfl, g0⟩ := hx0
                      obtain ⟨rfl, rfl, g1⟩ := hx1
                      have d1 := sNN_ok hM hn c1
                      have d2 := sNN_ok hM hd c2
                      have d3 := sNN_ok hM hs c3
                      have d4 := sNN_ok hM (sEv_sub (sEv_sub (sEv_C _) hs) hn) c4
                      have d5 := sNN_ok hM (sEv_sub (sEv_sub (sEv_C _) hd) hn) c5
                      rcases arr0 with f | f | f
                      · rcases arr1 with g | g | g
                        · obtain ⟨-, hh⟩ := e31_I he (by rw [hro]; exact hy0) (by rw [hro]; exact hy1)
                          rw [(sCl d1 (by omega)).1, (sCl d2 (by omega)).1, (sCl d3 (by omega)).1, hro] at hh
                          rw [hh]
                          exact (hIC Γ γ _ _ _ _ _ ρ zs zd zn G' _ _ f g hM hg hs hd hn d3 d2 d1 (by omega) (by omega) hy0 hy1).mono _ hp a ha
                        · cases g1.1
                        · cases g1.1
                      · cases g0.1
                      · cases g0.1
                    · exact hx1.elim
                  · exact hx0.elim
                · cases ha
              · cases ha
            · cases ha
          rotate_left
          · unfold kCpA at ha
            split at ha
            · rename_i sp ks
              obtain ⟨zs, hs, rfl⟩ := sVr_int hwv
              have hks := sVr_ref hww
              subst hks
              split at ha
              · rename_i t0 m0 b0 o0 t1 m1 b1 o1 hg0 hg1
                obtain ⟨y0, hy0, hx0⟩ := sHp_get hH hg0
                obtain ⟨y1, hy1, hx1⟩ := sHp_get hH hg1
                rcases y0 with ⟨q0, p0, arr0⟩ | y0
                · rcases y1 with ⟨q1, p1, arr1⟩ | y1
                  · obtain ⟨rfl, rfl, g0⟩ := hx0
                    obtain ⟨rfl, rfl, g1⟩ := hx1
                    split at ha
                    · rename_i hlong
                      obtain ⟨rfl, rfl⟩ := hlong
                      split at ha
                      · rename_i hc
                        simp only [Bool.and_eq_true, decide_eq_true_eq] at hc
                        obtain ⟨c1, c2, c3, c4, c5, c6, c7⟩ := hc
                        have d1 := sNN_ok hM hn c1
                        have d2 := sNN_ok hM hd c2
                        have d3 := sNN_ok hM hs c3
                        have d4 := sNN_ok hM (sEv_sub (sEv_sub (sEv_C _) hs) hn) c4
                        have d5 := sNN_ok hM (sEv_sub (sEv_sub (sEv_C _) hd) hn) c5
                        rcases arr0 with f | f | f
                        · rcases g0.1 with h9 | h9 | h9 <;> cases h9
                        · rcases arr1 with g | g | g
                          · rcases g1.1 with h9 | h9 | h9 <;> cases h9
                          · have hh := e31_L he (by rw [hro]; exact hy0) (by rw [hro]; exact hy1)
                            rw [(sCl d1 (by omega)).1, (sCl d2 (by omega)).1, (sCl d3 (by omega)).1, hro] at hh
                            rw [hh]
                            exact (hLC Γ γ _ _ _ _ _ ρ zs zd zn G' _ _ f g hM hg hs hd hn d3 d2 d1 (by omega) (by omega) hy0 hy1).mono _ hp a ha
                          · cases g1.1
                        · cases g0.1
                      · cases ha
                    · split at ha
                      · rename_i n' dp' sp' k1 k2 k3
                        split at ha
                        · rename_i hc
                          obtain ⟨c1, c2, c3, c4, c5, c6, rfl, rfl⟩ := hc
                          have e1 := sK_ok hM.1 hn k1
                          have e2 := sK_ok hM.1 hd k2
                          have e3 := sK_ok hM.1 hs k3
                          subst e1; subst e2; subst e3
                          rcases arr0 with f | f | f
                          · rcases arr1 with g | g | g
                            · obtain ⟨-, hh⟩ := e31_I he (by rw [hro]; exact hy0) (by rw [hro]; exact hy1)
                              rw [(sCl c1 c4).1, (sCl c2 c5).1, (sCl c3 c6).1, hro] at hh
                              rw [hh]
                              exact (hKC γ _ _ zs zd zn ρ G' _ _ f g hg c3 c2 c1 hy0 hy1).mono _ hp a ha
                            · cases g1.1
                            · cases g1.1
                          · cases g0.1
                          · cases g0.1
                        · cases ha
                      · cases ha
                  · exact hx1.elim
                · exact hx0.elim
              · cases ha
            · cases ha
          · rw [hx]
            exact (kRest_ok hU hg).mono _ hp a ha
        · rw [hx]
          have hne : kd.1.toNat - SO.length ≠ j := by
            rintro rfl
            rw [hmd] at hmj
            cases hmj
          rw [List.getElem?_set_ne hne]
        · rw [hx, List.length_set]
          exact Nat.le_refl _
      split at h
      · rename_i L0 hL0
        cases h
        exact fin L0 (t31 hRO hM ⟨rfl, hL, hV, hH, rfl, rfl⟩ hL0) rfl
      · obtain ⟨L0, hL0, rfl⟩ := Option.map_eq_some_iff.mp h
        exact fin L0 (t31w hRO hM ⟨rfl, hL, hV, hH, rfl, rfl⟩ hL0) rfl
    · cases h
  · cases h
/-- the length of an array; of the script: number 0 -/
def kAl (SO : List (Nat × List sL)) (sl nx : Nat) : kS → Option (List kS)
  | ((pc, ls, (2, q) :: st, G, c, s, Γ), γ) =>
    if q.1.toNat = sl then (match γ.find? (fun a => decide (a.1 = 0)) with
      | some (_, [len]) => some [((nx, ls, (0, len) :: st, G, c, s, Γ), γ)]
      | _ => none)
    else (s21 SO nx (pc, ls, (2, q) :: st, G, c, s, Γ)).map fun L => L.map fun S => (S, γ)
  | _ => none
theorem kAl_ok (hlen : kLenOk UP RO sl) (hsl : sl < SO.length) {K : kS} {L : List kS} (h : kAl SO sl nx K = some L) {ρ : List Int} {R : eR} (hRO : sRor ρ SO RO) (hD : kD (kGP UP) ρ K R) : ∃ K' ∈ L, ∃ ρ' R', ρ <+: ρ' ∧ e21 RO nx R = some R' ∧ kD (kGP UP) ρ' K' R' := by
  have hro := sRor_len hRO
  obtain ⟨⟨pc, ls, stk, G, c, s, Γ⟩, γ⟩ := K
  obtain ⟨pc', ls', st', G', c', s'⟩ := R
  obtain ⟨hM, ⟨h1, hL, hV, hH, h2, h3⟩, hg⟩ := hD
  simp only at hM h1 hL hV hH h2 h3 hg
  subst h1; subst h2; subst h3
  unfold kAl at h
  split at h
  · rename_i q st G1 c1 s1 Γ1 γ1 heq
    cases heq
    obtain ⟨r1, rfl, hV1⟩ := sVs_ref hV
    split at h
    · rename_i hsl2
      split at h
      · rename_i k len hf
        cases h
        have hm := List.mem_of_find?_eq_some hf
        have hk : k = 0 := by simpa using List.find?_some hf
        subst hk
        obtain ⟨zs, e1, e2⟩ := hg _ hm
        simp only [sVal] at e1
        split at e1
        · rename_i zl zs' el ez
          cases ez
          cases e1
          have e2' : UP 0 [zl] G' := e2
          obtain ⟨⟨nn, f⟩, g1, g2⟩ := hlen zl G' e2'
          simp only at g2
          subst g2
          refine ⟨_, List.mem_singleton.mpr rfl, ρ, (nx, ls', .int (Int32.ofNat nn) :: r1, G', c', s'), List.prefix_refl _, ?_, hM, ⟨rfl, hL, ⟨⟨_, el, by rw [sOfNat]⟩, hV1⟩, hH, rfl, rfl⟩, hg⟩
          simp only [e21]
          rw [if_pos (by rw [hsl2, hro]; exact hsl), hsl2, g1]
        · cases e1
      · cases h
    · obtain ⟨L0, hL0, rfl⟩ := Option.map_eq_some_iff.mp h
      exact kLift (t21 hRO hM ⟨rfl, hL, hV, hH, rfl, rfl⟩ hL0) hg (fun R' he => f21 he)
  · cases h
/-- steps that are seen at once to leave the heap as it is -/
def kFo (op : Nat) : Bool := sIf op 3 true (sIf op 16 true (sIf op 0 true (sIf op 4 true (sIf op 12 true (sIf op 13 true (sIf op 14 true false))))))
theorem kFo_q {op : Nat} (h : kFo op = true) : kQuiet op = true := by
  simp only [kFo, sIf_eq] at h
  by_cases h3 : op = 3
  · subst h3; rfl
  by_cases h16 : op = 16
  · subst h16; rfl
  by_cases h0 : op = 0
  · subst h0; rfl
  by_cases h4 : op = 4
  · subst h4; rfl
  by_cases h12 : op = 12
  · subst h12; rfl
  by_cases h13 : op = 13
  · subst h13; rfl
  by_cases h14 : op = 14
  · subst h14; rfl
  rw [if_neg h3, if_neg h16, if_neg h0, if_neg h4, if_neg h12, if_neg h13, if_neg h14] at h
  cases h
/-- one step -/
def kStep (SO : List (Nat × List sL)) (CL : List vw_C) (CT : Nat → Nat → FieldType) (ud : Nat → List Nat) (KW : sG → List kA → Nat → sL → sL → List kA) (KC : List kA → Nat → Nat → Int → Int → Int → List kA) (KL : sG → List kA → Nat → sL → sL → List kA) (LC : sG → List kA → Nat → Nat → sL → sL → sL → List kA) (IC : sG → List kA → Nat → Nat → Nat → Nat → sL → sL → sL → List kA) (sl : Nat) (md : Nat → Bool) (mL : Nat) (I : eI) (K : kS) : Option (List kS) :=
  @Bool.rec (fun _ => Option (List kS)) (
  sIf I.1 19 (kRd SO sl I.2.1 I.2.2.2.1 K) (
  sIf I.1 6 ((k6 I.2.1 I.2.2.2.1 K.1).map fun L => L.map fun S => (S, K.2)) (
  sIf I.1 20 (kWr SO CL ud KW KL md I.2.1 I.2.2.2.1 K) (
  sIf I.1 17 (kFl SO CT ud md I.2.1 I.2.2.2.1 I.2.2.2.2.1.toNat K) (
  sIf I.1 5 ((s5 mL I.2.1 I.2.2.1 I.2.2.2.2.1 K.1).map fun L => L.map fun S => (kNormL S, K.2)) (
  sIf I.1 8 ((k8 I.2.1 I.2.2.2.1 K.1).map fun L => L.map fun S => (kNormT S, K.2)) (
  sIf I.1 7 ((k7 I.2.1 I.2.2.2.1 K.1).map fun L => L.map fun S => (S, K.2)) (
  sIf I.1 31 (kCp SO ud KC LC IC md I.2.1 K) (
  sIf I.1 21 (kAl SO sl I.2.1 K) (
  if kQuiet I.1 = true then (sStep SO CL CT mL I K.1).map fun L => L.map fun S => (S, K.2)
  else (sStep SO CL CT mL I K.1).map fun L => L.map fun S => (S, K.2.filter (fun q => (kDp ud q.1).isEmpty))))))))))))
  ((sStep SO CL CT mL I K.1).map fun L => L.map fun S => (S, K.2)) (kFo I.1)
theorem kStep_ok (hU : ∀ k zs (H H' : List eE), (∀ j ∈ ud k, H'[j]? = H[j]?) → UP k zs H → UP k zs H') {KW : sG → List kA → Nat → sL → sL → List kA} (hKW : kWOk UP KW) {KC : List kA → Nat → Nat → Int → Int → Int → List kA} (hKC : kCOk UP KC) {KL : sG → List kA → Nat → sL → sL → List kA} (hKL : kWOkL UP KL) {LC : sG → List kA → Nat → Nat → sL → sL → sL → List kA} (hLC : kLOk UP LC) {IC : sG → List kA → Nat → Nat → Nat → Nat → sL → sL → sL → List kA} (hIC : kIOk UP IC) (hlen : kLenOk UP RO sl) (hse : kSeOk UP RO sl) (hsl : sl < SO.length) : kStepOk (kGP UP) SO RO CL CT (kStep SO CL CT ud KW KC KL LC IC sl) := by
  intro md mL I K L h ρ R hRO hD
  obtain ⟨op, nx, a, b, z, ws, sw⟩ := I
  have quiet : ∀ {L0 : List sR}, kQuiet op = true → sOK ρ L0 (eStep RO CL CT mL (op, nx, a, b, z, ws, sw) R) → L = L0.map (fun S => (S, K.2)) →
      ∃ K' ∈ L, ∃ ρ' R', ρ <+: ρ' ∧ eStep RO CL CT mL (op, nx, a, b, z, ws, sw) R = some R' ∧ kD (kGP UP) ρ' K' R' ∧ (∀ j, j < R.2.2.2.1.length → md j = false → R'.2.2.2.1[j]? = R.2.2.2.1[j]?) ∧ R.2.2.2.1.length ≤ R'.2.2.2.1.length := by
    intro L0 hq hok hL
    subst hL
    obtain ⟨K', h1, ρ', R', h2, h3, h4⟩ := kLift hok hD.2.2 (fun R' he => fQuiet he hq)
    have he := fQuiet h3 hq
    exact ⟨K', h1, ρ', R', h2, h3, h4, fun j _ _ => by rw [he], by rw [he]; exact Nat.le_refl _⟩
  unfold kStep at h
  simp only at h
  by_cases hfo : kFo op = true
  · rw [hfo] at h
    obtain ⟨L0, hL0, rfl⟩ := Option.map_eq_some_iff.mp h
    exact quiet (kFo_q hfo) (sStep_ok hRO hD.1 hD.2.1 hL0) rfl
  rw [Bool.eq_false_iff.mpr hfo] at h
  simp only [sIf_eq] at h
  by_cases o19 : op = 19
  · subst o19
    obtain ⟨K', h1, ρ', R', h2, h3, h4⟩ := kRd_ok hlen hse hsl h hRO hD
    have he := f19 h3
    exact ⟨K', h1, ρ', R', h2, h3, h4, fun j _ _ => by rw [he], by rw [he]; exact Nat.le_refl _⟩
  rw [if_neg o19] at h
  by_cases o6 : op = 6
  · subst o6
    obtain ⟨L0, hL0, rfl⟩ := Option.map_eq_some_iff.mp h
    exact quiet (by rfl) (k6_ok hD.1 hD.2.1 hL0) rfl
  rw [if_neg o6] at h
  by_cases o20 : op = 20
  · subst o20
    exact kWr_ok hU hKW hKL h hRO hD
  rw [if_neg o20] at h
  by_cases o17 : op = 17
  · subst o17
    exact kFl_ok hU h hRO hD
  rw [if_neg o17] at h
  by_cases o5 : op = 5
  · subst o5
    obtain ⟨L0, hL0, rfl⟩ := Option.map_eq_some_iff.mp h
    refine quiet (L0 := L0.map kNormL) (by rfl) (kNorm_all (f := kNormL) (fun ρ S R => kNormL_ok) (t5 hD.1 hD.2.1 hL0)) ?_
    rw [List.map_map]
    rfl
  rw [if_neg o5] at h
  by_cases o8 : op = 8
  · subst o8
    obtain ⟨L0, hL0, rfl⟩ := Option.map_eq_some_iff.mp h
    refine quiet (L0 := L0.map kNormT) (by rfl) (kNorm_all (f := kNormT) (fun ρ S R => kNormT_ok) (k8_ok hD.1 hD.2.1 hL0)) ?_
    rw [List.map_map]
    rfl
  rw [if_neg o8] at h
  by_cases o7 : op = 7
  · subst o7
    obtain ⟨L0, hL0, rfl⟩ := Option.map_eq_some_iff.mp h
    exact quiet (by rfl) (k7_ok hD.1 hD.2.1 hL0) rfl
  rw [if_neg o7] at h
  by_cases o31 : op = 31
  · subst o31
    exact kCp_ok hU hKC hLC hIC h hRO hD
  rw [if_neg o31] at h
  by_cases o21 : op = 21
  · subst o21
    obtain ⟨K', h1, ρ', R', h2, h3, h4⟩ := kAl_ok hlen hsl h hRO hD
    have he := f21 h3
    exact ⟨K', h1, ρ', R', h2, h3, h4, fun j _ _ => by rw [he], by rw [he]; exact Nat.le_refl _⟩
  rw [if_neg o21] at h
  split at h
  · rename_i hq
    obtain ⟨L0, hL0, rfl⟩ := Option.map_eq_some_iff.mp h
    exact quiet hq (sStep_ok hRO hD.1 hD.2.1 hL0) rfl
  rename_i hq
  obtain ⟨L0, hL0, rfl⟩ := Option.map_eq_some_iff.mp h
  obtain ⟨S', hS, ρ', R', hp, hM', he, hD'⟩ := sStep_ok hRO hD.1 hD.2.1 hL0
  have happ : ∃ t, R'.2.2.2.1 = R.2.2.2.1 ++ t := by
    by_cases o22 : op = 22
    · subst o22; exact f22 he
    by_cases o23 : op = 23
    · subst o23; exact f23 he
    by_cases o24 : op = 24
    · subst o24; exact f24 he
    by_cases o25 : op = 25
    · subst o25; exact f25 he
    exfalso
    apply hq
    simp [kQuiet, o17, o20, o31, o22, o23, o24, o25]
  obtain ⟨t, ht⟩ := happ
  refine ⟨_, List.mem_map.mpr ⟨S', hS, rfl⟩, ρ', R', hp, he, ⟨hM', hD', fun q hq' => ?_⟩, fun j hj _ => ?_, ?_⟩
  · obtain ⟨hq1, hq2⟩ := List.mem_filter.mp hq'
    obtain ⟨zs, e1, e2⟩ := hD.2.2 q hq1
    have hem := List.isEmpty_iff.mp hq2
    exact ⟨zs, sVal_mono hp e1, kGP_fr hU q.1 zs R.2.2.2.1 _ (fun j hj => by rw [hem] at hj; cases hj) e2⟩
  · rw [ht, List.getElem?_append_left hj]
  · rw [ht, List.length_append]
    omega
end KSTP
end
