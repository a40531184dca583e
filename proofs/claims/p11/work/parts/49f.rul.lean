/-! Consequences: the lines of a text, the copies, the walk of a line. -/
noncomputable section
theorem kWk_mv {A W A' W' : Nat → Int32} {s s' : Nat} : ∀ m : Nat, (∀ x, x < m → A' (s' + x) = A (s + x) ∧ W' (s' + x) = W (s + x)) → kWk A' W' s' m = kWk A W s m
  | 0, _ => rfl
  | m + 1, h => by
    have ih := kWk_mv m (fun x h1 => h x (by omega))
    simp only [kWk]
    rw [ih, (h m (by omega)).1, (h m (by omega)).2]
theorem kLn_mv {A W T E A' W' T' E' : Nat → Int32} {off base off' base' : Nat} : ∀ (m L : Nat), (∀ x, x < L → A' (base' + x) = A (base + x) ∧ W' (base' + x) = W (base + x)) → (∀ x, x < m → T' (off' + x) = T (off + x) ∧ E' (off' + x) = E (off + x)) → kLn A W T E off base m L → kLn A' W' T' E' off' base' m L
  | 0, _, _, _, h => h
  | m + 1, L, hA, hT, h => by
    obtain ⟨f, t, h1, h2, h3, h4, h5, h6, h7⟩ := h
    have hs : ∀ a b, a ≤ b → b ≤ L → kSg A W (base + a) (base + b) → kSg A' W' (base' + a) (base' + b) := fun a b hab hb q => by
      obtain ⟨q1, n, q2⟩ := q
      refine ⟨by omega, n, ?_⟩
      rw [show base' + b - (base' + a) = b - a by omega, kWk_mv (s := base + a) (b - a) (fun x hx => by
        have := hA (a + x) (by omega)
        rwa [← Nat.add_assoc, ← Nat.add_assoc] at this)]
      rwa [show base + b - (base + a) = b - a by omega] at q2
    exact ⟨f, t, kLn_mv m f (fun x hx => hA x (by omega)) (fun x hx => hT x (by omega)) h1, by rw [(hT m (by omega)).1]; exact h2, by rw [(hT m (by omega)).2]; exact h3, h4, h5, h6.imp id (hs f t h4 h5), hs t L h5 (Nat.le_refl _) h7⟩
theorem kWk_pre {A W : Nat → Int32} {s : Nat} : ∀ (m l n : Nat), kWk A W s m = some n → l ≤ m → ∃ n', kWk A W s l = some n'
  | m, l, n, h, hl => by
    by_cases e : l = m
    · subst e; exact ⟨n, h⟩
    · cases m with
      | zero => omega
      | succ m =>
        simp only [kWk] at h
        split at h
        · rename_i n1 h1
          exact kWk_pre m l n1 h1 (by omega)
        · cases h
theorem kOp_le {a w : Int} {n n' : Nat} (h : kOp a w n = some n') : n' ≤ n + 1 := by
  unfold kOp at h
  repeat' split at h
  all_goals first | (cases h; omega) | cases h
theorem kWk_len {A W : Nat → Int32} {s : Nat} : ∀ (m n : Nat), kWk A W s m = some n → n ≤ m
  | 0, n, h => by cases h; exact Nat.le_refl _
  | m + 1, n, h => by
    simp only [kWk] at h
    split at h
    · rename_i n1 h1
      have := kWk_len m n1 h1
      have := kOp_le h
      omega
    · cases h
section KRUM
variable {RO : List (Nat × (Nat → Int32))}
/-- one line more of the new text -/
def kR6 (K : kS) : Option kWs := match K with
  | ((_, _, _, _, _, _, Γ), γ) => match kFa γ 6 (fun _ => true) with
    | some [m, f] => (match kFindEl γ 68 (sAdd m (sC 61)), kFindEl γ 69 (sAdd m (sC 61)) with
      | some t, some L => if ((decide (t = f) || kHas γ 5 [sAdd f (sC 130), sAdd t (sC 130)]) && (kHas γ 5 [sAdd t (sC 130), sAdd L (sC 130)] && (sWf Γ t 0 2147483647 && sWf Γ L 0 2147483647))) = true then some [([(6, [sAdd m (sC 1), L])], [])] else none
      | _, _ => none)
    | _ => none
theorem kHasSG {ρ : List Int} {γ : List kA} {H : List eE} {f g : sL} {zf zg : Int} (hg : kGh (kGP (kUP RO)) ρ γ H) (h : kHas γ 5 [f, g] = true) (ef : sEv ρ f = some zf) (eg : sEv ρ g = some zg) : kSG zf zg H := by
  obtain ⟨zs, e1, e2⟩ := kHas_ok hg h (by decide)
  obtain ⟨a, b, rfl, e3, e4⟩ := sVal_2 e1
  cases e3.symm.trans ef
  cases e4.symm.trans eg
  obtain ⟨s, e, he, h2⟩ : ∃ s e, [zf, zg] = [s, e] ∧ kSG s e H := e2
  cases he
  exact h2
theorem kAW_u {A W A' W' : Nat → Int32} {H : List eE} (h : kAW A W H) (h' : kAW A' W' H) : A' = A ∧ W' = W := by
  obtain ⟨h1, h2⟩ := h
  obtain ⟨h3, h4⟩ := h'
  rw [h1] at h3
  rw [h2] at h4
  cases h3; cases h4
  exact ⟨rfl, rfl⟩
theorem kTE_u {A W A' W' : Nat → Int32} {H : List eE} (h : kTE A W H) (h' : kTE A' W' H) : A' = A ∧ W' = W := by
  obtain ⟨h1, h2⟩ := h
  obtain ⟨h3, h4⟩ := h'
  rw [h1] at h3
  rw [h2] at h4
  cases h3; cases h4
  exact ⟨rfl, rfl⟩
theorem kR6_ok : kRok RO kR6 := by
  intro K ws h ρ R hD
  obtain ⟨⟨pc, ls, st, G, c, s0, Γ⟩, γ⟩ := K
  have hM : sMo ρ Γ := hD.1
  have hg : kGh (kGP (kUP RO)) ρ γ R.2.2.2.1 := hD.2.2
  simp only [kR6] at h
  split at h
  · rename_i m f hfa
    split at h
    · rename_i t L ht hL
      split at h
      · rename_i hc
        cases h
        simp only [Bool.and_eq_true, Bool.or_eq_true, decide_eq_true_eq] at hc
        obtain ⟨c1, c2, c3, c4⟩ := hc
        obtain ⟨-, zs, e1, e2⟩ := kFa_ok hg hfa (by decide)
        obtain ⟨zm, zf, rfl, em, ef⟩ := sVal_2 e1
        obtain ⟨m1, f1, he, A, W, T, E, hAW, hTE, m', f', rfl, rfl, r3⟩ : ∃ m L, [zm, zf] = [m, L] ∧ kLN m L R.2.2.2.1 := e2
        cases he
        have ei := sEv_add em (sEv_C 61)
        obtain ⟨zt, et, kt⟩ := kFindEl_ok hg ht ei
        obtain ⟨zL, eL, kL⟩ := kFindEl_ok hg hL ei
        obtain ⟨_, q1, t1, t2⟩ := sWf_has hM c3
        cases et.symm.trans q1
        obtain ⟨_, q1, l1, l2⟩ := sWf_has hM c4
        cases eL.symm.trans q1
        obtain ⟨-, kT⟩ := kElA kt hTE.1
        obtain ⟨-, kE⟩ := kElA kL hTE.2
        have hidx : ((m' : Int) + 61).toNat = 61 + m' := by omega
        rw [hidx] at kT kE
        obtain ⟨t', rfl⟩ : ∃ k : Nat, zt = (k : Int) := ⟨zt.toNat, by omega⟩
        obtain ⟨L', rfl⟩ : ∃ k : Nat, zL = (k : Int) := ⟨zL.toNat, by omega⟩
        have hT : (T (61 + m')).toInt = (t' : Int) := by rw [kT, sTo32 (by omega) (by omega)]
        have hE : (E (61 + m')).toInt = (L' : Int) := by rw [kE, sTo32 (by omega) (by omega)]
        have sg2 : kSg A W (130 + t') (130 + L') := by
          obtain ⟨A2, W2, h1, s', e', h2, h3, h4⟩ := kHasSG hg c2 (sEv_add et (sEv_C 130)) (sEv_add eL (sEv_C 130))
          obtain ⟨rfl, rfl⟩ := kAW_u hAW h1
          obtain rfl : s' = 130 + t' := by omega
          obtain rfl : e' = 130 + L' := by omega
          exact h4
        have sg1 : f' ≤ t' ∧ (t' = f' ∨ kSg A W (130 + f') (130 + t')) := by
          rcases c1 with c1 | c1
          · subst c1
            cases et.symm.trans ef
            exact ⟨Nat.le_refl _, Or.inl rfl⟩
          · obtain ⟨A2, W2, h1, s', e', h2, h3, h4⟩ := kHasSG hg c1 (sEv_add ef (sEv_C 130)) (sEv_add et (sEv_C 130))
            obtain ⟨rfl, rfl⟩ := kAW_u hAW h1
            obtain rfl : s' = 130 + f' := by omega
            obtain rfl : e' = 130 + t' := by omega
            exact ⟨by have := h4.1; omega, Or.inr h4⟩
        refine ⟨_, List.mem_singleton.mpr rfl, kAt1 (zs := [(m' : Int) + 1, (L' : Int)]) (by decide) (by simp only [sVal, sEv_add em (sEv_C 1), eL]) ⟨_, _, rfl, A, W, T, E, hAW, hTE, m' + 1, L', by omega, rfl, f', t', r3, hT, hE, sg1.1, by have := sg2.1; omega, sg1.2, sg2⟩, fun b hb => by cases hb⟩
      · cases h
    · cases h
  · cases h
/-- one step more is copied; one line more -/
def kR9 (pr c1 c2 : Nat) (o : Int) (K : kS) : Option kWs := match K.2 with
  | γ => match kFa γ pr (fun _ => true) with
    | some [k] => if (decide (kFindEl γ c1 k = kFindEl γ c1 (sAdd k (sC o))) && ((kFindEl γ c1 k).isSome && (decide (kFindEl γ c2 k = kFindEl γ c2 (sAdd k (sC o))) && (kFindEl γ c2 k).isSome))) = true then some [([(pr, [sAdd k (sC 1)])], [])] else none
    | _ => none
theorem kR9_two {ρ : List Int} {γ : List kA} {H : List eE} {c : Nat} {k : sL} {zk o : Int} {ty : FieldType} {n : Nat} {f : Nat → Int32} (hg : kGh (kGP (kUP RO)) ρ γ H) (ek : sEv ρ k = some zk) (h1 : kFindEl γ c k = kFindEl γ c (sAdd k (sC o))) (h2 : (kFindEl γ c k).isSome = true) (hf : H[c]? = some (.inl (ty, n, .inl f))) : 0 ≤ zk ∧ f zk.toNat = f (zk + o).toNat := by
  obtain ⟨a, ha⟩ := Option.isSome_iff_exists.mp h2
  rw [ha] at h1
  obtain ⟨z1, e1, k1⟩ := kFindEl_ok hg ha ek
  obtain ⟨z2, e2, k2⟩ := kFindEl_ok hg h1.symm (sEv_add ek (sEv_C o))
  cases e1.symm.trans e2
  obtain ⟨q1, q2⟩ := kElA k1 hf
  obtain ⟨-, q3⟩ := kElA k2 hf
  exact ⟨q1, q2.trans q3.symm⟩
theorem kR9a : kRok RO (kR9 8 65 66 130) := by
  intro K ws h ρ R hD
  simp only [kR9] at h
  split at h
  · rename_i k hfa
    split at h
    · rename_i hc
      cases h
      simp only [Bool.and_eq_true, decide_eq_true_eq] at hc
      obtain ⟨c1, c2, c3, c4⟩ := hc
      obtain ⟨-, zs, e1, e2⟩ := kFa_ok hD.2.2 hfa (by decide)
      obtain ⟨zk, rfl, ek⟩ := sVal_1 e1
      obtain ⟨k1, he, A, W, hAW, r1, r2⟩ : ∃ k, [zk] = [k] ∧ kCP k R.2.2.2.1 := e2
      cases he
      obtain ⟨q1, q2⟩ := kR9_two hD.2.2 ek c1 c2 hAW.1
      obtain ⟨-, q3⟩ := kR9_two hD.2.2 ek c3 c4 hAW.2
      refine ⟨_, List.mem_singleton.mpr rfl, kAt1 (zs := [zk + 1]) (by decide) (by simp only [sVal, sEv_add ek (sEv_C 1)]) ⟨zk + 1, rfl, A, W, hAW, by omega, fun x hx => ?_⟩, fun b hb => by cases hb⟩
      by_cases hxk : (x : Int) < zk
      · exact r2 x hxk
      · have hxe : zk.toNat = x := by omega
        have hxo : (zk + 130).toNat = 130 + x := by omega
        rw [hxe, hxo] at q2 q3
        exact ⟨q2, q3⟩
    · cases h
  · cases h
theorem kR9b : kRok RO (kR9 9 68 69 61) := by
  intro K ws h ρ R hD
  simp only [kR9] at h
  split at h
  · rename_i k hfa
    split at h
    · rename_i hc
      cases h
      simp only [Bool.and_eq_true, decide_eq_true_eq] at hc
      obtain ⟨c1, c2, c3, c4⟩ := hc
      obtain ⟨-, zs, e1, e2⟩ := kFa_ok hD.2.2 hfa (by decide)
      obtain ⟨zk, rfl, ek⟩ := sVal_1 e1
      obtain ⟨k1, he, A, W, hAW, r1, r2⟩ : ∃ k, [zk] = [k] ∧ kCT k R.2.2.2.1 := e2
      cases he
      obtain ⟨q1, q2⟩ := kR9_two hD.2.2 ek c1 c2 hAW.1
      obtain ⟨-, q3⟩ := kR9_two hD.2.2 ek c3 c4 hAW.2
      refine ⟨_, List.mem_singleton.mpr rfl, kAt1 (zs := [zk + 1]) (by decide) (by simp only [sVal, sEv_add ek (sEv_C 1)]) ⟨zk + 1, rfl, A, W, hAW, by omega, fun x hx => ?_⟩, fun b hb => by cases hb⟩
      by_cases hxk : (x : Int) < zk
      · exact r2 x hxk
      · have hxe : zk.toNat = x := by omega
        have hxo : (zk + 61).toNat = 61 + x := by omega
        rw [hxe, hxo] at q2 q3
        exact ⟨q2, q3⟩
    · cases h
  · cases h
/-- copies up to a number that is no greater -/
def kR15 (j z : Nat) (K : kS) : Option kWs := match kFa K.2 8 (fun _ => true), kFf K.1.2.2.2.1 j z with
  | some [k], some f => if (sNN K.1.2.2.2.2.2.2 (sSub k f) && (sNN K.1.2.2.2.2.2.2 f && (sIv K.1.2.2.2.2.2.2.1 f).isSome)) = true then some [([(8, [f])], [])] else none
  | _, _ => none
theorem kR15_ok (j z : Nat) : kRok RO (kR15 j z) := by
  intro K ws h ρ R hD
  unfold kR15 at h
  split at h
  · rename_i k f hfa hf
    split at h
    · rename_i hc
      cases h
      simp only [Bool.and_eq_true] at hc
      obtain ⟨c1, c2, c3⟩ := hc
      obtain ⟨-, zs, e1, e2⟩ := kFa_ok hD.2.2 hfa (by decide)
      obtain ⟨zk, rfl, ek⟩ := sVal_1 e1
      obtain ⟨k1, he, A, W, hAW, r1, r2⟩ : ∃ k, [zk] = [k] ∧ kCP k R.2.2.2.1 := e2
      cases he
      obtain ⟨i, hi⟩ := Option.isSome_iff_exists.mp c3
      obtain ⟨zf, ef⟩ := sIv_has hD.1.1 hi
      have q1 := sNN_ok hD.1 (sEv_sub ek ef) c1
      have q2 := sNN_ok hD.1 ef c2
      exact ⟨_, List.mem_singleton.mpr rfl, kAt1 (zs := [zf]) (by decide) (by simp only [sVal, ef]) ⟨zf, rfl, A, W, hAW, q2, fun x hx => r2 x (by omega)⟩, fun b hb => by cases hb⟩
    · cases h
  · cases h
/-- what stands at the first place of the number of lines -/
def kM0 (G : List sE) : Option sL := match (G[67]? : Option sE) with
  | some (.inl (ty, n, _, ov)) => if ty = .int ∧ n = 2 then sLk ov 0 else none
  | _ => none
theorem kM0_ok {ρ : List Int} {G : List sE} {H : List eE} {f : sL} (hH : sHp ρ G H) (h : kM0 G = some f) : ∃ M z, kLM M H ∧ sEv ρ f = some z ∧ M 0 = Int32.ofInt z := by
  unfold kM0 at h
  split at h
  · rename_i ty n b ov hg
    split at h
    · rename_i hc
      obtain ⟨rfl, rfl⟩ := hc
      obtain ⟨y, hy, hxy⟩ := sHp_get hH hg
      rcases y with ⟨ty', n', arr⟩ | y
      · obtain ⟨rfl, rfl, harr⟩ := hxy
        rcases arr with M | M | M
        · have h0 := harr.2 0 (by decide)
          rw [h] at h0
          obtain ⟨z, e1, e2⟩ := h0
          exact ⟨M, z, hy, e1, e2⟩
        · cases harr.1
        · cases harr.1
      · exact hxy.elim
    · cases h
  · cases h
/-- the new text is the law -/
def kR7 (K : kS) : Option kWs := match K with
  | ((_, _, _, G, _, _, Γ), γ) => match kFa γ 6 (fun _ => true), kFa γ 9 (fun _ => true), kM0 G with
    | some [m, L], some [k], some f => if (kHas γ 8 [L] && (sNN Γ (sSub k m) && (sNN Γ (sSub f m) && (sNN Γ (sSub m f) && (sWf Γ L 0 130 && sWf Γ m 0 61))))) = true then some [([(7, [])], [])] else none
    | _, _, _ => none
theorem kR7_ok : kRok RO kR7 := by
  intro K ws h ρ R hD
  obtain ⟨⟨pc, ls, st, G, c, s0, Γ⟩, γ⟩ := K
  have hM : sMo ρ Γ := hD.1
  have hg : kGh (kGP (kUP RO)) ρ γ R.2.2.2.1 := hD.2.2
  have hH : sHp ρ G R.2.2.2.1 := hD.2.1.2.2.2.1
  simp only [kR7] at h
  split at h
  · rename_i m L k f hfa hfk hf
    split at h
    · rename_i hc
      cases h
      simp only [Bool.and_eq_true] at hc
      obtain ⟨c1, c2, c3, c4, c5, c6⟩ := hc
      obtain ⟨-, zs, e1, e2⟩ := kFa_ok hg hfa (by decide)
      obtain ⟨zm, zL, rfl, em, eL⟩ := sVal_2 e1
      obtain ⟨m1, f1, he, A, W, T, E, hAW, hTE, m', L', rfl, rfl, r3⟩ : ∃ m L, [zm, zL] = [m, L] ∧ kLN m L R.2.2.2.1 := e2
      cases he
      obtain ⟨-, zs, e1, e2⟩ := kFa_ok hg hfk (by decide)
      obtain ⟨zk, rfl, ek⟩ := sVal_1 e1
      obtain ⟨k1, he, T2, E2, hTE2, r4, r5⟩ : ∃ k, [zk] = [k] ∧ kCT k R.2.2.2.1 := e2
      cases he
      obtain ⟨rfl, rfl⟩ := kTE_u hTE hTE2
      obtain ⟨zs, e1, e2⟩ := kHas_ok hg c1 (by decide)
      obtain ⟨zL2, rfl, eL2⟩ := sVal_1 e1
      cases eL.symm.trans eL2
      obtain ⟨k1, he, A2, W2, hAW2, r6, r7⟩ : ∃ k, [(L' : Int)] = [k] ∧ kCP k R.2.2.2.1 := e2
      cases he
      obtain ⟨rfl, rfl⟩ := kAW_u hAW hAW2
      obtain ⟨M, zf, hLM, ef, hM0⟩ := kM0_ok hH hf
      have q1 := sNN_ok hM (sEv_sub ek em) c2
      have q2 := sNN_ok hM (sEv_sub ef em) c3
      have q3 := sNN_ok hM (sEv_sub em ef) c4
      obtain ⟨_, q4, q5, q6⟩ := sWf_has hM c5
      cases eL.symm.trans q4
      obtain ⟨_, q4, q7, q8⟩ := sWf_has hM c6
      cases em.symm.trans q4
      refine ⟨_, List.mem_singleton.mpr rfl, kAt1 (zs := []) (by decide) rfl ?_, fun b hb => by cases hb⟩
      refine ⟨A2, W2, T2, E2, M, hAW, hTE, hLM, m', L', by rw [hM0, sTo32 (by omega) (by omega)]; omega, by omega, by omega, ?_⟩
      exact kLn_mv m' L' (fun x hx => by
        have := r7 x (by omega)
        rw [Nat.zero_add]
        exact this) (fun x hx => by
        have := r5 x (by omega)
        rw [Nat.zero_add]
        exact this) r3
    · cases h
  · cases h
/-- a line of the law -/
def kR10 (K : kS) : Option kWs := match K with
  | ((_, _, _, G, _, _, Γ), γ) => match kFa γ 10 (fun fs => match fs with
      | [l, _] => (kFindEl γ 68 l).isSome
      | _ => false), kM0 G with
    | some [l, f], some m => (match kFindEl γ 68 l with
      | some t => if (kHas γ 7 [] && (sNN Γ (sSub (sSub m l) (sC 1)) && (sI32 Γ.1 t && sI32 Γ.1 m))) = true then (match kFindEl γ 69 l with
          | some e => if sI32 Γ.1 e = true then some [([(5, [f, t]), (5, [t, e]), (10, [sAdd l (sC 1), e])], [(sSub t f, 0, 2147483647), (f, 0, 130), (sSub e t, 0, 2147483647), (t, 0, 130), (e, 0, 130)])] else none
          | none => some [([(5, [f, t])], [(sSub t f, 0, 2147483647), (f, 0, 130), (t, 0, 130)])]) else none
      | none => none)
    | _, _ => none
theorem kGh_cons {ρ : List Int} {H : List eE} {a : kA} {as : List kA} (h1 : kGh (kGP (kUP RO)) ρ [a] H) (h2 : kGh (kGP (kUP RO)) ρ as H) : kGh (kGP (kUP RO)) ρ (a :: as) H := fun q hq => by
  rcases List.mem_cons.mp hq with rfl | hq
  · exact h1 q (List.mem_singleton.mpr rfl)
  · exact h2 q hq
theorem kR10_ok : kRok RO kR10 := by
  intro K ws h ρ R hD
  obtain ⟨⟨pc, ls, st, G, c, s0, Γ⟩, γ⟩ := K
  have hM : sMo ρ Γ := hD.1
  have hg : kGh (kGP (kUP RO)) ρ γ R.2.2.2.1 := hD.2.2
  have hH : sHp ρ G R.2.2.2.1 := hD.2.1.2.2.2.1
  simp only [kR10] at h
  split at h
  · rename_i l f m hfa hm
    split at h
    · rename_i t ht
      split at h
      · rename_i hc
        simp only [Bool.and_eq_true] at hc
        obtain ⟨c1, c2, c3, c4⟩ := hc
        obtain ⟨-, zs, e1, e2⟩ := kFa_ok hg hfa (by decide)
        obtain ⟨zl, zf, rfl, el, ef⟩ := sVal_2 e1
        obtain ⟨l1, f1, he, A, W, T, E, hAW, hTE, l', f', rfl, rfl, r3⟩ : ∃ l f, [zl, zf] = [l, f] ∧ kFL l f R.2.2.2.1 := e2
        cases he
        obtain ⟨zs, e1, e2⟩ := kHas_ok hg c1 (by decide)
        obtain ⟨A2, W2, T2, E2, M, hAW2, hTE2, hLM, m', L', m1, m2, m3, r4⟩ : kPG R.2.2.2.1 := e2
        obtain ⟨rfl, rfl⟩ := kAW_u hAW hAW2
        obtain ⟨rfl, rfl⟩ := kTE_u hTE hTE2
        obtain ⟨M2, zm, hLM2, em, hM0⟩ := kM0_ok hH hm
        have hMM : M2 = M := by unfold kLM at hLM hLM2; rw [hLM] at hLM2; cases hLM2; rfl
        subst hMM
        have rm := sWi_ok hM.1 em c4
        rw [hM0, sTo32 rm.1 rm.2] at m1
        have q1 := sNN_ok hM (sEv_sub (sEv_sub em el) (sEv_C 1)) c2
        obtain ⟨zt, et, kt⟩ := kFindEl_ok hg ht el
        have rt := sWi_ok hM.1 et c3
        obtain ⟨g, g1, g2⟩ := kLn_le m' L' (l' + 1) (by omega) r4
        obtain ⟨f2, t', a1, a2, a3, a4, a5, a6, a7⟩ := g2
        obtain rfl := kLn_fun l' f' f2 r3 a1
        obtain ⟨-, kT⟩ := kElA kt hTE.1
        have hT : zt = (t' : Int) := by
          rw [Nat.zero_add] at a2
          rw [show ((l' : Int)).toNat = l' by omega] at kT
          rw [kT, sTo32 rt.1 rt.2] at a2
          exact a2
        subst hT
        have sg1 : kSG (f' : Int) (t' : Int) R.2.2.2.1 := by
          refine ⟨A2, W2, hAW, f', t', rfl, rfl, ?_⟩
          rcases a6 with rfl | a6
          · exact ⟨Nat.le_refl _, 0, by rw [Nat.sub_self]; rfl⟩
          · rw [Nat.zero_add, Nat.zero_add] at a6
            exact a6
        have at1 := kAt1 (RO := RO) (ρ := ρ) (k := 5) (fs := [f, t]) (zs := [(f' : Int), (t' : Int)]) (by decide) (by simp only [sVal, ef, et]) ⟨_, _, rfl, sg1⟩
        have ett := sEv_sub et ef
        split at h
        · rename_i e hee
          split at h
          · rename_i c5
            cases h
            obtain ⟨ze, ee, ke⟩ := kFindEl_ok hg hee el
            have re := sWi_ok hM.1 ee c5
            obtain ⟨-, kE⟩ := kElA ke hTE.2
            have hE : ze = (g : Int) := by
              rw [Nat.zero_add] at a3
              rw [show ((l' : Int)).toNat = l' by omega] at kE
              rw [kE, sTo32 re.1 re.2] at a3
              exact a3
            subst hE
            have sg2 : kSG (t' : Int) (g : Int) R.2.2.2.1 := by
              rw [Nat.zero_add, Nat.zero_add] at a7
              exact ⟨A2, W2, hAW, t', g, rfl, rfl, a7⟩
            have at2 := kAt1 (RO := RO) (ρ := ρ) (k := 5) (fs := [t, e]) (zs := [(t' : Int), (g : Int)]) (by decide) (by simp only [sVal, et, ee]) ⟨_, _, rfl, sg2⟩
            have at3 := kAt1 (RO := RO) (ρ := ρ) (k := 10) (fs := [sAdd l (sC 1), e]) (zs := [(l' : Int) + 1, (g : Int)]) (H := R.2.2.2.1) (by decide) (by simp only [sVal, sEv_add el (sEv_C 1), ee]) ⟨_, _, rfl, A2, W2, T2, E2, hAW, hTE, l' + 1, g, by omega, rfl, f', t', a1, a2, a3, a4, a5, a6, a7⟩
            refine ⟨_, List.mem_singleton.mpr rfl, kGh_cons at1 (kGh_cons at2 at3), fun b hb => ?_⟩
            simp only [List.mem_cons, List.not_mem_nil, or_false] at hb
            rcases hb with rfl | rfl | rfl | rfl | rfl
            · exact ⟨_, ett, by simp only; omega, by simp only; omega⟩
            · exact ⟨_, ef, by simp only; omega, by simp only; omega⟩
            · exact ⟨_, sEv_sub ee et, by simp only; omega, by simp only; omega⟩
            · exact ⟨_, et, by simp only; omega, by simp only; omega⟩
            · exact ⟨_, ee, by simp only; omega, by simp only; omega⟩
          · cases h
        · cases h
          refine ⟨_, List.mem_singleton.mpr rfl, at1, fun b hb => ?_⟩
          simp only [List.mem_cons, List.not_mem_nil, or_false] at hb
          rcases hb with rfl | rfl | rfl
          · exact ⟨_, ett, by simp only; omega, by simp only; omega⟩
          · exact ⟨_, ef, by simp only; omega, by simp only; omega⟩
          · exact ⟨_, et, by simp only; omega, by simp only; omega⟩
      · cases h
    · cases h
  · cases h
/-- what a step within a stretch may be -/
def kR11 (i : Nat) (K : kS) : Option kWs := match K with
  | ((_, ls, _, _, _, _, Γ), γ) => match kLf ls i with
    | some k => (match kFa γ 4 (fun fs => match fs with
        | [_, k', _] => decide (k' = k)
        | _ => false), kFindEl γ 65 k with
      | some [s, k', n], some a => (match kFa γ 5 (fun fs => match fs with
          | [s', e] => decide (s' = s) && sNN Γ (sSub (sSub e k) (sC 1))
          | _ => false) with
        | some [s', e] => if (decide (k' = k ∧ s' = s) && (sI32 Γ.1 a && (sI32 Γ.1 k && sNN Γ (sSub (sSub e k) (sC 1))))) = true then some [([], [(sSub (sSub k s) n, 0, 2147483647), (a, 1, 1)]), ([], [(sSub (sSub k s) n, 0, 2147483647), (a, 2, 2)]), ([], [(sSub (sSub k s) n, 0, 2147483647), (a, 3, 4), (sSub n (sC 1), 0, 2147483647)]), ([], [(sSub (sSub k s) n, 0, 2147483647), (a, -2147483648, 0), (sSub n (sC 2), 0, 2147483647)]), ([], [(sSub (sSub k s) n, 0, 2147483647), (a, 5, 2147483647), (sSub n (sC 2), 0, 2147483647)])] else none
        | _ => none)
      | _, _ => none)
    | none => none
theorem kStepOf {A W : Nat → Int32} {s m n e : Nat} (h1 : kWk A W s m = some n) (h2 : kSg A W s e) (h3 : s + m < e) : ∃ n', kOp (A (s + m)).toInt (W (s + m)).toInt n = some n' := by
  obtain ⟨h4, n2, h5⟩ := h2
  obtain ⟨n3, h6⟩ := kWk_pre (e - s) (m + 1) n2 h5 (by omega)
  simp only [kWk, h1] at h6
  exact ⟨n3, h6⟩
theorem kR11_ok (i : Nat) : kRok RO (kR11 i) := by
  intro K ws h ρ R hD
  obtain ⟨⟨pc, ls, st, G, c, s0, Γ⟩, γ⟩ := K
  have hM : sMo ρ Γ := hD.1
  have hg : kGh (kGP (kUP RO)) ρ γ R.2.2.2.1 := hD.2.2
  simp only [kR11] at h
  split at h
  · rename_i k hk
    split at h
    · rename_i s k' n a hfa ha
      split at h
      · rename_i s' e hfe
        split at h
        · rename_i hc
          cases h
          simp only [Bool.and_eq_true, decide_eq_true_eq] at hc
          obtain ⟨⟨rfl, rfl⟩, c1, ck, c2⟩ := hc
          obtain ⟨-, zs, e1, e2⟩ := kFa_ok hg hfa (by decide)
          obtain ⟨zs', zk, zn, rfl, es, ek, en⟩ := sVal_3 e1
          obtain ⟨s1, k1, n1, he, A, W, hAW, sn, m, nn, rfl, rfl, rfl, r4⟩ : ∃ s k n, [zs', zk, zn] = [s, k, n] ∧ kPW s k n R.2.2.2.1 := e2
          cases he
          obtain ⟨-, zs, e1, e2⟩ := kFa_ok hg hfe (by decide)
          obtain ⟨y1, ze, rfl, es2, ee⟩ := sVal_2 e1
          cases es.symm.trans es2
          obtain ⟨s1, e3, he, A2, W2, hAW2, s2, en', q1, rfl, q2⟩ : ∃ s e, [(sn : Int), ze] = [s, e] ∧ kSG s e R.2.2.2.1 := e2
          cases he
          obtain ⟨rfl, rfl⟩ := kAW_u hAW hAW2
          obtain rfl : s2 = sn := by omega
          have q3 := sNN_ok hM (sEv_sub (sEv_sub ee ek) (sEv_C 1)) c2
          obtain ⟨za, ea, ka⟩ := kFindEl_ok hg ha ek
          have ra := sWi_ok hM.1 ea c1
          obtain ⟨-, kA'⟩ := kElA ka hAW.1
          rw [show ((s2 + m : Nat) : Int).toNat = s2 + m by omega] at kA'
          have eA : (A2 (s2 + m)).toInt = za := by rw [kA', sTo32 ra.1 ra.2]
          obtain ⟨n', hop⟩ := kStepOf r4 q2 (by omega)
          rw [eA] at hop
          have hlen := kWk_len m nn r4
          have rk := sWi_ok hM.1 ek ck
          have hks := sEv_sub (sEv_sub ek es) en
          have b1 : ∃ z, sEv ρ (sSub (sSub k' s') n) = some z ∧ (0 : Int) ≤ z ∧ z ≤ 2147483647 := ⟨_, hks, by omega, by omega⟩
          have none_ : kGh (kGP (kUP RO)) ρ [] R.2.2.2.1 := fun q hq => by cases hq
          have en1 := sEv_sub en (sEv_C 1)
          have en2 := sEv_sub en (sEv_C 2)
          unfold kOp at hop
          by_cases z1 : za = 1
          · refine ⟨_, List.mem_cons_self, none_, fun b hb => ?_⟩
            simp only [List.mem_cons, List.not_mem_nil, or_false] at hb
            rcases hb with rfl | rfl
            · exact b1
            · exact ⟨za, ea, by simp only; omega, by simp only; omega⟩
          rw [if_neg z1] at hop
          by_cases z2 : za = 2
          · refine ⟨_, List.mem_cons_of_mem _ List.mem_cons_self, none_, fun b hb => ?_⟩
            simp only [List.mem_cons, List.not_mem_nil, or_false] at hb
            rcases hb with rfl | rfl
            · exact b1
            · exact ⟨za, ea, by simp only; omega, by simp only; omega⟩
          rw [if_neg z2] at hop
          by_cases z3 : za = 3 ∨ za = 4
          · rw [if_pos z3] at hop
            have hn1 : 1 ≤ nn := by
              split at hop
              · assumption
              · cases hop
            refine ⟨_, List.mem_cons_of_mem _ (List.mem_cons_of_mem _ List.mem_cons_self), none_, fun b hb => ?_⟩
            simp only [List.mem_cons, List.not_mem_nil, or_false] at hb
            rcases hb with rfl | rfl | rfl
            · exact b1
            · exact ⟨za, ea, by simp only; omega, by simp only; omega⟩
            · exact ⟨_, en1, by simp only; omega, by simp only; omega⟩
          rw [if_neg z3] at hop
          have hn2 : 2 ≤ nn := by
            split at hop
            · assumption
            · cases hop
          by_cases z4 : za ≤ 0
          · refine ⟨_, List.mem_cons_of_mem _ (List.mem_cons_of_mem _ (List.mem_cons_of_mem _ List.mem_cons_self)), none_, fun b hb => ?_⟩
            simp only [List.mem_cons, List.not_mem_nil, or_false] at hb
            rcases hb with rfl | rfl | rfl
            · exact b1
            · exact ⟨za, ea, by simp only; omega, by simp only; omega⟩
            · exact ⟨_, en2, by simp only; omega, by simp only; omega⟩
          · refine ⟨_, List.mem_cons_of_mem _ (List.mem_cons_of_mem _ (List.mem_cons_of_mem _ (List.mem_cons_of_mem _ List.mem_cons_self))), none_, fun b hb => ?_⟩
            simp only [List.mem_cons, List.not_mem_nil, or_false] at hb
            rcases hb with rfl | rfl | rfl
            · exact b1
            · exact ⟨za, ea, by simp only; omega, by simp only; omega⟩
            · exact ⟨_, en2, by simp only; omega, by simp only; omega⟩
        · cases h
      · cases h
    · cases h
  · cases h
/-- the name that a step of a stretch gives -/
def kR12 (i : Nat) (K : kS) : Option kWs := match K with
  | ((_, ls, _, _, _, _, Γ), γ) => match kLf ls i with
    | some k => (match kFa γ 4 (fun fs => match fs with
        | [_, k', _] => decide (k' = k)
        | _ => false), kFindEl γ 65 k, kFindEl γ 66 k with
      | some [s, k', _], some a, some w => (match kFa γ 5 (fun fs => match fs with
          | [s', e] => decide (s' = s) && sNN Γ (sSub (sSub e k) (sC 1))
          | _ => false) with
        | some [s', e] => if (decide (k' = k ∧ s' = s) && (decide (sK Γ.1 a = some 2) && (sI32 Γ.1 w && sNN Γ (sSub (sSub e k) (sC 1))))) = true then some [([], [(w, 0, 5)])] else none
        | _ => none)
      | _, _, _ => none)
    | none => none
theorem kR12_ok (i : Nat) : kRok RO (kR12 i) := by
  intro K ws h ρ R hD
  obtain ⟨⟨pc, ls, st, G, c, s0, Γ⟩, γ⟩ := K
  have hM : sMo ρ Γ := hD.1
  have hg : kGh (kGP (kUP RO)) ρ γ R.2.2.2.1 := hD.2.2
  simp only [kR12] at h
  split at h
  · rename_i k hk
    split at h
    · rename_i s k' n a w hfa ha hw
      split at h
      · rename_i s' e hfe
        split at h
        · rename_i hc
          cases h
          simp only [Bool.and_eq_true, decide_eq_true_eq] at hc
          obtain ⟨⟨rfl, rfl⟩, c1, c3, c2⟩ := hc
          obtain ⟨-, zs, e1, e2⟩ := kFa_ok hg hfa (by decide)
          obtain ⟨zs', zk, zn, rfl, es, ek, en⟩ := sVal_3 e1
          obtain ⟨s1, k1, n1, he, A, W, hAW, sn, m, nn, rfl, rfl, rfl, r4⟩ : ∃ s k n, [zs', zk, zn] = [s, k, n] ∧ kPW s k n R.2.2.2.1 := e2
          cases he
          obtain ⟨-, zs, e1, e2⟩ := kFa_ok hg hfe (by decide)
          obtain ⟨y1, ze, rfl, es2, ee⟩ := sVal_2 e1
          cases es.symm.trans es2
          obtain ⟨s1, e3, he, A2, W2, hAW2, s2, en', q1, rfl, q2⟩ : ∃ s e, [(sn : Int), ze] = [s, e] ∧ kSG s e R.2.2.2.1 := e2
          cases he
          obtain ⟨rfl, rfl⟩ := kAW_u hAW hAW2
          obtain rfl : s2 = sn := by omega
          have q3 := sNN_ok hM (sEv_sub (sEv_sub ee ek) (sEv_C 1)) c2
          obtain ⟨za, ea, ka⟩ := kFindEl_ok hg ha ek
          have hz2 := sK_ok hM.1 ea c1
          subst hz2
          obtain ⟨zw, ew, kw⟩ := kFindEl_ok hg hw ek
          have rw_ := sWi_ok hM.1 ew c3
          obtain ⟨-, kA'⟩ := kElA ka hAW.1
          obtain ⟨-, kW'⟩ := kElA kw hAW.2
          rw [show ((s2 + m : Nat) : Int).toNat = s2 + m by omega] at kA' kW'
          have eA : (A2 (s2 + m)).toInt = 2 := by rw [kA', sTo32 (by omega) (by omega)]
          have eW : (W2 (s2 + m)).toInt = zw := by rw [kW', sTo32 rw_.1 rw_.2]
          obtain ⟨n', hop⟩ := kStepOf r4 q2 (by omega)
          rw [eA, eW] at hop
          unfold kOp at hop
          rw [if_neg (by decide), if_pos rfl] at hop
          have h05 : 0 ≤ zw ∧ zw ≤ 5 := by
            split at hop
            · assumption
            · cases hop
          have none_ : kGh (kGP (kUP RO)) ρ [] R.2.2.2.1 := fun q hq => by cases hq
          refine ⟨_, List.mem_singleton.mpr rfl, none_, fun b hb => ?_⟩
          rcases List.mem_singleton.mp hb with rfl
          exact ⟨zw, ew, h05.1, h05.2⟩
        · cases h
      · cases h
    · cases h
  · cases h
end KRUM
end
