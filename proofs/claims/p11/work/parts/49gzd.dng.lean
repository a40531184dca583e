/-! Pairs that are mentioned; the safest answer. -/
noncomputable section
/-- hl, the bound, how many words: the class', the reference's -/
def aSid (s zh zw : Nat) (K : kS) : Option (sL × sL × sL) := if s = 0 then (match kFa K.2 62 (fun _ => true), kToldI K.1.2.2.2.1 11 0, nFf K.1.2.2.2.1 1 1 with
    | some [_, hl], some bd, some n => some (hl, bd, n)
    | _, _, _ => none)
  else (match nFf K.1.2.2.2.1 52 zh, kToldI K.1.2.2.2.1 59 2, nFf K.1.2.2.2.1 52 zw with
    | some hl, some bd, some n => some (hl, bd, n)
    | _, _, _ => none)
def aDGq (γ : List kA) (f : List sL → Bool) : Option (List sL) := kFa γ 122 f
/-- none looked at yet -/
def aDG0 (s zh zw : Nat) (K : kS) : Option kWs := match aSid s zh zw K, kLf K.1.2.1 1, kLf K.1.2.1 3, kLf K.1.2.1 4, kLf K.1.2.1 5 with
  | some (hl, bd, n), some one, some m, some f, some a => if (decide (a = sC 0) && (decide (m = sC 0) && (decide (f = sC (-2)) && (aK54 K && !kHav K.2 122 [hl, one, bd, n, sC 0, sC 0, sC 0, sC (-2)])))) = true then some [([(122, [hl, one, bd, n, sC 0, sC 0, sC 0, sC (-2)])], [])] else none
  | _, _, _, _, _ => none
/-- a row is at its end -/
def aDGi (s zh zw : Nat) (K : kS) : Option kWs := match kLf K.1.2.1 6, kLf K.1.2.1 5 with
  | some b, some a => if b = sC 0 then (if a = sC 0 then aDG0 s zh zw K else (match aSid s zh zw K, kLf K.1.2.1 1, kLf K.1.2.1 3, kLf K.1.2.1 4 with
    | some (hl, bd, n), some one, some m, some f => (match aDGq K.2 (fun fs => match fs with
        | [h, o, d, n', a', _, m', f'] => decide (h = hl) && (decide (o = one) && (decide (d = bd) && (decide (n' = n) && (decide (sAdd a' (sC 1) = a) && (decide (m' = m) && decide (f' = f))))))
        | _ => false) with
      | some [_, _, _, _, _, b', _, _] => if kEqf K.1.2.2.2.2.2.2 b' n = true then some [([(122, [hl, one, bd, n, a, sC 0, m, f])], [])] else none
      | _ => none)
    | _, _, _, _ => none)) else none
  | _, _ => none
def aDGf (K : kS) (a b f m0 f0 : sL) : Bool := if sK K.1.2.2.2.2.2.2.1 m0 = some 0 then decide (f = sAdd (sMul 20 a) b) else decide (f = f0) && nNe K.1.2.2.2.2.2.2 m0 (sC 0)
def aDGn (K : kS) (hl one bd m f a b m0 f0 : sL) : Bool := if kEqf K.1.2.2.2.2.2.2 a b = true then decide (m = m0) && decide (f = f0) else nNe K.1.2.2.2.2.2.2 a b && aPns K.2 hl one a b (fun x => (sNN K.1.2.2.2.2.2.2 (sSub x bd) && (decide (m = sAdd m0 (sC 1)) && aDGf K a b f m0 f0)) || (sNN K.1.2.2.2.2.2.2 (sSub (sSub bd x) (sC 1)) && (decide (m = m0) && decide (f = f0))))
def aDGs (s zh zw : Nat) (K : kS) : Option kWs := match aSid s zh zw K, kLf K.1.2.1 1, kLf K.1.2.1 3, kLf K.1.2.1 4, kLf K.1.2.1 5, kLf K.1.2.1 6 with
  | some (hl, bd, n), some one, some m, some f, some a, some b => (match aDGq K.2 (fun fs => match fs with
      | [h, o, d, n', a', b', _, _] => decide (h = hl) && (decide (o = one) && (decide (d = bd) && (decide (n' = n) && (decide (a' = a) && decide (b' = b)))))
      | _ => false) with
    | some [_, _, _, _, _, _, m0, f0] => if aDGn K hl one bd m f a b m0 f0 = true then some [([(122, [hl, one, bd, n, a, sAdd b (sC 1), m, f])], [])] else none
    | _ => none)
  | _, _, _, _, _, _ => none
def aDGe (s zh zw : Nat) (K : kS) : Option kWs := match aSid s zh zw K, kLf K.1.2.1 1, kLf K.1.2.1 2, kTop K with
  | some (hl, bd, n), some one, some wh, some r => if K.2.any (fun q => decide (q.1 = 122) && (match q.2 with
      | [h, o, d, n', a, b, m, f] => decide (h = hl) && (decide (o = one) && (decide (d = bd) && (decide (n' = n) && (((kEqf K.1.2.2.2.2.2.2 a n && decide (b = sC 0)) || ((kEqf K.1.2.2.2.2.2.2 (sAdd a (sC 1)) n && kEqf K.1.2.2.2.2.2.2 b n) || (sNN K.1.2.2.2.2.2.2 (sMul (-1) n) && (decide (a = sC 0) && decide (b = sC 0))))) && ((decide (sK K.1.2.2.2.2.2.2.1 wh = some 0) && decide (r = m)) || (sNN K.1.2.2.2.2.2.2 (sSub wh (sC 1)) && decide (r = f)))))))
      | _ => false)) = true then some [([(123, [hl, one, bd, n, wh, r])], [])] else none
  | _, _, _, _ => none
section ADNG
variable {RO : List (Nat × (Nat → Int32))} {ρ : List Int} {Γ : sG} {γ : List kA} {H : List eE}
theorem aSid_ok {s zh zw : Nat} {K : kS} {R : eR} (hD : kD (kGP (kUP RO)) ρ K R) {hl bd n : sL} (h : aSid s zh zw K = some (hl, bd, n)) : ∃ zl zd zn, sEv ρ hl = some zl ∧ sEv ρ bd = some zd ∧ sEv ρ n = some zn := by
  unfold aSid at h
  split at h
  · split at h
    · rename_i z1 hl' bd' n' hlw hbd hn
      cases h
      obtain ⟨-, zs, e3, -⟩ := nFa_ok hD.2.2 hlw (by decide) (by decide)
      obtain ⟨z1, zl, rfl, -, el⟩ := sVal_2 e3
      obtain ⟨-, -, zd, -, -, ed, -⟩ := kToldI_ok hD.2.1.2.2.2.1 hbd
      obtain ⟨zn, en⟩ := nFf_ok hD.2.1.2.2.2.1 hn
      exact ⟨zl, zd, zn, el, ed, en⟩
    · cases h
  · split at h
    · rename_i hl' bd' n' hhl hbd hn
      cases h
      obtain ⟨zl, el⟩ := nFf_ok hD.2.1.2.2.2.1 hhl
      obtain ⟨-, -, zd, -, -, ed, -⟩ := kToldI_ok hD.2.1.2.2.2.1 hbd
      obtain ⟨zn, en⟩ := nFf_ok hD.2.1.2.2.2.1 hn
      exact ⟨zl, zd, zn, el, ed, en⟩
    · cases h
theorem aDG0_ok (s zh zw : Nat) : kRok RO (aDG0 s zh zw) := by
  intro K ws h ρ R hD
  unfold aDG0 at h
  split at h
  · rename_i hl bd n one m f a hs hone hm hf ha
    split at h
    · rename_i hc
      cases h
      simp only [Bool.and_eq_true, decide_eq_true_eq] at hc
      obtain ⟨fk, hF⟩ := aK54_ok hD hc.2.2.2.1
      obtain ⟨zl, zd, zn, el, ed, en⟩ := aSid_ok hD hs
      obtain ⟨zo, eo⟩ := kLf_ok hD.2.1 hone
      exact ⟨_, List.mem_singleton.mpr rfl, aAt (fk := fk) (zs := [zl, zo, zd, zn, 0, 0, 0, -2]) (by decide) (by decide) (by simp only [sVal, el, eo, ed, en, sEv_C]) hF ⟨Int.le_refl _, Int.le_refl _, 0, -2, ⟨rfl, rfl⟩, rfl, rfl⟩, fun b hb => by cases hb⟩
    · cases h
  · cases h
theorem aDGi_ok (s zh zw : Nat) : kRok RO (aDGi s zh zw) := by
  intro K ws h ρ R hD
  have hM := hD.1
  have h0 := h
  unfold aDGi at h
  split at h
  · rename_i b a hb ha
    obtain ⟨za, ea⟩ := kLf_ok hD.2.1 ha
    split at h
    · split at h
      · exact aDG0_ok s zh zw K ws h ρ R hD
      · split at h
        · rename_i hl bd n one m f hs hone hm hf
          obtain ⟨zl, zd, zn, el, ed, en⟩ := aSid_ok hD hs
          split at h
          · rename_i h' o' d' n' a' b' m' f' hfa
            split at h
            · rename_i hc
              cases h
              obtain ⟨p, zs, fk, e1, hF, hP⟩ := aFa hD.2.2 hfa (by decide) (by decide)
              simp only [Bool.and_eq_true, decide_eq_true_eq] at p
              obtain ⟨rfl, rfl, rfl, rfl, rfl, rfl, rfl⟩ := p
              obtain ⟨y1, y2, y3, y4, y5, y6, y7, y8, rfl, f1, f2, f3, f4, f5, f6, f7, f8⟩ := qVal_8 e1
              have e5 := sEv_add f5 (sEv_C (ρ := ρ) 1)
              have e6 := kEqf_ok hM f6 f4 hc
              subst e6
              obtain ⟨g1, g2, m1, g, g3, g4⟩ : aDG (aGH R.2.2.2.1) y1 y2 y3 y6 y5 y6 y7 y8 := hP
              refine ⟨_, List.mem_singleton.mpr rfl, aAt (fk := fk) (zs := [y1, y2, y3, y6, y5 + 1, 0, y7, y8]) (by decide) (by decide) (by simp only [sVal, f1, f2, f3, f4, e5, f7, f8, sEv_C]) hF ⟨by omega, Int.le_refl _, y7, y8, ?_, rfl, rfl⟩, fun b hb => by cases hb⟩
              rw [show (y5 + 1).toNat = y5.toNat + 1 by omega]
              exact ⟨m1, g, g3, g4⟩
            · cases h
          · cases h
        · cases h
    · cases h
  · cases h
theorem aDGs_ok (s zh zw : Nat) : kRok RO (aDGs s zh zw) := by
  intro K ws h ρ R hD
  have hM := hD.1
  unfold aDGs at h
  split at h
  · rename_i hl bd n one m f a b hs hone hm hf ha hb
    obtain ⟨zl, zd, zn, el, ed, en⟩ := aSid_ok hD hs
    split at h
    · rename_i h' o' d' n' a' b' m0 f0 hfa
      split at h
      · rename_i hc
        cases h
        obtain ⟨p, zs, fk, e1, hF, hP⟩ := aFa hD.2.2 hfa (by decide) (by decide)
        simp only [Bool.and_eq_true, decide_eq_true_eq] at p
        obtain ⟨rfl, rfl, rfl, rfl, rfl, rfl⟩ := p
        obtain ⟨y1, y2, y3, y4, y5, y6, y7, y8, rfl, f1, f2, f3, f4, f5, f6, f7, f8⟩ := qVal_8 e1
        obtain ⟨g1, g2, m1, g, g3, g4⟩ : aDG (aGH R.2.2.2.1) y1 y2 y3 y4 y5 y6 y7 y8 := hP
        have e6 := sEv_add f6 (sEv_C (ρ := ρ) 1)
        have hx : ((y5.toNat : Nat) : Int) = y5 := Int.toNat_of_nonneg g1
        have hy : ((y6.toNat : Nat) : Int) = y6 := Int.toNat_of_nonneg g2
        have fin : ∀ {zm zf : Int}, sEv ρ m = some zm → sEv ρ f = some zf → aDr (aGH R.2.2.2.1) y1 y2 y3 y5.toNat m1 g (y6.toNat + 1) zm zf → ∃ p ∈ [(([(122, [h', o', d', n', a', sAdd b' (sC 1), m, f])], []) : List kA × List (sL × Int × Int))], kGh (kGP (kUP RO)) ρ p.1 R.2.2.2.1 ∧ ∀ b ∈ p.2, ∃ z, sEv ρ b.1 = some z ∧ b.2.1 ≤ z ∧ z ≤ b.2.2 := fun {zm zf} em ef q => by
          refine ⟨_, List.mem_singleton.mpr rfl, aAt (fk := fk) (zs := [y1, y2, y3, y4, y5, y6 + 1, zm, zf]) (by decide) (by decide) (by simp only [sVal, f1, f2, f3, f4, f5, e6, em, ef]) hF ⟨g1, by omega, m1, g, g3, ?_⟩, fun b hb => by cases hb⟩
          rw [show (y6 + 1).toNat = y6.toNat + 1 by omega]
          exact q
        unfold aDGn at hc
        split at hc
        · rename_i he
          simp only [Bool.and_eq_true, decide_eq_true_eq] at hc
          obtain ⟨rfl, rfl⟩ := hc
          have e := kEqf_ok hM f5 f6 he
          exact fin f7 f8 ⟨y7, y8, g4, Or.inl ⟨by rw [e], rfl, rfl⟩⟩
        · rw [Bool.and_eq_true] at hc
          have hne := nNe_ok hM f5 f6 hc.1
          have hne2 : y5.toNat ≠ y6.toNat := by omega
          obtain ⟨x, zx, k1, ex, hxp⟩ := aPns_ok hD.2.2 f1 f2 f5 f6 hc.2
          have hxp : aPN (aGH R.2.2.2.1) y1 y2 ((y5.toNat : Nat) : Int) ((y6.toNat : Nat) : Int) zx := by rw [hx, hy]; exact hxp
          simp only [Bool.or_eq_true, Bool.and_eq_true, decide_eq_true_eq] at k1
          rcases k1 with ⟨k1, rfl, k3⟩ | ⟨k1, rfl, rfl⟩
          · have hle := sNN_ok hM (sEv_sub ex f3) k1
            have em := sEv_add f7 (sEv_C (ρ := ρ) 1)
            unfold aDGf at k3
            split at k3
            · rename_i hz
              have k3 := of_decide_eq_true k3
              subst k3
              have hz := sK_ok hM.1 f7 hz
              have ef := sEv_add (sEv_mul 20 f5) f6
              exact fin em ef ⟨y7, y8, g4, Or.inr ⟨hne2, zx, hxp, Or.inl ⟨by omega, rfl, by rw [if_pos hz, hx, hy]⟩⟩⟩
            · simp only [Bool.and_eq_true, decide_eq_true_eq] at k3
              obtain ⟨rfl, k4⟩ := k3
              have hz := nNe_ok hM f7 (sEv_C 0) k4
              exact fin em f8 ⟨y7, y8, g4, Or.inr ⟨hne2, zx, hxp, Or.inl ⟨by omega, rfl, by rw [if_neg hz]⟩⟩⟩
          · have hlt := sNN_ok hM (sEv_sub (sEv_sub f3 ex) (sEv_C 1)) k1
            exact fin f7 f8 ⟨y7, y8, g4, Or.inr ⟨hne2, zx, hxp, Or.inr ⟨by omega, rfl, rfl⟩⟩⟩
      · cases h
    · cases h
  · cases h
theorem aDGe_ok (s zh zw : Nat) : kRok RO (aDGe s zh zw) := by
  intro K ws h ρ R hD
  have hM := hD.1
  unfold aDGe at h
  split at h
  · rename_i hl bd n one wh r hs hone hwh hr
    split at h
    · rename_i hc
      cases h
      obtain ⟨⟨k, fs⟩, hq, hany⟩ := List.any_eq_true.mp hc
      clear hc
      have hc := hany
      clear hany
      simp only [Bool.and_eq_true, decide_eq_true_eq] at hc
      obtain ⟨rfl, hc⟩ := hc
      split at hc
      · rename_i h' o' d' n' a b m f
        simp only [Bool.and_eq_true, decide_eq_true_eq] at hc
        obtain ⟨rfl, rfl, rfl, rfl, c1, c2⟩ := hc
        obtain ⟨zs, fk, e1, hF, hP⟩ := aOf hD.2.2 hq (by decide) (by decide)
        obtain ⟨y1, y2, y3, y4, y5, y6, y7, y8, rfl, f1, f2, f3, f4, f5, f6, f7, f8⟩ := qVal_8 e1
        obtain ⟨g1, g2, m1, g, g3, g4⟩ : aDG (aGH R.2.2.2.1) y1 y2 y3 y4 y5 y6 y7 y8 := hP
        obtain ⟨zw, ew⟩ := kLf_ok hD.2.1 hwh
        have hA : aDa (aGH R.2.2.2.1) y1 y2 y3 y4.toNat y4.toNat y7 y8 := by
          simp only [Bool.or_eq_true, Bool.and_eq_true, decide_eq_true_eq] at c1
          rcases c1 with ⟨q1, rfl⟩ | ⟨q1, q2⟩ | ⟨q1, rfl, rfl⟩
          · have e := kEqf_ok hM f5 f4 q1
            obtain rfl := Option.some.inj (f6.symm.trans (sEv_C _))
            obtain ⟨rfl, rfl⟩ := g4
            rw [e] at g3
            exact g3
          · have e := kEqf_ok hM (sEv_add f5 (sEv_C 1)) f4 q1
            have e2 := kEqf_ok hM f6 f4 q2
            have e3 : y4.toNat = y5.toNat + 1 := by omega
            have g4' : aDr (aGH R.2.2.2.1) y1 y2 y3 y5.toNat m1 g y4.toNat y7 y8 := by rw [← e2]; exact g4
            rw [e3] at g3 g4' ⊢
            exact ⟨m1, g, g3, g4'⟩
          · have e := sNN_ok hM (sEv_mul (-1) f4) q1
            obtain rfl := Option.some.inj (f6.symm.trans (sEv_C _))
            obtain rfl := Option.some.inj (f5.symm.trans (sEv_C _))
            obtain ⟨rfl, rfl⟩ := g4
            rw [show y4.toNat = 0 by omega] at g3 ⊢
            exact g3
        simp only [Bool.or_eq_true, Bool.and_eq_true, decide_eq_true_eq] at c2
        rcases c2 with ⟨q1, rfl⟩ | ⟨q1, rfl⟩
        · have e := sK_ok hM.1 ew q1
          exact ⟨_, List.mem_singleton.mpr rfl, aAt (fk := fk) (zs := [y1, y2, y3, y4, zw, y7]) (by decide) (by decide) (by simp only [sVal, f1, f2, f3, f4, ew, f7]) hF ⟨y7, y8, hA, by rw [if_pos e]⟩, fun b hb => by cases hb⟩
        · have e := sNN_ok hM (sEv_sub ew (sEv_C 1)) q1
          exact ⟨_, List.mem_singleton.mpr rfl, aAt (fk := fk) (zs := [y1, y2, y3, y4, zw, y8]) (by decide) (by decide) (by simp only [sVal, f1, f2, f3, f4, ew, f8]) hF ⟨y7, y8, hA, by rw [if_neg (by omega)]⟩, fun b hb => by cases hb⟩
      · cases hc
    · cases h
  · cases h
/-- the last number is one function of the others -/
theorem aFun {k : Nat} (hk : k = 113 ∨ k = 114 ∨ k = 121 ∨ k = 123 ∨ k = 125 ∨ k = 127 ∨ k = 131 ∨ k = 134) {zs : List Int} {r r' : Int} (h : nUP k (zs ++ [r]) H) (h' : nUP k (zs ++ [r']) H) : r = r' := by
  obtain ⟨fk, f1, p⟩ := aUPe (by omega) h
  obtain ⟨fk', f2, q⟩ := aUPe (by omega) h'
  cases nI2_one f1 f2
  match zs, p, q with
  | [a, b, c], p, q =>
    rcases hk with rfl | rfl | rfl | rfl | rfl | rfl | rfl | rfl
    · exact aAL_one aGHf (show aAL (aGH H) a b c r from p) (show aAL (aGH H) a b c r' from q)
    · exact False.elim p
    · exact aBX_one aGHf (show aBX (aGH H) fk a b c r from p) (show aBX (aGH H) fk a b c r' from q)
    · exact False.elim p
    · exact False.elim p
    · exact False.elim p
    · exact False.elim p
    · exact False.elim p
  | [a, b, c, d], p, q =>
    rcases hk with rfl | rfl | rfl | rfl | rfl | rfl | rfl | rfl
    · exact False.elim p
    · exact aPN_one aGHf (show aPN (aGH H) a b c d r from p) (show aPN (aGH H) a b c d r' from q)
    · exact False.elim p
    · exact False.elim p
    · exact aAE_one aGHf (show aAE (aGH H) fk a b c d r from p) (show aAE (aGH H) fk a b c d r' from q)
    · exact False.elim p
    · exact aCB_one (show aCB (aGH H) fk a b c d d.toNat r from p) (show aCB (aGH H) fk a b c d d.toNat r' from q)
    · exact False.elim p
  | [a, b, c, d, e], p, q =>
    rcases hk with rfl | rfl | rfl | rfl | rfl | rfl | rfl | rfl
    · exact False.elim p
    · exact False.elim p
    · exact False.elim p
    · exact aDE_one aGHf (show aDE (aGH H) a b c d e r from p) (show aDE (aGH H) a b c d e r' from q)
    · exact False.elim p
    · exact aAY_one aGHf (show aAY (aGH H) fk a b c d e r from p) (show aAY (aGH H) fk a b c d e r' from q)
    · exact False.elim p
    · exact False.elim p
  | [], p, _ => exact False.elim p
  | [a], p, _ =>
    rcases hk with rfl | rfl | rfl | rfl | rfl | rfl | rfl | rfl <;> exact False.elim p
  | [a, b], p, _ =>
    rcases hk with rfl | rfl | rfl | rfl | rfl | rfl | rfl | rfl <;> exact False.elim p
  | [a, b, c, d, e, f], p, _ => exact False.elim p
  | [a, b, c, d, e, f, g], p, _ =>
    rcases hk with rfl | rfl | rfl | rfl | rfl | rfl | rfl | rfl <;> exact False.elim p
  | [a, b, c, d, e, f, g, i], p, q =>
    rcases hk with rfl | rfl | rfl | rfl | rfl | rfl | rfl | rfl
    · exact False.elim p
    · exact False.elim p
    · exact False.elim p
    · exact False.elim p
    · exact False.elim p
    · exact False.elim p
    · exact False.elim p
    · exact aDX_one aGHf (show aDX (aGH H) a b c d e f g i r from p) (show aDX (aGH H) a b c d e f g i r' from q)
  | [a, b, c, d, e, f, g, i, j], p, _ => exact False.elim p
  | [a, b, c, d, e, f, g, i, j, l], p, _ =>
    rcases hk with rfl | rfl | rfl | rfl | rfl | rfl | rfl | rfl <;> exact False.elim p
  | a :: b :: c :: d :: e :: f :: g :: i :: j :: l :: m :: t, p, _ =>
    rcases hk with rfl | rfl | rfl | rfl | rfl | rfl | rfl | rfl <;> cases t <;> exact False.elim p
theorem aSame_ok {kd : Nat} (hk : kd = 113 ∨ kd = 114 ∨ kd = 121 ∨ kd = 123 ∨ kd = 125 ∨ kd = 127 ∨ kd = 131 ∨ kd = 134) {K : kS} {L : List kS} (h : nSame kd K = some L) {ρ : List Int} {R : eR} (hD : kD (kGP (kUP RO)) ρ K R) : ∃ K' ∈ L, ∃ ρ', ρ <+: ρ' ∧ kD (kGP (kUP RO)) ρ' K' R := by
  have same : ∀ K0 : kS, K0 = K → some [K0] = some L → ∃ K' ∈ L, ∃ ρ', ρ <+: ρ' ∧ kD (kGP (kUP RO)) ρ' K' R := fun K0 e g => by
    cases g
    subst e
    exact ⟨_, List.mem_singleton.mpr rfl, ρ, List.prefix_refl _, hD⟩
  unfold nSame at h
  split at h
  · rename_i pc ls r st G c s Γ γ
    split at h
    · rename_i fs hfa
      split at h
      · rename_i q hq
        split at h
        · rename_i x hx
          split at h
          · exact same _ rfl h
          · cases h
            obtain ⟨p1, zs, e1, e2⟩ := nFa_ok hD.2.2 hfa (by omega) (by omega)
            have p1 := of_decide_eq_true p1
            obtain ⟨ys, hys⟩ := List.getLast?_eq_some_iff.mp hq
            have hqm : q ∈ γ.filter (fun q => decide (q.1 = kd) && decide (q.2.dropLast = fs.dropLast)) := by rw [hys]; simp
            obtain ⟨hqn, hc⟩ := List.mem_filter.mp hqm
            clear hqm
            simp only [Bool.and_eq_true, decide_eq_true_eq] at hc
            obtain ⟨k, gs⟩ := q
            simp only at hc hx
            obtain ⟨rfl, hc⟩ := hc
            obtain ⟨ys2, e3, e4⟩ := hD.2.2 _ hqn
            have e4 := nGP (by omega) (by omega) e4
            simp only at e3
            rw [nLst p1] at e1
            rw [nLst hx, hc] at e3
            obtain ⟨us, vs, rfl, f1, f2⟩ := sVal_appR e1
            obtain ⟨us', vs', rfl, f3, f4⟩ := sVal_appR e3
            rw [f1] at f3
            cases f3
            obtain ⟨zr, rfl, er⟩ := sVal_1 f2
            obtain ⟨zx, rfl, ex⟩ := sVal_1 f4
            have hz := aFun hk e2 e4
            subst hz
            exact aTopd hD er ex
        · exact same _ rfl h
      · exact same _ rfl h
    · exact same _ rfl h
  · exact same _ rfl h
end ADNG
end
