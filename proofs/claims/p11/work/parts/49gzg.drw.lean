/-! Days that are drawn by a seed. -/
noncomputable section
/-- hl, the bound, half, how many words, how many people -/
def aSdD (s zh zw zp : Nat) (K : kS) : Option (sL × sL × sL × sL × sL) := if s = 0 then (match aSid 0 zh zw K, kToldI K.1.2.2.2.1 12 0, nFf K.1.2.2.2.1 1 2 with
    | some (hl, bd, n), some hf, some p => some (hl, bd, hf, n, p)
    | _, _, _ => none)
  else (match aSid 1 zh zw K, kToldI K.1.2.2.2.1 59 3, nFf K.1.2.2.2.1 52 zp with
    | some (hl, bd, n), some hf, some p => some (hl, bd, hf, n, p)
    | _, _, _ => none)
def aLcD (s : Nat) (K : kS) : Option (sL × sL × sL × sL × sL) := match kLf K.1.2.1 4, kLf K.1.2.1 5, kLf K.1.2.1 6, kLf K.1.2.1 7, kLf K.1.2.1 8 with
  | some a, some b, some c, some d, some k => some (if s = 0 then (d, a, b, c, k) else (a, b, c, d, k))
  | _, _, _, _, _ => none
def aDRi (s zh zw zp : Nat) (K : kS) : Option kWs := match aSdD s zh zw zp K, aLcD s K, kLf K.1.2.1 1 with
  | some (hl, bd, hf, n, p), some (z, m, h, f, k), some sd => if (decide (k = sC 0) && (decide (z = sd) && (decide (m = sC 0) && (decide (h = sC 0) && (decide (f = sC (-2)) && (aK54 K && !kHav K.2 133 [hl, bd, hf, n, p, sd, sC 0, sd, sC 0, sC 0, sC (-2)])))))) = true then some [([(133, [hl, bd, hf, n, p, sd, sC 0, sd, sC 0, sC 0, sC (-2)])], [])] else none
  | _, _, _ => none
def aNxz (Γ : sG) (z0 z : sL) : Bool := match nDl Γ 304 (sMul 1103515245 z0) (sC 0) with
  | some y => decide (nDl Γ 304 (sAdd y (sC 12345)) (sC 0) = some z)
  | none => false
def aDrp (Γ : sG) (z : sL) (s : Int) (p : sL) : Option sL := match nDl Γ 8 z (sC s) with
  | some y => nDl Γ 10 y p
  | none => none
def aDRq (γ : List kA) (hl bd hf n p sd k : sL) : Option (List sL) := kFa γ 133 (fun fs => match fs with
  | [a, b, c, d, e, f, g, _, _, _, _] => decide (a = hl) && (decide (b = bd) && (decide (c = hf) && (decide (d = n) && (decide (e = p) && (decide (f = sd) && decide (g = k))))))
  | _ => false)
def aDRf (Γ : sG) (k f m0 f0 : sL) : Bool := if sK Γ.1 m0 = some 0 then decide (f = k) else decide (f = f0) && nNe Γ m0 (sC 0)
def aDRx (Γ : sG) (bd hf k m h f m0 h0 f0 x : sL) : Bool := (sNN Γ (sSub x bd) && (decide (m = sAdd m0 (sC 1)) && (decide (h = h0) && aDRf Γ k f m0 f0))) || (sNN Γ (sSub (sSub bd x) (sC 1)) && (decide (m = m0) && (decide (f = f0) && ((sNN Γ (sSub x hf) && decide (h = sAdd h0 (sC 1))) || (sNN Γ (sSub (sSub hf x) (sC 1)) && decide (h = h0))))))
def aDRs (s zh zw zp : Nat) (K : kS) : Option kWs := match aSdD s zh zw zp K, aLcD s K, kLf K.1.2.1 1 with
  | some (hl, bd, hf, n, p), some (z, m, h, f, k), some sd => (match aDRq K.2 hl bd hf n p sd k, aDrp K.1.2.2.2.2.2.2 z 4 p, aDrp K.1.2.2.2.2.2.2 z 10 n, aDrp K.1.2.2.2.2.2.2 z 18 n with
    | some [_, _, _, _, _, _, _, z0, m0, h0, f0], some one, some w1, some w2 => if (sNN K.1.2.2.2.2.2.2 (sSub p (sC 1)) && (sNN K.1.2.2.2.2.2.2 (sSub n (sC 1)) && (aNxz K.1.2.2.2.2.2.2 z0 z && aPns K.2 hl one w1 w2 (fun x => aDRx K.1.2.2.2.2.2.2 bd hf k m h f m0 h0 f0 x)))) = true then some [([(133, [hl, bd, hf, n, p, sd, sAdd k (sC 1), z, m, h, f])], [])] else none
    | _, _, _, _ => none)
  | _, _, _ => none
def aDRt (Γ : sG) (hl bd hf n p sd N w r : sL) (q : kA) : Bool := decide (q.1 = 133) && (match q.2 with
  | [a, b, c, d, e, g, k, _, m, h, f] => decide (a = hl) && (decide (b = bd) && (decide (c = hf) && (decide (d = n) && (decide (e = p) && (decide (g = sd) && (((kEqf Γ k N && sNN Γ (sSub N (sC 1))) || (sNN Γ (sMul (-1) p) || sNN Γ (sMul (-1) n)))
    && ((decide (sK Γ.1 w = some 0) && decide (r = m)) || ((decide (sK Γ.1 w = some 1) && decide (r = h)) || (sNN Γ (sSub w (sC 2)) && decide (r = f))))))))))
  | _ => false)
def aDRe (s zh zw zp : Nat) (K : kS) : Option kWs := match aSdD s zh zw zp K, kLf K.1.2.1 1, kLf K.1.2.1 2, kLf K.1.2.1 3, kTop K with
  | some (hl, bd, hf, n, p), some sd, some N, some w, some r => if K.2.any (aDRt K.1.2.2.2.2.2.2 hl bd hf n p sd N w r) = true then some [([(134, [hl, bd, hf, n, p, sd, N, w, r])], [])] else none
  | _, _, _, _, _ => none
section ADRW
variable {RO : List (Nat × (Nat → Int32))} {ρ : List Int} {Γ : sG} {γ : List kA} {H : List eE}
theorem aVal_11 {a b c d e f g h i j l : sL} {zs : List Int} (q : sVal ρ [a, b, c, d, e, f, g, h, i, j, l] = some zs) : ∃ y1 y2 y3 y4 y5 y6 y7 y8 y9 y10 y11, zs = [y1, y2, y3, y4, y5, y6, y7, y8, y9, y10, y11] ∧ sEv ρ a = some y1 ∧ sEv ρ b = some y2 ∧ sEv ρ c = some y3 ∧ sEv ρ d = some y4 ∧ sEv ρ e = some y5 ∧ sEv ρ f = some y6 ∧ sEv ρ g = some y7 ∧ sEv ρ h = some y8 ∧ sEv ρ i = some y9 ∧ sEv ρ j = some y10 ∧ sEv ρ l = some y11 := by
  obtain ⟨y1, y2, y3, y4, y5, zr, rfl, f1, f2, f3, f4, f5, er⟩ := sVal_5p q
  obtain ⟨y6, y7, y8, y9, y10, zt, rfl, f6, f7, f8, f9, f10, et⟩ := sVal_5p er
  obtain ⟨y11, rfl, f11⟩ := sVal_1 et
  exact ⟨y1, y2, y3, y4, y5, y6, y7, y8, y9, y10, y11, rfl, f1, f2, f3, f4, f5, f6, f7, f8, f9, f10, f11⟩
theorem aSdD_ok {s zh zw zp : Nat} {K : kS} {R : eR} (hD : kD (kGP (kUP RO)) ρ K R) {hl bd hf n p : sL} (h : aSdD s zh zw zp K = some (hl, bd, hf, n, p)) : ∃ zl zd zf zn zp', sEv ρ hl = some zl ∧ sEv ρ bd = some zd ∧ sEv ρ hf = some zf ∧ sEv ρ n = some zn ∧ sEv ρ p = some zp' := by
  unfold aSdD at h
  split at h
  · split at h
    · rename_i hl' bd' n' hf' p' hs hhf hp
      cases h
      obtain ⟨zl, zd, zn, el, ed, en⟩ := aSid_ok hD hs
      obtain ⟨-, -, zf, -, -, ef, -⟩ := kToldI_ok hD.2.1.2.2.2.1 hhf
      obtain ⟨zq, eq⟩ := nFf_ok hD.2.1.2.2.2.1 hp
      exact ⟨zl, zd, zf, zn, zq, el, ed, ef, en, eq⟩
    · cases h
  · split at h
    · rename_i hl' bd' n' hf' p' hs hhf hp
      cases h
      obtain ⟨zl, zd, zn, el, ed, en⟩ := aSid_ok hD hs
      obtain ⟨-, -, zf, -, -, ef, -⟩ := kToldI_ok hD.2.1.2.2.2.1 hhf
      obtain ⟨zq, eq⟩ := nFf_ok hD.2.1.2.2.2.1 hp
      exact ⟨zl, zd, zf, zn, zq, el, ed, ef, en, eq⟩
    · cases h
theorem aLcD_ok {s : Nat} {K : kS} {R : eR} (hD : kD (kGP (kUP RO)) ρ K R) {z m h f k : sL} (q : aLcD s K = some (z, m, h, f, k)) : ∃ yz ym yh yf yk, sEv ρ z = some yz ∧ sEv ρ m = some ym ∧ sEv ρ h = some yh ∧ sEv ρ f = some yf ∧ sEv ρ k = some yk := by
  unfold aLcD at q
  split at q
  · rename_i a b c d k' ha hb hc hd hk
    obtain ⟨ya, ea⟩ := kLf_ok hD.2.1 ha
    obtain ⟨yb, eb⟩ := kLf_ok hD.2.1 hb
    obtain ⟨yc, ec⟩ := kLf_ok hD.2.1 hc
    obtain ⟨yd, ed⟩ := kLf_ok hD.2.1 hd
    obtain ⟨yk, ek⟩ := kLf_ok hD.2.1 hk
    split at q
    · cases q
      exact ⟨yd, ya, yb, yc, yk, ed, ea, eb, ec, ek⟩
    · cases q
      exact ⟨ya, yb, yc, yd, yk, ea, eb, ec, ed, ek⟩
  · cases q
theorem aDRi_ok (s zh zw zp : Nat) : kRok RO (aDRi s zh zw zp) := by
  intro K ws h ρ R hD
  unfold aDRi at h
  split at h
  · rename_i hl bd hf n p z m hh f k sd hs hlc hsd
    split at h
    · rename_i hc
      cases h
      simp only [Bool.and_eq_true, decide_eq_true_eq] at hc
      obtain ⟨fk, hF⟩ := aK54_ok hD hc.2.2.2.2.2.1
      obtain ⟨zl, zd, zf, zn, zq, el, ed, ef, en, eq⟩ := aSdD_ok hD hs
      obtain ⟨ys, es⟩ := kLf_ok hD.2.1 hsd
      exact ⟨_, List.mem_singleton.mpr rfl, aAt (fk := fk) (zs := [zl, zd, zf, zn, zq, ys, 0, ys, 0, 0, -2]) (by decide) (by decide) (by simp only [sVal, el, ed, ef, en, eq, es, sEv_C]) hF aDR_0, fun b hb => by cases hb⟩
    · cases h
  · cases h
theorem aNxz_ok (hM : sMo ρ Γ) {z0 z : sL} {y : Int} (e : sEv ρ z0 = some y) (h : aNxz Γ z0 z = true) : sEv ρ z = some (aZ y) := by
  unfold aNxz at h
  split at h
  · rename_i u hu
    have eu := nDl_ok hM (sEv_mul 1103515245 e) (sEv_C 0) hu
    exact nDl_ok hM (sEv_add eu (sEv_C 12345)) (sEv_C 0) (of_decide_eq_true h)
  · cases h
theorem aDrp_ok (hM : sMo ρ Γ) {z p w : sL} {s y v : Int} (e : sEv ρ z = some y) (ep : sEv ρ p = some v) (h : aDrp Γ z s p = some w) : sEv ρ w = some (aZp y s v) := by
  unfold aDrp at h
  split at h
  · rename_i u hu
    exact nDl_ok hM (nDl_ok hM e (sEv_C s) hu) ep h
  · cases h
theorem aDRs_ok (s zh zw zp : Nat) : kRok RO (aDRs s zh zw zp) := by
  intro K ws h ρ R hD
  have hM := hD.1
  unfold aDRs at h
  split at h
  · rename_i hl bd hf n p z m hh f k sd hs hlc hsd
    split at h
    · rename_i a1 a2 a3 a4 a5 a6 a7 z0 m0 h0 f0 one w1 w2 hfa ho h1 h2
      split at h
      · rename_i hc
        cases h
        obtain ⟨q, zs, fk, e1, hF, hP⟩ := aFa hD.2.2 hfa (by decide) (by decide)
        simp only [Bool.and_eq_true, decide_eq_true_eq] at q
        obtain ⟨rfl, rfl, rfl, rfl, rfl, rfl, rfl⟩ := q
        obtain ⟨y1, y2, y3, y4, y5, y6, y7, y8, y9, y10, y11, rfl, f1, f2, f3, f4, f5, f6, f7, f8, f9, f10, f11⟩ := aVal_11 e1
        have hP : aDR (aGH R.2.2.2.1) y1 y2 y3 y4 y5 y6 y7 y8 y9 y10 y11 := hP
        simp only [Bool.and_eq_true] at hc
        obtain ⟨c1, c2, c3, c4⟩ := hc
        have hp := sNN_ok hM (sEv_sub f5 (sEv_C 1)) c1
        have hn := sNN_ok hM (sEv_sub f4 (sEv_C 1)) c2
        have ez := aNxz_ok hM f8 c3
        have eo := aDrp_ok hM ez f5 ho
        have e2 := aDrp_ok hM ez f4 h1
        have e3 := aDrp_ok hM ez f4 h2
        obtain ⟨x, zx, g, ex, hx⟩ := aPns_ok hD.2.2 f1 eo e2 e3 c4
        obtain ⟨-, ym, yh, yf, -, -, em, eh, ef, -⟩ := aLcD_ok hD hlc
        have ek := sEv_add f7 (sEv_C (ρ := ρ) 1)
        refine ⟨_, List.mem_singleton.mpr rfl, aAt (fk := fk) (zs := [y1, y2, y3, y4, y5, y6, y7 + 1, aZ y8, ym, yh, yf]) (by decide) (by decide) (by simp only [sVal, f1, f2, f3, f4, f5, f6, ek, ez, em, eh, ef]) hF (aDR_s hP (by omega) (by omega) hx ?_), fun b hb => by cases hb⟩
        unfold aDRx at g
        simp only [Bool.or_eq_true, Bool.and_eq_true, decide_eq_true_eq] at g
        rcases g with ⟨g1, rfl, rfl, g2⟩ | ⟨g1, rfl, rfl, g2⟩
        · have q1 := sNN_ok hM (sEv_sub ex f2) g1
          obtain rfl := Option.some.inj (em.symm.trans (sEv_add f9 (sEv_C 1)))
          obtain rfl := Option.some.inj (eh.symm.trans f10)
          refine Or.inl ⟨by omega, rfl, rfl, ?_⟩
          unfold aDRf at g2
          split at g2
          · rename_i hz
            have hz := sK_ok hM.1 f9 hz
            have g2 := of_decide_eq_true g2
            subst g2
            obtain rfl := Option.some.inj (ef.symm.trans f7)
            rw [if_pos hz]
          · simp only [Bool.and_eq_true, decide_eq_true_eq] at g2
            obtain ⟨rfl, g3⟩ := g2
            have hz := nNe_ok hM f9 (sEv_C 0) g3
            obtain rfl := Option.some.inj (ef.symm.trans f11)
            rw [if_neg hz]
        · have q1 := sNN_ok hM (sEv_sub (sEv_sub f2 ex) (sEv_C 1)) g1
          obtain rfl := Option.some.inj (em.symm.trans f9)
          obtain rfl := Option.some.inj (ef.symm.trans f11)
          refine Or.inr ⟨by omega, rfl, rfl, ?_⟩
          rcases g2 with ⟨g3, rfl⟩ | ⟨g3, rfl⟩
          · have q2 := sNN_ok hM (sEv_sub ex f3) g3
            obtain rfl := Option.some.inj (eh.symm.trans (sEv_add f10 (sEv_C 1)))
            exact Or.inl ⟨by omega, rfl⟩
          · have q2 := sNN_ok hM (sEv_sub (sEv_sub f3 ex) (sEv_C 1)) g3
            obtain rfl := Option.some.inj (eh.symm.trans f10)
            exact Or.inr ⟨by omega, rfl⟩
      · cases h
    · cases h
  · cases h
theorem aDRe_ok (s zh zw zp : Nat) : kRok RO (aDRe s zh zw zp) := by
  intro K ws h ρ R hD
  have hM := hD.1
  unfold aDRe at h
  split at h
  · rename_i hl bd hf n p sd N w r hs hsd hN hw hr
    split at h
    · rename_i hc
      cases h
      obtain ⟨⟨k, fs⟩, hq, hany⟩ := List.any_eq_true.mp hc
      clear hc
      have hc := hany
      clear hany
      unfold aDRt at hc
      simp only [Bool.and_eq_true, decide_eq_true_eq] at hc
      obtain ⟨rfl, hc⟩ := hc
      split at hc
      · rename_i a b c d e g k' z' m' h' f'
        simp only [Bool.and_eq_true, Bool.or_eq_true, decide_eq_true_eq] at hc
        obtain ⟨rfl, rfl, rfl, rfl, rfl, rfl, c1, c2⟩ := hc
        obtain ⟨zs, fk, e1, hF, hP⟩ := aOf hD.2.2 hq (by decide) (by decide)
        obtain ⟨y1, y2, y3, y4, y5, y6, y7, y8, y9, y10, y11, rfl, f1, f2, f3, f4, f5, f6, f7, f8, f9, f10, f11⟩ := aVal_11 e1
        have hP : aDR (aGH R.2.2.2.1) y1 y2 y3 y4 y5 y6 y7 y8 y9 y10 y11 := hP
        obtain ⟨yN, eN⟩ := kLf_ok hD.2.1 hN
        obtain ⟨yw, ew⟩ := kLf_ok hD.2.1 hw
        have hX : aDX (aGH R.2.2.2.1) y1 y2 y3 y4 y5 y6 yN yw (if yw = 0 then y9 else if yw = 1 then y10 else y11) := by
          refine aDR_X hP ?_
          rcases c1 with ⟨c1, c3⟩ | c1 | c1
          · have q1 := kEqf_ok hM f7 eN c1
            have q2 := sNN_ok hM (sEv_sub eN (sEv_C 1)) c3
            exact Or.inl ⟨q1, by omega⟩
          · have q1 := sNN_ok hM (sEv_mul (-1) f5) c1
            exact Or.inr (Or.inl (by omega))
          · have q1 := sNN_ok hM (sEv_mul (-1) f4) c1
            exact Or.inr (Or.inr (by omega))
        have fin : ∀ {zr : Int}, sEv ρ r = some zr → zr = (if yw = 0 then y9 else if yw = 1 then y10 else y11) → ∃ p_1 ∈ [(([(134, [a, b, c, d, e, g, N, w, r])], []) : List kA × List (sL × Int × Int))], kGh (kGP (kUP RO)) ρ p_1.1 R.2.2.2.1 ∧ ∀ b ∈ p_1.2, ∃ z, sEv ρ b.1 = some z ∧ b.2.1 ≤ z ∧ z ≤ b.2.2 := fun {zr} er q => by
          refine ⟨_, List.mem_singleton.mpr rfl, aAt (fk := fk) (zs := [y1, y2, y3, y4, y5, y6, yN, yw, zr]) (by decide) (by decide) (by simp only [sVal, f1, f2, f3, f4, f5, f6, eN, ew, er]) hF ?_, fun b hb => by cases hb⟩
          rw [q]
          exact hX
        rcases c2 with ⟨c2, rfl⟩ | ⟨c2, rfl⟩ | ⟨c2, rfl⟩
        · have q := sK_ok hM.1 ew c2
          exact fin f9 (by rw [if_pos q])
        · have q := sK_ok hM.1 ew c2
          exact fin f10 (by rw [if_neg (by omega), if_pos q])
        · have q := sNN_ok hM (sEv_sub ew (sEv_C 2)) c2
          exact fin f11 (by rw [if_neg (by omega), if_neg (by omega)])
      · cases hc
    · cases h
  · cases h
end ADRW
end
