/-! The shortest way to say it: the reference's words; the answer. -/
section SFF
variable {RO : List (Nat × (Nat → Int32))} {ρ : List Int} {Γ : sG} {γ : List kA} {H : List eE}
theorem sfLTr_ok : kRok RO sfLTr := by
  intro K ws h ρ R hD
  have hM := hD.1
  unfold sfLTr at h
  split at h
  · rename_i k a o u hk ha ho hu
    split at h
    · rename_i hl b one x n N k0 a0 o0 hfa
      split at h
      · rename_i hc
        cases h
        simp only [Bool.and_eq_true, decide_eq_true_eq] at hc
        obtain ⟨c1, c2, c3, c4, c5, c6, c7⟩ := hc
        obtain ⟨yk, ek⟩ := kLf_ok hD.2.1 hk
        obtain ⟨ya, ea⟩ := kLf_ok hD.2.1 ha
        obtain ⟨yO, eO⟩ := kLf_ok hD.2.1 ho
        obtain ⟨hq, zs, e, h2⟩ := nFa_ok hD.2.2 hfa (by decide) (by decide)
        unfold sfLTq at hq
        obtain ⟨yh, yb, yo, yx, yn, yN, zr, rfl, eh, eb, eo, ex, en, eN, ez⟩ := sVal_6c e
        obtain ⟨y0, y1, y2, rfl, e0, e1, e2⟩ := sVal_3 ez
        obtain ⟨g, fn, fk, fl, f, hG, hW, hf, hx9, hN16, hT⟩ := sfLTe ((sfUQ (Or.inr (Or.inr ⟨by decide, by decide⟩))).mp h2)
        have d0 := sNN_ok hM (sEv_sub (sEv_sub ek e0) (sEv_C 1)) hq
        have d1 := sNN_ok hM (sEv_sub en ek) c1
        have dv := sfVa_ok hM hD.2.2 eN ea c2
        have d3 := sNN_ok hM eO c3
        have d4 := sNN_ok hM (sEv_sub ex eO) c4
        have d6 := sNN_ok hM ek c6
        obtain ⟨yu, eu, ku⟩ := kFindEl_ok hD.2.2 c5 (sfL_ev ek ea eO)
        have vu : (f (1700 * yk + 100 * ya + yO).toNat).toInt = yu := by
          rw [(kElA ku hf).2]
          exact n32i (sfRng _) (sWi_ok hM.1 eu c7) (by rw [Int32.ofInt_toInt])
        have fin := hT yk ya yO d6 (by show yk ≤ yn; omega) dv d3 (by show yO ≤ yx; omega) (Or.inl (by omega))
        rw [vu] at fin
        refine ⟨_, List.mem_singleton.mpr rfl, sfAr (Or.inr (Or.inl ⟨by decide, by decide⟩)) eh eb eo ex en eN (sfV4 ek ea eO eu) hG hW fin, fun b hb => ?_⟩
        rcases List.mem_singleton.mp hb with rfl
        refine ⟨yu, eu, ?_, ?_⟩
        · show 0 ≤ yu
          rcases fin with ⟨q, -⟩ | ⟨q, -⟩ <;> omega
        · show yu ≤ 9999
          rcases fin with ⟨q, -⟩ | ⟨-, q, -⟩ <;> omega
      · cases h
    · cases h
  · cases h
theorem sfPA {hl b one x n N k a o s : sL} {yh yb yo yx yn yN yk ya yO ys : Int} (e1 : sEv ρ hl = some yh) (e2 : sEv ρ b = some yb) (e3 : sEv ρ one = some yo) (e4 : sEv ρ x = some yx) (e5 : sEv ρ n = some yn) (e6 : sEv ρ N = some yN) (e7 : sEv ρ k = some yk) (e8 : sEv ρ a = some ya) (e9 : sEv ρ o = some yO) (e10 : sEv ρ s = some ys) {g : Nat → Int64} {fn fk fl : Nat → Int32} (hG : kLg 84 360 g H) (hW : nW3 fn fk fl H) (h0 : 0 ≤ yk) {b' : Int} (h : pT (pQ H g fn fk fl yh yb yo yx yn yN) yk.toNat (pA ya) b' yO ys) : kGh (kGP (kUP RO)) ρ [(313, [hl, b, one, x, n, N, k, a, o, s])] H := sfAr (Or.inr (Or.inr ⟨by decide, by decide⟩)) e1 e2 e3 e4 e5 e6 (sfV4 e7 e8 e9 e10) hG hW (show 0 ≤ yk ∧ ∃ b', pT (pQ H g fn fk fl yh yb yo yx yn yN) yk.toNat (pA ya) b' yO ys from ⟨h0, b', h⟩)
theorem sfPE (hg : kGh (kGP (kUP RO)) ρ γ H) {hl b one x n N k a o s : sL} {yh yb yo yx yn yN yk ya yO ys : Int} (e1 : sEv ρ hl = some yh) (e2 : sEv ρ b = some yb) (e3 : sEv ρ one = some yo) (e4 : sEv ρ x = some yx) (e5 : sEv ρ n = some yn) (e6 : sEv ρ N = some yN) (e7 : sEv ρ k = some yk) (e8 : sEv ρ a = some ya) (e9 : sEv ρ o = some yO) (e10 : sEv ρ s = some ys) (h : kHav γ 313 [hl, b, one, x, n, N, k, a, o, s] = true) : ∃ g fn fk fl b', kLg 84 360 g H ∧ nW3 fn fk fl H ∧ 0 ≤ yk ∧ pT (pQ H g fn fk fl yh yb yo yx yn yN) yk.toNat (pA ya) b' yO ys := by
  obtain ⟨zs, ez, g, fn, fk, fl, hG, hW, hP⟩ := sfHv hg (Or.inr (Or.inr ⟨by decide, by decide⟩)) e1 e2 e3 e4 e5 e6 h
  cases sfVe ez (sfV4 e7 e8 e9 e10)
  obtain ⟨h0, b', hT⟩ : 0 ≤ yk ∧ ∃ b', pT (pQ H g fn fk fl yh yb yo yx yn yN) yk.toNat (pA ya) b' yO ys := hP
  exact ⟨g, fn, fk, fl, b', hG, hW, h0, hT⟩
theorem sfBa16 {P : pP} {k : Int} : pBa P (pA 16) k = 0 := by
  unfold pBa
  rw [if_neg (by rw [show pA 16 = -1 by decide]; omega)]
theorem sfPTi_ok (zh zk zw : Nat) : kRok RO (sfPTi zh zk zw) := by
  intro K ws h ρ R hD
  have hM := hD.1
  unfold sfPTi at h
  split at h
  · rename_i hl b one x n N a o k hQ ha ho hk hno
    split at h
    · rename_i u hu
      split at h
      · rename_i hc
        cases h
        simp only [Bool.and_eq_true, decide_eq_true_eq] at hc
        obtain ⟨rfl, rfl, rfl, c4, c5, c6, c7⟩ := hc
        obtain ⟨-, yh, yb, yo, yx, yn, yN, eh, eb, eo, ex, en, eN, hS, hN⟩ := sfM_ok hD (fun _ hy => kLf_ok hD.2.1 hy) hQ
        obtain ⟨yu, eu, g, fn, fk, fl, hG, hW, hL⟩ := sfLs_ok hD.2.2 eh eb eo ex en eN (sEv_C 0) (sEv_C 16) (sEv_C 0) hu
        rw [sfBa16] at hL
        have d4 := sNN_ok hM eu c4
        have d5 := sNN_ok hM (sEv_sub (sEv_C 9998) eu) c5
        have d7 := sNN_ok hM en c7
        obtain ⟨hL9, hN16, hn8⟩ := sfLm_ok hD en eN c6 hW (g := g) (yh := yh) (yb := yb) (yo := yo) (yx := yx)
        rcases hL with ⟨q, -⟩ | ⟨-, -, hLe⟩
        · omega
        · have hr := pW_rng hL9 hN16 (by show 0 ≤ yn; omega) hLe.1
          have hr2 : yu ≤ 9 * (yn - 0) := hr.2
          refine ⟨_, List.mem_singleton.mpr rfl, sfPA eh eb eo ex en eN (sEv_C 0) (sEv_C 16) (sEv_C 0) eu hG hW (by decide) (b' := 0) (show pT _ 0 (pA 16) 0 0 yu from ⟨by decide, rfl, rfl, hLe⟩), fun b hb => ?_⟩
          rcases List.mem_singleton.mp hb with rfl
          exact ⟨yu, eu, d4, (by omega : yu ≤ 99)⟩
      · cases h
    · cases h
  · cases h
theorem sfPTl_ok (zh zk zw : Nat) : kRok RO (sfPTl zh zk zw) := by
  intro K ws h ρ R hD
  have hM := hD.1
  unfold sfPTl at h
  split at h
  · rename_i hl b one x n N a o k u hQ ha ho hk hu
    split at h
    · rename_i x1 x2 x3 x4 x5 x6 x7 x8 x9 s hfa
      split at h
      · rename_i hc
        cases h
        simp only [Bool.and_eq_true] at hc
        obtain ⟨-, c2, c3, c4, c5⟩ := hc
        obtain ⟨-, yh, yb, yo, yx, yn, yN, eh, eb, eo, ex, en, eN, hS, hN⟩ := sfM_ok hD (fun _ hy => kLf_ok hD.2.1 hy) hQ
        obtain ⟨yk, ek⟩ := kLf_ok hD.2.1 hk
        obtain ⟨ya, ea⟩ := kLf_ok hD.2.1 ha
        obtain ⟨yO, eO⟩ := kLf_ok hD.2.1 ho
        obtain ⟨yu, eu⟩ := nTop_ev hD.2.1 hu
        have d3 := sNN_ok hM (sEv_sub (sEv_sub en ek) (sEv_C 1)) c3
        have d4 := sNN_ok hM ex c4
        obtain ⟨fs, hfs, zs, ez, g, fn, fk, fl, hG, hW, hP⟩ := sfFa hD.2.2 (Or.inr (Or.inr ⟨by decide, by decide⟩)) eh eb eo ex en eN (q := [k, a, o]) (fun _ hq => hq) hfa
        simp only [List.cons_append, List.nil_append, List.cons.injEq] at hfs
        obtain ⟨-, -, -, -, -, -, -, -, -, hfs⟩ := hfs
        subst hfs
        obtain ⟨y1, y2, y3, ys, rfl, f1, f2, f3, es⟩ := sVal_4 ez
        cases f1.symm.trans ek
        cases f2.symm.trans ea
        cases f3.symm.trans eO
        obtain ⟨k0, b', hT⟩ : 0 ≤ yk ∧ ∃ b', pT (pQ R.2.2.2.1 g fn fk fl yh yb yo yx yn yN) yk.toNat (pA ya) b' yO ys := hP
        have hk2 : ((yk.toNat : Nat) : Int) = yk := by omega
        obtain ⟨-, -, -, hLe⟩ := pT_le sfFn d4 _ hT
        have hb := pT_ba (by rw [hk2]; show yk < yn; omega) hT
        rw [hk2] at hb hLe
        obtain ⟨zs2, ez2, hC2⟩ := sfHv hD.2.2 (Or.inr (Or.inl ⟨by decide, by decide⟩)) eh eb eo ex en eN c5
        cases sfVe ez2 (sfV4 ek ea eO eu)
        have hLs : pLs (pQ R.2.2.2.1 g fn fk fl yh yb yo yx yn yN) yk (pBa (pQ R.2.2.2.1 g fn fk fl yh yb yo yx yn yN) (pA ya) yk) yO yu := sfPt hG hW hC2
        rw [← hb] at hLs
        have hus : yu = ys := by
          rcases hLs with ⟨-, q⟩ | ⟨-, -, q⟩
          · exact absurd hLe.1 (q ys)
          · exact pLe_one q hLe
        obtain ⟨z, ez3, z0, z99⟩ := sWf_has hM c2
        cases ez3.symm.trans es
        refine ⟨_, List.mem_singleton.mpr rfl, sfPA eh eb eo ex en eN ek ea eO eu hG hW k0 (by rw [hus]; exact hT), fun b hb => ?_⟩
        rcases List.mem_singleton.mp hb with rfl
        exact ⟨yu, eu, by show 0 ≤ yu; omega, by show yu ≤ 99; omega⟩
      · cases h
    · cases h
  · cases h
theorem sfFMi_ok (zh zk zw : Nat) : kRok RO (sfFMi zh zk zw) := by
  intro K ws h ρ R hD
  have hM := hD.1
  unfold sfFMi at h
  split at h
  · rename_i hl b one x n N a o k l m w hQ ha ho hk hl' hm hw hno
    split at h
    · rename_i hc
      cases h
      simp only [Bool.and_eq_true] at hc
      obtain ⟨-, -, c3⟩ := hc
      obtain ⟨-, yh, yb, yo, yx, yn, yN, eh, eb, eo, ex, en, eN, hS, hN⟩ := sfM_ok hD (fun _ hy => kLf_ok hD.2.1 hy) hQ
      obtain ⟨yk, ek⟩ := kLf_ok hD.2.1 hk
      obtain ⟨ya, ea⟩ := kLf_ok hD.2.1 ha
      obtain ⟨yO, eO⟩ := kLf_ok hD.2.1 ho
      obtain ⟨yl, el⟩ := kLf_ok hD.2.1 hl'
      obtain ⟨g, fn, fk, fl, b', hG, hW, -, -⟩ := sfPE hD.2.2 eh eb eo ex en eN ek ea eO el c3
      exact ⟨_, List.mem_singleton.mpr rfl, sfFWa (k := 317) ⟨by decide, by decide⟩ eh eb eo ex en eN ek ea eO el (sEv_C 0) hG hW (show pFw _ yk _ yO yl 0 from fun w' h0 h1 => by omega), fun b hb => by cases hb⟩
    · cases h
  · cases h
theorem sfFMs_ok (zh zk zw : Nat) : kRok RO (sfFMs zh zk zw) := by
  intro K ws h ρ R hD
  have hM := hD.1
  unfold sfFMs at h
  split at h
  · rename_i hl b one x n N a o k l m w hQ ha ho hk hl' hm hw
    split at h
    · rename_i hc
      simp only [Bool.and_eq_true] at hc
      obtain ⟨c1, c2, c3, c4, c5, c6⟩ := hc
      obtain ⟨-, yh, yb, yo, yx, yn, yN, eh, eb, eo, ex, en, eN, hS, hN⟩ := sfM_ok hD (fun _ hy => kLf_ok hD.2.1 hy) hQ
      obtain ⟨yk, ek⟩ := kLf_ok hD.2.1 hk
      obtain ⟨ya, ea⟩ := kLf_ok hD.2.1 ha
      obtain ⟨yO, eO⟩ := kLf_ok hD.2.1 ho
      obtain ⟨yl, el⟩ := kLf_ok hD.2.1 hl'
      obtain ⟨yw, ew⟩ := kLf_ok hD.2.1 hw
      have d3 := sNN_ok hM ew c3
      have d4 := sNN_ok hM (sEv_sub (sEv_sub eN ew) (sEv_C 1)) c4
      have d5 := sNN_ok hM (sEv_sub (sEv_sub en ek) (sEv_C 1)) c5
      have d6 := sNN_ok hM ex c6
      obtain ⟨g, fn, fk, fl, b', hG, hW, k0', hT⟩ := sfPE hD.2.2 eh eb eo ex en eN ek ea eO el c2
      have hk2 : ((yk.toNat : Nat) : Int) = yk := by omega
      obtain ⟨-, -, -, hLe⟩ := pT_le sfFn d6 _ hT
      have hb := pT_ba (by rw [hk2]; show yk < yn; omega) hT
      rw [hk2] at hb hLe
      rw [hb] at hLe
      have hFw : pFw (pQ R.2.2.2.1 g fn fk fl yh yb yo yx yn yN) yk (pBa (pQ R.2.2.2.1 g fn fk fl yh yb yo yx yn yN) (pA ya) yk) yO yl yw := sfPt hG hW (sfFXe hD.2.2 (k := 317) ⟨by decide, by decide⟩ eh eb eo ex en eN ek ea eO el ew c1)
      have key : ∀ {t : Bool}, sfFm K hl b one x n N k a o l w (kLf K.1.2.1 9) = some t → (t = true ↔ pF (pQ R.2.2.2.1 g fn fk fl yh yb yo yx yn yN) yk (pBa (pQ R.2.2.2.1 g fn fk fl yh yb yo yx yn yN) (pA ya) yk) yO yl yw) := fun {t} ht => by
        unfold sfFm at ht
        split at ht
        · rename_i hki
          cases ht
          obtain ⟨-, -, -, -, hiff⟩ := sfKi_ok hM hD.2.2 hG hW hS ew ek en hki
          exact ⟨fun q => (by cases q), fun q => absurd (hiff.mpr q.1) Bool.false_ne_true⟩
        · rename_i hki
          obtain ⟨w0, w16, p0, p1, hiff⟩ := sfKi_ok hM hD.2.2 hG hW hS ew ek en hki
          have hkin := hiff.mp rfl
          split at ht
          · rename_i gg hgn
            obtain ⟨zg, eg, hgg⟩ := sfGn_ok hD.2.2 eh ew ek ea eo (yx := yx) (yn := yn) (yN := yN) hW hkin hgn
            have ey := sEv_add eO eg
            split at ht
            · rename_i hfar
              cases ht
              rw [Bool.and_eq_true] at hfar
              have e1 := sNN_ok hM (sEv_sub (sEv_sub ey ex) (sEv_C 1)) hfar.1
              have e2 := sNN_ok hM ex hfar.2
              exact ⟨fun q => (by cases q), fun q => absurd q (pF_far sfFn hgg (by show yx < max 0 (yO + zg); omega))⟩
            · split at ht
              · rename_i th ln hth hln
                split at ht
                · rename_i u hu
                  split at ht
                  · rename_i hc2
                    simp only [Bool.and_eq_true] at hc2
                    obtain ⟨f1, f2, f3, f4⟩ := hc2
                    have eth := aIsp_ok hM ey f1
                    have dx := sNN_ok hM (sEv_sub ex eth) f2
                    obtain ⟨zl, ezl, kl⟩ := kFindEl_ok hD.2.2 hln ew
                    have hl9 : (fl yw.toNat).toInt = zl := n32i (sfRng _) (sWi_ok hM.1 ezl f3) (by rw [Int32.ofInt_toInt]; exact (kElA kl hW.2.2).2)
                    have dl := sNN_ok hM ezl f4
                    obtain ⟨yu, eu, hC⟩ := sfLs_ok hD.2.2 eh eb eo ex en eN (sEv_add ek (sEv_C 1)) ew eth hu
                    have hLs := sfPt hG hW hC
                    have hA : pA yw = yw := if_pos ⟨w0, w16⟩
                    rw [hA, pBa_b w0] at hLs
                    have hF : ∀ s, pF (pQ R.2.2.2.1 g fn fk fl yh yb yo yx yn yN) yk (pBa (pQ R.2.2.2.1 g fn fk fl yh yb yo yx yn yN) (pA ya) yk) yO s yw ↔ pW (pQ R.2.2.2.1 g fn fk fl yh yb yo yx yn yN) (yk + 1) (pBb (pQ R.2.2.2.1 g fn fk fl yh yb yo yx yn yN) yw (yk + 1)) (max 0 (yO + zg)) (s - zl) := fun s => by
                      have q := pF_ls (P := pQ R.2.2.2.1 g fn fk fl yh yb yo yx yn yN) (s := s) sfFn hkin hgg (by show max 0 (yO + zg) ≤ yx; omega)
                      rw [show pLg (pQ R.2.2.2.1 g fn fk fl yh yb yo yx yn yN) yw.toNat = zl from hl9] at q
                      exact q
                    have ei := sEv_add ezl eu
                    split at ht
                    · rename_i hq
                      cases ht
                      rw [Bool.and_eq_true] at hq
                      have q1 := kEqf_ok hM ei el hq.1
                      have q2 := sNN_ok hM (sEv_sub (sEv_C 99) el) hq.2
                      refine ⟨fun _ => (hF yl).mpr ?_, fun _ => rfl⟩
                      rcases hLs with ⟨q, -⟩ | ⟨-, -, q⟩
                      · omega
                      · rw [show yl - zl = yu by omega]
                        exact q.1
                    · split at ht
                      · rename_i hq
                        cases ht
                        have q1 := nNe_ok hM ei el hq
                        refine ⟨fun q => (by cases q), fun q => ?_⟩
                        have q2 := (hF yl).mp q
                        exfalso
                        rcases hLs with ⟨-, q3⟩ | ⟨-, -, q3⟩
                        · exact q3 _ q2
                        · have a1 : ¬ yl - zl < yu := fun c => q3.2 _ c q2
                          have a2 : ¬ yu + zl < yl := fun c => hLe.2 _ c ((pW_step (by show yk < yn; omega)).mpr ⟨yw, d3, by show yw < yN; omega, (hF _).mpr (by rw [show yu + zl - zl = yu by omega]; exact q3.1)⟩)
                          omega
                      · cases ht
                  · cases ht
                · cases ht
              · cases ht
          · cases ht
        · cases ht
      split at h
      · rename_i ht
        split at h
        · cases h
          exact ⟨_, List.mem_singleton.mpr rfl, sfFWa (k := 317) ⟨by decide, by decide⟩ eh eb eo ex en eN ek ea eO el (sEv_add ew (sEv_C 1)) hG hW (show pFw _ yk _ yO yl (yw + 1) from pFw_s hFw (fun q => Bool.false_ne_true ((key ht).mpr q))), fun b hb => by cases hb⟩
        · cases h
      · rename_i ht
        split at h
        · cases h
          exact ⟨_, List.mem_singleton.mpr rfl, sfFWa (k := 318) ⟨by decide, by decide⟩ eh eb eo ex en eN ek ea eO el ew hG hW (show 0 ≤ yw ∧ yw < yN ∧ pF (pQ R.2.2.2.1 g fn fk fl yh yb yo yx yn yN) yk (pBa (pQ R.2.2.2.1 g fn fk fl yh yb yo yx yn yN) (pA ya) yk) yO yl yw ∧ pFw (pQ R.2.2.2.1 g fn fk fl yh yb yo yx yn yN) yk (pBa (pQ R.2.2.2.1 g fn fk fl yh yb yo yx yn yN) (pA ya) yk) yO yl yw from ⟨d3, by omega, (key ht).mp rfl, hFw⟩), fun b hb => by cases hb⟩
        · cases h
      · cases h
    · cases h
  · cases h
theorem sfFMe_ok (zh zk zw : Nat) : kRok RO (sfFMe zh zk zw) := by
  intro K ws h ρ R hD
  have hM := hD.1
  unfold sfFMe at h
  split at h
  · rename_i hl b one x n N a o k l m hQ ha ho hk hl' hm
    split at h
    · rename_i hc
      cases h
      simp only [Bool.and_eq_true] at hc
      obtain ⟨-, c2, c3, c4, c5⟩ := hc
      obtain ⟨-, yh, yb, yo, yx, yn, yN, eh, eb, eo, ex, en, eN, hS, hN⟩ := sfM_ok hD (fun _ hy => kLf_ok hD.2.1 hy) hQ
      obtain ⟨yk, ek⟩ := kLf_ok hD.2.1 hk
      obtain ⟨ya, ea⟩ := kLf_ok hD.2.1 ha
      obtain ⟨yO, eO⟩ := kLf_ok hD.2.1 ho
      obtain ⟨yl, el⟩ := kLf_ok hD.2.1 hl'
      have d3 := sNN_ok hM (sEv_sub (sEv_sub en ek) (sEv_C 1)) c3
      have d4 := sNN_ok hM ex c4
      obtain ⟨g, fn, fk, fl, b', hG, hW, k0', hT⟩ := sfPE hD.2.2 eh eb eo ex en eN ek ea eO el c2
      have hk2 : ((yk.toNat : Nat) : Int) = yk := by omega
      have hb := pT_ba (by rw [hk2]; show yk < yn; omega) hT
      obtain ⟨w2, a1, a2, a3⟩ := pT_fit sfFn d4 hT (by rw [hk2]; show yk < yn; omega)
      rw [hk2] at hb a3
      rw [hb] at a3
      obtain ⟨gs, hgs⟩ := Option.isSome_iff_exists.mp c5
      obtain ⟨fs, hfs, zs, ez, hC⟩ := sfFa hD.2.2 (Or.inr (Or.inr ⟨by decide, by decide⟩)) eh eb eo ex en eN (q := [k, a, o, l]) (fun _ hq => (Bool.and_eq_true_iff.mp hq).1) hgs
      have hq := (Bool.and_eq_true_iff.mp (kFa_ok hD.2.2 hgs (by decide)).1).2
      subst hfs
      exfalso
      split at hq
      · rename_i x1 x2 x3 x4 x5 x6 x7 x8 x9 x10 w hm2
        simp only [List.cons_append, List.nil_append, List.cons.injEq] at hm2
        obtain ⟨-, -, -, -, -, -, -, -, -, -, rfl⟩ := hm2
        obtain ⟨y1, y2, y3, y4, yw, rfl, f1, f2, f3, f4, ew⟩ := sVal_5 ez
        cases f1.symm.trans ek
        cases f2.symm.trans ea
        cases f3.symm.trans eO
        cases f4.symm.trans el
        have dw := sNN_ok hM (sEv_sub ew eN) hq
        have hFw : pFw (pQ R.2.2.2.1 g fn fk fl yh yb yo yx yn yN) yk (pBa (pQ R.2.2.2.1 g fn fk fl yh yb yo yx yn yN) (pA ya) yk) yO yl yw := sfPt hG hW hC
        have a2 : w2 < yN := a2
        exact hFw w2 a1 (by omega) a3
      · cases hq
    · cases h
  · cases h
theorem sfPTs_ok (zh zk zw : Nat) : kRok RO (sfPTs zh zk zw) := by
  intro K ws h ρ R hD
  have hM := hD.1
  unfold sfPTs at h
  split at h
  · rename_i hl b one x n N a o k l hQ ha ho hk hl'
    split at h
    · rename_i x1 x2 x3 x4 x5 x6 x7 a0 o0 x8 hfa
      split at h
      · rename_i gg ln hgn hln
        split at h
        · rename_i hc
          cases h
          simp only [Bool.and_eq_true] at hc
          obtain ⟨c1, c2, c3, c4, c5, c6, c7⟩ := hc
          obtain ⟨-, yh, yb, yo, yx, yn, yN, eh, eb, eo, ex, en, eN, hS, hN⟩ := sfM_ok hD (fun _ hy => kLf_ok hD.2.1 hy) hQ
          obtain ⟨yk, ek⟩ := kLf_ok hD.2.1 hk
          obtain ⟨ya, ea⟩ := kLf_ok hD.2.1 ha
          obtain ⟨yl, el⟩ := kLf_ok hD.2.1 hl'
          have d4 := sNN_ok hM (sEv_sub (sEv_sub en ek) (sEv_C 1)) c4
          have d5 := sNN_ok hM (sEv_sub (sEv_C 99) el) c5
          have d7 := sNN_ok hM ex c7
          have hq := (Bool.and_eq_true_iff.mp (kFa_ok hD.2.2 hfa (by decide)).1).2
          simp only [Bool.and_eq_true, decide_eq_true_eq] at hq
          obtain ⟨rfl, rfl⟩ := hq
          obtain ⟨fs, hfs, zs, ez, g, fn, fk, fl, hG, hW, hP⟩ := sfFa hD.2.2 (Or.inr (Or.inr ⟨by decide, by decide⟩)) eh eb eo ex en eN (q := []) (fun _ hq => (Bool.and_eq_true_iff.mp hq).1) hfa
          simp only [List.nil_append, List.cons.injEq] at hfs
          obtain ⟨-, -, -, -, -, -, hfs⟩ := hfs
          subst hfs
          obtain ⟨y1, ya0, yo0, y4, rfl, f1, ea0, eo0, f4⟩ := sVal_4 ez
          cases f1.symm.trans ek
          cases f4.symm.trans el
          obtain ⟨k0, b', hT⟩ : 0 ≤ yk ∧ ∃ b', pT (pQ R.2.2.2.1 g fn fk fl yh yb yo yx yn yN) yk.toNat (pA ya0) b' yo0 yl := hP
          have hk2 : ((yk.toNat : Nat) : Int) = yk := by omega
          have hb := pT_ba (by rw [hk2]; show yk < yn; omega) hT
          rw [hk2] at hb
          obtain ⟨w0, w1, hF, hFw⟩ : 0 ≤ ya ∧ ya < yN ∧ pF (pQ R.2.2.2.1 g fn fk fl yh yb yo yx yn yN) yk (pBa (pQ R.2.2.2.1 g fn fk fl yh yb yo yx yn yN) (pA ya0) yk) yo0 yl ya ∧ pFw (pQ R.2.2.2.1 g fn fk fl yh yb yo yx yn yN) yk (pBa (pQ R.2.2.2.1 g fn fk fl yh yb yo yx yn yN) (pA ya0) yk) yo0 yl ya := sfPt hG hW (sfFXe hD.2.2 (k := 318) ⟨by decide, by decide⟩ eh eb eo ex en eN ek ea0 eo0 el ea c2)
          have hkin : (fk ya.toNat).toInt = jW g yb yk.toNat := hF.1
          obtain ⟨zg, eg, hgg⟩ := sfGn_ok hD.2.2 eh ea ek ea0 eo (yx := yx) (yn := yn) (yN := yN) hW hkin hgn
          rw [← hb] at hF hFw hgg
          have eO := aIsp_ok hM (sEv_add eo0 eg) c3
          obtain ⟨zl, ezl, kl⟩ := kFindEl_ok hD.2.2 hln ea
          have hl9 : (fl ya.toNat).toInt = zl := n32i (sfRng _) (sWi_ok hM.1 ezl c1) (by rw [Int32.ofInt_toInt]; exact (kElA kl hW.2.2).2)
          obtain ⟨hL9, hN16, hn8⟩ := sfLm_ok hD en eN c6 hW (g := g) (yh := yh) (yb := yb) (yo := yo) (yx := yx)
          have hA : pA ya = ya := if_pos ⟨w0, by omega⟩
          have hT2 : pT (pQ R.2.2.2.1 g fn fk fl yh yb yo yx yn yN) (yk + 1).toNat (pA ya) (if ((yk.toNat : Nat) : Int) + 1 < yn then pBb (pQ R.2.2.2.1 g fn fk fl yh yb yo yx yn yN) ya ((yk.toNat : Nat) + 1) else 0) (max 0 (yo0 + zg)) (yl - zl) := by
            rw [show (yk + 1).toNat = yk.toNat + 1 by omega, hA]
            exact ⟨by rw [hk2]; show yk < yn; omega, _, _, _, _, zg, hT, w0, w1, by rw [hk2]; exact hF, by rw [hk2]; exact hFw, by rw [hk2]; exact hgg, rfl, by show yl - zl = yl - (fl ya.toNat).toInt; rw [hl9], rfl⟩
          obtain ⟨-, -, -, hLe⟩ := pT_le sfFn d7 _ hT2
          have hr := pW_rng hL9 hN16 (by rw [show (((yk + 1).toNat : Nat) : Int) = yk + 1 by omega]; show yk + 1 ≤ yn; omega) hLe.1
          have hl0 : 0 ≤ zl := by
            have := (hL9 ya.toNat (by omega)).1
            have e : pLg (pQ R.2.2.2.1 g fn fk fl yh yb yo yx yn yN) ya.toNat = zl := hl9
            omega
          refine ⟨_, List.mem_singleton.mpr rfl, sfPA eh eb eo ex en eN (sEv_add ek (sEv_C 1)) ea eO (sEv_sub el ezl) hG hW (by omega) hT2, fun b hb => ?_⟩
          rcases List.mem_singleton.mp hb with rfl
          exact ⟨_, sEv_sub el ezl, hr.1, by show yl - zl ≤ 99; omega⟩
        · cases h
      · cases h
    · cases h
  · cases h
theorem sfSWm_ok (zh zk zw : Nat) : kRok RO (sfSWm zh zk zw) := by
  intro K ws h ρ R hD
  have hM := hD.1
  unfold sfSWm at h
  split at h
  · rename_i hl b one x n N kq r hQ hkq hr
    split at h
    · rename_i hc
      cases h
      simp only [Bool.and_eq_true] at hc
      obtain ⟨c1, c2, c3, c4⟩ := hc
      obtain ⟨-, yh, yb, yo, yx, yn, yN, eh, eb, eo, ex, en, eN, hS, hN⟩ := sfM_ok hD (fun _ hy => kLf_ok hD.2.1 hy) hQ
      obtain ⟨yq, eq⟩ := kLf_ok hD.2.1 hkq
      have d1 := sNN_ok hM eq c1
      have d3 := sNN_ok hM ex c3
      obtain ⟨gs, hgs⟩ := Option.isSome_iff_exists.mp c4
      obtain ⟨fs, hfs, zs, ez, g, fn, fk, fl, hG, hW, hP⟩ := sfFa hD.2.2 (Or.inr (Or.inr ⟨by decide, by decide⟩)) eh eb eo ex en eN (q := []) (fun _ hq => (Bool.and_eq_true_iff.mp hq).1) hgs
      have hq := (Bool.and_eq_true_iff.mp (kFa_ok hD.2.2 hgs (by decide)).1).2
      subst hfs
      split at hq
      · rename_i x1 x2 x3 x4 x5 x6 k a o s hm2
        simp only [List.nil_append, List.cons.injEq] at hm2
        obtain ⟨-, -, -, -, -, -, rfl⟩ := hm2
        rw [Bool.and_eq_true, decide_eq_true_eq] at hq
        obtain ⟨q1, rfl⟩ := hq
        obtain ⟨yk, ya, yO, ys, rfl, ek, ea, eO, es⟩ := sVal_4 ez
        have e1 := kEqf_ok hM ek (sEv_add eq (sEv_C 1)) q1
        subst e1
        obtain ⟨k0, b', hT⟩ : 0 ≤ yq + 1 ∧ ∃ b', pT (pQ R.2.2.2.1 g fn fk fl yh yb yo yx yn yN) (yq + 1).toNat (pA ya) b' yO ys := hP
        have hle := (pT_le sfFn d3 _ hT).1
        have hle : ((yq + 1).toNat : Int) ≤ max 0 yn := hle
        have hA : pA ya = ya ∧ 0 ≤ ya ∧ ya ≤ 15 := by
          rcases pT_b _ hT with ⟨q, -⟩ | ⟨-, q, -⟩
          · omega
          · unfold pA at q ⊢
            split at q
            · rename_i c
              rw [if_pos c]
              exact ⟨rfl, c.1, by omega⟩
            · omega
        rw [hA.1] at hT
        refine ⟨_, List.mem_singleton.mpr rfl, sfSWa eh eb eo ex en eN eq ea ⟨g, fn, fk, fl, hG, hW, d1, Or.inr (Or.inr ⟨by show yq < yn; omega, _, _, _, hT⟩)⟩, fun b hb => ?_⟩
        rcases List.mem_singleton.mp hb with rfl
        exact ⟨ya, ea, hA.2.1, hA.2.2⟩
      · cases hq
    · cases h
  · cases h
theorem sfSXr_ok (zh zk zw : Nat) : kRok RO (sfSXr zh zk zw) := by
  intro K ws h ρ R hD
  have hM := hD.1
  unfold sfSXr at h
  split at h
  · rename_i ox kq r hox hkq hr
    obtain ⟨yox, eox⟩ := kLf_ok hD.2.1 hox
    obtain ⟨yq, eq⟩ := kLf_ok hD.2.1 hkq
    obtain ⟨yr, er⟩ := nTop_ev hD.2.1 hr
    split at h
    · rename_i hl b one x n N hQ
      split at h
      · rename_i b2 le n2 u hkn hu
        split at h
        · rename_i hone
          obtain ⟨hx, yh, yb, yo, yx, yn, yN, eh, eb, eo, ex, en, eN, hS, hN⟩ := sfM_ok hD (fun y hy => ⟨_, nDl_ok hM eox (sEv_C 100) hy⟩) hQ
          cases ex.symm.trans (nDl_ok hM eox (sEv_C 100) hx)
          cases eo.symm.trans (nDl_ok hM eox (sEv_C 100) (of_decide_eq_true hone))
          have hKN : ∃ zl, sEv ρ le = some zl ∧ pNK R.2.2.2.1 yb zl yn := sfKNe hD.2.2 eb en hkn
          obtain ⟨zl, el, hNK⟩ := hKN
          obtain ⟨yu, eu, g, fn, fk, fl, hG, hW, hLs⟩ := sfLs_ok hD.2.2 eh eb eo ex en eN (sEv_C 0) (sEv_C 16) (sEv_C 0) hu
          rw [sfBa16] at hLs
          split at h
          · rename_i hc
            cases h
            refine ⟨_, List.mem_singleton.mpr rfl, sfSXa eh eb el eox eN eq er hNK ?_, fun b hb => by cases hb⟩
            unfold sfXc at hc
            split at hc
            · rename_i hr2
              subst hr2
              cases er.symm.trans (sEv_C (-2))
              refine ⟨g, fn, fk, fl, hG, hW, ?_⟩
              rcases Bool.or_eq_true_iff.mp hc with c | c
              · have d := sNN_ok hM (sEv_sub eu (sEv_C 9999)) c
                have hno : ∀ s, ¬ pW (pQ R.2.2.2.1 g fn fk fl yh yb (sOp 9 yox 100) (sOp 10 yox 100) yn yN) 0 0 0 s := by
                  rcases hLs with ⟨-, q⟩ | ⟨-, q, -⟩
                  · exact q
                  · omega
                by_cases hq0 : yq < 0
                · exact Or.inl ⟨hq0, Or.inl ⟨rfl, hno⟩⟩
                · exact Or.inr ⟨by omega, Or.inl ⟨hno, rfl⟩⟩
              · rw [Bool.and_eq_true] at c
                have d1 := sNN_ok hM (sEv_sub eq en) c.1
                have d2 := sNN_ok hM en c.2
                exact Or.inr ⟨by omega, Or.inr (Or.inl ⟨by show yn ≤ yq; omega, rfl⟩)⟩
            · split at hc
              · rename_i hneg
                have d := sNN_ok hM (sEv_sub (sEv_C (-1)) eq) hneg
                simp only [Bool.and_eq_true, decide_eq_true_eq] at hc
                obtain ⟨rfl, c2, c3⟩ := hc
                cases er.symm.trans eu
                have d2 := sNN_ok hM (sEv_sub (sEv_C 9998) er) c2
                have d3 := sNN_ok hM er c3
                refine ⟨g, fn, fk, fl, hG, hW, Or.inl ⟨by omega, Or.inr ⟨d3, ?_⟩⟩⟩
                rcases hLs with ⟨q, -⟩ | ⟨-, -, q⟩
                · omega
                · exact q
              · rw [Bool.and_eq_true] at hc
                obtain ⟨g', fn', fk', fl', hG', hW', hP⟩ := sfSWx hD.2.2 eh eb eo ex en eN eq er hc.1
                exact ⟨g', fn', fk', fl', hG', hW', Or.inr hP⟩
          · cases h
        · cases h
      · cases h
    · cases h
  · cases h
theorem pNK_one {b le n n' : Int} (h : pNK H b le n) (h' : pNK H b le n') : n = n' := by
  obtain ⟨g, h1, h2, h3, h4, h5, h6, h7⟩ := h
  obtain ⟨g', k1, k2, k3, k4, k5, k6, k7⟩ := h'
  cases kLg_one h1 k1
  by_cases a : n < n'
  · have q := k6 n.toNat (by omega)
    rcases h7 with h7 | h7 | h7
    · omega
    · omega
    · exact absurd q h7
  · by_cases c : n' < n
    · have q := h6 n'.toNat (by omega)
      rcases k7 with k7 | k7 | k7
      · omega
      · omega
      · exact absurd q k7
    · omega
theorem sfFun {zs : List Int} {r r' : Int} (h : nUP 320 (zs ++ [r]) H) (h' : nUP 320 (zs ++ [r']) H) : r = r' := by
  obtain ⟨hl, b, le, ox, N, kq, r1, p1, n, p2, g, fn, fk, fl, hG, hW, p3⟩ : ∃ hl b le ox N kq r1, zs ++ [r] = [hl, b, le, ox, N, kq, r1] ∧ ∃ n, pNK H b le n ∧ pC H hl b (sOp 9 ox 100) (sOp 10 ox 100) n N (fun P => pSx P kq r1) := (sfUP (by decide)).mp h
  obtain ⟨hl', b', le', ox', N', kq', r1', q1, n', q2, q3⟩ : ∃ hl b le ox N kq r1, zs ++ [r'] = [hl, b, le, ox, N, kq, r1] ∧ ∃ n, pNK H b le n ∧ pC H hl b (sOp 9 ox 100) (sOp 10 ox 100) n N (fun P => pSx P kq r1) := (sfUP (by decide)).mp h'
  obtain ⟨h1, h2⟩ := List.append_inj' (show zs ++ [r] = [hl, b, le, ox, N, kq] ++ [r1] from p1) rfl
  obtain ⟨h3, h4⟩ := List.append_inj' (show zs ++ [r'] = [hl', b', le', ox', N', kq'] ++ [r1'] from q1) rfl
  cases h2
  cases h4
  subst h1
  cases h3
  cases pNK_one p2 q2
  exact pSx_one sfFn p3 (sfPt hG hW q3)
theorem sfSame_ok {kd : Nat} (hk : kd = 320) {K : kS} {L : List kS} (h : nSame kd K = some L) {ρ : List Int} {R : eR} (hD : kD (kGP (kUP RO)) ρ K R) : ∃ K' ∈ L, ∃ ρ', ρ <+: ρ' ∧ kD (kGP (kUP RO)) ρ' K' R := by
  subst hk
  have same : ∀ K0 : kS, K0 = K → some [K0] = some L → ∃ K' ∈ L, ∃ ρ', ρ <+: ρ' ∧ kD (kGP (kUP RO)) ρ' K' R := fun K0 e g => by
    cases g
    subst e
    exact ⟨_, List.mem_singleton.mpr rfl, ρ, List.prefix_refl _, hD⟩
  unfold nSame at h
  split at h
  · rename_i pc ls r st G c s Γ γ
    split at h
    · rename_i fs hfa
      split at h
      · rename_i q hq
        split at h
        · rename_i x hx
          split at h
          · exact same _ rfl h
          · cases h
            obtain ⟨p1, zs, e1, e2⟩ := nFa_ok hD.2.2 hfa (by decide) (by decide)
            have p1 := of_decide_eq_true p1
            obtain ⟨ys, hys⟩ := List.getLast?_eq_some_iff.mp hq
            have hqm : q ∈ γ.filter (fun q => decide (q.1 = 320) && decide (q.2.dropLast = fs.dropLast)) := by rw [hys]; simp
            obtain ⟨hqn, hc⟩ := List.mem_filter.mp hqm
            clear hqm
            simp only [Bool.and_eq_true, decide_eq_true_eq] at hc
            obtain ⟨k, gs⟩ := q
            simp only at hc hx
            obtain ⟨rfl, hc⟩ := hc
            obtain ⟨ys2, e3, e4⟩ := hD.2.2 _ hqn
            have e4 := nGP (show 53 ≤ 320 by decide) (show 320 < 1000 by decide) e4
            simp only at e3
            rw [nLst p1] at e1
            rw [nLst hx, hc] at e3
            obtain ⟨us, vs, rfl, f1, f2⟩ := sVal_appR e1
            obtain ⟨us', vs', rfl, f3, f4⟩ := sVal_appR e3
            rw [f1] at f3
            cases f3
            obtain ⟨zr, rfl, er⟩ := sVal_1 f2
            obtain ⟨zx, rfl, ex⟩ := sVal_1 f4
            have hz := sfFun e2 e4
            subst hz
            exact aTopd hD er ex
        · exact same _ rfl h
      · exact same _ rfl h
    · exact same _ rfl h
  · exact same _ rfl h
end SFF
