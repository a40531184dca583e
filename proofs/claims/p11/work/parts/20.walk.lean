/-! The walk of every run. -/
section EGO
variable {RO : List (Nat × (Nat → Int32))} {CL : List vw_C} {CT : Nat → Nat → FieldType} {WT NW : List Cond} {SN : List (String × String × String)} {MT : Nat → Option eM} {NC : Nat}
variable {p : Program} {l : Launch} {e : Env} {Rm : Room} {s : State} {m : MethodId} {args : Array Value} {below : List Frame} {meth : Method} {c : Code} {Q : State → Prop} {D : va_G} {A A1 : Nat → Prop} {roA ads ads0 : List Nat} {nL : Nat}
theorem eGo {R2 : eR} {H : Heap} {locs : List Loc} {pc nx c0 s0 : Nat} {ls : Array Slot} {ls0 lv : List (Nat × Value)} {st0 rest rest' : List Value} {a : Array Value}
    (hr : va_Run p l e Rm s m args below meth c H locs c0 s0 R2.2.2.2.2.1 R2.2.2.2.2.2 (F0 m pc ls st0) rest' (eQc D CL A1 roA ads R2 a) A1) (hS : va_S A s.heap H locs) (hA1 : ∀ q, A1 q → A q)
    (hW : eW p l e Rm s m args below meth c Q D CL A roA nL ads0 (nx, ls0, R2.2.2.1 ++ rest, R2.2.2.2.1, c0 + R2.2.2.2.2.1, s0 + R2.2.2.2.2.2)) (hp : ads0 <+: ads) (hl : lv_has ls nL lv) (hL : eLs ads ls0 lv) (hV : eVs ads rest rest') (hn : nx = pc + 3) :
    W p l e Rm s m args below meth c H locs c0 s0 Q (F0 m pc ls st0) := by
  intro T hT X
  obtain ⟨v, st₀, t, T', L, h0, X', hL', e1, e2, ⟨⟨ws, tys, sv, hv, hsv, hpre, hK, hP, hD, hG, hV2⟩, hF⟩, go⟩ := hr T hT X
  have hv : v = sv.head? := Outcome.returned.inj hv
  have hvs : v.toList = sv := by
    rw [hv]
    match sv, hsv with
    | [], _ => rfl
    | [_], _ => rfl
    | _ :: _ :: _, h => simp at h
  have hvm : s.vm.Alike t.vm := by rw [← e2]; exact X'.warmed.alike
  obtain ⟨hF1, hF2⟩ := hF
  rw [h0] at hF1 hF2
  have hS' : va_S A s.heap T'.heap (locs ++ L) := ⟨Nat.le_trans hS.1 (by rw [e1]; exact hF1), fun q h1 h2 => by rw [e1, hF2 q (Nat.lt_of_lt_of_le h1 hS.1) (fun z => h2 (hA1 q z))]; exact hS.2.1 q h1 h2, fun q hq => by
    rcases List.mem_append.mp hq with h | h
    · exact hS.2.2 q h
    · exact hA1 _ (hL' q h)⟩
  obtain ⟨t2, a1, b1⟩ := hW T'.heap (locs ++ L) ws tys ls lv (sv ++ rest') (hp.trans hpre) (va_K.moved hvm.symm hK) (by rw [e1]; exact hP) (hD.weaken (fun _ _ _ h => hA1 _ h)) hS' hG hl (hL.mono hpre) (eVs_app hV2 (hV.mono hpre)) T' rfl X'
  refine ⟨t2, go t2 ?_, b1⟩
  rw [hvs]
  simp only at a1
  subst hn
  exact a1
theorem eGood {w : Cond} (h : w ∈ eWS WT) : w ∈ eWS WT ∧ ((w.onTables && w.keeps) = true ∨ ∃ ty, w = .arrayClass ty) := ⟨h, good_of_word (List.mem_filter.mp h).2⟩
theorem eGoodM {M : eM} (h : eMok WT M) : GoodIn (eWS WT) (Cond.code M.1 M.2.1 M.2.2.1 M.2.2.2.1 :: eWS WT) := by
  intro w hw
  rcases List.mem_cons.mp hw with rfl | hw
  · exact eGood h.2.1
  · exact eGood hw
theorem eRunW (hCL : eCLok (eWS WT) CL CT) (hNf : eNWf NW) (hMC : ∀ (mi : Nat) (M : eM), mi < NC → MT mi = some M → eMok WT M) (hI : ∀ (mi : Nat) (M : eM), MT mi = some M → ∀ (pc : Nat) (I : eI), pc < M.2.2.2.2.1 → M.2.2.2.2.2 pc = some I → eOkI WT NW CL RO.length SN NC MT M pc I = true) : ∀ n, eRW RO CL CT WT NW SN MT n
  | 0 => fun d mi R Rf h => by simp [eRun] at h
  | n + 1 => by
    have ih := eRunW hCL hNf hMC hI n
    intro d mi R Rf h M hM p l e Rm s m args below meth c Q D A roA ads0 C hnx hmn hf hlo hr hW
    cases d with
    | zero => simp [eRun] at h
    | succ d =>
    simp only [eRun, hM] at h
    split at h
    · cases h
    rename_i hlt
    have hlt := Nat.not_le.mp hlt
    split at h
    · cases h
    rename_i I hI'
    have hokI := hI mi M hM R.1 I hlt hI'
    unfold eOkI at hokI
    by_cases h50 : I.1 = 50
    · rw [if_pos h50] at h
      split at h
      · cases h; exact hW
      · cases h
    rw [if_neg h50] at h hokI
    by_cases h40 : 40 ≤ I.1
    · rw [if_pos h40] at h hokI
      split at h
      · cases h
      rename_i ar har
      split at h
      · cases h
      rename_i R2 hR2
      have hmono := eRun_mono n (d + 1) mi _ Rf h
      have hWn := ih (d + 1) mi _ Rf h M hM p l e Rm s m args below meth c Q D A roA ads0 C hnx hmn hf hlo hr hW
      obtain ⟨hx, hb, hml, hown, hts, hA, hro, hlocks, hst⟩ := C
      obtain ⟨op, nx, a, b, z, wd, sw⟩ := I
      obtain ⟨pc, ls0, stk, G, c0, s0⟩ := R
      simp only at h50 h40 hokI har hR2 hWn hlt hmono
      unfold eCallP at har
      simp only at har
      split at har
      · cases har
      rename_i M2 hM2
      split at har
      · cases har
      rename_i as har2
      split at har
      · rename_i hc
        cases har
        obtain ⟨hrest, hcat, hrecv⟩ := hc
        simp only at hR2 hWn hrest hcat hrecv hmono
        unfold eOkC at hokI
        simp only [hM2, Bool.and_eq_true, decide_eq_true_eq] at hokI
        obtain ⟨hbNC, hdesc, hw1, hokI⟩ := hokI
        split at hokI
        · cases hokI
        rename_i cp hcp
        have hok2 := hMC b M2 hbNC hM2
        generalize hN : z.toNat + (if op = 41 then 0 else 1) = N1 at har2
        unfold eArgs at har2
        split at har2
        · rename_i hlen
          cases har2
          simp only at hR2 hWn hrest hcat hrecv hmono
          have hroom : c0 + R2.2.2.2.2.1 ≤ Rm.cells ∧ s0 + R2.2.2.2.2.2 ≤ Rm.slots := ⟨Nat.le_trans hmono.1 hr.1, Nat.le_trans hmono.2 hr.2⟩
          intro H locs ws tys ls lv st hp hK hP hD hS hG hl hL hV
          have hav : eVs (roA ++ ws.map Prod.fst) (stk.take N1).reverse (st.take N1).reverse := eVs_rev (eVs_take N1 hV)
          have hrs : eVs (roA ++ ws.map Prod.fst) (stk.drop N1) (st.drop N1) := eVs_drop N1 hV
          have hl1 : st.length = stk.length := (eVs_len hV).symm
          have hst0 : st = (st.take N1).reverse.reverse ++ st.drop N1 := by rw [List.reverse_reverse, List.take_append_drop]
          have hA1 : ∀ q, eA1 RO.length (roA ++ ws.map Prod.fst) H.size q → A q := by
            rintro q (⟨k, h1, h2⟩ | h1)
            · rw [List.getElem?_append_right (by omega), List.getElem?_map] at h2
              obtain ⟨y, hy, rfl⟩ := Option.map_eq_some_iff.mp h2
              exact hD.2 _ y hy
            · exact hA q (Nat.le_trans hS.1 h1)
          have hPc : ∀ U : State, U.heap = H → s.WarmedH U.vm → ePc RO SN NW D CL roA (roA ++ ws.map Prod.fst) G H.size (st.take N1).reverse (st.take N1).reverse.toArray U := by
            intro U hU hWm
            refine ⟨rfl, by rw [hU], ⟨ws, tys, rfl, va_K.moved hWm.alike hK, by rw [hU]; exact hP, hD.weaken (fun _ _ _ _ => trivial), hG⟩, ?_, eNX.to hNf hWm hnx⟩
            have hst' : eSt RO SN A roA s s.heap := hst
            rw [hU]
            exact eSt.to hst' (fun a h1 h2 => hS.2.1 a h1 h2) hWm.alike hA1
          have hMet := eMet hI ih hR2 hM2 hok2 hcat l D roA (roA ++ ws.map Prod.fst) hro H.size (st.take N1).reverse hav
          have hroomc : (eRm d R2).frames + 1 ≤ Rm.frames ∧ 8 + (M2.2.2.1 + 11) + (eRm d R2).locals ≤ Rm.locals := by
            have h20 := hok2.2.2.1
            refine ⟨hf, ?_⟩
            show 8 + (M2.2.2.1 + 11) + 40 * d ≤ _
            omega
          have hWc : 2 * (F0 m pc ls st).monitorRoom + ((st.drop N1).map fun v => v.category).sum ≤ 8 := lv_room (by rw [eVs_cats hrs]; exact hrest)
          have hGI := eGoodM hok2
          by_cases o40 : op = 40
          · rw [if_pos o40] at hokI
            have hN1 : N1 = z.toNat + 1 := by rw [← hN, if_neg (by omega)]
            simp only [Bool.and_eq_true] at hokI
            obtain ⟨hd, hk, hq1, hq2, hq3⟩ := hokI
            obtain ⟨hd1, hd2⟩ := eDec_ok hd
            split at hk
            · rename_i kC hkC
              have hkC1 : kC.1 = M2.1.cls := of_decide_eq_true hk
              rcases hrecv with hrecv | hrecv
              · omega
              -- the receiver
              generalize hasE : (stk.take N1).reverse = asv at hav hrecv hR2 hcat
              generalize havE : (st.take N1).reverse = av at hav hst0 hPc hMet
              cases asv with
              | nil => simp [eRecv] at hrecv
              | cons v0 as' =>
              cases v0 <;> try (simp [eRecv] at hrecv; done)
              rename_i q
              obtain ⟨ad, av', rfl, had, hav'⟩ := eVs_ref hav
              simp only [eRecv, List.head?_cons, Bool.and_eq_true, Bool.not_eq_true', decide_eq_false_iff_not] at hrecv
              obtain ⟨hq, hrecv⟩ := hrecv
              split at hrecv
              · rename_i cj fs hg
                have hcj : cj = a := of_decide_eq_true hrecv
                subst hcj
                obtain ⟨gs, he, -⟩ := eObj hro hG hq had hg
                have hlenA : av'.length = z.toNat := by
                  have h1 : (Value.ref ad :: av').length = N1 := by rw [← havE, List.length_reverse, List.length_take]; omega
                  simp only [List.length_cons] at h1
                  omega
                refine eGo (va_runV (As := av') (rest := st.drop N1) ⟨hx, hb, hml, hown, hts⟩ hMet (cwV z.toNat hts (C := M2.1.cls) (index := cp) ?_ rfl rfl rfl ⟨rfl, hok2.2.2.2.1, hok2.2.2.2.2, hdesc⟩ hroomc) ⟨ePc_blind hNf, ?_, hPc⟩ rfl hlenA hl.1 ?_ hWc hd1 hroom) hS hA1 hWn hp hl hL hrs hd2
                · intro w hw
                  unfold wsV at hw
                  rcases List.mem_append.mp hw with hw | hw
                  · simp only [List.mem_cons, List.not_mem_nil, or_false] at hw
                    rcases hw with rfl | rfl | rfl | rfl
                    · exact eGood (eWd_in hq1)
                    · exact eGood (eWd_in hq2)
                    · exact eGood (eWd_in hq3)
                    · exact eGood (eWd_in hw1)
                  · exact hGI w hw
                · have := va_recv hK hP hkC he
                  rw [hkC1] at this
                  exact this
                · have h9 := hst0
                  simp only [List.reverse_cons, List.append_assoc, List.singleton_append] at h9
                  exact h9
              · cases hrecv
            · cases hk
          rw [if_neg o40] at hokI
          by_cases o41 : op = 41
          · rw [if_pos o41] at hokI
            have hN1 : N1 = z.toNat := by rw [← hN, if_pos o41]; rfl
            simp only [Bool.and_eq_true] at hokI
            obtain ⟨hd, hq1, hq2⟩ := hokI
            obtain ⟨hd1, hd2⟩ := eDec_ok hd
            have hlenA : (st.take N1).reverse.length = z.toNat := by rw [List.length_reverse, List.length_take]; omega
            refine eGo (va_runS (As := (st.take N1).reverse) (rest := st.drop N1) ⟨hx, hb, hml, hown, hts⟩ hMet (va_cwS z.toNat hts (index := cp) ?_ rfl rfl rfl ⟨hok2.2.2.2.1, hok2.2.2.2.2, hdesc⟩ hroomc) ⟨ePc_blind hNf, hPc⟩ rfl hlenA hl.1 hst0 hWc hd1 hroom) hS hA1 hWn hp hl hL hrs hd2
            intro w hw
            unfold va_wsS at hw
            rcases List.mem_append.mp hw with hw | hw
            · simp only [List.mem_cons, List.not_mem_nil, or_false] at hw
              rcases hw with rfl | rfl | rfl
              · exact eGood (eWd_in hq1)
              · exact eGood (eWd_in hq2)
              · exact eGood (eWd_in hw1)
            · exact hGI w hw
          rw [if_neg o41] at hokI
          have hN1 : N1 = z.toNat + 1 := by rw [← hN, if_neg o41]
          rcases hrecv with hrecv | hrecv
          · exact absurd hrecv o41
          generalize hasE : (stk.take N1).reverse = asv at hav hrecv hR2 hcat
          generalize havE : (st.take N1).reverse = av at hav hst0 hPc hMet
          cases asv with
          | nil => simp [eRecv] at hrecv
          | cons v0 as' =>
          cases v0 <;> try (simp [eRecv] at hrecv; done)
          rename_i q
          obtain ⟨ad, av', rfl, had, hav'⟩ := eVs_ref hav
          have hlenA : av'.length = z.toNat := by
            have h1 : (Value.ref ad :: av').length = N1 := by rw [← havE, List.length_reverse, List.length_take]; omega
            simp only [List.length_cons] at h1
            omega
          have hstk : st = av'.reverse ++ .ref ad :: st.drop N1 := by
            have h9 := hst0
            simp only [List.reverse_cons, List.append_assoc, List.singleton_append] at h9
            exact h9
          by_cases o42 : op = 42
          · rw [if_pos o42] at hokI
            simp only [Bool.and_eq_true, decide_eq_true_eq] at hokI
            obtain ⟨hd, hnm, hret, hq1, hq2⟩ := hokI
            obtain ⟨hd1, hd2⟩ := eDec_ok hd
            refine eGo (va_runI (As := av') (rest := st.drop N1) ⟨hx, hb, hml, hown, hts⟩ hMet (cwI z.toNat hts hGI (by rw [hret]) rfl rfl (hts _ (eWd_in hw1)) (hts _ (eWd_in hq1)) (hts _ (eWd_in hq2)) hnm ⟨hok2.2.2.2.1, hok2.2.2.2.2, hdesc⟩ hroomc) ⟨ePc_blind hNf, hPc⟩ rfl hlenA hl.1 hstk hWc hd1 hroom) hS hA1 hWn hp hl hL hrs hd2
          rw [if_neg o42] at hokI
          by_cases o43 : op = 43
          · rw [if_pos o43] at hokI
            simp only [Bool.and_eq_true, decide_eq_true_eq] at hokI
            obtain ⟨hd, hnm, hret, hq1, hq2⟩ := hokI
            obtain ⟨hd1, hd2⟩ := eDec_ok hd
            refine eGo (va_runIN (As := av') (rest := st.drop N1) ⟨hx, hb, hml, hown, hts⟩ hMet ⟨va_cnB z.toNat hts hGI (by rw [hret]) rfl rfl (hnx.1 _ hq1) (hts _ (eWd_in hw1)) ⟨hok2.2.2.2.1, hok2.2.2.2.2, hdesc⟩ hroomc, hnm, hts _ (eWd_in hq2)⟩ ⟨ePc_blind hNf, hPc⟩ rfl hlenA hl.1 hstk hWc hd1 hroom) hS hA1 hWn hp hl hL hrs hd2
          rw [if_neg o43] at hokI
          cases hokI
        · cases har2
      · cases har
    · rw [if_neg h40] at h hokI
      split at h
      · cases h
      rename_i R1 h1
      have hmono := eRun_mono n (d + 1) mi R1 Rf h
      refine eStepW C hCL hnx hmn (Nat.le_trans (Nat.succ_le_succ (Nat.zero_le d)) hf) (by omega) h1 hokI ⟨Nat.le_trans hmono.1 hr.1, Nat.le_trans hmono.2 hr.2⟩ ?_
      exact ih (d + 1) mi R1 Rf h M hM p l e Rm s m args below meth c Q D A roA ads0 C hnx hmn hf hlo hr hW
end EGO
