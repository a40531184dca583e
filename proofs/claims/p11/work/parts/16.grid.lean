/-! new int[n][k]: the outer array, then the inner ones. -/
theorem vr_outer (c : ClassId) (N h0 : Nat) : ∀ i : Nat, Jvm.Free.Multi.outerC c N h0 i = arrV c N (fun j => va_rf (if j < i then some (h0 + 1 + j) else none))
  | 0 => by
    show ({ cls := c, slots := Array.replicate N .null, vm := .none } : Cell) = _
    rw [arrV_new]
    refine congrArg (arrV c N) (funext fun j => ?_)
    simp [va_rf]
  | i + 1 => by
    show (Jvm.Free.Multi.outerC c N h0 i).setSlot i (.ref (h0 + 1 + i)) = _
    rw [vr_outer c N h0 i, arrV_store]
    refine congrArg (arrV c N) (funext fun j => ?_)
    by_cases e : j = i
    · subst e
      simp [updV, va_rf]
    · by_cases h : j < i
      · simp [updV, e, h, Nat.lt_succ_of_lt h]
      · simp [updV, e, h, show ¬ j < i + 1 by omega]
section EGRID
variable {p : Program} {l : Launch} {e : Env} {Rm : Room} {s : State} {m : MethodId} {args : Array Value} {below : List Frame} {meth : Method} {c : Code} {Q : State → Prop}
variable {RO : List (Nat × (Nat → Int32))} {CL : List vw_C} {WS : List Cond} {SN : List (String × String × String)} {D : va_G} {A : Nat → Prop} {roA : List Nat} {own : String} {cc : ByteArray} {nL : Nat} {ads0 : List Nat} {R R' : eR}
theorem w25 (C : eCx p s m args meth c WS RO SN A roA own cc nL) {nx ix : Nat} (h : e25 RO nx R = some R') (hd : decode cc R.1 = .ok (.multianewarray ix 2, 4)) (hn : nx = R.1 + 4) (hcl : Cond.classLink own ix "[[I" ∈ WS) (hac : Cond.arrayClass .int ∈ WS) (hov : (Cond.arrayOver (.array .int)).before #[] s = true) (hr : R'.2.2.2.2.1 ≤ Rm.cells ∧ R'.2.2.2.2.2 ≤ Rm.slots)
    (hW : eW p l e Rm s m args below meth c Q D CL A roA nL ads0 R') : eW p l e Rm s m args below meth c Q D CL A roA nL ads0 R := by
  obtain ⟨hx, hb, hml, hown, hts, hA, hro, hlocks, hst⟩ := C
  unfold e25 at h
  split at h
  · rename_i pc ls0 k n st0 G c0 s0
    split at h
    · cases h
    rename_i hc
    simp only [not_or] at hc
    obtain ⟨hk0, hn0⟩ := hc
    split at h
    · rename_i hb9
      obtain ⟨hbk, hbn⟩ := hb9
      cases h
      intro H locs ws tys ls lv st hp hK hP hD hS hG hl hL hV
      obtain ⟨r0, rfl, hV0⟩ := eVs_int hV
      obtain ⟨r1, rfl, hV1⟩ := eVs_int hV0
      simp only at hd hn hr ⊢
      subst hn
      have hGl : G.length = ws.length := hG.1
      intro T hT Xs
      have hcl9 := hts _ hcl
      obtain ⟨vm₁, cA, comp, -, fA, fC, hO, hI, X', step⟩ := Xs.multianewarray2F hx hown (ty := .int) hcl9 hov (hts _ hac) (g := F0 m pc ls (.int k :: .int n :: r1)) rfl (by rw [hb]; exact hd) rfl hn0 hk0 (by omega) (by show _ * 4 ≤ _; omega) (by omega) rfl rfl (by omega) (by have := hr.2; omega)
      generalize hF : Jvm.Free.Multi.fill (T.setVm vm₁) cA comp n.toNatClampNeg k.toNatClampNeg (defaultValue .int) n.toNatClampNeg = F at X' step
      have hTh : (T.setVm vm₁).heap = H := hT
      obtain ⟨f1, f2, -, -⟩ := Jvm.Free.Multi.fill_facts (T.setVm vm₁) cA comp n.toNatClampNeg k.toNatClampNeg (defaultValue .int) n.toNatClampNeg
      rw [hF, hTh] at f1 f2
      have hold : ∀ x : Nat, x < H.size → F.heap[x]? = H[x]? := fun x hx => by
        have := Jvm.Free.Multi.fill_old (T.setVm vm₁) cA comp n.toNatClampNeg k.toNatClampNeg (defaultValue .int) (a := x) (by rw [hTh]; exact hx) n.toNatClampNeg
        rw [hF, hTh] at this
        exact this
      have hz : Jvm.Free.Multi.innerC comp k.toNatClampNeg (defaultValue .int) = vp_cell comp (k.toNatClampNeg, .inl (fun _ => 0)) := by
        show ({ cls := comp, slots := Array.replicate _ _, vm := .none } : Cell) = _
        rw [arrV_new]
        rfl
      have hrow : ∀ j : Nat, j < n.toNatClampNeg → F.heap[H.size + 1 + j]? = some (vp_cell comp (k.toNatClampNeg, .inl (fun _ => 0))) := fun j hj => by
        have := Jvm.Free.Multi.fill_inner (T.setVm vm₁) cA comp n.toNatClampNeg k.toNatClampNeg (defaultValue .int) n.toNatClampNeg j hj
        rw [hF, hTh, hz] at this
        exact this
      have hout : Jvm.Free.Multi.outerC cA n.toNatClampNeg H.size n.toNatClampNeg = vp_cell cA (n.toNatClampNeg, .inr (.inr (.inr (.inr (fun i => if i < n.toNatClampNeg then some (H.size + 1 + i) else none))))) := by
        rw [vp_cell_q]
        exact vr_outer cA n.toNatClampNeg H.size n.toNatClampNeg
      rw [hout] at f2
      generalize hN : n.toNatClampNeg = N at *
      generalize hM : k.toNatClampNeg = M at *
      have hw2 : ∀ (k9 : Nat) (x : Nat × va_E), (((H.size, .inl (cA, N, .inr (.inr (.inr (.inr (fun i => if i < N then some (H.size + 1 + i) else none)))))) :: (List.range N).map (fun i => ((H.size + 1 + i, .inl (comp, (M, .inl (fun _ => 0)))) : Nat × va_E))) : va_W)[k9]? = some x → x.1 = H.size + k9 ∧ va_at D CL x F.heap := by
        intro k9 x hx
        cases k9 with
        | zero =>
          cases hx
          exact ⟨rfl, f2⟩
        | succ j =>
          rw [List.getElem?_cons_succ, List.getElem?_map] at hx
          by_cases hj : j < N
          · rw [List.getElem?_range hj] at hx
            cases hx
            exact ⟨by show H.size + 1 + j = H.size + (j + 1); omega, hrow j hj⟩
          · rw [List.getElem?_eq_none (by rw [List.length_range]; omega)] at hx
            cases hx
      have hP1 : va_P D CL (ws ++ ((H.size, .inl (cA, N, .inr (.inr (.inr (.inr (fun i => if i < N then some (H.size + 1 + i) else none)))))) :: (List.range N).map (fun i => ((H.size + 1 + i, .inl (comp, (M, .inl (fun _ => 0)))) : Nat × va_E)))) F.heap := (hP.kept (fun k9 x hx => hold x.1 ((hP k9 x hx).lt))).app (fun k9 x hx => (hw2 k9 x hx).2)
      have hD1 : va_D A (ws ++ ((H.size, .inl (cA, N, .inr (.inr (.inr (.inr (fun i => if i < N then some (H.size + 1 + i) else none)))))) :: (List.range N).map (fun i => ((H.size + 1 + i, .inl (comp, (M, .inl (fun _ => 0)))) : Nat × va_E)))) := by
        refine va_D.app hD ⟨fun i j x y hi hj hxy => ?_, fun i x hi => hA _ ?_⟩ (fun i j x y hi hj => ?_)
        · have := (hw2 i x hi).1
          have := (hw2 j y hj).1
          omega
        · have h1 := (hw2 i x hi).1
          have := hS.1
          omega
        · have h1 := (hw2 j y hj).1
          have h2 := (hP i x hi).lt
          omega
      have hK1 : va_K D CL (tys ++ [(cA, .array .int), (comp, .int)]) s := va_K.app hK ⟨hK.1, fun k9 x hx => by
        match k9, hx with
        | 0, hx =>
          cases hx
          exact ⟨fun N9 z9 => by
            obtain ⟨-, k9, hk9, cm9, hkk9⟩ := (hO 0 0 0).1
            exact ⟨(fun q hq => by cases hq), k9, hk9, cm9, hkk9⟩, fA⟩
        | 1, hx =>
          cases hx
          exact ⟨fun N9 z9 => by
            obtain ⟨-, k9, hk9, cm9, hkk9⟩ := (hI 0 (.int 0)).1
            exact ⟨(fun q hq => by cases hq), k9, hk9, cm9, hkk9⟩, fC⟩
        | k9 + 2, hx => simp at hx⟩
      have hlg : ∀ i, i < N → (roA ++ (ws ++ ((H.size, .inl (cA, N, .inr (.inr (.inr (.inr (fun i => if i < N then some (H.size + 1 + i) else none)))))) :: (List.range N).map (fun i => ((H.size + 1 + i, .inl (comp, (M, .inl (fun _ => 0)))) : Nat × va_E)))).map Prod.fst)[RO.length + G.length + 1 + i]? = some (H.size + 1 + i) := by
        intro i hi
        rw [List.getElem?_append_right (by omega), List.map_append, List.getElem?_append_right (by rw [List.length_map]; omega), List.length_map, List.map_cons, show RO.length + G.length + 1 + i - roA.length - ws.length = i + 1 by omega, List.getElem?_cons_succ, List.map_map, List.getElem?_map, List.getElem?_range hi]
        rfl
      have hG1 : eHp (tys ++ [(cA, .array .int), (comp, .int)]) (roA ++ (ws ++ ((H.size, .inl (cA, N, .inr (.inr (.inr (.inr (fun i => if i < N then some (H.size + 1 + i) else none)))))) :: (List.range N).map (fun i => ((H.size + 1 + i, .inl (comp, (M, .inl (fun _ => 0)))) : Nat × va_E)))).map Prod.fst)
          (G ++ (.inl (.array .int, N, .inr (.inr (fun i => if i < N then some (RO.length + G.length + 1 + i) else none))) :: List.replicate N (.inl (.int, M, .inl (fun _ => 0))))) (ws ++ ((H.size, .inl (cA, N, .inr (.inr (.inr (.inr (fun i => if i < N then some (H.size + 1 + i) else none)))))) :: (List.range N).map (fun i => ((H.size + 1 + i, .inl (comp, (M, .inl (fun _ => 0)))) : Nat × va_E)))) := by
        refine eHp_app ⟨_, rfl⟩ ePre hG ⟨by simp, fun k9 x y h1 h2 => ?_⟩
        cases k9 with
        | zero =>
          cases h1; cases h2
          refine ⟨cA, tys.length, _, rfl, by simp, _, rfl, fun i hi => ?_⟩
          simp only [if_pos hi]
          exact ⟨_, hlg i hi, rfl⟩
        | succ j =>
          rw [List.getElem?_cons_succ] at h1 h2
          rw [List.getElem?_map] at h2
          by_cases hj : j < N
          · rw [List.getElem?_range hj] at h2
            rw [List.getElem?_replicate_of_lt hj] at h1
            cases h1; cases h2
            exact ⟨comp, tys.length + 1, _, rfl, by simp, rfl⟩
          · rw [List.getElem?_eq_none (by rw [List.length_range]; omega)] at h2
            cases h2
      rw [List.append_assoc] at hW
      obtain ⟨t, a1, b1⟩ := hW F.heap locs _ _ ls lv (.ref H.size :: r1) (hp.trans ePre) hK1 hP1 hD1 ⟨by rw [f1]; have := hS.1; omega, fun x h1 h2 => (hold x (Nat.lt_of_lt_of_le h1 hS.1)).trans (hS.2.1 x h1 h2), hS.2.2⟩ hG1 hl (hL.mono ePre) ⟨⟨H.size, eLast hro hG.1, rfl⟩, hV1.mono ePre⟩ F rfl X'
      refine ⟨t, step t ?_, b1⟩
      have e : T.heap.size = H.size := by rw [hT]
      rw [e]
      exact a1
    · cases h
  · cases h
end EGRID
