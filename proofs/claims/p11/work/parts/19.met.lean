/-! Calls, and the contract of a method out of its run. -/
/-- the cells that a method may write: those of its world, and its own -/
def eA1 (nr : Nat) (ads : List Nat) (sz : Nat) : Nat → Prop := fun q => (∃ k, nr ≤ k ∧ ads[k]? = some q) ∨ sz ≤ q
def eSt (RO : List (Nat × (Nat → Int32))) (SN : List (String × String × String)) (A : Nat → Prop) (roA : List Nat) (U : State) (H : Heap) : Prop :=
  ∀ (j : Nat) (q : Nat × (Nat → Int32)), RO[j]? = some q → ∃ a : Nat, roA[j]? = some a ∧ va_T .int a q.1 (fun i => .int (q.2 i)) A U H ∧ ∀ n : String × String × String, SN[j]? = some n → va_Z n.1 n.2.1 n.2.2 (.ref a) A U H
theorem eSt.to {RO : List (Nat × (Nat → Int32))} {SN : List (String × String × String)} {A B : Nat → Prop} {roA : List Nat} {u U : State} {H H1 : Heap} (h : eSt RO SN A roA u H) (hk : ∀ a : Nat, a < H.size → ¬ A a → H1[a]? = H[a]?) (hvm : u.vm.Alike U.vm) (hAB : ∀ q, B q → A q) : eSt RO SN B roA U H1 := by
  intro j q hq
  obtain ⟨a, h1, h2, h3⟩ := h j q hq
  exact ⟨a, h1, va_T.narrow (va_T.moved hvm (va_T.kept h2 hk)) hAB, fun n hn => va_Z.narrow (va_Z.moved hvm (va_Z.kept (h3 n hn) hk)) hAB⟩
def eNWf (NW : List Cond) : Prop := ∀ w ∈ NW, ∃ a i x h, w = Cond.methodLinkNest a i x h
theorem eAOA {u U : State} (hvm : u.vm.Alike U.vm) (h : (Cond.arrayOver (.array .int)).before #[] u = true) : (Cond.arrayOver (.array .int)).before #[] U = true := by
  have h1 : (Cond.arrayOver (.array .int)).before #[] (u.setVm U.vm) = (Cond.arrayOver (.array .int)).before #[] u := Cond.arrayOver_setVmC hvm (.array .int)
  exact h1.trans h
theorem eNX.to {NW : List Cond} (hf : eNWf NW) {s U : State} (hW : s.WarmedH U.vm) (h : eNX NW s) : eNX NW U := by
  refine ⟨fun w hw => ?_, va_AO.moved hW.alike h.2.1, eAOA hW.alike h.2.2⟩
  · obtain ⟨a, i, x, k, rfl⟩ := hf w hw
    exact va_Nw.warmM hW (h.1 _ hw)
theorem eNX.same {NW : List Cond} (hf : eNWf NW) {u U : State} (e : u.vm = U.vm) (h : eNX NW u) : eNX NW U := by
  refine ⟨fun w hw => ?_, va_AO.moved (by rw [e]; exact Vm.Alike.refl _) h.2.1, eAOA (by rw [e]; exact Vm.Alike.refl _) h.2.2⟩
  obtain ⟨a, i, x, k, rfl⟩ := hf w hw
  exact va_tabs rfl e (h.1 _ hw)
/-- a method's start -/
def ePc (RO : List (Nat × (Nat → Int32))) (SN : List (String × String × String)) (NW : List Cond) (D : va_G) (CL : List vw_C) (roA ads : List Nat) (G : List eE) (sz : Nat) (av : List Value) : Array Value → State → Prop :=
  va_Pc av (fun U => U.heap.size = sz ∧ (∃ (ws : va_W) (tys : List (ClassId × FieldType)), ads = roA ++ ws.map Prod.fst ∧ va_K D CL tys U ∧ va_P D CL ws U.heap ∧ va_D (fun _ => True) ws ∧ eHp tys ads G ws) ∧ eSt RO SN (eA1 RO.length ads sz) roA U U.heap ∧ eNX NW U)
/-- its end -/
def eQc (D : va_G) (CL : List vw_C) (A : Nat → Prop) (roA ads : List Nat) (Rf : eR) : Array Value → State → Outcome → State → Prop :=
  fun _ st oc t => (∃ (ws : va_W) (tys : List (ClassId × FieldType)) (sv : List Value), oc = .returned sv.head? ∧ sv.length ≤ 1 ∧ ads <+: roA ++ ws.map Prod.fst ∧ va_K D CL tys t ∧ va_P D CL ws t.heap ∧ va_D A ws ∧ eHp tys (roA ++ ws.map Prod.fst) Rf.2.2.2.1 ws ∧ eVs (roA ++ ws.map Prod.fst) Rf.2.2.1 sv) ∧ va_F A st t
def eRm (d : Nat) (Rf : eR) : Room := { frames := d, cells := Rf.2.2.2.2.1, slots := Rf.2.2.2.2.2, locals := 40 * d }
theorem ePc_blind {RO : List (Nat × (Nat → Int32))} {SN : List (String × String × String)} {NW : List Cond} (hf : eNWf NW) {D : va_G} {CL : List vw_C} {roA ads : List Nat} {G : List eE} {sz : Nat} {av : List Value} : FrameBlind (ePc RO SN NW D CL roA ads G sz av) := by
  intro a U g mk h
  obtain ⟨q0, q1, ⟨ws, tys, e1, hK, hP, hD, hG⟩, hs, hn⟩ := h
  refine ⟨q0, q1, ⟨ws, tys, e1, va_K.moved (u := U) (U := U.calling g mk a) (Vm.Alike.refl U.vm) hK, hP, hD, hG⟩, ?_, eNX.same (u := U) (U := U.calling g mk a) hf rfl hn⟩
  exact eSt.to (U := U.calling g mk a) hs (fun _ _ _ => rfl) (Vm.Alike.refl U.vm) (fun _ h => h)
theorem lg_len : ∀ vs : List Value, (lg_sl vs).length = (vs.map fun v => v.category).sum
  | [] => rfl
  | v :: r => by
    have ih := lg_len r
    simp only [lg_sl, List.flatMap_cons, List.length_append, List.map_cons, List.sum_cons] at ih ⊢
    rw [ih]
    rcases lv_cat v with h | h <;> simp [h]
section ECALL
variable {RO : List (Nat × (Nat → Int32))} {CL : List vw_C} {CT : Nat → Nat → FieldType} {WT NW : List Cond} {SN : List (String × String × String)} {MT : Nat → Option eM} {NC : Nat}
/-- the walk of a run, for one fuel -/
def eRW (RO : List (Nat × (Nat → Int32))) (CL : List vw_C) (CT : Nat → Nat → FieldType) (WT NW : List Cond) (SN : List (String × String × String)) (MT : Nat → Option eM) (n : Nat) : Prop :=
  ∀ (d mi : Nat) (R Rf : eR), eRun RO CL CT MT n d mi R = some Rf → ∀ M : eM, MT mi = some M → ∀ (p : Program) (l : Launch) (e : Env) (Rm : Room) (s : State) (m : MethodId) (args : Array Value) (below : List Frame) (meth : Method) (c : Code) (Q : State → Prop) (D : va_G) (A : Nat → Prop) (roA ads0 : List Nat),
    eCx p s m args meth c (eWS WT) RO SN A roA M.1.cls M.2.1 M.2.2.1 → eNX NW s → (M.1.name = "<init>" → meth.name = "<init>") → d ≤ Rm.frames → 40 * d ≤ Rm.locals → (Rf.2.2.2.2.1 ≤ Rm.cells ∧ Rf.2.2.2.2.2 ≤ Rm.slots) →
    eW p l e Rm s m args below meth c Q D CL A roA M.2.2.1 ads0 Rf → eW p l e Rm s m args below meth c Q D CL A roA M.2.2.1 ads0 R
theorem eAns_cases {b : Nat} {ret : Option FieldType} {st : List Value} (h : eAns b ret st = true) : (st = [] ∧ b = 0 ∧ ret = none) ∨ (∃ x, st = [.int x] ∧ b = 1 ∧ (ret = some .int ∨ (ret = some .boolean ∧ (x = 0 ∨ x = 1)))) ∨ ∃ x, st = [.long x] ∧ b = 2 ∧ ret = some .long := by
  unfold eAns at h
  split at h
  · simp only [Bool.and_eq_true, decide_eq_true_eq] at h
    exact Or.inl ⟨rfl, h.1, h.2⟩
  · simp only [Bool.and_eq_true, Bool.or_eq_true, decide_eq_true_eq] at h
    exact Or.inr (Or.inl ⟨_, rfl, h.1, h.2⟩)
  · simp only [Bool.and_eq_true, decide_eq_true_eq] at h
    exact Or.inr (Or.inr ⟨_, rfl, h.1, h.2⟩)
  · cases h
theorem eMet (hI : ∀ (mi : Nat) (M : eM), MT mi = some M → ∀ (pc : Nat) (I : eI), pc < M.2.2.2.2.1 → M.2.2.2.2.2 pc = some I → eOkI WT NW CL RO.length SN NC MT M pc I = true) {n : Nat} (hn : eRW RO CL CT WT NW SN MT n)
    {d mi : Nat} {as : List Value} {G : List eE} {Rf : eR} (h : eRun RO CL CT MT n d mi (0, lv_args 0 as, [], G, 0, 0) = some Rf) {M : eM} (hM : MT mi = some M) (hok : eMok WT M) (hcat : (as.map fun v => v.category).sum ≤ M.2.2.1)
    (l : Launch) (D : va_G) (roA ads : List Nat) (hro : roA.length = RO.length) (sz : Nat) (av : List Value) (hav : eVs ads as av) :
    Met l M.1 (Cond.code M.1 M.2.1 M.2.2.1 M.2.2.2.1 :: eWS WT) (eRm d Rf) (ePc RO SN NW D CL roA ads G sz av) (eQc D CL (eA1 RO.length ads sz) roA ads Rf) Rf.2.2.2.2.1 Rf.2.2.2.2.2 (eA1 RO.length ads sz) := by
  refine Met.ofW (cc := M.2.1) (maxL := M.2.2.1) (ret := M.2.2.2.1) hok.1 rfl ?_
  intro p e s m args below meth c s₁ B hml hv
  obtain ⟨rfl, hsz, ⟨ws, tys, rfl, hK, hP, hD, hG⟩, hst, hnx⟩ := hv
  have hts := atoms_spec (ws := Cond.code M.1 M.2.1 M.2.2.1 M.2.2.2.1 :: eWS WT) B.pre
  have hr := B.returns
  have hlocks := B.notSynchronized
  subst hsz
  have hA : ∀ q : Nat, s.heap.size ≤ q → eA1 RO.length (roA ++ ws.map Prod.fst) s.heap.size q := fun q h => Or.inr h
  have C : eCx p s m av.toArray meth c (eWS WT) RO SN (eA1 RO.length (roA ++ ws.map Prod.fst) s.heap.size) roA M.1.cls M.2.1 M.2.2.1 :=
    ⟨B.exec, B.bytes, hml, findClass_of_methodNamed B.named, fun w hw => hts w (List.mem_cons_of_mem _ hw), hA, hro, hlocks, hst⟩
  have hDA : va_D (eA1 RO.length (roA ++ ws.map Prod.fst) s.heap.size) ws := by
    refine ⟨hD.1, fun k q hk => Or.inl ⟨roA.length + k, by omega, ?_⟩⟩
    rw [List.getElem?_append_right (by omega), Nat.add_sub_cancel_left, List.getElem?_map, hk]
    rfl
  rw [lg_entry_eq]
  have hl := lv_entry av (n := M.2.2.1) (by rw [lg_len, eVs_cats hav]; exact hcat)
  have hF : eW p l e (headSpec (Cond.code M.1 M.2.1 M.2.2.1 M.2.2.2.1 :: eWS WT) (eRm d Rf)).room s m av.toArray below meth c (MQ below (eQc D CL (eA1 RO.length (roA ++ ws.map Prod.fst) s.heap.size) roA (roA ++ ws.map Prod.fst) Rf) av.toArray s Rf.2.2.2.2.1 Rf.2.2.2.2.2 (eA1 RO.length (roA ++ ws.map Prod.fst) s.heap.size)) D CL (eA1 RO.length (roA ++ ws.map Prod.fst) s.heap.size) roA M.2.2.1 (roA ++ ws.map Prod.fst) Rf := by
    obtain ⟨M', I, hM', hlt, hI', h50, hans⟩ := eRun_end n d mi _ Rf h
    cases hM.symm.trans hM'
    have hokI := hI mi M hM Rf.1 I hlt hI'
    unfold eOkI at hokI
    rw [if_pos h50] at hokI
    unfold eOkR at hokI
    intro H locs ws' tys' ls lv st hp hK' hP' hD' hS' hG' hl' hL' hV'
    rcases eAns_cases hans with ⟨e1, e2, e3⟩ | ⟨x, e1, e2, e3⟩ | ⟨x, e1, e2, e3⟩
    · rw [if_pos e2] at hokI
      rw [e1] at hV'
      obtain rfl := eVs_nil hV'
      exact W.vret B.exec B.bytes (hr.trans e3) (fun t ht hW => ⟨⟨ws', tys', [], rfl, by simp, hp, va_K.moved hW.alike hK', by rw [ht]; exact hP', hD', hG', by rw [e1]; exact trivial⟩, hS'.F ht⟩) hS'.2.2 (of_decide_eq_true hokI)
    · rw [e2] at hokI
      rw [e1] at hV'
      obtain ⟨r, rfl, hV1⟩ := eVs_int hV'
      obtain rfl := eVs_nil hV1
      have hdg : decode M.2.1 Rf.1 = .ok (.ireturn, 1) := of_decide_eq_true hokI
      rcases e3 with e3 | ⟨e3, e4⟩
      · exact W.iret B.exec B.bytes (hr.trans e3) (fun t ht hW => ⟨⟨ws', tys', [.int x], rfl, by simp, hp, va_K.moved hW.alike hK', by rw [ht]; exact hP', hD', hG', by rw [e1]; exact ⟨rfl, trivial⟩⟩, hS'.F ht⟩) hS'.2.2 hdg
      · exact W.zret (ty := .boolean) B.exec B.bytes (hr.trans e3) (by rcases e4 with rfl | rfl <;> decide) (fun t ht hW => ⟨⟨ws', tys', [.int x], rfl, by simp, hp, va_K.moved hW.alike hK', by rw [ht]; exact hP', hD', hG', by rw [e1]; exact ⟨rfl, trivial⟩⟩, hS'.F ht⟩) hS'.2.2 hdg
    · rw [e2] at hokI
      rw [e1] at hV'
      obtain ⟨r, rfl, hV1⟩ := eVs_long hV'
      obtain rfl := eVs_nil hV1
      have hdg : decode M.2.1 Rf.1 = .ok (.lreturn, 1) := of_decide_eq_true hokI
      exact W.lret B.exec B.bytes (hr.trans e3) (fun t ht hW => ⟨⟨ws', tys', [.long x], rfl, by simp, hp, va_K.moved hW.alike hK', by rw [ht]; exact hP', hD', hG', by rw [e1]; exact ⟨rfl, trivial⟩⟩, hS'.F ht⟩) hS'.2.2 hdg
  exact hn d mi _ Rf h M hM p l e _ s m av.toArray below meth c _ D _ roA (roA ++ ws.map Prod.fst) C hnx (fun hi => (name_of_methodNamed B.named B.method).1.trans hi) (Nat.le_refl _) (Nat.le_refl _) ⟨Nat.le_refl _, Nat.le_refl _⟩ hF s.heap [] ws tys _ _ [] (List.prefix_refl _) hK hP hDA va_S.rf hG hl (eLs_args 0 hav) trivial
end ECALL
