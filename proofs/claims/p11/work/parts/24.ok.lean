/-! The walk of the program's own table. -/
noncomputable section
theorem eNW_ok : eNWf eNW := by
  intro w hw
  simp only [eNW, List.mem_cons, List.not_mem_nil, or_false] at hw
  rcases hw with rfl | rfl | rfl | rfl <;> exact ⟨_, _, _, _, rfl⟩
theorem eNW_in : ∀ w ∈ eNW, w ∈ lw_tbl := by decide +kernel
theorem eRunOK (L : Nat) (xs : Nat → Int32) (n : Nat) : eRW (eRO L xs) eCL eCT lw_tbl eNW eSN eMTg n := eRunW eCL_ok eNW_ok eMC_ok (fun mi M hM pc I h1 h2 => by rw [show (eRO L xs).length = 5 from rfl]; exact eI_ok mi M hM pc I h1 h2) n
/-! The static tables. -/
def eTabW (C n : String) (T : List Int32) : List Cond := .arrayOf (.static C n "[I") .int :: .eq (.length (.static C n "[I")) (.int (Int32.ofNat T.length)) :: (List.range T.length).map fun j => .eq (.elem (.static C n "[I") (.int (Int32.ofNat j))) (.int (T.getD j 0))
theorem eTabOf {args : Array Value} {s : State} {C n : String} {T : List Int32} {A : Nat → Prop} (hT : T.length < 2 ^ 31) (h : ∀ w ∈ eTabW C n T, w.before args s = true) (hl : (Cond.laysStatic C n "[I").before args s = true) (hi : (Cond.initialized C).before args s = true) (hA : ∀ a : Nat, a < s.heap.size → ¬ A a) : ∃ t : Nat, va_T .int t T.length (fun j => .int (T.getD j 0)) A s s.heap ∧ va_Z C n "[I" (.ref t) A s s.heap := by
  obtain ⟨t, ht, hv⟩ := va_Tof (f := fun j => .int (T.getD j 0)) hT (h _ List.mem_cons_self) (va_eqt (h _ (List.mem_cons_of_mem _ List.mem_cons_self))) (fun j hj => va_eqt (h _ (List.mem_cons_of_mem _ (List.mem_cons_of_mem _ (List.mem_map.mpr ⟨j, List.mem_range.mpr hj, rfl⟩))))) hA
  exact ⟨t, hv, va_Zref hl hi ht hA⟩
theorem eTM0 : ∀ w ∈ eTabW "WhoMentionsIt$Numbers" "LEAST" eT_LEAST, w ∈ flatC (Jvm.Cond.and given_1 narrow_1) := by decide +kernel
theorem eTM1 : ∀ w ∈ eTabW "WhoMentionsIt$Numbers" "MOST" eT_MOST, w ∈ flatC (Jvm.Cond.and given_1 narrow_1) := by decide +kernel
theorem eTM2 : ∀ w ∈ eTabW "WhoMentionsIt$Bodies" "ABOVE" eT_ABOVE, w ∈ flatC (Jvm.Cond.and given_1 narrow_1) := by decide +kernel
theorem eTM3 : ∀ w ∈ eTabW "WhoMentionsIt$Bodies" "OWN" eT_OWN, w ∈ flatC (Jvm.Cond.and given_1 narrow_1) := by decide +kernel
def eChkI (b : Nat) : Bool := match eCL[b]? with
  | none => true
  | some k => decide (Cond.instantiable k.1 k.2.2 ∈ lw_tbl)
theorem eChkI_ok : (List.range 11).all eChkI = true := by decide +kernel
theorem eKn {args : Array Value} {s : State} (hts : ∀ w ∈ lw_tbl, w.before args s = true) (c0 : ClassId) : ∃ D : va_G, ∀ (c : Nat) (q : vw_C), eCL[c]? = some q → u_Kn s q.1 q.2.1 q.2.2 (D.1 c) (D.2 c) := by
  have h : ∀ c : Nat, ∃ (cC : ClassId) (iS : Nat → Nat), ∀ q : vw_C, eCL[c]? = some q → u_Kn s q.1 q.2.1 q.2.2 cC iS := by
    intro c
    by_cases hc : c < 11
    · have hi := List.all_eq_true.mp eChkI_ok c (List.mem_range.mpr hc)
      unfold eChkI at hi
      split at hi
      · rename_i hn
        exact ⟨c0, fun _ => 0, fun q hq => by rw [hn] at hq; cases hq⟩
      · rename_i k hk
        obtain ⟨cC, iS, hKn⟩ := u_known (ws := eWS lw_tbl) (fun w hw => hts w (List.mem_filter.mp hw).1) (eCL_ok c k hk).1 (hts _ (of_decide_eq_true hi))
        exact ⟨cC, iS, fun q hq => by rw [hk] at hq; cases hq; exact hKn⟩
    · exact ⟨c0, fun _ => 0, fun q hq => absurd (List.getElem?_eq_some_iff.mp hq).1 hc⟩
  exact ⟨(fun c => (h c).choose, fun c => (h c).choose_spec.choose), fun c q hq => (h c).choose_spec.choose_spec q hq⟩
end
