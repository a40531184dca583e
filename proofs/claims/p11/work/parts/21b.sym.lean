/-! S: worlds with unknown numbers; one step. -/
noncomputable section
def sOp (op : Nat) (a b : Int) : Int :=
  if op < 100 then (match eBin op (Int32.ofInt a) (Int32.ofInt b) with | some v => v.toInt | none => 0)
  else if op < 200 then (match eLin (op - 100) (Int64.ofInt a) (Int64.ofInt b) with | some v => v.toInt | none => 0)
  else if op = 200 then (Int64.ofInt a <<< ((Int32.ofInt b).toInt64 &&& 63)).toInt
  else if op = 301 then (Int32.ofInt a).toInt8.toInt32.toInt else if op = 304 then (Int32.ofInt a).toInt else (Int32.ofInt a).toInt16.toInt32.toInt
def sMo (ρ : List Int) (Γ : sG) : Prop := sBd ρ Γ.1 ∧ (∀ f ∈ Γ.2.1, ∃ z, sEv ρ f = some z ∧ 0 ≤ z) ∧ (∀ f ∈ Γ.2.2.1, ∃ z, sEv ρ f = some z ∧ z ≠ 0) ∧
  ∀ q ∈ Γ.2.2.2, ∃ za zb, sEv ρ q.2.1 = some za ∧ sEv ρ q.2.2.1 = some zb ∧ ρ[q.2.2.2]? = some (sOp q.1 za zb)
def sNew (Γ : sG) (op : Nat) (a b : sL) (lo hi : Int) : sL × sG := match Γ.2.2.2.find? (fun q => decide (q.1 = op) && (decide (q.2.1 = a) && decide (q.2.2.1 = b))) with
  | some q => (sX q.2.2.2, Γ)
  | none => (sX Γ.1.length, (Γ.1 ++ [(lo, hi)], Γ.2.1, Γ.2.2.1, (op, a, b, Γ.1.length) :: Γ.2.2.2))
theorem sNew_ok {ρ : List Int} {Γ : sG} {op : Nat} {a b : sL} {lo hi za zb : Int} (hM : sMo ρ Γ) (ha : sEv ρ a = some za) (hb : sEv ρ b = some zb) (h1 : lo ≤ sOp op za zb) (h2 : sOp op za zb ≤ hi) : ∃ ρ', ρ <+: ρ' ∧ sMo ρ' (sNew Γ op a b lo hi).2 ∧ sEv ρ' (sNew Γ op a b lo hi).1 = some (sOp op za zb) := by
  unfold sNew
  split
  · rename_i q hq
    have hm := List.mem_of_find?_eq_some hq
    have hp := List.find?_some hq
    simp only [Bool.and_eq_true, decide_eq_true_eq] at hp
    obtain ⟨rfl, rfl, rfl⟩ := hp
    obtain ⟨ya, yb, e1, e2, e3⟩ := hM.2.2.2 q hm
    cases e1.symm.trans ha
    cases e2.symm.trans hb
    exact ⟨ρ, List.prefix_refl _, hM, sEv_X e3⟩
  · have hpre : ρ <+: ρ ++ [sOp op za zb] := ⟨_, rfl⟩
    have hl : Γ.1.length = ρ.length := hM.1.1
    have hnew : (ρ ++ [sOp op za zb])[Γ.1.length]? = some (sOp op za zb) := by rw [hl]; simp
    refine ⟨ρ ++ [sOp op za zb], hpre, ⟨⟨by simp [hl], fun i q z hi hz => ?_⟩, fun f hf => ?_, fun f hf => ?_, fun q hq => ?_⟩, sEv_X hnew⟩
    · by_cases hlt : i < ρ.length
      · rw [List.getElem?_append_left (by rw [hl]; exact hlt)] at hi
        rw [List.getElem?_append_left hlt] at hz
        exact hM.1.2 i q z hi hz
      · have hi2 : i < Γ.1.length + 1 := by have := (List.getElem?_eq_some_iff.mp hi).1; simpa using this
        have hie : i = ρ.length := by omega
        subst hie
        rw [← hl] at hi hz
        rw [hnew] at hz
        simp at hi
        cases hz; cases hi
        exact ⟨h1, h2⟩
    · obtain ⟨z, e1, e2⟩ := hM.2.1 f hf
      exact ⟨z, sEv_mono hpre e1, e2⟩
    · obtain ⟨z, e1, e2⟩ := hM.2.2.1 f hf
      exact ⟨z, sEv_mono hpre e1, e2⟩
    · rcases List.mem_cons.mp hq with rfl | hq
      · exact ⟨za, zb, sEv_mono hpre ha, sEv_mono hpre hb, hnew⟩
      · obtain ⟨ya, yb, e1, e2, e3⟩ := hM.2.2.2 q hq
        exact ⟨ya, yb, sEv_mono hpre e1, sEv_mono hpre e2, by rw [List.getElem?_append_left (List.getElem?_eq_some_iff.mp e3).1]; exact e3⟩
/-- a bound's change is right if the unknown keeps it -/
theorem sMo_set {ρ : List Int} {Γ : sG} (hM : sMo ρ Γ) {i : Nat} {b : Int × Int} (hb : ∀ z, ρ[i]? = some z → b.1 ≤ z ∧ z ≤ b.2) : sMo ρ (Γ.1.set i b, Γ.2) := by
  refine ⟨⟨by rw [List.length_set]; exact hM.1.1, fun j q z hj hz => ?_⟩, hM.2⟩
  by_cases hij : i = j
  · subst hij
    have hl : i < Γ.1.length := by have := (List.getElem?_eq_some_iff.mp hj).1; rwa [List.length_set] at this
    rw [List.getElem?_set_self hl] at hj
    cases hj
    exact hb z hz
  · rw [List.getElem?_set_ne hij] at hj
    exact hM.1.2 j q z hj hz
def sLo0 (B : List (Int × Int)) (a : sL) : Bool := match sIv B a with
  | some i => decide (0 ≤ i.1)
  | none => false
theorem sLo0_ok {ρ : List Int} {B : List (Int × Int)} (hB : sBd ρ B) {a : sL} {z : Int} (ha : sEv ρ a = some z) (h : sLo0 B a = true) : 0 ≤ z := by
  unfold sLo0 at h
  split at h
  · rename_i i hi
    exact Int.le_trans (of_decide_eq_true h) (sIv_ok hB ha hi).1
  · cases h
/-- the bounds that follow for the unknowns of a form that is not below 0 -/
def sTi (B : List (Int × Int)) (t : sL) : List (Nat × Int) → List (Int × Int)
  | [] => B
  | q :: r => match sAt B q.1 with
    | none => sTi B t r
    | some b => if q.2 = -1 then (match sIv B (sAdd t (sX q.1)) with
        | some i => if i.2 < b.2 then sSet (sTi B t r) q.1 (b.1, i.2) else sTi B t r
        | none => sTi B t r)
      else if q.2 = 1 then (match sIv B (sSub t (sX q.1)) with
        | some i => if b.1 < -i.2 then sSet (sTi B t r) q.1 (-i.2, b.2) else sTi B t r
        | none => sTi B t r)
      else sTi B t r
theorem sBd_set {ρ : List Int} {B : List (Int × Int)} (hB : sBd ρ B) {i : Nat} {b : Int × Int} (hb : ∀ z, ρ[i]? = some z → b.1 ≤ z ∧ z ≤ b.2) : sBd ρ (B.set i b) := by
  refine ⟨by rw [List.length_set]; exact hB.1, fun j q z hj hz => ?_⟩
  by_cases hij : i = j
  · subst hij
    have hl : i < B.length := by have := (List.getElem?_eq_some_iff.mp hj).1; rwa [List.length_set] at this
    rw [List.getElem?_set_self hl] at hj
    cases hj
    exact hb z hz
  · rw [List.getElem?_set_ne hij] at hj
    exact hB.2 j q z hj hz
theorem sTi_ok {ρ : List Int} {B : List (Int × Int)} (hB : sBd ρ B) {t : sL} {z : Int} (ht : sEv ρ t = some z) (hz : 0 ≤ z) : ∀ l : List (Nat × Int), sBd ρ (sTi B t l)
  | [] => hB
  | q :: r => by
    have ih := sTi_ok hB ht hz r
    unfold sTi
    simp only [sAt_eq, sSet_eq]
    split
    · exact ih
    · rename_i b hb
      split
      · split
        · rename_i i hi
          split
          · refine sBd_set ih fun x hx => ?_
            have e := sEv_add ht (sEv_X hx)
            have h1 := sIv_ok hB e hi
            have h2 := hB.2 _ _ _ hb hx
            simp only
            omega
          · exact ih
        · exact ih
      split
      · split
        · rename_i i hi
          split
          · refine sBd_set ih fun x hx => ?_
            have e := sEv_sub ht (sEv_X hx)
            have h1 := sIv_ok hB e hi
            have h2 := hB.2 _ _ _ hb hx
            simp only
            omega
          · exact ih
        · exact ih
      · exact ih
/-- to take for granted that t is not below 0; none: it can't be -/
def sAsm (Γ : sG) (t : sL) : Option sG := match sIv Γ.1 t with
  | none => some Γ
  | some i => if i.2 < 0 then none else if 0 ≤ i.1 then some Γ
    else if sAny (fun (f : sL) => sSh t f && sLo0 Γ.1 (sSub (sSub (sC (-1)) t) f)) Γ.2.1 = true then none
    else match t with
      | (c, [(s, k)]) => (match sAt Γ.1 s with
        | some b => if k = 1 then some (sSet Γ.1 s (if b.1 ≤ -c then -c else b.1, b.2), Γ.2) else if k = -1 then some (sSet Γ.1 s (b.1, if c ≤ b.2 then c else b.2), Γ.2) else some (Γ.1, t :: Γ.2.1, Γ.2.2)
        | none => some Γ)
      | _ => some (sTi Γ.1 t t.2, t :: Γ.2.1, Γ.2.2)
theorem sAsm_ok {ρ : List Int} {Γ : sG} {t : sL} {z : Int} (hM : sMo ρ Γ) (ht : sEv ρ t = some z) (hz : 0 ≤ z) : ∃ Γ', sAsm Γ t = some Γ' ∧ sMo ρ Γ' := by
  unfold sAsm
  simp only [sAt_eq, sSet_eq]
  split
  · exact ⟨Γ, rfl, hM⟩
  · rename_i i hi
    have hb := sIv_ok hM.1 ht hi
    rw [if_neg (by omega)]
    split
    · exact ⟨Γ, rfl, hM⟩
    split
    · rename_i hany
      exfalso
      obtain ⟨f, hf, hc⟩ := sAny_ex hany
      have hc := (Bool.and_eq_true_iff.mp hc).2
      obtain ⟨y, hy, hy0⟩ := hM.2.1 f hf
      have e := sEv_sub (sEv_sub (sEv_C (ρ := ρ) (-1)) ht) hy
      have := sLo0_ok hM.1 e hc
      omega
    have hadd : sMo ρ (Γ.1, t :: Γ.2.1, Γ.2.2) := ⟨hM.1, fun f hf => by
      rcases List.mem_cons.mp hf with rfl | hf
      · exact ⟨z, ht, hz⟩
      · exact hM.2.1 f hf, hM.2.2⟩
    split
    · rename_i c s k _hna
      split
      · rename_i b hbs
        have hval : ∀ w, ρ[s]? = some w → z = c + (k * w + 0) := by
          intro w hw
          simp only [sEv, sEvT, hw, Option.map_some, Option.some.injEq] at ht
          exact ht.symm
        split
        · rename_i hk
          subst hk
          refine ⟨_, rfl, sMo_set hM fun w hw => ?_⟩
          have h1 := hM.1.2 s b w hbs hw
          have h2 := hval w hw
          refine ⟨?_, h1.2⟩
          simp only
          split <;> omega
        split
        · rename_i hk
          subst hk
          refine ⟨_, rfl, sMo_set hM fun w hw => ?_⟩
          have h1 := hM.1.2 s b w hbs hw
          have h2 := hval w hw
          refine ⟨h1.1, ?_⟩
          simp only
          split <;> omega
        · exact ⟨_, rfl, hadd⟩
      · exact ⟨Γ, rfl, hM⟩
    · exact ⟨_, rfl, sTi_ok hM.1 ht hz _, hadd.2⟩
def sNeg (t : sL) : sL := sMul (-1) t
def sAsE (Γ : sG) (t : sL) : Option sG := if sAny (fun (f : sL) => sSh t f && (decide (f = t) || decide (f = sNeg t))) Γ.2.2.1 = true then none else match sAsm Γ t with
  | none => none
  | some Γ' => sAsm Γ' (sNeg t)
def sAsN (Γ : sG) (t : sL) : Option sG := match sIv Γ.1 t with
  | none => some Γ
  | some i => if i.1 = 0 ∧ i.2 = 0 then none else if i.1 = 0 then sAsm (Γ.1, Γ.2.1, t :: Γ.2.2.1, Γ.2.2.2) (sSub t (sC 1)) else if i.2 = 0 then sAsm (Γ.1, Γ.2.1, t :: Γ.2.2.1, Γ.2.2.2) (sSub (sC (-1)) t) else some (Γ.1, Γ.2.1, t :: Γ.2.2.1, Γ.2.2.2)
theorem sEv_neg {ρ : List Int} {t : sL} {z : Int} (h : sEv ρ t = some z) : sEv ρ (sNeg t) = some (-z) := by
  have h1 := sEv_mul (-1) h
  rw [show -z = -1 * z by omega]
  exact h1
theorem sAsE_ok {ρ : List Int} {Γ : sG} {t : sL} (hM : sMo ρ Γ) (ht : sEv ρ t = some 0) : ∃ Γ', sAsE Γ t = some Γ' ∧ sMo ρ Γ' := by
  unfold sAsE
  split
  · rename_i hany
    exfalso
    obtain ⟨f, hf, hc⟩ := sAny_ex hany
    have hc := (Bool.and_eq_true_iff.mp hc).2
    obtain ⟨y, hy, hy0⟩ := hM.2.2.1 f hf
    simp only [Bool.or_eq_true, decide_eq_true_eq] at hc
    rcases hc with rfl | rfl
    · cases hy.symm.trans ht; exact hy0 rfl
    · have h2 := sEv_neg ht
      cases hy.symm.trans h2; exact hy0 rfl
  · obtain ⟨Γ1, e1, h1⟩ := sAsm_ok hM ht (Int.le_refl 0)
    rw [e1]
    exact sAsm_ok h1 (sEv_neg ht) (Int.le_refl 0)
theorem sAsN_ok {ρ : List Int} {Γ : sG} {t : sL} {z : Int} (hM : sMo ρ Γ) (ht : sEv ρ t = some z) (hz : z ≠ 0) : ∃ Γ', sAsN Γ t = some Γ' ∧ sMo ρ Γ' := by
  have hM2 : sMo ρ (Γ.1, Γ.2.1, t :: Γ.2.2.1, Γ.2.2.2) := ⟨hM.1, hM.2.1, fun f hf => by
    rcases List.mem_cons.mp hf with rfl | hf
    · exact ⟨z, ht, hz⟩
    · exact hM.2.2.1 f hf, hM.2.2.2⟩
  unfold sAsN
  split
  · exact ⟨Γ, rfl, hM⟩
  · rename_i i hi
    have hb := sIv_ok hM.1 ht hi
    rw [if_neg (by omega)]
    split
    · exact sAsm_ok hM2 (sEv_sub ht (sEv_C 1)) (by omega)
    split
    · exact sAsm_ok hM2 (sEv_sub (sEv_C (-1)) ht) (by omega)
    · exact ⟨_, rfl, hM2⟩
/-- a condition on x - y: what may be taken for granted where it holds, and where it doesn't -/
def sCnd (b : Nat) (Γ : sG) (t : sL) : Option sG × Option sG :=
  if b = 0 then (sAsE Γ t, sAsN Γ t) else if b = 1 then (sAsN Γ t, sAsE Γ t) else if b = 2 then (sAsm Γ (sSub (sC (-1)) t), sAsm Γ t)
  else if b = 3 then (sAsm Γ t, sAsm Γ (sSub (sC (-1)) t)) else if b = 4 then (sAsm Γ (sSub t (sC 1)), sAsm Γ (sNeg t)) else (sAsm Γ (sNeg t), sAsm Γ (sSub t (sC 1)))
theorem sCnd_ok {ρ : List Int} {Γ : sG} {x y : sL} {zx zy : Int} (b : Nat) (hM : sMo ρ Γ) (hx : sEv ρ x = some zx) (hy : sEv ρ y = some zy) (h1 : sI32 Γ.1 x = true) (h2 : sI32 Γ.1 y = true) :
    (eCmp b (Int32.ofInt zx) (Int32.ofInt zy) = true ∧ ∃ Γ', (sCnd b Γ (sSub x y)).1 = some Γ' ∧ sMo ρ Γ') ∨ (¬ eCmp b (Int32.ofInt zx) (Int32.ofInt zy) = true ∧ ∃ Γ', (sCnd b Γ (sSub x y)).2 = some Γ' ∧ sMo ρ Γ') := by
  have r1 := sWi_ok hM.1 hx h1
  have r2 := sWi_ok hM.1 hy h2
  have t1 := sTo32 r1.1 r1.2
  have t2 := sTo32 r2.1 r2.2
  have ht := sEv_sub hx hy
  have hm1 := sEv_sub (sEv_C (ρ := ρ) (-1)) ht
  have hm2 := sEv_sub ht (sEv_C (ρ := ρ) 1)
  have hm3 := sEv_neg ht
  have eEq : Int32.ofInt zx = Int32.ofInt zy ↔ zx = zy := by rw [← Int32.toInt_inj, t1, t2]
  have eLt : Int32.ofInt zx < Int32.ofInt zy ↔ zx < zy := by rw [Int32.lt_iff_toInt_lt, t1, t2]
  have eLe' : Int32.ofInt zx ≤ Int32.ofInt zy ↔ zx ≤ zy := by rw [Int32.le_iff_toInt_le, t1, t2]
  have eLt' : Int32.ofInt zy < Int32.ofInt zx ↔ zy < zx := by rw [Int32.lt_iff_toInt_lt, t1, t2]
  have eLe'' : Int32.ofInt zy ≤ Int32.ofInt zx ↔ zy ≤ zx := by rw [Int32.le_iff_toInt_le, t1, t2]
  unfold sCnd eCmp
  by_cases b0 : b = 0
  · simp only [if_pos b0, decide_eq_true_eq, eEq]
    by_cases h : zx = zy
    · exact Or.inl ⟨h, sAsE_ok hM (by rw [ht]; congr 1; omega)⟩
    · exact Or.inr ⟨h, sAsN_ok hM ht (by omega)⟩
  simp only [if_neg b0]
  by_cases b1 : b = 1
  · simp only [if_pos b1, Bool.not_eq_true', decide_eq_false_iff_not, decide_eq_true_eq, eEq]
    by_cases h : zx = zy
    · exact Or.inr ⟨by simpa using h, sAsE_ok hM (by rw [ht]; congr 1; omega)⟩
    · exact Or.inl ⟨h, sAsN_ok hM ht (by omega)⟩
  simp only [if_neg b1]
  by_cases b2 : b = 2
  · simp only [if_pos b2, decide_eq_true_eq, eLt]
    by_cases h : zx < zy
    · exact Or.inl ⟨h, sAsm_ok hM hm1 (by omega)⟩
    · exact Or.inr ⟨h, sAsm_ok hM ht (by omega)⟩
  simp only [if_neg b2]
  by_cases b3 : b = 3
  · simp only [if_pos b3, decide_eq_true_eq, eLe'']
    by_cases h : zy ≤ zx
    · exact Or.inl ⟨h, sAsm_ok hM ht (by omega)⟩
    · exact Or.inr ⟨h, sAsm_ok hM hm1 (by omega)⟩
  simp only [if_neg b3]
  by_cases b4 : b = 4
  · simp only [if_pos b4, decide_eq_true_eq, eLt']
    by_cases h : zy < zx
    · exact Or.inl ⟨h, sAsm_ok hM hm2 (by omega)⟩
    · exact Or.inr ⟨h, sAsm_ok hM hm3 (by omega)⟩
  simp only [if_neg b4, decide_eq_true_eq, eLe']
  by_cases h : zx ≤ zy
  · exact Or.inl ⟨h, sAsm_ok hM hm3 (by omega)⟩
  · exact Or.inr ⟨h, sAsm_ok hM hm2 (by omega)⟩
end
