/-! What a sign makes of two numbers, as it is told. -/
noncomputable section
def nDl (Γ : sG) (op : Nat) (a b : sL) : Option sL := (Γ.2.2.2.find? (fun q => decide (q.1 = op) && (decide (q.2.1 = a) && decide (q.2.2.1 = b)))).map fun q => sX q.2.2.2
def nNe (Γ : sG) (a b : sL) : Bool := Γ.2.2.1.any (fun f => decide (f = sSub a b) || decide (f = sMul (-1) (sSub a b))) || (sNN Γ (sSub (sSub a b) (sC 1)) || sNN Γ (sSub (sMul (-1) (sSub a b)) (sC 1)))
def nOr (Γ : sG) (a b w : sL) : Bool := if w = sC 1 then (nNt Γ a 0 || nNt Γ b 0) else decide (w = sC 0) && (nZ0 Γ a && nZ0 Γ b)
def nTw (Γ : sG) (c : Int) (a b w : sL) : Bool :=
  if c = 43 then decide (kNr Γ (sAdd a b) = some w) else if c = 45 then decide (kNr Γ (sSub a b) = some w)
  else if c = 42 then (match sK Γ.1 a with
    | some k => decide (kNr Γ (sMul k b) = some w)
    | none => (match sK Γ.1 b with
      | some k => decide (kNr Γ (sMul k a) = some w)
      | none => decide (nDl Γ 2 a b = some w)))
  else if c = 47 then (if nZ0 Γ b = true then nZ0 Γ w else if sK Γ.1 b = some (-1) then decide (kNr Γ (sMul (-1) a) = some w) else nNt Γ b 0 && decide (nDl Γ 9 a b = some w))
  else if c = 37 then (if nZ0 Γ b = true then nZ0 Γ w else if sK Γ.1 b = some (-1) then nZ0 Γ w else nNt Γ b 0 && decide (nDl Γ 10 a b = some w))
  else if c = 60 then (if w = sC 1 then sNN Γ (sSub (sSub b a) (sC 1)) else decide (w = sC 0) && sNN Γ (sSub a b))
  else if c = 62 then (if w = sC 1 then sNN Γ (sSub (sSub a b) (sC 1)) else decide (w = sC 0) && sNN Γ (sSub b a))
  else if c = 61 then (if w = sC 1 then kEqf Γ a b else decide (w = sC 0) && nNe Γ a b)
  else if c = 38 then (if w = sC 1 then nNt Γ a 0 && nNt Γ b 0 else decide (w = sC 0) && (nZ0 Γ a || nZ0 Γ b))
  else nOr Γ a b w
def nSgn : List Int := [43, 45, 42, 47, 37, 60, 61, 62, 38]
def nTwo (Γ : sG) (s a b w : sL) : Bool := sI32 Γ.1 a && (sI32 Γ.1 b && (match sK Γ.1 s with
  | some c => nTw Γ c a b w
  | none => nSgn.all (fun x => nNt Γ s x) && nOr Γ a b w))
section NTWO
variable {ρ : List Int} {Γ : sG}
theorem nZ0_ok (hM : sMo ρ Γ) {v : sL} {z : Int} (hv : sEv ρ v = some z) (h : nZ0 Γ v = true) : z = 0 := sK_ok hM.1 hv (of_decide_eq_true h)
theorem nDl_ok (hM : sMo ρ Γ) {op : Nat} {a b w : sL} {za zb : Int} (ha : sEv ρ a = some za) (hb : sEv ρ b = some zb) (h : nDl Γ op a b = some w) : sEv ρ w = some (sOp op za zb) := by
  unfold nDl at h
  obtain ⟨q, hq, rfl⟩ := Option.map_eq_some_iff.mp h
  have hm := List.mem_of_find?_eq_some hq
  have hp := List.find?_some hq
  simp only [Bool.and_eq_true, decide_eq_true_eq] at hp
  obtain ⟨h1, h2, h3⟩ := hp
  obtain ⟨ya, yb, e1, e2, e3⟩ := hM.2.2.2 q hm
  rw [h2, ha] at e1
  cases e1
  rw [h3, hb] at e2
  cases e2
  rw [h1] at e3
  exact sEv_X e3
theorem nNr_ok (hM : sMo ρ Γ) {f w : sL} {z zw : Int} (hf : sEv ρ f = some z) (hw : sEv ρ w = some zw) (h : decide (kNr Γ f = some w) = true) : Int32.ofInt zw = Int32.ofInt z := by
  have := kNr_ok hM hf (of_decide_eq_true h)
  cases hw.symm.trans this
  rw [Int64.toInt32_ofInt, Int32.ofInt_toInt]
theorem nNe_ok (hM : sMo ρ Γ) {a b : sL} {za zb : Int} (ha : sEv ρ a = some za) (hb : sEv ρ b = some zb) (h : nNe Γ a b = true) : za ≠ zb := by
  have e := sEv_sub ha hb
  unfold nNe at h
  rcases Bool.or_eq_true_iff.mp h with h | h
  · obtain ⟨f, hf, h⟩ := List.any_eq_true.mp h
    obtain ⟨y, e1, e2⟩ := hM.2.2.1 f hf
    rcases Bool.or_eq_true_iff.mp h with h | h
    · have h := of_decide_eq_true h
      subst h
      cases e1.symm.trans e
      omega
    · have h := of_decide_eq_true h
      subst h
      cases e1.symm.trans (sEv_mul (-1) e)
      omega
  · rcases Bool.or_eq_true_iff.mp h with h | h
    · have := sNN_ok hM (sEv_sub e (sEv_C 1)) h
      omega
    · have := sNN_ok hM (sEv_sub (sEv_mul (-1) e) (sEv_C 1)) h
      omega
theorem nI0 {z : Int} (h : -2147483648 ≤ z ∧ z ≤ 2147483647) : Int32.ofInt z = 0 ↔ z = 0 := by
  constructor
  · intro e
    have := congrArg Int32.toInt e
    rw [sTo32 h.1 h.2] at this
    simpa using this
  · intro e
    rw [e]
    rfl
theorem nOr_ok (hM : sMo ρ Γ) {a b w : sL} {za zb zw : Int} (ha : sEv ρ a = some za) (hb : sEv ρ b = some zb) (hw : sEv ρ w = some zw) (ra : -2147483648 ≤ za ∧ za ≤ 2147483647) (rb : -2147483648 ≤ zb ∧ zb ≤ 2147483647) (h : nOr Γ a b w = true) :
    Int32.ofInt zw = if Int32.ofInt za ≠ 0 ∨ Int32.ofInt zb ≠ 0 then 1 else 0 := by
  unfold nOr at h
  split at h
  · rename_i h1
    subst h1
    cases hw.symm.trans (sEv_C (ρ := ρ) 1)
    rw [if_pos]
    · rfl
    · rcases Bool.or_eq_true_iff.mp h with h | h
      · exact Or.inl (fun e => nNt_ok hM ha h ((nI0 ra).mp e))
      · exact Or.inr (fun e => nNt_ok hM hb h ((nI0 rb).mp e))
  · simp only [Bool.and_eq_true, decide_eq_true_eq] at h
    obtain ⟨rfl, h2, h3⟩ := h
    cases hw.symm.trans (sEv_C (ρ := ρ) 0)
    rw [if_neg]
    · rfl
    · rintro (e | e)
      · exact e ((nI0 ra).mpr (nZ0_ok hM ha h2))
      · exact e ((nI0 rb).mpr (nZ0_ok hM hb h3))
theorem nDivm1 (a : Int32) : a / -1 = -a := by
  apply Int32.toInt_inj.mp
  have : (-1 : Int32).toInt = -1 := rfl
  rw [Int32.toInt_div, this, Int.tdiv_neg, Int.tdiv_one, Int32.toInt_neg]
theorem nTwo_ok (hM : sMo ρ Γ) {s a b w : sL} {zs za zb zw : Int} (hs : sEv ρ s = some zs) (ha : sEv ρ a = some za) (hb : sEv ρ b = some zb) (hw : sEv ρ w = some zw) (h : nTwo Γ s a b w = true) : nJ zs (Int32.ofInt za) (Int32.ofInt zb) = Int32.ofInt zw := by
  unfold nTwo at h
  simp only [Bool.and_eq_true] at h
  obtain ⟨h1, h2, h⟩ := h
  have ra := sWi_ok hM.1 ha h1
  have rb := sWi_ok hM.1 hb h2
  have ta := sTo32 ra.1 ra.2
  have tb := sTo32 rb.1 rb.2
  have isC : ∀ {k : Int}, w = sC k → zw = k := fun {k} e => by
    subst e
    exact Option.some.inj (hw.symm.trans (sEv_C (ρ := ρ) k))
  have lt : Int32.ofInt za < Int32.ofInt zb ↔ za < zb := by rw [Int32.lt_iff_toInt_lt, ta, tb]
  have gt : Int32.ofInt zb < Int32.ofInt za ↔ zb < za := by rw [Int32.lt_iff_toInt_lt, ta, tb]
  have eq : Int32.ofInt za = Int32.ofInt zb ↔ za = zb := by
    constructor
    · intro e
      have := congrArg Int32.toInt e
      rwa [ta, tb] at this
    · intro e
      rw [e]
  split at h
  · rename_i c hc
    have := sK_ok hM.1 hs hc
    subst this
    unfold nTw at h
    unfold nJ
    split at h
    · rename_i e
      rw [if_pos e, nNr_ok hM (sEv_add ha hb) hw h, Int32.ofInt_add]
    rename_i n1
    rw [if_neg n1]
    split at h
    · rename_i e
      rw [if_pos e, nNr_ok hM (sEv_sub ha hb) hw h, Int32.ofInt_sub]
    rename_i n2
    rw [if_neg n2]
    split at h
    · rename_i e
      rw [if_pos e]
      split at h
      · rename_i k hk
        have := sK_ok hM.1 ha hk
        subst this
        rw [nNr_ok hM (sEv_mul _ hb) hw h, Int32.ofInt_mul]
      · split at h
        · rename_i k hk
          have := sK_ok hM.1 hb hk
          subst this
          rw [nNr_ok hM (sEv_mul _ ha) hw h, Int32.ofInt_mul]
          exact Int32.mul_comm _ _
        · have := nDl_ok hM ha hb (of_decide_eq_true h)
          cases hw.symm.trans this
          show _ = Int32.ofInt (Int32.ofInt za * Int32.ofInt zb).toInt
          rw [Int32.ofInt_toInt]
    rename_i n3
    rw [if_neg n3]
    split at h
    · rename_i e
      rw [if_pos e]
      split at h
      · rename_i hz
        have h0 := nZ0_ok hM hb hz
        have hw0 := nZ0_ok hM hw h
        subst h0
        subst hw0
        rfl
      · split at h
        · rename_i hm1
          have := sK_ok hM.1 hb hm1
          subst this
          rw [if_neg (by decide), nNr_ok hM (sEv_mul (-1) ha) hw h, show (-1 : Int) * za = -za by omega]
          show Int32.ofInt za / (-1 : Int32) = Int32.ofInt (-za)
          rw [nDivm1, Int32.ofInt_neg]
        · simp only [Bool.and_eq_true] at h
          have hn := nNt_ok hM hb h.1
          have hd := nDl_ok hM ha hb (of_decide_eq_true h.2)
          cases hw.symm.trans hd
          have h0 : Int32.ofInt zb ≠ 0 := fun e => hn ((nI0 rb).mp e)
          rw [if_neg h0]
          show _ = Int32.ofInt (match eBin 9 (Int32.ofInt za) (Int32.ofInt zb) with
            | some v => v.toInt
            | none => 0)
          have : eBin 9 (Int32.ofInt za) (Int32.ofInt zb) = some (Int32.ofInt za / Int32.ofInt zb) := by
            simp only [eBin]
            rw [if_neg (by decide), if_neg (by decide), if_neg (by decide), if_neg (by decide), if_neg (by decide), if_neg (by decide), if_neg (by decide), if_neg (by decide), if_neg (by decide), if_pos (by trivial), if_neg h0]
          rw [this]
          simp only
          rw [Int32.ofInt_toInt]
    rename_i n4
    rw [if_neg n4]
    split at h
    · rename_i e
      rw [if_pos e]
      split at h
      · rename_i hz
        have h0 := nZ0_ok hM hb hz
        have hw0 := nZ0_ok hM hw h
        subst h0
        subst hw0
        rfl
      · split at h
        · rename_i hm1
          have := sK_ok hM.1 hb hm1
          have hw0 := nZ0_ok hM hw h
          subst this
          subst hw0
          rw [if_neg (by decide)]
          show Int32.ofInt za - Int32.ofInt za / -1 * -1 = 0
          rw [nDivm1]
          rw [Int32.neg_mul, Int32.mul_neg, Int32.neg_neg, Int32.mul_one, Int32.sub_self]
        · simp only [Bool.and_eq_true] at h
          have hn := nNt_ok hM hb h.1
          have hd := nDl_ok hM ha hb (of_decide_eq_true h.2)
          cases hw.symm.trans hd
          have h0 : Int32.ofInt zb ≠ 0 := fun e => hn ((nI0 rb).mp e)
          rw [if_neg h0]
          show _ = Int32.ofInt (match eBin 10 (Int32.ofInt za) (Int32.ofInt zb) with
            | some v => v.toInt
            | none => 0)
          have : eBin 10 (Int32.ofInt za) (Int32.ofInt zb) = some (Int32.ofInt za - Int32.ofInt za / Int32.ofInt zb * Int32.ofInt zb) := by
            simp only [eBin]
            rw [if_neg (by decide), if_neg (by decide), if_neg (by decide), if_neg (by decide), if_neg (by decide), if_neg (by decide), if_neg (by decide), if_neg (by decide), if_neg (by decide), if_neg (by decide), if_pos (by trivial), if_neg h0]
          rw [this]
          simp only
          rw [Int32.ofInt_toInt]
    rename_i n5
    rw [if_neg n5]
    split at h
    · rename_i e
      rw [if_pos e]
      split at h
      · rename_i hw1
        have := sNN_ok hM (sEv_sub (sEv_sub hb ha) (sEv_C 1)) h
        rw [if_pos (lt.mpr (by omega)), isC hw1]
        rfl
      · simp only [Bool.and_eq_true, decide_eq_true_eq] at h
        have := sNN_ok hM (sEv_sub ha hb) h.2
        rw [if_neg (fun q => by have := lt.mp q; omega), isC h.1]
        rfl
    rename_i n6
    rw [if_neg n6]
    by_cases e62 : zs = 62
    · rw [if_pos e62] at h
      rw [if_neg (by omega), if_pos e62]
      split at h
      · rename_i hw1
        have := sNN_ok hM (sEv_sub (sEv_sub ha hb) (sEv_C 1)) h
        rw [if_pos (gt.mpr (by omega)), isC hw1]
        rfl
      · simp only [Bool.and_eq_true, decide_eq_true_eq] at h
        have := sNN_ok hM (sEv_sub hb ha) h.2
        rw [if_neg (fun q => by have := gt.mp q; omega), isC h.1]
        rfl
    rw [if_neg e62] at h
    by_cases e61 : zs = 61
    · rw [if_pos e61] at h
      rw [if_pos e61]
      split at h
      · rename_i hw1
        rw [if_pos (eq.mpr (kEqf_ok hM ha hb h)), isC hw1]
        rfl
      · simp only [Bool.and_eq_true, decide_eq_true_eq] at h
        rw [if_neg (fun q => nNe_ok hM ha hb h.2 (eq.mp q)), isC h.1]
        rfl
    rw [if_neg e61] at h
    rw [if_neg e61, if_neg e62]
    split at h
    · rename_i e
      rw [if_pos e]
      split at h
      · rename_i hw1
        simp only [Bool.and_eq_true] at h
        rw [if_pos ⟨fun q => nNt_ok hM ha h.1 ((nI0 ra).mp q), fun q => nNt_ok hM hb h.2 ((nI0 rb).mp q)⟩, isC hw1]
        rfl
      · simp only [Bool.and_eq_true, Bool.or_eq_true, decide_eq_true_eq] at h
        rw [if_neg (fun q => by
          rcases h.2 with h2 | h2
          · exact q.1 ((nI0 ra).mpr (nZ0_ok hM ha h2))
          · exact q.2 ((nI0 rb).mpr (nZ0_ok hM hb h2))), isC h.1]
        rfl
    rename_i n9
    rw [if_neg n9]
    exact (nOr_ok hM ha hb hw ra rb h).symm
  · simp only [Bool.and_eq_true] at h
    have hall : ∀ k ∈ nSgn, zs ≠ k := fun k hk => nNt_ok hM hs (List.all_eq_true.mp h.1 k hk)
    unfold nJ
    rw [if_neg (hall 43 (by decide)), if_neg (hall 45 (by decide)), if_neg (hall 42 (by decide)), if_neg (hall 47 (by decide)), if_neg (hall 37 (by decide)), if_neg (hall 60 (by decide)), if_neg (hall 61 (by decide)), if_neg (hall 62 (by decide)), if_neg (hall 38 (by decide))]
    exact (nOr_ok hM ha hb hw ra rb h.2).symm
end NTWO
end
