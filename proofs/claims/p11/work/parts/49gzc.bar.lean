/-! Bits of KINS; pairs that are mentioned. -/
noncomputable section
/-- a number told by two others, or worked out where both are known -/
def aBn (Γ : sG) (op : Nat) (a b : sL) : Option sL := match sK Γ.1 a, sK Γ.1 b with
  | some x, some y => some (sC (sOp op x y))
  | _, _ => nDl Γ op a b
/-- the bit of the KIN of a word -/
def aObt (Γ : sG) (γ : List kA) (w : sL) : Option sL := match kFindEl γ 54 w with
  | some k => if sI32 Γ.1 k = true then aBn Γ 6 (sC 1) k else none
  | none => none
def aK54 (K : kS) : Bool := kShb K.1.2.2.2.1 54 .int 16 || (kFa K.2 76 (fun _ => true)).isSome
def aBOr (K : kS) : Option kWs := match kLf K.1.2.1 1 with
  | some ox => (match nDl K.1.2.2.2.2.2.2 9 ox (sC 100) with
    | some one => if (sNN K.1.2.2.2.2.2.2 ox && !kHav K.2 117 [ox, one]) = true then some [([(117, [ox, one])], [])] else none
    | none => none)
  | none => none
def aBAi (i j : Nat) (K : kS) : Option kWs := match kLf K.1.2.1 i, kLf K.1.2.1 j with
  | some a, some b => if (decide (a = sC 0) && (decide (b = sC 0) && (aK54 K && !kHav K.2 118 [sC 0, sC 0]))) = true then some [([(118, [sC 0, sC 0])], [])] else none
  | _, _ => none
def aBAq (f : sL → Bool) (i : sL) (q : kA) : Bool := decide (q.1 = 118) && (match q.2 with
  | [i', m] => decide (i' = i) && f m
  | _ => false)
def aBAf (γ : List kA) (i : sL) (f : sL → Bool) : Bool := γ.any (aBAq f i)
def aBAs (i j : Nat) (K : kS) : Option kWs := match kLf K.1.2.1 i, kLf K.1.2.1 j with
  | some w, some m => (match aObt K.1.2.2.2.2.2.2 K.2 w with
    | some b => if aBAf K.2 w (fun m0 => decide (aBn K.1.2.2.2.2.2.2 4 m0 b = some m)) = true then some [([(118, [sAdd w (sC 1), m])], [])] else none
    | none => none)
  | _, _ => none
def aBSi (K : kS) : Option kWs := match kFa K.2 62 (fun _ => true), kLf K.1.2.1 1, kFa K.2 119 (fun _ => true), kLf K.1.2.1 4, kLf K.1.2.1 3 with
  | some [_, hl], some ox, none, some i, some m => if (decide (i = sC 0) && (decide (m = sC 0) && aK54 K)) = true then some [([(119, [hl, ox, sC 0, sC 0])], [])] else none
  | _, _, _, _, _ => none
def aBOq (γ : List kA) (ox : sL) : Option (List sL) := kFa γ 117 (fun fs => match fs with
  | [o, _] => decide (o = ox)
  | _ => false)
def aSb4 (Γ : sG) (γ : List kA) (w m0 m : sL) : Bool := match aObt Γ γ w with
  | some b => decide (aBn Γ 4 m0 b = some m)
  | none => false
def aRb3 (Γ : sG) (γ : List kA) (w m0 m : sL) : Bool := match aObt Γ γ w with
  | some b => (match aBn Γ 5 b (sC (-1)) with
    | some y => decide (aBn Γ 3 m0 y = some m)
    | none => false)
  | none => false
def aXb3 (Γ : sG) (m m0 r : sL) : Bool := match aBn Γ 5 m (sC (-1)) with
  | some y => decide (aBn Γ 3 m0 y = some r)
  | none => false
def aBRt (Γ : sG) (n m : sL) (q : kA) : Bool := decide (q.1 = 118) && (match q.2 with
  | [i, m'] => decide (m' = m) && kEqf Γ i n
  | _ => false)
def aBSs (K : kS) : Option kWs := match kLf K.1.2.1 4, kLf K.1.2.1 3, kFa K.2 119 (fun _ => true), kLf K.1.2.1 1 with
  | some w, some m, some [hl, ox', i, m0], some ox => (match nDl K.1.2.2.2.2.2.2 10 ox (sC 100), aBOq K.2 ox with
    | some x, some [_, one] => if (decide (ox' = ox) && (decide (i = w) && aAls K.2 hl one w (fun v => (sNN K.1.2.2.2.2.2.2 (sSub x v) && aSb4 K.1.2.2.2.2.2.2 K.2 w m0 m) || (sNN K.1.2.2.2.2.2.2 (sSub (sSub v x) (sC 1)) && decide (m = m0))))) = true then some [([(119, [hl, ox, sAdd w (sC 1), m])], [])] else none
    | _, _ => none)
  | _, _, _, _ => none
def aBXx (K : kS) : Option kWs := match nFf K.1.2.2.2.1 1 1, kFa K.2 119 (fun _ => true), kTop K with
  | some n, some [hl, ox, i, m], some r => if (kEqf K.1.2.2.2.2.2.2 i n && aBAf K.2 i (fun m0 => aXb3 K.1.2.2.2.2.2.2 m m0 r)) = true then some [([(121, [hl, ox, n, r])], [])] else none
  | _, _, _ => none
def aBRi (zh zw : Nat) (K : kS) : Option kWs := match nFf K.1.2.2.2.1 52 zh, kLf K.1.2.1 1, nFf K.1.2.2.2.1 52 zw, kLf K.1.2.1 3, kLf K.1.2.1 2 with
  | some hl, some ox, some n, some w, some m => if (decide (w = sC 0) && (!kHav K.2 120 [hl, ox, n, sC 0, m] && K.2.any (aBRt K.1.2.2.2.2.2.2 n m))) = true then some [([(120, [hl, ox, n, sC 0, m])], [])] else none
  | _, _, _, _, _ => none
def aBRq (γ : List kA) (hl ox w : sL) : Option (List sL) := kFa γ 120 (fun fs => match fs with
  | [h, o, _, i, _] => decide (h = hl) && (decide (o = ox) && decide (i = w))
  | _ => false)
def aBRs (zh : Nat) (K : kS) : Option kWs := match kLf K.1.2.1 3, kLf K.1.2.1 2, nFf K.1.2.2.2.1 52 zh, kLf K.1.2.1 1 with
  | some w, some m, some hl, some ox => (match nDl K.1.2.2.2.2.2.2 10 ox (sC 100), nDl K.1.2.2.2.2.2.2 9 ox (sC 100), aBRq K.2 hl ox w with
    | some x, some one, some [_, _, n, _, m0] => if aAls K.2 hl one w (fun v => (sNN K.1.2.2.2.2.2.2 (sSub x v) && aRb3 K.1.2.2.2.2.2.2 K.2 w m0 m) || (sNN K.1.2.2.2.2.2.2 (sSub (sSub v x) (sC 1)) && decide (m = m0))) = true then some [([(120, [hl, ox, n, sAdd w (sC 1), m])], [])] else none
    | _, _, _ => none)
  | _, _, _, _ => none
def aBXm (zw : Nat) (K : kS) : Option kWs := match nFf K.1.2.2.2.1 52 zw, kFa K.2 120 (fun _ => true), kTop K with
  | some n, some [hl, ox, n', i, m], some r => if (decide (r = m) && (kEqf K.1.2.2.2.2.2.2 i n && kEqf K.1.2.2.2.2.2.2 n' n)) = true then some [([(121, [hl, ox, n, m])], [])] else none
  | _, _, _ => none
def aBOs (K : kS) : Option kWs := match kLf K.1.2.1 1 with
  | some ox => (match aBOq K.2 ox, nDl K.1.2.2.2.2.2.2 9 ox (sC 100) with
    | some [_, o], some one => if o = one then none else (match sIv K.1.2.2.2.2.2.2.1 o with
      | some b => some [([], [(one, b.1, b.2)])]
      | none => none)
    | _, _ => none)
  | none => none
section ABAR
variable {RO : List (Nat × (Nat → Int32))} {ρ : List Int} {Γ : sG} {γ : List kA} {H : List eE}
theorem aBn_ok (hM : sMo ρ Γ) {op : Nat} {a b w : sL} {za zb : Int} (ea : sEv ρ a = some za) (eb : sEv ρ b = some zb) (h : aBn Γ op a b = some w) : sEv ρ w = some (sOp op za zb) := by
  unfold aBn at h
  split at h
  · rename_i x y hx hy
    cases h
    rw [sEv_C, sK_ok hM.1 ea hx, sK_ok hM.1 eb hy]
  · exact nDl_ok hM ea eb h
theorem aObt_ok (hM : sMo ρ Γ) (hg : kGh (kGP (kUP RO)) ρ γ H) {fk : Nat → Int32} (hF : nI2 H 54 16 fk) {w b : sL} {zw : Int} (ew : sEv ρ w = some zw) (h : aObt Γ γ w = some b) : 0 ≤ zw ∧ sEv ρ b = some (sOp 6 1 (fk zw.toNat).toInt) := by
  unfold aObt at h
  split at h
  · rename_i k hk
    split at h
    · rename_i hc
      obtain ⟨zk, ek, kk⟩ := kFindEl_ok hg hk ew
      have bk := sWi_ok hM.1 ek hc
      obtain ⟨h0, v⟩ := kEl_v kk hF
      refine ⟨h0, ?_⟩
      rw [v, sTo32 bk.1 bk.2]
      exact aBn_ok hM (sEv_C 1) ek h
    · cases h
  · cases h
theorem aK54_ok {K : kS} {R : eR} (hD : kD (kGP (kUP RO)) ρ K R) (h : aK54 K = true) : ∃ fk, nI2 R.2.2.2.1 54 16 fk := by
  unfold aK54 at h
  rcases Bool.or_eq_true_iff.mp h with h | h
  · exact kSh1 hD.2.1.2.2.2.1 (by decide) rfl h
  · exact nNEa (t := 1) (by decide) hD.2.2 h
theorem aBAf_ok (hg : kGh (kGP (kUP RO)) ρ γ H) {fk : Nat → Int32} (hF : nI2 H 54 16 fk) {i : sL} {f : sL → Bool} {zi : Int} (ei : sEv ρ i = some zi) (h : aBAf γ i f = true) : ∃ m, f m = true ∧ 0 ≤ zi ∧ sEv ρ m = some (aKb fk zi.toNat) := by
  obtain ⟨⟨k, fs⟩, hq, hany⟩ := List.any_eq_true.mp h
  clear h
  have h := hany
  clear hany
  unfold aBAq at h
  simp only [Bool.and_eq_true, decide_eq_true_eq] at h
  obtain ⟨rfl, h⟩ := h
  split at h
  · rename_i i' m
    rw [Bool.and_eq_true, decide_eq_true_eq] at h
    obtain ⟨rfl, h⟩ := h
    obtain ⟨zs, fk', e, hF', hP⟩ := aOf hg hq (by decide) (by decide)
    obtain ⟨y1, y2, rfl, f1, f2⟩ := sVal_2 e
    cases nI2_one hF hF'
    obtain rfl := Option.some.inj (f1.symm.trans ei)
    obtain ⟨h0, hv⟩ : 0 ≤ y1 ∧ y2 = aKb fk y1.toNat := hP
    exact ⟨m, h, h0, by rw [f2, hv]⟩
  · cases h
theorem aBOr_ok : kRok RO aBOr := by
  intro K ws h ρ R hD
  unfold aBOr at h
  split at h
  · rename_i ox hox
    obtain ⟨zx, ex⟩ := kLf_ok hD.2.1 hox
    split at h
    · rename_i one hone
      split at h
      · rename_i hc
        cases h
        rw [Bool.and_eq_true] at hc
        have h0 := sNN_ok hD.1 ex hc.1
        have eo := nDl_ok hD.1 ex (sEv_C 100) hone
        exact ⟨_, List.mem_singleton.mpr rfl, kAt1 (zs := [zx, sOp 9 zx 100]) (by decide) (by simp only [sVal, ex, eo]) ((kUPn (by decide)).mpr ((aUP0 (Or.inl rfl)).mpr ⟨rfl, h0, rfl⟩)), fun b hb => by cases hb⟩
      · cases h
    · cases h
  · cases h
theorem aBOq_ok (hg : kGh (kGP (kUP RO)) ρ γ H) {ox o one : sL} {zx : Int} (ex : sEv ρ ox = some zx) (h : aBOq γ ox = some [o, one]) : sEv ρ one = some (sOp 9 zx 100) := by
  obtain ⟨h1, zs, e, h2⟩ := nFa_ok hg h (by decide) (by decide)
  have h1 := of_decide_eq_true h1
  subst h1
  obtain ⟨y1, y2, rfl, f1, f2⟩ := sVal_2 e
  obtain rfl := Option.some.inj (f1.symm.trans ex)
  obtain ⟨-, -, hv⟩ : 117 = 117 ∧ 0 ≤ y1 ∧ y2 = sOp 9 y1 100 := (aUP0 (Or.inl rfl)).mp h2
  rw [f2, hv]
theorem aBAi_ok (i j : Nat) : kRok RO (aBAi i j) := by
  intro K ws h ρ R hD
  unfold aBAi at h
  split at h
  · rename_i a b ha hb
    split at h
    · rename_i hc
      cases h
      simp only [Bool.and_eq_true, decide_eq_true_eq] at hc
      obtain ⟨fk, hF⟩ := aK54_ok hD hc.2.2.1
      exact ⟨_, List.mem_singleton.mpr rfl, aAt (fk := fk) (zs := [0, 0]) (by decide) (by decide) (by simp only [sVal, sEv_C]) hF ⟨Int.le_refl _, rfl⟩, fun b hb => by cases hb⟩
    · cases h
  · cases h
theorem aBAs_ok (i j : Nat) : kRok RO (aBAs i j) := by
  intro K ws h ρ R hD
  have hM := hD.1
  unfold aBAs at h
  split at h
  · rename_i w m hw hm
    obtain ⟨zw, ew⟩ := kLf_ok hD.2.1 hw
    split at h
    · rename_i b hb
      split at h
      · rename_i hc
        cases h
        have hq : ∃ q ∈ K.2, q.1 = 118 := by
          obtain ⟨q, q1, q2⟩ := List.any_eq_true.mp hc
          unfold aBAq at q2
          simp only [Bool.and_eq_true, decide_eq_true_eq] at q2
          exact ⟨q, q1, q2.1⟩
        obtain ⟨⟨k, fs⟩, q1, rfl⟩ := hq
        obtain ⟨-, fk, -, hF, -⟩ := aOf hD.2.2 q1 (by decide) (by decide)
        obtain ⟨m0, f1, h0, e0⟩ := aBAf_ok hD.2.2 hF ew hc
        obtain ⟨-, eb⟩ := aObt_ok hM hD.2.2 hF ew hb
        have em := aBn_ok hM e0 eb (of_decide_eq_true f1)
        have e1 := sEv_add ew (sEv_C (ρ := ρ) 1)
        refine ⟨_, List.mem_singleton.mpr rfl, aAt (fk := fk) (zs := [zw + 1, sOp 4 (aKb fk zw.toNat) (sOp 6 1 (fk zw.toNat).toInt)]) (by decide) (by decide) (by simp only [sVal, e1, em]) hF ⟨by omega, ?_⟩, fun b hb => by cases hb⟩
        rw [show (zw + 1).toNat = zw.toNat + 1 by omega]
        rfl
      · cases h
    · cases h
  · cases h
theorem aBSi_ok : kRok RO aBSi := by
  intro K ws h ρ R hD
  unfold aBSi at h
  split at h
  · rename_i z1 hl ox i m hlw hox hnf hi hm
    split at h
    · rename_i hc
      cases h
      simp only [Bool.and_eq_true, decide_eq_true_eq] at hc
      obtain ⟨fk, hF⟩ := aK54_ok hD hc.2.2
      obtain ⟨-, zs, e3, -⟩ := nFa_ok hD.2.2 hlw (by decide) (by decide)
      obtain ⟨z1, zl, rfl, -, el⟩ := sVal_2 e3
      obtain ⟨zx, ex⟩ := kLf_ok hD.2.1 hox
      exact ⟨_, List.mem_singleton.mpr rfl, aAt (fk := fk) (zs := [zl, zx, 0, 0]) (by decide) (by decide) (by simp only [sVal, el, ex, sEv_C]) hF ⟨Int.le_refl _, rfl⟩, fun b hb => by cases hb⟩
    · cases h
  · cases h
theorem aBSs_ok : kRok RO aBSs := by
  intro K ws h ρ R hD
  have hM := hD.1
  unfold aBSs at h
  split at h
  · rename_i w m hl ox' i m0 ox hw hm hfa hox
    obtain ⟨zw, ew⟩ := kLf_ok hD.2.1 hw
    obtain ⟨zx, ex⟩ := kLf_ok hD.2.1 hox
    split at h
    · rename_i x o one hx ho
      split at h
      · rename_i hc
        cases h
        simp only [Bool.and_eq_true, decide_eq_true_eq] at hc
        obtain ⟨rfl, rfl, hc⟩ := hc
        obtain ⟨-, zs, fk, e1, hF, hP⟩ := aFa hD.2.2 hfa (by decide) (by decide)
        obtain ⟨y1, y2, y3, y4, rfl, f1, f2, f3, f4⟩ := sVal_4 e1
        obtain rfl := Option.some.inj (f2.symm.trans ex)
        obtain rfl := Option.some.inj (f3.symm.trans ew)
        obtain ⟨h0, hS⟩ : 0 ≤ y3 ∧ aSy (aGH R.2.2.2.1) fk y1 (sOp 9 y2 100) (sOp 10 y2 100) y3.toNat y4 := hP
        have e10 := nDl_ok hM ex (sEv_C 100) hx
        have e9 := aBOq_ok hD.2.2 ex ho
        obtain ⟨v, zv, g, ev, hv⟩ := aAls_ok hD.2.2 f1 e9 ew hc
        have e2 := sEv_add ew (sEv_C (ρ := ρ) 1)
        have hv2 : aAL (aGH R.2.2.2.1) y1 (sOp 9 y2 100) ((y3.toNat : Nat) : Int) zv := by rw [Int.toNat_of_nonneg h0]; exact hv
        simp only [Bool.or_eq_true, Bool.and_eq_true, decide_eq_true_eq] at g
        rcases g with ⟨g1, g2⟩ | ⟨g1, rfl⟩
        · unfold aSb4 at g2
          split at g2
          · rename_i b hb
            obtain ⟨-, eb⟩ := aObt_ok hM hD.2.2 hF ew hb
            have em := aBn_ok hM f4 eb (of_decide_eq_true g2)
            have hle := sNN_ok hM (sEv_sub e10 ev) g1
            refine ⟨_, List.mem_singleton.mpr rfl, aAt (fk := fk) (zs := [y1, y2, y3 + 1, sOp 4 y4 (sOp 6 1 (fk y3.toNat).toInt)]) (by decide) (by decide) (by simp only [sVal, f1, ex, e2, em]) hF ⟨by omega, ?_⟩, fun b hb => by cases hb⟩
            rw [show (y3 + 1).toNat = y3.toNat + 1 by omega]
            exact ⟨y4, zv, hS, hv2, by rw [if_pos (by omega)]⟩
          · cases g2
        · have hlt := sNN_ok hM (sEv_sub (sEv_sub ev e10) (sEv_C 1)) g1
          refine ⟨_, List.mem_singleton.mpr rfl, aAt (fk := fk) (zs := [y1, y2, y3 + 1, y4]) (by decide) (by decide) (by simp only [sVal, f1, ex, e2, f4]) hF ⟨by omega, ?_⟩, fun b hb => by cases hb⟩
          rw [show (y3 + 1).toNat = y3.toNat + 1 by omega]
          exact ⟨y4, zv, hS, hv2, by rw [if_neg (by omega)]⟩
      · cases h
    · cases h
  · cases h
theorem aBXx_ok : kRok RO aBXx := by
  intro K ws h ρ R hD
  have hM := hD.1
  unfold aBXx at h
  split at h
  · rename_i n hl ox i m r hn hfa hr
    split at h
    · rename_i hc
      cases h
      rw [Bool.and_eq_true] at hc
      obtain ⟨-, zs, fk, e1, hF, hP⟩ := aFa hD.2.2 hfa (by decide) (by decide)
      obtain ⟨y1, y2, y3, y4, rfl, f1, f2, f3, f4⟩ := sVal_4 e1
      obtain ⟨h0, hS⟩ : 0 ≤ y3 ∧ aSy (aGH R.2.2.2.1) fk y1 (sOp 9 y2 100) (sOp 10 y2 100) y3.toNat y4 := hP
      obtain ⟨yn, en⟩ := nFf_ok hD.2.1.2.2.2.1 hn
      have e3 := kEqf_ok hM f3 en hc.1
      subst e3
      obtain ⟨m0, g, -, e0⟩ := aBAf_ok hD.2.2 hF f3 hc.2
      unfold aXb3 at g
      split at g
      · rename_i y hy
        have ey := aBn_ok hM f4 (sEv_C (-1)) hy
        have er := aBn_ok hM e0 ey (of_decide_eq_true g)
        exact ⟨_, List.mem_singleton.mpr rfl, aAt (fk := fk) (zs := [y1, y2, y3, sOp 3 (aKb fk y3.toNat) (sOp 5 y4 (-1))]) (by decide) (by decide) (by simp only [sVal, f1, f2, en, er]) hF ⟨y4, hS, rfl⟩, fun b hb => by cases hb⟩
      · cases g
    · cases h
  · cases h
theorem aBRi_ok (zh zw : Nat) : kRok RO (aBRi zh zw) := by
  intro K ws h ρ R hD
  have hM := hD.1
  unfold aBRi at h
  split at h
  · rename_i hl ox n w m hhl hox hn hw hm
    split at h
    · rename_i hc
      cases h
      simp only [Bool.and_eq_true, decide_eq_true_eq] at hc
      obtain ⟨-, -, hc⟩ := hc
      obtain ⟨⟨k, fs⟩, hq, hany⟩ := List.any_eq_true.mp hc
      clear hc
      have hc := hany
      clear hany
      unfold aBRt at hc
      simp only [Bool.and_eq_true, decide_eq_true_eq] at hc
      obtain ⟨rfl, hc⟩ := hc
      split at hc
      · rename_i i m'
        simp only [Bool.and_eq_true, decide_eq_true_eq] at hc
        obtain ⟨rfl, hc⟩ := hc
        obtain ⟨zs, fk, e, hF, hP⟩ := aOf hD.2.2 hq (by decide) (by decide)
        obtain ⟨y1, y2, rfl, f1, f2⟩ := sVal_2 e
        obtain ⟨h0, hv⟩ : 0 ≤ y1 ∧ y2 = aKb fk y1.toNat := hP
        obtain ⟨zl, el⟩ := nFf_ok hD.2.1.2.2.2.1 hhl
        obtain ⟨zx, ex⟩ := kLf_ok hD.2.1 hox
        obtain ⟨zn, en⟩ := nFf_ok hD.2.1.2.2.2.1 hn
        have e3 := kEqf_ok hM f1 en hc
        subst e3
        exact ⟨_, List.mem_singleton.mpr rfl, aAt (fk := fk) (zs := [zl, zx, y1, 0, y2]) (by decide) (by decide) (by simp only [sVal, el, ex, en, f2, sEv_C]) hF ⟨Int.le_refl _, hv⟩, fun b hb => by cases hb⟩
      · cases hc
    · cases h
  · cases h
theorem aBRs_ok (zh : Nat) : kRok RO (aBRs zh) := by
  intro K ws h ρ R hD
  have hM := hD.1
  unfold aBRs at h
  split at h
  · rename_i w m hl ox hw hm hhl hox
    obtain ⟨zw, ew⟩ := kLf_ok hD.2.1 hw
    obtain ⟨zx, ex⟩ := kLf_ok hD.2.1 hox
    obtain ⟨zl, el⟩ := nFf_ok hD.2.1.2.2.2.1 hhl
    split at h
    · rename_i x one h' o' n i m0 hx hone hfa
      split at h
      · rename_i hc
        cases h
        obtain ⟨p, zs, fk, e1, hF, hP⟩ := aFa hD.2.2 hfa (by decide) (by decide)
        simp only [Bool.and_eq_true, decide_eq_true_eq] at p
        obtain ⟨rfl, rfl, rfl⟩ := p
        obtain ⟨y1, y2, y3, y4, y5, rfl, f1, f2, f3, f4, f5⟩ := sVal_5 e1
        obtain rfl := Option.some.inj (f1.symm.trans el)
        obtain rfl := Option.some.inj (f2.symm.trans ex)
        obtain rfl := Option.some.inj (f4.symm.trans ew)
        obtain ⟨h0, hS⟩ : 0 ≤ y4 ∧ aRy (aGH R.2.2.2.1) fk y1 (sOp 9 y2 100) (sOp 10 y2 100) y3.toNat y4.toNat y5 := hP
        have e10 := nDl_ok hM ex (sEv_C 100) hx
        have e9 := nDl_ok hM ex (sEv_C 100) hone
        obtain ⟨v, zv, g, ev, hv⟩ := aAls_ok hD.2.2 el e9 ew hc
        have e2 := sEv_add ew (sEv_C (ρ := ρ) 1)
        have hv2 : aAL (aGH R.2.2.2.1) y1 (sOp 9 y2 100) ((y4.toNat : Nat) : Int) zv := by rw [Int.toNat_of_nonneg h0]; exact hv
        simp only [Bool.or_eq_true, Bool.and_eq_true, decide_eq_true_eq] at g
        rcases g with ⟨g1, g2⟩ | ⟨g1, rfl⟩
        · unfold aRb3 at g2
          split at g2
          · rename_i b hb
            split at g2
            · rename_i y hy
              obtain ⟨-, eb⟩ := aObt_ok hM hD.2.2 hF ew hb
              have ey := aBn_ok hM eb (sEv_C (-1)) hy
              have em := aBn_ok hM f5 ey (of_decide_eq_true g2)
              have hle := sNN_ok hM (sEv_sub e10 ev) g1
              refine ⟨_, List.mem_singleton.mpr rfl, aAt (fk := fk) (zs := [y1, y2, y3, y4 + 1, sOp 3 y5 (sOp 5 (sOp 6 1 (fk y4.toNat).toInt) (-1))]) (by decide) (by decide) (by simp only [sVal, el, ex, f3, e2, em]) hF ⟨by omega, ?_⟩, fun b hb => by cases hb⟩
              rw [show (y4 + 1).toNat = y4.toNat + 1 by omega]
              exact ⟨y5, zv, hS, hv2, by rw [if_pos (by omega)]⟩
            · cases g2
          · cases g2
        · have hlt := sNN_ok hM (sEv_sub (sEv_sub ev e10) (sEv_C 1)) g1
          refine ⟨_, List.mem_singleton.mpr rfl, aAt (fk := fk) (zs := [y1, y2, y3, y4 + 1, y5]) (by decide) (by decide) (by simp only [sVal, el, ex, f3, e2, f5]) hF ⟨by omega, ?_⟩, fun b hb => by cases hb⟩
          rw [show (y4 + 1).toNat = y4.toNat + 1 by omega]
          exact ⟨y5, zv, hS, hv2, by rw [if_neg (by omega)]⟩
      · cases h
    · cases h
  · cases h
theorem aBXm_ok (zw : Nat) : kRok RO (aBXm zw) := by
  intro K ws h ρ R hD
  have hM := hD.1
  unfold aBXm at h
  split at h
  · rename_i n hl ox n' i m r hn hfa hr
    split at h
    · rename_i hc
      cases h
      simp only [Bool.and_eq_true, decide_eq_true_eq] at hc
      obtain ⟨-, c1, c2⟩ := hc
      obtain ⟨-, zs, fk, e1, hF, hP⟩ := aFa hD.2.2 hfa (by decide) (by decide)
      obtain ⟨y1, y2, y3, y4, y5, rfl, f1, f2, f3, f4, f5⟩ := sVal_5 e1
      obtain ⟨h0, hS⟩ : 0 ≤ y4 ∧ aRy (aGH R.2.2.2.1) fk y1 (sOp 9 y2 100) (sOp 10 y2 100) y3.toNat y4.toNat y5 := hP
      obtain ⟨yn, en⟩ := nFf_ok hD.2.1.2.2.2.1 hn
      have e3 := kEqf_ok hM f4 en c1
      have e4 := kEqf_ok hM f3 en c2
      subst e3
      subst e4
      exact ⟨_, List.mem_singleton.mpr rfl, aAt (fk := fk) (zs := [y1, y2, y3, y5]) (by decide) (by decide) (by simp only [sVal, f1, f2, en, f5]) hF (aRy_BX aGHf hS), fun b hb => by cases hb⟩
    · cases h
  · cases h
theorem aBOs_ok : kRok RO aBOs := by
  intro K ws h ρ R hD
  have hM := hD.1
  unfold aBOs at h
  split at h
  · rename_i ox hox
    obtain ⟨zx, ex⟩ := kLf_ok hD.2.1 hox
    split at h
    · rename_i o' o one ho hone
      split at h
      · cases h
      split at h
      · rename_i b hb
        cases h
        have e1 := aBOq_ok hD.2.2 ex ho
        have e2 := nDl_ok hM ex (sEv_C 100) hone
        have hv := sIv_ok hM.1 e1 hb
        refine ⟨_, List.mem_singleton.mpr rfl, fun q hq => (by cases hq), fun b0 hb0 => ?_⟩
        rcases List.mem_singleton.mp hb0 with rfl
        exact ⟨_, e2, hv.1, hv.2⟩
      · cases h
    · cases h
  · cases h
end ABAR
end
