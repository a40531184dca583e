/-! How many must be put in: tools of the rules. -/
noncomputable section
def pB {α β : Type} (x : Option α) (f : α → Option β) : Option β := match x with
  | some a => f a
  | none => none
def pI {β : Type} (c : Bool) (x : Option β) : Option β := match c with
  | true => x
  | false => none
def pO (q : List kA) : Option kWs := some [(q, [])]
theorem pB_ok {α β : Type} {x : Option α} {f : α → Option β} {b : β} (h : pB x f = some b) : ∃ a, x = some a ∧ f a = some b := by
  match x, h with
  | some a, h => exact ⟨a, rfl, h⟩
theorem pI_ok {β : Type} {c : Bool} {x : Option β} {b : β} (h : pI c x = some b) : c = true ∧ x = some b := by
  match c, h with
  | true, h => exact ⟨rfl, h⟩
theorem pAnd {a b : Bool} (h : (a && b) = true) : a = true ∧ b = true := by
  rw [Bool.and_eq_true] at h
  exact h
theorem pOr {a b : Bool} (h : (a || b) = true) : a = true ∨ b = true := Bool.or_eq_true_iff.mp h
theorem pvN {ρ : List Int} : sVal ρ [] = some [] := rfl
theorem pvC {ρ : List Int} {a : sL} {l : List sL} {z : Int} {zs : List Int} (h1 : sEv ρ a = some z) (h2 : sVal ρ l = some zs) : sVal ρ (a :: l) = some (z :: zs) := by simp only [sVal, h1, h2]
abbrev pdE (ρ : List Int) (hl b one x n N : sL) (zh zb zo zx zn zN : Int) : Prop := sEv ρ hl = some zh ∧ sEv ρ b = some zb ∧ sEv ρ one = some zo ∧ sEv ρ x = some zx ∧ sEv ρ n = some zn ∧ sEv ρ N = some zN
def pdC (H : List eE) (P : pP) (zh zb zo zx zn zN : Int) : Prop := ∃ g fn fk fl, kLg 84 360 g H ∧ nW3 fn fk fl H ∧ P = pQ H g fn fk fl zh zb zo zx zn zN
/-- atoms that begin so: what is behind -/
def pdF (γ : List kA) (k : Nat) (q : List sL) (p : List sL → Bool) : Option (List sL) := match kFa γ k (fun fs => tPre q fs && p (fs.drop q.length)) with
  | some fs => some (fs.drop q.length)
  | none => none
def pdF1 (γ : List kA) (k : Nat) (q : List sL) : Option sL := match pdF γ k q (fun _ => true) with
  | some [a] => some a
  | _ => none
def pdF2 (γ : List kA) (k : Nat) (q : List sL) : Option (sL × sL) := match pdF γ k q (fun _ => true) with
  | some [a, b] => some (a, b)
  | _ => none
/-- which of the two rows a field tells -/
def pdPn (v : Option sV) : Option Nat := match v with
  | some (2, l) => if l = sC 35 then some 0 else if l = sC 36 then some 1 else none
  | _ => none
def pdPnG (G : List sE) (z : Nat) : Option Nat := match G[(27 : Nat)]? with
  | some (.inr (ci, fs)) => if ci = 999 then none else pdPn fs[z]?
  | _ => none
def pdPin (K : kS) (z : Nat) : Option Nat := pdPnG K.1.2.2.2.1 z
section PDA
variable {RO : List (Nat × (Nat → Int32))} {ρ : List Int} {Γ : sG} {γ : List kA} {H : List eE} {P : pP} {hl b one x n N : sL} {zh zb zo zx zn zN : Int}
theorem pd_out {q : List kA} {ws : kWs} (h : pO q = some ws) (hk : kGh (kGP (kUP RO)) ρ q H) : ∃ p ∈ ws, kGh (kGP (kUP RO)) ρ p.1 H ∧ ∀ b ∈ p.2, ∃ z, sEv ρ b.1 = some z ∧ b.2.1 ≤ z ∧ z ≤ b.2.2 := by
  cases h
  exact ⟨_, List.mem_singleton.mpr rfl, hk, fun b hb => by cases hb⟩
theorem pd_ou2 {q : List kA} {y : sL} {zy lo hi : Int} {ws : kWs} (h : some [(q, [(y, lo, hi)])] = some ws) (hk : kGh (kGP (kUP RO)) ρ q H) (ey : sEv ρ y = some zy) (h1 : lo ≤ zy) (h2 : zy ≤ hi) : ∃ p ∈ ws, kGh (kGP (kUP RO)) ρ p.1 H ∧ ∀ b ∈ p.2, ∃ z, sEv ρ b.1 = some z ∧ b.2.1 ≤ z ∧ z ≤ b.2.2 := by
  cases h
  refine ⟨_, List.mem_singleton.mpr rfl, hk, fun b hb => ?_⟩
  rcases List.mem_singleton.mp hb with rfl
  exact ⟨_, ey, h1, h2⟩
theorem pdC_of {F : pP → Prop} (h : pC H zh zb zo zx zn zN F) : ∃ P, pdC H P zh zb zo zx zn zN ∧ F P := by
  obtain ⟨g, fn, fk, fl, h1, h2, h3⟩ := h
  exact ⟨_, ⟨g, fn, fk, fl, h1, h2, rfl⟩, h3⟩
theorem pdC_at {F : pP → Prop} (c : pdC H P zh zb zo zx zn zN) (h : pC H zh zb zo zx zn zN F) : F P := by
  obtain ⟨g, fn, fk, fl, h1, h2, rfl⟩ := c
  exact sfPt h1 h2 h
theorem pdC_mk {F : pP → Prop} (c : pdC H P zh zb zo zx zn zN) (h : F P) : pC H zh zb zo zx zn zN F := by
  obtain ⟨g, fn, fk, fl, h1, h2, rfl⟩ := c
  exact ⟨g, fn, fk, fl, h1, h2, h⟩
theorem pdC_f (c : pdC H P zh zb zo zx zn zN) : pX P = zx ∧ pN P = zn ∧ pM P = zN ∧ pFn P := by
  obtain ⟨g, fn, fk, fl, h1, h2, rfl⟩ := c
  exact ⟨rfl, rfl, rfl, sfFn⟩
theorem pdC_NE (hg : kGh (kGP (kUP RO)) ρ γ H) (h : sfNE γ = true) {cell m : Nat} {zb' zn' : Int} (hS : nSP cell m zb' zn' H) : ∃ P, pdC H P zh zb zo zx zn zN := by
  obtain ⟨fn, fk, fl, hW⟩ := sfNE_ok hg h
  obtain ⟨S, g, s1, hG, -⟩ := hS
  exact ⟨_, g, fn, fk, fl, hG, hW, rfl⟩
theorem pdHz (hg : kGh (kGP (kUP RO)) ρ γ H) {k : Nat} (hk : pdK k) (E : pdE ρ hl b one x n N zh zb zo zx zn zN) {fs : List sL} {zs : List Int} (ez : sVal ρ fs = some zs) (h : kHav γ k (hl :: b :: one :: x :: n :: N :: fs) = true) : pC H zh zb zo zx zn zN (fun P => dPr H P k zs) := by
  have h3 := hk.2.1
  have h4 := hk.1
  obtain ⟨zs0, e, h2⟩ := kHav_ok hg h (by omega)
  cases e.symm.trans (pvC E.1 (pvC E.2.1 (pvC E.2.2.1 (pvC E.2.2.2.1 (pvC E.2.2.2.2.1 (pvC E.2.2.2.2.2 ez))))))
  exact (pdUQ hk).mp ((kUPn (by omega)).mp h2)
theorem pdMk {k : Nat} (hk : pdK k) (E : pdE ρ hl b one x n N zh zb zo zx zn zN) {fs : List sL} {zs : List Int} (ez : sVal ρ fs = some zs) (h : pC H zh zb zo zx zn zN (fun P => dPr H P k zs)) : kGh (kGP (kUP RO)) ρ [(k, hl :: b :: one :: x :: n :: N :: fs)] H := by
  have h3 := hk.2.1
  have h4 := hk.1
  exact kAt1 (by omega) (pvC E.1 (pvC E.2.1 (pvC E.2.2.1 (pvC E.2.2.2.1 (pvC E.2.2.2.2.1 (pvC E.2.2.2.2.2 ez)))))) ((kUPn (by omega)).mpr ((pdUQ hk).mpr h))
theorem pdF_ok (hg : kGh (kGP (kUP RO)) ρ γ H) {k : Nat} (h1 : 53 ≤ k) (h2 : k < 1000) {q r : List sL} {p : List sL → Bool} (h : pdF γ k q p = some r) : p r = true ∧ ∃ zs, sVal ρ (q ++ r) = some zs ∧ nUP k zs H := by
  unfold pdF at h
  split at h
  · rename_i fs hfa
    cases h
    obtain ⟨h3, zs, e, h4⟩ := nFa_ok hg hfa h1 h2
    rw [Bool.and_eq_true] at h3
    rw [sfTk h3.1] at e
    exact ⟨h3.2, zs, e, h4⟩
  · cases h
theorem pdFz (hg : kGh (kGP (kUP RO)) ρ γ H) {k : Nat} (hk : pdK k) (E : pdE ρ hl b one x n N zh zb zo zx zn zN) {q r : List sL} {p : List sL → Bool} (h : pdF γ k (hl :: b :: one :: x :: n :: N :: q) p = some r) : p r = true ∧ ∃ zs, sVal ρ (q ++ r) = some zs ∧ pC H zh zb zo zx zn zN (fun P => dPr H P k zs) := by
  have h3 := hk.2.1
  have h4 := hk.1
  obtain ⟨h1, zs, e, h2⟩ := pdF_ok hg (by omega) (by omega) h
  obtain ⟨y1, y2, y3, y4, y5, y6, zr, rfl, f1, f2, f3, f4, f5, f6, hz2⟩ := sVal_6c (show sVal ρ (hl :: b :: one :: x :: n :: N :: (q ++ r)) = some zs from e)
  cases f1.symm.trans E.1
  cases f2.symm.trans E.2.1
  cases f3.symm.trans E.2.2.1
  cases f4.symm.trans E.2.2.2.1
  cases f5.symm.trans E.2.2.2.2.1
  cases f6.symm.trans E.2.2.2.2.2
  exact ⟨h1, zr, hz2, (pdUQ hk).mp h2⟩
theorem pdVap : ∀ {a c : List sL} {za zs : List Int}, sVal ρ a = some za → sVal ρ (a ++ c) = some zs → ∃ zc, sVal ρ c = some zc ∧ zs = za ++ zc
  | [], c, za, zs, h1, h2 => by
    cases h1
    exact ⟨zs, h2, rfl⟩
  | y :: a, c, za, zs, h1, h2 => by
    obtain ⟨p, zr, rfl, e1, h3⟩ := sVal_c h1
    obtain ⟨p', zr', rfl, e2, h4⟩ := sVal_c (show sVal ρ (y :: (a ++ c)) = some zs from h2)
    cases e1.symm.trans e2
    obtain ⟨zc, k1, k2⟩ := pdVap h3 h4
    exact ⟨zc, k1, by rw [k2]; rfl⟩
theorem pdF1_ok (hg : kGh (kGP (kUP RO)) ρ γ H) {k : Nat} (hk : pdK k) (E : pdE ρ hl b one x n N zh zb zo zx zn zN) {q : List sL} {zq : List Int} (eq : sVal ρ q = some zq) {a : sL} (h : pdF1 γ k (hl :: b :: one :: x :: n :: N :: q) = some a) : ∃ za, sEv ρ a = some za ∧ pC H zh zb zo zx zn zN (fun P => dPr H P k (zq ++ [za])) := by
  unfold pdF1 at h
  split at h
  · rename_i a' hf
    cases h
    obtain ⟨-, zs, e, hP⟩ := pdFz hg hk E hf
    obtain ⟨zc, k1, rfl⟩ := pdVap eq e
    obtain ⟨za, rfl, ea⟩ := sVal_1 k1
    exact ⟨za, ea, hP⟩
  · cases h
theorem pdF2_ok (hg : kGh (kGP (kUP RO)) ρ γ H) {k : Nat} (hk : pdK k) (E : pdE ρ hl b one x n N zh zb zo zx zn zN) {q : List sL} {zq : List Int} (eq : sVal ρ q = some zq) {a c : sL} (h : pdF2 γ k (hl :: b :: one :: x :: n :: N :: q) = some (a, c)) : ∃ za zc, sEv ρ a = some za ∧ sEv ρ c = some zc ∧ pC H zh zb zo zx zn zN (fun P => dPr H P k (zq ++ [za, zc])) := by
  unfold pdF2 at h
  split at h
  · rename_i a' c' hf
    cases h
    obtain ⟨-, zs, e, hP⟩ := pdFz hg hk E hf
    obtain ⟨zc, k1, rfl⟩ := pdVap eq e
    obtain ⟨za, zc, rfl, ea, ec⟩ := sVal_2 k1
    exact ⟨za, zc, ea, ec, hP⟩
  · cases h
theorem pdPin_lt {K : kS} {z c : Nat} (h : pdPin K z = some c) : c < 2 := by
  unfold pdPin pdPnG at h
  split at h
  · split at h
    · cases h
    · unfold pdPn at h
      split at h
      · split at h
        · cases h
          decide
        · split at h
          · cases h
            decide
          · cases h
      · cases h
  · cases h
theorem pd2 {c : Nat} (hc : c < 2) : c = 0 ∨ c = 1 := by omega
theorem dRU {c : Nat} (hc : c < 2) {k : Int} : dPr H P (322 + c) [k] ↔ ∃ f, nI2 H (30 + c) 128 f ∧ 0 ≤ k ∧ pRu P f k.toNat := by rcases pd2 hc with rfl | rfl <;> exact Iff.rfl
theorem dN0 {c : Nat} (hc : c < 2) {k : Int} : dPr H P (330 + c) [k] ↔ ∃ f, nI2 H (30 + c) 128 f ∧ pN0 P f k := by rcases pd2 hc with rfl | rfl <;> exact Iff.rfl
theorem dND {c : Nat} (hc : c < 2) {k p a w : Int} : dPr H P (324 + c) [k, p, a, w] ↔ ∃ f, nI2 H (30 + c) 128 f ∧ 0 ≤ k ∧ pNd P f k.toNat p a w := by rcases pd2 hc with rfl | rfl <;> exact Iff.rfl
theorem dNP {c : Nat} (hc : c < 2) {k p w : Int} : dPr H P (326 + c) [k, p, w] ↔ ∃ f, nI2 H (30 + c) 128 f ∧ 0 ≤ k ∧ pNp P f k.toNat p w := by rcases pd2 hc with rfl | rfl <;> exact Iff.rfl
theorem dAL {k p w m : Int} : dPr H P 338 [k, p, w, m] ↔ 0 ≤ k ∧ pMn (pX P) (pUn (fun w r => pR P k.toNat p w r) w) m := Iff.rfl
theorem dBN {k p w m : Int} : dPr H P 339 [k, p, w, m] ↔ 0 ≤ k ∧ pMl (pX P) (pUn (pBn P (pR P k.toNat) k p) w) m := Iff.rfl
theorem dMN {k p w m : Int} : dPr H P 340 [k, p, w, m] ↔ 0 ≤ k ∧ pMn (pX P) (pR P k.toNat p w) m := Iff.rfl
theorem dPXc {a : Int} : dPr H P 341 [a] ↔ ∀ p w r, pR P (pN P - 1).toNat p w r → a ≤ 16 * p + w := Iff.rfl
theorem dPXQ {a : Int} : dPr H P 342 [a] ↔ pPx P (pN P) a := Iff.rfl
theorem dPXr {a : Int} : dPr H P 350 [a] ↔ ∀ p w r, pR P (pN P - 1).toNat p w r → a ≤ pIx p w r := Iff.rfl
theorem dSRC {k p a o : Int} : dPr H P 351 [k, p, a, o] ↔ pS P k p a o := Iff.rfl
theorem dTB {k : Int} : dPr H P 345 [k] ↔ ∃ f, nI2 H 75 15300 f ∧ 345 = 345 ∧ pTb P f k := Iff.rfl
theorem dTG {k p a o w e : Int} : dPr H P 346 [k, p, a, o, w, e] ↔ ∃ f, nI2 H 75 15300 f ∧ 346 = 346 ∧ pTg P f k (pTd P k p a o w e) ∧ (0 ≤ e → 0 ≤ w ∧ w < pM P ∧ pKn P w.toNat = pK P k.toNat) := Iff.rfl
theorem dTS {k i : Int} : dPr H P 348 [k, i] ↔ ∃ f, nI2 H 75 15300 f ∧ 348 = 348 ∧ 0 ≤ k ∧ pTs P f k i := Iff.rfl
theorem dTGq {k p a o w e i old : Int} : dPr H P 347 [k, p, a, o, w, e, i, old] ↔ ∃ f, nI2 H 75 15300 f ∧ 347 = 347 ∧ dOd f i old (fun f => pTg P f k (pTd P k p a o w e) ∧ (0 ≤ e → 0 ≤ w ∧ w < pM P ∧ pKn P w.toNat = pK P k.toNat)) := Iff.rfl
theorem dTSq {k i e old : Int} : dPr H P 349 [k, i, e, old] ↔ ∃ f, nI2 H 75 15300 f ∧ 349 = 349 ∧ dOd f e old (fun f => 0 ≤ k ∧ pTs P f k i) := Iff.rfl
theorem pdKq {k : Nat} (h : 338 ≤ k) (h1 : k < 352) (h2 : k ≠ 343) (h3 : k ≠ 344) : pdK k := ⟨by omega, h1, by omega, by omega, h2, h3⟩
theorem pdKr {k c : Nat} (hc : c < 2) (h : 322 ≤ k) (h1 : k < 337) (h2 : k ≠ 327) (h3 : k ≠ 328) (h4 : k ≠ 329) : pdK (k + c) := ⟨by omega, by omega, by omega, by omega, by omega, by omega⟩
/-- a number that stands there -/
theorem pdEl {j m : Nat} {f : Nat → Int32} {zi z : Int} (k : kEl j zi z H) (hf : nI2 H j m f) (r : -2147483648 ≤ z ∧ z ≤ 2147483647) : 0 ≤ zi ∧ (f zi.toNat).toInt = z := ⟨(kElA k hf).1, n32i (sfRng _) r (by rw [Int32.ofInt_toInt]; exact (kElA k hf).2)⟩
theorem pdEo {z : Int} {y : Int32} (h : y = Int32.ofInt z) (r : -2147483648 ≤ z ∧ z ≤ 2147483647) : y.toInt = z := n32i (sfRng _) r (by rw [Int32.ofInt_toInt]; exact h)
theorem pdKi (hM : sMo ρ Γ) (hg : kGh (kGP (kUP RO)) ρ γ H) (c : pdC H P zh zb zo zx zn zN) {cell : Nat} (hS : nSP cell 8 zb zn H) {w k n : sL} {zw zk : Int} (ew : sEv ρ w = some zw) (ek : sEv ρ k = some zk) (en : sEv ρ n = some zn) {t : Bool} (h : sfKi Γ γ cell w k n = some t) : 0 ≤ zw ∧ zw < 16 ∧ 0 ≤ zk ∧ zk < zn ∧ (t = true ↔ pKn P zw.toNat = pK P zk.toNat) := by
  obtain ⟨g, fn, fk, fl, h1, h2, rfl⟩ := c
  exact sfKi_ok hM hg h1 h2 hS ew ek en h
theorem pdGv (hg : kGh (kGP (kUP RO)) ρ γ H) (c : pdC H P zh zb zo zx zn zN) {hl w p b' v r : sL} {zw zp zb' zv : Int} (e1 : sEv ρ hl = some zh) (e2 : sEv ρ w = some zw) (e3 : sEv ρ p = some zp) (e4 : sEv ρ b' = some zb') (e5 : sEv ρ v = some zv) (hk : kEl 57 zo zv H ∧ -2147483648 ≤ zv ∧ zv ≤ 2147483647) (h : sfGv γ hl w p b' v = some r) : ∃ zr, sEv ρ r = some zr ∧ pGg P zw zp zb' zr := by
  obtain ⟨g, fn, fk, fl, h1, h2, rfl⟩ := c
  exact sfGv_ok hg e1 e2 e3 e4 e5 hk h
theorem pdGn (hg : kGh (kGP (kUP RO)) ρ γ H) (c : pdC H P zh zb zo zx zn zN) {hl w k a one gg : sL} {zw zk za : Int} (e1 : sEv ρ hl = some zh) (e2 : sEv ρ w = some zw) (e3 : sEv ρ k = some zk) (e4 : sEv ρ a = some za) (e5 : sEv ρ one = some zo) {j : Nat} (hj : pKn P zw.toNat = pK P j) (h : sfGn γ hl w k a one = some gg) : ∃ zg, sEv ρ gg = some zg ∧ pGg P zw zk (pBa P (pA za) (j : Int)) zg := by
  obtain ⟨g, fn, fk, fl, hG, hW, rfl⟩ := c
  unfold sfGn at h
  split at h
  · rename_i x1 x2 x3 x4 x5 g' hfa
    cases h
    obtain ⟨h1, zs, e, h2⟩ := nFa_ok hg hfa (by decide) (by decide)
    have he := sfTk h1
    simp only [List.length_cons, List.length_nil, List.drop_succ_cons, List.drop_zero, List.cons_append, List.nil_append, List.cons.injEq, and_true] at he
    obtain ⟨rfl, rfl, rfl, rfl, rfl⟩ := he
    obtain ⟨y1, y2, y3, y4, y5, y6, rfl, f1, f2, f3, f4, f5, f6⟩ := sVal_6 e
    cases f1.symm.trans e1
    cases f2.symm.trans e2
    cases f3.symm.trans e3
    cases f4.symm.trans e4
    cases f5.symm.trans e5
    obtain ⟨a1, a2, a3, a4, a5, a6, he, hV⟩ : ∃ hl w p a one g, [zh, zw, zk, za, zo, y6] = [hl, w, p, a, one, g] ∧ nGW hl w p (pA a) one g H := (sfUP (by decide)).mp h2
    cases he
    obtain ⟨fn', fk', fl', b', v, hW', hv, hGV, hb⟩ := hV
    cases hW.1.symm.trans hW'.1
    cases hW.2.1.symm.trans hW'.2.1
    refine ⟨y6, f6, v, hv, ?_⟩
    have hj : (fk zw.toNat).toInt = jW g zb j := hj
    have e : pBa (pQ H g fn fk fl zh zb zo zx zn zN) (pA za) (j : Int) = b' := by
      rw [hb]
      show (if 0 ≤ pA za ∧ jW g zb ((j : Int)).toNat = (fk (pA za).toNat).toInt then (fn (pA za).toNat).toInt else 0) = _
      rw [Int.toNat_natCast, ← hj]
      by_cases c : 0 ≤ pA za ∧ fk (pA za).toNat = fk zw.toNat
      · rw [if_pos c, if_pos ⟨c.1, by rw [c.2]⟩]
      · rw [if_neg c, if_neg (fun q => c ⟨q.1, Int32.toInt_inj.mp q.2.symm⟩)]
    rw [e]
    exact hGV
  · cases h
/-- of another KIN than the word ahead: nothing told -/
theorem pdGz (hg : kGh (kGP (kUP RO)) ρ γ H) (c : pdC H P zh zb zo zx zn zN) {hl w k a one gg : sL} {zw zk za : Int} (e1 : sEv ρ hl = some zh) (e2 : sEv ρ w = some zw) (e3 : sEv ρ k = some zk) (e4 : sEv ρ a = some za) (e5 : sEv ρ one = some zo) (hne : 0 ≤ za → za < 16 → pKn P za.toNat ≠ pKn P zw.toNat) (h : sfGn γ hl w k a one = some gg) : ∃ zg, sEv ρ gg = some zg ∧ pGg P zw zk 0 zg := by
  obtain ⟨g, fn, fk, fl, hG, hW, rfl⟩ := c
  unfold sfGn at h
  split at h
  · rename_i x1 x2 x3 x4 x5 g' hfa
    cases h
    obtain ⟨h1, zs, e, h2⟩ := nFa_ok hg hfa (by decide) (by decide)
    have he := sfTk h1
    simp only [List.length_cons, List.length_nil, List.drop_succ_cons, List.drop_zero, List.cons_append, List.nil_append, List.cons.injEq, and_true] at he
    obtain ⟨rfl, rfl, rfl, rfl, rfl⟩ := he
    obtain ⟨y1, y2, y3, y4, y5, y6, rfl, f1, f2, f3, f4, f5, f6⟩ := sVal_6 e
    cases f1.symm.trans e1
    cases f2.symm.trans e2
    cases f3.symm.trans e3
    cases f4.symm.trans e4
    cases f5.symm.trans e5
    obtain ⟨a1, a2, a3, a4, a5, a6, he, hV⟩ : ∃ hl w p a one g, [zh, zw, zk, za, zo, y6] = [hl, w, p, a, one, g] ∧ nGW hl w p (pA a) one g H := (sfUP (by decide)).mp h2
    cases he
    obtain ⟨fn', fk', fl', b', v, hW', hv, hGV, hb⟩ := hV
    cases hW.1.symm.trans hW'.1
    cases hW.2.1.symm.trans hW'.2.1
    refine ⟨y6, f6, v, hv, ?_⟩
    have e : b' = 0 := by
      rw [hb]
      refine if_neg (fun q => ?_)
      unfold pA at q
      split at q
      · rename_i c
        exact hne c.1 c.2 (show (fk za.toNat).toInt = (fk zw.toNat).toInt by rw [q.2])
      · omega
    rw [e] at hGV
    exact hGV
  · cases h
end PDA
end
