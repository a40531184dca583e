/-! How many must be put in: pure mathematics, what the loops hold. -/
noncomputable section
section PPAE
variable {P : pP}
theorem pMn_le {x v : Int} {S : Int → Prop} (hx : x ≤ 99) (h : pMn x S v) : v ≤ 100 ∧ 0 ≤ v := by
  rcases h with ⟨rfl, -⟩ | ⟨h0, h1, -, -⟩
  · omega
  · omega
/-- the least, which may be too great -/
def pMl (x : Int) (S : Int → Prop) (v : Int) : Prop := (x < v ∧ ∀ r, ¬ S r) ∨ (0 ≤ v ∧ v ≤ x ∧ S v ∧ ∀ r, S r → v ≤ r)
theorem pMl_mn {x v : Int} {S : Int → Prop} (h : pMl x S v) (hv : v ≤ x) : pMn x S v := h.elim (fun q => by omega) Or.inr
theorem pMl_no {x v : Int} {S : Int → Prop} (h : pMl x S v) (hv : x < v) : ∀ r, ¬ S r := h.elim (fun q => q.2) (fun q => by omega)
theorem pMl_iff {x v : Int} {S T : Int → Prop} (h : pMl x S v) (e : ∀ r, S r ↔ T r) : pMl x T v := by
  rcases h with ⟨h0, h⟩ | ⟨h0, h1, h2, h3⟩
  · exact Or.inl ⟨h0, fun r q => h r ((e r).mpr q)⟩
  · exact Or.inr ⟨h0, h1, (e v).mp h2, fun r q => h3 r ((e r).mpr q)⟩
theorem pMl_or {x u s v m g : Int} {S T : Int → Prop} (hx : x ≤ 99) (h : pMl x S u) (h' : pMn x T (pSs x m g)) (hm : m ≤ x) (hs : s = max 0 (m + g)) (hv : (v = u ∧ u ≤ s) ∨ (v = s ∧ s ≤ u)) : pMl x (fun r => S r ∨ T r) v := by
  unfold pSs at h'
  by_cases c : s ≤ x
  · rw [if_pos ⟨hm, by omega⟩, ← hs] at h'
    have h' : 0 ≤ s ∧ T s ∧ ∀ r, T r → s ≤ r := by
      rcases h' with ⟨e, q⟩ | ⟨q0, q1, q2, q3⟩
      · omega
      · exact ⟨q0, q2, q3⟩
    rcases h with ⟨h0, h⟩ | ⟨h0, h1, h2, h3⟩
    · rw [show v = s by omega]
      exact Or.inr ⟨h'.1, c, Or.inr h'.2.1, fun r q => q.elim (fun q => absurd q (h r)) (h'.2.2 r)⟩
    · rcases hv with ⟨rfl, hv⟩ | ⟨rfl, hv⟩
      · exact Or.inr ⟨h0, h1, Or.inl h2, fun r q => q.elim (h3 r) (fun q => by have := h'.2.2 r q; omega)⟩
      · exact Or.inr ⟨h'.1, c, Or.inr h'.2.1, fun r q => q.elim (fun q => by have := h3 r q; omega) (h'.2.2 r)⟩
  · rw [if_neg (by omega)] at h'
    have hT : ∀ r, ¬ T r := by
      rcases h' with ⟨-, q⟩ | ⟨q0, q1, q2, q3⟩
      · exact q
      · omega
    rcases h with ⟨h0, h⟩ | ⟨h0, h1, h2, h3⟩
    · exact Or.inl ⟨by omega, fun r q => q.elim (h r) (hT r)⟩
    · rw [show v = u by omega]
      exact Or.inr ⟨h0, h1, Or.inl h2, fun r q => q.elim (h3 r) (fun q => absurd q (hT r))⟩
/-- one word more put in -/
theorem pBl_s {R : Int → Int → Int → Prop} {k p e u s v m g : Int} (hG : pFn P) (hx : pX P ≤ 99) (e0 : 0 ≤ e) (h : pMl (pX P) (pUn (pBn P R k p) e) u) (ha : pMn (pX P) (pAl P R p) m) (h1 : pKn P e.toNat ≠ pK P k.toNat) (h2 : pKn P e.toNat ≠ pK P (k + 1).toNat) (hg : pGg P e (k + 1 + p) 0 g) (hm : m ≤ pX P) (hs : s = max 0 (m + g)) (hv : (v = u ∧ u ≤ s) ∨ (v = s ∧ s ≤ u)) : pMl (pX P) (pUn (pBn P R k p) (e + 1)) v := pMl_iff (pMl_or hx h (pBn_s hG hx ha h1 h2 hg) hm hs hv) (fun r => ⟨fun q => q.elim (fun ⟨a, q0, q1, q2⟩ => ⟨a, q0, by omega, q2⟩) (fun q => ⟨e, e0, by omega, q⟩), fun ⟨a, q0, q1, q2⟩ => by
  by_cases c : a = e
  · subst c
    exact Or.inr q2
  · exact Or.inl ⟨a, q0, by omega, q2⟩⟩)
theorem pBl_n {R : Int → Int → Int → Prop} {k p e u : Int} (h : pMl (pX P) (pUn (pBn P R k p) e) u) (h1 : pKn P e.toNat = pK P k.toNat ∨ pKn P e.toNat = pK P (k + 1).toNat) : pMl (pX P) (pUn (pBn P R k p) (e + 1)) u := pMl_iff h (fun r => ⟨fun ⟨a, q0, q1, q2⟩ => ⟨a, q0, by omega, q2⟩, fun ⟨a, q0, q1, q2⟩ => by
  by_cases c : a = e
  · subst c
    exact absurd h1 (fun q => q.elim q2.1 q2.2.1)
  · exact ⟨a, q0, by omega, q2⟩⟩)
theorem pBl_0 {x : Int} {S : Int → Int → Prop} (hx : x ≤ 99) : pMl x (pUn S 0) 100 := Or.inl ⟨by omega, fun r ⟨a, h0, h1, _⟩ => by omega⟩
/-- none can be put in behind what can't be -/
theorem pBl_x {R : Int → Int → Int → Prop} {k p e u m : Int} (h : pMl (pX P) (pUn (pBn P R k p) e) u) (he : e < pM P → False ∨ (pMn (pX P) (pAl P R p) m ∧ pX P < m)) (he2 : e ≤ pM P) : pMl (pX P) (pUn (pBn P R k p) (pM P)) u := by
  by_cases c : e < pM P
  · rcases he c with q | ⟨q, q2⟩
    · exact q.elim
    · have hn : ∀ r, ¬ pAl P R p r := by
        rcases q with ⟨-, q⟩ | ⟨q0, q1, -, -⟩
        · exact q
        · omega
      refine pMl_iff h (fun r => ⟨fun ⟨a, _, _, _, _, r0, _, q3, _⟩ => absurd q3 (hn r0), fun ⟨a, _, _, _, _, r0, _, q3, _⟩ => absurd q3 (hn r0)⟩)
  · rw [show pM P = e by omega]
    exact h
theorem pAl_un {k : Nat} {p m w : Int} (hw : pM P ≤ w) (h : pMn (pX P) (pUn (fun a r => pR P k p a r) w) m) : pMn (pX P) (pAl P (pR P k) p) m := pMn_iff h (fun r => ⟨fun ⟨a, _, _, q⟩ => ⟨a, q⟩, fun ⟨a, q⟩ => ⟨a, (pR_rng k q).2.2.1, by have := (pR_rng k q).2.2.2.1; omega, q⟩⟩)
theorem pUn_N {k : Nat} {p m w w' : Int} (hw : pM P ≤ w) (hw' : pM P ≤ w') (h : pMn (pX P) (pUn (fun a r => pR P k p a r) w) m) : pMn (pX P) (pUn (fun a r => pR P k p a r) w') m := pMn_iff h (fun r => ⟨fun ⟨a, q0, _, q⟩ => ⟨a, q0, by have := (pR_rng k q).2.2.2.1; omega, q⟩, fun ⟨a, q0, _, q⟩ => ⟨a, q0, by have := (pR_rng k q).2.2.2.1; omega, q⟩⟩)
theorem pDe_none {k : Nat} {p u : Int} (h : pMl (pX P) (pUn (pBn P (pR P k) k p) (pM P)) u) (hu : pX P < u) : ∀ w r, ¬ pDe P (pR P k) k (p + 1) w r := fun w r q => by
  obtain ⟨-, -, -, r1, g2, q2, -⟩ := pDe_iff.mp q
  exact pMl_no h hu r1 q2
/-- the first KIN -/
def pN0 (P : pP) (f : Nat → Int32) (w : Int) : Prop := ∀ p' w', 0 ≤ p' → p' < 8 → 0 ≤ w' → w' < 16 → pMn (pX P) (fun r => p' = 0 ∧ w' < w ∧ pR P 0 0 w' r) (f (16 * p' + w').toNat).toInt
theorem pN0_0 {f : Nat → Int32} (hf : ∀ i : Nat, i < 128 → (f i).toInt = 100) : pN0 P f 0 := fun p' w' h0 h1 h2 h3 => by
  rw [hf _ (by omega)]
  exact Or.inl ⟨rfl, fun r q => by omega⟩
theorem pN0_n {f : Nat → Int32} {w : Int} (h : pN0 P f w) (hn : pKn P w.toNat ≠ pK P 0) : pN0 P f (w + 1) := fun p' w' h0 h1 h2 h3 => pMn_iff (h p' w' h0 h1 h2 h3) (fun r => ⟨fun ⟨a, b, c⟩ => ⟨a, by omega, c⟩, fun ⟨a, b, c⟩ => ⟨a, by
  by_cases e : w' = w
  · subst e
    exact absurd c.2.2.2.1 hn
  · omega, c⟩⟩)
theorem pN0_s {f f' : Nat → Int32} {w m : Int} (hx : pX P ≤ 99) (w0 : 0 ≤ w) (w16 : w < 16) (h : pN0 P f w) (hm : pMn (pX P) (pR P 0 0 w) m) (hf : ∀ i : Nat, i ≠ w.toNat → f' i = f i) (hv : (f' w.toNat).toInt = min (f w.toNat).toInt m) : pN0 P f' (w + 1) := fun p' w' h0 h1 h2 h3 => by
  by_cases e : p' = 0 ∧ w' = w
  · obtain ⟨rfl, rfl⟩ := e
    rw [show (16 * 0 + w').toNat = w'.toNat by omega, hv]
    have q := h 0 w' h0 h1 h2 h3
    rw [show (16 * 0 + w').toNat = w'.toNat by omega] at q
    exact pMn_iff (pMn_or hx q hm) (fun r => ⟨fun q => q.elim (fun ⟨a, b, c⟩ => by omega) (fun q => ⟨rfl, by omega, q⟩), fun ⟨_, _, c⟩ => Or.inr c⟩)
  · rw [hf _ (by omega)]
    exact pMn_iff (h p' w' h0 h1 h2 h3) (fun r => ⟨fun ⟨a, b, c⟩ => ⟨a, by omega, c⟩, fun ⟨a, b, c⟩ => ⟨a, by omega, c⟩⟩)
theorem pN0_e {f : Nat → Int32} {w : Int} (hw : pM P ≤ w) (h : pN0 P f w) : pRu P f 0 := fun p' w' h0 h1 h2 h3 => pMn_iff (h p' w' h0 h1 h2 h3) (fun r => ⟨fun ⟨a, _, c⟩ => by subst a; exact c, fun q => by
  have e := (pR_rng 0 q).1
  have e2 := (pR_rng 0 q).2.1
  have e3 := (pR_rng 0 q).2.2.2.1
  obtain rfl : p' = 0 := by omega
  exact ⟨rfl, by omega, q⟩⟩)
theorem pR0_s (hG : pFn P) {w g : Int} (hx : pX P ≤ 99) (w0 : 0 ≤ w) (w1 : w < pM P) (h1 : pKn P w.toNat = pK P 0) (hg : pGg P w 0 0 g) : pMn (pX P) (pR P 0 0 w) (if max 0 g ≤ pX P then max 0 g else 100) := by
  split
  · rename_i c
    exact Or.inr ⟨by omega, c, ⟨rfl, w0, w1, h1, g, hg, rfl, c⟩, fun r q => by
      obtain ⟨-, -, -, -, g', q1, rfl, q2⟩ := q
      cases hG _ _ _ _ _ q1 hg
      omega⟩
  · rename_i c
    exact Or.inl ⟨rfl, fun r q => by
      obtain ⟨-, -, -, -, g', q1, rfl, q2⟩ := q
      cases hG _ _ _ _ _ q1 hg
      omega⟩
/-- what stands in a row behind an offer -/
theorem pOfr {x old nw run m g : Int} {S : Int → Prop} (hx : x ≤ 99) (ho : pMn x S old) (hm : m ≤ x) (hr : run = max 0 (m + g)) (h : (nw = old ∧ (x < run ∨ old ≤ run)) ∨ (nw = run ∧ run < old ∧ run ≤ x)) : nw = min old (pSs x m g) := by
  have := pMn_le hx ho
  unfold pSs
  split
  · omega
  · omega
/-- the answer, told by what isn't reached -/
theorem pPx_no {n : Int} (hn : 1 ≤ n) (h8 : n ≤ 8) (hM : pM P ≤ 16) {i : Int} {c : Int} (hc : 100 ≤ c ∧ c * 8 ≤ i ∨ c = 16 ∧ 128 ≤ i) (h : ∀ p a r, pR P (n - 1).toNat p a r → i ≤ c * p + (if c = 16 then a else 100 * a + r)) (hx : pX P ≤ 99) : c = 16 ∨ c = 1600 → pPx P n (-2) := fun hc2 => Or.inr ⟨hn, Or.inl ⟨rfl, fun p a s q => by
  have q1 := pR_rng _ q
  have q2 := h p a s q
  rcases hc2 with rfl | rfl
  · rw [if_pos rfl] at q2
    omega
  · rw [if_neg (by decide)] at q2
    omega⟩⟩
/-- the sources of a step -/
def pS (P : pP) (k p a o : Int) : Prop := (k = 0 ∧ p = 0 ∧ a = 16 ∧ o = 0) ∨ (0 < k ∧ pR P (k - 1).toNat p a o)
/-- straight -/
def pT0 (P : pP) (k p a o w r : Int) : Prop := ∃ g, pGg P w (k + p) (pBa P (pA a) k) g ∧ r = max 0 (o + g) ∧ r ≤ pX P
def pT1 (P : pP) (k p o w e r : Int) : Prop := 0 < k ∧ e < pM P ∧ pKn P e.toNat ≠ pK P (k - 1).toNat ∧ pKn P e.toNat ≠ pK P k.toNat ∧ ∃ g1 g2, pGg P e (k + p) 0 g1 ∧ max 0 (o + g1) ≤ pX P ∧ pGg P w (k + p + 1) 0 g2 ∧ r = max 0 (max 0 (o + g1) + g2) ∧ r ≤ pX P
/-- a step: e: what is put in, -1: nothing; p1: how many are then put in -/
def pTx (P : pP) (k p a o w e r p1 : Int) : Prop := 0 ≤ w ∧ w < pM P ∧ pKn P w.toNat = pK P k.toNat ∧ ((e = -1 ∧ p1 = p ∧ pT0 P k p a o w r) ∨ (0 ≤ e ∧ p1 = p + 1 ∧ pT1 P k p o w e r))
def pCd (p a o w e p0 a0 o0 w0 e0 : Int) : Prop := p0 < p ∨ (p0 = p ∧ (a0 < a ∨ (a0 = a ∧ (o0 < o ∨ (o0 = o ∧ (w0 < w ∨ (w0 = w ∧ e0 < e)))))))
/-- what is reached so far -/
def pTd (P : pP) (k p a o w e p' w' r' : Int) : Prop := ∃ p0 a0 o0 e0, pS P k p0 a0 o0 ∧ pCd p a o w e p0 a0 o0 w' e0 ∧ pTx P k p0 a0 o0 w' e0 r' p'
theorem pS_rng {k p a o : Int} (h : pS P k p a o) : 0 ≤ p ∧ 0 ≤ o ∧ 0 ≤ a ∧ (0 < k → p < k ∧ a < pM P ∧ o ≤ pX P ∧ pKn P a.toNat = pK P (k - 1).toNat) ∧ (k = 0 → p = 0 ∧ a = 16 ∧ o = 0) ∧ 0 ≤ k := by
  rcases h with ⟨h1, h2, h3, h4⟩ | ⟨h1, h2⟩
  · omega
  · have q := pR_rng _ h2
    exact ⟨q.1, q.2.2.2.2.2.1, q.2.2.1, fun _ => ⟨by omega, q.2.2.2.1, q.2.2.2.2.2.2, q.2.2.2.2.1⟩, fun _ => by omega, by omega⟩
theorem pTx_rng {k p a o w e r p1 : Int} (h : pTx P k p a o w e r p1) : 0 ≤ w ∧ w < pM P ∧ pKn P w.toNat = pK P k.toNat ∧ -1 ≤ e ∧ (0 ≤ e → 0 < k ∧ e < pM P) := by
  obtain ⟨h1, h2, h3, ⟨h4, -⟩ | ⟨h4, -, h5, h6, -⟩⟩ := h
  · exact ⟨h1, h2, h3, by omega, fun _ => by omega⟩
  · exact ⟨h1, h2, h3, by omega, fun _ => ⟨h5, h6⟩⟩
theorem pTd_c {k p a o w e p2 a2 o2 w2 e2 : Int} (h : ∀ p0 a0 o0 w0 e0 : Int, (pS P k p0 a0 o0 ∧ 0 ≤ w0 ∧ w0 < pM P ∧ pKn P w0.toNat = pK P k.toNat ∧ -1 ≤ e0 ∧ (0 ≤ e0 → 0 < k ∧ e0 < pM P)) → (pCd p a o w e p0 a0 o0 w0 e0 ↔ pCd p2 a2 o2 w2 e2 p0 a0 o0 w0 e0)) (p' w' r' : Int) : pTd P k p a o w e p' w' r' ↔ pTd P k p2 a2 o2 w2 e2 p' w' r' :=
  ⟨fun ⟨p0, a0, o0, e0, q1, q2, q3⟩ => ⟨p0, a0, o0, e0, q1, (h _ _ _ _ _ ⟨q1, pTx_rng q3⟩).mp q2, q3⟩, fun ⟨p0, a0, o0, e0, q1, q2, q3⟩ => ⟨p0, a0, o0, e0, q1, (h _ _ _ _ _ ⟨q1, pTx_rng q3⟩).mpr q2, q3⟩⟩
theorem pTd_0 {k p' w' r' : Int} : ¬ pTd P k 0 0 0 0 (-1) p' w' r' := by
  rintro ⟨p0, a0, o0, e0, q1, q2, q3⟩
  have a := pS_rng q1
  have b := pTx_rng q3
  unfold pCd at q2
  omega
theorem pTd_s {k p a o w e p' w' r' : Int} (hS : pS P k p a o) : pTd P k p a o w (e + 1) p' w' r' ↔ pTd P k p a o w e p' w' r' ∨ (w' = w ∧ pTx P k p a o w e r' p') := by
  constructor
  · rintro ⟨p0, a0, o0, e0, q1, q2, q3⟩
    by_cases c : p0 = p ∧ a0 = a ∧ o0 = o ∧ w' = w ∧ e0 = e
    · obtain ⟨rfl, rfl, rfl, rfl, rfl⟩ := c
      exact Or.inr ⟨rfl, q3⟩
    · refine Or.inl ⟨p0, a0, o0, e0, q1, ?_, q3⟩
      unfold pCd at q2 ⊢
      omega
  · rintro (⟨p0, a0, o0, e0, q1, q2, q3⟩ | ⟨rfl, q⟩)
    · refine ⟨p0, a0, o0, e0, q1, ?_, q3⟩
      unfold pCd at q2 ⊢
      omega
    · refine ⟨p, a, o, e, hS, ?_, q⟩
      unfold pCd
      omega
theorem pTd_w {k p a o w e : Int} (h : (e = -1 ∧ pKn P w.toNat ≠ pK P k.toNat) ∨ pM P ≤ e ∨ (k = 0 ∧ e = 0)) (p' w' r' : Int) : pTd P k p a o (w + 1) (-1) p' w' r' ↔ pTd P k p a o w e p' w' r' := pTd_c (fun p0 a0 o0 w0 e0 ⟨q1, q2, q3, q4, q5, q6⟩ => by
  have hk : w0 = w → e = -1 → False := fun e1 e2 => by
    subst e1
    rcases h with h | h | h
    · exact h.2 q4
    · omega
    · omega
  unfold pCd
  by_cases c : w0 = w
  · have := hk c
    subst c
    omega
  · omega) p' w' r'
theorem pTd_o {k p a o w : Int} (h : pM P ≤ w) (p' w' r' : Int) : pTd P k p a (o + 1) 0 (-1) p' w' r' ↔ pTd P k p a o w (-1) p' w' r' := pTd_c (fun p0 a0 o0 w0 e0 ⟨q1, q2, q3, q4, q5, q6⟩ => by
  unfold pCd
  omega) p' w' r'
theorem pTd_n {k p a o : Int} (h : ¬ pS P k p a o) (p' w' r' : Int) : pTd P k p a (o + 1) 0 (-1) p' w' r' ↔ pTd P k p a o 0 (-1) p' w' r' := pTd_c (fun p0 a0 o0 w0 e0 ⟨q1, q2, q3, q4, q5, q6⟩ => by
  have : ¬ (p0 = p ∧ a0 = a ∧ o0 = o) := by
    rintro ⟨rfl, rfl, rfl⟩
    exact h q1
  unfold pCd
  omega) p' w' r'
theorem pTd_a {k p a o : Int} (hk : 0 < k) (h : pX P < o) (p' w' r' : Int) : pTd P k p (a + 1) 0 0 (-1) p' w' r' ↔ pTd P k p a o 0 (-1) p' w' r' := pTd_c (fun p0 a0 o0 w0 e0 ⟨q1, q2, q3, q4, q5, q6⟩ => by
  have := pS_rng q1
  have := this.2.2.2.1 hk
  unfold pCd
  omega) p' w' r'
theorem pTd_p {k p a : Int} (hk : 0 < k) (h : pM P ≤ a ∨ (a = 0 ∧ k ≤ p)) (p' w' r' : Int) : pTd P k (p + 1) 0 0 0 (-1) p' w' r' ↔ pTd P k p a 0 0 (-1) p' w' r' := pTd_c (fun p0 a0 o0 w0 e0 ⟨q1, q2, q3, q4, q5, q6⟩ => by
  have := pS_rng q1
  have := this.2.2.2.1 hk
  unfold pCd
  omega) p' w' r'
theorem pTd_00 (p' w' r' : Int) : pTd P 0 0 16 0 0 (-1) p' w' r' ↔ pTd P 0 0 0 0 0 (-1) p' w' r' := pTd_c (fun p0 a0 o0 w0 e0 ⟨q1, q2, q3, q4, q5, q6⟩ => by
  have := pS_rng q1
  have := this.2.2.2.2.1 rfl
  unfold pCd
  omega) p' w' r'
theorem pTd_p0 (p' w' r' : Int) : pTd P 0 1 0 0 0 (-1) p' w' r' ↔ pTd P 0 0 16 1 0 (-1) p' w' r' := pTd_c (fun p0 a0 o0 w0 e0 ⟨q1, q2, q3, q4, q5, q6⟩ => by
  have := pS_rng q1
  have := this.2.2.2.2.1 rfl
  unfold pCd
  omega) p' w' r'
theorem pA_in {a : Int} (h0 : 0 ≤ a) (h1 : a < 16) : pA a = a := if_pos ⟨h0, h1⟩
theorem pBa_in {a k : Int} (h0 : 0 ≤ a) (h1 : a < 16) : pBa P (pA a) k = pBb P a k := by
  rw [pA_in h0 h1]
  unfold pBa pBb
  by_cases c : pK P k.toNat = pKn P a.toNat
  · rw [if_pos ⟨h0, c⟩, if_pos c]
  · rw [if_neg (fun q => c q.2), if_neg c]
theorem pBa_16 {k : Int} : pBa P (pA 16) k = 0 := by
  unfold pBa pA
  rw [if_neg (show ¬ ((0 : Int) ≤ 16 ∧ (16 : Int) < 16) by omega), if_neg (by omega)]
theorem pTd_f {k p : Int} (hk : 0 ≤ k) (hp : k < p) (hM : pM P ≤ 16) (p' w' r' : Int) : pTd P k p 0 0 0 (-1) p' w' r' ↔ pR P k.toNat p' w' r' := by
  have hc : ∀ {p0 a0 o0 w0 e0 : Int}, pS P k p0 a0 o0 → pCd p 0 0 0 (-1) p0 a0 o0 w0 e0 := fun q => by
    have h1 := pS_rng q
    unfold pCd
    by_cases c : k = 0
    · have := h1.2.2.2.2.1 c
      omega
    · have := h1.2.2.2.1 (by omega)
      omega
  by_cases c : k = 0
  · subst c
    constructor
    · rintro ⟨p0, a0, o0, e0, q1, q2, w0, w1, w2, q3⟩
      obtain ⟨e1, e2, e3⟩ := (pS_rng q1).2.2.2.2.1 rfl
      subst e1 e2 e3
      rcases q3 with ⟨-, rfl, g, k1, k2, k3⟩ | ⟨-, -, k1, -⟩
      · rw [pBa_16] at k1
        exact ⟨rfl, w0, w1, w2, g, k1, by omega, k3⟩
      · omega
    · rintro ⟨rfl, w0, w1, w2, g, k1, k2, k3⟩
      refine ⟨0, 16, 0, -1, Or.inl ⟨rfl, rfl, rfl, rfl⟩, hc (Or.inl ⟨rfl, rfl, rfl, rfl⟩), w0, w1, w2, Or.inl ⟨rfl, rfl, g, ?_, by omega, k3⟩⟩
      rw [pBa_16]
      exact k1
  · obtain ⟨j, rfl⟩ : ∃ j : Nat, k = (j : Int) + 1 := ⟨(k - 1).toNat, by omega⟩
    rw [show ((j : Int) + 1).toNat = j + 1 by omega]
    have ej : ((j : Int) + 1 - 1).toNat = j := by omega
    have sw : ∀ {p0 a0 o0 : Int}, pS P ((j : Int) + 1) p0 a0 o0 ↔ pR P j p0 a0 o0 := fun {p0 a0 o0} => ⟨fun q => by
      rcases q with ⟨q, -⟩ | ⟨-, q⟩
      · omega
      · rw [ej] at q
        exact q, fun q => Or.inr ⟨by omega, by rw [ej]; exact q⟩⟩
    constructor
    · rintro ⟨p0, a0, o0, e0, q1, q2, w0, w1, w2, q3⟩
      have hr := pR_rng _ (sw.mp q1)
      rcases q3 with ⟨-, rfl, g, k1, k2, k3⟩ | ⟨e1, rfl, k0, k1, k2, k3, g1, g2, k4, k5, k6, k7, k8⟩
      · rw [pBa_in hr.2.2.1 (by omega)] at k1
        exact Or.inl ⟨a0, w0, w1, w2, o0, g, sw.mp q1, k1, k2, k3⟩
      · rw [ej] at k2
        refine Or.inr ⟨w0, w1, w2, a0, o0, e0, g1, g2, ?_, e1, k1, by rw [Int.toNat_natCast]; exact k2, k3, ?_, k5, ?_, k7, k8⟩
        · rw [show p0 + 1 - 1 = p0 by omega]
          exact sw.mp q1
        · rw [show (j : Int) + (p0 + 1) = (j : Int) + 1 + p0 by omega]
          exact k4
        · rw [show (j : Int) + 1 + (p0 + 1) = (j : Int) + 1 + p0 + 1 by omega]
          exact k6
    · rintro (⟨a0, w0, w1, w2, o0, g, q1, k1, k2, k3⟩ | ⟨w0, w1, w2, a0, o0, e0, g1, g2, q1, e1, k1, k2, k3, k4, k5, k6, k7, k8⟩)
      · have hr := pR_rng _ q1
        refine ⟨p', a0, o0, -1, sw.mpr q1, hc (sw.mpr q1), w0, w1, w2, Or.inl ⟨rfl, rfl, g, ?_, k2, k3⟩⟩
        rw [pBa_in hr.2.2.1 (by omega)]
        exact k1
      · refine ⟨p' - 1, a0, o0, e0, sw.mpr q1, hc (sw.mpr q1), w0, w1, w2, Or.inr ⟨e1, by omega, by omega, k1, ?_, k3, g1, g2, ?_, k5, ?_, k7, k8⟩⟩
        · rw [ej]
          rw [Int.toNat_natCast] at k2
          exact k2
        · rw [show (j : Int) + 1 + (p' - 1) = (j : Int) + p' by omega]
          exact k4
        · rw [show (j : Int) + 1 + (p' - 1) + 1 = (j : Int) + 1 + p' by omega]
          exact k6
/-- the table: bit 0 and bit 1 -/
def pBi (P : pP) (k p w r : Int) : Prop := 0 < k ∧ pR P (k - 1).toNat p w r
def pIx (p w r : Int) : Int := 1600 * p + 100 * w + r
def pTb (P : pP) (f : Nat → Int32) (k : Int) : Prop := ∀ p w r, 0 ≤ p → p < 8 → 0 ≤ w → w < 16 → 0 ≤ r → r < 100 → ((f (pIx p w r).toNat).toInt = 0 ∧ ¬ pBi P k p w r) ∨ ((f (pIx p w r).toNat).toInt = 1 ∧ pBi P k p w r)
def pTg (P : pP) (f : Nat → Int32) (k : Int) (D : Int → Int → Int → Prop) : Prop := ∀ p w r, 0 ≤ p → p < 8 → 0 ≤ w → w < 16 → 0 ≤ r → r < 100 → ∃ v, (f (pIx p w r).toNat).toInt = v ∧ 0 ≤ v ∧ v ≤ 3 ∧ (v % 2 = 1 ↔ pBi P k p w r) ∧ (2 ≤ v ↔ D p w r)
def pTs (P : pP) (f : Nat → Int32) (k i : Int) : Prop := ∀ p w r, 0 ≤ p → p < 8 → 0 ≤ w → w < 16 → 0 ≤ r → r < 100 → ∃ v, (f (pIx p w r).toNat).toInt = v ∧ 0 ≤ v ∧ v ≤ 3 ∧ (pIx p w r < i → v ≤ 1 ∧ (v = 1 ↔ pBi P (k + 1) p w r)) ∧ (i ≤ pIx p w r → (2 ≤ v ↔ pBi P (k + 1) p w r))
theorem pIx_in {i : Int} (h0 : 0 ≤ i) (h1 : i < 12800) : ∃ p w r, 0 ≤ p ∧ p < 8 ∧ 0 ≤ w ∧ w < 16 ∧ 0 ≤ r ∧ r < 100 ∧ pIx p w r = i := ⟨i / 1600, i % 1600 / 100, i % 100, by omega, by omega, by omega, by omega, by omega, by omega, by unfold pIx; omega⟩
theorem pIx_ne {p w r p' w' r' : Int} (h1 : 0 ≤ w) (h2 : w < 16) (h3 : 0 ≤ r) (h4 : r < 100) (k1 : 0 ≤ w') (k2 : w' < 16) (k3 : 0 ≤ r') (k4 : r' < 100) (h5 : 0 ≤ p) (h6 : 0 ≤ p') (h : (pIx p w r).toNat = (pIx p' w' r').toNat) : p = p' ∧ w = w' ∧ r = r' := by
  unfold pIx at h
  omega
theorem pTb_0 {f : Nat → Int32} (h : ∀ i : Nat, (i : Int) < 12800 → (f i).toInt = 0) : pTb P f 0 := fun p w r h0 h1 h2 h3 h4 h5 => Or.inl ⟨h _ (by unfold pIx; omega), fun q => by have := q.1; omega⟩
theorem pTg_0 {f : Nat → Int32} {k : Int} (h : pTb P f k) : pTg P f k (pTd P k 0 0 0 0 (-1)) := fun p w r h0 h1 h2 h3 h4 h5 => by
  rcases h p w r h0 h1 h2 h3 h4 h5 with ⟨q1, q2⟩ | ⟨q1, q2⟩
  · exact ⟨0, q1, by omega, by omega, ⟨fun q => by omega, fun q => absurd q q2⟩, ⟨fun q => by omega, fun q => absurd q pTd_0⟩⟩
  · exact ⟨1, q1, by omega, by omega, ⟨fun _ => q2, fun _ => by omega⟩, ⟨fun q => by omega, fun q => absurd q pTd_0⟩⟩
theorem pTg_iff {f : Nat → Int32} {k : Int} {D D' : Int → Int → Int → Prop} (h : pTg P f k D) (e : ∀ p w r, D' p w r ↔ D p w r) : pTg P f k D' := fun p w r h0 h1 h2 h3 h4 h5 => by
  obtain ⟨v, q1, q2, q3, q4, q5⟩ := h p w r h0 h1 h2 h3 h4 h5
  exact ⟨v, q1, q2, q3, q4, q5.trans (e p w r).symm⟩
theorem pTg_set {f f' : Nat → Int32} {k p w r o : Int} {D D' : Int → Int → Int → Prop} (h : pTg P f k D) (p0 : 0 ≤ p) (p1 : p < 8) (w0 : 0 ≤ w) (w1 : w < 16) (r0 : 0 ≤ r) (r1 : r < 100) (ho : (f (pIx p w r).toNat).toInt = o) (hv : ((o = 0 ∨ o = 2) ∧ (f' (pIx p w r).toNat).toInt = 2) ∨ ((o = 1 ∨ o = 3) ∧ (f' (pIx p w r).toNat).toInt = 3)) (hf : ∀ i : Nat, i ≠ (pIx p w r).toNat → f' i = f i) (e : ∀ p' w' r', D' p' w' r' ↔ D p' w' r' ∨ (p' = p ∧ w' = w ∧ r' = r)) : pTg P f' k D' := fun p' w' r' h0 h1 h2 h3 h4 h5 => by
  obtain ⟨v, q1, q2, q3, q4, q5⟩ := h p' w' r' h0 h1 h2 h3 h4 h5
  by_cases c : p' = p ∧ w' = w ∧ r' = r
  · obtain ⟨rfl, rfl, rfl⟩ := c
    have e2 : v = o := q1.symm.trans ho
    subst e2
    rcases hv with ⟨hv, hw⟩ | ⟨hv, hw⟩
    · exact ⟨2, hw, by omega, by omega, by rw [← q4]; omega, ⟨fun _ => (e _ _ _).mpr (Or.inr ⟨rfl, rfl, rfl⟩), fun _ => by omega⟩⟩
    · exact ⟨3, hw, by omega, by omega, by rw [← q4]; omega, ⟨fun _ => (e _ _ _).mpr (Or.inr ⟨rfl, rfl, rfl⟩), fun _ => by omega⟩⟩
  · rw [hf _ (fun q => c (pIx_ne h2 h3 h4 h5 w0 w1 r0 r1 h0 p0 q))]
    exact ⟨v, q1, q2, q3, q4, q5.trans ⟨fun q => (e _ _ _).mpr (Or.inl q), fun q => ((e _ _ _).mp q).elim id (fun q => absurd q c)⟩⟩
theorem pTs_0 {f : Nat → Int32} {k p : Int} (hk : 0 ≤ k) (hp : k < p) (hM : pM P ≤ 16) (h : pTg P f k (pTd P k p 0 0 0 (-1))) : pTs P f k 0 := fun p' w r h0 h1 h2 h3 h4 h5 => by
  obtain ⟨v, q1, q2, q3, q4, q5⟩ := h p' w r h0 h1 h2 h3 h4 h5
  refine ⟨v, q1, q2, q3, fun q => by unfold pIx at q; omega, fun _ => q5.trans ((pTd_f hk hp hM p' w r).trans ?_)⟩
  unfold pBi
  rw [show (k + 1 - 1).toNat = k.toNat by omega]
  exact ⟨fun q => ⟨by omega, q⟩, fun q => q.2⟩
theorem pTs_s {f f' : Nat → Int32} {k i o : Int} (i0 : 0 ≤ i) (i1 : i < 12800) (h : pTs P f k i) (ho : (f i.toNat).toInt = o) (hv : (o ≤ 1 ∧ (f' i.toNat).toInt = 0) ∨ (2 ≤ o ∧ (f' i.toNat).toInt = 1)) (hf : ∀ j : Nat, j ≠ i.toNat → f' j = f j) : pTs P f' k (i + 1) := fun p w r h0 h1 h2 h3 h4 h5 => by
  obtain ⟨v, q1, q2, q3, q4, q5⟩ := h p w r h0 h1 h2 h3 h4 h5
  have hp : 0 ≤ pIx p w r := by unfold pIx; omega
  by_cases c : pIx p w r = i
  · rw [c] at q1 q5 ⊢
    have e2 : v = o := q1.symm.trans ho
    subst e2
    rcases hv with ⟨hv, hw⟩ | ⟨hv, hw⟩
    · exact ⟨0, hw, by omega, by omega, fun _ => ⟨by omega, ⟨fun q => by omega, fun q => by have := (q5 (by omega)).mpr q; omega⟩⟩, fun q => by omega⟩
    · exact ⟨1, hw, by omega, by omega, fun _ => ⟨by omega, ⟨fun _ => (q5 (by omega)).mp hv, fun _ => rfl⟩⟩, fun q => by omega⟩
  · rw [hf _ (by omega)]
    exact ⟨v, q1, q2, q3, fun q => q4 (by omega), fun q => q5 (by omega)⟩
theorem pTs_e {f : Nat → Int32} {k i : Int} (hi : 12800 ≤ i) (h : pTs P f k i) : pTb P f (k + 1) := fun p w r h0 h1 h2 h3 h4 h5 => by
  obtain ⟨v, q1, q2, q3, q4, q5⟩ := h p w r h0 h1 h2 h3 h4 h5
  obtain ⟨q6, q7⟩ := q4 (by unfold pIx; omega)
  by_cases c : v = 1
  · exact Or.inr ⟨q1.trans c, q7.mp c⟩
  · exact Or.inl ⟨by omega, fun q => c (q7.mpr q)⟩
/-- one step worked out -/
theorem pTx_0 (hG : pFn P) {k p a o w g r p1 : Int} (w0 : 0 ≤ w) (w1 : w < pM P) (w2 : pKn P w.toNat = pK P k.toNat) (hg : pGg P w (k + p) (pBa P (pA a) k) g) : pTx P k p a o w (-1) r p1 ↔ p1 = p ∧ r = max 0 (o + g) ∧ max 0 (o + g) ≤ pX P := by
  constructor
  · rintro ⟨-, -, -, ⟨-, q1, g', q2, q3, q4⟩ | ⟨q, -⟩⟩
    · cases hG _ _ _ _ _ q2 hg
      exact ⟨q1, q3, by omega⟩
    · omega
  · rintro ⟨q1, q2, q3⟩
    exact ⟨w0, w1, w2, Or.inl ⟨rfl, q1, g, hg, q2, by omega⟩⟩
theorem pTx_1 (hG : pFn P) {k p a o w e g1 r p1 : Int} (w0 : 0 ≤ w) (w1 : w < pM P) (w2 : pKn P w.toNat = pK P k.toNat) (e0 : 0 ≤ e) (e1 : e < pM P) (hk : 0 < k) (d1 : pKn P e.toNat ≠ pK P (k - 1).toNat) (d2 : pKn P e.toNat ≠ pK P k.toNat) (hg : pGg P e (k + p) 0 g1) : pTx P k p a o w e r p1 ↔ p1 = p + 1 ∧ max 0 (o + g1) ≤ pX P ∧ ∃ g2, pGg P w (k + p + 1) 0 g2 ∧ r = max 0 (max 0 (o + g1) + g2) ∧ r ≤ pX P := by
  constructor
  · rintro ⟨-, -, -, ⟨q, -⟩ | ⟨-, q1, -, -, -, -, g1', g2, q2, q3, q4, q5, q6⟩⟩
    · omega
    · cases hG _ _ _ _ _ q2 hg
      exact ⟨q1, q3, g2, q4, q5, q6⟩
  · rintro ⟨q1, q3, g2, q4, q5, q6⟩
    exact ⟨w0, w1, w2, Or.inr ⟨e0, q1, hk, e1, d1, d2, g1, g2, hg, q3, q4, q5, q6⟩⟩
theorem pTx_n {k p a o w e r p1 : Int} (e0 : 0 ≤ e) (h : pKn P e.toNat = pK P (k - 1).toNat ∨ pKn P e.toNat = pK P k.toNat) : ¬ pTx P k p a o w e r p1 := by
  rintro ⟨-, -, -, ⟨q, -⟩ | ⟨-, q1, -, -, q2, q3, -⟩⟩
  · omega
  · exact h.elim q2 q3
end PPAE
end
