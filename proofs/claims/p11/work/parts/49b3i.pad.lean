/-! How many must be put in: pure mathematics. -/
noncomputable section
/-- one more KIN said with the word w, right behind the word a -/
def pDa (P : pP) (R : Int → Int → Int → Prop) (k p a w r : Int) : Prop := 0 ≤ w ∧ w < pM P ∧ pKn P w.toNat = pK P (k + 1).toNat ∧ ∃ r0 g, R p a r0 ∧ pGg P w (k + 1 + p) (pBb P a (k + 1)) g ∧ r = max 0 (r0 + g) ∧ r ≤ pX P
/-- with one word more put in between -/
def pDe (P : pP) (R : Int → Int → Int → Prop) (k p w r : Int) : Prop := 0 ≤ w ∧ w < pM P ∧ pKn P w.toNat = pK P (k + 1).toNat ∧ ∃ a r0 e g1 g2, R (p - 1) a r0 ∧ 0 ≤ e ∧ e < pM P ∧ pKn P e.toNat ≠ pK P k.toNat ∧ pKn P e.toNat ≠ pK P (k + 1).toNat ∧ pGg P e (k + p) 0 g1 ∧ max 0 (r0 + g1) ≤ pX P ∧ pGg P w (k + 1 + p) 0 g2 ∧ r = max 0 (max 0 (r0 + g1) + g2) ∧ r ≤ pX P
/-- so many KINS said, so many put in, the last word, the sum -/
def pR (P : pP) : Nat → Int → Int → Int → Prop
  | 0, p, a, r => p = 0 ∧ 0 ≤ a ∧ a < pM P ∧ pKn P a.toNat = pK P 0 ∧ ∃ g, pGg P a 0 0 g ∧ r = max 0 g ∧ r ≤ pX P
  | k + 1, p, w, r => (∃ a, pDa P (pR P k) k p a w r) ∨ pDe P (pR P k) k p w r
/-- the least, or a hundred -/
def pMn (x : Int) (S : Int → Prop) (v : Int) : Prop := (v = 100 ∧ ∀ r, ¬ S r) ∨ (0 ≤ v ∧ v ≤ x ∧ S v ∧ ∀ r, S r → v ≤ r)
section PPAD
variable {P : pP}
theorem pR_rng : ∀ (k : Nat) {p a r : Int}, pR P k p a r → 0 ≤ p ∧ p ≤ k ∧ 0 ≤ a ∧ a < pM P ∧ pKn P a.toNat = pK P k ∧ 0 ≤ r ∧ r ≤ pX P
  | 0, p, a, r, h => by
    obtain ⟨rfl, h1, h2, h3, g, -, rfl, h4⟩ := h
    exact ⟨by omega, by omega, h1, h2, h3, by omega, h4⟩
  | k + 1, p, w, r, h => by
    rcases h with ⟨a, h1, h2, h3, r0, g, h4, -, rfl, h5⟩ | ⟨h1, h2, h3, a, r0, e, g1, g2, h4, -, -, -, -, -, -, -, rfl, h5⟩
    · have q := pR_rng k h4
      exact ⟨q.1, by omega, h1, h2, h3, by omega, h5⟩
    · have q := pR_rng k h4
      exact ⟨by omega, by omega, h1, h2, h3, by omega, h5⟩
theorem pMn_one {x v v' : Int} {S : Int → Prop} (h : pMn x S v) (h' : pMn x S v') : v = v' := by
  rcases h with ⟨rfl, h⟩ | ⟨h0, h1, h2, h3⟩ <;> rcases h' with ⟨rfl, h'⟩ | ⟨k0, k1, k2, k3⟩
  · rfl
  · exact absurd k2 (h v')
  · exact absurd h2 (h' v)
  · have a := h3 _ k2
    have b := k3 _ h2
    omega
theorem pMn_iff {x v : Int} {S T : Int → Prop} (h : pMn x S v) (e : ∀ r, S r ↔ T r) : pMn x T v := by
  rcases h with ⟨rfl, h⟩ | ⟨h0, h1, h2, h3⟩
  · exact Or.inl ⟨rfl, fun r q => h r ((e r).mpr q)⟩
  · exact Or.inr ⟨h0, h1, (e v).mp h2, fun r q => h3 r ((e r).mpr q)⟩
/-- two sets together -/
theorem pMn_or {x u v : Int} {S T : Int → Prop} (hx : x ≤ 99) (h : pMn x S u) (h' : pMn x T v) : pMn x (fun r => S r ∨ T r) (min u v) := by
  rcases h with ⟨rfl, h⟩ | ⟨h0, h1, h2, h3⟩ <;> rcases h' with ⟨rfl, h'⟩ | ⟨k0, k1, k2, k3⟩
  · exact Or.inl ⟨by decide, fun r q => q.elim (h r) (h' r)⟩
  · rw [show min 100 v = v by omega]
    exact Or.inr ⟨k0, k1, Or.inr k2, fun r q => q.elim (fun q => absurd q (h r)) (k3 r)⟩
  · rw [show min u 100 = u by omega]
    exact Or.inr ⟨h0, h1, Or.inl h2, fun r q => q.elim (h3 r) (fun q => absurd q (h' r))⟩
  · by_cases c : u ≤ v
    · rw [show min u v = u by omega]
      exact Or.inr ⟨h0, h1, Or.inl h2, fun r q => q.elim (h3 r) (fun q => by have := k3 r q; omega)⟩
    · rw [show min u v = v by omega]
      exact Or.inr ⟨k0, k1, Or.inr k2, fun r q => q.elim (fun q => by have := h3 r q; omega) (k3 r)⟩
/-- the least of the next is the step of the least -/
theorem pMn_st {x m g : Int} {S : Int → Prop} (h : pMn x S m) : pMn x (fun r => ∃ r0, S r0 ∧ r = max 0 (r0 + g) ∧ r ≤ x) (if m ≤ x ∧ max 0 (m + g) ≤ x then max 0 (m + g) else 100) ∨ x < m ∧ x < 100 ∧ pMn x (fun r => ∃ r0, S r0 ∧ r = max 0 (r0 + g) ∧ r ≤ x) 100 ∨ (100 ≤ x) := by
  by_cases hx : 100 ≤ x
  · exact Or.inr (Or.inr hx)
  · left
    rcases h with ⟨rfl, h⟩ | ⟨h0, h1, h2, h3⟩
    · rw [if_neg (by omega)]
      exact Or.inl ⟨rfl, fun r ⟨r0, q, _⟩ => h r0 q⟩
    · by_cases c : max 0 (m + g) ≤ x
      · rw [if_pos ⟨h1, c⟩]
        exact Or.inr ⟨by omega, c, ⟨m, h2, rfl, c⟩, fun r q => (by obtain ⟨r0, q, e, -⟩ := q; have := h3 r0 q; omega)⟩
      · rw [if_neg (fun q => c q.2)]
        exact Or.inl ⟨rfl, fun r q => (by obtain ⟨r0, q, e, q2⟩ := q; have := h3 r0 q; omega)⟩
theorem pMn_s {x m g : Int} {S : Int → Prop} (hx : x ≤ 99) (h : pMn x S m) : pMn x (fun r => ∃ r0, S r0 ∧ r = max 0 (r0 + g) ∧ r ≤ x) (if m ≤ x ∧ max 0 (m + g) ≤ x then max 0 (m + g) else 100) := by
  rcases pMn_st (g := g) h with q | ⟨q1, q2, q3⟩ | q
  · exact q
  · rw [if_neg (by omega)]
    exact q3
  · omega
/-- the least of a union over words -/
def pUn (S : Int → Int → Prop) (w : Int) : Int → Prop := fun r => ∃ a, 0 ≤ a ∧ a < w ∧ S a r
theorem pUn_0 {x : Int} {S : Int → Int → Prop} : pMn x (pUn S 0) 100 := Or.inl ⟨rfl, fun r ⟨a, h0, h1, _⟩ => by omega⟩
theorem pUn_s {x u v w : Int} {S : Int → Int → Prop} (hx : x ≤ 99) (hw : 0 ≤ w) (h : pMn x (pUn S w) u) (h' : pMn x (S w) v) : pMn x (pUn S (w + 1)) (min u v) := pMn_iff (pMn_or hx h h') (fun r => ⟨fun q => q.elim (fun ⟨a, h0, h1, h2⟩ => ⟨a, h0, by omega, h2⟩) (fun q => ⟨w, hw, by omega, q⟩), fun ⟨a, h0, h1, h2⟩ => by
  by_cases e : a = w
  · subst e
    exact Or.inr h2
  · exact Or.inl ⟨a, h0, by omega, h2⟩⟩)
/-- the row of the leasts -/
def pRu (P : pP) (f : Nat → Int32) (k : Nat) : Prop := ∀ p w, 0 ≤ p → p < 8 → 0 ≤ w → w < 16 → pMn (pX P) (pR P k p w) (f (16 * p + w).toNat).toInt
/-- what is reached so far: directly, with one put in -/
def pNd (P : pP) (f : Nat → Int32) (k : Nat) (p a v : Int) : Prop := ∀ p' w', 0 ≤ p' → p' < 8 → 0 ≤ w' → w' < 16 → pMn (pX P) (fun r => (∃ a', 0 ≤ a' ∧ (p' < p ∨ (p' = p ∧ (a' < a ∨ (a' = a ∧ w' < v)))) ∧ pDa P (pR P k) k p' a' w' r) ∨ (p' - 1 < p ∧ pDe P (pR P k) k p' w' r)) (f (16 * p' + w').toNat).toInt
def pNp (P : pP) (f : Nat → Int32) (k : Nat) (p v : Int) : Prop := ∀ p' w', 0 ≤ p' → p' < 8 → 0 ≤ w' → w' < 16 → pMn (pX P) (fun r => (p' ≤ p ∧ ∃ a', pDa P (pR P k) k p' a' w' r) ∨ ((p' - 1 < p ∨ (p' - 1 = p ∧ w' < v)) ∧ pDe P (pR P k) k p' w' r)) (f (16 * p' + w').toNat).toInt
theorem pNd_0 {f : Nat → Int32} {k : Nat} (hf : ∀ i : Nat, i < 128 → (f i).toInt = 100) : pNd P f k 0 0 0 := fun p' w' h0 h1 h2 h3 => by
  rw [hf _ (by omega)]
  refine Or.inl ⟨rfl, fun r q => ?_⟩
  rcases q with ⟨a', a0, q, -⟩ | ⟨q, -, -, -, a, r0, e, g1, g2, q2, -⟩
  · omega
  · have := (pR_rng k q2).1
    omega
theorem pNd_d {f : Nat → Int32} {k : Nat} {p : Int} (h : pNd P f k p (pM P) 0) : pNp P f k p 0 := fun p' w' h0 h1 h2 h3 => pMn_iff (h p' w' h0 h1 h2 h3) (fun r => by
  constructor
  · rintro (⟨a', q0, q1, q2⟩ | ⟨q1, q2⟩)
    · exact Or.inl ⟨by omega, a', q2⟩
    · exact Or.inr ⟨Or.inl q1, q2⟩
  · rintro (⟨q1, a', q2⟩ | ⟨q1, q2⟩)
    · obtain ⟨-, -, -, r0, g, q3, -⟩ := id q2
      have q4 := pR_rng k q3
      exact Or.inl ⟨a', q4.2.2.1, by omega, q2⟩
    · exact Or.inr ⟨by omega, q2⟩)
theorem pNp_d {f : Nat → Int32} {k : Nat} {p : Int} (h : pNp P f k p (pM P)) : pNd P f k (p + 1) 0 0 := fun p' w' h0 h1 h2 h3 => pMn_iff (h p' w' h0 h1 h2 h3) (fun r => by
  constructor
  · rintro (⟨q1, a', q2⟩ | ⟨q1, q2⟩)
    · obtain ⟨-, -, -, r0, g, q3, -⟩ := id q2
      have q4 := pR_rng k q3
      exact Or.inl ⟨a', q4.2.2.1, by omega, q2⟩
    · exact Or.inr ⟨by omega, q2⟩
  · rintro (⟨a', q0, q1, q2⟩ | ⟨q1, q2⟩)
    · exact Or.inl ⟨by omega, a', q2⟩
    · refine Or.inr ⟨?_, q2⟩
      have := q2.2.1
      omega)
theorem pNd_e {f : Nat → Int32} {k : Nat} (h : pNd P f k ((k : Int) + 1) 0 0) : pRu P f (k + 1) := fun p w h0 h1 h2 h3 => pMn_iff (h p w h0 h1 h2 h3) (fun r => by
  constructor
  · rintro (⟨a', q0, q1, q2⟩ | ⟨q1, q2⟩)
    · exact Or.inl ⟨a', q2⟩
    · exact Or.inr q2
  · rintro (⟨a', q2⟩ | q2)
    · obtain ⟨-, -, -, r0, g, q3, -⟩ := id q2
      have q4 := pR_rng k q3
      exact Or.inl ⟨a', q4.2.2.1, by omega, q2⟩
    · obtain ⟨-, -, -, a, r0, e, g1, g2, q3, -⟩ := id q2
      have q4 := pR_rng k q3
      exact Or.inr ⟨by omega, q2⟩)
/-- the least over all words of one row -/
def pAl (P : pP) (R : Int → Int → Int → Prop) (p : Int) : Int → Prop := fun r => ∃ a, R p a r
/-- a word put in, behind the least -/
def pBn (P : pP) (R : Int → Int → Int → Prop) (k p e r1 : Int) : Prop := pKn P e.toNat ≠ pK P k.toNat ∧ pKn P e.toNat ≠ pK P (k + 1).toNat ∧ ∃ r0 g1, pAl P R p r0 ∧ pGg P e (k + 1 + p) 0 g1 ∧ r1 = max 0 (r0 + g1) ∧ r1 ≤ pX P
theorem pDe_iff {R : Int → Int → Int → Prop} {k p w r : Int} : pDe P R k (p + 1) w r ↔ 0 ≤ w ∧ w < pM P ∧ pKn P w.toNat = pK P (k + 1).toNat ∧ ∃ r1 g2, pUn (pBn P R k p) (pM P) r1 ∧ pGg P w (k + 1 + p + 1) 0 g2 ∧ r = max 0 (r1 + g2) ∧ r ≤ pX P := by
  constructor
  · rintro ⟨h1, h2, h3, a, r0, e, g1, g2, q1, q2, q3, q4, q5, q6, q7, q8, q9, q10⟩
    rw [show p + 1 - 1 = p by omega] at q1
    rw [show k + (p + 1) = k + 1 + p by omega] at q6
    rw [show k + 1 + (p + 1) = k + 1 + p + 1 by omega] at q8
    exact ⟨h1, h2, h3, _, g2, ⟨e, q2, q3, q4, q5, r0, g1, ⟨a, q1⟩, q6, rfl, q7⟩, q8, q9, q10⟩
  · rintro ⟨h1, h2, h3, r1, g2, ⟨e, q2, q3, q4, q5, r0, g1, ⟨a, q1⟩, q6, rfl, q7⟩, q8, q9, q10⟩
    refine ⟨h1, h2, h3, a, r0, e, g1, g2, ?_, q2, q3, q4, q5, ?_, q7, ?_, q9, q10⟩
    · rw [show p + 1 - 1 = p by omega]
      exact q1
    · rw [show k + (p + 1) = k + 1 + p by omega]
      exact q6
    · rw [show k + 1 + (p + 1) = k + 1 + p + 1 by omega]
      exact q8
/-- the step behind a least, if it may be -/
def pSs (x m g : Int) : Int := if m ≤ x ∧ max 0 (m + g) ≤ x then max 0 (m + g) else 100
theorem pMn_g {x m : Int} {S : Int → Prop} {G : Int → Prop} {g : Int} (hx : x ≤ 99) (hG : ∀ g', G g' → g' = g) (hg : G g) (h : pMn x S m) : pMn x (fun r => ∃ r0 g, S r0 ∧ G g ∧ r = max 0 (r0 + g) ∧ r ≤ x) (pSs x m g) := pMn_iff (pMn_s (g := g) hx h) (fun r => ⟨fun ⟨r0, q1, q2, q3⟩ => ⟨r0, g, q1, hg, q2, q3⟩, fun ⟨r0, g', q1, q2, q3, q4⟩ => by
  cases hG _ q2
  exact ⟨r0, q1, q3, q4⟩⟩)
theorem pMn_no {x : Int} {S : Int → Prop} (h : ∀ r, ¬ S r) : pMn x S 100 := Or.inl ⟨rfl, h⟩
theorem pBn_s (hG : pFn P) {R : Int → Int → Int → Prop} {k p e lr g1 : Int} (hx : pX P ≤ 99) (h : pMn (pX P) (pAl P R p) lr) (h1 : pKn P e.toNat ≠ pK P k.toNat) (h2 : pKn P e.toNat ≠ pK P (k + 1).toNat) (hg : pGg P e (k + 1 + p) 0 g1) : pMn (pX P) (pBn P R k p e) (pSs (pX P) lr g1) := pMn_iff (pMn_g (G := pGg P e (k + 1 + p) 0) hx (fun g' q => hG _ _ _ _ _ q hg) hg h) (fun r => ⟨fun ⟨r0, g, q1, q2, q3, q4⟩ => ⟨h1, h2, r0, g, q1, q2, q3, q4⟩, fun ⟨_, _, r0, g, q1, q2, q3, q4⟩ => ⟨r0, g, q1, q2, q3, q4⟩⟩)
theorem pBn_no {R : Int → Int → Int → Prop} {k p e : Int} (h : pKn P e.toNat = pK P k.toNat ∨ pKn P e.toNat = pK P (k + 1).toNat) : pMn (pX P) (pBn P R k p e) 100 := pMn_no (fun r q => h.elim q.1 q.2.1)
theorem pDe_s (hG : pFn P) {R : Int → Int → Int → Prop} {k p w bt g2 : Int} (hx : pX P ≤ 99) (h : pMn (pX P) (pUn (pBn P R k p) (pM P)) bt) (w0 : 0 ≤ w) (w1 : w < pM P) (h1 : pKn P w.toNat = pK P (k + 1).toNat) (hg : pGg P w (k + 1 + p + 1) 0 g2) : pMn (pX P) (pDe P R k (p + 1) w) (pSs (pX P) bt g2) := pMn_iff (pMn_g (G := pGg P w (k + 1 + p + 1) 0) hx (fun g' q => hG _ _ _ _ _ q hg) hg h) (fun r => Iff.trans ⟨fun ⟨r0, g, q1, q2, q3, q4⟩ => ⟨w0, w1, h1, r0, g, q1, q2, q3, q4⟩, fun ⟨_, _, _, r0, g, q1, q2, q3, q4⟩ => ⟨r0, g, q1, q2, q3, q4⟩⟩ pDe_iff.symm)
theorem pDa_s (hG : pFn P) {R : Int → Int → Int → Prop} {k p a w m g : Int} (hx : pX P ≤ 99) (h : pMn (pX P) (R p a) m) (w0 : 0 ≤ w) (w1 : w < pM P) (h1 : pKn P w.toNat = pK P (k + 1).toNat) (hg : pGg P w (k + 1 + p) (pBb P a (k + 1)) g) : pMn (pX P) (pDa P R k p a w) (pSs (pX P) m g) := pMn_iff (pMn_g (G := pGg P w (k + 1 + p) (pBb P a (k + 1))) hx (fun g' q => hG _ _ _ _ _ q hg) hg h) (fun r => ⟨fun ⟨r0, g, q1, q2, q3, q4⟩ => ⟨w0, w1, h1, r0, g, q1, q2, q3, q4⟩, fun ⟨_, _, _, r0, g, q1, q2, q3, q4⟩ => ⟨r0, g, q1, q2, q3, q4⟩⟩)
theorem pDa_no {R : Int → Int → Int → Prop} {k p a w : Int} (h : pKn P w.toNat ≠ pK P (k + 1).toNat) : pMn (pX P) (pDa P R k p a w) 100 := pMn_no (fun r q => h q.2.2.1)
theorem pDe_no {R : Int → Int → Int → Prop} {k p w : Int} (h : pKn P w.toNat ≠ pK P (k + 1).toNat) : pMn (pX P) (pDe P R k p w) 100 := pMn_no (fun r q => h q.2.2.1)
/-- one offered, directly -/
theorem pNd_s {f f' : Nat → Int32} {k : Nat} {p a v m : Int} (hx : pX P ≤ 99) (a0 : 0 ≤ a) (p0 : 0 ≤ p) (v0 : 0 ≤ v) (v1 : v < 16) (h : pNd P f k p a v) (hm : pMn (pX P) (pDa P (pR P k) k p a v) m) (hf : ∀ i : Nat, i ≠ (16 * p + v).toNat → f' i = f i) (hv : (f' (16 * p + v).toNat).toInt = min (f (16 * p + v).toNat).toInt m) : pNd P f' k p a (v + 1) := fun p' w' h0 h1 h2 h3 => by
  by_cases e : p' = p ∧ w' = v
  · obtain ⟨rfl, rfl⟩ := e
    rw [hv]
    refine pMn_iff (pMn_or hx (h p' w' h0 h1 h2 h3) hm) (fun r => ⟨?_, ?_⟩)
    · rintro ((⟨a', q0, q1, q2⟩ | q) | q)
      · exact Or.inl ⟨a', q0, by omega, q2⟩
      · exact Or.inr q
      · exact Or.inl ⟨a, a0, by omega, q⟩
    · rintro (⟨a', q0, q1, q2⟩ | q)
      · by_cases e : a' = a
        · subst e
          exact Or.inr q2
        · exact Or.inl (Or.inl ⟨a', q0, by omega, q2⟩)
      · exact Or.inl (Or.inr q)
  · rw [hf _ (by omega)]
    refine pMn_iff (h p' w' h0 h1 h2 h3) (fun r => or_congr ⟨fun ⟨a', q0, q1, q2⟩ => ⟨a', q0, by omega, q2⟩, fun ⟨a', q0, q1, q2⟩ => ⟨a', q0, by omega, q2⟩⟩ Iff.rfl)
/-- a word ahead is done -/
theorem pNd_w {f : Nat → Int32} {k : Nat} {p a v : Int} (h : pNd P f k p a v) (hq : pM P ≤ v ∨ ∀ r, ¬ pR P k p a r) : pNd P f k p (a + 1) 0 := fun p' w' h0 h1 h2 h3 => pMn_iff (h p' w' h0 h1 h2 h3) (fun r => or_congr ⟨fun ⟨a', q0, q1, q2⟩ => ⟨a', q0, by omega, q2⟩, fun ⟨a', q0, q1, q2⟩ => ⟨a', q0, by
  by_cases e : a' = a ∧ p' = p
  · obtain ⟨rfl, rfl⟩ := e
    rcases hq with hq | hq
    · have := q2.2.1
      omega
    · obtain ⟨-, -, -, r0, g, q3, -⟩ := q2
      exact absurd q3 (hq r0)
  · omega, q2⟩⟩ Iff.rfl)
/-- one offered, with one put in -/
theorem pNp_s {f f' : Nat → Int32} {k : Nat} {p v m : Int} (hx : pX P ≤ 99) (p0 : 0 ≤ p) (v0 : 0 ≤ v) (v1 : v < 16) (h : pNp P f k p v) (hm : pMn (pX P) (pDe P (pR P k) k (p + 1) v) m) (hf : ∀ i : Nat, i ≠ (16 * (p + 1) + v).toNat → f' i = f i) (hv : (f' (16 * (p + 1) + v).toNat).toInt = min (f (16 * (p + 1) + v).toNat).toInt m) : pNp P f' k p (v + 1) := fun p' w' h0 h1 h2 h3 => by
  by_cases e : p' = p + 1 ∧ w' = v
  · obtain ⟨rfl, rfl⟩ := e
    rw [hv]
    refine pMn_iff (pMn_or hx (h (p + 1) w' h0 h1 h2 h3) hm) (fun r => ⟨?_, ?_⟩)
    · rintro ((⟨q0, q1⟩ | ⟨q0, q1⟩) | q)
      · omega
      · exact Or.inr ⟨by omega, q1⟩
      · exact Or.inr ⟨by omega, q⟩
    · rintro (⟨q0, q1⟩ | ⟨q0, q1⟩)
      · omega
      · exact Or.inr q1
  · rw [hf _ (by omega)]
    exact pMn_iff (h p' w' h0 h1 h2 h3) (fun r => or_congr Iff.rfl (and_congr ⟨fun q => by omega, fun q => by omega⟩ Iff.rfl))
/-- none is put in where nothing is left -/
theorem pNp_n {f : Nat → Int32} {k : Nat} {p v : Int} (h : pNp P f k p v) (hq : pM P ≤ v ∨ ∀ w r, ¬ pDe P (pR P k) k (p + 1) w r) : pNp P f k p (pM P) := fun p' w' h0 h1 h2 h3 => pMn_iff (h p' w' h0 h1 h2 h3) (fun r => or_congr Iff.rfl ⟨fun ⟨q0, q1⟩ => ⟨by have := q1.2.1; omega, q1⟩, fun ⟨q0, q1⟩ => ⟨by
  rcases q0 with q0 | ⟨q0, q2⟩
  · exact Or.inl q0
  · rcases hq with hq | hq
    · exact Or.inr ⟨q0, by omega⟩
    · have e : p' = p + 1 := by omega
      subst e
      exact absurd q1 (hq w' r), q1⟩⟩)
/-- the answer -/
def pPx (P : pP) (n r : Int) : Prop := (n = 0 ∧ r = 0) ∨ (1 ≤ n ∧ ((r = -2 ∧ ∀ p a s, ¬ pR P (n - 1).toNat p a s) ∨ ((∃ a s, pR P (n - 1).toNat r a s) ∧ ∀ p a s, pR P (n - 1).toNat p a s → r ≤ p)))
theorem pPx_one {n r r' : Int} (h : pPx P n r) (h' : pPx P n r') : r = r' := by
  rcases h with ⟨a1, a2⟩ | ⟨a1, ⟨a2, a3⟩ | ⟨⟨a, s, a2⟩, a3⟩⟩ <;> rcases h' with ⟨b1, b2⟩ | ⟨b1, ⟨b2, b3⟩ | ⟨⟨a', s', b2⟩, b3⟩⟩
  · omega
  · omega
  · omega
  · omega
  · omega
  · exact absurd b2 (a3 _ _ _)
  · omega
  · exact absurd a2 (b3 _ _ _)
  · have q1 := a3 _ _ _ b2
    have q2 := b3 _ _ _ a2
    omega
end PPAD
end
