/-! The shortest way to say it: pure mathematics. -/
noncomputable section
/-- the KINS told; KIN, LONG, NEAR of the words; what a word gives at a place, with b told; x; how many KINS; how many words -/
abbrev pP : Type := (Nat → Int) × (Nat → Int) × (Nat → Int) × (Nat → Int) × (Int → Int → Int → Int → Prop) × Int × Int × Int
def pK (P : pP) : Nat → Int := P.1
def pKn (P : pP) : Nat → Int := P.2.1
def pLg (P : pP) : Nat → Int := P.2.2.1
def pNr (P : pP) : Nat → Int := P.2.2.2.1
def pGg (P : pP) : Int → Int → Int → Int → Prop := P.2.2.2.2.1
def pX (P : pP) : Int := P.2.2.2.2.2.1
def pN (P : pP) : Int := P.2.2.2.2.2.2.1
def pM (P : pP) : Int := P.2.2.2.2.2.2.2
/-- b at a place behind a word -/
def pBb (P : pP) (w k : Int) : Int := if pK P k.toNat = pKn P w.toNat then pNr P w.toNat else 0
/-- one step -/
def pSt (P : pP) (V : Int → Int → Int → Prop) (k b r s w : Int) : Prop := pKn P w.toNat = pK P k.toNat ∧ ∃ g, pGg P w k b g ∧ max 0 (r + g) ≤ pX P ∧ V (pBb P w (k + 1)) (max 0 (r + g)) (s - pLg P w.toNat)
/-- so many KINS can still be said from a sum on, so long -/
def pV (P : pP) : Nat → Int → Int → Int → Int → Prop
  | 0, _, _, _, s => s = 0
  | j + 1, k, b, r, s => ∃ w, 0 ≤ w ∧ w < pM P ∧ pSt P (fun b r s => pV P j (k + 1) b r s) k b r s w
def pW (P : pP) (k b r s : Int) : Prop := pV P (pN P - k).toNat k b r s
def pF (P : pP) (k b r s w : Int) : Prop := pSt P (pW P (k + 1)) k b r s w
def pFn (P : pP) : Prop := ∀ w k b g g', pGg P w k b g → pGg P w k b g' → g = g'
def pL9 (P : pP) : Prop := ∀ w : Nat, w < 16 → 0 ≤ pLg P w ∧ pLg P w ≤ 9
section PSAF
variable {P : pP}
theorem pW_end {k b r s : Int} (h : pN P ≤ k) : pW P k b r s ↔ s = 0 := by
  unfold pW
  rw [show (pN P - k).toNat = 0 by omega]
  exact Iff.rfl
theorem pW_step {k b r s : Int} (h : k < pN P) : pW P k b r s ↔ ∃ w, 0 ≤ w ∧ w < pM P ∧ pF P k b r s w := by
  unfold pF
  unfold pW
  rw [show (pN P - k).toNat = (pN P - (k + 1)).toNat + 1 by omega]
  exact Iff.rfl
theorem pV_rng (hL : pL9 P) (hM : pM P ≤ 16) : ∀ (j : Nat) {k b r s : Int}, pV P j k b r s → 0 ≤ s ∧ s ≤ 9 * (j : Int)
  | 0, k, b, r, s, h => by
    have h : s = 0 := h
    omega
  | j + 1, k, b, r, s, h => by
    obtain ⟨w, w0, w1, -, g, -, -, h⟩ := h
    have a := pV_rng hL hM j h
    have c := hL w.toNat (by omega)
    omega
theorem pW_rng (hL : pL9 P) (hM : pM P ≤ 16) {k b r s : Int} (hk : k ≤ pN P) (h : pW P k b r s) : 0 ≤ s ∧ s ≤ 9 * (pN P - k) := by
  have a := pV_rng hL hM _ h
  omega
theorem pSt_mono {V : Int → Int → Int → Prop} (hV : ∀ b r r' s, r' ≤ r → V b r s → V b r' s) {k b r r' s w : Int} (hr : r' ≤ r) (h : pSt P V k b r s w) : pSt P V k b r' s w := by
  obtain ⟨h1, g, h2, h3, h4⟩ := h
  exact ⟨h1, g, h2, by omega, hV _ _ _ _ (by omega) h4⟩
theorem pV_mono : ∀ (j : Nat) {k b r r' s : Int}, r' ≤ r → pV P j k b r s → pV P j k b r' s
  | 0, _, _, _, _, _, _, h => h
  | j + 1, k, b, r, r', s, hr, h => by
    obtain ⟨w, w0, w1, h⟩ := h
    exact ⟨w, w0, w1, pSt_mono (V := fun b r s => pV P j (k + 1) b r s) (fun b r r' s hr h => pV_mono j hr h) hr h⟩
theorem pF_neg (hL : pL9 P) (hM : pM P ≤ 16) {k b r s w : Int} (hk : k < pN P) (h : pF P k b r s w) : 0 ≤ s - pLg P w.toNat ∧ s - pLg P w.toNat ≤ 9 * (pN P - k - 1) := by
  obtain ⟨-, g, -, -, h⟩ := h
  have a := pW_rng hL hM (by omega) h
  omega
/-- the rooms: with which sums it can still be said -/
def pRm (P : pP) (k b s ro : Int) : Prop := ro ≤ pX P ∧ ∀ r, 0 ≤ r → r ≤ pX P → (pW P k b r s ↔ r ≤ ro)
def pBs (P : pP) (k be : Int) : Prop := (k = 0 ∧ be = 0) ∨ (0 < k ∧ ∃ w, 0 ≤ w ∧ w < pM P ∧ pKn P w.toNat = pK P (k - 1).toNat ∧ be = pBb P w k)
def pDn (P : pP) (f : Nat → Int32) (k0 b0 : Int) : Prop := ∀ k be, 0 ≤ k → k < pN P → pBs P k be → (k0 < k ∨ (k = k0 ∧ be < b0)) → 0 ≤ be ∧ be < 10 → ∀ s, 0 ≤ s → s < 73 → pRm P k be s (f (730 * k + 73 * be + s).toNat).toInt
def pPt (P : pP) (f : Nat → Int32) (k be w t : Int) : Prop := ∀ s, 0 ≤ s → s < 73 → (f (730 * k + 73 * be + s).toNat).toInt ≤ pX P ∧ ∀ r, 0 ≤ r → r ≤ pX P → (r ≤ (f (730 * k + 73 * be + s).toNat).toInt ↔ ((∃ w', 0 ≤ w' ∧ w' < w ∧ pF P k be r s w') ∨ (pF P k be r s w ∧ s - pLg P w.toNat < t)))
theorem pDn_0 {f : Nat → Int32} : pDn P f (pN P - 1) 0 := fun k be h0 h1 _ h3 h4 => by omega
/-- a place is done -/
theorem pDn_pl {f : Nat → Int32} {k0 b0 : Int} (hb : 10 ≤ b0) (h : pDn P f k0 b0) : pDn P f (k0 - 1) 0 := fun k be h0 h1 h2 h3 h4 => h k be h0 h1 h2 (by omega) h4
theorem pDn_skip {f : Nat → Int32} {k0 b0 : Int} (hn : ¬ pBs P k0 b0) (h : pDn P f k0 b0) : pDn P f k0 (b0 + 1) := fun k be h0 h1 h2 h3 h4 => by
  refine h k be h0 h1 h2 ?_ h4
  rcases h3 with h3 | ⟨rfl, h3⟩
  · exact Or.inl h3
  · by_cases e : be = b0
    · subst e
      exact absurd h2 hn
    · exact Or.inr ⟨rfl, by omega⟩
theorem pPt_0 (hL : pL9 P) (hM : pM P ≤ 16) (hX : 0 ≤ pX P) {f : Nat → Int32} {k be : Int} (hk : k < pN P) (hf : ∀ s, 0 ≤ s → s < 73 → (f (730 * k + 73 * be + s).toNat).toInt = -1) : pPt P f k be 0 0 := fun s s0 s1 => by
  rw [hf s s0 s1]
  refine ⟨by omega, fun r r0 r1 => ⟨fun h => by omega, fun h => ?_⟩⟩
  rcases h with ⟨w, w0, w1, -⟩ | ⟨h, h1⟩
  · omega
  · have := pF_neg hL hM hk h
    omega
theorem pPt_next (hL : pL9 P) (hM : pM P ≤ 16) {f : Nat → Int32} {k be w t : Int} (hk : k < pN P) (w0 : 0 ≤ w) (h : pPt P f k be w t) (hq : (∀ r s, ¬ pF P k be r s w) ∨ 9 * (pN P - k - 1) < t) : pPt P f k be (w + 1) 0 := fun s s0 s1 => by
  obtain ⟨h1, h2⟩ := h s s0 s1
  refine ⟨h1, fun r r0 r1 => (h2 r r0 r1).trans ⟨fun h => ?_, fun h => ?_⟩⟩
  · rcases h with ⟨w', a, b, c⟩ | ⟨a, b⟩
    · exact Or.inl ⟨w', a, by omega, c⟩
    · exact Or.inl ⟨w, w0, by omega, a⟩
  · rcases h with ⟨w', a, b, c⟩ | ⟨a, b⟩
    · by_cases e : w' = w
      · subst e
        rcases hq with hq | hq
        · exact absurd c (hq r s)
        · have := pF_neg hL hM hk c
          exact Or.inr ⟨c, by omega⟩
      · exact Or.inl ⟨w', a, by omega, c⟩
    · have := pF_neg hL hM hk a
      omega
theorem pPt_end (hL : pL9 P) (hM : pM P ≤ 16) {f : Nat → Int32} {k be : Int} (hk : k < pN P) (h : pPt P f k be (pM P) 0) : ∀ s, 0 ≤ s → s < 73 → pRm P k be s (f (730 * k + 73 * be + s).toNat).toInt := fun s s0 s1 => by
  obtain ⟨h1, h2⟩ := h s s0 s1
  refine ⟨h1, fun r r0 r1 => (pW_step hk).trans (Iff.trans ?_ (h2 r r0 r1).symm)⟩
  refine ⟨fun ⟨w, a, b, c⟩ => Or.inl ⟨w, a, b, c⟩, fun h => ?_⟩
  rcases h with h | ⟨a, b⟩
  · exact h
  · have := pF_neg hL hM hk a
    omega
theorem pDn_add {f : Nat → Int32} {k0 b0 : Int} (h : pDn P f k0 b0) (hq : ∀ s, 0 ≤ s → s < 73 → pRm P k0 b0 s (f (730 * k0 + 73 * b0 + s).toNat).toInt) : pDn P f k0 (b0 + 1) := fun k be h0 h1 h2 h3 h4 => by
  rcases h3 with h3 | ⟨rfl, h3⟩
  · exact h k be h0 h1 h2 (Or.inl h3) h4
  · by_cases e : be = b0
    · subst e
      exact hq
    · exact h k be h0 h1 h2 (Or.inr ⟨rfl, by omega⟩) h4
/-- what roomFor says, behind a word -/
def pRR (P : pP) (k w s ro : Int) : Prop := (0 < k → pKn P w.toNat = pK P (k - 1).toNat) → pRm P k (if 0 < k then pBb P w k else 0) s ro
/-- how a step goes, told by the room behind it -/
theorem pF_rm (hG : pFn P) {k be r s w g ro : Int} (hX : 0 ≤ pX P) (hk : pKn P w.toNat = pK P k.toNat) (hg : pGg P w k be g) (h : pRm P (k + 1) (pBb P w (k + 1)) (s - pLg P w.toNat) ro) : pF P k be r s w ↔ 0 ≤ ro ∧ r + g ≤ ro := by
  obtain ⟨h1, h2⟩ := h
  constructor
  · rintro ⟨-, g', q1, q2, q3⟩
    cases hG _ _ _ _ _ hg q1
    have := (h2 (max 0 (r + g)) (by omega) q2).mp q3
    omega
  · rintro ⟨q1, q2⟩
    exact ⟨hk, g, hg, by omega, (h2 (max 0 (r + g)) (by omega) (by omega)).mpr (by omega)⟩
theorem pRR_k {k w s ro : Int} (hk : 0 ≤ k) (hw : pKn P w.toNat = pK P k.toNat) (h : pRR P (k + 1) w s ro) : pRm P (k + 1) (pBb P w (k + 1)) s ro := by
  have q := h (fun _ => by rw [show k + 1 - 1 = k by omega]; exact hw)
  rw [if_pos (by omega)] at q
  exact q
theorem pPt_no (hG : pFn P) {f : Nat → Int32} {k be w t g ro : Int} (hX : 0 ≤ pX P) (hk : pKn P w.toNat = pK P k.toNat) (h : pPt P f k be w t) (hr : pRm P (k + 1) (pBb P w (k + 1)) t ro) (hn : ro < 0) : pPt P f k be w (t + 1) := fun s s0 s1 => by
  obtain ⟨h1, h2⟩ := h s s0 s1
  refine ⟨h1, fun r r0 r1 => (h2 r r0 r1).trans (or_congr Iff.rfl ⟨fun ⟨a, b⟩ => ⟨a, by omega⟩, fun ⟨a, b⟩ => ⟨a, ?_⟩⟩)⟩
  by_cases e : s - pLg P w.toNat = t
  · obtain ⟨-, g, q1, q2, q3⟩ := a
    rw [e] at q3
    have := (hr.2 (max 0 (r + g)) (by omega) q2).mp q3
    omega
  · omega
/-- one number more is written -/
theorem pPt_put (hG : pFn P) {f f' : Nat → Int32} {k be w t g ro : Int} (hX : 0 ≤ pX P) (hk : pKn P w.toNat = pK P k.toNat) (hg : pGg P w k be g) (h : pPt P f k be w t) (hr : pRm P (k + 1) (pBb P w (k + 1)) t ro) (hn : 0 ≤ ro) (h0 : 0 ≤ 730 * k + 73 * be) (ht : 0 ≤ pLg P w.toNat + t)
    (hf : ∀ i : Nat, i ≠ (730 * k + 73 * be + (pLg P w.toNat + t)).toNat → f' i = f i) (hx : pLg P w.toNat + t < 73 → (f' (730 * k + 73 * be + (pLg P w.toNat + t)).toNat).toInt ≤ pX P) (he : ∀ r, 0 ≤ r → r ≤ pX P → (r ≤ (f' (730 * k + 73 * be + (pLg P w.toNat + t)).toNat).toInt ↔ (r ≤ (f (730 * k + 73 * be + (pLg P w.toNat + t)).toNat).toInt ∨ r ≤ ro - g))) : pPt P f' k be w (t + 1) := fun s s0 s1 => by
  obtain ⟨h1, h2⟩ := h s s0 s1
  by_cases e : s = pLg P w.toNat + t
  · subst e
    refine ⟨hx s1, fun r r0 r1 => (he r r0 r1).trans ?_⟩
    rw [h2 r r0 r1]
    have hF := pF_rm (r := r) (s := pLg P w.toNat + t) hG hX hk hg (by rw [show pLg P w.toNat + t - pLg P w.toNat = t by omega]; exact hr)
    constructor
    · rintro ((a | a) | a)
      · exact Or.inl a
      · exact Or.inr ⟨a.1, by omega⟩
      · exact Or.inr ⟨hF.mpr ⟨hn, by omega⟩, by omega⟩
    · rintro (a | ⟨a, -⟩)
      · exact Or.inl (Or.inl a)
      · exact Or.inr (by have := hF.mp a; omega)
  · rw [hf _ (by omega)]
    refine ⟨h1, fun r r0 r1 => (h2 r r0 r1).trans (or_congr Iff.rfl (and_congr Iff.rfl ⟨fun a => by omega, fun a => by omega⟩))⟩
/-- the least length -/
def pLe (P : pP) (k b r s : Int) : Prop := pW P k b r s ∧ ∀ s', s' < s → ¬ pW P k b r s'
def pLs (P : pP) (k b r v : Int) : Prop := (v = 9999 ∧ ∀ s, ¬ pW P k b r s) ∨ (0 ≤ v ∧ v < 9999 ∧ pLe P k b r v)
def pLx (P : pP) (v : Int) : Prop := (v = -2 ∧ ∀ s, ¬ pW P 0 0 0 s) ∨ (0 ≤ v ∧ pLe P 0 0 0 v)
theorem pLe_one {k b r s s' : Int} (h : pLe P k b r s) (h' : pLe P k b r s') : s = s' := by
  by_cases a : s < s'
  · exact absurd h.1 (h'.2 s a)
  · by_cases c : s' < s
    · exact absurd h'.1 (h.2 s' c)
    · omega
theorem pLx_one {v v' : Int} (h : pLx P v) (h' : pLx P v') : v = v' := by
  rcases h with ⟨rfl, h⟩ | ⟨-, h⟩ <;> rcases h' with ⟨rfl, h'⟩ | ⟨-, h'⟩
  · rfl
  · exact absurd h'.1 (h v')
  · exact absurd h.1 (h' v)
  · exact pLe_one h h'
/-- so many words of the way: the last one, b behind it, the sum, what is left -/
def pT (P : pP) : Nat → Int → Int → Int → Int → Prop
  | 0, w, b, r, s => w = -1 ∧ b = 0 ∧ r = 0 ∧ pLe P 0 0 0 s
  | j + 1, w, b, r, s => (j : Int) < pN P ∧ ∃ w0 b0 r0 s0 g, pT P j w0 b0 r0 s0 ∧ 0 ≤ w ∧ w < pM P ∧ pF P j b0 r0 s0 w ∧ (∀ w', 0 ≤ w' → w' < w → ¬ pF P j b0 r0 s0 w') ∧ pGg P w j b0 g ∧ r = max 0 (r0 + g) ∧ s = s0 - pLg P w.toNat ∧ b = (if (j : Int) + 1 < pN P then pBb P w (j + 1) else 0)
theorem pW_b {k b b' r s : Int} (h : pN P ≤ k) (q : pW P k b r s) : pW P k b' r s := (pW_end h).mpr ((pW_end h).mp q)
theorem pW_if {k b r s : Int} : pW P k (if k < pN P then b else 0) r s ↔ pW P k b r s := by
  by_cases c : k < pN P
  · rw [if_pos c]
  · exact ⟨pW_b (by omega), pW_b (by omega)⟩
theorem pT_le (hG : pFn P) (hX : 0 ≤ pX P) : ∀ (j : Nat) {w b r s : Int}, pT P j w b r s → (j : Int) ≤ max 0 (pN P) ∧ 0 ≤ r ∧ r ≤ pX P ∧ pLe P j b r s
  | 0, w, b, r, s, h => by
    obtain ⟨-, rfl, rfl, h⟩ := h
    exact ⟨by omega, by omega, hX, h⟩
  | j + 1, w, b, r, s, h => by
    obtain ⟨h0, w0, b0, r0, s0, g, h1, h2, h3, h4, -, h5, rfl, rfl, rfl⟩ := h
    obtain ⟨-, -, -, q⟩ := pT_le hG hX j h1
    obtain ⟨k1, g', k2, k3, k4⟩ := h4
    cases hG _ _ _ _ _ h5 k2
    refine ⟨by omega, by omega, k3, pW_if.mpr k4, fun s' hs' hV => ?_⟩
    exact q.2 (s' + pLg P w.toNat) (by omega) ((pW_step h0).mpr ⟨w, h2, h3, k1, g, h5, k3, by rw [show s' + pLg P w.toNat - pLg P w.toNat = s' by omega]; exact pW_if.mp hV⟩)
theorem pT_one (hG : pFn P) : ∀ (j : Nat) {w b r s w' b' r' s' : Int}, pT P j w b r s → pT P j w' b' r' s' → w = w' ∧ b = b' ∧ r = r' ∧ s = s'
  | 0, w, b, r, s, w', b', r', s', h, h' => by
    obtain ⟨rfl, rfl, rfl, h⟩ := h
    obtain ⟨rfl, rfl, rfl, h'⟩ := h'
    exact ⟨rfl, rfl, rfl, pLe_one h h'⟩
  | j + 1, w, b, r, s, w', b', r', s', h, h' => by
    obtain ⟨-, w0, b0, r0, s0, g, h1, h2, h3, h4, h6, h5, rfl, rfl, rfl⟩ := h
    obtain ⟨-, v0, c0, q0, t0, g', k1, k2, k3, k4, k6, k5, rfl, rfl, rfl⟩ := h'
    obtain ⟨rfl, rfl, rfl, rfl⟩ := pT_one hG j h1 k1
    have e : w = w' := by
      by_cases a : w < w'
      · exact absurd h4 (k6 w h2 a)
      · by_cases c : w' < w
        · exact absurd k4 (h6 w' k2 c)
        · omega
    subst e
    cases hG _ _ _ _ _ h5 k5
    exact ⟨rfl, rfl, rfl, rfl⟩
theorem pT_way : ∀ (j : Nat) {w b r s : Int}, pT P j w b r s → ∃ s, pW P 0 0 0 s
  | 0, _, _, _, s, h => ⟨s, h.2.2.2.1⟩
  | j + 1, _, _, _, _, h => by
    obtain ⟨-, w0, b0, r0, s0, g, h1, -⟩ := h
    exact pT_way j h1
theorem pT_b : ∀ (j : Nat) {w b r s : Int}, pT P j w b r s → (j = 0 ∧ w = -1 ∧ b = 0) ∨ (0 < j ∧ 0 ≤ w ∧ w < pM P ∧ b = (if (j : Int) < pN P then pBb P w j else 0))
  | 0, w, b, r, s, h => Or.inl ⟨rfl, h.1, h.2.1⟩
  | j + 1, w, b, r, s, h => by
    obtain ⟨-, w0, b0, r0, s0, g, h1, h2, h3, h4, h6, h5, rfl, rfl, rfl⟩ := h
    exact Or.inr ⟨by omega, h2, h3, rfl⟩
/-- there is always a word that fits -/
theorem pT_fit (hG : pFn P) (hX : 0 ≤ pX P) {j : Nat} {w b r s : Int} (h : pT P j w b r s) (hj : (j : Int) < pN P) : ∃ w', 0 ≤ w' ∧ w' < pM P ∧ pF P j b r s w' := (pW_step hj).mp (pT_le hG hX j h).2.2.2.1
def pA (a : Int) : Int := if 0 ≤ a ∧ a < 16 then a else -1
/-- b at a place, with a word ahead of it -/
def pBa (P : pP) (a k : Int) : Int := if 0 ≤ a ∧ pK P k.toNat = pKn P a.toNat then pNr P a.toNat else 0
theorem pBa_b {a k : Int} (h : 0 ≤ a) : pBa P a k = pBb P a k := by
  unfold pBa pBb
  by_cases e : pK P k.toNat = pKn P a.toNat
  · rw [if_pos ⟨h, e⟩, if_pos e]
  · rw [if_neg (fun q => e q.2), if_neg e]
theorem pT_ba {j : Nat} {w b r s : Int} (hj : (j : Int) < pN P) (h : pT P j w b r s) : b = pBa P w j := by
  rcases pT_b j h with ⟨rfl, rfl, rfl⟩ | ⟨h1, h2, h3, rfl⟩
  · unfold pBa
    rw [if_neg (by omega)]
  · rw [if_pos hj]
    exact (pBa_b h2).symm
def pFw (P : pP) (k b r s w : Int) : Prop := ∀ w', 0 ≤ w' → w' < w → ¬ pF P k b r s w'
def pFx (P : pP) (k b r s y : Int) : Prop := (y = -2 ∧ pFw P k b r s (pM P)) ∨ (0 ≤ y ∧ y < pM P ∧ pF P k b r s y ∧ pFw P k b r s y)
theorem pFw_s {k b r s w : Int} (h : pFw P k b r s w) (hn : ¬ pF P k b r s w) : pFw P k b r s (w + 1) := fun w' h0 h1 hq => by
  by_cases e : w' = w
  · subst e
    exact hn hq
  · exact h w' h0 (by omega) hq
/-- the least so far -/
def pBe (P : pP) (k b r w v : Int) : Prop := (v = 9999 ∧ ∀ w', 0 ≤ w' → w' < w → ∀ s, ¬ pF P k b r s w') ∨ (0 ≤ v ∧ v < 9999 ∧ (∃ w', 0 ≤ w' ∧ w' < w ∧ pF P k b r v w') ∧ ∀ w', 0 ≤ w' → w' < w → ∀ s, s < v → ¬ pF P k b r s w')
theorem pBe_no {k b r w v : Int} (h : pBe P k b r w v) (hn : ∀ s, s < v → ¬ pF P k b r s w) (h9 : v = 9999 → ∀ s, ¬ pF P k b r s w) : pBe P k b r (w + 1) v := by
  rcases h with ⟨rfl, h⟩ | ⟨h0, h1, ⟨w1, h2, h3, h4⟩, h5⟩
  · refine Or.inl ⟨rfl, fun w' a c s q => ?_⟩
    by_cases e : w' = w
    · subst e
      exact h9 rfl s q
    · exact h w' a (by omega) s q
  · refine Or.inr ⟨h0, h1, ⟨w1, h2, by omega, h4⟩, fun w' a c s hs q => ?_⟩
    by_cases e : w' = w
    · subst e
      exact hn s hs q
    · exact h5 w' a (by omega) s hs q
theorem pBe_yes {k b r w v u : Int} (h : pBe P k b r w v) (w0 : 0 ≤ w) (hu : u < v) (u0 : 0 ≤ u) (hv : v ≤ 9999) (hf : pF P k b r u w) (hn : ∀ s, s < u → ¬ pF P k b r s w) : pBe P k b r (w + 1) u := by
  refine Or.inr ⟨u0, by omega, ⟨w, w0, by omega, hf⟩, fun w' a c s hs q => ?_⟩
  by_cases e : w' = w
  · subst e
    exact hn s hs q
  · rcases h with ⟨rfl, h⟩ | ⟨h0, h1, -, h5⟩
    · exact h w' a (by omega) s q
    · exact h5 w' a (by omega) s (by omega) q
theorem pBe_v {k b r w v : Int} (h : pBe P k b r w v) : v ≤ 9999 := by
  rcases h with ⟨rfl, -⟩ | ⟨-, h, -⟩ <;> omega
theorem pBe_e {k b r v : Int} (hk : k < pN P) (h : pBe P k b r (pM P) v) : pLs P k b r v := by
  rcases h with ⟨rfl, h⟩ | ⟨h0, h1, h2, h5⟩
  · refine Or.inl ⟨rfl, fun s q => ?_⟩
    obtain ⟨w, a, c, d⟩ := (pW_step hk).mp q
    exact h w a c s d
  · refine Or.inr ⟨h0, h1, (pW_step hk).mpr h2, fun s hs q => ?_⟩
    obtain ⟨w, a, c, d⟩ := (pW_step hk).mp q
    exact h5 w a c s hs d
/-- a step, told by the least behind it -/
theorem pF_ls (hG : pFn P) {k b r s w g : Int} (hk : pKn P w.toNat = pK P k.toNat) (hg : pGg P w k b g) (hx : max 0 (r + g) ≤ pX P) : pF P k b r s w ↔ pW P (k + 1) (pBb P w (k + 1)) (max 0 (r + g)) (s - pLg P w.toNat) := by
  constructor
  · rintro ⟨-, g', q1, -, q3⟩
    cases hG _ _ _ _ _ hg q1
    exact q3
  · intro q
    exact ⟨hk, g, hg, hx, q⟩
theorem pF_far (hG : pFn P) {k b r s w g : Int} (hg : pGg P w k b g) (hx : pX P < max 0 (r + g)) : ¬ pF P k b r s w := by
  rintro ⟨-, g', q1, q2, -⟩
  cases hG _ _ _ _ _ hg q1
  omega
theorem pF_kin {k b r s w : Int} (h : pKn P w.toNat ≠ pK P k.toNat) : ¬ pF P k b r s w := fun q => h q.1
/-- the leasts laid down so far: places from the last back, words and none ahead, sums -/
def pLt (P : pP) (f : Nat → Int32) (k a o : Int) : Prop := ∀ k' a' o', 0 ≤ k' → k' ≤ pN P → (a' = 16 ∨ (0 ≤ a' ∧ a' < pM P)) → 0 ≤ o' → o' ≤ pX P → (k < k' ∨ (k' = k ∧ (a' < a ∨ (a' = a ∧ o' < o)))) → pLs P k' (pBa P (pA a') k') o' (f (1700 * k' + 100 * a' + o').toNat).toInt
theorem pLt_w {f f' : Nat → Int32} {k a o : Int} {i : Nat} (ho : 0 ≤ o) (hx : pX P ≤ 99) (hM : pM P ≤ 16) (h0 : 1700 * k + 100 * a + o ≤ i) (h1 : (i : Int) ≤ 1700 * k + 1699) (hf : ∀ e : Nat, e ≠ i → f' e = f e) (h : pLt P f k a o) : pLt P f' k a o := fun k' a' o' q0 q1 q2 q3 q4 q5 => by
  have e : (1700 * k' + 100 * a' + o').toNat ≠ i := by
    rcases q2 with rfl | ⟨q2, q6⟩ <;> rcases q5 with q5 | ⟨rfl, q5 | ⟨rfl, q5⟩⟩ <;> omega
  rw [hf _ e]
  exact h k' a' o' q0 q1 q2 q3 q4 q5
theorem pDn_w {f f' : Nat → Int32} {k b : Int} {i : Nat} (h0 : 730 * k + 73 * b ≤ i) (h1 : (i : Int) ≤ 730 * k + 729) (hf : ∀ e : Nat, e ≠ i → f' e = f e) (h : pDn P f k b) : pDn P f' k b := fun k' b' q0 q1 q2 q3 q4 s s0 s1 => by
  have e : (730 * k' + 73 * b' + s).toNat ≠ i := by
    rcases q3 with q3 | ⟨rfl, q3⟩ <;> omega
  rw [hf _ e]
  exact h k' b' q0 q1 q2 q3 q4 s s0 s1
/-- the answer: the k-th word -/
def pSw (P : pP) (kq r : Int) : Prop := 0 ≤ kq ∧ (((∀ s, ¬ pW P 0 0 0 s) ∧ r = -2) ∨ (pN P ≤ kq ∧ r = -2) ∨ (kq < pN P ∧ ∃ b r' s', pT P (kq + 1).toNat r b r' s'))
def pSx (P : pP) (kq r : Int) : Prop := (kq < 0 ∧ pLx P r) ∨ pSw P kq r
theorem pSx_one (hG : pFn P) {kq r r' : Int} (h : pSx P kq r) (h' : pSx P kq r') : r = r' := by
  rcases h with ⟨h0, h⟩ | ⟨h0, h⟩ <;> rcases h' with ⟨h0', h'⟩ | ⟨h0', h'⟩
  · exact pLx_one h h'
  · omega
  · omega
  · rcases h with ⟨h, rfl⟩ | ⟨h, rfl⟩ | ⟨h, b, r1, s1, h1⟩ <;> rcases h' with ⟨h', rfl⟩ | ⟨h', rfl⟩ | ⟨h', b', r2, s2, h2⟩
    · rfl
    · rfl
    · obtain ⟨s, q⟩ := pT_way _ h2
      exact absurd q (h s)
    · rfl
    · rfl
    · omega
    · obtain ⟨s, q⟩ := pT_way _ h1
      exact absurd q (h' s)
    · omega
    · exact (pT_one hG _ h1 h2).1
end PSAF
end
