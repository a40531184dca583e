/-! Months of talk: sentences parted by -1, the first one that is mentioned. -/
noncomputable section
/-- words all along; what stands behind them -/
def jL (W : Nat → Int) (st i le w : Int) : Prop := 0 ≤ st ∧ st ≤ i ∧ ∀ k : Nat, st ≤ (k : Int) → (k : Int) < i → (k : Int) < le ∧ 0 ≤ W k ∧ W k < w
def jE (W : Nat → Int) (p le w z : Int) : Prop := (le ≤ p ∧ z = -1) ∨ (p < le ∧ W p.toNat = -1 ∧ z = p + 1) ∨ (p < le ∧ W p.toNat ≠ -1 ∧ ¬ (0 ≤ W p.toNat ∧ W p.toNat < w) ∧ z = -1)
/-- one sentence: where it begins, how long it is, where the one behind begins (-1: none) -/
def jR (W : Nat → Int) (le w st len nx : Int) : Prop := 0 ≤ len ∧ jL W st (st + len) le w ∧ jE W (st + len) le w nx
def jGo (W : Nat → Int) (p le w : Int) : Prop := 0 ≤ p ∧ p < le ∧ (W p.toNat = -1 ∨ (0 ≤ W p.toNat ∧ W p.toNat < w))
def jSt (W : Nat → Int) (p le w : Int) : Prop := 0 ≤ p ∧ ¬ (p < le ∧ (W p.toNat = -1 ∨ (0 ≤ W p.toNat ∧ W p.toNat < w)))
def jM (W : Nat → Int) (le w p len p' : Int) : Prop := jGo W p le w ∧ ∃ nx, jR W le w p len nx ∧ ((nx = p' ∧ 0 ≤ p') ∨ (nx = -1 ∧ jSt W p' le w))
/-- so many months, none of them mentioned -/
def jJ (W : Nat → Int) (N : Int → Int → Int → Prop) (le w bd : Int) : Nat → Int → Prop
  | 0, a => a = 0
  | n + 1, a => ∃ a0, jJ W N le w bd n a0 ∧ ((a0 < 0 ∧ a = -1) ∨ (0 ≤ a0 ∧ ∃ len x, jR W le w a0 len a ∧ N a0 len x ∧ x < bd))
def jX (W : Nat → Int) (N : Int → Int → Int → Prop) (le w bd r : Int) : Prop := (r = -2 ∧ ∃ a, jJ W N le w bd 12 a) ∨ (0 ≤ r ∧ r < 12 ∧ ∃ a0 len a x, jJ W N le w bd r.toNat a0 ∧ 0 ≤ a0 ∧ jR W le w a0 len a ∧ N a0 len x ∧ bd ≤ x)
def jK (W : Nat → Int) (N : Int → Int → Int → Prop) (le w bd n p f : Int) : Prop := 0 ≤ n ∧ 0 ≤ p ∧ ((f = -2 ∧ ∃ a, jJ W N le w bd n.toNat a ∧ (a = p ∨ (a = -1 ∧ jSt W p le w))) ∨ (0 ≤ f ∧ jX W N le w bd f))
theorem jR_one {W : Nat → Int} {le w st len nx len' nx' : Int} (h : jR W le w st len nx) (h' : jR W le w st len' nx') : len = len' ∧ nx = nx' := by
  have key : ∀ {l l' n n' : Int}, jR W le w st l n → jR W le w st l' n' → ¬ l < l' := by
    intro l l' n n' a b hl
    obtain ⟨a0, a1, a2⟩ := a
    obtain ⟨b0, ⟨b1, b2, b3⟩, -⟩ := b
    have q := b3 (st + l).toNat (by omega) (by omega)
    rcases a2 with ⟨c, -⟩ | ⟨c, d, -⟩ | ⟨c, -, d, -⟩
    · omega
    · omega
    · exact d ⟨q.2.1, q.2.2⟩
  have e : len = len' := by
    have h1 := key h h'
    have h2 := key h' h
    omega
  subst e
  refine ⟨rfl, ?_⟩
  rcases h.2.2 with ⟨c, e⟩ | ⟨c, d, e⟩ | ⟨c, d, g, e⟩ <;> rcases h'.2.2 with ⟨c', e'⟩ | ⟨c', d', e'⟩ | ⟨c', d', g', e'⟩ <;> first | omega | (exact absurd d d') | (exact absurd d' d)
section JFOLD
variable {W : Nat → Int} {N : Int → Int → Int → Prop} {le w bd : Int}
theorem jJ_one : ∀ (n : Nat) {a a' : Int}, jJ W N le w bd n a → jJ W N le w bd n a' → a = a'
  | 0, _, _, p, q => p.trans q.symm
  | n + 1, a, a', p, q => by
    obtain ⟨a0, p0, p1⟩ := p
    obtain ⟨b0, q0, q1⟩ := q
    obtain rfl := jJ_one n p0 q0
    rcases p1 with ⟨p1, rfl⟩ | ⟨p1, l, x, p2, -⟩ <;> rcases q1 with ⟨q1, rfl⟩ | ⟨q1, l', x', q2, -⟩
    · rfl
    · omega
    · omega
    · exact (jR_one p2 q2).2
theorem jJ_le {n : Nat} : ∀ (d : Nat) {a : Int}, jJ W N le w bd (n + d) a → ∃ a', jJ W N le w bd n a'
  | 0, a, p => ⟨a, p⟩
  | d + 1, a, p => by
    obtain ⟨a0, p0, -⟩ := p
    exact jJ_le d p0
theorem jJ_up {n : Nat} {a : Int} (p : jJ W N le w bd n a) (h : a < 0) : ∀ d : Nat, ∃ b, b < 0 ∧ jJ W N le w bd (n + d) b
  | 0 => ⟨a, h, p⟩
  | d + 1 => by
    obtain ⟨b, hb, q⟩ := jJ_up p h d
    exact ⟨-1, by omega, b, q, Or.inl ⟨hb, rfl⟩⟩
theorem jJ_12 {n : Int} {a : Int} (p : jJ W N le w bd n.toNat a) (h : a < 0) (hn : n ≤ 12) : ∃ b, jJ W N le w bd 12 b := by
  obtain ⟨b, -, q⟩ := jJ_up p h (12 - n.toNat)
  rw [show n.toNat + (12 - n.toNat) = 12 by omega] at q
  exact ⟨b, q⟩
theorem jX_no {r : Int} (hN : ∀ a l x x', N a l x → N a l x' → x = x') (h0 : 0 ≤ r) (h12 : r < 12) {m : Nat} (hm : r < (m : Int)) {b : Int} (q : jJ W N le w bd m b) {a0 len a x : Int} (p : jJ W N le w bd r.toNat a0) (h : 0 ≤ a0) (p1 : jR W le w a0 len a) (p2 : N a0 len x) (p3 : bd ≤ x) : False := by
  have e : m = (r.toNat + 1) + (m - (r.toNat + 1)) := by omega
  rw [e] at q
  obtain ⟨c, c0, c1, c2⟩ := jJ_le _ q
  obtain rfl := jJ_one _ c1 p
  rcases c2 with ⟨c2, -⟩ | ⟨-, l, y, d1, d2, d3⟩
  · omega
  · obtain ⟨rfl, -⟩ := jR_one d1 p1
    have := hN _ _ _ _ d2 p2
    omega
theorem jX_one (hN : ∀ a l x x', N a l x → N a l x' → x = x') {r r' : Int} (h : jX W N le w bd r) (h' : jX W N le w bd r') : r = r' := by
  rcases h with ⟨rfl, a, p⟩ | ⟨h0, h12, a0, len, a, x, p1, p2, p3, p4, p5⟩ <;> rcases h' with ⟨rfl, b, q⟩ | ⟨g0, g12, b0, len', b, y, q1, q2, q3, q4, q5⟩
  · rfl
  · exact (jX_no hN g0 g12 (by omega) p q1 q2 q3 q4 q5).elim
  · exact (jX_no hN h0 h12 (by omega) q p1 p2 p3 p4 p5).elim
  · by_cases c : r < r'
    · exact (jX_no hN h0 h12 (by omega) q1 p1 p2 p3 p4 p5).elim
    · by_cases c2 : r' < r
      · exact (jX_no hN g0 g12 (by omega) p1 q1 q2 q3 q4 q5).elim
      · omega
/-- one month more isn't mentioned -/
theorem jJ_s {n a0 len a x : Int} (h : jJ W N le w bd n.toNat a0) (hn : 0 ≤ n) (h0 : 0 ≤ a0) (h1 : jR W le w a0 len a) (h2 : N a0 len x) (h3 : x < bd) : jJ W N le w bd (n + 1).toNat a := by
  rw [show (n + 1).toNat = n.toNat + 1 by omega]
  exact ⟨a0, h, Or.inr ⟨h0, len, x, h1, h2, h3⟩⟩
theorem jK_0 : jK W N le w bd 0 0 (-2) := ⟨Int.le_refl _, Int.le_refl _, Or.inl ⟨rfl, 0, rfl, Or.inl rfl⟩⟩
theorem jK_s {n p p' len x f f' : Int} (h : jK W N le w bd n p f) (hn : n ≤ 11) (hm : jM W le w p len p') (hx : N p len x)
    (c : (0 ≤ f ∧ f' = f) ∨ (f ≤ -1 ∧ bd ≤ x ∧ f' = n) ∨ (f ≤ -1 ∧ x < bd ∧ f' = f)) : jK W N le w bd (n + 1) p' f' := by
  obtain ⟨h0, hp, h1⟩ := h
  obtain ⟨hg, nx, hr, hnx⟩ := hm
  have hp' : 0 ≤ p' := by
    rcases hnx with ⟨-, q⟩ | ⟨-, q⟩
    · exact q
    · exact q.1
  refine ⟨by omega, hp', ?_⟩
  rcases c with ⟨c, rfl⟩ | ⟨c, cx, rfl⟩ | ⟨c, cx, rfl⟩
  · rcases h1 with ⟨e, -⟩ | h1
    · omega
    · exact Or.inr h1
  · rcases h1 with ⟨-, a, ha, h1⟩ | ⟨e, -⟩
    · rcases h1 with rfl | ⟨-, hs⟩
      · exact Or.inr ⟨h0, Or.inr ⟨h0, by omega, a, len, nx, x, ha, hp, hr, hx, cx⟩⟩
      · exact absurd ⟨hg.2.1, hg.2.2⟩ hs.2
    · omega
  · rcases h1 with ⟨e, a, ha, h1⟩ | ⟨e, -⟩
    · rcases h1 with rfl | ⟨-, hs⟩
      · refine Or.inl ⟨e, nx, jJ_s ha h0 hp hr hx cx, ?_⟩
        rcases hnx with ⟨q, -⟩ | ⟨q, q2⟩
        · exact Or.inl q
        · exact Or.inr ⟨q, q2⟩
      · exact absurd ⟨hg.2.1, hg.2.2⟩ hs.2
    · omega
theorem jR_no {p : Int} (h : jSt W p le w) : jR W le w p 0 (-1) := by
  obtain ⟨h0, h1⟩ := h
  refine ⟨Int.le_refl _, ⟨h0, by omega, fun k a b => by omega⟩, ?_⟩
  rw [Int.add_zero]
  by_cases c : le ≤ p
  · exact Or.inl ⟨c, rfl⟩
  · exact Or.inr (Or.inr ⟨by omega, fun e => h1 ⟨by omega, Or.inl e⟩, fun e => h1 ⟨by omega, Or.inr e⟩, rfl⟩)
theorem jK_e {n p f : Int} (h0N : ∀ a, 0 ≤ a → ∃ x, N a 0 x ∧ x ≤ 0) (h : jK W N le w bd n p f) (c : n = 12 ∨ (n ≤ 11 ∧ 1 ≤ bd ∧ jSt W p le w)) : jX W N le w bd f := by
  obtain ⟨h0, hp, h1⟩ := h
  rcases h1 with ⟨rfl, a, ha, h1⟩ | ⟨-, h1⟩
  · refine Or.inl ⟨rfl, ?_⟩
    rcases c with rfl | ⟨c, hb, hs⟩
    · exact ⟨a, ha⟩
    · rcases h1 with rfl | ⟨rfl, -⟩
      · obtain ⟨x, hx, hx0⟩ := h0N a hp
        exact jJ_12 (jJ_s ha h0 hp (jR_no hs) hx (by omega)) (by omega) (by omega)
      · exact jJ_12 ha (by omega) (by omega)
  · exact h1
end JFOLD
end
