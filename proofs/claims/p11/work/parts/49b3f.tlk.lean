/-! Talk over days: who pays first, what half words cost. -/
noncomputable section
def ySt (bd hf x r v : Int) : Int := if bd ≤ x then 0 else if hf ≤ x then (if r = 1 then v / 2 else 0) else 0
/-- so many days, none of them mentioned: the halves so far -/
def yF (D : Int → Int → Int → Int → Int → Prop) (bd hf : Int) : Nat → Int → Prop
  | 0, h => h = 0
  | n + 1, h => ∃ h0 one x r v, yF D bd hf n h0 ∧ D (n : Int) one x r v ∧ ¬ (bd ≤ x ∧ r = 1) ∧ h = h0 + ySt bd hf x r v
def yHt (D : Int → Int → Int → Int → Int → Prop) (bd hf d who h : Int) : Prop := ∃ x v, yF D bd hf d.toNat h ∧ D d who x 1 v ∧ bd ≤ x
def yX (D : Int → Int → Int → Int → Int → Prop) (Nx : Int → Prop) (bd hf w r : Int) : Prop := (∃ d one h x v, 0 ≤ d ∧ yF D bd hf d.toNat h ∧ D d one x 1 v ∧ bd ≤ x ∧ r = (if w = 0 then d else if w = 1 then one else if w = 2 then v else h)) ∨ (∃ d h, 0 ≤ d ∧ yF D bd hf d.toNat h ∧ Nx d ∧ r = (if w = 3 then h else -2))
def yM (D : Int → Int → Int → Int → Int → Prop) (bd hf d day who h : Int) : Prop := 0 ≤ d ∧ ((day = -2 ∧ who = -2 ∧ yF D bd hf d.toNat h) ∨ (0 ≤ day ∧ yHt D bd hf day who h))
def yR (D : Int → Int → Int → Int → Int → Prop) (Nx : Int → Prop) (bd hf day who h : Int) : Prop := (day = -2 ∧ who = -2 ∧ ∃ d, 0 ≤ d ∧ yF D bd hf d.toNat h ∧ Nx d) ∨ (0 ≤ day ∧ yHt D bd hf day who h)
section YFOLD
variable {D : Int → Int → Int → Int → Int → Prop} {Nx : Int → Prop} {bd hf : Int}
theorem yF_one (hD : ∀ {d o x r v o' x' r' v' : Int}, D d o x r v → D d o' x' r' v' → o = o' ∧ x = x' ∧ r = r' ∧ v = v') : ∀ (n : Nat) {h h' : Int}, yF D bd hf n h → yF D bd hf n h' → h = h'
  | 0, _, _, p, q => p.trans q.symm
  | n + 1, _, _, p, q => by
    obtain ⟨h0, o, x, r, v, p1, p2, -, rfl⟩ := p
    obtain ⟨h1, o', x', r', v', q1, q2, -, rfl⟩ := q
    obtain rfl := yF_one hD n p1 q1
    obtain ⟨-, rfl, rfl, rfl⟩ := hD p2 q2
    rfl
theorem yF_at {n : Nat} : ∀ (k : Nat) {h : Int}, yF D bd hf (n + 1 + k) h → ∃ one x r v, D (n : Int) one x r v ∧ ¬ (bd ≤ x ∧ r = 1)
  | 0, h, p => by
    obtain ⟨h0, o, x, r, v, p1, p2, p3, -⟩ := p
    exact ⟨o, x, r, v, p2, p3⟩
  | k + 1, h, p => by
    obtain ⟨h0, o, x, r, v, p1, p2, p3, -⟩ := p
    exact yF_at k p1
theorem yF_lt {d d' h : Int} (h0 : 0 ≤ d) (hl : d < d') (p : yF D bd hf d'.toNat h) : ∃ one x r v, D d one x r v ∧ ¬ (bd ≤ x ∧ r = 1) := by
  rw [show d'.toNat = d.toNat + 1 + (d'.toNat - (d.toNat + 1)) by omega] at p
  have q := yF_at _ p
  rw [Int.toNat_of_nonneg h0] at q
  exact q
theorem yF_s {d h one x r v : Int} (h0 : 0 ≤ d) (p : yF D bd hf d.toNat h) (q : D d one x r v) (n : ¬ (bd ≤ x ∧ r = 1)) : yF D bd hf (d + 1).toNat (h + ySt bd hf x r v) := by
  rw [show (d + 1).toNat = d.toNat + 1 by omega]
  exact ⟨h, one, x, r, v, p, by rw [Int.toNat_of_nonneg h0]; exact q, n, rfl⟩
theorem yX_one (hD : ∀ {d o x r v o' x' r' v' : Int}, D d o x r v → D d o' x' r' v' → o = o' ∧ x = x' ∧ r = r' ∧ v = v') (hN : ∀ {d o x r v : Int}, D d o x r v → ¬ Nx d) {w a b : Int} (p : yX D Nx bd hf w a) (q : yX D Nx bd hf w b) : a = b := by
  have hh : ∀ {d d' o x v h : Int}, 0 ≤ d → d < d' → D d o x 1 v → bd ≤ x → yF D bd hf d'.toNat h → False := fun h0 hl p1 p2 p3 => by
    obtain ⟨o', x', r', v', k1, k2⟩ := yF_lt h0 hl p3
    obtain ⟨-, rfl, rfl, -⟩ := hD p1 k1
    exact k2 ⟨p2, rfl⟩
  have hn : ∀ {d d' h : Int}, 0 ≤ d → d < d' → Nx d → yF D bd hf d'.toNat h → False := fun h0 hl p1 p3 => by
    obtain ⟨o', x', r', v', k1, k2⟩ := yF_lt h0 hl p3
    exact hN k1 p1
  rcases p with ⟨d, one, h, x, v, p0, p1, p2, p3, rfl⟩ | ⟨d, h, p0, p1, p2, rfl⟩ <;> rcases q with ⟨d', one', h', x', v', q0, q1, q2, q3, rfl⟩ | ⟨d', h', q0, q1, q2, rfl⟩
  · by_cases c : d < d'
    · exact (hh p0 c p2 p3 q1).elim
    · by_cases c2 : d' < d
      · exact (hh q0 c2 q2 q3 p1).elim
      · obtain rfl : d = d' := by omega
        obtain rfl := yF_one (D := D) (bd := bd) (hf := hf) hD _ p1 q1
        obtain ⟨rfl, -, -, rfl⟩ := hD p2 q2
        rfl
  · by_cases c : d < d'
    · exact (hh p0 c p2 p3 q1).elim
    · by_cases c2 : d' < d
      · exact (hn q0 c2 q2 p1).elim
      · obtain rfl : d = d' := by omega
        exact (hN p2 q2).elim
  · by_cases c : d < d'
    · exact (hn p0 c p2 q1).elim
    · by_cases c2 : d' < d
      · exact (hh q0 c2 q2 q3 p1).elim
      · obtain rfl : d = d' := by omega
        exact (hN q2 p2).elim
  · by_cases c : d < d'
    · exact (hn p0 c p2 q1).elim
    · by_cases c2 : d' < d
      · exact (hn q0 c2 q2 p1).elim
      · obtain rfl : d = d' := by omega
        obtain rfl := yF_one (D := D) (bd := bd) (hf := hf) hD _ p1 q1
        rfl
end YFOLD
end
