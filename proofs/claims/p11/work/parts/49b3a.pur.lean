/-! One word, two words, many of them: by what a word gives, told by a relation. -/
noncomputable section
abbrev aG : Type := Int → Int → Int → Int → Int → Int → Prop
def aFn (G : aG) : Prop := ∀ ⦃h w p a o r r' : Int⦄, G h w p a o r → G h w p a o r' → r = r'
/-- what a word comes to alone, what two come to -/
def aAL (G : aG) (h o w x : Int) : Prop := ∃ r, G h w 0 (-1) o r ∧ x = max 0 r
def aPN (G : aG) (h o a b r : Int) : Prop := ∃ x s, aAL G h o a x ∧ G h b 1 a o s ∧ r = max x (x + s)
def aLk (k : Nat → Int32) (j w : Int) : Prop := k j.toNat = k w.toNat
theorem aAL_one {G : aG} (hG : aFn G) {h o w x x' : Int} (a : aAL G h o w x) (b : aAL G h o w x') : x = x' := by
  obtain ⟨r, h1, rfl⟩ := a
  obtain ⟨r', h2, rfl⟩ := b
  rw [hG h1 h2]
theorem aPN_one {G : aG} (hG : aFn G) {h o a b r r' : Int} (p : aPN G h o a b r) (q : aPN G h o a b r') : r = r' := by
  obtain ⟨x, s, h1, h2, rfl⟩ := p
  obtain ⟨x', s', k1, k2, rfl⟩ := q
  rw [aAL_one hG h1 k1, hG h2 k2]
/-- the class' word for another one: so many are looked at -/
def aWF (G : aG) (k : Nat → Int32) (h o w i b l : Int) : Prop := 0 ≤ i ∧ (∀ j, 0 ≤ j → j < i → aLk k j w → ∃ x, aAL G h o j x ∧ l ≤ x) ∧ ∃ m, aAL G h o w m ∧
  ((b = w ∧ l = m + 1) ∨ (0 ≤ b ∧ b < i ∧ aLk k b w ∧ aAL G h o b l ∧ l ≤ m ∧ ∀ j, 0 ≤ j → j < b → aLk k j w → ∃ x, aAL G h o j x ∧ l < x))
def aWC (G : aG) (k : Nat → Int32) (h o w n b : Int) : Prop := 0 ≤ b ∧ b < n ∧ aLk k b w ∧ ∃ l, aAL G h o b l ∧ (∀ j, 0 ≤ j → j < n → aLk k j w → ∃ x, aAL G h o j x ∧ l ≤ x) ∧ ∀ j, 0 ≤ j → j < b → aLk k j w → ∃ x, aAL G h o j x ∧ l < x
/-- the reference's: so many are looked at -/
def aAM (G : aG) (k : Nat → Int32) (h o w i b : Int) : Prop := (b = -1 ∧ ∀ j, 0 ≤ j → j < i → ¬ aLk k j w) ∨ (0 ≤ b ∧ b < i ∧ aLk k b w ∧ (∀ j x m, 0 ≤ j → j < i → aLk k j w → aAL G h o j x → aAL G h o b m → m ≤ x) ∧ ∀ j x m, 0 ≤ j → j < b → aLk k j w → aAL G h o j x → aAL G h o b m → m < x)
section AWORD
variable {G : aG} {k : Nat → Int32} {h o w i b l n x : Int}
theorem aWF_0 (q : aAL G h o w x) : aWF G k h o w 0 w (x + 1) := ⟨Int.le_refl _, fun j h1 h2 _ => absurd h1 (by omega), x, q, Or.inl ⟨rfl, rfl⟩⟩
theorem aWF_no (q : aWF G k h o w i b l) (hn : ¬ aLk k i w) : aWF G k h o w (i + 1) b l := by
  obtain ⟨q1, q2, m, q3, q4⟩ := q
  refine ⟨by omega, fun j h1 h2 hl => ?_, m, q3, ?_⟩
  · by_cases e : j = i
    · subst e
      exact absurd hl hn
    · exact q2 j h1 (by omega) hl
  · rcases q4 with q4 | ⟨a1, a2, a3⟩
    · exact Or.inl q4
    · exact Or.inr ⟨a1, by omega, a3⟩
theorem aWF_le (q : aWF G k h o w i b l) (hx : aAL G h o i x) (hl : l ≤ x) : aWF G k h o w (i + 1) b l := by
  obtain ⟨q1, q2, m, q3, q4⟩ := q
  refine ⟨by omega, fun j h1 h2 hk => ?_, m, q3, ?_⟩
  · by_cases e : j = i
    · subst e
      exact ⟨x, hx, hl⟩
    · exact q2 j h1 (by omega) hk
  · rcases q4 with q4 | ⟨a1, a2, a3⟩
    · exact Or.inl q4
    · exact Or.inr ⟨a1, by omega, a3⟩
theorem aWF_lt (q : aWF G k h o w i b l) (hk : aLk k i w) (hx : aAL G h o i x) (hl : x < l) : aWF G k h o w (i + 1) i x := by
  obtain ⟨q1, q2, m, q3, q4⟩ := q
  have hm : x ≤ m := by
    rcases q4 with ⟨-, q4⟩ | ⟨-, -, -, -, q4, -⟩ <;> omega
  refine ⟨by omega, fun j h1 h2 hj => ?_, m, q3, Or.inr ⟨q1, by omega, hk, hx, hm, fun j h1 h2 hj => ?_⟩⟩
  · by_cases e : j = i
    · subst e
      exact ⟨x, hx, Int.le_refl _⟩
    · obtain ⟨y, y1, y2⟩ := q2 j h1 (by omega) hj
      exact ⟨y, y1, by omega⟩
  · obtain ⟨y, y1, y2⟩ := q2 j h1 h2 hj
    exact ⟨y, y1, by omega⟩
theorem aWF_end (hG : aFn G) (q : aWF G k h o w n b l) (h0 : 0 ≤ w) (h1 : w < n) : aWC G k h o w n b := by
  obtain ⟨q1, q2, m, q3, q4⟩ := q
  rcases q4 with ⟨a1, a2⟩ | ⟨a1, a2, a3, a4, a5, a6⟩
  · obtain ⟨y, y1, y2⟩ := q2 w h0 h1 rfl
    have := aAL_one hG y1 q3
    omega
  · exact ⟨a1, a2, a3, l, a4, q2, a6⟩
theorem aAM_0 : aAM G k h o w 0 (-1) := Or.inl ⟨rfl, fun j h1 h2 => absurd h1 (by omega)⟩
theorem aAM_no (q : aAM G k h o w i b) (hn : ¬ aLk k i w) : aAM G k h o w (i + 1) b := by
  rcases q with ⟨q1, q2⟩ | ⟨q1, q2, q3, q4, q5⟩
  · refine Or.inl ⟨q1, fun j h1 h2 hk => ?_⟩
    by_cases e : j = i
    · subst e
      exact hn hk
    · exact q2 j h1 (by omega) hk
  · refine Or.inr ⟨q1, by omega, q3, fun j x m h1 h2 hk => ?_, q5⟩
    by_cases e : j = i
    · subst e
      exact absurd hk hn
    · exact q4 j x m h1 (by omega) hk
theorem aAM_1 (hG : aFn G) (q : aAM G k h o w i b) (hb : b < 0) (h0 : 0 ≤ i) (hk : aLk k i w) : aAM G k h o w (i + 1) i := by
  rcases q with ⟨q1, q2⟩ | ⟨q1, -⟩
  · refine Or.inr ⟨h0, by omega, hk, fun j x m h1 h2 hj hx hm => ?_, fun j x m h1 h2 hj => absurd hj (q2 j h1 h2)⟩
    by_cases e : j = i
    · subst e
      have := aAL_one hG hx hm
      omega
    · exact absurd hj (q2 j h1 (by omega))
  · omega
theorem aAM_lt (hG : aFn G) (q : aAM G k h o w i b) (hb : 0 ≤ b) (h0 : 0 ≤ i) (hk : aLk k i w) {m : Int} (hx : aAL G h o i x) (hm : aAL G h o b m) (hl : x < m) : aAM G k h o w (i + 1) i := by
  rcases q with ⟨q1, -⟩ | ⟨q1, q2, q3, q4, q5⟩
  · omega
  · refine Or.inr ⟨h0, by omega, hk, fun j y z h1 h2 hj hy hz => ?_, fun j y z h1 h2 hj hy hz => ?_⟩
    · have e1 := aAL_one hG hx hz
      by_cases e : j = i
      · subst e
        have := aAL_one hG hy hx
        omega
      · have := q4 j y m h1 (by omega) hj hy hm
        omega
    · have e1 := aAL_one hG hx hz
      have := q4 j y m h1 h2 hj hy hm
      omega
theorem aAM_ge (hG : aFn G) (q : aAM G k h o w i b) (hb : 0 ≤ b) {m : Int} (hx : aAL G h o i x) (hm : aAL G h o b m) (hl : m ≤ x) : aAM G k h o w (i + 1) b := by
  rcases q with ⟨q1, -⟩ | ⟨q1, q2, q3, q4, q5⟩
  · omega
  · refine Or.inr ⟨q1, by omega, q3, fun j y z h1 h2 hj hy hz => ?_, q5⟩
    by_cases e : j = i
    · subst e
      have e1 := aAL_one hG hx hy
      have e2 := aAL_one hG hm hz
      omega
    · exact q4 j y z h1 (by omega) hj hy hz
theorem aWC_AM {b' : Int} (p : aWC G k h o w n b) (q : aAM G k h o w n b') : b = b' := by
  obtain ⟨p1, p2, p3, l, p4, p5, p6⟩ := p
  rcases q with ⟨q1, q2⟩ | ⟨q1, q2, q3, q4, q5⟩
  · exact absurd p3 (q2 b p1 p2)
  · by_cases e1 : b' < b
    · obtain ⟨x, x1, x2⟩ := p6 b' q1 e1 q3
      have := q4 b l x p1 p2 p3 p4 x1
      omega
    · by_cases e2 : b < b'
      · obtain ⟨x, x1, x2⟩ := p5 b' q1 q2 q3
        have := q5 b l x p1 e2 p3 p4 x1
        omega
      · omega
end AWORD
/-- bits of KINS: of all words, of those that can be said -/
def aKb (k : Nat → Int32) : Nat → Int
  | 0 => 0
  | n + 1 => sOp 4 (aKb k n) (sOp 6 1 (k n).toInt)
def aSy (G : aG) (k : Nat → Int32) (h o x : Int) : Nat → Int → Prop
  | 0, m => m = 0
  | n + 1, m => ∃ m1 v, aSy G k h o x n m1 ∧ aAL G h o n v ∧ m = (if v ≤ x then sOp 4 m1 (sOp 6 1 (k n).toInt) else m1)
def aRy (G : aG) (k : Nat → Int32) (h o x : Int) (n : Nat) : Nat → Int → Prop
  | 0, m => m = aKb k n
  | i + 1, m => ∃ m1 v, aRy G k h o x n i m1 ∧ aAL G h o i v ∧ m = (if v ≤ x then sOp 3 m1 (sOp 5 (sOp 6 1 (k i).toInt) (-1)) else m1)
def aBX (G : aG) (k : Nat → Int32) (h ox n z : Int) : Prop := ∃ m, aSy G k h (sOp 9 ox 100) (sOp 10 ox 100) n.toNat m ∧ z = sOp 3 (aKb k n.toNat) (sOp 5 m (-1))
theorem aSy_one {G : aG} (hG : aFn G) {k : Nat → Int32} {h o x : Int} : ∀ (n : Nat) {m m' : Int}, aSy G k h o x n m → aSy G k h o x n m' → m = m'
  | 0, _, _, p, q => p.trans q.symm
  | n + 1, _, _, p, q => by
    obtain ⟨m1, v, p1, p2, rfl⟩ := p
    obtain ⟨m2, v', q1, q2, rfl⟩ := q
    rw [aSy_one hG n p1 q1, aAL_one hG p2 q2]
theorem aBX_one {G : aG} (hG : aFn G) {k : Nat → Int32} {h ox n z z' : Int} (p : aBX G k h ox n z) (q : aBX G k h ox n z') : z = z' := by
  obtain ⟨m, p1, rfl⟩ := p
  obtain ⟨m', q1, rfl⟩ := q
  rw [aSy_one hG _ p1 q1]
theorem aNeg : (-1 : Int32).toBitVec = BitVec.allOnes 32 := by decide
theorem aBit1 (A : Int32) : A &&& ((0 : Int32) ^^^ -1) = A := by
  have h0 : (0 : Int32).toBitVec = 0#32 := by decide
  apply Int32.toBitVec_inj.mp
  simp only [Int32.toBitVec_and, Int32.toBitVec_xor, aNeg, h0]
  apply BitVec.eq_of_getLsbD_eq
  intro i hi
  simp only [BitVec.getLsbD_and, BitVec.getLsbD_xor, BitVec.getLsbD_zero, BitVec.getLsbD_allOnes, hi, decide_true]
  cases A.toBitVec.getLsbD i <;> rfl
theorem aBit2 (A m b : Int32) : (A &&& (m ^^^ -1)) &&& (b ^^^ -1) = A &&& ((m ||| b) ^^^ -1) := by
  apply Int32.toBitVec_inj.mp
  simp only [Int32.toBitVec_and, Int32.toBitVec_xor, Int32.toBitVec_or, aNeg]
  apply BitVec.eq_of_getLsbD_eq
  intro i hi
  simp only [BitVec.getLsbD_and, BitVec.getLsbD_xor, BitVec.getLsbD_or, BitVec.getLsbD_allOnes, hi, decide_true]
  cases A.toBitVec.getLsbD i <;> cases m.toBitVec.getLsbD i <;> cases b.toBitVec.getLsbD i <;> rfl
theorem aOp3 (a b : Int) : sOp 3 a b = (Int32.ofInt a &&& Int32.ofInt b).toInt := rfl
theorem aOp4 (a b : Int) : sOp 4 a b = (Int32.ofInt a ||| Int32.ofInt b).toInt := rfl
theorem aOp5 (a b : Int) : sOp 5 a b = (Int32.ofInt a ^^^ Int32.ofInt b).toInt := rfl
theorem aKb_v (k : Nat → Int32) : ∀ n, (Int32.ofInt (aKb k n)).toInt = aKb k n
  | 0 => by
    show (Int32.ofInt (0 : Int)).toInt = 0
    decide
  | n + 1 => by
    show (Int32.ofInt (sOp 4 (aKb k n) (sOp 6 1 (k n).toInt))).toInt = sOp 4 (aKb k n) (sOp 6 1 (k n).toInt)
    rw [aOp4, Int32.ofInt_toInt]
/-- the class' way and the reference's come to the same bits -/
theorem aSR {G : aG} (hG : aFn G) {k : Nat → Int32} {h o x : Int} {n : Nat} : ∀ (i : Nat) {m z : Int}, aSy G k h o x i m → aRy G k h o x n i z → z = sOp 3 (aKb k n) (sOp 5 m (-1))
  | 0, m, z, p, q => by
    obtain rfl : m = 0 := p
    obtain rfl : z = aKb k n := q
    rw [aOp3, aOp5, Int32.ofInt_toInt, show Int32.ofInt 0 = 0 by decide, show Int32.ofInt (-1) = -1 by decide, aBit1, aKb_v]
  | i + 1, m, z, p, q => by
    obtain ⟨m1, v, p1, p2, rfl⟩ := p
    obtain ⟨z1, v', q1, q2, rfl⟩ := q
    obtain rfl := aAL_one hG p2 q2
    have e := aSR hG i p1 q1
    split
    · rw [e, aOp3, aOp3, aOp5, aOp5, aOp5, aOp3, aOp4]
      simp only [Int32.ofInt_toInt]
      rw [show Int32.ofInt (-1) = -1 by decide, aBit2]
    · exact e
theorem aRy_all {G : aG} {k : Nat → Int32} {h o x : Int} {n : Nat} : ∀ (i : Nat) {z : Int}, aRy G k h o x n i z → ∃ m, aSy G k h o x i m
  | 0, _, _ => ⟨0, rfl⟩
  | i + 1, _, q => by
    obtain ⟨z1, v, q1, q2, -⟩ := q
    obtain ⟨m, hm⟩ := aRy_all i q1
    exact ⟨_, m, v, hm, q2, rfl⟩
theorem aRy_BX {G : aG} (hG : aFn G) {k : Nat → Int32} {h ox n z : Int} (q : aRy G k h (sOp 9 ox 100) (sOp 10 ox 100) n.toNat n.toNat z) : aBX G k h ox n z := by
  obtain ⟨m, hm⟩ := aRy_all _ q
  exact ⟨m, hm, aSR hG _ hm q⟩
/-- pairs that are mentioned: so many of a row, so many rows -/
def aDr (G : aG) (h o bd : Int) (a : Nat) (m0 f0 : Int) : Nat → Int → Int → Prop
  | 0, m, f => m = m0 ∧ f = f0
  | b + 1, m, f => ∃ m1 f1, aDr G h o bd a m0 f0 b m1 f1 ∧ ((a = b ∧ m = m1 ∧ f = f1) ∨ (a ≠ b ∧ ∃ x, aPN G h o a b x ∧ ((bd ≤ x ∧ m = m1 + 1 ∧ f = (if m1 = 0 then 20 * (a : Int) + b else f1)) ∨ (x < bd ∧ m = m1 ∧ f = f1))))
def aDa (G : aG) (h o bd : Int) (n : Nat) : Nat → Int → Int → Prop
  | 0, m, f => m = 0 ∧ f = -2
  | a + 1, m, f => ∃ m1 f1, aDa G h o bd n a m1 f1 ∧ aDr G h o bd a m1 f1 n m f
def aDG (G : aG) (h o bd n a b m f : Int) : Prop := 0 ≤ a ∧ 0 ≤ b ∧ ∃ m1 f1, aDa G h o bd n.toNat a.toNat m1 f1 ∧ aDr G h o bd a.toNat m1 f1 b.toNat m f
def aDE (G : aG) (h o bd n wh r : Int) : Prop := ∃ m f, aDa G h o bd n.toNat n.toNat m f ∧ r = (if wh = 0 then m else f)
theorem aDr_one {G : aG} (hG : aFn G) {h o bd : Int} {a : Nat} {m0 f0 : Int} : ∀ (b : Nat) {m f m' f' : Int}, aDr G h o bd a m0 f0 b m f → aDr G h o bd a m0 f0 b m' f' → m = m' ∧ f = f'
  | 0, _, _, _, _, p, q => ⟨p.1.trans q.1.symm, p.2.trans q.2.symm⟩
  | b + 1, _, _, _, _, p, q => by
    obtain ⟨m1, f1, p1, p2⟩ := p
    obtain ⟨m2, f2, q1, q2⟩ := q
    obtain ⟨rfl, rfl⟩ := aDr_one hG b p1 q1
    rcases p2 with ⟨e, rfl, rfl⟩ | ⟨e, x, px, p2⟩ <;> rcases q2 with ⟨e', rfl, rfl⟩ | ⟨e', y, qx, q2⟩
    · exact ⟨rfl, rfl⟩
    · exact absurd e e'
    · exact absurd e' e
    · obtain rfl := aPN_one hG px qx
      rcases p2 with ⟨g, rfl, rfl⟩ | ⟨g, rfl, rfl⟩ <;> rcases q2 with ⟨g', rfl, rfl⟩ | ⟨g', rfl, rfl⟩
      · exact ⟨rfl, rfl⟩
      · omega
      · omega
      · exact ⟨rfl, rfl⟩
theorem aDa_one {G : aG} (hG : aFn G) {h o bd : Int} {n : Nat} : ∀ (a : Nat) {m f m' f' : Int}, aDa G h o bd n a m f → aDa G h o bd n a m' f' → m = m' ∧ f = f'
  | 0, _, _, _, _, p, q => ⟨p.1.trans q.1.symm, p.2.trans q.2.symm⟩
  | a + 1, _, _, _, _, p, q => by
    obtain ⟨m1, f1, p1, p2⟩ := p
    obtain ⟨m2, f2, q1, q2⟩ := q
    obtain ⟨rfl, rfl⟩ := aDa_one hG a p1 q1
    exact aDr_one hG _ p2 q2
theorem aDE_one {G : aG} (hG : aFn G) {h o bd n wh r r' : Int} (p : aDE G h o bd n wh r) (q : aDE G h o bd n wh r') : r = r' := by
  obtain ⟨m, f, p1, rfl⟩ := p
  obtain ⟨m', f', q1, rfl⟩ := q
  obtain ⟨rfl, rfl⟩ := aDa_one hG _ p1 q1
  rfl
/-- the safest answer: so many of a row, so many rows -/
def aAr (G : aG) (k : Nat → Int32) (h o kk : Int) (a : Nat) (s0 l0 : Int) : Nat → Int → Int → Prop
  | 0, s, l => s = s0 ∧ l = l0
  | b + 1, s, l => ∃ s1 l1, aAr G k h o kk a s0 l0 b s1 l1 ∧ ((¬ ((k a).toInt = kk ∧ (k b).toInt ≠ kk) ∧ s = s1 ∧ l = l1) ∨ ((k a).toInt = kk ∧ (k b).toInt ≠ kk ∧ ∃ x, aPN G h o a b x ∧ (((s1 < 0 ∨ x < l1) ∧ s = 100 * (a : Int) + b ∧ l = x) ∨ (0 ≤ s1 ∧ l1 ≤ x ∧ s = s1 ∧ l = l1))))
def aAa (G : aG) (k : Nat → Int32) (h o kk : Int) (n : Nat) : Nat → Int → Int → Prop
  | 0, s, l => s = -2 ∧ l = 0
  | a + 1, s, l => ∃ s1 l1, aAa G k h o kk n a s1 l1 ∧ aAr G k h o kk a s1 l1 n s l
def aAS (G : aG) (k : Nat → Int32) (h o kk n a b s l : Int) : Prop := 0 ≤ a ∧ 0 ≤ b ∧ ∃ s1 l1, aAa G k h o kk n.toNat a.toNat s1 l1 ∧ aAr G k h o kk a.toNat s1 l1 b.toNat s l
def aAE (G : aG) (k : Nat → Int32) (h o kk n s : Int) : Prop := ∃ l, aAa G k h o kk n.toNat n.toNat s l
def aSF (s l bd i : Int) : Prop := i = (if 0 ≤ s ∧ l < bd then 1 else 0)
def aAY (G : aG) (k : Nat → Int32) (h o kk n bd i : Int) : Prop := ∃ s l, aAa G k h o kk n.toNat n.toNat s l ∧ aSF s l bd i
theorem aAr_one {G : aG} (hG : aFn G) {k : Nat → Int32} {h o kk : Int} {a : Nat} {s0 l0 : Int} : ∀ (b : Nat) {s l s' l' : Int}, aAr G k h o kk a s0 l0 b s l → aAr G k h o kk a s0 l0 b s' l' → s = s' ∧ l = l'
  | 0, _, _, _, _, p, q => ⟨p.1.trans q.1.symm, p.2.trans q.2.symm⟩
  | b + 1, _, _, _, _, p, q => by
    obtain ⟨m1, f1, p1, p2⟩ := p
    obtain ⟨m2, f2, q1, q2⟩ := q
    obtain ⟨rfl, rfl⟩ := aAr_one hG b p1 q1
    rcases p2 with ⟨e, rfl, rfl⟩ | ⟨e1, e2, x, px, p2⟩ <;> rcases q2 with ⟨e', rfl, rfl⟩ | ⟨d1, d2, y, qx, q2⟩
    · exact ⟨rfl, rfl⟩
    · exact absurd ⟨d1, d2⟩ e
    · exact absurd ⟨e1, e2⟩ e'
    · obtain rfl := aPN_one hG px qx
      rcases p2 with ⟨g, rfl, rfl⟩ | ⟨g, g2, rfl, rfl⟩ <;> rcases q2 with ⟨g', rfl, rfl⟩ | ⟨g', g2', rfl, rfl⟩
      · exact ⟨rfl, rfl⟩
      · omega
      · omega
      · exact ⟨rfl, rfl⟩
theorem aAa_one {G : aG} (hG : aFn G) {k : Nat → Int32} {h o kk : Int} {n : Nat} : ∀ (a : Nat) {s l s' l' : Int}, aAa G k h o kk n a s l → aAa G k h o kk n a s' l' → s = s' ∧ l = l'
  | 0, _, _, _, _, p, q => ⟨p.1.trans q.1.symm, p.2.trans q.2.symm⟩
  | a + 1, _, _, _, _, p, q => by
    obtain ⟨m1, f1, p1, p2⟩ := p
    obtain ⟨m2, f2, q1, q2⟩ := q
    obtain ⟨rfl, rfl⟩ := aAa_one hG a p1 q1
    exact aAr_one hG _ p2 q2
theorem aAE_one {G : aG} (hG : aFn G) {k : Nat → Int32} {h o kk n s s' : Int} (p : aAE G k h o kk n s) (q : aAE G k h o kk n s') : s = s' := by
  obtain ⟨l, p1⟩ := p
  obtain ⟨l', q1⟩ := q
  exact (aAa_one hG _ p1 q1).1
theorem aAY_one {G : aG} (hG : aFn G) {k : Nat → Int32} {h o kk n bd i i' : Int} (p : aAY G k h o kk n bd i) (q : aAY G k h o kk n bd i') : i = i' := by
  obtain ⟨s, l, p1, p2⟩ := p
  obtain ⟨s', l', q1, q2⟩ := q
  obtain ⟨rfl, rfl⟩ := aAa_one hG _ p1 q1
  exact p2.trans q2.symm
/-- a row whose word is of another KIN changes nothing -/
theorem aAr_no {G : aG} {k : Nat → Int32} {h o kk : Int} {a : Nat} {s0 l0 : Int} (hn : (k a).toInt ≠ kk) : ∀ b : Nat, aAr G k h o kk a s0 l0 b s0 l0
  | 0 => ⟨rfl, rfl⟩
  | b + 1 => ⟨s0, l0, aAr_no hn b, Or.inl ⟨fun q => hn q.1, rfl, rfl⟩⟩
/-- the safest answer's words, and how near it is -/
def aAn (G : aG) (h o s l : Int) (n : Nat) : Prop := s = -2 ∨ ∃ a b : Nat, a < n ∧ b < n ∧ s = 100 * (a : Int) + b ∧ aPN G h o a b l
theorem aAr_n {G : aG} {k : Nat → Int32} {h o kk : Int} {a n : Nat} {s0 l0 : Int} (ha : a < n) (h0 : aAn G h o s0 l0 n) : ∀ (b : Nat) {s l : Int}, b ≤ n → aAr G k h o kk a s0 l0 b s l → aAn G h o s l n
  | 0, _, _, _, p => by
    obtain ⟨rfl, rfl⟩ := p
    exact h0
  | b + 1, _, _, hb, p => by
    obtain ⟨s1, l1, p1, p2⟩ := p
    have ih := aAr_n ha h0 b (by omega) p1
    rcases p2 with ⟨-, rfl, rfl⟩ | ⟨-, -, x, px, ⟨-, rfl, rfl⟩ | ⟨-, -, rfl, rfl⟩⟩
    · exact ih
    · exact Or.inr ⟨a, b, ha, by omega, rfl, px⟩
    · exact ih
theorem aAa_n {G : aG} {k : Nat → Int32} {h o kk : Int} {n : Nat} : ∀ (a : Nat) {s l : Int}, a ≤ n → aAa G k h o kk n a s l → aAn G h o s l n
  | 0, _, _, _, p => Or.inl p.1
  | a + 1, _, _, ha, p => by
    obtain ⟨s1, l1, p1, p2⟩ := p
    exact aAr_n (by omega) (aAa_n a (by omega) p1) n (Nat.le_refl _) p2
end
