/-! Months of talk: what is never said, how near it comes, which words come too near. -/
noncomputable section
/-- sentence by sentence: what is kept, and where the next one begins -/
def vFo (W : Nat → Int) (St : Int → Int → Int → Int → Prop) (le w : Int) : Nat → Int → Int → Prop
  | 0, a, c => a = 0 ∧ c = 0
  | n + 1, a, c => ∃ a0 c0, vFo W St le w n a0 c0 ∧ ((a0 < 0 ∧ a = -1 ∧ c = c0) ∨ (0 ≤ a0 ∧ ∃ len, jR W le w a0 len a ∧ St a0 len c0 c))
def vX (W : Nat → Int) (St : Int → Int → Int → Int → Prop) (le w c : Int) : Prop := ∃ a, vFo W St le w 12 a c
def vK (W : Nat → Int) (St : Int → Int → Int → Int → Prop) (le w n p c : Int) : Prop := 0 ≤ n ∧ 0 ≤ p ∧ ∃ a, vFo W St le w n.toNat a c ∧ (a = p ∨ (a = -1 ∧ jSt W p le w))
section VFOLD
variable {W : Nat → Int} {St : Int → Int → Int → Int → Prop} {le w : Int}
theorem vFo_one (hS : ∀ {a l c d d' : Int}, St a l c d → St a l c d' → d = d') : ∀ (n : Nat) {a c a' c' : Int}, vFo W St le w n a c → vFo W St le w n a' c' → a = a' ∧ c = c'
  | 0, _, _, _, _, p, q => ⟨p.1.trans q.1.symm, p.2.trans q.2.symm⟩
  | n + 1, _, _, _, _, p, q => by
    obtain ⟨a0, c0, p1, p2⟩ := p
    obtain ⟨b0, d0, q1, q2⟩ := q
    obtain ⟨rfl, rfl⟩ := vFo_one hS n p1 q1
    rcases p2 with ⟨h1, rfl, rfl⟩ | ⟨h1, l, h2, h3⟩ <;> rcases q2 with ⟨k1, rfl, rfl⟩ | ⟨k1, l', k2, k3⟩
    · exact ⟨rfl, rfl⟩
    · omega
    · omega
    · obtain ⟨rfl, rfl⟩ := jR_one h2 k2
      exact ⟨rfl, hS h3 k3⟩
theorem vX_one (hS : ∀ {a l c d d' : Int}, St a l c d → St a l c d' → d = d') {c c' : Int} (p : vX W St le w c) (q : vX W St le w c') : c = c' := by
  obtain ⟨a, p⟩ := p
  obtain ⟨b, q⟩ := q
  exact (vFo_one (St := St) hS 12 p q).2
theorem vFo_inv {I : Int → Prop} (h0 : I 0) (hS : ∀ {a l c d : Int}, I c → St a l c d → I d) : ∀ (n : Nat) {a c : Int}, vFo W St le w n a c → I c
  | 0, _, _, p => by rw [p.2]; exact h0
  | n + 1, _, _, p => by
    obtain ⟨a0, c0, p1, p2⟩ := p
    have ih := vFo_inv h0 hS n p1
    rcases p2 with ⟨-, -, rfl⟩ | ⟨-, l, -, h3⟩
    · exact ih
    · exact hS ih h3
theorem vFo_up {n : Nat} {a c : Int} (p : vFo W St le w n a c) (h : a < 0) : ∀ d : Nat, ∃ b, b < 0 ∧ vFo W St le w (n + d) b c
  | 0 => ⟨a, h, p⟩
  | d + 1 => by
    obtain ⟨b, hb, q⟩ := vFo_up p h d
    exact ⟨-1, by omega, b, c, q, Or.inl ⟨hb, rfl, rfl⟩⟩
theorem vFo_12 {n a c : Int} (p : vFo W St le w n.toNat a c) (h : a < 0) (hn : n ≤ 12) : vX W St le w c := by
  obtain ⟨b, -, q⟩ := vFo_up p h (12 - n.toNat)
  rw [show n.toNat + (12 - n.toNat) = 12 by omega] at q
  exact ⟨b, q⟩
theorem vFo_s {n a0 c0 len a c : Int} (h : vFo W St le w n.toNat a0 c0) (hn : 0 ≤ n) (h0 : 0 ≤ a0) (h1 : jR W le w a0 len a) (h2 : St a0 len c0 c) : vFo W St le w (n + 1).toNat a c := by
  rw [show (n + 1).toNat = n.toNat + 1 by omega]
  exact ⟨a0, c0, h, Or.inr ⟨h0, len, h1, h2⟩⟩
theorem vFo_e {n a c : Int} (h : vFo W St le w n.toNat a c) (q : n = 12 ∨ (a < 0 ∧ n ≤ 12)) : vX W St le w c := by
  rcases q with rfl | ⟨q1, q2⟩
  · exact ⟨a, h⟩
  · exact vFo_12 h q1 q2
theorem vK_at {n p c len p' : Int} (h : vK W St le w n p c) (hm : jM W le w p len p') : vFo W St le w n.toNat p c := by
  obtain ⟨-, -, a, h1, h2⟩ := h
  rcases h2 with rfl | ⟨-, h2⟩
  · exact h1
  · exact absurd ⟨hm.1.2.1, hm.1.2.2⟩ h2.2
theorem vK_s {n p c len p' c' : Int} (hn : 0 ≤ n) (hp : 0 ≤ p) (h : vFo W St le w n.toNat p c) (hm : jM W le w p len p') (hs : St p len c c') : vK W St le w (n + 1) p' c' := by
  obtain ⟨hg, nx, hr, hnx⟩ := hm
  have hp' : 0 ≤ p' := by
    rcases hnx with ⟨-, q⟩ | ⟨-, q⟩
    · exact q
    · exact q.1
  refine ⟨by omega, hp', nx, vFo_s h hn hp hr hs, ?_⟩
  rcases hnx with ⟨q, -⟩ | ⟨q, q2⟩
  · exact Or.inl q
  · exact Or.inr ⟨q, q2⟩
theorem vK_e {n p c : Int} (h : vK W St le w n p c) (hs : 0 ≤ p → St p 0 c c) (q : n = 12 ∨ (n ≤ 11 ∧ jSt W p le w)) : vX W St le w c := by
  obtain ⟨h0, hp, a, h1, h2⟩ := h
  rcases q with rfl | ⟨q1, q2⟩
  · exact ⟨a, h1⟩
  · rcases h2 with rfl | ⟨rfl, -⟩
    · exact vFo_12 (vFo_s h1 h0 hp (jR_no q2) (hs hp)) (by omega) (by omega)
    · exact vFo_12 h1 (by omega) (by omega)
end VFOLD
/-- how near; which words -/
def vG (N : Int → Int → Int → Prop) (a len c d : Int) : Prop := ∃ x, N a len x ∧ d = max c x
def vS (W : Nat → Int) (st k : Int) (i : Nat) : Prop := ∃ q : Nat, st ≤ (q : Int) ∧ (q : Int) < st + k ∧ W q = (i : Int)
def vO (W : Nat → Int) (a len c d : Int) : Prop := ∃ m, aBs (vS W a len) m ∧ d = sOp 4 c m
theorem vG_one {N : Int → Int → Int → Prop} (hN : ∀ {a l x x' : Int}, N a l x → N a l x' → x = x') {a l c d d' : Int} (p : vG N a l c d) (q : vG N a l c d') : d = d' := by
  obtain ⟨x, p1, rfl⟩ := p
  obtain ⟨y, q1, rfl⟩ := q
  rw [hN p1 q1]
theorem vO_one {W : Nat → Int} {a l c d d' : Int} (p : vO W a l c d) (q : vO W a l c d') : d = d' := by
  obtain ⟨x, p1, rfl⟩ := p
  obtain ⟨y, q1, rfl⟩ := q
  rw [aBs_one p1 q1]
theorem vS_0 {W : Nat → Int} {st : Int} {i : Nat} : ¬ vS W st 0 i := fun ⟨q, h1, h2, _⟩ => by omega
theorem vO_0 {W : Nat → Int} {a c : Int} (h : aCan c) : vO W a 0 c c := ⟨0, aBs_0 (fun _ _ => vS_0), (aOr0 h).symm⟩
theorem vS_s {W : Nat → Int} {st k : Int} {m : Int} {x : Nat} (h0 : 0 ≤ st) (hk : 0 ≤ k) (h : aBs (vS W st k) m) (hx : W (st + k).toNat = (x : Int)) (hx2 : x < 32) : aBs (vS W st (k + 1)) (sOp 4 m (sOp 6 1 x)) := by
  refine aBs_imp (aBs_or h (aBs_bit hx2)) (fun i _ => ⟨?_, ?_⟩)
  · rintro (⟨q, q1, q2, q3⟩ | rfl)
    · exact ⟨q, q1, by omega, q3⟩
    · exact ⟨(st + k).toNat, by omega, by omega, hx⟩
  · rintro ⟨q, q1, q2, q3⟩
    by_cases c : (q : Int) < st + k
    · exact Or.inl ⟨q, q1, c, q3⟩
    · right
      have e : q = (st + k).toNat := by omega
      rw [e, hx] at q3
      omega
theorem vOr_as (a b c : Int) : sOp 4 (sOp 4 a b) c = sOp 4 a (sOp 4 b c) := by
  rw [aOp4, aOp4, aOp4, aOp4, Int32.ofInt_toInt, Int32.ofInt_toInt, Int32.or_assoc]
theorem vOp3 (a b : Int) : sOp 3 a b = (Int32.ofInt a &&& Int32.ofInt b).toInt := rfl
theorem vOp5 (a b : Int) : sOp 5 a b = (Int32.ofInt a ^^^ Int32.ofInt b).toInt := rfl
theorem vNot (a m b : Int32) : (a &&& (m ^^^ Int32.ofInt (-1))) &&& (b ^^^ Int32.ofInt (-1)) = a &&& ((m ||| b) ^^^ Int32.ofInt (-1)) := by
  apply Int32.toBitVec_inj.mp
  apply BitVec.eq_of_getLsbD_eq
  intro i hi
  have e : (Int32.ofInt (-1)).toBitVec = BitVec.allOnes 32 := by decide
  simp only [Int32.toBitVec_and, Int32.toBitVec_or, Int32.toBitVec_xor, BitVec.getLsbD_and, BitVec.getLsbD_or, BitVec.getLsbD_xor, e, BitVec.getLsbD_allOnes, hi, decide_true]
  cases a.toBitVec.getLsbD i <;> cases m.toBitVec.getLsbD i <;> cases b.toBitVec.getLsbD i <;> rfl
theorem vNots (a m b : Int) : sOp 3 (sOp 3 a (sOp 5 m (-1))) (sOp 5 b (-1)) = sOp 3 a (sOp 5 (sOp 4 m b) (-1)) := by
  rw [vOp3, vOp3, vOp3, vOp5, vOp5, vOp5, aOp4]
  simp only [Int32.ofInt_toInt]
  rw [vNot]
theorem vNot0 {a : Int} (h : aCan a) : sOp 3 a (sOp 5 0 (-1)) = a := by
  rw [vOp3, vOp5, Int32.ofInt_toInt, show Int32.ofInt 0 ^^^ Int32.ofInt (-1) = Int32.ofInt (-1) by decide]
  have e : Int32.ofInt a &&& Int32.ofInt (-1) = Int32.ofInt a := by
    apply Int32.toBitVec_inj.mp
    apply BitVec.eq_of_getLsbD_eq
    intro i hi
    have e : (Int32.ofInt (-1)).toBitVec = BitVec.allOnes 32 := by decide
    simp only [Int32.toBitVec_and, BitVec.getLsbD_and, e, BitVec.getLsbD_allOnes, hi, decide_true, Bool.and_true]
  rw [e]
  exact h
theorem vO_can {W : Nat → Int} {le w : Int} {n : Nat} {a c : Int} (p : vFo W (vO W) le w n a c) : aCan c := vFo_inv (I := aCan) aCan_0 (fun _ h => by
  obtain ⟨m, -, rfl⟩ := h
  exact aCan_or _ _) n p
theorem vG_nn {W : Nat → Int} {N : Int → Int → Int → Prop} {le w : Int} {n : Nat} {a c : Int} (p : vFo W (vG N) le w n a c) : 0 ≤ c := vFo_inv (I := fun c => 0 ≤ c) (Int.le_refl _) (fun h q => by
  obtain ⟨x, -, rfl⟩ := q
  omega) n p
/-- so many words, which of them come too near -/
def vT (Hit : Int → Prop) : Nat → Int → Prop
  | 0, m => m = 0
  | k + 1, m => ∃ m0, vT Hit k m0 ∧ ((Hit (k : Int) ∧ m = sOp 4 m0 (sOp 6 1 k)) ∨ (¬ Hit (k : Int) ∧ m = m0))
theorem vT_one {Hit : Int → Prop} : ∀ (k : Nat) {m m' : Int}, vT Hit k m → vT Hit k m' → m = m'
  | 0, _, _, p, q => p.trans q.symm
  | k + 1, _, _, p, q => by
    obtain ⟨a, p1, p2⟩ := p
    obtain ⟨b, q1, q2⟩ := q
    obtain rfl := vT_one k p1 q1
    rcases p2 with ⟨h, rfl⟩ | ⟨h, rfl⟩ <;> rcases q2 with ⟨j, rfl⟩ | ⟨j, rfl⟩
    · rfl
    · exact absurd h j
    · exact absurd j h
    · rfl
theorem vT_can {Hit : Int → Prop} : ∀ (k : Nat) {m : Int}, vT Hit k m → aCan m
  | 0, _, p => by rw [p]; exact aCan_0
  | k + 1, _, p => by
    obtain ⟨a, p1, p2⟩ := p
    rcases p2 with ⟨-, rfl⟩ | ⟨-, rfl⟩
    · exact aCan_or _ _
    · exact vT_can k p1
theorem vT_s {Hit : Int → Prop} {k m m' : Int} (h0 : 0 ≤ k) (h : vT Hit k.toNat m) (q : (Hit k ∧ m' = sOp 4 m (sOp 6 1 k)) ∨ (¬ Hit k ∧ m' = m)) : vT Hit (k + 1).toNat m' := by
  rw [show (k + 1).toNat = k.toNat + 1 by omega]
  refine ⟨m, h, ?_⟩
  rw [Int.toNat_of_nonneg h0]
  exact q
end
