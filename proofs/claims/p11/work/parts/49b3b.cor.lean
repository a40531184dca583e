/-! To which words there is no safe answer: by bits. -/
noncomputable section
/-- the words of a KIN, of so many words -/
def aWk (k : Nat → Int32) (kk : Int) : Nat → Int
  | 0 => 0
  | w + 1 => if (k w).toInt = kk then sOp 4 (aWk k kk w) (sOp 6 1 w) else aWk k kk w
def aCan (m : Int) : Prop := (Int32.ofInt m).toInt = m
def aBtt (m : Int) (i : Nat) : Bool := (Int32.ofInt m).toBitVec.getLsbD i
/-- a number's bits are as is said -/
def aBs (P : Nat → Prop) (m : Int) : Prop := aCan m ∧ ∀ i, i < 32 → (aBtt m i = true ↔ P i)
theorem aOp6 (a b : Int) : sOp 6 a b = (Int32.ofInt a <<< (Int32.ofInt b &&& 31)).toInt := rfl
theorem aBs_one {P : Nat → Prop} {m m' : Int} (p : aBs P m) (q : aBs P m') : m = m' := by
  have h : Int32.ofInt m = Int32.ofInt m' := by
    apply Int32.toBitVec_inj.mp
    apply BitVec.eq_of_getLsbD_eq
    intro i hi
    exact Bool.eq_iff_iff.mpr ((p.2 i hi).trans (q.2 i hi).symm)
  have hp : (Int32.ofInt m).toInt = m := p.1
  have hq : (Int32.ofInt m').toInt = m' := q.1
  rw [← hp, ← hq, h]
theorem aBtt_0 (i : Nat) : aBtt 0 i = false := by
  unfold aBtt
  rw [show Int32.ofInt 0 = 0 by decide, show (0 : Int32).toBitVec = 0#32 by decide, BitVec.getLsbD_zero]
theorem aCan_0 : aCan 0 := by
  show (Int32.ofInt 0).toInt = 0
  decide
theorem aBs_0 {P : Nat → Prop} (h : ∀ i, i < 32 → ¬ P i) : aBs P 0 := ⟨aCan_0, fun i hi => ⟨fun q => absurd ((aBtt_0 i).symm.trans q) Bool.false_ne_true, fun q => absurd q (h i hi)⟩⟩
theorem aCan_or (a b : Int) : aCan (sOp 4 a b) := by
  unfold aCan
  rw [aOp4, Int32.ofInt_toInt]
theorem aBs_or {P Q : Nat → Prop} {a b : Int} (p : aBs P a) (q : aBs Q b) : aBs (fun i => P i ∨ Q i) (sOp 4 a b) := by
  refine ⟨aCan_or a b, fun i hi => ?_⟩
  have e : aBtt (sOp 4 a b) i = (aBtt a i || aBtt b i) := by
    unfold aBtt
    rw [aOp4, Int32.ofInt_toInt, Int32.toBitVec_or, BitVec.getLsbD_or]
  rw [e, Bool.or_eq_true]
  exact or_congr (p.2 i hi) (q.2 i hi)
theorem aBt32 : ∀ w : Fin 32, ∀ i : Fin 32, aBtt (sOp 6 1 ((w.1 : Nat) : Int)) i.1 = decide (i.1 = w.1) := by decide +kernel
theorem aBs_bit {w : Nat} (hw : w < 32) : aBs (fun i => i = w) (sOp 6 1 w) := by
  refine ⟨?_, fun i hi => ?_⟩
  · unfold aCan
    rw [aOp6, Int32.ofInt_toInt]
  · have e := aBt32 ⟨w, hw⟩ ⟨i, hi⟩
    simp only at e
    rw [e, decide_eq_true_eq]
theorem aBs_imp {P Q : Nat → Prop} {m : Int} (p : aBs P m) (h : ∀ i, i < 32 → (P i ↔ Q i)) : aBs Q m := ⟨p.1, fun i hi => (p.2 i hi).trans (h i hi)⟩
theorem aOr0 {m : Int} (h : aCan m) : sOp 4 m 0 = m := by
  rw [aOp4, show Int32.ofInt 0 = 0 by decide]
  have e : Int32.ofInt m ||| 0 = Int32.ofInt m := by
    apply Int32.toBitVec_inj.mp
    rw [Int32.toBitVec_or, show (0 : Int32).toBitVec = 0#32 by decide]
    apply BitVec.eq_of_getLsbD_eq
    intro i hi
    rw [BitVec.getLsbD_or, BitVec.getLsbD_zero, Bool.or_false]
  rw [e]
  exact h
theorem aWk_can (k : Nat → Int32) (kk : Int) : ∀ n, aCan (aWk k kk n)
  | 0 => aCan_0
  | n + 1 => by
    show aCan (if (k n).toInt = kk then sOp 4 (aWk k kk n) (sOp 6 1 n) else aWk k kk n)
    split
    · exact aCan_or _ _
    · exact aWk_can k kk n
theorem aWk_bs (k : Nat → Int32) (kk : Int) : ∀ w, w ≤ 32 → aBs (fun i => i < w ∧ (k i).toInt = kk) (aWk k kk w)
  | 0, _ => aBs_0 (fun i _ q => by omega)
  | w + 1, h => by
    show aBs _ (if (k w).toInt = kk then sOp 4 (aWk k kk w) (sOp 6 1 w) else aWk k kk w)
    have ih := aWk_bs k kk w (by omega)
    split
    · rename_i hc
      refine aBs_imp (aBs_or ih (aBs_bit (by omega))) (fun i _ => ⟨fun q => ?_, fun q => ?_⟩)
      · rcases q with ⟨q1, q2⟩ | rfl
        · exact ⟨by omega, q2⟩
        · exact ⟨by omega, hc⟩
      · by_cases e : i = w
        · exact Or.inr e
        · exact Or.inl ⟨by omega, q.2⟩
    · rename_i hc
      refine aBs_imp ih (fun i _ => ⟨fun q => ⟨by omega, q.2⟩, fun q => ⟨?_, q.2⟩⟩)
      by_cases e : i = w
      · subst e
        exact absurd q.2 hc
      · omega
/-- the words asked of which leave one no safe answer: so many words; so many KINS -/
def aCB (G : aG) (k : Nat → Int32) (h o bd n : Int) (w : Nat) (m : Int) : Prop := aBs (fun i => i < w ∧ aAY G k h o (k i).toInt n bd 0) m
def aCC (G : aG) (k : Nat → Int32) (h o bd n kk m : Int) : Prop := 0 ≤ kk ∧ n ≤ 16 ∧ aBs (fun i => i < n.toNat ∧ (0 ≤ (k i).toInt ∧ (k i).toInt < kk) ∧ aAY G k h o (k i).toInt n bd 0) m
section ACOR
variable {G : aG} {k : Nat → Int32} {h o bd n kk m r : Int} {w : Nat}
theorem aCB_one {r' : Int} (p : aCB G k h o bd n w r) (q : aCB G k h o bd n w r') : r = r' := aBs_one p q
theorem aCB_0 : aCB G k h o bd n 0 0 := aBs_0 (fun i _ q => by omega)
theorem aAY_no (hG : aFn G) (y : aAY G k h o kk n bd 1) : ¬ aAY G k h o kk n bd 0 := fun q => by
  have := aAY_one hG y q
  omega
theorem aCB_yes (hG : aFn G) (p : aCB G k h o bd n w m) (y : aAY G k h o (k w).toInt n bd 1) : aCB G k h o bd n (w + 1) m := by
  refine aBs_imp p (fun i _ => ⟨fun q => ⟨by omega, q.2⟩, fun q => ⟨?_, q.2⟩⟩)
  by_cases e : i = w
  · subst e
    exact absurd q.2 (aAY_no hG y)
  · omega
theorem aCB_no (p : aCB G k h o bd n w m) (y : aAY G k h o (k w).toInt n bd 0) (hw : w < 32) : aCB G k h o bd n (w + 1) (sOp 4 m (sOp 6 1 w)) := by
  refine aBs_imp (aBs_or p (aBs_bit hw)) (fun i _ => ⟨fun q => ?_, fun q => ?_⟩)
  · rcases q with ⟨q1, q2⟩ | rfl
    · exact ⟨by omega, q2⟩
    · exact ⟨by omega, y⟩
  · by_cases e : i = w
    · exact Or.inr e
    · exact Or.inl ⟨by omega, q.2⟩
theorem aCC_0 (hn : n ≤ 16) : aCC G k h o bd n 0 0 := ⟨Int.le_refl _, hn, aBs_0 (fun i _ q => by omega)⟩
theorem aCC_skip (p : aCC G k h o bd n kk m) (q : aWk k kk n.toNat = 0) : aCC G k h o bd n (kk + 1) m := by
  obtain ⟨p1, p2, p3⟩ := p
  have hb := aWk_bs k kk n.toNat (by omega)
  rw [q] at hb
  refine ⟨by omega, p2, aBs_imp p3 (fun i hi => ⟨fun q => ⟨q.1, by omega, q.2.2⟩, fun q => ⟨q.1, ⟨by omega, ?_⟩, q.2.2⟩⟩)⟩
  by_cases e : (k i).toInt = kk
  · have := (hb.2 i hi).mpr ⟨q.1, e⟩
    rw [aBtt_0] at this
    cases this
  · omega
theorem aCC_yes (hG : aFn G) (p : aCC G k h o bd n kk m) (y : aAY G k h o kk n bd 1) : aCC G k h o bd n (kk + 1) m := by
  obtain ⟨p1, p2, p3⟩ := p
  refine ⟨by omega, p2, aBs_imp p3 (fun i hi => ⟨fun q => ⟨q.1, by omega, q.2.2⟩, fun q => ⟨q.1, ⟨by omega, ?_⟩, q.2.2⟩⟩)⟩
  by_cases e : (k i).toInt = kk
  · have h3 := q.2.2
    rw [e] at h3
    exact absurd h3 (aAY_no hG y)
  · omega
theorem aCC_no (p : aCC G k h o bd n kk m) (y : aAY G k h o kk n bd 0) : aCC G k h o bd n (kk + 1) (sOp 4 m (aWk k kk n.toNat)) := by
  obtain ⟨p1, p2, p3⟩ := p
  refine ⟨by omega, p2, aBs_imp (aBs_or p3 (aWk_bs k kk n.toNat (by omega))) (fun i hi => ⟨fun q => ?_, fun q => ?_⟩)⟩
  · rcases q with ⟨q1, q2, q3⟩ | ⟨q1, q2⟩
    · exact ⟨q1, by omega, q3⟩
    · refine ⟨q1, by omega, ?_⟩
      rw [q2]
      exact y
  · by_cases e : (k i).toInt = kk
    · exact Or.inr ⟨q.1, e⟩
    · exact Or.inl ⟨q.1, ⟨by omega, by omega⟩, q.2.2⟩
theorem aCC_end (p : aCC G k h o bd n kk r) (h8 : 8 ≤ kk) (hk : ∀ i, i < 16 → 0 ≤ (k i).toInt ∧ (k i).toInt ≤ 7) : aCB G k h o bd n n.toNat r := by
  obtain ⟨p1, p2, p3⟩ := p
  refine aBs_imp p3 (fun i hi => ⟨fun q => ⟨q.1, q.2.2⟩, fun q => ⟨q.1, ?_, q.2⟩⟩)
  have := hk i (by omega)
  omega
end ACOR
end
