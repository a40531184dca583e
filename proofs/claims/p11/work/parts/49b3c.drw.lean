/-! Days that are drawn by a seed. -/
noncomputable section
def aZ (z : Int) : Int := sOp 304 (sOp 304 (1103515245 * z) 0 + 12345) 0
def aZp (z s p : Int) : Int := sOp 10 (sOp 8 z s) p
def aDw (G : aG) (h bd hf n p sd : Int) : Nat → Int → Int → Int → Int → Prop
  | 0, z, m, k, f => z = sd ∧ m = 0 ∧ k = 0 ∧ f = -2
  | d + 1, z, m, k, f => ∃ z1 m1 k1 f1, aDw G h bd hf n p sd d z1 m1 k1 f1 ∧ z = aZ z1 ∧ ∃ x, aPN G h (aZp z 4 p) (aZp z 10 n) (aZp z 18 n) x ∧
    ((bd ≤ x ∧ m = m1 + 1 ∧ k = k1 ∧ f = (if m1 = 0 then (d : Int) else f1)) ∨ (x < bd ∧ m = m1 ∧ f = f1 ∧ ((hf ≤ x ∧ k = k1 + 1) ∨ (x < hf ∧ k = k1))))
def aDR (G : aG) (h bd hf n p sd d z m k f : Int) : Prop := 0 ≤ d ∧ (0 < d → 0 < p ∧ 0 < n) ∧ aDw G h bd hf n p sd d.toNat z m k f
def aDX (G : aG) (h bd hf n p sd N w r : Int) : Prop := ∃ z m k f, aDw G h bd hf n p sd (if 0 < p ∧ 0 < n then N.toNat else 0) z m k f ∧ r = (if w = 0 then m else if w = 1 then k else f)
theorem aDw_one {G : aG} (hG : aFn G) {h bd hf n p sd : Int} : ∀ (d : Nat) {z m k f z' m' k' f' : Int}, aDw G h bd hf n p sd d z m k f → aDw G h bd hf n p sd d z' m' k' f' → z = z' ∧ m = m' ∧ k = k' ∧ f = f'
  | 0, _, _, _, _, _, _, _, _, p, q => ⟨p.1.trans q.1.symm, p.2.1.trans q.2.1.symm, p.2.2.1.trans q.2.2.1.symm, p.2.2.2.trans q.2.2.2.symm⟩
  | d + 1, _, _, _, _, _, _, _, _, p, q => by
    obtain ⟨z1, m1, k1, f1, p1, rfl, x, px, p2⟩ := p
    obtain ⟨z2, m2, k2, f2, q1, rfl, y, qx, q2⟩ := q
    obtain ⟨rfl, rfl, rfl, rfl⟩ := aDw_one hG d p1 q1
    obtain rfl := aPN_one hG px qx
    rcases p2 with ⟨g1, rfl, rfl, rfl⟩ | ⟨g1, rfl, rfl, g2⟩ <;> rcases q2 with ⟨j1, rfl, rfl, rfl⟩ | ⟨j1, rfl, rfl, j2⟩
    · exact ⟨rfl, rfl, rfl, rfl⟩
    · omega
    · omega
    · refine ⟨rfl, rfl, ?_, rfl⟩
      omega
theorem aDX_one {G : aG} (hG : aFn G) {h bd hf n p sd N w r r' : Int} (a : aDX G h bd hf n p sd N w r) (b : aDX G h bd hf n p sd N w r') : r = r' := by
  obtain ⟨z, m, k, f, a1, rfl⟩ := a
  obtain ⟨z', m', k', f', b1, rfl⟩ := b
  obtain ⟨-, rfl, rfl, rfl⟩ := aDw_one hG _ a1 b1
  rfl
theorem aDR_0 {G : aG} {h bd hf n p sd : Int} : aDR G h bd hf n p sd 0 sd 0 0 (-2) := ⟨Int.le_refl _, fun q => by omega, rfl, rfl, rfl, rfl⟩
theorem aDR_s {G : aG} {h bd hf n p sd d z m k f m' k' f' x : Int} (a : aDR G h bd hf n p sd d z m k f) (hp : 0 < p) (hn : 0 < n) (px : aPN G h (aZp (aZ z) 4 p) (aZp (aZ z) 10 n) (aZp (aZ z) 18 n) x)
    (q : (bd ≤ x ∧ m' = m + 1 ∧ k' = k ∧ f' = (if m = 0 then d else f)) ∨ (x < bd ∧ m' = m ∧ f' = f ∧ ((hf ≤ x ∧ k' = k + 1) ∨ (x < hf ∧ k' = k)))) : aDR G h bd hf n p sd (d + 1) (aZ z) m' k' f' := by
  obtain ⟨a1, a2, a3⟩ := a
  refine ⟨by omega, fun _ => ⟨hp, hn⟩, ?_⟩
  rw [show (d + 1).toNat = d.toNat + 1 by omega]
  refine ⟨z, m, k, f, a3, rfl, x, px, ?_⟩
  rw [Int.toNat_of_nonneg a1]
  exact q
theorem aDR_X {G : aG} {h bd hf n p sd d z m k f N w : Int} (a : aDR G h bd hf n p sd d z m k f) (c : (d = N ∧ 1 ≤ N) ∨ p ≤ 0 ∨ n ≤ 0) : aDX G h bd hf n p sd N w (if w = 0 then m else if w = 1 then k else f) := by
  obtain ⟨a1, a2, a3⟩ := a
  refine ⟨z, m, k, f, ?_, rfl⟩
  by_cases e : 0 < p ∧ 0 < n
  · rw [if_pos e]
    rcases c with ⟨c1, c2⟩ | c | c
    · rw [← c1]
      exact a3
    · omega
    · omega
  · rw [if_neg e]
    have hd : d = 0 := by
      by_cases h0 : 0 < d
      · exact absurd (a2 h0) e
      · omega
    rw [hd] at a3
    exact a3
end
