/-! How many must be put in: pure mathematics, further. -/
noncomputable section
section PPAF
variable {P : pP}
theorem pBl_y {R : Int → Int → Int → Prop} {k p e e' u m : Int} (h : pMl (pX P) (pUn (pBn P R k p) e) u) (q : pMn (pX P) (pAl P R p) m) (hm : pX P < m) : pMl (pX P) (pUn (pBn P R k p) e') u := by
  have hn : ∀ r, ¬ pAl P R p r := by
    rcases q with ⟨-, q⟩ | ⟨q0, q1, -, -⟩
    · exact q
    · omega
  exact pMl_iff h (fun r => ⟨fun ⟨a, _, _, _, _, r0, _, q3, _⟩ => absurd q3 (hn r0), fun ⟨a, _, _, _, _, r0, _, q3, _⟩ => absurd q3 (hn r0)⟩)
theorem pNd_n {f : Nat → Int32} {k : Nat} {p a v : Int} (h : pNd P f k p a v) (hn : ∀ r, ¬ pDa P (pR P k) k p a v r) : pNd P f k p a (v + 1) := fun p' w' h0 h1 h2 h3 => pMn_iff (h p' w' h0 h1 h2 h3) (fun r => or_congr ⟨fun ⟨a', q0, q1, q2⟩ => ⟨a', q0, by omega, q2⟩, fun ⟨a', q0, q1, q2⟩ => ⟨a', q0, by
  by_cases e : p' = p ∧ a' = a ∧ w' = v
  · obtain ⟨rfl, rfl, rfl⟩ := e
    exact absurd q2 (hn r)
  · omega, q2⟩⟩ Iff.rfl)
theorem pNp_k {f : Nat → Int32} {k : Nat} {p v : Int} (h : pNp P f k p v) (hn : ∀ r, ¬ pDe P (pR P k) k (p + 1) v r) : pNp P f k p (v + 1) := fun p' w' h0 h1 h2 h3 => pMn_iff (h p' w' h0 h1 h2 h3) (fun r => or_congr Iff.rfl ⟨fun ⟨q0, q2⟩ => ⟨by omega, q2⟩, fun ⟨q0, q2⟩ => ⟨by
  by_cases e : p' = p + 1 ∧ w' = v
  · obtain ⟨rfl, rfl⟩ := e
    exact absurd q2 (hn r)
  · omega, q2⟩⟩)
theorem pMn_x {x v : Int} {S : Int → Prop} (h : pMn x S v) (hx : x ≤ 99) (hv : v ≤ x) : S v := by
  rcases h with ⟨rfl, -⟩ | ⟨-, -, h, -⟩
  · omega
  · exact h
theorem pMn_n {x v : Int} {S : Int → Prop} (h : pMn x S v) (hv : x < v) : ∀ r, ¬ S r := by
  rcases h with ⟨-, h⟩ | ⟨-, h, -, -⟩
  · exact h
  · omega
end PPAF
end
