/-! The class works the law out. -/
section NWRT
variable {C : Nat → Int32} {F : Int → Int32} {N : Nat}
theorem nPh_start {c : Nat} {ls : List nLi} (h : nAg C c (nCl c ls ++ [0, -1000])) (hN : c + (nCl c ls).length + 2 = N) (ho : ∀ l ∈ ls, nOkL l) (hh : nHs ls) : nPh C F c N [] (nEv F ls) := by
  cases ls with
  | nil =>
    refine Or.inl ⟨[(1, 0)], h, by simp [nCl] at hN; simp; omega, fun x hx => ?_, rfl, rfl⟩
    rw [List.mem_singleton.mp hx]
    exact Or.inl ⟨rfl, by omega, by omega⟩
  | cons l r =>
    obtain ⟨t, v⟩ := l
    obtain ⟨o1, o2⟩ := ho _ List.mem_cons_self
    obtain ⟨h1, h2⟩ := hh _ List.mem_cons_self
    cases t with
    | none =>
      simp only [nCl, nLc, List.append_assoc] at h
      simp only [nCl, List.length_append, nLc_len, nLl] at hN
      rw [← List.append_assoc] at h
      exact Or.inl ⟨v, nAg_l h, by omega, o2, h1, rfl⟩
    | some t =>
      simp only [nCl, List.append_assoc] at h
      simp only [nCl, List.length_append, nLc_len, nLl] at hN
      have ha := nAg_l h
      have hb := nAg_r h
      rw [nLc_len] at hb
      simp only [nLl] at hb
      refine Or.inr ⟨t, v, r, c + t.length + v.length + 3, rfl, ha, ?_, ?_, o1, o2, fun l hl => ho l (List.mem_cons_of_mem _ hl), h2 t rfl, h1, fun l hl => hh l (List.mem_cons_of_mem _ hl), rfl⟩
      · rw [show c + t.length + v.length + 3 = c + (t.length + v.length + 3) by omega]
        exact hb
      · rw [show c + t.length + v.length + 3 = c + (t.length + v.length + 3) by omega]
        omega
/-- what stands at a place, and what follows -/
theorem nPh_at {a : Nat} {st : List Int32} {tot : Int32} (h : nPh C F a N st tot) : a < N ∧
    ((∃ x, nOkS x ∧ C a = Int32.ofInt (nEn1 x) ∧ (∃ n, kOp x.1 x.2 st.length = some n) ∧ nPh C F (a + 1) N (nSt1 F x st) tot)
    ∨ (C a = Int32.ofInt (-1000) ∧ st.length = 1 ∧ tot = nTv st)
    ∨ (C a = Int32.ofInt (-1001) ∧ st.length = 1 ∧ ∃ c : Nat, C (a + 1) = Int32.ofInt c ∧ a + 2 ≤ c ∧ c < N ∧ (nTv st ≠ 0 → nPh C F (a + 2) N [] tot) ∧ (nTv st = 0 → nPh C F c N [] tot))) := by
  have ht : ∀ {q : List nSp} {x : nSp} {h : Nat}, nHt h (x :: q) = some 1 → ∃ n, kOp x.1 x.2 h = some n ∧ nHt n q = some 1 := fun {q x h} hq => by
    simp only [nHt] at hq
    split at hq
    · rename_i n hn
      exact ⟨n, hn, hq⟩
    · cases hq
  rcases h with ⟨q, h1, h2, h3, h4, h5⟩ | ⟨q, v, r, c, hc, h1, h2, h3, h4, h5, h6, h7, h8, h9, h10⟩
  · refine ⟨by omega, ?_⟩
    cases q with
    | nil =>
      simp only [nHt, Option.some.injEq] at h4
      have := h1 0 (-1000) rfl
      exact Or.inr (Or.inl ⟨this, h4, h5⟩)
    | cons x q =>
      obtain ⟨n, n1, n2⟩ := ht h4
      have hx := h1 0 (nEn1 x) rfl
      refine Or.inl ⟨x, h3 x List.mem_cons_self, hx, ⟨n, n1⟩, Or.inl ⟨q, ?_, by simp only [List.length_cons] at h2; omega, fun y hy => h3 y (List.mem_cons_of_mem _ hy), ?_, h5⟩⟩
      · have h1' : nAg C a ([nEn1 x] ++ (nEc q ++ [-1000])) := h1
        exact nAg_r h1'
      · rw [nSt1_len n1]
        exact n2
  · refine ⟨by omega, ?_⟩
    cases q with
    | nil =>
      simp only [nHt, Option.some.injEq] at h7
      have h10 : tot = if nTv st ≠ 0 then nVal F v else nEv F r := h10
      have e1 := h1 0 (-1001) rfl
      have e2 := h1 1 (c : Int) rfl
      simp only [List.length_nil] at hc
      have hv : nAg C (a + 2) (nEc v ++ [-1000]) := by
        have h1' : nAg C a ([-1001, ((c : Nat) : Int)] ++ (nEc v ++ [-1000])) := h1
        exact nAg_r h1'
      refine Or.inr (Or.inr ⟨e1, h7, c, e2, by omega, by omega, fun hn => ?_, fun hn => ?_⟩)
      · refine Or.inl ⟨v, hv, by omega, h5, h8, ?_⟩
        rw [h10, if_pos hn]
        rfl
      · have := nPh_start (F := F) h2 h3 h6 h9
        rw [h10, if_neg (fun hq => hq hn)]
        exact this
    | cons x q =>
      obtain ⟨n, n1, n2⟩ := ht h7
      have hx := h1 0 (nEn1 x) rfl
      simp only [List.length_cons] at hc
      refine Or.inl ⟨x, h4 x List.mem_cons_self, hx, ⟨n, n1⟩, Or.inr ⟨q, v, r, c, by omega, ?_, h2, h3, fun y hy => h4 y (List.mem_cons_of_mem _ hy), h5, h6, ?_, h8, h9, h10⟩⟩
      · have h1' : nAg C a ([nEn1 x] ++ (nEc q ++ ([-1001, ((c : Nat) : Int)] ++ (nEc v ++ [-1000])))) := h1
        exact nAg_r h1'
      · rw [nSt1_len n1]
        exact n2
theorem nNl_r {w : Int} (h : 0 ≤ w ∧ w ≤ 5) : (nNl w = 110 ∧ w = 0) ∨ (nNl w = 107 ∧ w = 1) ∨ (nNl w = 108 ∧ w = 2) ∨ (nNl w = 112 ∧ w = 3) ∨ (nNl w = 98 ∧ w = 4) ∨ (nNl w = 118 ∧ w = 5) := by
  unfold nNl
  split
  · omega
  split
  · omega
  split
  · omega
  split
  · omega
  split
  · omega
  · omega
theorem nOp_v {c : Int} (h : 1 ≤ nOp c) : c = 42 ∨ c = 47 ∨ c = 37 ∨ c = 43 ∨ c = 45 ∨ c = 60 ∨ c = 61 ∨ c = 62 ∨ c = 38 ∨ c = 124 := by
  unfold nOp at h
  split at h
  · omega
  split at h
  · omega
  split at h
  · omega
  split at h
  · omega
  split at h
  · omega
  · omega
/-- which step a number is -/
theorem nEn_v {x : nSp} (h : nOkS x) : -1002 ≤ nEn1 x ∧ nEn1 x ≤ 9999 ∧ nEn1 x ≠ -1000 ∧ nEn1 x ≠ -1001 ∧ (x.1 = 1 ∧ 0 ≤ nEn1 x ∧ nEn1 x = x.2
    ∨ x.1 = 2 ∧ (0 ≤ x.2 ∧ x.2 ≤ 5) ∧ nEn1 x = -(nNl x.2) ∨ x.1 = 3 ∧ nEn1 x = -33 ∨ x.1 = 4 ∧ nEn1 x = -1002 ∨ 1 ≤ nOp x.1 ∧ nEn1 x = -x.1) := by
  obtain ⟨a, b⟩ := x
  rcases h with ⟨h1, h2⟩ | ⟨h1, h2⟩ | ⟨h1, h2⟩ | ⟨h1, h2⟩ | ⟨h1, h2⟩
  · simp only at h1 h2
    subst h1
    have e : nEn1 (1, b) = b := rfl
    rw [e]
    exact ⟨by omega, by omega, by omega, by omega, Or.inl ⟨rfl, by omega, rfl⟩⟩
  · simp only at h1 h2
    subst h1
    have e : nEn1 (2, b) = -(nNl b) := rfl
    rw [e]
    have := nNl_r h2
    exact ⟨by omega, by omega, by omega, by omega, Or.inr (Or.inl ⟨rfl, h2, rfl⟩)⟩
  · simp only at h1
    subst h1
    have e : nEn1 (3, b) = -33 := rfl
    rw [e]
    exact ⟨by omega, by omega, by omega, by omega, Or.inr (Or.inr (Or.inl ⟨rfl, rfl⟩))⟩
  · simp only at h1
    subst h1
    have e : nEn1 (4, b) = -1002 := rfl
    rw [e]
    exact ⟨by omega, by omega, by omega, by omega, Or.inr (Or.inr (Or.inr (Or.inl ⟨rfl, rfl⟩)))⟩
  · simp only at h1
    have hv := nOp_v h1
    have e : nEn1 (a, b) = -a := by
      unfold nEn1
      rw [if_neg (by show ¬ a = 1; omega), if_neg (by show ¬ a = 2; omega), if_neg (by show ¬ a = 3; omega), if_neg (by show ¬ a = 4; omega)]
    rw [e]
    exact ⟨by omega, by omega, by omega, by omega, Or.inr (Or.inr (Or.inr (Or.inr ⟨h1, rfl⟩)))⟩
end NWRT
