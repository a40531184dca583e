/-! What both readers lay. -/
noncomputable section
def nNl (w : Int) : Int := if w = 0 then 110 else if w = 1 then 107 else if w = 2 then 108 else if w = 3 then 112 else if w = 4 then 98 else 118
/-- the class' number of a step -/
def nEn1 (x : nSp) : Int := if x.1 = 1 then x.2 else if x.1 = 2 then -(nNl x.2) else if x.1 = 3 then -33 else if x.1 = 4 then -1002 else -x.1
def nOkL (l : nLi) : Prop := (∀ x ∈ l.1.getD [], nOkS x) ∧ ∀ x ∈ l.2, nOkS x
def nOkE (e : nEs) : Prop := (∀ l ∈ e.1, nOkL l) ∧ (∀ x ∈ e.2.1.getD [], nOkS x) ∧ ∀ x ∈ e.2.2, nOkS x
theorem nS_ok {L : Int → Int} {len : Int} {s s' : nSt} (h : nS L len s = .inl s') (hs : nOkE s.2.2.2.1) : nOkE s'.2.2.2.1 := by
  obtain ⟨md, o, a, e, κ⟩ := s
  obtain ⟨md', o', a', e', κ'⟩ := s'
  obtain ⟨h1, h2, h3⟩ := hs
  simp only at h1 h2 h3
  have app : ∀ {t0 : Option (List nSp)}, (∀ x ∈ t0.getD [], nOkS x) → nOkE (e.1 ++ [((t0, e.2.2) : nLi)], none, []) := fun {t0} ht => ⟨fun l hl => by
    rcases List.mem_append.mp hl with hl | hl
    · exact h1 l hl
    · rw [List.mem_singleton.mp hl]
      exact ⟨ht, h3⟩, fun x hx => (by cases hx), fun x hx => (by cases hx)⟩
  rcases nS_cases h with ⟨rfl, -⟩ | ⟨x, ox, rfl, -⟩ | ⟨-, -, rfl⟩ | ⟨-, -, rfl⟩ | ⟨-, -, rfl⟩
  · exact ⟨h1, h2, h3⟩
  · exact ⟨h1, h2, fun y hy => by
      rcases List.mem_append.mp hy with hy | hy
      · exact h3 y hy
      · rw [List.mem_singleton.mp hy]
        exact ox⟩
  · exact ⟨h1, fun x hx => h3 x hx, fun x hx => (by cases hx)⟩
  · exact app (fun x hx => by cases hx)
  · exact app h2
theorem nIt_ok {L : Int → Int} {len : Int} : ∀ (n : Nat) {s : nSt}, nIt L len n = .inl s → nOkE s.2.2.2.1
  | 0, s, h => by
    cases h
    exact ⟨fun l hl => (by cases hl), fun x hx => (by cases hx), fun x hx => (by cases hx)⟩
  | n + 1, s, h => by
    simp only [nIt] at h
    split at h
    · rename_i s0 hs
      exact nS_ok h (nIt_ok n hs)
    · cases h
theorem nIt_okl {L : Int → Int} {len : Int} : ∀ (n : Nat) {d : List nLi}, nIt L len n = .inr (.inr d) → ∀ l ∈ d, nOkL l
  | 0, d, h => by cases h
  | n + 1, d, h => by
    simp only [nIt] at h
    split at h
    · rename_i s0 hs
      have hi := nIt_ok n hs
      obtain ⟨md, o, a, e, κ⟩ := s0
      cases nS_end h
      exact hi.1
    · rename_i e0 hs
      cases h
      exact nIt_okl n hs
/-- the class' numbers -/
def nEc (q : List nSp) : List Int := q.map nEn1
def nLl (l : nLi) : Nat := match l.1 with
  | none => l.2.length + 1
  | some t => t.length + l.2.length + 3
def nLc (c : Nat) (l : nLi) : List Int := match l.1 with
  | none => nEc l.2 ++ [-1000]
  | some t => nEc t ++ ([-1001, ((c + t.length + l.2.length + 3 : Nat) : Int)] ++ (nEc l.2 ++ [-1000]))
def nCl : Nat → List nLi → List Int
  | _, [] => []
  | c, l :: r => nLc c l ++ nCl (c + nLl l) r
theorem nLc_len (c : Nat) (l : nLi) : (nLc c l).length = nLl l := by
  unfold nLc nLl nEc
  split <;> simp <;> omega
theorem nCl_app : ∀ (d : List nLi) (c : Nat) (l : nLi), nCl c (d ++ [l]) = nCl c d ++ nLc (c + (nCl c d).length) l
  | [], c, l => by simp [nCl]
  | x :: r, c, l => by
    simp only [List.cons_append, nCl]
    rw [nCl_app r (c + nLl x) l, List.append_assoc, List.length_append, nLc_len, Nat.add_assoc]
/-- what is laid so far -/
def nPt (e : nEs) : List Int := nCl 0 e.1 ++ (match e.2.1 with
  | none => nEc e.2.2
  | some t => nEc t ++ ([-1001, 0] ++ nEc e.2.2))
def nPc (md : Int) (e : nEs) : List Int := if md = 24 then nPt e ++ [-1000] else nPt e
/-- where a line's second part is to be told, or -1 -/
def nPn (e : nEs) : Int := match e.2.1 with
  | none => -1
  | some t => (((nCl 0 e.1).length + t.length + 1 : Nat) : Int)
theorem nPt_ad (e : nEs) (x : nSp) : nPt (nAd e x) = nPt e ++ [nEn1 x] := by
  obtain ⟨d, t, c⟩ := e
  unfold nPt nAd nEc
  cases t <;> simp
theorem nPn_ad (e : nEs) (x : nSp) : nPn (nAd e x) = nPn e := rfl
def nAg (C : Nat → Int32) (b : Nat) (q : List Int) : Prop := ∀ (i : Nat) (v : Int), q[i]? = some v → C (b + i) = Int32.ofInt v
theorem nAg_app {C : Nat → Int32} {b : Nat} {p q : List Int} (h : nAg C b p) (g : nAg C (b + p.length) q) : nAg C b (p ++ q) := fun i v hi => by
  by_cases hl : i < p.length
  · rw [List.getElem?_append_left hl] at hi
    exact h i v hi
  · rw [List.getElem?_append_right (by omega)] at hi
    have := g (i - p.length) v hi
    rwa [show b + p.length + (i - p.length) = b + i by omega] at this
theorem nAg_one {C : Nat → Int32} {b : Nat} {v : Int} (h : C b = Int32.ofInt v) : nAg C b [v] := fun i w hi => by
  cases i with
  | zero => cases hi; exact h
  | succ i => simp at hi
theorem nAg_l {C : Nat → Int32} {b : Nat} {p q : List Int} (h : nAg C b (p ++ q)) : nAg C b p := fun i v hi => h i v (by
  rw [List.getElem?_append_left (List.getElem?_eq_some_iff.mp hi).1]
  exact hi)
theorem nAg_r {C : Nat → Int32} {b : Nat} {p q : List Int} (h : nAg C b (p ++ q)) : nAg C (b + p.length) q := fun i v hi => by
  have := h (p.length + i) v (by rw [List.getElem?_append_right (by omega)]; simpa using hi)
  rwa [← Nat.add_assoc] at this
theorem nAg_eq {C C' : Nat → Int32} {b : Nat} {q : List Int} (h : ∀ i, b ≤ i → i < b + q.length → C' i = C i) (g : nAg C b q) : nAg C' b q := fun i v hi => by
  rw [h (b + i) (by omega) (by have := (List.getElem?_eq_some_iff.mp hi).1; omega)]
  exact g i v hi
/-- the reference's steps and lines -/
def nAl (d : List nLi) : List nSp := d.flatMap (fun l => l.1.getD [] ++ l.2)
def nAs (e : nEs) : List nSp := nAl e.1 ++ (e.2.1.getD [] ++ e.2.2)
def nLv : Nat → List nLi → List (Int × Int)
  | _, [] => []
  | f, l :: r => (((f + (l.1.getD []).length : Nat) : Int), ((f + (l.1.getD []).length + l.2.length : Nat) : Int)) :: nLv (f + (l.1.getD []).length + l.2.length) r
theorem nAl_app (d : List nLi) (l : nLi) : nAl (d ++ [l]) = nAl d ++ (l.1.getD [] ++ l.2) := by
  unfold nAl
  rw [List.flatMap_append]
  simp
theorem nLv_app : ∀ (d : List nLi) (f : Nat) (l : nLi), nLv f (d ++ [l]) = nLv f d ++ [(((f + (nAl d).length + (l.1.getD []).length : Nat) : Int), ((f + (nAl d).length + (l.1.getD []).length + l.2.length : Nat) : Int))]
  | [], f, l => by simp [nLv, nAl]
  | x :: r, f, l => by
    simp only [List.cons_append, nLv]
    rw [nLv_app r _ l]
    have e : (nAl (x :: r)).length = (x.1.getD []).length + x.2.length + (nAl r).length := by
      simp only [nAl, List.flatMap_cons, List.length_append]
    rw [e, show f + (x.1.getD []).length + x.2.length + (nAl r).length = f + ((x.1.getD []).length + x.2.length + (nAl r).length) by omega]
theorem nLv_len : ∀ (d : List nLi) (f : Nat), (nLv f d).length = d.length
  | [], _ => rfl
  | x :: r, f => congrArg Nat.succ (nLv_len r _)
theorem nAs_ad (e : nEs) (x : nSp) : nAs (nAd e x) = nAs e ++ [x] := by
  obtain ⟨d, t, c⟩ := e
  simp [nAs, nAd]
/-- two rows hold a list of pairs from a place on -/
def nAg2 (A W : Nat → Int32) (b : Nat) (q : List (Int × Int)) : Prop := ∀ (i : Nat) (x : Int × Int), q[i]? = some x → A (b + i) = Int32.ofInt x.1 ∧ W (b + i) = Int32.ofInt x.2
theorem nAg2_app {A W : Nat → Int32} {b : Nat} {p q : List (Int × Int)} (h : nAg2 A W b p) (g : nAg2 A W (b + p.length) q) : nAg2 A W b (p ++ q) := fun i v hi => by
  by_cases hl : i < p.length
  · rw [List.getElem?_append_left hl] at hi
    exact h i v hi
  · rw [List.getElem?_append_right (by omega)] at hi
    have := g (i - p.length) v hi
    rwa [show b + p.length + (i - p.length) = b + i by omega] at this
theorem nAg2_one {A W : Nat → Int32} {b : Nat} {x : Int × Int} (h : A b = Int32.ofInt x.1) (g : W b = Int32.ofInt x.2) : nAg2 A W b [x] := fun i w hi => by
  cases i with
  | zero => cases hi; exact ⟨h, g⟩
  | succ i => simp at hi
theorem nAg2_eq {A W A' W' : Nat → Int32} {b : Nat} {q : List (Int × Int)} (h : ∀ i, b ≤ i → i < b + q.length → A' i = A i ∧ W' i = W i) (g : nAg2 A W b q) : nAg2 A' W' b q := fun i v hi => by
  have e := h (b + i) (by omega) (by have := (List.getElem?_eq_some_iff.mp hi).1; omega)
  rw [e.1, e.2]
  exact g i v hi
def nPm (e : nEs) : Int := match e.2.1 with
  | none => -1
  | some t => (((nAl e.1).length + t.length : Nat) : Int)
/-- the letters of the tape, the class' and the reference's -/
def nLx (B : Nat → Int32) (len i : Int) : Int := if 0 ≤ i ∧ i < len then (B i.toNat).toInt8.toInt else -1
def nLm (B : Nat → Int32) (len i : Int) : Int := if 0 ≤ i ∧ i < len then (B i.toNat).toInt else -1
/-- the tape, the letters: by side -/
def nTp (d : Nat) (B : Nat → Int32) (H : List eE) : Prop := if d = 0 then H[19]? = some (.inl (.int, 120, .inl B)) else H[64]? = some (.inl (.byte, 120, .inl B))
def nLt (d : Nat) (B : Nat → Int32) (len : Int) : Int → Int := if d = 0 then nLx B len else nLm B len
/-- what is laid, in the heap: by side -/
def nLd (d : Nat) (md : Int) (e : nEs) (r : List Int) (H : List eE) : Prop :=
  if d = 0 then ∃ C z t, r = [z, t] ∧ H[20]? = some (.inl (.int, 256, .inl C)) ∧ nAg C 0 (nPc md e) ∧ z = ((nPc md e).length : Int) ∧ t = nPn e
  else ∃ A W T E l m f t, r = [l, m, f, t] ∧ kAW A W H ∧ kTE T E H ∧ nAg2 A W 130 (nAs e) ∧ l = ((nAs e).length : Int) ∧ nAg2 T E 61 (nLv 0 e.1) ∧ m = (e.1.length : Int) ∧ f = ((nAl e.1).length : Int) ∧ t = nPm e
theorem nLd_0 {md : Int} {e : nEs} {r : List Int} {H : List eE} : nLd 0 md e r H ↔ (∃ C z t, r = [z, t] ∧ H[20]? = some (.inl (.int, 256, .inl C)) ∧ nAg C 0 (nPc md e) ∧ z = ((nPc md e).length : Int) ∧ t = nPn e) := by
  unfold nLd
  rw [if_pos rfl]
theorem nLd_1 {md : Int} {e : nEs} {r : List Int} {H : List eE} : nLd 1 md e r H ↔ (∃ A W T E l m f t, r = [l, m, f, t] ∧ kAW A W H ∧ kTE T E H ∧ nAg2 A W 130 (nAs e) ∧ l = ((nAs e).length : Int) ∧ nAg2 T E 61 (nLv 0 e.1) ∧ m = (e.1.length : Int) ∧ f = ((nAl e.1).length : Int) ∧ t = nPm e) := by
  unfold nLd
  rw [if_neg (by decide)]
/-- the reader is so far -/
def nG (d : Nat) (zs : List Int) (H : List eE) : Prop := ∃ ln md o a k r B n e, zs = ln :: md :: o :: a :: k :: r ∧ nTp d B H ∧ 0 ≤ k ∧ nIt (nLt d B ln) ln n = .inl (md, o, a, e, nK (nLt d B ln) ln k.toNat) ∧ nLd d md e r H
/-- a number of what is to be done, what is on top of it, what lies below -/
def nU (d : Nat) (zs : List Int) (H : List eE) : Prop := ∃ ln k t o k2 B, zs = [ln, k, t, o, k2] ∧ nTp d B H ∧ 0 ≤ k2 ∧ nK (nLt d B ln) ln k.toNat = (t, o) :: nK (nLt d B ln) ln k2.toNat
/-- the reader finds a fault -/
def nF (d : Nat) (zs : List Int) (H : List eE) : Prop := ∃ ln f B n, zs = [ln, f] ∧ nTp d B H ∧ nIt (nLt d B ln) ln n = .inr (.inl f)
/-- the class' reader has laid all; the reference's -/
def nOX (ln z : Int) (H : List eE) : Prop := ∃ B C n d, nTp 0 B H ∧ H[20]? = some (.inl (.int, 256, .inl C)) ∧ nIt (nLt 0 B ln) ln n = .inr (.inr d) ∧ nAg C 0 (nCl 0 d) ∧ z = ((nCl 0 d).length : Int)
def nOM (ln l m : Int) (H : List eE) : Prop := ∃ B A W T E n d, nTp 1 B H ∧ kAW A W H ∧ kTE T E H ∧ nIt (nLt 1 B ln) ln n = .inr (.inr d) ∧ nAg2 A W 130 (nAl d) ∧ l = ((nAl d).length : Int) ∧ nAg2 T E 61 (nLv 0 d) ∧ m = (d.length : Int)
/-- the reference's law is what the reader laid -/
def nRM (ln : Int) (H : List eE) : Prop := ∃ B A W T E M n d, nTp 1 B H ∧ kAW A W H ∧ kTE T E H ∧ kLM M H ∧ nIt (nLt 1 B ln) ln n = .inr (.inr d) ∧ nAg2 A W 0 (nAl d) ∧ nAg2 T E 0 (nLv 0 d) ∧ (M 0).toInt = (d.length : Int) ∧ (nAl d).length ≤ 130 ∧ d.length ≤ 61
/-- the class' law is what its reader laid -/
def nRL (ln N : Int) (H : List eE) : Prop := ∃ B C n d, nTp 0 B H ∧ H[22]? = some (.inl (.int, 256, .inl C)) ∧ nIt (nLt 0 B ln) ln n = .inr (.inr d) ∧ nAg C 0 (nCl 0 d ++ [0, -1000]) ∧ N = ((nCl 0 d).length + 2 : Int)
/-- the two tapes are alike -/
def nTQ (n : Int) (H : List eE) : Prop := ∃ B T, nTp 0 B H ∧ nTp 1 T H ∧ ∀ i : Nat, (i : Int) < n → (T i).toInt = (B i).toInt8.toInt
/-- how high the stack stands behind steps -/
def nHt (h : Nat) : List nSp → Option Nat
  | [] => some h
  | x :: r => match kOp x.1 x.2 h with
    | some n => nHt n r
    | none => none
def nHl (l : nLi) : Prop := nHt 0 l.2 = some 1 ∧ ∀ t, l.1 = some t → nHt 0 t = some 1
/-- the two laws are alike -/
def nLaw (d : List nLi) (H : List eE) : Prop := ∃ A W T E M, kAW A W H ∧ kTE T E H ∧ kLM M H ∧ nAg2 A W 0 (nAl d) ∧ nAg2 T E 0 (nLv 0 d) ∧ (M 0).toInt = (d.length : Int) ∧ ((nAl d).length ≤ 130 ∧ d.length ≤ 61) ∧ (∀ l ∈ d, nOkL l) ∧ (∀ l ∈ d, ∀ t, l.1 = some t → t ≠ []) ∧ ∀ l ∈ d, nHl l
def nLW (size hl : Int) (H : List eE) : Prop := (∃ C, H[22]? = some (.inl (.int, 256, .inl C)) ∧ ∃ A W T E M, kAW A W H ∧ kTE T E H ∧ kLM M H ∧ ((hl = 0 ∧ size = 0) ∨ (hl = 1 ∧ ∃ d, nLaw d H ∧ nAg C 0 (nCl 0 d ++ [0, -1000]) ∧ size = ((nCl 0 d).length + 2 : Int)))) ∨ 2 ≤ hl
end
