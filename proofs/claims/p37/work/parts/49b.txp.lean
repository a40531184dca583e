/-! The reference's text as steps for a stack: what is told of them. -/
noncomputable section
def kOp (a w : Int) (n : Nat) : Option Nat := if a = 1 then some (n + 1) else if a = 2 then (if 0 ≤ w ∧ w ≤ 5 then some (n + 1) else none) else if a = 3 ∨ a = 4 then (if 1 ≤ n then some n else none) else if 2 ≤ n then some (n - 1) else none
/-- how high the stack is behind so many steps from a place on -/
def kWk (A W : Nat → Int32) (s : Nat) : Nat → Option Nat
  | 0 => some 0
  | m + 1 => match kWk A W s m with
    | some n => kOp (A (s + m)).toInt (W (s + m)).toInt n
    | none => none
def kSg (A W : Nat → Int32) (s e : Nat) : Prop := s ≤ e ∧ ∃ n, kWk A W s (e - s) = some n
/-- so many lines, up to a step -/
def kLn (A W T E : Nat → Int32) (off base : Nat) : Nat → Nat → Prop
  | 0, L => L = 0
  | m + 1, L => ∃ f t, kLn A W T E off base m f ∧ (T (off + m)).toInt = ((t : Nat) : Int) ∧ (E (off + m)).toInt = ((L : Nat) : Int) ∧ f ≤ t ∧ t ≤ L ∧ (t = f ∨ kSg A W (base + f) (base + t)) ∧ kSg A W (base + t) (base + L)
theorem kWk_eq {A W A' W' : Nat → Int32} {s : Nat} : ∀ m : Nat, (∀ x, s ≤ x → x < s + m → A' x = A x ∧ W' x = W x) → kWk A' W' s m = kWk A W s m
  | 0, _ => rfl
  | m + 1, h => by
    have ih := kWk_eq m (fun x h1 h2 => h x h1 (by omega))
    simp only [kWk]
    rw [ih, (h (s + m) (by omega) (by omega)).1, (h (s + m) (by omega) (by omega)).2]
theorem kSg_eq {A W A' W' : Nat → Int32} {s e : Nat} (h : ∀ x, s ≤ x → x < e → A' x = A x ∧ W' x = W x) (q : kSg A W s e) : kSg A' W' s e := by
  obtain ⟨h1, n, h2⟩ := q
  exact ⟨h1, n, by rw [kWk_eq (e - s) (fun x a b => h x a (by omega))]; exact h2⟩
theorem kLn_eq {A W T E A' W' T' E' : Nat → Int32} {off base : Nat} : ∀ (m L : Nat), (∀ x, x < L → A' (base + x) = A (base + x) ∧ W' (base + x) = W (base + x)) → (∀ x, x < m → T' (off + x) = T (off + x) ∧ E' (off + x) = E (off + x)) → kLn A W T E off base m L → kLn A' W' T' E' off base m L
  | 0, _, _, _, h => h
  | m + 1, L, hA, hT, h => by
    obtain ⟨f, t, h1, h2, h3, h4, h5, h6, h7⟩ := h
    have hs : ∀ a b, b ≤ L → ∀ x, base + a ≤ x → x < base + b → A' x = A x ∧ W' x = W x := fun a b hb x hx1 hx2 => by
      have := hA (x - base) (by omega)
      rwa [show base + (x - base) = x by omega] at this
    exact ⟨f, t, kLn_eq m f (fun x hx => hA x (by omega)) (fun x hx => hT x (by omega)) h1, by rw [(hT m (by omega)).1]; exact h2, by rw [(hT m (by omega)).2]; exact h3, h4, h5, h6.imp id (fun q => kSg_eq (hs f t (by omega)) q), kSg_eq (hs t L (by omega)) h7⟩
theorem kLn_le {A W T E : Nat → Int32} {off base : Nat} : ∀ (m L l : Nat), l ≤ m → kLn A W T E off base m L → ∃ f, f ≤ L ∧ kLn A W T E off base l f
  | m, L, l, hl, h => by
    by_cases hlm : l = m
    · subst hlm
      exact ⟨L, Nat.le_refl _, h⟩
    · cases m with
      | zero => omega
      | succ m =>
        obtain ⟨f, t, h1, h2, h3, h4, h5, h6, h7⟩ := h
        obtain ⟨g, g1, g2⟩ := kLn_le m f l (by omega) h1
        exact ⟨g, by omega, g2⟩
theorem kLn_fun {A W T E : Nat → Int32} {off base : Nat} : ∀ (m L L' : Nat), kLn A W T E off base m L → kLn A W T E off base m L' → L = L'
  | 0, _, _, h, h' => h.trans h'.symm
  | m + 1, L, L', h, h' => by
    obtain ⟨f, t, h1, h2, h3, -⟩ := h
    obtain ⟨f', t', h1', h2', h3', -⟩ := h'
    have := h3.symm.trans h3'
    omega
def kAW (A W : Nat → Int32) (H : List eE) : Prop := H[65]? = some (.inl (.byte, 260, .inl A)) ∧ H[66]? = some (.inl (.int, 260, .inl W))
def kTE (T E : Nat → Int32) (H : List eE) : Prop := H[68]? = some (.inl (.short, 122, .inl T)) ∧ H[69]? = some (.inl (.short, 122, .inl E))
def kLM (M : Nat → Int32) (H : List eE) : Prop := H[67]? = some (.inl (.int, 2, .inl M))
/-- from a step on to another one, and how high the stack is there -/
def kPW (s k n : Int) (H : List eE) : Prop := ∃ A W, kAW A W H ∧ ∃ s' m n' : Nat, s = s' ∧ k = ((s' + m : Nat) : Int) ∧ n = n' ∧ kWk A W s' m = some n'
def kSG (s e : Int) (H : List eE) : Prop := ∃ A W, kAW A W H ∧ ∃ s' e' : Nat, s = s' ∧ e = e' ∧ kSg A W s' e'
/-- the new text's lines so far -/
def kLN (m L : Int) (H : List eE) : Prop := ∃ A W T E, kAW A W H ∧ kTE T E H ∧ ∃ m' L' : Nat, m = m' ∧ L = L' ∧ kLn A W T E 61 130 m' L'
/-- the law: its lines -/
def kPG (H : List eE) : Prop := ∃ A W T E M, kAW A W H ∧ kTE T E H ∧ kLM M H ∧ ∃ m L : Nat, (M 0).toInt = m ∧ L ≤ 130 ∧ m ≤ 61 ∧ kLn A W T E 0 0 m L
/-- so many steps are copied, so many lines -/
def kCP (k : Int) (H : List eE) : Prop := ∃ A W, kAW A W H ∧ 0 ≤ k ∧ ∀ x : Nat, (x : Int) < k → A x = A (130 + x) ∧ W x = W (130 + x)
def kCT (k : Int) (H : List eE) : Prop := ∃ T E, kTE T E H ∧ 0 ≤ k ∧ ∀ x : Nat, (x : Int) < k → T x = T (61 + x) ∧ E x = E (61 + x)
/-- where a line of the law begins -/
def kFL (l f : Int) (H : List eE) : Prop := ∃ A W T E, kAW A W H ∧ kTE T E H ∧ ∃ l' f' : Nat, l = l' ∧ f = f' ∧ kLn A W T E 0 0 l' f'
/-- a shelf, as the class and as the reference have it -/
def kSHR (h b so le m si w : Int) : Prop := (h = 0 ∧ m = -1) ∨ (h = 1 ∧ m = b ∧ 0 ≤ b ∧ b < w) ∨ (h = 2 ∧ m = -2 - so ∧ si = le)
/-- the bodies' kinds are the same, but for one place -/
def kEQ (e : Int) (H : List eE) : Prop := ∃ f g : Nat → Int32, H[37]? = some (.inl (.int, 50, .inl f)) ∧ H[80]? = some (.inl (.int, 50, .inl g)) ∧ ∀ i : Nat, i < 50 → (i : Int) ≠ e → f i = g i
/-- whether a kind is another one or under it -/
def kUnd (k u : Int) : Int := if u = 0 ∨ k = u ∨ (u = 1 ∧ k = 4) ∨ (u = 2 ∧ (k = 3 ∨ k = 5)) ∨ (u = 3 ∧ k = 5) ∨ (u = 6 ∧ k = 7) then 1 else 0
def kLg (j n : Nat) (f : Nat → Int64) (H : List eE) : Prop := H[j]? = some (.inl (.long, n, .inr (.inl f)))
/-- a shelf's elements are the same, but for one place -/
def kEL (s : Nat) (e : Int) (H : List eE) : Prop := ∃ f g, kLg (41 + 2 * s) 60 f H ∧ kLg 84 360 g H ∧ ∀ i : Nat, i < 60 → (i : Int) ≠ e → f i = g (60 * s + i)
/-- so many of a shelf's elements are 0; so are those of the reference's from a place on -/
def kZC (s : Nat) (m : Int) (H : List eE) : Prop := ∃ f, kLg (41 + 2 * s) 60 f H ∧ ∀ i : Nat, (i : Int) < m → i < 60 → f i = 0
def kZR (lo m : Int) (H : List eE) : Prop := ∃ g, kLg 84 360 g H ∧ ∀ i : Nat, lo ≤ (i : Int) → (i : Int) < m → g i = 0
/-- the class has copied, the reference not yet -/
def kAC (o : Nat) (off d n : Int) (H : List eE) : Prop := ∃ f g, kLg (41 + 2 * o) 60 f H ∧ kLg 84 360 g H ∧ 0 ≤ off ∧ 0 ≤ d ∧ ∀ t : Nat, t < 60 → f t = if d ≤ (t : Int) ∧ (t : Int) < d + n then g (off + ((t : Int) - d)).toNat else g (60 * o + t)
/-- so many are laid aside -/
def kBF (off m : Int) (H : List eE) : Prop := ∃ g b, kLg 84 360 g H ∧ kLg 85 60 b H ∧ 0 ≤ off ∧ ∀ t : Nat, (t : Int) < m → b t = g (off + (t : Int)).toNat
/-- so many are copied -/
def kL2 (o : Nat) (d m n : Int) (H : List eE) : Prop := ∃ f g b, kLg (41 + 2 * o) 60 f H ∧ kLg 84 360 g H ∧ kLg 85 60 b H ∧ 0 ≤ d ∧ 0 ≤ m ∧ ∀ t : Nat, t < 60 → f t = if d + m ≤ (t : Int) ∧ (t : Int) < d + n then b ((t : Int) - d).toNat else g (60 * o + t)
/-- whether a word may be so; how many come out of a row from a place on -/
def kWok (x y z : Int64) : Bool := decide (0 ≤ x.toInt32.toInt ∧ x.toInt32.toInt ≤ 9) && (decide (0 ≤ y.toInt32.toInt ∧ y.toInt32.toInt ≤ 7) && decide (1 ≤ z.toInt32.toInt ∧ z.toInt32.toInt ≤ 9))
def kWd (f : Nat → Int64) (le : Int) : Nat → Int → Int → Int
  | 0, _, _ => 0
  | n + 1, p, w => if p + 3 ≤ le ∧ w < 16 ∧ kWok (f p.toNat) (f (p + 1).toNat) (f (p + 2).toNat) = true then 1 + kWd f le n (p + 3) (w + 1) else 0
def kWT (s : Nat) (R p n le w : Int) (H : List eE) : Prop := ∃ f, kLg (41 + 2 * s) 60 f H ∧ 0 ≤ p ∧ le ≤ 60 ∧ R = kWd f le n.toNat p w
def kWM (s : Nat) (R p n le w : Int) (H : List eE) : Prop := ∃ g, kLg 84 360 g H ∧ 0 ≤ p ∧ le ≤ 60 ∧ R = kWd (fun i => g (60 * s + i)) le n.toNat p w
/-- all that is told -/
def kUP (RO : List (Nat × (Nat → Int32))) (k : Nat) (zs : List Int) (H : List eE) : Prop :=
  if k = 0 then (∃ z q, zs = [z] ∧ RO[4]? = some q ∧ ((q.1 : Nat) : Int) = z)
  else if k = 1 then (∃ e, zs = [e] ∧ kLog 15 14 16 17 e H)
  else if k = 2 then (∃ e, zs = [e] ∧ kLog 60 61 62 63 e H)
  else if k = 3 then (∃ e, zs = [e] ∧ kShf 15 14 16 17 e H)
  else if k = 4 then (∃ s k n, zs = [s, k, n] ∧ kPW s k n H)
  else if k = 5 then (∃ s e, zs = [s, e] ∧ kSG s e H)
  else if k = 6 then (∃ m L, zs = [m, L] ∧ kLN m L H)
  else if k = 7 then kPG H
  else if k = 8 then (∃ k, zs = [k] ∧ kCP k H)
  else if k = 9 then (∃ k, zs = [k] ∧ kCT k H)
  else if k = 10 then (∃ l f, zs = [l, f] ∧ kFL l f H)
  else if k = 11 then (∃ i v q, zs = [i, v] ∧ RO[4]? = some q ∧ 0 ≤ i ∧ q.2 i.toNat = Int32.ofInt v)
  else if k = 12 then (∃ h b so le m si w, zs = [h, b, so, le, m, si, w] ∧ kSHR h b so le m si w)
  else if k = 13 then (∃ e, zs = [e] ∧ kEQ e H)
  else if k = 20 then (∃ a u r, zs = [a, u, r] ∧ r = kUnd a u)
  else if 14 ≤ k ∧ k < 20 then (∃ e, zs = [e] ∧ kEL (k - 14) e H)
  else if 21 ≤ k ∧ k < 27 then (∃ m, zs = [m] ∧ kZC (k - 21) m H)
  else if k = 27 then (∃ lo m, zs = [lo, m] ∧ kZR lo m H)
  else if 28 ≤ k ∧ k < 34 then (∃ off d n, zs = [off, d, n] ∧ kAC (k - 28) off d n H)
  else if k = 34 then (∃ off m, zs = [off, m] ∧ kBF off m H)
  else if 35 ≤ k ∧ k < 41 then (∃ d m n, zs = [d, m, n] ∧ kL2 (k - 35) d m n H)
  else if 41 ≤ k ∧ k < 47 then (∃ R p n le w, zs = [R, p, n, le, w] ∧ kWT (k - 41) R p n le w H)
  else if 47 ≤ k ∧ k < 53 then (∃ R p n le w, zs = [R, p, n, le, w] ∧ kWM (k - 47) R p n le w H)
  else if 105 ≤ k then pUP k zs
  else False
def kUD (k : Nat) : List Nat :=
  if k = 0 then [] else if k = 1 then [14, 15, 16, 17] else if k = 2 then [60, 61, 62, 63] else if k = 3 then [14, 15, 16, 17] else if k = 4 then [65, 66] else if k = 5 then [65, 66] else if k = 6 then [65, 66, 68, 69] else if k = 7 then [65, 66, 67, 68, 69]
  else if k = 8 then [65, 66] else if k = 9 then [68, 69] else if k = 10 then [65, 66, 68, 69] else if k = 13 then [37, 80] else if 14 ≤ k ∧ k < 20 then [41 + 2 * (k - 14), 84] else if 21 ≤ k ∧ k < 27 then [41 + 2 * (k - 21)] else if k = 27 then [84] else if 28 ≤ k ∧ k < 34 then [41 + 2 * (k - 28), 84] else if k = 34 then [84, 85] else if 35 ≤ k ∧ k < 41 then [41 + 2 * (k - 35), 84, 85] else if 41 ≤ k ∧ k < 47 then [41 + 2 * (k - 41)] else if 47 ≤ k ∧ k < 53 then [84] else []
theorem kLog_fr {cw ci cb ca : Nat} {e : Int} {H H' : List eE} (hw : H'[cw]? = H[cw]?) (hi : H'[ci]? = H[ci]?) (hb : H'[cb]? = H[cb]?) (ha : H'[ca]? = H[ca]?) (h : kLog cw ci cb ca e H) : kLog cw ci cb ca e H' := by
  obtain ⟨fw, fi, fb, fa, q1, q2, q3, q4, q5⟩ := h
  exact ⟨fw, fi, fb, fa, hw.trans q1, hi.trans q2, hb.trans q3, ha.trans q4, q5⟩
theorem kUP_fr (RO : List (Nat × (Nat → Int32))) : ∀ k zs (H H' : List eE), (∀ j ∈ kUD k, H'[j]? = H[j]?) → kUP RO k zs H → kUP RO k zs H' := by
  intro k zs H H' hd h
  unfold kUP at h ⊢
  unfold kUD at hd
  by_cases k0 : k = 0
  · rw [if_pos k0] at h ⊢; exact h
  rw [if_neg k0] at h ⊢ hd
  by_cases k1 : k = 1
  · rw [if_pos k1] at h ⊢ hd
    obtain ⟨e, h1, h2⟩ := h
    exact ⟨e, h1, kLog_fr (hd 15 (by simp)) (hd 14 (by simp)) (hd 16 (by simp)) (hd 17 (by simp)) h2⟩
  rw [if_neg k1] at h ⊢ hd
  by_cases k2 : k = 2
  · rw [if_pos k2] at h ⊢ hd
    obtain ⟨e, h1, h2⟩ := h
    exact ⟨e, h1, kLog_fr (hd 60 (by simp)) (hd 61 (by simp)) (hd 62 (by simp)) (hd 63 (by simp)) h2⟩
  rw [if_neg k2] at h ⊢ hd
  by_cases k3 : k = 3
  · rw [if_pos k3] at h ⊢ hd
    obtain ⟨e, h1, fw, fi, fb, fa, gw, gi, gb, ga, q1, q2, q3, q4, q5⟩ := h
    exact ⟨e, h1, fw, fi, fb, fa, gw, gi, gb, ga, (hd 15 (by simp)).trans q1, (hd 14 (by simp)).trans q2, (hd 16 (by simp)).trans q3, (hd 17 (by simp)).trans q4, q5⟩
  rw [if_neg k3] at h ⊢ hd
  have aw : ∀ {A W : Nat → Int32}, H'[65]? = H[65]? → H'[66]? = H[66]? → kAW A W H → kAW A W H' := fun a b q => ⟨a.trans q.1, b.trans q.2⟩
  have te : ∀ {A W : Nat → Int32}, H'[68]? = H[68]? → H'[69]? = H[69]? → kTE A W H → kTE A W H' := fun a b q => ⟨a.trans q.1, b.trans q.2⟩
  by_cases k4 : k = 4
  · rw [if_pos k4] at h ⊢ hd
    obtain ⟨s, k, n, h1, A, W, h2, h3⟩ := h
    exact ⟨s, k, n, h1, A, W, aw (hd 65 (by simp)) (hd 66 (by simp)) h2, h3⟩
  rw [if_neg k4] at h ⊢ hd
  by_cases k5 : k = 5
  · rw [if_pos k5] at h ⊢ hd
    obtain ⟨s, e, h1, A, W, h2, h3⟩ := h
    exact ⟨s, e, h1, A, W, aw (hd 65 (by simp)) (hd 66 (by simp)) h2, h3⟩
  rw [if_neg k5] at h ⊢ hd
  by_cases k6 : k = 6
  · rw [if_pos k6] at h ⊢ hd
    obtain ⟨m, L, h1, A, W, T, E, h2, h3, h4⟩ := h
    exact ⟨m, L, h1, A, W, T, E, aw (hd 65 (by simp)) (hd 66 (by simp)) h2, te (hd 68 (by simp)) (hd 69 (by simp)) h3, h4⟩
  rw [if_neg k6] at h ⊢ hd
  by_cases k7 : k = 7
  · rw [if_pos k7] at h ⊢ hd
    obtain ⟨A, W, T, E, M, h2, h3, h4, h5⟩ := h
    exact ⟨A, W, T, E, M, aw (hd 65 (by simp)) (hd 66 (by simp)) h2, te (hd 68 (by simp)) (hd 69 (by simp)) h3, (hd 67 (by simp)).trans h4, h5⟩
  rw [if_neg k7] at h ⊢ hd
  by_cases k8 : k = 8
  · rw [if_pos k8] at h ⊢ hd
    obtain ⟨s, h1, A, W, h2, h3⟩ := h
    exact ⟨s, h1, A, W, aw (hd 65 (by simp)) (hd 66 (by simp)) h2, h3⟩
  rw [if_neg k8] at h ⊢ hd
  by_cases k9 : k = 9
  · rw [if_pos k9] at h ⊢ hd
    obtain ⟨s, h1, A, W, h2, h3⟩ := h
    exact ⟨s, h1, A, W, te (hd 68 (by simp)) (hd 69 (by simp)) h2, h3⟩
  rw [if_neg k9] at h ⊢ hd
  by_cases k10 : k = 10
  · rw [if_pos k10] at h ⊢ hd
    obtain ⟨m, L, h1, A, W, T, E, h2, h3, h4⟩ := h
    exact ⟨m, L, h1, A, W, T, E, aw (hd 65 (by simp)) (hd 66 (by simp)) h2, te (hd 68 (by simp)) (hd 69 (by simp)) h3, h4⟩
  rw [if_neg k10] at h ⊢ hd
  by_cases k11 : k = 11
  · rw [if_pos k11] at h ⊢
    exact h
  rw [if_neg k11] at h ⊢
  by_cases k12 : k = 12
  · rw [if_pos k12] at h ⊢
    exact h
  rw [if_neg k12] at h ⊢
  by_cases k13 : k = 13
  · rw [if_pos k13] at h ⊢ hd
    obtain ⟨e, h1, f, g, q1, q2, q3⟩ := h
    exact ⟨e, h1, f, g, (hd 37 (by simp)).trans q1, (hd 80 (by simp)).trans q2, q3⟩
  rw [if_neg k13] at h ⊢ hd
  by_cases k20 : k = 20
  · rw [if_pos k20] at h ⊢
    exact h
  rw [if_neg k20] at h ⊢
  have lg : ∀ {j n : Nat} {f : Nat → Int64}, H'[j]? = H[j]? → kLg j n f H → kLg j n f H' := fun a q => a.trans q
  by_cases k14 : 14 ≤ k ∧ k < 20
  · rw [if_pos k14] at h ⊢ hd
    obtain ⟨e, h1, f, g, q1, q2, q3⟩ := h
    exact ⟨e, h1, f, g, lg (hd _ (by simp)) q1, lg (hd 84 (by simp)) q2, q3⟩
  rw [if_neg k14] at h ⊢ hd
  by_cases k21 : 21 ≤ k ∧ k < 27
  · rw [if_pos k21] at h ⊢ hd
    obtain ⟨m, h1, f, q1, q2⟩ := h
    exact ⟨m, h1, f, lg (hd _ (by simp)) q1, q2⟩
  rw [if_neg k21] at h ⊢ hd
  by_cases k27 : k = 27
  · rw [if_pos k27] at h ⊢ hd
    obtain ⟨lo, m, h1, g, q1, q2⟩ := h
    exact ⟨lo, m, h1, g, lg (hd 84 (by simp)) q1, q2⟩
  rw [if_neg k27] at h ⊢ hd
  by_cases k28 : 28 ≤ k ∧ k < 34
  · rw [if_pos k28] at h ⊢ hd
    obtain ⟨off, d, n, h1, f, g, q1, q2, q3⟩ := h
    exact ⟨off, d, n, h1, f, g, lg (hd _ (by simp)) q1, lg (hd 84 (by simp)) q2, q3⟩
  rw [if_neg k28] at h ⊢ hd
  by_cases k34 : k = 34
  · rw [if_pos k34] at h ⊢ hd
    obtain ⟨off, m, h1, g, b, q1, q2, q3⟩ := h
    exact ⟨off, m, h1, g, b, lg (hd 84 (by simp)) q1, lg (hd 85 (by simp)) q2, q3⟩
  rw [if_neg k34] at h ⊢ hd
  by_cases k35 : 35 ≤ k ∧ k < 41
  · rw [if_pos k35] at h ⊢ hd
    obtain ⟨d, m, n, h1, f, g, b, q1, q2, q3, q4⟩ := h
    exact ⟨d, m, n, h1, f, g, b, lg (hd _ (by simp)) q1, lg (hd 84 (by simp)) q2, lg (hd 85 (by simp)) q3, q4⟩
  rw [if_neg k35] at h ⊢ hd
  by_cases k41 : 41 ≤ k ∧ k < 47
  · rw [if_pos k41] at h ⊢ hd
    obtain ⟨R, p, n, le, w, h1, f, q1, q2⟩ := h
    exact ⟨R, p, n, le, w, h1, f, lg (hd _ (by simp)) q1, q2⟩
  rw [if_neg k41] at h ⊢ hd
  by_cases k47 : 47 ≤ k ∧ k < 53
  · rw [if_pos k47] at h ⊢ hd
    obtain ⟨R, p, n, le, w, h1, f, q1, q2⟩ := h
    exact ⟨R, p, n, le, w, h1, f, lg (hd 84 (by simp)) q1, q2⟩
  rw [if_neg k47] at h ⊢
  by_cases k105 : 105 ≤ k
  · rw [if_pos k105] at h ⊢
    exact h
  rw [if_neg k105] at h
  exact h.elim
theorem kUPp {RO : List (Nat × (Nat → Int32))} {k : Nat} (hk : 105 ≤ k ∧ k < 110) {zs : List Int} {H : List eE} : kUP RO k zs H ↔ pUP k zs := by
  unfold kUP
  rw [if_neg (by omega), if_neg (by omega), if_neg (by omega), if_neg (by omega), if_neg (by omega), if_neg (by omega), if_neg (by omega), if_neg (by omega), if_neg (by omega), if_neg (by omega), if_neg (by omega), if_neg (by omega), if_neg (by omega), if_neg (by omega), if_neg (by omega), if_neg (by omega), if_neg (by omega), if_neg (by omega), if_neg (by omega), if_neg (by omega), if_neg (by omega), if_neg (by omega), if_neg (by omega), if_pos hk.1]
theorem kUP_len (RO : List (Nat × (Nat → Int32))) : kLenOk (kUP RO) RO 4 := by
  intro z H h
  obtain ⟨y, q, h1, h2, h3⟩ : ∃ (y : Int) (q : Nat × (Nat → Int32)), [z] = [y] ∧ RO[4]? = some q ∧ ((q.1 : Nat) : Int) = y := h
  cases h1
  exact ⟨q, h2, h3⟩
theorem kUP_se (RO : List (Nat × (Nat → Int32))) : kSeOk (kUP RO) RO 4 := by
  intro i v H
  constructor
  · intro h
    obtain ⟨a, b, q, h1, h2, h3, h4⟩ : ∃ (a b : Int) (q : Nat × (Nat → Int32)), [i, v] = [a, b] ∧ RO[4]? = some q ∧ 0 ≤ a ∧ q.2 a.toNat = Int32.ofInt b := h
    cases h1
    exact ⟨q, h2, h3, h4⟩
  · rintro ⟨q, h2, h3, h4⟩
    exact ⟨i, v, q, rfl, h2, h3, h4⟩
end
