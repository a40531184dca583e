/-! The reference's text as steps for a stack: what is told of them. -/
noncomputable section
def kOp (a w : Int) (n : Nat) : Option Nat := if a = 1 then some (n + 1) else if a = 2 then (if 0 ≤ w ∧ w ≤ 5 then some (n + 1) else none) else if a = 3 ∨ a = 4 then (if 1 ≤ n then some n else none) else if 2 ≤ n then some (n - 1) else none
/-- how high the stack is behind so many steps from a place on -/
def kWk (A W : Nat → Int32) (s : Nat) : Nat → Option Nat
  | 0 => some 0
  | m + 1 => match kWk A W s m with
    | some n => kOp (A (s + m)).toInt (W (s + m)).toInt n
    | none => none
def kSg (A W : Nat → Int32) (s e : Nat) : Prop := s ≤ e ∧ ∃ n, kWk A W s (e - s) = some n
/-- so many lines, up to a step -/
def kLn (A W T E : Nat → Int32) (off base : Nat) : Nat → Nat → Prop
  | 0, L => L = 0
  | m + 1, L => ∃ f t, kLn A W T E off base m f ∧ (T (off + m)).toInt = ((t : Nat) : Int) ∧ (E (off + m)).toInt = ((L : Nat) : Int) ∧ f ≤ t ∧ t ≤ L ∧ (t = f ∨ kSg A W (base + f) (base + t)) ∧ kSg A W (base + t) (base + L)
theorem kWk_eq {A W A' W' : Nat → Int32} {s : Nat} : ∀ m : Nat, (∀ x, s ≤ x → x < s + m → A' x = A x ∧ W' x = W x) → kWk A' W' s m = kWk A W s m
  | 0, _ => rfl
  | m + 1, h => by
    have ih := kWk_eq m (fun x h1 h2 => h x h1 (by omega))
    simp only [kWk]
    rw [ih, (h (s + m) (by omega) (by omega)).1, (h (s + m) (by omega) (by omega)).2]
theorem kSg_eq {A W A' W' : Nat → Int32} {s e : Nat} (h : ∀ x, s ≤ x → x < e → A' x = A x ∧ W' x = W x) (q : kSg A W s e) : kSg A' W' s e := by
  obtain ⟨h1, n, h2⟩ := q
  exact ⟨h1, n, by rw [kWk_eq (e - s) (fun x a b => h x a (by omega))]; exact h2⟩
theorem kLn_eq {A W T E A' W' T' E' : Nat → Int32} {off base : Nat} : ∀ (m L : Nat), (∀ x, x < L → A' (base + x) = A (base + x) ∧ W' (base + x) = W (base + x)) → (∀ x, x < m → T' (off + x) = T (off + x) ∧ E' (off + x) = E (off + x)) → kLn A W T E off base m L → kLn A' W' T' E' off base m L
  | 0, _, _, _, h => h
  | m + 1, L, hA, hT, h => by
    obtain ⟨f, t, h1, h2, h3, h4, h5, h6, h7⟩ := h
    have hs : ∀ a b, b ≤ L → ∀ x, base + a ≤ x → x < base + b → A' x = A x ∧ W' x = W x := fun a b hb x hx1 hx2 => by
      have := hA (x - base) (by omega)
      rwa [show base + (x - base) = x by omega] at this
    exact ⟨f, t, kLn_eq m f (fun x hx => hA x (by omega)) (fun x hx => hT x (by omega)) h1, by rw [(hT m (by omega)).1]; exact h2, by rw [(hT m (by omega)).2]; exact h3, h4, h5, h6.imp id (fun q => kSg_eq (hs f t (by omega)) q), kSg_eq (hs t L (by omega)) h7⟩
theorem kLn_le {A W T E : Nat → Int32} {off base : Nat} : ∀ (m L l : Nat), l ≤ m → kLn A W T E off base m L → ∃ f, f ≤ L ∧ kLn A W T E off base l f
  | m, L, l, hl, h => by
    by_cases hlm : l = m
    · subst hlm
      exact ⟨L, Nat.le_refl _, h⟩
    · cases m with
      | zero => omega
      | succ m =>
        obtain ⟨f, t, h1, h2, h3, h4, h5, h6, h7⟩ := h
        obtain ⟨g, g1, g2⟩ := kLn_le m f l (by omega) h1
        exact ⟨g, by omega, g2⟩
theorem kLn_fun {A W T E : Nat → Int32} {off base : Nat} : ∀ (m L L' : Nat), kLn A W T E off base m L → kLn A W T E off base m L' → L = L'
  | 0, _, _, h, h' => h.trans h'.symm
  | m + 1, L, L', h, h' => by
    obtain ⟨f, t, h1, h2, h3, -⟩ := h
    obtain ⟨f', t', h1', h2', h3', -⟩ := h'
    have := h3.symm.trans h3'
    omega
def kAW (A W : Nat → Int32) (H : List eE) : Prop := H[65]? = some (.inl (.byte, 260, .inl A)) ∧ H[66]? = some (.inl (.int, 260, .inl W))
def kTE (T E : Nat → Int32) (H : List eE) : Prop := H[68]? = some (.inl (.short, 122, .inl T)) ∧ H[69]? = some (.inl (.short, 122, .inl E))
def kLM (M : Nat → Int32) (H : List eE) : Prop := H[67]? = some (.inl (.int, 2, .inl M))
/-- from a step on to another one, and how high the stack is there -/
def kPW (s k n : Int) (H : List eE) : Prop := ∃ A W, kAW A W H ∧ ∃ s' m n' : Nat, s = s' ∧ k = ((s' + m : Nat) : Int) ∧ n = n' ∧ kWk A W s' m = some n'
def kSG (s e : Int) (H : List eE) : Prop := ∃ A W, kAW A W H ∧ ∃ s' e' : Nat, s = s' ∧ e = e' ∧ kSg A W s' e'
/-- the new text's lines so far -/
def kLN (m L : Int) (H : List eE) : Prop := ∃ A W T E, kAW A W H ∧ kTE T E H ∧ ∃ m' L' : Nat, m = m' ∧ L = L' ∧ kLn A W T E 61 130 m' L'
/-- the law: its lines -/
def kPG (H : List eE) : Prop := ∃ A W T E M, kAW A W H ∧ kTE T E H ∧ kLM M H ∧ ∃ m L : Nat, (M 0).toInt = m ∧ L ≤ 130 ∧ m ≤ 61 ∧ kLn A W T E 0 0 m L
/-- so many steps are copied, so many lines -/
def kCP (k : Int) (H : List eE) : Prop := ∃ A W, kAW A W H ∧ 0 ≤ k ∧ ∀ x : Nat, (x : Int) < k → A x = A (130 + x) ∧ W x = W (130 + x)
def kCT (k : Int) (H : List eE) : Prop := ∃ T E, kTE T E H ∧ 0 ≤ k ∧ ∀ x : Nat, (x : Int) < k → T x = T (61 + x) ∧ E x = E (61 + x)
/-- where a line of the law begins -/
def kFL (l f : Int) (H : List eE) : Prop := ∃ A W T E, kAW A W H ∧ kTE T E H ∧ ∃ l' f' : Nat, l = l' ∧ f = f' ∧ kLn A W T E 0 0 l' f'
/-- a shelf, as the class and as the reference have it -/
def kSHR (h b so le m si w : Int) : Prop := (h = 0 ∧ m = -1) ∨ (h = 1 ∧ m = b ∧ 0 ≤ b ∧ b < w) ∨ (h = 2 ∧ m = -2 - so ∧ si = le)
/-- the bodies' kinds are the same, but for one place -/
def kEQ (e : Int) (H : List eE) : Prop := ∃ f g : Nat → Int32, H[37]? = some (.inl (.int, 50, .inl f)) ∧ H[80]? = some (.inl (.int, 50, .inl g)) ∧ ∀ i : Nat, i < 50 → (i : Int) ≠ e → f i = g i
/-- whether a kind is another one or under it -/
def kUnd (k u : Int) : Int := if u = 0 ∨ k = u ∨ (u = 1 ∧ k = 4) ∨ (u = 2 ∧ (k = 3 ∨ k = 5)) ∨ (u = 3 ∧ k = 5) ∨ (u = 6 ∧ k = 7) then 1 else 0
def kLg (j n : Nat) (f : Nat → Int64) (H : List eE) : Prop := H[j]? = some (.inl (.long, n, .inr (.inl f)))
/-- a shelf's elements are the same, but for one place -/
def kEL (s : Nat) (e : Int) (H : List eE) : Prop := ∃ f g, kLg (41 + 2 * s) 60 f H ∧ kLg 84 360 g H ∧ ∀ i : Nat, i < 60 → (i : Int) ≠ e → f i = g (60 * s + i)
/-- so many of a shelf's elements are 0; so are those of the reference's from a place on -/
def kZC (s : Nat) (m : Int) (H : List eE) : Prop := ∃ f, kLg (41 + 2 * s) 60 f H ∧ ∀ i : Nat, (i : Int) < m → i < 60 → f i = 0
def kZR (lo m : Int) (H : List eE) : Prop := ∃ g, kLg 84 360 g H ∧ ∀ i : Nat, lo ≤ (i : Int) → (i : Int) < m → g i = 0
/-- the class has copied, the reference not yet -/
def kAC (o : Nat) (off d n : Int) (H : List eE) : Prop := ∃ f g, kLg (41 + 2 * o) 60 f H ∧ kLg 84 360 g H ∧ 0 ≤ off ∧ 0 ≤ d ∧ ∀ t : Nat, t < 60 → f t = if d ≤ (t : Int) ∧ (t : Int) < d + n then g (off + ((t : Int) - d)).toNat else g (60 * o + t)
/-- so many are laid aside -/
def kBF (off m : Int) (H : List eE) : Prop := ∃ g b, kLg 84 360 g H ∧ kLg 85 60 b H ∧ 0 ≤ off ∧ ∀ t : Nat, (t : Int) < m → b t = g (off + (t : Int)).toNat
/-- so many are copied -/
def kL2 (o : Nat) (d m n : Int) (H : List eE) : Prop := ∃ f g b, kLg (41 + 2 * o) 60 f H ∧ kLg 84 360 g H ∧ kLg 85 60 b H ∧ 0 ≤ d ∧ 0 ≤ m ∧ ∀ t : Nat, t < 60 → f t = if d + m ≤ (t : Int) ∧ (t : Int) < d + n then b ((t : Int) - d).toNat else g (60 * o + t)
/-- whether a word may be so; how many come out of a row from a place on -/
def kWok (x y z : Int64) : Bool := decide (0 ≤ x.toInt32.toInt ∧ x.toInt32.toInt ≤ 9) && (decide (0 ≤ y.toInt32.toInt ∧ y.toInt32.toInt ≤ 7) && decide (1 ≤ z.toInt32.toInt ∧ z.toInt32.toInt ≤ 9))
def kWd (f : Nat → Int64) (le : Int) : Nat → Int → Int → Int
  | 0, _, _ => 0
  | n + 1, p, w => if p + 3 ≤ le ∧ w < 16 ∧ kWok (f p.toNat) (f (p + 1).toNat) (f (p + 2).toNat) = true then 1 + kWd f le n (p + 3) (w + 1) else 0
def kWT (s : Nat) (R p n le w : Int) (H : List eE) : Prop := ∃ f, kLg (41 + 2 * s) 60 f H ∧ 0 ≤ p ∧ le ≤ 60 ∧ R = kWd f le n.toNat p w
def kWM (s : Nat) (R p n le w : Int) (H : List eE) : Prop := ∃ g, kLg 84 360 g H ∧ 0 ≤ p ∧ le ≤ 60 ∧ R = kWd (fun i => g (60 * s + i)) le n.toNat p w
end
