/-! What each pays by a treaty: parts by MEANS, pennies round and round. -/
noncomputable section
/-- all MEANS of so many -/
def tMs (M : Nat → Int) : Nat → Int
  | 0 => 0
  | k + 1 => tMs M k + M k
def tPt (S all m : Int) : Int := if all = 0 then 0 else S * m / all
/-- what is left over behind so many -/
def tLf (S all : Int) (M : Nat → Int) : Nat → Int
  | 0 => S
  | k + 1 => tLf S all M k - tPt S all (M k)
/-- so many pennies round and round: how many come to one -/
def tDl (p t i : Int) : Int := t / p + (if i < t % p then 1 else 0)
def tSh (S : Int) (M : Nat → Int) (p : Nat) (i : Nat) : Int := tPt S (tMs M p) (M i) + tDl p (tLf S (tMs M p) M p) i
theorem tMs_nn {M : Nat → Int} (hM : ∀ i, 0 ≤ M i) : ∀ k, 0 ≤ tMs M k
  | 0 => Int.le_refl _
  | k + 1 => by
    have := tMs_nn hM k
    have := hM k
    show 0 ≤ tMs M k + M k
    omega
theorem tPt_le {S all m : Int} (h : 0 < all) : all * tPt S all m ≤ S * m := by
  unfold tPt
  rw [if_neg (by omega)]
  exact Int.mul_ediv_self_le (by omega)
theorem tPt_nn {S all m : Int} (hS : 0 ≤ S) (hm : 0 ≤ m) (ha : 0 ≤ all) : 0 ≤ tPt S all m := by
  unfold tPt
  split
  · exact Int.le_refl _
  · exact Int.ediv_nonneg (Int.mul_nonneg hS hm) ha
theorem tLf_ge {S all : Int} (h : 0 < all) (M : Nat → Int) : ∀ k, S * (all - tMs M k) ≤ all * tLf S all M k
  | 0 => by
    show S * (all - 0) ≤ all * S
    rw [Int.sub_zero, Int.mul_comm]
    exact Int.le_refl _
  | k + 1 => by
    have ih := tLf_ge (S := S) h M k
    have hp := tPt_le (S := S) (m := M k) h
    show S * (all - (tMs M k + M k)) ≤ all * (tLf S all M k - tPt S all (M k))
    rw [Int.mul_sub] at ih ⊢
    rw [Int.mul_sub, Int.mul_add]
    omega
theorem tLf_0 (S : Int) (M : Nat → Int) : ∀ k, tLf S 0 M k = S
  | 0 => rfl
  | k + 1 => by
    show tLf S 0 M k - tPt S 0 (M k) = S
    rw [tLf_0 S M k]
    unfold tPt
    rw [if_pos rfl]
    omega
theorem tLf_nn {S : Int} {M : Nat → Int} (hS : 0 ≤ S) (hM : ∀ i, 0 ≤ M i) (p : Nat) : 0 ≤ tLf S (tMs M p) M p := by
  by_cases h : tMs M p = 0
  · rw [h, tLf_0]
    exact hS
  · have ha : 0 < tMs M p := by
      have := tMs_nn hM p
      omega
    have q := tLf_ge (S := S) ha M p
    rw [Int.sub_self, Int.mul_zero] at q
    by_cases n : 0 ≤ tLf S (tMs M p) M p
    · exact n
    · have : tMs M p * tLf S (tMs M p) M p < 0 := Int.mul_neg_of_pos_of_neg ha (by omega)
      omega
theorem tLf_le {S all : Int} {M : Nat → Int} (hS : 0 ≤ S) (hM : ∀ i, 0 ≤ M i) (ha : 0 ≤ all) : ∀ k, tLf S all M k ≤ S
  | 0 => Int.le_refl _
  | k + 1 => by
    have ih := tLf_le hS hM ha k
    have := tPt_nn hS (hM k) ha
    show tLf S all M k - tPt S all (M k) ≤ S
    omega
theorem tDm {p t : Int} (hp : 0 < p) (_ : 0 ≤ t) : ((t + 1) / p = t / p ∧ (t + 1) % p = t % p + 1 ∧ t % p + 1 < p) ∨ ((t + 1) / p = t / p + 1 ∧ (t + 1) % p = 0 ∧ t % p + 1 = p) := by
  have h1 := Int.emod_nonneg t (show p ≠ 0 by omega)
  have h2 := Int.emod_lt_of_pos t hp
  have h3 := Int.mul_ediv_add_emod t p
  by_cases c : t % p + 1 < p
  · have q := (Int.ediv_emod_unique (a := t + 1) (b := p) (r := t % p + 1) (q := t / p) hp).mpr ⟨by omega, by omega, c⟩
    exact Or.inl ⟨q.1, q.2, c⟩
  · have q := (Int.ediv_emod_unique (a := t + 1) (b := p) (r := 0) (q := t / p + 1) hp).mpr ⟨by rw [Int.mul_add]; omega, Int.le_refl _, hp⟩
    exact Or.inr ⟨q.1, q.2, by omega⟩
theorem tDl_s {p t i : Int} (hp : 0 < p) (ht : 0 ≤ t) (hi : 0 ≤ i) (hip : i < p) : tDl p (t + 1) i = tDl p t i + (if i = t % p then 1 else 0) := by
  unfold tDl
  have h1 := Int.emod_nonneg t (show p ≠ 0 by omega)
  rcases tDm hp ht with ⟨a, b, c⟩ | ⟨a, b, c⟩
  · rw [a, b]
    by_cases e : i = t % p
    · rw [if_pos e, if_pos (by omega), if_neg (by omega)]
      omega
    · rw [if_neg e]
      by_cases l : i < t % p
      · rw [if_pos l, if_pos (by omega)]
        omega
      · rw [if_neg l, if_neg (by omega)]
        all_goals omega
  · rw [a, b]
    by_cases e : i = t % p
    · rw [if_pos e, if_neg (by omega), if_neg (by omega)]
      all_goals omega
    · rw [if_neg e, if_neg (by omega), if_pos (by omega)]
      all_goals omega
theorem tMod {p t : Int} (hp : 0 < p) (ht : 0 ≤ t) : (t + 1) % p = (t % p + 1) % p := by
  have h1 := Int.emod_nonneg t (show p ≠ 0 by omega)
  rcases tDm hp ht with ⟨-, b, c⟩ | ⟨-, b, c⟩
  · rw [b, Int.emod_eq_of_lt (by omega) c]
  · rw [b, c, Int.emod_self]
theorem tDl_0 {p i : Int} (hi : 0 ≤ i) : tDl p 0 i = 0 := by
  unfold tDl
  rw [Int.zero_ediv, Int.zero_emod, if_neg (by omega)]
  rfl
theorem tMs_le {M : Nat → Int} (hM : ∀ i, 0 ≤ M i) : ∀ (k i : Nat), i < k → M i ≤ tMs M k
  | 0, i, h => by omega
  | k + 1, i, h => by
    show M i ≤ tMs M k + M k
    by_cases e : i = k
    · subst e
      have := tMs_nn hM i
      omega
    · have := tMs_le hM k i (by omega)
      have := hM k
      omega
theorem tPt_leS {S all m : Int} (hS : 0 ≤ S) (hm : 0 ≤ m) (hl : m ≤ all) : tPt S all m ≤ S := by
  unfold tPt
  split
  · exact hS
  · exact Int.ediv_le_of_le_mul (by omega) (Int.mul_le_mul_of_nonneg_left hl hS)
/-- what is left over behind all -/
def tT (S : Int) (M : Nat → Int) (p : Nat) : Int := tLf S (tMs M p) M p
theorem tT_b {S : Int} {M : Nat → Int} (hS : 0 ≤ S) (hM : ∀ i, 0 ≤ M i) (p : Nat) : 0 ≤ tT S M p ∧ tT S M p ≤ S := ⟨tLf_nn hS hM p, tLf_le hS hM (tMs_nn hM p) p⟩
theorem tDl_b {p t i : Int} (hp : 0 < p) (ht : 0 ≤ t) : 0 ≤ tDl p t i ∧ tDl p t i ≤ t + 1 := by
  unfold tDl
  have h1 := Int.ediv_nonneg ht (Int.le_of_lt hp)
  have h2 := Int.ediv_le_self p ht
  split <;> omega
theorem tPD_b {S : Int} {M : Nat → Int} {p i : Nat} {t : Int} (hS : 0 ≤ S) (hS2 : S ≤ 9999) (hM : ∀ i, 0 ≤ M i) (hi : i < p) (ht : 0 ≤ t) (ht2 : t ≤ tT S M p) {z : Int} : 0 ≤ tPt S (tMs M p) (M i) + tDl p t z ∧ tPt S (tMs M p) (M i) + tDl p t z ≤ 20000 := by
  have h1 := tPt_leS hS (hM i) (tMs_le hM p i hi)
  have h2 := tPt_nn hS (hM i) (tMs_nn hM p)
  have h3 := tDl_b (p := (p : Int)) (i := z) (by omega) ht
  have h4 := tT_b hS hM p
  omega
/-- whose part is more than they have, more than an even one: of so many -/
def tRu (S : Int) (M : Nat → Int) (p : Nat) : Nat → Int
  | 0 => 0
  | k + 1 => tRu S M p k + (if M k < tSh S M p k then 1 else 0)
def tRi (S ev : Int) (M : Nat → Int) (p : Nat) : Nat → Int
  | 0 => 0
  | k + 1 => tRi S ev M p k + (if ev < tSh S M p k then 1 else 0)
def tAns (S : Int) (M : Nat → Int) (p o w : Int) : Int := if w = 0 then tSh S M p.toNat o.toNat else if w = 1 then (if tRu S M p.toNat p.toNat = 0 then 1 else 0) else tRi S (sOp 9 S p) M p.toNat p.toNat
/-- MEANS, never below 0 -/
def tM (f : Nat → Int32) (i : Nat) : Int := max 0 (f i).toInt
theorem tM_nn (f : Nat → Int32) (i : Nat) : 0 ≤ tM f i := by
  unfold tM
  omega
theorem tM_eq {f : Nat → Int32} {i : Nat} {z : Int} (h : f i = Int32.ofInt z) (h0 : 0 ≤ z) (h1 : z ≤ 9999) : tM f i = z := by
  unfold tM
  rw [h, sTo32 (by omega) (by omega)]
  omega
/-- treaty, by numbers: of MEANS alone; of MEANS and shares -/
def tPr (M : Nat → Int) (kd : Nat) (zs : List Int) : Prop := match zs with
  | [a, b] => if kd = 135 then 0 ≤ a ∧ b = tMs M a.toNat else False
  | [a, b, c, d] => if kd = 136 then 0 ≤ c ∧ d = tLf a b M c.toNat else if kd = 137 then d = tSh a M b.toNat c.toNat else False
  | [a, b, c, d, e] => if kd = 139 then e = tAns a M b c d else if kd = 142 then 0 ≤ d ∧ e = tPt a (tMs M b.toNat) (M d.toNat) + tDl b (tT a M b.toNat - c) d else if kd = 144 then 0 ≤ c ∧ d = (if tRu a M b.toNat c.toNat = 0 then 1 else 0) ∧ e = tRi a (sOp 9 a b) M b.toNat c.toNat else False
  | [a, b, c, d, e, f] => if kd = 138 then 0 ≤ d ∧ c = sOp 9 a b ∧ e = tRu a M b.toNat d.toNat ∧ f = tRi a c M b.toNat d.toNat else False
  | _ => False
def tSb (M : Nat → Int) (G : Nat → Int32) (S p l i e : Int) : Prop := 1 ≤ p ∧ p ≤ 7 ∧ l ≤ tT S M p.toNat ∧ i = (tT S M p.toNat - l) % p ∧ ∀ q : Nat, (q : Int) < p → (q : Int) ≠ e → G q = Int32.ofInt (tPt S (tMs M p.toNat) (M q) + tDl p (tT S M p.toNat - l) q)
def tGr (M : Nat → Int) (G : Nat → Int32) (kd : Nat) (zs : List Int) : Prop := match zs with
  | [a, b] => if kd = 143 then 1 ≤ b ∧ b ≤ 7 ∧ ∀ q : Nat, (q : Int) < b → G q = Int32.ofInt (tSh a M b.toNat q) else False
  | [a, b, c] => if kd = 140 then ∀ q : Nat, (q : Int) < c → G q = Int32.ofInt (tPt a b (M q)) else False
  | [a, b, c, d, e] => if kd = 141 then tSb M G a b c d e else False
  | _ => False
theorem tRi_cnt {S ev : Int} {M : Nat → Int} {p : Nat} : ∀ k, 0 ≤ tRi S ev M p k
  | 0 => Int.le_refl _
  | k + 1 => by
    have := tRi_cnt (S := S) (ev := ev) (M := M) (p := p) k
    show 0 ≤ tRi S ev M p k + _
    split <;> omega
theorem tRu_nn {S : Int} {M : Nat → Int} {p : Nat} : ∀ k, 0 ≤ tRu S M p k
  | 0 => Int.le_refl _
  | k + 1 => by
    have := tRu_nn (S := S) (M := M) (p := p) k
    show 0 ≤ tRu S M p k + _
    split <;> omega
/-- a penny more -/
theorem tSb_s {M : Nat → Int} {G G' : Nat → Int32} {S p l i o : Int} (hS : 0 ≤ S) (hM : ∀ i, 0 ≤ M i) (h : tSb M G S p (l + 1) i i) (ho : o = tPt S (tMs M p.toNat) (M i.toNat) + tDl p (tT S M p.toNat - (l + 1)) i) (hG : G i.toNat = Int32.ofInt (o + 1)) : tSb M G S p l ((i + 1) % p) (-1) := by
  obtain ⟨h1, h2, h3, h4, h5⟩ := h
  have hi0 := Int.emod_nonneg (tT S M p.toNat - (l + 1)) (show p ≠ 0 by omega)
  have hi1 := Int.emod_lt_of_pos (tT S M p.toNat - (l + 1)) (show 0 < p by omega)
  have ht : 0 ≤ tT S M p.toNat - (l + 1) := by omega
  have e1 : tT S M p.toNat - l = tT S M p.toNat - (l + 1) + 1 := by omega
  refine ⟨h1, h2, by omega, ?_, fun q hq _ => ?_⟩
  · rw [e1, tMod (by omega) ht, ← h4]
  · rw [e1, tDl_s (by omega) ht (by omega) hq]
    by_cases e : (q : Int) = i
    · have eq : q = i.toNat := by omega
      subst eq
      rw [hG, if_pos (by omega), ho, show ((i.toNat : Nat) : Int) = i by omega]
      congr 1
      omega
    · rw [if_neg (by omega), h5 q hq e]
      congr 1
      omega
theorem tSb_0 {M : Nat → Int} {G : Nat → Int32} {S p : Int} (h1 : 1 ≤ p) (h2 : p ≤ 7) (h : ∀ q : Nat, (q : Int) < p → G q = Int32.ofInt (tPt S (tMs M p.toNat) (M q))) : tSb M G S p (tT S M p.toNat) 0 (-1) := by
  refine ⟨h1, h2, Int.le_refl _, ?_, fun q hq _ => ?_⟩
  · rw [Int.sub_self, Int.zero_emod]
  · rw [Int.sub_self, tDl_0 (by omega), h q hq]
    congr 1
    omega
theorem tSb_e {M : Nat → Int} {G : Nat → Int32} {S p i : Int} (h : tSb M G S p 0 i (-1)) : 1 ≤ p ∧ p ≤ 7 ∧ ∀ q : Nat, (q : Int) < p → G q = Int32.ofInt (tSh S M p.toNat q) := by
  obtain ⟨h1, h2, h3, h4, h5⟩ := h
  refine ⟨h1, h2, fun q hq => ?_⟩
  rw [h5 q hq (by omega)]
  unfold tSh
  rw [Int.sub_zero, show ((p.toNat : Nat) : Int) = p by omega]
  rfl
end
