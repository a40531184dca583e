/-! S: runs with unknown numbers. A number is a linear form over named unknowns, with bounds and facts about them. -/
noncomputable section
/-- a place of a list, for the kernel: by eights, so that what is looked up of one list shares its way -/
def sTl {α : Type} (l : List α) : List α := @List.rec α (fun _ => List α) [] (fun _ t _ => t) l
def sT8 {α : Type} (l : List α) : List α := sTl (sTl (sTl (sTl (sTl (sTl (sTl (sTl l)))))))
def sDg {α : Type} (l : List α) (q : Nat) : List α := @Nat.rec (fun _ => List α) l (fun _ ih => sT8 ih) q
def sAt0 {α : Type} (l : List α) : Nat → Option α := @List.rec α (fun _ => Nat → Option α) (fun _ => none) (fun b _ ih i => @Nat.rec (fun _ => Option α) (some b) (fun j _ => ih j) i) l
def sAt {α : Type} (l : List α) (i : Nat) : Option α := sAt0 (sDg l (Nat.div i 8)) (Nat.mod i 8)
theorem sT8_eq {α : Type} : ∀ l : List α, sT8 l = l.drop 8
  | [] => rfl
  | [_] => rfl
  | [_, _] => rfl
  | [_, _, _] => rfl
  | [_, _, _, _] => rfl
  | [_, _, _, _, _] => rfl
  | [_, _, _, _, _, _] => rfl
  | [_, _, _, _, _, _, _] => rfl
  | _ :: _ :: _ :: _ :: _ :: _ :: _ :: _ :: _ => rfl
theorem sDg_eq {α : Type} (l : List α) : ∀ q : Nat, sDg l q = l.drop (8 * q)
  | 0 => rfl
  | q + 1 => by
    show sT8 (sDg l q) = _
    rw [sT8_eq, sDg_eq l q, List.drop_drop]
    exact congrArg (l.drop ·) (by omega)
theorem sAt0_eq {α : Type} : ∀ (l : List α) (i : Nat), sAt0 l i = l[i]?
  | [], _ => rfl
  | _ :: _, 0 => rfl
  | _ :: r, i + 1 => (sAt0_eq r i).trans List.getElem?_cons_succ.symm
theorem sAt_eq {α : Type} (l : List α) (i : Nat) : sAt l i = l[i]? := by
  unfold sAt
  rw [sAt0_eq, sDg_eq, List.getElem?_drop]
  exact congrArg (l[·]?) (Nat.div_add_mod i 8)
def sHd {α : Type} (d : α) (l : List α) : α := @List.rec α (fun _ => α) d (fun b _ _ => b) l
def sSet0 {α : Type} (l : List α) : Nat → α → List α := @List.rec α (fun _ => Nat → α → List α) (fun _ _ => []) (fun b r ih i x => @Nat.rec (fun _ => List α) (x :: r) (fun j _ => b :: ih j x) i) l
/-- the first eight as they are, the rest by f; of fewer, all as they are -/
def sK8 {α : Type} (x : α) (f : List α → List α) (l : List α) : List α := @List.rec α (fun _ => List α) l (fun b t _ => sHd x l :: sHd x (sTl l) :: sHd x (sTl (sTl l)) :: sHd x (sTl (sTl (sTl l))) :: sHd x (sTl (sTl (sTl (sTl l)))) :: sHd x (sTl (sTl (sTl (sTl (sTl l))))) :: sHd x (sTl (sTl (sTl (sTl (sTl (sTl l)))))) :: b :: f t) (sTl (sTl (sTl (sTl (sTl (sTl (sTl l)))))))
def sSet {α : Type} (l : List α) (i : Nat) (x : α) : List α := @Nat.rec (fun _ => List α → List α) (fun l => sSet0 l (Nat.mod i 8) x) (fun _ ih l => sK8 x ih l) (Nat.div i 8) l
theorem sSet0_eq {α : Type} : ∀ (l : List α) (i : Nat) (x : α), sSet0 l i x = l.set i x
  | [], _, _ => rfl
  | _ :: _, 0, _ => rfl
  | b :: r, i + 1, x => congrArg (b :: ·) (sSet0_eq r i x)
theorem sK8_eq {α : Type} {x : α} {f : List α → List α} {k : Nat} (hf : ∀ l, f l = l.set k x) : ∀ l : List α, sK8 x f l = l.set (k + 8) x
  | [] => rfl
  | [_] => rfl
  | [_, _] => rfl
  | [_, _, _] => rfl
  | [_, _, _, _] => rfl
  | [_, _, _, _, _] => rfl
  | [_, _, _, _, _, _] => rfl
  | [_, _, _, _, _, _, _] => rfl
  | a :: b :: c :: d :: e :: g :: h :: i :: r => by
    show a :: b :: c :: d :: e :: g :: h :: i :: f r = _
    rw [hf r]
    rfl
theorem sSet_eq {α : Type} (l : List α) (i : Nat) (x : α) : sSet l i x = l.set i x := by
  have key : ∀ (q : Nat) (l : List α), @Nat.rec (fun _ => List α → List α) (fun l => sSet0 l (Nat.mod i 8) x) (fun _ ih l => sK8 x ih l) q l = l.set (i % 8 + 8 * q) x := by
    intro q
    induction q with
    | zero => exact fun l => sSet0_eq l (i % 8) x
    | succ q ih =>
      intro l
      show sK8 x _ l = _
      rw [sK8_eq ih l]
      exact congrArg (l.set · x) (by omega)
  unfold sSet
  rw [key]
  exact congrArg (l.set · x) (Nat.mod_add_div i 8)
/-- whether one of a list is so, the first that is so: for the kernel -/
def sAny {α : Type} (p : α → Bool) (l : List α) : Bool := @List.rec α (fun _ => Bool) false (fun x _ ih => @Bool.rec (fun _ => Bool) ih true (p x)) l
theorem sAny_ex {α : Type} {p : α → Bool} : ∀ {l : List α}, sAny p l = true → ∃ x, x ∈ l ∧ p x = true
  | [], h => by cases (show false = true from h)
  | x :: r, h => by
    have h1 : @Bool.rec (fun _ => Bool) (sAny p r) true (p x) = true := h
    cases hp : p x with
    | true => exact ⟨x, List.mem_cons_self, hp⟩
    | false =>
      rw [hp] at h1
      obtain ⟨y, hy, h2⟩ := sAny_ex (p := p) (l := r) h1
      exact ⟨y, List.mem_cons_of_mem _ hy, h2⟩
def sFnF {α : Type} (p : α → Bool) (l : List α) : Option α := @List.rec α (fun _ => Option α) none (fun x _ ih => @Bool.rec (fun _ => Option α) ih (some x) (p x)) l
/-- a choice by two numbers, for the kernel -/
def sIf {α : Type} (a b : Nat) (x y : α) : α := @Bool.rec (fun _ => α) y x (Nat.beq a b)
theorem sIf_eq {α : Type} (a b : Nat) (x y : α) : sIf a b x y = if a = b then x else y := by
  by_cases h : a = b
  · subst h
    rw [if_pos rfl]
    unfold sIf
    rw [Nat.beq_refl]
  · rw [if_neg h]
    unfold sIf
    cases hb : Nat.beq a b with
    | true => exact absurd (Nat.eq_of_beq_eq_true hb) h
    | false => rfl
abbrev sL : Type := Int × List (Nat × Int)
/-- 0 an int, 1 a long, 2 a reference, 3 null -/
abbrev sV : Type := Nat × sL
/-- an array: what lies between bounds but at told places; an object -/
abbrev sE : Type := (FieldType × Nat × (Int × Int) × List (Nat × sL)) ⊕ (Nat × List sV)
/-- bounds of the unknowns; what is not below 0; what is not 0; what an unknown is the result of -/
abbrev sG : Type := List (Int × Int) × List sL × List sL × List (Nat × sL × sL × Nat)
abbrev sR : Type := Nat × List (Nat × sV) × List sV × List sE × Nat × Nat × sG
/-- whether two forms have an unknown in common -/
def sSh (a b : sL) : Bool := sAny (fun (q : Nat × Int) => sAny (fun (p : Nat × Int) => Nat.beq q.1 p.1) b.2) a.2
/-- whether forms are the same, for the kernel -/
def sIeq (a b : Int) : Bool := @Int.rec (fun _ => Int → Bool) (fun n c => @Int.rec (fun _ => Bool) (fun m => Nat.beq n m) (fun _ => false) c) (fun n c => @Int.rec (fun _ => Bool) (fun _ => false) (fun m => Nat.beq n m) c) a b
theorem sIeq_ok {a b : Int} (h : sIeq a b = true) : a = b := by
  cases a with
  | ofNat n =>
    cases b with
    | ofNat m => exact congrArg Int.ofNat (Nat.eq_of_beq_eq_true h)
    | negSucc m => cases (show false = true from h)
  | negSucc n =>
    cases b with
    | ofNat m => cases (show false = true from h)
    | negSucc m => exact congrArg Int.negSucc (Nat.eq_of_beq_eq_true h)
def sTeq (a : List (Nat × Int)) : List (Nat × Int) → Bool := @List.rec (Nat × Int) (fun _ => List (Nat × Int) → Bool) (fun b => @List.rec (Nat × Int) (fun _ => Bool) true (fun _ _ _ => false) b) (fun q _ ih b => @List.rec (Nat × Int) (fun _ => Bool) false (fun p r _ => @Bool.rec (fun _ => Bool) false (@Bool.rec (fun _ => Bool) false (ih r) (sIeq q.2 p.2)) (Nat.beq q.1 p.1)) b) a
theorem sTeq_ok : ∀ {a b : List (Nat × Int)}, sTeq a b = true → a = b
  | [], [], _ => rfl
  | [], _ :: _, h => by cases (show false = true from h)
  | _ :: _, [], h => by cases (show false = true from h)
  | q :: a, p :: b, h => by
    have h1 : @Bool.rec (fun _ => Bool) false (@Bool.rec (fun _ => Bool) false (sTeq a b) (sIeq q.2 p.2)) (Nat.beq q.1 p.1) = true := h
    cases e1 : Nat.beq q.1 p.1 with
    | false =>
      rw [e1] at h1
      cases (show false = true from h1)
    | true =>
      rw [e1] at h1
      have h2 : @Bool.rec (fun _ => Bool) false (sTeq a b) (sIeq q.2 p.2) = true := h1
      cases e2 : sIeq q.2 p.2 with
      | false =>
        rw [e2] at h2
        cases (show false = true from h2)
      | true =>
        rw [e2] at h2
        have h3 : sTeq a b = true := h2
        exact congr (congrArg List.cons (Prod.ext (Nat.eq_of_beq_eq_true e1) (sIeq_ok e2))) (sTeq_ok h3)
def sLeq (a b : sL) : Bool := @Bool.rec (fun _ => Bool) false (sTeq a.2 b.2) (sIeq a.1 b.1)
theorem sLeq_ok {a b : sL} (h : sLeq a b = true) : a = b := by
  unfold sLeq at h
  cases e1 : sIeq a.1 b.1 with
  | false =>
    rw [e1] at h
    cases (show false = true from h)
  | true =>
    rw [e1] at h
    have h2 : sTeq a.2 b.2 = true := h
    exact Prod.ext (sIeq_ok e1) (sTeq_ok h2)
def sFeq (a : List sL) : List sL → Bool := @List.rec sL (fun _ => List sL → Bool) (fun b => @List.rec sL (fun _ => Bool) true (fun _ _ _ => false) b) (fun q _ ih b => @List.rec sL (fun _ => Bool) false (fun p r _ => @Bool.rec (fun _ => Bool) false (ih r) (sLeq q p)) b) a
theorem sFeq_ok : ∀ {a b : List sL}, sFeq a b = true → a = b
  | [], [], _ => rfl
  | [], _ :: _, h => by cases (show false = true from h)
  | _ :: _, [], h => by cases (show false = true from h)
  | q :: a, p :: b, h => by
    have h1 : @Bool.rec (fun _ => Bool) false (sFeq a b) (sLeq q p) = true := h
    cases e1 : sLeq q p with
    | false =>
      rw [e1] at h1
      cases (show false = true from h1)
    | true =>
      rw [e1] at h1
      have h2 : sFeq a b = true := h1
      exact congr (congrArg List.cons (sLeq_ok e1)) (sFeq_ok h2)
/-- whether an int is 0, for the kernel -/
def sIz (k : Int) : Bool := @Int.rec (fun _ => Bool) (fun n => Nat.beq n 0) (fun _ => false) k
theorem sIz_t {k : Int} (h : sIz k = true) : k = 0 := by
  cases k with
  | ofNat n =>
    have h0 : n = 0 := Nat.eq_of_beq_eq_true h
    subst h0
    rfl
  | negSucc n => cases (show false = true from h)
theorem sIz_f {k : Int} (h : sIz k = false) : k ≠ 0 := by
  rintro rfl
  cases (show true = false from h)
def sIns (s : Nat) (k : Int) (l : List (Nat × Int)) : List (Nat × Int) := @List.rec (Nat × Int) (fun _ => List (Nat × Int)) (@Bool.rec (fun _ => List (Nat × Int)) [(s, k)] [] (sIz k)) (fun q r ih => @Bool.rec (fun _ => List (Nat × Int)) (@Bool.rec (fun _ => List (Nat × Int)) (q :: ih) (@Bool.rec (fun _ => List (Nat × Int)) ((s, k) :: q :: r) (q :: r) (sIz k)) (Nat.blt s q.1)) (@Bool.rec (fun _ => List (Nat × Int)) ((s, q.2 + k) :: r) r (sIz (q.2 + k))) (Nat.beq q.1 s)) l
theorem sIns_nil (s : Nat) (k : Int) : sIns s k [] = if k = 0 then [] else [(s, k)] := by
  show @Bool.rec (fun _ => List (Nat × Int)) [(s, k)] [] (sIz k) = _
  cases h : sIz k with
  | true => rw [if_pos (sIz_t h)]
  | false => rw [if_neg (sIz_f h)]
theorem sIns_cons (s : Nat) (k : Int) (q : Nat × Int) (r : List (Nat × Int)) : sIns s k (q :: r) = if q.1 = s then (if q.2 + k = 0 then r else (s, q.2 + k) :: r) else if s < q.1 then (if k = 0 then q :: r else (s, k) :: q :: r) else q :: sIns s k r := by
  show @Bool.rec (fun _ => List (Nat × Int)) (@Bool.rec (fun _ => List (Nat × Int)) (q :: sIns s k r) (@Bool.rec (fun _ => List (Nat × Int)) ((s, k) :: q :: r) (q :: r) (sIz k)) (Nat.blt s q.1)) (@Bool.rec (fun _ => List (Nat × Int)) ((s, q.2 + k) :: r) r (sIz (q.2 + k))) (Nat.beq q.1 s) = _
  cases h1 : Nat.beq q.1 s with
  | true =>
    rw [if_pos (Nat.eq_of_beq_eq_true h1)]
    cases h2 : sIz (q.2 + k) with
    | true => rw [if_pos (sIz_t h2)]
    | false => rw [if_neg (sIz_f h2)]
  | false =>
    have n1 : ¬ q.1 = s := fun e => by
      rw [e, Nat.beq_refl] at h1
      cases h1
    rw [if_neg n1]
    cases h3 : Nat.blt s q.1 with
    | true =>
      have l3 : s < q.1 := Nat.le_of_ble_eq_true h3
      rw [if_pos l3]
      cases h2 : sIz k with
      | true => rw [if_pos (sIz_t h2)]
      | false => rw [if_neg (sIz_f h2)]
    | false =>
      have n3 : ¬ s < q.1 := fun l => by
        have l2 : Nat.blt s q.1 = true := Nat.ble_eq_true_of_le l
        rw [h3] at l2
        cases l2
      rw [if_neg n3]
def sAddT (a b : List (Nat × Int)) : List (Nat × Int) := @List.rec (Nat × Int) (fun _ => List (Nat × Int)) b (fun q _ ih => sIns q.1 q.2 ih) a
def sMulT (k : Int) (l : List (Nat × Int)) : List (Nat × Int) := @List.rec (Nat × Int) (fun _ => List (Nat × Int)) [] (fun q _ ih => (q.1, k * q.2) :: ih) l
theorem sMulT_map (k : Int) : ∀ l : List (Nat × Int), sMulT k l = l.map fun q => (q.1, k * q.2)
  | [] => rfl
  | q :: r => congrArg ((q.1, k * q.2) :: ·) (sMulT_map k r)
def sAdd (a b : sL) : sL := (a.1 + b.1, sAddT a.2 b.2)
def sMul (k : Int) (a : sL) : sL := @Bool.rec (fun _ => sL) (k * a.1, sMulT k a.2) (0, []) (sIz k)
def sSub (a b : sL) : sL := sAdd a (sMul (-1) b)
def sC (z : Int) : sL := (z, [])
def sX (i : Nat) : sL := (0, [(i, 1)])
/-- what a linear form is worth -/
def sEvT (ρ : List Int) : List (Nat × Int) → Option Int
  | [] => some 0
  | q :: r => match ρ[q.1]?, sEvT ρ r with
    | some z, some y => some (q.2 * z + y)
    | _, _ => none
def sEv (ρ : List Int) (a : sL) : Option Int := (sEvT ρ a.2).map fun y => a.1 + y
def sIvT (B : List (Int × Int)) : List (Nat × Int) → Option (Int × Int)
  | [] => some (0, 0)
  | q :: r => match sAt B q.1, sIvT B r with
    | some b, some i => some (if 0 ≤ q.2 then (q.2 * b.1 + i.1, q.2 * b.2 + i.2) else (q.2 * b.2 + i.1, q.2 * b.1 + i.2))
    | _, _ => none
def sIv (B : List (Int × Int)) (a : sL) : Option (Int × Int) := (sIvT B a.2).map fun i => (a.1 + i.1, a.1 + i.2)
/-- within -/
def sWi (B : List (Int × Int)) (a : sL) (lo hi : Int) : Bool := match sIv B a with
  | some i => decide (lo ≤ i.1) && decide (i.2 ≤ hi)
  | none => false
def sI32 (B : List (Int × Int)) (a : sL) : Bool := sWi B a (-2147483648) 2147483647
def sI64 (B : List (Int × Int)) (a : sL) : Bool := sWi B a (-9223372036854775808) 9223372036854775807
/-- one number, if it can be no other -/
def sK (B : List (Int × Int)) (a : sL) : Option Int := match sIv B a with
  | some i => if i.1 = i.2 then some i.1 else none
  | none => none
theorem sIns_ev {ρ : List Int} {s : Nat} {k z : Int} (hz : ρ[s]? = some z) : ∀ {l : List (Nat × Int)} {y : Int}, sEvT ρ l = some y → sEvT ρ (sIns s k l) = some (k * z + y)
  | [], y, h => by
    cases h
    rw [sIns_nil]
    split
    · rename_i hk; subst hk; simp [sEvT]
    · simp [sEvT, hz]
  | q :: r, y, h => by
    have h0 := h
    simp only [sEvT] at h
    split at h
    · rename_i w u hw hu
      cases h
      rw [sIns_cons]
      split
      · rename_i hq
        subst hq
        cases hw.symm.trans hz
        split
        · rename_i h9
          rw [hu]
          have : k = -q.2 := by omega
          subst this
          simp only [Option.some.injEq]
          rw [Int.neg_mul]
          omega
        · simp only [sEvT, hw, hu, Option.some.injEq]
          rw [Int.add_mul]
          omega
      · split
        · split
          · rename_i h9; subst h9; rw [h0]; simp
          · simp only [sEvT, hw, hu, hz]
        · simp only [sEvT, hw, sIns_ev hz hu, Option.some.injEq]
          omega
    · cases h
theorem sAddT_ev {ρ : List Int} {b : List (Nat × Int)} {y : Int} (hb : sEvT ρ b = some y) : ∀ {a : List (Nat × Int)} {x : Int}, sEvT ρ a = some x → sEvT ρ (sAddT a b) = some (x + y)
  | [], x, h => by
    cases h
    show sEvT ρ b = some (0 + y)
    rw [Int.zero_add]
    exact hb
  | q :: r, x, h => by
    simp only [sEvT] at h
    split at h
    · rename_i w u hw hu
      cases h
      have ih := sAddT_ev hb hu
      have e : sAddT (q :: r) b = sIns q.1 q.2 (sAddT r b) := rfl
      rw [e, sIns_ev hw ih]
      simp only [Option.some.injEq]
      omega
    · cases h
theorem sEv_add {ρ : List Int} {a b : sL} {x y : Int} (ha : sEv ρ a = some x) (hb : sEv ρ b = some y) : sEv ρ (sAdd a b) = some (x + y) := by
  obtain ⟨u, hu, rfl⟩ := Option.map_eq_some_iff.mp ha
  obtain ⟨v, hv, rfl⟩ := Option.map_eq_some_iff.mp hb
  unfold sEv sAdd
  rw [sAddT_ev hv hu]
  simp only [Option.map_some, Option.some.injEq]
  omega
theorem sMulT_ev {ρ : List Int} (k : Int) : ∀ {a : List (Nat × Int)} {x : Int}, sEvT ρ a = some x → sEvT ρ (a.map fun q => (q.1, k * q.2)) = some (k * x)
  | [], x, h => by cases h; simp [sEvT]
  | q :: r, x, h => by
    simp only [sEvT] at h
    split at h
    · rename_i w u hw hu
      cases h
      simp only [List.map_cons, sEvT, hw, sMulT_ev k hu, Option.some.injEq]
      rw [Int.mul_add, Int.mul_assoc]
    · cases h
theorem sEv_mul {ρ : List Int} (k : Int) {a : sL} {x : Int} (ha : sEv ρ a = some x) : sEv ρ (sMul k a) = some (k * x) := by
  obtain ⟨u, hu, rfl⟩ := Option.map_eq_some_iff.mp ha
  unfold sMul
  cases h0 : sIz k with
  | true =>
    have hk := sIz_t h0
    subst hk
    simp [sEv, sEvT]
  | false =>
    show sEv ρ (k * a.1, sMulT k a.2) = _
    unfold sEv
    rw [sMulT_map, sMulT_ev k hu]
    simp only [Option.map_some, Option.some.injEq]
    rw [Int.mul_add]
theorem sEv_sub {ρ : List Int} {a b : sL} {x y : Int} (ha : sEv ρ a = some x) (hb : sEv ρ b = some y) : sEv ρ (sSub a b) = some (x - y) := by
  have h := sEv_add ha (sEv_mul (-1) hb)
  rw [show x - y = x + -1 * y by omega]
  exact h
theorem sEv_C {ρ : List Int} (z : Int) : sEv ρ (sC z) = some z := by simp [sEv, sC, sEvT]
theorem sEv_X {ρ : List Int} {i : Nat} {z : Int} (h : ρ[i]? = some z) : sEv ρ (sX i) = some z := by simp [sEv, sX, sEvT, h]
theorem sEvT_mono {ρ ρ' : List Int} (hp : ρ <+: ρ') : ∀ {a : List (Nat × Int)} {x : Int}, sEvT ρ a = some x → sEvT ρ' a = some x
  | [], _, h => h
  | q :: r, x, h => by
    obtain ⟨t, rfl⟩ := hp
    simp only [sEvT] at h ⊢
    split at h
    · rename_i w u hw hu
      rw [List.getElem?_append_left (List.getElem?_eq_some_iff.mp hw).1, hw, sEvT_mono ⟨t, rfl⟩ hu]
      exact h
    · cases h
theorem sEv_mono {ρ ρ' : List Int} (hp : ρ <+: ρ') {a : sL} {x : Int} (h : sEv ρ a = some x) : sEv ρ' a = some x := by
  obtain ⟨u, hu, rfl⟩ := Option.map_eq_some_iff.mp h
  exact Option.map_eq_some_iff.mpr ⟨u, sEvT_mono hp hu, rfl⟩
/-- the unknowns lie between their bounds -/
def sBd (ρ : List Int) (B : List (Int × Int)) : Prop := B.length = ρ.length ∧ ∀ (i : Nat) (b : Int × Int) (z : Int), B[i]? = some b → ρ[i]? = some z → b.1 ≤ z ∧ z ≤ b.2
theorem sIvT_ok {ρ : List Int} {B : List (Int × Int)} (hB : sBd ρ B) : ∀ {a : List (Nat × Int)} {x : Int} {i : Int × Int}, sEvT ρ a = some x → sIvT B a = some i → i.1 ≤ x ∧ x ≤ i.2
  | [], x, i, h, hi => by cases h; cases hi; exact ⟨Int.le_refl _, Int.le_refl _⟩
  | q :: r, x, i, h, hi => by
    simp only [sEvT] at h
    simp only [sIvT, sAt_eq] at hi
    split at h
    · rename_i w u hw hu
      split at hi
      · rename_i b j hb hj
        cases h
        obtain ⟨h1, h2⟩ := hB.2 _ _ _ hb hw
        obtain ⟨h3, h4⟩ := sIvT_ok hB hu hj
        split at hi
        · rename_i h0
          cases hi
          have e1 := Int.mul_le_mul_of_nonneg_left h1 h0
          have e2 := Int.mul_le_mul_of_nonneg_left h2 h0
          simp only
          omega
        · rename_i h0
          cases hi
          have h0' : q.2 ≤ 0 := by omega
          have e1 := Int.mul_le_mul_of_nonpos_left h0' h1
          have e2 := Int.mul_le_mul_of_nonpos_left h0' h2
          simp only
          omega
      · cases hi
    · cases h
theorem sIv_ok {ρ : List Int} {B : List (Int × Int)} (hB : sBd ρ B) {a : sL} {x : Int} {i : Int × Int} (h : sEv ρ a = some x) (hi : sIv B a = some i) : i.1 ≤ x ∧ x ≤ i.2 := by
  obtain ⟨u, hu, rfl⟩ := Option.map_eq_some_iff.mp h
  obtain ⟨j, hj, rfl⟩ := Option.map_eq_some_iff.mp hi
  have h9 := sIvT_ok hB hu hj
  simp only
  omega
theorem sWi_ok {ρ : List Int} {B : List (Int × Int)} (hB : sBd ρ B) {a : sL} {x lo hi : Int} (h : sEv ρ a = some x) (hw : sWi B a lo hi = true) : lo ≤ x ∧ x ≤ hi := by
  unfold sWi at hw
  split at hw
  · rename_i i hi
    simp only [Bool.and_eq_true, decide_eq_true_eq] at hw
    have h9 := sIv_ok hB h hi
    omega
  · cases hw
theorem sK_ok {ρ : List Int} {B : List (Int × Int)} (hB : sBd ρ B) {a : sL} {x k : Int} (h : sEv ρ a = some x) (hk : sK B a = some k) : x = k := by
  unfold sK at hk
  split at hk
  · rename_i i hi
    split at hk
    · cases hk
      have h9 := sIv_ok hB h hi
      omega
    · cases hk
  · cases hk
theorem sTo32 {z : Int} (h1 : -2147483648 ≤ z) (h2 : z ≤ 2147483647) : (Int32.ofInt z).toInt = z := Int32.toInt_ofInt_of_le (by omega) (by omega)
theorem sTo64 {z : Int} (h1 : -9223372036854775808 ≤ z) (h2 : z ≤ 9223372036854775807) : (Int64.ofInt z).toInt = z := Int64.toInt_ofInt_of_le (by omega) (by omega)
end
