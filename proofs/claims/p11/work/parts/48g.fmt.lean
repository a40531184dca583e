/-! K: matches and ends of contracts, told in small steps for the kernel. -/
noncomputable section
def fLen {α : Type} (l : List α) : Nat := @List.rec α (fun _ => Nat) 0 (fun _ _ ih => Nat.succ ih) l
theorem fLen_eq {α : Type} : ∀ l : List α, fLen l = l.length
  | [] => rfl
  | _ :: r => congrArg Nat.succ (fLen_eq r)
def fApp {α : Type} (l r : List α) : List α := @List.rec α (fun _ => List α) r (fun x _ ih => x :: ih) l
theorem fApp_eq {α : Type} (r : List α) : ∀ l : List α, fApp l r = l ++ r
  | [] => rfl
  | x :: l => congrArg (x :: ·) (fApp_eq r l)
/-- the same, by eights -/
def fK8 {α : Type} (f g : List α → List α) (l : List α) : List α := @List.rec α (fun _ => List α) (g l) (fun b t _ => sHd b l :: sHd b (sTl l) :: sHd b (sTl (sTl l)) :: sHd b (sTl (sTl (sTl l))) :: sHd b (sTl (sTl (sTl (sTl l)))) :: sHd b (sTl (sTl (sTl (sTl (sTl l))))) :: sHd b (sTl (sTl (sTl (sTl (sTl (sTl l)))))) :: b :: f t) (sTl (sTl (sTl (sTl (sTl (sTl (sTl l)))))))
theorem fK8_eq {α : Type} {f g : List α → List α} {r : List α} (hf : ∀ l, f l = l ++ r) (hg : ∀ l, g l = l ++ r) : ∀ l : List α, fK8 f g l = l ++ r
  | [] => hg _
  | [_] => hg _
  | [_, _] => hg _
  | [_, _, _] => hg _
  | [_, _, _, _] => hg _
  | [_, _, _, _, _] => hg _
  | [_, _, _, _, _, _] => hg _
  | [_, _, _, _, _, _, _] => hg _
  | a :: b :: c :: d :: e :: h :: i :: j :: t => by
    show a :: b :: c :: d :: e :: h :: i :: j :: f t = _
    rw [hf t]
    rfl
def fAp8 {α : Type} (l r : List α) : List α := @Nat.rec (fun _ => List α → List α) (fun l => fApp l r) (fun _ ih l => fK8 ih (fun l => fApp l r) l) 16 l
theorem fAp8_eq {α : Type} (l r : List α) : fAp8 l r = l ++ r := by
  have key : ∀ (n : Nat) (l : List α), @Nat.rec (fun _ => List α → List α) (fun l => fApp l r) (fun _ ih l => fK8 ih (fun l => fApp l r) l) n l = l ++ r := by
    intro n
    induction n with
    | zero => exact fun l => fApp_eq r l
    | succ n ih => exact fun l => fK8_eq ih (fApp_eq r) l
  exact key 16 l
def fRv {α : Type} (l : List α) : List α → List α := @List.rec α (fun _ => List α → List α) (fun acc => acc) (fun x _ ih acc => ih (x :: acc)) l
theorem fRv_eq {α : Type} : ∀ l acc : List α, fRv l acc = l.reverse ++ acc
  | [], acc => rfl
  | x :: l, acc => by
    show fRv l (x :: acc) = _
    rw [fRv_eq l, List.reverse_cons, List.append_assoc]
    rfl
def fDr {α : Type} (n : Nat) : List α → List α := @Nat.rec (fun _ => List α → List α) (fun l => l) (fun _ ih l => @List.rec α (fun _ => List α) [] (fun _ r _ => ih r) l) n
theorem fDr_eq {α : Type} : ∀ (n : Nat) (l : List α), fDr n l = l.drop n
  | 0, l => rfl
  | n + 1, [] => rfl
  | n + 1, x :: r => fDr_eq n r
def fNx (k n : Nat) : List sL := @Nat.rec (fun _ => Nat → List sL) (fun _ => []) (fun _ ih k => sX k :: ih (Nat.succ k)) n k
theorem fNx_eq : ∀ n k : Nat, fNx k n = sNewX k n
  | 0, _ => rfl
  | n + 1, k => congrArg (sX k :: ·) (fNx_eq n (k + 1))
/-! A list's places, looked up by eights. -/
def fTk {α : Type} (n : Nat) : List α → List α := @Nat.rec (fun _ => List α → List α) (fun _ => []) (fun _ ih l => @List.rec α (fun _ => List α) [] (fun x r _ => x :: ih r) l) n
def fCk {α : Type} (n : Nat) : List α → List (List α) := @Nat.rec (fun _ => List α → List (List α)) (fun _ => []) (fun _ ih l => @List.rec α (fun _ => List (List α)) [] (fun _ _ _ => fTk 8 l :: ih (fDr 8 l)) l) n
def fAk {α : Type} (C : List (List α)) (i : Nat) : Option α := @Option.rec (List α) (fun _ => Option α) none (fun l => sAt l (Nat.mod i 8)) (sAt C (Nat.div i 8))
def fLk {α : Type} (l : List α) (C : List (List α)) (i : Nat) : Option α := @Option.rec α (fun _ => Option α) (sAt l i) (fun x => some x) (fAk C i)
theorem fTk_a0 {α : Type} : ∀ (n : Nat) (l : List α) (i : Nat) (x : α), sAt0 (fTk n l) i = some x → sAt0 l i = some x
  | 0, _, _, _, h => by cases h
  | n + 1, [], _, _, h => by cases h
  | n + 1, y :: r, 0, x, h => h
  | n + 1, y :: r, i + 1, x, h => fTk_a0 n r i x h
theorem fTk_at {α : Type} (n : Nat) (l : List α) (i : Nat) (x : α) (h : sAt (fTk n l) i = some x) : sAt l i = some x := by
  rw [sAt_eq, ← sAt0_eq] at h ⊢
  exact fTk_a0 n l i x h
theorem sAt_dr {α : Type} (l : List α) (j i : Nat) : sAt (l.drop j) i = sAt l (j + i) := by
  rw [sAt_eq, sAt_eq, List.getElem?_drop]
theorem fCk_at {α : Type} : ∀ (n : Nat) (l : List α) (j k : Nat) (x : α), (@Option.rec (List α) (fun _ => Option α) none (fun l => sAt l k) (sAt (fCk n l) j) : Option α) = some x → sAt l (8 * j + k) = some x
  | 0, _, j, _, _, h => by
    rw [sAt_eq] at h
    cases h
  | n + 1, [], j, _, _, h => by
    rw [sAt_eq] at h
    cases h
  | n + 1, y :: r, 0, k, x, h => by
    have := fTk_at 8 (y :: r) k x h
    rwa [Nat.mul_zero, Nat.zero_add]
  | n + 1, y :: r, j + 1, k, x, h => by
    have e : sAt (fCk (n + 1) (y :: r)) (j + 1) = sAt (fCk n (fDr 8 (y :: r))) j := by
      rw [sAt_eq, sAt_eq]
      rfl
    rw [e] at h
    have h1 := fCk_at n (fDr 8 (y :: r)) j k x h
    rw [fDr_eq, sAt_dr] at h1
    rw [show 8 * (j + 1) + k = 8 + (8 * j + k) by omega]
    exact h1
theorem fLk_eq {α : Type} (n : Nat) (l : List α) (i : Nat) : fLk l (fCk n l) i = sAt l i := by
  unfold fLk
  cases h : fAk (fCk n l) i with
  | none => rfl
  | some x =>
    have h1 := fCk_at n l (i / 8) (i % 8) x h
    rw [Nat.div_add_mod] at h1
    exact h1.symm
/-- a substitution, looked up -/
def fSg (σ : List sL) : Nat → Option sL := fLk σ (fCk 48 σ)
theorem fSg_eq (σ : List sL) : ∀ i, fSg σ i = sAt σ i := fLk_eq 48 σ
/-! Templates over forms. -/
def fSbT (A : Nat → Option sL) (l : List (Nat × Int)) : Option sL := @List.rec (Nat × Int) (fun _ => Option sL) (some (Int.ofNat 0, [])) (fun q _ ih => @Option.rec sL (fun _ => Option sL) none (fun a => @Option.rec sL (fun _ => Option sL) none (fun b => some (fAdd (fMul q.2 a) b)) ih) (A q.1)) l
theorem fSbT_eq {A : Nat → Option sL} {σ : List sL} (hA : ∀ i, A i = sAt σ i) : ∀ l : List (Nat × Int), fSbT A l = sSubT σ l
  | [] => rfl
  | q :: r => by
    show @Option.rec sL (fun _ => Option sL) none (fun a => @Option.rec sL (fun _ => Option sL) none (fun b => some (fAdd (fMul q.2 a) b)) (fSbT A r)) (A q.1) = _
    rw [fSbT_eq hA r, hA]
    simp only [sSubT]
    cases sAt σ q.1 with
    | none => rfl
    | some a =>
      cases sSubT σ r with
      | none => rfl
      | some b =>
        show some (fAdd (fMul q.2 a) b) = some (sAdd (sMul q.2 a) b)
        rw [fAdd_eq, fMul_eq]
def fSb (A : Nat → Option sL) (a : sL) : Option sL := @Option.rec sL (fun _ => Option sL) none (fun b => some (fAdd (sC a.1) b)) (fSbT A a.2)
theorem fSb_eq {A : Nat → Option sL} {σ : List sL} (hA : ∀ i, A i = sAt σ i) (a : sL) : fSb A a = sSubst σ a := by
  unfold fSb sSubst
  rw [fSbT_eq hA]
  cases sSubT σ a.2 with
  | none => rfl
  | some b =>
    show some (fAdd (sC a.1) b) = some (sAdd (sC a.1) b)
    rw [fAdd_eq]
def fVb3 (t a : sV) : Bool := @Bool.rec (fun _ => Bool) (Nat.beq t.1 3) (sIeq t.2.1 a.2.1) (Nat.beq t.1 2)
def fVb2 (A : Nat → Option sL) (t a : sV) : Bool := @Bool.rec (fun _ => Bool) (fVb3 t a) (@Option.rec sL (fun _ => Bool) false (fun f => sLeq f a.2) (fSb A t.2)) (Nat.ble t.1 1)
def fVb1 (A : Nat → Option sL) (t a : sV) : Bool := @Bool.rec (fun _ => Bool) false (fVb2 A t a) (Nat.beq t.1 a.1)
def fVb (A : Nat → Option sL) (t a : sV) : Bool := @Bool.rec (fun _ => Bool) (fVb1 A t a) (sVb [] t a) (Nat.beq t.1 4)
theorem fVb_eq {A : Nat → Option sL} {σ : List sL} (hA : ∀ i, A i = sAt σ i) (t a : sV) : fVb A t a = sVb σ t a := by
  unfold fVb
  cases h4 : Nat.beq t.1 4 with
  | true =>
    have p4 : t.1 = 4 := Nat.eq_of_beq_eq_true h4
    show sVb [] t a = sVb σ t a
    unfold sVb
    rw [if_pos p4, if_pos p4]
  | false =>
    have n4 : ¬ t.1 = 4 := fun e => by
      rw [e] at h4
      cases h4
    show fVb1 A t a = _
    unfold fVb1 fVb2 fVb3 sVb
    rw [if_neg n4, bAnd, fSb_eq hA]
    simp only [bNat, bNle, sIeq_eq, sLeq_eq, bIte]
    by_cases h1 : t.1 ≤ 1
    · rw [if_pos h1, if_pos h1]
      cases sSubst σ t.2 <;> rfl
    · rw [if_neg h1, if_neg h1]
def fVsb (A : Nat → Option sL) (ts : List sV) : List sV → Bool := @List.rec sV (fun _ => List sV → Bool) (fun as => @List.rec sV (fun _ => Bool) true (fun _ _ _ => false) as) (fun t _ ih as => @List.rec sV (fun _ => Bool) false (fun a r _ => @Bool.rec (fun _ => Bool) false (ih r) (fVb A t a)) as) ts
theorem fVsb_eq {A : Nat → Option sL} {σ : List sL} (hA : ∀ i, A i = sAt σ i) : ∀ ts as : List sV, fVsb A ts as = sVsb σ ts as
  | [], [] => rfl
  | [], _ :: _ => rfl
  | _ :: _, [] => rfl
  | t :: ts, a :: as => by
    show @Bool.rec (fun _ => Bool) false (fVsb A ts as) (fVb A t a) = (sVb σ t a && sVsb σ ts as)
    rw [fVsb_eq hA ts as, fVb_eq hA, bAnd]
def fLsb (A : Nat → Option sL) (ts as : List (Nat × sV)) : Bool := @List.rec (Nat × sV) (fun _ => Bool) true (fun t _ ih => @Bool.rec (fun _ => Bool) false ih (@Option.rec sV (fun _ => Bool) false (fun a => fVb A t.2 a) (sGetL as t.1))) ts
theorem fLsb_eq {A : Nat → Option sL} {σ : List sL} (hA : ∀ i, A i = sAt σ i) (as : List (Nat × sV)) : ∀ ts : List (Nat × sV), fLsb A ts as = sLsb σ ts as
  | [] => rfl
  | t :: ts => by
    show @Bool.rec (fun _ => Bool) false (fLsb A ts as) (@Option.rec sV (fun _ => Bool) false (fun a => fVb A t.2 a) (sGetL as t.1)) = _
    rw [fLsb_eq hA as ts, bAnd]
    unfold sLsb
    rw [List.all_cons]
    congr 1
    cases sGetL as t.1 with
    | none => rfl
    | some a => exact fVb_eq hA t.2 a
def fOv2 (A : Nat → Option sL) (b : Int × Int) (f : sL) : Bool := @Bool.rec (fun _ => Bool) false (sLeq (sC b.1) f) (sIeq b.1 b.2)
def fOv1 (A : Nat → Option sL) (b : Int × Int) (ov : List (Nat × sL)) (x : Nat × sL) : Bool := @Option.rec sL (fun _ => Bool) (@Option.rec sL (fun _ => Bool) false (fun f => fOv2 A b f) (fSb A x.2)) (fun a => @Option.rec sL (fun _ => Bool) false (fun f => sLeq a f) (fSb A x.2)) (sLk ov x.1)
def fOvb (A : Nat → Option sL) (b : Int × Int) (tov ov : List (Nat × sL)) : Bool := @List.rec (Nat × sL) (fun _ => Bool) true (fun x _ ih => @Bool.rec (fun _ => Bool) false ih (fOv1 A b ov x)) tov
theorem fOvb_eq {A : Nat → Option sL} {σ : List sL} (hA : ∀ i, A i = sAt σ i) (b : Int × Int) (ov : List (Nat × sL)) : ∀ tov : List (Nat × sL), fOvb A b tov ov = sOvb σ b tov ov
  | [] => rfl
  | x :: r => by
    show @Bool.rec (fun _ => Bool) false (fOvb A b r ov) (fOv1 A b ov x) = _
    rw [fOvb_eq hA b ov r, bAnd]
    unfold sOvb
    rw [List.all_cons]
    congr 1
    unfold fOv1 fOv2
    rw [fSb_eq hA]
    cases sLk ov x.1 with
    | none =>
      cases sSubst σ x.2 with
      | none => rfl
      | some f =>
        show @Bool.rec (fun _ => Bool) false (sLeq (sC b.1) f) (sIeq b.1 b.2) = _
        rw [bAnd, sLeq_eq, sIeq_eq]
    | some a =>
      cases sSubst σ x.2 with
      | none => rfl
      | some f => exact sLeq_eq a f
def iMin (a b : Int) : Int := @Bool.rec (fun _ => Int) b a (iLe a b)
theorem iMin_eq (a b : Int) : iMin a b = min a b := by
  unfold iMin
  rw [iLe_eq, bIte]
  rfl
def iMax (a b : Int) : Int := @Bool.rec (fun _ => Int) a b (iLe a b)
theorem iMax_eq (a b : Int) : iMax a b = max a b := by
  unfold iMax
  rw [iLe_eq, bIte]
  rfl
def fHul (B : List (Int × Int)) (b : Int × Int) (l : List (Nat × sL)) : Option (Int × Int) := @List.rec (Nat × sL) (fun _ => Option (Int × Int)) (some b) (fun q _ ih => @Option.rec (Int × Int) (fun _ => Option (Int × Int)) none (fun h => @Option.rec (Int × Int) (fun _ => Option (Int × Int)) none (fun i => some (iMin h.1 i.1, iMax h.2 i.2)) (fIv B q.2)) ih) l
theorem fHul_eq (B : List (Int × Int)) (b : Int × Int) : ∀ l : List (Nat × sL), fHul B b l = sHull B b l
  | [] => rfl
  | q :: r => by
    show @Option.rec (Int × Int) (fun _ => Option (Int × Int)) none (fun h => @Option.rec (Int × Int) (fun _ => Option (Int × Int)) none (fun i => some (iMin h.1 i.1, iMax h.2 i.2)) (fIv B q.2)) (fHul B b r) = _
    rw [fHul_eq B b r, fIv_eq]
    simp only [sHull]
    cases sHull B b r with
    | none => rfl
    | some h =>
      cases sIv B q.2 with
      | none => rfl
      | some i =>
        show some (iMin h.1 i.1, iMax h.2 i.2) = some (min h.1 i.1, max h.2 i.2)
        rw [iMin_eq, iMax_eq]
def fAb2 (lo hi : Int) (tb h : Int × Int) : Bool := @Bool.rec (fun _ => Bool) false (@Bool.rec (fun _ => Bool) false (@Bool.rec (fun _ => Bool) false (iLe h.2 hi) (iLe lo h.1)) (iLe h.2 tb.2)) (iLe tb.1 h.1)
def fAb (B : List (Int × Int)) (A : Nat → Option sL) (lo hi : Int) (tb b : Int × Int) (tov ov : List (Nat × sL)) : Bool := @Bool.rec (fun _ => Bool) false (@Option.rec (Int × Int) (fun _ => Bool) false (fun h => fAb2 lo hi tb h) (fHul B b (ov.filter (fun q => (sLk tov q.1).isNone)))) (fOvb A b tov ov)
theorem fAb_eq {A : Nat → Option sL} {σ : List sL} (hA : ∀ i, A i = sAt σ i) (B : List (Int × Int)) (lo hi : Int) (tb b : Int × Int) (tov ov : List (Nat × sL)) : fAb B A lo hi tb b tov ov = sAb B σ lo hi tb b tov ov := by
  unfold fAb sAb
  rw [bAnd, fOvb_eq hA, fHul_eq]
  congr 1
  cases sHull B b (ov.filter (fun q => (sLk tov q.1).isNone)) with
  | none => rfl
  | some h =>
    show fAb2 lo hi tb h = _
    unfold fAb2
    simp only [bAnd, iLe_eq]
def fTyN (t : FieldType) : Nat := @FieldType.rec (fun _ => Nat) 1 2 3 4 5 6 7 8 (fun _ => 0) (fun _ _ => 0) t
def fTyE (a b : FieldType) : Bool := @Bool.rec (fun _ => Bool) (Nat.beq (fTyN a) (fTyN b)) (decide (a = b)) (Nat.beq (fTyN a) 0)
theorem fTyE_eq (a b : FieldType) : fTyE a b = decide (a = b) := by
  cases a <;> cases b <;> first | rfl | exact (decide_eq_false (fun h => by cases h)).symm
theorem fRef_eq (a : FieldType) : Nat.beq (fTyN a) 0 = a.isReference := by
  cases a <;> rfl
theorem fLng_eq (a : FieldType) : Nat.beq (fTyN a) 6 = decide (a = .long) := by
  cases a <;> first | rfl | exact (decide_eq_false (fun h => by cases h)).symm
def fEb3 (B : List (Int × Int)) (A : Nat → Option sL) (x y : FieldType × Nat × (Int × Int) × List (Nat × sL)) : Bool := @Bool.rec (fun _ => Bool) (fAb B A (Int.negSucc 2147483647) (Int.ofNat 2147483647) x.2.2.1 y.2.2.1 x.2.2.2 y.2.2.2) (fAb B A (Int.negSucc 9223372036854775807) (Int.ofNat 9223372036854775807) x.2.2.1 y.2.2.1 x.2.2.2 y.2.2.2) (Nat.beq (fTyN x.1) 6)
def fEb2 (B : List (Int × Int)) (A : Nat → Option sL) (x y : FieldType × Nat × (Int × Int) × List (Nat × sL)) : Bool := @Bool.rec (fun _ => Bool) (fEb3 B A x y) (sQb x.2.2.2 y.2.2.2 x.2.1) (Nat.beq (fTyN x.1) 0)
def fEb1 (B : List (Int × Int)) (A : Nat → Option sL) (x y : FieldType × Nat × (Int × Int) × List (Nat × sL)) : Bool := @Bool.rec (fun _ => Bool) false (@Bool.rec (fun _ => Bool) false (fEb2 B A x y) (Nat.beq x.2.1 y.2.1)) (fTyE x.1 y.1)
def fEb (B : List (Int × Int)) (A : Nat → Option sL) (t a : sE) : Bool := @Sum.rec (FieldType × Nat × (Int × Int) × List (Nat × sL)) (Nat × List sV) (fun _ => Bool) (fun x => @Sum.rec (FieldType × Nat × (Int × Int) × List (Nat × sL)) (Nat × List sV) (fun _ => Bool) (fun y => fEb1 B A x y) (fun _ => false) a)
  (fun x => @Sum.rec (FieldType × Nat × (Int × Int) × List (Nat × sL)) (Nat × List sV) (fun _ => Bool) (fun _ => false) (fun y => @Bool.rec (fun _ => Bool) false (fVsb A x.2 y.2) (Nat.beq x.1 y.1)) a) t
theorem fEb_eq {A : Nat → Option sL} {σ : List sL} (hA : ∀ i, A i = sAt σ i) (B : List (Int × Int)) (t a : sE) : fEb B A t a = sEb B σ t a := by
  rcases t with ⟨ty, n, tb, tov⟩ | ⟨ci, fs⟩
  · rcases a with ⟨ty', n', b, ov⟩ | ⟨ci', gs⟩
    · show fEb1 B A (ty, n, tb, tov) (ty', n', b, ov) = _
      unfold fEb1 fEb2 fEb3 sEb
      rw [bAnd, bAnd, fTyE_eq, bNat]
      show (decide (ty = ty') && (decide (n = n') && _)) = _
      congr 2
      show @Bool.rec (fun _ => Bool) (@Bool.rec (fun _ => Bool) (fAb B A (Int.negSucc 2147483647) (Int.ofNat 2147483647) tb b tov ov) (fAb B A (Int.negSucc 9223372036854775807) (Int.ofNat 9223372036854775807) tb b tov ov) (Nat.beq (fTyN ty) 6)) (sQb tov ov n) (Nat.beq (fTyN ty) 0) = _
      rw [fRef_eq, fLng_eq, bIf, bIf, fAb_eq hA, fAb_eq hA]
      simp only [decide_eq_true_eq]
      rfl
    · rfl
  · rcases a with ⟨ty', n', b, ov⟩ | ⟨ci', gs⟩
    · rfl
    · show @Bool.rec (fun _ => Bool) false (fVsb A fs gs) (Nat.beq ci ci') = (decide (ci = ci') && sVsb σ fs gs)
      rw [bAnd, bNat, fVsb_eq hA]
/-! What a template takes out of a state. -/
abbrev fPa : Type := Nat × List sL
def fPt2 (q : Nat × Int) (t a : sL) (p : fPa) : fPa := @Bool.rec (fun _ => fPa) p (Nat.succ p.1, a :: p.2) (@Bool.rec (fun _ => Bool) false (@Bool.rec (fun _ => Bool) false (sIz t.1) (sIeq q.2 (Int.ofNat 1))) (Nat.beq q.1 p.1))
def fPt (t a : sL) (p : fPa) : fPa := @List.rec (Nat × Int) (fun _ => fPa) p (fun q r _ => @List.rec (Nat × Int) (fun _ => fPa) (fPt2 q t a p) (fun _ _ _ => kPut t a p) r) t.2
theorem fPt_eq (t a : sL) (p : fPa) : fPt t a p = kPut t a p := by
  obtain ⟨c, l⟩ := t
  match l with
  | [] => rfl
  | [q] =>
    show fPt2 q (c, [q]) a p = if q.1 = p.1 ∧ q.2 = 1 ∧ c = 0 then (p.1 + 1, a :: p.2) else p
    unfold fPt2
    simp only [bAnd, bNat, sIeq_eq, sIz_eq]
    by_cases h1 : q.1 = p.1
    · by_cases h2 : q.2 = 1
      · by_cases h3 : c = 0
        · rw [if_pos ⟨h1, h2, h3⟩, decide_eq_true h1, decide_eq_true (show q.2 = Int.ofNat 1 from h2), decide_eq_true h3]
          rfl
        · rw [if_neg (fun h => h3 h.2.2), decide_eq_false h3, Bool.and_false, Bool.and_false]
      · rw [if_neg (fun h => h2 h.2.1), decide_eq_false (show ¬ q.2 = Int.ofNat 1 from h2), Bool.false_and, Bool.and_false]
    · rw [if_neg (fun h => h1 h.1), decide_eq_false h1, Bool.false_and]
  | _ :: _ :: _ => rfl
def fPV (t a : sV) (p : fPa) : fPa := @Bool.rec (fun _ => fPa) p (fPt t.2 a.2 p) (Nat.ble t.1 1)
theorem fPV_eq (t a : sV) (p : fPa) : fPV t a p = kPutV t a p := by
  unfold fPV kPutV
  rw [bNle, bIte, fPt_eq]
def fPVs (ts : List sV) : List sV → fPa → fPa := @List.rec sV (fun _ => List sV → fPa → fPa) (fun _ p => p) (fun t _ ih as p => @List.rec sV (fun _ => fPa) p (fun a r _ => ih r (fPV t a p)) as) ts
theorem fPVs_eq : ∀ (ts as : List sV) (p : fPa), fPVs ts as p = kPutVs ts as p
  | [], as, p => by
    cases as <;> rfl
  | _ :: _, [], _ => rfl
  | t :: ts, a :: as, p => by
    show fPVs ts as (fPV t a p) = kPutVs ts as (kPutV t a p)
    rw [fPVs_eq ts as, fPV_eq]
def fPO (b : Int × Int) (ov l : List (Nat × sL)) : fPa → fPa := @List.rec (Nat × sL) (fun _ => fPa → fPa) (fun p => p) (fun x _ ih p => ih (fPt x.2 (@Option.rec sL (fun _ => sL) (sC b.1) (fun f => f) (sLk ov x.1)) p)) l
theorem fPO_eq (b : Int × Int) (ov : List (Nat × sL)) : ∀ (l : List (Nat × sL)) (p : fPa), fPO b ov l p = kPutO b ov l p
  | [], _ => rfl
  | x :: r, p => by
    show fPO b ov r (fPt x.2 (@Option.rec sL (fun _ => sL) (sC b.1) (fun f => f) (sLk ov x.1)) p) = kPutO b ov r (kPut x.2 ((sLk ov x.1).getD (sC b.1)) p)
    rw [fPO_eq b ov r, fPt_eq]
    cases sLk ov x.1 <;> rfl
def fPE (t a : sE) (p : fPa) : fPa := @Sum.rec (FieldType × Nat × (Int × Int) × List (Nat × sL)) (Nat × List sV) (fun _ => fPa) (fun x => @Sum.rec (FieldType × Nat × (Int × Int) × List (Nat × sL)) (Nat × List sV) (fun _ => fPa) (fun y => @Bool.rec (fun _ => fPa) (fPO y.2.2.1 y.2.2.2 x.2.2.2 p) p (Nat.beq (fTyN x.1) 0)) (fun _ => p) a)
  (fun x => @Sum.rec (FieldType × Nat × (Int × Int) × List (Nat × sL)) (Nat × List sV) (fun _ => fPa) (fun _ => p) (fun y => fPVs x.2 y.2 p) a) t
theorem fPE_eq (t a : sE) (p : fPa) : fPE t a p = kPutE t a p := by
  rcases t with ⟨ty, n, tb, tov⟩ | ⟨ci, fs⟩
  · rcases a with ⟨ty', n', b, ov⟩ | ⟨ci', gs⟩
    · show @Bool.rec (fun _ => fPa) (fPO b ov tov p) p (Nat.beq (fTyN ty) 0) = if ty.isReference = true then p else kPutO b ov tov p
      rw [bIf, fRef_eq, fPO_eq]
    · rfl
  · rcases a with ⟨ty', n', b, ov⟩ | ⟨ci', gs⟩
    · rfl
    · exact fPVs_eq fs gs p
def fPL (as ts : List (Nat × sV)) : fPa → fPa := @List.rec (Nat × sV) (fun _ => fPa → fPa) (fun p => p) (fun t _ ih p => ih (@Option.rec sV (fun _ => fPa) p (fun a => fPV t.2 a p) (sGetL as t.1))) ts
theorem fPL_eq (as : List (Nat × sV)) : ∀ (ts : List (Nat × sV)) (p : fPa), fPL as ts p = kPutL as ts p
  | [], _ => rfl
  | t :: r, p => by
    show fPL as r (@Option.rec sV (fun _ => fPa) p (fun a => fPV t.2 a p) (sGetL as t.1)) = _
    rw [fPL_eq as r]
    simp only [kPutL]
    cases sGetL as t.1 with
    | none => rfl
    | some a =>
      show kPutL as r (fPV t.2 a p) = _
      rw [fPV_eq]
/-- a heap's cell, looked for from a cell on: the heap's rest there, else the heap -/
def fGt2 (G : List sE) (k : Nat) (S : List sE) (j : Nat) : List sE := @Bool.rec (fun _ => List sE) (fDr j G) (fDr (Nat.sub j k) S) (Nat.ble k j)
theorem sAt_drop {α : Type} (l : List α) (j : Nat) : sAt l j = (l.drop j).head? := by
  rw [sAt_eq, List.head?_drop]
theorem fGt2_eq {G S : List sE} {k j : Nat} (h : S = G.drop k) : fGt2 G k S j = G.drop j := by
  unfold fGt2
  cases hb : Nat.ble k j with
  | false => exact fDr_eq j G
  | true =>
    have hk := Nat.le_of_ble_eq_true hb
    show fDr (j - k) S = _
    rw [fDr_eq, h, List.drop_drop, Nat.add_sub_cancel' hk]
def fPH1 (ih : Nat → List sE → fPa → fPa) (t : Nat × sE) (p : fPa) (S : List sE) : fPa := @List.rec sE (fun _ => fPa) (ih t.1 S p) (fun x _ _ => ih t.1 S (fPE t.2 x p)) S
def fPH (G : List sE) (cs : List (Nat × sE)) : Nat → List sE → fPa → fPa := @List.rec (Nat × sE) (fun _ => Nat → List sE → fPa → fPa) (fun _ _ p => p) (fun t _ ih k S p => fPH1 ih t p (fGt2 G k S t.1)) cs
theorem fPH_eq (G : List sE) : ∀ (cs : List (Nat × sE)) (k : Nat) (S : List sE) (p : fPa), S = G.drop k → fPH G cs k S p = kPutH G cs p
  | [], _, _, _, _ => rfl
  | t :: r, k, S, p, h => by
    show fPH1 (fPH G r) t p (fGt2 G k S t.1) = kPutH G r (match sAt G t.1 with
      | some a => kPutE t.2 a p
      | none => p)
    rw [fGt2_eq h, sAt_drop]
    unfold fPH1
    cases hd : G.drop t.1 with
    | nil => exact fPH_eq G r t.1 [] p hd.symm
    | cons x rest =>
      show fPH G r t.1 (x :: rest) (fPE t.2 x p) = kPutH G r (kPutE t.2 x p)
      rw [fPH_eq G r t.1 (x :: rest) _ hd.symm, fPE_eq]
def fIsA (x : sE) : Bool := @Sum.rec (FieldType × Nat × (Int × Int) × List (Nat × sL)) (Nat × List sV) (fun _ => Bool) (fun _ => false) (fun p => Nat.beq p.1 999) x
theorem fIsA_eq (x : sE) : fIsA x = sIsA x := by
  rcases x with x | ⟨c, fs⟩
  · rfl
  · show Nat.beq c 999 = (c == 999)
    rw [bNat]
    rfl
def fCb1 (B : List (Int × Int)) (A : Nat → Option sL) (ih : Nat → List sE → Bool) (t : Nat × sE) (S : List sE) : Bool := @List.rec sE (fun _ => Bool) false (fun x _ _ => @Bool.rec (fun _ => Bool) false (ih t.1 S) (@Bool.rec (fun _ => Bool) (fEb B A t.2 x) false (fIsA x))) S
def fCb (B : List (Int × Int)) (A : Nat → Option sL) (G : List sE) (cs : List (Nat × sE)) : Nat → List sE → Bool := @List.rec (Nat × sE) (fun _ => Nat → List sE → Bool) (fun _ _ => true) (fun t _ ih k S => fCb1 B A ih t (fGt2 G k S t.1)) cs
theorem fCb_eq {A : Nat → Option sL} {σ : List sL} (hA : ∀ i, A i = sAt σ i) (B : List (Int × Int)) (G : List sE) : ∀ (cs : List (Nat × sE)) (k : Nat) (S : List sE), S = G.drop k → fCb B A G cs k S = kCb B σ G cs
  | [], _, _, _ => rfl
  | t :: r, k, S, h => by
    show fCb1 B A (fCb B A G r) t (fGt2 G k S t.1) = _
    rw [fGt2_eq h]
    unfold kCb
    rw [List.all_cons, sAt_drop]
    unfold fCb1
    cases hd : G.drop t.1 with
    | nil => rfl
    | cons x rest =>
      show @Bool.rec (fun _ => Bool) false (fCb B A G r t.1 (x :: rest)) (@Bool.rec (fun _ => Bool) (fEb B A t.2 x) false (fIsA x)) = _
      rw [fCb_eq hA B G r t.1 (x :: rest) hd.symm, bAnd, fEb_eq hA, fIsA_eq]
      show _ = ((!sIsA x && sEb B σ t.2 x) && kCb B σ G r)
      congr 1
      cases sIsA x <;> rfl
/-! Bounds and facts of a template. -/
def fBb (Γ : sG) (bs : List (Int × Int)) : List sL → Bool := @List.rec (Int × Int) (fun _ => List sL → Bool) (fun as => @List.rec sL (fun _ => Bool) true (fun _ _ _ => false) as) (fun b _ ih as => @List.rec sL (fun _ => Bool) false (fun a r _ => @Bool.rec (fun _ => Bool) false (ih r) (fWf Γ a b.1 b.2)) as) bs
theorem fBb_eq (Γ : sG) : ∀ (bs : List (Int × Int)) (as : List sL), fBb Γ bs as = sBb Γ bs as
  | [], [] => rfl
  | [], _ :: _ => rfl
  | _ :: _, [] => rfl
  | b :: bs, a :: as => by
    show @Bool.rec (fun _ => Bool) false (fBb Γ bs as) (fWf Γ a b.1 b.2) = (sWf Γ a b.1 b.2 && sBb Γ bs as)
    rw [fBb_eq Γ bs as, fWf_eq, bAnd]
/-- the first bounds alone -/
def fBp (Γ : sG) (bs : List (Int × Int)) : List sL → Bool := @List.rec (Int × Int) (fun _ => List sL → Bool) (fun as => @List.rec sL (fun _ => Bool) true (fun _ _ _ => false) as) (fun b _ ih as => @List.rec sL (fun _ => Bool) true (fun a r _ => @Bool.rec (fun _ => Bool) false (ih r) (fWf Γ a b.1 b.2)) as) bs
theorem fBp_pre (Γ : sG) : ∀ (bs : List (Int × Int)) (as rs : List sL), sBb Γ bs (as ++ rs) = true → fBp Γ bs as = true
  | [], [], _, _ => rfl
  | [], _ :: _, _, h => by cases (show false = true from h)
  | _ :: _, [], _, _ => rfl
  | b :: bs, a :: as, rs, h => by
    have h1 : (sWf Γ a b.1 b.2 && sBb Γ bs (as ++ rs)) = true := h
    rw [Bool.and_eq_true] at h1
    show @Bool.rec (fun _ => Bool) false (fBp Γ bs as) (fWf Γ a b.1 b.2) = true
    rw [fWf_eq, h1.1]
    exact fBp_pre Γ bs as rs h1.2
def fFs (Γ : sG) (A : Nat → Option sL) (F : List sL) : Bool := @List.rec sL (fun _ => Bool) true (fun f _ ih => @Bool.rec (fun _ => Bool) false ih (@Option.rec sL (fun _ => Bool) false (fun g => fNN Γ g) (fSb A f))) F
theorem fFs_eq {A : Nat → Option sL} {σ : List sL} (hA : ∀ i, A i = sAt σ i) (Γ : sG) : ∀ F : List sL, fFs Γ A F = F.all (fun f => match sSubst σ f with
    | some g => sNN Γ g
    | none => false)
  | [] => rfl
  | f :: r => by
    show @Bool.rec (fun _ => Bool) false (fFs Γ A r) (@Option.rec sL (fun _ => Bool) false (fun g => fNN Γ g) (fSb A f)) = _
    rw [fFs_eq hA Γ r, bAnd, List.all_cons, fSb_eq hA]
    congr 1
    cases sSubst σ f with
    | none => rfl
    | some g => exact fNN_eq Γ g
def fGb (Γ : sG) (σ : List sL) (A : Nat → Option sL) (T : sG) : Bool := @Bool.rec (fun _ => Bool) false (@Bool.rec (fun _ => Bool) false (@Bool.rec (fun _ => Bool) false T.2.2.2.isEmpty T.2.2.1.isEmpty) (fFs Γ A T.2.1)) (fBb Γ T.1 σ)
theorem fGb_eq {A : Nat → Option sL} {σ : List sL} (hA : ∀ i, A i = sAt σ i) (Γ : sG) (T : sG) : fGb Γ σ A T = sGb Γ σ T := by
  unfold fGb sGb
  rw [bAnd, bAnd, bAnd, fFs_eq hA, fBb_eq]
  rfl
/-! The match. -/
theorem kPut_pre (t a : sL) (p : fPa) : ∃ l, (kPut t a p).2 = l ++ p.2 := by
  unfold kPut
  split
  · split
    · exact ⟨[a], rfl⟩
    · exact ⟨[], rfl⟩
  · split
    · exact ⟨[_, _], rfl⟩
    · exact ⟨[], rfl⟩
  · exact ⟨[], rfl⟩
theorem kPre_tr {a b c : List sL} (h1 : ∃ l, a = l ++ b) (h2 : ∃ l, b = l ++ c) : ∃ l, a = l ++ c := by
  obtain ⟨l, rfl⟩ := h1
  obtain ⟨m, rfl⟩ := h2
  exact ⟨l ++ m, (List.append_assoc l m c).symm⟩
theorem kPutV_pre (t a : sV) (p : fPa) : ∃ l, (kPutV t a p).2 = l ++ p.2 := by
  unfold kPutV
  split
  · exact kPut_pre _ _ _
  · exact ⟨[], rfl⟩
theorem kPutVs_pre : ∀ (ts as : List sV) (p : fPa), ∃ l, (kPutVs ts as p).2 = l ++ p.2
  | [], as, p => by
    cases as <;> exact ⟨[], rfl⟩
  | _ :: _, [], _ => ⟨[], rfl⟩
  | t :: ts, a :: as, p => kPre_tr (kPutVs_pre ts as (kPutV t a p)) (kPutV_pre t a p)
theorem kPutO_pre (b : Int × Int) (ov : List (Nat × sL)) : ∀ (l : List (Nat × sL)) (p : fPa), ∃ l', (kPutO b ov l p).2 = l' ++ p.2
  | [], _ => ⟨[], rfl⟩
  | x :: r, p => kPre_tr (kPutO_pre b ov r _) (kPut_pre _ _ _)
theorem kPutE_pre (t a : sE) (p : fPa) : ∃ l, (kPutE t a p).2 = l ++ p.2 := by
  unfold kPutE
  split
  · split
    · exact ⟨[], rfl⟩
    · exact kPutO_pre _ _ _ _
  · exact kPutVs_pre _ _ _
  · exact ⟨[], rfl⟩
theorem kPutH_pre (G : List sE) : ∀ (cs : List (Nat × sE)) (p : fPa), ∃ l, (kPutH G cs p).2 = l ++ p.2
  | [], _ => ⟨[], rfl⟩
  | t :: r, p => by
    simp only [kPutH]
    cases sAt G t.1 with
    | none => exact kPutH_pre G r p
    | some a => exact kPre_tr (kPutH_pre G r _) (kPutE_pre _ _ _)
theorem kPutF_pre : ∀ (ts as : List sL) (p : fPa), ∃ l, (kPutF ts as p).2 = l ++ p.2
  | [], as, p => by
    cases as <;> exact ⟨[], rfl⟩
  | _ :: _, [], _ => ⟨[], rfl⟩
  | t :: ts, a :: as, p => kPre_tr (kPutF_pre ts as _) (kPut_pre _ _ _)
theorem kPutA_pre (γ : List kA) : ∀ (ts : List kA) (p : fPa), ∃ l, (kPutA γ ts p).2 = l ++ p.2
  | [], _ => ⟨[], rfl⟩
  | t :: r, p => by
    simp only [kPutA]
    cases sFnF (fun (q : kA) => Nat.beq q.1 t.1 && kCon p.1 p.2.reverse t.2 q.2) γ with
    | none => exact kPutA_pre γ r p
    | some q => exact kPre_tr (kPutA_pre γ r _) (kPutF_pre _ _ _)
/-! Masks of cells. -/
def fBit (m j : Nat) : Bool := Nat.beq (Nat.land (Nat.shiftRight m j) 1) 1
def fMk (md : List Nat) : Nat := @List.rec Nat (fun _ => Nat) 0 (fun j _ ih => Nat.lor (Nat.shiftLeft 1 j) ih) md
theorem fBit_eq (m j : Nat) : fBit m j = m.testBit j := by
  unfold fBit
  rw [bNat]
  show decide ((m >>> j) &&& 1 = 1) = _
  rw [Nat.testBit_eq_decide_div_mod_eq, Nat.and_one_is_mod, Nat.shiftRight_eq_div_pow]
theorem fMk_eq (j : Nat) : ∀ md : List Nat, fBit (fMk md) j = kIn md j
  | [] => by
    rw [fBit_eq]
    exact Nat.zero_testBit j
  | i :: r => by
    have ih := fMk_eq j r
    rw [fBit_eq] at ih ⊢
    show (Nat.lor (1 <<< i) (fMk r)).testBit j = @Bool.rec (fun _ => Bool) (kIn r j) true (Nat.beq i j)
    rw [show Nat.lor (1 <<< i) (fMk r) = (1 <<< i) ||| fMk r from rfl, Nat.testBit_or, ih, bOr, bNat]
    congr 1
    rw [Nat.one_shiftLeft, Nat.testBit_two_pow]
/-! The heap behind a contract. -/
def fKp (m k : Nat) (g : sE) : sE := @Bool.rec (fun _ => sE) g sIsAny (fBit m k)
def fFg (m : Nat) (G : List sE) : Nat → List (Nat × sE) → List sE := @List.rec sE (fun _ => Nat → List (Nat × sE) → List sE) (fun _ _ => []) (fun g _ ih k cs => @List.rec (Nat × sE) (fun _ => List sE) (fKp m k g :: ih (Nat.succ k) []) (fun t r _ => @Bool.rec (fun _ => List sE) (fKp m k g :: ih (Nat.succ k) cs) (t.2 :: ih (Nat.succ k) r) (Nat.beq t.1 k)) cs) G
def fSo (cs : List (Nat × sE)) : Nat → Bool := @List.rec (Nat × sE) (fun _ => Nat → Bool) (fun _ => true) (fun t _ ih k => @Bool.rec (fun _ => Bool) false (ih (Nat.succ t.1)) (Nat.ble k t.1)) cs
theorem fSo_c {t : Nat × sE} {r : List (Nat × sE)} {k : Nat} (h : fSo (t :: r) k = true) : k ≤ t.1 ∧ fSo r (t.1 + 1) = true := by
  have h : @Bool.rec (fun _ => Bool) false (fSo r (Nat.succ t.1)) (Nat.ble k t.1) = true := h
  rw [bAnd, Bool.and_eq_true] at h
  exact ⟨Nat.le_of_ble_eq_true h.1, h.2⟩
theorem kFi_lt {j : Nat} : ∀ {r : List (Nat × sE)} {k : Nat}, fSo r k = true → j < k → kFi r j = none
  | [], _, _, _ => rfl
  | t :: r, k, h, hj => by
    obtain ⟨h1, h2⟩ := fSo_c h
    show @Bool.rec (fun _ => Option sE) (kFi r j) (some t.2) (Nat.beq t.1 j) = none
    rw [bNat, decide_eq_false (by omega)]
    exact kFi_lt h2 (by omega)
theorem kFgl_cg {md : List Nat} {cs ds : List (Nat × sE)} : ∀ (G : List sE) (k : Nat), (∀ j, k ≤ j → kFi cs j = kFi ds j) → kFgl md cs G k = kFgl md ds G k
  | [], _, _ => rfl
  | g :: G, k, h => by
    show kSel md cs k g :: kFgl md cs G (k + 1) = kSel md ds k g :: kFgl md ds G (k + 1)
    rw [kFgl_cg G (k + 1) (fun j hj => h j (by omega))]
    unfold kSel
    rw [h k (Nat.le_refl k)]
theorem fFg_eq (md : List Nat) : ∀ (G : List sE) (k : Nat) (cs : List (Nat × sE)), fSo cs k = true → fFg (fMk md) G k cs = kFgl md cs G k
  | [], _, _, _ => rfl
  | g :: G, k, [], _ => by
    show fKp (fMk md) k g :: fFg (fMk md) G (k + 1) [] = kSel md [] k g :: kFgl md [] G (k + 1)
    rw [fFg_eq md G (k + 1) [] rfl]
    congr 1
    unfold fKp
    rw [fMk_eq]
    rfl
  | g :: G, k, t :: r, h => by
    obtain ⟨h1, h2⟩ := fSo_c h
    show @Bool.rec (fun _ => List sE) (fKp (fMk md) k g :: fFg (fMk md) G (k + 1) (t :: r)) (t.2 :: fFg (fMk md) G (k + 1) r) (Nat.beq t.1 k) = kSel md (t :: r) k g :: kFgl md (t :: r) G (k + 1)
    have e0 : kFi (t :: r) k = @Bool.rec (fun _ => Option sE) (kFi r k) (some t.2) (Nat.beq t.1 k) := rfl
    by_cases hk : t.1 = k
    · subst hk
      rw [Nat.beq_refl] at e0 ⊢
      show t.2 :: fFg (fMk md) G (t.1 + 1) r = _
      rw [fFg_eq md G (t.1 + 1) r h2]
      congr 1
      · unfold kSel
        rw [e0]
      · refine kFgl_cg G (t.1 + 1) (fun j hj => ?_)
        show kFi r j = @Bool.rec (fun _ => Option sE) (kFi r j) (some t.2) (Nat.beq t.1 j)
        rw [bNat, decide_eq_false (by omega)]
    · rw [bNat, decide_eq_false hk] at e0 ⊢
      show fKp (fMk md) k g :: fFg (fMk md) G (k + 1) (t :: r) = _
      have h3 : fSo (t :: r) (k + 1) = true := by
        show @Bool.rec (fun _ => Bool) false (fSo r (Nat.succ t.1)) (Nat.ble (k + 1) t.1) = true
        rw [bAnd, Bool.and_eq_true]
        exact ⟨Nat.ble_eq_true_of_le (by omega), h2⟩
      rw [fFg_eq md G (k + 1) (t :: r) h3]
      congr 1
      unfold kSel fKp
      rw [e0, show (@Bool.rec (fun _ => Option sE) (kFi r k) (some t.2) false : Option sE) = none from kFi_lt h2 (by omega), fMk_eq]
def fKg (md : List Nat) (cs : List (Nat × sE)) (G : List sE) : List sE := @Bool.rec (fun _ => List sE) (kFgl md cs G 0) (fFg (fMk md) G 0 cs) (fSo cs 0)
theorem fKg_eq (md : List Nat) (cs : List (Nat × sE)) (G : List sE) : fKg md cs G = kFgl md cs G 0 := by
  unfold fKg
  cases h : fSo cs 0 with
  | false => rfl
  | true => exact fFg_eq md G 0 cs h
/-! An end, in the caller's forms. -/
def fPv (A : Nat → Option sL) (t : sV) : Option sV := @Bool.rec (fun _ => Option sV) (some t) (@Option.rec sL (fun _ => Option sV) none (fun f => some (t.1, f)) (fSb A t.2)) (Nat.ble t.1 1)
theorem fPv_eq {A : Nat → Option sL} {σ : List sL} (hA : ∀ i, A i = sAt σ i) (t : sV) : fPv A t = sPV σ t := by
  unfold fPv sPV
  rw [bNle, bIte, fSb_eq hA]
  split
  · cases sSubst σ t.2 <;> rfl
  · rfl
def fPvs (A : Nat → Option sL) (l : List sV) : Option (List sV) := @List.rec sV (fun _ => Option (List sV)) (some []) (fun t _ ih => @Option.rec sV (fun _ => Option (List sV)) none (fun a => @Option.rec (List sV) (fun _ => Option (List sV)) none (fun as => some (a :: as)) ih) (fPv A t)) l
theorem fPvs_eq {A : Nat → Option sL} {σ : List sL} (hA : ∀ i, A i = sAt σ i) : ∀ l : List sV, fPvs A l = sPVs σ l
  | [] => rfl
  | t :: r => by
    show @Option.rec sV (fun _ => Option (List sV)) none (fun a => @Option.rec (List sV) (fun _ => Option (List sV)) none (fun as => some (a :: as)) (fPvs A r)) (fPv A t) = _
    rw [fPvs_eq hA r, fPv_eq hA]
    simp only [sPVs]
    cases sPV σ t <;> cases sPVs σ r <;> rfl
def fPo (A : Nat → Option sL) (l : List (Nat × sL)) : Option (List (Nat × sL)) := @List.rec (Nat × sL) (fun _ => Option (List (Nat × sL))) (some []) (fun x _ ih => @Option.rec sL (fun _ => Option (List (Nat × sL))) none (fun f => @Option.rec (List (Nat × sL)) (fun _ => Option (List (Nat × sL))) none (fun r' => some ((x.1, f) :: r')) ih) (fSb A x.2)) l
theorem fPo_eq {A : Nat → Option sL} {σ : List sL} (hA : ∀ i, A i = sAt σ i) : ∀ l : List (Nat × sL), fPo A l = sPO σ l
  | [] => rfl
  | x :: r => by
    show @Option.rec sL (fun _ => Option (List (Nat × sL))) none (fun f => @Option.rec (List (Nat × sL)) (fun _ => Option (List (Nat × sL))) none (fun r' => some ((x.1, f) :: r')) (fPo A r)) (fSb A x.2) = _
    rw [fPo_eq hA r, fSb_eq hA]
    simp only [sPO]
    cases sSubst σ x.2 <;> cases sPO σ r <;> rfl
def fPe (A : Nat → Option sL) (t : sE) : Option sE := @Sum.rec (FieldType × Nat × (Int × Int) × List (Nat × sL)) (Nat × List sV) (fun _ => Option sE) (fun x => @Bool.rec (fun _ => Option sE) (@Option.rec (List (Nat × sL)) (fun _ => Option sE) none (fun ov => some (.inl (x.1, x.2.1, x.2.2.1, ov))) (fPo A x.2.2.2)) (some t) (Nat.beq (fTyN x.1) 0)) (fun x => @Option.rec (List sV) (fun _ => Option sE) none (fun gs => some (.inr (x.1, gs))) (fPvs A x.2)) t
theorem fPe_eq {A : Nat → Option sL} {σ : List sL} (hA : ∀ i, A i = sAt σ i) (t : sE) : fPe A t = sPE σ t := by
  rcases t with ⟨ty, n, b, ov⟩ | ⟨ci, fs⟩
  · show @Bool.rec (fun _ => Option sE) (@Option.rec (List (Nat × sL)) (fun _ => Option sE) none (fun ov => some (.inl (ty, n, b, ov))) (fPo A ov)) (some (.inl (ty, n, b, ov))) (Nat.beq (fTyN ty) 0) = if ty.isReference = true then some (.inl (ty, n, b, ov)) else (sPO σ ov).map fun ov' => .inl (ty, n, b, ov')
    rw [bIf, fRef_eq, fPo_eq hA]
    cases sPO σ ov <;> rfl
  · show @Option.rec (List sV) (fun _ => Option sE) none (fun gs => some (.inr (ci, gs))) (fPvs A fs) = (sPVs σ fs).map fun gs => .inr (ci, gs)
    rw [fPvs_eq hA]
    cases sPVs σ fs <;> rfl
def fPc (A : Nat → Option sL) (l : List (Nat × sE)) : Option (List (Nat × sE)) := @List.rec (Nat × sE) (fun _ => Option (List (Nat × sE))) (some []) (fun t _ ih => @Option.rec sE (fun _ => Option (List (Nat × sE))) none (fun a => @Option.rec (List (Nat × sE)) (fun _ => Option (List (Nat × sE))) none (fun as => some ((t.1, a) :: as)) ih) (fPe A t.2)) l
theorem fPc_eq {A : Nat → Option sL} {σ : List sL} (hA : ∀ i, A i = sAt σ i) : ∀ l : List (Nat × sE), fPc A l = sPC σ l
  | [] => rfl
  | t :: r => by
    show @Option.rec sE (fun _ => Option (List (Nat × sE))) none (fun a => @Option.rec (List (Nat × sE)) (fun _ => Option (List (Nat × sE))) none (fun as => some ((t.1, a) :: as)) (fPc A r)) (fPe A t.2) = _
    rw [fPc_eq hA r, fPe_eq hA]
    simp only [sPC]
    cases sPE σ t.2 <;> cases sPC σ r <;> rfl
def fPf (A : Nat → Option sL) (l : List sL) : Option (List sL) := @List.rec sL (fun _ => Option (List sL)) (some []) (fun f _ ih => @Option.rec sL (fun _ => Option (List sL)) none (fun g => @Option.rec (List sL) (fun _ => Option (List sL)) none (fun r' => some (g :: r')) ih) (fSb A f)) l
theorem fPf_eq {A : Nat → Option sL} {σ : List sL} (hA : ∀ i, A i = sAt σ i) : ∀ l : List sL, fPf A l = sPF σ l
  | [] => rfl
  | f :: r => by
    show @Option.rec sL (fun _ => Option (List sL)) none (fun g => @Option.rec (List sL) (fun _ => Option (List sL)) none (fun r' => some (g :: r')) (fPf A r)) (fSb A f) = _
    rw [fPf_eq hA r, fSb_eq hA]
    simp only [sPF]
    cases sSubst σ f <;> cases sPF σ r <;> rfl
def fPa_ (A : Nat → Option sL) (l : List kA) : Option (List kA) := @List.rec kA (fun _ => Option (List kA)) (some []) (fun t _ ih => @Option.rec (List sL) (fun _ => Option (List kA)) none (fun a => @Option.rec (List kA) (fun _ => Option (List kA)) none (fun as => some ((t.1, a) :: as)) ih) (fPf A t.2)) l
theorem fPa_eq {A : Nat → Option sL} {σ : List sL} (hA : ∀ i, A i = sAt σ i) : ∀ l : List kA, fPa_ A l = sPA σ l
  | [] => rfl
  | t :: r => by
    show @Option.rec (List sL) (fun _ => Option (List kA)) none (fun a => @Option.rec (List kA) (fun _ => Option (List kA)) none (fun as => some ((t.1, a) :: as)) (fPa_ A r)) (fPf A t.2) = _
    rw [fPa_eq hA r, fPf_eq hA]
    simp only [sPA]
    cases sPF σ t.2 <;> cases sPA σ r <;> rfl
theorem fIn_t {k : Nat} : ∀ {md : List Nat}, kIn md k = true → md.contains k = true
  | [], h => by cases (show false = true from h)
  | j :: r, h => by
    have h : @Bool.rec (fun _ => Bool) (kIn r k) true (Nat.beq j k) = true := h
    cases hb : Nat.beq j k with
    | true =>
      obtain rfl := Nat.eq_of_beq_eq_true hb
      simp
    | false =>
      rw [hb] at h
      rw [List.contains_cons, fIn_t (md := r) h, Bool.or_true]
/-- whether two masks have nothing in common -/
def fDis (a b : Nat) : Bool := Nat.beq (Nat.land a b) 0
theorem fDis_eq (ds md : List Nat) : fDis (fMk ds) (fMk md) = ds.all (fun j => !md.contains j) := by
  have key : ∀ j, (fMk md).testBit j = md.contains j := fun j => by
    rw [← fBit_eq, fMk_eq]
    cases h : kIn md j with
    | false => exact (kIn_ff h).symm
    | true => exact (fIn_t h).symm
  have key2 : ∀ j, (fMk ds).testBit j = ds.contains j := fun j => by
    rw [← fBit_eq, fMk_eq]
    cases h : kIn ds j with
    | false => exact (kIn_ff h).symm
    | true => exact (fIn_t h).symm
  unfold fDis
  rw [bNat]
  show decide (fMk ds &&& fMk md = 0) = _
  by_cases h : fMk ds &&& fMk md = 0
  · rw [decide_eq_true h]
    refine (List.all_eq_true.mpr fun j hj => ?_).symm
    have h1 : (fMk ds &&& fMk md).testBit j = false := by
      rw [h]
      exact Nat.zero_testBit j
    rw [Nat.testBit_and, key, key2, List.contains_iff_mem.mpr hj, Bool.true_and] at h1
    rw [h1]
    rfl
  · rw [decide_eq_false h]
    cases ha : ds.all (fun j => !md.contains j) with
    | false => rfl
    | true =>
      refine absurd (Nat.eq_of_testBit_eq fun j => ?_) h
      rw [Nat.testBit_and, key, key2, Nat.zero_testBit]
      cases hd : ds.contains j with
      | false => rfl
      | true =>
        have := List.all_eq_true.mp ha j (List.contains_iff_mem.mp hd)
        simpa using this
def fAt1 (dep : Nat → List Nat) (m : Nat) (k : Nat) : Bool := @Nat.rec (fun _ => Bool) (fDis (fMk (dep 0)) m) (fun j _ => fDis (fMk (dep (Nat.succ j))) m) k
theorem fAt1_eq (dep : Nat → List Nat) (m k : Nat) : fAt1 dep m k = fDis (fMk (dep k)) m := by
  cases k <;> rfl
/-- the atoms that are left where these cells may change -/
def fAt (dep : Nat → List Nat) (m : Nat) (γ : List kA) : List kA := @List.rec kA (fun _ => List kA) [] (fun q _ ih => @Bool.rec (fun _ => List kA) ih (q :: ih) (fAt1 dep m q.1)) γ
theorem fAt_eq (dep : Nat → List Nat) (md : List Nat) : ∀ γ : List kA, fAt dep (fMk md) γ = γ.filter (fun q => (dep q.1).all (fun j => !md.contains j))
  | [] => rfl
  | q :: r => by
    show @Bool.rec (fun _ => List kA) (fAt dep (fMk md) r) (q :: fAt dep (fMk md) r) (fAt1 dep (fMk md) q.1) = _
    rw [fAt_eq dep md r, fAt1_eq, fDis_eq, bIf, List.filter_cons]
def fEn4 (dep : Nat → List Nat) (c : kC) (G : List sE) (Γ : sG) (γ : List kA) (U : kU) (fs : List sL) (st : List sV) (m : Nat) (cs : List (Nat × sE)) (as : List kA) : kS := ((0, [], st, fKg c.2.2.2.2.1 cs G, c.2.2.2.2.2.1, c.2.2.2.2.2.2, (fAp8 Γ.1 (fDr m U.1.1), fApp fs Γ.2.1, Γ.2.2)), fApp as (fAt dep (fMk c.2.2.2.2.1) γ))
/-! Atoms. -/
def fAnN (n : Nat) (l : List (Nat × Int)) : Bool := @List.rec (Nat × Int) (fun _ => Bool) false (fun q _ ih => @Bool.rec (fun _ => Bool) ih true (Nat.ble n q.1)) l
theorem fAnN_eq (n : Nat) : ∀ l : List (Nat × Int), fAnN n l = l.any (fun q => decide (n ≤ q.1))
  | [] => rfl
  | q :: r => by
    show @Bool.rec (fun _ => Bool) (fAnN n r) true (Nat.ble n q.1) = _
    rw [fAnN_eq n r, bOr, bNle, List.any_cons]
def fCn1_ (n : Nat) (A : Nat → Option sL) (t a : sL) : Bool := @Bool.rec (fun _ => Bool) (@Option.rec sL (fun _ => Bool) false (fun f => sLeq f a) (fSb A t)) true (fAnN n t.2)
def fCo (n : Nat) (A : Nat → Option sL) (ts : List sL) : List sL → Bool := @List.rec sL (fun _ => List sL → Bool) (fun as => @List.rec sL (fun _ => Bool) true (fun _ _ _ => false) as) (fun t _ ih as => @List.rec sL (fun _ => Bool) false (fun a r _ => @Bool.rec (fun _ => Bool) false (ih r) (fCn1_ n A t a)) as) ts
theorem fCo_eq {A : Nat → Option sL} {σ : List sL} (hA : ∀ i, A i = sAt σ i) (n : Nat) : ∀ ts as : List sL, fCo n A ts as = kCon n σ ts as
  | [], [] => rfl
  | [], _ :: _ => rfl
  | _ :: _, [] => rfl
  | t :: ts, a :: as => by
    show @Bool.rec (fun _ => Bool) false (fCo n A ts as) (fCn1_ n A t a) = _
    rw [fCo_eq hA n ts as, bAnd]
    simp only [kCon]
    congr 1
    unfold fCn1_
    rw [bIf, fAnN_eq, fSb_eq hA]
    split
    · rfl
    · cases sSubst σ t <;> rfl
def fPF (ts : List sL) : List sL → fPa → fPa := @List.rec sL (fun _ => List sL → fPa → fPa) (fun _ p => p) (fun t _ ih as p => @List.rec sL (fun _ => fPa) p (fun a r _ => ih r (fPt t a p)) as) ts
theorem fPF_eq : ∀ (ts as : List sL) (p : fPa), fPF ts as p = kPutF ts as p
  | [], as, p => by
    cases as <;> rfl
  | _ :: _, [], _ => rfl
  | t :: ts, a :: as, p => by
    show fPF ts as (fPt t a p) = kPutF ts as (kPut t a p)
    rw [fPF_eq ts as, fPt_eq]
def fPA2 (γ : List kA) (t : kA) (k : Nat) (A : Nat → Option sL) : Option kA := sFnF (fun (q : kA) => @Bool.rec (fun _ => Bool) false (fCo k A t.2 q.2) (Nat.beq q.1 t.1)) γ
def fPA1 (γ : List kA) (ih : fPa → fPa) (t : kA) (k : Nat) (l : List sL) : fPa := ih (@Option.rec kA (fun _ => fPa) (k, l) (fun q => fPF t.2 q.2 (k, l)) (fPA2 γ t k (fSg (fRv l []))))
def fPA (γ ts : List kA) : fPa → fPa := @List.rec kA (fun _ => fPa → fPa) (fun p => p) (fun t _ ih p => @Prod.rec Nat (List sL) (fun _ => fPa) (fun k l => fPA1 γ ih t k l) p) ts
theorem fPA_eq (γ : List kA) : ∀ (ts : List kA) (p : fPa), fPA γ ts p = kPutA γ ts p
  | [], _ => rfl
  | t :: r, (k, l) => by
    show fPA γ r (@Option.rec kA (fun _ => fPa) (k, l) (fun q => fPF t.2 q.2 (k, l)) (fPA2 γ t k (fSg (fRv l [])))) = _
    rw [fPA_eq γ r]
    simp only [kPutA]
    have e : fPA2 γ t k (fSg (fRv l [])) = sFnF (fun (q : kA) => Nat.beq q.1 t.1 && kCon k l.reverse t.2 q.2) γ := by
      unfold fPA2
      congr 1
      funext q
      rw [bAnd, fCo_eq (fSg_eq _), fRv_eq, List.append_nil]
    rw [e]
    cases sFnF (fun (q : kA) => Nat.beq q.1 t.1 && kCon k l.reverse t.2 q.2) γ with
    | none => rfl
    | some q =>
      show kPutA γ r (fPF t.2 q.2 (k, l)) = _
      rw [fPF_eq]
def fBb1 (A : Nat → Option sL) (γ : List kA) (t : kA) : Bool := @Option.rec (List sL) (fun _ => Bool) false (fun fs => sAny (fun (q : kA) => @Bool.rec (fun _ => Bool) false (sFeq q.2 fs) (Nat.beq q.1 t.1)) γ) (fPf A t.2)
def fAbb (A : Nat → Option sL) (γ ts : List kA) : Bool := @List.rec kA (fun _ => Bool) true (fun t _ ih => @Bool.rec (fun _ => Bool) false ih (fBb1 A γ t)) ts
theorem fAbb_eq {A : Nat → Option sL} {σ : List sL} (hA : ∀ i, A i = sAt σ i) (γ : List kA) : ∀ ts : List kA, fAbb A γ ts = kAb σ γ ts
  | [] => rfl
  | t :: ts => by
    show @Bool.rec (fun _ => Bool) false (fAbb A γ ts) (fBb1 A γ t) = _
    rw [fAbb_eq hA γ ts, bAnd]
    unfold kAb
    rw [List.all_cons]
    congr 1
    unfold fBb1
    rw [fPf_eq hA]
    cases sPF σ t.2 with
    | none => rfl
    | some fs =>
      show sAny (fun (q : kA) => @Bool.rec (fun _ => Bool) false (sFeq q.2 fs) (Nat.beq q.1 t.1)) γ = _
      congr 1
      funext q
      exact bAnd
def fMt6 (c : kC) (ls : List (Nat × sV)) (G : List sE) (Γ : sG) (γ : List kA) (σ : List sL) (A : Nat → Option sL) : Bool := @Bool.rec (fun _ => Bool) false (@Bool.rec (fun _ => Bool) false (@Bool.rec (fun _ => Bool) false (fAbb A γ c.2.1.2.2.2) (fCb Γ.1 A G c.2.1.2.1 0 G)) (fGb Γ σ A c.2.1.2.2.1)) (fLsb A c.2.1.1 ls)
def fMt5 (nh : Nat) (c : kC) (ls : List (Nat × sV)) (G : List sE) (Γ : sG) (γ : List kA) (σ : List sL) : Bool := @Bool.rec (fun _ => Bool) false (fMt6 c ls G Γ γ σ (fSg σ)) (Nat.beq (fLen G) nh)
def fMt4 (nh : Nat) (c : kC) (ls : List (Nat × sV)) (G : List sE) (Γ : sG) (γ : List kA) (σ : List sL) : Option (List sL) := @Bool.rec (fun _ => Option (List sL)) none (some σ) (fMt5 nh c ls G Γ γ σ)
def fMt3 (nh : Nat) (c : kC) (ls : List (Nat × sV)) (G : List sE) (Γ : sG) (γ : List kA) (p : fPa) : Option (List sL) := fMt4 nh c ls G Γ γ (fRv (fPA γ c.2.1.2.2.2 (fPH G c.2.1.2.1 0 G p)).2 [])
def fMt2 (nh : Nat) (c : kC) (ls : List (Nat × sV)) (G : List sE) (Γ : sG) (γ : List kA) (p : fPa) : Option (List sL) := @Bool.rec (fun _ => Option (List sL)) none (fMt3 nh c ls G Γ γ p) (fBp Γ c.2.1.2.2.1.1 (fRv p.2 []))
/-! The match. -/
/-- the locals that are told by no unknown -/
def fLc1 (as : List (Nat × sV)) (t : Nat × sV) : Bool := @List.rec (Nat × Int) (fun _ => Bool) (@Option.rec sV (fun _ => Bool) false (fun a => fVb (fun _ => none) t.2 a) (sGetL as t.1)) (fun _ _ _ => true) t.2.2.2
def fLc (ts as : List (Nat × sV)) : Bool := @List.rec (Nat × sV) (fun _ => Bool) true (fun t _ ih => @Bool.rec (fun _ => Bool) false ih (fLc1 as t)) ts
theorem sVb_nil {σ τ : List sL} {t a : sV} (h : t.2.2 = []) : sVb σ t a = sVb τ t a := by
  obtain ⟨k, c, l⟩ := t
  obtain rfl : l = [] := h
  unfold sVb sSubst
  simp only [sSubT]
theorem fLc_of {σ : List sL} {as : List (Nat × sV)} : ∀ {ts : List (Nat × sV)}, sLsb σ ts as = true → fLc ts as = true
  | [], _ => rfl
  | t :: ts, h => by
    unfold sLsb at h
    rw [List.all_cons, Bool.and_eq_true] at h
    obtain ⟨h1, h2⟩ := h
    show @Bool.rec (fun _ => Bool) false (fLc ts as) (fLc1 as t) = true
    rw [bAnd, Bool.and_eq_true]
    refine ⟨?_, fLc_of h2⟩
    unfold fLc1
    cases hl : t.2.2.2 with
    | cons q r => rfl
    | nil =>
      show @Option.rec sV (fun _ => Bool) false (fun a => fVb (fun _ => none) t.2 a) (sGetL as t.1) = true
      cases hg : sGetL as t.1 with
      | none =>
        rw [hg] at h1
        cases h1
      | some a =>
        rw [hg] at h1
        show fVb (fun _ => none) t.2 a = true
        rw [fVb_eq (A := fun _ => none) (σ := []) (fun i => (sAt_eq ([] : List sL) i).symm), sVb_nil (σ := []) (τ := σ) hl]
        exact h1
def fMt (nh : Nat) (c : kC) (ls : List (Nat × sV)) (G : List sE) (Γ : sG) (γ : List kA) : Option (List sL) := @Bool.rec (fun _ => Option (List sL)) none (fMt2 nh c ls G Γ γ (fPL ls c.2.1.1 (0, []))) (fLc c.2.1.1 ls)
theorem fMt_eq (nh : Nat) (c : kC) (ls : List (Nat × sV)) (G : List sE) (Γ : sG) (γ : List kA) : fMt nh c ls G Γ γ = kMat nh c ls G Γ γ := by
  unfold fMt kMat
  cases hlc : fLc c.2.1.1 ls with
  | false =>
    show none = _
    simp only
    rw [if_neg]
    intro h
    simp only [Bool.and_eq_true] at h
    rw [fLc_of h.1] at hlc
    cases hlc
  | true =>
  show fMt2 nh c ls G Γ γ (fPL ls c.2.1.1 (0, [])) = _
  rw [fPL_eq]
  generalize hp : kPutL ls c.2.1.1 (0, []) = p
  have h3 : fMt3 nh c ls G Γ γ p = (match (kPutA γ c.2.1.2.2.2 (kPutH G c.2.1.2.1 p)).2.reverse with
    | σ => if (sLsb σ c.2.1.1 ls && (decide (G.length = nh) && (sGb Γ σ c.2.1.2.2.1 && (kCb Γ.1 σ G c.2.1.2.1 && kAb σ γ c.2.1.2.2.2)))) = true then some σ else none) := by
    unfold fMt3 fMt4 fMt5 fMt6
    rw [fPA_eq, fRv_eq, List.append_nil, fPH_eq G _ 0 G p rfl]
    generalize (kPutA γ c.2.1.2.2.2 (kPutH G c.2.1.2.1 p)).2.reverse = σ
    simp only
    rw [bIf, bAnd, bAnd, bAnd, bAnd, fLsb_eq (fSg_eq σ), fLen_eq, bNat, fGb_eq (fSg_eq σ), fCb_eq (fSg_eq σ) _ _ _ 0 G rfl, fAbb_eq (fSg_eq σ)]
    rw [Bool.and_left_comm]
  unfold fMt2
  cases hb : fBp Γ c.2.1.2.2.1.1 (fRv p.2 []) with
  | true => exact h3
  | false =>
    show none = _
    rw [fRv_eq, List.append_nil] at hb
    simp only
    rw [if_neg]
    intro h
    simp only [Bool.and_eq_true] at h
    have hg := h.2.2.1
    unfold sGb at hg
    rw [Bool.and_eq_true] at hg
    obtain ⟨l, hl⟩ := kPre_tr (kPutA_pre γ c.2.1.2.2.2 (kPutH G c.2.1.2.1 p)) (kPutH_pre G c.2.1.2.1 p)
    have hs := hg.1
    rw [hl, List.reverse_append] at hs
    rw [fBp_pre Γ _ _ _ hs] at hb
    cases hb
def fEn3 (dep : Nat → List Nat) (c : kC) (G : List sE) (Γ : sG) (γ : List kA) (U : kU) (A : Nat → Option sL) (m : Nat) (fs : List sL) (st : List sV) : Option kS := @Option.rec (List (Nat × sE)) (fun _ => Option kS) none (fun cs => @Option.rec (List kA) (fun _ => Option kS) none (fun as => some (fEn4 dep c G Γ γ U fs st m cs as)) (fPa_ A U.2.2.2)) (fPc A U.2.2.1)
def fEn2 (dep : Nat → List Nat) (c : kC) (G : List sE) (Γ : sG) (γ : List kA) (U : kU) (m : Nat) (A : Nat → Option sL) : Option kS := @Option.rec (List sL) (fun _ => Option kS) none (fun fs => @Option.rec (List sV) (fun _ => Option kS) none (fun st => fEn3 dep c G Γ γ U A m fs st) (fPvs A U.2.1)) (fPf A U.1.2.1)
def fEn (dep : Nat → List Nat) (c : kC) (σ : List sL) (G : List sE) (Γ : sG) (γ : List kA) (U : kU) : Option kS := fEn2 dep c G Γ γ U (fLen σ) (fSg (fApp σ (fNx (fLen Γ.1) (Nat.sub (fLen U.1.1) (fLen σ)))))
theorem fEn_eq (dep : Nat → List Nat) (c : kC) (σ : List sL) (G : List sE) (Γ : sG) (γ : List kA) (U : kU) : fEn dep c σ G Γ γ U = kEnd dep c σ G Γ γ U := by
  unfold fEn kEnd
  rw [fApp_eq, fNx_eq, fLen_eq, fLen_eq, fLen_eq]
  show fEn2 dep c G Γ γ U σ.length (fSg (σ ++ sNewX Γ.1.length (U.1.1.length - σ.length))) = _
  generalize σ ++ sNewX Γ.1.length (U.1.1.length - σ.length) = τ
  unfold fEn2 fEn3 sJoin
  rw [fPf_eq (fSg_eq τ), fPvs_eq (fSg_eq τ), fPc_eq (fSg_eq τ), fPa_eq (fSg_eq τ)]
  simp only
  cases sPF τ U.1.2.1 with
  | none => rfl
  | some fs =>
    cases sPVs τ U.2.1 with
    | none => rfl
    | some st =>
      cases sPC τ U.2.2.1 with
      | none => rfl
      | some cs =>
        cases sPA τ U.2.2.2 with
        | none => rfl
        | some as =>
          show some (fEn4 dep c G Γ γ U fs st σ.length cs as) = _
          unfold fEn4
          rw [fKg_eq, fAp8_eq, fApp_eq, fApp_eq, fDr_eq, fAt_eq]
          rfl
/-! Use. -/
def fMy4 (X : kX) (c : kC) : Bool := c.2.2.2.2.1.all X.1
def fMy3 (X : kX) (m i : Nat) (c : kC) (A : Nat → Option sL) (Γ : sG) : Bool := @Bool.rec (fun _ => Bool) false (@Option.rec sL (fun _ => Bool) false (fun d => fNN Γ (fSub (fSub X.2.2.2 d) (sC i))) (fSb A c.2.2.2.1.1)) (@Bool.rec (fun _ => Bool) (fMy4 X c) true (Nat.beq (Nat.lor (fMk c.2.2.2.2.1) m) m))
def fMy2 (X : kX) (c : kC) (A : Nat → Option sL) (Γ : sG) : Bool := @Bool.rec (fun _ => Bool) false (@Option.rec sL (fun _ => Bool) false (fun r => @Bool.rec (fun _ => Bool) false (fNN Γ (fSub (fSub X.2.2.1 r) (sC (Int.ofNat 1)))) (fNN Γ r)) (fSb A c.2.2.2.1.2.2)) (Nat.beq c.2.2.2.1.2.1 X.2.1)
def fMy (X : kX) (m i : Nat) (c : kC) (A : Nat → Option sL) (Γ : sG) : Bool := @Bool.rec (fun _ => Bool) false (fMy3 X m i c A Γ) (@Bool.rec (fun _ => Bool) (fMy2 X c A Γ) true (Nat.blt c.2.2.2.1.2.1 X.2.1))
theorem fMy_eq {X : kX} {m : Nat} (hm : ∀ j, fBit m j = true → X.1 j = true) {A : Nat → Option sL} {σ : List sL} (hA : ∀ i, A i = sAt σ i) (i : Nat) (c : kC) (Γ : sG) : fMy X m i c A Γ = kMay X i c σ Γ := by
  unfold fMy fMy2 fMy3 fMy4 kMay
  rw [bAnd, bOr, bAnd, bAnd, bOr]
  congr 1
  · congr 1
    · show Nat.ble (c.2.2.2.1.2.1 + 1) X.2.1 = _
      rw [bNle]
      rfl
    · rw [bNat, fSb_eq hA]
      congr 1
      cases sSubst σ c.2.2.2.1.2.2 with
      | none => rfl
      | some r =>
        show @Bool.rec (fun _ => Bool) false (fNN Γ (fSub (fSub X.2.2.1 r) (sC (Int.ofNat 1)))) (fNN Γ r) = _
        rw [bAnd, fNN_eq, fNN_eq, fSub_eq, fSub_eq]
        rfl
  · congr 1
    · cases hs : Nat.beq (Nat.lor (fMk c.2.2.2.2.1) m) m with
      | false => exact Bool.false_or _
      | true =>
        rw [Bool.true_or]
        refine (List.all_eq_true.mpr fun j hj => hm j ?_).symm
        have e : fMk c.2.2.2.2.1 ||| m = m := Nat.eq_of_beq_eq_true hs
        have h1 : (fMk c.2.2.2.2.1).testBit j = true := by
          rw [← fBit_eq, fMk_eq]
          cases h : kIn c.2.2.2.2.1 j with
          | true => rfl
          | false =>
            have := kIn_ff h
            rw [List.contains_iff_mem.mpr hj] at this
            cases this
        rw [fBit_eq, ← e, Nat.testBit_or, h1, Bool.true_or]
    · rw [fSb_eq hA]
      cases sSubst σ c.2.2.2.1.1 with
      | none => rfl
      | some d =>
        show fNN Γ (fSub (fSub X.2.2.2 d) (sC i)) = _
        rw [fNN_eq, fSub_eq, fSub_eq]
def fEs (dep : Nat → List Nat) (c : kC) (σ : List sL) (G : List sE) (Γ : sG) (γ : List kA) (Us : List kU) : Option (List kS) := @List.rec kU (fun _ => Option (List kS)) (some []) (fun U _ ih => @Option.rec kS (fun _ => Option (List kS)) none (fun K => @Option.rec (List kS) (fun _ => Option (List kS)) none (fun r => some (K :: r)) ih) (fEn dep c σ G Γ γ U)) Us
theorem fEs_eq (dep : Nat → List Nat) (c : kC) (σ : List sL) (G : List sE) (Γ : sG) (γ : List kA) : ∀ Us : List kU, fEs dep c σ G Γ γ Us = kAll (fun U => (kEnd dep c σ G Γ γ U).map fun K => [K]) Us
  | [] => rfl
  | U :: r => by
    show @Option.rec kS (fun _ => Option (List kS)) none (fun K => @Option.rec (List kS) (fun _ => Option (List kS)) none (fun r => some (K :: r)) (fEs dep c σ G Γ γ r)) (fEn dep c σ G Γ γ U) = _
    rw [fEs_eq dep c σ G Γ γ r, fEn_eq]
    simp only [kAll]
    cases kEnd dep c σ G Γ γ U with
    | none => rfl
    | some K =>
      cases kAll (fun U => (kEnd dep c σ G Γ γ U).map fun K => [K]) r <;> rfl
def fUs3 (X : kX) (m i c0 s0 : Nat) (c : kC) (σ : List sL) (Γ : sG) : Bool := @Bool.rec (fun _ => Bool) false (@Bool.rec (fun _ => Bool) false (Nat.beq c.2.2.2.2.2.2 s0) (Nat.beq c.2.2.2.2.2.1 c0)) (fMy X m i c (fSg σ) Γ)
def fUs2 (dep : Nat → List Nat) (X : kX) (m i c0 s0 : Nat) (G : List sE) (Γ : sG) (γ : List kA) (c : kC) (ih : Option (List kS)) (σ : List sL) : Option (List kS) := @Bool.rec (fun _ => Option (List kS)) ih (fEs dep c σ G Γ γ c.2.2.1) (fUs3 X m i c0 s0 c σ Γ)
def fUs (dep : Nat → List Nat) (nh : Nat) (X : kX) (m i c0 s0 : Nat) (ls : List (Nat × sV)) (G : List sE) (Γ : sG) (γ : List kA) (cs : List kC) : Option (List kS) := @List.rec kC (fun _ => Option (List kS)) none (fun c _ ih => @Option.rec (List sL) (fun _ => Option (List kS)) ih (fun σ => fUs2 dep X m i c0 s0 G Γ γ c ih σ) (fMt nh c ls G Γ γ)) cs
theorem fUs_eq (dep : Nat → List Nat) (nh : Nat) {X : kX} {m : Nat} (hm : ∀ j, fBit m j = true → X.1 j = true) (i c0 s0 : Nat) (ls : List (Nat × sV)) (G : List sE) (Γ : sG) (γ : List kA) : ∀ cs : List kC, fUs dep nh X m i c0 s0 ls G Γ γ cs = kUse dep nh X i c0 s0 ls G Γ γ cs
  | [] => rfl
  | c :: r => by
    show @Option.rec (List sL) (fun _ => Option (List kS)) (fUs dep nh X m i c0 s0 ls G Γ γ r) (fun σ => fUs2 dep X m i c0 s0 G Γ γ c (fUs dep nh X m i c0 s0 ls G Γ γ r) σ) (fMt nh c ls G Γ γ) = _
    rw [fUs_eq dep nh hm i c0 s0 ls G Γ γ r, fMt_eq]
    simp only [kUse]
    cases kMat nh c ls G Γ γ with
    | none => rfl
    | some σ =>
      show fUs2 dep X m i c0 s0 G Γ γ c (kUse dep nh X i c0 s0 ls G Γ γ r) σ = _
      unfold fUs2 fUs3
      simp only
      rw [bIf, bAnd, bAnd, fMy_eq hm (fSg_eq σ), bNat, bNat, fEs_eq, Bool.decide_and]
/-! An end of a run below one of a contract's. -/
/-- the bounds of the template's own unknowns still hold -/
def fBq (Γ : sG) (bs : List (Int × Int)) : List (Int × Int) → Nat → Bool := @List.rec (Int × Int) (fun _ => List (Int × Int) → Nat → Bool) (fun _ _ => true) (fun b _ ih B k => @List.rec (Int × Int) (fun _ => Bool) false (fun x r _ => @Bool.rec (fun _ => Bool) (@Bool.rec (fun _ => Bool) false (ih r (Nat.succ k)) (fWf Γ (sX k) b.1 b.2)) (ih r (Nat.succ k)) (@Bool.rec (fun _ => Bool) false (iLe x.2 b.2) (iLe b.1 x.1))) B) bs
theorem sWf_X {Γ : sG} {k : Nat} {x b : Int × Int} (h : sAt Γ.1 k = some x) (h1 : b.1 ≤ x.1) (h2 : x.2 ≤ b.2) : sWf Γ (sX k) b.1 b.2 = true := by
  have e : sIv Γ.1 (sX k) = some x := by
    simp only [sIv, sX, sIvT, h, Option.map_some]
    simp
  unfold sWf
  rw [e]
  simp only [decide_eq_true h1, decide_eq_true h2, Bool.true_or, Bool.and_self]
theorem fBq_ok (Γ : sG) : ∀ (bs B : List (Int × Int)) (k : Nat), (∀ i, sAt B i = sAt Γ.1 (k + i)) → fBq Γ bs B k = true → sBb Γ bs (fNx k bs.length) = true
  | [], _, _, _, _ => rfl
  | _ :: _, [], _, _, h => by cases (show false = true from h)
  | b :: bs, x :: B, k, hB, h => by
    have h0 : sAt Γ.1 k = some x := (hB 0).symm
    have hB1 : ∀ i, sAt B i = sAt Γ.1 (k + 1 + i) := fun i => by
      have := hB (i + 1)
      rw [show k + 1 + i = k + (i + 1) by omega, ← this, sAt_eq, sAt_eq]
      rfl
    have h : @Bool.rec (fun _ => Bool) (@Bool.rec (fun _ => Bool) false (fBq Γ bs B (k + 1)) (fWf Γ (sX k) b.1 b.2)) (fBq Γ bs B (k + 1)) (@Bool.rec (fun _ => Bool) false (iLe x.2 b.2) (iLe b.1 x.1)) = true := h
    show (sWf Γ (sX k) b.1 b.2 && sBb Γ bs (fNx (k + 1) bs.length)) = true
    rw [Bool.and_eq_true]
    cases hi : (@Bool.rec (fun _ => Bool) false (iLe x.2 b.2) (iLe b.1 x.1) : Bool) with
    | true =>
      rw [hi] at h
      rw [bAnd, Bool.and_eq_true] at hi
      exact ⟨sWf_X h0 ((iLe_iff _ _).mp hi.1) ((iLe_iff _ _).mp hi.2), fBq_ok Γ bs B (k + 1) hB1 h⟩
    | false =>
      rw [hi] at h
      have h : @Bool.rec (fun _ => Bool) false (fBq Γ bs B (k + 1)) (fWf Γ (sX k) b.1 b.2) = true := h
      rw [bAnd, Bool.and_eq_true, fWf_eq] at h
      exact ⟨h.1, fBq_ok Γ bs B (k + 1) hB1 h.2⟩
theorem sBb_app (Γ : sG) : ∀ (b1 : List (Int × Int)) (s1 : List sL) (b2 : List (Int × Int)) (s2 : List sL), sBb Γ b1 s1 = true → sBb Γ b2 s2 = true → sBb Γ (b1 ++ b2) (s1 ++ s2) = true
  | [], [], _, _, _, h => h
  | [], _ :: _, _, _, h, _ => by cases (show false = true from h)
  | _ :: _, [], _, _, h, _ => by cases (show false = true from h)
  | b :: b1, a :: s1, b2, s2, h1, h2 => by
    have h1 : (sWf Γ a b.1 b.2 && sBb Γ b1 s1) = true := h1
    rw [Bool.and_eq_true] at h1
    show (sWf Γ a b.1 b.2 && sBb Γ (b1 ++ b2) (s1 ++ s2)) = true
    rw [Bool.and_eq_true]
    exact ⟨h1.1, sBb_app Γ b1 s1 b2 s2 h1.2 h2⟩
def fBl5 (nh : Nat) (c : kC) (K : kS) : Bool := @Bool.rec (fun _ => Bool) false (@Bool.rec (fun _ => Bool) false (Nat.beq K.1.2.2.2.2.2.1 c.2.2.2.2.2.2) (Nat.beq K.1.2.2.2.2.1 c.2.2.2.2.2.1)) (Nat.beq (fLen K.1.2.2.2.1) nh)
def fBl4 (K : kS) (U : kU) (A : Nat → Option sL) : Bool := @Bool.rec (fun _ => Bool) false (@Bool.rec (fun _ => Bool) false (fAbb A K.2 U.2.2.2) (fCb K.1.2.2.2.2.2.2.1 A K.1.2.2.2.1 U.2.2.1 0 K.1.2.2.2.1)) (fVsb A U.2.1 K.1.2.2.1)
def fBl3 (K : kS) (U : kU) (n : Nat) (σ : List sL) (A : Nat → Option sL) : Bool := @Bool.rec (fun _ => Bool) false (@Bool.rec (fun _ => Bool) false (@Bool.rec (fun _ => Bool) false (@Bool.rec (fun _ => Bool) false U.1.2.2.2.isEmpty U.1.2.2.1.isEmpty) (fFs K.1.2.2.2.2.2.2 A U.1.2.1)) (fBb K.1.2.2.2.2.2.2 (fDr n U.1.1) (fDr n σ))) (fBq K.1.2.2.2.2.2.2 (fTk n U.1.1) K.1.2.2.2.2.2.2.1 0)
def fBl2 (nh : Nat) (c : kC) (K : kS) (U : kU) (n : Nat) (σ : List sL) : Bool := @Bool.rec (fun _ => Bool) false (@Bool.rec (fun _ => Bool) false (@Bool.rec (fun _ => Bool) false (@Bool.rec (fun _ => Bool) false (fBl4 K U (fSg σ)) (fBl3 K U n σ (fSg σ))) (Nat.ble n (fLen U.1.1))) (sFeq (fTk n σ) (fNx 0 n))) (fBl5 nh c K)
def fBl (nh : Nat) (c : kC) (K : kS) (U : kU) : Bool := fBl2 nh c K U (fLen c.2.1.2.2.1.1) (fRv (fPA K.2 U.2.2.2 (fPH K.1.2.2.2.1 U.2.2.1 0 K.1.2.2.2.1 (fPVs U.2.1 K.1.2.2.1 (fLen c.2.1.2.2.1.1, fRv (fNx 0 (fLen c.2.1.2.2.1.1)) [])))).2 [])
theorem fTk_eq {α : Type} : ∀ (n : Nat) (l : List α), fTk n l = l.take n
  | 0, l => by
    rw [List.take_zero]
    rfl
  | n + 1, [] => rfl
  | n + 1, x :: r => by
    rw [List.take_succ_cons, ← fTk_eq n r]
    rfl
theorem fBl_ok {nh : Nat} {c : kC} {K : kS} {U : kU} (h : fBl nh c K U = true) : kBel nh c K U = true := by
  unfold fBl at h
  rw [fPA_eq, fPH_eq K.1.2.2.2.1 _ 0 K.1.2.2.2.1 _ rfl, fPVs_eq, fRv_eq, fRv_eq, List.append_nil, List.append_nil, fLen_eq, fNx_eq] at h
  unfold kBel
  generalize (kPutA K.2 U.2.2.2 (kPutH K.1.2.2.2.1 U.2.2.1 (kPutVs U.2.1 K.1.2.2.1 (c.2.1.2.2.1.1.length, (sNewX 0 c.2.1.2.2.1.1.length).reverse)))).2.reverse = σ at h ⊢
  unfold fBl2 fBl3 fBl4 fBl5 at h
  simp only [bAnd, Bool.and_eq_true, fTk_eq, fDr_eq, fNx_eq, fLen_eq, fAbb_eq (fSg_eq σ), fVsb_eq (fSg_eq σ), fCb_eq (fSg_eq σ) _ K.1.2.2.2.1 _ 0 K.1.2.2.2.1 rfl, fFs_eq (fSg_eq σ), fBb_eq] at h
  obtain ⟨⟨l1, l2, l3⟩, g1, g2, ⟨q1, q2, q3, q4, q5⟩, v1, v2, v3⟩ := h
  have t1 : σ.take c.2.1.2.2.1.1.length = sNewX 0 c.2.1.2.2.1.1.length := sFeq_ok g1
  have n1 : c.2.1.2.2.1.1.length ≤ U.1.1.length := Nat.le_of_ble_eq_true g2
  have q1 := fBq_ok K.1.2.2.2.2.2.2 _ _ 0 (fun i => by rw [Nat.zero_add]) q1
  rw [List.length_take, Nat.min_eq_left n1, fNx_eq] at q1
  have qb := sBb_app K.1.2.2.2.2.2.2 _ _ _ _ q1 q2
  rw [← t1, List.take_append_drop, List.take_append_drop] at qb
  simp only [Bool.and_eq_true, decide_eq_true_eq]
  refine ⟨t1, ⟨Nat.eq_of_beq_eq_true l1, Nat.eq_of_beq_eq_true l2, Nat.eq_of_beq_eq_true l3⟩, ?_, v1, v2, v3⟩
  unfold sGb
  rw [Bool.and_eq_true, Bool.and_eq_true, Bool.and_eq_true]
  exact ⟨qb, q3, q4, q5⟩
/-! What is left of the atoms behind one write. -/
theorem fMk_1 (j : Nat) : fMk [j] = Nat.shiftLeft 1 j := Nat.or_zero _
theorem fAll1 (j : Nat) : ∀ l : List Nat, (l.all (fun i => !([j] : List Nat).contains i)) = !l.contains j
  | [] => rfl
  | i :: r => by
    rw [List.all_cons, fAll1 j r, List.contains_cons]
    by_cases h : i = j
    · subst h
      simp
    · have h2 : ¬ j = i := fun e => h e.symm
      simp [h, h2]
theorem fRest_eq (ud : Nat → List Nat) (j : Nat) (γ : List kA) : fAt (kDp ud) (Nat.shiftLeft 1 j) γ = kRest ud j γ := by
  rw [← fMk_1, fAt_eq]
  unfold kRest
  congr 1
  funext q
  exact fAll1 j (kDp ud q.1)
def fWr (SO : List (Nat × List sL)) (CL : List vw_C) (ud : Nat → List Nat) (KW KL : sG → List kA → Nat → sL → sL → List kA) (md : Nat → Bool) (nx b : Nat) : kS → Option (List kS)
  | ((pc, ls, (t, v) :: (0, i) :: (2, q) :: st, G, c, s, Γ), γ) => if q.1.toNat < SO.length then none else if md (q.1.toNat - SO.length) = true then (match sAt G (q.1.toNat - SO.length) with
    | some (.inl (ty, n, _, _)) => (if (ty.isReference || (sK Γ.1 i).isSome) = true then s20 SO CL nx b (pc, ls, (t, v) :: (0, i) :: (2, q) :: st, G, c, s, Γ) else if b = 3 then s20l SO nx (pc, ls, (t, v) :: (0, i) :: (2, q) :: st, G, c, s, Γ) else s20w SO nx b (pc, ls, (t, v) :: (0, i) :: (2, q) :: st, G, c, s, Γ)).map fun L => L.map fun S => (S, (if ty.isReference = true then [] else kWrA KW KL Γ γ b (q.1.toNat - SO.length) n i v) ++ fAt (kDp ud) (Nat.shiftLeft 1 (q.1.toNat - SO.length)) γ)
    | _ => none) else none
  | _ => none
theorem fWr_eq (SO : List (Nat × List sL)) (CL : List vw_C) (ud : Nat → List Nat) (KW KL : sG → List kA → Nat → sL → sL → List kA) (md : Nat → Bool) (nx b : Nat) (K : kS) : fWr SO CL ud KW KL md nx b K = kWr SO CL ud KW KL md nx b K := by
  unfold fWr kWr
  simp only [fRest_eq]
  rfl
theorem kBin0 (Γ : sG) (x y : sL) : kBin Γ 0 x y = some (sAdd x y, Γ) := by
  simp [kBin, sBin]
theorem kBin1 (Γ : sG) (x y : sL) : kBin Γ 1 x y = some (sSub x y, Γ) := by
  simp [kBin, sBin]
theorem kN32_in {x : sL} {Γ : sG} (h : sI32 Γ.1 x = true) : kN32 x Γ = (x, Γ) := by
  unfold kN32
  rw [if_pos h]
end
