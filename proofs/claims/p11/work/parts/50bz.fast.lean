/-! K: the same run, told in small pieces, for the kernel. -/
noncomputable section
def fKS : (Nat → Bool) → Nat → eI → kS → Option (List kS) := kStep kSOx eCL eCT kUDf nKW nKC kKWL kLC nIC 4
abbrev fO : Type := Option (List kS)
/-- a walk's frame: the contract's bounds, depth, method -/
abbrev fC : Type := (kX × Nat) × Nat × Nat × eM
abbrev fT : Type := fC → Nat → List (Nat × sV) → List sV → List sE → Nat → Nat → sG → List kA → fO
def fJo (x y : fO) : fO := @Option.rec (List kS) (fun _ => fO) none (fun a => @Option.rec (List kS) (fun _ => fO) none (fun b => some (a ++ b)) y) x
def fAll {α : Type} (f : α → fO) (L : List α) : fO := @List.rec α (fun _ => fO) (some []) (fun x r ih => @List.rec α (fun _ => fO) (f x) (fun _ _ _ => fJo (f x) ih) r) L
theorem kAll_c {α : Type} {f : α → fO} {x : α} {r : List α} : kAll f (x :: r) = fJo (f x) (kAll f r) := by
  simp only [kAll]
  unfold fJo
  cases f x with
  | none => rfl
  | some a => cases kAll f r with
    | none => rfl
    | some b => rfl
theorem fJo_nil (x : fO) : fJo x (some []) = x := by
  cases x with
  | none => rfl
  | some a => exact congrArg some (List.append_nil a)
theorem fAll_eq {α : Type} (f : α → fO) : ∀ L : List α, fAll f L = kAll f L
  | [] => rfl
  | [x] => by
    rw [kAll_c]
    exact (fJo_nil (f x)).symm
  | x :: y :: r => by
    have ih := fAll_eq f (y :: r)
    rw [kAll_c, ← ih]
    rfl
theorem kAll_1 {α : Type} {f : α → fO} {x : α} : kAll f [x] = f x := (fAll_eq f [x]).symm
def fDes (f : Nat → List (Nat × sV) → List sV → List sE → Nat → Nat → sG → List kA → fO) (K : kS) : fO :=
  @Prod.rec sR (List kA) (fun _ => fO) (fun S γ => @Prod.rec Nat (List (Nat × sV) × List sV × List sE × Nat × Nat × sG) (fun _ => fO) (fun pc q =>
    @Prod.rec (List (Nat × sV)) (List sV × List sE × Nat × Nat × sG) (fun _ => fO) (fun ls q => @Prod.rec (List sV) (List sE × Nat × Nat × sG) (fun _ => fO) (fun st q =>
    @Prod.rec (List sE) (Nat × Nat × sG) (fun _ => fO) (fun G q => @Prod.rec Nat (Nat × sG) (fun _ => fO) (fun c q => @Prod.rec Nat sG (fun _ => fO) (fun s Γ => f pc ls st G c s Γ γ) q) q) q) q) q) S) K
def fK (f : kS → fO) (o : fO) : fO := @Option.rec (List kS) (fun _ => fO) none (fun L => fAll f L) o
section FDEF
variable (ih : fT) (C : fC) (I : eI) (pc : Nat) (ls : List (Nat × sV)) (st : List sV) (G : List sE) (c s : Nat) (Γ : sG) (γ : List kA)
/-- any step -/
def fStp : fO := fK (fun K => fDes (ih C) K) (fKS C.1.1.1 C.2.2.2.2.2.1 I ((pc, ls, st, G, c, s, Γ), γ))
def fLd2 (v : sV) : fO := @Bool.rec (fun _ => fO) (fStp ih C I pc ls st G c s Γ γ) (ih C I.2.1 ls (v :: st) G c s Γ γ) (Nat.beq v.1 (Nat.mod I.2.2.2.1 3))
def fLd : fO := @Option.rec sV (fun _ => fO) (fStp ih C I pc ls st G c s Γ γ) (fun v => fLd2 ih C I pc ls st G c s Γ γ v) (sGetL ls I.2.2.1)
def fPs : fO := ih C I.2.1 ls ((0, sC I.2.2.2.2.1) :: st) G c s Γ γ
def fGt : fO := ih C I.2.2.1 ls st G c s Γ γ
def fBr2 (x : fO) (o : Option sG) : fO := @Option.rec sG (fun _ => fO) x (fun Γ2 => fJo x (ih C I.2.1 ls st G c s Γ2 γ)) o
def fBr1 (o : Option sG) : fO := @Option.rec sG (fun _ => fO) (some []) (fun Γ2 => ih C I.2.1 ls st G c s Γ2 γ) o
def fBr (p : Option sG × Option sG) : fO := @Option.rec sG (fun _ => fO) (fBr1 ih C I ls st G c s γ p.2) (fun Γ1 => fBr2 ih C I ls st G c s γ (ih C I.2.2.1 ls st G c s Γ1 γ) p.2) p.1
def fIf2 (r : List sV) (v : sV) : fO := @Bool.rec (fun _ => fO) (fStp ih C I pc ls st G c s Γ γ) (fBr ih C I ls r G c s γ (fCnd I.2.2.2.1 Γ (fSub v.2 (sC (Int.ofNat 0))))) (fI32 Γ.1 v.2)
def fIf1 (v : sV) (r : List sV) : fO := @Bool.rec (fun _ => fO) (fStp ih C I pc ls st G c s Γ γ) (fIf2 ih C I pc ls st G c s Γ γ r v) (Nat.beq v.1 0)
def fIf : fO := @List.rec sV (fun _ => fO) (fStp ih C I pc ls st G c s Γ γ) (fun v r _ => fIf1 ih C I pc ls st G c s Γ γ v r) st
def fCm3 (y x : sV) (r : List sV) : fO := @Bool.rec (fun _ => fO) (fStp ih C I pc ls st G c s Γ γ) (fBr ih C I ls r G c s γ (fCnd I.2.2.2.1 Γ (fSub x.2 y.2))) (@Bool.rec (fun _ => Bool) false (fI32 Γ.1 y.2) (fI32 Γ.1 x.2))
def fCm2 (y x : sV) (r : List sV) : fO := @Bool.rec (fun _ => fO) (fStp ih C I pc ls st G c s Γ γ) (fCm3 ih C I pc ls st G c s Γ γ y x r) (@Bool.rec (fun _ => Bool) false (Nat.beq x.1 0) (Nat.beq y.1 0))
def fCm1 (y : sV) (r : List sV) : fO := @List.rec sV (fun _ => fO) (fStp ih C I pc ls st G c s Γ γ) (fun x r _ => fCm2 ih C I pc ls st G c s Γ γ y x r) r
def fCm : fO := @List.rec sV (fun _ => fO) (fStp ih C I pc ls st G c s Γ γ) (fun y r _ => fCm1 ih C I pc ls st G c s Γ γ y r) st
def fGf4 (r : List sV) (v : sV) : fO := @Bool.rec (fun _ => fO) (ih C I.2.1 ls (v :: r) G c s Γ γ) (fStp ih C I pc ls st G c s Γ γ) (Nat.beq v.1 4)
def fGf3 (r : List sV) (ci : Nat) (fs : List sV) : fO := @Bool.rec (fun _ => fO) (fStp ih C I pc ls st G c s Γ γ)
  (@Option.rec sV (fun _ => fO) (fStp ih C I pc ls st G c s Γ γ) (fun v => fGf4 ih C I pc ls st G c s Γ γ r v) (sAt fs I.2.2.2.2.1.toNat)) (@Bool.rec (fun _ => Bool) (Nat.beq ci I.2.2.2.1) false (Nat.beq ci 999))
def fGf2 (r : List sV) (x : sE) : fO := @Sum.rec (FieldType × Nat × (Int × Int) × List (Nat × sL)) (Nat × List sV) (fun _ => fO) (fun _ => fStp ih C I pc ls st G c s Γ γ) (fun p => @Prod.rec Nat (List sV) (fun _ => fO) (fun ci fs => fGf3 ih C I pc ls st G c s Γ γ r ci fs) p) x
def fGf1 (v : sV) (r : List sV) : fO := @Bool.rec (fun _ => fO) (fStp ih C I pc ls st G c s Γ γ)
  (@Option.rec sE (fun _ => fO) (fStp ih C I pc ls st G c s Γ γ) (fun x => fGf2 ih C I pc ls st G c s Γ γ r x) (sAt G (Nat.sub v.2.1.toNat 5))) (@Bool.rec (fun _ => Bool) false (Nat.ble 5 v.2.1.toNat) (Nat.beq v.1 2))
def fGf : fO := @List.rec sV (fun _ => fO) (fStp ih C I pc ls st G c s Γ γ) (fun v r _ => fGf1 ih C I pc ls st G c s Γ γ v r) st
def fSt2 (v : sV) (r : List sV) : fO := @Bool.rec (fun _ => fO) (fStp ih C I pc ls st G c s Γ γ) (ih C I.2.1 (sSt1 ls I.2.2.1 v) r G c s Γ γ)
  (@Bool.rec (fun _ => Bool) false (@Bool.rec (fun _ => Bool) (Nat.ble (Nat.succ I.2.2.1) C.2.2.2.2.2.1) false (Nat.beq v.1 1)) (Nat.beq v.1 (Nat.mod I.2.2.2.1 3)))
def fSt : fO := @List.rec sV (fun _ => fO) (fStp ih C I pc ls st G c s Γ γ) (fun v r _ => fSt2 ih C I pc ls st G c s Γ γ v r) st
def fRe : fO := @Bool.rec (fun _ => fO) none (some [((pc, ls, st, G, c, s, Γ), γ)]) (sAns Γ.1 I.2.2.2.1 C.2.2.2.2.2.2.1 st)
def fOut (rs : List sV) (outs : List kS) : fO := fAll (fun o => fDes (fun _ _ st' G' c' s' Γ' γ' => ih C I.2.1 ls (st' ++ rs) G' (c + c') (s + s') Γ' γ') o) outs
def fCa4 (rs : List sV) (o : fO) : fO := @Option.rec (List kS) (fun _ => fO) none (fun outs => fOut ih C I ls c s rs outs) o
def fCa3 (as rs : List sV) : fO := @Option.rec eM (fun _ => fO) none (fun M2 => fCa4 ih C I ls c s rs (ih (C.1, C.2.1 + 1, I.2.2.2.1, M2) 0 (sArgs 0 as) [] G 0 0 Γ γ)) (eMTg I.2.2.2.1)
def fCa2 (as rs : List sV) : fO := @Bool.rec (fun _ => fO) none (fCa3 ih C I ls G c s Γ γ as rs) (fNN Γ (fSub C.1.1.2.2.2 (sC (C.2.1 + 2 : Nat))))
def fCa1 (as rs : List sV) : fO := @Option.rec (List kS) (fun _ => fO) (fCa2 ih C I ls G c s Γ γ as rs) (fun outs => fOut ih C I ls c s rs outs) (fUs (kDp kUDf) 86 C.1.1 C.1.2 (C.2.1 + 1) 0 0 (sArgs 0 as) G Γ γ (kCS I.2.2.2.1 0))
def fCa : fO := @Option.rec (List sV × List sV) (fun _ => fO) none (fun ar => fCa1 ih C I ls G c s Γ γ ar.1 ar.2) (sCallP kSOx eMTg I (pc, ls, st, G, c, s, Γ))
def fAr3 (r : List sV) (f : sL) : fO := @Bool.rec (fun _ => fO) (fStp ih C I pc ls st G c s Γ γ) (ih C I.2.1 ls ((0, f) :: r) G c s Γ γ) (fI32 Γ.1 f)
def fAr2 (y x : sV) (r : List sV) : fO := @Bool.rec (fun _ => fO) (@Bool.rec (fun _ => fO) (fStp ih C I pc ls st G c s Γ γ) (fAr3 ih C I pc ls st G c s Γ γ r (fSub x.2 y.2)) (Nat.beq I.2.2.2.1 1)) (fAr3 ih C I pc ls st G c s Γ γ r (fAdd x.2 y.2)) (Nat.beq I.2.2.2.1 0)
def fAr1 (y x : sV) (r : List sV) : fO := @Bool.rec (fun _ => fO) (fStp ih C I pc ls st G c s Γ γ) (fAr2 ih C I pc ls st G c s Γ γ y x r) (@Bool.rec (fun _ => Bool) false (Nat.beq x.1 0) (Nat.beq y.1 0))
def fAr0 (y : sV) (r : List sV) : fO := @List.rec sV (fun _ => fO) (fStp ih C I pc ls st G c s Γ γ) (fun x r _ => fAr1 ih C I pc ls st G c s Γ γ y x r) r
def fAr : fO := @List.rec sV (fun _ => fO) (fStp ih C I pc ls st G c s Γ γ) (fun y r _ => fAr0 ih C I pc ls st G c s Γ γ y r) st
def fIn3 (f : sL) : fO := @Bool.rec (fun _ => fO) (fStp ih C I pc ls st G c s Γ γ) (ih C I.2.1 (sSt1 ls I.2.2.1 (0, f)) st G c s Γ γ) (fI32 Γ.1 f)
def fIn2 (v : sV) : fO := @Bool.rec (fun _ => fO) (fStp ih C I pc ls st G c s Γ γ) (fIn3 ih C I pc ls st G c s Γ γ (fAdd v.2 (sC I.2.2.2.2.1))) (@Bool.rec (fun _ => Bool) false (Nat.ble (Nat.succ I.2.2.1) C.2.2.2.2.2.1) (Nat.beq v.1 0))
def fInc : fO := @Option.rec sV (fun _ => fO) (fStp ih C I pc ls st G c s Γ γ) (fun v => fIn2 ih C I pc ls st G c s Γ γ v) (sGetL ls I.2.2.1)
def fPu5 (v : sV) (r : List sV) (j ci : Nat) (fs : List sV) : fO := ih C I.2.1 ls r (sSet G j (.inr (ci, sSet fs I.2.2.2.2.1.toNat v))) c s Γ (fAt (kDp kUDf) (Nat.shiftLeft 1 j) γ)
def fPu4 (v : sV) (r : List sV) (j ci : Nat) (fs : List sV) : fO := @Bool.rec (fun _ => fO) (fStp ih C I pc ls st G c s Γ γ) (fPu5 ih C I ls G c s Γ γ v r j ci fs)
  (@Bool.rec (fun _ => Bool) false (@Bool.rec (fun _ => Bool) false (sFit Γ.1 (eCT I.2.2.2.1 I.2.2.2.2.1.toNat) v) (Nat.ble (Nat.succ I.2.2.2.2.1.toNat) (fLen fs))) (@Bool.rec (fun _ => Bool) (Nat.beq ci I.2.2.2.1) false (Nat.beq ci 999)))
def fPu3 (v : sV) (r : List sV) (j : Nat) (x : sE) : fO := @Sum.rec (FieldType × Nat × (Int × Int) × List (Nat × sL)) (Nat × List sV) (fun _ => fO) (fun _ => fStp ih C I pc ls st G c s Γ γ) (fun p => fPu4 ih C I pc ls st G c s Γ γ v r j p.1 p.2) x
def fPu2 (v : sV) (r : List sV) (j : Nat) : fO := @Bool.rec (fun _ => fO) (fStp ih C I pc ls st G c s Γ γ) (@Option.rec sE (fun _ => fO) (fStp ih C I pc ls st G c s Γ γ) (fun x => fPu3 ih C I pc ls st G c s Γ γ v r j x) (sAt G j)) (fBit C.1.2 j)
def fPu1 (v w : sV) (r : List sV) : fO := @Bool.rec (fun _ => fO) (fStp ih C I pc ls st G c s Γ γ) (fPu2 ih C I pc ls st G c s Γ γ v r (Nat.sub w.2.1.toNat 5)) (@Bool.rec (fun _ => Bool) false (Nat.ble 5 w.2.1.toNat) (Nat.beq w.1 2))
def fPu0 (v : sV) (r : List sV) : fO := @List.rec sV (fun _ => fO) (fStp ih C I pc ls st G c s Γ γ) (fun w r _ => fPu1 ih C I pc ls st G c s Γ γ v w r) r
def fPu : fO := @List.rec sV (fun _ => fO) (fStp ih C I pc ls st G c s Γ γ) (fun v r _ => fPu0 ih C I pc ls st G c s Γ γ v r) st
def fWt : fO := fK (fun K => fDes (ih C) K) (fWr kSOx eCL kUDf nKW kKWL C.1.1.1 I.2.1 I.2.2.2.1 ((pc, ls, st, G, c, s, Γ), γ))
/-- by what it does -/
def fO13 : fO := @Bool.rec (fun _ => fO) (fStp ih C I pc ls st G c s Γ γ) (fInc ih C I pc ls st G c s Γ γ) (Nat.beq I.1 5)
def fO12 : fO := @Bool.rec (fun _ => fO) (fO13 ih C I pc ls st G c s Γ γ) (fPu ih C I pc ls st G c s Γ γ) (Nat.beq I.1 17)
def fO11 : fO := @Bool.rec (fun _ => fO) (fO12 ih C I pc ls st G c s Γ γ) (fWt ih C I pc ls st G c s Γ γ) (Nat.beq I.1 20)
def fO10 : fO := @Bool.rec (fun _ => fO) (fO11 ih C I pc ls st G c s Γ γ) (fAr ih C I pc ls st G c s Γ γ) (Nat.beq I.1 6)
def fO9 : fO := @Bool.rec (fun _ => fO) (fO10 ih C I pc ls st G c s Γ γ) (fCa ih C I pc ls st G c s Γ γ) (Nat.ble 40 I.1)
def fO8 : fO := @Bool.rec (fun _ => fO) (fO9 ih C I pc ls st G c s Γ γ) (fRe C I pc ls st G c s Γ γ) (Nat.beq I.1 50)
def fO7 : fO := @Bool.rec (fun _ => fO) (fO8 ih C I pc ls st G c s Γ γ) (fSt ih C I pc ls st G c s Γ γ) (Nat.beq I.1 4)
def fO6 : fO := @Bool.rec (fun _ => fO) (fO7 ih C I pc ls st G c s Γ γ) (fGt ih C I ls st G c s Γ γ) (Nat.beq I.1 14)
def fO5 : fO := @Bool.rec (fun _ => fO) (fO6 ih C I pc ls st G c s Γ γ) (fIf ih C I pc ls st G c s Γ γ) (Nat.beq I.1 12)
def fO4 : fO := @Bool.rec (fun _ => fO) (fO5 ih C I pc ls st G c s Γ γ) (fCm ih C I pc ls st G c s Γ γ) (Nat.beq I.1 13)
def fO3 : fO := @Bool.rec (fun _ => fO) (fO4 ih C I pc ls st G c s Γ γ) (fGf ih C I pc ls st G c s Γ γ) (Nat.beq I.1 16)
def fO2 : fO := @Bool.rec (fun _ => fO) (fO3 ih C I pc ls st G c s Γ γ) (fPs ih C I ls st G c s Γ γ) (Nat.beq I.1 0)
def fOp : fO := @Bool.rec (fun _ => fO) (fO2 ih C I pc ls st G c s Γ γ) (fLd ih C I pc ls st G c s Γ γ) (Nat.beq I.1 3)
def fS2 : fO := @Option.rec (List kS) (fun _ => fO) (fOp ih C I pc ls st G c s Γ γ) (fun outs => some outs) (fUs (kDp kUDf) 86 C.1.1 C.1.2 C.2.1 c s ls G Γ γ (kCS C.2.2.1 pc))
def fS1 : fO := @List.rec kC (fun _ => fO) (fOp ih C I pc ls st G c s Γ γ) (fun _ _ _ => fS2 ih C I pc ls st G c s Γ γ) (kCS C.2.2.1 pc)
def fS : fO := @List.rec sV (fun _ => fO) (fS1 ih C I pc ls st G c s Γ γ) (fun _ _ _ => fOp ih C I pc ls st G c s Γ γ) st
def fSpc (p : Nat) : fO := @Bool.rec (fun _ => fO) none (fS ih C I p ls st G c s Γ γ) (Nat.beq pc p)
def fH2 (o : fO) : fO := fK (fun K => fDes (fun pc' ls st G c s Γ γ => fSpc ih C I pc' ls st G c s Γ γ pc) K) o
def fH : fO := @Option.rec (kS → fO) (fun _ => fO) (fS ih C I pc ls st G c s Γ γ) (fun h => fH2 ih C I pc (h ((pc, ls, st, G, c, s, Γ), γ))) (kHKo C.2.2.1 pc)
def fIn : Option eI := @Bool.rec (fun _ => Option eI) (C.2.2.2.2.2.2.2.2 pc) none (Nat.ble C.2.2.2.2.2.2.2.1 pc)
def fA : fO := @Option.rec eI (fun _ => fO) none (fun I => fH ih C I pc ls st G c s Γ γ) (fIn C pc)
def fP : fO := @Nat.rec (fun _ => fO) (fA ih C 0 ls st G c s Γ γ) (fun m _ => fA ih C (Nat.succ m) ls st G c s Γ γ) pc
end FDEF
def fGo (n : Nat) : fT := @Nat.rec (fun _ => fT) (fun _ _ _ _ _ _ _ _ _ => none) (fun _ ih C pc ls st G c s Γ γ => fP ih C pc ls st G c s Γ γ) n
/-- the run that it is -/
def fR (X : kX) (n i mi : Nat) (K : kS) : fO := kRun kSOx eMTg (kDp kUDf) 86 kHKx fKS kCS X n i mi K
def fIH (ih : fT) (X : kX) (m n : Nat) : Prop := ∀ (i mi : Nat) (M : eM), eMTg mi = some M → ∀ pc ls st G c s Γ γ, ih ((X, m), i, mi, M) pc ls st G c s Γ γ = fR X n i mi ((pc, ls, st, G, c, s, Γ), γ)
def fTg (X : kX) (n i mi : Nat) (M : eM) (I : eI) (K : kS) : fO := match fKS X.1 M.2.2.1 I K with
  | none => none
  | some L => kAll (fR X n i mi) L
theorem fBt {a b : Nat} (h : a = b) : Nat.beq a b = true := by
  subst h
  exact Nat.beq_refl a
theorem fBf {a b : Nat} (h : ¬ a = b) : Nat.beq a b = false := by
  cases e : Nat.beq a b with
  | false => rfl
  | true => exact absurd (Nat.eq_of_beq_eq_true e) h
theorem fLt {a b : Nat} (h : a ≤ b) : Nat.ble a b = true := Nat.ble_eq_true_of_le h
theorem fLf {a b : Nat} (h : ¬ a ≤ b) : Nat.ble a b = false := by
  cases e : Nat.ble a b with
  | false => rfl
  | true => exact absurd (Nat.le_of_ble_eq_true e) h
theorem fAnd {a b : Bool} (h : @Bool.rec (fun _ => Bool) false a b = true) : b = true ∧ a = true := by
  cases b with
  | false => cases h
  | true => exact ⟨rfl, h⟩
theorem fNot {a b : Bool} (h : @Bool.rec (fun _ => Bool) a false b = true) : b = false ∧ a = true := by
  cases b with
  | false => exact ⟨rfl, h⟩
  | true => cases h
theorem fK_eq (f : kS → fO) (o : fO) : fK f o = match o with
    | none => none
    | some L => kAll f L := by
  cases o with
  | none => rfl
  | some L => exact fAll_eq f L
section FEQ
variable {ih : fT} {X : kX} {m n i mi : Nat} {M : eM} {pc : Nat} {ls : List (Nat × sV)} {st : List sV} {G : List sE} {c s : Nat} {Γ : sG} {γ : List kA}
theorem fDes_fun (h : fIH ih X m n) (hM : eMTg mi = some M) : (fun K => fDes (ih ((X, m), i, mi, M)) K) = fR X n i mi := by
  funext K
  obtain ⟨⟨pc, ls, st, G, c, s, Γ⟩, γ⟩ := K
  exact h i mi M hM pc ls st G c s Γ γ
theorem fStp_eq (h : fIH ih X m n) (hM : eMTg mi = some M) {I : eI} : fStp ih ((X, m), i, mi, M) I pc ls st G c s Γ γ = fTg X n i mi M I ((pc, ls, st, G, c, s, Γ), γ) := by
  unfold fStp fTg
  rw [fK_eq, fDes_fun h hM]
  rfl
theorem fOne (h : fIH ih X m n) (hM : eMTg mi = some M) {I : eI} {K : kS} {pc' : Nat} {ls' : List (Nat × sV)} {st' : List sV} {G' : List sE} {c' s' : Nat} {Γ' : sG} {γ' : List kA} (e : fKS X.1 M.2.2.1 I K = some [((pc', ls', st', G', c', s', Γ'), γ')]) :
    ih ((X, m), i, mi, M) pc' ls' st' G' c' s' Γ' γ' = fTg X n i mi M I K := by
  unfold fTg
  rw [e]
  simp only
  rw [kAll_1]
  exact h i mi M hM _ _ _ _ _ _ _ _
theorem fS3 {md : Nat → Bool} {mL nx a b : Nat} {z : Int} {ws : List Nat} {sw : List (Int × Nat)} {S : sR} : fKS md mL (3, nx, a, b, z, ws, sw) (S, γ) = (s3 nx a b S).map fun L => L.map fun S => (S, γ) := rfl
theorem fS0 {md : Nat → Bool} {mL nx a b : Nat} {z : Int} {ws : List Nat} {sw : List (Int × Nat)} : fKS md mL (0, nx, a, b, z, ws, sw) ((pc, ls, st, G, c, s, Γ), γ) = some [((nx, ls, (0, sC z) :: st, G, c, s, Γ), γ)] := rfl
theorem fS4 {md : Nat → Bool} {mL nx a b : Nat} {z : Int} {ws : List Nat} {sw : List (Int × Nat)} {S : sR} : fKS md mL (4, nx, a, b, z, ws, sw) (S, γ) = (s4 mL nx a b S).map fun L => L.map fun S => (S, γ) := rfl
theorem fS12 {md : Nat → Bool} {mL nx a b : Nat} {z : Int} {ws : List Nat} {sw : List (Int × Nat)} {S : sR} : fKS md mL (12, nx, a, b, z, ws, sw) (S, γ) = (s12 nx a b S).map fun L => L.map fun S => (S, γ) := rfl
theorem fS13 {md : Nat → Bool} {mL nx a b : Nat} {z : Int} {ws : List Nat} {sw : List (Int × Nat)} {S : sR} : fKS md mL (13, nx, a, b, z, ws, sw) (S, γ) = (s13 nx a b S).map fun L => L.map fun S => (S, γ) := rfl
theorem fS14 {md : Nat → Bool} {mL nx a b : Nat} {z : Int} {ws : List Nat} {sw : List (Int × Nat)} : fKS md mL (14, nx, a, b, z, ws, sw) ((pc, ls, st, G, c, s, Γ), γ) = some [((a, ls, st, G, c, s, Γ), γ)] := rfl
theorem fS16 {md : Nat → Bool} {mL nx a b : Nat} {z : Int} {ws : List Nat} {sw : List (Int × Nat)} {S : sR} : fKS md mL (16, nx, a, b, z, ws, sw) (S, γ) = (s16 kSOx nx b z.toNat S).map fun L => L.map fun S => (S, γ) := rfl
theorem fLd_eq (h : fIH ih X m n) (hM : eMTg mi = some M) {nx a b : Nat} {z : Int} {ws : List Nat} {sw : List (Int × Nat)} :
    fLd ih ((X, m), i, mi, M) (3, nx, a, b, z, ws, sw) pc ls st G c s Γ γ = fTg X n i mi M (3, nx, a, b, z, ws, sw) ((pc, ls, st, G, c, s, Γ), γ) := by
  unfold fLd
  cases hg : sGetL ls a with
  | none => exact fStp_eq h hM
  | some v =>
    show fLd2 ih ((X, m), i, mi, M) (3, nx, a, b, z, ws, sw) pc ls st G c s Γ γ v = _
    unfold fLd2
    cases hb : Nat.beq v.1 (Nat.mod b 3) with
    | false => exact fStp_eq h hM
    | true =>
      refine fOne h hM ?_
      rw [fS3]
      show Option.map _ (match sGetL ls a with
        | some v => if v.1 = b % 3 then some [(nx, ls, v :: st, G, c, s, Γ)] else none
        | none => none) = _
      rw [hg]
      simp only
      rw [if_pos (show v.1 = b % 3 from Nat.eq_of_beq_eq_true hb)]
      rfl
theorem fSt_eq (h : fIH ih X m n) (hM : eMTg mi = some M) {nx a b : Nat} {z : Int} {ws : List Nat} {sw : List (Int × Nat)} :
    fSt ih ((X, m), i, mi, M) (4, nx, a, b, z, ws, sw) pc ls st G c s Γ γ = fTg X n i mi M (4, nx, a, b, z, ws, sw) ((pc, ls, st, G, c, s, Γ), γ) := by
  cases st with
  | nil => exact fStp_eq h hM
  | cons v r =>
    show fSt2 ih ((X, m), i, mi, M) (4, nx, a, b, z, ws, sw) pc ls (v :: r) G c s Γ γ v r = _
    unfold fSt2
    cases hb : (@Bool.rec (fun _ => Bool) false (@Bool.rec (fun _ => Bool) (Nat.ble (Nat.succ a) M.2.2.1) false (Nat.beq v.1 1)) (Nat.beq v.1 (Nat.mod b 3)) : Bool) with
    | false =>
      exact fStp_eq h hM
    | true =>
      obtain ⟨h1, h2⟩ := fAnd hb
      obtain ⟨h3, h4⟩ := fNot h2
      have e1 : v.1 = b % 3 := Nat.eq_of_beq_eq_true h1
      have e2 : ¬ b % 3 = 1 := fun e => by
        rw [e1, e, Nat.beq_refl] at h3
        cases h3
      have e3 : a < M.2.2.1 := Nat.le_of_ble_eq_true h4
      refine fOne h hM ?_
      rw [fS4]
      show Option.map _ (if v.1 = b % 3 then (if b % 3 = 1 then (if a + 1 < M.2.2.1 then some [(nx, sSt2 ls a v, r, G, c, s, Γ)] else none) else (if a < M.2.2.1 then some [(nx, sSt1 ls a v, r, G, c, s, Γ)] else none)) else none) = _
      rw [if_pos e1, if_neg e2, if_pos e3]
      rfl
theorem fBr_eq (h : fIH ih X m n) (hM : eMTg mi = some M) {I : eI} {K : kS} {r : List sV} {p : Option sG × Option sG} (e : fKS X.1 M.2.2.1 I K = (some (sOpt p.1 (fun Γ' => (I.2.2.1, ls, r, G, c, s, Γ')) ++ sOpt p.2 (fun Γ' => (I.2.1, ls, r, G, c, s, Γ')))).map fun L => L.map fun S => (S, γ)) :
    fBr ih ((X, m), i, mi, M) I ls r G c s γ p = fTg X n i mi M I K := by
  unfold fTg
  rw [e]
  obtain ⟨p1, p2⟩ := p
  unfold fBr
  cases p1 with
  | none =>
    cases p2 with
    | none => rfl
    | some Γ2 =>
      show ih ((X, m), i, mi, M) I.2.1 ls r G c s Γ2 γ = kAll (fR X n i mi) [((I.2.1, ls, r, G, c, s, Γ2), γ)]
      rw [kAll_1]
      exact h i mi M hM _ _ _ _ _ _ _ _
  | some Γ1 =>
    cases p2 with
    | none =>
      show ih ((X, m), i, mi, M) I.2.2.1 ls r G c s Γ1 γ = kAll (fR X n i mi) [((I.2.2.1, ls, r, G, c, s, Γ1), γ)]
      rw [kAll_1]
      exact h i mi M hM _ _ _ _ _ _ _ _
    | some Γ2 =>
      show fJo (ih ((X, m), i, mi, M) I.2.2.1 ls r G c s Γ1 γ) (ih ((X, m), i, mi, M) I.2.1 ls r G c s Γ2 γ) = kAll (fR X n i mi) [((I.2.2.1, ls, r, G, c, s, Γ1), γ), ((I.2.1, ls, r, G, c, s, Γ2), γ)]
      rw [kAll_c, kAll_1, h i mi M hM, h i mi M hM]
theorem fIf_eq (h : fIH ih X m n) (hM : eMTg mi = some M) {nx a b : Nat} {z : Int} {ws : List Nat} {sw : List (Int × Nat)} :
    fIf ih ((X, m), i, mi, M) (12, nx, a, b, z, ws, sw) pc ls st G c s Γ γ = fTg X n i mi M (12, nx, a, b, z, ws, sw) ((pc, ls, st, G, c, s, Γ), γ) := by
  cases st with
  | nil => exact fStp_eq h hM
  | cons v r =>
    obtain ⟨k, x⟩ := v
    show fIf1 ih ((X, m), i, mi, M) (12, nx, a, b, z, ws, sw) pc ls ((k, x) :: r) G c s Γ γ (k, x) r = _
    unfold fIf1
    cases hb : Nat.beq k 0 with
    | false =>
      exact fStp_eq h hM
    | true =>
      obtain rfl : k = 0 := Nat.eq_of_beq_eq_true hb
      show fIf2 ih ((X, m), i, mi, M) (12, nx, a, b, z, ws, sw) pc ls ((0, x) :: r) G c s Γ γ r (0, x) = _
      unfold fIf2
      cases hi : fI32 Γ.1 x with
      | false =>
        exact fStp_eq h hM
      | true =>
        refine fBr_eq (I := (12, nx, a, b, z, ws, sw)) h hM ?_
        rw [fI32_eq] at hi
        simp only [fCnd_eq, fSub_eq]
        rw [fS12]
        show Option.map _ (if sI32 Γ.1 x = true then _ else none) = _
        rw [if_pos hi]
        all_goals rfl
theorem fCm_eq (h : fIH ih X m n) (hM : eMTg mi = some M) {nx a b : Nat} {z : Int} {ws : List Nat} {sw : List (Int × Nat)} :
    fCm ih ((X, m), i, mi, M) (13, nx, a, b, z, ws, sw) pc ls st G c s Γ γ = fTg X n i mi M (13, nx, a, b, z, ws, sw) ((pc, ls, st, G, c, s, Γ), γ) := by
  cases st with
  | nil => exact fStp_eq h hM
  | cons v r =>
    cases r with
    | nil => exact fStp_eq h hM
    | cons w r =>
      obtain ⟨k, y⟩ := v
      obtain ⟨l, x⟩ := w
      show fCm2 ih ((X, m), i, mi, M) (13, nx, a, b, z, ws, sw) pc ls ((k, y) :: (l, x) :: r) G c s Γ γ (k, y) (l, x) r = _
      unfold fCm2
      cases hb : (@Bool.rec (fun _ => Bool) false (Nat.beq l 0) (Nat.beq k 0) : Bool) with
      | false =>
        exact fStp_eq h hM
      | true =>
        obtain ⟨h1, h2⟩ := fAnd hb
        obtain rfl : k = 0 := Nat.eq_of_beq_eq_true h1
        obtain rfl : l = 0 := Nat.eq_of_beq_eq_true h2
        show fCm3 ih ((X, m), i, mi, M) (13, nx, a, b, z, ws, sw) pc ls ((0, y) :: (0, x) :: r) G c s Γ γ (0, y) (0, x) r = _
        unfold fCm3
        cases hi : (@Bool.rec (fun _ => Bool) false (fI32 Γ.1 y) (fI32 Γ.1 x) : Bool) with
        | false =>
          exact fStp_eq h hM
        | true =>
          obtain ⟨i1, i2⟩ := fAnd hi
          rw [fI32_eq] at i1 i2
          refine fBr_eq (I := (13, nx, a, b, z, ws, sw)) h hM ?_
          simp only [fCnd_eq, fSub_eq]
          rw [fS13]
          show Option.map _ (if sI32 Γ.1 x = true ∧ sI32 Γ.1 y = true then _ else none) = _
          rw [if_pos ⟨i1, i2⟩]
          all_goals rfl
theorem kSOx_len : kSOx.length = 5 := rfl
theorem fGf_eq (h : fIH ih X m n) (hM : eMTg mi = some M) {nx a b : Nat} {z : Int} {ws : List Nat} {sw : List (Int × Nat)} :
    fGf ih ((X, m), i, mi, M) (16, nx, a, b, z, ws, sw) pc ls st G c s Γ γ = fTg X n i mi M (16, nx, a, b, z, ws, sw) ((pc, ls, st, G, c, s, Γ), γ) := by
  cases st with
  | nil => exact fStp_eq h hM
  | cons v r =>
    obtain ⟨k, q⟩ := v
    show fGf1 ih ((X, m), i, mi, M) (16, nx, a, b, z, ws, sw) pc ls ((k, q) :: r) G c s Γ γ (k, q) r = _
    unfold fGf1
    cases hb : (@Bool.rec (fun _ => Bool) false (Nat.ble 5 q.1.toNat) (Nat.beq k 2) : Bool) with
    | false =>
      exact fStp_eq h hM
    | true =>
      obtain ⟨h1, h2⟩ := fAnd hb
      obtain rfl : k = 2 := Nat.eq_of_beq_eq_true h1
      have h5 : ¬ q.1.toNat < kSOx.length := by
        rw [kSOx_len]
        exact Nat.not_lt.mpr (Nat.le_of_ble_eq_true h2)
      cases hx : sAt G (Nat.sub q.1.toNat 5) with
      | none =>
        exact fStp_eq h hM
      | some x =>
        rcases x with y | ⟨ci, fs⟩
        · exact fStp_eq h hM
        · show fGf3 ih ((X, m), i, mi, M) (16, nx, a, b, z, ws, sw) pc ls ((2, q) :: r) G c s Γ γ r ci fs = _
          unfold fGf3
          cases hc : (@Bool.rec (fun _ => Bool) (Nat.beq ci b) false (Nat.beq ci 999) : Bool) with
          | false =>
            exact fStp_eq h hM
          | true =>
            obtain ⟨n1, n2⟩ := fNot hc
            have e1 : ci = b := Nat.eq_of_beq_eq_true n2
            have e2 : ci ≠ 999 := fun e => by
              rw [e, Nat.beq_refl] at n1
              cases n1
            cases hv : sAt fs z.toNat with
            | none =>
              exact fStp_eq h hM
            | some v =>
              show fGf4 ih ((X, m), i, mi, M) (16, nx, a, b, z, ws, sw) pc ls ((2, q) :: r) G c s Γ γ r v = _
              unfold fGf4
              cases h4 : Nat.beq v.1 4 with
              | true => exact fStp_eq h hM
              | false =>
                have e4 : ¬ v.1 = 4 := fun e => by
                  rw [e] at h4
                  cases h4
                refine fOne h hM ?_
                rw [fS16]
                have hx' : sAt G (q.1.toNat - kSOx.length) = some (.inr (ci, fs)) := by
                  rw [kSOx_len]
                  exact hx
                unfold s16
                simp only
                rw [if_neg h5, hx']
                simp only
                rw [if_pos ⟨e1, e2⟩, hv]
                simp only [Option.map_some, if_neg e4, List.map_cons, List.map_nil]
theorem fS6 {md : Nat → Bool} {mL nx a b : Nat} {z : Int} {ws : List Nat} {sw : List (Int × Nat)} {S : sR} : fKS md mL (6, nx, a, b, z, ws, sw) (S, γ) = (k6 nx b S).map fun L => L.map fun S => (S, γ) := rfl
theorem fS5 {md : Nat → Bool} {mL nx a b : Nat} {z : Int} {ws : List Nat} {sw : List (Int × Nat)} {S : sR} : fKS md mL (5, nx, a, b, z, ws, sw) (S, γ) = (s5 mL nx a z S).map fun L => L.map fun S => (kNormL S, γ) := rfl
theorem fS17 {md : Nat → Bool} {mL nx a b : Nat} {z : Int} {ws : List Nat} {sw : List (Int × Nat)} {K : kS} : fKS md mL (17, nx, a, b, z, ws, sw) K = kFl kSOx eCT kUDf md nx b z.toNat K := rfl
theorem fS20 {md : Nat → Bool} {mL nx a b : Nat} {z : Int} {ws : List Nat} {sw : List (Int × Nat)} {K : kS} : fKS md mL (20, nx, a, b, z, ws, sw) K = kWr kSOx eCL kUDf nKW kKWL md nx b K := rfl
theorem fWt_eq (h : fIH ih X m n) (hM : eMTg mi = some M) {nx a b : Nat} {z : Int} {ws : List Nat} {sw : List (Int × Nat)} :
    fWt ih ((X, m), i, mi, M) (20, nx, a, b, z, ws, sw) pc ls st G c s Γ γ = fTg X n i mi M (20, nx, a, b, z, ws, sw) ((pc, ls, st, G, c, s, Γ), γ) := by
  unfold fWt fTg
  rw [fK_eq, fDes_fun h hM, fWr_eq, fS20]
  rfl
theorem fAr3_eq (h : fIH ih X m n) (hM : eMTg mi = some M) {I : eI} {r : List sV} {f : sL} (e : fI32 Γ.1 f = true → fKS X.1 M.2.2.1 I ((pc, ls, st, G, c, s, Γ), γ) = some [((I.2.1, ls, (0, f) :: r, G, c, s, Γ), γ)]) :
    fAr3 ih ((X, m), i, mi, M) I pc ls st G c s Γ γ r f = fTg X n i mi M I ((pc, ls, st, G, c, s, Γ), γ) := by
  unfold fAr3
  cases hb : fI32 Γ.1 f with
  | false => exact fStp_eq h hM
  | true => exact fOne h hM (e hb)
theorem fAr_eq (h : fIH ih X m n) (hM : eMTg mi = some M) {nx a b : Nat} {z : Int} {ws : List Nat} {sw : List (Int × Nat)} :
    fAr ih ((X, m), i, mi, M) (6, nx, a, b, z, ws, sw) pc ls st G c s Γ γ = fTg X n i mi M (6, nx, a, b, z, ws, sw) ((pc, ls, st, G, c, s, Γ), γ) := by
  cases st with
  | nil => exact fStp_eq h hM
  | cons v r =>
    cases r with
    | nil => exact fStp_eq h hM
    | cons w r =>
      obtain ⟨k, y⟩ := v
      obtain ⟨l, x⟩ := w
      show fAr1 ih ((X, m), i, mi, M) (6, nx, a, b, z, ws, sw) pc ls ((k, y) :: (l, x) :: r) G c s Γ γ (k, y) (l, x) r = _
      unfold fAr1
      cases hb : (@Bool.rec (fun _ => Bool) false (Nat.beq l 0) (Nat.beq k 0) : Bool) with
      | false => exact fStp_eq h hM
      | true =>
        obtain ⟨h1, h2⟩ := fAnd hb
        obtain rfl : k = 0 := Nat.eq_of_beq_eq_true h1
        obtain rfl : l = 0 := Nat.eq_of_beq_eq_true h2
        show fAr2 ih ((X, m), i, mi, M) (6, nx, a, b, z, ws, sw) pc ls ((0, y) :: (0, x) :: r) G c s Γ γ (0, y) (0, x) r = _
        unfold fAr2
        by_cases b0 : b = 0
        · subst b0
          show fAr3 ih ((X, m), i, mi, M) (6, nx, a, 0, z, ws, sw) pc ls ((0, y) :: (0, x) :: r) G c s Γ γ r (fAdd x y) = _
          refine fAr3_eq h hM fun hi => ?_
          rw [fI32_eq, fAdd_eq] at hi
          rw [fAdd_eq, fS6]
          show Option.map _ ((kBin Γ 0 x y).map fun r' => [kNormT (nx, ls, (0, r'.1) :: r, G, c, s, r'.2)]) = _
          rw [kBin0]
          show some [((nx, ls, (0, (kN32 (sAdd x y) Γ).1) :: r, G, c, s, (kN32 (sAdd x y) Γ).2), γ)] = _
          rw [kN32_in hi]
        · show @Bool.rec (fun _ => fO) _ _ (Nat.beq b 0) = _
          rw [fBf b0]
          by_cases b1 : b = 1
          · subst b1
            show fAr3 ih ((X, m), i, mi, M) (6, nx, a, 1, z, ws, sw) pc ls ((0, y) :: (0, x) :: r) G c s Γ γ r (fSub x y) = _
            refine fAr3_eq h hM fun hi => ?_
            rw [fI32_eq, fSub_eq] at hi
            rw [fSub_eq, fS6]
            show Option.map _ ((kBin Γ 1 x y).map fun r' => [kNormT (nx, ls, (0, r'.1) :: r, G, c, s, r'.2)]) = _
            rw [kBin1]
            show some [((nx, ls, (0, (kN32 (sSub x y) Γ).1) :: r, G, c, s, (kN32 (sSub x y) Γ).2), γ)] = _
            rw [kN32_in hi]
          · show @Bool.rec (fun _ => fO) _ _ (Nat.beq b 1) = _
            rw [fBf b1]
            exact fStp_eq h hM
theorem fInc_eq (h : fIH ih X m n) (hM : eMTg mi = some M) {nx a b : Nat} {z : Int} {ws : List Nat} {sw : List (Int × Nat)} :
    fInc ih ((X, m), i, mi, M) (5, nx, a, b, z, ws, sw) pc ls st G c s Γ γ = fTg X n i mi M (5, nx, a, b, z, ws, sw) ((pc, ls, st, G, c, s, Γ), γ) := by
  unfold fInc
  cases hg : sGetL ls a with
  | none => exact fStp_eq h hM
  | some v =>
    show fIn2 ih ((X, m), i, mi, M) (5, nx, a, b, z, ws, sw) pc ls st G c s Γ γ v = _
    unfold fIn2
    cases hb : (@Bool.rec (fun _ => Bool) false (Nat.ble (Nat.succ a) M.2.2.1) (Nat.beq v.1 0) : Bool) with
    | false => exact fStp_eq h hM
    | true =>
      obtain ⟨h1, h2⟩ := fAnd hb
      show fIn3 ih ((X, m), i, mi, M) (5, nx, a, b, z, ws, sw) pc ls st G c s Γ γ (fAdd v.2 (sC z)) = _
      unfold fIn3
      cases hi : fI32 Γ.1 (fAdd v.2 (sC z)) with
      | false => exact fStp_eq h hM
      | true =>
        refine fOne h hM ?_
        rw [fI32_eq, fAdd_eq] at hi
        rw [fAdd_eq, fS5]
        show Option.map _ (match sGetL ls a with
          | some v => if v.1 = 0 ∧ a < M.2.2.1 then some [(nx, sSt1 ls a (0, sAdd v.2 (sC z)), st, G, c, s, Γ)] else none
          | none => none) = _
        rw [hg]
        simp only
        rw [if_pos ⟨Nat.eq_of_beq_eq_true h1, Nat.le_of_ble_eq_true h2⟩]
        show some [((nx, (a, (0, (kN32 (sAdd v.2 (sC z)) Γ).1)) :: (sSt1 ls a (0, sAdd v.2 (sC z))).tail, st, G, c, s, (kN32 (sAdd v.2 (sC z)) Γ).2), γ)] = _
        rw [kN32_in hi]
        rfl
theorem fPu_eq (hm : ∀ j, fBit m j = true → X.1 j = true) (h : fIH ih X m n) (hM : eMTg mi = some M) {nx a b : Nat} {z : Int} {ws : List Nat} {sw : List (Int × Nat)} :
    fPu ih ((X, m), i, mi, M) (17, nx, a, b, z, ws, sw) pc ls st G c s Γ γ = fTg X n i mi M (17, nx, a, b, z, ws, sw) ((pc, ls, st, G, c, s, Γ), γ) := by
  cases st with
  | nil => exact fStp_eq h hM
  | cons v r =>
    cases r with
    | nil =>
      show fStp ih ((X, m), i, mi, M) (17, nx, a, b, z, ws, sw) pc ls [v] G c s Γ γ = _
      exact fStp_eq h hM
    | cons w r =>
      obtain ⟨k, q⟩ := w
      show fPu1 ih ((X, m), i, mi, M) (17, nx, a, b, z, ws, sw) pc ls (v :: (k, q) :: r) G c s Γ γ v (k, q) r = _
      unfold fPu1
      cases hb : (@Bool.rec (fun _ => Bool) false (Nat.ble 5 q.1.toNat) (Nat.beq k 2) : Bool) with
      | false => exact fStp_eq h hM
      | true =>
        obtain ⟨h1, h2⟩ := fAnd hb
        obtain rfl : k = 2 := Nat.eq_of_beq_eq_true h1
        have h5 : ¬ q.1.toNat < kSOx.length := by
          rw [kSOx_len]
          exact Nat.not_lt.mpr (Nat.le_of_ble_eq_true h2)
        show fPu2 ih ((X, m), i, mi, M) (17, nx, a, b, z, ws, sw) pc ls (v :: (2, q) :: r) G c s Γ γ v r (Nat.sub q.1.toNat 5) = _
        unfold fPu2
        cases hbt : fBit m (Nat.sub q.1.toNat 5) with
        | false => exact fStp_eq h hM
        | true =>
          have hmd : X.1 (q.1.toNat - kSOx.length) = true := by
            rw [kSOx_len]
            exact hm _ hbt
          cases hx : sAt G (Nat.sub q.1.toNat 5) with
          | none => exact fStp_eq h hM
          | some x =>
            rcases x with y | ⟨ci, fs⟩
            · exact fStp_eq h hM
            · show fPu4 ih ((X, m), i, mi, M) (17, nx, a, b, z, ws, sw) pc ls (v :: (2, q) :: r) G c s Γ γ v r (Nat.sub q.1.toNat 5) ci fs = _
              unfold fPu4
              cases hc : (@Bool.rec (fun _ => Bool) false (@Bool.rec (fun _ => Bool) false (sFit Γ.1 (eCT b z.toNat) v) (Nat.ble (Nat.succ z.toNat) (fLen fs))) (@Bool.rec (fun _ => Bool) (Nat.beq ci b) false (Nat.beq ci 999)) : Bool) with
              | false => exact fStp_eq h hM
              | true =>
                obtain ⟨c1, c2⟩ := fAnd hc
                obtain ⟨n1, n2⟩ := fNot c1
                obtain ⟨c3, c4⟩ := fAnd c2
                rw [fLen_eq] at c3
                have e1 : ci = b := Nat.eq_of_beq_eq_true n2
                have e2 : ci ≠ 999 := fun e => by
                  rw [e, Nat.beq_refl] at n1
                  cases n1
                refine fOne h hM ?_
                rw [fS17, fRest_eq]
                have hx' : sAt G (q.1.toNat - kSOx.length) = some (.inr (ci, fs)) := by
                  rw [kSOx_len]
                  exact hx
                show (if X.1 (q.1.toNat - kSOx.length) = true then (s17 kSOx eCT nx b z.toNat (pc, ls, v :: (2, q) :: r, G, c, s, Γ)).map fun L => L.map fun S => (S, kRest kUDf (q.1.toNat - kSOx.length) γ) else none) = _
                rw [if_pos hmd]
                unfold s17
                simp only
                rw [if_neg h5, hx']
                simp only
                rw [if_pos ⟨⟨e1, e2⟩, Nat.le_of_ble_eq_true c3, c4⟩]
                rw [kSOx_len]
                rfl
theorem fOut_eq (h : fIH ih X m n) (hM : eMTg mi = some M) {I : eI} {rs : List sV} {outs : List kS} : fOut ih ((X, m), i, mi, M) I ls c s rs outs = kAll (fun o => fR X n i mi ((I.2.1, ls, o.1.2.2.1 ++ rs, o.1.2.2.2.1, c + o.1.2.2.2.2.1, s + o.1.2.2.2.2.2.1, o.1.2.2.2.2.2.2), o.2)) outs := by
  unfold fOut
  rw [fAll_eq]
  congr 1
  funext o
  obtain ⟨⟨pc', ls', st', G', c', s', Γ'⟩, γ'⟩ := o
  exact h i mi M hM _ _ _ _ _ _ _ _
/-- what a call comes to -/
def fCg (X : kX) (n i mi : Nat) (I : eI) (K : kS) : fO := match sCallP kSOx eMTg I K.1 with
  | none => none
  | some ar => match kUse (kDp kUDf) 86 X (i + 1) 0 0 (sArgs 0 ar.1) K.1.2.2.2.1 K.1.2.2.2.2.2.2 K.2 (kCS I.2.2.2.1 0) with
    | some outs => kAll (fun o => fR X n i mi ((I.2.1, K.1.2.1, o.1.2.2.1 ++ ar.2, o.1.2.2.2.1, K.1.2.2.2.2.1 + o.1.2.2.2.2.1, K.1.2.2.2.2.2.1 + o.1.2.2.2.2.2.1, o.1.2.2.2.2.2.2), o.2)) outs
    | none => if sNN K.1.2.2.2.2.2.2 (sSub X.2.2.2 (sC (i + 2 : Nat))) = true then (match fR X n (i + 1) I.2.2.2.1 ((0, sArgs 0 ar.1, [], K.1.2.2.2.1, 0, 0, K.1.2.2.2.2.2.2), K.2) with
      | none => none
      | some outs => kAll (fun o => fR X n i mi ((I.2.1, K.1.2.1, o.1.2.2.1 ++ ar.2, o.1.2.2.2.1, K.1.2.2.2.2.1 + o.1.2.2.2.2.1, K.1.2.2.2.2.2.1 + o.1.2.2.2.2.2.1, o.1.2.2.2.2.2.2), o.2)) outs) else none
theorem fR_none (hm : eMTg mi = none) {K : kS} : fR X n i mi K = none := by
  unfold fR
  cases n with
  | zero => rfl
  | succ n => simp only [kRun, hm]
theorem fCa_eq (hm : ∀ j, fBit m j = true → X.1 j = true) (h : fIH ih X m n) (hM : eMTg mi = some M) {I : eI} : fCa ih ((X, m), i, mi, M) I pc ls st G c s Γ γ = fCg X n i mi I ((pc, ls, st, G, c, s, Γ), γ) := by
  unfold fCa fCg
  cases ha : sCallP kSOx eMTg I (pc, ls, st, G, c, s, Γ) with
  | none => rfl
  | some ar =>
    obtain ⟨as, rs⟩ := ar
    show fCa1 ih ((X, m), i, mi, M) I ls G c s Γ γ as rs = _
    unfold fCa1
    simp only [fUs_eq _ _ hm]
    cases hu : kUse (kDp kUDf) 86 X (i + 1) 0 0 (sArgs 0 as) G Γ γ (kCS I.2.2.2.1 0) with
    | some outs => exact fOut_eq h hM
    | none =>
      show fCa2 ih ((X, m), i, mi, M) I ls G c s Γ γ as rs = _
      unfold fCa2
      simp only [fNN_eq, fSub_eq]
      cases hn : sNN Γ (sSub X.2.2.2 (sC (i + 2 : Nat))) with
      | false => rw [if_neg Bool.false_ne_true]
      | true =>
        rw [if_pos rfl]
        show fCa3 ih ((X, m), i, mi, M) I ls G c s Γ γ as rs = _
        unfold fCa3
        cases hm : eMTg I.2.2.2.1 with
        | none => rw [fR_none hm]
        | some M2 =>
          show fCa4 ih ((X, m), i, mi, M) I ls c s rs (ih ((X, m), i + 1, I.2.2.2.1, M2) 0 (sArgs 0 as) [] G 0 0 Γ γ) = _
          rw [h (i + 1) _ M2 hm]
          unfold fCa4
          cases hr : fR X n (i + 1) I.2.2.2.1 ((0, sArgs 0 as, [], G, 0, 0, Γ), γ) with
          | none => rfl
          | some outs => exact fOut_eq h hM
/-- what a place comes to, contracts aside -/
def fPg (X : kX) (n i mi : Nat) (M : eM) (I : eI) (K : kS) : fO :=
  if I.1 = 50 then (if sAns K.1.2.2.2.2.2.2.1 I.2.2.2.1 M.2.2.2.1 K.1.2.2.1 = true then some [K] else none)
  else if 40 ≤ I.1 then fCg X n i mi I K else fTg X n i mi M I K
theorem fOp_eq (hm : ∀ j, fBit m j = true → X.1 j = true) (h : fIH ih X m n) (hM : eMTg mi = some M) {I : eI} : fOp ih ((X, m), i, mi, M) I pc ls st G c s Γ γ = fPg X n i mi M I ((pc, ls, st, G, c, s, Γ), γ) := by
  obtain ⟨op, nx, a, b, z, ws, sw⟩ := I
  have lo : ∀ {k : Nat}, op = k → k < 40 → fPg X n i mi M (op, nx, a, b, z, ws, sw) ((pc, ls, st, G, c, s, Γ), γ) = fTg X n i mi M (op, nx, a, b, z, ws, sw) ((pc, ls, st, G, c, s, Γ), γ) := by
    intro k e hk
    unfold fPg
    simp only
    rw [if_neg (by omega), if_neg (by omega)]
  by_cases o3 : op = 3
  · rw [lo o3 (by decide)]
    subst o3
    exact fLd_eq h hM
  show @Bool.rec (fun _ => fO) _ _ (Nat.beq op 3) = _
  rw [fBf o3]
  show fO2 ih ((X, m), i, mi, M) (op, nx, a, b, z, ws, sw) pc ls st G c s Γ γ = _
  by_cases o0 : op = 0
  · rw [lo o0 (by decide)]
    subst o0
    exact fOne h hM fS0
  show @Bool.rec (fun _ => fO) _ _ (Nat.beq op 0) = _
  rw [fBf o0]
  show fO3 ih ((X, m), i, mi, M) (op, nx, a, b, z, ws, sw) pc ls st G c s Γ γ = _
  by_cases o16 : op = 16
  · rw [lo o16 (by decide)]
    subst o16
    exact fGf_eq h hM
  show @Bool.rec (fun _ => fO) _ _ (Nat.beq op 16) = _
  rw [fBf o16]
  show fO4 ih ((X, m), i, mi, M) (op, nx, a, b, z, ws, sw) pc ls st G c s Γ γ = _
  by_cases o13 : op = 13
  · rw [lo o13 (by decide)]
    subst o13
    exact fCm_eq h hM
  show @Bool.rec (fun _ => fO) _ _ (Nat.beq op 13) = _
  rw [fBf o13]
  show fO5 ih ((X, m), i, mi, M) (op, nx, a, b, z, ws, sw) pc ls st G c s Γ γ = _
  by_cases o12 : op = 12
  · rw [lo o12 (by decide)]
    subst o12
    exact fIf_eq h hM
  show @Bool.rec (fun _ => fO) _ _ (Nat.beq op 12) = _
  rw [fBf o12]
  show fO6 ih ((X, m), i, mi, M) (op, nx, a, b, z, ws, sw) pc ls st G c s Γ γ = _
  by_cases o14 : op = 14
  · rw [lo o14 (by decide)]
    subst o14
    exact fOne h hM fS14
  show @Bool.rec (fun _ => fO) _ _ (Nat.beq op 14) = _
  rw [fBf o14]
  show fO7 ih ((X, m), i, mi, M) (op, nx, a, b, z, ws, sw) pc ls st G c s Γ γ = _
  by_cases o4 : op = 4
  · rw [lo o4 (by decide)]
    subst o4
    exact fSt_eq h hM
  show @Bool.rec (fun _ => fO) _ _ (Nat.beq op 4) = _
  rw [fBf o4]
  show fO8 ih ((X, m), i, mi, M) (op, nx, a, b, z, ws, sw) pc ls st G c s Γ γ = _
  unfold fPg
  simp only
  by_cases o50 : op = 50
  · rw [if_pos o50]
    show @Bool.rec (fun _ => fO) _ _ (Nat.beq op 50) = _
    rw [fBt o50]
    show fRe ((X, m), i, mi, M) (op, nx, a, b, z, ws, sw) pc ls st G c s Γ γ = _
    unfold fRe
    simp only
    cases sAns Γ.1 b M.2.2.2.1 st with
    | false => rw [if_neg Bool.false_ne_true]
    | true => rw [if_pos rfl]
  rw [if_neg o50]
  show @Bool.rec (fun _ => fO) _ _ (Nat.beq op 50) = _
  rw [fBf o50]
  show fO9 ih ((X, m), i, mi, M) (op, nx, a, b, z, ws, sw) pc ls st G c s Γ γ = _
  by_cases o40 : 40 ≤ op
  · rw [if_pos o40]
    show @Bool.rec (fun _ => fO) _ _ (Nat.ble 40 op) = _
    rw [fLt o40]
    exact fCa_eq hm h hM
  rw [if_neg o40]
  show @Bool.rec (fun _ => fO) _ _ (Nat.ble 40 op) = _
  rw [fLf o40]
  show fO10 ih ((X, m), i, mi, M) (op, nx, a, b, z, ws, sw) pc ls st G c s Γ γ = _
  by_cases o6 : op = 6
  · subst o6
    exact fAr_eq h hM
  show @Bool.rec (fun _ => fO) _ _ (Nat.beq op 6) = _
  rw [fBf o6]
  show fO11 ih ((X, m), i, mi, M) (op, nx, a, b, z, ws, sw) pc ls st G c s Γ γ = _
  by_cases o20 : op = 20
  · subst o20
    exact fWt_eq h hM
  show @Bool.rec (fun _ => fO) _ _ (Nat.beq op 20) = _
  rw [fBf o20]
  show fO12 ih ((X, m), i, mi, M) (op, nx, a, b, z, ws, sw) pc ls st G c s Γ γ = _
  by_cases o17 : op = 17
  · subst o17
    exact fPu_eq hm h hM
  show @Bool.rec (fun _ => fO) _ _ (Nat.beq op 17) = _
  rw [fBf o17]
  show fO13 ih ((X, m), i, mi, M) (op, nx, a, b, z, ws, sw) pc ls st G c s Γ γ = _
  by_cases o5 : op = 5
  · subst o5
    exact fInc_eq h hM
  show @Bool.rec (fun _ => fO) _ _ (Nat.beq op 5) = _
  rw [fBf o5]
  exact fStp_eq h hM
/-- what a place comes to -/
def fSq (X : kX) (n i mi : Nat) (M : eM) (I : eI) (K : kS) : fO := match (if K.1.2.2.1.isEmpty then kUse (kDp kUDf) 86 X i K.1.2.2.2.2.1 K.1.2.2.2.2.2.1 K.1.2.1 K.1.2.2.2.1 K.1.2.2.2.2.2.2 K.2 (kCS mi K.1.1) else none) with
  | some outs => some outs
  | none => fPg X n i mi M I K
theorem fS_eq (hm : ∀ j, fBit m j = true → X.1 j = true) (h : fIH ih X m n) (hM : eMTg mi = some M) {I : eI} : fS ih ((X, m), i, mi, M) I pc ls st G c s Γ γ = fSq X n i mi M I ((pc, ls, st, G, c, s, Γ), γ) := by
  unfold fSq
  cases st with
  | cons v r =>
    simp only [List.isEmpty_cons]
    rw [if_neg Bool.false_ne_true]
    exact fOp_eq hm h hM
  | nil =>
    simp only [List.isEmpty_nil]
    rw [if_pos trivial]
    show fS1 ih ((X, m), i, mi, M) I pc ls [] G c s Γ γ = _
    unfold fS1
    simp only
    cases hc : kCS mi pc with
    | nil => exact fOp_eq hm h hM
    | cons c0 r =>
      show fS2 ih ((X, m), i, mi, M) I pc ls [] G c s Γ γ = _
      unfold fS2
      simp only [fUs_eq _ _ hm]
      rw [hc]
      cases hu : kUse (kDp kUDf) 86 X i c s ls G Γ γ (c0 :: r) with
      | none => exact fOp_eq hm h hM
      | some outs => rfl
theorem fR_eq (hM : eMTg mi = some M) {K0 : kS} : fR X (n + 1) i mi K0 = if M.2.2.2.2.1 ≤ K0.1.1 then none else match M.2.2.2.2.2 K0.1.1 with
    | none => none
    | some I => match kHKx mi K0.1.1 K0 with
      | none => none
      | some Ks => kAll (fun K => if K.1.1 ≠ K0.1.1 then none else fSq X n i mi M I K) Ks := by
  unfold fR
  simp only [kRun, hM]
  rfl
theorem fA_eq (hm : ∀ j, fBit m j = true → X.1 j = true) (h : fIH ih X m n) (hM : eMTg mi = some M) : fA ih ((X, m), i, mi, M) pc ls st G c s Γ γ = fR X (n + 1) i mi ((pc, ls, st, G, c, s, Γ), γ) := by
  rw [fR_eq hM]
  simp only
  unfold fA fIn
  simp only
  by_cases hl : M.2.2.2.2.1 ≤ pc
  · rw [if_pos hl, fLt hl]
  rw [if_neg hl, fLf hl]
  simp only
  cases hI : M.2.2.2.2.2 pc with
  | none => rfl
  | some I =>
    show fH ih ((X, m), i, mi, M) I pc ls st G c s Γ γ = _
    unfold fH
    simp only
    rw [kHKo_eq]
    cases ho : kHKo mi pc with
    | none =>
      show fS ih ((X, m), i, mi, M) I pc ls st G c s Γ γ = kAll _ [((pc, ls, st, G, c, s, Γ), γ)]
      rw [kAll_1, fS_eq hm h hM]
      simp only
      rw [if_neg (fun hne => hne rfl)]
    | some f =>
      show fH2 ih ((X, m), i, mi, M) I pc (f ((pc, ls, st, G, c, s, Γ), γ)) = _
      unfold fH2
      rw [fK_eq]
      show _ = match f ((pc, ls, st, G, c, s, Γ), γ) with
        | none => none
        | some Ks => kAll (fun (K : kS) => if K.1.1 ≠ pc then none else fSq X n i mi M I K) Ks
      cases f ((pc, ls, st, G, c, s, Γ), γ) with
      | none => rfl
      | some Ks =>
        simp only
        congr 1
        funext K
        obtain ⟨⟨pc', ls', st', G', c', s', Γ'⟩, γ'⟩ := K
        show @Bool.rec (fun _ => fO) none (fS ih ((X, m), i, mi, M) I pc ls' st' G' c' s' Γ' γ') (Nat.beq pc' pc) = if pc' ≠ pc then none else fSq X n i mi M I ((pc', ls', st', G', c', s', Γ'), γ')
        by_cases hp : pc' = pc
        · subst hp
          rw [fBt rfl, if_neg (fun hne => hne rfl)]
          exact fS_eq hm h hM
        · rw [fBf hp, if_pos hp]
end FEQ
theorem fGo_eq (X : kX) (m : Nat) (hm : ∀ j, fBit m j = true → X.1 j = true) : ∀ n : Nat, fIH (fGo n) X m n
  | 0 => fun i mi M hM pc ls st G c s Γ γ => rfl
  | n + 1 => fun i mi M hM pc ls st G c s Γ γ => by
    show fP (fGo n) ((X, m), i, mi, M) pc ls st G c s Γ γ = _
    rw [← fA_eq hm (fGo_eq X m hm n) hM]
    cases pc with
    | zero => rfl
    | succ m => rfl
/-- a run from a state -/
def fRn (X : kX) (m n mi : Nat) (K : kS) : fO := @Option.rec eM (fun _ => fO) none (fun M => fDes (fGo n ((X, m), 0, mi, M)) K) (eMTg mi)
theorem fRn_eq {X : kX} {m : Nat} (hm : ∀ j, fBit m j = true → X.1 j = true) (n mi : Nat) (K : kS) : fRn X m n mi K = fR X n 0 mi K := by
  unfold fRn
  cases hM : eMTg mi with
  | none => exact (fR_none hM).symm
  | some M =>
    obtain ⟨⟨pc, ls, st, G, c, s, Γ⟩, γ⟩ := K
    exact fGo_eq X m hm n 0 mi M hM pc ls st G c s Γ γ
def kGo (c : kC) : Bool := kChk kSOx eMTg (kDp kUDf) 86 kHKx (kStep kSOx eCL eCT kUDf nKW nKC kKWL kLC nIC 4) kCS 100000 c
def fBe (c : kC) (K : kS) : Bool := sAny (fun (U : kU) => fBl 86 c K U) c.2.2.1
theorem fBe_ok {c : kC} {K : kS} (h : fBe c K = true) : c.2.2.1.any (fun U => kBel 86 c K U) = true := by
  obtain ⟨U, h1, h2⟩ := sAny_ex h
  exact List.any_eq_true.mpr ⟨U, h1, fBl_ok h2⟩
def fAl (c : kC) (L : List kS) : Bool := @List.rec kS (fun _ => Bool) true (fun K _ ih => @Bool.rec (fun _ => Bool) false ih (fBe c K)) L
theorem fAl_ok {c : kC} : ∀ {L : List kS}, fAl c L = true → L.all (fun K => c.2.2.1.any (fun U => kBel 86 c K U)) = true
  | [], _ => rfl
  | K :: r, h => by
    have h : @Bool.rec (fun _ => Bool) false (fAl c r) (fBe c K) = true := h
    rw [bAnd, Bool.and_eq_true] at h
    rw [List.all_cons, Bool.and_eq_true]
    exact ⟨fBe_ok h.1, fAl_ok h.2⟩
def fEnd (c : kC) (o : fO) : Bool := @Option.rec (List kS) (fun _ => Bool) false (fun L => fAl c L) o
def fIni (c : kC) : kS := ((c.1.2, c.2.1.1, [], fKg [] c.2.1.2.1 (List.replicate 86 sIsAny), c.2.2.2.2.2.1, c.2.2.2.2.2.2, c.2.1.2.2.1), c.2.1.2.2.2)
theorem fIni_eq (c : kC) : fIni c = kIni 86 c := by
  unfold fIni kIni
  rw [fKg_eq]
theorem fMk_X (c : kC) : ∀ j, fBit (fMk c.2.2.2.2.1) j = true → (kCX c).1 j = true := fun j h => by
  rw [fMk_eq] at h
  exact fIn_t h
def fGoC (c : kC) : Bool := @Bool.rec (fun _ => Bool) false (fEnd c (fRn (kCX c) (fMk c.2.2.2.2.1) 100000 c.1.1 (fIni c))) (kChk0 c)
theorem fGo_go {c : kC} (h : fGoC c = true) : kGo c = true := by
  obtain ⟨h0, h1⟩ := fAnd h
  unfold kGo kChk
  unfold kChk0 at h0
  simp only [Bool.and_eq_true] at h0 ⊢
  refine ⟨h0.1, h0.2.1, h0.2.2, ?_⟩
  rw [fRn_eq (fMk_X c), fIni_eq] at h1
  unfold fEnd at h1
  cases hr : fR (kCX c) 100000 0 c.1.1 (kIni 86 c) with
  | none =>
    rw [hr] at h1
    cases h1
  | some L =>
    rw [hr] at h1
    unfold fR kCX fKS at hr
    rw [hr]
    show L.all (fun K => c.2.2.1.any (fun U => kBel 86 c K U)) = true
    exact fAl_ok h1
def fPnd (c : kC) (p : (Nat × kS) ⊕ kS) : Bool := @Sum.rec (Nat × kS) kS (fun _ => Bool) (fun q => fEnd c (fRn (kCX c) (fMk c.2.2.2.2.1) q.1 c.1.1 q.2)) (fun K => fBe c K) p
theorem fPnd_ok {c : kC} {p : (Nat × kS) ⊕ kS} (h : fPnd c p = true) : kPend kSOx eMTg (kDp kUDf) 86 kHKx fKS kCS (kCX c) c p = true := by
  cases p with
  | inr K => exact fBe_ok h
  | inl q =>
    have h : fEnd c (fRn (kCX c) (fMk c.2.2.2.2.1) q.1 c.1.1 q.2) = true := h
    rw [fRn_eq (fMk_X c)] at h
    unfold fR at h
    unfold kPend
    simp only
    generalize kRun kSOx eMTg (kDp kUDf) 86 kHKx fKS kCS (kCX c) q.1 0 c.1.1 q.2 = o at h ⊢
    cases o with
    | none => cases h
    | some L => exact fAl_ok h
theorem fPnds_ok {c : kC} {P : List ((Nat × kS) ⊕ kS)} (h : P.all (fPnd c) = true) : P.all (kPend kSOx eMTg (kDp kUDf) 86 kHKx fKS kCS (kCX c) c) = true := List.all_eq_true.mpr fun p hp => fPnd_ok (List.all_eq_true.mp h p hp)
def fPiece (stop : Nat → Bool) (fuel : Nat) (c : kC) (a b : Nat) : Bool := match kCut eMTg (kDp kUDf) 86 kHKx fKS kCS stop (kCX c) fuel 0 c.1.1 (kIni 86 c) with
  | none => false
  | some P => ((P.drop a).take b).all (fPnd c)
def fRemn (stop : Nat → Bool) (fuel : Nat) (c : kC) (a : Nat) : Bool := match kCut eMTg (kDp kUDf) 86 kHKx fKS kCS stop (kCX c) fuel 0 c.1.1 (kIni 86 c) with
  | none => false
  | some P => (P.drop a).all (fPnd c)
theorem fPiece_ok {stop : Nat → Bool} {fuel : Nat} {c : kC} {a b : Nat} (h : fPiece stop fuel c a b = true) : kPiece kSOx eMTg (kDp kUDf) 86 kHKx (kStep kSOx eCL eCT kUDf nKW nKC kKWL kLC nIC 4) kCS stop fuel c a b = true := by
  show kPiece kSOx eMTg (kDp kUDf) 86 kHKx fKS kCS stop fuel c a b = true
  unfold fPiece at h
  unfold kPiece
  generalize kCut eMTg (kDp kUDf) 86 kHKx fKS kCS stop (kCX c) fuel 0 c.1.1 (kIni 86 c) = o at h ⊢
  cases o with
  | none => cases h
  | some P => exact fPnds_ok h
theorem fRemn_ok {stop : Nat → Bool} {fuel : Nat} {c : kC} {a : Nat} (h : fRemn stop fuel c a = true) : kRemn kSOx eMTg (kDp kUDf) 86 kHKx (kStep kSOx eCL eCT kUDf nKW nKC kKWL kLC nIC 4) kCS stop fuel c a = true := by
  show kRemn kSOx eMTg (kDp kUDf) 86 kHKx fKS kCS stop fuel c a = true
  unfold fRemn at h
  unfold kRemn
  generalize kCut eMTg (kDp kUDf) 86 kHKx fKS kCS stop (kCX c) fuel 0 c.1.1 (kIni 86 c) = o at h ⊢
  cases o with
  | none => cases h
  | some P => exact fPnds_ok h
def fRi (X : kX) (m n i mi : Nat) (K : kS) : fO := @Option.rec eM (fun _ => fO) none (fun M => fDes (fGo n ((X, m), i, mi, M)) K) (eMTg mi)
theorem fRi_eq {X : kX} {m : Nat} (hm : ∀ j, fBit m j = true → X.1 j = true) (n i mi : Nat) (K : kS) : fRi X m n i mi K = kRun kSOx eMTg (kDp kUDf) 86 kHKx fKS kCS X n i mi K := by
  unfold fRi
  cases hM : eMTg mi with
  | none => exact (fR_none hM).symm
  | some M =>
    obtain ⟨⟨pc, ls, st, G, c, s, Γ⟩, γ⟩ := K
    exact fGo_eq X m hm n i mi M hM pc ls st G c s Γ γ
/-- the call at which a state stands, by small steps; then on to chosen places -/
def fCut1 (stop : Nat → Bool) (X : kX) (m n mi : Nat) (K0 : kS) : Option (List ((Nat × kS) ⊕ kS)) :=
  if stop K0.1.1 = true then some [.inl (n + 1, K0)] else match eMTg mi with
    | none => none
    | some M => if M.2.2.2.2.1 ≤ K0.1.1 then none else match M.2.2.2.2.2 K0.1.1 with
      | none => none
      | some I => match kHKx mi K0.1.1 K0 with
        | none => none
        | some Ks => kAll (fun K => if K.1.1 ≠ K0.1.1 then none else
          match (if K.1.2.2.1.isEmpty then kUse (kDp kUDf) 86 X 0 K.1.2.2.2.2.1 K.1.2.2.2.2.2.1 K.1.2.1 K.1.2.2.2.1 K.1.2.2.2.2.2.2 K.2 (kCS mi K.1.1) else none) with
          | some outs => some (outs.map .inr)
          | none => if I.1 = 50 then none else if 40 ≤ I.1 then (match sCallP kSOx eMTg I K.1 with
              | none => none
              | some ar => match kUse (kDp kUDf) 86 X (0 + 1) 0 0 (sArgs 0 ar.1) K.1.2.2.2.1 K.1.2.2.2.2.2.2 K.2 (kCS I.2.2.2.1 0) with
                | some outs => kAll (fun o => kCutC kSOx eMTg (kDp kUDf) 86 kHKx fKS kCS stop X n 0 mi ((I.2.1, K.1.2.1, o.1.2.2.1 ++ ar.2, o.1.2.2.2.1, K.1.2.2.2.2.1 + o.1.2.2.2.2.1, K.1.2.2.2.2.2.1 + o.1.2.2.2.2.2.1, o.1.2.2.2.2.2.2), o.2)) outs
                | none => if sNN K.1.2.2.2.2.2.2 (sSub X.2.2.2 (sC (0 + 2 : Nat))) = true then (match fRi X m n (0 + 1) I.2.2.2.1 ((0, sArgs 0 ar.1, [], K.1.2.2.2.1, 0, 0, K.1.2.2.2.2.2.2), K.2) with
                  | none => none
                  | some outs => kAll (fun o => kCutC kSOx eMTg (kDp kUDf) 86 kHKx fKS kCS stop X n 0 mi ((I.2.1, K.1.2.1, o.1.2.2.1 ++ ar.2, o.1.2.2.2.1, K.1.2.2.2.2.1 + o.1.2.2.2.2.1, K.1.2.2.2.2.2.1 + o.1.2.2.2.2.2.1, o.1.2.2.2.2.2.2), o.2)) outs) else none)
            else match fKS X.1 M.2.2.1 I K with
              | none => none
              | some L => kAll (kCutC kSOx eMTg (kDp kUDf) 86 kHKx fKS kCS stop X n 0 mi) L) Ks
theorem fCut1_eq {stop : Nat → Bool} {X : kX} {m : Nat} (hm : ∀ j, fBit m j = true → X.1 j = true) (n mi : Nat) (K0 : kS) : fCut1 stop X m n mi K0 = kCutC kSOx eMTg (kDp kUDf) 86 kHKx fKS kCS stop X (n + 1) 0 mi K0 := by
  unfold fCut1
  simp only [fRi_eq hm]
  rfl
def fCutN (stop : Nat → Bool) (X : kX) (m : Nat) : Nat → Nat → kS → Option (List ((Nat × kS) ⊕ kS))
  | 0, _, _ => none
  | n + 1, mi, K => fCut1 stop X m n mi K
theorem fCutN_eq {stop : Nat → Bool} {X : kX} {m : Nat} (hm : ∀ j, fBit m j = true → X.1 j = true) : ∀ (n mi : Nat) (K0 : kS), fCutN stop X m n mi K0 = kCutC kSOx eMTg (kDp kUDf) 86 kHKx fKS kCS stop X n 0 mi K0
  | 0, _, _ => rfl
  | n + 1, mi, K => fCut1_eq hm n mi K
def fPnd2 (s2 : Nat → Bool) (c : kC) (f : List ((Nat × kS) ⊕ kS) → List ((Nat × kS) ⊕ kS)) (p : (Nat × kS) ⊕ kS) : Bool := match p with
  | .inl q => (match fCutN s2 (kCX c) (fMk c.2.2.2.2.1) q.1 c.1.1 q.2 with
    | some P => (f P).all (fPnd c)
    | none => false)
  | .inr K => fBe c K
theorem fPnd2_ok {s2 : Nat → Bool} {c : kC} {f : List ((Nat × kS) ⊕ kS) → List ((Nat × kS) ⊕ kS)} {p : (Nat × kS) ⊕ kS} (h : fPnd2 s2 c f p = true) : kPnd2 kSOx eMTg (kDp kUDf) 86 kHKx fKS kCS s2 (kCX c) c f p = true := by
  cases p with
  | inr K => exact fBe_ok h
  | inl q =>
    unfold fPnd2 at h
    unfold kPnd2
    simp only [fCutN_eq (fMk_X c)] at h
    simp only
    generalize kCutC kSOx eMTg (kDp kUDf) 86 kHKx fKS kCS s2 (kCX c) q.1 0 c.1.1 q.2 = o at h ⊢
    cases o with
    | none => cases h
    | some P => exact fPnds_ok h
def fPiece2 (s1 s2 : Nat → Bool) (fuel : Nat) (c : kC) (j a b : Nat) : Bool := match kCut eMTg (kDp kUDf) 86 kHKx fKS kCS s1 (kCX c) fuel 0 c.1.1 (kIni 86 c) with
  | none => false
  | some P => ((P.drop j).take 1).all (fPnd2 s2 c (fun P2 => (P2.drop a).take b))
def fRemn2 (s1 s2 : Nat → Bool) (fuel : Nat) (c : kC) (j a : Nat) : Bool := match kCut eMTg (kDp kUDf) 86 kHKx fKS kCS s1 (kCX c) fuel 0 c.1.1 (kIni 86 c) with
  | none => false
  | some P => ((P.drop j).take 1).all (fPnd2 s2 c (fun P2 => P2.drop a))
theorem fPiece2_ok {s1 s2 : Nat → Bool} {fuel : Nat} {c : kC} {j a b : Nat} (h : fPiece2 s1 s2 fuel c j a b = true) : kPiece2 kSOx eMTg (kDp kUDf) 86 kHKx (kStep kSOx eCL eCT kUDf nKW nKC kKWL kLC nIC 4) kCS s1 s2 fuel c j a b = true := by
  show kPiece2 kSOx eMTg (kDp kUDf) 86 kHKx fKS kCS s1 s2 fuel c j a b = true
  unfold fPiece2 at h
  unfold kPiece2
  generalize kCut eMTg (kDp kUDf) 86 kHKx fKS kCS s1 (kCX c) fuel 0 c.1.1 (kIni 86 c) = o at h ⊢
  cases o with
  | none => cases h
  | some P => exact List.all_eq_true.mpr fun p hp => fPnd2_ok (List.all_eq_true.mp h p hp)
theorem fRemn2_ok {s1 s2 : Nat → Bool} {fuel : Nat} {c : kC} {j a : Nat} (h : fRemn2 s1 s2 fuel c j a = true) : kRemn2 kSOx eMTg (kDp kUDf) 86 kHKx (kStep kSOx eCL eCT kUDf nKW nKC kKWL kLC nIC 4) kCS s1 s2 fuel c j a = true := by
  show kRemn2 kSOx eMTg (kDp kUDf) 86 kHKx fKS kCS s1 s2 fuel c j a = true
  unfold fRemn2 at h
  unfold kRemn2
  generalize kCut eMTg (kDp kUDf) 86 kHKx fKS kCS s1 (kCX c) fuel 0 c.1.1 (kIni 86 c) = o at h ⊢
  cases o with
  | none => cases h
  | some P => exact List.all_eq_true.mpr fun p hp => fPnd2_ok (List.all_eq_true.mp h p hp)
end
