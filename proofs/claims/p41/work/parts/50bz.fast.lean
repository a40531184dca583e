/-! K: the same run, told in small pieces, for the kernel. -/
noncomputable section
def fKS : (Nat → Bool) → Nat → eI → kS → Option (List kS) := kStep kSOx eCL eCT kUDf kKW kKC kKWL kLC kIC 4
abbrev fO : Type := Option (List kS)
/-- a walk's frame: the contract's bounds, depth, method -/
abbrev fC : Type := kX × Nat × Nat × eM
abbrev fT : Type := fC → Nat → List (Nat × sV) → List sV → List sE → Nat → Nat → sG → List kA → fO
def fJo (x y : fO) : fO := @Option.rec (List kS) (fun _ => fO) none (fun a => @Option.rec (List kS) (fun _ => fO) none (fun b => some (a ++ b)) y) x
def fAll {α : Type} (f : α → fO) (L : List α) : fO := @List.rec α (fun _ => fO) (some []) (fun x r ih => @List.rec α (fun _ => fO) (f x) (fun _ _ _ => fJo (f x) ih) r) L
theorem kAll_c {α : Type} {f : α → fO} {x : α} {r : List α} : kAll f (x :: r) = fJo (f x) (kAll f r) := by
  simp only [kAll]
  unfold fJo
  cases f x with
  | none => rfl
  | some a => cases kAll f r with
    | none => rfl
    | some b => rfl
theorem fJo_nil (x : fO) : fJo x (some []) = x := by
  cases x with
  | none => rfl
  | some a => exact congrArg some (List.append_nil a)
theorem fAll_eq {α : Type} (f : α → fO) : ∀ L : List α, fAll f L = kAll f L
  | [] => rfl
  | [x] => by
    rw [kAll_c]
    exact (fJo_nil (f x)).symm
  | x :: y :: r => by
    have ih := fAll_eq f (y :: r)
    rw [kAll_c, ← ih]
    rfl
theorem kAll_1 {α : Type} {f : α → fO} {x : α} : kAll f [x] = f x := (fAll_eq f [x]).symm
def fDes (f : Nat → List (Nat × sV) → List sV → List sE → Nat → Nat → sG → List kA → fO) (K : kS) : fO :=
  @Prod.rec sR (List kA) (fun _ => fO) (fun S γ => @Prod.rec Nat (List (Nat × sV) × List sV × List sE × Nat × Nat × sG) (fun _ => fO) (fun pc q =>
    @Prod.rec (List (Nat × sV)) (List sV × List sE × Nat × Nat × sG) (fun _ => fO) (fun ls q => @Prod.rec (List sV) (List sE × Nat × Nat × sG) (fun _ => fO) (fun st q =>
    @Prod.rec (List sE) (Nat × Nat × sG) (fun _ => fO) (fun G q => @Prod.rec Nat (Nat × sG) (fun _ => fO) (fun c q => @Prod.rec Nat sG (fun _ => fO) (fun s Γ => f pc ls st G c s Γ γ) q) q) q) q) q) S) K
def fK (f : kS → fO) (o : fO) : fO := @Option.rec (List kS) (fun _ => fO) none (fun L => fAll f L) o
section FDEF
variable (ih : fT) (C : fC) (I : eI) (pc : Nat) (ls : List (Nat × sV)) (st : List sV) (G : List sE) (c s : Nat) (Γ : sG) (γ : List kA)
/-- any step -/
def fStp : fO := fK (fun K => fDes (ih C) K) (fKS C.1.1 C.2.2.2.2.2.1 I ((pc, ls, st, G, c, s, Γ), γ))
def fLd2 (v : sV) : fO := @Bool.rec (fun _ => fO) (fStp ih C I pc ls st G c s Γ γ) (ih C I.2.1 ls (v :: st) G c s Γ γ) (Nat.beq v.1 (Nat.mod I.2.2.2.1 3))
def fLd : fO := @Option.rec sV (fun _ => fO) (fStp ih C I pc ls st G c s Γ γ) (fun v => fLd2 ih C I pc ls st G c s Γ γ v) (sGetL ls I.2.2.1)
def fPs : fO := ih C I.2.1 ls ((0, sC I.2.2.2.2.1) :: st) G c s Γ γ
def fGt : fO := ih C I.2.2.1 ls st G c s Γ γ
def fBr2 (x : fO) (o : Option sG) : fO := @Option.rec sG (fun _ => fO) x (fun Γ2 => fJo x (ih C I.2.1 ls st G c s Γ2 γ)) o
def fBr1 (o : Option sG) : fO := @Option.rec sG (fun _ => fO) (some []) (fun Γ2 => ih C I.2.1 ls st G c s Γ2 γ) o
def fBr (p : Option sG × Option sG) : fO := @Option.rec sG (fun _ => fO) (fBr1 ih C I ls st G c s γ p.2) (fun Γ1 => fBr2 ih C I ls st G c s γ (ih C I.2.2.1 ls st G c s Γ1 γ) p.2) p.1
def fIf2 (r : List sV) (v : sV) : fO := @Bool.rec (fun _ => fO) (fStp ih C I pc ls st G c s Γ γ) (fBr ih C I ls r G c s γ (sCnd I.2.2.2.1 Γ (sSub v.2 (sC 0)))) (sI32 Γ.1 v.2)
def fIf1 (v : sV) (r : List sV) : fO := @Bool.rec (fun _ => fO) (fStp ih C I pc ls st G c s Γ γ) (fIf2 ih C I pc ls st G c s Γ γ r v) (Nat.beq v.1 0)
def fIf : fO := @List.rec sV (fun _ => fO) (fStp ih C I pc ls st G c s Γ γ) (fun v r _ => fIf1 ih C I pc ls st G c s Γ γ v r) st
def fCm3 (y x : sV) (r : List sV) : fO := @Bool.rec (fun _ => fO) (fStp ih C I pc ls st G c s Γ γ) (fBr ih C I ls r G c s γ (sCnd I.2.2.2.1 Γ (sSub x.2 y.2))) (@Bool.rec (fun _ => Bool) false (sI32 Γ.1 y.2) (sI32 Γ.1 x.2))
def fCm2 (y x : sV) (r : List sV) : fO := @Bool.rec (fun _ => fO) (fStp ih C I pc ls st G c s Γ γ) (fCm3 ih C I pc ls st G c s Γ γ y x r) (@Bool.rec (fun _ => Bool) false (Nat.beq x.1 0) (Nat.beq y.1 0))
def fCm1 (y : sV) (r : List sV) : fO := @List.rec sV (fun _ => fO) (fStp ih C I pc ls st G c s Γ γ) (fun x r _ => fCm2 ih C I pc ls st G c s Γ γ y x r) r
def fCm : fO := @List.rec sV (fun _ => fO) (fStp ih C I pc ls st G c s Γ γ) (fun y r _ => fCm1 ih C I pc ls st G c s Γ γ y r) st
def fGf4 (r : List sV) (v : sV) : fO := @Bool.rec (fun _ => fO) (ih C I.2.1 ls (v :: r) G c s Γ γ) (fStp ih C I pc ls st G c s Γ γ) (Nat.beq v.1 4)
def fGf3 (r : List sV) (ci : Nat) (fs : List sV) : fO := @Bool.rec (fun _ => fO) (fStp ih C I pc ls st G c s Γ γ)
  (@Option.rec sV (fun _ => fO) (fStp ih C I pc ls st G c s Γ γ) (fun v => fGf4 ih C I pc ls st G c s Γ γ r v) (sAt fs I.2.2.2.2.1.toNat)) (@Bool.rec (fun _ => Bool) (Nat.beq ci I.2.2.2.1) false (Nat.beq ci 999))
def fGf2 (r : List sV) (x : sE) : fO := @Sum.rec (FieldType × Nat × (Int × Int) × List (Nat × sL)) (Nat × List sV) (fun _ => fO) (fun _ => fStp ih C I pc ls st G c s Γ γ) (fun p => @Prod.rec Nat (List sV) (fun _ => fO) (fun ci fs => fGf3 ih C I pc ls st G c s Γ γ r ci fs) p) x
def fGf1 (v : sV) (r : List sV) : fO := @Bool.rec (fun _ => fO) (fStp ih C I pc ls st G c s Γ γ)
  (@Option.rec sE (fun _ => fO) (fStp ih C I pc ls st G c s Γ γ) (fun x => fGf2 ih C I pc ls st G c s Γ γ r x) (sAt G (Nat.sub v.2.1.toNat 5))) (@Bool.rec (fun _ => Bool) false (Nat.ble 5 v.2.1.toNat) (Nat.beq v.1 2))
def fGf : fO := @List.rec sV (fun _ => fO) (fStp ih C I pc ls st G c s Γ γ) (fun v r _ => fGf1 ih C I pc ls st G c s Γ γ v r) st
def fSt2 (v : sV) (r : List sV) : fO := @Bool.rec (fun _ => fO) (fStp ih C I pc ls st G c s Γ γ) (ih C I.2.1 (sSt1 ls I.2.2.1 v) r G c s Γ γ)
  (@Bool.rec (fun _ => Bool) false (@Bool.rec (fun _ => Bool) (Nat.ble (Nat.succ I.2.2.1) C.2.2.2.2.2.1) false (Nat.beq v.1 1)) (Nat.beq v.1 (Nat.mod I.2.2.2.1 3)))
def fSt : fO := @List.rec sV (fun _ => fO) (fStp ih C I pc ls st G c s Γ γ) (fun v r _ => fSt2 ih C I pc ls st G c s Γ γ v r) st
def fRe : fO := @Bool.rec (fun _ => fO) none (some [((pc, ls, st, G, c, s, Γ), γ)]) (sAns Γ.1 I.2.2.2.1 C.2.2.2.2.2.2.1 st)
def fOut (rs : List sV) (outs : List kS) : fO := fAll (fun o => fDes (fun _ _ st' G' c' s' Γ' γ' => ih C I.2.1 ls (st' ++ rs) G' (c + c') (s + s') Γ' γ') o) outs
def fCa4 (rs : List sV) (o : fO) : fO := @Option.rec (List kS) (fun _ => fO) none (fun outs => fOut ih C I ls c s rs outs) o
def fCa3 (as rs : List sV) : fO := @Option.rec eM (fun _ => fO) none (fun M2 => fCa4 ih C I ls c s rs (ih (C.1, C.2.1 + 1, I.2.2.2.1, M2) 0 (sArgs 0 as) [] G 0 0 Γ γ)) (eMTg I.2.2.2.1)
def fCa2 (as rs : List sV) : fO := @Bool.rec (fun _ => fO) none (fCa3 ih C I ls G c s Γ γ as rs) (sNN Γ (sSub C.1.2.2.2 (sC (C.2.1 + 2 : Nat))))
def fCa1 (as rs : List sV) : fO := @Option.rec (List kS) (fun _ => fO) (fCa2 ih C I ls G c s Γ γ as rs) (fun outs => fOut ih C I ls c s rs outs) (kUse (kDp kUDf) 86 C.1 (C.2.1 + 1) 0 0 (sArgs 0 as) G Γ γ (kCS I.2.2.2.1 0))
def fCa : fO := @Option.rec (List sV × List sV) (fun _ => fO) none (fun ar => fCa1 ih C I ls G c s Γ γ ar.1 ar.2) (sCallP kSOx eMTg I (pc, ls, st, G, c, s, Γ))
/-- by what it does -/
def fO9 : fO := @Bool.rec (fun _ => fO) (fStp ih C I pc ls st G c s Γ γ) (fCa ih C I pc ls st G c s Γ γ) (Nat.ble 40 I.1)
def fO8 : fO := @Bool.rec (fun _ => fO) (fO9 ih C I pc ls st G c s Γ γ) (fRe C I pc ls st G c s Γ γ) (Nat.beq I.1 50)
def fO7 : fO := @Bool.rec (fun _ => fO) (fO8 ih C I pc ls st G c s Γ γ) (fSt ih C I pc ls st G c s Γ γ) (Nat.beq I.1 4)
def fO6 : fO := @Bool.rec (fun _ => fO) (fO7 ih C I pc ls st G c s Γ γ) (fGt ih C I ls st G c s Γ γ) (Nat.beq I.1 14)
def fO5 : fO := @Bool.rec (fun _ => fO) (fO6 ih C I pc ls st G c s Γ γ) (fIf ih C I pc ls st G c s Γ γ) (Nat.beq I.1 12)
def fO4 : fO := @Bool.rec (fun _ => fO) (fO5 ih C I pc ls st G c s Γ γ) (fCm ih C I pc ls st G c s Γ γ) (Nat.beq I.1 13)
def fO3 : fO := @Bool.rec (fun _ => fO) (fO4 ih C I pc ls st G c s Γ γ) (fGf ih C I pc ls st G c s Γ γ) (Nat.beq I.1 16)
def fO2 : fO := @Bool.rec (fun _ => fO) (fO3 ih C I pc ls st G c s Γ γ) (fPs ih C I ls st G c s Γ γ) (Nat.beq I.1 0)
def fOp : fO := @Bool.rec (fun _ => fO) (fO2 ih C I pc ls st G c s Γ γ) (fLd ih C I pc ls st G c s Γ γ) (Nat.beq I.1 3)
def fS2 : fO := @Option.rec (List kS) (fun _ => fO) (fOp ih C I pc ls st G c s Γ γ) (fun outs => some outs) (kUse (kDp kUDf) 86 C.1 C.2.1 c s ls G Γ γ (kCS C.2.2.1 pc))
def fS1 : fO := @List.rec kC (fun _ => fO) (fOp ih C I pc ls st G c s Γ γ) (fun _ _ _ => fS2 ih C I pc ls st G c s Γ γ) (kCS C.2.2.1 pc)
def fS : fO := @List.rec sV (fun _ => fO) (fS1 ih C I pc ls st G c s Γ γ) (fun _ _ _ => fOp ih C I pc ls st G c s Γ γ) st
def fSpc (p : Nat) : fO := @Bool.rec (fun _ => fO) none (fS ih C I p ls st G c s Γ γ) (Nat.beq pc p)
def fH2 (o : fO) : fO := fK (fun K => fDes (fun pc' ls st G c s Γ γ => fSpc ih C I pc' ls st G c s Γ γ pc) K) o
def fH : fO := @Option.rec (kS → fO) (fun _ => fO) (fS ih C I pc ls st G c s Γ γ) (fun h => fH2 ih C I pc (h ((pc, ls, st, G, c, s, Γ), γ))) (kHKo C.2.2.1 pc)
def fIn : Option eI := @Bool.rec (fun _ => Option eI) (C.2.2.2.2.2.2.2.2 pc) none (Nat.ble C.2.2.2.2.2.2.2.1 pc)
def fA : fO := @Option.rec eI (fun _ => fO) none (fun I => fH ih C I pc ls st G c s Γ γ) (fIn C pc)
def fP : fO := @Nat.rec (fun _ => fO) (fA ih C 0 ls st G c s Γ γ) (fun m _ => fA ih C (Nat.succ m) ls st G c s Γ γ) pc
end FDEF
def fGo (n : Nat) : fT := @Nat.rec (fun _ => fT) (fun _ _ _ _ _ _ _ _ _ => none) (fun _ ih C pc ls st G c s Γ γ => fP ih C pc ls st G c s Γ γ) n
/-- the run that it is -/
def fR (X : kX) (n i mi : Nat) (K : kS) : fO := kRun kSOx eMTg (kDp kUDf) 86 kHKx fKS kCS X n i mi K
def fIH (ih : fT) (X : kX) (n : Nat) : Prop := ∀ (i mi : Nat) (M : eM), eMTg mi = some M → ∀ pc ls st G c s Γ γ, ih (X, i, mi, M) pc ls st G c s Γ γ = fR X n i mi ((pc, ls, st, G, c, s, Γ), γ)
def fTg (X : kX) (n i mi : Nat) (M : eM) (I : eI) (K : kS) : fO := match fKS X.1 M.2.2.1 I K with
  | none => none
  | some L => kAll (fR X n i mi) L
theorem fBt {a b : Nat} (h : a = b) : Nat.beq a b = true := by
  subst h
  exact Nat.beq_refl a
theorem fBf {a b : Nat} (h : ¬ a = b) : Nat.beq a b = false := by
  cases e : Nat.beq a b with
  | false => rfl
  | true => exact absurd (Nat.eq_of_beq_eq_true e) h
theorem fLt {a b : Nat} (h : a ≤ b) : Nat.ble a b = true := Nat.ble_eq_true_of_le h
theorem fLf {a b : Nat} (h : ¬ a ≤ b) : Nat.ble a b = false := by
  cases e : Nat.ble a b with
  | false => rfl
  | true => exact absurd (Nat.le_of_ble_eq_true e) h
theorem fAnd {a b : Bool} (h : @Bool.rec (fun _ => Bool) false a b = true) : b = true ∧ a = true := by
  cases b with
  | false => cases h
  | true => exact ⟨rfl, h⟩
theorem fNot {a b : Bool} (h : @Bool.rec (fun _ => Bool) a false b = true) : b = false ∧ a = true := by
  cases b with
  | false => exact ⟨rfl, h⟩
  | true => cases h
theorem fK_eq (f : kS → fO) (o : fO) : fK f o = match o with
    | none => none
    | some L => kAll f L := by
  cases o with
  | none => rfl
  | some L => exact fAll_eq f L
section FEQ
variable {ih : fT} {X : kX} {n i mi : Nat} {M : eM} {pc : Nat} {ls : List (Nat × sV)} {st : List sV} {G : List sE} {c s : Nat} {Γ : sG} {γ : List kA}
theorem fDes_fun (h : fIH ih X n) (hM : eMTg mi = some M) : (fun K => fDes (ih (X, i, mi, M)) K) = fR X n i mi := by
  funext K
  obtain ⟨⟨pc, ls, st, G, c, s, Γ⟩, γ⟩ := K
  exact h i mi M hM pc ls st G c s Γ γ
theorem fStp_eq (h : fIH ih X n) (hM : eMTg mi = some M) {I : eI} : fStp ih (X, i, mi, M) I pc ls st G c s Γ γ = fTg X n i mi M I ((pc, ls, st, G, c, s, Γ), γ) := by
  unfold fStp fTg
  rw [fK_eq, fDes_fun h hM]
  rfl
theorem fOne (h : fIH ih X n) (hM : eMTg mi = some M) {I : eI} {K : kS} {pc' : Nat} {ls' : List (Nat × sV)} {st' : List sV} {G' : List sE} {c' s' : Nat} {Γ' : sG} {γ' : List kA} (e : fKS X.1 M.2.2.1 I K = some [((pc', ls', st', G', c', s', Γ'), γ')]) :
    ih (X, i, mi, M) pc' ls' st' G' c' s' Γ' γ' = fTg X n i mi M I K := by
  unfold fTg
  rw [e]
  simp only
  rw [kAll_1]
  exact h i mi M hM _ _ _ _ _ _ _ _
theorem fS3 {md : Nat → Bool} {mL nx a b : Nat} {z : Int} {ws : List Nat} {sw : List (Int × Nat)} {S : sR} : fKS md mL (3, nx, a, b, z, ws, sw) (S, γ) = (s3 nx a b S).map fun L => L.map fun S => (S, γ) := rfl
theorem fS0 {md : Nat → Bool} {mL nx a b : Nat} {z : Int} {ws : List Nat} {sw : List (Int × Nat)} : fKS md mL (0, nx, a, b, z, ws, sw) ((pc, ls, st, G, c, s, Γ), γ) = some [((nx, ls, (0, sC z) :: st, G, c, s, Γ), γ)] := rfl
theorem fS4 {md : Nat → Bool} {mL nx a b : Nat} {z : Int} {ws : List Nat} {sw : List (Int × Nat)} {S : sR} : fKS md mL (4, nx, a, b, z, ws, sw) (S, γ) = (s4 mL nx a b S).map fun L => L.map fun S => (S, γ) := rfl
theorem fS12 {md : Nat → Bool} {mL nx a b : Nat} {z : Int} {ws : List Nat} {sw : List (Int × Nat)} {S : sR} : fKS md mL (12, nx, a, b, z, ws, sw) (S, γ) = (s12 nx a b S).map fun L => L.map fun S => (S, γ) := rfl
theorem fS13 {md : Nat → Bool} {mL nx a b : Nat} {z : Int} {ws : List Nat} {sw : List (Int × Nat)} {S : sR} : fKS md mL (13, nx, a, b, z, ws, sw) (S, γ) = (s13 nx a b S).map fun L => L.map fun S => (S, γ) := rfl
theorem fS14 {md : Nat → Bool} {mL nx a b : Nat} {z : Int} {ws : List Nat} {sw : List (Int × Nat)} : fKS md mL (14, nx, a, b, z, ws, sw) ((pc, ls, st, G, c, s, Γ), γ) = some [((a, ls, st, G, c, s, Γ), γ)] := rfl
theorem fS16 {md : Nat → Bool} {mL nx a b : Nat} {z : Int} {ws : List Nat} {sw : List (Int × Nat)} {S : sR} : fKS md mL (16, nx, a, b, z, ws, sw) (S, γ) = (s16 kSOx nx b z.toNat S).map fun L => L.map fun S => (S, γ) := rfl
theorem fLd_eq (h : fIH ih X n) (hM : eMTg mi = some M) {nx a b : Nat} {z : Int} {ws : List Nat} {sw : List (Int × Nat)} :
    fLd ih (X, i, mi, M) (3, nx, a, b, z, ws, sw) pc ls st G c s Γ γ = fTg X n i mi M (3, nx, a, b, z, ws, sw) ((pc, ls, st, G, c, s, Γ), γ) := by
  unfold fLd
  cases hg : sGetL ls a with
  | none => exact fStp_eq h hM
  | some v =>
    show fLd2 ih (X, i, mi, M) (3, nx, a, b, z, ws, sw) pc ls st G c s Γ γ v = _
    unfold fLd2
    cases hb : Nat.beq v.1 (Nat.mod b 3) with
    | false => exact fStp_eq h hM
    | true =>
      refine fOne h hM ?_
      rw [fS3]
      show Option.map _ (match sGetL ls a with
        | some v => if v.1 = b % 3 then some [(nx, ls, v :: st, G, c, s, Γ)] else none
        | none => none) = _
      rw [hg]
      simp only
      rw [if_pos (show v.1 = b % 3 from Nat.eq_of_beq_eq_true hb)]
      rfl
theorem fSt_eq (h : fIH ih X n) (hM : eMTg mi = some M) {nx a b : Nat} {z : Int} {ws : List Nat} {sw : List (Int × Nat)} :
    fSt ih (X, i, mi, M) (4, nx, a, b, z, ws, sw) pc ls st G c s Γ γ = fTg X n i mi M (4, nx, a, b, z, ws, sw) ((pc, ls, st, G, c, s, Γ), γ) := by
  cases st with
  | nil => exact fStp_eq h hM
  | cons v r =>
    show fSt2 ih (X, i, mi, M) (4, nx, a, b, z, ws, sw) pc ls (v :: r) G c s Γ γ v r = _
    unfold fSt2
    cases hb : (@Bool.rec (fun _ => Bool) false (@Bool.rec (fun _ => Bool) (Nat.ble (Nat.succ a) M.2.2.1) false (Nat.beq v.1 1)) (Nat.beq v.1 (Nat.mod b 3)) : Bool) with
    | false =>
      exact fStp_eq h hM
    | true =>
      obtain ⟨h1, h2⟩ := fAnd hb
      obtain ⟨h3, h4⟩ := fNot h2
      have e1 : v.1 = b % 3 := Nat.eq_of_beq_eq_true h1
      have e2 : ¬ b % 3 = 1 := fun e => by
        rw [e1, e, Nat.beq_refl] at h3
        cases h3
      have e3 : a < M.2.2.1 := Nat.le_of_ble_eq_true h4
      refine fOne h hM ?_
      rw [fS4]
      show Option.map _ (if v.1 = b % 3 then (if b % 3 = 1 then (if a + 1 < M.2.2.1 then some [(nx, sSt2 ls a v, r, G, c, s, Γ)] else none) else (if a < M.2.2.1 then some [(nx, sSt1 ls a v, r, G, c, s, Γ)] else none)) else none) = _
      rw [if_pos e1, if_neg e2, if_pos e3]
      rfl
theorem fBr_eq (h : fIH ih X n) (hM : eMTg mi = some M) {I : eI} {K : kS} {r : List sV} {p : Option sG × Option sG} (e : fKS X.1 M.2.2.1 I K = (some (sOpt p.1 (fun Γ' => (I.2.2.1, ls, r, G, c, s, Γ')) ++ sOpt p.2 (fun Γ' => (I.2.1, ls, r, G, c, s, Γ')))).map fun L => L.map fun S => (S, γ)) :
    fBr ih (X, i, mi, M) I ls r G c s γ p = fTg X n i mi M I K := by
  unfold fTg
  rw [e]
  obtain ⟨p1, p2⟩ := p
  unfold fBr
  cases p1 with
  | none =>
    cases p2 with
    | none => rfl
    | some Γ2 =>
      show ih (X, i, mi, M) I.2.1 ls r G c s Γ2 γ = kAll (fR X n i mi) [((I.2.1, ls, r, G, c, s, Γ2), γ)]
      rw [kAll_1]
      exact h i mi M hM _ _ _ _ _ _ _ _
  | some Γ1 =>
    cases p2 with
    | none =>
      show ih (X, i, mi, M) I.2.2.1 ls r G c s Γ1 γ = kAll (fR X n i mi) [((I.2.2.1, ls, r, G, c, s, Γ1), γ)]
      rw [kAll_1]
      exact h i mi M hM _ _ _ _ _ _ _ _
    | some Γ2 =>
      show fJo (ih (X, i, mi, M) I.2.2.1 ls r G c s Γ1 γ) (ih (X, i, mi, M) I.2.1 ls r G c s Γ2 γ) = kAll (fR X n i mi) [((I.2.2.1, ls, r, G, c, s, Γ1), γ), ((I.2.1, ls, r, G, c, s, Γ2), γ)]
      rw [kAll_c, kAll_1, h i mi M hM, h i mi M hM]
theorem fIf_eq (h : fIH ih X n) (hM : eMTg mi = some M) {nx a b : Nat} {z : Int} {ws : List Nat} {sw : List (Int × Nat)} :
    fIf ih (X, i, mi, M) (12, nx, a, b, z, ws, sw) pc ls st G c s Γ γ = fTg X n i mi M (12, nx, a, b, z, ws, sw) ((pc, ls, st, G, c, s, Γ), γ) := by
  cases st with
  | nil => exact fStp_eq h hM
  | cons v r =>
    obtain ⟨k, x⟩ := v
    show fIf1 ih (X, i, mi, M) (12, nx, a, b, z, ws, sw) pc ls ((k, x) :: r) G c s Γ γ (k, x) r = _
    unfold fIf1
    cases hb : Nat.beq k 0 with
    | false =>
      exact fStp_eq h hM
    | true =>
      obtain rfl : k = 0 := Nat.eq_of_beq_eq_true hb
      show fIf2 ih (X, i, mi, M) (12, nx, a, b, z, ws, sw) pc ls ((0, x) :: r) G c s Γ γ r (0, x) = _
      unfold fIf2
      cases hi : sI32 Γ.1 x with
      | false =>
        exact fStp_eq h hM
      | true =>
        refine fBr_eq (I := (12, nx, a, b, z, ws, sw)) h hM ?_
        rw [fS12]
        show Option.map _ (if sI32 Γ.1 x = true then _ else none) = _
        rw [if_pos hi]
theorem fCm_eq (h : fIH ih X n) (hM : eMTg mi = some M) {nx a b : Nat} {z : Int} {ws : List Nat} {sw : List (Int × Nat)} :
    fCm ih (X, i, mi, M) (13, nx, a, b, z, ws, sw) pc ls st G c s Γ γ = fTg X n i mi M (13, nx, a, b, z, ws, sw) ((pc, ls, st, G, c, s, Γ), γ) := by
  cases st with
  | nil => exact fStp_eq h hM
  | cons v r =>
    cases r with
    | nil => exact fStp_eq h hM
    | cons w r =>
      obtain ⟨k, y⟩ := v
      obtain ⟨l, x⟩ := w
      show fCm2 ih (X, i, mi, M) (13, nx, a, b, z, ws, sw) pc ls ((k, y) :: (l, x) :: r) G c s Γ γ (k, y) (l, x) r = _
      unfold fCm2
      cases hb : (@Bool.rec (fun _ => Bool) false (Nat.beq l 0) (Nat.beq k 0) : Bool) with
      | false =>
        exact fStp_eq h hM
      | true =>
        obtain ⟨h1, h2⟩ := fAnd hb
        obtain rfl : k = 0 := Nat.eq_of_beq_eq_true h1
        obtain rfl : l = 0 := Nat.eq_of_beq_eq_true h2
        show fCm3 ih (X, i, mi, M) (13, nx, a, b, z, ws, sw) pc ls ((0, y) :: (0, x) :: r) G c s Γ γ (0, y) (0, x) r = _
        unfold fCm3
        cases hi : (@Bool.rec (fun _ => Bool) false (sI32 Γ.1 y) (sI32 Γ.1 x) : Bool) with
        | false =>
          exact fStp_eq h hM
        | true =>
          obtain ⟨i1, i2⟩ := fAnd hi
          refine fBr_eq (I := (13, nx, a, b, z, ws, sw)) h hM ?_
          rw [fS13]
          show Option.map _ (if sI32 Γ.1 x = true ∧ sI32 Γ.1 y = true then _ else none) = _
          rw [if_pos ⟨i1, i2⟩]
theorem kSOx_len : kSOx.length = 5 := rfl
theorem fGf_eq (h : fIH ih X n) (hM : eMTg mi = some M) {nx a b : Nat} {z : Int} {ws : List Nat} {sw : List (Int × Nat)} :
    fGf ih (X, i, mi, M) (16, nx, a, b, z, ws, sw) pc ls st G c s Γ γ = fTg X n i mi M (16, nx, a, b, z, ws, sw) ((pc, ls, st, G, c, s, Γ), γ) := by
  cases st with
  | nil => exact fStp_eq h hM
  | cons v r =>
    obtain ⟨k, q⟩ := v
    show fGf1 ih (X, i, mi, M) (16, nx, a, b, z, ws, sw) pc ls ((k, q) :: r) G c s Γ γ (k, q) r = _
    unfold fGf1
    cases hb : (@Bool.rec (fun _ => Bool) false (Nat.ble 5 q.1.toNat) (Nat.beq k 2) : Bool) with
    | false =>
      exact fStp_eq h hM
    | true =>
      obtain ⟨h1, h2⟩ := fAnd hb
      obtain rfl : k = 2 := Nat.eq_of_beq_eq_true h1
      have h5 : ¬ q.1.toNat < kSOx.length := by
        rw [kSOx_len]
        exact Nat.not_lt.mpr (Nat.le_of_ble_eq_true h2)
      cases hx : sAt G (Nat.sub q.1.toNat 5) with
      | none =>
        exact fStp_eq h hM
      | some x =>
        rcases x with y | ⟨ci, fs⟩
        · exact fStp_eq h hM
        · show fGf3 ih (X, i, mi, M) (16, nx, a, b, z, ws, sw) pc ls ((2, q) :: r) G c s Γ γ r ci fs = _
          unfold fGf3
          cases hc : (@Bool.rec (fun _ => Bool) (Nat.beq ci b) false (Nat.beq ci 999) : Bool) with
          | false =>
            exact fStp_eq h hM
          | true =>
            obtain ⟨n1, n2⟩ := fNot hc
            have e1 : ci = b := Nat.eq_of_beq_eq_true n2
            have e2 : ci ≠ 999 := fun e => by
              rw [e, Nat.beq_refl] at n1
              cases n1
            cases hv : sAt fs z.toNat with
            | none =>
              exact fStp_eq h hM
            | some v =>
              show fGf4 ih (X, i, mi, M) (16, nx, a, b, z, ws, sw) pc ls ((2, q) :: r) G c s Γ γ r v = _
              unfold fGf4
              cases h4 : Nat.beq v.1 4 with
              | true => exact fStp_eq h hM
              | false =>
                have e4 : ¬ v.1 = 4 := fun e => by
                  rw [e] at h4
                  cases h4
                refine fOne h hM ?_
                rw [fS16]
                have hx' : sAt G (q.1.toNat - kSOx.length) = some (.inr (ci, fs)) := by
                  rw [kSOx_len]
                  exact hx
                unfold s16
                simp only
                rw [if_neg h5, hx']
                simp only
                rw [if_pos ⟨e1, e2⟩, hv]
                simp only [Option.map_some, if_neg e4, List.map_cons, List.map_nil]
theorem fOut_eq (h : fIH ih X n) (hM : eMTg mi = some M) {I : eI} {rs : List sV} {outs : List kS} : fOut ih (X, i, mi, M) I ls c s rs outs = kAll (fun o => fR X n i mi ((I.2.1, ls, o.1.2.2.1 ++ rs, o.1.2.2.2.1, c + o.1.2.2.2.2.1, s + o.1.2.2.2.2.2.1, o.1.2.2.2.2.2.2), o.2)) outs := by
  unfold fOut
  rw [fAll_eq]
  congr 1
  funext o
  obtain ⟨⟨pc', ls', st', G', c', s', Γ'⟩, γ'⟩ := o
  exact h i mi M hM _ _ _ _ _ _ _ _
/-- what a call comes to -/
def fCg (X : kX) (n i mi : Nat) (I : eI) (K : kS) : fO := match sCallP kSOx eMTg I K.1 with
  | none => none
  | some ar => match kUse (kDp kUDf) 86 X (i + 1) 0 0 (sArgs 0 ar.1) K.1.2.2.2.1 K.1.2.2.2.2.2.2 K.2 (kCS I.2.2.2.1 0) with
    | some outs => kAll (fun o => fR X n i mi ((I.2.1, K.1.2.1, o.1.2.2.1 ++ ar.2, o.1.2.2.2.1, K.1.2.2.2.2.1 + o.1.2.2.2.2.1, K.1.2.2.2.2.2.1 + o.1.2.2.2.2.2.1, o.1.2.2.2.2.2.2), o.2)) outs
    | none => if sNN K.1.2.2.2.2.2.2 (sSub X.2.2.2 (sC (i + 2 : Nat))) = true then (match fR X n (i + 1) I.2.2.2.1 ((0, sArgs 0 ar.1, [], K.1.2.2.2.1, 0, 0, K.1.2.2.2.2.2.2), K.2) with
      | none => none
      | some outs => kAll (fun o => fR X n i mi ((I.2.1, K.1.2.1, o.1.2.2.1 ++ ar.2, o.1.2.2.2.1, K.1.2.2.2.2.1 + o.1.2.2.2.2.1, K.1.2.2.2.2.2.1 + o.1.2.2.2.2.2.1, o.1.2.2.2.2.2.2), o.2)) outs) else none
theorem fR_none (hm : eMTg mi = none) {K : kS} : fR X n i mi K = none := by
  unfold fR
  cases n with
  | zero => rfl
  | succ n => simp only [kRun, hm]
theorem fCa_eq (h : fIH ih X n) (hM : eMTg mi = some M) {I : eI} : fCa ih (X, i, mi, M) I pc ls st G c s Γ γ = fCg X n i mi I ((pc, ls, st, G, c, s, Γ), γ) := by
  unfold fCa fCg
  cases ha : sCallP kSOx eMTg I (pc, ls, st, G, c, s, Γ) with
  | none => rfl
  | some ar =>
    obtain ⟨as, rs⟩ := ar
    show fCa1 ih (X, i, mi, M) I ls G c s Γ γ as rs = _
    unfold fCa1
    cases hu : kUse (kDp kUDf) 86 X (i + 1) 0 0 (sArgs 0 as) G Γ γ (kCS I.2.2.2.1 0) with
    | some outs =>
      simp only
      rw [hu]
      exact fOut_eq h hM
    | none =>
      simp only
      rw [hu]
      show fCa2 ih (X, i, mi, M) I ls G c s Γ γ as rs = _
      unfold fCa2
      simp only
      cases hn : sNN Γ (sSub X.2.2.2 (sC (i + 2 : Nat))) with
      | false => rw [if_neg Bool.false_ne_true]
      | true =>
        rw [if_pos rfl]
        show fCa3 ih (X, i, mi, M) I ls G c s Γ γ as rs = _
        unfold fCa3
        cases hm : eMTg I.2.2.2.1 with
        | none => rw [fR_none hm]
        | some M2 =>
          show fCa4 ih (X, i, mi, M) I ls c s rs (ih (X, i + 1, I.2.2.2.1, M2) 0 (sArgs 0 as) [] G 0 0 Γ γ) = _
          rw [h (i + 1) _ M2 hm]
          unfold fCa4
          cases hr : fR X n (i + 1) I.2.2.2.1 ((0, sArgs 0 as, [], G, 0, 0, Γ), γ) with
          | none => rfl
          | some outs => exact fOut_eq h hM
/-- what a place comes to, contracts aside -/
def fPg (X : kX) (n i mi : Nat) (M : eM) (I : eI) (K : kS) : fO :=
  if I.1 = 50 then (if sAns K.1.2.2.2.2.2.2.1 I.2.2.2.1 M.2.2.2.1 K.1.2.2.1 = true then some [K] else none)
  else if 40 ≤ I.1 then fCg X n i mi I K else fTg X n i mi M I K
theorem fOp_eq (h : fIH ih X n) (hM : eMTg mi = some M) {I : eI} : fOp ih (X, i, mi, M) I pc ls st G c s Γ γ = fPg X n i mi M I ((pc, ls, st, G, c, s, Γ), γ) := by
  obtain ⟨op, nx, a, b, z, ws, sw⟩ := I
  have lo : ∀ {k : Nat}, op = k → k < 40 → fPg X n i mi M (op, nx, a, b, z, ws, sw) ((pc, ls, st, G, c, s, Γ), γ) = fTg X n i mi M (op, nx, a, b, z, ws, sw) ((pc, ls, st, G, c, s, Γ), γ) := by
    intro k e hk
    unfold fPg
    simp only
    rw [if_neg (by omega), if_neg (by omega)]
  by_cases o3 : op = 3
  · rw [lo o3 (by decide)]
    subst o3
    exact fLd_eq h hM
  show @Bool.rec (fun _ => fO) _ _ (Nat.beq op 3) = _
  rw [fBf o3]
  show fO2 ih (X, i, mi, M) (op, nx, a, b, z, ws, sw) pc ls st G c s Γ γ = _
  by_cases o0 : op = 0
  · rw [lo o0 (by decide)]
    subst o0
    exact fOne h hM fS0
  show @Bool.rec (fun _ => fO) _ _ (Nat.beq op 0) = _
  rw [fBf o0]
  show fO3 ih (X, i, mi, M) (op, nx, a, b, z, ws, sw) pc ls st G c s Γ γ = _
  by_cases o16 : op = 16
  · rw [lo o16 (by decide)]
    subst o16
    exact fGf_eq h hM
  show @Bool.rec (fun _ => fO) _ _ (Nat.beq op 16) = _
  rw [fBf o16]
  show fO4 ih (X, i, mi, M) (op, nx, a, b, z, ws, sw) pc ls st G c s Γ γ = _
  by_cases o13 : op = 13
  · rw [lo o13 (by decide)]
    subst o13
    exact fCm_eq h hM
  show @Bool.rec (fun _ => fO) _ _ (Nat.beq op 13) = _
  rw [fBf o13]
  show fO5 ih (X, i, mi, M) (op, nx, a, b, z, ws, sw) pc ls st G c s Γ γ = _
  by_cases o12 : op = 12
  · rw [lo o12 (by decide)]
    subst o12
    exact fIf_eq h hM
  show @Bool.rec (fun _ => fO) _ _ (Nat.beq op 12) = _
  rw [fBf o12]
  show fO6 ih (X, i, mi, M) (op, nx, a, b, z, ws, sw) pc ls st G c s Γ γ = _
  by_cases o14 : op = 14
  · rw [lo o14 (by decide)]
    subst o14
    exact fOne h hM fS14
  show @Bool.rec (fun _ => fO) _ _ (Nat.beq op 14) = _
  rw [fBf o14]
  show fO7 ih (X, i, mi, M) (op, nx, a, b, z, ws, sw) pc ls st G c s Γ γ = _
  by_cases o4 : op = 4
  · rw [lo o4 (by decide)]
    subst o4
    exact fSt_eq h hM
  show @Bool.rec (fun _ => fO) _ _ (Nat.beq op 4) = _
  rw [fBf o4]
  show fO8 ih (X, i, mi, M) (op, nx, a, b, z, ws, sw) pc ls st G c s Γ γ = _
  unfold fPg
  simp only
  by_cases o50 : op = 50
  · rw [if_pos o50]
    show @Bool.rec (fun _ => fO) _ _ (Nat.beq op 50) = _
    rw [fBt o50]
    show fRe (X, i, mi, M) (op, nx, a, b, z, ws, sw) pc ls st G c s Γ γ = _
    unfold fRe
    simp only
    cases sAns Γ.1 b M.2.2.2.1 st with
    | false => rw [if_neg Bool.false_ne_true]
    | true => rw [if_pos rfl]
  rw [if_neg o50]
  show @Bool.rec (fun _ => fO) _ _ (Nat.beq op 50) = _
  rw [fBf o50]
  show fO9 ih (X, i, mi, M) (op, nx, a, b, z, ws, sw) pc ls st G c s Γ γ = _
  by_cases o40 : 40 ≤ op
  · rw [if_pos o40]
    show @Bool.rec (fun _ => fO) _ _ (Nat.ble 40 op) = _
    rw [fLt o40]
    exact fCa_eq h hM
  rw [if_neg o40]
  show @Bool.rec (fun _ => fO) _ _ (Nat.ble 40 op) = _
  rw [fLf o40]
  exact fStp_eq h hM
/-- what a place comes to -/
def fSg (X : kX) (n i mi : Nat) (M : eM) (I : eI) (K : kS) : fO := match (if K.1.2.2.1.isEmpty then kUse (kDp kUDf) 86 X i K.1.2.2.2.2.1 K.1.2.2.2.2.2.1 K.1.2.1 K.1.2.2.2.1 K.1.2.2.2.2.2.2 K.2 (kCS mi K.1.1) else none) with
  | some outs => some outs
  | none => fPg X n i mi M I K
theorem fS_eq (h : fIH ih X n) (hM : eMTg mi = some M) {I : eI} : fS ih (X, i, mi, M) I pc ls st G c s Γ γ = fSg X n i mi M I ((pc, ls, st, G, c, s, Γ), γ) := by
  unfold fSg
  cases st with
  | cons v r =>
    simp only [List.isEmpty_cons]
    rw [if_neg Bool.false_ne_true]
    exact fOp_eq h hM
  | nil =>
    simp only [List.isEmpty_nil]
    rw [if_pos trivial]
    show fS1 ih (X, i, mi, M) I pc ls [] G c s Γ γ = _
    unfold fS1
    simp only
    cases hc : kCS mi pc with
    | nil => exact fOp_eq h hM
    | cons c0 r =>
      show fS2 ih (X, i, mi, M) I pc ls [] G c s Γ γ = _
      unfold fS2
      simp only
      rw [hc]
      cases hu : kUse (kDp kUDf) 86 X i c s ls G Γ γ (c0 :: r) with
      | none => exact fOp_eq h hM
      | some outs => rfl
theorem fR_eq (hM : eMTg mi = some M) {K0 : kS} : fR X (n + 1) i mi K0 = if M.2.2.2.2.1 ≤ K0.1.1 then none else match M.2.2.2.2.2 K0.1.1 with
    | none => none
    | some I => match kHKx mi K0.1.1 K0 with
      | none => none
      | some Ks => kAll (fun K => if K.1.1 ≠ K0.1.1 then none else fSg X n i mi M I K) Ks := by
  unfold fR
  simp only [kRun, hM]
  rfl
theorem fA_eq (h : fIH ih X n) (hM : eMTg mi = some M) : fA ih (X, i, mi, M) pc ls st G c s Γ γ = fR X (n + 1) i mi ((pc, ls, st, G, c, s, Γ), γ) := by
  rw [fR_eq hM]
  simp only
  unfold fA fIn
  simp only
  by_cases hl : M.2.2.2.2.1 ≤ pc
  · rw [if_pos hl, fLt hl]
  rw [if_neg hl, fLf hl]
  simp only
  cases hI : M.2.2.2.2.2 pc with
  | none => rfl
  | some I =>
    show fH ih (X, i, mi, M) I pc ls st G c s Γ γ = _
    unfold fH
    simp only
    rw [kHKo_eq]
    cases ho : kHKo mi pc with
    | none =>
      show fS ih (X, i, mi, M) I pc ls st G c s Γ γ = kAll _ [((pc, ls, st, G, c, s, Γ), γ)]
      rw [kAll_1, fS_eq h hM]
      simp only
      rw [if_neg (fun hne => hne rfl)]
    | some f =>
      show fH2 ih (X, i, mi, M) I pc (f ((pc, ls, st, G, c, s, Γ), γ)) = _
      unfold fH2
      rw [fK_eq]
      show _ = match f ((pc, ls, st, G, c, s, Γ), γ) with
        | none => none
        | some Ks => kAll (fun (K : kS) => if K.1.1 ≠ pc then none else fSg X n i mi M I K) Ks
      cases f ((pc, ls, st, G, c, s, Γ), γ) with
      | none => rfl
      | some Ks =>
        simp only
        congr 1
        funext K
        obtain ⟨⟨pc', ls', st', G', c', s', Γ'⟩, γ'⟩ := K
        show @Bool.rec (fun _ => fO) none (fS ih (X, i, mi, M) I pc ls' st' G' c' s' Γ' γ') (Nat.beq pc' pc) = if pc' ≠ pc then none else fSg X n i mi M I ((pc', ls', st', G', c', s', Γ'), γ')
        by_cases hp : pc' = pc
        · subst hp
          rw [fBt rfl, if_neg (fun hne => hne rfl)]
          exact fS_eq h hM
        · rw [fBf hp, if_pos hp]
end FEQ
theorem fGo_eq (X : kX) : ∀ n : Nat, fIH (fGo n) X n
  | 0 => fun i mi M hM pc ls st G c s Γ γ => rfl
  | n + 1 => fun i mi M hM pc ls st G c s Γ γ => by
    show fP (fGo n) (X, i, mi, M) pc ls st G c s Γ γ = _
    rw [← fA_eq (fGo_eq X n) hM]
    cases pc with
    | zero => rfl
    | succ m => rfl
/-- a run from a state -/
def fRn (X : kX) (n mi : Nat) (K : kS) : fO := @Option.rec eM (fun _ => fO) none (fun M => fDes (fGo n (X, 0, mi, M)) K) (eMTg mi)
theorem fRn_eq (X : kX) (n mi : Nat) (K : kS) : fRn X n mi K = fR X n 0 mi K := by
  unfold fRn
  cases hm : eMTg mi with
  | none => exact (fR_none hm).symm
  | some M =>
    obtain ⟨⟨pc, ls, st, G, c, s, Γ⟩, γ⟩ := K
    exact fGo_eq X n 0 mi M hm pc ls st G c s Γ γ
def kGo (c : kC) : Bool := kChk kSOx eMTg (kDp kUDf) 86 kHKx (kStep kSOx eCL eCT kUDf kKW kKC kKWL kLC kIC 4) kCS 100000 c
def fEnd (c : kC) (o : fO) : Bool := @Option.rec (List kS) (fun _ => Bool) false (fun L => L.all (fun K => c.2.2.1.any (fun U => kBel 86 c K U))) o
def fGoC (c : kC) : Bool := @Bool.rec (fun _ => Bool) false (fEnd c (fRn (kCX c) 100000 c.1.1 (kIni 86 c))) (kChk0 c)
theorem fGo_go {c : kC} (h : fGoC c = true) : kGo c = true := by
  obtain ⟨h0, h1⟩ := fAnd h
  unfold kGo kChk
  unfold kChk0 at h0
  simp only [Bool.and_eq_true] at h0 ⊢
  refine ⟨h0.1, h0.2.1, h0.2.2, ?_⟩
  rw [fRn_eq] at h1
  unfold fEnd at h1
  cases hr : fR (kCX c) 100000 0 c.1.1 (kIni 86 c) with
  | none =>
    rw [hr] at h1
    cases h1
  | some L =>
    rw [hr] at h1
    unfold fR kCX fKS at hr
    rw [hr]
    exact h1
def fPnd (c : kC) (p : (Nat × kS) ⊕ kS) : Bool := @Sum.rec (Nat × kS) kS (fun _ => Bool) (fun q => fEnd c (fRn (kCX c) q.1 c.1.1 q.2)) (fun K => c.2.2.1.any (fun U => kBel 86 c K U)) p
theorem fPnd_eq (c : kC) (p : (Nat × kS) ⊕ kS) : fPnd c p = kPend kSOx eMTg (kDp kUDf) 86 kHKx fKS kCS (kCX c) c p := by
  cases p with
  | inr K => rfl
  | inl q =>
    show fEnd c (fRn (kCX c) q.1 c.1.1 q.2) = _
    rw [fRn_eq]
    unfold kPend fR fEnd
    simp only
    generalize kRun kSOx eMTg (kDp kUDf) 86 kHKx fKS kCS (kCX c) q.1 0 c.1.1 q.2 = o
    cases o <;> rfl
def fPiece (stop : Nat → Bool) (fuel : Nat) (c : kC) (a b : Nat) : Bool := match kCut eMTg (kDp kUDf) 86 kHKx fKS kCS stop (kCX c) fuel 0 c.1.1 (kIni 86 c) with
  | none => false
  | some P => ((P.drop a).take b).all (fPnd c)
def fRemn (stop : Nat → Bool) (fuel : Nat) (c : kC) (a : Nat) : Bool := match kCut eMTg (kDp kUDf) 86 kHKx fKS kCS stop (kCX c) fuel 0 c.1.1 (kIni 86 c) with
  | none => false
  | some P => (P.drop a).all (fPnd c)
theorem fPiece_ok {stop : Nat → Bool} {fuel : Nat} {c : kC} {a b : Nat} (h : fPiece stop fuel c a b = true) : kPiece kSOx eMTg (kDp kUDf) 86 kHKx (kStep kSOx eCL eCT kUDf kKW kKC kKWL kLC kIC 4) kCS stop fuel c a b = true := by
  unfold fPiece at h
  rw [show fPnd c = kPend kSOx eMTg (kDp kUDf) 86 kHKx fKS kCS (kCX c) c from funext (fPnd_eq c)] at h
  unfold fKS at h
  unfold kPiece
  exact h
theorem fRemn_ok {stop : Nat → Bool} {fuel : Nat} {c : kC} {a : Nat} (h : fRemn stop fuel c a = true) : kRemn kSOx eMTg (kDp kUDf) 86 kHKx (kStep kSOx eCL eCT kUDf kKW kKC kKWL kLC kIC 4) kCS stop fuel c a = true := by
  unfold fRemn at h
  rw [show fPnd c = kPend kSOx eMTg (kDp kUDf) 86 kHKx fKS kCS (kCX c) c from funext (fPnd_eq c)] at h
  unfold fKS at h
  unfold kRemn
  exact h
end
