/-! A case that is cut twice, by small steps. -/
noncomputable section
def fRi (X : kX) (m n i mi : Nat) (K : kS) : fO := @Option.rec eM (fun _ => fO) none (fun M => fDes (fGo n ((X, m), i, mi, M)) K) (eMTg mi)
theorem fRi_eq {X : kX} {m : Nat} (hm : ∀ j, fBit m j = true → X.1 j = true) (n i mi : Nat) (K : kS) : fRi X m n i mi K = kRun kSOx eMTg (kDp kUDf) 86 kHKx fKS kCS X n i mi K := by
  unfold fRi
  cases hM : eMTg mi with
  | none => exact (fR_none hM).symm
  | some M =>
    obtain ⟨⟨pc, ls, st, G, c, s, Γ⟩, γ⟩ := K
    exact fGo_eq X m hm n i mi M hM pc ls st G c s Γ γ
/-- the call at which a state stands, by small steps; then on to chosen places -/
def fCut1 (stop : Nat → Bool) (X : kX) (m n mi : Nat) (K0 : kS) : Option (List ((Nat × kS) ⊕ kS)) :=
  if stop K0.1.1 = true then some [.inl (n + 1, K0)] else match eMTg mi with
    | none => none
    | some M => if M.2.2.2.2.1 ≤ K0.1.1 then none else match M.2.2.2.2.2 K0.1.1 with
      | none => none
      | some I => match kHKx mi K0.1.1 K0 with
        | none => none
        | some Ks => kAll (fun K => if K.1.1 ≠ K0.1.1 then none else
          match (if K.1.2.2.1.isEmpty then kUse (kDp kUDf) 86 X 0 K.1.2.2.2.2.1 K.1.2.2.2.2.2.1 K.1.2.1 K.1.2.2.2.1 K.1.2.2.2.2.2.2 K.2 (kCS mi K.1.1) else none) with
          | some outs => some (outs.map .inr)
          | none => if I.1 = 50 then none else if 40 ≤ I.1 then (match sCallP kSOx eMTg I K.1 with
              | none => none
              | some ar => match kUse (kDp kUDf) 86 X (0 + 1) 0 0 (sArgs 0 ar.1) K.1.2.2.2.1 K.1.2.2.2.2.2.2 K.2 (kCS I.2.2.2.1 0) with
                | some outs => kAll (fun o => kCutC kSOx eMTg (kDp kUDf) 86 kHKx fKS kCS stop X n 0 mi ((I.2.1, K.1.2.1, o.1.2.2.1 ++ ar.2, o.1.2.2.2.1, K.1.2.2.2.2.1 + o.1.2.2.2.2.1, K.1.2.2.2.2.2.1 + o.1.2.2.2.2.2.1, o.1.2.2.2.2.2.2), o.2)) outs
                | none => if sNN K.1.2.2.2.2.2.2 (sSub X.2.2.2 (sC (0 + 2 : Nat))) = true then (match fRi X m n (0 + 1) I.2.2.2.1 ((0, sArgs 0 ar.1, [], K.1.2.2.2.1, 0, 0, K.1.2.2.2.2.2.2), K.2) with
                  | none => none
                  | some outs => kAll (fun o => kCutC kSOx eMTg (kDp kUDf) 86 kHKx fKS kCS stop X n 0 mi ((I.2.1, K.1.2.1, o.1.2.2.1 ++ ar.2, o.1.2.2.2.1, K.1.2.2.2.2.1 + o.1.2.2.2.2.1, K.1.2.2.2.2.2.1 + o.1.2.2.2.2.2.1, o.1.2.2.2.2.2.2), o.2)) outs) else none)
            else match fKS X.1 M.2.2.1 I K with
              | none => none
              | some L => kAll (kCutC kSOx eMTg (kDp kUDf) 86 kHKx fKS kCS stop X n 0 mi) L) Ks
theorem fCut1_eq {stop : Nat → Bool} {X : kX} {m : Nat} (hm : ∀ j, fBit m j = true → X.1 j = true) (n mi : Nat) (K0 : kS) : fCut1 stop X m n mi K0 = kCutC kSOx eMTg (kDp kUDf) 86 kHKx fKS kCS stop X (n + 1) 0 mi K0 := by
  unfold fCut1
  simp only [fRi_eq hm]
  rfl
def fCutN (stop : Nat → Bool) (X : kX) (m : Nat) : Nat → Nat → kS → Option (List ((Nat × kS) ⊕ kS))
  | 0, _, _ => none
  | n + 1, mi, K => fCut1 stop X m n mi K
theorem fCutN_eq {stop : Nat → Bool} {X : kX} {m : Nat} (hm : ∀ j, fBit m j = true → X.1 j = true) : ∀ (n mi : Nat) (K0 : kS), fCutN stop X m n mi K0 = kCutC kSOx eMTg (kDp kUDf) 86 kHKx fKS kCS stop X n 0 mi K0
  | 0, _, _ => rfl
  | n + 1, mi, K => fCut1_eq hm n mi K
def fPnd2 (s2 : Nat → Bool) (c : kC) (f : List ((Nat × kS) ⊕ kS) → List ((Nat × kS) ⊕ kS)) (p : (Nat × kS) ⊕ kS) : Bool := match p with
  | .inl q => (match fCutN s2 (kCX c) (fMk c.2.2.2.2.1) q.1 c.1.1 q.2 with
    | some P => (f P).all (fPnd c)
    | none => false)
  | .inr K => fBe c K
theorem fPnd2_ok {s2 : Nat → Bool} {c : kC} {f : List ((Nat × kS) ⊕ kS) → List ((Nat × kS) ⊕ kS)} {p : (Nat × kS) ⊕ kS} (h : fPnd2 s2 c f p = true) : kPnd2 kSOx eMTg (kDp kUDf) 86 kHKx fKS kCS s2 (kCX c) c f p = true := by
  cases p with
  | inr K => exact fBe_ok h
  | inl q =>
    unfold fPnd2 at h
    unfold kPnd2
    simp only [fCutN_eq (fMk_X c)] at h
    simp only
    generalize kCutC kSOx eMTg (kDp kUDf) 86 kHKx fKS kCS s2 (kCX c) q.1 0 c.1.1 q.2 = o at h ⊢
    cases o with
    | none => cases h
    | some P => exact fPnds_ok h
def fPiece2 (s1 s2 : Nat → Bool) (fuel : Nat) (c : kC) (j a b : Nat) : Bool := match kCut eMTg (kDp kUDf) 86 kHKx fKS kCS s1 (kCX c) fuel 0 c.1.1 (kIni 86 c) with
  | none => false
  | some P => ((P.drop j).take 1).all (fPnd2 s2 c (fun P2 => (P2.drop a).take b))
def fRemn2 (s1 s2 : Nat → Bool) (fuel : Nat) (c : kC) (j a : Nat) : Bool := match kCut eMTg (kDp kUDf) 86 kHKx fKS kCS s1 (kCX c) fuel 0 c.1.1 (kIni 86 c) with
  | none => false
  | some P => ((P.drop j).take 1).all (fPnd2 s2 c (fun P2 => P2.drop a))
theorem fPiece2_ok {s1 s2 : Nat → Bool} {fuel : Nat} {c : kC} {j a b : Nat} (h : fPiece2 s1 s2 fuel c j a b = true) : kPiece2 kSOx eMTg (kDp kUDf) 86 kHKx (kStep kSOx eCL eCT kUDf nKW nKC kKWL kLC nIC 4) kCS s1 s2 fuel c j a b = true := by
  show kPiece2 kSOx eMTg (kDp kUDf) 86 kHKx fKS kCS s1 s2 fuel c j a b = true
  unfold fPiece2 at h
  unfold kPiece2
  generalize kCut eMTg (kDp kUDf) 86 kHKx fKS kCS s1 (kCX c) fuel 0 c.1.1 (kIni 86 c) = o at h ⊢
  cases o with
  | none => cases h
  | some P => exact List.all_eq_true.mpr fun p hp => fPnd2_ok (List.all_eq_true.mp h p hp)
theorem fRemn2_ok {s1 s2 : Nat → Bool} {fuel : Nat} {c : kC} {j a : Nat} (h : fRemn2 s1 s2 fuel c j a = true) : kRemn2 kSOx eMTg (kDp kUDf) 86 kHKx (kStep kSOx eCL eCT kUDf nKW nKC kKWL kLC nIC 4) kCS s1 s2 fuel c j a = true := by
  show kRemn2 kSOx eMTg (kDp kUDf) 86 kHKx fKS kCS s1 s2 fuel c j a = true
  unfold fRemn2 at h
  unfold kRemn2
  generalize kCut eMTg (kDp kUDf) 86 kHKx fKS kCS s1 (kCX c) fuel 0 c.1.1 (kIni 86 c) = o at h ⊢
  cases o with
  | none => cases h
  | some P => exact List.all_eq_true.mpr fun p hp => fPnd2_ok (List.all_eq_true.mp h p hp)
end
