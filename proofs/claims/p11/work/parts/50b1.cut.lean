/-! K: a run that is cut twice: at chosen places ahead of a call, then, for one of the states there, at chosen places behind calls. -/
noncomputable section
section KCUTC
variable (SO : List (Nat × List sL)) (MT : Nat → Option eM) (dep : Nat → List Nat) (nh : Nat)
variable (HK : Nat → Nat → kS → Option (List kS)) (KS : (Nat → Bool) → Nat → eI → kS → Option (List kS)) (CS : Nat → Nat → List kC)
/-- a run up to chosen places of its own method, calls walked through -/
def kCutC (stop : Nat → Bool) (X : kX) : Nat → Nat → Nat → kS → Option (List ((Nat × kS) ⊕ kS))
  | 0, _, _, _ => none
  | n + 1, i, mi, K0 => if stop K0.1.1 = true then some [.inl (n + 1, K0)] else match MT mi with
    | none => none
    | some M => if M.2.2.2.2.1 ≤ K0.1.1 then none else match M.2.2.2.2.2 K0.1.1 with
      | none => none
      | some I => match HK mi K0.1.1 K0 with
        | none => none
        | some Ks => kAll (fun K => if K.1.1 ≠ K0.1.1 then none else
          match (if K.1.2.2.1.isEmpty then kUse dep nh X i K.1.2.2.2.2.1 K.1.2.2.2.2.2.1 K.1.2.1 K.1.2.2.2.1 K.1.2.2.2.2.2.2 K.2 (CS mi K.1.1) else none) with
          | some outs => some (outs.map .inr)
          | none => if I.1 = 50 then none else if 40 ≤ I.1 then (match sCallP SO MT I K.1 with
              | none => none
              | some ar => match kUse dep nh X (i + 1) 0 0 (sArgs 0 ar.1) K.1.2.2.2.1 K.1.2.2.2.2.2.2 K.2 (CS I.2.2.2.1 0) with
                | some outs => kAll (fun o => kCutC stop X n i mi ((I.2.1, K.1.2.1, o.1.2.2.1 ++ ar.2, o.1.2.2.2.1, K.1.2.2.2.2.1 + o.1.2.2.2.2.1, K.1.2.2.2.2.2.1 + o.1.2.2.2.2.2.1, o.1.2.2.2.2.2.2), o.2)) outs
                | none => if sNN K.1.2.2.2.2.2.2 (sSub X.2.2.2 (sC (i + 2 : Nat))) = true then (match kRun SO MT dep nh HK KS CS X n (i + 1) I.2.2.2.1 ((0, sArgs 0 ar.1, [], K.1.2.2.2.1, 0, 0, K.1.2.2.2.2.2.2), K.2) with
                  | none => none
                  | some outs => kAll (fun o => kCutC stop X n i mi ((I.2.1, K.1.2.1, o.1.2.2.1 ++ ar.2, o.1.2.2.2.1, K.1.2.2.2.2.1 + o.1.2.2.2.2.1, K.1.2.2.2.2.2.1 + o.1.2.2.2.2.2.1, o.1.2.2.2.2.2.2), o.2)) outs) else none)
            else match KS X.1 M.2.2.1 I K with
              | none => none
              | some L => kAll (kCutC stop X n i mi) L) Ks
def kPnd2 (s2 : Nat → Bool) (X : kX) (c : kC) (f : List ((Nat × kS) ⊕ kS) → List ((Nat × kS) ⊕ kS)) (p : (Nat × kS) ⊕ kS) : Bool := match p with
  | .inl q => (match kCutC SO MT dep nh HK KS CS s2 X q.1 0 c.1.1 q.2 with
    | some P => (f P).all (kPend SO MT dep nh HK KS CS X c)
    | none => false)
  | .inr K => c.2.2.1.any (fun U => kBel nh c K U)
/-- of the j-th state at the first cut: a piece of what is left at the second, from a on, b of them -/
def kPiece2 (s1 s2 : Nat → Bool) (fuel : Nat) (c : kC) (j a b : Nat) : Bool := match kCut MT dep nh HK KS CS s1 (kCX c) fuel 0 c.1.1 (kIni nh c) with
  | none => false
  | some P => ((P.drop j).take 1).all (kPnd2 SO MT dep nh HK KS CS s2 (kCX c) c (fun P2 => (P2.drop a).take b))
def kRemn2 (s1 s2 : Nat → Bool) (fuel : Nat) (c : kC) (j a : Nat) : Bool := match kCut MT dep nh HK KS CS s1 (kCX c) fuel 0 c.1.1 (kIni nh c) with
  | none => false
  | some P => ((P.drop j).take 1).all (kPnd2 SO MT dep nh HK KS CS s2 (kCX c) c (fun P2 => P2.drop a))
end KCUTC
section KCUTCP
variable {SO : List (Nat × List sL)} {MT : Nat → Option eM} {dep : Nat → List Nat} {nh : Nat}
variable {HK : Nat → Nat → kS → Option (List kS)} {KS : (Nat → Bool) → Nat → eI → kS → Option (List kS)} {CS : Nat → Nat → List kC}
theorem kCutC_ok {stop : Nat → Bool} {X : kX} {Q : kS → Prop} : ∀ (n i mi : Nat) (K : kS) (P : List ((Nat × kS) ⊕ kS)), kCutC SO MT dep nh HK KS CS stop X n i mi K = some P →
    (∀ r K', (Sum.inl (r, K') : (Nat × kS) ⊕ kS) ∈ P → ∃ L, kRun SO MT dep nh HK KS CS X r i mi K' = some L ∧ ∀ y ∈ L, Q y) → (∀ K', (Sum.inr K' : (Nat × kS) ⊕ kS) ∈ P → Q K') →
    ∃ L, kRun SO MT dep nh HK KS CS X n i mi K = some L ∧ ∀ y ∈ L, Q y
  | 0, _, _, _, _, h => by simp [kCutC] at h
  | n + 1, i, mi, K0, P, h => by
    intro hp hq
    have ih := kCutC_ok (stop := stop) (X := X) (Q := Q) n i mi
    simp only [kCutC] at h
    split at h
    · cases h
      exact hp _ _ (List.mem_singleton.mpr rfl)
    split at h
    · cases h
    rename_i M hMi
    split at h
    · cases h
    rename_i hlt
    split at h
    · cases h
    rename_i I hI
    split at h
    · cases h
    rename_i Ks hKs
    simp only [kRun, hMi, if_neg hlt, hI, hKs]
    refine kAll_ex fun K hK => ?_
    obtain ⟨a, ha, hsub⟩ := kAll_in h K hK
    clear h
    split at ha
    · cases ha
    rename_i hpc
    rw [if_neg hpc]
    split at ha
    · rename_i outs houts
      cases ha
      rw [houts]
      exact ⟨outs, rfl, fun y hy => hq y (hsub _ (List.mem_map_of_mem hy))⟩
    rename_i hnone
    rw [hnone]
    split at ha
    · cases ha
    rename_i h50
    simp only [if_neg h50]
    split at ha
    · rename_i h40
      simp only [if_pos h40]
      split at ha
      · cases ha
      rename_i ar har
      rw [har]
      simp only
      split at ha
      · rename_i outs houts
        rw [houts]
        refine kAll_ex fun o ho => ?_
        obtain ⟨b, hb, hs2⟩ := kAll_in ha o ho
        exact ih _ b hb (fun r K' hm => hp r K' (hsub _ (hs2 _ hm))) (fun K' hm => hq K' (hsub _ (hs2 _ hm)))
      rename_i hno
      rw [hno]
      simp only
      split at ha
      · rename_i hnn
        rw [if_pos hnn]
        split at ha
        · cases ha
        rename_i outs houts
        rw [houts]
        refine kAll_ex fun o ho => ?_
        obtain ⟨b, hb, hs2⟩ := kAll_in ha o ho
        exact ih _ b hb (fun r K' hm => hp r K' (hsub _ (hs2 _ hm))) (fun K' hm => hq K' (hsub _ (hs2 _ hm)))
      · cases ha
    rename_i h40
    simp only [if_neg h40]
    split at ha
    · cases ha
    rename_i Lc hLc
    rw [hLc]
    refine kAll_ex fun K1 hK1 => ?_
    obtain ⟨b, hb, hs2⟩ := kAll_in ha K1 hK1
    exact ih K1 b hb (fun r K' hm => hp r K' (hsub _ (hs2 _ hm))) (fun K' hm => hq K' (hsub _ (hs2 _ hm)))
theorem kPnd2_join {s2 : Nat → Bool} {X : kX} {c : kC} {a b : Nat} {p : (Nat × kS) ⊕ kS} (h1 : kPnd2 SO MT dep nh HK KS CS s2 X c (fun P => (P.drop a).take b) p = true) (h2 : kPnd2 SO MT dep nh HK KS CS s2 X c (fun P => P.drop (a + b)) p = true) : kPnd2 SO MT dep nh HK KS CS s2 X c (fun P => P.drop a) p = true := by
  cases p with
  | inr K => exact h1
  | inl q =>
    simp only [kPnd2] at h1 h2 ⊢
    cases hP : kCutC SO MT dep nh HK KS CS s2 X q.1 0 c.1.1 q.2 with
    | none =>
      rw [hP] at h1
      cases h1
    | some P =>
      rw [hP] at h1 h2
      simp only at h1 h2 ⊢
      rw [← List.take_append_drop b (P.drop a), List.all_append, Bool.and_eq_true, List.drop_drop]
      exact ⟨h1, h2⟩
theorem kPiece2_join {s1 s2 : Nat → Bool} {fuel : Nat} {c : kC} {j a b : Nat} (h1 : kPiece2 SO MT dep nh HK KS CS s1 s2 fuel c j a b = true) (h2 : kRemn2 SO MT dep nh HK KS CS s1 s2 fuel c j (a + b) = true) : kRemn2 SO MT dep nh HK KS CS s1 s2 fuel c j a = true := by
  unfold kPiece2 at h1
  unfold kRemn2 at h2 ⊢
  cases hP : kCut MT dep nh HK KS CS s1 (kCX c) fuel 0 c.1.1 (kIni nh c) with
  | none =>
    rw [hP] at h1
    cases h1
  | some P =>
    rw [hP] at h1 h2
    simp only at h1 h2 ⊢
    exact List.all_eq_true.mpr fun p hp => kPnd2_join (List.all_eq_true.mp h1 p hp) (List.all_eq_true.mp h2 p hp)
theorem kPnd2_ok {s2 : Nat → Bool} {X : kX} {c : kC} {p : (Nat × kS) ⊕ kS} (h : kPnd2 SO MT dep nh HK KS CS s2 X c (fun P => P.drop 0) p = true) : kPend SO MT dep nh HK KS CS X c p = true := by
  cases p with
  | inr K => exact h
  | inl q =>
    simp only [kPnd2] at h
    cases hP : kCutC SO MT dep nh HK KS CS s2 X q.1 0 c.1.1 q.2 with
    | none =>
      rw [hP] at h
      cases h
    | some P =>
      rw [hP] at h
      simp only [List.drop_zero] at h
      have hall := List.all_eq_true.mp h
      obtain ⟨L, hL, hQ⟩ := kCutC_ok (Q := fun K => (c.2.2.1.any (fun U => kBel nh c K U)) = true) q.1 0 c.1.1 q.2 P hP (fun r K' hm => by
        have h1 := hall _ hm
        unfold kPend at h1
        simp only at h1
        split at h1
        · rename_i L hL
          exact ⟨L, hL, fun y hy => List.all_eq_true.mp h1 y hy⟩
        · cases h1) (fun K' hm => hall _ hm)
      simp only [kPend]
      rw [hL]
      exact List.all_eq_true.mpr hQ
theorem kPiece_of2 {s1 s2 : Nat → Bool} {fuel : Nat} {c : kC} {j : Nat} (h : kRemn2 SO MT dep nh HK KS CS s1 s2 fuel c j 0 = true) : kPiece SO MT dep nh HK KS CS s1 fuel c j 1 = true := by
  unfold kRemn2 at h
  unfold kPiece
  cases hP : kCut MT dep nh HK KS CS s1 (kCX c) fuel 0 c.1.1 (kIni nh c) with
  | none =>
    rw [hP] at h
    cases h
  | some P =>
    rw [hP] at h
    simp only at h ⊢
    exact List.all_eq_true.mpr fun p hp => kPnd2_ok (List.all_eq_true.mp h p hp)
end KCUTCP
end
