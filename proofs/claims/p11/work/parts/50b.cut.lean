/-! K: a run that is cut at chosen places: what is left can be looked at piece by piece. -/
noncomputable section
theorem kAll_ex {α β : Type} {f : α → Option (List β)} {Q : β → Prop} : ∀ {xs : List α}, (∀ x ∈ xs, ∃ a, f x = some a ∧ ∀ y ∈ a, Q y) → ∃ L, kAll f xs = some L ∧ ∀ y ∈ L, Q y
  | [], _ => ⟨[], rfl, fun y hy => by cases hy⟩
  | x :: r, h => by
    obtain ⟨a, ha, hqa⟩ := h x List.mem_cons_self
    obtain ⟨b, hb, hqb⟩ := kAll_ex (fun z hz => h z (List.mem_cons_of_mem _ hz))
    refine ⟨a ++ b, by simp only [kAll, ha, hb], fun y hy => ?_⟩
    rcases List.mem_append.mp hy with hy | hy
    · exact hqa y hy
    · exact hqb y hy
section KCUT
variable (SO : List (Nat × List sL)) (MT : Nat → Option eM) (dep : Nat → List Nat) (nh : Nat)
variable (HK : Nat → Nat → kS → Option (List kS)) (KS : (Nat → Bool) → Nat → eI → kS → Option (List kS)) (CS : Nat → Nat → List kC)
/-- a run without calls up to chosen places: the states there with the fuel that is left, or ends -/
def kCut (stop : Nat → Bool) (X : kX) : Nat → Nat → Nat → kS → Option (List ((Nat × kS) ⊕ kS))
  | 0, _, _, _ => none
  | n + 1, i, mi, K0 => if stop K0.1.1 = true then some [.inl (n + 1, K0)] else match MT mi with
    | none => none
    | some M => if M.2.2.2.2.1 ≤ K0.1.1 then none else match M.2.2.2.2.2 K0.1.1 with
      | none => none
      | some I => match HK mi K0.1.1 K0 with
        | none => none
        | some Ks => kAll (fun K => if K.1.1 ≠ K0.1.1 then none else
          match (if K.1.2.2.1.isEmpty then kUse dep nh X i K.1.2.2.2.2.1 K.1.2.2.2.2.2.1 K.1.2.1 K.1.2.2.2.1 K.1.2.2.2.2.2.2 K.2 (CS mi K.1.1) else none) with
          | some outs => some (outs.map .inr)
          | none => if I.1 = 50 then none else if 40 ≤ I.1 then none
            else match KS X.1 M.2.2.1 I K with
              | none => none
              | some L => kAll (kCut stop X n i mi) L) Ks
def kPend (X : kX) (c : kC) (p : (Nat × kS) ⊕ kS) : Bool := match p with
  | .inl q => (match kRun SO MT dep nh HK KS CS X q.1 0 c.1.1 q.2 with
    | some L => L.all (fun K => c.2.2.1.any (fun U => kBel nh c K U))
    | none => false)
  | .inr K => c.2.2.1.any (fun U => kBel nh c K U)
def kCX (c : kC) : kX := ((fun j => c.2.2.2.2.1.contains j), c.2.2.2.1.2.1, c.2.2.2.1.2.2, c.2.2.2.1.1)
def kChk0 (c : kC) : Bool := (sIv c.2.1.2.2.1.1 c.2.2.2.1.2.2).isSome && ((sIv c.2.1.2.2.1.1 c.2.2.2.1.1).isSome && sNN c.2.1.2.2.1 (sSub c.2.2.2.1.1 (sC 1)))
/-- a piece of what is left: from a on, b of them -/
def kPiece (stop : Nat → Bool) (fuel : Nat) (c : kC) (a b : Nat) : Bool := match kCut MT dep nh HK KS CS stop (kCX c) fuel 0 c.1.1 (kIni nh c) with
  | none => false
  | some P => ((P.drop a).take b).all (kPend SO MT dep nh HK KS CS (kCX c) c)
def kRemn (stop : Nat → Bool) (fuel : Nat) (c : kC) (a : Nat) : Bool := match kCut MT dep nh HK KS CS stop (kCX c) fuel 0 c.1.1 (kIni nh c) with
  | none => false
  | some P => (P.drop a).all (kPend SO MT dep nh HK KS CS (kCX c) c)
end KCUT
section KCUTP
variable {SO : List (Nat × List sL)} {MT : Nat → Option eM} {dep : Nat → List Nat} {nh : Nat}
variable {HK : Nat → Nat → kS → Option (List kS)} {KS : (Nat → Bool) → Nat → eI → kS → Option (List kS)} {CS : Nat → Nat → List kC}
theorem kCut_ok {stop : Nat → Bool} {X : kX} {Q : kS → Prop} : ∀ (n i mi : Nat) (K : kS) (P : List ((Nat × kS) ⊕ kS)), kCut MT dep nh HK KS CS stop X n i mi K = some P →
    (∀ r K', (Sum.inl (r, K') : (Nat × kS) ⊕ kS) ∈ P → ∃ L, kRun SO MT dep nh HK KS CS X r i mi K' = some L ∧ ∀ y ∈ L, Q y) → (∀ K', (Sum.inr K' : (Nat × kS) ⊕ kS) ∈ P → Q K') →
    ∃ L, kRun SO MT dep nh HK KS CS X n i mi K = some L ∧ ∀ y ∈ L, Q y
  | 0, _, _, _, _, h => by simp [kCut] at h
  | n + 1, i, mi, K0, P, h => by
    intro hp hq
    have ih := kCut_ok (stop := stop) (X := X) (Q := Q) n i mi
    simp only [kCut] at h
    split at h
    · cases h
      exact hp _ _ (List.mem_singleton.mpr rfl)
    split at h
    · cases h
    rename_i M hMi
    split at h
    · cases h
    rename_i hlt
    split at h
    · cases h
    rename_i I hI
    split at h
    · cases h
    rename_i Ks hKs
    simp only [kRun, hMi, if_neg hlt, hI, hKs]
    refine kAll_ex fun K hK => ?_
    obtain ⟨a, ha, hsub⟩ := kAll_in h K hK
    clear h
    split at ha
    · cases ha
    rename_i hpc
    rw [if_neg hpc]
    split at ha
    · rename_i outs houts
      cases ha
      rw [houts]
      exact ⟨outs, rfl, fun y hy => hq y (hsub _ (List.mem_map_of_mem hy))⟩
    rename_i hnone
    rw [hnone]
    split at ha
    · cases ha
    rename_i h50
    split at ha
    · cases ha
    rename_i h40
    simp only [if_neg h50, if_neg h40]
    split at ha
    · cases ha
    rename_i Lc hLc
    rw [hLc]
    refine kAll_ex fun K1 hK1 => ?_
    obtain ⟨b, hb, hs2⟩ := kAll_in ha K1 hK1
    exact ih K1 b hb (fun r K' hm => hp r K' (hsub _ (hs2 _ hm))) (fun K' hm => hq K' (hsub _ (hs2 _ hm)))
theorem kPiece_join {stop : Nat → Bool} {fuel : Nat} {c : kC} {a b : Nat} (h1 : kPiece SO MT dep nh HK KS CS stop fuel c a b = true) (h2 : kRemn SO MT dep nh HK KS CS stop fuel c (a + b) = true) : kRemn SO MT dep nh HK KS CS stop fuel c a = true := by
  unfold kPiece at h1
  unfold kRemn at h2 ⊢
  split at h1
  · cases h1
  rename_i P hP
  rw [hP] at h2
  simp only at h2
  rw [← List.take_append_drop b (P.drop a), List.all_append, Bool.and_eq_true, List.drop_drop]
  exact ⟨h1, h2⟩
theorem kChk_cut {stop : Nat → Bool} {fuel : Nat} {c : kC} (h0 : kChk0 c = true) (h : kRemn SO MT dep nh HK KS CS stop fuel c 0 = true) : kChk SO MT dep nh HK KS CS fuel c = true := by
  unfold kChk0 at h0
  simp only [Bool.and_eq_true] at h0
  unfold kRemn at h
  split at h
  · cases h
  rename_i P hP
  rw [List.drop_zero] at h
  have hall := List.all_eq_true.mp h
  obtain ⟨L, hL, hQ⟩ := kCut_ok (Q := fun K => (c.2.2.1.any (fun U => kBel nh c K U)) = true) fuel 0 c.1.1 _ P hP (fun r K' hm => by
    have h1 := hall _ hm
    unfold kPend at h1
    simp only at h1
    split at h1
    · rename_i L hL
      exact ⟨L, hL, fun y hy => List.all_eq_true.mp h1 y hy⟩
    · cases h1) (fun K' hm => hall _ hm)
  unfold kChk
  simp only [Bool.and_eq_true]
  refine ⟨h0.1, h0.2.1, h0.2.2, ?_⟩
  unfold kCX at hL
  rw [hL]
  exact List.all_eq_true.mpr hQ
end KCUTP
end
