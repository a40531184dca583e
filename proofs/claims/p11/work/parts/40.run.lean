/-! K: a run that uses contracts. -/
noncomputable section
def kAll {α β : Type} (f : α → Option (List β)) : List α → Option (List β)
  | [] => some []
  | x :: r => match f x with
    | none => none
    | some a => match kAll f r with
      | none => none
      | some b => some (a ++ b)
theorem kAll_in {α β : Type} {f : α → Option (List β)} : ∀ {xs : List α} {L : List β}, kAll f xs = some L → ∀ x ∈ xs, ∃ a, f x = some a ∧ ∀ y ∈ a, y ∈ L
  | [], L, h, x, hx => by cases hx
  | y :: r, L, h, x, hx => by
    simp only [kAll] at h
    split at h
    · cases h
    rename_i a ha
    split at h
    · cases h
    rename_i b hb
    cases h
    rcases List.mem_cons.mp hx with rfl | hx
    · exact ⟨a, ha, fun z hz => List.mem_append_left _ hz⟩
    · obtain ⟨a', h1, h2⟩ := kAll_in hb x hx
      exact ⟨a', h1, fun z hz => List.mem_append_right _ (h2 z hz)⟩
section KRUN
variable (SO : List (Nat × List sL)) (CL : List vw_C) (CT : Nat → Nat → FieldType) (MT : Nat → Option eM) (dep : Nat → List Nat) (nh : Nat)
variable (HK : Nat → Nat → kS → Option (List kS)) (KS : (Nat → Bool) → Nat → eI → kS → Option (List kS)) (CS : Nat → Nat → List kC)
/-- the contract whose run is walked: which cells may change, level, rank, depth -/
abbrev kX : Type := (Nat → Bool) × Nat × sL × sL
/-- whether a contract may be used: it is lower, it changes no more, it is no deeper -/
def kMay (X : kX) (i : Nat) (c : kC) (σ : List sL) (Γ : sG) : Bool :=
  (decide (c.2.2.2.1.2.1 < X.2.1) || (decide (c.2.2.2.1.2.1 = X.2.1) && (match sSubst σ c.2.2.2.1.2.2 with
    | some r => sNN Γ r && sNN Γ (sSub (sSub X.2.2.1 r) (sC 1))
    | none => false))) && (c.2.2.2.2.1.all X.1 && (match sSubst σ c.2.2.2.1.1 with
    | some d => sNN Γ (sSub (sSub X.2.2.2 d) (sC i))
    | none => false))
/-- the first of several contracts that may be used: its ends -/
def kUse (X : kX) (i c0 s0 : Nat) (ls : List (Nat × sV)) (G : List sE) (Γ : sG) (γ : List kA) : List kC → Option (List kS)
  | [] => none
  | c :: r => match kMat nh c ls G Γ γ with
    | some σ => if (kMay X i c σ Γ && decide (c.2.2.2.2.2.1 = c0 ∧ c.2.2.2.2.2.2 = s0)) = true then kAll (fun U => (kEnd dep c σ G Γ γ U).map fun K => [K]) c.2.2.1 else kUse X i c0 s0 ls G Γ γ r
    | none => kUse X i c0 s0 ls G Γ γ r
def kRun (X : kX) : Nat → Nat → Nat → kS → Option (List kS)
  | 0, _, _, _ => none
  | n + 1, i, mi, K0 => match MT mi with
    | none => none
    | some M => if M.2.2.2.2.1 ≤ K0.1.1 then none else match M.2.2.2.2.2 K0.1.1 with
      | none => none
      | some I => match HK mi K0.1.1 K0 with
        | none => none
        | some Ks => kAll (fun K => if K.1.1 ≠ K0.1.1 then none else
          match (if K.1.2.2.1.isEmpty then kUse dep nh X i K.1.2.2.2.2.1 K.1.2.2.2.2.2.1 K.1.2.1 K.1.2.2.2.1 K.1.2.2.2.2.2.2 K.2 (CS mi K.1.1) else none) with
          | some outs => some outs
          | none => if I.1 = 50 then (if sAns K.1.2.2.2.2.2.2.1 I.2.2.2.1 M.2.2.2.1 K.1.2.2.1 = true then some [K] else none)
            else if 40 ≤ I.1 then (match sCallP SO MT I K.1 with
              | none => none
              | some ar => match kUse dep nh X (i + 1) 0 0 (sArgs 0 ar.1) K.1.2.2.2.1 K.1.2.2.2.2.2.2 K.2 (CS I.2.2.2.1 0) with
                | some outs => kAll (fun o => kRun X n i mi ((I.2.1, K.1.2.1, o.1.2.2.1 ++ ar.2, o.1.2.2.2.1, K.1.2.2.2.2.1 + o.1.2.2.2.2.1, K.1.2.2.2.2.2.1 + o.1.2.2.2.2.2.1, o.1.2.2.2.2.2.2), o.2)) outs
                | none => if sNN K.1.2.2.2.2.2.2 (sSub X.2.2.2 (sC (i + 2 : Nat))) = true then (match kRun X n (i + 1) I.2.2.2.1 ((0, sArgs 0 ar.1, [], K.1.2.2.2.1, 0, 0, K.1.2.2.2.2.2.2), K.2) with
                  | none => none
                  | some outs => kAll (fun o => kRun X n i mi ((I.2.1, K.1.2.1, o.1.2.2.1 ++ ar.2, o.1.2.2.2.1, K.1.2.2.2.2.1 + o.1.2.2.2.2.1, K.1.2.2.2.2.2.1 + o.1.2.2.2.2.2.1, o.1.2.2.2.2.2.2), o.2)) outs) else none)
            else match KS X.1 M.2.2.1 I K with
              | none => none
              | some L => kAll (kRun X n i mi) L) Ks
end KRUN
end
