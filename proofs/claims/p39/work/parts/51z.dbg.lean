def dAll (f : kS → Nat × List kS) : List kS → Nat × List kS
  | [] => (0, [])
  | a :: r => match f a with
    | (0, L) => (match dAll f r with
      | (0, L2) => (0, L ++ L2)
      | e => e)
    | e => (e.1, [])
def dE (kind mi pc : Nat) : Nat × List kS := (kind + 1 + 16 * (mi + 512 * pc), [])
def dRun (X : kX) : Nat → Nat → Nat → kS → Nat × List kS
  | 0, _, _, _ => dE 0 0 0
  | n + 1, i, mi, K0 => match eMTg mi with
    | none => dE 1 mi 0
    | some M => if M.2.2.2.2.1 ≤ K0.1.1 then dE 2 mi K0.1.1 else match M.2.2.2.2.2 K0.1.1 with
      | none => dE 3 mi K0.1.1
      | some I => match kHKx mi K0.1.1 K0 with
        | none => dE 4 mi K0.1.1
        | some Ks => dAll (fun K => if K.1.1 ≠ K0.1.1 then dE 5 mi K0.1.1 else
          match (if K.1.2.2.1.isEmpty then kUse (kDp kUD) 91 X i K.1.2.2.2.2.1 K.1.2.2.2.2.2.1 K.1.2.1 K.1.2.2.2.1 K.1.2.2.2.2.2.2 K.2 (kCS mi K.1.1) else none) with
          | some outs => (0, outs)
          | none => if I.1 = 50 then (if sAns K.1.2.2.2.2.2.2.1 I.2.2.2.1 M.2.2.2.1 K.1.2.2.1 = true then (0, [K]) else dE 6 mi K0.1.1)
            else if 40 ≤ I.1 then (match sCallP kSOx eMTg I K.1 with
              | none => dE 7 mi K0.1.1
              | some ar => match kUse (kDp kUD) 91 X (i + 1) 0 0 (sArgs 0 ar.1) K.1.2.2.2.1 K.1.2.2.2.2.2.2 K.2 (kCS I.2.2.2.1 0) with
                | some outs => dAll (fun o => dRun X n i mi ((I.2.1, K.1.2.1, o.1.2.2.1 ++ ar.2, o.1.2.2.2.1, K.1.2.2.2.2.1 + o.1.2.2.2.2.1, K.1.2.2.2.2.2.1 + o.1.2.2.2.2.2.1, o.1.2.2.2.2.2.2), o.2)) outs
                | none => if sNN K.1.2.2.2.2.2.2 (sSub X.2.2.2 (sC (i + 2 : Nat))) = true then (match dRun X n (i + 1) I.2.2.2.1 ((0, sArgs 0 ar.1, [], K.1.2.2.2.1, 0, 0, K.1.2.2.2.2.2.2), K.2) with
                  | (0, outs) => dAll (fun o => dRun X n i mi ((I.2.1, K.1.2.1, o.1.2.2.1 ++ ar.2, o.1.2.2.2.1, K.1.2.2.2.2.1 + o.1.2.2.2.2.1, K.1.2.2.2.2.2.1 + o.1.2.2.2.2.2.1, o.1.2.2.2.2.2.2), o.2)) outs
                  | e => e) else dE 8 mi K0.1.1)
            else match kStep kSOx eCL eCT kUD kKW kKC 4 X.1 M.2.2.1 I K with
              | none => dE 9 mi K0.1.1
              | some L => dAll (dRun X n i mi) L) Ks
def dGo : Nat :=
  match dRun (fun _ => true, 19, sC 0, sC 1000) 100000 0 280 ((0, [(0, (2, sC 4))], [], [], 0, 0, ([(0, 3072)], [], [], [])), [(0, [sX 0])]) with
  | (0, L) => 16 * (L.length % 64 + 64 * (L.head?.map (fun K => K.1.2.2.2.2.1)).getD 0) + 15
  | (n + 1, _) => n + 1
theorem db_0 : Nat.testBit dGo 0 = true := by decide +kernel
theorem db_1 : Nat.testBit dGo 1 = true := by decide +kernel
theorem db_2 : Nat.testBit dGo 2 = true := by decide +kernel
theorem db_3 : Nat.testBit dGo 3 = true := by decide +kernel
theorem db_4 : Nat.testBit dGo 4 = true := by decide +kernel
theorem db_5 : Nat.testBit dGo 5 = true := by decide +kernel
theorem db_6 : Nat.testBit dGo 6 = true := by decide +kernel
theorem db_7 : Nat.testBit dGo 7 = true := by decide +kernel
theorem db_8 : Nat.testBit dGo 8 = true := by decide +kernel
theorem db_9 : Nat.testBit dGo 9 = true := by decide +kernel
theorem db_10 : Nat.testBit dGo 10 = true := by decide +kernel
theorem db_11 : Nat.testBit dGo 11 = true := by decide +kernel
theorem db_12 : Nat.testBit dGo 12 = true := by decide +kernel
theorem db_13 : Nat.testBit dGo 13 = true := by decide +kernel
theorem db_14 : Nat.testBit dGo 14 = true := by decide +kernel
theorem db_15 : Nat.testBit dGo 15 = true := by decide +kernel
theorem db_16 : Nat.testBit dGo 16 = true := by decide +kernel
theorem db_17 : Nat.testBit dGo 17 = true := by decide +kernel
theorem db_18 : Nat.testBit dGo 18 = true := by decide +kernel
theorem db_19 : Nat.testBit dGo 19 = true := by decide +kernel
theorem db_20 : Nat.testBit dGo 20 = true := by decide +kernel
theorem db_21 : Nat.testBit dGo 21 = true := by decide +kernel
theorem db_22 : Nat.testBit dGo 22 = true := by decide +kernel
theorem db_23 : Nat.testBit dGo 23 = true := by decide +kernel
