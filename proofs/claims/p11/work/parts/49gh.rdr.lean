/-! The readers' rules: numbers, lines, the start, the end. -/
noncomputable section
/-- up to so many digits: the number's form, where it ends -/
def nDs (Γ : sG) (γ : List kA) (d : Nat) (ln : sL) : Nat → sL → sL → Option (sL × sL)
  | 0, a, v => some (v, a)
  | n + 1, a, v => match nLe Γ γ d ln a with
    | some l => if nDi Γ l = true then (match l with
        | some x => nDs Γ γ d ln n (sAdd a (sC 1)) (sAdd (sMul 10 v) (sSub x (sC 48)))
        | none => none) else if nNd Γ l = true then some (v, a) else none
    | none => none
def nPd (d : Nat) (K : kS) : Option nWs := match nGs d 0 K.2 with
  | some (ln :: _ :: _ :: a :: k :: z :: r) => (match nLe K.1.2.2.2.2.2.2 K.2 d ln a, nDs K.1.2.2.2.2.2.2 K.2 d ln 4 a (sC 0) with
    | some l, some (v, b) => if (nDi K.1.2.2.2.2.2.2 l && nEm K.1.2.2.2.2.2.2 K.2 d z 1 v) = true then some (nOne [nGk d ln 20 (sC 0) b k (sAdd z (sC 1) :: r)]) else none
    | _, _ => none)
  | _ => none
/-- behind four digits stands a fifth -/
def nPz (d : Nat) (K : kS) : Option nWs := match nGs d 0 K.2 with
  | some (ln :: _ :: _ :: a :: _ :: _) => (match nLe K.1.2.2.2.2.2.2 K.2 d ln a, nDs K.1.2.2.2.2.2.2 K.2 d ln 4 a (sC 0) with
    | some l, some (_, b) => (match nLe K.1.2.2.2.2.2.2 K.2 d ln b with
      | some l2 => if (nDi K.1.2.2.2.2.2.2 l && nDi K.1.2.2.2.2.2.2 l2) = true then some (nOne [(57 + d, [ln, b])]) else none
      | none => none)
    | _, _ => none)
  | _ => none
/-- an element of a told array -/
def nEl (Γ : sG) (γ : List kA) (j : Nat) (i e : sL) : Bool := sNN Γ i && (match kFindEl γ j i with
  | some v => nEq Γ v e
  | none => false)
/-- behind a line's first part -/
def nPtx (K : kS) : Option nWs := match nGs 0 20 K.2 with
  | some [ln, _, _, a, k, z, t] => (match nTo 0 K.2 ln k (fun t => decide (t = 303)), nLe K.1.2.2.2.2.2.2 K.2 0 ln a with
    | some (_, fo, k2), some l => if t = sC (-1) then
        (if (decide (nIs K.1.2.2.2.2.2.2 l = some 63) && (nEl K.1.2.2.2.2.2.2 K.2 20 z (sC (-1001)) && (nEl K.1.2.2.2.2.2.2 K.2 20 (sAdd z (sC 1)) (sC 0) && sNN K.1.2.2.2.2.2.2 (sSub (sC 120) a)))) = true then
          some (nPush 0 K.1.2.2.2.2.2.2 ln 5 fo (sAdd a (sC 1)) k2 [sAdd z (sC 2), sAdd z (sC 1)] 304 fo)
        else if (nNo K.1.2.2.2.2.2.2 l 63 && nEl K.1.2.2.2.2.2.2 K.2 20 z (sC (-1000))) = true then some (nOne [nGk 0 ln 21 fo a k2 [sAdd z (sC 1), sC (-1)]])
        else none) else none
    | _, _ => none)
  | _ => none
def nPtm (K : kS) : Option nWs := match nGs 1 20 K.2 with
  | some [ln, _, _, a, k, l1, m, f, t] => (match nTo 1 K.2 ln k (fun t => decide (t = 303)), nLe K.1.2.2.2.2.2.2 K.2 1 ln a with
    | some (_, fo, k2), some l => if t = sC (-1) then
        (if (decide (nIs K.1.2.2.2.2.2.2 l = some 63) && sNN K.1.2.2.2.2.2.2 (sSub (sC 120) a)) = true then
          some (nPush 1 K.1.2.2.2.2.2.2 ln 5 fo (sAdd a (sC 1)) k2 [l1, m, f, l1] 304 fo)
        else if (nNo K.1.2.2.2.2.2.2 l 63 && (sNN K.1.2.2.2.2.2.2 m && (nEl K.1.2.2.2.2.2.2 K.2 68 (sAdd m (sC 61)) f && nEl K.1.2.2.2.2.2.2 K.2 69 (sAdd m (sC 61)) l1))) = true then some (nOne [nGk 1 ln 21 fo a k2 [l1, sAdd m (sC 1), l1, sC (-1)]])
        else none) else none
    | _, _ => none)
  | _ => none
/-- behind a line's second part -/
def nPbx (K : kS) : Option nWs := match nGs 0 20 K.2 with
  | some [ln, _, _, a, k, z, t] => (match nTo 0 K.2 ln k (fun t => decide (t = 304)) with
    | some (_, fo, k2) => if nEl K.1.2.2.2.2.2.2 K.2 20 z (sC (-1000)) = true then some (nOne [nGk 0 ln 24 fo a k2 [sAdd z (sC 1), t]]) else none
    | none => none)
  | _ => none
def nPbm (K : kS) : Option nWs := match nGs 1 20 K.2 with
  | some [ln, _, _, a, k, l1, m, _, t] => (match nTo 1 K.2 ln k (fun t => decide (t = 304)) with
    | some (_, fo, k2) => if (sNN K.1.2.2.2.2.2.2 t && (sNN K.1.2.2.2.2.2.2 m && (nEl K.1.2.2.2.2.2.2 K.2 68 (sAdd m (sC 61)) t && nEl K.1.2.2.2.2.2.2 K.2 69 (sAdd m (sC 61)) l1))) = true then some (nOne [nGk 1 ln 21 fo a k2 [l1, sAdd m (sC 1), l1, sC (-1)]]) else none
    | none => none)
  | _ => none
/-- the start -/
def nPsx (K : kS) : Option nWs := match kFf K.1.2.2.2.1 18 2 with
  | some ln => if (kShb K.1.2.2.2.1 19 .int 120 && (kShb K.1.2.2.2.1 20 .int 256 && (sIv K.1.2.2.2.2.2.2.1 ln).isSome)) = true then some (nPush 0 K.1.2.2.2.2.2.2 ln 5 (sC 0) (sC 0) (sC 0) [sC 0, sC (-1)] 303 (sC 0)) else none
  | none => none
def nPsm (K : kS) : Option nWs := match kFf K.1.2.2.2.1 52 17 with
  | some ln => if (kShb K.1.2.2.2.1 64 .byte 120 && (kSh K.1.2.2.2.1 && (sIv K.1.2.2.2.2.2.2.1 ln).isSome)) = true then some (nPush 1 K.1.2.2.2.2.2.2 ln 5 (sC 0) (sC 0) (sC 0) [sC 0, sC 0, sC 0, sC (-1)] 303 (sC 0)) else none
  | none => none
/-- between lines -/
def nPl (d : Nat) (K : kS) : Option nWs := match nGs d 21 K.2 with
  | some (ln :: _ :: o :: a :: k :: r) => (match nLe K.1.2.2.2.2.2.2 K.2 d ln a with
    | some l => if (decide (nIs K.1.2.2.2.2.2.2 l = some 59) && sNN K.1.2.2.2.2.2.2 (sSub (sC 120) a)) = true then some (nPush d K.1.2.2.2.2.2.2 ln 5 o (sAdd a (sC 1)) k r 303 o) else none
    | none => none)
  | _ => none
def nPk (d : Nat) (K : kS) : Option nWs := match nGs d 21 K.2 with
  | some (ln :: _ :: _ :: a :: _ :: r) => (match nLe K.1.2.2.2.2.2.2 K.2 d ln a with
    | some l => if nNo K.1.2.2.2.2.2.2 l 59 = true then
        (if sNN K.1.2.2.2.2.2.2 (sSub (sSub ln a) (sC 1)) = true then some (nOne [(57 + d, [ln, a])])
        else if sNN K.1.2.2.2.2.2.2 (sSub a ln) = true then (match r with
          | [z, _] => if d = 0 then some (nOne [(59, [ln, z])]) else none
          | [l1, m, _, _] => if d = 1 then some (nOne [(60, [ln, l1, m])]) else none
          | _ => none)
        else none) else none
    | none => none)
  | _ => none
/-- the reference's law is what was laid -/
def nPrm (K : kS) : Option nWs := match kFa K.2 60 (fun _ => true), kFa K.2 9 (fun _ => true), kM0 K.1.2.2.2.1 with
  | some [ln, l, m], some [k], some f => if (kHas K.2 8 [l] && (sNN K.1.2.2.2.2.2.2 (sSub k m) && (sNN K.1.2.2.2.2.2.2 (sSub f m) && (sNN K.1.2.2.2.2.2.2 (sSub m f) && (sWf K.1.2.2.2.2.2.2 f 0 61 && sWf K.1.2.2.2.2.2.2 l 0 130))))) = true then some (nOne [(64, [ln])]) else none
  | _, _, _ => none
end
