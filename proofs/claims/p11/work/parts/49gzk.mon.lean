/-! Months: what is never said, how near it comes, which words come too near. -/
noncomputable section
def vMx (Γ : sG) (r a b : sL) : Bool := (decide (r = a) && sNN Γ (sSub a b)) || (decide (r = b) && sNN Γ (sSub b a))
def vEnd (Γ : sG) (n a : sL) : Bool := kEqf Γ n (sC 12) || (sNN Γ (sSub (sC (-1)) a) && sNN Γ (sSub (sC 12) n))
def vLb (Γ : sG) (r g : sL) : Bool := (decide (r = sC (-2)) && sNN Γ (sSub g (sC 99))) || (decide (r = sAdd g (sC 1)) && sNN Γ (sSub (sC 98) g))
def vVGi (zl zn : Nat) (K : kS) : Option kWs := match jSd 0 zl 0 K, kFa K.2 62 (fun _ => true), nFf K.1.2.2.2.1 24 zn, kLf K.1.2.1 2, kLf K.1.2.1 3, kLf K.1.2.1 4, kFa K.2 157 (fun _ => true) with
  | some (s, le, w), some [_, hl], some nv, some gr, some a, some n, none => (match aOne K.2 nv with
    | some [one, _] => if (decide (n = sC 0) && (decide (a = sC 0) && decide (gr = sC 0))) = true then some [([(157, [hl, jB s, le, w, one, sC 0, sC 0, sC 0])], [])] else none
    | _ => none)
  | _, _, _, _, _, _, _ => none
def vVGs (K : kS) : Option kWs := match kFa K.2 157 (fun _ => true), kLf K.1.2.1 2, kLf K.1.2.1 3, kLf K.1.2.1 4 with
  | some [hl, b, le, w, one, n0, a0, g0], some gr, some a, some n => (match kFa K.2 146 (jRq b a0 le w a) with
    | some [_, _, _, _, l, _] => (match jNr K.2 hl (sAdd b a0) one l with
      | some x => if (decide (n = sAdd n0 (sC 1)) && (sNN K.1.2.2.2.2.2.2 a0 && vMx K.1.2.2.2.2.2.2 gr g0 x)) = true then some [([(157, [hl, b, le, w, one, n, a, gr])], [])] else none
      | none => none)
    | _ => none)
  | _, _, _, _ => none
def vVGe (K : kS) : Option kWs := match kFa K.2 157 (fun _ => true), kTop K with
  | some [hl, b, le, w, one, n0, a0, gr], some r => if (vEnd K.1.2.2.2.2.2.2 n0 a0 && vLb K.1.2.2.2.2.2.2 r gr) = true then some [([(166, [hl, b, le, w, one, r])], [])] else none
  | _, _ => none
def vVRi (zh zw zr zg zo : Nat) (K : kS) : Option kWs := match jSd 1 0 zw K, nFf K.1.2.2.2.1 52 zh, kLf K.1.2.1 2, kLf K.1.2.1 4, nFf K.1.2.2.2.1 52 zr, nFf K.1.2.2.2.1 52 zg, nFf K.1.2.2.2.1 52 zo, kFa K.2 159 (fun _ => true) with
  | some (s, le, w), some hl, some one, some n, some ra, some gr, some oc, none => if (decide (n = sC 0) && (decide (ra = sC 0) && (decide (gr = sC 0) && (decide (oc = sC 0) && kLz K.1.2.2.2.1 84 360)))) = true then some [([(159, [hl, jB s, le, w, one, sC 0, sC 0, sC 0]), (162, [jB s, le, w, sC 0, sC 0, sC 0])], [])] else none
  | _, _, _, _, _, _, _, _ => none
def vQ5 (n : sL) (fs : List sL) : Bool := match fs with
  | [_, _, _, _, _, n', _, _] => decide (n' = n)
  | _ => false
def vQ3 (n oc : sL) (fs : List sL) : Bool := match fs with
  | [_, _, _, n', _, c] => decide (n' = n) && decide (c = oc)
  | _ => false
def vVRs (zr z1 zg zo : Nat) (K : kS) : Option kWs := match kLf K.1.2.1 4, kLf K.1.2.1 6, nFf K.1.2.2.2.1 52 zr, nFf K.1.2.2.2.1 52 z1, nFf K.1.2.2.2.1 52 zg, nFf K.1.2.2.2.1 52 zo with
  | some n, some k, some ra, some L, some gr, some oc => (match kFa K.2 159 (vQ5 n), kFa K.2 162 (vQ3 n oc) with
    | some [hl, b, le, w, one, n0, p0, g0], some [b2, le2, w2, _, p2, _] => (match jNr K.2 hl (sAdd b p0) one L with
      | some x => if (decide (k = sC 0) && (decide (b2 = b) && (decide (le2 = le) && (decide (w2 = w) && (decide (p2 = p0) && (kHav K.2 151 [b, p0, le, w, L, ra] && (sNN K.1.2.2.2.2.2.2 n0 && vMx K.1.2.2.2.2.2.2 gr g0 x))))))) = true then some [([(159, [hl, b, le, w, one, sAdd n0 (sC 1), ra, gr]), (163, [b, le, w, n0, p0, sC 0, oc])], [])] else none
      | none => none)
    | _, _ => none)
  | _, _, _, _, _, _ => none
def vQk (k : sL) (fs : List sL) : Bool := match fs with
  | [_, _, _, _, _, k', _] => decide (k' = k)
  | _ => false
def vQs (Γ : sG) (b i : sL) (fs : List sL) : Bool := match fs with
  | [b', n] => decide (b' = b) && sNN Γ (sSub (sSub n i) (sC 1))
  | _ => false
def vVKs (zo : Nat) (K : kS) : Option kWs := match kLf K.1.2.1 6, nFf K.1.2.2.2.1 52 zo with
  | some k, some oc => (match kFa K.2 163 (vQk (sSub k (sC 1))), kFindEl K.2 72 (sSub k (sC 1)) with
    | some [b, le, w, n0, p0, _, o0], some x => (match kFa K.2 87 (vQs K.1.2.2.2.2.2.2 (sAdd b p0) (sSub k (sC 1))), nDl K.1.2.2.2.2.2.2 6 (sC 1) x with
      | some [_, _], some y => if (sNN K.1.2.2.2.2.2.2 (sSub k (sC 1)) && (sWi K.1.2.2.2.2.2.2.1 x 0 31 && decide (nDl K.1.2.2.2.2.2.2 4 o0 y = some oc))) = true then some [([(163, [b, le, w, n0, p0, k, oc])], [])] else none
      | _, _ => none)
    | _, _ => none)
  | _, _ => none
def vQko (k oc : sL) (fs : List sL) : Bool := match fs with
  | [_, _, _, _, _, k', c] => decide (k' = k) && decide (c = oc)
  | _ => false
def vVKe (zr z1 zo : Nat) (K : kS) : Option kWs := match kLf K.1.2.1 6, nFf K.1.2.2.2.1 52 zr, nFf K.1.2.2.2.1 52 z1, nFf K.1.2.2.2.1 52 zo with
  | some k, some ra, some L, some oc => (match kFa K.2 163 (vQko k oc) with
    | some [b, le, w, n0, p0, _, _] => if (kEqf K.1.2.2.2.2.2.2 k L && kHav K.2 151 [b, p0, le, w, L, ra]) = true then some [([(162, [b, le, w, sAdd n0 (sC 1), ra, oc])], [])] else none
    | _ => none)
  | _, _, _, _ => none
def vQg (n ra gr : sL) (fs : List sL) : Bool := match fs with
  | [_, _, _, _, _, n', p', g'] => decide (n' = n) && (decide (p' = ra) && decide (g' = gr))
  | _ => false
def vQo (n ra oc : sL) (fs : List sL) : Bool := match fs with
  | [_, _, _, n', p', c] => decide (n' = n) && (decide (p' = ra) && decide (c = oc))
  | _ => false
def vVRe (zr zg zo : Nat) (K : kS) : Option kWs := match kLf K.1.2.1 4, nFf K.1.2.2.2.1 52 zr, nFf K.1.2.2.2.1 52 zg, nFf K.1.2.2.2.1 52 zo with
  | some n, some ra, some gr, some oc => (match kFa K.2 159 (vQg n ra gr), kFa K.2 162 (vQo n ra oc) with
    | some [hl, b, le, w, one, _, _, _], some [b2, le2, w2, _, _, _] => if (decide (b2 = b) && (decide (le2 = le) && (decide (w2 = w) && (kEqf K.1.2.2.2.2.2.2 n (sC 12) || (sNN K.1.2.2.2.2.2.2 (sSub (sC 11) n) && kHav K.2 150 [b, ra, le, w]))))) = true then some [([(158, [hl, b, le, w, one, gr]), (161, [b, le, w, oc])], [])] else none
    | _, _ => none)
  | _, _, _, _ => none
def vVBi (K : kS) : Option kWs := match kLf K.1.2.1 1, kLf K.1.2.1 2, kFa K.2 86 (fun _ => true), kFa K.2 164 (fun _ => true) with
  | some bt, some i, some [base, _], none => if (decide (bt = sC 0) && decide (i = sC 0)) = true then some [([(164, [base, sC 0, sC 0])], [])] else none
  | _, _, _, _ => none
def vQb (i : sL) (fs : List sL) : Bool := match fs with
  | [_, i', _] => decide (i' = i)
  | _ => false
def vVBs (K : kS) : Option kWs := match kLf K.1.2.1 1, kLf K.1.2.1 2 with
  | some bt, some i => (match kFa K.2 164 (vQb (sSub i (sC 1))), kFindEl K.2 25 (sSub i (sC 1)) with
    | some [base, _, b0], some x => (match kFa K.2 86 (vQs K.1.2.2.2.2.2.2 base (sSub i (sC 1))), nDl K.1.2.2.2.2.2.2 6 (sC 1) x with
      | some [_, _], some y => if (sNN K.1.2.2.2.2.2.2 (sSub i (sC 1)) && (sWi K.1.2.2.2.2.2.2.1 x 0 31 && decide (nDl K.1.2.2.2.2.2.2 4 b0 y = some bt))) = true then some [([(164, [base, i, bt])], [])] else none
      | _, _ => none)
    | _, _ => none)
  | _, _ => none
def vVBe (zp : Nat) (K : kS) : Option kWs := match kFa K.2 164 (fun _ => true), nFf K.1.2.2.2.1 24 zp, kTop K with
  | some [base, j, m], some L, some r => if (decide (r = m) && (kEqf K.1.2.2.2.2.2.2 j L && !decide (j = L))) = true then some [([(164, [base, L, m])], [])] else none
  | _, _, _ => none
def vVOi (zl : Nat) (K : kS) : Option kWs := match jSd 0 zl 0 K, kLf K.1.2.1 2, kLf K.1.2.1 3, kLf K.1.2.1 4, kFa K.2 160 (fun _ => true) with
  | some (s, le, w), some nv, some a, some n, none => if (decide (n = sC 0) && (decide (a = sC 0) && sI32 K.1.2.2.2.2.2.2.1 nv)) = true then some [([(160, [jB s, le, w, sC 0, sC 0, nv, nv])], [])] else none
  | _, _, _, _, _ => none
def vVOs (K : kS) : Option kWs := match kFa K.2 160 (fun _ => true), kLf K.1.2.1 2, kLf K.1.2.1 3, kLf K.1.2.1 4 with
  | some [b, le, w, n0, a0, F, v0], some nv, some a, some n => (match kFa K.2 146 (jRq b a0 le w a) with
    | some [_, _, _, _, l, _] => (match kFa K.2 164 (tPre [sAdd b a0, l]) with
      | some [_, _, m] => (match nDl K.1.2.2.2.2.2.2 5 m (sC (-1)) with
        | some y => if (decide (n = sAdd n0 (sC 1)) && (sNN K.1.2.2.2.2.2.2 a0 && decide (nDl K.1.2.2.2.2.2.2 3 v0 y = some nv))) = true then some [([(160, [b, le, w, n, a, F, nv])], [])] else none
        | none => none)
      | _ => none)
    | _ => none)
  | _, _, _, _ => none
def vVOe (K : kS) : Option kWs := match kFa K.2 160 (fun _ => true), kTop K with
  | some [b, le, w, n0, a0, F, v], some r => if (decide (r = v) && vEnd K.1.2.2.2.2.2.2 n0 a0) = true then some [([(165, [b, le, w, F, v])], [])] else none
  | _, _ => none
def vQ1 (x : sL) (fs : List sL) : Bool := decide (fs.getLast? = some x)
def vXg (Γ : sG) (γ : List kA) (gr r : sL) : List kA := match kFa γ 158 (vQ1 gr) with
  | some [hl, b, le, w, one, _] => if vLb Γ r gr = true then [(166, [hl, b, le, w, one, r])] else []
  | _ => []
def vXd (Γ : sG) (y r : sL) : Option sL := (Γ.2.2.2.find? (fun d => decide (d.1 = 3) && (decide (d.2.2.1 = y) && decide (sX d.2.2.2 = r)))).map fun d => d.2.1
def vXo (Γ : sG) (γ : List kA) (oc r : sL) : List kA := match kFa γ 161 (vQ1 oc), nDl Γ 5 oc (sC (-1)) with
  | some [b, le, w, _], some y => (match vXd Γ y r with
    | some F => [(165, [b, le, w, F, r])]
    | none => [])
  | _, _ => []
def vVXm (zg zo : Nat) (K : kS) : Option kWs := match nFf K.1.2.2.2.1 52 zg, nFf K.1.2.2.2.1 52 zo, kTop K with
  | some gr, some oc, some r => if (vXg K.1.2.2.2.2.2.2 K.2 gr r ++ vXo K.1.2.2.2.2.2.2 K.2 oc r).isEmpty = true then none else some [(vXg K.1.2.2.2.2.2.2 K.2 gr r ++ vXo K.1.2.2.2.2.2.2 K.2 oc r, [])]
  | _, _, _ => none
def vGB (zp zu : Nat) (K : kS) : Option kWs := match kFa K.2 81 (fun _ => true), kLf K.1.2.1 1, nFf K.1.2.2.2.1 24 zp, nFf K.1.2.2.2.1 24 zu, kTop K with
  | some [hl, w', p, b, nv, r], some w, some L, some ru, some t => (match nAhd K.1.2.2.2.2.2.2 K.2 L, aOne K.2 nv with
    | some a, some [one, _] => if (decide (p = L) && (decide (w' = w) && (decide (r = sSub t ru) && (nBsp K.1.2.2.2.2.2.2 K.2 w a b && sI32 K.1.2.2.2.2.2.2.1 nv)))) = true then some [([(85, [hl, w, L, a, one, r])], [])] else none
    | _, _ => none)
  | _, _, _, _, _ => none
/-- the last word of a sentence -/
def vLa (Γ : sG) (γ : List kA) (kind cell : Nat) (base n : sL) : Option sL := if kHav γ kind [base, n] = true then (if sNN Γ (sMul (-1) n) = true then some (sC (-1)) else (match kFindEl γ cell (sSub n (sC 1)) with
    | some a => if (sNN Γ (sSub n (sC 1)) && sI32 Γ.1 a) = true then some a else none
    | none => none)) else none
def vVTi0 (zp zn : Nat) (K : kS) : Option kWs := match kLf K.1.2.1 3, kLf K.1.2.1 4, nFf K.1.2.2.2.1 24 zp, kFa K.2 86 (fun _ => true), kFa K.2 62 (fun _ => true), nFf K.1.2.2.2.1 24 zn, kToldI K.1.2.2.2.1 11 0 with
  | some bt, some w, some n, some [base, _], some [_, hl], some nv, some bd => (match aOne K.2 nv with
    | some [one, _] => if (decide (bt = sC 0) && (decide (w = sC 0) && !kHav K.2 168 [hl, base, one, n, sC 0, bd, sC 0])) = true then some [([(168, [hl, base, one, n, sC 0, bd, sC 0])], [])] else none
    | _ => none)
  | _, _, _, _, _, _, _ => none
def vVTi1 (zh : Nat) (K : kS) : Option kWs := match kLf K.1.2.1 3, kLf K.1.2.1 5, kLf K.1.2.1 4, kFa K.2 87 (fun _ => true), nFf K.1.2.2.2.1 52 zh, kLf K.1.2.1 2, kToldI K.1.2.2.2.1 59 2 with
  | some bt, some w, some n, some [base, _], some hl, some one, some bd => if (decide (bt = sC 0) && (decide (w = sC 0) && !kHav K.2 168 [hl, base, one, n, sC 0, bd, sC 0])) = true then some [([(168, [hl, base, one, n, sC 0, bd, sC 0])], [])] else none
  | _, _, _, _, _, _, _ => none
def vQt (n w : sL) (fs : List sL) : Bool := match fs with
  | [_, _, _, n', w', _, _] => decide (n' = n) && decide (w' = w)
  | _ => false
def vHit (Γ : sG) (bt b0 w : sL) : Bool := match nDl Γ 6 (sC 1) w with
  | some y => decide (nDl Γ 4 b0 y = some bt)
  | none => false
def vTc (Γ : sG) (bt b0 w be s bd : sL) : Bool := if (sNN Γ (sSub be bd) || (sNN Γ (sSub s bd) && sNN Γ s)) = true then vHit Γ bt b0 w
  else sNN Γ (sSub (sSub bd be) (sC 1)) && (sNN Γ (sSub (sSub bd s) (sC 1)) && (sNN Γ (sSub bd (sC 1)) && (decide (nDl Γ 4 b0 (sC 0) = some bt) || decide (bt = b0))))
def vVTs0 (zp zu : Nat) (K : kS) : Option kWs := match kLf K.1.2.1 3, kLf K.1.2.1 4, nFf K.1.2.2.2.1 24 zp, nFf K.1.2.2.2.1 24 zu, kLf K.1.2.1 2 with
  | some bt, some w, some n, some ru, some be => (match kFa K.2 168 (vQt n (sSub w (sC 1))) with
    | some [hl, base, one, _, _, bd, b0] => (match vLa K.1.2.2.2.2.2.2 K.2 86 25 base n with
      | some a => (match kFa K.2 85 (tPre [hl, sSub w (sC 1), n, a, one]) with
        | some [_, _, _, _, _, r] => if (kHav K.2 88 [hl, base, one, n, ru, be] && (sNN K.1.2.2.2.2.2.2 (sSub w (sC 1)) && vTc K.1.2.2.2.2.2.2 bt b0 (sSub w (sC 1)) be (sAdd ru r) bd)) = true then some [([(168, [hl, base, one, n, w, bd, bt])], [])] else none
        | _ => none)
      | none => none)
    | _ => none)
  | _, _, _, _, _ => none
def vTd (Γ : sG) (bt b0 w x bd : sL) : Bool := if sNN Γ (sSub x bd) = true then vHit Γ bt b0 w else sNN Γ (sSub (sSub bd x) (sC 1)) && decide (bt = b0)
def vVTs1 (K : kS) : Option kWs := match kLf K.1.2.1 3, kLf K.1.2.1 5, kLf K.1.2.1 4 with
  | some bt, some w, some n => (match kFa K.2 168 (vQt n (sSub w (sC 1))) with
    | some [hl, base, one, _, _, bd, b0] => (match kFa K.2 169 (tPre [hl, base, one, n, sSub w (sC 1)]) with
      | some [_, _, _, _, _, x] => if (sNN K.1.2.2.2.2.2.2 (sSub w (sC 1)) && vTd K.1.2.2.2.2.2.2 bt b0 (sSub w (sC 1)) x bd) = true then some [([(168, [hl, base, one, n, w, bd, bt])], [])] else none
      | _ => none)
    | _ => none)
  | _, _, _ => none
def vQm (Γ : sG) (b j : sL) (fs : List sL) : Bool := match fs with
  | [b', n] => decide (b' = b) && kEqf Γ n j
  | _ => false
def vLb2 (Γ : sG) (γ : List kA) (j : sL) : Option sL := if sNN Γ (sMul (-1) j) = true then some (sC (-1)) else (match kFindEl γ 72 (sSub j (sC 1)) with
  | some a => if (sNN Γ (sSub j (sC 1)) && sI32 Γ.1 a) = true then some a else none
  | none => none)
def vFd (Γ : sG) (o m r o2 m2 : sL) : Bool := ((decide (o2 = sAdd o r) && sNN Γ (sAdd o r)) || (decide (o2 = sC 0) && sNN Γ (sMul (-1) (sAdd o r)))) && ((decide (m2 = m) && sNN Γ (sSub m o2)) || (decide (m2 = o2) && sNN Γ (sSub o2 m)))
def vVWs (K : kS) : Option kWs := match kFa K.2 88 (fun _ => true), kLf K.1.2.1 5, kLf K.1.2.1 3, kLf K.1.2.1 4 with
  | some [hl, base, one, j, o, m], some i, some o2, some m2 => (match kFa K.2 87 (vQm K.1.2.2.2.2.2.2 base j), kFindEl K.2 72 j, vLb2 K.1.2.2.2.2.2.2 K.2 j with
    | some [_, n], some w, some a => (match kFa K.2 85 (tPre [hl, w, j, a, one]) with
      | some [_, _, _, _, _, r] => if (decide (i = sAdd j (sC 1)) && (sI32 K.1.2.2.2.2.2.2.1 w && vFd K.1.2.2.2.2.2.2 o m r o2 m2)) = true then some [([(169, [hl, base, one, n, w, m2])], [])] else none
      | _ => none)
    | _, _, _ => none)
  | _, _, _, _ => none
def vCn (Γ : sG) (n1 n i : sL) : Bool := kEqf Γ n1 (sAdd n (sC 1)) && (sNN Γ (sSub n i) && (sNN Γ i && sWi Γ.1 n 0 61))
def vVSp (K : kS) : Option kWs := match kLf K.1.2.1 1, kLf K.1.2.1 5, kFa K.2 87 (fun _ => true) with
  | some n1, some i, some [_, n] => (match kFindEl K.2 72 n with
    | some w => if (vCn K.1.2.2.2.2.2.2 n1 n i && (!sNN K.1.2.2.2.2.2.2 (sSub (sSub n i) (sC 1)) && !sNN K.1.2.2.2.2.2.2 (sSub i n))) = true then some [([], [(sSub (sSub n i) (sC 1), 0, 61)]), ([(1072, [i, w])], [(sSub n i, 0, 0)])] else none
    | none => none)
  | _, _, _ => none
def vVSh (K : kS) : Option kWs := match kLf K.1.2.1 1, kLf K.1.2.1 5, kFa K.2 87 (fun _ => true) with
  | some n1, some i, some [_, n] => (match kFindEl K.2 72 n with
    | some _ => if vCn K.1.2.2.2.2.2.2 n1 n i = true then some [([], [(sSub (sSub n1 (sC 1)) i, 0, 61)])] else none
    | none => none)
  | _, _, _ => none
def vVGx (zl : Nat) (K : kS) : Option kWs := match jSd 0 zl 0 K with
  | some (s, le, w) => if jSp K.1.2.2.2.2.2.2 K.2 0 s le w (sC 0) = some false then some [([(150, [jB s, sC 0, le, w])], [])] else (match kWv K.1.2.2.2.2.2.2 K.2 0 s (sC 0) 0 with
    | some x => if (sNN K.1.2.2.2.2.2.2 (sSub le (sC 1)) && (decide (jSp K.1.2.2.2.2.2.2 K.2 0 s le w (sC 0) = some true) || (sNN K.1.2.2.2.2.2.2 x && sNN K.1.2.2.2.2.2.2 (sSub (sSub w x) (sC 1))))) = true then some [([(152, [jB s, sC 0, le, w])], [])] else none
    | none => none)
  | none => none
def vQe (hl b one bd r : sL) (fs : List sL) : Bool := match fs with
  | [h', b', o', _, _, d', r'] => decide (h' = hl) && (decide (b' = b) && (decide (o' = one) && (decide (d' = bd) && decide (r' = r))))
  | _ => false
def vTq (d : Nat) (γ : List kA) (s : Nat) (le w n : sL) : Bool := if d = 0 then kHav γ 152 [jB s, sC 0, le, w] && (kFa γ 146 (tPre [jB s, sC 0, le, w, n])).isSome else (kFa γ 151 (tPre [jB s, sC 0, le, w, n])).isSome
def vTe (d : Nat) (K : kS) (s : Nat) (hl le w one bd r : sL) : Option kWs := if (decide (r = sC 0) && kHav K.2 150 [jB s, sC 0, le, w]) = true then some [([(167, [hl, jB s, le, w, one, bd, r])], [])] else (match kFa K.2 168 (vQe hl (jB s) one bd r) with
  | some [_, _, _, n, wc, _, _] => if (kEqf K.1.2.2.2.2.2.2 wc w && vTq d K.2 s le w n) = true then some [([(167, [hl, jB s, le, w, one, bd, r])], [])] else none
  | _ => none)
def vVTe0 (zl zn : Nat) (K : kS) : Option kWs := match jSd 0 zl 0 K, kFa K.2 62 (fun _ => true), nFf K.1.2.2.2.1 24 zn, kToldI K.1.2.2.2.1 11 0, kTop K with
  | some (s, le, w), some [_, hl], some nv, some bd, some r => (match aOne K.2 nv with
    | some [one, _] => vTe 0 K s hl le w one bd r
    | _ => none)
  | _, _, _, _, _ => none
def vVTe1 (zh zw : Nat) (K : kS) : Option kWs := match jSd 1 0 zw K, nFf K.1.2.2.2.1 52 zh, kLf K.1.2.1 2, kToldI K.1.2.2.2.1 59 2, kTop K with
  | some (s, le, w), some hl, some one, some bd, some r => vTe 1 K s hl le w one bd r
  | _, _, _, _, _ => none
section VMON
variable {RO : List (Nat × (Nat → Int32))} {ρ : List Int} {Γ : sG} {γ : List kA} {H : List eE}
theorem vUPi {k : Nat} (hk : 157 ≤ k ∧ k < 173) {zs : List Int} : nUP k zs H ↔ ∃ g, kLg 84 360 g H ∧ vPr H g k zs := by
  refine (tUP_iff (by omega)).trans ?_
  unfold tUP
  rw [if_neg (by omega), if_pos hk.1]
  exact Iff.rfl
theorem vAt {k : Nat} {fs : List sL} {zs : List Int} {g : Nat → Int64} (hk : 157 ≤ k ∧ k < 173) (hk2 : k < 1000) (e : sVal ρ fs = some zs) (h1 : kLg 84 360 g H) (h5 : vPr H g k zs) : kGh (kGP (kUP RO)) ρ [(k, fs)] H := kAt1 hk2 e ((kUPn (by omega)).mpr ((vUPi hk).mpr ⟨g, h1, h5⟩))
theorem vFa (hg : kGh (kGP (kUP RO)) ρ γ H) {k : Nat} {p : List sL → Bool} {fs : List sL} (h : kFa γ k p = some fs) (hk : 157 ≤ k ∧ k < 173) (hk2 : k < 1000) : p fs = true ∧ ∃ zs g, sVal ρ fs = some zs ∧ kLg 84 360 g H ∧ vPr H g k zs := by
  obtain ⟨h1, zs, e, h2⟩ := nFa_ok hg h (by omega) hk2
  obtain ⟨g, h3, h4⟩ := (vUPi hk).mp h2
  exact ⟨h1, zs, g, e, h3, h4⟩
theorem vMx_ok (hM : sMo ρ Γ) {r a b : sL} {za zb : Int} (ea : sEv ρ a = some za) (eb : sEv ρ b = some zb) (h : vMx Γ r a b = true) : sEv ρ r = some (max za zb) := by
  unfold vMx at h
  simp only [Bool.or_eq_true, Bool.and_eq_true, decide_eq_true_eq] at h
  rcases h with ⟨rfl, h⟩ | ⟨rfl, h⟩
  · have := sNN_ok hM (sEv_sub ea eb) h
    rw [ea, show max za zb = za by omega]
  · have := sNN_ok hM (sEv_sub eb ea) h
    rw [eb, show max za zb = zb by omega]
theorem vEnd_ok (hM : sMo ρ Γ) {n a : sL} {zn za : Int} (en : sEv ρ n = some zn) (ea : sEv ρ a = some za) (h : vEnd Γ n a = true) : zn = 12 ∨ (za < 0 ∧ zn ≤ 12) := by
  unfold vEnd at h
  rcases Bool.or_eq_true_iff.mp h with h | h
  · exact Or.inl (kEqf_ok hM en (sEv_C 12) h)
  · rw [Bool.and_eq_true] at h
    have d1 := sNN_ok hM (sEv_sub (sEv_C (-1)) ea) h.1
    have d2 := sNN_ok hM (sEv_sub (sEv_C 12) en) h.2
    exact Or.inr ⟨by omega, by omega⟩
theorem vLb_ok (hM : sMo ρ Γ) {r g : sL} {zg : Int} (eg : sEv ρ g = some zg) (h : vLb Γ r g = true) : sEv ρ r = some (if 99 ≤ zg then -2 else zg + 1) := by
  unfold vLb at h
  simp only [Bool.or_eq_true, Bool.and_eq_true, decide_eq_true_eq] at h
  rcases h with ⟨rfl, h⟩ | ⟨rfl, h⟩
  · have := sNN_ok hM (sEv_sub eg (sEv_C 99)) h
    rw [if_pos (by omega)]
    exact sEv_C _
  · have := sNN_ok hM (sEv_sub (sEv_C 98) eg) h
    rw [if_neg (by omega)]
    exact sEv_add eg (sEv_C 1)
theorem vVGi_ok (zl zn : Nat) : kRok RO (vVGi zl zn) := by
  intro K ws h ρ R hD
  unfold vVGi at h
  split at h
  · rename_i s le w x1 hl nv gr a n hs hlw hnv hgr ha hn hno
    split at h
    · rename_i one v hone
      split at h
      · rename_i hc
        cases h
        obtain ⟨h6, ⟨zl', el⟩, ⟨zw, ew⟩, hd⟩ := jSd_ok hD hs
        obtain ⟨f, g, q1, q2, q3⟩ := kHavEL h6 hD.2.2 (hd rfl)
        obtain ⟨-, zs, e3, -⟩ := nFa_ok hD.2.2 hlw (by decide) (by decide)
        obtain ⟨z1, zh, rfl, -, eh⟩ := sVal_2 e3
        obtain ⟨zv, ev⟩ := nFf_ok hD.2.1.2.2.2.1 hnv
        obtain ⟨zo, eo, -⟩ := aOne_ok hD.2.2 ev hone
        exact ⟨_, List.mem_singleton.mpr rfl, vAt (g := g) (zs := [zh, 60 * (s : Int), zl', zw, zo, 0, 0, 0]) (by decide) (by decide) (by simp only [sVal, eh, jB_ev, el, ew, eo, sEv_C]) q2 ⟨Int.le_refl _, rfl, rfl⟩, fun b hb => by cases hb⟩
      · cases h
    · cases h
  · cases h
/-- one sentence read by the class, and how near it comes -/
theorem vRead (hM : sMo ρ Γ) (hg : kGh (kGP (kUP RO)) ρ γ H) {g : Nat → Int64} (hG : kLg 84 360 g H) {b a0 le w nx x1 x2 x3 x4 l x6 : sL} {zb za zl zw : Int} (eb : sEv ρ b = some zb) (ea : sEv ρ a0 = some za) (el : sEv ρ le = some zl) (ew : sEv ρ w = some zw) (h : kFa γ 146 (jRq b a0 le w nx) = some [x1, x2, x3, x4, l, x6]) : ∃ zL zn, sEv ρ l = some zL ∧ sEv ρ nx = some zn ∧ 0 ≤ zb ∧ jR (jW g zb) zl zw za zL zn := by
  obtain ⟨q, zs', g', e', hG', hP'⟩ := jFr hg h (Or.inr (Or.inl rfl))
  cases kLg_one hG hG'
  unfold jRq at q
  simp only [Bool.and_eq_true, decide_eq_true_eq] at q
  obtain ⟨rfl, rfl, rfl, rfl, rfl⟩ := q
  obtain ⟨u1, u2, u3, u4, u5, u6, rfl, g1, g2, g3, g4, g5, g6⟩ := tVal_6 e'
  cases g1.symm.trans eb
  cases g2.symm.trans ea
  cases g3.symm.trans el
  cases g4.symm.trans ew
  obtain ⟨b0, hR⟩ : 0 ≤ zb ∧ jR (jW g zb) zl zw za u5 u6 := hP'
  exact ⟨u5, u6, g5, g6, b0, hR⟩
theorem vVGs_ok : kRok RO vVGs := by
  intro K ws h ρ R hD
  have hM := hD.1
  unfold vVGs at h
  split at h
  · rename_i hl b le w one n0 a0 g0 gr a n hfa hgr ha hn
    split at h
    · rename_i b1 a1 le1 w1 l nx hfb
      split at h
      · rename_i x hx
        split at h
        · rename_i hc
          cases h
          simp only [Bool.and_eq_true, decide_eq_true_eq] at hc
          obtain ⟨rfl, c1, c2⟩ := hc
          obtain ⟨-, zs, g, e, hG, hP⟩ := vFa hD.2.2 hfa (by decide) (by decide)
          obtain ⟨y1, y2, y3, y4, y5, y6, y7, y8, rfl, e1, e2, e3, e4, e5, e6, e7, e8⟩ := jVal_8 e
          obtain ⟨p1, p2⟩ : 0 ≤ y6 ∧ vFo (jW g y2) (vG (jN R.2.2.2.1 y1 y5 y2)) y3 y4 y6.toNat y7 y8 := hP
          obtain ⟨zL, zn, eL, enx, b0, hR⟩ := vRead hM hD.2.2 hG e2 e7 e3 e4 hfb
          obtain ⟨zx, u, ex, hu⟩ := jNr_ok hD.2.2 e1 (sEv_add e2 e7) e5 eL hx
          have d1 := sNN_ok hM e7 c1
          have er := vMx_ok hM e8 ex c2
          have e9 := sEv_add e6 (sEv_C (ρ := ρ) 1)
          exact ⟨_, List.mem_singleton.mpr rfl, vAt (g := g) (zs := [y1, y2, y3, y4, y5, y6 + 1, zn, max y8 zx]) (by decide) (by decide) (by simp only [sVal, e1, e2, e3, e4, e5, e9, enx, er]) hG ⟨by omega, vFo_s p2 p1 d1 hR ⟨zx, ⟨u, hu⟩, rfl⟩⟩, fun b hb => by cases hb⟩
        · cases h
      · cases h
    · cases h
  · cases h
theorem vVGe_ok : kRok RO vVGe := by
  intro K ws h ρ R hD
  have hM := hD.1
  unfold vVGe at h
  split at h
  · rename_i hl b le w one n0 a0 gr r hfa hr
    split at h
    · rename_i hc
      cases h
      rw [Bool.and_eq_true] at hc
      obtain ⟨-, zs, g, e, hG, hP⟩ := vFa hD.2.2 hfa (by decide) (by decide)
      obtain ⟨y1, y2, y3, y4, y5, y6, y7, y8, rfl, e1, e2, e3, e4, e5, e6, e7, e8⟩ := jVal_8 e
      obtain ⟨p1, p2⟩ : 0 ≤ y6 ∧ vFo (jW g y2) (vG (jN R.2.2.2.1 y1 y5 y2)) y3 y4 y6.toNat y7 y8 := hP
      have hq := vEnd_ok hM e6 e7 hc.1
      have er := vLb_ok hM e8 hc.2
      exact ⟨_, List.mem_singleton.mpr rfl, vAt (g := g) (zs := [y1, y2, y3, y4, y5, if 99 ≤ y8 then -2 else y8 + 1]) (by decide) (by decide) (by simp only [sVal, e1, e2, e3, e4, e5, er]) hG ⟨y8, vFo_e p2 hq, rfl⟩, fun b hb => by cases hb⟩
    · cases h
  · cases h
theorem vVRi_ok (zh zw zr zg zo : Nat) : kRok RO (vVRi zh zw zr zg zo) := by
  intro K ws h ρ R hD
  unfold vVRi at h
  split at h
  · rename_i s le w hl one n ra gr oc hs hhl hone hn hra hgr hoc hno
    split at h
    · rename_i hc
      cases h
      simp only [Bool.and_eq_true] at hc
      obtain ⟨h6, ⟨zl', el⟩, ⟨zw', ew⟩, hd⟩ := jSd_ok hD hs
      obtain ⟨g, hG⟩ := kLz_ok hD.2.1.2.2.2.1 hc.2.2.2.2
      obtain ⟨zh', eh⟩ := nFf_ok hD.2.1.2.2.2.1 hhl
      obtain ⟨zo', eo⟩ := kLf_ok hD.2.1 hone
      exact ⟨_, List.mem_singleton.mpr rfl, kGh_cons (vAt (g := g) (zs := [zh', 60 * (s : Int), zl', zw', zo', 0, 0, 0]) (by decide) (by decide) (by simp only [sVal, eh, jB_ev, el, ew, eo, sEv_C]) hG ⟨Int.le_refl _, Int.le_refl _, 0, ⟨rfl, rfl⟩, Or.inl rfl⟩) (vAt (g := g) (zs := [60 * (s : Int), zl', zw', 0, 0, 0]) (by decide) (by decide) (by simp only [sVal, jB_ev, el, ew, sEv_C]) hG ⟨Int.le_refl _, Int.le_refl _, 0, ⟨rfl, rfl⟩, Or.inl rfl⟩), fun b hb => by cases hb⟩
    · cases h
  · cases h
theorem vVRs_ok (zr z1 zg zo : Nat) : kRok RO (vVRs zr z1 zg zo) := by
  intro K ws h ρ R hD
  have hM := hD.1
  unfold vVRs at h
  split at h
  · rename_i n k ra L gr oc hn hk hra hL hgr hoc
    split at h
    · rename_i hl b le w one n0 p0 g0 b2 le2 w2 n2 p2 c2 hfa hfb
      split at h
      · rename_i x hx
        split at h
        · rename_i hc
          cases h
          simp only [Bool.and_eq_true, decide_eq_true_eq] at hc
          obtain ⟨-, rfl, rfl, rfl, rfl, c1, c3, c4⟩ := hc
          obtain ⟨q, zs, g, e, hG, hP⟩ := vFa hD.2.2 hfa (by decide) (by decide)
          unfold vQ5 at q
          have q := of_decide_eq_true q
          subst q
          obtain ⟨y1, y2, y3, y4, y5, y6, y7, y8, rfl, e1, e2, e3, e4, e5, e6, e7, e8⟩ := jVal_8 e
          have hK : vK (jW g y2) (vG (jN R.2.2.2.1 y1 y5 y2)) y3 y4 y6 y7 y8 := hP
          obtain ⟨q, zs2, g2, e', hG2, hP2⟩ := vFa hD.2.2 hfb (by decide) (by decide)
          cases kLg_one hG hG2
          unfold vQ3 at q
          simp only [Bool.and_eq_true, decide_eq_true_eq] at q
          obtain ⟨rfl, rfl⟩ := q
          obtain ⟨u1, u2, u3, u4, u5, u6, rfl, f1, f2, f3, f4, f5, f6⟩ := tVal_6 e'
          cases f1.symm.trans e2
          cases f2.symm.trans e3
          cases f3.symm.trans e4
          cases f4.symm.trans e6
          cases f5.symm.trans e7
          have hK2 : vK (jW g y2) (vO (jW g y2)) y3 y4 y6 y7 u6 := hP2
          obtain ⟨zs', e3', hP'⟩ := jHr hD.2.2 hG c1 (Or.inr (Or.inr ⟨by decide, by decide⟩))
          obtain ⟨v1, v2, v3, v4, v5, v6, rfl, g1, g2, g3, g4, g5, g6⟩ := tVal_6 e3'
          cases g1.symm.trans e2
          cases g2.symm.trans e7
          cases g3.symm.trans e3
          cases g4.symm.trans e4
          obtain ⟨b0, hMm⟩ : 0 ≤ y2 ∧ jM (jW g y2) y3 y4 y7 v5 v6 := hP'
          obtain ⟨zx, u, ex, hu⟩ := jNr_ok hD.2.2 e1 (sEv_add e2 e7) e5 g5 hx
          have er := vMx_ok hM e8 ex c4
          have d3 := sNN_ok hM e6 c3
          have hp := hK.2.1
          have hf1 := vK_at hK hMm
          have hf2 := vK_at hK2 hMm
          have en := sEv_add e6 (sEv_C (ρ := ρ) 1)
          refine ⟨_, List.mem_singleton.mpr rfl, kGh_cons (vAt (g := g) (zs := [y1, y2, y3, y4, y5, y6 + 1, v6, max y8 zx]) (by decide) (by decide) (by simp only [sVal, e1, e2, e3, e4, e5, en, g6, er]) hG (show vK (jW g y2) (vG (jN R.2.2.2.1 y1 y5 y2)) y3 y4 (y6 + 1) v6 (max y8 zx) from vK_s (by omega) hp hf1 hMm ⟨zx, ⟨u, hu⟩, rfl⟩)) (vAt (g := g) (zs := [y2, y3, y4, y6, y7, 0, u6]) (by decide) (by decide) (by simp only [sVal, e2, e3, e4, e6, e7, sEv_C, f6]) hG ⟨b0, by omega, hp, Int.le_refl _, u6, 0, hf2, aBs_0 (fun _ _ => vS_0), (aOr0 (vO_can hf2)).symm⟩), fun b hb => by cases hb⟩
        · cases h
      · cases h
    · cases h
  · cases h
/-- a word of the sentence that is read, by number -/
theorem vWord (hg : kGh (kGP (kUP RO)) ρ γ H) (hM : sMo ρ Γ) {g : Nat → Int64} (hG : kLg 84 360 g H) {kind cell n : Nat} (hk : ∀ (H : List eE) zs, nUP kind zs H ↔ ∃ a b, zs = [a, b] ∧ nSP cell n a b H) (hk1 : 53 ≤ kind) (hk2 : kind < 1000) {b i x x1 x2 : sL} {zb zi : Int} (eb : sEv ρ b = some zb) (ei : sEv ρ i = some zi) (h0 : 0 ≤ zi) (hs : kFa γ kind (vQs Γ b i) = some [x1, x2]) (hx : kFindEl γ cell i = some x) (hc : sWi Γ.1 x 0 31 = true) : ∃ v : Nat, v < 32 ∧ sEv ρ x = some (v : Int) ∧ nWd g zb.toNat zi.toNat = (v : Int) ∧ 0 ≤ zb := by
  obtain ⟨q, zs, e, hU⟩ := nFa_ok hg hs hk1 hk2
  unfold vQs at q
  simp only [Bool.and_eq_true, decide_eq_true_eq] at q
  obtain ⟨rfl, q⟩ := q
  obtain ⟨y1, y2, rfl, f1, f2⟩ := sVal_2 e
  cases f1.symm.trans eb
  obtain ⟨a, b', he, S, g', hS, hL', hb1, hq⟩ := (hk _ _).mp hU
  cases he
  cases kLg_one hG hL'
  have d1 := sNN_ok hM (sEv_sub (sEv_sub f2 ei) (sEv_C 1)) q
  obtain ⟨zx, ex, kx⟩ := kFindEl_ok hg hx ei
  have bx := sWi_ok hM.1 ex hc
  have v1 := (kEl_v kx hS).2
  have v2 := hq zi.toNat (by omega)
  rw [v1] at v2
  refine ⟨zx.toNat, by omega, by rw [ex]; congr 1; omega, ?_, hb1⟩
  unfold nWd
  rw [← v2, sTo32 (by omega) (by omega)]
  omega
theorem jW_b {g : Nat → Int64} {b a k : Int} (hb : 0 ≤ b) (ha : 0 ≤ a) (hk : 0 ≤ k) : nWd g (b + a).toNat k.toNat = jW g b (a + k).toNat := by
  unfold jW nWd
  congr 3
  omega
theorem vVKs_ok (zo : Nat) : kRok RO (vVKs zo) := by
  intro K ws h ρ R hD
  have hM := hD.1
  unfold vVKs at h
  split at h
  · rename_i k oc hk hoc
    split at h
    · rename_i b le w n0 p0 k0 o0 x hfa hx
      split at h
      · rename_i s1 s2 y hfs hy
        split at h
        · rename_i hc
          cases h
          simp only [Bool.and_eq_true, decide_eq_true_eq] at hc
          obtain ⟨c1, c2, c3⟩ := hc
          obtain ⟨q, zs, g, e, hG, hP⟩ := vFa hD.2.2 hfa (by decide) (by decide)
          unfold vQk at q
          have q := of_decide_eq_true q
          subst q
          obtain ⟨y1, y2, y3, y4, y5, y6, y7, rfl, e1, e2, e3, e4, e5, e6, e7⟩ := jVal_7 e
          obtain ⟨b0, p1, p2, p3, m0, m, hF, hB, hO⟩ : 0 ≤ y1 ∧ 0 ≤ y4 ∧ 0 ≤ y5 ∧ 0 ≤ y6 ∧ ∃ m0 m, vFo (jW g y1) (vO (jW g y1)) y2 y3 y4.toNat y5 m0 ∧ aBs (vS (jW g y1) y5 y6) m ∧ y7 = sOp 4 m0 m := hP
          obtain ⟨zk, ek⟩ := kLf_ok hD.2.1 hk
          cases e6.symm.trans (sEv_sub ek (sEv_C 1))
          obtain ⟨v, hv, ex, hw, -⟩ := vWord hD.2.2 hM hG nSP87 (by decide) (by decide) (sEv_add e1 e5) e6 p3 hfs hx c2
          rw [jW_b b0 p2 p3] at hw
          have ey := nDl_ok hM (sEv_C 1) ex hy
          have eo := nDl_ok hM e7 ey c3
          have hS := vS_s p2 p3 hB hw hv
          rw [show zk - 1 + 1 = zk by omega] at hS
          refine ⟨_, List.mem_singleton.mpr rfl, vAt (g := g) (zs := [y1, y2, y3, y4, y5, zk, sOp 4 y7 (sOp 6 1 v)]) (by decide) (by decide) (by simp only [sVal, e1, e2, e3, e4, e5, ek, eo]) hG ⟨b0, p1, p2, by omega, m0, _, hF, hS, ?_⟩, fun b hb => by cases hb⟩
          rw [hO, vOr_as]
        · cases h
      · cases h
    · cases h
  · cases h
theorem vVKe_ok (zr z1 zo : Nat) : kRok RO (vVKe zr z1 zo) := by
  intro K ws h ρ R hD
  have hM := hD.1
  unfold vVKe at h
  split at h
  · rename_i k ra L oc hk hra hL hoc
    split at h
    · rename_i b le w n0 p0 k' c' hfa
      split at h
      · rename_i hc
        cases h
        rw [Bool.and_eq_true] at hc
        obtain ⟨q, zs, g, e, hG, hP⟩ := vFa hD.2.2 hfa (by decide) (by decide)
        unfold vQko at q
        simp only [Bool.and_eq_true, decide_eq_true_eq] at q
        obtain ⟨rfl, rfl⟩ := q
        obtain ⟨y1, y2, y3, y4, y5, y6, y7, rfl, e1, e2, e3, e4, e5, e6, e7⟩ := jVal_7 e
        obtain ⟨b0, p1, p2, p3, m0, m, hF, hB, hO⟩ : 0 ≤ y1 ∧ 0 ≤ y4 ∧ 0 ≤ y5 ∧ 0 ≤ y6 ∧ ∃ m0 m, vFo (jW g y1) (vO (jW g y1)) y2 y3 y4.toNat y5 m0 ∧ aBs (vS (jW g y1) y5 y6) m ∧ y7 = sOp 4 m0 m := hP
        obtain ⟨zs', e3', hP'⟩ := jHr hD.2.2 hG hc.2 (Or.inr (Or.inr ⟨by decide, by decide⟩))
        obtain ⟨v1, v2, v3, v4, v5, v6, rfl, g1, g2, g3, g4, g5, g6⟩ := tVal_6 e3'
        cases g1.symm.trans e1
        cases g2.symm.trans e5
        cases g3.symm.trans e2
        cases g4.symm.trans e3
        obtain ⟨-, hMm⟩ : 0 ≤ y1 ∧ jM (jW g y1) y2 y3 y5 v5 v6 := hP'
        have hkL := kEqf_ok hM e6 g5 hc.1
        subst hkL
        have en := sEv_add e4 (sEv_C (ρ := ρ) 1)
        exact ⟨_, List.mem_singleton.mpr rfl, vAt (g := g) (zs := [y1, y2, y3, y4 + 1, v6, y7]) (by decide) (by decide) (by simp only [sVal, e1, e2, e3, en, g6, e7]) hG (show vK (jW g y1) (vO (jW g y1)) y2 y3 (y4 + 1) v6 y7 from vK_s p1 p2 hF hMm ⟨m, hB, hO⟩), fun b hb => by cases hb⟩
      · cases h
    · cases h
  · cases h
theorem vK_12 {W : Nat → Int} {St : Int → Int → Int → Int → Prop} {le w p c : Int} (h : vK W St le w 12 p c) : vX W St le w c := by
  obtain ⟨-, -, a, h1, -⟩ := h
  exact ⟨a, h1⟩
theorem vVRe_ok (zr zg zo : Nat) : kRok RO (vVRe zr zg zo) := by
  intro K ws h ρ R hD
  have hM := hD.1
  unfold vVRe at h
  split at h
  · rename_i n ra gr oc hn hra hgr hoc
    split at h
    · rename_i hl b le w one n' p' g' b2 le2 w2 n2 p2 c2 hfa hfb
      split at h
      · rename_i hc
        cases h
        simp only [Bool.and_eq_true, decide_eq_true_eq] at hc
        obtain ⟨rfl, rfl, rfl, hc⟩ := hc
        obtain ⟨q, zs, g, e, hG, hP⟩ := vFa hD.2.2 hfa (by decide) (by decide)
        unfold vQg at q
        simp only [Bool.and_eq_true, decide_eq_true_eq] at q
        obtain ⟨rfl, rfl, rfl⟩ := q
        obtain ⟨y1, y2, y3, y4, y5, y6, y7, y8, rfl, e1, e2, e3, e4, e5, e6, e7, e8⟩ := jVal_8 e
        have hK : vK (jW g y2) (vG (jN R.2.2.2.1 y1 y5 y2)) y3 y4 y6 y7 y8 := hP
        obtain ⟨q, zs2, g2, e', hG2, hP2⟩ := vFa hD.2.2 hfb (by decide) (by decide)
        cases kLg_one hG hG2
        unfold vQo at q
        simp only [Bool.and_eq_true, decide_eq_true_eq] at q
        obtain ⟨rfl, rfl, rfl⟩ := q
        obtain ⟨u1, u2, u3, u4, u5, u6, rfl, f1, f2, f3, f4, f5, f6⟩ := tVal_6 e'
        cases f1.symm.trans e2
        cases f2.symm.trans e3
        cases f3.symm.trans e4
        cases f4.symm.trans e6
        cases f5.symm.trans e7
        have hK2 : vK (jW g y2) (vO (jW g y2)) y3 y4 y6 y7 u6 := hP2
        have fin : vX (jW g y2) (vG (jN R.2.2.2.1 y1 y5 y2)) y3 y4 y8 ∧ vX (jW g y2) (vO (jW g y2)) y3 y4 u6 := by
          rcases Bool.or_eq_true_iff.mp hc with hc | hc
          · have := kEqf_ok hM e6 (sEv_C 12) hc
            subst this
            exact ⟨vK_12 hK, vK_12 hK2⟩
          · rw [Bool.and_eq_true] at hc
            have d1 := sNN_ok hM (sEv_sub (sEv_C 11) e6) hc.1
            obtain ⟨zs', e3', hP'⟩ := jHr hD.2.2 hG hc.2 (Or.inr (Or.inr ⟨by decide, by decide⟩))
            obtain ⟨v1, v2, v3, v4, rfl, g1, g2, g3, g4⟩ := tVal_4 e3'
            cases g1.symm.trans e2
            cases g2.symm.trans e7
            cases g3.symm.trans e3
            cases g4.symm.trans e4
            obtain ⟨b0, hSt⟩ : 0 ≤ y2 ∧ jSt (jW g y2) y7 y3 y4 := hP'
            obtain ⟨-, -, a1, k1, -⟩ := id hK
            obtain ⟨-, -, a2, k2, -⟩ := id hK2
            have h8 := vG_nn k1
            exact ⟨vK_e hK (fun hp => ⟨0, ⟨0, g, hG, by omega, Int.le_refl _, rfl, rfl⟩, by omega⟩) (Or.inr ⟨by omega, hSt⟩), vK_e hK2 (fun hp => vO_0 (vO_can k2)) (Or.inr ⟨by omega, hSt⟩)⟩
        exact ⟨_, List.mem_singleton.mpr rfl, kGh_cons (vAt (g := g) (zs := [y1, y2, y3, y4, y5, y8]) (by decide) (by decide) (by simp only [sVal, e1, e2, e3, e4, e5, e8]) hG fin.1) (vAt (g := g) (zs := [y2, y3, y4, u6]) (by decide) (by decide) (by simp only [sVal, e2, e3, e4, f6]) hG fin.2), fun b hb => by cases hb⟩
      · cases h
    · cases h
  · cases h
theorem vVBi_ok : kRok RO vVBi := by
  intro K ws h ρ R hD
  unfold vVBi at h
  split at h
  · rename_i bt i base n hbt hi hsp hno
    split at h
    · rename_i hc
      cases h
      obtain ⟨-, zs, e, hU⟩ := nFa_ok hD.2.2 hsp (by decide) (by decide)
      obtain ⟨y1, y2, rfl, f1, f2⟩ := sVal_2 e
      obtain ⟨a, b', he, S, g, hS, hG, hb1, hq⟩ := (nSP86 _ _).mp hU
      exact ⟨_, List.mem_singleton.mpr rfl, vAt (g := g) (zs := [y1, 0, 0]) (by decide) (by decide) (by simp only [sVal, f1, sEv_C]) hG ⟨Int.le_refl _, aBs_0 (fun _ _ => vS_0)⟩, fun b hb => by cases hb⟩
    · cases h
  · cases h
theorem vVBs_ok : kRok RO vVBs := by
  intro K ws h ρ R hD
  have hM := hD.1
  unfold vVBs at h
  split at h
  · rename_i bt i hbt hi
    split at h
    · rename_i base i' b0 x hfa hx
      split at h
      · rename_i s1 s2 y hfs hy
        split at h
        · rename_i hc
          cases h
          simp only [Bool.and_eq_true, decide_eq_true_eq] at hc
          obtain ⟨c1, c2, c3⟩ := hc
          obtain ⟨q, zs, g, e, hG, hP⟩ := vFa hD.2.2 hfa (by decide) (by decide)
          unfold vQb at q
          have q := of_decide_eq_true q
          subst q
          obtain ⟨y1, y2, y3, rfl, e1, e2, e3⟩ := tVal_3 e
          obtain ⟨p1, p2⟩ : 0 ≤ y2 ∧ aBs (vS (nWd g y1.toNat) 0 y2) y3 := hP
          obtain ⟨zi, ei⟩ := kLf_ok hD.2.1 hi
          cases e2.symm.trans (sEv_sub ei (sEv_C 1))
          obtain ⟨v, hv, ex, hw, -⟩ := vWord hD.2.2 hM hG nSP86 (by decide) (by decide) e1 e2 p1 hfs hx c2
          have ey := nDl_ok hM (sEv_C 1) ex hy
          have eo := nDl_ok hM e3 ey c3
          have hS := vS_s (Int.le_refl _) p1 p2 (by rw [Int.zero_add]; exact hw) hv
          rw [show zi - 1 + 1 = zi by omega] at hS
          exact ⟨_, List.mem_singleton.mpr rfl, vAt (g := g) (zs := [y1, zi, sOp 4 y3 (sOp 6 1 v)]) (by decide) (by decide) (by simp only [sVal, e1, ei, eo]) hG ⟨by omega, hS⟩, fun b hb => by cases hb⟩
        · cases h
      · cases h
    · cases h
  · cases h
theorem vVBe_ok (zp : Nat) : kRok RO (vVBe zp) := by
  intro K ws h ρ R hD
  have hM := hD.1
  unfold vVBe at h
  split at h
  · rename_i base j m L r hfa hL hr
    split at h
    · rename_i hc
      cases h
      simp only [Bool.and_eq_true] at hc
      obtain ⟨-, zs, g, e, hG, hP⟩ := vFa hD.2.2 hfa (by decide) (by decide)
      obtain ⟨y1, y2, y3, rfl, e1, e2, e3⟩ := tVal_3 e
      obtain ⟨zL, eL⟩ := nFf_ok hD.2.1.2.2.2.1 hL
      have := kEqf_ok hM e2 eL hc.2.1
      subst this
      exact ⟨_, List.mem_singleton.mpr rfl, vAt (g := g) (zs := [y1, y2, y3]) (by decide) (by decide) (by simp only [sVal, e1, eL, e3]) hG hP, fun b hb => by cases hb⟩
    · cases h
  · cases h
theorem vVOi_ok (zl : Nat) : kRok RO (vVOi zl) := by
  intro K ws h ρ R hD
  have hM := hD.1
  unfold vVOi at h
  split at h
  · rename_i s le w nv a n hs hnv ha hn hno
    split at h
    · rename_i hc
      cases h
      simp only [Bool.and_eq_true] at hc
      obtain ⟨h6, ⟨zl', el⟩, ⟨zw, ew⟩, hd⟩ := jSd_ok hD hs
      obtain ⟨f, g, q1, q2, q3⟩ := kHavEL h6 hD.2.2 (hd rfl)
      obtain ⟨zn, en⟩ := kLf_ok hD.2.1 hnv
      have b := sWi_ok hM.1 en hc.2.2
      exact ⟨_, List.mem_singleton.mpr rfl, vAt (g := g) (zs := [60 * (s : Int), zl', zw, 0, 0, zn, zn]) (by decide) (by decide) (by simp only [sVal, jB_ev, el, ew, en, sEv_C]) q2 ⟨Int.le_refl _, 0, ⟨rfl, rfl⟩, (vNot0 (sTo32 b.1 b.2)).symm⟩, fun b hb => by cases hb⟩
    · cases h
  · cases h
theorem vVOs_ok : kRok RO vVOs := by
  intro K ws h ρ R hD
  have hM := hD.1
  unfold vVOs at h
  split at h
  · rename_i b le w n0 a0 F v0 nv a n hfa hnv ha hn
    split at h
    · rename_i b1 a1 le1 w1 l nx hfb
      split at h
      · rename_i x1 x2 m hfm
        split at h
        · rename_i y hy
          split at h
          · rename_i hc
            cases h
            simp only [Bool.and_eq_true, decide_eq_true_eq] at hc
            obtain ⟨rfl, c1, c2⟩ := hc
            obtain ⟨-, zs, g, e, hG, hP⟩ := vFa hD.2.2 hfa (by decide) (by decide)
            obtain ⟨y1, y2, y3, y4, y5, y6, y7, rfl, e1, e2, e3, e4, e5, e6, e7⟩ := jVal_7 e
            obtain ⟨p1, m0, p2, p3⟩ : 0 ≤ y4 ∧ ∃ m, vFo (jW g y1) (vO (jW g y1)) y2 y3 y4.toNat y5 m ∧ y7 = sOp 3 y6 (sOp 5 m (-1)) := hP
            obtain ⟨zL, zn, eL, enx, b0, hR⟩ := vRead hM hD.2.2 hG e1 e5 e2 e3 hfb
            obtain ⟨q, zs2, g2, e', hG2, hP2⟩ := vFa hD.2.2 hfm (by decide) (by decide)
            cases kLg_one hG hG2
            have q : x1 = sAdd b a0 ∧ x2 = l := by simpa [tPre] using q
            obtain ⟨rfl, rfl⟩ := q
            obtain ⟨u1, u2, u3, rfl, f1, f2, f3⟩ := tVal_3 e'
            cases f1.symm.trans (sEv_add e1 e5)
            cases f2.symm.trans eL
            obtain ⟨k1, k2⟩ : 0 ≤ zL ∧ aBs (vS (nWd g (y1 + y5).toNat) 0 zL) u3 := hP2
            have d1 := sNN_ok hM e5 c1
            have hB : aBs (vS (jW g y1) y5 zL) u3 := by
              refine aBs_imp k2 (fun i _ => ⟨?_, ?_⟩)
              · rintro ⟨q, q1, q2, q3⟩
                refine ⟨(y5 + (q : Int)).toNat, by omega, by omega, ?_⟩
                rw [← jW_b b0 d1 (show (0 : Int) ≤ (q : Int) by omega), Int.toNat_natCast]
                exact q3
              · rintro ⟨q, q1, q2, q3⟩
                refine ⟨((q : Int) - y5).toNat, by omega, by omega, ?_⟩
                rw [jW_b b0 d1 (show (0 : Int) ≤ (q : Int) - y5 by omega), show (y5 + ((q : Int) - y5)).toNat = q by omega]
                exact q3
            have ey := nDl_ok hM f3 (sEv_C (-1)) hy
            have eo := nDl_ok hM e7 ey c2
            have e9 := sEv_add e4 (sEv_C (ρ := ρ) 1)
            refine ⟨_, List.mem_singleton.mpr rfl, vAt (g := g) (zs := [y1, y2, y3, y4 + 1, zn, y6, sOp 3 y7 (sOp 5 u3 (-1))]) (by decide) (by decide) (by simp only [sVal, e1, e2, e3, e9, enx, e6, eo]) hG ⟨by omega, sOp 4 m0 u3, vFo_s p2 p1 d1 hR ⟨u3, hB, rfl⟩, ?_⟩, fun b hb => by cases hb⟩
            rw [p3, vNots]
          · cases h
        · cases h
      · cases h
    · cases h
  · cases h
theorem vVOe_ok : kRok RO vVOe := by
  intro K ws h ρ R hD
  have hM := hD.1
  unfold vVOe at h
  split at h
  · rename_i b le w n0 a0 F v r hfa hr
    split at h
    · rename_i hc
      cases h
      rw [Bool.and_eq_true] at hc
      obtain ⟨-, zs, g, e, hG, hP⟩ := vFa hD.2.2 hfa (by decide) (by decide)
      obtain ⟨y1, y2, y3, y4, y5, y6, y7, rfl, e1, e2, e3, e4, e5, e6, e7⟩ := jVal_7 e
      obtain ⟨p1, m0, p2, p3⟩ : 0 ≤ y4 ∧ ∃ m, vFo (jW g y1) (vO (jW g y1)) y2 y3 y4.toNat y5 m ∧ y7 = sOp 3 y6 (sOp 5 m (-1)) := hP
      have hq := vEnd_ok hM e4 e5 hc.2
      exact ⟨_, List.mem_singleton.mpr rfl, vAt (g := g) (zs := [y1, y2, y3, y6, y7]) (by decide) (by decide) (by simp only [sVal, e1, e2, e3, e6, e7]) hG ⟨m0, vFo_e p2 hq, p3⟩, fun b hb => by cases hb⟩
    · cases h
  · cases h
theorem vPre5 {a b c d e : sL} {fs : List sL} {zs : List Int} {g : Nat → Int64} (q : tPre [a, b, c, d, e] fs = true) (ez : sVal ρ fs = some zs) {k : Nat} (hk : k = 146 ∨ k = 151) (hP : jPr g k zs) : ∃ x, fs = [a, b, c, d, e, x] := by
  have q : fs.take 5 = [a, b, c, d, e] := of_decide_eq_true q
  match fs, q with
  | [_, _, _, _, _], q =>
    obtain ⟨_, _, _, _, _, rfl, -⟩ := tVal_5 ez
    rcases hk with rfl | rfl <;> exact False.elim hP
  | [_, _, _, _, _, x], q =>
    simp only [List.take_succ_cons, List.take_zero, List.cons.injEq, and_true] at q
    obtain ⟨rfl, rfl, rfl, rfl, rfl⟩ := q
    exact ⟨x, rfl⟩
  | _ :: _ :: _ :: _ :: _ :: _ :: _ :: t, q =>
    obtain ⟨_, _, rfl, -, ez⟩ := sVal_c ez
    obtain ⟨_, _, rfl, -, ez⟩ := sVal_c ez
    obtain ⟨_, _, rfl, -, ez⟩ := sVal_c ez
    obtain ⟨_, _, rfl, -, ez⟩ := sVal_c ez
    obtain ⟨_, _, rfl, -, ez⟩ := sVal_c ez
    obtain ⟨_, _, rfl, -, ez⟩ := sVal_c ez
    obtain ⟨_, _, rfl, -, ez⟩ := sVal_c ez
    exact False.elim hP
  | [], q => simp at q
  | [_], q => simp at q
  | [_, _], q => simp at q
  | [_, _, _], q => simp at q
  | [_, _, _, _], q => simp at q
theorem vNil : kGh (kGP (kUP RO)) ρ [] H := fun a ha => by cases ha
theorem vQ1_ok {x y : sL} {l : List sL} (h : vQ1 x (l ++ [y]) = true) : y = x := by
  unfold vQ1 at h
  have h := of_decide_eq_true h
  rw [List.getLast?_concat] at h
  exact Option.some.inj h
theorem vXg_ok (hM : sMo ρ Γ) (hg : kGh (kGP (kUP RO)) ρ γ H) {gr r : sL} : kGh (kGP (kUP RO)) ρ (vXg Γ γ gr r) H := by
  unfold vXg
  split
  · rename_i hl b le w one c hfa
    split
    · rename_i hb
      obtain ⟨q, zs, g, e, hG, hP⟩ := vFa hg hfa (by decide) (by decide)
      obtain ⟨u1, u2, u3, u4, u5, u6, rfl, f1, f2, f3, f4, f5, f6⟩ := tVal_6 e
      have q := vQ1_ok (l := [hl, b, le, w, one]) q
      subst q
      have er := vLb_ok hM f6 hb
      have hP : vX (jW g u2) (vG (jN H u1 u5 u2)) u3 u4 u6 := hP
      exact vAt (g := g) (zs := [u1, u2, u3, u4, u5, if 99 ≤ u6 then -2 else u6 + 1]) (by decide) (by decide) (by simp only [sVal, f1, f2, f3, f4, f5, er]) hG ⟨u6, hP, rfl⟩
    · exact vNil
  · exact vNil
theorem vXd_ok (hM : sMo ρ Γ) {y r F : sL} {zy : Int} (ey : sEv ρ y = some zy) (h : vXd Γ y r = some F) : ∃ zF, sEv ρ F = some zF ∧ sEv ρ r = some (sOp 3 zF zy) := by
  unfold vXd at h
  obtain ⟨⟨op, a, b, i⟩, hd, rfl⟩ := Option.map_eq_some_iff.mp h
  have h1 := List.find?_some hd
  simp only [Bool.and_eq_true, decide_eq_true_eq] at h1
  obtain ⟨rfl, rfl, rfl⟩ := h1
  obtain ⟨za, zb, ea, eb, er⟩ := hM.2.2.2 _ (List.mem_of_find?_eq_some hd)
  cases eb.symm.trans ey
  exact ⟨za, ea, sEv_X er⟩
theorem vXo_ok (hM : sMo ρ Γ) (hg : kGh (kGP (kUP RO)) ρ γ H) {oc r : sL} : kGh (kGP (kUP RO)) ρ (vXo Γ γ oc r) H := by
  unfold vXo
  split
  · rename_i b le w c y hfa hy
    split
    · rename_i F hF
      obtain ⟨q, zs, g, e, hG, hP⟩ := vFa hg hfa (by decide) (by decide)
      obtain ⟨u1, u2, u3, u4, rfl, f1, f2, f3, f4⟩ := tVal_4 e
      have q := vQ1_ok (l := [b, le, w]) q
      subst q
      have ey := nDl_ok hM f4 (sEv_C (-1)) hy
      obtain ⟨zF, eF, er⟩ := vXd_ok hM ey hF
      have hP : vX (jW g u1) (vO (jW g u1)) u2 u3 u4 := hP
      exact vAt (g := g) (zs := [u1, u2, u3, zF, _]) (by decide) (by decide) (by simp only [sVal, f1, f2, f3, eF, er]) hG ⟨u4, hP, rfl⟩
    · exact vNil
  · exact vNil
theorem vVXm_ok (zg zo : Nat) : kRok RO (vVXm zg zo) := by
  intro K ws h ρ R hD
  unfold vVXm at h
  split at h
  · rename_i gr oc r hgr hoc hr
    split at h
    · cases h
    · cases h
      exact ⟨_, List.mem_singleton.mpr rfl, fun q hq => (List.mem_append.mp hq).elim (vXg_ok hD.1 hD.2.2 q) (vXo_ok hD.1 hD.2.2 q), fun b hb => by cases hb⟩
  · cases h
theorem vGB_ok (zp zu : Nat) : kRok RO (vGB zp zu) := by
  intro K ws h ρ R hD
  have hM := hD.1
  unfold vGB at h
  split at h
  · rename_i hl w0 p b nv r w L ru t hgv hw hL hru ht
    split at h
    · rename_i a one v ha hone
      split at h
      · rename_i hc
        cases h
        simp only [Bool.and_eq_true, decide_eq_true_eq] at hc
        obtain ⟨rfl, rfl, rfl, hc1, hc2⟩ := hc
        obtain ⟨-, zs, e1, e2⟩ := nFa_ok hD.2.2 hgv (by decide) (by decide)
        obtain ⟨y1, y2, y3, y4, y5, y6, rfl, f1, f2, f3, f4, f5, f6⟩ := sVal_6 e1
        obtain ⟨h', w', p', b', v', r', he, fn, fk, fl, hW, w0, w1, hG⟩ : ∃ h w p b v r, [y1, y2, y3, y4, y5, y6] = [h, w, p, b, v, r] ∧ nGV h w p b v r R.2.2.2.1 := e2
        cases he
        obtain ⟨za, ea⟩ := nAhd_ok hD.2.2 f3 ha
        obtain ⟨zo, eo, kv⟩ := aOne_ok hD.2.2 f5 hone
        have bv := sWi_ok hM.1 f5 hc2
        have hb := nBsp_ok hM hD.2.2 hW f2 ea f4 hc1
        exact ⟨_, List.mem_singleton.mpr rfl, kAt1 (zs := [y1, y2, y3, za, zo, y6]) (by decide) (by simp only [sVal, f1, f2, f3, ea, eo, f6]) ((kUPn (by decide)).mpr ⟨_, _, _, _, _, _, rfl, fn, fk, fl, y4, _, hW, ⟨kv, bv⟩, ⟨fn, fk, fl, hW, w0, w1, hG⟩, hb⟩), fun b hb => by cases hb⟩
      · cases h
    · cases h
  · cases h
theorem vLa_ok (hM : sMo ρ Γ) (hg : kGh (kGP (kUP RO)) ρ γ H) {g : Nat → Int64} (hG : kLg 84 360 g H) {kind cell n0 : Nat} (hk : ∀ (H : List eE) zs, nUP kind zs H ↔ ∃ a b, zs = [a, b] ∧ nSP cell n0 a b H) (hk1 : 53 ≤ kind) (hk2 : kind < 1000) {base n a : sL} {zb zn : Int} (eb : sEv ρ base = some zb) (en : sEv ρ n = some zn) (h : vLa Γ γ kind cell base n = some a) : ∃ za, sEv ρ a = some za ∧ (0 ≤ zn → za = (if zn = 0 then -1 else nWd g zb.toNat (zn - 1).toNat)) := by
  unfold vLa at h
  split at h
  · rename_i hh
    obtain ⟨zs, e, hU⟩ := kHav_ok hg hh hk2
    obtain ⟨y1, y2, rfl, f1, f2⟩ := sVal_2 e
    cases f1.symm.trans eb
    cases f2.symm.trans en
    have hU : nUP kind [zb, zn] H := (kUPn hk1).mp hU
    obtain ⟨a', b', he, S, g', hS, hL, h0, hq⟩ := (hk _ _).mp hU
    cases he
    cases kLg_one hG hL
    split at h
    · rename_i hn
      cases h
      have := sNN_ok hM (sEv_mul (-1) en) hn
      exact ⟨-1, sEv_C _, fun h => by rw [if_pos (by omega)]⟩
    · split at h
      · rename_i x hx
        split at h
        · rename_i hc
          cases h
          rw [Bool.and_eq_true] at hc
          have d := sNN_ok hM (sEv_sub en (sEv_C 1)) hc.1
          obtain ⟨zx, ex, kx⟩ := kFindEl_ok hg hx (sEv_sub en (sEv_C 1))
          have bx := sWi_ok hM.1 ex hc.2
          exact ⟨zx, ex, fun _ => by rw [if_neg (by omega)]; exact (nWd_at (w := sC 0) hS hq (by omega) (by omega) kx bx).symm⟩
        · cases h
      · cases h
  · cases h
theorem vVTi0_ok (zp zn : Nat) : kRok RO (vVTi0 zp zn) := by
  intro K ws h ρ R hD
  unfold vVTi0 at h
  split at h
  · rename_i bt w n base x1 x2 hl nv bd hbt hw hn hsp hlw hnv hbd
    split at h
    · rename_i one v hone
      split at h
      · cases h
        obtain ⟨-, zs, e, hU⟩ := nFa_ok hD.2.2 hsp (by decide) (by decide)
        obtain ⟨y1, y2, rfl, f1, f2⟩ := sVal_2 e
        obtain ⟨a, b', he, S, g, hS, hG, hb1, hq⟩ := (nSP86 _ _).mp hU
        obtain ⟨-, zs, e3, -⟩ := nFa_ok hD.2.2 hlw (by decide) (by decide)
        obtain ⟨z1, zh, rfl, -, eh⟩ := sVal_2 e3
        obtain ⟨zv, ev⟩ := nFf_ok hD.2.1.2.2.2.1 hnv
        obtain ⟨zL, eL⟩ := nFf_ok hD.2.1.2.2.2.1 hn
        obtain ⟨zo, eo, -⟩ := aOne_ok hD.2.2 ev hone
        obtain ⟨zd, ed⟩ := nToldE hD.2.1.2.2.2.1 hbd
        exact ⟨_, List.mem_singleton.mpr rfl, vAt (g := g) (zs := [zh, y1, zo, zL, 0, zd, 0]) (by decide) (by decide) (by simp only [sVal, eh, f1, eo, eL, ed, sEv_C]) hG ⟨Int.le_refl _, rfl⟩, fun b hb => by cases hb⟩
      · cases h
    · cases h
  · cases h
theorem vVTi1_ok (zh : Nat) : kRok RO (vVTi1 zh) := by
  intro K ws h ρ R hD
  unfold vVTi1 at h
  split at h
  · rename_i bt w n base x1 hl one bd hbt hw hn hsp hhl hone hbd
    split at h
    · cases h
      obtain ⟨-, zs, e, hU⟩ := nFa_ok hD.2.2 hsp (by decide) (by decide)
      obtain ⟨y1, y2, rfl, f1, f2⟩ := sVal_2 e
      obtain ⟨a, b', he, S, g, hS, hG, hb1, hq⟩ := (nSP87 _ _).mp hU
      obtain ⟨zh', eh⟩ := nFf_ok hD.2.1.2.2.2.1 hhl
      obtain ⟨zo, eo⟩ := kLf_ok hD.2.1 hone
      obtain ⟨zL, eL⟩ := kLf_ok hD.2.1 hn
      obtain ⟨zd, ed⟩ := nToldE hD.2.1.2.2.2.1 hbd
      exact ⟨_, List.mem_singleton.mpr rfl, vAt (g := g) (zs := [zh', y1, zo, zL, 0, zd, 0]) (by decide) (by decide) (by simp only [sVal, eh, f1, eo, eL, ed, sEv_C]) hG ⟨Int.le_refl _, rfl⟩, fun b hb => by cases hb⟩
    · cases h
  · cases h
theorem vHit_ok (hM : sMo ρ Γ) {bt b0 w : sL} {z0 zw : Int} (e0 : sEv ρ b0 = some z0) (ew : sEv ρ w = some zw) (h : vHit Γ bt b0 w = true) : sEv ρ bt = some (sOp 4 z0 (sOp 6 1 zw)) := by
  unfold vHit at h
  split at h
  · rename_i y hy
    exact nDl_ok hM e0 (nDl_ok hM (sEv_C 1) ew hy) (of_decide_eq_true h)
  · cases h
theorem vTc_ok (hM : sMo ρ Γ) {bt b0 w be s bd : sL} {z0 zw ze zs zd : Int} (e0 : sEv ρ b0 = some z0) (ew : sEv ρ w = some zw) (ee : sEv ρ be = some ze) (es : sEv ρ s = some zs) (ed : sEv ρ bd = some zd) (hc : aCan z0) (h : vTc Γ bt b0 w be s bd = true) : ∃ zt, sEv ρ bt = some zt ∧ ((zd ≤ max ze (max 0 zs) ∧ zt = sOp 4 z0 (sOp 6 1 zw)) ∨ (¬ zd ≤ max ze (max 0 zs) ∧ zt = z0)) := by
  unfold vTc at h
  split at h
  · rename_i hq
    refine ⟨_, vHit_ok hM e0 ew h, Or.inl ⟨?_, rfl⟩⟩
    simp only [Bool.or_eq_true, Bool.and_eq_true] at hq
    rcases hq with hq | ⟨h1, h2⟩
    · have := sNN_ok hM (sEv_sub ee ed) hq
      omega
    · have := sNN_ok hM (sEv_sub es ed) h1
      have := sNN_ok hM es h2
      omega
  · simp only [Bool.and_eq_true, Bool.or_eq_true, decide_eq_true_eq] at h
    obtain ⟨h1, h2, h3, h4⟩ := h
    have d1 := sNN_ok hM (sEv_sub (sEv_sub ed ee) (sEv_C 1)) h1
    have d2 := sNN_ok hM (sEv_sub (sEv_sub ed es) (sEv_C 1)) h2
    have d3 := sNN_ok hM (sEv_sub ed (sEv_C 1)) h3
    have e : sEv ρ bt = some z0 := by
      rcases h4 with h4 | rfl
      · rw [nDl_ok hM e0 (sEv_C 0) h4, aOr0 hc]
      · exact e0
    exact ⟨z0, e, Or.inr ⟨by omega, rfl⟩⟩
theorem vNW_one {g : Nat → Int64} {hl base one n v x x' : Int} (p : vNW H g hl base one n v x) (q : vNW H g hl base one n v x') : x = x' := by
  obtain ⟨o, m, r, ⟨g1, p1, -, -, p2⟩, p3, rfl⟩ := p
  obtain ⟨o', m', r', ⟨g2, q1, -, -, q2⟩, q3, rfl⟩ := q
  cases kLg_one p1 q1
  obtain ⟨rfl, rfl⟩ := nFd_one _ p2 q2
  cases nGW_one p3 q3
  rfl
theorem vHt_iff {g : Nat → Int64} {hl base one n bd v x : Int} (p : vNW H g hl base one n v x) : vHt H g hl base one n bd v ↔ bd ≤ x := ⟨fun ⟨_, q, hy⟩ => by rw [vNW_one p q]; exact hy, fun h => ⟨x, p, h⟩⟩
theorem vHt_s {g : Nat → Int64} {hl base one n bd v x z0 zt : Int} (p : vNW H g hl base one n v x) (h : (bd ≤ x ∧ zt = sOp 4 z0 (sOp 6 1 v)) ∨ (¬ bd ≤ x ∧ zt = z0)) (h0 : 0 ≤ v) (hT : vT (vHt H g hl base one n bd) v.toNat z0) : vT (vHt H g hl base one n bd) (v + 1).toNat zt := vT_s h0 hT (h.imp (fun q => ⟨(vHt_iff p).mpr q.1, q.2⟩) (fun q => ⟨fun k => q.1 ((vHt_iff p).mp k), q.2⟩))
theorem vVTs0_ok (zp zu : Nat) : kRok RO (vVTs0 zp zu) := by
  intro K ws h ρ R hD
  have hM := hD.1
  unfold vVTs0 at h
  split at h
  · rename_i bt w n ru be hbt hw hn hru hbe
    split at h
    · rename_i hl base one n' w' bd b0 hfa
      split at h
      · rename_i a hla
        split at h
        · rename_i r1 r2 r3 r4 r5 r hfr
          split at h
          · rename_i hc
            cases h
            simp only [Bool.and_eq_true] at hc
            obtain ⟨c1, c2, c3⟩ := hc
            obtain ⟨q, zs, g, e, hG, hP⟩ := vFa hD.2.2 hfa (by decide) (by decide)
            unfold vQt at q
            simp only [Bool.and_eq_true, decide_eq_true_eq] at q
            obtain ⟨rfl, rfl⟩ := q
            obtain ⟨y1, y2, y3, y4, y5, y6, y7, rfl, e1, e2, e3, e4, e5, e6, e7⟩ := jVal_7 e
            obtain ⟨p1, p2⟩ : 0 ≤ y5 ∧ vT (vHt R.2.2.2.1 g y1 y2 y3 y4 y6) y5.toNat y7 := hP
            obtain ⟨za, ea, ha⟩ := vLa_ok hM hD.2.2 hG nSP86 (by decide) (by decide) e2 e4 hla
            obtain ⟨q, zs2, e', hU⟩ := nFa_ok hD.2.2 hfr (by decide) (by decide)
            have q : r1 = hl ∧ r2 = sSub w (sC 1) ∧ r3 = n' ∧ r4 = a ∧ r5 = one := by simpa [tPre] using q
            obtain ⟨rfl, rfl, rfl, rfl, rfl⟩ := q
            obtain ⟨u1, u2, u3, u4, u5, u6, rfl, f1, f2, f3, f4, f5, f6⟩ := sVal_6 e'
            obtain ⟨_, _, _, _, _, _, he, hGW⟩ : ∃ h w p a o r, [u1, u2, u3, u4, u5, u6] = [h, w, p, a, o, r] ∧ nGW h w p a o r R.2.2.2.1 := hU
            cases he
            cases f1.symm.trans e1
            cases f2.symm.trans e5
            cases f3.symm.trans e4
            cases f4.symm.trans ea
            cases f5.symm.trans e3
            obtain ⟨zs3, e8, hU3⟩ := kHav_ok hD.2.2 c1 (by decide)
            obtain ⟨v1, v2, v3, v4, v5, v6, rfl, k1, k2, k3, k4, k5, k6⟩ := sVal_6 e8
            cases k1.symm.trans e1
            cases k2.symm.trans e2
            cases k3.symm.trans e3
            cases k4.symm.trans e4
            obtain ⟨_, _, _, _, _, _, he, hNF⟩ : ∃ h b o j u m, [y1, y2, y3, y4, v5, v6] = [h, b, o, j, u, m] ∧ nNF h b o j u m R.2.2.2.1 := (kUPn (by decide)).mp hU3
            cases he
            have h4 : 0 ≤ y4 := by
              obtain ⟨_, -, -, q, -⟩ := hNF
              exact q
            rw [ha h4] at hGW
            have hN : vNW R.2.2.2.1 g y1 y2 y3 y4 y5 (max v6 (max 0 (v5 + u6))) := ⟨v5, v6, u6, hNF, hGW, rfl⟩
            obtain ⟨zt, et, ht⟩ := vTc_ok hM e7 e5 k6 (sEv_add k5 f6) e6 (vT_can _ p2) c3
            obtain ⟨zw, ew⟩ := kLf_ok hD.2.1 hw
            have h5 := Option.some.inj (e5.symm.trans (sEv_sub ew (sEv_C 1)))
            have hT := vHt_s hN ht p1 p2
            rw [show y5 + 1 = zw by omega] at hT
            exact ⟨_, List.mem_singleton.mpr rfl, vAt (g := g) (zs := [y1, y2, y3, y4, zw, y6, zt]) (by decide) (by decide) (by simp only [sVal, e1, e2, e3, e4, ew, e6, et]) hG ⟨by omega, hT⟩, fun b hb => by cases hb⟩
          · cases h
        · cases h
      · cases h
    · cases h
  · cases h
theorem vTd_ok (hM : sMo ρ Γ) {bt b0 w x bd : sL} {z0 zw zx zd : Int} (e0 : sEv ρ b0 = some z0) (ew : sEv ρ w = some zw) (ex : sEv ρ x = some zx) (ed : sEv ρ bd = some zd) (h : vTd Γ bt b0 w x bd = true) : ∃ zt, sEv ρ bt = some zt ∧ ((zd ≤ zx ∧ zt = sOp 4 z0 (sOp 6 1 zw)) ∨ (¬ zd ≤ zx ∧ zt = z0)) := by
  unfold vTd at h
  split at h
  · rename_i hq
    have := sNN_ok hM (sEv_sub ex ed) hq
    exact ⟨_, vHit_ok hM e0 ew h, Or.inl ⟨by omega, rfl⟩⟩
  · simp only [Bool.and_eq_true, decide_eq_true_eq] at h
    obtain ⟨h1, rfl⟩ := h
    have d1 := sNN_ok hM (sEv_sub (sEv_sub ed ex) (sEv_C 1)) h1
    exact ⟨z0, e0, Or.inr ⟨by omega, rfl⟩⟩
theorem vVTs1_ok : kRok RO vVTs1 := by
  intro K ws h ρ R hD
  have hM := hD.1
  unfold vVTs1 at h
  split at h
  · rename_i bt w n hbt hw hn
    split at h
    · rename_i hl base one n' w' bd b0 hfa
      split at h
      · rename_i r1 r2 r3 r4 r5 x hfr
        split at h
        · rename_i hc
          cases h
          rw [Bool.and_eq_true] at hc
          obtain ⟨q, zs, g, e, hG, hP⟩ := vFa hD.2.2 hfa (by decide) (by decide)
          unfold vQt at q
          simp only [Bool.and_eq_true, decide_eq_true_eq] at q
          obtain ⟨rfl, rfl⟩ := q
          obtain ⟨y1, y2, y3, y4, y5, y6, y7, rfl, e1, e2, e3, e4, e5, e6, e7⟩ := jVal_7 e
          obtain ⟨p1, p2⟩ : 0 ≤ y5 ∧ vT (vHt R.2.2.2.1 g y1 y2 y3 y4 y6) y5.toNat y7 := hP
          obtain ⟨q, zs2, g2, e', hG2, hP2⟩ := vFa hD.2.2 hfr (by decide) (by decide)
          cases kLg_one hG hG2
          have q : r1 = hl ∧ r2 = base ∧ r3 = one ∧ r4 = n' ∧ r5 = sSub w (sC 1) := by simpa [tPre] using q
          obtain ⟨rfl, rfl, rfl, rfl, rfl⟩ := q
          obtain ⟨u1, u2, u3, u4, u5, u6, rfl, f1, f2, f3, f4, f5, f6⟩ := tVal_6 e'
          cases f1.symm.trans e1
          cases f2.symm.trans e2
          cases f3.symm.trans e3
          cases f4.symm.trans e4
          cases f5.symm.trans e5
          obtain ⟨-, hN⟩ : 0 ≤ y4 ∧ vNW R.2.2.2.1 g y1 y2 y3 y4 y5 u6 := hP2
          obtain ⟨zt, et, ht⟩ := vTd_ok hM e7 e5 f6 e6 hc.2
          obtain ⟨zw, ew⟩ := kLf_ok hD.2.1 hw
          have h5 := Option.some.inj (e5.symm.trans (sEv_sub ew (sEv_C 1)))
          have hT := vHt_s hN ht p1 p2
          rw [show y5 + 1 = zw by omega] at hT
          exact ⟨_, List.mem_singleton.mpr rfl, vAt (g := g) (zs := [y1, y2, y3, y4, zw, y6, zt]) (by decide) (by decide) (by simp only [sVal, e1, e2, e3, e4, ew, e6, et]) hG ⟨by omega, hT⟩, fun b hb => by cases hb⟩
        · cases h
      · cases h
    · cases h
  · cases h
theorem vFd_ok (hM : sMo ρ Γ) {o m r o2 m2 : sL} {zo zm zr : Int} (eo : sEv ρ o = some zo) (em : sEv ρ m = some zm) (er : sEv ρ r = some zr) (h : vFd Γ o m r o2 m2 = true) : sEv ρ m2 = some (max zm (max 0 (zo + zr))) := by
  unfold vFd at h
  rw [Bool.and_eq_true] at h
  obtain ⟨h1, h2⟩ := h
  have e := sEv_add eo er
  have e2 : sEv ρ o2 = some (max 0 (zo + zr)) := by
    simp only [Bool.or_eq_true, Bool.and_eq_true, decide_eq_true_eq] at h1
    rcases h1 with ⟨rfl, q⟩ | ⟨rfl, q⟩
    · have := sNN_ok hM e q
      rw [e, show max 0 (zo + zr) = zo + zr by omega]
    · have := sNN_ok hM (sEv_mul (-1) e) q
      rw [sEv_C, show max 0 (zo + zr) = 0 by omega]
  simp only [Bool.or_eq_true, Bool.and_eq_true, decide_eq_true_eq] at h2
  rcases h2 with ⟨rfl, q⟩ | ⟨rfl, q⟩
  · have := sNN_ok hM (sEv_sub em e2) q
    rw [em]
    congr 1
    omega
  · have := sNN_ok hM (sEv_sub e2 em) q
    rw [e2]
    congr 1
    omega
theorem vVWs_ok : kRok RO vVWs := by
  intro K ws h ρ R hD
  have hM := hD.1
  unfold vVWs at h
  split at h
  · rename_i hl base one j o m i o2 m2 hfa hi ho2 hm2
    split at h
    · rename_i x1 n w a hfm hw ha
      split at h
      · rename_i r1 r2 r3 r4 r5 r hfr
        split at h
        · rename_i hc
          cases h
          simp only [Bool.and_eq_true] at hc
          obtain ⟨-, c2, c3⟩ := hc
          obtain ⟨-, zs, e, hU⟩ := nFa_ok hD.2.2 hfa (by decide) (by decide)
          obtain ⟨y1, y2, y3, y4, y5, y6, rfl, e1, e2, e3, e4, e5, e6⟩ := sVal_6 e
          obtain ⟨_, _, _, _, _, _, he, hNF⟩ : ∃ h b o j u m, [y1, y2, y3, y4, y5, y6] = [h, b, o, j, u, m] ∧ nNF h b o j u m R.2.2.2.1 := hU
          cases he
          have h4 : 0 ≤ y4 := by
            obtain ⟨_, -, -, q, -⟩ := hNF
            exact q
          obtain ⟨q, zs, e', hU⟩ := nFa_ok hD.2.2 hfm (by decide) (by decide)
          unfold vQm at q
          rw [Bool.and_eq_true] at q
          obtain ⟨q1, q2⟩ := q
          have q1 := of_decide_eq_true q1
          subst q1
          obtain ⟨z1, zn, rfl, f1, f2⟩ := sVal_2 e'
          cases f1.symm.trans e2
          obtain ⟨a', b', he, S, g, hS, hG, hb1, hq⟩ := (nSP87 _ _).mp hU
          cases he
          have hnj := kEqf_ok hM f2 e4 q2
          subst hnj
          obtain ⟨zw, ew, kw⟩ := kFindEl_ok hD.2.2 hw e4
          obtain ⟨za, ea, hza⟩ : ∃ za, sEv ρ a = some za ∧ za = (if zn = 0 then -1 else nWd g y2.toNat (zn - 1).toNat) := by
            unfold vLb2 at ha
            split at ha
            · rename_i hn
              cases ha
              have := sNN_ok hM (sEv_mul (-1) e4) hn
              exact ⟨-1, sEv_C _, by rw [if_pos (by omega)]⟩
            · split at ha
              · rename_i x hx
                split at ha
                · rename_i hcc
                  cases ha
                  rw [Bool.and_eq_true] at hcc
                  have d := sNN_ok hM (sEv_sub e4 (sEv_C 1)) hcc.1
                  obtain ⟨zx, ex, kx⟩ := kFindEl_ok hD.2.2 hx (sEv_sub e4 (sEv_C 1))
                  have bx := sWi_ok hM.1 ex hcc.2
                  exact ⟨zx, ex, by rw [if_neg (by omega)]; exact (nWd_at (w := sC 0) hS hq (by omega) (by omega) kx bx).symm⟩
                · cases ha
              · cases ha
          obtain ⟨q, zs2, e8, hU⟩ := nFa_ok hD.2.2 hfr (by decide) (by decide)
          have q : r1 = hl ∧ r2 = w ∧ r3 = j ∧ r4 = a ∧ r5 = one := by simpa [tPre] using q
          obtain ⟨rfl, rfl, rfl, rfl, rfl⟩ := q
          obtain ⟨u1, u2, u3, u4, u5, u6, rfl, g1, g2, g3, g4, g5, g6⟩ := sVal_6 e8
          obtain ⟨_, _, _, _, _, _, he, hGW⟩ : ∃ h w p a o r, [u1, u2, u3, u4, u5, u6] = [h, w, p, a, o, r] ∧ nGW h w p a o r R.2.2.2.1 := hU
          cases he
          cases g1.symm.trans e1
          cases g2.symm.trans ew
          cases g3.symm.trans e4
          cases g4.symm.trans ea
          cases g5.symm.trans e3
          rw [hza] at hGW
          have em := vFd_ok hM e5 e6 g6 c3
          exact ⟨_, List.mem_singleton.mpr rfl, vAt (g := g) (zs := [y1, y2, y3, zn, zw, max y6 (max 0 (y5 + u6))]) (by decide) (by decide) (by simp only [sVal, e1, e2, e3, f2, ew, em]) hG ⟨h4, y5, y6, u6, hNF, hGW, rfl⟩, fun b hb => by cases hb⟩
        · cases h
      · cases h
    · cases h
  · cases h
theorem vCn_ok (hM : sMo ρ Γ) {n1 n i : sL} {z1 zn zi : Int} (e1 : sEv ρ n1 = some z1) (en : sEv ρ n = some zn) (ei : sEv ρ i = some zi) (h : vCn Γ n1 n i = true) : z1 = zn + 1 ∧ zi ≤ zn ∧ 0 ≤ zi ∧ 0 ≤ zn ∧ zn ≤ 61 := by
  unfold vCn at h
  simp only [Bool.and_eq_true] at h
  obtain ⟨h1, h2, h3, h4⟩ := h
  have d1 := kEqf_ok hM e1 (sEv_add en (sEv_C 1)) h1
  have d2 := sNN_ok hM (sEv_sub en ei) h2
  have d3 := sNN_ok hM ei h3
  have d4 := sWi_ok hM.1 en h4
  exact ⟨d1, by omega, d3, d4.1, d4.2⟩
theorem vVSp_ok : kRok RO vVSp := by
  intro K ws h ρ R hD
  have hM := hD.1
  unfold vVSp at h
  split at h
  · rename_i n1 i x n hn1 hi hfa
    split at h
    · rename_i w hw
      split at h
      · rename_i hc
        cases h
        rw [Bool.and_eq_true] at hc
        obtain ⟨-, zs, e, hU⟩ := nFa_ok hD.2.2 hfa (by decide) (by decide)
        obtain ⟨y1, y2, rfl, f1, f2⟩ := sVal_2 e
        obtain ⟨z1, e1⟩ := kLf_ok hD.2.1 hn1
        obtain ⟨zi, ei⟩ := kLf_ok hD.2.1 hi
        obtain ⟨d1, d2, d3, d4, d5⟩ := vCn_ok hM e1 f2 ei hc.1
        obtain ⟨zw, ew, kw⟩ := kFindEl_ok hD.2.2 hw f2
        by_cases hq : zi = y2
        · refine ⟨_, List.mem_cons_of_mem _ List.mem_cons_self, fun q hq2 => ?_, fun b hb => ?_⟩
          · rw [List.mem_singleton.mp hq2]
            exact kEl_to (j := 72) ei ew (by rw [hq]; exact kw)
          · rw [List.mem_singleton.mp hb]
            exact ⟨_, sEv_sub f2 ei, (by omega : (0 : Int) ≤ y2 - zi), (by omega : y2 - zi ≤ 0)⟩
        · refine ⟨_, List.mem_cons_self, vNil, fun b hb => ?_⟩
          rw [List.mem_singleton.mp hb]
          exact ⟨_, sEv_sub (sEv_sub f2 ei) (sEv_C 1), (by omega : (0 : Int) ≤ y2 - zi - 1), (by omega : y2 - zi - 1 ≤ 61)⟩
      · cases h
    · cases h
  · cases h
theorem vVSh_ok : kRok RO vVSh := by
  intro K ws h ρ R hD
  have hM := hD.1
  unfold vVSh at h
  split at h
  · rename_i n1 i x n hn1 hi hfa
    split at h
    · rename_i w hw
      split at h
      · rename_i hc
        cases h
        obtain ⟨-, zs, e, hU⟩ := nFa_ok hD.2.2 hfa (by decide) (by decide)
        obtain ⟨y1, y2, rfl, f1, f2⟩ := sVal_2 e
        obtain ⟨z1, e1⟩ := kLf_ok hD.2.1 hn1
        obtain ⟨zi, ei⟩ := kLf_ok hD.2.1 hi
        obtain ⟨d1, d2, d3, d4, d5⟩ := vCn_ok hM e1 f2 ei hc
        refine ⟨_, List.mem_singleton.mpr rfl, vNil, fun b hb => ?_⟩
        rw [List.mem_singleton.mp hb]
        exact ⟨_, sEv_sub (sEv_sub e1 (sEv_C 1)) ei, (by omega : (0 : Int) ≤ z1 - 1 - zi), (by omega : z1 - 1 - zi ≤ 61)⟩
      · cases h
    · cases h
  · cases h
theorem vVGx_ok (zl : Nat) : kRok RO (vVGx zl) := by
  intro K ws h ρ R hD
  have hM := hD.1
  unfold vVGx at h
  split at h
  · rename_i s le w hs
    obtain ⟨h6, ⟨zl', el⟩, ⟨zw, ew⟩, hd⟩ := jSd_ok hD hs
    obtain ⟨f, g, q1, q2, q3⟩ := kHavEL h6 hD.2.2 (hd rfl)
    split at h
    · rename_i hz
      cases h
      have hE := jSp_ok hM hD.2.2 h6 q2 hd el ew (sEv_C 0) (Int.le_refl _) hz
      exact ⟨_, List.mem_singleton.mpr rfl, jAr (g := g) (zs := [60 * (s : Int), 0, zl', zw]) (Or.inr (Or.inr ⟨by decide, by decide⟩)) (by simp only [sVal, jB_ev, el, ew, sEv_C]) q2 ⟨by omega, jSt_E (Int.le_refl _) hE⟩, fun b hb => by cases hb⟩
    · split at h
      · rename_i x hx
        split at h
        · rename_i hc
          cases h
          rw [Bool.and_eq_true] at hc
          have d1 := sNN_ok hM (sEv_sub el (sEv_C 1)) hc.1
          have hGo : jGo (jW g (60 * (s : Int))) 0 zl' zw := by
            refine ⟨Int.le_refl _, by omega, ?_⟩
            rcases Bool.or_eq_true_iff.mp hc.2 with h2 | h2
            · have hE := jSp_ok hM hD.2.2 h6 q2 hd el ew (sEv_C 0) (Int.le_refl _) (of_decide_eq_true h2)
              rw [if_pos rfl] at hE
              rcases hE with ⟨_, q⟩ | ⟨_, q, _⟩ | ⟨_, _, _, q⟩
              · omega
              · exact Or.inl q
              · omega
            · rw [Bool.and_eq_true] at h2
              have ex := jEl hM hD.2.2 h6 q2 hd (sEv_C 0) (Int.le_refl _) (by decide) hx
              have d2 := sNN_ok hM ex h2.1
              have d3 := sNN_ok hM (sEv_sub (sEv_sub ew ex) (sEv_C 1)) h2.2
              exact Or.inr ⟨d2, by omega⟩
          exact ⟨_, List.mem_singleton.mpr rfl, jAr (g := g) (zs := [60 * (s : Int), 0, zl', zw]) (Or.inr (Or.inr ⟨by decide, by decide⟩)) (by simp only [sVal, jB_ev, el, ew, sEv_C]) q2 ⟨by omega, hGo⟩, fun b hb => by cases hb⟩
        · cases h
      · cases h
  · cases h
theorem vTe_ok {d : Nat} {K : kS} {R : eR} (hD : kD (kGP (kUP RO)) ρ K R) {s : Nat} {hl le w one bd r : sL} {ws : kWs} (ehl : ∃ z, sEv ρ hl = some z) (eone : ∃ z, sEv ρ one = some z) (ebd : ∃ z, sEv ρ bd = some z) (h : vTe d K s hl le w one bd r = some ws) : ∃ p ∈ ws, kGh (kGP (kUP RO)) ρ p.1 R.2.2.2.1 ∧ ∀ b ∈ p.2, ∃ z, sEv ρ b.1 = some z ∧ b.2.1 ≤ z ∧ z ≤ b.2.2 := by
  have hM := hD.1
  obtain ⟨zh, eh⟩ := ehl
  obtain ⟨zo, eo⟩ := eone
  obtain ⟨zd, ed⟩ := ebd
  unfold vTe at h
  split at h
  · rename_i hc
    cases h
    rw [Bool.and_eq_true] at hc
    have hr := of_decide_eq_true hc.1
    subst hr
    obtain ⟨zs, e, hU⟩ := kHav_ok hD.2.2 hc.2 (by decide)
    obtain ⟨g, hG, hP⟩ := (jUPr (Or.inr (Or.inr ⟨by decide, by decide⟩))).mp ((kUPn (by decide)).mp hU)
    obtain ⟨v1, v2, v3, v4, rfl, g1, g2, g3, g4⟩ := tVal_4 e
    cases g1.symm.trans (jB_ev s)
    cases g2.symm.trans (sEv_C 0)
    obtain ⟨-, hSt⟩ : 0 ≤ 60 * (s : Int) ∧ jSt (jW g (60 * (s : Int))) 0 v3 v4 := hP
    exact ⟨_, List.mem_singleton.mpr rfl, vAt (g := g) (zs := [zh, 60 * (s : Int), v3, v4, zo, zd, 0]) (by decide) (by decide) (by simp only [sVal, eh, jB_ev, g3, g4, eo, ed, sEv_C]) hG (Or.inl ⟨hSt, rfl⟩), fun b hb => by cases hb⟩
  · split at h
    · rename_i h' b' o' n wc d' r' hfa
      split at h
      · rename_i hc
        cases h
        rw [Bool.and_eq_true] at hc
        obtain ⟨q, zs, g, e, hG, hP⟩ := vFa hD.2.2 hfa (by decide) (by decide)
        unfold vQe at q
        simp only [Bool.and_eq_true, decide_eq_true_eq] at q
        obtain ⟨rfl, rfl, rfl, rfl, rfl⟩ := q
        obtain ⟨y1, y2, y3, y4, y5, y6, y7, rfl, e1, e2, e3, e4, e5, e6, e7⟩ := jVal_7 e
        cases e2.symm.trans (jB_ev s)
        obtain ⟨p1, p2⟩ : 0 ≤ y5 ∧ vT (vHt R.2.2.2.1 g y1 (60 * (s : Int)) y3 y4 y6) y5.toNat y7 := hP
        have fin : ∀ {zl zw nx : Int}, sEv ρ le = some zl → sEv ρ w = some zw → jGo (jW g (60 * (s : Int))) 0 zl zw → jR (jW g (60 * (s : Int))) zl zw 0 y4 nx → ∃ p ∈ [(([(167, [h', jB s, le, w, o', d', r'])], []) : List kA × List (sL × Int × Int))], kGh (kGP (kUP RO)) ρ p.1 R.2.2.2.1 ∧ ∀ b ∈ p.2, ∃ z, sEv ρ b.1 = some z ∧ b.2.1 ≤ z ∧ z ≤ b.2.2 := fun {zl zw nx} el ew a1 a2 => by
          have := kEqf_ok hM e5 ew hc.1
          subst this
          exact ⟨_, List.mem_singleton.mpr rfl, vAt (g := g) (zs := [y1, 60 * (s : Int), zl, y5, y3, y6, y7]) (by decide) (by decide) (by simp only [sVal, e1, jB_ev, el, ew, e3, e6, e7]) hG (Or.inr ⟨a1, y4, nx, a2, p2⟩), fun b hb => by cases hb⟩
        have hc := hc.2
        unfold vTq at hc
        split at hc
        · rw [Bool.and_eq_true] at hc
          obtain ⟨zs', e', hP'⟩ := jHr hD.2.2 hG hc.1 (Or.inr (Or.inr ⟨by decide, by decide⟩))
          obtain ⟨v1, v2, v3, v4, rfl, g1, g2, g3, g4⟩ := tVal_4 e'
          cases g1.symm.trans (jB_ev s)
          cases g2.symm.trans (sEv_C 0)
          obtain ⟨-, hGo⟩ : 0 ≤ 60 * (s : Int) ∧ jGo (jW g (60 * (s : Int))) 0 v3 v4 := hP'
          obtain ⟨fs, hfs⟩ := Option.isSome_iff_exists.mp hc.2
          obtain ⟨q, zs2, g2', e'', hG2, hP2⟩ := jFr hD.2.2 hfs (Or.inr (Or.inl rfl))
          cases kLg_one hG hG2
          obtain ⟨x, rfl⟩ : ∃ x, fs = [jB s, sC 0, le, w, n, x] := vPre5 q e'' (k := 146) (Or.inl rfl) hP2
          obtain ⟨u1, u2, u3, u4, u5, u6, rfl, f1, f2, f3, f4, f5, f6⟩ := tVal_6 e''
          cases f1.symm.trans (jB_ev s)
          cases f2.symm.trans (sEv_C 0)
          cases f3.symm.trans g3
          cases f4.symm.trans g4
          cases f5.symm.trans e4
          obtain ⟨-, hR⟩ : 0 ≤ 60 * (s : Int) ∧ jR (jW g (60 * (s : Int))) v3 v4 0 y4 u6 := hP2
          exact fin g3 g4 hGo hR
        · obtain ⟨fs, hfs⟩ := Option.isSome_iff_exists.mp hc
          obtain ⟨q, zs2, g2', e'', hG2, hP2⟩ := jFr hD.2.2 hfs (Or.inr (Or.inr ⟨by decide, by decide⟩))
          cases kLg_one hG hG2
          obtain ⟨x, rfl⟩ : ∃ x, fs = [jB s, sC 0, le, w, n, x] := vPre5 q e'' (k := 151) (Or.inr rfl) hP2
          obtain ⟨u1, u2, u3, u4, u5, u6, rfl, f1, f2, f3, f4, f5, f6⟩ := tVal_6 e''
          cases f1.symm.trans (jB_ev s)
          cases f2.symm.trans (sEv_C 0)
          cases f5.symm.trans e4
          obtain ⟨-, hGo, nx, hR, -⟩ : 0 ≤ 60 * (s : Int) ∧ jM (jW g (60 * (s : Int))) u3 u4 0 y4 u6 := hP2
          exact fin f3 f4 hGo hR
      · cases h
    · cases h
theorem vVTe0_ok (zl zn : Nat) : kRok RO (vVTe0 zl zn) := by
  intro K ws h ρ R hD
  unfold vVTe0 at h
  split at h
  · rename_i s le w x hl nv bd r hs hlw hnv hbd hr
    split at h
    · rename_i one v hone
      obtain ⟨-, zs, e3, -⟩ := nFa_ok hD.2.2 hlw (by decide) (by decide)
      obtain ⟨z1, zh, rfl, -, eh⟩ := sVal_2 e3
      obtain ⟨zv, ev⟩ := nFf_ok hD.2.1.2.2.2.1 hnv
      obtain ⟨zo, eo, -⟩ := aOne_ok hD.2.2 ev hone
      exact vTe_ok hD ⟨zh, eh⟩ ⟨zo, eo⟩ (nToldE hD.2.1.2.2.2.1 hbd) h
    · cases h
  · cases h
theorem vVTe1_ok (zh zw : Nat) : kRok RO (vVTe1 zh zw) := by
  intro K ws h ρ R hD
  unfold vVTe1 at h
  split at h
  · rename_i s le w hl one bd r hs hhl hone hbd hr
    exact vTe_ok hD (nFf_ok hD.2.1.2.2.2.1 hhl) (kLf_ok hD.2.1 hone) (nToldE hD.2.1.2.2.2.1 hbd) h
  · cases h
theorem vTX_one {g : Nat → Int64} {a1 a2 a3 a4 a5 a6 r r' : Int} (p : vPr H g 167 [a1, a2, a3, a4, a5, a6, r]) (q : vPr H g 167 [a1, a2, a3, a4, a5, a6, r']) : r = r' := by
  have p : (jSt (jW g a2) 0 a3 a4 ∧ r = 0) ∨ (jGo (jW g a2) 0 a3 a4 ∧ ∃ len nx, jR (jW g a2) a3 a4 0 len nx ∧ vT (vHt H g a1 a2 a5 len a6) a4.toNat r) := p
  have q : (jSt (jW g a2) 0 a3 a4 ∧ r' = 0) ∨ (jGo (jW g a2) 0 a3 a4 ∧ ∃ len nx, jR (jW g a2) a3 a4 0 len nx ∧ vT (vHt H g a1 a2 a5 len a6) a4.toNat r') := q
  rcases p with ⟨p1, rfl⟩ | ⟨p1, len, nx, p2, p3⟩ <;> rcases q with ⟨q1, rfl⟩ | ⟨q1, len', nx', q2, q3⟩
  · rfl
  · exact absurd q1.2 p1.2
  · exact absurd p1.2 q1.2
  · obtain ⟨rfl, rfl⟩ := jR_one p2 q2
    exact vT_one _ p3 q3
theorem vFX_one {g : Nat → Int64} {b le w F r r' : Int} (p : vPr H g 165 [b, le, w, F, r]) (q : vPr H g 165 [b, le, w, F, r']) : r = r' := by
  obtain ⟨m, p1, p2⟩ : ∃ m, vX (jW g b) (vO (jW g b)) le w m ∧ r = sOp 3 F (sOp 5 m (-1)) := p
  obtain ⟨m', q1, q2⟩ : ∃ m, vX (jW g b) (vO (jW g b)) le w m ∧ r' = sOp 3 F (sOp 5 m (-1)) := q
  cases vX_one (St := vO (jW g b)) (fun p q => vO_one p q) p1 q1
  exact p2.trans q2.symm
theorem vAX_one {g : Nat → Int64} {a1 a2 a3 a4 a5 r r' : Int} (p : vPr H g 166 [a1, a2, a3, a4, a5, r]) (q : vPr H g 166 [a1, a2, a3, a4, a5, r']) : r = r' := by
  obtain ⟨m, p1, p2⟩ : ∃ c, vX (jW g a2) (vG (jN H a1 a5 a2)) a3 a4 c ∧ r = (if 99 ≤ c then -2 else c + 1) := p
  obtain ⟨m', q1, q2⟩ : ∃ c, vX (jW g a2) (vG (jN H a1 a5 a2)) a3 a4 c ∧ r' = (if 99 ≤ c then -2 else c + 1) := q
  cases vX_one (St := vG (jN H a1 a5 a2)) (fun p q => vG_one (N := jN H a1 a5 a2) (fun p q => jNone p q) p q) p1 q1
  exact p2.trans q2.symm
theorem vFun {k : Nat} (hk : k = 165 ∨ k = 166 ∨ k = 167) {zs : List Int} {r r' : Int} (h : nUP k (zs ++ [r]) H) (h' : nUP k (zs ++ [r']) H) : r = r' := by
  obtain ⟨g, a1, p⟩ := (vUPi (by omega)).mp h
  obtain ⟨g', b1, q⟩ := (vUPi (by omega)).mp h'
  cases kLg_one a1 b1
  match zs, p, q with
  | [_, _, _, _], p, q => rcases hk with rfl | rfl | rfl <;> first | exact vFX_one p q | exact False.elim p
  | [_, _, _, _, _], p, q => rcases hk with rfl | rfl | rfl <;> first | exact vAX_one p q | exact False.elim p
  | [_, _, _, _, _, _], p, q => rcases hk with rfl | rfl | rfl <;> first | exact vTX_one p q | exact False.elim p
  | [], p, _ => exact False.elim p
  | [_], p, _ => exact False.elim p
  | [_, _], p, _ => rcases hk with rfl | rfl | rfl <;> exact False.elim p
  | [_, _, _], p, _ => rcases hk with rfl | rfl | rfl <;> exact False.elim p
  | [_, _, _, _, _, _, _], p, _ => rcases hk with rfl | rfl | rfl <;> exact False.elim p
  | _ :: _ :: _ :: _ :: _ :: _ :: _ :: _ :: t, p, _ => cases t <;> exact False.elim p
theorem vSame_ok {kd : Nat} (hk : kd = 165 ∨ kd = 166 ∨ kd = 167) {K : kS} {L : List kS} (h : nSame kd K = some L) {ρ : List Int} {R : eR} (hD : kD (kGP (kUP RO)) ρ K R) : ∃ K' ∈ L, ∃ ρ', ρ <+: ρ' ∧ kD (kGP (kUP RO)) ρ' K' R := by
  have same : ∀ K0 : kS, K0 = K → some [K0] = some L → ∃ K' ∈ L, ∃ ρ', ρ <+: ρ' ∧ kD (kGP (kUP RO)) ρ' K' R := fun K0 e g => by
    cases g
    subst e
    exact ⟨_, List.mem_singleton.mpr rfl, ρ, List.prefix_refl _, hD⟩
  unfold nSame at h
  split at h
  · rename_i pc ls r st G c s Γ γ
    split at h
    · rename_i fs hfa
      split at h
      · rename_i q hq
        split at h
        · rename_i x hx
          split at h
          · exact same _ rfl h
          · cases h
            obtain ⟨p1, zs, e1, e2⟩ := nFa_ok hD.2.2 hfa (by omega) (by omega)
            have p1 := of_decide_eq_true p1
            obtain ⟨ys, hys⟩ := List.getLast?_eq_some_iff.mp hq
            have hqm : q ∈ γ.filter (fun q => decide (q.1 = kd) && decide (q.2.dropLast = fs.dropLast)) := by rw [hys]; simp
            obtain ⟨hqn, hc⟩ := List.mem_filter.mp hqm
            clear hqm
            simp only [Bool.and_eq_true, decide_eq_true_eq] at hc
            obtain ⟨k, gs⟩ := q
            simp only at hc hx
            obtain ⟨rfl, hc⟩ := hc
            obtain ⟨ys2, e3, e4⟩ := hD.2.2 _ hqn
            have e4 := nGP (by omega) (by omega) e4
            simp only at e3
            rw [nLst p1] at e1
            rw [nLst hx, hc] at e3
            obtain ⟨us, vs, rfl, f1, f2⟩ := sVal_appR e1
            obtain ⟨us', vs', rfl, f3, f4⟩ := sVal_appR e3
            rw [f1] at f3
            cases f3
            obtain ⟨zr, rfl, er⟩ := sVal_1 f2
            obtain ⟨zx, rfl, ex⟩ := sVal_1 f4
            have hz := vFun hk e2 e4
            subst hz
            exact aTopd hD er ex
        · exact same _ rfl h
      · exact same _ rfl h
    · exact same _ rfl h
  · exact same _ rfl h
end VMON
end
