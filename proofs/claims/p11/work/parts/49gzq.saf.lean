/-! The shortest way to say it: the reference. -/
noncomputable section
def sfM (zh zk zw : Nat) (xo : Option sL) (K : kS) : Option (sL × sL × sL × sL × sL × sL) := match nFf K.1.2.2.2.1 52 zk, nFf K.1.2.2.2.1 52 zh, nFf K.1.2.2.2.1 52 zw, xo with
  | some n, some hl, some N, some x => (match kFa K.2 295 (sfN n), kFa K.2 308 (fun _ => true) with
    | some [b, _], some [hl', one, N', _, _, _] => if (decide (hl' = hl) && decide (N' = N)) = true then some (hl, b, one, x, n, N) else none
    | _, _ => none)
  | _, _, _, _ => none
def sfLm (K : kS) (n N : sL) : Bool := sfH9 K.1.2.2.2.1 55 && (sNN K.1.2.2.2.2.2.2 (sSub (sC 16) N) && sNN K.1.2.2.2.2.2.2 (sSub (sC 8) n))
def sfVa (Γ : sG) (γ : List kA) (N a : sL) : Bool := kHav γ 310 [N, a] || (decide (sK Γ.1 a = some 16) || (sNN Γ a && sNN Γ (sSub (sSub N a) (sC 1))))
def sfGTi (zh zw : Nat) (K : kS) : Option kWs := match kLf K.1.2.1 1, kLf K.1.2.1 3, nFf K.1.2.2.2.1 52 zh, nFf K.1.2.2.2.1 52 zw, kFa K.2 308 (fun _ => true) with
  | some one, some p, some hl, some N, none => if (decide (p = sC 0) && (kShb K.1.2.2.2.1 74 .int 4352 && sNN K.1.2.2.2.2.2.2 (sSub (sC 16) N))) = true then some [([(308, [hl, one, N, sC 0, sC 0, sC 0])], [])] else none
  | _, _, _, _, _ => none
def sfGWq (Γ : sG) (hl w p a one : sL) (fs : List sL) : Bool := match fs with
  | [h', w', p', a', o', _] => decide (h' = hl) && (decide (w' = w) && (decide (p' = p) && (decide (o' = one) && ((decide (a' = a) && sNN Γ (sSub (sC 15) a)) || (decide (a' = sC (-1)) && sNN Γ (sSub a (sC 16)))))))
  | _ => false
def sfGTs (zh zw : Nat) (K : kS) : Option kWs := match kLf K.1.2.1 1, kLf K.1.2.1 3, kLf K.1.2.1 4, kLf K.1.2.1 5, nFf K.1.2.2.2.1 52 zh, nFf K.1.2.2.2.1 52 zw with
  | some one, some p, some a, some w, some hl, some N => (match kFa K.2 85 (sfGWq K.1.2.2.2.2.2.2 hl w p a one) with
    | some [_, _, _, _, _, g] => if (kHav K.2 308 [hl, one, N, p, a, w] && (decide (kFindEl K.2 74 (sfG p a w) = some g) && (sI32 K.1.2.2.2.2.2.2.1 g && (sNN K.1.2.2.2.2.2.2 (sfG p a w) && sNN K.1.2.2.2.2.2.2 a)))) = true then some [([(308, [hl, one, N, p, a, sAdd w (sC 1)])], [])] else none
    | _ => none)
  | _, _, _, _, _, _ => none
def sfGTa (zh zw : Nat) (K : kS) : Option kWs := match kLf K.1.2.1 1, kLf K.1.2.1 3, kLf K.1.2.1 4, nFf K.1.2.2.2.1 52 zh, nFf K.1.2.2.2.1 52 zw with
  | some one, some p, some a, some hl, some N => (match kFa K.2 308 (tPre [hl, one, N, p, a]) with
    | some [_, _, _, _, _, w] => if (sNN K.1.2.2.2.2.2.2 (sSub w N) || (decide (w = sC 0) && (sNN K.1.2.2.2.2.2.2 (sSub (sC 15) a) && sNN K.1.2.2.2.2.2.2 (sSub a N)))) = true then some [([(308, [hl, one, N, p, sAdd a (sC 1), sC 0])], [])] else none
    | _ => none)
  | _, _, _, _, _ => none
def sfGTp (zh zw : Nat) (K : kS) : Option kWs := match kLf K.1.2.1 1, kLf K.1.2.1 3, kLf K.1.2.1 4, nFf K.1.2.2.2.1 52 zh, nFf K.1.2.2.2.1 52 zw with
  | some one, some p, some a, some hl, some N => if (sNN K.1.2.2.2.2.2.2 (sSub a (sC 17)) && kHav K.2 308 [hl, one, N, p, a, sC 0]) = true then some [([(308, [hl, one, N, sAdd p (sC 1), sC 0, sC 0])], [])] else none
  | _, _, _, _, _ => none
def sfGTe (zh zw : Nat) (K : kS) : Option kWs := match kLf K.1.2.1 1, kLf K.1.2.1 2, kLf K.1.2.1 3, nFf K.1.2.2.2.1 52 zh, nFf K.1.2.2.2.1 52 zw with
  | some one, some t, some p, some hl, some N => if (!decide (p = t) && (kHav K.2 308 [hl, one, N, p, sC 0, sC 0] && kEqf K.1.2.2.2.2.2.2 p t)) = true then some [([(308, [hl, one, N, t, sC 0, sC 0])], [])] else none
  | _, _, _, _, _ => none
def sfGTq (Γ : sG) (p : sL) (fs : List sL) : Bool := match fs with
  | [_, _, _, p0, z1, z2] => decide (z1 = sC 0) && (decide (z2 = sC 0) && sNN Γ (sSub (sSub p0 p) (sC 1)))
  | _ => false
def sfGTr (K : kS) : Option kWs := match kLf K.1.2.1 2, kLf K.1.2.1 3, kLf K.1.2.1 4, kTop K with
  | some p, some a, some w, some u => (match kFa K.2 308 (sfGTq K.1.2.2.2.2.2.2 p) with
    | some [hl, one, N, _, _, _] => if (sNN K.1.2.2.2.2.2.2 p && (sfVa K.1.2.2.2.2.2.2 K.2 N a && (sNN K.1.2.2.2.2.2.2 w && (sNN K.1.2.2.2.2.2.2 (sSub (sSub N w) (sC 1)) && (decide (kFindEl K.2 74 (sfG p a w) = some u) && sI32 K.1.2.2.2.2.2.2.1 u))))) = true then some [([(309, [hl, w, p, a, one, u])], [])] else none
    | _ => none)
  | _, _, _, _ => none
def sfVAi (i zw : Nat) (K : kS) : Option kWs := match kLf K.1.2.1 i, nFf K.1.2.2.2.1 52 zw with
  | some a, some N => if (!kHav K.2 310 [N, a] && (kEqf K.1.2.2.2.2.2.2 a (sC 16) || (sNN K.1.2.2.2.2.2.2 a && sNN K.1.2.2.2.2.2.2 (sSub (sSub N a) (sC 1))))) = true then some [([(310, [N, a])], [])] else none
  | _, _ => none
def sfLTi (zh zk zw : Nat) (K : kS) : Option kWs := match sfM zh zk zw (kLf K.1.2.1 1) K, kLf K.1.2.1 2, kFa K.2 311 (fun _ => true) with
  | some (hl, b, one, x, n, N), some k, none => if (decide (k = n) && (kShb K.1.2.2.2.1 75 .int 15300 && (kShb K.1.2.2.2.1 53 .int 16 && (kShb K.1.2.2.2.1 54 .int 16 && (kShb K.1.2.2.2.1 55 .int 16 && sNN K.1.2.2.2.2.2.2 (sSub (sC 99) x)))))) = true then some [([(311, [hl, b, one, x, n, N, k, sC 0, sC 0])], [])] else none
  | _, _, _ => none
def sfKNb (zk : Nat) (K : kS) : Option kWs := match kLf K.1.2.1 2, nFf K.1.2.2.2.1 52 zk with
  | some k, some n => if (!sNN K.1.2.2.2.2.2.2 (sSub (sSub n k) (sC 1)) && (sNN K.1.2.2.2.2.2.2 (sSub n k) && (nNe K.1.2.2.2.2.2.2 n k && sWf K.1.2.2.2.2.2.2 (sSub n k) 0 8))) = true then some [([], [(sSub n k, 1, 8)])] else none
  | _, _ => none
def sfBEi (zh zk zw : Nat) (K : kS) : Option kWs := match sfM zh zk zw (kLf K.1.2.1 1) K, kLf K.1.2.1 2, kLf K.1.2.1 3, kLf K.1.2.1 4, kLf K.1.2.1 5, kLf K.1.2.1 6 with
  | some (hl, b, one, x, n, N), some k, some a, some o, some v, some w => if (decide (w = sC 0) && (decide (v = sC 9999) && (!kHav K.2 312 [hl, b, one, x, n, N, k, a, o, sC 0, v] && kHav K.2 311 [hl, b, one, x, n, N, k, a, o]))) = true then some [([(312, [hl, b, one, x, n, N, k, a, o, sC 0, v])], [])] else none
  | _, _, _, _, _, _ => none
def sfGn (γ : List kA) (hl w k a one : sL) : Option sL := match kFa γ 309 (tPre [hl, w, k, a, one]) with
  | some [_, _, _, _, _, g] => some g
  | _ => none
def sfLs (γ : List kA) (hl b one x n N k a o : sL) : Option sL := match kFa γ 307 (tPre [hl, b, one, x, n, N, k, a, o]) with
  | some [_, _, _, _, _, _, _, _, _, u] => some u
  | _ => none
/-- the least so far, one word more -/
def sfBc (K : kS) (hl b one x n N k a o v w v0 : sL) (th : Option sL) : Bool := match sfKi K.1.2.2.2.2.2.2 K.2 73 w k n with
  | some false => decide (v = v0)
  | some true => (match sfGn K.2 hl w k a one with
    | some g => if (sNN K.1.2.2.2.2.2.2 (sSub (sSub (sAdd o g) x) (sC 1)) && sNN K.1.2.2.2.2.2.2 x) = true then decide (v = v0) else (match th, kFindEl K.2 55 w with
      | some th, some l => (match sfLs K.2 hl b one x n N (sAdd k (sC 1)) w th with
        | some u => aIsp K.1.2.2.2.2.2.2 th (sAdd o g) && (sNN K.1.2.2.2.2.2.2 (sSub x th) && (sI32 K.1.2.2.2.2.2.2.1 l && (sNN K.1.2.2.2.2.2.2 l && (sfLm K n N && (sNN K.1.2.2.2.2.2.2 k && ((sNN K.1.2.2.2.2.2.2 (sSub (sSub v0 (sAdd l u)) (sC 1)) && decide (v = sAdd l u)) || (sNN K.1.2.2.2.2.2.2 (sSub (sAdd l u) v0) && decide (v = v0))))))))
        | none => false)
      | _, _ => false)
    | none => false)
  | none => false
def sfBEs (zh zk zw : Nat) (K : kS) : Option kWs := match sfM zh zk zw (kLf K.1.2.1 1) K, kLf K.1.2.1 2, kLf K.1.2.1 3, kLf K.1.2.1 4, kLf K.1.2.1 5, kLf K.1.2.1 6 with
  | some (hl, b, one, x, n, N), some k, some a, some o, some v, some w => (match kFa K.2 312 (tPre [hl, b, one, x, n, N, k, a, o, w]) with
    | some [_, _, _, _, _, _, _, _, _, _, v0] => if (kHav K.2 310 [N, a] && sfBc K hl b one x n N k a o v w v0 (kLf K.1.2.1 7)) = true then some [([(312, [hl, b, one, x, n, N, k, a, o, sAdd w (sC 1), v])], [])] else none
    | _ => none)
  | _, _, _, _, _, _ => none
def sfBEq (Γ : sG) (hl b one x n N k a o v : sL) (fs : List sL) : Bool := tPre [hl, b, one, x, n, N, k, a, o] fs && (match fs with
  | [_, _, _, _, _, _, _, _, _, w, v'] => kEqf Γ w N && decide (v' = v)
  | _ => false)
def sfLTs (zh zk zw : Nat) (K : kS) : Option kWs := match sfM zh zk zw (kLf K.1.2.1 1) K, kLf K.1.2.1 2, kLf K.1.2.1 3, kLf K.1.2.1 4, kLf K.1.2.1 5 with
  | some (hl, b, one, x, n, N), some k, some a, some o, some v => if (kHav K.2 311 [hl, b, one, x, n, N, k, a, o] && (decide (kFindEl K.2 75 (sfL k a o) = some v) && (sI32 K.1.2.2.2.2.2.2.1 v && sNN K.1.2.2.2.2.2.2 (sfL k a o)))) = true then
      (if kEqf K.1.2.2.2.2.2.2 k n = true then (if v = sC 0 then some [([(311, [hl, b, one, x, n, N, k, a, sAdd o (sC 1)])], [])] else none)
      else if ((kFa K.2 312 (sfBEq K.1.2.2.2.2.2.2 hl b one x n N k a o v)).isSome && (sNN K.1.2.2.2.2.2.2 (sSub (sSub n k) (sC 1)) && sNN K.1.2.2.2.2.2.2 k)) = true then some [([(311, [hl, b, one, x, n, N, k, a, sAdd o (sC 1)])], [])] else none) else none
  | _, _, _, _, _ => none
def sfLTa (zh zk zw : Nat) (K : kS) : Option kWs := match sfM zh zk zw (kLf K.1.2.1 1) K, kLf K.1.2.1 2, kLf K.1.2.1 3 with
  | some (hl, b, one, x, n, N), some k, some a => (match kFa K.2 311 (tPre [hl, b, one, x, n, N, k, a]) with
    | some [_, _, _, _, _, _, _, _, o] => if (sNN K.1.2.2.2.2.2.2 (sSub (sSub o x) (sC 1)) || (decide (o = sC 0) && (sNN K.1.2.2.2.2.2.2 (sSub (sC 15) a) && sNN K.1.2.2.2.2.2.2 (sSub a N)))) = true then some [([(311, [hl, b, one, x, n, N, k, sAdd a (sC 1), sC 0])], [])] else none
    | _ => none)
  | _, _, _ => none
def sfLTk (zh zk zw : Nat) (K : kS) : Option kWs := match sfM zh zk zw (kLf K.1.2.1 1) K, kLf K.1.2.1 2, kLf K.1.2.1 3 with
  | some (hl, b, one, x, n, N), some k, some a => if (sNN K.1.2.2.2.2.2.2 (sSub a (sC 17)) && kHav K.2 311 [hl, b, one, x, n, N, k, a, sC 0]) = true then some [([(311, [hl, b, one, x, n, N, sSub k (sC 1), sC 0, sC 0])], [])] else none
  | _, _, _ => none
def sfLTz (zh zk zw : Nat) (K : kS) : Option kWs := match sfM zh zk zw (kLf K.1.2.1 1) K, kLf K.1.2.1 2 with
  | some (hl, b, one, x, n, N), some k => if (!decide (k = sC (-1)) && (kHav K.2 311 [hl, b, one, x, n, N, k, sC 0, sC 0] && kEqf K.1.2.2.2.2.2.2 k (sC (-1)))) = true then some [([(311, [hl, b, one, x, n, N, sC (-1), sC 0, sC 0])], [])] else none
  | _, _ => none
def sfLTq (Γ : sG) (k : sL) (fs : List sL) : Bool := match fs with
  | [_, _, _, _, _, _, k0, _, _] => sNN Γ (sSub (sSub k k0) (sC 1))
  | _ => false
def sfLTr (K : kS) : Option kWs := match kLf K.1.2.1 1, kLf K.1.2.1 2, kLf K.1.2.1 3, kTop K with
  | some k, some a, some o, some u => (match kFa K.2 311 (sfLTq K.1.2.2.2.2.2.2 k) with
    | some [hl, b, one, x, n, N, _, _, _] => if (sNN K.1.2.2.2.2.2.2 (sSub n k) && (sfVa K.1.2.2.2.2.2.2 K.2 N a && (sNN K.1.2.2.2.2.2.2 o && (sNN K.1.2.2.2.2.2.2 (sSub x o) && (decide (kFindEl K.2 75 (sfL k a o) = some u) && (sNN K.1.2.2.2.2.2.2 k && sI32 K.1.2.2.2.2.2.2.1 u)))))) = true then some [([(307, [hl, b, one, x, n, N, k, a, o, u])], [(u, 0, 9999)])] else none
    | _ => none)
  | _, _, _, _ => none
def sfPTi (zh zk zw : Nat) (K : kS) : Option kWs := match sfM zh zk zw (kLf K.1.2.1 2) K, kLf K.1.2.1 3, kLf K.1.2.1 4, kLf K.1.2.1 5, kFa K.2 313 (fun _ => true) with
  | some (hl, b, one, x, n, N), some a, some o, some k, none => (match sfLs K.2 hl b one x n N k a o with
    | some u => if (decide (k = sC 0) && (decide (a = sC 16) && (decide (o = sC 0) && (sNN K.1.2.2.2.2.2.2 u && (sNN K.1.2.2.2.2.2.2 (sSub (sC 9998) u) && (sfLm K n N && sNN K.1.2.2.2.2.2.2 n)))))) = true then some [([(313, [hl, b, one, x, n, N, k, a, o, u])], [(u, 0, 99)])] else none
    | none => none)
  | _, _, _, _, _ => none
def sfPTl (zh zk zw : Nat) (K : kS) : Option kWs := match sfM zh zk zw (kLf K.1.2.1 2) K, kLf K.1.2.1 3, kLf K.1.2.1 4, kLf K.1.2.1 5, kTop K with
  | some (hl, b, one, x, n, N), some a, some o, some k, some u => (match kFa K.2 313 (tPre [hl, b, one, x, n, N, k, a, o]) with
    | some [_, _, _, _, _, _, _, _, _, s] => if (!decide (s = u) && (sWf K.1.2.2.2.2.2.2 s 0 99 && (sNN K.1.2.2.2.2.2.2 (sSub (sSub n k) (sC 1)) && (sNN K.1.2.2.2.2.2.2 x && kHav K.2 307 [hl, b, one, x, n, N, k, a, o, u])))) = true then some [([(313, [hl, b, one, x, n, N, k, a, o, u])], [(u, 0, 99)])] else none
    | _ => none)
  | _, _, _, _, _ => none
def sfFMi (zh zk zw : Nat) (K : kS) : Option kWs := match sfM zh zk zw (kLf K.1.2.1 2) K, kLf K.1.2.1 3, kLf K.1.2.1 4, kLf K.1.2.1 5, kLf K.1.2.1 6, kLf K.1.2.1 7, kLf K.1.2.1 8, kFa K.2 317 (fun _ => true) with
  | some (hl, b, one, x, n, N), some a, some o, some k, some l, some m, some w, none => if (decide (w = sC 0) && (decide (m = sC (-1)) && kHav K.2 313 [hl, b, one, x, n, N, k, a, o, l])) = true then some [([(317, [hl, b, one, x, n, N, k, a, o, l, sC 0])], [])] else none
  | _, _, _, _, _, _, _, _ => none
/-- whether a word fits: some true: it does -/
def sfFm (K : kS) (hl b one x n N k a o l w : sL) (th : Option sL) : Option Bool := match sfKi K.1.2.2.2.2.2.2 K.2 73 w k n with
  | some false => some false
  | some true => (match sfGn K.2 hl w k a one with
    | some g => if (sNN K.1.2.2.2.2.2.2 (sSub (sSub (sAdd o g) x) (sC 1)) && sNN K.1.2.2.2.2.2.2 x) = true then some false else (match th, kFindEl K.2 55 w with
      | some th, some ln => (match sfLs K.2 hl b one x n N (sAdd k (sC 1)) w th with
        | some u => if (aIsp K.1.2.2.2.2.2.2 th (sAdd o g) && (sNN K.1.2.2.2.2.2.2 (sSub x th) && (sI32 K.1.2.2.2.2.2.2.1 ln && sNN K.1.2.2.2.2.2.2 ln))) = true then (if (kEqf K.1.2.2.2.2.2.2 (sAdd ln u) l && sNN K.1.2.2.2.2.2.2 (sSub (sC 99) l)) = true then some true else if nNe K.1.2.2.2.2.2.2 (sAdd ln u) l = true then some false else none) else none
        | none => none)
      | _, _ => none)
    | none => none)
  | none => none
def sfFMs (zh zk zw : Nat) (K : kS) : Option kWs := match sfM zh zk zw (kLf K.1.2.1 2) K, kLf K.1.2.1 3, kLf K.1.2.1 4, kLf K.1.2.1 5, kLf K.1.2.1 6, kLf K.1.2.1 7, kLf K.1.2.1 8 with
  | some (hl, b, one, x, n, N), some a, some o, some k, some l, some m, some w => if (kHav K.2 317 [hl, b, one, x, n, N, k, a, o, l, w] && (kHav K.2 313 [hl, b, one, x, n, N, k, a, o, l] && (sNN K.1.2.2.2.2.2.2 w && (sNN K.1.2.2.2.2.2.2 (sSub (sSub N w) (sC 1)) && (sNN K.1.2.2.2.2.2.2 (sSub (sSub n k) (sC 1)) && sNN K.1.2.2.2.2.2.2 x))))) = true then
      (match sfFm K hl b one x n N k a o l w (kLf K.1.2.1 9) with
      | some false => if m = sC (-1) then some [([(317, [hl, b, one, x, n, N, k, a, o, l, sAdd w (sC 1)])], [])] else none
      | some true => if m = w then some [([(318, [hl, b, one, x, n, N, k, a, o, l, w])], [])] else none
      | none => none) else none
  | _, _, _, _, _, _, _ => none
def sfFMq (Γ : sG) (hl b one x n N k a o l : sL) (fs : List sL) : Bool := tPre [hl, b, one, x, n, N, k, a, o, l] fs && (match fs with
  | [_, _, _, _, _, _, _, _, _, _, w] => sNN Γ (sSub w N)
  | _ => false)
def sfFMe (zh zk zw : Nat) (K : kS) : Option kWs := match sfM zh zk zw (kLf K.1.2.1 2) K, kLf K.1.2.1 3, kLf K.1.2.1 4, kLf K.1.2.1 5, kLf K.1.2.1 6, kLf K.1.2.1 7 with
  | some (hl, b, one, x, n, N), some a, some o, some k, some l, some m => if (decide (sK K.1.2.2.2.2.2.2.1 m = some (-1)) && (kHav K.2 313 [hl, b, one, x, n, N, k, a, o, l] && (sNN K.1.2.2.2.2.2.2 (sSub (sSub n k) (sC 1)) && (sNN K.1.2.2.2.2.2.2 x && (kFa K.2 317 (sfFMq K.1.2.2.2.2.2.2 hl b one x n N k a o l)).isSome)))) = true then some [([], [(m, 0, 15)])] else none
  | _, _, _, _, _, _ => none
def sfPSq (hl b one x n N k l : sL) (fs : List sL) : Bool := tPre [hl, b, one, x, n, N] fs && (match fs with
  | [_, _, _, _, _, _, k', _, _, l'] => decide (k' = k) && decide (l' = l)
  | _ => false)
def sfPTs (zh zk zw : Nat) (K : kS) : Option kWs := match sfM zh zk zw (kLf K.1.2.1 2) K, kLf K.1.2.1 3, kLf K.1.2.1 4, kLf K.1.2.1 5, kLf K.1.2.1 6 with
  | some (hl, b, one, x, n, N), some a, some o, some k, some l => (match kFa K.2 313 (sfPSq hl b one x n N k l) with
    | some [_, _, _, _, _, _, _, a0, o0, _] => (match sfGn K.2 hl a k a0 one, kFindEl K.2 55 a with
      | some g, some ln => if (sI32 K.1.2.2.2.2.2.2.1 ln && (kHav K.2 318 [hl, b, one, x, n, N, k, a0, o0, l, a] && (aIsp K.1.2.2.2.2.2.2 o (sAdd o0 g) && (sNN K.1.2.2.2.2.2.2 (sSub (sSub n k) (sC 1)) && (sNN K.1.2.2.2.2.2.2 (sSub (sC 99) l) && (sfLm K n N && sNN K.1.2.2.2.2.2.2 x)))))) = true then some [([(313, [hl, b, one, x, n, N, sAdd k (sC 1), a, o, sSub l ln])], [(sSub l ln, 0, 99)])] else none
      | _, _ => none)
    | _ => none)
  | _, _, _, _, _ => none
def sfWq (Γ : sG) (hl b one x n N kq r : sL) (fs : List sL) : Bool := tPre [hl, b, one, x, n, N] fs && (match fs with
  | [_, _, _, _, _, _, k, a, _, _] => kEqf Γ k (sAdd kq (sC 1)) && decide (a = r)
  | _ => false)
def sfSWm (zh zk zw : Nat) (K : kS) : Option kWs := match sfM zh zk zw (kLf K.1.2.1 2) K, kLf K.1.2.1 1, kTop K with
  | some (hl, b, one, x, n, N), some kq, some r => if (sNN K.1.2.2.2.2.2.2 kq && (sNN K.1.2.2.2.2.2.2 (sSub (sC 16) N) && (sNN K.1.2.2.2.2.2.2 x && (kFa K.2 313 (sfWq K.1.2.2.2.2.2.2 hl b one x n N kq r)).isSome))) = true then some [([(319, [hl, b, one, x, n, N, kq, r])], [(r, 0, 15)])] else none
  | _, _, _ => none
def sfXc (K : kS) (hl b one x n N kq r u : sL) : Bool := if r = sC (-2) then sNN K.1.2.2.2.2.2.2 (sSub u (sC 9999)) || (sNN K.1.2.2.2.2.2.2 (sSub kq n) && sNN K.1.2.2.2.2.2.2 n) else if sNN K.1.2.2.2.2.2.2 (sSub (sC (-1)) kq) = true then decide (r = u) && (sNN K.1.2.2.2.2.2.2 (sSub (sC 9998) u) && sNN K.1.2.2.2.2.2.2 u) else kHav K.2 319 [hl, b, one, x, n, N, kq, r] && sNN K.1.2.2.2.2.2.2 kq
def sfSXr (zh zk zw : Nat) (K : kS) : Option kWs := match kLf K.1.2.1 2, kLf K.1.2.1 3, kTop K with
  | some ox, some kq, some r => (match sfM zh zk zw (nDl K.1.2.2.2.2.2.2 10 ox (sC 100)) K with
    | some (hl, b, one, x, n, N) => (match kFa K.2 297 (sfKNq b n), sfLs K.2 hl b one x n N (sC 0) (sC 16) (sC 0) with
      | some [_, le, _], some u => if decide (nDl K.1.2.2.2.2.2.2 9 ox (sC 100) = some one) = true then
          (if sfXc K hl b one x n N kq r u = true then some [([(320, [hl, b, le, ox, N, kq, r])], [])] else none) else none
      | _, _ => none)
    | none => none)
  | _, _, _ => none
section SFE
variable {RO : List (Nat × (Nat → Int32))} {ρ : List Int} {Γ : sG} {γ : List kA} {H : List eE}
theorem sfGTx (hg : kGh (kGP (kUP RO)) ρ γ H) {q : List sL → Bool} {hl one N p a w : sL} (h : kFa γ 308 q = some [hl, one, N, p, a, w]) : q [hl, one, N, p, a, w] = true ∧ ∃ zh zo zN zp za zw, sEv ρ hl = some zh ∧ sEv ρ one = some zo ∧ sEv ρ N = some zN ∧ sEv ρ p = some zp ∧ sEv ρ a = some za ∧ sEv ρ w = some zw ∧ pGT H zh zo zN zp za zw := by
  obtain ⟨h1, zs, e, h2⟩ := nFa_ok hg h (by decide) (by decide)
  obtain ⟨y1, y2, y3, y4, y5, y6, rfl, f1, f2, f3, f4, f5, f6⟩ := sVal_6 e
  obtain ⟨a1, a2, a3, a4, a5, a6, he, hT⟩ : ∃ hl one N p a w, [y1, y2, y3, y4, y5, y6] = [hl, one, N, p, a, w] ∧ pGT H hl one N p a w := (sfUP (by decide)).mp h2
  cases he
  exact ⟨h1, _, _, _, _, _, _, f1, f2, f3, f4, f5, f6, hT⟩
theorem sfGTh (hg : kGh (kGP (kUP RO)) ρ γ H) {hl one N p a w : sL} {zh zo zN zp za zw : Int} (e1 : sEv ρ hl = some zh) (e2 : sEv ρ one = some zo) (e3 : sEv ρ N = some zN) (e4 : sEv ρ p = some zp) (e5 : sEv ρ a = some za) (e6 : sEv ρ w = some zw) (h : kHav γ 308 [hl, one, N, p, a, w] = true) : pGT H zh zo zN zp za zw := by
  obtain ⟨zs, e, h2⟩ := kHav_ok hg h (by decide)
  obtain ⟨y1, y2, y3, y4, y5, y6, rfl, f1, f2, f3, f4, f5, f6⟩ := sVal_6 e
  cases f1.symm.trans e1
  cases f2.symm.trans e2
  cases f3.symm.trans e3
  cases f4.symm.trans e4
  cases f5.symm.trans e5
  cases f6.symm.trans e6
  obtain ⟨a1, a2, a3, a4, a5, a6, he, hT⟩ : ∃ hl one N p a w, [zh, zo, zN, zp, za, zw] = [hl, one, N, p, a, w] ∧ pGT H hl one N p a w := (sfUP (by decide)).mp ((kUPn (by decide)).mp h2)
  cases he
  exact hT
theorem sfGTA {hl one N p a w : sL} {zh zo zN zp za zw : Int} (e1 : sEv ρ hl = some zh) (e2 : sEv ρ one = some zo) (e3 : sEv ρ N = some zN) (e4 : sEv ρ p = some zp) (e5 : sEv ρ a = some za) (e6 : sEv ρ w = some zw) (h : pGT H zh zo zN zp za zw) : kGh (kGP (kUP RO)) ρ [(308, [hl, one, N, p, a, w])] H := kAt1 (zs := [zh, zo, zN, zp, za, zw]) (by decide) (by simp only [sVal, e1, e2, e3, e4, e5, e6]) ((kUPn (by decide)).mpr ((sfUP (by decide)).mpr (show ∃ hl one N p a w, [zh, zo, zN, zp, za, zw] = [hl, one, N, p, a, w] ∧ pGT H hl one N p a w from ⟨_, _, _, _, _, _, rfl, h⟩)))
theorem sfM_ok {zh zk zw : Nat} {xo : Option sL} {K : kS} {R : eR} (hD : kD (kGP (kUP RO)) ρ K R) (hx : ∀ y, xo = some y → ∃ z, sEv ρ y = some z) {hl b one x n N : sL} (h : sfM zh zk zw xo K = some (hl, b, one, x, n, N)) : xo = some x ∧ ∃ yh yb yo yx yn yN, sEv ρ hl = some yh ∧ sEv ρ b = some yb ∧ sEv ρ one = some yo ∧ sEv ρ x = some yx ∧ sEv ρ n = some yn ∧ sEv ρ N = some yN ∧ nSP 73 8 yb yn R.2.2.2.1 ∧ yN ≤ 16 := by
  have hH := hD.2.1.2.2.2.1
  unfold sfM at h
  split at h
  · rename_i n' hl' N' x' h1 h2 h3
    split at h
    · rename_i b' x2 hl2 one' N2 x3 x4 x5 h6 h7
      split at h
      · rename_i hc
        cases h
        rw [Bool.and_eq_true, decide_eq_true_eq, decide_eq_true_eq] at hc
        obtain ⟨rfl, rfl⟩ := hc
        obtain ⟨yx, ex⟩ := hx _ rfl
        obtain ⟨yn, en⟩ := nFf_ok hH h1
        obtain ⟨-, yh, yo, yN, y4, y5, y6, eh, eo, eN, -, -, -, hN, -⟩ := sfGTx hD.2.2 h7
        obtain ⟨q, zs, e, k2⟩ := nFa_ok hD.2.2 h6 (by decide) (by decide)
        unfold sfN at q
        have q := of_decide_eq_true q
        subst q
        obtain ⟨zb, zn2, rfl, eb, en2⟩ := sVal_2 e
        cases en2.symm.trans en
        obtain ⟨a', b'', he, hS⟩ : ∃ a b, [zb, yn] = [a, b] ∧ nSP 73 8 a b R.2.2.2.1 := (sfUP (by decide)).mp k2
        cases he
        exact ⟨rfl, yh, zb, yo, yx, yn, yN, eh, eb, eo, ex, en, eN, hS, hN⟩
      · cases h
    · cases h
  · cases h
theorem sfLm_ok {K : kS} {R : eR} (hD : kD (kGP (kUP RO)) ρ K R) {n N : sL} {yn yN : Int} (en : sEv ρ n = some yn) (eN : sEv ρ N = some yN) (h : sfLm K n N = true) {g : Nat → Int64} {fn fk fl : Nat → Int32} (hW : nW3 fn fk fl R.2.2.2.1) {yh yb yo yx : Int} : pL9 (pQ R.2.2.2.1 g fn fk fl yh yb yo yx yn yN) ∧ yN ≤ 16 ∧ yn ≤ 8 := by
  unfold sfLm at h
  simp only [Bool.and_eq_true] at h
  have d1 := sNN_ok hD.1 (sEv_sub (sEv_C 16) eN) h.2.1
  have d2 := sNN_ok hD.1 (sEv_sub (sEv_C 8) en) h.2.2
  obtain ⟨f, q1, q2⟩ := sfH9_ok hD.2.1.2.2.2.1 h.1
  cases hW.2.2.symm.trans q1
  exact ⟨fun w hw => q2 w hw, by omega, by omega⟩
theorem sfVa_ok (hM : sMo ρ Γ) (hg : kGh (kGP (kUP RO)) ρ γ H) {N a : sL} {yN ya : Int} (eN : sEv ρ N = some yN) (ea : sEv ρ a = some ya) (h : sfVa Γ γ N a = true) : ya = 16 ∨ (0 ≤ ya ∧ ya < yN) := by
  unfold sfVa at h
  rcases Bool.or_eq_true_iff.mp h with h | h
  · obtain ⟨zs, e, h2⟩ := kHav_ok hg h (by decide)
    obtain ⟨y1, y2, rfl, f1, f2⟩ := sVal_2 e
    cases f1.symm.trans eN
    cases f2.symm.trans ea
    obtain ⟨a1, a2, he, hV⟩ : ∃ N a, [yN, ya] = [N, a] ∧ (a = 16 ∨ (0 ≤ a ∧ a < N)) := (sfUP (by decide)).mp ((kUPn (by decide)).mp h2)
    cases he
    exact hV
  · rcases Bool.or_eq_true_iff.mp h with h | h
    · exact Or.inl (sK_ok hM.1 ea (of_decide_eq_true h))
    · rw [Bool.and_eq_true] at h
      have d1 := sNN_ok hM ea h.1
      have d2 := sNN_ok hM (sEv_sub (sEv_sub eN ea) (sEv_C 1)) h.2
      exact Or.inr ⟨d1, by omega⟩
theorem sfGTi_ok (zh zw : Nat) : kRok RO (sfGTi zh zw) := by
  intro K ws h ρ R hD
  have hM := hD.1
  unfold sfGTi at h
  split at h
  · rename_i one p hl N ho hp hhl hN hno
    split at h
    · rename_i hc
      cases h
      simp only [Bool.and_eq_true, decide_eq_true_eq] at hc
      obtain ⟨rfl, c2, c3⟩ := hc
      obtain ⟨yo, eo⟩ := kLf_ok hD.2.1 ho
      obtain ⟨yh, eh⟩ := nFf_ok hD.2.1.2.2.2.1 hhl
      obtain ⟨yN, eN⟩ := nFf_ok hD.2.1.2.2.2.1 hN
      have d := sNN_ok hM (sEv_sub (sEv_C 16) eN) c3
      obtain ⟨f, hf⟩ := kSh1 hD.2.1.2.2.2.1 (by decide) rfl c2
      exact ⟨_, List.mem_singleton.mpr rfl, sfGTA eh eo eN (sEv_C 0) (sEv_C 0) (sEv_C 0) ⟨by omega, f, hf, fun p' a' w' h1 h2 h3 h4 h5 => by omega⟩, fun b hb => by cases hb⟩
    · cases h
  · cases h
theorem sfGTs_ok (zh zw : Nat) : kRok RO (sfGTs zh zw) := by
  intro K ws h ρ R hD
  have hM := hD.1
  unfold sfGTs at h
  split at h
  · rename_i one p a w hl N ho hp ha hw hhl hN
    split at h
    · rename_i x1 x2 x3 x4 x5 g hfa
      split at h
      · rename_i hc
        cases h
        simp only [Bool.and_eq_true, decide_eq_true_eq] at hc
        obtain ⟨c1, c2, c3, c4, c5⟩ := hc
        obtain ⟨yo, eo⟩ := kLf_ok hD.2.1 ho
        obtain ⟨yp, ep⟩ := kLf_ok hD.2.1 hp
        obtain ⟨ya, ea⟩ := kLf_ok hD.2.1 ha
        obtain ⟨yw, ew⟩ := kLf_ok hD.2.1 hw
        obtain ⟨yh, eh⟩ := nFf_ok hD.2.1.2.2.2.1 hhl
        obtain ⟨yN, eN⟩ := nFf_ok hD.2.1.2.2.2.1 hN
        obtain ⟨hN16, f, hf, hT⟩ := sfGTh hD.2.2 eh eo eN ep ea ew c1
        have d5 := sNN_ok hM ea c5
        obtain ⟨q, zs, e, h2⟩ := nFa_ok hD.2.2 hfa (by decide) (by decide)
        unfold sfGWq at q
        simp only [Bool.and_eq_true, Bool.or_eq_true, decide_eq_true_eq] at q
        obtain ⟨rfl, rfl, rfl, rfl, q⟩ := q
        obtain ⟨y1, y2, y3, y4, y5, y6, rfl, f1, f2, f3, f4, f5, f6⟩ := sVal_6 e
        obtain ⟨a1, a2, a3, a4, a5, a6, he, hV⟩ : ∃ h w p a o r, [y1, y2, y3, y4, y5, y6] = [h, w, p, a, o, r] ∧ nGW h w p a o r R.2.2.2.1 := h2
        cases he
        cases f1.symm.trans eh
        cases f2.symm.trans ew
        cases f3.symm.trans ep
        cases f5.symm.trans eo
        have hA : y4 = pA ya := by
          unfold pA
          rcases q with ⟨rfl, q⟩ | ⟨rfl, q⟩
          · cases f4.symm.trans ea
            have := sNN_ok hM (sEv_sub (sEv_C 15) ea) q
            rw [if_pos ⟨d5, by omega⟩]
          · cases f4.symm.trans (sEv_C (-1))
            have := sNN_ok hM (sEv_sub ea (sEv_C 16)) q
            rw [if_neg (by omega)]
        rw [hA] at hV
        obtain ⟨zg, eg, kg⟩ := kFindEl_ok hD.2.2 c2 (sfG_ev ep ea ew)
        cases eg.symm.trans f6
        have vg : (f (272 * yp + 16 * ya + yw).toNat).toInt = y6 := by
          rw [(kElA kg hf).2]
          exact n32i (sfRng _) (sWi_ok hM.1 f6 c3) (by rw [Int32.ofInt_toInt])
        refine ⟨_, List.mem_singleton.mpr rfl, sfGTA eh eo eN ep ea (sEv_add ew (sEv_C 1)) ⟨hN16, f, hf, fun p' a' w' h1 h2 h3 h4 h5 => ?_⟩, fun b hb => by cases hb⟩
        by_cases e : p' = yp ∧ a' = ya ∧ w' = yw
        · obtain ⟨rfl, rfl, rfl⟩ := e
          rw [vg]
          exact hV
        · exact hT p' a' w' h1 h2 h3 h4 (by omega)
      · cases h
    · cases h
  · cases h
theorem sfGTa_ok (zh zw : Nat) : kRok RO (sfGTa zh zw) := by
  intro K ws h ρ R hD
  have hM := hD.1
  unfold sfGTa at h
  split at h
  · rename_i one p a hl N ho hp ha hhl hN
    split at h
    · rename_i x1 x2 x3 x4 x5 w hfa
      split at h
      · rename_i hc
        cases h
        obtain ⟨q, yh, yo, yN, yp, ya, yw, eh, eo, eN, ep, ea, ew, hN16, f, hf, hT⟩ := sfGTx hD.2.2 hfa
        have he := sfTk q
        simp only [List.length_cons, List.length_nil, List.drop_succ_cons, List.drop_zero, List.cons_append, List.nil_append, List.cons.injEq, and_true] at he
        obtain ⟨rfl, rfl, rfl, rfl, rfl⟩ := he
        refine ⟨_, List.mem_singleton.mpr rfl, sfGTA eh eo eN ep (sEv_add ea (sEv_C 1)) (sEv_C 0) ⟨hN16, f, hf, fun p' a' w' h1 h2 h3 h4 h5 => hT p' a' w' h1 h2 h3 h4 ?_⟩, fun b hb => by cases hb⟩
        rcases Bool.or_eq_true_iff.mp hc with c | c
        · have := sNN_ok hM (sEv_sub ew eN) c
          omega
        · simp only [Bool.and_eq_true, decide_eq_true_eq] at c
          obtain ⟨rfl, c2, c3⟩ := c
          have d2 := sNN_ok hM (sEv_sub (sEv_C 15) ea) c2
          have d3 := sNN_ok hM (sEv_sub ea eN) c3
          omega
      · cases h
    · cases h
  · cases h
theorem sfGTp_ok (zh zw : Nat) : kRok RO (sfGTp zh zw) := by
  intro K ws h ρ R hD
  have hM := hD.1
  unfold sfGTp at h
  split at h
  · rename_i one p a hl N ho hp ha hhl hN
    split at h
    · rename_i hc
      cases h
      rw [Bool.and_eq_true] at hc
      obtain ⟨yo, eo⟩ := kLf_ok hD.2.1 ho
      obtain ⟨yp, ep⟩ := kLf_ok hD.2.1 hp
      obtain ⟨ya, ea⟩ := kLf_ok hD.2.1 ha
      obtain ⟨yh, eh⟩ := nFf_ok hD.2.1.2.2.2.1 hhl
      obtain ⟨yN, eN⟩ := nFf_ok hD.2.1.2.2.2.1 hN
      obtain ⟨hN16, f, hf, hT⟩ := sfGTh hD.2.2 eh eo eN ep ea (sEv_C 0) hc.2
      have d := sNN_ok hM (sEv_sub ea (sEv_C 17)) hc.1
      exact ⟨_, List.mem_singleton.mpr rfl, sfGTA eh eo eN (sEv_add ep (sEv_C 1)) (sEv_C 0) (sEv_C 0) ⟨hN16, f, hf, fun p' a' w' h1 h2 h3 h4 h5 => hT p' a' w' h1 h2 h3 h4 (by omega)⟩, fun b hb => by cases hb⟩
    · cases h
  · cases h
theorem sfGTe_ok (zh zw : Nat) : kRok RO (sfGTe zh zw) := by
  intro K ws h ρ R hD
  have hM := hD.1
  unfold sfGTe at h
  split at h
  · rename_i one t p hl N ho ht hp hhl hN
    split at h
    · rename_i hc
      cases h
      simp only [Bool.and_eq_true] at hc
      obtain ⟨-, c2, c3⟩ := hc
      obtain ⟨yo, eo⟩ := kLf_ok hD.2.1 ho
      obtain ⟨yp, ep⟩ := kLf_ok hD.2.1 hp
      obtain ⟨yt, et⟩ := kLf_ok hD.2.1 ht
      obtain ⟨yh, eh⟩ := nFf_ok hD.2.1.2.2.2.1 hhl
      obtain ⟨yN, eN⟩ := nFf_ok hD.2.1.2.2.2.1 hN
      have := kEqf_ok hM ep et c3
      subst this
      exact ⟨_, List.mem_singleton.mpr rfl, sfGTA eh eo eN et (sEv_C 0) (sEv_C 0) (sfGTh hD.2.2 eh eo eN ep (sEv_C 0) (sEv_C 0) c2), fun b hb => by cases hb⟩
    · cases h
  · cases h
theorem sfGTr_ok : kRok RO sfGTr := by
  intro K ws h ρ R hD
  have hM := hD.1
  unfold sfGTr at h
  split at h
  · rename_i p a w u hp ha hw hu
    split at h
    · rename_i hl one N p0 z1 z2 hfa
      split at h
      · rename_i hc
        cases h
        simp only [Bool.and_eq_true, decide_eq_true_eq] at hc
        obtain ⟨c1, c2, c3, c4, c5, c6⟩ := hc
        obtain ⟨yp, ep⟩ := kLf_ok hD.2.1 hp
        obtain ⟨ya, ea⟩ := kLf_ok hD.2.1 ha
        obtain ⟨yw, ew⟩ := kLf_ok hD.2.1 hw
        obtain ⟨q, yh, yo, yN, yp0, y1, y2, eh, eo, eN, ep0, e1, e2, hN16, f, hf, hT⟩ := sfGTx hD.2.2 hfa
        unfold sfGTq at q
        simp only [Bool.and_eq_true, decide_eq_true_eq] at q
        obtain ⟨-, -, q⟩ := q
        have dp := sNN_ok hM (sEv_sub (sEv_sub ep0 ep) (sEv_C 1)) q
        have d1 := sNN_ok hM ep c1
        have dv := sfVa_ok hM hD.2.2 eN ea c2
        have d3 := sNN_ok hM ew c3
        have d4 := sNN_ok hM (sEv_sub (sEv_sub eN ew) (sEv_C 1)) c4
        obtain ⟨zu, eu, ku⟩ := kFindEl_ok hD.2.2 c5 (sfG_ev ep ea ew)
        have vu : (f (272 * yp + 16 * ya + yw).toNat).toInt = zu := by
          rw [(kElA ku hf).2]
          exact n32i (sfRng _) (sWi_ok hM.1 eu c6) (by rw [Int32.ofInt_toInt])
        have fin := hT yp ya yw d1 dv d3 (by omega) (Or.inl (by omega))
        rw [vu] at fin
        exact ⟨_, List.mem_singleton.mpr rfl, kAt1 (zs := [yh, yw, yp, ya, yo, zu]) (by decide) (by simp only [sVal, eh, ew, ep, ea, eo, eu]) ((kUPn (by decide)).mpr ((sfUP (by decide)).mpr (show ∃ hl w p a one g, [yh, yw, yp, ya, yo, zu] = [hl, w, p, a, one, g] ∧ nGW hl w p (pA a) one g _ from ⟨_, _, _, _, _, _, rfl, fin⟩))), fun b hb => by cases hb⟩
      · cases h
    · cases h
  · cases h
theorem sfVAi_ok (i zw : Nat) : kRok RO (sfVAi i zw) := by
  intro K ws h ρ R hD
  have hM := hD.1
  unfold sfVAi at h
  split at h
  · rename_i a N ha hN
    split at h
    · rename_i hc
      cases h
      rw [Bool.and_eq_true] at hc
      obtain ⟨ya, ea⟩ := kLf_ok hD.2.1 ha
      obtain ⟨yN, eN⟩ := nFf_ok hD.2.1.2.2.2.1 hN
      have fin : ya = 16 ∨ (0 ≤ ya ∧ ya < yN) := by
        rcases Bool.or_eq_true_iff.mp hc.2 with c | c
        · exact Or.inl (kEqf_ok hM ea (sEv_C 16) c)
        · rw [Bool.and_eq_true] at c
          have d1 := sNN_ok hM ea c.1
          have d2 := sNN_ok hM (sEv_sub (sEv_sub eN ea) (sEv_C 1)) c.2
          exact Or.inr ⟨d1, by omega⟩
      exact ⟨_, List.mem_singleton.mpr rfl, kAt1 (zs := [yN, ya]) (by decide) (by simp only [sVal, eN, ea]) ((kUPn (by decide)).mpr ((sfUP (by decide)).mpr (show ∃ N a, [yN, ya] = [N, a] ∧ (a = 16 ∨ (0 ≤ a ∧ a < N)) from ⟨_, _, rfl, fin⟩))), fun b hb => by cases hb⟩
    · cases h
  · cases h
theorem sfLTA {hl b one x n N k a o : sL} {yh yb yo yx yn yN yk ya yO : Int} (e1 : sEv ρ hl = some yh) (e2 : sEv ρ b = some yb) (e3 : sEv ρ one = some yo) (e4 : sEv ρ x = some yx) (e5 : sEv ρ n = some yn) (e6 : sEv ρ N = some yN) (e7 : sEv ρ k = some yk) (e8 : sEv ρ a = some ya) (e9 : sEv ρ o = some yO) {g : Nat → Int64} {fn fk fl f : Nat → Int32} (hG : kLg 84 360 g H) (hW : nW3 fn fk fl H) (hf : nI2 H 75 15300 f) (hx : yx ≤ 99) (hN : yN ≤ 16) (h : pLt (pQ H g fn fk fl yh yb yo yx yn yN) f yk ya yO) : kGh (kGP (kUP RO)) ρ [(311, [hl, b, one, x, n, N, k, a, o])] H :=
  sfAr (Or.inr (Or.inr ⟨by decide, by decide⟩)) e1 e2 e3 e4 e5 e6 (zs := [yk, ya, yO]) (by simp only [sVal, e7, e8, e9]) hG hW (show ∃ f, nI2 H 75 15300 f ∧ pX (pQ H g fn fk fl yh yb yo yx yn yN) ≤ 99 ∧ pM (pQ H g fn fk fl yh yb yo yx yn yN) ≤ 16 ∧ pLt (pQ H g fn fk fl yh yb yo yx yn yN) f yk ya yO from ⟨f, hf, hx, hN, h⟩)
theorem sfLTe {yh yb yo yx yn yN yk ya yO : Int} (h : pC H yh yb yo yx yn yN (fun P => pPr H P 311 [yk, ya, yO])) : ∃ g fn fk fl f, kLg 84 360 g H ∧ nW3 fn fk fl H ∧ nI2 H 75 15300 f ∧ yx ≤ 99 ∧ yN ≤ 16 ∧ pLt (pQ H g fn fk fl yh yb yo yx yn yN) f yk ya yO := by
  obtain ⟨g, fn, fk, fl, hG, hW, hP⟩ := h
  obtain ⟨f, h1, h2, h3, h4⟩ : ∃ f, nI2 H 75 15300 f ∧ pX (pQ H g fn fk fl yh yb yo yx yn yN) ≤ 99 ∧ pM (pQ H g fn fk fl yh yb yo yx yn yN) ≤ 16 ∧ pLt (pQ H g fn fk fl yh yb yo yx yn yN) f yk ya yO := hP
  exact ⟨g, fn, fk, fl, f, hG, hW, h1, h2, h3, h4⟩
theorem sfLTh (hg : kGh (kGP (kUP RO)) ρ γ H) {hl b one x n N k a o : sL} {yh yb yo yx yn yN yk ya yO : Int} (e1 : sEv ρ hl = some yh) (e2 : sEv ρ b = some yb) (e3 : sEv ρ one = some yo) (e4 : sEv ρ x = some yx) (e5 : sEv ρ n = some yn) (e6 : sEv ρ N = some yN) (e7 : sEv ρ k = some yk) (e8 : sEv ρ a = some ya) (e9 : sEv ρ o = some yO) (h : kHav γ 311 [hl, b, one, x, n, N, k, a, o] = true) : ∃ g fn fk fl f, kLg 84 360 g H ∧ nW3 fn fk fl H ∧ nI2 H 75 15300 f ∧ yx ≤ 99 ∧ yN ≤ 16 ∧ pLt (pQ H g fn fk fl yh yb yo yx yn yN) f yk ya yO := by
  obtain ⟨zs, ez, hC⟩ := sfHv hg (Or.inr (Or.inr ⟨by decide, by decide⟩)) e1 e2 e3 e4 e5 e6 h
  obtain ⟨y1, y2, y3, rfl, f1, f2, f3⟩ := sVal_3 ez
  cases f1.symm.trans e7
  cases f2.symm.trans e8
  cases f3.symm.trans e9
  exact sfLTe hC
theorem sfLTi_ok (zh zk zw : Nat) : kRok RO (sfLTi zh zk zw) := by
  intro K ws h ρ R hD
  have hM := hD.1
  unfold sfLTi at h
  split at h
  · rename_i hl b one x n N k hQ hk hno
    split at h
    · rename_i hc
      cases h
      simp only [Bool.and_eq_true, decide_eq_true_eq] at hc
      obtain ⟨rfl, c2, c3, c4, c5, c6⟩ := hc
      obtain ⟨-, yh, yb, yo, yx, yn, yN, eh, eb, eo, ex, en, eN, ⟨S, g, s1, hG, s3, s4⟩, hN⟩ := sfM_ok hD (fun _ hy => kLf_ok hD.2.1 hy) hQ
      obtain ⟨f, hf⟩ := kSh1 hD.2.1.2.2.2.1 (by decide) rfl c2
      obtain ⟨fn, h1⟩ := kSh1 hD.2.1.2.2.2.1 (by decide) rfl c3
      obtain ⟨fk, h2⟩ := kSh1 hD.2.1.2.2.2.1 (by decide) rfl c4
      obtain ⟨fl, h3⟩ := kSh1 hD.2.1.2.2.2.1 (by decide) rfl c5
      have d := sNN_ok hM (sEv_sub (sEv_C 99) ex) c6
      exact ⟨_, List.mem_singleton.mpr rfl, sfLTA eh eb eo ex en eN en (sEv_C 0) (sEv_C 0) hG ⟨h1, h2, h3⟩ hf (by omega) hN (fun k' a' o' q0 q1 q2 q3 q4 q5 => by have q1 : k' ≤ yn := q1; omega), fun b hb => by cases hb⟩
    · cases h
  · cases h
theorem sfKNb_ok (zk : Nat) : kRok RO (sfKNb zk) := by
  intro K ws h ρ R hD
  have hM := hD.1
  unfold sfKNb at h
  split at h
  · rename_i k n hk hn
    split at h
    · rename_i hc
      cases h
      simp only [Bool.and_eq_true] at hc
      obtain ⟨-, c2, c3, c4⟩ := hc
      obtain ⟨yk, ek⟩ := kLf_ok hD.2.1 hk
      obtain ⟨yn, en⟩ := nFf_ok hD.2.1.2.2.2.1 hn
      have d := nNe_ok hM en ek c3
      obtain ⟨z, ez, z0, z8⟩ := sWf_has hM c4
      cases ez.symm.trans (sEv_sub en ek)
      exact ⟨_, List.mem_singleton.mpr rfl, fun a ha => (by cases ha), fun b hb => by
        rcases List.mem_singleton.mp hb with rfl
        exact ⟨_, sEv_sub en ek, (by omega : (1 : Int) ≤ yn - yk), (by omega : yn - yk ≤ 8)⟩⟩
    · cases h
  · cases h
theorem sfBEA {hl b one x n N k a o w v : sL} {yh yb yo yx yn yN yk ya yO yw yv : Int} (e1 : sEv ρ hl = some yh) (e2 : sEv ρ b = some yb) (e3 : sEv ρ one = some yo) (e4 : sEv ρ x = some yx) (e5 : sEv ρ n = some yn) (e6 : sEv ρ N = some yN) (e7 : sEv ρ k = some yk) (e8 : sEv ρ a = some ya) (e9 : sEv ρ o = some yO) (e10 : sEv ρ w = some yw) (e11 : sEv ρ v = some yv) {g : Nat → Int64} {fn fk fl : Nat → Int32} (hG : kLg 84 360 g H) (hW : nW3 fn fk fl H) (h : pBe (pQ H g fn fk fl yh yb yo yx yn yN) yk (pBa (pQ H g fn fk fl yh yb yo yx yn yN) (pA ya) yk) yO yw yv) : kGh (kGP (kUP RO)) ρ [(312, [hl, b, one, x, n, N, k, a, o, w, v])] H := sfAr (Or.inr (Or.inr ⟨by decide, by decide⟩)) e1 e2 e3 e4 e5 e6 (sfV5 e7 e8 e9 e10 e11) hG hW h
theorem sfBEi_ok (zh zk zw : Nat) : kRok RO (sfBEi zh zk zw) := by
  intro K ws h ρ R hD
  have hM := hD.1
  unfold sfBEi at h
  split at h
  · rename_i hl b one x n N k a o v w hQ hk ha ho hv hw
    split at h
    · rename_i hc
      cases h
      simp only [Bool.and_eq_true, decide_eq_true_eq] at hc
      obtain ⟨-, rfl, -, c4⟩ := hc
      obtain ⟨-, yh, yb, yo, yx, yn, yN, eh, eb, eo, ex, en, eN, hS, hN⟩ := sfM_ok hD (fun _ hy => kLf_ok hD.2.1 hy) hQ
      obtain ⟨yk, ek⟩ := kLf_ok hD.2.1 hk
      obtain ⟨ya, ea⟩ := kLf_ok hD.2.1 ha
      obtain ⟨yO, eO⟩ := kLf_ok hD.2.1 ho
      obtain ⟨g, fn, fk, fl, f, hG, hW, -⟩ := sfLTh hD.2.2 eh eb eo ex en eN ek ea eO c4
      exact ⟨_, List.mem_singleton.mpr rfl, sfBEA eh eb eo ex en eN ek ea eO (sEv_C 0) (sEv_C 9999) hG hW (Or.inl ⟨rfl, fun w' h0 h1 => by omega⟩), fun b hb => by cases hb⟩
    · cases h
  · cases h
/-- what a word gives, told by the words -/
theorem sfGn_ok (hg : kGh (kGP (kUP RO)) ρ γ H) {hl w k a one gg : sL} {yh yw yk ya yo : Int} (e1 : sEv ρ hl = some yh) (e2 : sEv ρ w = some yw) (e3 : sEv ρ k = some yk) (e4 : sEv ρ a = some ya) (e5 : sEv ρ one = some yo) {g : Nat → Int64} {fn fk fl : Nat → Int32} (hW : nW3 fn fk fl H) {yb yx yn yN : Int} (hkin : (fk yw.toNat).toInt = jW g yb yk.toNat) (h : sfGn γ hl w k a one = some gg) : ∃ zg, sEv ρ gg = some zg ∧ pG H yh yo yw yk (pBa (pQ H g fn fk fl yh yb yo yx yn yN) (pA ya) yk) zg := by
  unfold sfGn at h
  split at h
  · rename_i x1 x2 x3 x4 x5 g' hfa
    cases h
    obtain ⟨h1, zs, e, h2⟩ := nFa_ok hg hfa (by decide) (by decide)
    have he := sfTk h1
    simp only [List.length_cons, List.length_nil, List.drop_succ_cons, List.drop_zero, List.cons_append, List.nil_append, List.cons.injEq, and_true] at he
    obtain ⟨rfl, rfl, rfl, rfl, rfl⟩ := he
    obtain ⟨y1, y2, y3, y4, y5, y6, rfl, f1, f2, f3, f4, f5, f6⟩ := sVal_6 e
    cases f1.symm.trans e1
    cases f2.symm.trans e2
    cases f3.symm.trans e3
    cases f4.symm.trans e4
    cases f5.symm.trans e5
    obtain ⟨a1, a2, a3, a4, a5, a6, he, hV⟩ : ∃ hl w p a one g, [yh, yw, yk, ya, yo, y6] = [hl, w, p, a, one, g] ∧ nGW hl w p (pA a) one g H := (sfUP (by decide)).mp h2
    cases he
    obtain ⟨fn', fk', fl', b', v, hW', hv, hGV, hb⟩ := hV
    cases hW.1.symm.trans hW'.1
    cases hW.2.1.symm.trans hW'.2.1
    refine ⟨y6, f6, v, hv, ?_⟩
    have e : pBa (pQ H g fn fk fl yh yb yo yx yn yN) (pA ya) yk = b' := by
      rw [hb]
      show (if 0 ≤ pA ya ∧ jW g yb yk.toNat = (fk (pA ya).toNat).toInt then (fn (pA ya).toNat).toInt else 0) = _
      rw [← hkin]
      by_cases c : 0 ≤ pA ya ∧ fk (pA ya).toNat = fk yw.toNat
      · rw [if_pos c, if_pos ⟨c.1, by rw [c.2]⟩]
      · rw [if_neg c, if_neg (fun q => c ⟨q.1, Int32.toInt_inj.mp q.2.symm⟩)]
    rw [e]
    exact hGV
  · cases h
theorem sfLs_ok (hg : kGh (kGP (kUP RO)) ρ γ H) {hl b one x n N k a o u : sL} {yh yb yo yx yn yN yk ya yO : Int} (e1 : sEv ρ hl = some yh) (e2 : sEv ρ b = some yb) (e3 : sEv ρ one = some yo) (e4 : sEv ρ x = some yx) (e5 : sEv ρ n = some yn) (e6 : sEv ρ N = some yN) (e7 : sEv ρ k = some yk) (e8 : sEv ρ a = some ya) (e9 : sEv ρ o = some yO) (h : sfLs γ hl b one x n N k a o = some u) : ∃ yu, sEv ρ u = some yu ∧ pC H yh yb yo yx yn yN (fun P => pLs P yk (pBa P (pA ya) yk) yO yu) := by
  unfold sfLs at h
  split at h
  · rename_i x1 x2 x3 x4 x5 x6 x7 x8 x9 u' hfa
    cases h
    obtain ⟨fs, hfs, zs, ez, hC⟩ := sfFa hg (Or.inr (Or.inl ⟨by decide, by decide⟩)) e1 e2 e3 e4 e5 e6 (q := [k, a, o]) (fun _ hq => hq) hfa
    simp only [List.cons_append, List.nil_append, List.cons.injEq] at hfs
    obtain ⟨-, -, -, -, -, -, -, -, -, hfs⟩ := hfs
    subst hfs
    obtain ⟨y1, y2, y3, yu, rfl, f1, f2, f3, f4⟩ := sVal_4 ez
    cases f1.symm.trans e7
    cases f2.symm.trans e8
    cases f3.symm.trans e9
    exact ⟨yu, f4, hC⟩
  · cases h
theorem sfPre {p q fs : List sL} (h : tPre (p ++ q) fs = true) : tPre p fs = true := by
  have e := sfTk h
  rw [e]
  unfold tPre
  apply decide_eq_true
  rw [List.append_assoc, List.take_left']
  rfl
theorem sfBEs_ok (zh zk zw : Nat) : kRok RO (sfBEs zh zk zw) := by
  intro K ws h ρ R hD
  have hM := hD.1
  unfold sfBEs at h
  split at h
  · rename_i hl b one x n N k a o v w hQ hk ha ho hv hw
    split at h
    · rename_i x1 x2 x3 x4 x5 x6 x7 x8 x9 x10 v0 hfa
      split at h
      · rename_i hc
        cases h
        rw [Bool.and_eq_true] at hc
        obtain ⟨-, c2⟩ := hc
        obtain ⟨-, yh, yb, yo, yx, yn, yN, eh, eb, eo, ex, en, eN, hS, hN⟩ := sfM_ok hD (fun _ hy => kLf_ok hD.2.1 hy) hQ
        obtain ⟨yk, ek⟩ := kLf_ok hD.2.1 hk
        obtain ⟨ya, ea⟩ := kLf_ok hD.2.1 ha
        obtain ⟨yO, eO⟩ := kLf_ok hD.2.1 ho
        obtain ⟨yv, ev⟩ := kLf_ok hD.2.1 hv
        obtain ⟨yw, ew⟩ := kLf_ok hD.2.1 hw
        obtain ⟨fs, hfs, zs, ez, g, fn, fk, fl, hG, hW, hP⟩ := sfFa hD.2.2 (Or.inr (Or.inr ⟨by decide, by decide⟩)) eh eb eo ex en eN (q := [k, a, o, w]) (fun _ hq => hq) hfa
        simp only [List.cons_append, List.nil_append, List.cons.injEq] at hfs
        obtain ⟨-, -, -, -, -, -, -, -, -, -, hfs⟩ := hfs
        subst hfs
        obtain ⟨y1, y2, y3, y4, yv0, rfl, f1, f2, f3, f4, ev0⟩ := sVal_5 ez
        cases f1.symm.trans ek
        cases f2.symm.trans ea
        cases f3.symm.trans eO
        cases f4.symm.trans ew
        have hP : pBe (pQ R.2.2.2.1 g fn fk fl yh yb yo yx yn yN) yk (pBa (pQ R.2.2.2.1 g fn fk fl yh yb yo yx yn yN) (pA ya) yk) yO yw yv0 := hP
        have keep : v = v0 → (∀ s, ¬ pF (pQ R.2.2.2.1 g fn fk fl yh yb yo yx yn yN) yk (pBa (pQ R.2.2.2.1 g fn fk fl yh yb yo yx yn yN) (pA ya) yk) yO s yw) → pBe (pQ R.2.2.2.1 g fn fk fl yh yb yo yx yn yN) yk (pBa (pQ R.2.2.2.1 g fn fk fl yh yb yo yx yn yN) (pA ya) yk) yO (yw + 1) yv := fun hv hn => by
          subst hv
          cases ev.symm.trans ev0
          exact pBe_no hP (fun s _ => hn s) (fun _ => hn)
        refine ⟨_, List.mem_singleton.mpr rfl, sfBEA eh eb eo ex en eN ek ea eO (sEv_add ew (sEv_C 1)) ev hG hW ?_, fun b hb => by cases hb⟩
        unfold sfBc at c2
        split at c2
        · rename_i hki
          obtain ⟨-, -, -, -, hiff⟩ := sfKi_ok hM hD.2.2 hG hW hS ew ek en hki
          exact keep (of_decide_eq_true c2) (fun s q => Bool.false_ne_true (hiff.mpr q.1))
        · rename_i hki
          obtain ⟨w0, w16, k0, k1, hiff⟩ := sfKi_ok hM hD.2.2 hG hW hS ew ek en hki
          have hkin := hiff.mp rfl
          split at c2
          · rename_i gg hgn
            obtain ⟨zg, eg, hgg⟩ := sfGn_ok hD.2.2 eh ew ek ea eo (yx := yx) (yn := yn) (yN := yN) hW hkin hgn
            have ey := sEv_add eO eg
            split at c2
            · rename_i hfar
              rw [Bool.and_eq_true] at hfar
              have d1 := sNN_ok hM (sEv_sub (sEv_sub ey ex) (sEv_C 1)) hfar.1
              have d2 := sNN_ok hM ex hfar.2
              exact keep (of_decide_eq_true c2) (fun s q => pF_far sfFn hgg (by show yx < max 0 (yO + zg); omega) q)
            · split at c2
              · rename_i th l hth hl'
                split at c2
                · rename_i u hu
                  simp only [Bool.and_eq_true, Bool.or_eq_true, decide_eq_true_eq] at c2
                  obtain ⟨f1, f2, f3, f4, f5, f6, f7⟩ := c2
                  have eth := aIsp_ok hM ey f1
                  have dx := sNN_ok hM (sEv_sub ex eth) f2
                  obtain ⟨zl, el, kl⟩ := kFindEl_ok hD.2.2 hl' ew
                  have hl9 : (fl yw.toNat).toInt = zl := n32i (sfRng _) (sWi_ok hM.1 el f3) (by rw [Int32.ofInt_toInt]; exact (kElA kl hW.2.2).2)
                  have dl := sNN_ok hM el f4
                  obtain ⟨hL, hN16, hn8⟩ := sfLm_ok hD en eN f5 hW (g := g) (yh := yh) (yb := yb) (yo := yo) (yx := yx)
                  obtain ⟨yu, eu, hC⟩ := sfLs_ok hD.2.2 eh eb eo ex en eN (sEv_add ek (sEv_C 1)) ew eth hu
                  have hLs := sfPt hG hW hC
                  have hA : pA yw = yw := if_pos ⟨w0, w16⟩
                  rw [hA, pBa_b w0] at hLs
                  have hF : ∀ s, pF (pQ R.2.2.2.1 g fn fk fl yh yb yo yx yn yN) yk (pBa (pQ R.2.2.2.1 g fn fk fl yh yb yo yx yn yN) (pA ya) yk) yO s yw ↔ pW (pQ R.2.2.2.1 g fn fk fl yh yb yo yx yn yN) (yk + 1) (pBb (pQ R.2.2.2.1 g fn fk fl yh yb yo yx yn yN) yw (yk + 1)) (max 0 (yO + zg)) (s - zl) := fun s => by
                    have q := pF_ls (P := pQ R.2.2.2.1 g fn fk fl yh yb yo yx yn yN) (s := s) sfFn hkin hgg (by show max 0 (yO + zg) ≤ yx; omega)
                    rw [show pLg (pQ R.2.2.2.1 g fn fk fl yh yb yo yx yn yN) yw.toNat = zl from hl9] at q
                    exact q
                  have ei := sEv_add el eu
                  have hv9 := pBe_v hP
                  rcases hLs with ⟨rfl, hno⟩ | ⟨u0, u1, hLe⟩
                  · rcases f7 with ⟨f7, -⟩ | ⟨-, f7⟩
                    · have := sNN_ok hM (sEv_sub (sEv_sub ev0 ei) (sEv_C 1)) f7
                      omega
                    · exact keep f7 (fun s q => hno _ ((hF s).mp q))
                  · have hr := pW_rng hL hN16 (by show yk + 1 ≤ yn; omega) hLe.1
                    have hr2 : yu ≤ 9 * (yn - (yk + 1)) := hr.2
                    have hl8 : zl ≤ 9 := by
                      have := (hL yw.toNat (by omega)).2
                      have e : pLg (pQ R.2.2.2.1 g fn fk fl yh yb yo yx yn yN) yw.toNat = zl := hl9
                      omega
                    rcases f7 with ⟨f7, rfl⟩ | ⟨f7, rfl⟩
                    · have d7 := sNN_ok hM (sEv_sub (sEv_sub ev0 ei) (sEv_C 1)) f7
                      cases ev.symm.trans ei
                      refine pBe_yes hP w0 (by omega) (by omega) hv9 ((hF _).mpr (by rw [show zl + yu - zl = yu by omega]; exact hLe.1)) (fun s hs q => hLe.2 (s - zl) (by omega) ((hF s).mp q))
                    · have d7 := sNN_ok hM (sEv_sub ei ev0) f7
                      cases ev.symm.trans ev0
                      exact pBe_no hP (fun s hs q => hLe.2 (s - zl) (by omega) ((hF s).mp q)) (fun e => by omega)
                · cases c2
              · cases c2
          · cases c2
        · cases c2
      · cases h
    · cases h
  · cases h
theorem sfLTs_ok (zh zk zw : Nat) : kRok RO (sfLTs zh zk zw) := by
  intro K ws h ρ R hD
  have hM := hD.1
  unfold sfLTs at h
  split at h
  · rename_i hl b one x n N k a o v hQ hk ha ho hv
    obtain ⟨-, yh, yb, yo, yx, yn, yN, eh, eb, eo, ex, en, eN, hS, hN⟩ := sfM_ok hD (fun _ hy => kLf_ok hD.2.1 hy) hQ
    obtain ⟨yk, ek⟩ := kLf_ok hD.2.1 hk
    obtain ⟨ya, ea⟩ := kLf_ok hD.2.1 ha
    obtain ⟨yO, eO⟩ := kLf_ok hD.2.1 ho
    split at h
    · rename_i hc
      simp only [Bool.and_eq_true, decide_eq_true_eq] at hc
      obtain ⟨c1, c2, c3, c4⟩ := hc
      obtain ⟨g, fn, fk, fl, f, hG, hW, hf, hx9, hN16, hT⟩ := sfLTh hD.2.2 eh eb eo ex en eN ek ea eO c1
      obtain ⟨yv, ev, kv⟩ := kFindEl_ok hD.2.2 c2 (sfL_ev ek ea eO)
      have vv : (f (1700 * yk + 100 * ya + yO).toNat).toInt = yv := by
        rw [(kElA kv hf).2]
        exact n32i (sfRng _) (sWi_ok hM.1 ev c3) (by rw [Int32.ofInt_toInt])
      have go : pLs (pQ R.2.2.2.1 g fn fk fl yh yb yo yx yn yN) yk (pBa (pQ R.2.2.2.1 g fn fk fl yh yb yo yx yn yN) (pA ya) yk) yO yv → kGh (kGP (kUP RO)) ρ [(311, [hl, b, one, x, n, N, k, a, sAdd o (sC 1)])] R.2.2.2.1 := fun hL => sfLTA eh eb eo ex en eN ek ea (sEv_add eO (sEv_C 1)) hG hW hf hx9 hN16 (fun k' a' o' q0 q1 q2 q3 q4 q5 => by
        by_cases e : k' = yk ∧ a' = ya ∧ o' = yO
        · obtain ⟨rfl, rfl, rfl⟩ := e
          rw [vv]
          exact hL
        · exact hT k' a' o' q0 q1 q2 q3 q4 (by omega))
      split at h
      · rename_i hkn
        split at h
        · rename_i hv0
          cases h
          subst hv0
          cases ev.symm.trans (sEv_C 0)
          have e1 := kEqf_ok hM ek en hkn
          refine ⟨_, List.mem_singleton.mpr rfl, go (Or.inr ⟨by decide, by decide, (pW_end (by show yn ≤ yk; omega)).mpr rfl, fun s hs q => ?_⟩), fun b hb => by cases hb⟩
          have := (pW_end (by show yn ≤ yk; omega)).mp q
          omega
        · cases h
      · split at h
        · rename_i hc2
          cases h
          simp only [Bool.and_eq_true] at hc2
          obtain ⟨f1, f2, f3⟩ := hc2
          have d2 := sNN_ok hM (sEv_sub (sEv_sub en ek) (sEv_C 1)) f2
          obtain ⟨gs, hgs⟩ := Option.isSome_iff_exists.mp f1
          obtain ⟨fs, hfs, zs, ez, hC⟩ := sfFa hD.2.2 (Or.inr (Or.inr ⟨by decide, by decide⟩)) eh eb eo ex en eN (q := [k, a, o]) (fun _ hq => (Bool.and_eq_true_iff.mp hq).1) hgs
          have hq := (Bool.and_eq_true_iff.mp (kFa_ok hD.2.2 hgs (by decide)).1).2
          subst hfs
          split at hq
          · rename_i x1 x2 x3 x4 x5 x6 x7 x8 x9 w v' hm
            simp only [List.cons_append, List.nil_append, List.cons.injEq] at hm
            obtain ⟨-, -, -, -, -, -, -, -, -, rfl⟩ := hm
            rw [Bool.and_eq_true, decide_eq_true_eq] at hq
            obtain ⟨q1, rfl⟩ := hq
            obtain ⟨y1, y2, y3, yw, yv', rfl, k1, k2, k3, k4, k5⟩ := sVal_5 ez
            cases k1.symm.trans ek
            cases k2.symm.trans ea
            cases k3.symm.trans eO
            cases k5.symm.trans ev
            have e1 := kEqf_ok hM k4 eN q1
            subst e1
            have hBe := sfPt hG hW hC
            exact ⟨_, List.mem_singleton.mpr rfl, go (pBe_e (by show yk < yn; omega) hBe), fun b hb => by cases hb⟩
          · cases hq
        · cases h
    · cases h
  · cases h
theorem sfLTa_ok (zh zk zw : Nat) : kRok RO (sfLTa zh zk zw) := by
  intro K ws h ρ R hD
  have hM := hD.1
  unfold sfLTa at h
  split at h
  · rename_i hl b one x n N k a hQ hk ha
    obtain ⟨-, yh, yb, yo, yx, yn, yN, eh, eb, eo, ex, en, eN, hS, hN⟩ := sfM_ok hD (fun _ hy => kLf_ok hD.2.1 hy) hQ
    obtain ⟨yk, ek⟩ := kLf_ok hD.2.1 hk
    obtain ⟨ya, ea⟩ := kLf_ok hD.2.1 ha
    split at h
    · rename_i x1 x2 x3 x4 x5 x6 x7 x8 o hfa
      split at h
      · rename_i hc
        cases h
        obtain ⟨fs, hfs, zs, ez, hC⟩ := sfFa hD.2.2 (Or.inr (Or.inr ⟨by decide, by decide⟩)) eh eb eo ex en eN (q := [k, a]) (fun _ hq => hq) hfa
        simp only [List.cons_append, List.nil_append, List.cons.injEq] at hfs
        obtain ⟨-, -, -, -, -, -, -, -, hfs⟩ := hfs
        subst hfs
        obtain ⟨y1, y2, yO, rfl, f1, f2, eO⟩ := sVal_3 ez
        cases f1.symm.trans ek
        cases f2.symm.trans ea
        obtain ⟨g, fn, fk, fl, f, hG, hW, hf, hx9, hN16, hT⟩ := sfLTe hC
        refine ⟨_, List.mem_singleton.mpr rfl, sfLTA eh eb eo ex en eN ek (sEv_add ea (sEv_C 1)) (sEv_C 0) hG hW hf hx9 hN16 (fun k' a' o' q0 q1 q2 q3 q4 q5 => hT k' a' o' q0 q1 q2 q3 q4 ?_), fun b hb => by cases hb⟩
        have q4 : o' ≤ yx := q4
        have q2 : a' = 16 ∨ (0 ≤ a' ∧ a' < yN) := q2
        rcases Bool.or_eq_true_iff.mp hc with c | c
        · have := sNN_ok hM (sEv_sub (sEv_sub eO ex) (sEv_C 1)) c
          omega
        · simp only [Bool.and_eq_true, decide_eq_true_eq] at c
          obtain ⟨rfl, c2, c3⟩ := c
          have d2 := sNN_ok hM (sEv_sub (sEv_C 15) ea) c2
          have d3 := sNN_ok hM (sEv_sub ea eN) c3
          omega
      · cases h
    · cases h
  · cases h
theorem sfLTk_ok (zh zk zw : Nat) : kRok RO (sfLTk zh zk zw) := by
  intro K ws h ρ R hD
  have hM := hD.1
  unfold sfLTk at h
  split at h
  · rename_i hl b one x n N k a hQ hk ha
    split at h
    · rename_i hc
      cases h
      rw [Bool.and_eq_true] at hc
      obtain ⟨-, yh, yb, yo, yx, yn, yN, eh, eb, eo, ex, en, eN, hS, hN⟩ := sfM_ok hD (fun _ hy => kLf_ok hD.2.1 hy) hQ
      obtain ⟨yk, ek⟩ := kLf_ok hD.2.1 hk
      obtain ⟨ya, ea⟩ := kLf_ok hD.2.1 ha
      have d := sNN_ok hM (sEv_sub ea (sEv_C 17)) hc.1
      obtain ⟨g, fn, fk, fl, f, hG, hW, hf, hx9, hN16, hT⟩ := sfLTh hD.2.2 eh eb eo ex en eN ek ea (sEv_C 0) hc.2
      exact ⟨_, List.mem_singleton.mpr rfl, sfLTA eh eb eo ex en eN (sEv_sub ek (sEv_C 1)) (sEv_C 0) (sEv_C 0) hG hW hf hx9 hN16 (fun k' a' o' q0 q1 q2 q3 q4 q5 => hT k' a' o' q0 q1 q2 q3 q4 (by have q2 : a' = 16 ∨ (0 ≤ a' ∧ a' < yN) := q2; omega)), fun b hb => by cases hb⟩
    · cases h
  · cases h
theorem sfLTz_ok (zh zk zw : Nat) : kRok RO (sfLTz zh zk zw) := by
  intro K ws h ρ R hD
  have hM := hD.1
  unfold sfLTz at h
  split at h
  · rename_i hl b one x n N k hQ hk
    split at h
    · rename_i hc
      cases h
      simp only [Bool.and_eq_true] at hc
      obtain ⟨-, c2, c3⟩ := hc
      obtain ⟨-, yh, yb, yo, yx, yn, yN, eh, eb, eo, ex, en, eN, hS, hN⟩ := sfM_ok hD (fun _ hy => kLf_ok hD.2.1 hy) hQ
      obtain ⟨yk, ek⟩ := kLf_ok hD.2.1 hk
      have := kEqf_ok hM ek (sEv_C (-1)) c3
      subst this
      obtain ⟨g, fn, fk, fl, f, hG, hW, hf, hx9, hN16, hT⟩ := sfLTh hD.2.2 eh eb eo ex en eN ek (sEv_C 0) (sEv_C 0) c2
      exact ⟨_, List.mem_singleton.mpr rfl, sfLTA eh eb eo ex en eN (sEv_C (-1)) (sEv_C 0) (sEv_C 0) hG hW hf hx9 hN16 hT, fun b hb => by cases hb⟩
    · cases h
  · cases h
end SFE
end
