/-! Talk over days. -/
noncomputable section
def yRf (i : Nat) (K : kS) : Option Nat := match sGetL K.1.2.1 i with
  | some (2, x) => (List.range 6).find? (fun s => decide (x = sC (45 + 2 * (s : Int))))
  | _ => none
def yC0 (zl s : Nat) (K : kS) : Option (Nat × List sL) := match kFa K.2 62 (fun _ => true), nFf K.1.2.2.2.1 (40 + 2 * s) zl, nFf K.1.2.2.2.1 1 1, nFf K.1.2.2.2.1 1 2, kToldI K.1.2.2.2.1 11 0, kToldI K.1.2.2.2.1 12 0, kToldI K.1.2.2.2.1 9 0, kToldI K.1.2.2.2.1 10 0 with
  | some [_, hl], some le, some w, some p, some bd, some hf, some s0, some gr => if kHav K.2 (14 + s) [sC (-1)] = true then some (s, [hl, jB s, le, w, p, bd, hf, s0, gr]) else none
  | _, _, _, _, _, _, _, _ => none
def yC1 (zh zw zp s : Nat) (K : kS) : Option (Nat × List sL) := match nFf K.1.2.2.2.1 52 zh, kToldI K.1.2.2.2.1 83 s, nFf K.1.2.2.2.1 52 zw, nFf K.1.2.2.2.1 52 zp, kToldI K.1.2.2.2.1 59 2, kToldI K.1.2.2.2.1 59 3, kToldI K.1.2.2.2.1 59 0, kToldI K.1.2.2.2.1 59 1 with
  | some hl, some le, some w, some p, some bd, some hf, some s0, some gr => some (s, [hl, jB s, le, w, p, bd, hf, s0, gr])
  | _, _, _, _, _, _, _, _ => none
/-- the shelf; hl, its place, how long it is, words, people, the bound, half, the sum, how it grows -/
def yC (d zl zh zw zp : Nat) (K : kS) : Option (Nat × List sL) := if d = 0 then (match yRf 3 K with
    | some s => yC0 zl s K
    | none => none)
  else (match kWs_ 1 K with
    | some s => yC1 zh zw zp s K
    | none => none)
def yQ1 (Γ : sG) (le d : sL) : Bool := match nDl Γ 9 le (sC 2) with
  | some q => sWi Γ.1 le 0 60 && sNN Γ (sSub (sSub q d) (sC 1))
  | none => false
def yQ2 (Γ : sG) (le d : sL) : Bool := match nDl Γ 9 le (sC 2) with
  | some q => sWi Γ.1 le 0 60 && sNN Γ (sSub d q)
  | none => false
/-- whether there is a day more; whether there is none -/
def yMo (Γ : sG) (le d : sL) : Bool := (sNN Γ (sSub (sSub le (sMul 2 d)) (sC 2)) || yQ1 Γ le d) && sNN Γ (sSub (sC 29) d)
def yEn (Γ : sG) (le d : sL) : Bool := sNN Γ (sSub (sAdd (sMul 2 d) (sC 1)) le) || yQ2 Γ le d
def yZ0 (Γ : sG) (γ : List kA) (G : List sE) (z : Nat) : Option sL := match kShz G z with
  | some [h, b, so, le, m, si, w] => if (kHav γ 12 [h, b, so, le, m, si, w] && (decide (sK Γ.1 h = some 2) && decide (sK Γ.1 so = some 0))) = true then some le else none
  | _ => none
def yZ1 (Γ : sG) (G : List sE) (z : Nat) : Option sL := match kToldI G 82 z, kToldI G 83 z with
  | some m, some si => if sK Γ.1 m = some (-2) then some si else none
  | _, _ => none
/-- how long a shelf is, if it is a row of bytes -/
def yZ (d : Nat) (K : kS) (z : Nat) : Option sL := if d = 0 then yZ0 K.1.2.2.2.2.2.2 K.2 K.1.2.2.2.1 z else yZ1 K.1.2.2.2.2.2.2 K.1.2.2.2.1 z
/-- the shelf of a sentence that one of the people says, how many words it has -/
def yOT (d : Nat) (K : kS) (w p one f : sL) : Option (Nat × sL) := match sK K.1.2.2.2.2.2.2.1 f with
  | some zi => if (sNN K.1.2.2.2.2.2.2 one && (sNN K.1.2.2.2.2.2.2 (sSub (sSub p one) (sC 1)) && decide (0 ≤ zi ∧ zi < 6))) = true then (match yZ d K zi.toNat with
      | some le => if sWi K.1.2.2.2.2.2.2.1 le 0 60 = true then (match kFa K.2 90 (tPre [jB zi.toNat, sC 0, le, w]) with
          | some [_, _, _, _, L] => some (zi.toNat, L)
          | _ => none) else none
      | none => none) else none
  | none => none
def yN0 (Γ : sG) (γ : List kA) (G : List sE) (z : Nat) : Bool := match kShz G z with
  | some [h, b, so, le, m, si, w] => kHav γ 12 [h, b, so, le, m, si, w] && (sI32 Γ.1 m && (sNN Γ (sSub (sC 1) h) || (decide (sK Γ.1 h = some 2) && sNN Γ (sSub so (sC 1)))))
  | _ => false
def yN1 (Γ : sG) (G : List sE) (z : Nat) : Bool := match kToldI G 82 z with
  | some m => sI32 Γ.1 m && nNe Γ m (sC (-2))
  | none => false
def yNo (Γ : sG) (p : sL) (one : Option sL) : Bool := match one with
  | some one => sNN Γ (sSub (sC (-1)) one) || sNN Γ (sSub one p)
  | none => false
def yNf (d : Nat) (K : kS) (f : Option sL) : Bool := match f with
  | some f => (sNN K.1.2.2.2.2.2.2 (sSub (sC (-1)) f) || sNN K.1.2.2.2.2.2.2 (sSub f (sC 6))) || (match sK K.1.2.2.2.2.2.2.1 f with
    | some zi => decide (0 ≤ zi ∧ zi < 6) && (if d = 0 then yN0 K.1.2.2.2.2.2.2 K.2 K.1.2.2.2.1 zi.toNat else yN1 K.1.2.2.2.2.2.2 K.1.2.2.2.1 zi.toNat)
    | none => false)
  | none => false
/-- whether the talk ends there -/
def yNT (d : Nat) (K : kS) (p : sL) (one f : Option sL) : Bool := yNo K.1.2.2.2.2.2.2 p one || yNf d K f
def yHr (Γ : sG) (γ : List kA) (one p : sL) : Option Int := match kFa γ 92 (tPre [one, p]) with
  | some [_, _, r] => sK Γ.1 r
  | _ => none
def ySv (γ : List kA) (d s0 gr : sL) : Option sL := match kFa γ 93 (tPre [d, s0, gr]) with
  | some [_, _, _, v] => some v
  | _ => none
def yHv (Γ : sG) (γ : List kA) (d s0 gr : sL) : Option sL := match ySv γ d s0 gr with
  | some v => if sWi Γ.1 v 0 9999 = true then nDl Γ 9 v (sC 2) else none
  | none => none
def yHlf (Γ : sG) (γ : List kA) (one p d s0 gr : sL) : Option sL := if yHr Γ γ one p = some 0 then some (sC 0) else if yHr Γ γ one p = some 1 then yHv Γ γ d s0 gr else none
def yStx (Γ : sG) (γ : List kA) (one p bd hf d s0 gr x : sL) : Option sL := if sNN Γ (sSub x bd) = true then (if yHr Γ γ one p = some 0 then some (sC 0) else none)
  else if sNN Γ (sSub (sSub bd x) (sC 1)) = true then (if sNN Γ (sSub (sSub hf x) (sC 1)) = true then some (sC 0) else if sNN Γ (sSub x hf) = true then yHlf Γ γ one p d s0 gr else none) else none
/-- what comes to the halves, if nobody is mentioned that day -/
def yStp (Γ : sG) (γ : List kA) (hl one L p bd hf d s0 gr : sL) (z : Nat) : Option sL := match jNr γ hl (jB z) one L with
  | some x => yStx Γ γ one p bd hf d s0 gr x
  | none => none
def yHit (Γ : sG) (γ : List kA) (hl one L p bd : sL) (z : Nat) : Bool := match jNr γ hl (jB z) one L with
  | some x => sNN Γ (sSub x bd) && decide (yHr Γ γ one p = some 1)
  | none => false
def yCl (K : kS) : Bool := kShb K.1.2.2.2.1 82 .int 6 && (kShb K.1.2.2.2.1 83 .int 6 && (kShb K.1.2.2.2.1 58 .int 7 || (kFa K.2 80 (fun _ => true)).isSome))
def yTKi (zl : Nat) (K : kS) : Option kWs := match yC 0 zl 0 0 0 K, kLf K.1.2.1 6, kLf K.1.2.1 5, kFa K.2 153 (fun _ => true) with
  | some (s, [hl, b, le, w, p, bd, hf, s0, gr]), some d, some h, none => if (decide (d = sC 0) && (decide (h = sC 0) && yCl K)) = true then some [([(153, [hl, b, le, w, p, bd, hf, s0, gr, sC 0, sC 0])], [])] else none
  | _, _, _, _ => none
def yTKb (zl : Nat) (K : kS) : Option kWs := match yC 0 zl 0 0 0 K, kLf K.1.2.1 6 with
  | some (_, [_, _, le, _, _, _, _, _, _]), some d => (match nDl K.1.2.2.2.2.2.2 9 le (sC 2) with
    | some q => if (sWi K.1.2.2.2.2.2.2.1 le 0 60 && (sNN K.1.2.2.2.2.2.2 d && sNN K.1.2.2.2.2.2.2 (sSub (sSub q d) (sC 1)))) = true then some [([], [(sSub (sSub le (sMul 2 d)) (sC 2), 0, 60)])] else none
    | none => none)
  | _, _ => none
def yTKs (zl : Nat) (K : kS) : Option kWs := match yC 0 zl 0 0 0 K, kLf K.1.2.1 6, kLf K.1.2.1 5 with
  | some (s, [hl, b, le, w, p, bd, hf, s0, gr]), some d, some h => (match kFa K.2 153 (tPre [hl, b, le, w, p, bd, hf, s0, gr, sSub d (sC 1)]), kWv K.1.2.2.2.2.2.2 K.2 0 s (sMul 2 (sSub d (sC 1))) 0, kWv K.1.2.2.2.2.2.2 K.2 0 s (sAdd (sMul 2 (sSub d (sC 1))) (sC 1)) 0 with
    | some [_, _, _, _, _, _, _, _, _, _, h0], some one, some f => (match yOT 0 K w p one f with
      | some (z, L) => (match yStp K.1.2.2.2.2.2.2 K.2 hl one L p bd hf (sSub d (sC 1)) s0 gr z with
        | some y => if (sNN K.1.2.2.2.2.2.2 (sSub d (sC 1)) && (yMo K.1.2.2.2.2.2.2 le (sSub d (sC 1)) && decide (h = sAdd h0 y))) = true then some [([(153, [hl, b, le, w, p, bd, hf, s0, gr, d, h])], [])] else none
        | none => none)
      | none => none)
    | _, _, _ => none)
  | _, _, _ => none
def yHa (d : Nat) (K : kS) (hl w p bd : sL) (one f : Option sL) : Bool := match one, f with
  | some one, some f => (match yOT d K w p one f with
    | some (z, L) => yHit K.1.2.2.2.2.2.2 K.2 hl one L p bd z
    | none => false)
  | _, _ => false
def yAn (Γ : sG) (γ : List kA) (w d h s0 gr r : sL) (one : Option sL) : Bool := (decide (sK Γ.1 w = some 0) && decide (r = d)) || ((decide (sK Γ.1 w = some 1) && decide (one = some r)) || ((decide (sK Γ.1 w = some 2) && decide (ySv γ d s0 gr = some r)) || (decide (sK Γ.1 w = some 3) && decide (r = h))))
def yAs (Γ : sG) (w h r : sL) : Bool := (decide (sK Γ.1 w = some 3) && decide (r = h)) || (decide (r = sC (-2)) && (sNN Γ (sSub (sC 2) w) || nNe Γ w (sC 3)))
def yEd (Γ : sG) (more ha an no en as : Bool) : Bool := if more = true then (if ha = true then an else no && as) else en && as
def yTKe (zl : Nat) (K : kS) : Option kWs := match yC 0 zl 0 0 0 K, kLf K.1.2.1 6, kLf K.1.2.1 5, kLf K.1.2.1 2, kTop K with
  | some (s, [hl, b, le, w, p, bd, hf, s0, gr]), some d, some h, some wh, some r => if (kHav K.2 153 [hl, b, le, w, p, bd, hf, s0, gr, d, h] && (sNN K.1.2.2.2.2.2.2 d && yEd K.1.2.2.2.2.2.2 (yMo K.1.2.2.2.2.2.2 le d) (yHa 0 K hl w p bd (kWv K.1.2.2.2.2.2.2 K.2 0 s (sMul 2 d) 0) (kWv K.1.2.2.2.2.2.2 K.2 0 s (sAdd (sMul 2 d) (sC 1)) 0)) (yAn K.1.2.2.2.2.2.2 K.2 wh d h s0 gr r (kWv K.1.2.2.2.2.2.2 K.2 0 s (sMul 2 d) 0)) (yNT 0 K p (kWv K.1.2.2.2.2.2.2 K.2 0 s (sMul 2 d) 0) (kWv K.1.2.2.2.2.2.2 K.2 0 s (sAdd (sMul 2 d) (sC 1)) 0)) (yEn K.1.2.2.2.2.2.2 le d) (yAs K.1.2.2.2.2.2.2 wh h r))) = true then some [([(154, [hl, b, le, w, p, bd, hf, s0, gr, wh, r])], [])] else none
  | _, _, _, _, _ => none
def yTMi (zh zw zp zd zo zv : Nat) (K : kS) : Option kWs := match yC 1 0 zh zw zp K, kLf K.1.2.1 2, nFf K.1.2.2.2.1 52 zd, nFf K.1.2.2.2.1 52 zo, nFf K.1.2.2.2.1 52 zv, kFa K.2 155 (fun _ => true) with
  | some (s, [hl, b, le, w, p, bd, hf, s0, gr]), some d, some td, some tw, some h, none => if (decide (d = sC 0) && (decide (td = sC (-2)) && (decide (tw = sC (-2)) && (decide (h = sC 0) && (yCl K && kLz K.1.2.2.2.1 84 360))))) = true then some [([(155, [hl, b, le, w, p, bd, hf, s0, gr, sC 0, sC (-2), sC (-2), sC 0])], [])] else none
  | _, _, _, _, _, _ => none
def yTMb (zh zw zp : Nat) (K : kS) : Option kWs := match yC 1 0 zh zw zp K, kLf K.1.2.1 2 with
  | some (_, [_, _, le, _, _, _, _, _, _]), some d => if (sNN K.1.2.2.2.2.2.2 d && (sWi K.1.2.2.2.2.2.2.1 le 0 60 && sNN K.1.2.2.2.2.2.2 (sSub (sSub le (sMul 2 d)) (sC 2)))) = true then some [([], [(d, 0, 29)])] else none
  | _, _ => none
def yRTi (zw : Nat) (K : kS) : Option nWs := match kLf K.1.2.1 4, nFf K.1.2.2.2.1 52 zw with
  | some f, some w => (match sK K.1.2.2.2.2.2.2.1 f with
    | some zi => if decide (0 ≤ zi ∧ zi < 6) = true then (match kToldI K.1.2.2.2.1 83 zi.toNat with
        | some le => if ((kFa K.2 90 (tPre [jB zi.toNat, sC 0, le, w])).isNone && kLz K.1.2.2.2.1 84 360) = true then some [(some (0, 10), [(90, [jB zi.toNat, sC 0, le, w, sX K.1.2.2.2.2.2.2.1.length])], [])] else none
        | none => none) else none
    | none => none)
  | _, _ => none
def yTMc (K : kS) (td tw h d0 td0 tw0 h0 one : sL) (hit : Bool) (y : Option sL) : Bool := if hit = true then decide (td = d0) && (decide (tw = one) && decide (h = h0)) else (match y with
  | some y => decide (td = td0) && (decide (tw = tw0) && decide (h = sAdd h0 y))
  | none => false)
def yTMs (zh zw zp zd zo zv : Nat) (K : kS) : Option kWs := match yC 1 0 zh zw zp K, kLf K.1.2.1 2, nFf K.1.2.2.2.1 52 zd, nFf K.1.2.2.2.1 52 zo, nFf K.1.2.2.2.1 52 zv with
  | some (s, [hl, b, le, w, p, bd, hf, s0, gr]), some d, some td, some tw, some h => (match kFa K.2 155 (tPre [hl, b, le, w, p, bd, hf, s0, gr, sSub d (sC 1)]), kWv K.1.2.2.2.2.2.2 K.2 1 s (sMul 2 (sSub d (sC 1))) 0, kWv K.1.2.2.2.2.2.2 K.2 1 s (sAdd (sMul 2 (sSub d (sC 1))) (sC 1)) 0 with
    | some [_, _, _, _, _, _, _, _, _, _, td0, tw0, h0], some one, some f => (match yOT 1 K w p one f with
      | some (z, L) => if (sNN K.1.2.2.2.2.2.2 (sSub (sC (-1)) td0) && (sNN K.1.2.2.2.2.2.2 (sSub d (sC 1)) && (yMo K.1.2.2.2.2.2.2 le (sSub d (sC 1)) && yTMc K td tw h (sSub d (sC 1)) td0 tw0 h0 one (yHit K.1.2.2.2.2.2.2 K.2 hl one L p bd z) (yStp K.1.2.2.2.2.2.2 K.2 hl one L p bd hf (sSub d (sC 1)) s0 gr z)))) = true then some [([(155, [hl, b, le, w, p, bd, hf, s0, gr, d, td, tw, h])], [])] else none
      | none => none)
    | _, _, _ => none)
  | _, _, _, _, _ => none
def yTMe (zh zw zp zd zo zv : Nat) (K : kS) : Option kWs := match yC 1 0 zh zw zp K, kLf K.1.2.1 2, nFf K.1.2.2.2.1 52 zd, nFf K.1.2.2.2.1 52 zo, nFf K.1.2.2.2.1 52 zv with
  | some (s, [hl, b, le, w, p, bd, hf, s0, gr]), some d, some td, some tw, some h => if (kHav K.2 155 [hl, b, le, w, p, bd, hf, s0, gr, d, td, tw, h] && (sNN K.1.2.2.2.2.2.2 td || (sNN K.1.2.2.2.2.2.2 d && (yEn K.1.2.2.2.2.2.2 le d || (yMo K.1.2.2.2.2.2.2 le d && yNT 1 K p (kWv K.1.2.2.2.2.2.2 K.2 1 s (sMul 2 d) 0) (kWv K.1.2.2.2.2.2.2 K.2 1 s (sAdd (sMul 2 d) (sC 1)) 0)))))) = true then some [([(156, [hl, b, le, w, p, bd, hf, s0, gr, td, tw, h])], [])] else none
  | _, _, _, _, _ => none
def yAx (Γ : sG) (γ : List kA) (w td tw h s0 gr r : sL) : Bool := (decide (sK Γ.1 w = some 3) && decide (r = h)) || ((sNN Γ (sSub (sC (-1)) td) && (decide (r = td) && (sNN Γ (sSub (sC 2) w) || nNe Γ w (sC 3)))) || (sNN Γ td && ((decide (sK Γ.1 w = some 0) && decide (r = td)) || ((decide (sK Γ.1 w = some 1) && decide (r = tw)) || (decide (sK Γ.1 w = some 2) && decide (ySv γ td s0 gr = some r))))))
def yTMx (zh zw zp zd zo zv : Nat) (K : kS) : Option kWs := match yC 1 0 zh zw zp K, kLf K.1.2.1 2, nFf K.1.2.2.2.1 52 zd, nFf K.1.2.2.2.1 52 zo, nFf K.1.2.2.2.1 52 zv, kTop K with
  | some (s, [hl, b, le, w, p, bd, hf, s0, gr]), some wh, some td, some tw, some h, some r => if (kHav K.2 156 [hl, b, le, w, p, bd, hf, s0, gr, td, tw, h] && yAx K.1.2.2.2.2.2.2 K.2 wh td tw h s0 gr r) = true then some [([(154, [hl, b, le, w, p, bd, hf, s0, gr, wh, r])], [])] else none
  | _, _, _, _, _, _ => none
section YTLK
variable {RO : List (Nat × (Nat → Int32))} {ρ : List Int} {Γ : sG} {γ : List kA} {H : List eE}
theorem yUPi {k : Nat} (hk : 153 ≤ k ∧ k < 157) {zs : List Int} : nUP k zs H ↔ yUP k zs H := by
  refine (tUP_iff (by omega)).trans ?_
  unfold tUP
  rw [if_neg (by omega), if_neg (by omega), if_pos hk.1]
theorem yAt {k : Nat} {fs : List sL} {zs : List Int} {g : Nat → Int64} {fh fz fe : Nat → Int32} (hk : 153 ≤ k ∧ k < 157) (hk2 : k < 1000) (e : sVal ρ fs = some zs) (h1 : kLg 84 360 g H) (h2 : nI2 H 82 6 fh) (h3 : nI2 H 83 6 fz) (h4 : nI2 H 58 7 fe) (h5 : yPr H g fh fz k zs) : kGh (kGP (kUP RO)) ρ [(k, fs)] H := kAt1 hk2 e ((kUPn (by omega)).mpr ((yUPi hk).mpr ⟨g, fh, fz, fe, h1, h2, h3, h4, h5⟩))
theorem yFa (hg : kGh (kGP (kUP RO)) ρ γ H) {k : Nat} {p : List sL → Bool} {fs : List sL} (h : kFa γ k p = some fs) (hk : 153 ≤ k ∧ k < 157) (hk2 : k < 1000) : p fs = true ∧ ∃ zs, sVal ρ fs = some zs ∧ yUP k zs H := by
  obtain ⟨h1, zs, e, h2⟩ := nFa_ok hg h (by omega) hk2
  exact ⟨h1, zs, e, (yUPi hk).mp h2⟩
theorem yHv_ (hg : kGh (kGP (kUP RO)) ρ γ H) {k : Nat} {fs : List sL} (h : kHav γ k fs = true) (hk : 153 ≤ k ∧ k < 157) (hk2 : k < 1000) : ∃ zs, sVal ρ fs = some zs ∧ yUP k zs H := by
  obtain ⟨zs, e, h2⟩ := kHav_ok hg h hk2
  exact ⟨zs, e, (yUPi hk).mp ((kUPn (by omega)).mp h2)⟩
theorem yVal_9p {a b c d e f g h i : sL} {r : List sL} {zs : List Int} (q : sVal ρ (a :: b :: c :: d :: e :: f :: g :: h :: i :: r) = some zs) : ∃ y1 y2 y3 y4 y5 y6 y7 y8 y9 yr, zs = y1 :: y2 :: y3 :: y4 :: y5 :: y6 :: y7 :: y8 :: y9 :: yr ∧ (sEv ρ a = some y1 ∧ sEv ρ b = some y2 ∧ sEv ρ c = some y3 ∧ sEv ρ d = some y4 ∧ sEv ρ e = some y5 ∧ sEv ρ f = some y6 ∧ sEv ρ g = some y7 ∧ sEv ρ h = some y8 ∧ sEv ρ i = some y9) ∧ sVal ρ r = some yr := by
  obtain ⟨y1, _, rfl, h1, q⟩ := sVal_c q
  obtain ⟨y2, _, rfl, h2, q⟩ := sVal_c q
  obtain ⟨y3, _, rfl, h3, q⟩ := sVal_c q
  obtain ⟨y4, _, rfl, h4, q⟩ := sVal_c q
  obtain ⟨y5, _, rfl, h5, q⟩ := sVal_c q
  obtain ⟨y6, _, rfl, h6, q⟩ := sVal_c q
  obtain ⟨y7, _, rfl, h7, q⟩ := sVal_c q
  obtain ⟨y8, _, rfl, h8, q⟩ := sVal_c q
  obtain ⟨y9, yr, rfl, h9, q⟩ := sVal_c q
  exact ⟨y1, y2, y3, y4, y5, y6, y7, y8, y9, yr, rfl, ⟨h1, h2, h3, h4, h5, h6, h7, h8, h9⟩, q⟩
/-- what of the context is told -/
def yCv (ρ : List Int) (l : List sL) (zs : List Int) : Prop := sVal ρ l = some zs
theorem yC_ok {d zl zh zw zp : Nat} {K : kS} {R : eR} (hD : kD (kGP (kUP RO)) ρ K R) {s : Nat} {hl b le w p bd hf s0 gr : sL} (h : yC d zl zh zw zp K = some (s, [hl, b, le, w, p, bd, hf, s0, gr])) :
    s < 6 ∧ b = jB s ∧ (d = 0 → kHav K.2 (14 + s) [sC (-1)] = true) ∧ ∃ y1 y3 y4 y5 y6 y7 y8 y9, sEv ρ hl = some y1 ∧ sEv ρ le = some y3 ∧ sEv ρ w = some y4 ∧ sEv ρ p = some y5 ∧ sEv ρ bd = some y6 ∧ sEv ρ hf = some y7 ∧ sEv ρ s0 = some y8 ∧ sEv ρ gr = some y9 := by
  have hH := hD.2.1.2.2.2.1
  unfold yC at h
  split at h
  · rename_i hd
    split at h
    · rename_i s' hs
      have h6 : s' < 6 := by
        unfold yRf at hs
        split at hs
        · exact List.mem_range.mp (List.mem_of_find?_eq_some hs)
        · cases hs
      unfold yC0 at h
      split at h
      · rename_i x1 hl' le' w' p' bd' hf' s0' gr' h1 h2 h3 h4 h5 h7 h8 h9
        split at h
        · rename_i hc
          cases h
          obtain ⟨-, zs, e3, -⟩ := nFa_ok hD.2.2 h1 (by decide) (by decide)
          obtain ⟨z1, zh', rfl, -, eh⟩ := sVal_2 e3
          obtain ⟨a2, b2⟩ := nFf_ok hH h2
          obtain ⟨a3, b3⟩ := nFf_ok hH h3
          obtain ⟨a4, b4⟩ := nFf_ok hH h4
          obtain ⟨a5, b5⟩ := nToldE hH h5
          obtain ⟨a7, b7⟩ := nToldE hH h7
          obtain ⟨a8, b8⟩ := nToldE hH h8
          obtain ⟨a9, b9⟩ := nToldE hH h9
          exact ⟨h6, rfl, fun _ => hc, _, _, _, _, _, _, _, _, eh, b2, b3, b4, b5, b7, b8, b9⟩
        · cases h
      · cases h
    · cases h
  · rename_i hd
    split at h
    · rename_i s' hs
      have h6 := kWs_lt hs
      unfold yC1 at h
      split at h
      · rename_i hl' le' w' p' bd' hf' s0' gr' h1 h2 h3 h4 h5 h7 h8 h9
        cases h
        obtain ⟨a1, b1⟩ := nFf_ok hH h1
        obtain ⟨a2, b2⟩ := nToldE hH h2
        obtain ⟨a3, b3⟩ := nFf_ok hH h3
        obtain ⟨a4, b4⟩ := nFf_ok hH h4
        obtain ⟨a5, b5⟩ := nToldE hH h5
        obtain ⟨a7, b7⟩ := nToldE hH h7
        obtain ⟨a8, b8⟩ := nToldE hH h8
        obtain ⟨a9, b9⟩ := nToldE hH h9
        exact ⟨h6, rfl, fun q => absurd q hd, _, _, _, _, _, _, _, _, b1, b2, b3, b4, b5, b7, b8, b9⟩
      · cases h
    · cases h
theorem yHalf (hM : sMo ρ Γ) {le q : sL} {zl : Int} (el : sEv ρ le = some zl) (h : nDl Γ 9 le (sC 2) = some q) (c : sWi Γ.1 le 0 60 = true) : sEv ρ q = some (zl / 2) ∧ 0 ≤ zl ∧ zl ≤ 60 := by
  have e := nDl_ok hM el (sEv_C 2) h
  have b := sWi_ok hM.1 el c
  rw [(tDv9 (x := zl) (k := 2) b.1 (by omega) (by omega) (by omega)).1] at e
  exact ⟨e, b.1, b.2⟩
theorem yMo_ok (hM : sMo ρ Γ) {le d : sL} {zl zd : Int} (el : sEv ρ le = some zl) (ed : sEv ρ d = some zd) (h : yMo Γ le d = true) : 2 * zd + 1 < zl ∧ zd ≤ 29 := by
  unfold yMo at h
  simp only [Bool.and_eq_true, Bool.or_eq_true] at h
  have h2 := sNN_ok hM (sEv_sub (sEv_C 29) ed) h.2
  refine ⟨?_, by omega⟩
  rcases h.1 with h1 | h1
  · have := sNN_ok hM (sEv_sub (sEv_sub el (sEv_mul 2 ed)) (sEv_C 2)) h1
    omega
  · unfold yQ1 at h1
    split at h1
    · rename_i q hq
      rw [Bool.and_eq_true] at h1
      obtain ⟨eq, b1, b2⟩ := yHalf hM el hq h1.1
      have := sNN_ok hM (sEv_sub (sEv_sub eq ed) (sEv_C 1)) h1.2
      omega
    · cases h1
theorem yEn_ok (hM : sMo ρ Γ) {le d : sL} {zl zd : Int} (el : sEv ρ le = some zl) (ed : sEv ρ d = some zd) (h : yEn Γ le d = true) : ¬ 2 * zd + 1 < zl := by
  unfold yEn at h
  rcases Bool.or_eq_true_iff.mp h with h1 | h1
  · have := sNN_ok hM (sEv_sub (sEv_add (sEv_mul 2 ed) (sEv_C 1)) el) h1
    omega
  · unfold yQ2 at h1
    split at h1
    · rename_i q hq
      rw [Bool.and_eq_true] at h1
      obtain ⟨eq, b1, b2⟩ := yHalf hM el hq h1.1
      have := sNN_ok hM (sEv_sub ed eq) h1.2
      omega
    · cases h1
theorem yTold {G : List sE} (hH : sHp ρ G H) {j n i : Nat} {f : Nat → Int32} {x : sL} {z : Int} (hf : nI2 H j n f) (h : kToldI G j i = some x) (e : sEv ρ x = some z) : f i = Int32.ofInt z := by
  obtain ⟨m, a, z', h1, h2, h3, h4⟩ := kToldI_ok hH h
  cases h3.symm.trans e
  have h1 : nI2 H j m a := h1
  rw [nI2_one hf h1]
  exact h4
theorem yShz {G : List sE} {z : Nat} {h b so le m si w : sL} (q : kShz G z = some [h, b, so, le, m, si, w]) : kToldI G 82 z = some m ∧ kToldI G 83 z = some si := by
  unfold kShz at q
  split at q
  · rename_i e1 e2 e3 e4 h1 h2 e7
    cases q
    exact ⟨h1, h2⟩
  · cases q
theorem yK12 (hg : kGh (kGP (kUP RO)) ρ γ H) {h b so le m si w : sL} (q : kHav γ 12 [h, b, so, le, m, si, w] = true) : ∃ zh zb zso zle zm zsi zw, sEv ρ h = some zh ∧ sEv ρ b = some zb ∧ sEv ρ so = some zso ∧ sEv ρ le = some zle ∧ sEv ρ m = some zm ∧ sEv ρ si = some zsi ∧ sEv ρ w = some zw ∧ kSHR zh zb zso zle zm zsi zw := by
  obtain ⟨zs, e1, e2⟩ := kHav_ok hg q (by decide)
  obtain ⟨p, q, r, s, t, u, v, rfl, h1, h2, h3, h4, h5, h6, h7⟩ := sVal_7n e1
  obtain ⟨a1, a2, a3, a4, a5, a6, a7, he, hr⟩ : ∃ a1 a2 a3 a4 a5 a6 a7, [p, q, r, s, t, u, v] = [a1, a2, a3, a4, a5, a6, a7] ∧ kSHR a1 a2 a3 a4 a5 a6 a7 := e2
  cases he
  exact ⟨_, _, _, _, _, _, _, h1, h2, h3, h4, h5, h6, h7, hr⟩
theorem yZ_ok {d : Nat} {K : kS} {R : eR} (hD : kD (kGP (kUP RO)) ρ K R) {fh fz : Nat → Int32} (h2 : nI2 R.2.2.2.1 82 6 fh) (h3 : nI2 R.2.2.2.1 83 6 fz) {z : Nat} {le : sL} (h : yZ d K z = some le) (c : sWi K.1.2.2.2.2.2.2.1 le 0 60 = true) : fh z = Int32.ofInt (-2) ∧ sEv ρ le = some (fz z).toInt := by
  have hM := hD.1
  have hH := hD.2.1.2.2.2.1
  unfold yZ at h
  split at h
  · unfold yZ0 at h
    split at h
    · rename_i h' b so le' m si w hq
      split at h
      · rename_i hc
        cases h
        simp only [Bool.and_eq_true, decide_eq_true_eq] at hc
        obtain ⟨c1, c2, c3⟩ := hc
        obtain ⟨zh, zb, zso, zle, zm, zsi, zw, eh, eb, eso, ele, em, esi, ew, hr⟩ := yK12 hD.2.2 c1
        obtain ⟨k1, k2⟩ := yShz hq
        have d1 := sK_ok hM.1 eh c2
        have d2 := sK_ok hM.1 eso c3
        have hm : zm = -2 ∧ zsi = zle := by
          rcases hr with hr | hr | hr
          · omega
          · omega
          · omega
        have v1 := yTold hH h2 k1 em
        have v2 := yTold hH h3 k2 esi
        have b := sWi_ok hM.1 ele c
        rw [hm.1] at v1
        rw [hm.2] at v2
        exact ⟨v1, by rw [ele, v2, sTo32 (by omega) (by omega)]⟩
      · cases h
    · cases h
  · unfold yZ1 at h
    split at h
    · rename_i m si hm hsi
      split at h
      · rename_i hc
        cases h
        obtain ⟨zm, em⟩ := nToldE hH hm
        obtain ⟨zs, es⟩ := nToldE hH hsi
        have d1 := sK_ok hM.1 em hc
        have v1 := yTold hH h2 hm em
        have v2 := yTold hH h3 hsi es
        have b := sWi_ok hM.1 es c
        rw [d1] at v1
        exact ⟨v1, by rw [es, v2, sTo32 (by omega) (by omega)]⟩
      · cases h
    · cases h
/-- a day's sentence -/
theorem yOT_ok {d : Nat} {K : kS} {R : eR} (hD : kD (kGP (kUP RO)) ρ K R) {g : Nat → Int64} {fh fz : Nat → Int32} (h1 : kLg 84 360 g R.2.2.2.1) (h2 : nI2 R.2.2.2.1 82 6 fh) (h3 : nI2 R.2.2.2.1 83 6 fz) {w p one f L : sL} {z : Nat} {zw zp zo zf : Int} (ew : sEv ρ w = some zw) (ep : sEv ρ p = some zp) (eo : sEv ρ one = some zo) (ef : sEv ρ f = some zf) (h : yOT d K w p one f = some (z, L)) :
    0 ≤ zo ∧ zo < zp ∧ 0 ≤ zf ∧ zf < 6 ∧ (z : Int) = zf ∧ fh zf.toNat = Int32.ofInt (-2) ∧ sEv ρ L = some (nRt g (60 * zf).toNat (fz zf.toNat).toInt zw 10 0) := by
  have hM := hD.1
  unfold yOT at h
  split at h
  · rename_i zi hzi
    have e := sK_ok hM.1 ef hzi
    subst e
    split at h
    · rename_i hc
      simp only [Bool.and_eq_true, decide_eq_true_eq] at hc
      obtain ⟨c1, c2, c3, c4⟩ := hc
      split at h
      · rename_i le hle
        split at h
        · rename_i hw
          split at h
          · rename_i x1 x2 x3 x4 L' hfa
            cases h
            obtain ⟨v1, v2⟩ := yZ_ok hD h2 h3 hle hw
            have d1 := sNN_ok hM eo c1
            have d2 := sNN_ok hM (sEv_sub (sEv_sub ep eo) (sEv_C 1)) c2
            obtain ⟨q, zs, e1, e2⟩ := nFa_ok hD.2.2 hfa (by decide) (by decide)
            have q : x1 = jB zf.toNat ∧ x2 = sC 0 ∧ x3 = le ∧ x4 = w := by simpa [tPre] using q
            obtain ⟨rfl, rfl, rfl, rfl⟩ := q
            obtain ⟨y1, y2, y3, y4, y5, rfl, f1, f2, f3, f4, f5⟩ := tVal_5 e1
            cases f1.symm.trans (jB_ev _)
            cases f2.symm.trans (sEv_C 0)
            cases f3.symm.trans v2
            cases f4.symm.trans ew
            obtain ⟨a1, a2, a3, a4, a5, he, g', hG, -, -, hR⟩ : ∃ a b c e r, [60 * ((zf.toNat : Nat) : Int), 0, (fz zf.toNat).toInt, zw, y5] = [a, b, c, e, r] ∧ nRT a b c e r R.2.2.2.1 := e2
            cases he
            cases kLg_one h1 hG
            have hz : ((zf.toNat : Nat) : Int) = zf := Int.toNat_of_nonneg c3
            rw [hz] at hR
            refine ⟨d1, by omega, c3, c4, hz, v1, ?_⟩
            rw [f5, hR]
            rfl
          · cases h
        · cases h
      · cases h
    · cases h
  · cases h
theorem yHr_ok (hM : sMo ρ Γ) (hg : kGh (kGP (kUP RO)) ρ γ H) {one p : sL} {zo zp k : Int} (eo : sEv ρ one = some zo) (ep : sEv ρ p = some zp) (h : yHr Γ γ one p = some k) : nHR zo zp k H := by
  unfold yHr at h
  split at h
  · rename_i x1 x2 r hfa
    obtain ⟨q, zs, e1, e2⟩ := nFa_ok hg hfa (by decide) (by decide)
    have q : x1 = one ∧ x2 = p := by simpa [tPre] using q
    obtain ⟨rfl, rfl⟩ := q
    obtain ⟨y1, y2, y3, rfl, f1, f2, f3⟩ := tVal_3 e1
    cases f1.symm.trans eo
    cases f2.symm.trans ep
    have := sK_ok hM.1 f3 h
    subst this
    obtain ⟨a, b, c, he, hr⟩ : ∃ a b c, [zo, zp, y3] = [a, b, c] ∧ nHR a b c H := e2
    cases he
    exact hr
  · cases h
theorem ySv_ok (hg : kGh (kGP (kUP RO)) ρ γ H) {d s0 gr v : sL} {zd zs zg : Int} (ed : sEv ρ d = some zd) (es : sEv ρ s0 = some zs) (eg : sEv ρ gr = some zg) (h : ySv γ d s0 gr = some v) : sEv ρ v = some (ySu zs zg zd) := by
  unfold ySv at h
  split at h
  · rename_i x1 x2 x3 v' hfa
    cases h
    obtain ⟨q, zq, e1, e2⟩ := nFa_ok hg hfa (by decide) (by decide)
    have q : x1 = d ∧ x2 = s0 ∧ x3 = gr := by simpa [tPre] using q
    obtain ⟨rfl, rfl, rfl⟩ := q
    obtain ⟨y1, y2, y3, y4, rfl, f1, f2, f3, f4⟩ := tVal_4 e1
    cases f1.symm.trans ed
    cases f2.symm.trans es
    cases f3.symm.trans eg
    obtain ⟨a, b, c, r, he, hr⟩ : ∃ a b c r, [zd, zs, zg, y4] = [a, b, c, r] ∧ r = (if 9999 < b + a * c then 9999 else b + a * c) := e2
    cases he
    rw [f4, hr]
    rfl
  · cases h
theorem nHR_ex {one n : Int} {f : Nat → Int32} (h : nI2 H 58 7 f) : ∃ r, nHR one n r H := by
  by_cases c : ∀ q : Nat, (q : Int) < n → (q : Int) ≠ one → nBt (f q) (Int32.ofInt one) = 0
  · exact ⟨0, f, h, Or.inl ⟨rfl, c⟩⟩
  · refine ⟨1, f, h, Or.inr ⟨rfl, ?_⟩⟩
    simp only [Classical.not_forall] at c
    obtain ⟨q, h1, h2, h3⟩ := c
    exact ⟨q, h1, h2, h3⟩
/-- what a day without a mention adds -/
theorem yStp_ok (hM : sMo ρ Γ) (hg : kGh (kGP (kUP RO)) ρ γ H) {fe : Nat → Int32} (h4 : nI2 H 58 7 fe) {hl one L p bd hf d s0 gr y : sL} {z : Nat} {zh zo zl zp zb zf zd zs zg : Int} (eh : sEv ρ hl = some zh) (eo : sEv ρ one = some zo) (eL : sEv ρ L = some zl) (ep : sEv ρ p = some zp) (eb : sEv ρ bd = some zb) (ef : sEv ρ hf = some zf) (ed : sEv ρ d = some zd) (es : sEv ρ s0 = some zs) (eg : sEv ρ gr = some zg) (h : yStp Γ γ hl one L p bd hf d s0 gr z = some y) :
    ∃ x u r, nNF zh (60 * (z : Int)) zo zl u x H ∧ nHR zo zp r H ∧ ¬ (zb ≤ x ∧ r = 1) ∧ sEv ρ y = some (ySt zb zf x r (ySu zs zg zd)) := by
  unfold yStp at h
  split at h
  · rename_i x hx
    obtain ⟨zx, u, ex, hu⟩ := jNr_ok hg eh (jB_ev z) eo eL hx
    unfold yStx at h
    split at h
    · rename_i c1
      have d1 := sNN_ok hM (sEv_sub ex eb) c1
      split at h
      · rename_i c2
        cases h
        refine ⟨zx, u, 0, hu, yHr_ok hM hg eo ep c2, fun q => by omega, ?_⟩
        unfold ySt
        rw [if_pos (by omega)]
        exact sEv_C _
      · cases h
    · split at h
      · rename_i c1
        have d1 := sNN_ok hM (sEv_sub (sEv_sub eb ex) (sEv_C 1)) c1
        split at h
        · rename_i c2
          cases h
          have d2 := sNN_ok hM (sEv_sub (sEv_sub ef ex) (sEv_C 1)) c2
          obtain ⟨r, hr⟩ := nHR_ex (one := zo) (n := zp) h4
          refine ⟨zx, u, r, hu, hr, fun q => by omega, ?_⟩
          unfold ySt
          rw [if_neg (by omega), if_neg (by omega)]
          exact sEv_C _
        · split at h
          · rename_i c2
            have d2 := sNN_ok hM (sEv_sub ex ef) c2
            unfold yHlf at h
            split at h
            · rename_i c3
              cases h
              refine ⟨zx, u, 0, hu, yHr_ok hM hg eo ep c3, fun q => by omega, ?_⟩
              unfold ySt
              rw [if_neg (by omega), if_pos (by omega), if_neg (by omega)]
              exact sEv_C _
            · split at h
              · rename_i c3
                unfold yHv at h
                split at h
                · rename_i v hv
                  split at h
                  · rename_i c4
                    have ev := ySv_ok hg ed es eg hv
                    have b := sWi_ok hM.1 ev c4
                    have ey := nDl_ok hM ev (sEv_C 2) h
                    rw [(tDv9 (k := 2) b.1 (by omega) (by omega) (by omega)).1] at ey
                    refine ⟨zx, u, 1, hu, yHr_ok hM hg eo ep c3, fun q => by omega, ?_⟩
                    unfold ySt
                    rw [if_neg (by omega), if_pos (by omega), if_pos rfl]
                    exact ey
                  · cases h
                · cases h
              · cases h
          · cases h
      · cases h
  · cases h
theorem yHit_ok (hM : sMo ρ Γ) (hg : kGh (kGP (kUP RO)) ρ γ H) {hl one L p bd : sL} {z : Nat} {zh zo zl zp zb : Int} (eh : sEv ρ hl = some zh) (eo : sEv ρ one = some zo) (eL : sEv ρ L = some zl) (ep : sEv ρ p = some zp) (eb : sEv ρ bd = some zb) (h : yHit Γ γ hl one L p bd z = true) : ∃ x u, nNF zh (60 * (z : Int)) zo zl u x H ∧ nHR zo zp 1 H ∧ zb ≤ x := by
  unfold yHit at h
  split at h
  · rename_i x hx
    obtain ⟨zx, u, ex, hu⟩ := jNr_ok hg eh (jB_ev z) eo eL hx
    rw [Bool.and_eq_true, decide_eq_true_eq] at h
    have d1 := sNN_ok hM (sEv_sub ex eb) h.1
    exact ⟨zx, u, hu, yHr_ok hM hg eo ep h.2, by omega⟩
  · cases h
theorem yDay {g : Nat → Int64} {fh fz : Nat → Int32} {zh b zl zw zp s0 gr zd zo zf x u r : Int} {z : Nat} (h0 : 0 ≤ zd) (hm : 2 * zd + 1 < zl) (e1 : zo = jW g b (2 * zd).toNat) (e2 : zf = jW g b (2 * zd + 1).toNat) (o1 : 0 ≤ zo) (o2 : zo < zp) (o3 : 0 ≤ zf) (o4 : zf < 6) (o5 : (z : Int) = zf) (o6 : fh zf.toNat = Int32.ofInt (-2)) (hu : nNF zh (60 * (z : Int)) zo (nRt g (60 * zf).toNat (fz zf.toNat).toInt zw 10 0) u x H) (hr : nHR zo zp r H) : yDy H g fh fz zh b zl zw zp s0 gr zd zo x r (ySu s0 gr zd) := by
  subst e1
  subst e2
  refine ⟨⟨h0, hm, o1, o2, o3, o4, o6⟩, rfl, ⟨u, ?_⟩, hr, rfl⟩
  rw [o5] at hu
  exact hu
theorem yNT_ok {d : Nat} {K : kS} {R : eR} (hD : kD (kGP (kUP RO)) ρ K R) {g : Nat → Int64} {fh : Nat → Int32} (h1 : kLg 84 360 g R.2.2.2.1) (h2 : nI2 R.2.2.2.1 82 6 fh) {s : Nat} (hs : s < 6) (hd : d = 0 → kHav K.2 (14 + s) [sC (-1)] = true) {p dd : sL} {zp zd zl : Int} (ep : sEv ρ p = some zp) (ed : sEv ρ dd = some zd) (h0 : 0 ≤ zd) (h29 : zd ≤ 29) (h : yNT d K p (kWv K.1.2.2.2.2.2.2 K.2 d s (sMul 2 dd) 0) (kWv K.1.2.2.2.2.2.2 K.2 d s (sAdd (sMul 2 dd) (sC 1)) 0) = true) : ¬ yOk (jW g (60 * (s : Int))) fh zl zp zd := by
  have hM := hD.1
  have hH := hD.2.1.2.2.2.1
  rintro ⟨-, -, a1, a2, a3, a4, a5⟩
  have e2 := sEv_mul (ρ := ρ) 2 ed
  have e3 := sEv_add e2 (sEv_C (ρ := ρ) 1)
  unfold yNT at h
  rcases Bool.or_eq_true_iff.mp h with h | h
  · unfold yNo at h
    split at h
    · rename_i one hone
      have eo := jEl hM hD.2.2 hs h1 hd e2 (by omega) (by omega) hone
      rcases Bool.or_eq_true_iff.mp h with h | h
      · have := sNN_ok hM (sEv_sub (sEv_C (-1)) eo) h
        omega
      · have := sNN_ok hM (sEv_sub eo ep) h
        omega
    · cases h
  · unfold yNf at h
    split at h
    · rename_i f hf
      have ef := jEl hM hD.2.2 hs h1 hd e3 (by omega) (by omega) hf
      rcases Bool.or_eq_true_iff.mp h with h | h
      · rcases Bool.or_eq_true_iff.mp h with h | h
        · have := sNN_ok hM (sEv_sub (sEv_C (-1)) ef) h
          omega
        · have := sNN_ok hM (sEv_sub ef (sEv_C 6)) h
          omega
      · split at h
        · rename_i zi hzi
          have e := sK_ok hM.1 ef hzi
          rw [Bool.and_eq_true, decide_eq_true_eq] at h
          obtain ⟨⟨b1, b2⟩, h⟩ := h
          rw [e] at a5
          split at h
          · unfold yN0 at h
            split at h
            · rename_i h' b so le m si w hq
              simp only [Bool.and_eq_true, Bool.or_eq_true, decide_eq_true_eq] at h
              obtain ⟨c1, c2, c3⟩ := h
              obtain ⟨zh, zb, zso, zle, zm, zsi, zw, eh, eb, eso, ele, em, esi, ew, hr⟩ := yK12 hD.2.2 c1
              have v1 := yTold hH h2 (yShz hq).1 em
              have bm := sWi_ok hM.1 em c2
              rw [v1] at a5
              have hm := n32i bm (by omega) a5
              rcases c3 with c3 | ⟨c3, c4⟩
              · have := sNN_ok hM (sEv_sub (sEv_C 1) eh) c3
                rcases hr with hr | hr | hr <;> omega
              · have d1 := sK_ok hM.1 eh c3
                have := sNN_ok hM (sEv_sub eso (sEv_C 1)) c4
                rcases hr with hr | hr | hr <;> omega
            · cases h
          · unfold yN1 at h
            split at h
            · rename_i m hm
              rw [Bool.and_eq_true] at h
              obtain ⟨zm, em⟩ := nToldE hH hm
              have v1 := yTold hH h2 hm em
              have bm := sWi_ok hM.1 em h.1
              rw [v1] at a5
              exact nNe_ok hM em (sEv_C (-2)) h.2 (n32i bm (by omega) a5)
            · cases h
        · cases h
    · cases h
theorem yCl_ok {K : kS} {R : eR} (hD : kD (kGP (kUP RO)) ρ K R) (h : yCl K = true) : ∃ fh fz fe, nI2 R.2.2.2.1 82 6 fh ∧ nI2 R.2.2.2.1 83 6 fz ∧ nI2 R.2.2.2.1 58 7 fe := by
  unfold yCl at h
  rw [Bool.and_eq_true, Bool.and_eq_true] at h
  obtain ⟨fh, h1⟩ : ∃ f, nI2 R.2.2.2.1 82 6 f := kSh1 hD.2.1.2.2.2.1 (by decide) rfl h.1
  obtain ⟨fz, h2⟩ : ∃ f, nI2 R.2.2.2.1 83 6 f := kSh1 hD.2.1.2.2.2.1 (by decide) rfl h.2.1
  obtain ⟨fe, h3⟩ := nEars hD.2.1.2.2.2.1 hD.2.2 h.2.2
  exact ⟨fh, fz, fe, h1, h2, h3⟩
theorem yTKi_ok (zl : Nat) : kRok RO (yTKi zl) := by
  intro K ws h ρ R hD
  unfold yTKi at h
  split at h
  · rename_i s hl b le w p bd hf s0 gr d hh hc hd1 hh1 hn
    split at h
    · rename_i hq
      cases h
      simp only [Bool.and_eq_true, decide_eq_true_eq] at hq
      obtain ⟨h6, rfl, hdk, y1, y3, y4, y5, y6, y7, y8, y9, e1, e3, e4, e5, e6, e7, e8, e9⟩ := yC_ok hD hc
      obtain ⟨f, g, q1, q2, q3⟩ := kHavEL h6 hD.2.2 (hdk rfl)
      obtain ⟨fh, fz, fe, k1, k2, k3⟩ := yCl_ok hD hq.2.2
      exact ⟨_, List.mem_singleton.mpr rfl, yAt (g := g) (fh := fh) (fz := fz) (fe := fe) (zs := [y1, 60 * (s : Int), y3, y4, y5, y6, y7, y8, y9, 0, 0]) (by decide) (by decide) (by simp only [sVal, e1, jB_ev, e3, e4, e5, e6, e7, e8, e9, sEv_C]) q2 k1 k2 k3 ⟨Int.le_refl _, rfl⟩, fun b hb => by cases hb⟩
    · cases h
  · cases h
theorem yTKb_ok (zl : Nat) : kRok RO (yTKb zl) := by
  intro K ws h ρ R hD
  have hM := hD.1
  unfold yTKb at h
  split at h
  · rename_i s hl b le w p bd hf s0 gr d hc hd1
    split at h
    · rename_i q hq
      split at h
      · rename_i hc2
        cases h
        simp only [Bool.and_eq_true] at hc2
        obtain ⟨h6, rfl, hdk, y1, y3, y4, y5, y6, y7, y8, y9, e1, e3, e4, e5, e6, e7, e8, e9⟩ := yC_ok hD hc
        obtain ⟨zd, ed⟩ := kLf_ok hD.2.1 hd1
        obtain ⟨eq, b1, b2⟩ := yHalf hM e3 hq hc2.1
        have d1 := sNN_ok hM ed hc2.2.1
        have d2 := sNN_ok hM (sEv_sub (sEv_sub eq ed) (sEv_C 1)) hc2.2.2
        refine ⟨_, List.mem_singleton.mpr rfl, fun a ha => (by cases ha), fun b hb => ?_⟩
        rcases List.mem_singleton.mp hb with rfl
        exact ⟨y3 - 2 * zd - 2, sEv_sub (sEv_sub e3 (sEv_mul 2 ed)) (sEv_C 2), show (0 : Int) ≤ y3 - 2 * zd - 2 by omega, show y3 - 2 * zd - 2 ≤ 60 by omega⟩
      · cases h
    · cases h
  · cases h
/-- what is told of a day, on either side -/
theorem yTd {d : Nat} {K : kS} {R : eR} (hD : kD (kGP (kUP RO)) ρ K R) {g : Nat → Int64} {fh fz : Nat → Int32} (h1 : kLg 84 360 g R.2.2.2.1) (h2 : nI2 R.2.2.2.1 82 6 fh) (h3 : nI2 R.2.2.2.1 83 6 fz) {s : Nat} (hs : s < 6) (hd : d = 0 → kHav K.2 (14 + s) [sC (-1)] = true) {dd one f w p L : sL} {z : Nat} {zd zw zp : Int} (ed : sEv ρ dd = some zd) (h0 : 0 ≤ zd) (h29 : zd ≤ 29) (ew : sEv ρ w = some zw) (ep : sEv ρ p = some zp) (ho : kWv K.1.2.2.2.2.2.2 K.2 d s (sMul 2 dd) 0 = some one) (hf : kWv K.1.2.2.2.2.2.2 K.2 d s (sAdd (sMul 2 dd) (sC 1)) 0 = some f) (h : yOT d K w p one f = some (z, L)) :
    ∃ zo zf, sEv ρ one = some zo ∧ zo = jW g (60 * (s : Int)) (2 * zd).toNat ∧ zf = jW g (60 * (s : Int)) (2 * zd + 1).toNat ∧ 0 ≤ zo ∧ zo < zp ∧ 0 ≤ zf ∧ zf < 6 ∧ (z : Int) = zf ∧ fh zf.toNat = Int32.ofInt (-2) ∧ sEv ρ L = some (nRt g (60 * zf).toNat (fz zf.toNat).toInt zw 10 0) := by
  have hM := hD.1
  have e2 := sEv_mul (ρ := ρ) 2 ed
  have e3 := sEv_add e2 (sEv_C (ρ := ρ) 1)
  have eo := jEl hM hD.2.2 hs h1 hd e2 (by omega) (by omega) ho
  have ef := jEl hM hD.2.2 hs h1 hd e3 (by omega) (by omega) hf
  obtain ⟨a1, a2, a3, a4, a5, a6, a7⟩ := yOT_ok hD h1 h2 h3 ew ep eo ef h
  exact ⟨_, _, eo, rfl, rfl, a1, a2, a3, a4, a5, a6, a7⟩
theorem yTKs_ok (zl : Nat) : kRok RO (yTKs zl) := by
  intro K ws h ρ R hD
  have hM := hD.1
  unfold yTKs at h
  split at h
  · rename_i s hl b le w p bd hf s0 gr d hh hc hd1 hh1
    split at h
    · rename_i x1 x2 x3 x4 x5 x6 x7 x8 x9 x10 h0 one f hfa hone hff
      split at h
      · rename_i z L hot
        split at h
        · rename_i y hy
          split at h
          · rename_i hq
            cases h
            simp only [Bool.and_eq_true, decide_eq_true_eq] at hq
            obtain ⟨c1, c2, rfl⟩ := hq
            obtain ⟨h6, rfl, hdk, y1, y3, y4, y5, y6, y7, y8, y9, e1, e3, e4, e5, e6, e7, e8, e9⟩ := yC_ok hD hc
            obtain ⟨zd, ed⟩ := kLf_ok hD.2.1 hd1
            have ed0 := sEv_sub ed (sEv_C (ρ := ρ) 1)
            have d0 := sNN_ok hM ed0 c1
            obtain ⟨m1, m2⟩ := yMo_ok hM e3 ed0 c2
            obtain ⟨q, zs, e, g, fh, fz, fe, k1, k2, k3, k4, hP⟩ := yFa hD.2.2 hfa (by decide) (by decide)
            have q : x1 = hl ∧ x2 = jB s ∧ x3 = le ∧ x4 = w ∧ x5 = p ∧ x6 = bd ∧ x7 = hf ∧ x8 = s0 ∧ x9 = gr ∧ x10 = sSub d (sC 1) := by simpa [tPre] using q
            obtain ⟨rfl, rfl, rfl, rfl, rfl, rfl, rfl, rfl, rfl, rfl⟩ := q
            obtain ⟨u1, u2, u3, u4, u5, u6, u7, u8, u9, ur, rfl, ⟨f1, f2, f3, f4, f5, f6, f7, f8, f9⟩, er⟩ := yVal_9p e
            obtain ⟨u10, u11, rfl, f10, f11⟩ := sVal_2 er
            cases f1.symm.trans e1
            cases f2.symm.trans (jB_ev s)
            cases f3.symm.trans e3
            cases f4.symm.trans e4
            cases f5.symm.trans e5
            cases f6.symm.trans e6
            cases f7.symm.trans e7
            cases f8.symm.trans e8
            cases f9.symm.trans e9
            cases f10.symm.trans ed0
            obtain ⟨-, hF⟩ : 0 ≤ zd - 1 ∧ yF (yDy R.2.2.2.1 g fh fz y1 (60 * (s : Int)) y3 y4 y5 y8 y9) y6 y7 (zd - 1).toNat u11 := hP
            obtain ⟨zo, zf, eo, o1, o2, o3, o4, o5, o6, o7, o8, eL⟩ := yTd hD k1 k2 k3 h6 hdk ed0 d0 m2 e4 e5 hone hff hot
            obtain ⟨x, u, r, hu, hr, hn, ey⟩ := yStp_ok hM hD.2.2 k4 e1 eo eL e5 e6 e7 ed0 e8 e9 hy
            have hDy := yDay (s0 := y8) (gr := y9) d0 m1 o1 o2 o3 o4 o5 o6 o7 o8 hu hr
            have hs := yF_s d0 hF hDy hn
            rw [show zd - 1 + 1 = zd by omega] at hs
            have eh := sEv_add f11 ey
            exact ⟨_, List.mem_singleton.mpr rfl, yAt (g := g) (fh := fh) (fz := fz) (fe := fe) (zs := [y1, 60 * (s : Int), y3, y4, y5, y6, y7, y8, y9, zd, u11 + ySt y6 y7 x r (ySu y8 y9 (zd - 1))]) (by decide) (by decide) (by simp only [sVal, e1, jB_ev, e3, e4, e5, e6, e7, e8, e9, ed, eh]) k1 k2 k3 k4 ⟨by omega, hs⟩, fun b hb => by cases hb⟩
          · cases h
        · cases h
      · cases h
    · cases h
  · cases h
theorem yHa_ok {d : Nat} {K : kS} {R : eR} (hD : kD (kGP (kUP RO)) ρ K R) {g : Nat → Int64} {fh fz : Nat → Int32} (h1 : kLg 84 360 g R.2.2.2.1) (h2 : nI2 R.2.2.2.1 82 6 fh) (h3 : nI2 R.2.2.2.1 83 6 fz) {s : Nat} (hs : s < 6) (hd : d = 0 → kHav K.2 (14 + s) [sC (-1)] = true) {dd hl w p bd : sL} {zd zh zl zw zp zb s0 gr : Int} (ed : sEv ρ dd = some zd) (h0 : 0 ≤ zd) (hm : 2 * zd + 1 < zl) (h29 : zd ≤ 29) (eh : sEv ρ hl = some zh) (ew : sEv ρ w = some zw) (ep : sEv ρ p = some zp) (eb : sEv ρ bd = some zb)
    (h : yHa d K hl w p bd (kWv K.1.2.2.2.2.2.2 K.2 d s (sMul 2 dd) 0) (kWv K.1.2.2.2.2.2.2 K.2 d s (sAdd (sMul 2 dd) (sC 1)) 0) = true) : ∃ one zo x, kWv K.1.2.2.2.2.2.2 K.2 d s (sMul 2 dd) 0 = some one ∧ sEv ρ one = some zo ∧ yDy R.2.2.2.1 g fh fz zh (60 * (s : Int)) zl zw zp s0 gr zd zo x 1 (ySu s0 gr zd) ∧ zb ≤ x := by
  unfold yHa at h
  split at h
  · rename_i one f ho hf
    split at h
    · rename_i z L hot
      obtain ⟨zo, zf, eo, o1, o2, o3, o4, o5, o6, o7, o8, eL⟩ := yTd hD h1 h2 h3 hs hd ed h0 h29 ew ep ho hf hot
      obtain ⟨x, u, hu, hr, hx⟩ := yHit_ok hD.1 hD.2.2 eh eo eL ep eb h
      exact ⟨one, zo, x, ho, eo, yDay h0 hm o1 o2 o3 o4 o5 o6 o7 o8 hu hr, hx⟩
    · cases h
  · cases h
theorem yAs_ok (hM : sMo ρ Γ) {w h r : sL} {zw zh : Int} (ew : sEv ρ w = some zw) (eh : sEv ρ h = some zh) (q : yAs Γ w h r = true) : sEv ρ r = some (if zw = 3 then zh else -2) := by
  unfold yAs at q
  simp only [Bool.or_eq_true, Bool.and_eq_true, decide_eq_true_eq] at q
  rcases q with ⟨q1, rfl⟩ | ⟨rfl, q⟩
  · have := sK_ok hM.1 ew q1
    rw [if_pos this]
    exact eh
  · have : ¬ zw = 3 := by
      rcases q with q | q
      · have := sNN_ok hM (sEv_sub (sEv_C 2) ew) q
        omega
      · exact nNe_ok hM ew (sEv_C 3) q
    rw [if_neg this]
    exact sEv_C _
theorem yTKe_ok (zl : Nat) : kRok RO (yTKe zl) := by
  intro K ws h ρ R hD
  have hM := hD.1
  unfold yTKe at h
  split at h
  · rename_i s hl b le w p bd hf s0 gr d hh wh r hc hd1 hh1 hw1 hr1
    split at h
    · rename_i hq
      cases h
      simp only [Bool.and_eq_true] at hq
      obtain ⟨c1, c2, c3⟩ := hq
      obtain ⟨h6, rfl, hdk, y1, y3, y4, y5, y6, y7, y8, y9, e1, e3, e4, e5, e6, e7, e8, e9⟩ := yC_ok hD hc
      obtain ⟨zd, ed⟩ := kLf_ok hD.2.1 hd1
      obtain ⟨zwh, ewh⟩ := kLf_ok hD.2.1 hw1
      have d0 := sNN_ok hM ed c2
      obtain ⟨zs, e, g, fh, fz, fe, k1, k2, k3, k4, hP⟩ := yHv_ hD.2.2 c1 (by decide) (by decide)
      obtain ⟨u1, u2, u3, u4, u5, u6, u7, u8, u9, ur, rfl, ⟨f1, f2, f3, f4, f5, f6, f7, f8, f9⟩, er⟩ := yVal_9p e
      obtain ⟨u10, u11, rfl, f10, f11⟩ := sVal_2 er
      cases f1.symm.trans e1
      cases f2.symm.trans (jB_ev s)
      cases f3.symm.trans e3
      cases f4.symm.trans e4
      cases f5.symm.trans e5
      cases f6.symm.trans e6
      cases f7.symm.trans e7
      cases f8.symm.trans e8
      cases f9.symm.trans e9
      cases f10.symm.trans ed
      obtain ⟨-, hF⟩ : 0 ≤ zd ∧ yF (yDy R.2.2.2.1 g fh fz y1 (60 * (s : Int)) y3 y4 y5 y8 y9) y6 y7 zd.toNat u11 := hP
      have fin : ∀ {zr : Int}, sEv ρ r = some zr → yX (yDy R.2.2.2.1 g fh fz y1 (60 * (s : Int)) y3 y4 y5 y8 y9) (fun d => ¬ yOk (jW g (60 * (s : Int))) fh y3 y5 d) y6 y7 zwh zr → ∃ p_1 ∈ [(([(154, [hl, jB s, le, w, p, bd, hf, s0, gr, wh, r])], []) : List kA × List (sL × Int × Int))], kGh (kGP (kUP RO)) ρ p_1.1 R.2.2.2.1 ∧ ∀ b ∈ p_1.2, ∃ z, sEv ρ b.1 = some z ∧ b.2.1 ≤ z ∧ z ≤ b.2.2 := fun {zr} er q => ⟨_, List.mem_singleton.mpr rfl, yAt (g := g) (fh := fh) (fz := fz) (fe := fe) (zs := [y1, 60 * (s : Int), y3, y4, y5, y6, y7, y8, y9, zwh, zr]) (by decide) (by decide) (by simp only [sVal, e1, jB_ev, e3, e4, e5, e6, e7, e8, e9, ewh, er]) k1 k2 k3 k4 q, fun b hb => by cases hb⟩
      unfold yEd at c3
      split at c3
      · rename_i hmo
        obtain ⟨m1, m2⟩ := yMo_ok hM e3 ed hmo
        split at c3
        · rename_i hha
          obtain ⟨one, zo, x, ho, eo, hDy, hx⟩ := yHa_ok (s0 := y8) (gr := y9) hD k1 k2 k3 h6 hdk ed d0 m1 m2 e1 e4 e5 e6 hha
          unfold yAn at c3
          simp only [Bool.or_eq_true, Bool.and_eq_true, decide_eq_true_eq] at c3
          rcases c3 with ⟨q1, rfl⟩ | ⟨q1, q2⟩ | ⟨q1, q2⟩ | ⟨q1, rfl⟩
          · have := sK_ok hM.1 ewh q1
            exact fin ed (Or.inl ⟨zd, zo, u11, x, _, d0, hF, hDy, hx, by rw [if_pos this]⟩)
          · have := sK_ok hM.1 ewh q1
            rw [ho] at q2
            cases q2
            exact fin eo (Or.inl ⟨zd, zo, u11, x, _, d0, hF, hDy, hx, by rw [if_neg (by omega), if_pos this]⟩)
          · have := sK_ok hM.1 ewh q1
            exact fin (ySv_ok hD.2.2 ed e8 e9 q2) (Or.inl ⟨zd, zo, u11, x, _, d0, hF, hDy, hx, by rw [if_neg (by omega), if_neg (by omega), if_pos this]⟩)
          · have := sK_ok hM.1 ewh q1
            exact fin f11 (Or.inl ⟨zd, zo, u11, x, _, d0, hF, hDy, hx, by rw [if_neg (by omega), if_neg (by omega), if_neg (by omega)]⟩)
        · rw [Bool.and_eq_true] at c3
          exact fin (yAs_ok hM ewh f11 c3.2) (Or.inr ⟨zd, u11, d0, hF, yNT_ok hD k1 k2 h6 hdk e5 ed d0 m2 c3.1, rfl⟩)
      · rw [Bool.and_eq_true] at c3
        have hen := yEn_ok hM e3 ed c3.1
        exact fin (yAs_ok hM ewh f11 c3.2) (Or.inr ⟨zd, u11, d0, hF, fun q => hen q.2.1, rfl⟩)
    · cases h
  · cases h
theorem yTMi_ok (zh zw zp zd zo zv : Nat) : kRok RO (yTMi zh zw zp zd zo zv) := by
  intro K ws h ρ R hD
  unfold yTMi at h
  split at h
  · rename_i s hl b le w p bd hf s0 gr d td tw hh hc hd1 ht1 ht2 hh1 hn
    split at h
    · rename_i hq
      cases h
      simp only [Bool.and_eq_true, decide_eq_true_eq] at hq
      obtain ⟨-, -, -, -, q5, q6⟩ := hq
      obtain ⟨h6, rfl, hdk, y1, y3, y4, y5, y6, y7, y8, y9, e1, e3, e4, e5, e6, e7, e8, e9⟩ := yC_ok hD hc
      obtain ⟨g, hG⟩ := kLz_ok hD.2.1.2.2.2.1 q6
      obtain ⟨fh, fz, fe, k1, k2, k3⟩ := yCl_ok hD q5
      exact ⟨_, List.mem_singleton.mpr rfl, yAt (g := g) (fh := fh) (fz := fz) (fe := fe) (zs := [y1, 60 * (s : Int), y3, y4, y5, y6, y7, y8, y9, 0, -2, -2, 0]) (by decide) (by decide) (by simp only [sVal, e1, jB_ev, e3, e4, e5, e6, e7, e8, e9, sEv_C]) hG k1 k2 k3 ⟨Int.le_refl _, Or.inl ⟨rfl, rfl, rfl⟩⟩, fun b hb => by cases hb⟩
    · cases h
  · cases h
theorem yTMb_ok (zh zw zp : Nat) : kRok RO (yTMb zh zw zp) := by
  intro K ws h ρ R hD
  have hM := hD.1
  unfold yTMb at h
  split at h
  · rename_i s hl b le w p bd hf s0 gr d hc hd1
    split at h
    · rename_i hq
      cases h
      simp only [Bool.and_eq_true] at hq
      obtain ⟨h6, rfl, hdk, y1, y3, y4, y5, y6, y7, y8, y9, e1, e3, e4, e5, e6, e7, e8, e9⟩ := yC_ok hD hc
      obtain ⟨zd, ed⟩ := kLf_ok hD.2.1 hd1
      have d1 := sNN_ok hM ed hq.1
      have d2 := sWi_ok hM.1 e3 hq.2.1
      have d3 := sNN_ok hM (sEv_sub (sEv_sub e3 (sEv_mul 2 ed)) (sEv_C 2)) hq.2.2
      refine ⟨_, List.mem_singleton.mpr rfl, fun a ha => (by cases ha), fun b hb => ?_⟩
      rcases List.mem_singleton.mp hb with rfl
      exact ⟨zd, ed, show (0 : Int) ≤ zd by omega, show zd ≤ 29 by omega⟩
    · cases h
  · cases h
theorem yRTi_ok (zw : Nat) : nRok RO (yRTi zw) := by
  intro K ws h ρ R hD
  have hM := hD.1
  unfold yRTi at h
  split at h
  · rename_i f w hf hw
    split at h
    · rename_i zi hzi
      split at h
      · rename_i hr
        have hr := of_decide_eq_true hr
        split at h
        · rename_i le hle
          split at h
          · rename_i hc
            cases h
            rw [Bool.and_eq_true] at hc
            obtain ⟨g, hG⟩ := kLz_ok hD.2.1.2.2.2.1 hc.2
            obtain ⟨yl, el⟩ := nToldE hD.2.1.2.2.2.1 hle
            obtain ⟨yw, ew⟩ := nFf_ok hD.2.1.2.2.2.1 hw
            have hb : (60 * ((zi.toNat : Nat) : Int)).toNat = 60 * zi.toNat := by omega
            have hrr := nRt_r (g := g) (base := 60 * zi.toNat) (le := yl) (w := yw) 10 0
            have hpre : ρ <+: ρ ++ [nRt g (60 * zi.toNat) yl yw 10 0] := ⟨_, rfl⟩
            have hlen : K.1.2.2.2.2.2.2.1.length = ρ.length := hD.1.1.1
            have ex : sEv (ρ ++ [nRt g (60 * zi.toNat) yl yw 10 0]) (sX K.1.2.2.2.2.2.2.1.length) = some (nRt g (60 * zi.toNat) yl yw 10 0) := sEv_X (by rw [hlen]; simp)
            have l' := sEv_mono hpre el
            have w' := sEv_mono hpre ew
            refine ⟨_, List.mem_singleton.mpr rfl, [nRt g (60 * zi.toNat) yl yw 10 0], ⟨_, rfl, hrr.1, hrr.2⟩, kAt1 (zs := [60 * ((zi.toNat : Nat) : Int), 0, yl, yw, nRt g (60 * zi.toNat) yl yw 10 0]) (by decide) (by simp only [sVal, jB_ev, sEv_C, l', w', ex]) ((kUPn (by decide)).mpr ⟨_, _, _, _, _, rfl, g, hG, by omega, Int.le_refl _, by rw [hb]; rfl⟩), fun b hb => by cases hb⟩
          · cases h
        · cases h
      · cases h
    · cases h
  · cases h
theorem yTMs_ok (zh zw zp zd zo zv : Nat) : kRok RO (yTMs zh zw zp zd zo zv) := by
  intro K ws h ρ R hD
  have hM := hD.1
  unfold yTMs at h
  split at h
  · rename_i s hl b le w p bd hf s0 gr d td tw hh hc hd1 ht1 ht2 hh1
    split at h
    · rename_i x1 x2 x3 x4 x5 x6 x7 x8 x9 x10 td0 tw0 h0 one f hfa hone hff
      split at h
      · rename_i z L hot
        split at h
        · rename_i hq
          cases h
          simp only [Bool.and_eq_true] at hq
          obtain ⟨c0, c1, c2, c3⟩ := hq
          obtain ⟨h6, rfl, hdk, y1, y3, y4, y5, y6, y7, y8, y9, e1, e3, e4, e5, e6, e7, e8, e9⟩ := yC_ok hD hc
          obtain ⟨zd', ed⟩ := kLf_ok hD.2.1 hd1
          have ed0 := sEv_sub ed (sEv_C (ρ := ρ) 1)
          have d0 := sNN_ok hM ed0 c1
          obtain ⟨m1, m2⟩ := yMo_ok hM e3 ed0 c2
          obtain ⟨q, zs, e, g, fh, fz, fe, k1, k2, k3, k4, hP⟩ := yFa hD.2.2 hfa (by decide) (by decide)
          have q : x1 = hl ∧ x2 = jB s ∧ x3 = le ∧ x4 = w ∧ x5 = p ∧ x6 = bd ∧ x7 = hf ∧ x8 = s0 ∧ x9 = gr ∧ x10 = sSub d (sC 1) := by simpa [tPre] using q
          obtain ⟨rfl, rfl, rfl, rfl, rfl, rfl, rfl, rfl, rfl, rfl⟩ := q
          obtain ⟨u1, u2, u3, u4, u5, u6, u7, u8, u9, ur, rfl, ⟨f1, f2, f3, f4, f5, f6, f7, f8, f9⟩, er⟩ := yVal_9p e
          obtain ⟨u10, u11, u12, u13, rfl, f10, f11, f12, f13⟩ := tVal_4 er
          cases f1.symm.trans e1
          cases f2.symm.trans (jB_ev s)
          cases f3.symm.trans e3
          cases f4.symm.trans e4
          cases f5.symm.trans e5
          cases f6.symm.trans e6
          cases f7.symm.trans e7
          cases f8.symm.trans e8
          cases f9.symm.trans e9
          cases f10.symm.trans ed0
          obtain ⟨-, hF⟩ : yM (yDy R.2.2.2.1 g fh fz y1 (60 * (s : Int)) y3 y4 y5 y8 y9) y6 y7 (zd' - 1) u11 u12 u13 := hP
          have hneg := sNN_ok hM (sEv_sub (sEv_C (-1)) f11) c0
          have hF : u11 = -2 ∧ u12 = -2 ∧ yF (yDy R.2.2.2.1 g fh fz y1 (60 * (s : Int)) y3 y4 y5 y8 y9) y6 y7 (zd' - 1).toNat u13 := by
            rcases hF with hF | hF
            · exact hF
            · omega
          obtain ⟨zo', zf, eo, o1, o2, o3, o4, o5, o6, o7, o8, eL⟩ := yTd hD k1 k2 k3 h6 hdk ed0 d0 m2 e4 e5 hone hff hot
          have fin : ∀ {a1 a2 a3 : Int}, sEv ρ td = some a1 → sEv ρ tw = some a2 → sEv ρ hh = some a3 → yM (yDy R.2.2.2.1 g fh fz y1 (60 * (s : Int)) y3 y4 y5 y8 y9) y6 y7 zd' a1 a2 a3 → ∃ p_1 ∈ [(([(155, [x1, jB s, x3, x4, x5, x6, x7, x8, x9, d, td, tw, hh])], []) : List kA × List (sL × Int × Int))], kGh (kGP (kUP RO)) ρ p_1.1 R.2.2.2.1 ∧ ∀ b ∈ p_1.2, ∃ z, sEv ρ b.1 = some z ∧ b.2.1 ≤ z ∧ z ≤ b.2.2 := fun {a1 a2 a3} g1 g2 g3 q => ⟨_, List.mem_singleton.mpr rfl, yAt (g := g) (fh := fh) (fz := fz) (fe := fe) (zs := [y1, 60 * (s : Int), y3, y4, y5, y6, y7, y8, y9, zd', a1, a2, a3]) (by decide) (by decide) (by simp only [sVal, e1, jB_ev, e3, e4, e5, e6, e7, e8, e9, ed, g1, g2, g3]) k1 k2 k3 k4 q, fun b hb => by cases hb⟩
          unfold yTMc at c3
          split at c3
          · rename_i hhit
            simp only [Bool.and_eq_true, decide_eq_true_eq] at c3
            obtain ⟨rfl, rfl, rfl⟩ := c3
            obtain ⟨x, u, hu, hr, hx⟩ := yHit_ok hM hD.2.2 e1 eo eL e5 e6 hhit
            have hDy := yDay (s0 := y8) (gr := y9) d0 m1 o1 o2 o3 o4 o5 o6 o7 o8 hu hr
            exact fin ed0 eo f13 ⟨by omega, Or.inr ⟨d0, x, _, hF.2.2, hDy, hx⟩⟩
          · split at c3
            · rename_i y hy
              simp only [Bool.and_eq_true, decide_eq_true_eq] at c3
              obtain ⟨rfl, rfl, rfl⟩ := c3
              obtain ⟨x, u, r, hu, hr, hn, ey⟩ := yStp_ok hM hD.2.2 k4 e1 eo eL e5 e6 e7 ed0 e8 e9 hy
              have hDy := yDay (s0 := y8) (gr := y9) d0 m1 o1 o2 o3 o4 o5 o6 o7 o8 hu hr
              have hs := yF_s d0 hF.2.2 hDy hn
              rw [show zd' - 1 + 1 = zd' by omega] at hs
              exact fin f11 f12 (sEv_add f13 ey) ⟨by omega, Or.inl ⟨hF.1, hF.2.1, hs⟩⟩
            · cases c3
        · cases h
      · cases h
    · cases h
  · cases h
theorem yTMe_ok (zh zw zp zd zo zv : Nat) : kRok RO (yTMe zh zw zp zd zo zv) := by
  intro K ws h ρ R hD
  have hM := hD.1
  unfold yTMe at h
  split at h
  · rename_i s hl b le w p bd hf s0 gr d td tw hh hc hd1 ht1 ht2 hh1
    split at h
    · rename_i hq
      cases h
      rw [Bool.and_eq_true] at hq
      obtain ⟨c1, c2⟩ := hq
      obtain ⟨h6, rfl, hdk, y1, y3, y4, y5, y6, y7, y8, y9, e1, e3, e4, e5, e6, e7, e8, e9⟩ := yC_ok hD hc
      obtain ⟨zs, e, g, fh, fz, fe, k1, k2, k3, k4, hP⟩ := yHv_ hD.2.2 c1 (by decide) (by decide)
      obtain ⟨u1, u2, u3, u4, u5, u6, u7, u8, u9, ur, rfl, ⟨f1, f2, f3, f4, f5, f6, f7, f8, f9⟩, er⟩ := yVal_9p e
      obtain ⟨u10, u11, u12, u13, rfl, f10, f11, f12, f13⟩ := tVal_4 er
      cases f1.symm.trans e1
      cases f2.symm.trans (jB_ev s)
      cases f3.symm.trans e3
      cases f4.symm.trans e4
      cases f5.symm.trans e5
      cases f6.symm.trans e6
      cases f7.symm.trans e7
      cases f8.symm.trans e8
      cases f9.symm.trans e9
      obtain ⟨p0, hF⟩ : yM (yDy R.2.2.2.1 g fh fz y1 (60 * (s : Int)) y3 y4 y5 y8 y9) y6 y7 u10 u11 u12 u13 := hP
      refine ⟨_, List.mem_singleton.mpr rfl, yAt (g := g) (fh := fh) (fz := fz) (fe := fe) (zs := [y1, 60 * (s : Int), y3, y4, y5, y6, y7, y8, y9, u11, u12, u13]) (by decide) (by decide) (by simp only [sVal, e1, jB_ev, e3, e4, e5, e6, e7, e8, e9, f11, f12, f13]) k1 k2 k3 k4 ?_, fun b hb => by cases hb⟩
      show yR (yDy R.2.2.2.1 g fh fz y1 (60 * (s : Int)) y3 y4 y5 y8 y9) (fun d => ¬ yOk (jW g (60 * (s : Int))) fh y3 y5 d) y6 y7 u11 u12 u13
      rcases hF with ⟨q1, q2, q3⟩ | hF
      · rcases Bool.or_eq_true_iff.mp c2 with c2 | c2
        · have := sNN_ok hM f11 c2
          omega
        · rw [Bool.and_eq_true] at c2
          have d0 := sNN_ok hM f10 c2.1
          refine Or.inl ⟨q1, q2, u10, d0, q3, ?_⟩
          rcases Bool.or_eq_true_iff.mp c2.2 with c3 | c3
          · have hen := yEn_ok hM e3 f10 c3
            exact fun q => hen q.2.1
          · rw [Bool.and_eq_true] at c3
            obtain ⟨m1, m2⟩ := yMo_ok hM e3 f10 c3.1
            exact yNT_ok hD k1 k2 h6 hdk e5 f10 d0 m2 c3.2
      · exact Or.inr hF
    · cases h
  · cases h
theorem yTMx_ok (zh zw zp zd zo zv : Nat) : kRok RO (yTMx zh zw zp zd zo zv) := by
  intro K ws h ρ R hD
  have hM := hD.1
  unfold yTMx at h
  split at h
  · rename_i s hl b le w p bd hf s0 gr wh td tw hh r hc hd1 ht1 ht2 hh1 hr1
    split at h
    · rename_i hq
      cases h
      rw [Bool.and_eq_true] at hq
      obtain ⟨c1, c2⟩ := hq
      obtain ⟨h6, rfl, hdk, y1, y3, y4, y5, y6, y7, y8, y9, e1, e3, e4, e5, e6, e7, e8, e9⟩ := yC_ok hD hc
      obtain ⟨zwh, ewh⟩ := kLf_ok hD.2.1 hd1
      obtain ⟨zs, e, g, fh, fz, fe, k1, k2, k3, k4, hP⟩ := yHv_ hD.2.2 c1 (by decide) (by decide)
      obtain ⟨u1, u2, u3, u4, u5, u6, u7, u8, u9, ur, rfl, ⟨f1, f2, f3, f4, f5, f6, f7, f8, f9⟩, er⟩ := yVal_9p e
      obtain ⟨u11, u12, u13, rfl, f11, f12, f13⟩ := tVal_3 er
      cases f1.symm.trans e1
      cases f2.symm.trans (jB_ev s)
      cases f3.symm.trans e3
      cases f4.symm.trans e4
      cases f5.symm.trans e5
      cases f6.symm.trans e6
      cases f7.symm.trans e7
      cases f8.symm.trans e8
      cases f9.symm.trans e9
      have hF : yR (yDy R.2.2.2.1 g fh fz y1 (60 * (s : Int)) y3 y4 y5 y8 y9) (fun d => ¬ yOk (jW g (60 * (s : Int))) fh y3 y5 d) y6 y7 u11 u12 u13 := hP
      have fin : ∀ {zr : Int}, sEv ρ r = some zr → yX (yDy R.2.2.2.1 g fh fz y1 (60 * (s : Int)) y3 y4 y5 y8 y9) (fun d => ¬ yOk (jW g (60 * (s : Int))) fh y3 y5 d) y6 y7 zwh zr → ∃ p_1 ∈ [(([(154, [hl, jB s, le, w, p, bd, hf, s0, gr, wh, r])], []) : List kA × List (sL × Int × Int))], kGh (kGP (kUP RO)) ρ p_1.1 R.2.2.2.1 ∧ ∀ b ∈ p_1.2, ∃ z, sEv ρ b.1 = some z ∧ b.2.1 ≤ z ∧ z ≤ b.2.2 := fun {zr} er q => ⟨_, List.mem_singleton.mpr rfl, yAt (g := g) (fh := fh) (fz := fz) (fe := fe) (zs := [y1, 60 * (s : Int), y3, y4, y5, y6, y7, y8, y9, zwh, zr]) (by decide) (by decide) (by simp only [sVal, e1, jB_ev, e3, e4, e5, e6, e7, e8, e9, ewh, er]) k1 k2 k3 k4 q, fun b hb => by cases hb⟩
      have hit : 0 ≤ u11 → ∃ x v, yF (yDy R.2.2.2.1 g fh fz y1 (60 * (s : Int)) y3 y4 y5 y8 y9) y6 y7 u11.toNat u13 ∧ yDy R.2.2.2.1 g fh fz y1 (60 * (s : Int)) y3 y4 y5 y8 y9 u11 u12 x 1 v ∧ y6 ≤ x := fun q => by
        rcases hF with hF | hF
        · omega
        · exact hF.2
      unfold yAx at c2
      simp only [Bool.or_eq_true, Bool.and_eq_true, decide_eq_true_eq] at c2
      rcases c2 with ⟨q1, rfl⟩ | ⟨q1, rfl, q2⟩ | ⟨q1, q2⟩
      · have h3 := sK_ok hM.1 ewh q1
        refine fin f13 ?_
        rcases hF with ⟨a1, a2, d, a3, a4, a5⟩ | ⟨a1, x, v, a2, a3, a4⟩
        · exact Or.inr ⟨d, u13, a3, a4, a5, by rw [if_pos h3]⟩
        · exact Or.inl ⟨u11, u12, u13, x, v, a1, a2, a3, a4, by rw [if_neg (by omega), if_neg (by omega), if_neg (by omega)]⟩
      · have hneg := sNN_ok hM (sEv_sub (sEv_C (-1)) f11) q1
        refine fin f11 ?_
        rcases hF with ⟨a1, a2, d, a3, a4, a5⟩ | ⟨a1, -⟩
        · have : ¬ zwh = 3 := by
            rcases q2 with q2 | q2
            · have := sNN_ok hM (sEv_sub (sEv_C 2) ewh) q2
              omega
            · exact nNe_ok hM ewh (sEv_C 3) q2
          exact Or.inr ⟨d, u13, a3, a4, a5, by rw [if_neg this]; exact a1⟩
        · omega
      · have h0 := sNN_ok hM f11 q1
        obtain ⟨x, v, a2, a3, a4⟩ := hit h0
        rcases q2 with ⟨q2, rfl⟩ | ⟨q2, rfl⟩ | ⟨q2, q3⟩
        · have := sK_ok hM.1 ewh q2
          exact fin f11 (Or.inl ⟨u11, u12, u13, x, v, h0, a2, a3, a4, by rw [if_pos this]⟩)
        · have := sK_ok hM.1 ewh q2
          exact fin f12 (Or.inl ⟨u11, u12, u13, x, v, h0, a2, a3, a4, by rw [if_neg (by omega), if_pos this]⟩)
        · have := sK_ok hM.1 ewh q2
          refine fin (ySv_ok hD.2.2 f11 e8 e9 q3) (Or.inl ⟨u11, u12, u13, x, v, h0, a2, a3, a4, ?_⟩)
          rw [if_neg (by omega), if_neg (by omega), if_pos this]
          exact a3.2.2.2.2.symm
    · cases h
  · cases h
theorem yDy_one {g : Nat → Int64} {fh fz : Nat → Int32} {hl b le w p s0 gr : Int} {d o x r v o' x' r' v' : Int} (a : yDy H g fh fz hl b le w p s0 gr d o x r v) (c : yDy H g fh fz hl b le w p s0 gr d o' x' r' v') : o = o' ∧ x = x' ∧ r = r' ∧ v = v' := by
  obtain ⟨-, rfl, ⟨u, g1, p1, -, -, p2⟩, a3, rfl⟩ := a
  obtain ⟨-, rfl, ⟨u', g2, q1, -, -, q2⟩, c3, rfl⟩ := c
  cases kLg_one p1 q1
  refine ⟨rfl, (nFd_one _ p2 q2).2, ?_, rfl⟩
  exact nFun (k := 92) (by decide) (zs := [_, _]) (show nUP 92 [_, _, _] H from ⟨_, _, _, rfl, a3⟩) (show nUP 92 [_, _, _] H from ⟨_, _, _, rfl, c3⟩)
theorem yFun {zs : List Int} {r r' : Int} (h : nUP 154 (zs ++ [r]) H) (h' : nUP 154 (zs ++ [r']) H) : r = r' := by
  obtain ⟨g, fh, fz, fe, a1, a2, a3, a4, p⟩ := (yUPi (by decide)).mp h
  obtain ⟨g', fh', fz', fe', b1, b2, b3, b4, q⟩ := (yUPi (by decide)).mp h'
  cases kLg_one a1 b1
  obtain rfl := nI2_one b2 a2
  obtain rfl := nI2_one b3 a3
  match zs, p, q with
  | [x1, x2, x3, x4, x5, x6, x7, x8, x9, x10], p, q => exact yX_one (D := yDy H g fh' fz' x1 x2 x3 x4 x5 x8 x9) (fun p q => yDy_one p q) (fun p n => n p.1) (show yX (yDy H g fh' fz' x1 x2 x3 x4 x5 x8 x9) (fun d => ¬ yOk (jW g x2) fh' x3 x5 d) x6 x7 x10 r from p) (show yX (yDy H g fh' fz' x1 x2 x3 x4 x5 x8 x9) (fun d => ¬ yOk (jW g x2) fh' x3 x5 d) x6 x7 x10 r' from q)
  | [], p, _ => exact False.elim p
  | [_], p, _ => exact False.elim p
  | [_, _], p, _ => exact False.elim p
  | [_, _, _], p, _ => exact False.elim p
  | [_, _, _, _], p, _ => exact False.elim p
  | [_, _, _, _, _], p, _ => exact False.elim p
  | [_, _, _, _, _, _], p, _ => exact False.elim p
  | [_, _, _, _, _, _, _], p, _ => exact False.elim p
  | [_, _, _, _, _, _, _, _], p, _ => exact False.elim p
  | [_, _, _, _, _, _, _, _, _], p, _ => exact False.elim p
  | [_, _, _, _, _, _, _, _, _, _, _], p, _ => exact False.elim p
  | [_, _, _, _, _, _, _, _, _, _, _, _], p, _ => exact False.elim p
  | _ :: _ :: _ :: _ :: _ :: _ :: _ :: _ :: _ :: _ :: _ :: _ :: _ :: t, p, _ => cases t <;> exact False.elim p
theorem ySame_ok {kd : Nat} (hk : kd = 154) {K : kS} {L : List kS} (h : nSame kd K = some L) {ρ : List Int} {R : eR} (hD : kD (kGP (kUP RO)) ρ K R) : ∃ K' ∈ L, ∃ ρ', ρ <+: ρ' ∧ kD (kGP (kUP RO)) ρ' K' R := by
  subst hk
  have same : ∀ K0 : kS, K0 = K → some [K0] = some L → ∃ K' ∈ L, ∃ ρ', ρ <+: ρ' ∧ kD (kGP (kUP RO)) ρ' K' R := fun K0 e g => by
    cases g
    subst e
    exact ⟨_, List.mem_singleton.mpr rfl, ρ, List.prefix_refl _, hD⟩
  unfold nSame at h
  split at h
  · rename_i pc ls r st G c s Γ γ
    split at h
    · rename_i fs hfa
      split at h
      · rename_i q hq
        split at h
        · rename_i x hx
          split at h
          · exact same _ rfl h
          · cases h
            obtain ⟨p1, zs, e1, e2⟩ := nFa_ok hD.2.2 hfa (by decide) (by decide)
            have p1 := of_decide_eq_true p1
            obtain ⟨ys, hys⟩ := List.getLast?_eq_some_iff.mp hq
            have hqm : q ∈ γ.filter (fun q => decide (q.1 = 154) && decide (q.2.dropLast = fs.dropLast)) := by rw [hys]; simp
            obtain ⟨hqn, hc⟩ := List.mem_filter.mp hqm
            clear hqm
            simp only [Bool.and_eq_true, decide_eq_true_eq] at hc
            obtain ⟨k, gs⟩ := q
            simp only at hc hx
            obtain ⟨rfl, hc⟩ := hc
            obtain ⟨ys2, e3, e4⟩ := hD.2.2 _ hqn
            have e4 := nGP (show 53 ≤ 154 by decide) (show 154 < 1000 by decide) e4
            simp only at e3
            rw [nLst p1] at e1
            rw [nLst hx, hc] at e3
            obtain ⟨us, vs, rfl, f1, f2⟩ := sVal_appR e1
            obtain ⟨us', vs', rfl, f3, f4⟩ := sVal_appR e3
            rw [f1] at f3
            cases f3
            obtain ⟨zr, rfl, er⟩ := sVal_1 f2
            obtain ⟨zx, rfl, ex⟩ := sVal_1 f4
            have hz := yFun e2 e4
            subst hz
            exact aTopd hD er ex
        · exact same _ rfl h
      · exact same _ rfl h
    · exact same _ rfl h
  · exact same _ rfl h
end YTLK
end
