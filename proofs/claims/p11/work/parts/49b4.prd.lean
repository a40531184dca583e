/-! What is told of the law's run, of words, of sentences, of numbers. -/
noncomputable section
def nI2 (H : List eE) (j n : Nat) (f : Nat → Int32) : Prop := H[j]? = some (.inl (.int, n, .inl f))
/-- a stack, told from below, but for what is said of its top -/
def nSk (P : Nat → Int32) (st : List Int32) : Prop := ∀ (i : Nat) (x : Int32), st.reverse[i]? = some x → P i = x
def nHs (d : List nLi) : Prop := ∀ l ∈ d, nHl l
/-- from a place in the class' law on: what is still to be worked out -/
def nPh (C : Nat → Int32) (F : Int → Int32) (at_ : Nat) (N : Nat) (st : List Int32) (tot : Int32) : Prop :=
  (∃ q, nAg C at_ (nEc q ++ [-1000]) ∧ at_ + q.length + 1 ≤ N ∧ (∀ x ∈ q, nOkS x) ∧ nHt st.length q = some 1 ∧ tot = nTv (nRun F q st))
  ∨ ∃ q v r c, c = at_ + q.length + v.length + 3 ∧ nAg C at_ (nEc q ++ ([-1001, ((c : Nat) : Int)] ++ (nEc v ++ [-1000]))) ∧ nAg C c (nCl c r ++ [0, -1000]) ∧ c + (nCl c r).length + 2 = N
    ∧ (∀ x ∈ q, nOkS x) ∧ (∀ x ∈ v, nOkS x) ∧ (∀ l ∈ r, nOkL l) ∧ nHt st.length q = some 1 ∧ nHt 0 v = some 1 ∧ nHs r ∧ tot = (if nTv (nRun F q st) ≠ 0 then nVal F v else nEv F r)
/-- the class works the law out: the law's length, place, height, count, the six numbers; some of the stack is told apart -/
def nXS (size a top step : Int) (fs pend : List Int) (H : List eE) : Prop := ∃ C P d st, nI2 H 22 256 C ∧ nI2 H 23 256 P ∧ nLaw d H ∧ size ≤ 256 ∧ 0 ≤ step ∧ step ≤ a ∧ 0 ≤ top ∧ top ≤ a ∧ top = ((pend.length + st.length : Nat) : Int) ∧ nSk P st
  ∧ nPh C (nFs fs) a.toNat size.toNat (pend.map Int32.ofInt ++ st) (nEv (nFs fs) d)
/-- the reference works steps out -/
def nWS (s k n : Int) (pend : List Int) (H : List eE) : Prop := ∃ A W F P st, kAW A W H ∧ nI2 H 70 6 F ∧ nI2 H 71 130 P ∧ 0 ≤ s ∧ s ≤ k ∧ n = ((pend.length + st.length : Nat) : Int) ∧ nSk P st ∧ nRun (fun w => F w.toNat) (nSeg A W s.toNat (k - s).toNat) [] = pend.map Int32.ofInt ++ st
def nWV (s e r : Int) (H : List eE) : Prop := ∃ A W F, kAW A W H ∧ nI2 H 70 6 F ∧ 0 ≤ s ∧ s ≤ e ∧ ∀ x, (nRun (fun w => F w.toNat) (nSeg A W s.toNat (e - s).toNat) []).reverse[0]? = some x → x = Int32.ofInt r
/-- the lines ahead come to nothing; the lines' worth -/
def nGR (l f : Int) (H : List eE) : Prop := ∃ d F, nLaw d H ∧ nI2 H 70 6 F ∧ 0 ≤ l ∧ l ≤ (d.length : Int) ∧ f = ((nAl (d.take l.toNat)).length : Int) ∧ nEv (fun w => F w.toNat) d = nEv (fun w => F w.toNat) (d.drop l.toNat)
def nGT (r : Int) (H : List eE) : Prop := ∃ d F, nLaw d H ∧ nI2 H 70 6 F ∧ nEv (fun w => F w.toNat) d = Int32.ofInt r
/-- what the law gives, of six numbers; hl: whether there is one -/
def nGB (hl : Int) (fs : List Int) (r : Int) (H : List eE) : Prop := (hl = 0 ∧ r = fs[0]?.getD 0 + fs[4]?.getD 0) ∨ (hl = 1 ∧ ∃ d, nLaw d H ∧ r = nClip (nEv (nFs fs) d).toInt)
/-- the class' numbers and the reference's -/
def nNn (t : Nat) : Nat := if t < 3 then 16 else 7
def nNE (t : Nat) (e : Int) (H : List eE) : Prop := ∃ f g, nI2 H (3 + t) 16 f ∧ nI2 H (53 + t) (nNn t) g ∧ ∀ i : Nat, i < nNn t → (i : Int) ≠ e → f i = g i
def nW3 (fn fk fl : Nat → Int32) (H : List eE) : Prop := nI2 H 53 16 fn ∧ nI2 H 54 16 fk ∧ nI2 H 55 16 fl
/-- what a word gives at a place, with b told -/
def nGV (hl w p b v r : Int) (H : List eE) : Prop := ∃ fn fk fl, nW3 fn fk fl H ∧ 0 ≤ w ∧ w < 16 ∧ nGB hl [(fn w.toNat).toInt, (fk w.toNat).toInt, (fl w.toNat).toInt, p, b, v] r H
/-- all that is kept for this turn is right, but for one place -/
def nCA (turn nv i : Int) (H : List eE) : Prop := ∃ G, nI2 H 26 2560 G ∧ ∀ key : Nat, key < 2560 → (key : Int) ≠ i → ((G key) >>> 8).toInt ≤ turn ∧ (((G key) >>> 8).toInt = turn → nGV 1 ((key % 16 : Nat) : Int) ((key / 160 : Nat) : Int) ((key / 16 % 10 : Nat) : Int) nv (((G key) &&& 255).toInt - 128) H)
def nFR (turn i : Int) (H : List eE) : Prop := ∃ G, nI2 H 26 2560 G ∧ ∀ key : Nat, key < 2560 → (key : Int) ≠ i → ((G key) >>> 8).toInt ≤ turn
/-- what a word gives, another one ahead of it (-1: none), told by one of the people -/
def nGW (hl w p a one r : Int) (H : List eE) : Prop := ∃ fn fk fl b v, nW3 fn fk fl H ∧ (kEl 57 one v H ∧ -2147483648 ≤ v ∧ v ≤ 2147483647) ∧ nGV hl w p b v r H ∧ b = (if 0 ≤ a ∧ fk a.toNat = fk w.toNat then (fn a.toNat).toInt else 0)
/-- the sentence: its words lie in the reference's elements from a place on -/
def nSP (j n : Nat) (base len : Int) (H : List eE) : Prop := ∃ S g, nI2 H j n S ∧ kLg 84 360 g H ∧ 0 ≤ base ∧ ∀ k : Nat, (k : Int) < len → S k = (g (base.toNat + k)).toInt32
def nWd (g : Nat → Int64) (base k : Nat) : Int := (g (base + k)).toInt32.toInt
/-- the sums behind so many words -/
def nFd (g : Nat → Int64) (base : Nat) (hl one : Int) (H : List eE) : Nat → Int → Int → Prop
  | 0, o, m => o = 0 ∧ m = 0
  | j + 1, o, m => ∃ o1 m1 r, nFd g base hl one H j o1 m1 ∧ nGW hl (nWd g base j) j (if j = 0 then -1 else nWd g base (j - 1)) one r H ∧ o = max 0 (o1 + r) ∧ m = max m1 o
def nNF (hl base one j o m : Int) (H : List eE) : Prop := ∃ g, kLg 84 360 g H ∧ 0 ≤ base ∧ 0 ≤ j ∧ nFd g base.toNat hl one H j.toNat o m
/-- how many words still come -/
def nRt (g : Nat → Int64) (base : Nat) (le w : Int) : Nat → Nat → Int
  | 0, _ => 0
  | n + 1, k => if (k : Int) < le ∧ 0 ≤ nWd g base k ∧ nWd g base k < w then 1 + nRt g base le w n (k + 1) else 0
def nRT (base k le w r : Int) (H : List eE) : Prop := ∃ g, kLg 84 360 g H ∧ 0 ≤ base ∧ 0 ≤ k ∧ r = nRt g base.toNat le w (10 - k).toNat k.toNat
def nBt (e one : Int32) : Int32 := (e >>> (one &&& 31)) &&& 1
def nHN (one p : Int) (H : List eE) : Prop := ∃ f, nI2 H 58 7 f ∧ ∀ q : Nat, (q : Int) < p → (q : Int) ≠ one → nBt (f q) (Int32.ofInt one) = 0
def nHR (one n r : Int) (H : List eE) : Prop := ∃ f, nI2 H 58 7 f ∧ ((r = 0 ∧ ∀ q : Nat, (q : Int) < n → (q : Int) ≠ one → nBt (f q) (Int32.ofInt one) = 0) ∨ (r = 1 ∧ ∃ q : Nat, (q : Int) < n ∧ (q : Int) ≠ one ∧ nBt (f q) (Int32.ofInt one) ≠ 0))
/-- the rows of changes, the class' and the reference's -/
def nL8 (x1 x2 x3 x4 y1 y2 y3 y4 : Nat → Int32) (H : List eE) : Prop := nI2 H 14 40 x1 ∧ nI2 H 15 40 x2 ∧ nI2 H 16 40 x3 ∧ nI2 H 17 40 x4 ∧ nI2 H 61 40 y1 ∧ nI2 H 60 40 y2 ∧ nI2 H 62 40 y3 ∧ nI2 H 63 40 y4
def nLG (e : Int) (H : List eE) : Prop := ∃ x1 x2 x3 x4 y1 y2 y3 y4, nL8 x1 x2 x3 x4 y1 y2 y3 y4 H ∧ ∀ i : Nat, i < 40 → (i : Int) ≠ e → x1 i = y1 i ∧ x2 i = y2 i ∧ x3 i = y3 i ∧ x4 i = y4 i
def nSh (x y : Nat → Int32) (b : Bool) : Prop := ∀ i : Nat, i < 39 → x i = if b = true then y (i + 1) else y i
/-- so many of the class' rows are shifted -/
def nLGC (c : Int) (H : List eE) : Prop := ∃ x1 x2 x3 x4 y1 y2 y3 y4, nL8 x1 x2 x3 x4 y1 y2 y3 y4 H ∧ nSh x1 y1 (decide (1 ≤ c)) ∧ nSh x2 y2 (decide (2 ≤ c)) ∧ nSh x3 y3 (decide (3 ≤ c)) ∧ nSh x4 y4 (decide (4 ≤ c)) ∧ (c < 2 → x2 39 = y2 39) ∧ (c < 3 → x3 39 = y3 39) ∧ (c < 4 → x4 39 = y4 39)
/-- the reference's rows are shifted so far -/
def nLGS (k : Int) (H : List eE) : Prop := ∃ x1 x2 x3 x4 y1 y2 y3 y4, nL8 x1 x2 x3 x4 y1 y2 y3 y4 H ∧ 1 ≤ k ∧ ∀ i : Nat, i < 39 → (if (i : Int) < k - 1 then x1 i = y1 i ∧ x2 i = y2 i ∧ x3 i = y3 i ∧ x4 i = y4 i else x1 i = y1 (i + 1) ∧ x2 i = y2 (i + 1) ∧ x3 i = y3 (i + 1) ∧ x4 i = y4 (i + 1))
/-- the class has taken so many words that the reference hasn't -/
def nNX (e w t j0 : Int) (H : List eE) : Prop := ∃ x1 x2 x3 y1 y2 y3 g, nI2 H 3 16 x1 ∧ nI2 H 4 16 x2 ∧ nI2 H 5 16 x3 ∧ nW3 y1 y2 y3 H ∧ kLg 84 360 g H ∧ 0 ≤ e ∧ 0 ≤ w ∧ 0 ≤ t ∧ ∀ i : Nat, i < 16 → (i : Int) ≠ j0 →
  (if w ≤ (i : Int) ∧ (i : Int) < w + t then x1 i = (g (e + 3 * ((i : Int) - w)).toNat).toInt32 ∧ x2 i = (g (e + 3 * ((i : Int) - w) + 1).toNat).toInt32 ∧ x3 i = (g (e + 3 * ((i : Int) - w) + 2).toNat).toInt32 else x1 i = y1 i ∧ x2 i = y2 i ∧ x3 i = y3 i)
/-- an image is kept, is laid back: so far -/
def nIM (n k : Int) (H : List eE) : Prop := ∃ x m b, nI2 H 35 7 x ∧ nI2 H 56 7 m ∧ nI2 H 78 7 b ∧ 0 ≤ k ∧ ∀ i : Nat, i < 7 → x i = if k ≤ (i : Int) ∧ (i : Int) < n then m i else b i
def nIB (n k : Int) (H : List eE) : Prop := ∃ x m b, nI2 H 6 16 x ∧ nI2 H 56 7 m ∧ nI2 H 78 7 b ∧ 0 ≤ k ∧ ∀ i : Nat, i < 7 → x i = if k ≤ (i : Int) ∧ (i : Int) < n then b i else m i
def nE6 (H : List eE) : Prop := ∃ x b, nI2 H 35 7 x ∧ nI2 H 78 7 b ∧ ∀ i : Nat, i < 7 → x i = b i
/-- so far it isn't mentioned -/
def nPB (hl base one bd j o : Int) (H : List eE) : Prop := ∃ m, nNF hl base one j o m H ∧ m < bd
def nPM (hl base one bd j : Int) (H : List eE) : Prop := ∃ o m, nNF hl base one j o m H ∧ m < bd
/-- behind which word it is mentioned -/
def nPF (hl base one bd n r : Int) (H : List eE) : Prop := (r = -2 ∧ nPM hl base one bd n H) ∨ (0 ≤ r ∧ r < n ∧ nPM hl base one bd r H ∧ ∃ o m, nNF hl base one (r + 1) o m H ∧ bd ≤ m)
/-- what a word gives -/
def aGH (H : List eE) : aG := fun h w p a o r => nGW h w p a o r H
/-- words and pairs, by numbers -/
def aPr (G : aG) (k : Nat → Int32) (kd : Nat) (zs : List Int) : Prop := match zs with
  | [a, b] => if kd = 118 then 0 ≤ a ∧ b = aKb k a.toNat else False
  | [a, b, c] => if kd = 128 then 0 ≤ b ∧ c = aWk k a b.toNat else False
  | [a, b, c, d] => if kd = 113 then aAL G a b c d else if kd = 119 then 0 ≤ c ∧ aSy G k a (sOp 9 b 100) (sOp 10 b 100) c.toNat d else if kd = 121 then aBX G k a b c d else False
  | [a, b, c, d, e] => if kd = 114 then aPN G a b c d e else if kd = 116 then aAM G k a b c d e else if kd = 132 then aWC G k a b c d e else if kd = 120 then 0 ≤ d ∧ aRy G k a (sOp 9 b 100) (sOp 10 b 100) c.toNat d.toNat e else if kd = 125 then aAE G k a b c d e else if kd = 131 then aCB G k a b c d d.toNat e else False
  | [a, b, c, d, e, f] => if kd = 115 then aWF G k a b c d e f else if kd = 123 then aDE G a b c d e f else if kd = 127 then aAY G k a b c d e f else if kd = 129 then aCC G k a b c d e f else if kd = 130 then 0 ≤ e ∧ aCB G k a b c d e.toNat f else False
  | [a, b, c, d, e, f, g, h] => if kd = 122 then aDG G a b c d e f g h else if kd = 124 then aAS G k a b c d e f g h else False
  | [a, b, c, d, e, f, g, h, i] => if kd = 134 then aDX G a b c d e f g h i else False
  | [a, b, c, d, e, f, g, h, i, j, l] => if kd = 133 then aDR G a b c d e f g h i j l else False
  | _ => False
def aP0 (kd : Nat) (zs : List Int) : Prop := match zs with
  | [a, b] => kd = 117 ∧ 0 ≤ a ∧ b = sOp 9 a 100
  | [a, b, c, d] => kd = 126 ∧ aSF a b c d
  | _ => False
def aUP (k : Nat) (zs : List Int) (H : List eE) : Prop := if k = 117 ∨ k = 126 then aP0 k zs else ∃ fk, nI2 H 54 16 fk ∧ aPr (aGH H) fk k zs
/-- months of talk -/
def jW (g : Nat → Int64) (b : Int) : Nat → Int := fun k => nWd g b.toNat k
def jN (H : List eE) (h o b : Int) : Int → Int → Int → Prop := fun a l x => ∃ u, nNF h (b + a) o l u x H
def jPr (g : Nat → Int64) (k : Nat) (zs : List Int) : Prop := match zs with
  | [b, p, le, w] => if k = 150 then 0 ≤ b ∧ jSt (jW g b) p le w else if k = 152 then 0 ≤ b ∧ jGo (jW g b) p le w else False
  | [b, st, i, le, w] => if k = 145 then 0 ≤ b ∧ jL (jW g b) st i le w else False
  | [b, st, le, w, len, x] => if k = 146 then 0 ≤ b ∧ jR (jW g b) le w st len x else if k = 151 then 0 ≤ b ∧ jM (jW g b) le w st len x else False
  | _ => False
def jPn (g : Nat → Int64) (H : List eE) (k : Nat) (zs : List Int) : Prop := match zs with
  | [h, b, le, w, o, bd, r] => if k = 148 then jX (jW g b) (jN H h o b) le w bd r else False
  | [h, b, le, w, o, bd, n, a] => if k = 147 then 0 ≤ n ∧ jJ (jW g b) (jN H h o b) le w bd n.toNat a else False
  | [h, b, le, w, o, bd, n, p, f] => if k = 149 then 0 ≤ b ∧ jK (jW g b) (jN H h o b) le w bd n p f else False
  | _ => False
def jUP (k : Nat) (zs : List Int) (H : List eE) : Prop := if 147 ≤ k ∧ k < 150 then ∃ g, kLg 84 360 g H ∧ jPn g H k zs else ∃ g, kLg 84 360 g H ∧ jPr g k zs
/-- talk over days -/
def yNE (H : List eE) (g : Nat → Int64) (fs : Nat → Int32) (hl w f one x : Int) : Prop := ∃ u, nNF hl (60 * f) one (nRt g (60 * f).toNat (fs f.toNat).toInt w 10 0) u x H
def yOk (W : Nat → Int) (fh : Nat → Int32) (le p d : Int) : Prop := 0 ≤ d ∧ 2 * d + 1 < le ∧ 0 ≤ W (2 * d).toNat ∧ W (2 * d).toNat < p ∧ 0 ≤ W (2 * d + 1).toNat ∧ W (2 * d + 1).toNat < 6 ∧ fh (W (2 * d + 1).toNat).toNat = Int32.ofInt (-2)
def ySu (s0 gr d : Int) : Int := if 9999 < s0 + d * gr then 9999 else s0 + d * gr
def yDy (H : List eE) (g : Nat → Int64) (fh fs : Nat → Int32) (hl b le w p s0 gr d one x r v : Int) : Prop := yOk (jW g b) fh le p d ∧ one = jW g b (2 * d).toNat ∧ yNE H g fs hl w (jW g b (2 * d + 1).toNat) one x ∧ nHR one p r H ∧ v = ySu s0 gr d
def yPr (H : List eE) (g : Nat → Int64) (fh fs : Nat → Int32) (k : Nat) (zs : List Int) : Prop := match zs with
  | [hl, b, le, w, p, bd, hf, s0, gr, d, h] => if k = 153 then 0 ≤ d ∧ yF (yDy H g fh fs hl b le w p s0 gr) bd hf d.toNat h else if k = 154 then yX (yDy H g fh fs hl b le w p s0 gr) (fun d => ¬ yOk (jW g b) fh le p d) bd hf d h else False
  | [hl, b, le, w, p, bd, hf, s0, gr, td, tw, h] => if k = 156 then yR (yDy H g fh fs hl b le w p s0 gr) (fun d => ¬ yOk (jW g b) fh le p d) bd hf td tw h else False
  | [hl, b, le, w, p, bd, hf, s0, gr, d, td, tw, h] => if k = 155 then yM (yDy H g fh fs hl b le w p s0 gr) bd hf d td tw h else False
  | _ => False
def yUP (k : Nat) (zs : List Int) (H : List eE) : Prop := ∃ g fh fs fe, kLg 84 360 g H ∧ nI2 H 82 6 fh ∧ nI2 H 83 6 fs ∧ nI2 H 58 7 fe ∧ yPr H g fh fs k zs
/-- months: what else is asked -/
def vNW (H : List eE) (g : Nat → Int64) (hl base one n v x : Int) : Prop := ∃ o m r, nNF hl base one n o m H ∧ nGW hl v n (if n = 0 then -1 else nWd g base.toNat (n - 1).toNat) one r H ∧ x = max m (max 0 (o + r))
def vHt (H : List eE) (g : Nat → Int64) (hl base one n bd v : Int) : Prop := ∃ x, vNW H g hl base one n v x ∧ bd ≤ x
def vPr (H : List eE) (g : Nat → Int64) (k : Nat) (zs : List Int) : Prop := match zs with
  | [base, j, m] => if k = 164 then 0 ≤ j ∧ aBs (vS (nWd g base.toNat) 0 j) m else False
  | [b, le, w, c] => if k = 161 then vX (jW g b) (vO (jW g b)) le w c else False
  | [b, le, w, F, r] => if k = 165 then ∃ m, vX (jW g b) (vO (jW g b)) le w m ∧ r = sOp 3 F (sOp 5 m (-1)) else False
  | [a1, a2, a3, a4, a5, a6] => if k = 158 then vX (jW g a2) (vG (jN H a1 a5 a2)) a3 a4 a6 else if k = 166 then ∃ c, vX (jW g a2) (vG (jN H a1 a5 a2)) a3 a4 c ∧ a6 = (if 99 ≤ c then -2 else c + 1)
    else if k = 162 then vK (jW g a1) (vO (jW g a1)) a2 a3 a4 a5 a6 else if k = 169 then 0 ≤ a4 ∧ vNW H g a1 a2 a3 a4 a5 a6 else False
  | [a1, a2, a3, a4, a5, a6, a7] => if k = 160 then 0 ≤ a4 ∧ ∃ m, vFo (jW g a1) (vO (jW g a1)) a2 a3 a4.toNat a5 m ∧ a7 = sOp 3 a6 (sOp 5 m (-1))
    else if k = 163 then 0 ≤ a1 ∧ 0 ≤ a4 ∧ 0 ≤ a5 ∧ 0 ≤ a6 ∧ ∃ m0 m, vFo (jW g a1) (vO (jW g a1)) a2 a3 a4.toNat a5 m0 ∧ aBs (vS (jW g a1) a5 a6) m ∧ a7 = sOp 4 m0 m
    else if k = 168 then 0 ≤ a5 ∧ vT (vHt H g a1 a2 a3 a4 a6) a5.toNat a7
    else if k = 167 then (jSt (jW g a2) 0 a3 a4 ∧ a7 = 0) ∨ (jGo (jW g a2) 0 a3 a4 ∧ ∃ len nx, jR (jW g a2) a3 a4 0 len nx ∧ vT (vHt H g a1 a2 a5 len a6) a4.toNat a7) else False
  | [a1, a2, a3, a4, a5, a6, a7, a8] => if k = 157 then 0 ≤ a6 ∧ vFo (jW g a2) (vG (jN H a1 a5 a2)) a3 a4 a6.toNat a7 a8 else if k = 159 then vK (jW g a2) (vG (jN H a1 a5 a2)) a3 a4 a6 a7 a8 else False
  | _ => False
def vUP (k : Nat) (zs : List Int) (H : List eE) : Prop := ∃ g, kLg 84 360 g H ∧ vPr H g k zs
/-- the reference's NEAR of words, with the class' laid over it -/
def viewC (H : List eE) : List eE := match (H[3]? : Option eE), (H[53]? : Option eE) with
  | some (Sum.inl (.int, 16, Sum.inl f)), some (Sum.inl (.int, 16, Sum.inl g)) => H.set 53 (.inl (.int, 16, .inl (fun i => if i < 16 then f i else g i)))
  | _, _ => H
def wJX (H : List eE) (zs : List Int) : Prop := match zs with
  | [h, b, le, w, o, bd, r] => ∃ g, kLg 84 360 g H ∧ jX (jW g b) (jN H h o b) le w bd r
  | _ => False
def wAt (H : List eE) (g : Nat → Int32) (wd v : Int) : List eE := H.set 53 (.inl (.int, 16, .inl (upd g wd.toNat (Int32.ofInt v))))
/-- what the judge says where the reference's NEAR of wd is v -/
def wJV (H : List eE) (hl b le w one bd wd v r : Int) : Prop := 0 ≤ wd ∧ wd < 16 ∧ ∃ g, nI2 H 53 16 g ∧ wJX (wAt H g wd v) [hl, b, le, w, one, bd, r]
def wBD (H : List eE) (hl b le w ow bd wd n : Int) : Prop := 0 ≤ wd ∧ wd < 16 ∧ (∃ g, nI2 H 53 16 g) ∧ ∀ v, n < v → v ≤ 9 → ∃ r, 0 ≤ r ∧ wJV H hl b le w (sOp 9 ow 100) bd wd v r
def wBX (H : List eE) (hl b le w ow bd wd r : Int) : Prop := (r = -2 ∧ wBD H hl b le w ow bd wd (-1)) ∨ (0 ≤ r ∧ r ≤ 9 ∧ wBD H hl b le w ow bd wd r ∧ wJV H hl b le w (sOp 9 ow 100) bd wd r (-2))
/-- what a word gives, with b told -/
def pG (H : List eE) (hl one : Int) : Int → Int → Int → Int → Prop := fun w k b g => ∃ v, (kEl 57 one v H ∧ -2147483648 ≤ v ∧ v ≤ 2147483647) ∧ nGV hl w k b v g H
def pQ (H : List eE) (g : Nat → Int64) (fn fk fl : Nat → Int32) (hl b one x n N : Int) : pP := (jW g b, (fun i => (fk i).toInt), (fun i => (fl i).toInt), (fun i => (fn i).toInt), pG H hl one, x, n, N)
def pC (H : List eE) (hl b one x n N : Int) (F : pP → Prop) : Prop := ∃ g fn fk fl, kLg 84 360 g H ∧ nW3 fn fk fl H ∧ F (pQ H g fn fk fl hl b one x n N)
def pPr (H : List eE) (P : pP) (k : Nat) (zs : List Int) : Prop := match zs with
  | [a] => if k = 305 then (∀ s, 0 ≤ s → s < a → ¬ pW P 0 0 0 s) else if k = 306 then pLx P a else False
  | [a, b] => if k = 300 then ∃ f, nI2 H 29 5840 f ∧ pDn P f a b else if k = 319 then pSw P a b else False
  | [a, b, c] => if k = 311 then ∃ f, nI2 H 75 15300 f ∧ pX P ≤ 99 ∧ pM P ≤ 16 ∧ pLt P f a b c else False
  | [a, b, c, d] => if k = 302 then ∃ f, nI2 H 29 5840 f ∧ pPt P f a b c d else if k = 304 then pRR P a b c d else if k = 307 then pLs P a (pBa P (pA b) a) c d else if k = 313 then 0 ≤ a ∧ ∃ b', pT P a.toNat (pA b) b' c d else False
  | [a, b, c, d, e] => if k = 312 then pBe P a (pBa P (pA b) a) c d e else if k = 314 then 0 ≤ a ∧ pT P a.toNat (pA b) c d e else if k = 315 then pFw P a b c d e else if k = 316 then pFx P a b c d e else if k = 317 then pFw P a (pBa P (pA b) a) c d e else if k = 318 then 0 ≤ e ∧ e < pM P ∧ pF P a (pBa P (pA b) a) c d e ∧ pFw P a (pBa P (pA b) a) c d e else False
  | [a, b, c, d, e, o] => if k = 303 then ∃ f f0, nI2 H 29 5840 f ∧ 0 ≤ e ∧ f0 e.toNat = Int32.ofInt o ∧ (∀ i : Nat, i ≠ e.toNat → f i = f0 i) ∧ pPt P f0 a b c d else False
  | _ => False
/-- the KINS told -/
def pNP (H : List eE) (b le m : Int) : Prop := ∃ g, kLg 84 360 g H ∧ 0 ≤ b ∧ 0 ≤ m ∧ m ≤ 8 ∧ m ≤ le ∧ ∀ i : Nat, (i : Int) < m → 0 ≤ jW g b i ∧ jW g b i ≤ 7
def pNK (H : List eE) (b le m : Int) : Prop := ∃ g, kLg 84 360 g H ∧ 0 ≤ b ∧ 0 ≤ m ∧ m ≤ 8 ∧ m ≤ le ∧ (∀ i : Nat, (i : Int) < m → 0 ≤ jW g b i ∧ jW g b i ≤ 7) ∧ (m = 8 ∨ m = le ∨ ¬ (0 ≤ jW g b m.toNat ∧ jW g b m.toNat ≤ 7))
def pBc (g : Nat → Int64) (fn : Nat → Int32) (b n k w : Int) : Int := if k < n ∧ jW g b k.toNat = jW g b (k - 1).toNat then (fn w.toNat).toInt else 0
def pBB (H : List eE) (b n k w m : Int) : Prop := ∃ g fn fk, kLg 84 360 g H ∧ nI2 H 53 16 fn ∧ nI2 H 54 16 fk ∧ aBs (fun be => (k = 0 ∧ be = 0) ∨ (0 < k ∧ ∃ w', 0 ≤ w' ∧ w' < w ∧ (fk w'.toNat).toInt = jW g b (k - 1).toNat ∧ (be : Int) = pBc g fn b n k w')) m
def pBW (H : List eE) (b n k w be : Int) : Prop := ∃ g fn, kLg 84 360 g H ∧ nI2 H 53 16 fn ∧ be = (if 0 < k then pBc g fn b n k w else 0)
def pRC (H : List eE) (k be m : Int) : Prop := ∃ f, nI2 H 29 5840 f ∧ ∀ s, 0 ≤ s → s < m → (f (730 * k + 73 * be + s).toNat).toInt = -1
def pGT (H : List eE) (hl one N p a w : Int) : Prop := N ≤ 16 ∧ ∃ f, nI2 H 74 4352 f ∧ ∀ p' a' w', 0 ≤ p' → (a' = 16 ∨ (0 ≤ a' ∧ a' < N)) → 0 ≤ w' → w' < N → (p' < p ∨ (p' = p ∧ (a' < a ∨ (a' = a ∧ w' < w)))) → nGW hl w' p' (pA a') one (f (272 * p' + 16 * a' + w').toNat).toInt H
/-- how many must be put in: what the rows of leasts and the table hold -/
def dRw (P : pP) (f : Nat → Int32) (j : Nat) (zs : List Int) : Prop := match zs with
  | [a] => if j = 161 then 0 ≤ a ∧ pRu P f a.toNat else if j = 165 then pN0 P f a else False
  | [k, p, w] => if j = 163 then 0 ≤ k ∧ pNp P f k.toNat p w else False
  | [k, p, a, w] => if j = 162 then 0 ≤ k ∧ pNd P f k.toNat p a w else False
  | _ => False
/-- behind a write: what stood there -/
def dOd (f : Nat → Int32) (e old : Int) (F : (Nat → Int32) → Prop) : Prop := ∃ f0, 0 ≤ e ∧ f0 e.toNat = Int32.ofInt old ∧ (∀ i : Nat, i ≠ e.toNat → f i = f0 i) ∧ F f0
def dRq (P : pP) (f : Nat → Int32) (j : Nat) (zs : List Int) : Prop := match zs with
  | [a, e, old] => j = 168 ∧ dOd f e old (fun f => dRw P f 165 [a])
  | [k, p, w, e, old] => j = 167 ∧ dOd f e old (fun f => dRw P f 163 [k, p, w])
  | [k, p, a, w, e, old] => j = 166 ∧ dOd f e old (fun f => dRw P f 162 [k, p, a, w])
  | _ => False
def dTb (P : pP) (f : Nat → Int32) (k : Nat) (zs : List Int) : Prop := match zs with
  | [a] => k = 345 ∧ pTb P f a
  | [a, i] => k = 348 ∧ 0 ≤ a ∧ pTs P f a i
  | [a, i, e, old] => k = 349 ∧ dOd f e old (fun f => 0 ≤ a ∧ pTs P f a i)
  | [a, p, b, o, w, e] => k = 346 ∧ pTg P f a (pTd P a p b o w e) ∧ (0 ≤ e → 0 ≤ w ∧ w < pM P ∧ pKn P w.toNat = pK P a.toNat)
  | [a, p, b, o, w, e, i, old] => k = 347 ∧ dOd f i old (fun f => pTg P f a (pTd P a p b o w e) ∧ (0 ≤ e → 0 ≤ w ∧ w < pM P ∧ pKn P w.toNat = pK P a.toNat))
  | _ => False
def dPu (P : pP) (k : Nat) (zs : List Int) : Prop := match zs with
  | [a] => if k = 341 then ∀ p w r, pR P (pN P - 1).toNat p w r → a ≤ 16 * p + w else if k = 342 then pPx P (pN P) a else if k = 350 then ∀ p w r, pR P (pN P - 1).toNat p w r → a ≤ pIx p w r else False
  | [a, p, w, m] => if k = 338 then 0 ≤ a ∧ pMn (pX P) (pUn (fun w r => pR P a.toNat p w r) w) m else if k = 339 then 0 ≤ a ∧ pMl (pX P) (pUn (pBn P (pR P a.toNat) a p) w) m else if k = 340 then 0 ≤ a ∧ pMn (pX P) (pR P a.toNat p w) m else if k = 351 then pS P a p w m else False
  | _ => False
def dPr (H : List eE) (P : pP) (k : Nat) (zs : List Int) : Prop := if k < 332 then ∃ f, nI2 H (30 + k % 2) 128 f ∧ dRw P f (k / 2) zs else if k < 338 then ∃ f, nI2 H (30 + k % 2) 128 f ∧ dRq P f (k / 2) zs else if 345 ≤ k ∧ k < 350 then ∃ f, nI2 H 75 15300 f ∧ dTb P f k zs else dPu P k zs
/-- the two rows are two -/
def pSW (H : List eE) : Prop := ∃ c fs, H[27]? = some (.inr (c, fs)) ∧ ((fs[4]? = some (Value.ref 35) ∧ fs[5]? = some (Value.ref 36)) ∨ (fs[4]? = some (Value.ref 36) ∧ fs[5]? = some (Value.ref 35)))
def padUP (k : Nat) (zs : List Int) (H : List eE) : Prop :=
  if k = 321 then zs = [] ∧ pSW H
  else if k = 328 ∨ k = 329 then (∃ a, zs = [a] ∧ ∃ f, nI2 H (30 + k % 2) 128 f ∧ ∀ i : Nat, (i : Int) < a → (f i).toInt = 100)
  else if k = 344 then (∃ a, zs = [a] ∧ ∃ f, nI2 H 75 15300 f ∧ ∀ i : Nat, (i : Int) < a → (f i).toInt = 0)
  else if k = 343 then (∃ hl b le ox N r, zs = [hl, b, le, ox, N, r] ∧ ∃ n, pNK H b le n ∧ pC H hl b (sOp 9 ox 100) (sOp 10 ox 100) n N (fun P => pPx P n r))
  else (match zs with
    | hl :: b :: one :: x :: n :: N :: rest => pC H hl b one x n N (fun P => dPr H P k rest)
    | _ => False)
def padUD (k : Nat) : List Nat := if k = 321 then [27] else if k = 328 ∨ k = 329 then [30 + k % 2] else if k = 344 then [75] else if k < 338 then [53, 54, 55, 57, 65, 66, 67, 68, 69, 84, 30 + k % 2] else if 345 ≤ k ∧ k < 350 then [53, 54, 55, 57, 65, 66, 67, 68, 69, 84, 75] else [53, 54, 55, 57, 65, 66, 67, 68, 69, 84]
def safUP (k : Nat) (zs : List Int) (H : List eE) : Prop :=
  if 321 ≤ k then padUP k zs H else
  if k = 294 then (∃ a b, zs = [a, b] ∧ nSP 28 8 a b H) else if k = 295 then (∃ a b, zs = [a, b] ∧ nSP 73 8 a b H) else if k = 296 then (∃ b le m, zs = [b, le, m] ∧ pNP H b le m) else if k = 297 then (∃ b le m, zs = [b, le, m] ∧ pNK H b le m)
  else if k = 298 then (∃ b n k w m, zs = [b, n, k, w, m] ∧ pBB H b n k w m) else if k = 299 then (∃ b n k w be, zs = [b, n, k, w, be] ∧ pBW H b n k w be) else if k = 301 then (∃ k be m, zs = [k, be, m] ∧ pRC H k be m)
  else if k = 308 then (∃ hl one N p a w, zs = [hl, one, N, p, a, w] ∧ pGT H hl one N p a w) else if k = 309 then (∃ hl w p a one g, zs = [hl, w, p, a, one, g] ∧ nGW hl w p (pA a) one g H) else if k = 310 then (∃ N a, zs = [N, a] ∧ (a = 16 ∨ (0 ≤ a ∧ a < N)))
  else if k = 320 then (∃ hl b le ox N kq r, zs = [hl, b, le, ox, N, kq, r] ∧ ∃ n, pNK H b le n ∧ pC H hl b (sOp 9 ox 100) (sOp 10 ox 100) n N (fun P => pSx P kq r))
  else (match zs with
    | hl :: b :: one :: x :: n :: N :: rest => pC H hl b one x n N (fun P => pPr H P k rest)
    | _ => False)
def safUD (k : Nat) : List Nat := if 321 ≤ k then padUD k else if k = 294 then [28, 84] else if k = 295 then [73, 84] else if k = 296 ∨ k = 297 then [84] else if k = 298 then [53, 54, 84] else if k = 299 then [53, 84] else if k = 301 then [29] else if k = 308 then [53, 54, 55, 57, 65, 66, 67, 68, 69, 74] else if k = 309 then [53, 54, 55, 57, 65, 66, 67, 68, 69] else if k = 310 then [] else if k = 300 ∨ k = 302 ∨ k = 303 then [53, 54, 55, 57, 65, 66, 67, 68, 69, 84, 29] else if k = 311 then [53, 54, 55, 57, 65, 66, 67, 68, 69, 84, 75] else [53, 54, 55, 57, 65, 66, 67, 68, 69, 84]
def wUP (k : Nat) (zs : List Int) (H : List eE) : Prop :=
  if k = 201 then (∃ h w p b v r, zs = [h, w, p, b, v, r] ∧ nGV h w p b v r (viewC H)) else if k = 202 then (∃ a b, zs = [a, b] ∧ nCA a b (-1) (viewC H)) else if k = 203 then (∃ a b c, zs = [a, b, c] ∧ nCA a b c (viewC H))
  else if k = 205 then (∃ h w p a o r, zs = [h, w, p, a, o, r] ∧ nGW h w p a o r (viewC H)) else if k = 208 then (∃ h b o j u m, zs = [h, b, o, j, u, m] ∧ nNF h b o j u m (viewC H)) else if k = 209 then (∃ h b o j m, zs = [h, b, o, j, m] ∧ ∃ u, nNF h b o j u m (viewC H))
  else if k = 267 then (∃ g, kLg 84 360 g (viewC H) ∧ jPn g (viewC H) 147 zs) else if k = 268 then (∃ g, kLg 84 360 g (viewC H) ∧ jPn g (viewC H) 148 zs)
  else if k = 290 then (zs = [] ∧ ∃ f g, nI2 H 3 16 f ∧ nI2 H 53 16 g)
  else if k = 291 then (∃ a b c d e f g h r, zs = [a, b, c, d, e, f, g, h, r] ∧ wJV H a b c d e f g h r)
  else if k = 292 then (∃ a b c d e f g h, zs = [a, b, c, d, e, f, g, h] ∧ wBD H a b c d e f g h)
  else if k = 293 then (∃ a b c d e f g h, zs = [a, b, c, d, e, f, g, h] ∧ wBX H a b c d e f g h)
  else if 294 ≤ k then safUP k zs H
  else False
def wUD (k : Nat) : List Nat := if 294 ≤ k then safUD k else if k = 290 then [3, 53] else if 291 ≤ k then [53, 54, 55, 57, 65, 66, 67, 68, 69, 84] else if k = 201 then [3, 53, 54, 55, 65, 66, 67, 68, 69] else if k = 202 ∨ k = 203 then [3, 26, 53, 54, 55, 65, 66, 67, 68, 69] else if k = 205 then [3, 53, 54, 55, 57, 65, 66, 67, 68, 69] else [3, 53, 54, 55, 57, 65, 66, 67, 68, 69, 84]
def tUP (k : Nat) (zs : List Int) (H : List eE) : Prop := if 173 ≤ k then wUP k zs H else if 157 ≤ k then vUP k zs H else if 153 ≤ k then yUP k zs H else if 145 ≤ k then jUP k zs H else if k = 140 ∨ k = 141 ∨ k = 143 then ∃ f g, nI2 H 56 7 f ∧ nI2 H 76 7 g ∧ tGr (tM f) g k zs else ∃ f, nI2 H 56 7 f ∧ tPr (tM f) k zs
/-- further things -/
def mUP (k : Nat) (zs : List Int) (H : List eE) : Prop :=
  if k = 110 then (∃ h b o d j u, zs = [h, b, o, d, j, u] ∧ nPB h b o d j u H) else if k = 111 then (∃ h b o d n r, zs = [h, b, o, d, n, r] ∧ nPF h b o d n r H) else if k = 112 then (∃ h b o d j, zs = [h, b, o, d, j] ∧ nPM h b o d j H)
  else if 135 ≤ k then tUP k zs H
  else if 113 ≤ k then aUP k zs H
  else False
def mUD (k : Nat) : List Nat := if 110 ≤ k ∧ k < 113 then [53, 54, 55, 57, 65, 66, 67, 68, 69, 84] else if k = 117 ∨ k = 126 then [] else if 135 ≤ k then (if 173 ≤ k then wUD k else if 157 ≤ k then [53, 54, 55, 57, 65, 66, 67, 68, 69, 84] else if 153 ≤ k then [53, 54, 55, 57, 58, 65, 66, 67, 68, 69, 82, 83, 84] else if 147 ≤ k ∧ k < 150 then [53, 54, 55, 57, 65, 66, 67, 68, 69, 84] else if 145 ≤ k then [84] else if k = 140 ∨ k = 141 ∨ k = 143 then [56, 76] else [56]) else if 113 ≤ k then [53, 54, 55, 57, 65, 66, 67, 68, 69] else []
/-- all that is told -/
def nUP (k : Nat) (zs : List Int) (H : List eE) : Prop :=
  if k = 53 then nG 0 zs H else if k = 54 then nG 1 zs H else if k = 55 then nU 0 zs H else if k = 56 then nU 1 zs H else if k = 57 then nF 0 zs H else if k = 58 then nF 1 zs H
  else if k = 59 then (∃ a b, zs = [a, b] ∧ nOX a b H) else if k = 60 then (∃ a b c, zs = [a, b, c] ∧ nOM a b c H) else if k = 61 then (∃ a, zs = [a] ∧ nTQ a H) else if k = 62 then (∃ a b, zs = [a, b] ∧ nLW a b H) else if k = 63 then (∃ a b, zs = [a, b] ∧ nRL a b H) else if k = 64 then (∃ a, zs = [a] ∧ nRM a H)
  else if k = 65 then (∃ a b c e n1 n2 n3 n4 n5 n6, zs = [a, b, c, e, n1, n2, n3, n4, n5, n6] ∧ nXS a b c e [n1, n2, n3, n4, n5, n6] [] H) else if k = 66 then (∃ a b c e n1 n2 n3 n4 n5 n6 u, zs = [a, b, c, e, n1, n2, n3, n4, n5, n6, u] ∧ nXS a b c e [n1, n2, n3, n4, n5, n6] [u] H) else if k = 67 then (∃ a b c e n1 n2 n3 n4 n5 n6 u v, zs = [a, b, c, e, n1, n2, n3, n4, n5, n6, u, v] ∧ nXS a b c e [n1, n2, n3, n4, n5, n6] [v, u] H)
  else if k = 68 then (∃ a b c, zs = [a, b, c] ∧ nWS a b c [] H) else if k = 69 then (∃ a b c u, zs = [a, b, c, u] ∧ nWS a b c [u] H) else if k = 70 then (∃ a b c u v, zs = [a, b, c, u, v] ∧ nWS a b c [v, u] H) else if k = 71 then (∃ a b c, zs = [a, b, c] ∧ nWV a b c H) else if k = 72 then (∃ a b, zs = [a, b] ∧ nGR a b H) else if k = 73 then (∃ a, zs = [a] ∧ nGT a H)
  else if k = 74 then (∃ h n1 n2 n3 n4 n5 n6 r, zs = [h, n1, n2, n3, n4, n5, n6, r] ∧ nGB h [n1, n2, n3, n4, n5, n6] r H) else if 75 ≤ k ∧ k < 81 then (∃ a, zs = [a] ∧ nNE (k - 75) a H) else if k = 81 then (∃ h w p b v r, zs = [h, w, p, b, v, r] ∧ nGV h w p b v r H) else if k = 82 then (∃ a b, zs = [a, b] ∧ nCA a b (-1) H) else if k = 83 then (∃ a b c, zs = [a, b, c] ∧ nCA a b c H) else if k = 84 then (∃ a, zs = [a] ∧ nFR a (-1) H)
  else if k = 85 then (∃ h w p a o r, zs = [h, w, p, a, o, r] ∧ nGW h w p a o r H) else if k = 86 then (∃ a b, zs = [a, b] ∧ nSP 25 64 a b H) else if k = 87 then (∃ a b, zs = [a, b] ∧ nSP 72 61 a b H) else if k = 88 then (∃ h b o j u m, zs = [h, b, o, j, u, m] ∧ nNF h b o j u m H) else if k = 89 then (∃ h b o j m, zs = [h, b, o, j, m] ∧ ∃ u, nNF h b o j u m H) else if k = 90 then (∃ a b c e r, zs = [a, b, c, e, r] ∧ nRT a b c e r H)
  else if k = 91 then (∃ a b, zs = [a, b] ∧ nHN a b H) else if k = 92 then (∃ a b c, zs = [a, b, c] ∧ nHR a b c H) else if k = 93 then (∃ a b c r, zs = [a, b, c, r] ∧ r = (if 9999 < b + a * c then 9999 else b + a * c)) else if k = 94 then (∃ a b, zs = [a, b] ∧ a = (if 10 < b then 10 else b)) else if k = 95 then (∃ a b, zs = [a, b] ∧ nFR a b H)
  else if k = 96 then (∃ a, zs = [a] ∧ nLG a H) else if k = 97 then (∃ a, zs = [a] ∧ nLGC a H) else if k = 98 then (∃ a, zs = [a] ∧ nLGS a H) else if k = 99 then (∃ a b c, zs = [a, b, c] ∧ nNX a b c (-1) H) else if k = 100 then (∃ a b c e, zs = [a, b, c, e] ∧ nNX a b c e H) else if k = 101 then (∃ a b, zs = [a, b] ∧ nIM a b H) else if k = 102 then (∃ a b, zs = [a, b] ∧ nIB a b H) else if k = 103 then nE6 H else if k = 104 then (∃ a, zs = [a] ∧ (a = -2 ∨ 0 ≤ a))
  else if 110 ≤ k then mUP k zs H else pUP k zs
def nAR : List Nat := [65, 66, 67, 68, 69]
def nUD (k : Nat) : List Nat :=
  if k = 53 then [19, 20] else if k = 54 then [64, 65, 66, 68, 69] else if k = 55 then [19] else if k = 56 then [64] else if k = 57 then [19] else if k = 58 then [64] else if k = 59 then [19, 20] else if k = 60 then [64, 65, 66, 68, 69] else if k = 61 then [19, 64] else if k = 62 then [22, 65, 66, 67, 68, 69] else if k = 63 then [19, 22] else if k = 64 then [64, 65, 66, 67, 68, 69]
  else if 65 ≤ k ∧ k < 68 then [22, 23, 65, 66, 67, 68, 69] else if 68 ≤ k ∧ k < 71 then [65, 66, 70, 71] else if k = 71 then [65, 66, 70] else if 72 ≤ k ∧ k < 74 then [65, 66, 67, 68, 69, 70] else if k = 74 then [65, 66, 67, 68, 69] else if 75 ≤ k ∧ k < 81 then [3 + (k - 75), 53 + (k - 75)] else if k = 81 then [53, 54, 55, 65, 66, 67, 68, 69] else if 82 ≤ k ∧ k < 84 then [26, 53, 54, 55, 65, 66, 67, 68, 69] else if k = 84 then [26]
  else if k = 85 then [53, 54, 55, 57, 65, 66, 67, 68, 69] else if k = 86 then [25, 84] else if k = 87 then [72, 84] else if 88 ≤ k ∧ k < 90 then [53, 54, 55, 57, 65, 66, 67, 68, 69, 84] else if k = 90 then [84] else if 91 ≤ k ∧ k < 93 then [58] else if k = 95 then [26] else if 96 ≤ k ∧ k < 99 then [14, 15, 16, 17, 60, 61, 62, 63] else if 99 ≤ k ∧ k < 101 then [3, 4, 5, 53, 54, 55, 84] else if k = 101 then [35, 56, 78] else if k = 102 then [6, 56, 78] else if k = 103 then [35, 78] else if 110 ≤ k then mUD k else []
section NFRM
variable {H H' : List eE}
theorem nTp_fr {d : Nat} {B : Nat → Int32} (h : H'[if d = 0 then 19 else 64]? = H[if d = 0 then 19 else 64]?) (g : nTp d B H) : nTp d B H' := by
  unfold nTp at g ⊢
  split at g
  · rename_i hd
    rw [if_pos hd] at h ⊢
    exact h.trans g
  · rename_i hd
    rw [if_neg hd] at h ⊢
    exact h.trans g
theorem nAWf {A W : Nat → Int32} (h1 : H'[65]? = H[65]?) (h2 : H'[66]? = H[66]?) (h : kAW A W H) : kAW A W H' := ⟨h1.trans h.1, h2.trans h.2⟩
theorem nTEf {A W : Nat → Int32} (h1 : H'[68]? = H[68]?) (h2 : H'[69]? = H[69]?) (h : kTE A W H) : kTE A W H' := ⟨h1.trans h.1, h2.trans h.2⟩
theorem nLaw_fr {d : List nLi} (h : ∀ j ∈ nAR, H'[j]? = H[j]?) (g : nLaw d H) : nLaw d H' := by
  obtain ⟨A, W, T, E, M, a, b, c, r⟩ := g
  exact ⟨A, W, T, E, M, nAWf (h 65 (by simp [nAR])) (h 66 (by simp [nAR])) a, nTEf (h 68 (by simp [nAR])) (h 69 (by simp [nAR])) b, (h 67 (by simp [nAR])).trans c, r⟩
theorem nGB_fr {hl r : Int} {fs : List Int} (h : ∀ j ∈ nAR, H'[j]? = H[j]?) (g : nGB hl fs r H) : nGB hl fs r H' := by
  rcases g with g | ⟨g1, d, g2, g3⟩
  · exact Or.inl g
  · exact Or.inr ⟨g1, d, nLaw_fr h g2, g3⟩
theorem nW3_fr {a b c : Nat → Int32} (h1 : H'[53]? = H[53]?) (h2 : H'[54]? = H[54]?) (h3 : H'[55]? = H[55]?) (g : nW3 a b c H) : nW3 a b c H' := ⟨h1.trans g.1, h2.trans g.2.1, h3.trans g.2.2⟩
theorem nGV_fr {hl w p b v r : Int} (h : ∀ j ∈ nAR, H'[j]? = H[j]?) (h1 : H'[53]? = H[53]?) (h2 : H'[54]? = H[54]?) (h3 : H'[55]? = H[55]?) (g : nGV hl w p b v r H) : nGV hl w p b v r H' := by
  obtain ⟨x, y, z, a, b1, b2, c⟩ := g
  exact ⟨x, y, z, nW3_fr h1 h2 h3 a, b1, b2, nGB_fr h c⟩
theorem nGW_fr {hl w p a one r : Int} (h : ∀ j ∈ nAR, H'[j]? = H[j]?) (h1 : H'[53]? = H[53]?) (h2 : H'[54]? = H[54]?) (h3 : H'[55]? = H[55]?) (h4 : H'[57]? = H[57]?) (g : nGW hl w p a one r H) : nGW hl w p a one r H' := by
  obtain ⟨x, y, z, b, v, a1, a2, a3, a4⟩ := g
  refine ⟨x, y, z, b, v, nW3_fr h1 h2 h3 a1, ⟨?_, a2.2⟩, nGV_fr h h1 h2 h3 a3, a4⟩
  obtain ⟨ty, n, arr, k1, k2⟩ := a2.1
  exact ⟨ty, n, arr, h4.trans k1, k2⟩
theorem nFd_fr {g : Nat → Int64} {base : Nat} {hl one : Int} (h : ∀ j ∈ nAR, H'[j]? = H[j]?) (h1 : H'[53]? = H[53]?) (h2 : H'[54]? = H[54]?) (h3 : H'[55]? = H[55]?) (h4 : H'[57]? = H[57]?) : ∀ (j : Nat) {o m : Int}, nFd g base hl one H j o m → nFd g base hl one H' j o m
  | 0, o, m, q => q
  | j + 1, o, m, q => by
    obtain ⟨o1, m1, r, a, b, c⟩ := q
    exact ⟨o1, m1, r, nFd_fr h h1 h2 h3 h4 j a, nGW_fr h h1 h2 h3 h4 b, c⟩
theorem nNF_fr {hl b o j u m : Int} (h : ∀ j ∈ nAR, H'[j]? = H[j]?) (h1 : H'[53]? = H[53]?) (h2 : H'[54]? = H[54]?) (h3 : H'[55]? = H[55]?) (h4 : H'[57]? = H[57]?) (h5 : H'[84]? = H[84]?) (q : nNF hl b o j u m H) : nNF hl b o j u m H' := by
  obtain ⟨g, a, b1, c, e⟩ := q
  exact ⟨g, h5.trans a, b1, c, nFd_fr h h1 h2 h3 h4 _ e⟩
theorem nPM_fr {hl b o d j : Int} (h : ∀ j ∈ nAR, H'[j]? = H[j]?) (h1 : H'[53]? = H[53]?) (h2 : H'[54]? = H[54]?) (h3 : H'[55]? = H[55]?) (h4 : H'[57]? = H[57]?) (h5 : H'[84]? = H[84]?) (q : nPM hl b o d j H) : nPM hl b o d j H' := by
  obtain ⟨u, m, a, c⟩ := q
  exact ⟨u, m, nNF_fr h h1 h2 h3 h4 h5 a, c⟩
theorem aGH_fr (h : ∀ j ∈ nAR, H'[j]? = H[j]?) (h1 : H'[53]? = H[53]?) (h2 : H'[54]? = H[54]?) (h3 : H'[55]? = H[55]?) (h4 : H'[57]? = H[57]?) : aGH H' = aGH H := by
  funext a b c d e f
  exact propext ⟨fun q => nGW_fr (fun j hj => (h j hj).symm) h1.symm h2.symm h3.symm h4.symm q, fun q => nGW_fr h h1 h2 h3 h4 q⟩
theorem aUP_fr {k : Nat} {zs : List Int} (hd : ∀ j ∈ mUD k, H'[j]? = H[j]?) (hk : 113 ≤ k) (hk2 : ¬ 135 ≤ k) (q : aUP k zs H) : aUP k zs H' := by
  unfold aUP at q ⊢
  by_cases c : k = 117 ∨ k = 126
  · rw [if_pos c] at q ⊢
    exact q
  · rw [if_neg c] at q ⊢
    unfold mUD at hd
    rw [if_neg (by omega), if_neg c, if_neg hk2, if_pos hk] at hd
    obtain ⟨fk, q1, q2⟩ := q
    refine ⟨fk, (hd 54 (by simp)).trans q1, ?_⟩
    rw [aGH_fr (fun j hj => hd j (by have hj : j ∈ [65, 66, 67, 68, 69] := hj; simp only [List.mem_cons, List.not_mem_nil, or_false] at hj; rcases hj with rfl | rfl | rfl | rfl | rfl <;> simp)) (hd 53 (by simp)) (hd 54 (by simp)) (hd 55 (by simp)) (hd 57 (by simp))]
    exact q2
theorem jN_fr {h o b : Int} (hd : ∀ j ∈ [53, 54, 55, 57, 65, 66, 67, 68, 69, 84], H'[j]? = H[j]?) : jN H' h o b = jN H h o b := by
  have ar : ∀ j ∈ nAR, H'[j]? = H[j]? := fun j hj => hd j (by have hj : j ∈ [65, 66, 67, 68, 69] := hj; simp only [List.mem_cons, List.not_mem_nil, or_false] at hj; rcases hj with rfl | rfl | rfl | rfl | rfl <;> simp)
  funext a l x
  exact propext ⟨fun ⟨u, q⟩ => ⟨u, nNF_fr (fun j hj => (ar j hj).symm) (hd 53 (by simp)).symm (hd 54 (by simp)).symm (hd 55 (by simp)).symm (hd 57 (by simp)).symm (hd 84 (by simp)).symm q⟩, fun ⟨u, q⟩ => ⟨u, nNF_fr ar (hd 53 (by simp)) (hd 54 (by simp)) (hd 55 (by simp)) (hd 57 (by simp)) (hd 84 (by simp)) q⟩⟩
theorem jPn_fr {g : Nat → Int64} {k : Nat} {zs : List Int} (hd : ∀ j ∈ [53, 54, 55, 57, 65, 66, 67, 68, 69, 84], H'[j]? = H[j]?) : jPn g H' k zs = jPn g H k zs := by
  unfold jPn
  simp only [jN_fr hd]
theorem jUP_fr {k : Nat} {zs : List Int} (hd : ∀ j ∈ (if 147 ≤ k ∧ k < 150 then [53, 54, 55, 57, 65, 66, 67, 68, 69, 84] else [84] : List Nat), H'[j]? = H[j]?) (q : jUP k zs H) : jUP k zs H' := by
  unfold jUP at q ⊢
  by_cases c : 147 ≤ k ∧ k < 150
  · rw [if_pos c] at q hd ⊢
    obtain ⟨g, q1, q2⟩ := q
    exact ⟨g, (hd 84 (by simp)).trans q1, by rw [jPn_fr hd]; exact q2⟩
  · rw [if_neg c] at q hd ⊢
    obtain ⟨g, q1, q2⟩ := q
    exact ⟨g, (hd 84 (by simp)).trans q1, q2⟩
theorem nHR_fr2 {one n r : Int} (h : H'[58]? = H[58]?) (q : nHR one n r H) : nHR one n r H' := by
  obtain ⟨f, q1, q2⟩ := q
  exact ⟨f, h.trans q1, q2⟩
theorem yUP_fr {k : Nat} {zs : List Int} (hd : ∀ j ∈ [53, 54, 55, 57, 58, 65, 66, 67, 68, 69, 82, 83, 84], H'[j]? = H[j]?) (q : yUP k zs H) : yUP k zs H' := by
  have ar : ∀ j ∈ nAR, H'[j]? = H[j]? := fun j hj => hd j (by have hj : j ∈ [65, 66, 67, 68, 69] := hj; simp only [List.mem_cons, List.not_mem_nil, or_false] at hj; rcases hj with rfl | rfl | rfl | rfl | rfl <;> simp)
  have e1 : yNE H' = yNE H := by
    funext g fs hl w f one x
    exact propext ⟨fun ⟨u, q⟩ => ⟨u, nNF_fr (fun j hj => (ar j hj).symm) (hd 53 (by simp)).symm (hd 54 (by simp)).symm (hd 55 (by simp)).symm (hd 57 (by simp)).symm (hd 84 (by simp)).symm q⟩, fun ⟨u, q⟩ => ⟨u, nNF_fr ar (hd 53 (by simp)) (hd 54 (by simp)) (hd 55 (by simp)) (hd 57 (by simp)) (hd 84 (by simp)) q⟩⟩
  have e2 : yDy H' = yDy H := by
    funext g fh fs hl b le w p s0 gr d one x r v
    have e3 : nHR one p r H' = nHR one p r H := propext ⟨nHR_fr2 (hd 58 (by simp)).symm, nHR_fr2 (hd 58 (by simp))⟩
    unfold yDy
    rw [e1, e3]
  obtain ⟨g, fh, fs, fe, q1, q2, q3, q4, q5⟩ := q
  refine ⟨g, fh, fs, fe, (hd 84 (by simp)).trans q1, (hd 82 (by simp)).trans q2, (hd 83 (by simp)).trans q3, (hd 58 (by simp)).trans q4, ?_⟩
  unfold yPr at q5 ⊢
  rw [e2]
  exact q5
theorem viewC_fr {c : Nat} (h3 : H'[3]? = H[3]?) (h53 : H'[53]? = H[53]?) (hc : H'[c]? = H[c]?) : (viewC H')[c]? = (viewC H)[c]? := by
  unfold viewC
  rw [h3, h53]
  split
  · rename_i f g e3 e53
    by_cases e : c = 53
    · subst e
      have l1 : 53 < H.length := (List.getElem?_eq_some_iff.mp e53).1
      have l2 : 53 < H'.length := (List.getElem?_eq_some_iff.mp (h53.trans e53)).1
      rw [List.getElem?_set_self l1, List.getElem?_set_self l2]
    · rw [List.getElem?_set_ne (Ne.symm e), List.getElem?_set_ne (Ne.symm e)]
      exact hc
  · exact hc
theorem wAt_fr {c : Nat} {g : Nat → Int32} {wd v : Int} (h53 : H'[53]? = H[53]?) (hg : nI2 H 53 16 g) (hc : H'[c]? = H[c]?) : (wAt H' g wd v)[c]? = (wAt H g wd v)[c]? := by
  unfold wAt
  by_cases e : c = 53
  · subst e
    have l1 : 53 < H.length := (List.getElem?_eq_some_iff.mp hg).1
    have l2 : 53 < H'.length := (List.getElem?_eq_some_iff.mp (h53.trans hg)).1
    rw [List.getElem?_set_self l1, List.getElem?_set_self l2]
  · rw [List.getElem?_set_ne (Ne.symm e), List.getElem?_set_ne (Ne.symm e)]
    exact hc
theorem wJX_fr {zs : List Int} (hd : ∀ j ∈ [53, 54, 55, 57, 65, 66, 67, 68, 69, 84], H'[j]? = H[j]?) (q : wJX H zs) : wJX H' zs := by
  unfold wJX at q ⊢
  split at q
  · obtain ⟨g, q1, q2⟩ := q
    refine ⟨g, (hd 84 (by simp)).trans q1, ?_⟩
    rw [jN_fr hd]
    exact q2
  · exact q.elim
theorem wJV_fr {hl b le w one bd wd v r : Int} (hd : ∀ j ∈ [53, 54, 55, 57, 65, 66, 67, 68, 69, 84], H'[j]? = H[j]?) (q : wJV H hl b le w one bd wd v r) : wJV H' hl b le w one bd wd v r := by
  obtain ⟨q1, q2, g, q3, q4⟩ := q
  exact ⟨q1, q2, g, (hd 53 (by simp)).trans q3, wJX_fr (fun j hj => wAt_fr (hd 53 (by simp)) q3 (hd j hj)) q4⟩
theorem wBD_fr {hl b le w ow bd wd n : Int} (hd : ∀ j ∈ [53, 54, 55, 57, 65, 66, 67, 68, 69, 84], H'[j]? = H[j]?) (q : wBD H hl b le w ow bd wd n) : wBD H' hl b le w ow bd wd n := by
  obtain ⟨q1, q2, ⟨g, q3⟩, q4⟩ := q
  refine ⟨q1, q2, ⟨g, (hd 53 (by simp)).trans q3⟩, fun v h1 h2 => ?_⟩
  obtain ⟨r, h3, h4⟩ := q4 v h1 h2
  exact ⟨r, h3, wJV_fr hd h4⟩
theorem pG_fr {hl one : Int} (ar : ∀ j ∈ nAR, H'[j]? = H[j]?) (h53 : H'[53]? = H[53]?) (h54 : H'[54]? = H[54]?) (h55 : H'[55]? = H[55]?) (h57 : H'[57]? = H[57]?) : pG H' hl one = pG H hl one := by
  funext w k b g
  apply propext
  constructor
  · rintro ⟨v, ⟨k1, k2⟩, k3⟩
    obtain ⟨ty, n, arr, q1, q2⟩ := k1
    exact ⟨v, ⟨⟨ty, n, arr, h57.symm.trans q1, q2⟩, k2⟩, nGV_fr (fun j hj => (ar j hj).symm) h53.symm h54.symm h55.symm k3⟩
  · rintro ⟨v, ⟨k1, k2⟩, k3⟩
    obtain ⟨ty, n, arr, q1, q2⟩ := k1
    exact ⟨v, ⟨⟨ty, n, arr, h57.trans q1, q2⟩, k2⟩, nGV_fr ar h53 h54 h55 k3⟩
theorem pC_fr {hl b one x n N : Int} {F F' : pP → Prop} (hd : ∀ j ∈ [53, 54, 55, 57, 65, 66, 67, 68, 69, 84], H'[j]? = H[j]?) (hF : ∀ P, F P → F' P) (h : pC H hl b one x n N F) : pC H' hl b one x n N F' := by
  obtain ⟨g, fn, fk, fl, h1, ⟨h2, h3, h4⟩, h5⟩ := h
  refine ⟨g, fn, fk, fl, (hd 84 (by simp)).trans h1, ⟨(hd 53 (by simp)).trans h2, (hd 54 (by simp)).trans h3, (hd 55 (by simp)).trans h4⟩, ?_⟩
  unfold pQ
  rw [pG_fr (fun j hj => hd j (by have hj : j ∈ [65, 66, 67, 68, 69] := hj; simp only [List.mem_cons, List.not_mem_nil, or_false] at hj; rcases hj with rfl | rfl | rfl | rfl | rfl <;> simp)) (hd 53 (by simp)) (hd 54 (by simp)) (hd 55 (by simp)) (hd 57 (by simp))]
  exact hF _ h5
theorem pPr_fr {P : pP} {k : Nat} {zs : List Int} (h29 : k = 300 ∨ k = 302 ∨ k = 303 → H'[29]? = H[29]?) (h75 : k = 311 → H'[75]? = H[75]?) (q : pPr H P k zs) : pPr H' P k zs := by
  unfold pPr at q ⊢
  split at q
  · exact q
  · by_cases c : k = 300
    · rw [if_pos c] at q ⊢
      obtain ⟨f, q1, q2⟩ := q
      exact ⟨f, (h29 (Or.inl c)).trans q1, q2⟩
    · rw [if_neg c] at q ⊢
      exact q
  · by_cases c : k = 311
    · rw [if_pos c] at q ⊢
      obtain ⟨f, q1, q2⟩ := q
      exact ⟨f, (h75 c).trans q1, q2⟩
    · rw [if_neg c] at q ⊢
      exact q
  · by_cases c : k = 302
    · rw [if_pos c] at q ⊢
      obtain ⟨f, q1, q2⟩ := q
      exact ⟨f, (h29 (Or.inr (Or.inl c))).trans q1, q2⟩
    · rw [if_neg c] at q ⊢
      exact q
  · exact q
  · by_cases c : k = 303
    · rw [if_pos c] at q ⊢
      obtain ⟨f, f0, q1, q2⟩ := q
      exact ⟨f, f0, (h29 (Or.inr (Or.inr c))).trans q1, q2⟩
    · rw [if_neg c] at q ⊢
      exact q
  · exact q
theorem pNP_fr {b le m : Int} (h : H'[84]? = H[84]?) (q : pNP H b le m) : pNP H' b le m := by
  obtain ⟨g, q1, q2⟩ := q
  exact ⟨g, h.trans q1, q2⟩
theorem pNK_fr {b le m : Int} (h : H'[84]? = H[84]?) (q : pNK H b le m) : pNK H' b le m := by
  obtain ⟨g, q1, q2⟩ := q
  exact ⟨g, h.trans q1, q2⟩
theorem padUP_fr {k : Nat} {zs : List Int} (hd : ∀ j ∈ padUD k, H'[j]? = H[j]?) (q : padUP k zs H) : padUP k zs H' := by
  unfold padUD at hd
  unfold padUP at q ⊢
  by_cases c1 : k = 321
  · rw [if_pos c1] at hd q ⊢
    obtain ⟨h0, c, fs, h1, h2⟩ := q
    exact ⟨h0, c, fs, (hd 27 (by simp)).trans h1, h2⟩
  rw [if_neg c1] at hd q ⊢
  by_cases c2 : k = 328 ∨ k = 329
  · rw [if_pos c2] at hd q ⊢
    obtain ⟨a, h0, f, h1, h2⟩ := q
    exact ⟨a, h0, f, (hd _ (by simp)).trans h1, h2⟩
  rw [if_neg c2] at hd q ⊢
  by_cases c3 : k = 344
  · rw [if_pos c3] at hd q ⊢
    obtain ⟨a, h0, f, h1, h2⟩ := q
    exact ⟨a, h0, f, (hd 75 (by simp)).trans h1, h2⟩
  rw [if_neg c3] at hd q ⊢
  have hA : ∀ j ∈ [53, 54, 55, 57, 65, 66, 67, 68, 69, 84], H'[j]? = H[j]? := fun j hj => hd j (by
    split
    · exact List.mem_append_left [30 + k % 2] hj
    · split
      · exact List.mem_append_left [75] hj
      · exact hj)
  by_cases c4 : k = 343
  · rw [if_pos c4] at q ⊢
    obtain ⟨hl, b, le, ox, N, r, h0, n, q1, q2⟩ := q
    exact ⟨hl, b, le, ox, N, r, h0, n, pNK_fr (hA 84 (by simp)) q1, pC_fr hA (fun _ h => h) q2⟩
  rw [if_neg c4] at q ⊢
  split at q
  · refine pC_fr hA (fun P h => ?_) q
    unfold dPr at h ⊢
    by_cases d1 : k < 332
    · rw [if_pos d1] at h ⊢
      obtain ⟨f, h1, h2⟩ := h
      rw [if_pos (show k < 338 by omega)] at hd
      exact ⟨f, (hd _ (by simp)).trans h1, h2⟩
    rw [if_neg d1] at h ⊢
    by_cases d2 : k < 338
    · rw [if_pos d2] at h hd ⊢
      obtain ⟨f, h1, h2⟩ := h
      exact ⟨f, (hd _ (by simp)).trans h1, h2⟩
    rw [if_neg d2] at h hd ⊢
    by_cases d3 : 345 ≤ k ∧ k < 350
    · rw [if_pos d3] at h hd ⊢
      obtain ⟨f, h1, h2⟩ := h
      exact ⟨f, (hd 75 (by simp)).trans h1, h2⟩
    rw [if_neg d3] at h ⊢
    exact h
  · exact q.elim
theorem safUP_fr {k : Nat} {zs : List Int} (hd : ∀ j ∈ safUD k, H'[j]? = H[j]?) (q : safUP k zs H) : safUP k zs H' := by
  by_cases c321 : 321 ≤ k
  · unfold safUD at hd
    rw [if_pos c321] at hd
    unfold safUP at q ⊢
    rw [if_pos c321] at q ⊢
    exact padUP_fr hd q
  by_cases c1 : k = 294
  · subst c1
    obtain ⟨a, b, h0, S, g, q1, q2, q3⟩ : ∃ a b, zs = [a, b] ∧ nSP 28 8 a b H := q
    exact show ∃ a b, zs = [a, b] ∧ nSP 28 8 a b H' from ⟨a, b, h0, S, g, (hd 28 (by decide)).trans q1, (hd 84 (by decide)).trans q2, q3⟩
  by_cases c2 : k = 295
  · subst c2
    obtain ⟨a, b, h0, S, g, q1, q2, q3⟩ : ∃ a b, zs = [a, b] ∧ nSP 73 8 a b H := q
    exact show ∃ a b, zs = [a, b] ∧ nSP 73 8 a b H' from ⟨a, b, h0, S, g, (hd 73 (by decide)).trans q1, (hd 84 (by decide)).trans q2, q3⟩
  by_cases c3 : k = 296
  · subst c3
    obtain ⟨b, le, m, h0, q1⟩ : ∃ b le m, zs = [b, le, m] ∧ pNP H b le m := q
    exact show ∃ b le m, zs = [b, le, m] ∧ pNP H' b le m from ⟨b, le, m, h0, pNP_fr (hd 84 (by decide)) q1⟩
  by_cases c4 : k = 297
  · subst c4
    obtain ⟨b, le, m, h0, q1⟩ : ∃ b le m, zs = [b, le, m] ∧ pNK H b le m := q
    exact show ∃ b le m, zs = [b, le, m] ∧ pNK H' b le m from ⟨b, le, m, h0, pNK_fr (hd 84 (by decide)) q1⟩
  by_cases c5 : k = 298
  · subst c5
    obtain ⟨b, n, k, w, m, h0, g, fn, fk, q1, q2, q3, q4⟩ : ∃ b n k w m, zs = [b, n, k, w, m] ∧ pBB H b n k w m := q
    exact show ∃ b n k w m, zs = [b, n, k, w, m] ∧ pBB H' b n k w m from ⟨b, n, k, w, m, h0, g, fn, fk, (hd 84 (by decide)).trans q1, (hd 53 (by decide)).trans q2, (hd 54 (by decide)).trans q3, q4⟩
  by_cases c6 : k = 299
  · subst c6
    obtain ⟨b, n, k, w, m, h0, g, fn, q1, q2, q4⟩ : ∃ b n k w be, zs = [b, n, k, w, be] ∧ pBW H b n k w be := q
    exact show ∃ b n k w be, zs = [b, n, k, w, be] ∧ pBW H' b n k w be from ⟨b, n, k, w, m, h0, g, fn, (hd 84 (by decide)).trans q1, (hd 53 (by decide)).trans q2, q4⟩
  by_cases c7 : k = 301
  · subst c7
    obtain ⟨a, b, m, h0, f, q1, q2⟩ : ∃ k be m, zs = [k, be, m] ∧ pRC H k be m := q
    exact show ∃ k be m, zs = [k, be, m] ∧ pRC H' k be m from ⟨a, b, m, h0, f, (hd 29 (by decide)).trans q1, q2⟩
  have sub : ∀ {c : List Nat}, (∀ j ∈ nAR, j ∈ c) → (∀ j ∈ c, H'[j]? = H[j]?) → ∀ j ∈ nAR, H'[j]? = H[j]? := fun h1 h2 j hj => h2 j (h1 j hj)
  by_cases c8 : k = 308
  · subst c8
    obtain ⟨hl, one, N, p, a, w, h0, hN, f, q1, q2⟩ : ∃ hl one N p a w, zs = [hl, one, N, p, a, w] ∧ pGT H hl one N p a w := q
    exact show ∃ hl one N p a w, zs = [hl, one, N, p, a, w] ∧ pGT H' hl one N p a w from ⟨hl, one, N, p, a, w, h0, hN, f, (hd 74 (by decide)).trans q1, fun p' a' w' h1 h2 h3 h4 h5 => nGW_fr (sub (by decide) hd) (hd 53 (by decide)) (hd 54 (by decide)) (hd 55 (by decide)) (hd 57 (by decide)) (q2 p' a' w' h1 h2 h3 h4 h5)⟩
  by_cases c9 : k = 309
  · subst c9
    obtain ⟨hl, w, p, a, one, g, h0, q1⟩ : ∃ hl w p a one g, zs = [hl, w, p, a, one, g] ∧ nGW hl w p (pA a) one g H := q
    exact show ∃ hl w p a one g, zs = [hl, w, p, a, one, g] ∧ nGW hl w p (pA a) one g H' from ⟨hl, w, p, a, one, g, h0, nGW_fr (sub (by decide) hd) (hd 53 (by decide)) (hd 54 (by decide)) (hd 55 (by decide)) (hd 57 (by decide)) q1⟩
  by_cases c10 : k = 310
  · subst c10
    obtain ⟨N, a, q⟩ : ∃ N a, zs = [N, a] ∧ (a = 16 ∨ (0 ≤ a ∧ a < N)) := q
    exact show ∃ N a, zs = [N, a] ∧ (a = 16 ∨ (0 ≤ a ∧ a < N)) from ⟨N, a, q⟩
  by_cases c11 : k = 320
  · subst c11
    obtain ⟨hl, b, le, ox, N, kq, r, h0, n, q1, q2⟩ : ∃ hl b le ox N kq r, zs = [hl, b, le, ox, N, kq, r] ∧ ∃ n, pNK H b le n ∧ pC H hl b (sOp 9 ox 100) (sOp 10 ox 100) n N (fun P => pSx P kq r) := q
    exact show ∃ hl b le ox N kq r, zs = [hl, b, le, ox, N, kq, r] ∧ ∃ n, pNK H' b le n ∧ pC H' hl b (sOp 9 ox 100) (sOp 10 ox 100) n N (fun P => pSx P kq r) from ⟨hl, b, le, ox, N, kq, r, h0, n, pNK_fr (hd 84 (by decide)) q1, pC_fr (fun j hj => hd j hj) (fun _ h => h) q2⟩
  unfold safUP at q ⊢
  rw [if_neg c321, if_neg c1, if_neg c2, if_neg c3, if_neg c4, if_neg c5, if_neg c6, if_neg c7, if_neg c8, if_neg c9, if_neg c10, if_neg c11] at q ⊢
  have e : safUD k = if k = 300 ∨ k = 302 ∨ k = 303 then [53, 54, 55, 57, 65, 66, 67, 68, 69, 84, 29] else if k = 311 then [53, 54, 55, 57, 65, 66, 67, 68, 69, 84, 75] else [53, 54, 55, 57, 65, 66, 67, 68, 69, 84] := by
    unfold safUD
    rw [if_neg c321, if_neg c1, if_neg c2, if_neg (by omega), if_neg c5, if_neg c6, if_neg c7, if_neg c8, if_neg c9, if_neg c10]
  rw [e] at hd
  have hA : ∀ j ∈ [53, 54, 55, 57, 65, 66, 67, 68, 69, 84], H'[j]? = H[j]? := fun j hj => hd j (by
    split
    · exact List.mem_append_left [29] hj
    · split
      · exact List.mem_append_left [75] hj
      · exact hj)
  split at q
  · refine pC_fr hA (fun P h => pPr_fr (fun c => hd 29 ?_) (fun c => hd 75 ?_) h) q
    · rw [if_pos c]
      decide
    · rw [if_neg (by omega), if_pos c]
      decide
  · exact q.elim
theorem wUP_fr {k : Nat} {zs : List Int} (hd : ∀ j ∈ wUD k, H'[j]? = H[j]?) (q : wUP k zs H) : wUP k zs H' := by
  by_cases c294 : 294 ≤ k
  · unfold wUD at hd
    rw [if_pos c294] at hd
    unfold wUP at q ⊢
    rw [if_neg (by omega), if_neg (by omega), if_neg (by omega), if_neg (by omega), if_neg (by omega), if_neg (by omega), if_neg (by omega), if_neg (by omega), if_neg (by omega), if_neg (by omega), if_neg (by omega), if_neg (by omega), if_pos c294] at q ⊢
    exact safUP_fr hd q
  by_cases c290 : k = 290
  · subst c290
    obtain ⟨h0, f, g, h1, h2⟩ : zs = [] ∧ ∃ f g, nI2 H 3 16 f ∧ nI2 H 53 16 g := q
    exact show zs = [] ∧ ∃ f g, nI2 H' 3 16 f ∧ nI2 H' 53 16 g from ⟨h0, f, g, (hd 3 (by decide)).trans h1, (hd 53 (by decide)).trans h2⟩
  by_cases c291 : 291 ≤ k
  · have hd : ∀ j ∈ [53, 54, 55, 57, 65, 66, 67, 68, 69, 84], H'[j]? = H[j]? := by
      unfold wUD at hd
      rw [if_neg c294, if_neg c290, if_pos c291] at hd
      exact hd
    unfold wUP at q ⊢
    rw [if_neg (by omega), if_neg (by omega), if_neg (by omega), if_neg (by omega), if_neg (by omega), if_neg (by omega), if_neg (by omega), if_neg (by omega), if_neg c290] at q ⊢
    split at q
    · rename_i e
      rw [if_pos e]
      obtain ⟨a, b, c, d, e, f, g, h, r, h0, h1⟩ := q
      exact ⟨a, b, c, d, e, f, g, h, r, h0, wJV_fr hd h1⟩
    · rename_i e
      rw [if_neg e]
      split at q
      · rename_i e
        rw [if_pos e]
        obtain ⟨a, b, c, d, e, f, g, h, h0, h1⟩ := q
        exact ⟨a, b, c, d, e, f, g, h, h0, wBD_fr hd h1⟩
      · rename_i e
        rw [if_neg e]
        split at q
        · rename_i e
          rw [if_pos e]
          obtain ⟨a, b, c, d, e, f, g, h, h0, h1⟩ := q
          exact ⟨a, b, c, d, e, f, g, h, h0, h1.imp (fun q => ⟨q.1, wBD_fr hd q.2⟩) (fun q => ⟨q.1, q.2.1, wBD_fr hd q.2.2.1, wJV_fr hd q.2.2.2⟩)⟩
        · exact q.elim
  by_cases c201 : k = 201
  · subst c201
    have hv : ∀ j ∈ wUD 201, (viewC H')[j]? = (viewC H)[j]? := fun j hj => viewC_fr (hd 3 (by decide)) (hd 53 (by decide)) (hd j hj)
    have ar : ∀ j ∈ nAR, (viewC H')[j]? = (viewC H)[j]? := fun j hj => hv j (by have hj : j ∈ [65, 66, 67, 68, 69] := hj; simp only [List.mem_cons, List.not_mem_nil, or_false] at hj; rcases hj with rfl | rfl | rfl | rfl | rfl <;> decide)
    obtain ⟨h, w, p, b, v, r, h0, h1⟩ : ∃ h w p b v r, zs = [h, w, p, b, v, r] ∧ nGV h w p b v r (viewC H) := q
    exact show ∃ h w p b v r, zs = [h, w, p, b, v, r] ∧ nGV h w p b v r (viewC H') from ⟨h, w, p, b, v, r, h0, nGV_fr ar (hv 53 (by decide)) (hv 54 (by decide)) (hv 55 (by decide)) h1⟩
  by_cases c202 : k = 202
  · subst c202
    have hv : ∀ j ∈ wUD 202, (viewC H')[j]? = (viewC H)[j]? := fun j hj => viewC_fr (hd 3 (by decide)) (hd 53 (by decide)) (hd j hj)
    have ar : ∀ j ∈ nAR, (viewC H')[j]? = (viewC H)[j]? := fun j hj => hv j (by have hj : j ∈ [65, 66, 67, 68, 69] := hj; simp only [List.mem_cons, List.not_mem_nil, or_false] at hj; rcases hj with rfl | rfl | rfl | rfl | rfl <;> decide)
    obtain ⟨a, b, h0, G, g1, g2⟩ : ∃ a b, zs = [a, b] ∧ nCA a b (-1) (viewC H) := q
    exact show ∃ a b, zs = [a, b] ∧ nCA a b (-1) (viewC H') from ⟨a, b, h0, G, (hv 26 (by decide)).trans g1, fun key h1 h2 => ⟨(g2 key h1 h2).1, fun e => nGV_fr ar (hv 53 (by decide)) (hv 54 (by decide)) (hv 55 (by decide)) ((g2 key h1 h2).2 e)⟩⟩
  by_cases c203 : k = 203
  · subst c203
    have hv : ∀ j ∈ wUD 203, (viewC H')[j]? = (viewC H)[j]? := fun j hj => viewC_fr (hd 3 (by decide)) (hd 53 (by decide)) (hd j hj)
    have ar : ∀ j ∈ nAR, (viewC H')[j]? = (viewC H)[j]? := fun j hj => hv j (by have hj : j ∈ [65, 66, 67, 68, 69] := hj; simp only [List.mem_cons, List.not_mem_nil, or_false] at hj; rcases hj with rfl | rfl | rfl | rfl | rfl <;> decide)
    obtain ⟨a, b, c, h0, G, g1, g2⟩ : ∃ a b c, zs = [a, b, c] ∧ nCA a b c (viewC H) := q
    exact show ∃ a b c, zs = [a, b, c] ∧ nCA a b c (viewC H') from ⟨a, b, c, h0, G, (hv 26 (by decide)).trans g1, fun key h1 h2 => ⟨(g2 key h1 h2).1, fun e => nGV_fr ar (hv 53 (by decide)) (hv 54 (by decide)) (hv 55 (by decide)) ((g2 key h1 h2).2 e)⟩⟩
  by_cases c205 : k = 205
  · subst c205
    have hv : ∀ j ∈ wUD 205, (viewC H')[j]? = (viewC H)[j]? := fun j hj => viewC_fr (hd 3 (by decide)) (hd 53 (by decide)) (hd j hj)
    have ar : ∀ j ∈ nAR, (viewC H')[j]? = (viewC H)[j]? := fun j hj => hv j (by have hj : j ∈ [65, 66, 67, 68, 69] := hj; simp only [List.mem_cons, List.not_mem_nil, or_false] at hj; rcases hj with rfl | rfl | rfl | rfl | rfl <;> decide)
    obtain ⟨h, w, p, a, o, r, h0, h1⟩ : ∃ h w p a o r, zs = [h, w, p, a, o, r] ∧ nGW h w p a o r (viewC H) := q
    exact show ∃ h w p a o r, zs = [h, w, p, a, o, r] ∧ nGW h w p a o r (viewC H') from ⟨h, w, p, a, o, r, h0, nGW_fr ar (hv 53 (by decide)) (hv 54 (by decide)) (hv 55 (by decide)) (hv 57 (by decide)) h1⟩
  by_cases c208 : k = 208
  · subst c208
    have hv : ∀ j ∈ wUD 208, (viewC H')[j]? = (viewC H)[j]? := fun j hj => viewC_fr (hd 3 (by decide)) (hd 53 (by decide)) (hd j hj)
    have ar : ∀ j ∈ nAR, (viewC H')[j]? = (viewC H)[j]? := fun j hj => hv j (by have hj : j ∈ [65, 66, 67, 68, 69] := hj; simp only [List.mem_cons, List.not_mem_nil, or_false] at hj; rcases hj with rfl | rfl | rfl | rfl | rfl <;> decide)
    obtain ⟨h, b, o, j, u, m, h0, h1⟩ : ∃ h b o j u m, zs = [h, b, o, j, u, m] ∧ nNF h b o j u m (viewC H) := q
    exact show ∃ h b o j u m, zs = [h, b, o, j, u, m] ∧ nNF h b o j u m (viewC H') from ⟨h, b, o, j, u, m, h0, nNF_fr ar (hv 53 (by decide)) (hv 54 (by decide)) (hv 55 (by decide)) (hv 57 (by decide)) (hv 84 (by decide)) h1⟩
  by_cases c209 : k = 209
  · subst c209
    have hv : ∀ j ∈ wUD 209, (viewC H')[j]? = (viewC H)[j]? := fun j hj => viewC_fr (hd 3 (by decide)) (hd 53 (by decide)) (hd j hj)
    have ar : ∀ j ∈ nAR, (viewC H')[j]? = (viewC H)[j]? := fun j hj => hv j (by have hj : j ∈ [65, 66, 67, 68, 69] := hj; simp only [List.mem_cons, List.not_mem_nil, or_false] at hj; rcases hj with rfl | rfl | rfl | rfl | rfl <;> decide)
    obtain ⟨h, b, o, j, m, h0, u, h1⟩ : ∃ h b o j m, zs = [h, b, o, j, m] ∧ ∃ u, nNF h b o j u m (viewC H) := q
    exact show ∃ h b o j m, zs = [h, b, o, j, m] ∧ ∃ u, nNF h b o j u m (viewC H') from ⟨h, b, o, j, m, h0, u, nNF_fr ar (hv 53 (by decide)) (hv 54 (by decide)) (hv 55 (by decide)) (hv 57 (by decide)) (hv 84 (by decide)) h1⟩
  by_cases c267 : k = 267
  · subst c267
    have hv : ∀ j ∈ wUD 267, (viewC H')[j]? = (viewC H)[j]? := fun j hj => viewC_fr (hd 3 (by decide)) (hd 53 (by decide)) (hd j hj)
    obtain ⟨g, q1, q2⟩ : ∃ g, kLg 84 360 g (viewC H) ∧ jPn g (viewC H) 147 zs := q
    exact show ∃ g, kLg 84 360 g (viewC H') ∧ jPn g (viewC H') 147 zs from ⟨g, (hv 84 (by decide)).trans q1, by rw [jPn_fr (fun j hj => hv j (List.mem_cons_of_mem 3 hj))]; exact q2⟩
  by_cases c268 : k = 268
  · subst c268
    have hv : ∀ j ∈ wUD 268, (viewC H')[j]? = (viewC H)[j]? := fun j hj => viewC_fr (hd 3 (by decide)) (hd 53 (by decide)) (hd j hj)
    obtain ⟨g, q1, q2⟩ : ∃ g, kLg 84 360 g (viewC H) ∧ jPn g (viewC H) 148 zs := q
    exact show ∃ g, kLg 84 360 g (viewC H') ∧ jPn g (viewC H') 148 zs from ⟨g, (hv 84 (by decide)).trans q1, by rw [jPn_fr (fun j hj => hv j (List.mem_cons_of_mem 3 hj))]; exact q2⟩
  unfold wUP at q
  rw [if_neg c201, if_neg c202, if_neg c203, if_neg c205, if_neg c208, if_neg c209, if_neg c267, if_neg c268, if_neg c290, if_neg (show ¬ k = 291 by omega), if_neg (show ¬ k = 292 by omega), if_neg (show ¬ k = 293 by omega), if_neg c294] at q
  exact q.elim
theorem vUP_fr {k : Nat} {zs : List Int} (hd : ∀ j ∈ [53, 54, 55, 57, 65, 66, 67, 68, 69, 84], H'[j]? = H[j]?) (q : vUP k zs H) : vUP k zs H' := by
  have ar : ∀ j ∈ nAR, H'[j]? = H[j]? := fun j hj => hd j (by have hj : j ∈ [65, 66, 67, 68, 69] := hj; simp only [List.mem_cons, List.not_mem_nil, or_false] at hj; rcases hj with rfl | rfl | rfl | rfl | rfl <;> simp)
  have e0 : ∀ hl v n a one r, nGW hl v n a one r H' = nGW hl v n a one r H := fun hl v n a one r => by
    have e := aGH_fr ar (hd 53 (by simp)) (hd 54 (by simp)) (hd 55 (by simp)) (hd 57 (by simp))
    exact congrFun (congrFun (congrFun (congrFun (congrFun (congrFun e hl) v) n) a) one) r
  have e1 : ∀ hl base one n o m, nNF hl base one n o m H' = nNF hl base one n o m H := fun hl base one n o m => propext ⟨fun q => nNF_fr (fun j hj => (ar j hj).symm) (hd 53 (by simp)).symm (hd 54 (by simp)).symm (hd 55 (by simp)).symm (hd 57 (by simp)).symm (hd 84 (by simp)).symm q, fun q => nNF_fr ar (hd 53 (by simp)) (hd 54 (by simp)) (hd 55 (by simp)) (hd 57 (by simp)) (hd 84 (by simp)) q⟩
  have e2 : vNW H' = vNW H := by
    funext g hl base one n v x
    unfold vNW
    simp only [e0, e1]
  have e3 : vHt H' = vHt H := by
    funext g hl base one n bd v
    unfold vHt
    rw [e2]
  obtain ⟨g, q1, q2⟩ := q
  refine ⟨g, (hd 84 (by simp)).trans q1, ?_⟩
  unfold vPr at q2 ⊢
  simp only [jN_fr hd, e2, e3]
  exact q2
theorem tUP_fr {k : Nat} {zs : List Int} (hd : ∀ j ∈ mUD k, H'[j]? = H[j]?) (hk : 135 ≤ k) (q : tUP k zs H) : tUP k zs H' := by
  unfold mUD at hd
  rw [if_neg (by omega), if_neg (by omega), if_pos hk] at hd
  unfold tUP at q ⊢
  by_cases cw : 173 ≤ k
  · rw [if_pos cw] at q hd ⊢
    exact wUP_fr hd q
  rw [if_neg cw] at q hd ⊢
  by_cases cv : 157 ≤ k
  · rw [if_pos cv] at q hd ⊢
    exact vUP_fr hd q
  rw [if_neg cv] at q hd ⊢
  by_cases cy : 153 ≤ k
  · rw [if_pos cy] at q hd ⊢
    exact yUP_fr hd q
  rw [if_neg cy] at q hd ⊢
  by_cases cj : 145 ≤ k
  · rw [if_pos cj] at q ⊢
    refine jUP_fr (fun j hj => hd j ?_) q
    by_cases c : 147 ≤ k ∧ k < 150
    · rw [if_pos c] at hj ⊢
      exact hj
    · rw [if_neg c] at hj
      rw [if_neg c, if_pos cj]
      exact hj
  rw [if_neg cj] at q ⊢
  rw [if_neg (by omega), if_neg cj] at hd
  by_cases c : k = 140 ∨ k = 141 ∨ k = 143
  · rw [if_pos c] at q hd ⊢
    obtain ⟨f, g, q1, q2, q3⟩ := q
    exact ⟨f, g, (hd 56 (by simp)).trans q1, (hd 76 (by simp)).trans q2, q3⟩
  · rw [if_neg c] at q hd ⊢
    obtain ⟨f, q1, q3⟩ := q
    exact ⟨f, (hd 56 (by simp)).trans q1, q3⟩
end NFRM
theorem mUP_fr (k : Nat) (zs : List Int) (H H' : List eE) (hd : ∀ j ∈ mUD k, H'[j]? = H[j]?) (h : mUP k zs H) : mUP k zs H' := by
  by_cases c110 : k = 110
  · subst c110
    obtain ⟨hl, b, o, d, j, u, h0, m, h1, h2⟩ : ∃ h b o d j u, zs = [h, b, o, d, j, u] ∧ nPB h b o d j u H := h
    show ∃ h b o d j u, zs = [h, b, o, d, j, u] ∧ nPB h b o d j u H'
    exact ⟨hl, b, o, d, j, u, h0, m, nNF_fr (fun j hj => hd j (by have hj : j ∈ [65, 66, 67, 68, 69] := hj; simp only [List.mem_cons, List.not_mem_nil, or_false] at hj; rcases hj with rfl | rfl | rfl | rfl | rfl <;> decide)) (hd 53 (by decide)) (hd 54 (by decide)) (hd 55 (by decide)) (hd 57 (by decide)) (hd 84 (by decide)) h1, h2⟩
  by_cases c111 : k = 111
  · subst c111
    obtain ⟨hl, b, o, d, n, r, h0, h⟩ : ∃ h b o d n r, zs = [h, b, o, d, n, r] ∧ nPF h b o d n r H := h
    show ∃ h b o d n r, zs = [h, b, o, d, n, r] ∧ nPF h b o d n r H'
    refine ⟨hl, b, o, d, n, r, h0, ?_⟩
    rcases h with ⟨h1, h2⟩ | ⟨h1, h2, h3, u, m, h4, h5⟩
    · exact Or.inl ⟨h1, nPM_fr (fun j hj => hd j (by have hj : j ∈ [65, 66, 67, 68, 69] := hj; simp only [List.mem_cons, List.not_mem_nil, or_false] at hj; rcases hj with rfl | rfl | rfl | rfl | rfl <;> decide)) (hd 53 (by decide)) (hd 54 (by decide)) (hd 55 (by decide)) (hd 57 (by decide)) (hd 84 (by decide)) h2⟩
    · exact Or.inr ⟨h1, h2, nPM_fr (fun j hj => hd j (by have hj : j ∈ [65, 66, 67, 68, 69] := hj; simp only [List.mem_cons, List.not_mem_nil, or_false] at hj; rcases hj with rfl | rfl | rfl | rfl | rfl <;> decide)) (hd 53 (by decide)) (hd 54 (by decide)) (hd 55 (by decide)) (hd 57 (by decide)) (hd 84 (by decide)) h3, u, m, nNF_fr (fun j hj => hd j (by have hj : j ∈ [65, 66, 67, 68, 69] := hj; simp only [List.mem_cons, List.not_mem_nil, or_false] at hj; rcases hj with rfl | rfl | rfl | rfl | rfl <;> decide)) (hd 53 (by decide)) (hd 54 (by decide)) (hd 55 (by decide)) (hd 57 (by decide)) (hd 84 (by decide)) h4, h5⟩
  by_cases c112 : k = 112
  · subst c112
    obtain ⟨hl, b, o, d, j, h0, h⟩ : ∃ h b o d j, zs = [h, b, o, d, j] ∧ nPM h b o d j H := h
    show ∃ h b o d j, zs = [h, b, o, d, j] ∧ nPM h b o d j H'
    exact ⟨hl, b, o, d, j, h0, nPM_fr (fun j hj => hd j (by have hj : j ∈ [65, 66, 67, 68, 69] := hj; simp only [List.mem_cons, List.not_mem_nil, or_false] at hj; rcases hj with rfl | rfl | rfl | rfl | rfl <;> decide)) (hd 53 (by decide)) (hd 54 (by decide)) (hd 55 (by decide)) (hd 57 (by decide)) (hd 84 (by decide)) h⟩
  by_cases c135 : 135 ≤ k
  · have h : tUP k zs H := by
      unfold mUP at h
      rw [if_neg c110, if_neg c111, if_neg c112, if_pos c135] at h
      exact h
    have e := tUP_fr hd c135 h
    unfold mUP
    rw [if_neg c110, if_neg c111, if_neg c112, if_pos c135]
    exact e
  by_cases c113 : 113 ≤ k
  · have h : aUP k zs H := by
      unfold mUP at h
      rw [if_neg c110, if_neg c111, if_neg c112, if_neg c135, if_pos c113] at h
      exact h
    have e := aUP_fr hd c113 c135 h
    unfold mUP
    rw [if_neg c110, if_neg c111, if_neg c112, if_neg c135, if_pos c113]
    exact e
  unfold mUP at h
  rw [if_neg c110, if_neg c111, if_neg c112, if_neg c135, if_neg c113] at h
  exact h.elim
theorem nUD_m {k : Nat} (hk : 110 ≤ k) : nUD k = mUD k := by
  unfold nUD
  rw [if_neg (by omega), if_neg (by omega), if_neg (by omega), if_neg (by omega), if_neg (by omega), if_neg (by omega), if_neg (by omega), if_neg (by omega), if_neg (by omega), if_neg (by omega), if_neg (by omega), if_neg (by omega), if_neg (by omega), if_neg (by omega), if_neg (by omega), if_neg (by omega), if_neg (by omega), if_neg (by omega), if_neg (by omega), if_neg (by omega), if_neg (by omega), if_neg (by omega), if_neg (by omega), if_neg (by omega), if_neg (by omega), if_neg (by omega), if_neg (by omega), if_neg (by omega), if_neg (by omega), if_neg (by omega), if_neg (by omega), if_neg (by omega), if_neg (by omega), if_pos hk]
end
