/-! What put and shift answer, and what put keeps. -/
noncomputable section
def qPl (ls lo i j n : Int) : Int := if n < 0 ∨ i < 0 ∨ j < 0 ∨ ls - n < i ∨ lo - n < j then -13 else n
/-- shift: of the class' shelves, of the reference's -/
def qSh (hs ss ls ho so lo i j n : Int) : Int := if hs = 0 ∨ ho = 0 then -11 else if hs ≠ 2 ∨ ho ≠ 2 ∨ ss ≠ so then -12 else qPl ls lo i j n
def qSm (ms zs mo zo i j n : Int) : Int := if ms = -1 ∨ mo = -1 then -11 else if 0 ≤ ms ∨ ms ≠ mo then -12 else qPl zs zo i j n
def qIn (i le : Int) : Int := if i < 0 ∨ le ≤ i then -13 else 1
/-- put -/
def qPx (h le i : Int) : Int := if h = 0 then -11 else if h ≠ 2 then -12 else qIn i le
def qPm (m si i : Int) : Int := if m = -1 then -11 else if 0 ≤ m then -12 else qIn i si
/-- what a row of a sort keeps -/
def qCo (so : Int) (v : Int64) : Int64 := if so = 0 then v.toInt32.toInt8.toInt32.toInt64 else if so = 1 then v.toInt32.toInt16.toInt32.toInt64 else if so = 2 then v.toInt32.toInt64 else if so = 4 then (if v = 0 then 0 else 1) else v
def pUP (k : Nat) (zs : List Int) : Prop :=
  if k = 105 then (∃ a b c d e f i j n r, zs = [a, b, c, d, e, f, i, j, n, r] ∧ r = qSh a b c d e f i j n)
  else if k = 106 then (∃ a b c d i j n r, zs = [a, b, c, d, i, j, n, r] ∧ r = qSm a b c d i j n)
  else if k = 107 then (∃ a b i r, zs = [a, b, i, r] ∧ r = qPx a b i)
  else if k = 108 then (∃ a b i r, zs = [a, b, i, r] ∧ r = qPm a b i)
  else if k = 109 then (∃ so v w, zs = [so, v, w] ∧ Int64.ofInt w = qCo so (Int64.ofInt v))
  else False
end
