/-! E: the class files' methods as a plain function over an abstract heap. Values are the machine's own; a reference is a number of a cell of the abstract heap. -/
def eIn (i : Int32) (n : Nat) : Bool := !decide (i < 0) && decide (i.toNatClampNeg < n)
def eTag (v : Value) : Nat := match v with
  | .int _ => 0
  | .long _ => 1
  | .ref _ => 2
  | _ => 9
def eGetL (ls : List (Nat × Value)) (i : Nat) : Option Value := (ls.find? (fun q => q.1 == i)).map (fun q => q.2)
def eSt1 (ls : List (Nat × Value)) (i : Nat) (v : Value) : List (Nat × Value) := (i, v) :: ls.filter (fun q => !(q.1 == i) && !(q.1 + 1 == i && q.2.category == 2))
def eSt2 (ls : List (Nat × Value)) (i : Nat) (v : Value) : List (Nat × Value) := (i, v) :: ls.filter (fun q => !(q.1 == i) && (!(q.1 == i + 1) && !(q.1 + 1 == i && q.2.category == 2)))
def eBin (b : Nat) (x y : Int32) : Option Int32 :=
  if b = 0 then some (x + y) else if b = 1 then some (x - y) else if b = 2 then some (x * y) else if b = 3 then some (x &&& y) else if b = 4 then some (x ||| y) else if b = 5 then some (x ^^^ y)
  else if b = 6 then some (x <<< (y &&& 31)) else if b = 7 then some (x >>> (y &&& 31)) else if b = 8 then some ((x.toUInt32 >>> (y.toUInt32 &&& Int32.toUInt32 31)).toInt32)
  else if b = 9 then (if y = 0 then none else some (x / y)) else if b = 10 then (if y = 0 then none else some (x - x / y * y)) else none
def eLin (b : Nat) (x y : Int64) : Option Int64 :=
  if b = 0 then some (x + y) else if b = 1 then some (x - y) else if b = 2 then some (x * y) else if b = 3 then some (x &&& y) else if b = 4 then some (x ||| y) else if b = 5 then some (x ^^^ y)
  else if b = 9 then (if y = 0 then none else some (x / y)) else none
def eUn (b : Nat) (v : Value) : Option Value := match v with
  | .int x => if b = 0 then some (.int (-x)) else if b = 1 then some (.int x.toInt8.toInt32) else if b = 2 then some (.int x.toInt16.toInt32) else if b = 3 then some (.long x.toInt64) else none
  | .long x => if b = 4 then some (.int x.toInt32) else none
  | _ => none
/-- a condition on two ints -/
def eCmp (b : Nat) (x y : Int32) : Bool :=
  if b = 0 then decide (x = y) else if b = 1 then !decide (x = y) else if b = 2 then decide (x < y) else if b = 3 then decide (y ≤ x) else if b = 4 then decide (y < x) else decide (x ≤ y)
def eSw (sw : List (Int × Nat)) (d : Nat) (x : Int) : Nat := match sw with
  | [] => d
  | q :: r => if q.1 = x then q.2 else eSw r d x
def eRf (r : Option Nat) : Value := match r with
  | none => .null
  | some a => .ref a
section EDEF
variable (RO : List (Nat × (Nat → Int32))) (CL : List vw_C) (CT : Nat → Nat → FieldType)
def e3 (nx a b : Nat) (R : eR) : Option eR := match R with
  | (_, ls, st, G, c, s) => match eGetL ls a with
    | some v => if eTag v = b % 3 then some (nx, ls, v :: st, G, c, s) else none
    | none => none
def e4 (mL nx a b : Nat) (R : eR) : Option eR := match R with
  | (_, ls, v :: st, G, c, s) => if eTag v = b % 3 then (if b % 3 = 1 then (if a + 1 < mL then some (nx, eSt2 ls a v, st, G, c, s) else none) else (if a < mL then some (nx, eSt1 ls a v, st, G, c, s) else none)) else none
  | _ => none
def e5 (mL nx a : Nat) (z : Int) (R : eR) : Option eR := match R with
  | (_, ls, st, G, c, s) => match eGetL ls a with
    | some (.int x) => if a < mL then some (nx, eSt1 ls a (.int (x + Int32.ofInt z)), st, G, c, s) else none
    | _ => none
def e6 (nx b : Nat) (R : eR) : Option eR := match R with
  | (_, ls, .int y :: .int x :: st, G, c, s) => (eBin b x y).map fun v => (nx, ls, .int v :: st, G, c, s)
  | _ => none
def e7 (nx b : Nat) (R : eR) : Option eR := match R with
  | (_, ls, .long y :: .long x :: st, G, c, s) => (eLin b x y).map fun v => (nx, ls, .long v :: st, G, c, s)
  | _ => none
def e8 (nx b : Nat) (R : eR) : Option eR := match R with
  | (_, ls, v :: st, G, c, s) => (eUn b v).map fun w => (nx, ls, w :: st, G, c, s)
  | _ => none
def e9 (nx : Nat) (R : eR) : Option eR := match R with
  | (_, ls, .long y :: .long x :: st, G, c, s) => some (nx, ls, .int (lg_cmp x y) :: st, G, c, s)
  | _ => none
def e10 (nx : Nat) (R : eR) : Option eR := match R with
  | (_, ls, .int y :: .long x :: st, G, c, s) => some (nx, ls, .long (x <<< (y.toInt64 &&& 63)) :: st, G, c, s)
  | _ => none
def e12 (nx a b : Nat) (R : eR) : Option eR := match R with
  | (_, ls, .int x :: st, G, c, s) => some (if eCmp b x 0 then a else nx, ls, st, G, c, s)
  | _ => none
def e13 (nx a b : Nat) (R : eR) : Option eR := match R with
  | (_, ls, .int y :: .int x :: st, G, c, s) => some (if eCmp b x y then a else nx, ls, st, G, c, s)
  | _ => none
def e15 (a : Nat) (sw : List (Int × Nat)) (R : eR) : Option eR := match R with
  | (_, ls, .int x :: st, G, c, s) => some (eSw sw a x.toInt, ls, st, G, c, s)
  | _ => none
def e16 (nx b k : Nat) (R : eR) : Option eR := match R with
  | (_, ls, .ref q :: st, G, c, s) => if q < RO.length then none else match G[q - RO.length]? with
    | some (.inr (ci, fs)) => if ci = b then (fs[k]?).map fun v => (nx, ls, v :: st, G, c, s) else none
    | _ => none
  | _ => none
/-- what may stand in a field of a type -/
def eFit (ty : FieldType) (v : Value) : Bool := match v with
  | .ref _ => (match ty with
    | .object _ => true
    | .array _ => true
    | _ => false)
  | .int x => (match ty with
    | .int => true
    | .boolean => decide (x = 0) || decide (x = 1)
    | _ => false)
  | .long _ => (match ty with
    | .long => true
    | _ => false)
  | _ => false
def e17 (nx b k : Nat) (R : eR) : Option eR := match R with
  | (_, ls, v :: .ref q :: st, G, c, s) => if q < RO.length then none else match G[q - RO.length]? with
    | some (.inr (ci, fs)) => if ci = b ∧ k < fs.length ∧ eFit (CT b k) v = true then some (nx, ls, st, G.set (q - RO.length) (.inr (ci, fs.set k v)), c, s) else none
    | _ => none
  | _ => none
def e18 (nx b : Nat) (R : eR) : Option eR := match R with
  | (_, ls, st, G, c, s) => some (nx, ls, .ref b :: st, G, c, s)
def e19 (nx b : Nat) (R : eR) : Option eR := match R with
  | (_, ls, .int i :: .ref q :: st, G, c, s) => if q < RO.length then (match RO[q]? with
      | some (n, f) => if b = 0 ∧ eIn i n = true then some (nx, ls, .int (f i.toNatClampNeg) :: st, G, c, s) else none
      | none => none) else match G[q - RO.length]? with
    | some (.inl (ty, n, .inl f)) => if ((b = 0 ∧ ty = .int) ∨ (b = 1 ∧ ty = .byte) ∨ (b = 2 ∧ ty = .short)) ∧ eIn i n = true then some (nx, ls, .int (f i.toNatClampNeg) :: st, G, c, s) else none
    | some (.inl (ty, n, .inr (.inl f))) => if (b = 3 ∧ ty = .long) ∧ eIn i n = true then some (nx, ls, .long (f i.toNatClampNeg) :: st, G, c, s) else none
    | some (.inl (ty, n, .inr (.inr f))) => if (b = 4 ∧ ty.isReference = true) ∧ eIn i n = true then some (nx, ls, eRf (f i.toNatClampNeg) :: st, G, c, s) else none
    | _ => none
  | _ => none
def e20 (nx b : Nat) (R : eR) : Option eR := match R with
  | (_, ls, v :: .int i :: .ref q :: st, G, c, s) => if q < RO.length then none else match v, G[q - RO.length]? with
    | .int x, some (.inl (ty, n, .inl f)) => if eIn i n = true then
        (if b = 0 ∧ ty = .int then some (nx, ls, st, G.set (q - RO.length) (.inl (ty, n, .inl (upd f i.toNatClampNeg x))), c, s)
         else if b = 1 ∧ ty = .byte then some (nx, ls, st, G.set (q - RO.length) (.inl (ty, n, .inl (upd f i.toNatClampNeg (vp_nar .byte x)))), c, s)
         else if b = 2 ∧ ty = .short then some (nx, ls, st, G.set (q - RO.length) (.inl (ty, n, .inl (upd f i.toNatClampNeg (vp_nar .short x)))), c, s) else none) else none
    | .long x, some (.inl (ty, n, .inr (.inl f))) => if (b = 3 ∧ ty = .long) ∧ eIn i n = true then some (nx, ls, st, G.set (q - RO.length) (.inl (ty, n, .inr (.inl (vp_updL f i.toNatClampNeg x)))), c, s) else none
    | .ref r, some (.inl (ty, n, .inr (.inr f))) => if b = 4 ∧ eIn i n = true ∧ ¬ r < RO.length then (match G[r - RO.length]? with
        | some (.inr (ci, _)) => (match CL[ci]? with
          | some k => if ty = .object k.1 then some (nx, ls, st, G.set (q - RO.length) (.inl (ty, n, .inr (.inr (va_up f i.toNatClampNeg (some r))))), c, s) else none
          | none => none)
        | _ => none) else none
    | _, _ => none
  | _ => none
def e21 (nx : Nat) (R : eR) : Option eR := match R with
  | (_, ls, .ref q :: st, G, c, s) => if q < RO.length then (match RO[q]? with
      | some (n, _) => some (nx, ls, .int (Int32.ofNat n) :: st, G, c, s)
      | none => none) else match G[q - RO.length]? with
    | some (.inl (_, n, _)) => some (nx, ls, .int (Int32.ofNat n) :: st, G, c, s)
    | _ => none
  | _ => none
def e22 (nx b : Nat) (R : eR) : Option eR := match R with
  | (_, ls, st, G, c, s) => match CL[b]? with
    | some k => some (nx, ls, .ref (RO.length + G.length) :: st, G ++ [.inr (b, (List.range k.2.2).map (fun j => defaultValue (CT b j)))], c + 1, s + k.2.2)
    | none => none
def eNewK (b n : Nat) : Option eE :=
  if b = 0 then some (.inl (.int, n, .inl (fun _ => 0))) else if b = 1 then some (.inl (.byte, n, .inl (fun _ => 0))) else if b = 2 then some (.inl (.short, n, .inl (fun _ => 0))) else if b = 3 then some (.inl (.long, n, .inr (.inl (fun _ => 0)))) else none
def e23 (nx b : Nat) (R : eR) : Option eR := match R with
  | (_, ls, .int x :: st, G, c, s) => if x < 0 then none else if x.toNatClampNeg ≤ 65536 then (eNewK b x.toNatClampNeg).map fun y => (nx, ls, .ref (RO.length + G.length) :: st, G ++ [y], c + 1, s + x.toNatClampNeg) else none
  | _ => none
def e24 (nx b : Nat) (R : eR) : Option eR := match R with
  | (_, ls, .int x :: st, G, c, s) => if x < 0 then none else if x.toNatClampNeg ≤ 65536 then (match CL[b]? with
    | some k => some (nx, ls, .ref (RO.length + G.length) :: st, G ++ [.inl (.object k.1, x.toNatClampNeg, .inr (.inr (fun _ => none)))], c + 1, s + x.toNatClampNeg)
    | none => none) else none
  | _ => none
def e25 (nx : Nat) (R : eR) : Option eR := match R with
  | (_, ls, .int k :: .int n :: st, G, c, s) => if k < 0 ∨ n < 0 then none else if k.toNatClampNeg ≤ 65536 ∧ n.toNatClampNeg ≤ 65536 then
      some (nx, ls, .ref (RO.length + G.length) :: st, (G ++ [.inl (.array .int, n.toNatClampNeg, .inr (.inr (fun i => if i < n.toNatClampNeg then some (RO.length + G.length + 1 + i) else none)))]) ++ List.replicate n.toNatClampNeg (.inl (.int, k.toNatClampNeg, .inl (fun _ => 0))),
        c + 1 + n.toNatClampNeg, s + n.toNatClampNeg + n.toNatClampNeg * k.toNatClampNeg) else none
  | _ => none
def e26 (nx b : Nat) (R : eR) : Option eR := match R with
  | (_, ls, v :: st, G, c, s) => if v.category = 1 then
      (if b = 0 then some (nx, ls, v :: v :: st, G, c, s)
       else if b = 1 then some (nx, ls, st, G, c, s)
       else if b = 2 then (match st with
        | w :: r => if w.category = 1 then some (nx, ls, v :: w :: v :: w :: r, G, c, s) else none
        | [] => none)
       else none) else if v.category = 2 ∧ b = 3 then some (nx, ls, st, G, c, s) else none
  | _ => none
def e30 (nx : Nat) (R : eR) : Option eR := match R with
  | (_, ls, .ref _ :: st, G, c, s) => if (st.map fun v => v.category).sum ≤ 8 then some (nx, ls, st, G, c, s) else none
  | _ => none
def e31 (nx : Nat) (R : eR) : Option eR := match R with
  | (_, ls, .int n :: .int dp :: .ref kd :: .int sp :: .ref ks :: st, G, c, s) => if kd < RO.length ∨ ks < RO.length ∨ n < 0 ∨ dp < 0 ∨ sp < 0 ∨ 8 < (st.map fun v => v.category).sum then none else
    match G[ks - RO.length]?, G[kd - RO.length]? with
    | some (.inl (ty, n0, .inl f)), some (.inl (ty1, n1, .inl g)) => if ty = .int ∧ ty1 = .int ∧ sp.toNatClampNeg + n.toNatClampNeg ≤ n0 ∧ dp.toNatClampNeg + n.toNatClampNeg ≤ n1 then
        some (nx, ls, st, G.set (kd - RO.length) (.inl (.int, n1, .inl (va_cpy f g sp.toNatClampNeg dp.toNatClampNeg n.toNatClampNeg))), c, s) else none
    | some (.inl (ty, n0, .inr (.inl f))), some (.inl (ty1, n1, .inr (.inl g))) => if ty = .long ∧ ty1 = .long ∧ sp.toNatClampNeg + n.toNatClampNeg ≤ n0 ∧ dp.toNatClampNeg + n.toNatClampNeg ≤ n1 then
        some (nx, ls, st, G.set (kd - RO.length) (.inl (.long, n1, .inr (.inl (va_cpy f g sp.toNatClampNeg dp.toNatClampNeg n.toNatClampNeg)))), c, s) else none
    | _, _ => none
  | _ => none
def e32 (nx b : Nat) (R : eR) : Option eR := match R with
  | (_, ls, .int y :: .int x :: st, G, c, s) => if 8 < (st.map fun v => v.category).sum then none else some (nx, ls, .int (if b = 0 then (if x < y then y else x) else (if y < x then y else x)) :: st, G, c, s)
  | _ => none
/-- one instruction that is no call -/
def eStep (mL : Nat) (I : eI) (R : eR) : Option eR := match I with
  | (op, nx, a, b, z, _, sw) =>
    if op = 0 then (match R with | (_, ls, st, G, c, s) => some (nx, ls, .int (Int32.ofInt z) :: st, G, c, s))
    else if op = 1 then (match R with | (_, ls, st, G, c, s) => some (nx, ls, .long (Int64.ofInt z) :: st, G, c, s))
    else if op = 3 then e3 nx a b R
    else if op = 4 then e4 mL nx a b R
    else if op = 5 then e5 mL nx a z R
    else if op = 6 then e6 nx b R
    else if op = 7 then e7 nx b R
    else if op = 8 then e8 nx b R
    else if op = 9 then e9 nx R
    else if op = 10 then e10 nx R
    else if op = 12 then e12 nx a b R
    else if op = 13 then e13 nx a b R
    else if op = 14 then (match R with | (_, ls, st, G, c, s) => some (a, ls, st, G, c, s))
    else if op = 15 then e15 a sw R
    else if op = 16 then e16 RO nx b z.toNat R
    else if op = 17 then e17 RO CT nx b z.toNat R
    else if op = 18 then e18 nx b R
    else if op = 19 then e19 RO nx b R
    else if op = 20 then e20 RO CL nx b R
    else if op = 21 then e21 RO nx R
    else if op = 22 then e22 RO CL CT nx b R
    else if op = 23 then e23 RO nx b R
    else if op = 24 then e24 RO CL nx b R
    else if op = 25 then e25 RO nx R
    else if op = 26 then e26 nx b R
    else if op = 30 then e30 nx R
    else if op = 31 then e31 RO nx R
    else if op = 32 then e32 nx b R
    else none
/-- what a call takes off the stack: the arguments (the receiver first), the rest -/
def eArgs (n : Nat) (st : List Value) : Option (List Value × List Value) := if n ≤ st.length then some ((st.take n).reverse, st.drop n) else none
def eRecv (G : List eE) (ci : Nat) (v : Option Value) : Bool := match v with
  | some (.ref q) => !decide (q < RO.length) && (match G[q - RO.length]? with
    | some (.inr (cj, _)) => decide (cj = ci)
    | _ => false)
  | _ => false
/-- what stands on the stack at a return: the answer -/
def eAns (b : Nat) (ret : Option FieldType) (st : List Value) : Bool := match st with
  | [] => decide (b = 0) && decide (ret = none)
  | [.int x] => decide (b = 1) && (decide (ret = some .int) || (decide (ret = some .boolean) && (decide (x = 0) || decide (x = 1))))
  | [.long _] => decide (b = 2) && decide (ret = some .long)
  | _ => false
variable (MT : Nat → Option eM)
/-- what a call calls: the method, its arguments, what stays on the stack -/
def eCallP (I : eI) (R : eR) : Option (eM × List Value × List Value) := match MT I.2.2.2.1 with
  | none => none
  | some M2 => match eArgs (I.2.2.2.2.1.toNat + (if I.1 = 41 then 0 else 1)) R.2.2.1 with
    | none => none
    | some ar => if (ar.2.map fun v => v.category).sum ≤ 8 ∧ (ar.1.map fun v => v.category).sum ≤ M2.2.2.1 ∧ (I.1 = 41 ∨ eRecv RO R.2.2.2.1 I.2.2.1 ar.1.head? = true) then some (M2, ar.1, ar.2) else none
/-- a method from a place of its own to its return: the frame there -/
def eRun : Nat → Nat → Nat → eR → Option eR
  | 0, _, _, _ => none
  | _ + 1, 0, _, _ => none
  | n + 1, d + 1, mi, R => match MT mi with
    | none => none
    | some M => if M.2.2.2.2.1 ≤ R.1 then none else match M.2.2.2.2.2 R.1 with
      | none => none
      | some I => if I.1 = 50 then (if eAns I.2.2.2.1 M.2.2.2.1 R.2.2.1 = true then some R else none)
        else if 40 ≤ I.1 then (match eCallP RO MT I R with
            | none => none
            | some ar => match eRun n d I.2.2.2.1 (0, lv_args 0 ar.2.1, [], R.2.2.2.1, 0, 0) with
                | none => none
                | some R2 => eRun n (d + 1) mi (I.2.1, R.2.1, R2.2.2.1 ++ ar.2.2, R2.2.2.2.1, R.2.2.2.2.1 + R2.2.2.2.2.1, R.2.2.2.2.2 + R2.2.2.2.2.2))
        else match eStep RO CL CT M.2.2.1 I R with
          | none => none
          | some R' => eRun n (d + 1) mi R'
end EDEF
