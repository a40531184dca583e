section
/-! The kinds of things that the abstract machine works on. -/
abbrev eA : Type := (Nat → Int32) ⊕ ((Nat → Int64) ⊕ (Nat → Option Nat))
abbrev eE : Type := (FieldType × Nat × eA) ⊕ (Nat × List Value)
/-- an instruction: what it does, the next place, two numbers, an integer, places of words, a switch's cases -/
abbrev eI : Type := Nat × Nat × Nat × Nat × Int × List Nat × List (Int × Nat)
/-- a frame and the heap: place, locals, stack, heap, cells made, slots made -/
abbrev eR : Type := Nat × List (Nat × Value) × List Value × List eE × Nat × Nat
/-- a method: name, code, locals, answer, length, whether it is a constructor, instructions -/
abbrev eM : Type := MethodName × ByteArray × Nat × Option FieldType × Nat × (Nat → Option eI)
end
section
/-! What it is for a row of the program table to be right. -/
def eBinI (b : Nat) : Instr :=
  if b = 0 then .iadd else if b = 1 then .isub else if b = 2 then .imul else if b = 3 then .iand else if b = 4 then .ior else if b = 5 then .ixor
  else if b = 6 then .ishl else if b = 7 then .ishr else if b = 8 then .iushr else if b = 9 then .idiv else if b = 10 then .irem else .nop
def eLinI (b : Nat) : Instr :=
  if b = 0 then .ladd else if b = 1 then .lsub else if b = 2 then .lmul else if b = 3 then .land else if b = 4 then .lor else if b = 5 then .lxor else if b = 9 then .ldiv else .nop
def eUnI (b : Nat) : Instr := if b = 0 then .ineg else if b = 1 then .i2b else if b = 2 then .i2s else if b = 3 then .i2l else if b = 4 then .l2i else .nop
def eCmpI (b : Nat) : ClassFile.Cond := if b = 0 then .eq else if b = 1 then .ne else if b = 2 then .lt else if b = 3 then .ge else if b = 4 then .gt else .le
def eLdI (b a : Nat) : Option (Instr × Nat) :=
  if b = 0 then some (.iload a, 2) else if b = 1 then some (.lload a, 2) else if b = 2 then some (.aload a, 2)
  else if h : a < 4 then (if b = 3 then some (.iload_n ⟨a, h⟩, 1) else if b = 4 then some (.lload_n ⟨a, h⟩, 1) else if b = 5 then some (.aload_n ⟨a, h⟩, 1) else none) else none
def eSnI (b a : Nat) : Option (Instr × Nat) :=
  if b = 0 then some (.istore a, 2) else if b = 1 then some (.lstore a, 2) else if b = 2 then some (.astore a, 2)
  else if h : a < 4 then (if b = 3 then some (.istore_n ⟨a, h⟩, 1) else if b = 4 then some (.lstore_n ⟨a, h⟩, 1) else if b = 5 then some (.astore_n ⟨a, h⟩, 1) else none) else none
def eAlI (b : Nat) : Instr := if b = 0 then .iaload else if b = 1 then .baload else if b = 2 then .saload else if b = 3 then .laload else if b = 4 then .aaload else .nop
def eAsI (b : Nat) : Instr := if b = 0 then .iastore else if b = 1 then .bastore else if b = 2 then .sastore else if b = 3 then .lastore else if b = 4 then .aastore else .nop
def eNwT (b : Nat) : ArrayType := if b = 0 then .int else if b = 1 then .byte else if b = 2 then .short else .long
def eTabL (pc : Nat) : Int → List (Int × Nat) → List Int → Bool
  | lo, q :: sw, o :: offs => decide (q.1 = lo) && (decide ((pc : Int) + o = (q.2 : Int)) && eTabL pc (lo + 1) sw offs)
  | _, [], [] => true
  | _, _, _ => false
def eLkL (pc : Nat) : List (Int × Nat) → List (Int × Int) → Bool
  | q :: sw, o :: ps => decide (q.1 = o.1) && (decide ((pc : Int) + o.2 = (q.2 : Int)) && eLkL pc sw ps)
  | [], [] => true
  | _, _ => false
def eSwOk (cc : ByteArray) (pc a : Nat) (sw : List (Int × Nat)) : Bool := match decode cc pc with
  | .ok (.tableswitch d lo hi offs, _) => decide ((pc : Int) + d = (a : Int)) && (decide (hi = lo + sw.length - 1) && eTabL pc lo sw offs.toList)
  | .ok (.lookupswitch d ps, _) => decide ((pc : Int) + d = (a : Int)) && ((ps.toList.zip (ps.toList.drop 1)).all (fun (a, next) => a.1 < next.1) && eLkL pc sw ps.toList)
  | _ => false
def eWS (WT : List Cond) : List Cond := WT.filter goodWord
def eWd (WT : List Cond) (ws : List Nat) (k : Nat) (w : Cond) : Bool := match ws[k]? with
  | some i => decide (WT[i]? = some w) && goodWord w
  | none => false
theorem eWd_in {WT : List Cond} {ws : List Nat} {k : Nat} {w : Cond} (h : eWd WT ws k w = true) : w ∈ eWS WT := by
  unfold eWd at h
  split at h
  · simp only [Bool.and_eq_true, decide_eq_true_eq] at h
    exact List.mem_filter.mpr ⟨List.mem_of_getElem? h.1, h.2⟩
  · cases h
/-- the instruction at a place is what the table says, and its words stand in the tables -/
def eDec (cc : ByteArray) (pc nx : Nat) (i : Instr) (n : Nat) : Bool := decide (decode cc pc = .ok (i, n)) && decide (nx = pc + n)
def eOk0 (WT : List Cond) (own : String) (cc : ByteArray) (pc nx a b : Nat) (z : Int) (ws : List Nat) : Bool :=
  if b = 0 then eDec cc pc nx (.iconst z) 1 else if b = 1 then eDec cc pc nx (.bipush z) 2 && decide ((Int8.ofInt z).toInt32 = Int32.ofInt z) else if b = 2 then eDec cc pc nx (.sipush z) 3 && decide ((Int16.ofInt z).toInt32 = Int32.ofInt z)
  else if b = 3 then eDec cc pc nx (.ldc a) 2 && eWd WT ws 0 (.constant own a (Int32.ofInt z)) else if b = 4 then eDec cc pc nx (.ldc_w a) 3 && eWd WT ws 0 (.constant own a (Int32.ofInt z)) else false
def eOk1 (WT : List Cond) (own : String) (cc : ByteArray) (pc nx a b : Nat) (z : Int) (ws : List Nat) : Bool :=
  if b = 0 then (eDec cc pc nx (.lconst 0) 1 && decide (z = 0)) || (eDec cc pc nx (.lconst 1) 1 && decide (z = 1)) else if b = 1 then eDec cc pc nx (.ldc2_w a) 3 && eWd WT ws 0 (.constantLong own a (Int64.ofInt z)) else false
def eOkO (cc : ByteArray) (pc nx : Nat) (q : Option (Instr × Nat)) : Bool := match q with
  | some (i, n) => eDec cc pc nx i n
  | none => false
/-- one instruction that is no call: its row of the table is right -/
def eOk (WT : List Cond) (CL : List vw_C) (nro : Nat) (SN : List (String × String × String)) (own mname : String) (cc : ByteArray) (pc : Nat) (I : eI) : Bool := match I with
  | (op, nx, a, b, z, ws, sw) =>
    if op = 0 then eOk0 WT own cc pc nx a b z ws
    else if op = 1 then eOk1 WT own cc pc nx a b z ws
    else if op = 3 then eOkO cc pc nx (eLdI b a)
    else if op = 4 then eOkO cc pc nx (eSnI b a)
    else if op = 5 then eDec cc pc nx (.iinc a z) 3
    else if op = 6 then eDec cc pc nx (eBinI b) 1
    else if op = 7 then eDec cc pc nx (eLinI b) 1
    else if op = 8 then eDec cc pc nx (eUnI b) 1
    else if op = 9 then eDec cc pc nx .lcmp 1
    else if op = 10 then eDec cc pc nx .lshl 1
    else if op = 12 then eDec cc pc nx (.ifCond (eCmpI b) z) 3 && decide ((pc : Int) + z = (a : Int))
    else if op = 13 then eDec cc pc nx (.if_icmp (eCmpI b) z) 3 && decide ((pc : Int) + z = (a : Int))
    else if op = 14 then decide (decode cc pc = .ok (.goto z, 3)) && decide ((pc : Int) + z = (a : Int))
    else if op = 15 then eSwOk cc pc a sw
    else if op = 16 then eDec cc pc nx (.getfield a) 3 && (match CL[b]? with
      | some k => decide (z.toNat < k.2.2) && eWd WT ws 0 (.fieldLink own a (k.2.1 z.toNat).1 (k.2.1 z.toNat).2.1 (k.2.1 z.toNat).2.2.1)
      | none => false)
    else if op = 17 then eDec cc pc nx (.putfield a) 3 && (match CL[b]? with
      | some k => decide (z.toNat < k.2.2) && (eWd WT ws 0 (.fieldLink own a (k.2.1 z.toNat).1 (k.2.1 z.toNat).2.1 (k.2.1 z.toNat).2.2.1) && (decide ((k.2.1 z.toNat).2.2.2 = false) || (decide (mname = "<init>") && decide ((k.2.1 z.toNat).1 = own))))
      | none => false)
    else if op = 18 then eDec cc pc nx (.getstatic a) 3 && (decide (b < nro) && (match SN[b]? with
      | some sn => eWd WT ws 0 (.fieldLink own a sn.1 sn.2.1 sn.2.2)
      | none => false))
    else if op = 19 then eDec cc pc nx (eAlI b) 1
    else if op = 20 then eDec cc pc nx (eAsI b) 1
    else if op = 21 then eDec cc pc nx .arraylength 1
    else if op = 22 then eDec cc pc nx (.new a) 3 && (match CL[b]? with
      | some k => eWd WT ws 0 (.classLink own a k.1) && (eWd WT ws 1 (.instantiable k.1 k.2.2) && eWd WT ws 2 (.initialized k.1))
      | none => false)
    else if op = 23 then eDec cc pc nx (.newarray (eNwT b)) 2 && eWd WT ws 0 (.arrayClass (newarray.typeOf (eNwT b)))
    else if op = 24 then eDec cc pc nx (.anewarray a) 3 && (match CL[b]? with
      | some k => eWd WT ws 0 (.classLink own a k.1) && decide (k.1 = "WhoMentionsIt$Shelf")
      | none => false)
    else if op = 25 then eDec cc pc nx (.multianewarray a 2) 4 && (eWd WT ws 0 (.classLink own a "[[I") && eWd WT ws 1 (.arrayClass .int))
    else if op = 26 then eDec cc pc nx (if b = 0 then .dup else if b = 1 then .pop else .dup2) 1
    else if op = 30 then eDec cc pc nx (.invokespecial a) 3 && (eWd WT ws 0 (.methodLink own a objectInit) && (eWd WT ws 1 (.instanceMethod objectInit) && eWd WT ws 2 (.code objectInit ⟨#[0xb1]⟩ 1 none)))
    else if op = 32 then eDec cc pc nx (.invokestatic a) 3 && (eWd WT ws 0 (.methodLink own a (if b = 0 then Lib.Math.max.name else Lib.Math.min.name)) && (eWd WT ws 1 (.static (if b = 0 then Lib.Math.max.name else Lib.Math.min.name)) && (eWd WT ws 2 (.initialized "java/lang/Math") && eWd WT ws 3 (.code (if b = 0 then Lib.Math.max.name else Lib.Math.min.name) (if b = 0 then Lib.Math.max.code else Lib.Math.min.code) 2 (some .int)))))
    else if op = 31 then eDec cc pc nx (.invokestatic a) 3 && (eWd WT ws 0 (.methodLink own a arraycopyName) && (eWd WT ws 1 (.native arraycopyName) && (eWd WT ws 2 (.static arraycopyName) && eWd WT ws 3 (.initialized "java/lang/System"))))
    else false
theorem eDec_ok {cc : ByteArray} {pc nx n : Nat} {i : Instr} (h : eDec cc pc nx i n = true) : decode cc pc = .ok (i, n) ∧ nx = pc + n := by
  simpa [eDec] using h
/-- what the table of classes says is so -/
def eCLok (WS : List Cond) (CL : List vw_C) (CT : Nat → Nat → FieldType) : Prop := ∀ (b : Nat) (k : vw_C), CL[b]? = some k → (∀ w ∈ u_ws k.1 k.2.1 k.2.2, w ∈ WS) ∧ (∀ j, j < k.2.2 → parseFieldDescriptor (k.2.1 j).2.2.1 = some (CT b j)) ∧ ∀ x, x < k.2.2 → ∀ y, y < k.2.2 → x ≠ y → (k.2.1 x).2.1 ≠ (k.2.1 y).2.1
/-- a method that may be called: its class, its code among the words, its room -/
def eMok (WT : List Cond) (M : eM) : Prop := plainName M.1.cls = true ∧ Cond.code M.1 M.2.1 M.2.2.1 M.2.2.2.1 ∈ eWS WT ∧ M.2.2.1 ≤ 20 ∧ M.1.cls ≠ "java/lang/invoke/MethodHandle" ∧ M.1.cls ≠ "java/lang/invoke/VarHandle"
def eOkC (WT NW : List Cond) (CL : List vw_C) (NC : Nat) (MT : Nat → Option eM) (own : String) (cc : ByteArray) (pc : Nat) (I : eI) : Bool := match I with
  | (op, nx, a, b, z, ws, _) => match MT b with
    | none => false
    | some M2 => decide (b < NC) && (decide ((parseMethodDescriptor M2.1.desc).map (fun d => d.parameters.length) = some z.toNat) && (eWd WT ws 1 (.initialized M2.1.cls) && (match ws[0]? with
      | none => false
      | some cp => if op = 40 then eDec cc pc nx (.invokevirtual cp) 3 && ((match CL[a]? with
          | some k => decide (k.1 = M2.1.cls)
          | none => false) && (eWd WT ws 2 (.methodLink own cp M2.1) && (eWd WT ws 3 (.instanceMethod M2.1) && eWd WT ws 4 (.selects M2.1.cls M2.1 M2.1))))
        else if op = 41 then eDec cc pc nx (.invokestatic cp) 3 && (eWd WT ws 2 (.methodLink own cp M2.1) && eWd WT ws 3 (.static M2.1))
        else if op = 42 then eDec cc pc nx (.invokespecial cp) 3 && (decide (M2.1.name = "<init>") && (decide (M2.2.2.2.1 = none) && (eWd WT ws 2 (.methodLink own cp M2.1) && eWd WT ws 3 (.instanceMethod M2.1))))
        else if op = 43 then eDec cc pc nx (.invokespecial cp) 3 && (decide (M2.1.name = "<init>") && (decide (M2.2.2.2.1 = none) && (decide (Cond.methodLinkNest own cp M2.1 "WhoMentionsIt" ∈ NW) && eWd WT ws 2 (.instanceMethod M2.1))))
        else false)))
def eOkR (cc : ByteArray) (pc : Nat) (I : eI) : Bool := if I.2.2.2.1 = 0 then decide (decode cc pc = .ok (.return_, 1)) else if I.2.2.2.1 = 1 then decide (decode cc pc = .ok (.ireturn, 1)) else decide (decode cc pc = .ok (.lreturn, 1))
/-- every instruction of a method is right -/
def eOkI (WT NW : List Cond) (CL : List vw_C) (nro : Nat) (SN : List (String × String × String)) (NC : Nat) (MT : Nat → Option eM) (M : eM) (pc : Nat) (I : eI) : Bool :=
  if I.1 = 50 then eOkR M.2.1 pc I else if 40 ≤ I.1 then eOkC WT NW CL NC MT M.1.cls M.2.1 pc I else eOk WT CL nro SN M.1.cls M.1.name M.2.1 pc I
end
section
/-! E: the class files' methods as a plain function over an abstract heap. Values are the machine's own; a reference is a number of a cell of the abstract heap. -/
def eIn (i : Int32) (n : Nat) : Bool := !decide (i < 0) && decide (i.toNatClampNeg < n)
def eTag (v : Value) : Nat := match v with
  | .int _ => 0
  | .long _ => 1
  | .ref _ => 2
  | _ => 9
def eGetL (ls : List (Nat × Value)) (i : Nat) : Option Value := (ls.find? (fun q => q.1 == i)).map (fun q => q.2)
def eSt1 (ls : List (Nat × Value)) (i : Nat) (v : Value) : List (Nat × Value) := (i, v) :: ls.filter (fun q => !(q.1 == i) && !(q.1 + 1 == i && q.2.category == 2))
def eSt2 (ls : List (Nat × Value)) (i : Nat) (v : Value) : List (Nat × Value) := (i, v) :: ls.filter (fun q => !(q.1 == i) && (!(q.1 == i + 1) && !(q.1 + 1 == i && q.2.category == 2)))
def eBin (b : Nat) (x y : Int32) : Option Int32 :=
  if b = 0 then some (x + y) else if b = 1 then some (x - y) else if b = 2 then some (x * y) else if b = 3 then some (x &&& y) else if b = 4 then some (x ||| y) else if b = 5 then some (x ^^^ y)
  else if b = 6 then some (x <<< (y &&& 31)) else if b = 7 then some (x >>> (y &&& 31)) else if b = 8 then some ((x.toUInt32 >>> (y.toUInt32 &&& Int32.toUInt32 31)).toInt32)
  else if b = 9 then (if y = 0 then none else some (x / y)) else if b = 10 then (if y = 0 then none else some (x - x / y * y)) else none
def eLin (b : Nat) (x y : Int64) : Option Int64 :=
  if b = 0 then some (x + y) else if b = 1 then some (x - y) else if b = 2 then some (x * y) else if b = 3 then some (x &&& y) else if b = 4 then some (x ||| y) else if b = 5 then some (x ^^^ y)
  else if b = 9 then (if y = 0 then none else some (x / y)) else none
def eUn (b : Nat) (v : Value) : Option Value := match v with
  | .int x => if b = 0 then some (.int (-x)) else if b = 1 then some (.int x.toInt8.toInt32) else if b = 2 then some (.int x.toInt16.toInt32) else if b = 3 then some (.long x.toInt64) else none
  | .long x => if b = 4 then some (.int x.toInt32) else none
  | _ => none
/-- a condition on two ints -/
def eCmp (b : Nat) (x y : Int32) : Bool :=
  if b = 0 then decide (x = y) else if b = 1 then !decide (x = y) else if b = 2 then decide (x < y) else if b = 3 then decide (y ≤ x) else if b = 4 then decide (y < x) else decide (x ≤ y)
def eSw (sw : List (Int × Nat)) (d : Nat) (x : Int) : Nat := match sw with
  | [] => d
  | q :: r => if q.1 = x then q.2 else eSw r d x
def eRf (r : Option Nat) : Value := match r with
  | none => .null
  | some a => .ref a
section EDEF
variable (RO : List (Nat × (Nat → Int32))) (CL : List vw_C) (CT : Nat → Nat → FieldType)
def e3 (nx a b : Nat) (R : eR) : Option eR := match R with
  | (_, ls, st, G, c, s) => match eGetL ls a with
    | some v => if eTag v = b % 3 then some (nx, ls, v :: st, G, c, s) else none
    | none => none
def e4 (mL nx a b : Nat) (R : eR) : Option eR := match R with
  | (_, ls, v :: st, G, c, s) => if eTag v = b % 3 then (if b % 3 = 1 then (if a + 1 < mL then some (nx, eSt2 ls a v, st, G, c, s) else none) else (if a < mL then some (nx, eSt1 ls a v, st, G, c, s) else none)) else none
  | _ => none
def e5 (mL nx a : Nat) (z : Int) (R : eR) : Option eR := match R with
  | (_, ls, st, G, c, s) => match eGetL ls a with
    | some (.int x) => if a < mL then some (nx, eSt1 ls a (.int (x + Int32.ofInt z)), st, G, c, s) else none
    | _ => none
def e6 (nx b : Nat) (R : eR) : Option eR := match R with
  | (_, ls, .int y :: .int x :: st, G, c, s) => (eBin b x y).map fun v => (nx, ls, .int v :: st, G, c, s)
  | _ => none
def e7 (nx b : Nat) (R : eR) : Option eR := match R with
  | (_, ls, .long y :: .long x :: st, G, c, s) => (eLin b x y).map fun v => (nx, ls, .long v :: st, G, c, s)
  | _ => none
def e8 (nx b : Nat) (R : eR) : Option eR := match R with
  | (_, ls, v :: st, G, c, s) => (eUn b v).map fun w => (nx, ls, w :: st, G, c, s)
  | _ => none
def e9 (nx : Nat) (R : eR) : Option eR := match R with
  | (_, ls, .long y :: .long x :: st, G, c, s) => some (nx, ls, .int (lg_cmp x y) :: st, G, c, s)
  | _ => none
def e10 (nx : Nat) (R : eR) : Option eR := match R with
  | (_, ls, .int y :: .long x :: st, G, c, s) => some (nx, ls, .long (x <<< (y.toInt64 &&& 63)) :: st, G, c, s)
  | _ => none
def e12 (nx a b : Nat) (R : eR) : Option eR := match R with
  | (_, ls, .int x :: st, G, c, s) => some (if eCmp b x 0 then a else nx, ls, st, G, c, s)
  | _ => none
def e13 (nx a b : Nat) (R : eR) : Option eR := match R with
  | (_, ls, .int y :: .int x :: st, G, c, s) => some (if eCmp b x y then a else nx, ls, st, G, c, s)
  | _ => none
def e15 (a : Nat) (sw : List (Int × Nat)) (R : eR) : Option eR := match R with
  | (_, ls, .int x :: st, G, c, s) => some (eSw sw a x.toInt, ls, st, G, c, s)
  | _ => none
def e16 (nx b k : Nat) (R : eR) : Option eR := match R with
  | (_, ls, .ref q :: st, G, c, s) => if q < RO.length then none else match G[q - RO.length]? with
    | some (.inr (ci, fs)) => if ci = b then (fs[k]?).map fun v => (nx, ls, v :: st, G, c, s) else none
    | _ => none
  | _ => none
/-- what may stand in a field of a type -/
def eFit (ty : FieldType) (v : Value) : Bool := match v with
  | .ref _ => (match ty with
    | .object _ => true
    | .array _ => true
    | _ => false)
  | .int x => (match ty with
    | .int => true
    | .boolean => decide (x = 0) || decide (x = 1)
    | _ => false)
  | .long _ => (match ty with
    | .long => true
    | _ => false)
  | _ => false
def e17 (nx b k : Nat) (R : eR) : Option eR := match R with
  | (_, ls, v :: .ref q :: st, G, c, s) => if q < RO.length then none else match G[q - RO.length]? with
    | some (.inr (ci, fs)) => if ci = b ∧ k < fs.length ∧ eFit (CT b k) v = true then some (nx, ls, st, G.set (q - RO.length) (.inr (ci, fs.set k v)), c, s) else none
    | _ => none
  | _ => none
def e18 (nx b : Nat) (R : eR) : Option eR := match R with
  | (_, ls, st, G, c, s) => some (nx, ls, .ref b :: st, G, c, s)
def e19 (nx b : Nat) (R : eR) : Option eR := match R with
  | (_, ls, .int i :: .ref q :: st, G, c, s) => if q < RO.length then (match RO[q]? with
      | some (n, f) => if b = 0 ∧ eIn i n = true then some (nx, ls, .int (f i.toNatClampNeg) :: st, G, c, s) else none
      | none => none) else match G[q - RO.length]? with
    | some (.inl (ty, n, .inl f)) => if ((b = 0 ∧ ty = .int) ∨ (b = 1 ∧ ty = .byte) ∨ (b = 2 ∧ ty = .short)) ∧ eIn i n = true then some (nx, ls, .int (f i.toNatClampNeg) :: st, G, c, s) else none
    | some (.inl (ty, n, .inr (.inl f))) => if (b = 3 ∧ ty = .long) ∧ eIn i n = true then some (nx, ls, .long (f i.toNatClampNeg) :: st, G, c, s) else none
    | some (.inl (ty, n, .inr (.inr f))) => if (b = 4 ∧ ty.isReference = true) ∧ eIn i n = true then some (nx, ls, eRf (f i.toNatClampNeg) :: st, G, c, s) else none
    | _ => none
  | _ => none
def e20 (nx b : Nat) (R : eR) : Option eR := match R with
  | (_, ls, v :: .int i :: .ref q :: st, G, c, s) => if q < RO.length then none else match v, G[q - RO.length]? with
    | .int x, some (.inl (ty, n, .inl f)) => if eIn i n = true then
        (if b = 0 ∧ ty = .int then some (nx, ls, st, G.set (q - RO.length) (.inl (ty, n, .inl (upd f i.toNatClampNeg x))), c, s)
         else if b = 1 ∧ ty = .byte then some (nx, ls, st, G.set (q - RO.length) (.inl (ty, n, .inl (upd f i.toNatClampNeg (vp_nar .byte x)))), c, s)
         else if b = 2 ∧ ty = .short then some (nx, ls, st, G.set (q - RO.length) (.inl (ty, n, .inl (upd f i.toNatClampNeg (vp_nar .short x)))), c, s) else none) else none
    | .long x, some (.inl (ty, n, .inr (.inl f))) => if (b = 3 ∧ ty = .long) ∧ eIn i n = true then some (nx, ls, st, G.set (q - RO.length) (.inl (ty, n, .inr (.inl (vp_updL f i.toNatClampNeg x)))), c, s) else none
    | .ref r, some (.inl (ty, n, .inr (.inr f))) => if b = 4 ∧ eIn i n = true ∧ ¬ r < RO.length then (match G[r - RO.length]? with
        | some (.inr (ci, _)) => (match CL[ci]? with
          | some k => if ty = .object k.1 then some (nx, ls, st, G.set (q - RO.length) (.inl (ty, n, .inr (.inr (va_up f i.toNatClampNeg (some r))))), c, s) else none
          | none => none)
        | _ => none) else none
    | _, _ => none
  | _ => none
def e21 (nx : Nat) (R : eR) : Option eR := match R with
  | (_, ls, .ref q :: st, G, c, s) => if q < RO.length then (match RO[q]? with
      | some (n, _) => some (nx, ls, .int (Int32.ofNat n) :: st, G, c, s)
      | none => none) else match G[q - RO.length]? with
    | some (.inl (_, n, _)) => some (nx, ls, .int (Int32.ofNat n) :: st, G, c, s)
    | _ => none
  | _ => none
def e22 (nx b : Nat) (R : eR) : Option eR := match R with
  | (_, ls, st, G, c, s) => match CL[b]? with
    | some k => some (nx, ls, .ref (RO.length + G.length) :: st, G ++ [.inr (b, (List.range k.2.2).map (fun j => defaultValue (CT b j)))], c + 1, s + k.2.2)
    | none => none
def eNewK (b n : Nat) : Option eE :=
  if b = 0 then some (.inl (.int, n, .inl (fun _ => 0))) else if b = 1 then some (.inl (.byte, n, .inl (fun _ => 0))) else if b = 2 then some (.inl (.short, n, .inl (fun _ => 0))) else if b = 3 then some (.inl (.long, n, .inr (.inl (fun _ => 0)))) else none
def e23 (nx b : Nat) (R : eR) : Option eR := match R with
  | (_, ls, .int x :: st, G, c, s) => if x < 0 then none else if x.toNatClampNeg ≤ 65536 then (eNewK b x.toNatClampNeg).map fun y => (nx, ls, .ref (RO.length + G.length) :: st, G ++ [y], c + 1, s + x.toNatClampNeg) else none
  | _ => none
def e24 (nx b : Nat) (R : eR) : Option eR := match R with
  | (_, ls, .int x :: st, G, c, s) => if x < 0 then none else if x.toNatClampNeg ≤ 65536 then (match CL[b]? with
    | some k => some (nx, ls, .ref (RO.length + G.length) :: st, G ++ [.inl (.object k.1, x.toNatClampNeg, .inr (.inr (fun _ => none)))], c + 1, s + x.toNatClampNeg)
    | none => none) else none
  | _ => none
def e25 (nx : Nat) (R : eR) : Option eR := match R with
  | (_, ls, .int k :: .int n :: st, G, c, s) => if k < 0 ∨ n < 0 then none else if k.toNatClampNeg ≤ 65536 ∧ n.toNatClampNeg ≤ 65536 then
      some (nx, ls, .ref (RO.length + G.length) :: st, (G ++ [.inl (.array .int, n.toNatClampNeg, .inr (.inr (fun i => if i < n.toNatClampNeg then some (RO.length + G.length + 1 + i) else none)))]) ++ List.replicate n.toNatClampNeg (.inl (.int, k.toNatClampNeg, .inl (fun _ => 0))),
        c + 1 + n.toNatClampNeg, s + n.toNatClampNeg + n.toNatClampNeg * k.toNatClampNeg) else none
  | _ => none
def e26 (nx b : Nat) (R : eR) : Option eR := match R with
  | (_, ls, v :: st, G, c, s) => if v.category = 1 then
      (if b = 0 then some (nx, ls, v :: v :: st, G, c, s)
       else if b = 1 then some (nx, ls, st, G, c, s)
       else if b = 2 then (match st with
        | w :: r => if w.category = 1 then some (nx, ls, v :: w :: v :: w :: r, G, c, s) else none
        | [] => none)
       else none) else none
  | _ => none
def e30 (nx : Nat) (R : eR) : Option eR := match R with
  | (_, ls, .ref _ :: st, G, c, s) => if (st.map fun v => v.category).sum ≤ 8 then some (nx, ls, st, G, c, s) else none
  | _ => none
def e31 (nx : Nat) (R : eR) : Option eR := match R with
  | (_, ls, .int n :: .int dp :: .ref kd :: .int sp :: .ref ks :: st, G, c, s) => if kd < RO.length ∨ ks < RO.length ∨ n < 0 ∨ dp < 0 ∨ sp < 0 ∨ 8 < (st.map fun v => v.category).sum then none else
    match G[ks - RO.length]?, G[kd - RO.length]? with
    | some (.inl (ty, n0, .inl f)), some (.inl (ty1, n1, .inl g)) => if ty = .int ∧ ty1 = .int ∧ sp.toNatClampNeg + n.toNatClampNeg ≤ n0 ∧ dp.toNatClampNeg + n.toNatClampNeg ≤ n1 then
        some (nx, ls, st, G.set (kd - RO.length) (.inl (.int, n1, .inl (va_cpy f g sp.toNatClampNeg dp.toNatClampNeg n.toNatClampNeg))), c, s) else none
    | some (.inl (ty, n0, .inr (.inl f))), some (.inl (ty1, n1, .inr (.inl g))) => if ty = .long ∧ ty1 = .long ∧ sp.toNatClampNeg + n.toNatClampNeg ≤ n0 ∧ dp.toNatClampNeg + n.toNatClampNeg ≤ n1 then
        some (nx, ls, st, G.set (kd - RO.length) (.inl (.long, n1, .inr (.inl (va_cpy f g sp.toNatClampNeg dp.toNatClampNeg n.toNatClampNeg)))), c, s) else none
    | _, _ => none
  | _ => none
def e32 (nx b : Nat) (R : eR) : Option eR := match R with
  | (_, ls, .int y :: .int x :: st, G, c, s) => if 8 < (st.map fun v => v.category).sum then none else some (nx, ls, .int (if b = 0 then (if x < y then y else x) else (if y < x then y else x)) :: st, G, c, s)
  | _ => none
/-- one instruction that is no call -/
def eStep (mL : Nat) (I : eI) (R : eR) : Option eR := match I with
  | (op, nx, a, b, z, _, sw) =>
    if op = 0 then (match R with | (_, ls, st, G, c, s) => some (nx, ls, .int (Int32.ofInt z) :: st, G, c, s))
    else if op = 1 then (match R with | (_, ls, st, G, c, s) => some (nx, ls, .long (Int64.ofInt z) :: st, G, c, s))
    else if op = 3 then e3 nx a b R
    else if op = 4 then e4 mL nx a b R
    else if op = 5 then e5 mL nx a z R
    else if op = 6 then e6 nx b R
    else if op = 7 then e7 nx b R
    else if op = 8 then e8 nx b R
    else if op = 9 then e9 nx R
    else if op = 10 then e10 nx R
    else if op = 12 then e12 nx a b R
    else if op = 13 then e13 nx a b R
    else if op = 14 then (match R with | (_, ls, st, G, c, s) => some (a, ls, st, G, c, s))
    else if op = 15 then e15 a sw R
    else if op = 16 then e16 RO nx b z.toNat R
    else if op = 17 then e17 RO CT nx b z.toNat R
    else if op = 18 then e18 nx b R
    else if op = 19 then e19 RO nx b R
    else if op = 20 then e20 RO CL nx b R
    else if op = 21 then e21 RO nx R
    else if op = 22 then e22 RO CL CT nx b R
    else if op = 23 then e23 RO nx b R
    else if op = 24 then e24 RO CL nx b R
    else if op = 25 then e25 RO nx R
    else if op = 26 then e26 nx b R
    else if op = 30 then e30 nx R
    else if op = 31 then e31 RO nx R
    else if op = 32 then e32 nx b R
    else none
/-- what a call takes off the stack: the arguments (the receiver first), the rest -/
def eArgs (n : Nat) (st : List Value) : Option (List Value × List Value) := if n ≤ st.length then some ((st.take n).reverse, st.drop n) else none
def eRecv (G : List eE) (ci : Nat) (v : Option Value) : Bool := match v with
  | some (.ref q) => !decide (q < RO.length) && (match G[q - RO.length]? with
    | some (.inr (cj, _)) => decide (cj = ci)
    | _ => false)
  | _ => false
/-- what stands on the stack at a return: the answer -/
def eAns (b : Nat) (ret : Option FieldType) (st : List Value) : Bool := match st with
  | [] => decide (b = 0) && decide (ret = none)
  | [.int x] => decide (b = 1) && (decide (ret = some .int) || (decide (ret = some .boolean) && (decide (x = 0) || decide (x = 1))))
  | [.long _] => decide (b = 2) && decide (ret = some .long)
  | _ => false
variable (MT : Nat → Option eM)
/-- what a call calls: the method, its arguments, what stays on the stack -/
def eCallP (I : eI) (R : eR) : Option (eM × List Value × List Value) := match MT I.2.2.2.1 with
  | none => none
  | some M2 => match eArgs (I.2.2.2.2.1.toNat + (if I.1 = 41 then 0 else 1)) R.2.2.1 with
    | none => none
    | some ar => if (ar.2.map fun v => v.category).sum ≤ 8 ∧ (ar.1.map fun v => v.category).sum ≤ M2.2.2.1 ∧ (I.1 = 41 ∨ eRecv RO R.2.2.2.1 I.2.2.1 ar.1.head? = true) then some (M2, ar.1, ar.2) else none
/-- a method from a place of its own to its return: the frame there -/
def eRun : Nat → Nat → Nat → eR → Option eR
  | 0, _, _, _ => none
  | _ + 1, 0, _, _ => none
  | n + 1, d + 1, mi, R => match MT mi with
    | none => none
    | some M => if M.2.2.2.2.1 ≤ R.1 then none else match M.2.2.2.2.2 R.1 with
      | none => none
      | some I => if I.1 = 50 then (if eAns I.2.2.2.1 M.2.2.2.1 R.2.2.1 = true then some R else none)
        else if 40 ≤ I.1 then (match eCallP RO MT I R with
            | none => none
            | some ar => match eRun n d I.2.2.2.1 (0, lv_args 0 ar.2.1, [], R.2.2.2.1, 0, 0) with
                | none => none
                | some R2 => eRun n (d + 1) mi (I.2.1, R.2.1, R2.2.2.1 ++ ar.2.2, R2.2.2.2.1, R.2.2.2.2.1 + R2.2.2.2.2.1, R.2.2.2.2.2 + R2.2.2.2.2.2))
        else match eStep RO CL CT M.2.2.1 I R with
          | none => none
          | some R' => eRun n (d + 1) mi R'
end EDEF
end
section
/-! The abstract heap against the machine's: values, locals, cells, worlds. 'ads': the addresses of the abstract heap's cells. -/
def eV (ads : List Nat) (v w : Value) : Prop := match v with
  | .ref k => ∃ a, ads[k]? = some a ∧ w = .ref a
  | v => w = v
def eVs (ads : List Nat) : List Value → List Value → Prop
  | [], [] => True
  | v :: vs, w :: ws => eV ads v w ∧ eVs ads vs ws
  | _, _ => False
def eLs (ads : List Nat) : List (Nat × Value) → List (Nat × Value) → Prop
  | [], [] => True
  | v :: vs, w :: ws => (v.1 = w.1 ∧ eV ads v.2 w.2) ∧ eLs ads vs ws
  | _, _ => False
def eO (ads : List Nat) (r t : Option Nat) : Prop := match r with
  | none => t = none
  | some k => ∃ a, ads[k]? = some a ∧ t = some a
def eAr (ads : List Nat) (n : Nat) (x : eA) (y : (Nat → Int32) ⊕ (Nat → Int64) ⊕ (Nat → UInt32) ⊕ (Nat → UInt64) ⊕ (Nat → Option Nat)) : Prop := match x with
  | .inl f => y = .inl f
  | .inr (.inl f) => y = .inr (.inl f)
  | .inr (.inr f) => ∃ g, y = .inr (.inr (.inr (.inr g))) ∧ ∀ i, i < n → eO ads (f i) (g i)
def eEn (tys : List (ClassId × FieldType)) (ads : List Nat) (x : eE) (y : va_E) : Prop := match x with
  | .inl (ty, n, u) => ∃ (cA : ClassId) (t : Nat) (w : _), y = .inl (cA, n, w) ∧ tys[t]? = some (cA, ty) ∧ eAr ads n u w
  | .inr (ci, fs) => ∃ gs, y = .inr (ci, gs) ∧ eVs ads fs gs
def eHp (tys : List (ClassId × FieldType)) (ads : List Nat) (G : List eE) (ws : va_W) : Prop := G.length = ws.length ∧ ∀ (k : Nat) (x : eE) (y : Nat × va_E), G[k]? = some x → ws[k]? = some y → eEn tys ads x y.2
theorem eV.mono {a1 a2 : List Nat} (h : a1 <+: a2) {v w : Value} (hv : eV a1 v w) : eV a2 v w := by
  obtain ⟨t, rfl⟩ := h
  cases v with
  | ref k =>
    obtain ⟨a, h1, h2⟩ := hv
    exact ⟨a, by rw [List.getElem?_append_left (List.getElem?_eq_some_iff.mp h1).1]; exact h1, h2⟩
  | _ => exact hv
theorem eVs.mono {a1 a2 : List Nat} (h : a1 <+: a2) : ∀ {vs ws : List Value}, eVs a1 vs ws → eVs a2 vs ws
  | [], [], _ => trivial
  | _ :: _, _ :: _, q => ⟨q.1.mono h, q.2.mono h⟩
theorem eLs.mono {a1 a2 : List Nat} (h : a1 <+: a2) : ∀ {vs ws : List (Nat × Value)}, eLs a1 vs ws → eLs a2 vs ws
  | [], [], _ => trivial
  | _ :: _, _ :: _, q => ⟨⟨q.1.1, q.1.2.mono h⟩, q.2.mono h⟩
theorem eO.mono {a1 a2 : List Nat} (h : a1 <+: a2) {r t : Option Nat} (q : eO a1 r t) : eO a2 r t := by
  obtain ⟨u, rfl⟩ := h
  cases r with
  | none => exact q
  | some k =>
    obtain ⟨a, h1, h2⟩ := q
    exact ⟨a, by rw [List.getElem?_append_left (List.getElem?_eq_some_iff.mp h1).1]; exact h1, h2⟩
theorem eAr.mono {a1 a2 : List Nat} (h : a1 <+: a2) {n : Nat} {x : eA} {y} (q : eAr a1 n x y) : eAr a2 n x y := by
  rcases x with f | f | f
  · exact q
  · exact q
  · obtain ⟨g, h1, h2⟩ := q
    exact ⟨g, h1, fun i hi => (h2 i hi).mono h⟩
theorem eEn.mono {t1 t2 : List (ClassId × FieldType)} {a1 a2 : List Nat} (ht : t1 <+: t2) (h : a1 <+: a2) {x : eE} {y : va_E} (q : eEn t1 a1 x y) : eEn t2 a2 x y := by
  obtain ⟨u, rfl⟩ := ht
  rcases x with ⟨ty, n, f⟩ | ⟨ci, fs⟩
  · obtain ⟨cA, t, w, h1, h2, h3⟩ := q
    exact ⟨cA, t, w, h1, by rw [List.getElem?_append_left (List.getElem?_eq_some_iff.mp h2).1]; exact h2, h3.mono h⟩
  · obtain ⟨gs, h1, h2⟩ := q
    exact ⟨gs, h1, h2.mono h⟩
theorem eV_cat {ads : List Nat} {v w : Value} (h : eV ads v w) : w.category = v.category := by
  cases v with
  | ref k =>
    obtain ⟨a, -, rfl⟩ := h
    rfl
  | _ =>
    have h : w = _ := h
    rw [h]
theorem eVs_int {ads : List Nat} {x : Int32} {vs ws : List Value} (h : eVs ads (.int x :: vs) ws) : ∃ r, ws = .int x :: r ∧ eVs ads vs r := by
  cases ws with
  | nil => exact h.elim
  | cons w r => exact ⟨r, by rw [show w = .int x from h.1], h.2⟩
theorem eVs_long {ads : List Nat} {x : Int64} {vs ws : List Value} (h : eVs ads (.long x :: vs) ws) : ∃ r, ws = .long x :: r ∧ eVs ads vs r := by
  cases ws with
  | nil => exact h.elim
  | cons w r => exact ⟨r, by rw [show w = .long x from h.1], h.2⟩
theorem eVs_ref {ads : List Nat} {k : Nat} {vs ws : List Value} (h : eVs ads (.ref k :: vs) ws) : ∃ a r, ws = .ref a :: r ∧ ads[k]? = some a ∧ eVs ads vs r := by
  cases ws with
  | nil => exact h.elim
  | cons w r =>
    obtain ⟨⟨a, h1, h2⟩, h3⟩ := h
    exact ⟨a, r, by rw [h2], h1, h3⟩
theorem eVs_cons {ads : List Nat} {v : Value} {vs ws : List Value} (h : eVs ads (v :: vs) ws) : ∃ w r, ws = w :: r ∧ eV ads v w ∧ eVs ads vs r := by
  cases ws with
  | nil => exact h.elim
  | cons w r => exact ⟨w, r, rfl, h.1, h.2⟩
theorem eVs_nil {ads : List Nat} {ws : List Value} (h : eVs ads [] ws) : ws = [] := by
  cases ws with
  | nil => rfl
  | cons w r => exact h.elim
theorem eVs_len {ads : List Nat} : ∀ {vs ws : List Value}, eVs ads vs ws → vs.length = ws.length
  | [], [], _ => rfl
  | _ :: _, _ :: _, q => congrArg Nat.succ (eVs_len q.2)
theorem eVs_app {ads : List Nat} : ∀ {v1 w1 v2 w2 : List Value}, eVs ads v1 w1 → eVs ads v2 w2 → eVs ads (v1 ++ v2) (w1 ++ w2)
  | [], [], _, _, _, h => h
  | _ :: _, _ :: _, _, _, q, h => ⟨q.1, eVs_app q.2 h⟩
theorem eVs_rev {ads : List Nat} : ∀ {vs ws : List Value}, eVs ads vs ws → eVs ads vs.reverse ws.reverse
  | [], [], _ => trivial
  | _ :: _, _ :: _, q => by
    rw [List.reverse_cons, List.reverse_cons]
    exact eVs_app (eVs_rev q.2) ⟨q.1, trivial⟩
theorem eVs_take {ads : List Nat} : ∀ (n : Nat) {vs ws : List Value}, eVs ads vs ws → eVs ads (vs.take n) (ws.take n)
  | 0, _, _, _ => by simp only [List.take_zero]; exact trivial
  | _ + 1, [], [], _ => trivial
  | n + 1, _ :: _, _ :: _, q => ⟨q.1, eVs_take n q.2⟩
theorem eVs_drop {ads : List Nat} : ∀ (n : Nat) {vs ws : List Value}, eVs ads vs ws → eVs ads (vs.drop n) (ws.drop n)
  | 0, _, _, h => h
  | _ + 1, [], [], _ => trivial
  | n + 1, _ :: _, _ :: _, q => eVs_drop n q.2
theorem eVs_cats {ads : List Nat} : ∀ {vs ws : List Value}, eVs ads vs ws → (ws.map fun v => v.category) = (vs.map fun v => v.category)
  | [], [], _ => rfl
  | _ :: _, _ :: _, q => by
    rw [List.map_cons, List.map_cons, eV_cat q.1, eVs_cats q.2]
theorem eVs_get {ads : List Nat} : ∀ {vs ws : List Value}, eVs ads vs ws → ∀ {k : Nat} {v : Value}, vs[k]? = some v → ∃ w, ws[k]? = some w ∧ eV ads v w
  | [], [], _, k, v, h => by cases h
  | _ :: _, w :: _, q, 0, v, h => by
    cases h
    exact ⟨w, rfl, q.1⟩
  | _ :: _, _ :: _, q, k + 1, v, h => eVs_get q.2 (k := k) h
theorem eVs_set {ads : List Nat} {v w : Value} (hv : eV ads v w) : ∀ {vs ws : List Value} (k : Nat), eVs ads vs ws → eVs ads (vs.set k v) (ws.set k w)
  | [], [], _, _ => trivial
  | _ :: _, _ :: _, 0, q => ⟨hv, q.2⟩
  | _ :: _, _ :: _, k + 1, q => ⟨q.1, eVs_set hv k q.2⟩
theorem eLs_get {ads : List Nat} : ∀ {vs ws : List (Nat × Value)}, eLs ads vs ws → ∀ {i : Nat} {v : Value}, eGetL vs i = some v → ∃ w, (i, w) ∈ ws ∧ eV ads v w
  | [], [], _, i, v, h => by cases h
  | p :: vs, q :: ws, hq, i, v, h => by
    by_cases hp : (p.1 == i) = true
    · simp only [eGetL, List.find?_cons, hp, Option.map_some] at h
      cases h
      refine ⟨q.2, ?_, hq.1.2⟩
      have e : i = q.1 := by rw [← hq.1.1]; exact (beq_iff_eq.mp hp).symm
      rw [e]
      exact List.mem_cons_self
    · have h' : eGetL vs i = some v := by
        simp only [eGetL, List.find?_cons] at h ⊢
        simpa [hp] using h
      obtain ⟨w, h1, h2⟩ := eLs_get hq.2 h'
      exact ⟨w, List.mem_cons_of_mem _ h1, h2⟩
theorem eLs_filter {ads : List Nat} (f : Nat × Value → Bool) (hf : ∀ p q : Nat × Value, p.1 = q.1 → q.2.category = p.2.category → f p = f q) : ∀ {vs ws : List (Nat × Value)}, eLs ads vs ws → eLs ads (vs.filter f) (ws.filter f)
  | [], [], _ => trivial
  | p :: vs, q :: ws, h => by
    have e := hf p q h.1.1 (eV_cat h.1.2)
    rw [List.filter_cons, List.filter_cons, ← e]
    split
    · exact ⟨h.1, eLs_filter f hf h.2⟩
    · exact eLs_filter f hf h.2
theorem eLs_st1 {ads : List Nat} {vs ws : List (Nat × Value)} (h : eLs ads vs ws) {i : Nat} {v w : Value} (hv : eV ads v w) : eLs ads (eSt1 vs i v) ((i, w) :: ws.filter (fun q => !(q.1 == i) && !(q.1 + 1 == i && q.2.category == 2))) :=
  ⟨⟨rfl, hv⟩, eLs_filter _ (fun p q h1 h2 => by rw [h1, h2]) h⟩
theorem eLs_st2 {ads : List Nat} {vs ws : List (Nat × Value)} (h : eLs ads vs ws) {i : Nat} {v w : Value} (hv : eV ads v w) : eLs ads (eSt2 vs i v) ((i, w) :: ws.filter (fun q => !(q.1 == i) && (!(q.1 == i + 1) && !(q.1 + 1 == i && q.2.category == 2)))) :=
  ⟨⟨rfl, hv⟩, eLs_filter _ (fun p q h1 h2 => by rw [h1, h2]) h⟩
theorem eLs_args {ads : List Nat} : ∀ (i : Nat) {vs ws : List Value}, eVs ads vs ws → eLs ads (lv_args i vs) (lv_args i ws)
  | _, [], [], _ => trivial
  | i, v :: vs, w :: ws, h => by
    simp only [lv_args]
    rw [eV_cat h.1]
    exact ⟨⟨rfl, h.1⟩, eLs_args _ h.2⟩
theorem eHp_at {tys : List (ClassId × FieldType)} {ads : List Nat} {G : List eE} {ws : va_W} (h : eHp tys ads G ws) {k : Nat} {x : eE} (hk : G[k]? = some x) : ∃ y, ws[k]? = some y ∧ eEn tys ads x y.2 := by
  have h1 : k < ws.length := by rw [← h.1]; exact (List.getElem?_eq_some_iff.mp hk).1
  exact ⟨ws[k], List.getElem?_eq_getElem h1, h.2 k x _ hk (List.getElem?_eq_getElem h1)⟩
theorem eHp_set {tys : List (ClassId × FieldType)} {ads : List Nat} {G : List eE} {ws : va_W} (h : eHp tys ads G ws) {k : Nat} {x : eE} {y : Nat × va_E} (hx : eEn tys ads x y.2) : eHp tys ads (G.set k x) (ws.set k y) := by
  refine ⟨by rw [List.length_set, List.length_set]; exact h.1, fun j u v h1 h2 => ?_⟩
  by_cases hj : k = j
  · subst hj
    have l1 : k < G.length := by have := (List.getElem?_eq_some_iff.mp h1).1; rwa [List.length_set] at this
    rw [List.getElem?_set_self l1] at h1
    rw [List.getElem?_set_self (by rw [← h.1]; exact l1)] at h2
    cases h1; cases h2
    exact hx
  · rw [List.getElem?_set_ne hj] at h1 h2
    exact h.2 j u v h1 h2
theorem eHp_app {t1 t2 : List (ClassId × FieldType)} {a1 a2 : List Nat} {G G2 : List eE} {ws w2 : va_W} (ht : t1 <+: t2) (ha : a1 <+: a2) (h : eHp t1 a1 G ws) (h2 : eHp t2 a2 G2 w2) : eHp t2 a2 (G ++ G2) (ws ++ w2) := by
  refine ⟨by rw [List.length_append, List.length_append, h.1, h2.1], fun j u v q1 q2 => ?_⟩
  by_cases hj : j < G.length
  · rw [List.getElem?_append_left hj] at q1
    rw [List.getElem?_append_left (by rw [← h.1]; exact hj)] at q2
    exact (h.2 j u v q1 q2).mono ht ha
  · rw [List.getElem?_append_right (by omega)] at q1
    rw [List.getElem?_append_right (by rw [← h.1]; omega), ← h.1] at q2
    exact h2.2 _ u v q1 q2
theorem eMapSet {ws : va_W} {k a : Nat} {e0 e : va_E} (h : ws[k]? = some (a, e0)) : (ws.set k (a, e)).map Prod.fst = ws.map Prod.fst := by
  rw [List.map_set]
  apply List.ext_getElem?
  intro j
  by_cases hj : k = j
  · subst hj
    have hl := (List.getElem?_eq_some_iff.mp h).1
    rw [List.getElem?_set_self (by rw [List.length_map]; exact hl), List.getElem?_map, h]
    rfl
  · rw [List.getElem?_set_ne hj]
theorem eAt {roA : List Nat} {ws : va_W} {q a nr : Nat} (hn : roA.length = nr) (hq : ¬ q < nr) (h : (roA ++ ws.map Prod.fst)[q]? = some a) {y : Nat × va_E} (hy : ws[q - nr]? = some y) : y.1 = a := by
  rw [List.getElem?_append_right (by omega), hn, List.getElem?_map, hy] at h
  exact Option.some.inj h
theorem eAtR {roA as : List Nat} {q a : Nat} (hq : q < roA.length) (h : (roA ++ as)[q]? = some a) : roA[q]? = some a := by
  rw [List.getElem?_append_left hq] at h
  exact h
theorem eIn_of {i : Int32} {n : Nat} (h : eIn i n = true) : vp_in i n := by
  simp only [eIn, Bool.and_eq_true, Bool.not_eq_true', decide_eq_false_iff_not, decide_eq_true_eq] at h
  intro q
  rcases q with q | q
  · exact h.1 q
  · exact absurd h.2 (Nat.not_lt.mpr q)
end
section
/-! Each instruction of the abstract machine is the machine's: from a frame that stands for R', to one that stands for R. -/
/-- what a frame's walk rests on: the machine, the code, the words, which cells are its own, the static tables -/
def eCx (p : Program) (s : State) (m : MethodId) (args : Array Value) (meth : Method) (c : Code) (WS : List Cond) (RO : List (Nat × (Nat → Int32))) (SN : List (String × String × String)) (A : Nat → Prop) (roA : List Nat) (own : String) (cc : ByteArray) (nL : Nat) : Prop :=
  p.tables.exec = Jvm.exec ∧ c.code = cc ∧ c.maxLocals = nL ∧ s.vm.findClass own = some m.cls ∧ (∀ w ∈ WS, w.before args s = true) ∧ (∀ q : Nat, s.heap.size ≤ q → A q) ∧ roA.length = RO.length ∧ meth.locks = false ∧
  ∀ (j : Nat) (q : Nat × (Nat → Int32)), RO[j]? = some q → ∃ a : Nat, roA[j]? = some a ∧ va_T .int a q.1 (fun i => .int (q.2 i)) A s s.heap ∧ ∀ n : String × String × String, SN[j]? = some n → va_Z n.1 n.2.1 n.2.2 (.ref a) A s s.heap
/-- from every machine's frame that stands for R, the walk comes to an end with Q -/
def eW (p : Program) (l : Launch) (e : Env) (Rm : Room) (s : State) (m : MethodId) (args : Array Value) (below : List Frame) (meth : Method) (c : Code) (Q : State → Prop) (D : va_G) (CL : List vw_C) (A : Nat → Prop) (roA : List Nat) (nL : Nat) (ads0 : List Nat) (R : eR) : Prop :=
  ∀ (H : Heap) (locs : List Loc) (ws : va_W) (tys : List (ClassId × FieldType)) (ls : Array Slot) (lv : List (Nat × Value)) (st : List Value), ads0 <+: roA ++ ws.map Prod.fst → va_K D CL tys s → va_P D CL ws H → va_D A ws → va_S A s.heap H locs →
    eHp tys (roA ++ ws.map Prod.fst) R.2.2.2.1 ws → lv_has ls nL lv → eLs (roA ++ ws.map Prod.fst) R.2.1 lv → eVs (roA ++ ws.map Prod.fst) R.2.2.1 st → W p l e Rm s m args below meth c H locs R.2.2.2.2.1 R.2.2.2.2.2 Q (F0 m R.1 ls st)
section ESTEP
variable {p : Program} {l : Launch} {e : Env} {Rm : Room} {s : State} {m : MethodId} {args : Array Value} {below : List Frame} {meth : Method} {c : Code} {Q : State → Prop}
variable {RO : List (Nat × (Nat → Int32))} {CL : List vw_C} {CT : Nat → Nat → FieldType} {WS : List Cond} {SN : List (String × String × String)} {D : va_G} {A : Nat → Prop} {roA : List Nat} {own : String} {cc : ByteArray} {nL : Nat} {ads0 : List Nat} {R R' : eR}
theorem eTag0 {v : Value} (h : eTag v = 0) : ∃ x, v = .int x := by
  cases v <;> first | exact ⟨_, rfl⟩ | exact absurd h (by simp [eTag])
theorem eTag1 {v : Value} (h : eTag v = 1) : ∃ x, v = .long x := by
  cases v <;> first | exact ⟨_, rfl⟩ | exact absurd h (by simp [eTag])
theorem eTag2 {v : Value} (h : eTag v = 2) : ∃ x, v = .ref x := by
  cases v <;> first | exact ⟨_, rfl⟩ | exact absurd h (by simp [eTag])
theorem w3 (C : eCx p s m args meth c WS RO SN A roA own cc nL) {nx a b : Nat} (h : e3 nx a b R = some R') {i : Instr} {n : Nat} (hi : eLdI b a = some (i, n)) (hd : decode cc R.1 = .ok (i, n)) (hn : nx = R.1 + n) (hW : eW p l e Rm s m args below meth c Q D CL A roA nL ads0 R') : eW p l e Rm s m args below meth c Q D CL A roA nL ads0 R := by
  obtain ⟨hx, hb, -⟩ := C
  obtain ⟨pc, ls0, st0, G, c0, s0⟩ := R
  simp only [e3] at h
  split at h
  · rename_i v hv
    split at h
    · rename_i ht
      cases h
      intro H locs ws tys ls lv st hp hK hP hD hS hG hl hL hV
      obtain ⟨w, hw, hvw⟩ := eLs_get hL hv
      have hls : ls[a]? = some (.val w) := hl.2.2 (a, w) hw
      have k := hW H locs ws tys ls lv (w :: st) hp hK hP hD hS hG hl hL ⟨hvw, hV⟩
      simp only at hd hn k ⊢
      subst hn
      unfold eLdI at hi
      split at hi
      · subst b; cases hi
        obtain ⟨x, rfl⟩ := eTag0 ht
        cases hvw
        exact lv_iload hx hb hd hls k
      split at hi
      · subst b; cases hi
        obtain ⟨x, rfl⟩ := eTag1 ht
        cases hvw
        exact lv_lload hx hb hd hls k
      split at hi
      · subst b; cases hi
        obtain ⟨x, rfl⟩ := eTag2 ht
        obtain ⟨y, -, rfl⟩ := hvw
        exact lv_aload hx hb hd hls k
      split at hi
      · split at hi
        · subst b; cases hi
          obtain ⟨x, rfl⟩ := eTag0 ht
          cases hvw
          exact lv_iload_n hx hb hd rfl hls k
        split at hi
        · subst b; cases hi
          obtain ⟨x, rfl⟩ := eTag1 ht
          cases hvw
          exact lv_lload_n hx hb hd rfl hls k
        split at hi
        · subst b; cases hi
          obtain ⟨x, rfl⟩ := eTag2 ht
          obtain ⟨y, -, rfl⟩ := hvw
          exact lv_aload_n hx hb hd rfl hls k
        · cases hi
      · cases hi
    · cases h
  · cases h
theorem w4 (C : eCx p s m args meth c WS RO SN A roA own cc nL) {nx a b : Nat} (h : e4 nL nx a b R = some R') {i : Instr} {n : Nat} (hi : eSnI b a = some (i, n)) (hd : decode cc R.1 = .ok (i, n)) (hn : nx = R.1 + n) (hW : eW p l e Rm s m args below meth c Q D CL A roA nL ads0 R') : eW p l e Rm s m args below meth c Q D CL A roA nL ads0 R := by
  obtain ⟨hx, hb, -⟩ := C
  obtain ⟨pc, ls0, st0, G, c0, s0⟩ := R
  cases st0 with
  | nil => simp only [e4] at h; cases h
  | cons v st0 =>
    simp only [e4] at h
    split at h
    · rename_i ht
      intro H locs ws tys ls lv st hp hK hP hD hS hG hl hL hV
      obtain ⟨w, r, rfl, hvw, hV1⟩ := eVs_cons hV
      simp only at hd hn ⊢
      subst hn
      unfold eSnI at hi
      split at h
      · rename_i hb1
        split at h
        · rename_i ha
          cases h
          have k : ∀ ls' : Array Slot, lv_has ls' nL _ → _ := fun ls' hl' => hW H locs ws tys ls' _ r hp hK hP hD hS hG hl' (eLs_st2 hL hvw) hV1
          split at hi
          · subst b; exact absurd hb1 (by decide)
          split at hi
          · subst b; cases hi
            obtain ⟨x, rfl⟩ := eTag1 ht
            cases hvw
            exact lv_lstore hx hb hd hl ha rfl k
          split at hi
          · subst b; exact absurd hb1 (by decide)
          split at hi
          · split at hi
            · subst b; exact absurd hb1 (by decide)
            split at hi
            · subst b; cases hi
              obtain ⟨x, rfl⟩ := eTag1 ht
              cases hvw
              exact lv_lstore_n hx hb hd rfl hl ha rfl k
            split at hi
            · subst b; exact absurd hb1 (by decide)
            · cases hi
          · cases hi
        · cases h
      · rename_i hb1
        split at h
        · rename_i ha
          cases h
          have k : ∀ ls' : Array Slot, lv_has ls' nL _ → _ := fun ls' hl' => hW H locs ws tys ls' _ r hp hK hP hD hS hG hl' (eLs_st1 hL hvw) hV1
          split at hi
          · subst b; cases hi
            obtain ⟨x, rfl⟩ := eTag0 ht
            cases hvw
            exact lv_istore hx hb hd hl ha rfl k
          split at hi
          · subst b; exact absurd rfl hb1
          split at hi
          · subst b; cases hi
            obtain ⟨x, rfl⟩ := eTag2 ht
            obtain ⟨y, -, rfl⟩ := hvw
            exact lv_astore hx hb hd hl ha rfl k
          split at hi
          · split at hi
            · subst b; cases hi
              obtain ⟨x, rfl⟩ := eTag0 ht
              cases hvw
              exact lv_istore_n hx hb hd rfl hl ha rfl k
            split at hi
            · subst b; exact absurd rfl hb1
            split at hi
            · subst b; cases hi
              obtain ⟨x, rfl⟩ := eTag2 ht
              obtain ⟨y, -, rfl⟩ := hvw
              exact lv_astore_n hx hb hd rfl hl ha rfl k
            · cases hi
          · cases hi
        · cases h
    · cases h
theorem w5 (C : eCx p s m args meth c WS RO SN A roA own cc nL) {nx a : Nat} {z : Int} (h : e5 nL nx a z R = some R') (hd : decode cc R.1 = .ok (.iinc a z, 3)) (hn : nx = R.1 + 3) (hW : eW p l e Rm s m args below meth c Q D CL A roA nL ads0 R') : eW p l e Rm s m args below meth c Q D CL A roA nL ads0 R := by
  obtain ⟨hx, hb, -⟩ := C
  obtain ⟨pc, ls0, st0, G, c0, s0⟩ := R
  simp only [e5] at h
  split at h
  · rename_i x hv
    split at h
    · rename_i ha
      cases h
      intro H locs ws tys ls lv st hp hK hP hD hS hG hl hL hV
      obtain ⟨w, hw, hvw⟩ := eLs_get hL hv
      cases hvw
      obtain ⟨k9, hk9⟩ := List.getElem?_of_mem hw
      simp only at hd hn ⊢
      subst hn
      exact lv_iinc hx hb hd hl hk9 rfl ha rfl (fun ls' hl' => hW H locs ws tys ls' _ st hp hK hP hD hS hG hl' (eLs_st1 hL rfl) hV)
    · cases h
  · cases h
theorem w6 (C : eCx p s m args meth c WS RO SN A roA own cc nL) {nx b : Nat} (h : e6 nx b R = some R') (hd : decode cc R.1 = .ok (eBinI b, 1)) (hn : nx = R.1 + 1) (hW : eW p l e Rm s m args below meth c Q D CL A roA nL ads0 R') : eW p l e Rm s m args below meth c Q D CL A roA nL ads0 R := by
  obtain ⟨hx, hb, -⟩ := C
  unfold e6 at h
  split at h
  · rename_i pc ls0 y x st0 G c0 s0
    obtain ⟨v, hv, rfl⟩ := Option.map_eq_some_iff.mp h
    intro H locs ws tys ls lv st hp hK hP hD hS hG hl hL hV
    obtain ⟨r1, rfl, hV1⟩ := eVs_int hV
    obtain ⟨r2, rfl, hV2⟩ := eVs_int hV1
    have k := hW H locs ws tys ls lv (.int v :: r2) hp hK hP hD hS hG hl hL ⟨rfl, hV2⟩
    simp only at hd hn k ⊢
    subst hn
    unfold eBin at hv
    unfold eBinI at hd
    by_cases n0 : b = 0
    · rw [if_pos n0] at hv hd; cases hv; exact lv_iadd hx hb hd k
    rw [if_neg n0] at hv hd
    by_cases n1 : b = 1
    · rw [if_pos n1] at hv hd; cases hv; exact lv_isub hx hb hd k
    rw [if_neg n1] at hv hd
    by_cases n2 : b = 2
    · rw [if_pos n2] at hv hd; cases hv; exact lv_imul hx hb hd k
    rw [if_neg n2] at hv hd
    by_cases n3 : b = 3
    · rw [if_pos n3] at hv hd; cases hv; exact lv_iand hx hb hd k
    rw [if_neg n3] at hv hd
    by_cases n4 : b = 4
    · rw [if_pos n4] at hv hd; cases hv; exact lv_ior hx hb hd k
    rw [if_neg n4] at hv hd
    by_cases n5 : b = 5
    · rw [if_pos n5] at hv hd; cases hv; exact lv_ixor hx hb hd k
    rw [if_neg n5] at hv hd
    by_cases n6 : b = 6
    · rw [if_pos n6] at hv hd; cases hv; exact lv_ishl hx hb hd k
    rw [if_neg n6] at hv hd
    by_cases n7 : b = 7
    · rw [if_pos n7] at hv hd; cases hv; exact lv_ishr hx hb hd k
    rw [if_neg n7] at hv hd
    by_cases n8 : b = 8
    · rw [if_pos n8] at hv hd; cases hv; exact lv_iushr hx hb hd rfl k
    rw [if_neg n8] at hv hd
    by_cases n9 : b = 9
    · rw [if_pos n9] at hv hd
      by_cases hy : y = 0
      · rw [if_pos hy] at hv; cases hv
      · rw [if_neg hy] at hv; cases hv; exact lv_idiv hx hb hd hy k
    rw [if_neg n9] at hv hd
    by_cases n10 : b = 10
    · rw [if_pos n10] at hv hd
      by_cases hy : y = 0
      · rw [if_pos hy] at hv; cases hv
      · rw [if_neg hy] at hv; cases hv; exact lv_irem hx hb hd hy k
    rw [if_neg n10] at hv; cases hv
  · cases h
theorem w7 (C : eCx p s m args meth c WS RO SN A roA own cc nL) {nx b : Nat} (h : e7 nx b R = some R') (hd : decode cc R.1 = .ok (eLinI b, 1)) (hn : nx = R.1 + 1) (hW : eW p l e Rm s m args below meth c Q D CL A roA nL ads0 R') : eW p l e Rm s m args below meth c Q D CL A roA nL ads0 R := by
  obtain ⟨hx, hb, -⟩ := C
  unfold e7 at h
  split at h
  · rename_i pc ls0 y x st0 G c0 s0
    obtain ⟨v, hv, rfl⟩ := Option.map_eq_some_iff.mp h
    intro H locs ws tys ls lv st hp hK hP hD hS hG hl hL hV
    obtain ⟨r1, rfl, hV1⟩ := eVs_long hV
    obtain ⟨r2, rfl, hV2⟩ := eVs_long hV1
    have k := hW H locs ws tys ls lv (.long v :: r2) hp hK hP hD hS hG hl hL ⟨rfl, hV2⟩
    simp only at hd hn k ⊢
    subst hn
    unfold eLin at hv
    unfold eLinI at hd
    by_cases n0 : b = 0
    · rw [if_pos n0] at hv hd; cases hv; exact lv_ladd hx hb hd k
    rw [if_neg n0] at hv hd
    by_cases n1 : b = 1
    · rw [if_pos n1] at hv hd; cases hv; exact lv_lsub hx hb hd k
    rw [if_neg n1] at hv hd
    by_cases n2 : b = 2
    · rw [if_pos n2] at hv hd; cases hv; exact lv_lmul hx hb hd k
    rw [if_neg n2] at hv hd
    by_cases n3 : b = 3
    · rw [if_pos n3] at hv hd; cases hv; exact lv_land hx hb hd k
    rw [if_neg n3] at hv hd
    by_cases n4 : b = 4
    · rw [if_pos n4] at hv hd; cases hv; exact lv_lor hx hb hd k
    rw [if_neg n4] at hv hd
    by_cases n5 : b = 5
    · rw [if_pos n5] at hv hd; cases hv; exact lv_lxor hx hb hd k
    rw [if_neg n5] at hv hd
    by_cases n9 : b = 9
    · rw [if_pos n9] at hv hd
      by_cases hy : y = 0
      · rw [if_pos hy] at hv; cases hv
      · rw [if_neg hy] at hv; cases hv; exact lv_ldiv hx hb hd hy k
    rw [if_neg n9] at hv; cases hv
  · cases h
theorem w8 (C : eCx p s m args meth c WS RO SN A roA own cc nL) {nx b : Nat} (h : e8 nx b R = some R') (hd : decode cc R.1 = .ok (eUnI b, 1)) (hn : nx = R.1 + 1) (hW : eW p l e Rm s m args below meth c Q D CL A roA nL ads0 R') : eW p l e Rm s m args below meth c Q D CL A roA nL ads0 R := by
  obtain ⟨hx, hb, -⟩ := C
  unfold e8 at h
  split at h
  · rename_i pc ls0 v st0 G c0 s0
    obtain ⟨w, hv, rfl⟩ := Option.map_eq_some_iff.mp h
    intro H locs ws tys ls lv st hp hK hP hD hS hG hl hL hV
    unfold eUn at hv
    unfold eUnI at hd
    split at hv
    · rename_i x
      obtain ⟨r1, rfl, hV1⟩ := eVs_int hV
      split at hv
      · subst b; cases hv
        have k := hW H locs ws tys ls lv (_ :: r1) hp hK hP hD hS hG hl hL ⟨rfl, hV1⟩
        simp only at hd hn k ⊢
        subst hn
        exact lv_ineg hx hb hd k
      rename_i n0; rw [if_neg n0] at hd
      split at hv
      · subst b; cases hv
        have k := hW H locs ws tys ls lv (_ :: r1) hp hK hP hD hS hG hl hL ⟨rfl, hV1⟩
        simp only at hd hn k ⊢
        subst hn
        exact lv_i2b hx hb hd rfl k
      rename_i n1; rw [if_neg n1] at hd
      split at hv
      · subst b; cases hv
        have k := hW H locs ws tys ls lv (_ :: r1) hp hK hP hD hS hG hl hL ⟨rfl, hV1⟩
        simp only at hd hn k ⊢
        subst hn
        exact lv_i2s hx hb hd rfl k
      rename_i n2; rw [if_neg n2] at hd
      split at hv
      · subst b; cases hv
        have k := hW H locs ws tys ls lv (_ :: r1) hp hK hP hD hS hG hl hL ⟨rfl, hV1⟩
        simp only at hd hn k ⊢
        subst hn
        exact lv_i2l hx hb hd rfl k
      · cases hv
    · rename_i x
      obtain ⟨r1, rfl, hV1⟩ := eVs_long hV
      split at hv
      · subst b; cases hv
        have k := hW H locs ws tys ls lv (_ :: r1) hp hK hP hD hS hG hl hL ⟨rfl, hV1⟩
        simp only at hd hn k ⊢
        subst hn
        exact lv_l2i hx hb hd rfl k
      · cases hv
    · cases hv
  · cases h
theorem w9 (C : eCx p s m args meth c WS RO SN A roA own cc nL) {nx : Nat} (h : e9 nx R = some R') (hd : decode cc R.1 = .ok (.lcmp, 1)) (hn : nx = R.1 + 1) (hW : eW p l e Rm s m args below meth c Q D CL A roA nL ads0 R') : eW p l e Rm s m args below meth c Q D CL A roA nL ads0 R := by
  obtain ⟨hx, hb, -⟩ := C
  unfold e9 at h
  split at h
  · cases h
    intro H locs ws tys ls lv st hp hK hP hD hS hG hl hL hV
    obtain ⟨r1, rfl, hV1⟩ := eVs_long hV
    obtain ⟨r2, rfl, hV2⟩ := eVs_long hV1
    have k := hW H locs ws tys ls lv (_ :: r2) hp hK hP hD hS hG hl hL ⟨rfl, hV2⟩
    simp only at hd hn k ⊢
    subst hn
    exact W.lcmp hx hb hd k
  · cases h
theorem w10 (C : eCx p s m args meth c WS RO SN A roA own cc nL) {nx : Nat} (h : e10 nx R = some R') (hd : decode cc R.1 = .ok (.lshl, 1)) (hn : nx = R.1 + 1) (hW : eW p l e Rm s m args below meth c Q D CL A roA nL ads0 R') : eW p l e Rm s m args below meth c Q D CL A roA nL ads0 R := by
  obtain ⟨hx, hb, -⟩ := C
  unfold e10 at h
  split at h
  · cases h
    intro H locs ws tys ls lv st hp hK hP hD hS hG hl hL hV
    obtain ⟨r1, rfl, hV1⟩ := eVs_int hV
    obtain ⟨r2, rfl, hV2⟩ := eVs_long hV1
    have k := hW H locs ws tys ls lv (_ :: r2) hp hK hP hD hS hG hl hL ⟨rfl, hV2⟩
    simp only at hd hn k ⊢
    subst hn
    exact lv_lshl hx hb hd rfl k
  · cases h
theorem w12 (C : eCx p s m args meth c WS RO SN A roA own cc nL) {nx a b : Nat} {z : Int} (h : e12 nx a b R = some R') (hd : decode cc R.1 = .ok (.ifCond (eCmpI b) z, 3)) (hn : nx = R.1 + 3) (ht : (R.1 : Int) + z = (a : Int)) (hW : eW p l e Rm s m args below meth c Q D CL A roA nL ads0 R') : eW p l e Rm s m args below meth c Q D CL A roA nL ads0 R := by
  obtain ⟨hx, hb, -⟩ := C
  unfold e12 at h
  split at h
  · rename_i pc ls0 x st0 G c0 s0
    cases h
    intro H locs ws tys ls lv st hp hK hP hD hS hG hl hL hV
    obtain ⟨r1, rfl, hV1⟩ := eVs_int hV
    have k := hW H locs ws tys ls lv r1 hp hK hP hD hS hG hl hL hV1
    simp only at hd hn ht k ⊢
    subst hn
    have kt : eCmp b x 0 = true → W p l e Rm s m args below meth c H locs c0 s0 Q (F0 m a ls r1) := fun q => by rw [if_pos q] at k; exact k
    have kf : ¬ eCmp b x 0 = true → W p l e Rm s m args below meth c H locs c0 s0 Q (F0 m (pc + 3) ls r1) := fun q => by rw [if_neg q] at k; exact k
    unfold eCmpI at hd
    split at hd
    · subst b; exact lv_if_eq hx hb hd ht (fun q => kt (by simp [eCmp, q])) (fun q => kf (by simp [eCmp, q]))
    split at hd
    · subst b; exact lv_if_ne hx hb hd ht (fun q => kt (by simp [eCmp, q])) (fun q => kf (by simp [eCmp, q]))
    split at hd
    · subst b; exact lv_if_lt hx hb hd ht (fun q => kt (by simp [eCmp, q])) (fun q => kf (by simp [eCmp, q]))
    split at hd
    · subst b; exact lv_if_ge hx hb hd ht (fun q => kt (by simp [eCmp, q])) (fun q => kf (by simp [eCmp, q]))
    split at hd
    · subst b; exact lv_if_gt hx hb hd ht (fun q => kt (by simp [eCmp, q])) (fun q => kf (by simp [eCmp, q]))
    · rename_i n0 n1 n2 n3 n4
      exact lv_if_le hx hb hd ht (fun q => kt (by simp [eCmp, n0, n1, n2, n3, n4, q])) (fun q => kf (by simp [eCmp, n0, n1, n2, n3, n4, q]))
  · cases h
theorem w13 (C : eCx p s m args meth c WS RO SN A roA own cc nL) {nx a b : Nat} {z : Int} (h : e13 nx a b R = some R') (hd : decode cc R.1 = .ok (.if_icmp (eCmpI b) z, 3)) (hn : nx = R.1 + 3) (ht : (R.1 : Int) + z = (a : Int)) (hW : eW p l e Rm s m args below meth c Q D CL A roA nL ads0 R') : eW p l e Rm s m args below meth c Q D CL A roA nL ads0 R := by
  obtain ⟨hx, hb, -⟩ := C
  unfold e13 at h
  split at h
  · rename_i pc ls0 y x st0 G c0 s0
    cases h
    intro H locs ws tys ls lv st hp hK hP hD hS hG hl hL hV
    obtain ⟨r1, rfl, hV1⟩ := eVs_int hV
    obtain ⟨r2, rfl, hV2⟩ := eVs_int hV1
    have k := hW H locs ws tys ls lv r2 hp hK hP hD hS hG hl hL hV2
    simp only at hd hn ht k ⊢
    subst hn
    have kt : eCmp b x y = true → W p l e Rm s m args below meth c H locs c0 s0 Q (F0 m a ls r2) := fun q => by rw [if_pos q] at k; exact k
    have kf : ¬ eCmp b x y = true → W p l e Rm s m args below meth c H locs c0 s0 Q (F0 m (pc + 3) ls r2) := fun q => by rw [if_neg q] at k; exact k
    unfold eCmpI at hd
    split at hd
    · subst b; exact lv_icmp_eq hx hb hd ht (fun q => kt (by simp [eCmp, q])) (fun q => kf (by simp [eCmp, q]))
    split at hd
    · subst b; exact lv_icmp_ne hx hb hd ht (fun q => kt (by simp [eCmp, q])) (fun q => kf (by simp [eCmp, q]))
    split at hd
    · subst b; exact lv_icmp_lt hx hb hd ht (fun q => kt (by simp [eCmp, q])) (fun q => kf (by simp [eCmp, q]))
    split at hd
    · subst b; exact lv_icmp_ge hx hb hd ht (fun q => kt (by simp [eCmp, q])) (fun q => kf (by simp [eCmp, q]))
    split at hd
    · subst b; exact lv_icmp_gt hx hb hd ht (fun q => kt (by simp [eCmp, q])) (fun q => kf (by simp [eCmp, q]))
    · rename_i n0 n1 n2 n3 n4
      exact lv_icmp_le hx hb hd ht (fun q => kt (by simp [eCmp, n0, n1, n2, n3, n4, q])) (fun q => kf (by simp [eCmp, n0, n1, n2, n3, n4, q]))
  · cases h
end ESTEP
end
section
/-! Instructions on the heap. -/
section EHEAP
variable {p : Program} {l : Launch} {e : Env} {Rm : Room} {s : State} {m : MethodId} {args : Array Value} {below : List Frame} {meth : Method} {c : Code} {Q : State → Prop}
variable {RO : List (Nat × (Nat → Int32))} {CL : List vw_C} {CT : Nat → Nat → FieldType} {WS : List Cond} {SN : List (String × String × String)} {D : va_G} {A : Nat → Prop} {roA : List Nat} {own : String} {cc : ByteArray} {nL : Nat} {ads0 : List Nat} {R R' : eR}
variable {tys : List (ClassId × FieldType)} {ws : va_W} {G : List eE} {q a n ci nr : Nat} {fs : List Value} {ty : FieldType}
theorem eObj (hn : roA.length = nr) (hG : eHp tys (roA ++ ws.map Prod.fst) G ws) (hq : ¬ q < nr) (ha : (roA ++ ws.map Prod.fst)[q]? = some a) (hg : G[q - nr]? = some (.inr (ci, fs))) : ∃ gs, ws[q - nr]? = some (a, .inr (ci, gs)) ∧ eVs (roA ++ ws.map Prod.fst) fs gs := by
  obtain ⟨⟨y1, y2⟩, hy, gs, h1, h2⟩ := eHp_at hG hg
  have e1 := eAt hn hq ha hy
  simp only at e1 h1
  subst e1; subst h1
  exact ⟨gs, hy, h2⟩
theorem eArrI {f : Nat → Int32} (hn : roA.length = nr) (hG : eHp tys (roA ++ ws.map Prod.fst) G ws) (hq : ¬ q < nr) (ha : (roA ++ ws.map Prod.fst)[q]? = some a) (hg : G[q - nr]? = some (.inl (ty, n, .inl f))) : ∃ (cA : ClassId) (t : Nat), ws[q - nr]? = some (a, .inl (cA, n, .inl f)) ∧ tys[t]? = some (cA, ty) := by
  obtain ⟨⟨y1, y2⟩, hy, cA, t, w, h1, h2, h3⟩ := eHp_at hG hg
  have e1 := eAt hn hq ha hy
  have h3 : w = .inl f := h3
  simp only at e1 h1
  subst e1; subst h1; subst h3
  exact ⟨cA, t, hy, h2⟩
theorem eArrL {f : Nat → Int64} (hn : roA.length = nr) (hG : eHp tys (roA ++ ws.map Prod.fst) G ws) (hq : ¬ q < nr) (ha : (roA ++ ws.map Prod.fst)[q]? = some a) (hg : G[q - nr]? = some (.inl (ty, n, .inr (.inl f)))) : ∃ (cA : ClassId) (t : Nat), ws[q - nr]? = some (a, .inl (cA, n, .inr (.inl f))) ∧ tys[t]? = some (cA, ty) := by
  obtain ⟨⟨y1, y2⟩, hy, cA, t, w, h1, h2, h3⟩ := eHp_at hG hg
  have e1 := eAt hn hq ha hy
  have h3 : w = .inr (.inl f) := h3
  simp only at e1 h1
  subst e1; subst h1; subst h3
  exact ⟨cA, t, hy, h2⟩
theorem eArrQ {f : Nat → Option Nat} (hn : roA.length = nr) (hG : eHp tys (roA ++ ws.map Prod.fst) G ws) (hq : ¬ q < nr) (ha : (roA ++ ws.map Prod.fst)[q]? = some a) (hg : G[q - nr]? = some (.inl (ty, n, .inr (.inr f)))) : ∃ (cA : ClassId) (t : Nat) (g : Nat → Option Nat), ws[q - nr]? = some (a, .inl (cA, n, .inr (.inr (.inr (.inr g))))) ∧ tys[t]? = some (cA, ty) ∧ ∀ i, i < n → eO (roA ++ ws.map Prod.fst) (f i) (g i) := by
  obtain ⟨⟨y1, y2⟩, hy, cA, t, w, h1, h2, g, h3, h4⟩ := eHp_at hG hg
  have e1 := eAt hn hq ha hy
  simp only at e1 h1
  subst e1; subst h1; subst h3
  exact ⟨cA, t, g, hy, h2, h4⟩
theorem eFit_ok {ads : List Nat} {v w : Value} (h : eFit ty v = true) (hv : eV ads v w) : narrow ty w = w ∧ fits ty w = true := by
  unfold eFit at h
  split at h
  · obtain ⟨a, -, rfl⟩ := hv
    split at h <;> first | exact ⟨rfl, rfl⟩ | cases h
  · cases hv
    split at h
    · exact ⟨rfl, rfl⟩
    · simp only [Bool.or_eq_true, decide_eq_true_eq] at h
      rcases h with rfl | rfl <;> exact ⟨by decide, by decide⟩
    · cases h
  · cases hv
    split at h <;> first | exact ⟨rfl, rfl⟩ | cases h
  · cases h
theorem eO_rf {ads : List Nat} {r t : Option Nat} (h : eO ads r t) : eV ads (eRf r) (va_rf t) := by
  cases r with
  | none =>
    have h : t = none := h
    subst h
    rfl
  | some k =>
    obtain ⟨a, h1, rfl⟩ := h
    exact ⟨a, h1, rfl⟩
theorem eV_dflt (ads : List Nat) (t : FieldType) : eV ads (defaultValue t) (defaultValue t) := by cases t <;> rfl
theorem eVs_dflt (ads : List Nat) (f : Nat → FieldType) : ∀ L : List Nat, eVs ads (L.map fun j => defaultValue (f j)) (L.map fun j => defaultValue (f j))
  | [] => trivial
  | j :: r => ⟨eV_dflt ads (f j), eVs_dflt ads f r⟩
theorem w16 (C : eCx p s m args meth c WS RO SN A roA own cc nL) {nx b k ix N : Nat} {Cn : String} {T : u_T} (h : e16 RO nx b k R = some R') (hd : decode cc R.1 = .ok (.getfield ix, 3)) (hn : nx = R.1 + 3) (hc : CL[b]? = some (Cn, T, N)) (hk : k < N) (hin : ∀ w ∈ u_ws Cn T N, w ∈ WS) (hlk : Cond.fieldLink own ix (T k).1 (T k).2.1 (T k).2.2.1 ∈ WS)
    (hW : eW p l e Rm s m args below meth c Q D CL A roA nL ads0 R') : eW p l e Rm s m args below meth c Q D CL A roA nL ads0 R := by
  obtain ⟨hx, hb, hml, hown, hts, hA, hro, hlocks, hst⟩ := C
  unfold e16 at h
  split at h
  · rename_i pc ls0 q st0 G c0 s0
    split at h
    · cases h
    rename_i hq
    split at h
    · rename_i ci fs hg
      split at h
      · rename_i hci
        subst hci
        obtain ⟨v, hv, rfl⟩ := Option.map_eq_some_iff.mp h
        intro H locs ws tys ls lv st hp hK hP hD hS hG hl hL hV
        obtain ⟨a, r1, rfl, ha, hV1⟩ := eVs_ref hV
        obtain ⟨gs, he, hgs⟩ := eObj hro hG hq ha hg
        obtain ⟨w, hw, hvw⟩ := eVs_get hgs hv
        have kk := hW H locs ws tys ls lv (w :: r1) hp hK hP hD hS hG hl hL ⟨hvw, hV1⟩
        simp only at hd hn kk ⊢
        subst hn
        exact va_get (D := D) hx hb hts hin hown hK hP (q - RO.length) he hc k hk (hts _ hlk) (fun _ h9 => h9) hw hd kk
      · cases h
    · cases h
  · cases h
theorem w17 (C : eCx p s m args meth c WS RO SN A roA own cc nL) {nx b k ix N : Nat} {Cn : String} {T : u_T} (h : e17 RO CT nx b k R = some R') (hd : decode cc R.1 = .ok (.putfield ix, 3)) (hn : nx = R.1 + 3) (hc : CL[b]? = some (Cn, T, N)) (hk : k < N) (hin : ∀ w ∈ u_ws Cn T N, w ∈ WS) (hlk : Cond.fieldLink own ix (T k).1 (T k).2.1 (T k).2.2.1 ∈ WS)
    (hty : ∀ k, k < N → parseFieldDescriptor (T k).2.2.1 = some (CT b k)) (hnm : ∀ a, a < N → ∀ b, b < N → a ≠ b → (T a).2.1 ≠ (T b).2.1) (hfin : (T k).2.2.2 = false ∨ ((T k).2.2.2 = true ∧ meth.name = "<init>" ∧ (T k).1 = own))
    (hW : eW p l e Rm s m args below meth c Q D CL A roA nL ads0 R') : eW p l e Rm s m args below meth c Q D CL A roA nL ads0 R := by
  obtain ⟨hx, hb, hml, hown, hts, hA, hro, hlocks, hst⟩ := C
  unfold e17 at h
  split at h
  · rename_i pc ls0 v q st0 G c0 s0
    split at h
    · cases h
    rename_i hq
    split at h
    · rename_i ci fs hg
      split at h
      · rename_i hci
        obtain ⟨hci, hkl, hfit⟩ := hci
        subst hci
        cases h
        intro H locs ws tys ls lv st hp hK hP hD hS hG hl hL hV
        obtain ⟨w, r0, rfl, hvw, hV0⟩ := eVs_cons hV
        obtain ⟨a, r1, rfl, ha, hV1⟩ := eVs_ref hV0
        obtain ⟨gs, he, hgs⟩ := eObj hro hG hq ha hg
        obtain ⟨f1, f2⟩ := eFit_ok hfit hvw
        have kk : ∀ (H1 : Heap) (locs1 : List Loc), va_P D CL (ws.set (q - RO.length) (a, .inr (ci, gs.set k w))) H1 → va_D A (ws.set (q - RO.length) (a, .inr (ci, gs.set k w))) → va_S A s.heap H1 locs1 → W p l e Rm s m args below meth c H1 locs1 c0 s0 Q (F0 m nx ls r1) := fun H1 locs1 hP1 hD1 hS1 =>
          hW H1 locs1 _ tys ls lv r1 (by rw [eMapSet he]; exact hp) hK hP1 hD1 hS1 (by rw [eMapSet he]; exact eHp_set hG ⟨_, rfl, eVs_set hvw k hgs⟩) hl (by rw [eMapSet he]; exact hL) (by rw [eMapSet he]; exact hV1)
        have hgl : k < gs.length := by rw [← eVs_len hgs]; exact hkl
        simp only at hd hn ⊢
        subst hn
        rcases hfin with hfin | ⟨hfin, hini, hdecl⟩
        · exact va_put (D := D) hx hb hts hin (CT ci) hty hnm hown hK hP hD hS (q - RO.length) he hc k hk (hts _ hlk) (fun _ h9 => h9) hfin (hty k hk) f1 f2 hgl hd kk
        · exact va_putF (D := D) hx hb hts hin (CT ci) hty hnm hown hK hP hD hS (q - RO.length) he hc k hk (hts _ hlk) (fun _ h9 => h9) hfin hini hdecl (hty k hk) f1 f2 hgl hd kk
      · cases h
    · cases h
  · cases h
theorem w18 (C : eCx p s m args meth c WS RO SN A roA own cc nL) {nx b ix : Nat} {r : Nat × (Nat → Int32)} {sn : String × String × String} (h : e18 nx b R = some R') (hd : decode cc R.1 = .ok (.getstatic ix, 3)) (hn : nx = R.1 + 3) (hr : RO[b]? = some r) (hs : SN[b]? = some sn) (hlk : Cond.fieldLink own ix sn.1 sn.2.1 sn.2.2 ∈ WS)
    (hW : eW p l e Rm s m args below meth c Q D CL A roA nL ads0 R') : eW p l e Rm s m args below meth c Q D CL A roA nL ads0 R := by
  obtain ⟨hx, hb, hml, hown, hts, hA, hro, hlocks, hst⟩ := C
  obtain ⟨pc, ls0, st0, G, c0, s0⟩ := R
  simp only [e18, Option.some.injEq] at h
  subst h
  obtain ⟨a, ha, -, hz⟩ := hst b r hr
  intro H locs ws tys ls lv st hp hK hP hD hS hG hl hL hV
  have ha2 : (roA ++ ws.map Prod.fst)[b]? = some a := by rw [List.getElem?_append_left (List.getElem?_eq_some_iff.mp ha).1]; exact ha
  have kk := hW H locs ws tys ls lv (.ref a :: st) hp hK hP hD hS hG hl hL ⟨⟨a, ha2, rfl⟩, hV⟩
  simp only at hd hn kk ⊢
  subst hn
  exact va_gets hx hb (hz sn hs) hS hown (hts _ hlk) (fun _ h9 => h9) hd kk
theorem w19 (C : eCx p s m args meth c WS RO SN A roA own cc nL) {nx b : Nat} (h : e19 RO nx b R = some R') (hd : decode cc R.1 = .ok (eAlI b, 1)) (hn : nx = R.1 + 1)
    (hW : eW p l e Rm s m args below meth c Q D CL A roA nL ads0 R') : eW p l e Rm s m args below meth c Q D CL A roA nL ads0 R := by
  obtain ⟨hx, hb, hml, hown, hts, hA, hro, hlocks, hst⟩ := C
  unfold e19 at h
  split at h
  · rename_i pc ls0 i q st0 G c0 s0
    split at h
    · rename_i hq
      split at h
      · rename_i n f hr
        split at h
        · rename_i hc
          obtain ⟨rfl, hin⟩ := hc
          cases h
          obtain ⟨a, ha, hT, -⟩ := hst q _ hr
          intro H locs ws tys ls lv st hp hK hP hD hS hG hl hL hV
          obtain ⟨r0, rfl, hV0⟩ := eVs_int hV
          obtain ⟨a1, r1, rfl, ha1, hV1⟩ := eVs_ref hV0
          have e1 : a1 = a := by
            have h9 := eAtR (by rw [hro]; exact hq) ha1
            exact Option.some.inj (h9.symm.trans ha)
          subst e1
          have kk := hW H locs ws tys ls lv (_ :: r1) hp hK hP hD hS hG hl hL ⟨rfl, hV1⟩
          simp only at hd hn kk ⊢
          subst hn
          exact va_ti hx hb hT hS (eIn_of hin) rfl hd kk
        · cases h
      · cases h
    · rename_i hq
      split at h
      · rename_i ty n f hg
        split at h
        · rename_i hc
          obtain ⟨hc, hin⟩ := hc
          cases h
          intro H locs ws tys ls lv st hp hK hP hD hS hG hl hL hV
          obtain ⟨r0, rfl, hV0⟩ := eVs_int hV
          obtain ⟨a, r1, rfl, ha, hV1⟩ := eVs_ref hV0
          obtain ⟨cA, t, he, ht⟩ := eArrI hro hG hq ha hg
          have kk := hW H locs ws tys ls lv (_ :: r1) hp hK hP hD hS hG hl hL ⟨rfl, hV1⟩
          simp only at hd hn kk ⊢
          subst hn
          rcases hc with ⟨rfl, rfl⟩ | ⟨rfl, rfl⟩ | ⟨rfl, rfl⟩
          · exact va_iald hx hb hK hP (q - RO.length) t he ht (eIn_of hin) hd kk
          · exact va_bald hx hb hK hP (q - RO.length) t he ht (eIn_of hin) hd kk
          · exact va_sald hx hb hK hP (q - RO.length) t he ht (eIn_of hin) hd kk
        · cases h
      · rename_i ty n f hg
        split at h
        · rename_i hc
          obtain ⟨⟨rfl, rfl⟩, hin⟩ := hc
          cases h
          intro H locs ws tys ls lv st hp hK hP hD hS hG hl hL hV
          obtain ⟨r0, rfl, hV0⟩ := eVs_int hV
          obtain ⟨a, r1, rfl, ha, hV1⟩ := eVs_ref hV0
          obtain ⟨cA, t, he, ht⟩ := eArrL hro hG hq ha hg
          have kk := hW H locs ws tys ls lv (_ :: r1) hp hK hP hD hS hG hl hL ⟨rfl, hV1⟩
          simp only at hd hn kk ⊢
          subst hn
          exact va_lald hx hb hK hP (q - RO.length) t he ht (eIn_of hin) hd kk
        · cases h
      · rename_i ty n f hg
        split at h
        · rename_i hc
          obtain ⟨⟨rfl, hty⟩, hin⟩ := hc
          cases h
          intro H locs ws tys ls lv st hp hK hP hD hS hG hl hL hV
          obtain ⟨r0, rfl, hV0⟩ := eVs_int hV
          obtain ⟨a, r1, rfl, ha, hV1⟩ := eVs_ref hV0
          obtain ⟨cA, t, g, he, ht, hfg⟩ := eArrQ hro hG hq ha hg
          have hlt : i.toNatClampNeg < n := Nat.not_le.mp fun z => (eIn_of hin) (Or.inr z)
          have kk := hW H locs ws tys ls lv (va_rf (g i.toNatClampNeg) :: r1) hp hK hP hD hS hG hl hL ⟨eO_rf (hfg _ hlt), hV1⟩
          simp only at hd hn kk ⊢
          subst hn
          exact W.aald (v := va_rf (g i.toNatClampNeg)) (ty := ty) hx hb (hP (q - RO.length) _ he) ((hK.2 t _ ht).1 n (fun j => va_rf (g j))) hty (fun z => by cases z) (by show ¬ (i < 0 ∨ (arrV _ _ _).slots.size ≤ _); rw [arrV_size]; exact eIn_of hin) (by show (arrV _ _ _).slots[_]? = _; rw [arrV_read _ _ hlt]) rfl rfl hd kk
        · cases h
      · cases h
  · cases h
theorem w21 (C : eCx p s m args meth c WS RO SN A roA own cc nL) {nx : Nat} (h : e21 RO nx R = some R') (hd : decode cc R.1 = .ok (.arraylength, 1)) (hn : nx = R.1 + 1)
    (hW : eW p l e Rm s m args below meth c Q D CL A roA nL ads0 R') : eW p l e Rm s m args below meth c Q D CL A roA nL ads0 R := by
  obtain ⟨hx, hb, hml, hown, hts, hA, hro, hlocks, hst⟩ := C
  unfold e21 at h
  split at h
  · rename_i pc ls0 q st0 G c0 s0
    split at h
    · rename_i hq
      split at h
      · rename_i n f hr
        cases h
        obtain ⟨a, ha, hT, -⟩ := hst q _ hr
        intro H locs ws tys ls lv st hp hK hP hD hS hG hl hL hV
        obtain ⟨a1, r1, rfl, ha1, hV1⟩ := eVs_ref hV
        have e1 : a1 = a := by
          have h9 := eAtR (by rw [hro]; exact hq) ha1
          exact Option.some.inj (h9.symm.trans ha)
        subst e1
        have kk := hW H locs ws tys ls lv (_ :: r1) hp hK hP hD hS hG hl hL ⟨rfl, hV1⟩
        simp only at hd hn kk ⊢
        subst hn
        exact va_tlen hx hb hT hS rfl hd kk
      · cases h
    · rename_i hq
      split at h
      · rename_i ty n f hg
        cases h
        intro H locs ws tys ls lv st hp hK hP hD hS hG hl hL hV
        obtain ⟨a, r1, rfl, ha, hV1⟩ := eVs_ref hV
        have kk := hW H locs ws tys ls lv (_ :: r1) hp hK hP hD hS hG hl hL ⟨rfl, hV1⟩
        simp only at hd hn kk ⊢
        subst hn
        rcases f with f | f | f
        · obtain ⟨cA, t, he, ht⟩ := eArrI hro hG hq ha hg
          exact va_alen hx hb hK hP (q - RO.length) t he ht rfl hd kk
        · obtain ⟨cA, t, he, ht⟩ := eArrL hro hG hq ha hg
          exact va_alen hx hb hK hP (q - RO.length) t he ht rfl hd kk
        · obtain ⟨cA, t, g, he, ht, -⟩ := eArrQ hro hG hq ha hg
          exact va_alen hx hb hK hP (q - RO.length) t he ht rfl hd kk
      · cases h
  · cases h
end EHEAP
end
section
/-! Stores into arrays, new cells, and what else there is. -/
section EMORE
variable {p : Program} {l : Launch} {e : Env} {Rm : Room} {s : State} {m : MethodId} {args : Array Value} {below : List Frame} {meth : Method} {c : Code} {Q : State → Prop}
variable {RO : List (Nat × (Nat → Int32))} {CL : List vw_C} {CT : Nat → Nat → FieldType} {WS : List Cond} {SN : List (String × String × String)} {D : va_G} {A : Nat → Prop} {roA : List Nat} {own : String} {cc : ByteArray} {nL : Nat} {ads0 : List Nat} {R R' : eR}
theorem w20 (C : eCx p s m args meth c WS RO SN A roA own cc nL) {nx b : Nat} (h : e20 RO CL nx b R = some R') (hd : decode cc R.1 = .ok (eAsI b, 1)) (hn : nx = R.1 + 1)
    (hW : eW p l e Rm s m args below meth c Q D CL A roA nL ads0 R') : eW p l e Rm s m args below meth c Q D CL A roA nL ads0 R := by
  obtain ⟨hx, hb, hml, hown, hts, hA, hro, hlocks, hst⟩ := C
  unfold e20 at h
  split at h
  · rename_i pc ls0 v i q st0 G c0 s0
    split at h
    · cases h
    rename_i hq
    split at h
    · rename_i x ty n f hg
      split at h
      · rename_i hin
        intro H locs ws tys ls lv st hp hK hP hD hS hG hl hL hV
        obtain ⟨r0, rfl, hV0⟩ := eVs_int hV
        obtain ⟨r1, rfl, hV1⟩ := eVs_int hV0
        obtain ⟨a, r2, rfl, ha, hV2⟩ := eVs_ref hV1
        obtain ⟨cA, t, he, ht⟩ := eArrI hro hG hq ha hg
        have key : ∀ g : Nat → Int32, R' = (nx, ls0, st0, G.set (q - RO.length) (.inl (ty, n, .inl g)), c0, s0) → ∀ (H1 : Heap) (locs1 : List Loc), va_P D CL (ws.set (q - RO.length) (a, .inl (cA, n, .inl g))) H1 → va_D A (ws.set (q - RO.length) (a, .inl (cA, n, .inl g))) → va_S A s.heap H1 locs1 → W p l e Rm s m args below meth c H1 locs1 c0 s0 Q (F0 m nx ls r2) := by
          intro g hR H1 locs1 hP1 hD1 hS1
          subst hR
          exact hW H1 locs1 _ tys ls lv r2 (by rw [eMapSet he]; exact hp) hK hP1 hD1 hS1 (by rw [eMapSet he]; exact eHp_set hG ⟨cA, t, _, rfl, ht, rfl⟩) hl (by rw [eMapSet he]; exact hL) (by rw [eMapSet he]; exact hV2)
        simp only at hd hn ⊢
        subst hn
        split at h
        · rename_i hc
          obtain ⟨rfl, rfl⟩ := hc
          exact va_iast hx hb hK hP hD hS (q - RO.length) t he ht (eIn_of hin) hd (key _ (Option.some.inj h).symm)
        split at h
        · rename_i hc
          obtain ⟨rfl, rfl⟩ := hc
          exact va_bast hx hb hK hP hD hS (q - RO.length) t he ht (eIn_of hin) hd (key _ (Option.some.inj h).symm)
        split at h
        · rename_i hc
          obtain ⟨rfl, rfl⟩ := hc
          exact va_sast hx hb hK hP hD hS (q - RO.length) t he ht (eIn_of hin) hd (key _ (Option.some.inj h).symm)
        · cases h
      · cases h
    · rename_i x ty n f hg
      split at h
      · rename_i hc
        obtain ⟨⟨rfl, rfl⟩, hin⟩ := hc
        cases h
        intro H locs ws tys ls lv st hp hK hP hD hS hG hl hL hV
        obtain ⟨r0, rfl, hV0⟩ := eVs_long hV
        obtain ⟨r1, rfl, hV1⟩ := eVs_int hV0
        obtain ⟨a, r2, rfl, ha, hV2⟩ := eVs_ref hV1
        obtain ⟨cA, t, he, ht⟩ := eArrL hro hG hq ha hg
        simp only at hd hn ⊢
        subst hn
        exact va_last hx hb hK hP hD hS (q - RO.length) t he ht (eIn_of hin) hd (fun H1 locs1 hP1 hD1 hS1 => hW H1 locs1 _ tys ls lv r2 (by rw [eMapSet he]; exact hp) hK hP1 hD1 hS1 (by rw [eMapSet he]; exact eHp_set hG ⟨cA, t, _, rfl, ht, rfl⟩) hl (by rw [eMapSet he]; exact hL) (by rw [eMapSet he]; exact hV2))
      · cases h
    · rename_i r ty n f hg
      split at h
      · rename_i hc
        obtain ⟨rfl, hin, hr⟩ := hc
        split at h
        · rename_i ci fs hgr
          split at h
          · rename_i k hk
            split at h
            · rename_i hty
              subst hty
              cases h
              intro H locs ws tys ls lv st hp hK hP hD hS hG hl hL hV
              obtain ⟨ar, r0, rfl, har, hV0⟩ := eVs_ref hV
              obtain ⟨r1, rfl, hV1⟩ := eVs_int hV0
              obtain ⟨a, r2, rfl, ha, hV2⟩ := eVs_ref hV1
              obtain ⟨cA, t, g, he, ht, hfg⟩ := eArrQ hro hG hq ha hg
              obtain ⟨gs, her, -⟩ := eObj hro hG hr har hgr
              simp only at hd hn ⊢
              subst hn
              have hup : ∀ j, j < n → eO (roA ++ ws.map Prod.fst) (va_up f i.toNatClampNeg (some r) j) (va_up g i.toNatClampNeg (some ar) j) := by
                intro j hj
                by_cases hji : j = i.toNatClampNeg
                · subst hji
                  simp only [va_up, if_true]
                  exact ⟨ar, har, rfl⟩
                · simp only [va_up, hji, if_false]
                  exact hfg j hj
              exact va_astq hx hb hK hP hD hS (q - RO.length) t (r - RO.length) ci he ht her hk (eIn_of hin) hd (fun H1 locs1 hP1 hD1 hS1 => hW H1 locs1 _ tys ls lv r2 (by rw [eMapSet he]; exact hp) hK hP1 hD1 hS1 (by rw [eMapSet he]; exact eHp_set hG ⟨cA, t, _, rfl, ht, _, rfl, hup⟩) hl (by rw [eMapSet he]; exact hL) (by rw [eMapSet he]; exact hV2))
            · cases h
          · cases h
        · cases h
      · cases h
    · cases h
  · cases h
theorem ePre {roA : List Nat} {ws w2 : va_W} : roA ++ ws.map Prod.fst <+: roA ++ (ws ++ w2).map Prod.fst := ⟨w2.map Prod.fst, by rw [List.map_append, List.append_assoc]⟩
theorem eLast {roA : List Nat} {ws w2 : va_W} {G : List eE} {nr a : Nat} {y : va_E} (hn : roA.length = nr) (hl : G.length = ws.length) : (roA ++ (ws ++ (a, y) :: w2).map Prod.fst)[nr + G.length]? = some a := by
  rw [List.getElem?_append_right (by omega), hn, Nat.add_sub_cancel_left, List.map_append, List.getElem?_append_right (by rw [List.length_map]; omega), List.length_map, hl, Nat.sub_self]
  rfl
theorem w22 (C : eCx p s m args meth c WS RO SN A roA own cc nL) {nx b ix N : Nat} {Cn : String} {T : u_T} (h : e22 RO CL CT nx b R = some R') (hd : decode cc R.1 = .ok (.new ix, 3)) (hn : nx = R.1 + 3) (hc : CL[b]? = some (Cn, T, N)) (hin : ∀ w ∈ u_ws Cn T N, w ∈ WS)
    (hty : ∀ k, k < N → parseFieldDescriptor (T k).2.2.1 = some (CT b k)) (hcl : Cond.classLink own ix Cn ∈ WS) (hinst : Cond.instantiable Cn N ∈ WS) (hini : Cond.initialized Cn ∈ WS) (hr : R'.2.2.2.2.1 ≤ Rm.cells ∧ R'.2.2.2.2.2 ≤ Rm.slots)
    (hW : eW p l e Rm s m args below meth c Q D CL A roA nL ads0 R') : eW p l e Rm s m args below meth c Q D CL A roA nL ads0 R := by
  obtain ⟨hx, hb, hml, hown, hts, hA, hro, hlocks, hst⟩ := C
  obtain ⟨pc, ls0, st0, G, c0, s0⟩ := R
  simp only [e22, hc, Option.some.injEq] at h
  subst h
  intro H locs ws tys ls lv st hp hK hP hD hS hG hl hL hV
  simp only at hd hn hr ⊢
  subst hn
  refine va_new (D := D) (fs := (List.range N).map (fun j => defaultValue (CT b j))) hx hb hts hin (CT b) hty hown (hts _ hcl) (hts _ hinst) (hts _ hini) hK hP hD hS hA hc (fun j hj => ?_) hr.1 hr.2 hd (fun q H1 hP1 hD1 hS1 => ?_)
  · simp [vp_V, List.getD, hj]
  · refine hW H1 locs (ws ++ [(q, _)]) tys ls lv (.ref q :: st) (hp.trans ePre) hK hP1 hD1 hS1 ?_ hl (hL.mono ePre) ⟨⟨q, eLast hro hG.1, rfl⟩, hV.mono ePre⟩
    exact eHp_app (List.prefix_refl _) ePre hG ⟨rfl, fun k x y h1 h2 => by
      cases k with
      | zero => cases h1; cases h2; exact ⟨_, rfl, eVs_dflt _ _ _⟩
      | succ k => cases h1⟩
theorem w23 (C : eCx p s m args meth c WS RO SN A roA own cc nL) {nx b : Nat} (h : e23 RO nx b R = some R') (hd : decode cc R.1 = .ok (.newarray (eNwT b), 2)) (hn : nx = R.1 + 2) (hac : Cond.arrayClass (newarray.typeOf (eNwT b)) ∈ WS) (hr : R'.2.2.2.2.1 ≤ Rm.cells ∧ R'.2.2.2.2.2 ≤ Rm.slots)
    (hW : eW p l e Rm s m args below meth c Q D CL A roA nL ads0 R') : eW p l e Rm s m args below meth c Q D CL A roA nL ads0 R := by
  obtain ⟨hx, hb, hml, hown, hts, hA, hro, hlocks, hst⟩ := C
  unfold e23 at h
  split at h
  · rename_i pc ls0 x st0 G c0 s0
    split at h
    · cases h
    rename_i h0
    split at h
    · rename_i hN
      obtain ⟨y, hy, rfl⟩ := Option.map_eq_some_iff.mp h
      intro H locs ws tys ls lv st hp hK hP hD hS hG hl hL hV
      obtain ⟨r1, rfl, hV1⟩ := eVs_int hV
      simp only at hd hn hr ⊢
      subst hn
      have fin : ∀ (ty : FieldType) (z : eA) (z' : _), y = .inl (ty, x.toNatClampNeg, z) → (∀ ads, eAr ads x.toNatClampNeg z z') → ∀ (q : Nat) (cA : ClassId) (H1 : Heap), va_K D CL (tys ++ [(cA, ty)]) s → va_P D CL (ws ++ [(q, .inl (cA, x.toNatClampNeg, z'))]) H1 → va_D A (ws ++ [(q, .inl (cA, x.toNatClampNeg, z'))]) → va_S A s.heap H1 locs → W p l e Rm s m args below meth c H1 locs (c0 + 1) (s0 + x.toNatClampNeg) Q (F0 m (pc + 2) ls (.ref q :: r1)) := by
        intro ty z z' hyz hz q cA H1 hK1 hP1 hD1 hS1
        subst hyz
        refine hW H1 locs (ws ++ [(q, _)]) (tys ++ [(cA, ty)]) ls lv (.ref q :: r1) (hp.trans ePre) hK1 hP1 hD1 hS1 ?_ hl (hL.mono ePre) ⟨⟨q, eLast hro hG.1, rfl⟩, hV1.mono ePre⟩
        exact eHp_app ⟨_, rfl⟩ ePre hG ⟨rfl, fun k u v h1 h2 => by
          cases k with
          | zero => cases h1; cases h2; exact ⟨cA, tys.length, z', rfl, by simp, hz _⟩
          | succ k => cases h1⟩
      unfold eNewK at hy
      split at hy
      · subst b
        exact va_newa (ty := .int) hx hb (hts _ hac) rfl hK hP hD hS hA (a0 := (x.toNatClampNeg, .inl (fun _ => 0))) (fun _ => rfl) h0 rfl (by show _ * 4 ≤ _; omega) hr.1 hr.2 hd (fin .int (.inl (fun _ => 0)) _ (Option.some.inj hy).symm (fun _ => rfl))
      split at hy
      · subst b
        exact va_newa (ty := .byte) hx hb (hts _ hac) rfl hK hP hD hS hA (a0 := (x.toNatClampNeg, .inl (fun _ => 0))) (fun _ => rfl) h0 rfl (by show _ * 1 ≤ _; omega) hr.1 hr.2 hd (fin .byte (.inl (fun _ => 0)) _ (Option.some.inj hy).symm (fun _ => rfl))
      split at hy
      · subst b
        exact va_newa (ty := .short) hx hb (hts _ hac) rfl hK hP hD hS hA (a0 := (x.toNatClampNeg, .inl (fun _ => 0))) (fun _ => rfl) h0 rfl (by show _ * 2 ≤ _; omega) hr.1 hr.2 hd (fin .short (.inl (fun _ => 0)) _ (Option.some.inj hy).symm (fun _ => rfl))
      split at hy
      · subst b
        exact va_newa (ty := .long) hx hb (hts _ hac) rfl hK hP hD hS hA (a0 := (x.toNatClampNeg, .inr (.inl (fun _ => 0)))) (fun _ => rfl) h0 rfl (by show _ * 8 ≤ _; omega) hr.1 hr.2 hd (fin .long (.inr (.inl (fun _ => 0))) _ (Option.some.inj hy).symm (fun _ => rfl))
      · cases hy
    · cases h
  · cases h
theorem w24 (C : eCx p s m args meth c WS RO SN A roA own cc nL) {nx b ix : Nat} {k : vw_C} (h : e24 RO CL nx b R = some R') (hd : decode cc R.1 = .ok (.anewarray ix, 3)) (hn : nx = R.1 + 3) (hc : CL[b]? = some k) (hcl : Cond.classLink own ix k.1 ∈ WS) (hao : va_AO k.1 s) (hr : R'.2.2.2.2.1 ≤ Rm.cells ∧ R'.2.2.2.2.2 ≤ Rm.slots)
    (hW : eW p l e Rm s m args below meth c Q D CL A roA nL ads0 R') : eW p l e Rm s m args below meth c Q D CL A roA nL ads0 R := by
  obtain ⟨hx, hb, hml, hown, hts, hA, hro, hlocks, hst⟩ := C
  unfold e24 at h
  split at h
  · rename_i pc ls0 x st0 G c0 s0
    split at h
    · cases h
    rename_i h0
    split at h
    · rename_i hN
      simp only [hc, Option.some.injEq] at h
      subst h
      intro H locs ws tys ls lv st hp hK hP hD hS hG hl hL hV
      obtain ⟨r1, rfl, hV1⟩ := eVs_int hV
      simp only at hd hn hr ⊢
      subst hn
      refine va_newq hx hb hown (hts _ hcl) hao hK hP hD hS hA h0 rfl (by omega) hr.1 hr.2 hd (fun q cA H1 hK1 hP1 hD1 hS1 => ?_)
      refine hW H1 locs (ws ++ [(q, _)]) (tys ++ [(cA, .object k.1)]) ls lv (.ref q :: r1) (hp.trans ePre) hK1 hP1 hD1 hS1 ?_ hl (hL.mono ePre) ⟨⟨q, eLast hro hG.1, rfl⟩, hV1.mono ePre⟩
      exact eHp_app ⟨_, rfl⟩ ePre hG ⟨rfl, fun k u v h1 h2 => by
        cases k with
        | zero => cases h1; cases h2; exact ⟨cA, tys.length, _, rfl, by simp, _, rfl, fun _ _ => rfl⟩
        | succ k => cases h1⟩
    · cases h
  · cases h
theorem w26 (C : eCx p s m args meth c WS RO SN A roA own cc nL) {nx b : Nat} (h : e26 nx b R = some R') (hd : decode cc R.1 = .ok (if b = 0 then .dup else if b = 1 then .pop else .dup2, 1)) (hn : nx = R.1 + 1)
    (hW : eW p l e Rm s m args below meth c Q D CL A roA nL ads0 R') : eW p l e Rm s m args below meth c Q D CL A roA nL ads0 R := by
  obtain ⟨hx, hb, -⟩ := C
  unfold e26 at h
  split at h
  · rename_i pc ls0 v st0 G c0 s0
    split at h
    · rename_i hcat
      intro H locs ws tys ls lv st hp hK hP hD hS hG hl hL hV
      obtain ⟨w, r0, rfl, hvw, hV0⟩ := eVs_cons hV
      have hwc : w.category = 1 := (eV_cat hvw).trans hcat
      simp only at hd hn ⊢
      subst hn
      split at h
      · subst b; cases h
        exact lv_dup hx hb hd hwc (hW H locs ws tys ls lv _ hp hK hP hD hS hG hl hL ⟨hvw, hvw, hV0⟩)
      split at h
      · subst b; cases h
        exact lv_pop hx hb hd hwc (hW H locs ws tys ls lv _ hp hK hP hD hS hG hl hL hV0)
      split at h
      · subst b
        split at h
        · rename_i u r
          split at h
          · rename_i hu
            cases h
            obtain ⟨w2, r1, rfl, huw, hV1⟩ := eVs_cons hV0
            exact lv_dup2_11 hx hb hd hwc ((eV_cat huw).trans hu) (hW H locs ws tys ls lv _ hp hK hP hD hS hG hl hL ⟨hvw, huw, hvw, huw, hV1⟩)
          · cases h
        · cases h
      · cases h
    · cases h
  · cases h
theorem w30 (C : eCx p s m args meth c WS RO SN A roA own cc nL) {nx ix : Nat} (h : e30 nx R = some R') (hd : decode cc R.1 = .ok (.invokespecial ix, 3)) (hn : nx = R.1 + 3) (h1 : Cond.methodLink own ix objectInit ∈ WS) (h2 : Cond.instanceMethod objectInit ∈ WS) (h3 : Cond.code objectInit ⟨#[0xb1]⟩ 1 none ∈ WS) (hf : 1 ≤ Rm.frames) (hlo : 40 ≤ Rm.locals)
    (hW : eW p l e Rm s m args below meth c Q D CL A roA nL ads0 R') : eW p l e Rm s m args below meth c Q D CL A roA nL ads0 R := by
  obtain ⟨hx, hb, hml, hown, hts, hA, hro, hlocks, hst⟩ := C
  unfold e30 at h
  split at h
  · rename_i pc ls0 q st0 G c0 s0
    split at h
    · rename_i hc
      cases h
      intro H locs ws tys ls lv st hp hK hP hD hS hG hl hL hV
      obtain ⟨a, r1, rfl, ha, hV1⟩ := eVs_ref hV
      have kk := hW H locs ws tys ls lv r1 hp hK hP hD hS hG hl hL hV1
      simp only at hd hn kk ⊢
      subst hn
      refine W.objInit hx hb hown (hts _ h1) (hts _ h2) (hts _ h3) rfl (by rw [hml]; exact hl.1) rfl hd hf ?_ (W.eq (g2 := F0 m (pc + 3) ls r1) rfl kk)
      rw [eVs_cats hV1]
      show 2 * 0 + _ + 12 ≤ _
      omega
    · cases h
  · cases h
theorem eNat5 : nativeFrameWords "java/lang/System" "arraycopy" 5 + 11 ≤ 30 := by decide +kernel
theorem w31 (C : eCx p s m args meth c WS RO SN A roA own cc nL) {nx ix : Nat} (h : e31 RO nx R = some R') (hd : decode cc R.1 = .ok (.invokestatic ix, 3)) (hn : nx = R.1 + 3) (h1 : Cond.methodLink own ix arraycopyName ∈ WS) (h2 : Cond.native arraycopyName ∈ WS) (h3 : Cond.static arraycopyName ∈ WS) (h4 : Cond.initialized "java/lang/System" ∈ WS) (hf : 1 ≤ Rm.frames) (hlo : 40 ≤ Rm.locals)
    (hW : eW p l e Rm s m args below meth c Q D CL A roA nL ads0 R') : eW p l e Rm s m args below meth c Q D CL A roA nL ads0 R := by
  obtain ⟨hx, hb, hml, hown, hts, hA, hro, hlocks, hst⟩ := C
  have h5 := eNat5
  unfold e31 at h
  split at h
  · rename_i pc ls0 n dp kd sp ks st0 G c0 s0
    split at h
    · cases h
    rename_i hc
    simp only [not_or] at hc
    obtain ⟨hkd, hks, hn0, hdp, hsp, hcat⟩ := hc
    split at h
    · rename_i ty n0 f ty1 n1 g hg0 hg1
      split at h
      · rename_i hc2
        obtain ⟨rfl, rfl, hs1, hs2⟩ := hc2
        cases h
        intro H locs ws tys ls lv st hp hK hP hD hS hG hl hL hV
        obtain ⟨r0, rfl, hV0⟩ := eVs_int hV
        obtain ⟨r1, rfl, hV1⟩ := eVs_int hV0
        obtain ⟨ad, r2, rfl, had, hV2⟩ := eVs_ref hV1
        obtain ⟨r3, rfl, hV3⟩ := eVs_int hV2
        obtain ⟨as, r4, rfl, has, hV4⟩ := eVs_ref hV3
        obtain ⟨cA0, t0, he0, ht0⟩ := eArrI hro hG hks has hg0
        obtain ⟨cA1, t1, he1, ht1⟩ := eArrI hro hG hkd had hg1
        simp only at hd hn ⊢
        subst hn
        refine va_copyi hx hb (hml.trans hl.1.symm) hown (hts _ h1) (hts _ h2) (hts _ h3) (hts _ h4) hK hP hD hS (ks - RO.length) (kd - RO.length) t0 t1 he0 he1 ht0 ht1 rfl hsp hdp hn0 hs1 hs2 (fun _ _ => rfl) hf (by rw [eVs_cats hV4]; omega) hd (fun H1 locs1 hP1 hD1 hS1 => ?_)
        exact hW H1 locs1 _ tys ls lv r4 (by rw [eMapSet he1]; exact hp) hK hP1 hD1 hS1 (by rw [eMapSet he1]; exact eHp_set hG ⟨cA1, t1, _, rfl, ht1, rfl⟩) hl (by rw [eMapSet he1]; exact hL) (by rw [eMapSet he1]; exact hV4)
      · cases h
    · rename_i ty n0 f ty1 n1 g hg0 hg1
      split at h
      · rename_i hc2
        obtain ⟨rfl, rfl, hs1, hs2⟩ := hc2
        cases h
        intro H locs ws tys ls lv st hp hK hP hD hS hG hl hL hV
        obtain ⟨r0, rfl, hV0⟩ := eVs_int hV
        obtain ⟨r1, rfl, hV1⟩ := eVs_int hV0
        obtain ⟨ad, r2, rfl, had, hV2⟩ := eVs_ref hV1
        obtain ⟨r3, rfl, hV3⟩ := eVs_int hV2
        obtain ⟨as, r4, rfl, has, hV4⟩ := eVs_ref hV3
        obtain ⟨cA0, t0, he0, ht0⟩ := eArrL hro hG hks has hg0
        obtain ⟨cA1, t1, he1, ht1⟩ := eArrL hro hG hkd had hg1
        simp only at hd hn ⊢
        subst hn
        refine va_copyl hx hb (hml.trans hl.1.symm) hown (hts _ h1) (hts _ h2) (hts _ h3) (hts _ h4) hK hP hD hS (ks - RO.length) (kd - RO.length) t0 t1 he0 he1 ht0 ht1 rfl hsp hdp hn0 hs1 hs2 (fun _ _ => rfl) hf (by rw [eVs_cats hV4]; omega) hd (fun H1 locs1 hP1 hD1 hS1 => ?_)
        exact hW H1 locs1 _ tys ls lv r4 (by rw [eMapSet he1]; exact hp) hK hP1 hD1 hS1 (by rw [eMapSet he1]; exact eHp_set hG ⟨cA1, t1, _, rfl, ht1, rfl⟩) hl (by rw [eMapSet he1]; exact hL) (by rw [eMapSet he1]; exact hV4)
      · cases h
    · cases h
  · cases h
theorem w32 (C : eCx p s m args meth c WS RO SN A roA own cc nL) {nx b ix : Nat} (h : e32 nx b R = some R') (hd : decode cc R.1 = .ok (.invokestatic ix, 3)) (hn : nx = R.1 + 3) (h1 : Cond.methodLink own ix (if b = 0 then Lib.Math.max.name else Lib.Math.min.name) ∈ WS) (h2 : Cond.static (if b = 0 then Lib.Math.max.name else Lib.Math.min.name) ∈ WS) (h3 : Cond.initialized "java/lang/Math" ∈ WS)
    (h4 : Cond.code (if b = 0 then Lib.Math.max.name else Lib.Math.min.name) (if b = 0 then Lib.Math.max.code else Lib.Math.min.code) 2 (some .int) ∈ WS) (hf : 1 ≤ Rm.frames) (hlo : 40 ≤ Rm.locals) (hr : R'.2.2.2.2.1 ≤ Rm.cells ∧ R'.2.2.2.2.2 ≤ Rm.slots)
    (hW : eW p l e Rm s m args below meth c Q D CL A roA nL ads0 R') : eW p l e Rm s m args below meth c Q D CL A roA nL ads0 R := by
  obtain ⟨hx, hb, hml, hown, hts, hA, hro, hlocks, hst⟩ := C
  unfold e32 at h
  split at h
  · rename_i pc ls0 y x st0 G c0 s0
    split at h
    · cases h
    rename_i hc
    cases h
    intro H locs ws tys ls lv st hp hK hP hD hS hG hl hL hV
    obtain ⟨r1, rfl, hV1⟩ := eVs_int hV
    obtain ⟨r2, rfl, hV2⟩ := eVs_int hV1
    have kk := hW H locs ws tys ls lv (_ :: r2) hp hK hP hD hS hG hl hL ⟨rfl, hV2⟩
    simp only at hd hn hr kk ⊢
    subst hn
    by_cases b0 : b = 0
    · simp only [if_pos b0] at h1 h2 h4 kk
      exact va_mmax hx hb (hml.trans hl.1.symm) hown (hts _ h1) (hts _ h2) (hts _ h3) (hts _ h4) hf (by rw [eVs_cats hV2]; omega) hr.1 hr.2 hd kk
    · simp only [if_neg b0] at h1 h2 h4 kk
      exact va_mmin hx hb (hml.trans hl.1.symm) hown (hts _ h1) (hts _ h2) (hts _ h3) (hts _ h4) hf (by rw [eVs_cats hV2]; omega) hr.1 hr.2 hd kk
  · cases h
end EMORE
end
section
/-! Constants, jumps, switches. -/
section EREST
variable {p : Program} {l : Launch} {e : Env} {Rm : Room} {s : State} {m : MethodId} {args : Array Value} {below : List Frame} {meth : Method} {c : Code} {Q : State → Prop}
variable {RO : List (Nat × (Nat → Int32))} {CL : List vw_C} {CT : Nat → Nat → FieldType} {WS : List Cond} {SN : List (String × String × String)} {D : va_G} {A : Nat → Prop} {roA : List Nat} {own : String} {cc : ByteArray} {nL : Nat} {ads0 : List Nat} {R R' : eR}
theorem w0 (C : eCx p s m args meth c WS RO SN A roA own cc nL) {nx a b : Nat} {z : Int} (h : (match R with | (_, ls, st, G, c, s) => some (nx, ls, Value.int (Int32.ofInt z) :: st, G, c, s)) = some R')
    (hd : (b = 0 ∧ decode cc R.1 = .ok (.iconst z, 1) ∧ nx = R.1 + 1) ∨ (b = 1 ∧ decode cc R.1 = .ok (.bipush z, 2) ∧ nx = R.1 + 2 ∧ (Int8.ofInt z).toInt32 = Int32.ofInt z) ∨ (b = 2 ∧ decode cc R.1 = .ok (.sipush z, 3) ∧ nx = R.1 + 3 ∧ (Int16.ofInt z).toInt32 = Int32.ofInt z) ∨
      (b = 3 ∧ decode cc R.1 = .ok (.ldc a, 2) ∧ nx = R.1 + 2 ∧ Cond.constant own a (Int32.ofInt z) ∈ WS) ∨ (b = 4 ∧ decode cc R.1 = .ok (.ldc_w a, 3) ∧ nx = R.1 + 3 ∧ Cond.constant own a (Int32.ofInt z) ∈ WS))
    (hW : eW p l e Rm s m args below meth c Q D CL A roA nL ads0 R') : eW p l e Rm s m args below meth c Q D CL A roA nL ads0 R := by
  obtain ⟨hx, hb, hml, hown, hts, hA, hro, hlocks, hst⟩ := C
  obtain ⟨pc, ls0, st0, G, c0, s0⟩ := R
  simp only [Option.some.injEq] at h
  subst h
  intro H locs ws tys ls lv st hp hK hP hD hS hG hl hL hV
  have kk := hW H locs ws tys ls lv (_ :: st) hp hK hP hD hS hG hl hL ⟨rfl, hV⟩
  simp only at hd kk ⊢
  rcases hd with ⟨-, hd, rfl⟩ | ⟨-, hd, rfl, hz⟩ | ⟨-, hd, rfl, hz⟩ | ⟨-, hd, rfl, hz⟩ | ⟨-, hd, rfl, hz⟩
  · exact lv_iconst hx hb hd rfl kk
  · exact lv_bipush hx hb hd hz kk
  · exact lv_sipush hx hb hd hz kk
  · exact lv_ldc hx hb hown (hts _ hz) hd kk
  · exact lv_ldcw hx hb hown (hts _ hz) hd kk
theorem w1 (C : eCx p s m args meth c WS RO SN A roA own cc nL) {nx a b : Nat} {z : Int} (h : (match R with | (_, ls, st, G, c, s) => some (nx, ls, Value.long (Int64.ofInt z) :: st, G, c, s)) = some R')
    (hd : (b = 0 ∧ ∃ n : Fin 2, decode cc R.1 = .ok (.lconst n, 1) ∧ nx = R.1 + 1 ∧ Int64.ofNat (n : Nat) = Int64.ofInt z) ∨ (b = 1 ∧ decode cc R.1 = .ok (.ldc2_w a, 3) ∧ nx = R.1 + 3 ∧ Cond.constantLong own a (Int64.ofInt z) ∈ WS))
    (hW : eW p l e Rm s m args below meth c Q D CL A roA nL ads0 R') : eW p l e Rm s m args below meth c Q D CL A roA nL ads0 R := by
  obtain ⟨hx, hb, hml, hown, hts, hA, hro, hlocks, hst⟩ := C
  obtain ⟨pc, ls0, st0, G, c0, s0⟩ := R
  simp only [Option.some.injEq] at h
  subst h
  intro H locs ws tys ls lv st hp hK hP hD hS hG hl hL hV
  have kk := hW H locs ws tys ls lv (_ :: st) hp hK hP hD hS hG hl hL ⟨rfl, hV⟩
  simp only at hd kk ⊢
  rcases hd with ⟨-, n, hd, rfl, hz⟩ | ⟨-, hd, rfl, hz⟩
  · exact lv_lconst hx hb hd hz kk
  · exact lv_ldc2 hx hb hown (hts _ hz) hd kk
theorem w14 (C : eCx p s m args meth c WS RO SN A roA own cc nL) {a : Nat} {z : Int} (h : (match R with | (_, ls, st, G, c, s) => some (a, ls, st, G, c, s)) = some R') (hd : decode cc R.1 = .ok (.goto z, 3)) (ht : (R.1 : Int) + z = (a : Int))
    (hW : eW p l e Rm s m args below meth c Q D CL A roA nL ads0 R') : eW p l e Rm s m args below meth c Q D CL A roA nL ads0 R := by
  obtain ⟨hx, hb, hml, hown, hts, hA, hro, hlocks, hst⟩ := C
  obtain ⟨pc, ls0, st0, G, c0, s0⟩ := R
  simp only [Option.some.injEq] at h
  subst h
  intro H locs ws tys ls lv st hp hK hP hD hS hG hl hL hV
  exact lv_goto hx hb hd ht (hW H locs ws tys ls lv st hp hK hP hD hS hG hl hL hV)
theorem eTabL_ok (pc a : Nat) (x : Int) : ∀ (sw : List (Int × Nat)) (lo : Int) (offs : List Int), eTabL pc lo sw offs = true → ((x < lo ∨ lo + sw.length ≤ x) → eSw sw a x = a) ∧ (¬ x < lo → x < lo + sw.length → ∃ off, offs[(x - lo).toNat]? = some off ∧ (pc : Int) + off = (eSw sw a x : Int))
  | [], lo, offs, _ => ⟨fun _ => rfl, fun h1 h2 => by simp at h2; omega⟩
  | q :: sw, lo, [], h => by simp [eTabL] at h
  | q :: sw, lo, o :: offs, h => by
    simp only [eTabL, Bool.and_eq_true, decide_eq_true_eq] at h
    obtain ⟨h1, h2, h3⟩ := h
    have ih := eTabL_ok pc a x sw (lo + 1) offs h3
    have hl : ((q :: sw).length : Int) = sw.length + 1 := by simp
    constructor
    · intro hx
      have hne : ¬ q.1 = x := by rw [h1]; omega
      simp only [eSw, if_neg hne]
      exact ih.1 (by omega)
    · intro hx1 hx2
      by_cases hq : q.1 = x
      · simp only [eSw, if_pos hq]
        have e : (x - lo).toNat = 0 := by omega
        rw [e]
        exact ⟨o, rfl, h2⟩
      · simp only [eSw, if_neg hq]
        obtain ⟨off, g1, g2⟩ := ih.2 (by omega) (by omega)
        have e : (x - lo).toNat = (x - (lo + 1)).toNat + 1 := by omega
        rw [e]
        exact ⟨off, g1, g2⟩
theorem eLkL_ok (pc a : Nat) (d x : Int) (hd : (pc : Int) + d = (a : Int)) : ∀ (sw : List (Int × Nat)) (ps : List (Int × Int)), eLkL pc sw ps = true → (pc : Int) + Op.lookupswitch.offset ps d x = (eSw sw a x : Int)
  | [], [], _ => hd
  | [], _ :: _, h => by simp [eLkL] at h
  | _ :: _, [], h => by simp [eLkL] at h
  | q :: sw, o :: ps, h => by
    obtain ⟨o1, o2⟩ := o
    simp only [eLkL, Bool.and_eq_true, decide_eq_true_eq] at h
    obtain ⟨h1, h2, h3⟩ := h
    have ih := eLkL_ok pc a d x hd sw ps h3
    rw [Op.lookupswitch.offset_cons]
    by_cases hq : q.1 = x
    · rw [if_pos (h1 ▸ hq)]
      simp only [eSw, if_pos hq]
      exact h2
    · rw [if_neg (fun z => hq (h1.trans z))]
      simp only [eSw, if_neg hq]
      exact ih
theorem w15 (C : eCx p s m args meth c WS RO SN A roA own cc nL) {a : Nat} {sw : List (Int × Nat)} (h : e15 a sw R = some R') (hd : eSwOk cc R.1 a sw = true)
    (hW : eW p l e Rm s m args below meth c Q D CL A roA nL ads0 R') : eW p l e Rm s m args below meth c Q D CL A roA nL ads0 R := by
  obtain ⟨hx, hb, hml, hown, hts, hA, hro, hlocks, hst⟩ := C
  unfold e15 at h
  split at h
  · rename_i pc ls0 x st0 G c0 s0
    cases h
    intro H locs ws tys ls lv st hp hK hP hD hS hG hl hL hV
    obtain ⟨r1, rfl, hV1⟩ := eVs_int hV
    have kk := hW H locs ws tys ls lv r1 hp hK hP hD hS hG hl hL hV1
    simp only at hd kk ⊢
    unfold eSwOk at hd
    split at hd
    · rename_i d lo hi offs len hdec
      simp only [Bool.and_eq_true, decide_eq_true_eq] at hd
      obtain ⟨h1, h2, h3⟩ := hd
      have ok := eTabL_ok pc a x.toInt sw lo offs.toList h3
      by_cases hin : x.toInt < lo ∨ hi < x.toInt
      · have e1 := ok.1 (by omega)
        rw [e1] at kk
        exact lv_tableOut hx hb hdec hin h1 kk
      · simp only [not_or] at hin
        obtain ⟨off, g1, g2⟩ := ok.2 hin.1 (by omega)
        exact lv_tableIn hx hb hdec hin.1 hin.2 (by rw [← Array.getElem?_toList]; exact g1) g2 kk
    · rename_i d ps len hdec
      simp only [Bool.and_eq_true, decide_eq_true_eq] at hd
      obtain ⟨h1, h2, h3⟩ := hd
      exact lv_lookup hx hb hdec h2 rfl (eLkL_ok pc a d x.toInt h1 sw ps.toList h3) kk
    · cases hd
  · cases h
end EREST
end
section
/-! new int[n][k]: the outer array, then the inner ones. -/
theorem vr_outer (c : ClassId) (N h0 : Nat) : ∀ i : Nat, Jvm.Free.Multi.outerC c N h0 i = arrV c N (fun j => va_rf (if j < i then some (h0 + 1 + j) else none))
  | 0 => by
    show ({ cls := c, slots := Array.replicate N .null, vm := .none } : Cell) = _
    rw [arrV_new]
    refine congrArg (arrV c N) (funext fun j => ?_)
    simp [va_rf]
  | i + 1 => by
    show (Jvm.Free.Multi.outerC c N h0 i).setSlot i (.ref (h0 + 1 + i)) = _
    rw [vr_outer c N h0 i, arrV_store]
    refine congrArg (arrV c N) (funext fun j => ?_)
    by_cases e : j = i
    · subst e
      simp [updV, va_rf]
    · by_cases h : j < i
      · simp [updV, e, h, Nat.lt_succ_of_lt h]
      · simp [updV, e, h, show ¬ j < i + 1 by omega]
section EGRID
variable {p : Program} {l : Launch} {e : Env} {Rm : Room} {s : State} {m : MethodId} {args : Array Value} {below : List Frame} {meth : Method} {c : Code} {Q : State → Prop}
variable {RO : List (Nat × (Nat → Int32))} {CL : List vw_C} {WS : List Cond} {SN : List (String × String × String)} {D : va_G} {A : Nat → Prop} {roA : List Nat} {own : String} {cc : ByteArray} {nL : Nat} {ads0 : List Nat} {R R' : eR}
theorem w25 (C : eCx p s m args meth c WS RO SN A roA own cc nL) {nx ix : Nat} (h : e25 RO nx R = some R') (hd : decode cc R.1 = .ok (.multianewarray ix 2, 4)) (hn : nx = R.1 + 4) (hcl : Cond.classLink own ix "[[I" ∈ WS) (hac : Cond.arrayClass .int ∈ WS) (hov : (Cond.arrayOver (.array .int)).before #[] s = true) (hr : R'.2.2.2.2.1 ≤ Rm.cells ∧ R'.2.2.2.2.2 ≤ Rm.slots)
    (hW : eW p l e Rm s m args below meth c Q D CL A roA nL ads0 R') : eW p l e Rm s m args below meth c Q D CL A roA nL ads0 R := by
  obtain ⟨hx, hb, hml, hown, hts, hA, hro, hlocks, hst⟩ := C
  unfold e25 at h
  split at h
  · rename_i pc ls0 k n st0 G c0 s0
    split at h
    · cases h
    rename_i hc
    simp only [not_or] at hc
    obtain ⟨hk0, hn0⟩ := hc
    split at h
    · rename_i hb9
      obtain ⟨hbk, hbn⟩ := hb9
      cases h
      intro H locs ws tys ls lv st hp hK hP hD hS hG hl hL hV
      obtain ⟨r0, rfl, hV0⟩ := eVs_int hV
      obtain ⟨r1, rfl, hV1⟩ := eVs_int hV0
      simp only at hd hn hr ⊢
      subst hn
      have hGl : G.length = ws.length := hG.1
      intro T hT Xs
      have hcl9 := hts _ hcl
      obtain ⟨vm₁, cA, comp, -, fA, fC, hO, hI, X', step⟩ := Xs.multianewarray2F hx hown (ty := .int) hcl9 hov (hts _ hac) (g := F0 m pc ls (.int k :: .int n :: r1)) rfl (by rw [hb]; exact hd) rfl hn0 hk0 (by omega) (by show _ * 4 ≤ _; omega) (by omega) rfl rfl (by omega) (by have := hr.2; omega)
      generalize hF : Jvm.Free.Multi.fill (T.setVm vm₁) cA comp n.toNatClampNeg k.toNatClampNeg (defaultValue .int) n.toNatClampNeg = F at X' step
      have hTh : (T.setVm vm₁).heap = H := hT
      obtain ⟨f1, f2, -, -⟩ := Jvm.Free.Multi.fill_facts (T.setVm vm₁) cA comp n.toNatClampNeg k.toNatClampNeg (defaultValue .int) n.toNatClampNeg
      rw [hF, hTh] at f1 f2
      have hold : ∀ x : Nat, x < H.size → F.heap[x]? = H[x]? := fun x hx => by
        have := Jvm.Free.Multi.fill_old (T.setVm vm₁) cA comp n.toNatClampNeg k.toNatClampNeg (defaultValue .int) (a := x) (by rw [hTh]; exact hx) n.toNatClampNeg
        rw [hF, hTh] at this
        exact this
      have hz : Jvm.Free.Multi.innerC comp k.toNatClampNeg (defaultValue .int) = vp_cell comp (k.toNatClampNeg, .inl (fun _ => 0)) := by
        show ({ cls := comp, slots := Array.replicate _ _, vm := .none } : Cell) = _
        rw [arrV_new]
        rfl
      have hrow : ∀ j : Nat, j < n.toNatClampNeg → F.heap[H.size + 1 + j]? = some (vp_cell comp (k.toNatClampNeg, .inl (fun _ => 0))) := fun j hj => by
        have := Jvm.Free.Multi.fill_inner (T.setVm vm₁) cA comp n.toNatClampNeg k.toNatClampNeg (defaultValue .int) n.toNatClampNeg j hj
        rw [hF, hTh, hz] at this
        exact this
      have hout : Jvm.Free.Multi.outerC cA n.toNatClampNeg H.size n.toNatClampNeg = vp_cell cA (n.toNatClampNeg, .inr (.inr (.inr (.inr (fun i => if i < n.toNatClampNeg then some (H.size + 1 + i) else none))))) := by
        rw [vp_cell_q]
        exact vr_outer cA n.toNatClampNeg H.size n.toNatClampNeg
      rw [hout] at f2
      generalize hN : n.toNatClampNeg = N at *
      generalize hM : k.toNatClampNeg = M at *
      have hw2 : ∀ (k9 : Nat) (x : Nat × va_E), (((H.size, .inl (cA, N, .inr (.inr (.inr (.inr (fun i => if i < N then some (H.size + 1 + i) else none)))))) :: (List.range N).map (fun i => ((H.size + 1 + i, .inl (comp, (M, .inl (fun _ => 0)))) : Nat × va_E))) : va_W)[k9]? = some x → x.1 = H.size + k9 ∧ va_at D CL x F.heap := by
        intro k9 x hx
        cases k9 with
        | zero =>
          cases hx
          exact ⟨rfl, f2⟩
        | succ j =>
          rw [List.getElem?_cons_succ, List.getElem?_map] at hx
          by_cases hj : j < N
          · rw [List.getElem?_range hj] at hx
            cases hx
            exact ⟨by show H.size + 1 + j = H.size + (j + 1); omega, hrow j hj⟩
          · rw [List.getElem?_eq_none (by rw [List.length_range]; omega)] at hx
            cases hx
      have hP1 : va_P D CL (ws ++ ((H.size, .inl (cA, N, .inr (.inr (.inr (.inr (fun i => if i < N then some (H.size + 1 + i) else none)))))) :: (List.range N).map (fun i => ((H.size + 1 + i, .inl (comp, (M, .inl (fun _ => 0)))) : Nat × va_E)))) F.heap := (hP.kept (fun k9 x hx => hold x.1 ((hP k9 x hx).lt))).app (fun k9 x hx => (hw2 k9 x hx).2)
      have hD1 : va_D A (ws ++ ((H.size, .inl (cA, N, .inr (.inr (.inr (.inr (fun i => if i < N then some (H.size + 1 + i) else none)))))) :: (List.range N).map (fun i => ((H.size + 1 + i, .inl (comp, (M, .inl (fun _ => 0)))) : Nat × va_E)))) := by
        refine va_D.app hD ⟨fun i j x y hi hj hxy => ?_, fun i x hi => hA _ ?_⟩ (fun i j x y hi hj => ?_)
        · have := (hw2 i x hi).1
          have := (hw2 j y hj).1
          omega
        · have h1 := (hw2 i x hi).1
          have := hS.1
          omega
        · have h1 := (hw2 j y hj).1
          have h2 := (hP i x hi).lt
          omega
      have hK1 : va_K D CL (tys ++ [(cA, .array .int), (comp, .int)]) s := va_K.app hK ⟨hK.1, fun k9 x hx => by
        match k9, hx with
        | 0, hx =>
          cases hx
          exact ⟨fun N9 z9 => by
            obtain ⟨-, k9, hk9, cm9, hkk9⟩ := (hO 0 0 0).1
            exact ⟨(fun q hq => by cases hq), k9, hk9, cm9, hkk9⟩, fA⟩
        | 1, hx =>
          cases hx
          exact ⟨fun N9 z9 => by
            obtain ⟨-, k9, hk9, cm9, hkk9⟩ := (hI 0 (.int 0)).1
            exact ⟨(fun q hq => by cases hq), k9, hk9, cm9, hkk9⟩, fC⟩
        | k9 + 2, hx => simp at hx⟩
      have hlg : ∀ i, i < N → (roA ++ (ws ++ ((H.size, .inl (cA, N, .inr (.inr (.inr (.inr (fun i => if i < N then some (H.size + 1 + i) else none)))))) :: (List.range N).map (fun i => ((H.size + 1 + i, .inl (comp, (M, .inl (fun _ => 0)))) : Nat × va_E)))).map Prod.fst)[RO.length + G.length + 1 + i]? = some (H.size + 1 + i) := by
        intro i hi
        rw [List.getElem?_append_right (by omega), List.map_append, List.getElem?_append_right (by rw [List.length_map]; omega), List.length_map, List.map_cons, show RO.length + G.length + 1 + i - roA.length - ws.length = i + 1 by omega, List.getElem?_cons_succ, List.map_map, List.getElem?_map, List.getElem?_range hi]
        rfl
      have hG1 : eHp (tys ++ [(cA, .array .int), (comp, .int)]) (roA ++ (ws ++ ((H.size, .inl (cA, N, .inr (.inr (.inr (.inr (fun i => if i < N then some (H.size + 1 + i) else none)))))) :: (List.range N).map (fun i => ((H.size + 1 + i, .inl (comp, (M, .inl (fun _ => 0)))) : Nat × va_E)))).map Prod.fst)
          (G ++ (.inl (.array .int, N, .inr (.inr (fun i => if i < N then some (RO.length + G.length + 1 + i) else none))) :: List.replicate N (.inl (.int, M, .inl (fun _ => 0))))) (ws ++ ((H.size, .inl (cA, N, .inr (.inr (.inr (.inr (fun i => if i < N then some (H.size + 1 + i) else none)))))) :: (List.range N).map (fun i => ((H.size + 1 + i, .inl (comp, (M, .inl (fun _ => 0)))) : Nat × va_E)))) := by
        refine eHp_app ⟨_, rfl⟩ ePre hG ⟨by simp, fun k9 x y h1 h2 => ?_⟩
        cases k9 with
        | zero =>
          cases h1; cases h2
          refine ⟨cA, tys.length, _, rfl, by simp, _, rfl, fun i hi => ?_⟩
          simp only [if_pos hi]
          exact ⟨_, hlg i hi, rfl⟩
        | succ j =>
          rw [List.getElem?_cons_succ] at h1 h2
          rw [List.getElem?_map] at h2
          by_cases hj : j < N
          · rw [List.getElem?_range hj] at h2
            rw [List.getElem?_replicate_of_lt hj] at h1
            cases h1; cases h2
            exact ⟨comp, tys.length + 1, _, rfl, by simp, rfl⟩
          · rw [List.getElem?_eq_none (by rw [List.length_range]; omega)] at h2
            cases h2
      rw [List.append_assoc] at hW
      obtain ⟨t, a1, b1⟩ := hW F.heap locs _ _ ls lv (.ref H.size :: r1) (hp.trans ePre) hK1 hP1 hD1 ⟨by rw [f1]; have := hS.1; omega, fun x h1 h2 => (hold x (Nat.lt_of_lt_of_le h1 hS.1)).trans (hS.2.1 x h1 h2), hS.2.2⟩ hG1 hl (hL.mono ePre) ⟨⟨H.size, eLast hro hG.1, rfl⟩, hV1.mono ePre⟩ F rfl X'
      refine ⟨t, step t ?_, b1⟩
      have e : T.heap.size = H.size := by rw [hT]
      rw [e]
      exact a1
    · cases h
  · cases h
end EGRID
end
section
/-! The instructions' rows of the tables, and the whole step. -/
/-- what the tables say that isn't steady -/
def eNX (NW : List Cond) (U : State) : Prop := (∀ w ∈ NW, va_Nw w U) ∧ va_AO "WhoMentionsIt$Shelf" U ∧ (Cond.arrayOver (.array .int)).before #[] U = true
section ESND
variable {p : Program} {l : Launch} {e : Env} {Rm : Room} {s : State} {m : MethodId} {args : Array Value} {below : List Frame} {meth : Method} {c : Code} {Q : State → Prop}
variable {RO : List (Nat × (Nat → Int32))} {CL : List vw_C} {CT : Nat → Nat → FieldType} {WT : List Cond} {NW : List Cond} {SN : List (String × String × String)} {D : va_G} {A : Nat → Prop} {roA : List Nat} {own mname : String} {cc : ByteArray} {nL : Nat} {ads0 : List Nat} {R R' : eR}
theorem eStepW (C : eCx p s m args meth c (eWS WT) RO SN A roA own cc nL) (hCL : eCLok (eWS WT) CL CT) (hnx : eNX NW s) (hmn : mname = "<init>" → meth.name = "<init>") (hf : 1 ≤ Rm.frames) (hlo : 40 ≤ Rm.locals) {I : eI} (h : eStep RO CL CT nL I R = some R') (hok : eOk WT CL RO.length SN own mname cc R.1 I = true) (hr : R'.2.2.2.2.1 ≤ Rm.cells ∧ R'.2.2.2.2.2 ≤ Rm.slots)
    (hW : eW p l e Rm s m args below meth c Q D CL A roA nL ads0 R') : eW p l e Rm s m args below meth c Q D CL A roA nL ads0 R := by
  obtain ⟨op, nx, a, b, z, ws, sw⟩ := I
  simp only [eStep] at h
  simp only [eOk] at hok
  by_cases o0 : op = 0
  · rw [if_pos o0] at h hok
    refine w0 C h (a := a) (b := b) ?_ hW
    unfold eOk0 at hok
    by_cases b0 : b = 0
    · rw [if_pos b0] at hok
      obtain ⟨h1, h2⟩ := eDec_ok hok
      exact Or.inl ⟨b0, h1, h2⟩
    rw [if_neg b0] at hok
    by_cases b1 : b = 1
    · rw [if_pos b1] at hok
      simp only [Bool.and_eq_true, decide_eq_true_eq] at hok
      obtain ⟨h1, h2⟩ := eDec_ok hok.1
      exact Or.inr (Or.inl ⟨b1, h1, h2, hok.2⟩)
    rw [if_neg b1] at hok
    by_cases b2 : b = 2
    · rw [if_pos b2] at hok
      simp only [Bool.and_eq_true, decide_eq_true_eq] at hok
      obtain ⟨h1, h2⟩ := eDec_ok hok.1
      exact Or.inr (Or.inr (Or.inl ⟨b2, h1, h2, hok.2⟩))
    rw [if_neg b2] at hok
    by_cases b3 : b = 3
    · rw [if_pos b3] at hok
      simp only [Bool.and_eq_true] at hok
      obtain ⟨h1, h2⟩ := eDec_ok hok.1
      exact Or.inr (Or.inr (Or.inr (Or.inl ⟨b3, h1, h2, eWd_in hok.2⟩)))
    rw [if_neg b3] at hok
    by_cases b4 : b = 4
    · rw [if_pos b4] at hok
      simp only [Bool.and_eq_true] at hok
      obtain ⟨h1, h2⟩ := eDec_ok hok.1
      exact Or.inr (Or.inr (Or.inr (Or.inr ⟨b4, h1, h2, eWd_in hok.2⟩)))
    rw [if_neg b4] at hok
    cases hok
  rw [if_neg o0] at h hok
  by_cases o1 : op = 1
  · rw [if_pos o1] at h hok
    refine w1 C h (a := a) (b := b) ?_ hW
    unfold eOk1 at hok
    by_cases b0 : b = 0
    · rw [if_pos b0] at hok
      simp only [Bool.or_eq_true, Bool.and_eq_true, decide_eq_true_eq] at hok
      rcases hok with ⟨q, rfl⟩ | ⟨q, rfl⟩
      · obtain ⟨h1, h2⟩ := eDec_ok q
        exact Or.inl ⟨b0, 0, h1, h2, rfl⟩
      · obtain ⟨h1, h2⟩ := eDec_ok q
        exact Or.inl ⟨b0, 1, h1, h2, rfl⟩
    rw [if_neg b0] at hok
    by_cases b1 : b = 1
    · rw [if_pos b1] at hok
      simp only [Bool.and_eq_true] at hok
      obtain ⟨h1, h2⟩ := eDec_ok hok.1
      exact Or.inr ⟨b1, h1, h2, eWd_in hok.2⟩
    rw [if_neg b1] at hok
    cases hok
  rw [if_neg o1] at h hok
  by_cases o3 : op = 3
  · rw [if_pos o3] at h hok
    unfold eOkO at hok
    split at hok
    · rename_i i n hi
      obtain ⟨h1, h2⟩ := eDec_ok hok
      exact w3 C h hi h1 h2 hW
    · cases hok
  rw [if_neg o3] at h hok
  by_cases o4 : op = 4
  · rw [if_pos o4] at h hok
    unfold eOkO at hok
    split at hok
    · rename_i i n hi
      obtain ⟨h1, h2⟩ := eDec_ok hok
      exact w4 C h hi h1 h2 hW
    · cases hok
  rw [if_neg o4] at h hok
  by_cases o5 : op = 5
  · rw [if_pos o5] at h hok
    obtain ⟨h1, h2⟩ := eDec_ok hok
    exact w5 C h h1 h2 hW
  rw [if_neg o5] at h hok
  by_cases o6 : op = 6
  · rw [if_pos o6] at h hok
    obtain ⟨h1, h2⟩ := eDec_ok hok
    exact w6 C h h1 h2 hW
  rw [if_neg o6] at h hok
  by_cases o7 : op = 7
  · rw [if_pos o7] at h hok
    obtain ⟨h1, h2⟩ := eDec_ok hok
    exact w7 C h h1 h2 hW
  rw [if_neg o7] at h hok
  by_cases o8 : op = 8
  · rw [if_pos o8] at h hok
    obtain ⟨h1, h2⟩ := eDec_ok hok
    exact w8 C h h1 h2 hW
  rw [if_neg o8] at h hok
  by_cases o9 : op = 9
  · rw [if_pos o9] at h hok
    obtain ⟨h1, h2⟩ := eDec_ok hok
    exact w9 C h h1 h2 hW
  rw [if_neg o9] at h hok
  by_cases o10 : op = 10
  · rw [if_pos o10] at h hok
    obtain ⟨h1, h2⟩ := eDec_ok hok
    exact w10 C h h1 h2 hW
  rw [if_neg o10] at h hok
  by_cases o12 : op = 12
  · rw [if_pos o12] at h hok
    simp only [Bool.and_eq_true, decide_eq_true_eq] at hok
    obtain ⟨h1, h2⟩ := eDec_ok hok.1
    exact w12 C h h1 h2 hok.2 hW
  rw [if_neg o12] at h hok
  by_cases o13 : op = 13
  · rw [if_pos o13] at h hok
    simp only [Bool.and_eq_true, decide_eq_true_eq] at hok
    obtain ⟨h1, h2⟩ := eDec_ok hok.1
    exact w13 C h h1 h2 hok.2 hW
  rw [if_neg o13] at h hok
  by_cases o14 : op = 14
  · rw [if_pos o14] at h hok
    simp only [Bool.and_eq_true, decide_eq_true_eq] at hok
    exact w14 C h hok.1 hok.2 hW
  rw [if_neg o14] at h hok
  by_cases o15 : op = 15
  · rw [if_pos o15] at h hok
    exact w15 C h hok hW
  rw [if_neg o15] at h hok
  by_cases o16 : op = 16
  · rw [if_pos o16] at h hok
    simp only [Bool.and_eq_true] at hok
    obtain ⟨h1, h2⟩ := eDec_ok hok.1
    obtain ⟨-, hok⟩ := hok
    split at hok
    · rename_i k hk
      simp only [Bool.and_eq_true, decide_eq_true_eq] at hok
      exact w16 C h h1 h2 hk hok.1 (hCL b k hk).1 (eWd_in hok.2) hW
    · cases hok
  rw [if_neg o16] at h hok
  by_cases o17 : op = 17
  · rw [if_pos o17] at h hok
    simp only [Bool.and_eq_true] at hok
    obtain ⟨h1, h2⟩ := eDec_ok hok.1
    obtain ⟨-, hok⟩ := hok
    split at hok
    · rename_i k hk
      simp only [Bool.and_eq_true, Bool.or_eq_true, decide_eq_true_eq] at hok
      obtain ⟨q1, q2, q3⟩ := hok
      refine w17 C h h1 h2 hk q1 (hCL b k hk).1 (eWd_in q2) (hCL b k hk).2.1 (hCL b k hk).2.2 ?_ hW
      rcases q3 with q3 | ⟨q3, q4⟩
      · exact Or.inl q3
      · by_cases hf9 : (k.2.1 z.toNat).2.2.2 = false
        · exact Or.inl hf9
        · exact Or.inr ⟨by simpa using hf9, hmn q3, q4⟩
    · cases hok
  rw [if_neg o17] at h hok
  by_cases o18 : op = 18
  · rw [if_pos o18] at h hok
    simp only [Bool.and_eq_true, decide_eq_true_eq] at hok
    obtain ⟨h1, h2⟩ := eDec_ok hok.1
    obtain ⟨-, hlt, hok⟩ := hok
    split at hok
    · rename_i sn hs
      exact w18 C h h1 h2 (List.getElem?_eq_getElem hlt) hs (eWd_in hok) hW
    · cases hok
  rw [if_neg o18] at h hok
  by_cases o19 : op = 19
  · rw [if_pos o19] at h hok
    obtain ⟨h1, h2⟩ := eDec_ok hok
    exact w19 C h h1 h2 hW
  rw [if_neg o19] at h hok
  by_cases o20 : op = 20
  · rw [if_pos o20] at h hok
    obtain ⟨h1, h2⟩ := eDec_ok hok
    exact w20 C h h1 h2 hW
  rw [if_neg o20] at h hok
  by_cases o21 : op = 21
  · rw [if_pos o21] at h hok
    obtain ⟨h1, h2⟩ := eDec_ok hok
    exact w21 C h h1 h2 hW
  rw [if_neg o21] at h hok
  by_cases o22 : op = 22
  · rw [if_pos o22] at h hok
    simp only [Bool.and_eq_true] at hok
    obtain ⟨h1, h2⟩ := eDec_ok hok.1
    obtain ⟨-, hok⟩ := hok
    split at hok
    · rename_i k hk
      simp only [Bool.and_eq_true] at hok
      exact w22 C h h1 h2 hk (hCL b k hk).1 (hCL b k hk).2.1 (eWd_in hok.1) (eWd_in hok.2.1) (eWd_in hok.2.2) hr hW
    · cases hok
  rw [if_neg o22] at h hok
  by_cases o23 : op = 23
  · rw [if_pos o23] at h hok
    simp only [Bool.and_eq_true] at hok
    obtain ⟨h1, h2⟩ := eDec_ok hok.1
    exact w23 C h h1 h2 (eWd_in hok.2) hr hW
  rw [if_neg o23] at h hok
  by_cases o24 : op = 24
  · rw [if_pos o24] at h hok
    simp only [Bool.and_eq_true] at hok
    obtain ⟨h1, h2⟩ := eDec_ok hok.1
    obtain ⟨-, hok⟩ := hok
    split at hok
    · rename_i k hk
      simp only [Bool.and_eq_true, decide_eq_true_eq] at hok
      exact w24 C h h1 h2 hk (eWd_in hok.1) (by rw [hok.2]; exact hnx.2.1) hr hW
    · cases hok
  rw [if_neg o24] at h hok
  by_cases o25 : op = 25
  · rw [if_pos o25] at h hok
    simp only [Bool.and_eq_true] at hok
    obtain ⟨h1, h2⟩ := eDec_ok hok.1
    exact w25 C h h1 h2 (eWd_in hok.2.1) (eWd_in hok.2.2) hnx.2.2 hr hW
  rw [if_neg o25] at h hok
  by_cases o26 : op = 26
  · rw [if_pos o26] at h hok
    obtain ⟨h1, h2⟩ := eDec_ok hok
    exact w26 C h h1 h2 hW
  rw [if_neg o26] at h hok
  by_cases o30 : op = 30
  · rw [if_pos o30] at h hok
    simp only [Bool.and_eq_true] at hok
    obtain ⟨h1, h2⟩ := eDec_ok hok.1
    exact w30 C h h1 h2 (eWd_in hok.2.1) (eWd_in hok.2.2.1) (eWd_in hok.2.2.2) hf hlo hW
  rw [if_neg o30] at h hok
  by_cases o31 : op = 31
  · rw [if_pos o31] at h
    rw [if_neg (by omega), if_pos o31] at hok
    simp only [Bool.and_eq_true] at hok
    obtain ⟨h1, h2⟩ := eDec_ok hok.1
    exact w31 C h h1 h2 (eWd_in hok.2.1) (eWd_in hok.2.2.1) (eWd_in hok.2.2.2.1) (eWd_in hok.2.2.2.2) hf hlo hW
  rw [if_neg o31] at h
  by_cases o32 : op = 32
  · rw [if_pos o32] at h hok
    simp only [Bool.and_eq_true] at hok
    obtain ⟨h1, h2⟩ := eDec_ok hok.1
    exact w32 C h h1 h2 (eWd_in hok.2.1) (eWd_in hok.2.2.1) (eWd_in hok.2.2.2.1) (eWd_in hok.2.2.2.2) hf hlo hr hW
  rw [if_neg o32] at h
  cases h
end ESND
end
section
/-! The whole run: a method that the abstract machine runs to its return, the machine does too. -/
def eLe (R R' : eR) : Prop := R.2.2.2.2.1 ≤ R'.2.2.2.2.1 ∧ R.2.2.2.2.2 ≤ R'.2.2.2.2.2
theorem eLe.rf {R : eR} : eLe R R := ⟨Nat.le_refl _, Nat.le_refl _⟩
section EMONO
variable {RO : List (Nat × (Nat → Int32))} {CL : List vw_C} {CT : Nat → Nat → FieldType} {MT : Nat → Option eM} {R R' : eR} {nx a b mL : Nat} {z : Int} {sw : List (Int × Nat)}
theorem m3 (h : e3 nx a b R = some R') : eLe R R' := by
  obtain ⟨pc, ls0, st0, G, c0, s0⟩ := R
  simp only [e3] at h
  repeat' split at h
  all_goals first | (cases h; exact eLe.rf) | cases h
theorem m4 (h : e4 mL nx a b R = some R') : eLe R R' := by
  unfold e4 at h
  repeat' split at h
  all_goals first | (cases h; exact eLe.rf) | cases h
theorem m5 (h : e5 mL nx a z R = some R') : eLe R R' := by
  unfold e5 at h
  repeat' split at h
  all_goals first | (cases h; exact eLe.rf) | cases h
theorem m6 (h : e6 nx b R = some R') : eLe R R' := by
  unfold e6 at h
  split at h
  · obtain ⟨v, -, rfl⟩ := Option.map_eq_some_iff.mp h
    exact eLe.rf
  · cases h
theorem m7 (h : e7 nx b R = some R') : eLe R R' := by
  unfold e7 at h
  split at h
  · obtain ⟨v, -, rfl⟩ := Option.map_eq_some_iff.mp h
    exact eLe.rf
  · cases h
theorem m8 (h : e8 nx b R = some R') : eLe R R' := by
  unfold e8 at h
  split at h
  · obtain ⟨v, -, rfl⟩ := Option.map_eq_some_iff.mp h
    exact eLe.rf
  · cases h
theorem m9 (h : e9 nx R = some R') : eLe R R' := by
  unfold e9 at h
  split at h
  all_goals first | (cases h; exact eLe.rf) | cases h
theorem m10 (h : e10 nx R = some R') : eLe R R' := by
  unfold e10 at h
  split at h
  all_goals first | (cases h; exact eLe.rf) | cases h
theorem m12 (h : e12 nx a b R = some R') : eLe R R' := by
  unfold e12 at h
  split at h
  all_goals first | (cases h; exact eLe.rf) | cases h
theorem m13 (h : e13 nx a b R = some R') : eLe R R' := by
  unfold e13 at h
  split at h
  all_goals first | (cases h; exact eLe.rf) | cases h
theorem m15 (h : e15 a sw R = some R') : eLe R R' := by
  unfold e15 at h
  split at h
  all_goals first | (cases h; exact eLe.rf) | cases h
theorem m16 {k : Nat} (h : e16 RO nx b k R = some R') : eLe R R' := by
  unfold e16 at h
  repeat' split at h
  all_goals first | (obtain ⟨v, -, rfl⟩ := Option.map_eq_some_iff.mp h; exact eLe.rf) | cases h
theorem m17 {k : Nat} (h : e17 RO CT nx b k R = some R') : eLe R R' := by
  unfold e17 at h
  repeat' split at h
  all_goals first | (cases h; exact eLe.rf) | cases h
theorem m18 (h : e18 nx b R = some R') : eLe R R' := by
  obtain ⟨pc, ls0, st0, G, c0, s0⟩ := R
  cases h
  exact eLe.rf
theorem m19 (h : e19 RO nx b R = some R') : eLe R R' := by
  unfold e19 at h
  repeat' split at h
  all_goals first | (cases h; exact eLe.rf) | cases h
theorem m20 (h : e20 RO CL nx b R = some R') : eLe R R' := by
  unfold e20 at h
  repeat' split at h
  all_goals first | (cases h; exact eLe.rf) | cases h
theorem m21 (h : e21 RO nx R = some R') : eLe R R' := by
  unfold e21 at h
  repeat' split at h
  all_goals first | (cases h; exact eLe.rf) | cases h
theorem m22 (h : e22 RO CL CT nx b R = some R') : eLe R R' := by
  obtain ⟨pc, ls0, st0, G, c0, s0⟩ := R
  simp only [e22] at h
  split at h
  · cases h
    exact ⟨Nat.le_succ _, Nat.le_add_right _ _⟩
  · cases h
theorem m23 (h : e23 RO nx b R = some R') : eLe R R' := by
  unfold e23 at h
  repeat' split at h
  all_goals first | (obtain ⟨v, -, rfl⟩ := Option.map_eq_some_iff.mp h; exact ⟨Nat.le_succ _, Nat.le_add_right _ _⟩) | cases h
theorem m24 (h : e24 RO CL nx b R = some R') : eLe R R' := by
  unfold e24 at h
  repeat' split at h
  all_goals first | (cases h; exact ⟨Nat.le_succ _, Nat.le_add_right _ _⟩) | cases h
theorem m25 (h : e25 RO nx R = some R') : eLe R R' := by
  unfold e25 at h
  repeat' split at h
  all_goals first | (cases h; exact ⟨Nat.le_trans (Nat.le_succ _) (Nat.le_add_right _ _), Nat.le_trans (Nat.le_add_right _ _) (Nat.le_add_right _ _)⟩) | cases h
theorem m26 (h : e26 nx b R = some R') : eLe R R' := by
  unfold e26 at h
  repeat' split at h
  all_goals first | (cases h; exact eLe.rf) | cases h
theorem m30 (h : e30 nx R = some R') : eLe R R' := by
  unfold e30 at h
  repeat' split at h
  all_goals first | (cases h; exact eLe.rf) | cases h
theorem m31 (h : e31 RO nx R = some R') : eLe R R' := by
  unfold e31 at h
  repeat' split at h
  all_goals first | (cases h; exact eLe.rf) | cases h
theorem m32 (h : e32 nx b R = some R') : eLe R R' := by
  unfold e32 at h
  repeat' split at h
  all_goals first | (cases h; exact eLe.rf) | cases h
theorem eStep_mono {I : eI} (h : eStep RO CL CT mL I R = some R') : eLe R R' := by
  obtain ⟨op, nx, a, b, z, ws, sw⟩ := I
  simp only [eStep] at h
  by_cases o0 : op = 0
  · rw [if_pos o0] at h; obtain ⟨pc, ls0, st0, G, c0, s0⟩ := R; cases h; exact eLe.rf
  rw [if_neg o0] at h
  by_cases o1 : op = 1
  · rw [if_pos o1] at h; obtain ⟨pc, ls0, st0, G, c0, s0⟩ := R; cases h; exact eLe.rf
  rw [if_neg o1] at h
  by_cases o3 : op = 3
  · rw [if_pos o3] at h; exact m3 h
  rw [if_neg o3] at h
  by_cases o4 : op = 4
  · rw [if_pos o4] at h; exact m4 h
  rw [if_neg o4] at h
  by_cases o5 : op = 5
  · rw [if_pos o5] at h; exact m5 h
  rw [if_neg o5] at h
  by_cases o6 : op = 6
  · rw [if_pos o6] at h; exact m6 h
  rw [if_neg o6] at h
  by_cases o7 : op = 7
  · rw [if_pos o7] at h; exact m7 h
  rw [if_neg o7] at h
  by_cases o8 : op = 8
  · rw [if_pos o8] at h; exact m8 h
  rw [if_neg o8] at h
  by_cases o9 : op = 9
  · rw [if_pos o9] at h; exact m9 h
  rw [if_neg o9] at h
  by_cases o10 : op = 10
  · rw [if_pos o10] at h; exact m10 h
  rw [if_neg o10] at h
  by_cases o12 : op = 12
  · rw [if_pos o12] at h; exact m12 h
  rw [if_neg o12] at h
  by_cases o13 : op = 13
  · rw [if_pos o13] at h; exact m13 h
  rw [if_neg o13] at h
  by_cases o14 : op = 14
  · rw [if_pos o14] at h; obtain ⟨pc, ls0, st0, G, c0, s0⟩ := R; cases h; exact eLe.rf
  rw [if_neg o14] at h
  by_cases o15 : op = 15
  · rw [if_pos o15] at h; exact m15 h
  rw [if_neg o15] at h
  by_cases o16 : op = 16
  · rw [if_pos o16] at h; exact m16 h
  rw [if_neg o16] at h
  by_cases o17 : op = 17
  · rw [if_pos o17] at h; exact m17 h
  rw [if_neg o17] at h
  by_cases o18 : op = 18
  · rw [if_pos o18] at h; exact m18 h
  rw [if_neg o18] at h
  by_cases o19 : op = 19
  · rw [if_pos o19] at h; exact m19 h
  rw [if_neg o19] at h
  by_cases o20 : op = 20
  · rw [if_pos o20] at h; exact m20 h
  rw [if_neg o20] at h
  by_cases o21 : op = 21
  · rw [if_pos o21] at h; exact m21 h
  rw [if_neg o21] at h
  by_cases o22 : op = 22
  · rw [if_pos o22] at h; exact m22 h
  rw [if_neg o22] at h
  by_cases o23 : op = 23
  · rw [if_pos o23] at h; exact m23 h
  rw [if_neg o23] at h
  by_cases o24 : op = 24
  · rw [if_pos o24] at h; exact m24 h
  rw [if_neg o24] at h
  by_cases o25 : op = 25
  · rw [if_pos o25] at h; exact m25 h
  rw [if_neg o25] at h
  by_cases o26 : op = 26
  · rw [if_pos o26] at h; exact m26 h
  rw [if_neg o26] at h
  by_cases o30 : op = 30
  · rw [if_pos o30] at h; exact m30 h
  rw [if_neg o30] at h
  by_cases o31 : op = 31
  · rw [if_pos o31] at h; exact m31 h
  rw [if_neg o31] at h
  by_cases o32 : op = 32
  · rw [if_pos o32] at h; exact m32 h
  rw [if_neg o32] at h
  cases h
theorem eRun_mono : ∀ (n d mi : Nat) (R Rf : eR), eRun RO CL CT MT n d mi R = some Rf → eLe R Rf
  | 0, _, _, _, _, h => by simp [eRun] at h
  | _ + 1, 0, _, _, _, h => by simp [eRun] at h
  | n + 1, d + 1, mi, R, Rf, h => by
    simp only [eRun] at h
    split at h
    · cases h
    split at h
    · cases h
    split at h
    · cases h
    split at h
    · split at h
      · cases h; exact eLe.rf
      · cases h
    split at h
    · split at h
      · cases h
      split at h
      · cases h
      have ih := eRun_mono n (d + 1) mi _ Rf h
      exact ⟨Nat.le_trans (Nat.le_add_right _ _) ih.1, Nat.le_trans (Nat.le_add_right _ _) ih.2⟩
    · split at h
      · cases h
      rename_i R1 h1
      have q := eStep_mono h1
      have ih := eRun_mono n (d + 1) mi R1 Rf h
      exact ⟨Nat.le_trans q.1 ih.1, Nat.le_trans q.2 ih.2⟩
/-- where a run ends: at a return -/
theorem eRun_end : ∀ (n d mi : Nat) (R Rf : eR), eRun RO CL CT MT n d mi R = some Rf → ∃ M I, MT mi = some M ∧ Rf.1 < M.2.2.2.2.1 ∧ M.2.2.2.2.2 Rf.1 = some I ∧ I.1 = 50 ∧ eAns I.2.2.2.1 M.2.2.2.1 Rf.2.2.1 = true
  | 0, _, _, _, _, h => by simp [eRun] at h
  | _ + 1, 0, _, _, _, h => by simp [eRun] at h
  | n + 1, d + 1, mi, R, Rf, h => by
    simp only [eRun] at h
    split at h
    · cases h
    rename_i M hM
    split at h
    · cases h
    rename_i hlt
    split at h
    · cases h
    rename_i I hI
    split at h
    · rename_i h50
      split at h
      · rename_i ha
        cases h
        exact ⟨M, I, hM, Nat.not_le.mp hlt, hI, h50, ha⟩
      · cases h
    split at h
    · split at h
      · cases h
      split at h
      · cases h
      exact eRun_end n (d + 1) mi _ Rf h
    · split at h
      · cases h
      exact eRun_end n (d + 1) mi _ Rf h
end EMONO
end
section
/-! Calls, and the contract of a method out of its run. -/
/-- the cells that a method may write: those of its world, and its own -/
def eA1 (nr : Nat) (ads : List Nat) (sz : Nat) : Nat → Prop := fun q => (∃ k, nr ≤ k ∧ ads[k]? = some q) ∨ sz ≤ q
def eSt (RO : List (Nat × (Nat → Int32))) (SN : List (String × String × String)) (A : Nat → Prop) (roA : List Nat) (U : State) (H : Heap) : Prop :=
  ∀ (j : Nat) (q : Nat × (Nat → Int32)), RO[j]? = some q → ∃ a : Nat, roA[j]? = some a ∧ va_T .int a q.1 (fun i => .int (q.2 i)) A U H ∧ ∀ n : String × String × String, SN[j]? = some n → va_Z n.1 n.2.1 n.2.2 (.ref a) A U H
theorem eSt.to {RO : List (Nat × (Nat → Int32))} {SN : List (String × String × String)} {A B : Nat → Prop} {roA : List Nat} {u U : State} {H H1 : Heap} (h : eSt RO SN A roA u H) (hk : ∀ a : Nat, a < H.size → ¬ A a → H1[a]? = H[a]?) (hvm : u.vm.Alike U.vm) (hAB : ∀ q, B q → A q) : eSt RO SN B roA U H1 := by
  intro j q hq
  obtain ⟨a, h1, h2, h3⟩ := h j q hq
  exact ⟨a, h1, va_T.narrow (va_T.moved hvm (va_T.kept h2 hk)) hAB, fun n hn => va_Z.narrow (va_Z.moved hvm (va_Z.kept (h3 n hn) hk)) hAB⟩
def eNWf (NW : List Cond) : Prop := ∀ w ∈ NW, ∃ a i x h, w = Cond.methodLinkNest a i x h
theorem eAOA {u U : State} (hvm : u.vm.Alike U.vm) (h : (Cond.arrayOver (.array .int)).before #[] u = true) : (Cond.arrayOver (.array .int)).before #[] U = true := by
  have h1 : (Cond.arrayOver (.array .int)).before #[] (u.setVm U.vm) = (Cond.arrayOver (.array .int)).before #[] u := Cond.arrayOver_setVmC hvm (.array .int)
  exact h1.trans h
theorem eNX.to {NW : List Cond} (hf : eNWf NW) {s U : State} (hW : s.WarmedH U.vm) (h : eNX NW s) : eNX NW U := by
  refine ⟨fun w hw => ?_, va_AO.moved hW.alike h.2.1, eAOA hW.alike h.2.2⟩
  · obtain ⟨a, i, x, k, rfl⟩ := hf w hw
    exact va_Nw.warmM hW (h.1 _ hw)
theorem eNX.same {NW : List Cond} (hf : eNWf NW) {u U : State} (e : u.vm = U.vm) (h : eNX NW u) : eNX NW U := by
  refine ⟨fun w hw => ?_, va_AO.moved (by rw [e]; exact Vm.Alike.refl _) h.2.1, eAOA (by rw [e]; exact Vm.Alike.refl _) h.2.2⟩
  obtain ⟨a, i, x, k, rfl⟩ := hf w hw
  exact va_tabs rfl e (h.1 _ hw)
/-- a method's start -/
def ePc (RO : List (Nat × (Nat → Int32))) (SN : List (String × String × String)) (NW : List Cond) (D : va_G) (CL : List vw_C) (roA ads : List Nat) (G : List eE) (sz : Nat) (av : List Value) : Array Value → State → Prop :=
  va_Pc av (fun U => U.heap.size = sz ∧ (∃ (ws : va_W) (tys : List (ClassId × FieldType)), ads = roA ++ ws.map Prod.fst ∧ va_K D CL tys U ∧ va_P D CL ws U.heap ∧ va_D (fun _ => True) ws ∧ eHp tys ads G ws) ∧ eSt RO SN (eA1 RO.length ads sz) roA U U.heap ∧ eNX NW U)
/-- its end -/
def eQc (D : va_G) (CL : List vw_C) (A : Nat → Prop) (roA ads : List Nat) (Rf : eR) : Array Value → State → Outcome → State → Prop :=
  fun _ st oc t => (∃ (ws : va_W) (tys : List (ClassId × FieldType)) (sv : List Value), oc = .returned sv.head? ∧ sv.length ≤ 1 ∧ ads <+: roA ++ ws.map Prod.fst ∧ va_K D CL tys t ∧ va_P D CL ws t.heap ∧ va_D A ws ∧ eHp tys (roA ++ ws.map Prod.fst) Rf.2.2.2.1 ws ∧ eVs (roA ++ ws.map Prod.fst) Rf.2.2.1 sv) ∧ va_F A st t
def eRm (d : Nat) (Rf : eR) : Room := { frames := d, cells := Rf.2.2.2.2.1, slots := Rf.2.2.2.2.2, locals := 40 * d }
theorem ePc_blind {RO : List (Nat × (Nat → Int32))} {SN : List (String × String × String)} {NW : List Cond} (hf : eNWf NW) {D : va_G} {CL : List vw_C} {roA ads : List Nat} {G : List eE} {sz : Nat} {av : List Value} : FrameBlind (ePc RO SN NW D CL roA ads G sz av) := by
  intro a U g mk h
  obtain ⟨q0, q1, ⟨ws, tys, e1, hK, hP, hD, hG⟩, hs, hn⟩ := h
  refine ⟨q0, q1, ⟨ws, tys, e1, va_K.moved (u := U) (U := U.calling g mk a) (Vm.Alike.refl U.vm) hK, hP, hD, hG⟩, ?_, eNX.same (u := U) (U := U.calling g mk a) hf rfl hn⟩
  exact eSt.to (U := U.calling g mk a) hs (fun _ _ _ => rfl) (Vm.Alike.refl U.vm) (fun _ h => h)
theorem lg_len : ∀ vs : List Value, (lg_sl vs).length = (vs.map fun v => v.category).sum
  | [] => rfl
  | v :: r => by
    have ih := lg_len r
    simp only [lg_sl, List.flatMap_cons, List.length_append, List.map_cons, List.sum_cons] at ih ⊢
    rw [ih]
    rcases lv_cat v with h | h <;> simp [h]
section ECALL
variable {RO : List (Nat × (Nat → Int32))} {CL : List vw_C} {CT : Nat → Nat → FieldType} {WT NW : List Cond} {SN : List (String × String × String)} {MT : Nat → Option eM} {NC : Nat}
/-- the walk of a run, for one fuel -/
def eRW (RO : List (Nat × (Nat → Int32))) (CL : List vw_C) (CT : Nat → Nat → FieldType) (WT NW : List Cond) (SN : List (String × String × String)) (MT : Nat → Option eM) (n : Nat) : Prop :=
  ∀ (d mi : Nat) (R Rf : eR), eRun RO CL CT MT n d mi R = some Rf → ∀ M : eM, MT mi = some M → ∀ (p : Program) (l : Launch) (e : Env) (Rm : Room) (s : State) (m : MethodId) (args : Array Value) (below : List Frame) (meth : Method) (c : Code) (Q : State → Prop) (D : va_G) (A : Nat → Prop) (roA ads0 : List Nat),
    eCx p s m args meth c (eWS WT) RO SN A roA M.1.cls M.2.1 M.2.2.1 → eNX NW s → (M.1.name = "<init>" → meth.name = "<init>") → d ≤ Rm.frames → 40 * d ≤ Rm.locals → (Rf.2.2.2.2.1 ≤ Rm.cells ∧ Rf.2.2.2.2.2 ≤ Rm.slots) →
    eW p l e Rm s m args below meth c Q D CL A roA M.2.2.1 ads0 Rf → eW p l e Rm s m args below meth c Q D CL A roA M.2.2.1 ads0 R
theorem eAns_cases {b : Nat} {ret : Option FieldType} {st : List Value} (h : eAns b ret st = true) : (st = [] ∧ b = 0 ∧ ret = none) ∨ (∃ x, st = [.int x] ∧ b = 1 ∧ (ret = some .int ∨ (ret = some .boolean ∧ (x = 0 ∨ x = 1)))) ∨ ∃ x, st = [.long x] ∧ b = 2 ∧ ret = some .long := by
  unfold eAns at h
  split at h
  · simp only [Bool.and_eq_true, decide_eq_true_eq] at h
    exact Or.inl ⟨rfl, h.1, h.2⟩
  · simp only [Bool.and_eq_true, Bool.or_eq_true, decide_eq_true_eq] at h
    exact Or.inr (Or.inl ⟨_, rfl, h.1, h.2⟩)
  · simp only [Bool.and_eq_true, decide_eq_true_eq] at h
    exact Or.inr (Or.inr ⟨_, rfl, h.1, h.2⟩)
  · cases h
theorem eMet (hI : ∀ (mi : Nat) (M : eM), MT mi = some M → ∀ (pc : Nat) (I : eI), pc < M.2.2.2.2.1 → M.2.2.2.2.2 pc = some I → eOkI WT NW CL RO.length SN NC MT M pc I = true) {n : Nat} (hn : eRW RO CL CT WT NW SN MT n)
    {d mi : Nat} {as : List Value} {G : List eE} {Rf : eR} (h : eRun RO CL CT MT n d mi (0, lv_args 0 as, [], G, 0, 0) = some Rf) {M : eM} (hM : MT mi = some M) (hok : eMok WT M) (hcat : (as.map fun v => v.category).sum ≤ M.2.2.1)
    (l : Launch) (D : va_G) (roA ads : List Nat) (hro : roA.length = RO.length) (sz : Nat) (av : List Value) (hav : eVs ads as av) :
    Met l M.1 (Cond.code M.1 M.2.1 M.2.2.1 M.2.2.2.1 :: eWS WT) (eRm d Rf) (ePc RO SN NW D CL roA ads G sz av) (eQc D CL (eA1 RO.length ads sz) roA ads Rf) Rf.2.2.2.2.1 Rf.2.2.2.2.2 (eA1 RO.length ads sz) := by
  refine Met.ofW (cc := M.2.1) (maxL := M.2.2.1) (ret := M.2.2.2.1) hok.1 rfl ?_
  intro p e s m args below meth c s₁ B hml hv
  obtain ⟨rfl, hsz, ⟨ws, tys, rfl, hK, hP, hD, hG⟩, hst, hnx⟩ := hv
  have hts := atoms_spec (ws := Cond.code M.1 M.2.1 M.2.2.1 M.2.2.2.1 :: eWS WT) B.pre
  have hr := B.returns
  have hlocks := B.notSynchronized
  subst hsz
  have hA : ∀ q : Nat, s.heap.size ≤ q → eA1 RO.length (roA ++ ws.map Prod.fst) s.heap.size q := fun q h => Or.inr h
  have C : eCx p s m av.toArray meth c (eWS WT) RO SN (eA1 RO.length (roA ++ ws.map Prod.fst) s.heap.size) roA M.1.cls M.2.1 M.2.2.1 :=
    ⟨B.exec, B.bytes, hml, findClass_of_methodNamed B.named, fun w hw => hts w (List.mem_cons_of_mem _ hw), hA, hro, hlocks, hst⟩
  have hDA : va_D (eA1 RO.length (roA ++ ws.map Prod.fst) s.heap.size) ws := by
    refine ⟨hD.1, fun k q hk => Or.inl ⟨roA.length + k, by omega, ?_⟩⟩
    rw [List.getElem?_append_right (by omega), Nat.add_sub_cancel_left, List.getElem?_map, hk]
    rfl
  rw [lg_entry_eq]
  have hl := lv_entry av (n := M.2.2.1) (by rw [lg_len, eVs_cats hav]; exact hcat)
  have hF : eW p l e (headSpec (Cond.code M.1 M.2.1 M.2.2.1 M.2.2.2.1 :: eWS WT) (eRm d Rf)).room s m av.toArray below meth c (MQ below (eQc D CL (eA1 RO.length (roA ++ ws.map Prod.fst) s.heap.size) roA (roA ++ ws.map Prod.fst) Rf) av.toArray s Rf.2.2.2.2.1 Rf.2.2.2.2.2 (eA1 RO.length (roA ++ ws.map Prod.fst) s.heap.size)) D CL (eA1 RO.length (roA ++ ws.map Prod.fst) s.heap.size) roA M.2.2.1 (roA ++ ws.map Prod.fst) Rf := by
    obtain ⟨M', I, hM', hlt, hI', h50, hans⟩ := eRun_end n d mi _ Rf h
    cases hM.symm.trans hM'
    have hokI := hI mi M hM Rf.1 I hlt hI'
    unfold eOkI at hokI
    rw [if_pos h50] at hokI
    unfold eOkR at hokI
    intro H locs ws' tys' ls lv st hp hK' hP' hD' hS' hG' hl' hL' hV'
    rcases eAns_cases hans with ⟨e1, e2, e3⟩ | ⟨x, e1, e2, e3⟩ | ⟨x, e1, e2, e3⟩
    · rw [if_pos e2] at hokI
      rw [e1] at hV'
      obtain rfl := eVs_nil hV'
      exact W.vret B.exec B.bytes (hr.trans e3) (fun t ht hW => ⟨⟨ws', tys', [], rfl, by simp, hp, va_K.moved hW.alike hK', by rw [ht]; exact hP', hD', hG', by rw [e1]; exact trivial⟩, hS'.F ht⟩) hS'.2.2 (of_decide_eq_true hokI)
    · rw [e2] at hokI
      rw [e1] at hV'
      obtain ⟨r, rfl, hV1⟩ := eVs_int hV'
      obtain rfl := eVs_nil hV1
      have hdg : decode M.2.1 Rf.1 = .ok (.ireturn, 1) := of_decide_eq_true hokI
      rcases e3 with e3 | ⟨e3, e4⟩
      · exact W.iret B.exec B.bytes (hr.trans e3) (fun t ht hW => ⟨⟨ws', tys', [.int x], rfl, by simp, hp, va_K.moved hW.alike hK', by rw [ht]; exact hP', hD', hG', by rw [e1]; exact ⟨rfl, trivial⟩⟩, hS'.F ht⟩) hS'.2.2 hdg
      · exact W.zret (ty := .boolean) B.exec B.bytes (hr.trans e3) (by rcases e4 with rfl | rfl <;> decide) (fun t ht hW => ⟨⟨ws', tys', [.int x], rfl, by simp, hp, va_K.moved hW.alike hK', by rw [ht]; exact hP', hD', hG', by rw [e1]; exact ⟨rfl, trivial⟩⟩, hS'.F ht⟩) hS'.2.2 hdg
    · rw [e2] at hokI
      rw [e1] at hV'
      obtain ⟨r, rfl, hV1⟩ := eVs_long hV'
      obtain rfl := eVs_nil hV1
      have hdg : decode M.2.1 Rf.1 = .ok (.lreturn, 1) := of_decide_eq_true hokI
      exact W.lret B.exec B.bytes (hr.trans e3) (fun t ht hW => ⟨⟨ws', tys', [.long x], rfl, by simp, hp, va_K.moved hW.alike hK', by rw [ht]; exact hP', hD', hG', by rw [e1]; exact ⟨rfl, trivial⟩⟩, hS'.F ht⟩) hS'.2.2 hdg
  exact hn d mi _ Rf h M hM p l e _ s m av.toArray below meth c _ D _ roA (roA ++ ws.map Prod.fst) C hnx (fun hi => (name_of_methodNamed B.named B.method).1.trans hi) (Nat.le_refl _) (Nat.le_refl _) ⟨Nat.le_refl _, Nat.le_refl _⟩ hF s.heap [] ws tys _ _ [] (List.prefix_refl _) hK hP hDA va_S.rf hG hl (eLs_args 0 hav) trivial
end ECALL
end
section
/-! The walk of every run. -/
section EGO
variable {RO : List (Nat × (Nat → Int32))} {CL : List vw_C} {CT : Nat → Nat → FieldType} {WT NW : List Cond} {SN : List (String × String × String)} {MT : Nat → Option eM} {NC : Nat}
variable {p : Program} {l : Launch} {e : Env} {Rm : Room} {s : State} {m : MethodId} {args : Array Value} {below : List Frame} {meth : Method} {c : Code} {Q : State → Prop} {D : va_G} {A A1 : Nat → Prop} {roA ads ads0 : List Nat} {nL : Nat}
theorem eGo {R2 : eR} {H : Heap} {locs : List Loc} {pc nx c0 s0 : Nat} {ls : Array Slot} {ls0 lv : List (Nat × Value)} {st0 rest rest' : List Value} {a : Array Value}
    (hr : va_Run p l e Rm s m args below meth c H locs c0 s0 R2.2.2.2.2.1 R2.2.2.2.2.2 (F0 m pc ls st0) rest' (eQc D CL A1 roA ads R2 a) A1) (hS : va_S A s.heap H locs) (hA1 : ∀ q, A1 q → A q)
    (hW : eW p l e Rm s m args below meth c Q D CL A roA nL ads0 (nx, ls0, R2.2.2.1 ++ rest, R2.2.2.2.1, c0 + R2.2.2.2.2.1, s0 + R2.2.2.2.2.2)) (hp : ads0 <+: ads) (hl : lv_has ls nL lv) (hL : eLs ads ls0 lv) (hV : eVs ads rest rest') (hn : nx = pc + 3) :
    W p l e Rm s m args below meth c H locs c0 s0 Q (F0 m pc ls st0) := by
  intro T hT X
  obtain ⟨v, st₀, t, T', L, h0, X', hL', e1, e2, ⟨⟨ws, tys, sv, hv, hsv, hpre, hK, hP, hD, hG, hV2⟩, hF⟩, go⟩ := hr T hT X
  have hv : v = sv.head? := Outcome.returned.inj hv
  have hvs : v.toList = sv := by
    rw [hv]
    match sv, hsv with
    | [], _ => rfl
    | [_], _ => rfl
    | _ :: _ :: _, h => simp at h
  have hvm : s.vm.Alike t.vm := by rw [← e2]; exact X'.warmed.alike
  obtain ⟨hF1, hF2⟩ := hF
  rw [h0] at hF1 hF2
  have hS' : va_S A s.heap T'.heap (locs ++ L) := ⟨Nat.le_trans hS.1 (by rw [e1]; exact hF1), fun q h1 h2 => by rw [e1, hF2 q (Nat.lt_of_lt_of_le h1 hS.1) (fun z => h2 (hA1 q z))]; exact hS.2.1 q h1 h2, fun q hq => by
    rcases List.mem_append.mp hq with h | h
    · exact hS.2.2 q h
    · exact hA1 _ (hL' q h)⟩
  obtain ⟨t2, a1, b1⟩ := hW T'.heap (locs ++ L) ws tys ls lv (sv ++ rest') (hp.trans hpre) (va_K.moved hvm.symm hK) (by rw [e1]; exact hP) (hD.weaken (fun _ _ _ h => hA1 _ h)) hS' hG hl (hL.mono hpre) (eVs_app hV2 (hV.mono hpre)) T' rfl X'
  refine ⟨t2, go t2 ?_, b1⟩
  rw [hvs]
  simp only at a1
  subst hn
  exact a1
theorem eGood {w : Cond} (h : w ∈ eWS WT) : w ∈ eWS WT ∧ ((w.onTables && w.keeps) = true ∨ ∃ ty, w = .arrayClass ty) := ⟨h, good_of_word (List.mem_filter.mp h).2⟩
theorem eGoodM {M : eM} (h : eMok WT M) : GoodIn (eWS WT) (Cond.code M.1 M.2.1 M.2.2.1 M.2.2.2.1 :: eWS WT) := by
  intro w hw
  rcases List.mem_cons.mp hw with rfl | hw
  · exact eGood h.2.1
  · exact eGood hw
theorem eRunW (hCL : eCLok (eWS WT) CL CT) (hNf : eNWf NW) (hMC : ∀ (mi : Nat) (M : eM), mi < NC → MT mi = some M → eMok WT M) (hI : ∀ (mi : Nat) (M : eM), MT mi = some M → ∀ (pc : Nat) (I : eI), pc < M.2.2.2.2.1 → M.2.2.2.2.2 pc = some I → eOkI WT NW CL RO.length SN NC MT M pc I = true) : ∀ n, eRW RO CL CT WT NW SN MT n
  | 0 => fun d mi R Rf h => by simp [eRun] at h
  | n + 1 => by
    have ih := eRunW hCL hNf hMC hI n
    intro d mi R Rf h M hM p l e Rm s m args below meth c Q D A roA ads0 C hnx hmn hf hlo hr hW
    cases d with
    | zero => simp [eRun] at h
    | succ d =>
    simp only [eRun, hM] at h
    split at h
    · cases h
    rename_i hlt
    have hlt := Nat.not_le.mp hlt
    split at h
    · cases h
    rename_i I hI'
    have hokI := hI mi M hM R.1 I hlt hI'
    unfold eOkI at hokI
    by_cases h50 : I.1 = 50
    · rw [if_pos h50] at h
      split at h
      · cases h; exact hW
      · cases h
    rw [if_neg h50] at h hokI
    by_cases h40 : 40 ≤ I.1
    · rw [if_pos h40] at h hokI
      split at h
      · cases h
      rename_i ar har
      split at h
      · cases h
      rename_i R2 hR2
      have hmono := eRun_mono n (d + 1) mi _ Rf h
      have hWn := ih (d + 1) mi _ Rf h M hM p l e Rm s m args below meth c Q D A roA ads0 C hnx hmn hf hlo hr hW
      obtain ⟨hx, hb, hml, hown, hts, hA, hro, hlocks, hst⟩ := C
      obtain ⟨op, nx, a, b, z, wd, sw⟩ := I
      obtain ⟨pc, ls0, stk, G, c0, s0⟩ := R
      simp only at h50 h40 hokI har hR2 hWn hlt hmono
      unfold eCallP at har
      simp only at har
      split at har
      · cases har
      rename_i M2 hM2
      split at har
      · cases har
      rename_i as har2
      split at har
      · rename_i hc
        cases har
        obtain ⟨hrest, hcat, hrecv⟩ := hc
        simp only at hR2 hWn hrest hcat hrecv hmono
        unfold eOkC at hokI
        simp only [hM2, Bool.and_eq_true, decide_eq_true_eq] at hokI
        obtain ⟨hbNC, hdesc, hw1, hokI⟩ := hokI
        split at hokI
        · cases hokI
        rename_i cp hcp
        have hok2 := hMC b M2 hbNC hM2
        generalize hN : z.toNat + (if op = 41 then 0 else 1) = N1 at har2
        unfold eArgs at har2
        split at har2
        · rename_i hlen
          cases har2
          simp only at hR2 hWn hrest hcat hrecv hmono
          have hroom : c0 + R2.2.2.2.2.1 ≤ Rm.cells ∧ s0 + R2.2.2.2.2.2 ≤ Rm.slots := ⟨Nat.le_trans hmono.1 hr.1, Nat.le_trans hmono.2 hr.2⟩
          intro H locs ws tys ls lv st hp hK hP hD hS hG hl hL hV
          have hav : eVs (roA ++ ws.map Prod.fst) (stk.take N1).reverse (st.take N1).reverse := eVs_rev (eVs_take N1 hV)
          have hrs : eVs (roA ++ ws.map Prod.fst) (stk.drop N1) (st.drop N1) := eVs_drop N1 hV
          have hl1 : st.length = stk.length := (eVs_len hV).symm
          have hst0 : st = (st.take N1).reverse.reverse ++ st.drop N1 := by rw [List.reverse_reverse, List.take_append_drop]
          have hA1 : ∀ q, eA1 RO.length (roA ++ ws.map Prod.fst) H.size q → A q := by
            rintro q (⟨k, h1, h2⟩ | h1)
            · rw [List.getElem?_append_right (by omega), List.getElem?_map] at h2
              obtain ⟨y, hy, rfl⟩ := Option.map_eq_some_iff.mp h2
              exact hD.2 _ y hy
            · exact hA q (Nat.le_trans hS.1 h1)
          have hPc : ∀ U : State, U.heap = H → s.WarmedH U.vm → ePc RO SN NW D CL roA (roA ++ ws.map Prod.fst) G H.size (st.take N1).reverse (st.take N1).reverse.toArray U := by
            intro U hU hWm
            refine ⟨rfl, by rw [hU], ⟨ws, tys, rfl, va_K.moved hWm.alike hK, by rw [hU]; exact hP, hD.weaken (fun _ _ _ _ => trivial), hG⟩, ?_, eNX.to hNf hWm hnx⟩
            have hst' : eSt RO SN A roA s s.heap := hst
            rw [hU]
            exact eSt.to hst' (fun a h1 h2 => hS.2.1 a h1 h2) hWm.alike hA1
          have hMet := eMet hI ih hR2 hM2 hok2 hcat l D roA (roA ++ ws.map Prod.fst) hro H.size (st.take N1).reverse hav
          have hroomc : (eRm d R2).frames + 1 ≤ Rm.frames ∧ 8 + (M2.2.2.1 + 11) + (eRm d R2).locals ≤ Rm.locals := by
            have h20 := hok2.2.2.1
            refine ⟨hf, ?_⟩
            show 8 + (M2.2.2.1 + 11) + 40 * d ≤ _
            omega
          have hWc : 2 * (F0 m pc ls st).monitorRoom + ((st.drop N1).map fun v => v.category).sum ≤ 8 := lv_room (by rw [eVs_cats hrs]; exact hrest)
          have hGI := eGoodM hok2
          by_cases o40 : op = 40
          · rw [if_pos o40] at hokI
            have hN1 : N1 = z.toNat + 1 := by rw [← hN, if_neg (by omega)]
            simp only [Bool.and_eq_true] at hokI
            obtain ⟨hd, hk, hq1, hq2, hq3⟩ := hokI
            obtain ⟨hd1, hd2⟩ := eDec_ok hd
            split at hk
            · rename_i kC hkC
              have hkC1 : kC.1 = M2.1.cls := of_decide_eq_true hk
              rcases hrecv with hrecv | hrecv
              · omega
              -- the receiver
              generalize hasE : (stk.take N1).reverse = asv at hav hrecv hR2 hcat
              generalize havE : (st.take N1).reverse = av at hav hst0 hPc hMet
              cases asv with
              | nil => simp [eRecv] at hrecv
              | cons v0 as' =>
              cases v0 <;> try (simp [eRecv] at hrecv; done)
              rename_i q
              obtain ⟨ad, av', rfl, had, hav'⟩ := eVs_ref hav
              simp only [eRecv, List.head?_cons, Bool.and_eq_true, Bool.not_eq_true', decide_eq_false_iff_not] at hrecv
              obtain ⟨hq, hrecv⟩ := hrecv
              split at hrecv
              · rename_i cj fs hg
                have hcj : cj = a := of_decide_eq_true hrecv
                subst hcj
                obtain ⟨gs, he, -⟩ := eObj hro hG hq had hg
                have hlenA : av'.length = z.toNat := by
                  have h1 : (Value.ref ad :: av').length = N1 := by rw [← havE, List.length_reverse, List.length_take]; omega
                  simp only [List.length_cons] at h1
                  omega
                refine eGo (va_runV (As := av') (rest := st.drop N1) ⟨hx, hb, hml, hown, hts⟩ hMet (cwV z.toNat hts (C := M2.1.cls) (index := cp) ?_ rfl rfl rfl ⟨rfl, hok2.2.2.2.1, hok2.2.2.2.2, hdesc⟩ hroomc) ⟨ePc_blind hNf, ?_, hPc⟩ rfl hlenA hl.1 ?_ hWc hd1 hroom) hS hA1 hWn hp hl hL hrs hd2
                · intro w hw
                  unfold wsV at hw
                  rcases List.mem_append.mp hw with hw | hw
                  · simp only [List.mem_cons, List.not_mem_nil, or_false] at hw
                    rcases hw with rfl | rfl | rfl | rfl
                    · exact eGood (eWd_in hq1)
                    · exact eGood (eWd_in hq2)
                    · exact eGood (eWd_in hq3)
                    · exact eGood (eWd_in hw1)
                  · exact hGI w hw
                · have := va_recv hK hP hkC he
                  rw [hkC1] at this
                  exact this
                · have h9 := hst0
                  simp only [List.reverse_cons, List.append_assoc, List.singleton_append] at h9
                  exact h9
              · cases hrecv
            · cases hk
          rw [if_neg o40] at hokI
          by_cases o41 : op = 41
          · rw [if_pos o41] at hokI
            have hN1 : N1 = z.toNat := by rw [← hN, if_pos o41]; rfl
            simp only [Bool.and_eq_true] at hokI
            obtain ⟨hd, hq1, hq2⟩ := hokI
            obtain ⟨hd1, hd2⟩ := eDec_ok hd
            have hlenA : (st.take N1).reverse.length = z.toNat := by rw [List.length_reverse, List.length_take]; omega
            refine eGo (va_runS (As := (st.take N1).reverse) (rest := st.drop N1) ⟨hx, hb, hml, hown, hts⟩ hMet (va_cwS z.toNat hts (index := cp) ?_ rfl rfl rfl ⟨hok2.2.2.2.1, hok2.2.2.2.2, hdesc⟩ hroomc) ⟨ePc_blind hNf, hPc⟩ rfl hlenA hl.1 hst0 hWc hd1 hroom) hS hA1 hWn hp hl hL hrs hd2
            intro w hw
            unfold va_wsS at hw
            rcases List.mem_append.mp hw with hw | hw
            · simp only [List.mem_cons, List.not_mem_nil, or_false] at hw
              rcases hw with rfl | rfl | rfl
              · exact eGood (eWd_in hq1)
              · exact eGood (eWd_in hq2)
              · exact eGood (eWd_in hw1)
            · exact hGI w hw
          rw [if_neg o41] at hokI
          have hN1 : N1 = z.toNat + 1 := by rw [← hN, if_neg o41]
          rcases hrecv with hrecv | hrecv
          · exact absurd hrecv o41
          generalize hasE : (stk.take N1).reverse = asv at hav hrecv hR2 hcat
          generalize havE : (st.take N1).reverse = av at hav hst0 hPc hMet
          cases asv with
          | nil => simp [eRecv] at hrecv
          | cons v0 as' =>
          cases v0 <;> try (simp [eRecv] at hrecv; done)
          rename_i q
          obtain ⟨ad, av', rfl, had, hav'⟩ := eVs_ref hav
          have hlenA : av'.length = z.toNat := by
            have h1 : (Value.ref ad :: av').length = N1 := by rw [← havE, List.length_reverse, List.length_take]; omega
            simp only [List.length_cons] at h1
            omega
          have hstk : st = av'.reverse ++ .ref ad :: st.drop N1 := by
            have h9 := hst0
            simp only [List.reverse_cons, List.append_assoc, List.singleton_append] at h9
            exact h9
          by_cases o42 : op = 42
          · rw [if_pos o42] at hokI
            simp only [Bool.and_eq_true, decide_eq_true_eq] at hokI
            obtain ⟨hd, hnm, hret, hq1, hq2⟩ := hokI
            obtain ⟨hd1, hd2⟩ := eDec_ok hd
            refine eGo (va_runI (As := av') (rest := st.drop N1) ⟨hx, hb, hml, hown, hts⟩ hMet (cwI z.toNat hts hGI (by rw [hret]) rfl rfl (hts _ (eWd_in hw1)) (hts _ (eWd_in hq1)) (hts _ (eWd_in hq2)) hnm ⟨hok2.2.2.2.1, hok2.2.2.2.2, hdesc⟩ hroomc) ⟨ePc_blind hNf, hPc⟩ rfl hlenA hl.1 hstk hWc hd1 hroom) hS hA1 hWn hp hl hL hrs hd2
          rw [if_neg o42] at hokI
          by_cases o43 : op = 43
          · rw [if_pos o43] at hokI
            simp only [Bool.and_eq_true, decide_eq_true_eq] at hokI
            obtain ⟨hd, hnm, hret, hq1, hq2⟩ := hokI
            obtain ⟨hd1, hd2⟩ := eDec_ok hd
            refine eGo (va_runIN (As := av') (rest := st.drop N1) ⟨hx, hb, hml, hown, hts⟩ hMet ⟨va_cnB z.toNat hts hGI (by rw [hret]) rfl rfl (hnx.1 _ hq1) (hts _ (eWd_in hw1)) ⟨hok2.2.2.2.1, hok2.2.2.2.2, hdesc⟩ hroomc, hnm, hts _ (eWd_in hq2)⟩ ⟨ePc_blind hNf, hPc⟩ rfl hlenA hl.1 hstk hWc hd1 hroom) hS hA1 hWn hp hl hL hrs hd2
          rw [if_neg o43] at hokI
          cases hokI
        · cases har2
      · cases har
    · rw [if_neg h40] at h hokI
      split at h
      · cases h
      rename_i R1 h1
      have hmono := eRun_mono n (d + 1) mi R1 Rf h
      refine eStepW C hCL hnx hmn (Nat.le_trans (Nat.succ_le_succ (Nat.zero_le d)) hf) (by omega) h1 hokI ⟨Nat.le_trans hmono.1 hr.1, Nat.le_trans hmono.2 hr.2⟩ ?_
      exact ih (d + 1) mi R1 Rf h M hM p l e Rm s m args below meth c Q D A roA ads0 C hnx hmn hf hlo hr hW
end EGO
end
section
/-! S: runs with unknown numbers. A number is a linear form over named unknowns, with bounds and facts about them. -/
abbrev sL : Type := Int × List (Nat × Int)
/-- 0 an int, 1 a long, 2 a reference, 3 null -/
abbrev sV : Type := Nat × sL
/-- an array: what lies between bounds but at told places; an object -/
abbrev sE : Type := (FieldType × Nat × (Int × Int) × List (Nat × sL)) ⊕ (Nat × List sV)
/-- bounds of the unknowns; what is not below 0; what is not 0; what an unknown is the result of -/
abbrev sG : Type := List (Int × Int) × List sL × List sL × List (Nat × sL × sL × Nat)
abbrev sR : Type := Nat × List (Nat × sV) × List sV × List sE × Nat × Nat × sG
def sIns (s : Nat) (k : Int) : List (Nat × Int) → List (Nat × Int)
  | [] => if k = 0 then [] else [(s, k)]
  | q :: r => if q.1 = s then (if q.2 + k = 0 then r else (s, q.2 + k) :: r) else if s < q.1 then (if k = 0 then q :: r else (s, k) :: q :: r) else q :: sIns s k r
def sAddT (a b : List (Nat × Int)) : List (Nat × Int) := a.foldr (fun q r => sIns q.1 q.2 r) b
def sAdd (a b : sL) : sL := (a.1 + b.1, sAddT a.2 b.2)
def sMul (k : Int) (a : sL) : sL := if k = 0 then (0, []) else (k * a.1, a.2.map fun q => (q.1, k * q.2))
def sSub (a b : sL) : sL := sAdd a (sMul (-1) b)
def sC (z : Int) : sL := (z, [])
def sX (i : Nat) : sL := (0, [(i, 1)])
/-- what a linear form is worth -/
def sEvT (ρ : List Int) : List (Nat × Int) → Option Int
  | [] => some 0
  | q :: r => match ρ[q.1]?, sEvT ρ r with
    | some z, some y => some (q.2 * z + y)
    | _, _ => none
def sEv (ρ : List Int) (a : sL) : Option Int := (sEvT ρ a.2).map fun y => a.1 + y
def sIvT (B : List (Int × Int)) : List (Nat × Int) → Option (Int × Int)
  | [] => some (0, 0)
  | q :: r => match B[q.1]?, sIvT B r with
    | some b, some i => some (if 0 ≤ q.2 then (q.2 * b.1 + i.1, q.2 * b.2 + i.2) else (q.2 * b.2 + i.1, q.2 * b.1 + i.2))
    | _, _ => none
def sIv (B : List (Int × Int)) (a : sL) : Option (Int × Int) := (sIvT B a.2).map fun i => (a.1 + i.1, a.1 + i.2)
/-- within -/
def sWi (B : List (Int × Int)) (a : sL) (lo hi : Int) : Bool := match sIv B a with
  | some i => decide (lo ≤ i.1) && decide (i.2 ≤ hi)
  | none => false
def sI32 (B : List (Int × Int)) (a : sL) : Bool := sWi B a (-2147483648) 2147483647
def sI64 (B : List (Int × Int)) (a : sL) : Bool := sWi B a (-9223372036854775808) 9223372036854775807
/-- one number, if it can be no other -/
def sK (B : List (Int × Int)) (a : sL) : Option Int := match sIv B a with
  | some i => if i.1 = i.2 then some i.1 else none
  | none => none
theorem sIns_ev {ρ : List Int} {s : Nat} {k z : Int} (hz : ρ[s]? = some z) : ∀ {l : List (Nat × Int)} {y : Int}, sEvT ρ l = some y → sEvT ρ (sIns s k l) = some (k * z + y)
  | [], y, h => by
    cases h
    unfold sIns
    split
    · rename_i hk; subst hk; simp [sEvT]
    · simp [sEvT, hz]
  | q :: r, y, h => by
    have h0 := h
    simp only [sEvT] at h
    split at h
    · rename_i w u hw hu
      cases h
      unfold sIns
      split
      · rename_i hq
        subst hq
        cases hw.symm.trans hz
        split
        · rename_i h9
          rw [hu]
          have : k = -q.2 := by omega
          subst this
          simp only [Option.some.injEq]
          rw [Int.neg_mul]
          omega
        · simp only [sEvT, hw, hu, Option.some.injEq]
          rw [Int.add_mul]
          omega
      · split
        · split
          · rename_i h9; subst h9; rw [h0]; simp
          · simp only [sEvT, hw, hu, hz]
        · simp only [sEvT, hw, sIns_ev hz hu, Option.some.injEq]
          omega
    · cases h
theorem sAddT_ev {ρ : List Int} {b : List (Nat × Int)} {y : Int} (hb : sEvT ρ b = some y) : ∀ {a : List (Nat × Int)} {x : Int}, sEvT ρ a = some x → sEvT ρ (sAddT a b) = some (x + y)
  | [], x, h => by cases h; simpa [sAddT] using hb
  | q :: r, x, h => by
    simp only [sEvT] at h
    split at h
    · rename_i w u hw hu
      cases h
      have ih := sAddT_ev hb hu
      have e : sAddT (q :: r) b = sIns q.1 q.2 (sAddT r b) := rfl
      rw [e, sIns_ev hw ih]
      simp only [Option.some.injEq]
      omega
    · cases h
theorem sEv_add {ρ : List Int} {a b : sL} {x y : Int} (ha : sEv ρ a = some x) (hb : sEv ρ b = some y) : sEv ρ (sAdd a b) = some (x + y) := by
  obtain ⟨u, hu, rfl⟩ := Option.map_eq_some_iff.mp ha
  obtain ⟨v, hv, rfl⟩ := Option.map_eq_some_iff.mp hb
  unfold sEv sAdd
  rw [sAddT_ev hv hu]
  simp only [Option.map_some, Option.some.injEq]
  omega
theorem sMulT_ev {ρ : List Int} (k : Int) : ∀ {a : List (Nat × Int)} {x : Int}, sEvT ρ a = some x → sEvT ρ (a.map fun q => (q.1, k * q.2)) = some (k * x)
  | [], x, h => by cases h; simp [sEvT]
  | q :: r, x, h => by
    simp only [sEvT] at h
    split at h
    · rename_i w u hw hu
      cases h
      simp only [List.map_cons, sEvT, hw, sMulT_ev k hu, Option.some.injEq]
      rw [Int.mul_add, Int.mul_assoc]
    · cases h
theorem sEv_mul {ρ : List Int} (k : Int) {a : sL} {x : Int} (ha : sEv ρ a = some x) : sEv ρ (sMul k a) = some (k * x) := by
  obtain ⟨u, hu, rfl⟩ := Option.map_eq_some_iff.mp ha
  unfold sMul
  split
  · rename_i h0; subst h0; simp [sEv, sEvT]
  · unfold sEv
    rw [sMulT_ev k hu]
    simp only [Option.map_some, Option.some.injEq]
    rw [Int.mul_add]
theorem sEv_sub {ρ : List Int} {a b : sL} {x y : Int} (ha : sEv ρ a = some x) (hb : sEv ρ b = some y) : sEv ρ (sSub a b) = some (x - y) := by
  have h := sEv_add ha (sEv_mul (-1) hb)
  rw [show x - y = x + -1 * y by omega]
  exact h
theorem sEv_C {ρ : List Int} (z : Int) : sEv ρ (sC z) = some z := by simp [sEv, sC, sEvT]
theorem sEv_X {ρ : List Int} {i : Nat} {z : Int} (h : ρ[i]? = some z) : sEv ρ (sX i) = some z := by simp [sEv, sX, sEvT, h]
theorem sEvT_mono {ρ ρ' : List Int} (hp : ρ <+: ρ') : ∀ {a : List (Nat × Int)} {x : Int}, sEvT ρ a = some x → sEvT ρ' a = some x
  | [], _, h => h
  | q :: r, x, h => by
    obtain ⟨t, rfl⟩ := hp
    simp only [sEvT] at h ⊢
    split at h
    · rename_i w u hw hu
      rw [List.getElem?_append_left (List.getElem?_eq_some_iff.mp hw).1, hw, sEvT_mono ⟨t, rfl⟩ hu]
      exact h
    · cases h
theorem sEv_mono {ρ ρ' : List Int} (hp : ρ <+: ρ') {a : sL} {x : Int} (h : sEv ρ a = some x) : sEv ρ' a = some x := by
  obtain ⟨u, hu, rfl⟩ := Option.map_eq_some_iff.mp h
  exact Option.map_eq_some_iff.mpr ⟨u, sEvT_mono hp hu, rfl⟩
/-- the unknowns lie between their bounds -/
def sBd (ρ : List Int) (B : List (Int × Int)) : Prop := B.length = ρ.length ∧ ∀ (i : Nat) (b : Int × Int) (z : Int), B[i]? = some b → ρ[i]? = some z → b.1 ≤ z ∧ z ≤ b.2
theorem sIvT_ok {ρ : List Int} {B : List (Int × Int)} (hB : sBd ρ B) : ∀ {a : List (Nat × Int)} {x : Int} {i : Int × Int}, sEvT ρ a = some x → sIvT B a = some i → i.1 ≤ x ∧ x ≤ i.2
  | [], x, i, h, hi => by cases h; cases hi; exact ⟨Int.le_refl _, Int.le_refl _⟩
  | q :: r, x, i, h, hi => by
    simp only [sEvT] at h
    simp only [sIvT] at hi
    split at h
    · rename_i w u hw hu
      split at hi
      · rename_i b j hb hj
        cases h
        obtain ⟨h1, h2⟩ := hB.2 _ _ _ hb hw
        obtain ⟨h3, h4⟩ := sIvT_ok hB hu hj
        split at hi
        · rename_i h0
          cases hi
          have e1 := Int.mul_le_mul_of_nonneg_left h1 h0
          have e2 := Int.mul_le_mul_of_nonneg_left h2 h0
          simp only
          omega
        · rename_i h0
          cases hi
          have h0' : q.2 ≤ 0 := by omega
          have e1 := Int.mul_le_mul_of_nonpos_left h0' h1
          have e2 := Int.mul_le_mul_of_nonpos_left h0' h2
          simp only
          omega
      · cases hi
    · cases h
theorem sIv_ok {ρ : List Int} {B : List (Int × Int)} (hB : sBd ρ B) {a : sL} {x : Int} {i : Int × Int} (h : sEv ρ a = some x) (hi : sIv B a = some i) : i.1 ≤ x ∧ x ≤ i.2 := by
  obtain ⟨u, hu, rfl⟩ := Option.map_eq_some_iff.mp h
  obtain ⟨j, hj, rfl⟩ := Option.map_eq_some_iff.mp hi
  have h9 := sIvT_ok hB hu hj
  simp only
  omega
theorem sWi_ok {ρ : List Int} {B : List (Int × Int)} (hB : sBd ρ B) {a : sL} {x lo hi : Int} (h : sEv ρ a = some x) (hw : sWi B a lo hi = true) : lo ≤ x ∧ x ≤ hi := by
  unfold sWi at hw
  split at hw
  · rename_i i hi
    simp only [Bool.and_eq_true, decide_eq_true_eq] at hw
    have h9 := sIv_ok hB h hi
    omega
  · cases hw
theorem sK_ok {ρ : List Int} {B : List (Int × Int)} (hB : sBd ρ B) {a : sL} {x k : Int} (h : sEv ρ a = some x) (hk : sK B a = some k) : x = k := by
  unfold sK at hk
  split at hk
  · rename_i i hi
    split at hk
    · cases hk
      have h9 := sIv_ok hB h hi
      omega
    · cases hk
  · cases hk
theorem sTo32 {z : Int} (h1 : -2147483648 ≤ z) (h2 : z ≤ 2147483647) : (Int32.ofInt z).toInt = z := Int32.toInt_ofInt_of_le (by omega) (by omega)
theorem sTo64 {z : Int} (h1 : -9223372036854775808 ≤ z) (h2 : z ≤ 9223372036854775807) : (Int64.ofInt z).toInt = z := Int64.toInt_ofInt_of_le (by omega) (by omega)
end
section
/-! S: worlds with unknown numbers; one step. -/
def sOp (op : Nat) (a b : Int) : Int :=
  if op < 100 then (match eBin op (Int32.ofInt a) (Int32.ofInt b) with | some v => v.toInt | none => 0)
  else if op < 200 then (match eLin (op - 100) (Int64.ofInt a) (Int64.ofInt b) with | some v => v.toInt | none => 0)
  else if op = 200 then (Int64.ofInt a <<< ((Int32.ofInt b).toInt64 &&& 63)).toInt
  else if op = 301 then (Int32.ofInt a).toInt8.toInt32.toInt else (Int32.ofInt a).toInt16.toInt32.toInt
def sMo (ρ : List Int) (Γ : sG) : Prop := sBd ρ Γ.1 ∧ (∀ f ∈ Γ.2.1, ∃ z, sEv ρ f = some z ∧ 0 ≤ z) ∧ (∀ f ∈ Γ.2.2.1, ∃ z, sEv ρ f = some z ∧ z ≠ 0) ∧
  ∀ q ∈ Γ.2.2.2, ∃ za zb, sEv ρ q.2.1 = some za ∧ sEv ρ q.2.2.1 = some zb ∧ ρ[q.2.2.2]? = some (sOp q.1 za zb)
def sNew (Γ : sG) (op : Nat) (a b : sL) (lo hi : Int) : sL × sG := match Γ.2.2.2.find? (fun q => decide (q.1 = op) && (decide (q.2.1 = a) && decide (q.2.2.1 = b))) with
  | some q => (sX q.2.2.2, Γ)
  | none => (sX Γ.1.length, (Γ.1 ++ [(lo, hi)], Γ.2.1, Γ.2.2.1, (op, a, b, Γ.1.length) :: Γ.2.2.2))
theorem sNew_ok {ρ : List Int} {Γ : sG} {op : Nat} {a b : sL} {lo hi za zb : Int} (hM : sMo ρ Γ) (ha : sEv ρ a = some za) (hb : sEv ρ b = some zb) (h1 : lo ≤ sOp op za zb) (h2 : sOp op za zb ≤ hi) : ∃ ρ', ρ <+: ρ' ∧ sMo ρ' (sNew Γ op a b lo hi).2 ∧ sEv ρ' (sNew Γ op a b lo hi).1 = some (sOp op za zb) := by
  unfold sNew
  split
  · rename_i q hq
    have hm := List.mem_of_find?_eq_some hq
    have hp := List.find?_some hq
    simp only [Bool.and_eq_true, decide_eq_true_eq] at hp
    obtain ⟨rfl, rfl, rfl⟩ := hp
    obtain ⟨ya, yb, e1, e2, e3⟩ := hM.2.2.2 q hm
    cases e1.symm.trans ha
    cases e2.symm.trans hb
    exact ⟨ρ, List.prefix_refl _, hM, sEv_X e3⟩
  · have hpre : ρ <+: ρ ++ [sOp op za zb] := ⟨_, rfl⟩
    have hl : Γ.1.length = ρ.length := hM.1.1
    have hnew : (ρ ++ [sOp op za zb])[Γ.1.length]? = some (sOp op za zb) := by rw [hl]; simp
    refine ⟨ρ ++ [sOp op za zb], hpre, ⟨⟨by simp [hl], fun i q z hi hz => ?_⟩, fun f hf => ?_, fun f hf => ?_, fun q hq => ?_⟩, sEv_X hnew⟩
    · by_cases hlt : i < ρ.length
      · rw [List.getElem?_append_left (by rw [hl]; exact hlt)] at hi
        rw [List.getElem?_append_left hlt] at hz
        exact hM.1.2 i q z hi hz
      · have hi2 : i < Γ.1.length + 1 := by have := (List.getElem?_eq_some_iff.mp hi).1; simpa using this
        have hie : i = ρ.length := by omega
        subst hie
        rw [← hl] at hi hz
        rw [hnew] at hz
        simp at hi
        cases hz; cases hi
        exact ⟨h1, h2⟩
    · obtain ⟨z, e1, e2⟩ := hM.2.1 f hf
      exact ⟨z, sEv_mono hpre e1, e2⟩
    · obtain ⟨z, e1, e2⟩ := hM.2.2.1 f hf
      exact ⟨z, sEv_mono hpre e1, e2⟩
    · rcases List.mem_cons.mp hq with rfl | hq
      · exact ⟨za, zb, sEv_mono hpre ha, sEv_mono hpre hb, hnew⟩
      · obtain ⟨ya, yb, e1, e2, e3⟩ := hM.2.2.2 q hq
        exact ⟨ya, yb, sEv_mono hpre e1, sEv_mono hpre e2, by rw [List.getElem?_append_left (List.getElem?_eq_some_iff.mp e3).1]; exact e3⟩
/-- a bound's change is right if the unknown keeps it -/
theorem sMo_set {ρ : List Int} {Γ : sG} (hM : sMo ρ Γ) {i : Nat} {b : Int × Int} (hb : ∀ z, ρ[i]? = some z → b.1 ≤ z ∧ z ≤ b.2) : sMo ρ (Γ.1.set i b, Γ.2) := by
  refine ⟨⟨by rw [List.length_set]; exact hM.1.1, fun j q z hj hz => ?_⟩, hM.2⟩
  by_cases hij : i = j
  · subst hij
    have hl : i < Γ.1.length := by have := (List.getElem?_eq_some_iff.mp hj).1; rwa [List.length_set] at this
    rw [List.getElem?_set_self hl] at hj
    cases hj
    exact hb z hz
  · rw [List.getElem?_set_ne hij] at hj
    exact hM.1.2 j q z hj hz
def sLo0 (B : List (Int × Int)) (a : sL) : Bool := match sIv B a with
  | some i => decide (0 ≤ i.1)
  | none => false
theorem sLo0_ok {ρ : List Int} {B : List (Int × Int)} (hB : sBd ρ B) {a : sL} {z : Int} (ha : sEv ρ a = some z) (h : sLo0 B a = true) : 0 ≤ z := by
  unfold sLo0 at h
  split at h
  · rename_i i hi
    exact Int.le_trans (of_decide_eq_true h) (sIv_ok hB ha hi).1
  · cases h
/-- to take for granted that t is not below 0; none: it can't be -/
def sAsm (Γ : sG) (t : sL) : Option sG := match sIv Γ.1 t with
  | none => some Γ
  | some i => if i.2 < 0 then none else if 0 ≤ i.1 then some Γ
    else if Γ.2.1.any (fun f => sLo0 Γ.1 (sSub (sSub (sC (-1)) t) f)) then none
    else match t with
      | (c, [(s, k)]) => (match Γ.1[s]? with
        | some b => if k = 1 then some (Γ.1.set s (if b.1 ≤ -c then -c else b.1, b.2), Γ.2) else if k = -1 then some (Γ.1.set s (b.1, if c ≤ b.2 then c else b.2), Γ.2) else some (Γ.1, t :: Γ.2.1, Γ.2.2)
        | none => some Γ)
      | _ => some (Γ.1, t :: Γ.2.1, Γ.2.2)
theorem sAsm_ok {ρ : List Int} {Γ : sG} {t : sL} {z : Int} (hM : sMo ρ Γ) (ht : sEv ρ t = some z) (hz : 0 ≤ z) : ∃ Γ', sAsm Γ t = some Γ' ∧ sMo ρ Γ' := by
  unfold sAsm
  split
  · exact ⟨Γ, rfl, hM⟩
  · rename_i i hi
    have hb := sIv_ok hM.1 ht hi
    rw [if_neg (by omega)]
    split
    · exact ⟨Γ, rfl, hM⟩
    split
    · rename_i hany
      exfalso
      obtain ⟨f, hf, hc⟩ := List.any_eq_true.mp hany
      obtain ⟨y, hy, hy0⟩ := hM.2.1 f hf
      have e := sEv_sub (sEv_sub (sEv_C (ρ := ρ) (-1)) ht) hy
      have := sLo0_ok hM.1 e hc
      omega
    have hadd : sMo ρ (Γ.1, t :: Γ.2.1, Γ.2.2) := ⟨hM.1, fun f hf => by
      rcases List.mem_cons.mp hf with rfl | hf
      · exact ⟨z, ht, hz⟩
      · exact hM.2.1 f hf, hM.2.2⟩
    split
    · rename_i c s k _hna
      split
      · rename_i b hbs
        have hval : ∀ w, ρ[s]? = some w → z = c + (k * w + 0) := by
          intro w hw
          simp only [sEv, sEvT, hw, Option.map_some, Option.some.injEq] at ht
          exact ht.symm
        split
        · rename_i hk
          subst hk
          refine ⟨_, rfl, sMo_set hM fun w hw => ?_⟩
          have h1 := hM.1.2 s b w hbs hw
          have h2 := hval w hw
          refine ⟨?_, h1.2⟩
          simp only
          split <;> omega
        split
        · rename_i hk
          subst hk
          refine ⟨_, rfl, sMo_set hM fun w hw => ?_⟩
          have h1 := hM.1.2 s b w hbs hw
          have h2 := hval w hw
          refine ⟨h1.1, ?_⟩
          simp only
          split <;> omega
        · exact ⟨_, rfl, hadd⟩
      · exact ⟨Γ, rfl, hM⟩
    · exact ⟨_, rfl, hadd⟩
def sNeg (t : sL) : sL := sMul (-1) t
def sAsE (Γ : sG) (t : sL) : Option sG := if Γ.2.2.1.any (fun f => decide (f = t) || decide (f = sNeg t)) then none else match sAsm Γ t with
  | none => none
  | some Γ' => sAsm Γ' (sNeg t)
def sAsN (Γ : sG) (t : sL) : Option sG := if sK Γ.1 t = some 0 then none else some (Γ.1, Γ.2.1, t :: Γ.2.2.1, Γ.2.2.2)
theorem sEv_neg {ρ : List Int} {t : sL} {z : Int} (h : sEv ρ t = some z) : sEv ρ (sNeg t) = some (-z) := by
  have h1 := sEv_mul (-1) h
  rw [show -z = -1 * z by omega]
  exact h1
theorem sAsE_ok {ρ : List Int} {Γ : sG} {t : sL} (hM : sMo ρ Γ) (ht : sEv ρ t = some 0) : ∃ Γ', sAsE Γ t = some Γ' ∧ sMo ρ Γ' := by
  unfold sAsE
  split
  · rename_i hany
    exfalso
    obtain ⟨f, hf, hc⟩ := List.any_eq_true.mp hany
    obtain ⟨y, hy, hy0⟩ := hM.2.2.1 f hf
    simp only [Bool.or_eq_true, decide_eq_true_eq] at hc
    rcases hc with rfl | rfl
    · cases hy.symm.trans ht; exact hy0 rfl
    · have h2 := sEv_neg ht
      cases hy.symm.trans h2; exact hy0 rfl
  · obtain ⟨Γ1, e1, h1⟩ := sAsm_ok hM ht (Int.le_refl 0)
    rw [e1]
    exact sAsm_ok h1 (sEv_neg ht) (Int.le_refl 0)
theorem sAsN_ok {ρ : List Int} {Γ : sG} {t : sL} {z : Int} (hM : sMo ρ Γ) (ht : sEv ρ t = some z) (hz : z ≠ 0) : ∃ Γ', sAsN Γ t = some Γ' ∧ sMo ρ Γ' := by
  unfold sAsN
  rw [if_neg (fun h => hz (sK_ok hM.1 ht h))]
  refine ⟨_, rfl, hM.1, hM.2.1, fun f hf => ?_, hM.2.2.2⟩
  rcases List.mem_cons.mp hf with rfl | hf
  · exact ⟨z, ht, hz⟩
  · exact hM.2.2.1 f hf
/-- a condition on x - y: what may be taken for granted where it holds, and where it doesn't -/
def sCnd (b : Nat) (Γ : sG) (t : sL) : Option sG × Option sG :=
  if b = 0 then (sAsE Γ t, sAsN Γ t) else if b = 1 then (sAsN Γ t, sAsE Γ t) else if b = 2 then (sAsm Γ (sSub (sC (-1)) t), sAsm Γ t)
  else if b = 3 then (sAsm Γ t, sAsm Γ (sSub (sC (-1)) t)) else if b = 4 then (sAsm Γ (sSub t (sC 1)), sAsm Γ (sNeg t)) else (sAsm Γ (sNeg t), sAsm Γ (sSub t (sC 1)))
theorem sCnd_ok {ρ : List Int} {Γ : sG} {x y : sL} {zx zy : Int} (b : Nat) (hM : sMo ρ Γ) (hx : sEv ρ x = some zx) (hy : sEv ρ y = some zy) (h1 : sI32 Γ.1 x = true) (h2 : sI32 Γ.1 y = true) :
    (eCmp b (Int32.ofInt zx) (Int32.ofInt zy) = true ∧ ∃ Γ', (sCnd b Γ (sSub x y)).1 = some Γ' ∧ sMo ρ Γ') ∨ (¬ eCmp b (Int32.ofInt zx) (Int32.ofInt zy) = true ∧ ∃ Γ', (sCnd b Γ (sSub x y)).2 = some Γ' ∧ sMo ρ Γ') := by
  have r1 := sWi_ok hM.1 hx h1
  have r2 := sWi_ok hM.1 hy h2
  have t1 := sTo32 r1.1 r1.2
  have t2 := sTo32 r2.1 r2.2
  have ht := sEv_sub hx hy
  have hm1 := sEv_sub (sEv_C (ρ := ρ) (-1)) ht
  have hm2 := sEv_sub ht (sEv_C (ρ := ρ) 1)
  have hm3 := sEv_neg ht
  have eEq : Int32.ofInt zx = Int32.ofInt zy ↔ zx = zy := by rw [← Int32.toInt_inj, t1, t2]
  have eLt : Int32.ofInt zx < Int32.ofInt zy ↔ zx < zy := by rw [Int32.lt_iff_toInt_lt, t1, t2]
  have eLe' : Int32.ofInt zx ≤ Int32.ofInt zy ↔ zx ≤ zy := by rw [Int32.le_iff_toInt_le, t1, t2]
  have eLt' : Int32.ofInt zy < Int32.ofInt zx ↔ zy < zx := by rw [Int32.lt_iff_toInt_lt, t1, t2]
  have eLe'' : Int32.ofInt zy ≤ Int32.ofInt zx ↔ zy ≤ zx := by rw [Int32.le_iff_toInt_le, t1, t2]
  unfold sCnd eCmp
  by_cases b0 : b = 0
  · simp only [if_pos b0, decide_eq_true_eq, eEq]
    by_cases h : zx = zy
    · exact Or.inl ⟨h, sAsE_ok hM (by rw [ht]; congr 1; omega)⟩
    · exact Or.inr ⟨h, sAsN_ok hM ht (by omega)⟩
  simp only [if_neg b0]
  by_cases b1 : b = 1
  · simp only [if_pos b1, Bool.not_eq_true', decide_eq_false_iff_not, decide_eq_true_eq, eEq]
    by_cases h : zx = zy
    · exact Or.inr ⟨by simpa using h, sAsE_ok hM (by rw [ht]; congr 1; omega)⟩
    · exact Or.inl ⟨h, sAsN_ok hM ht (by omega)⟩
  simp only [if_neg b1]
  by_cases b2 : b = 2
  · simp only [if_pos b2, decide_eq_true_eq, eLt]
    by_cases h : zx < zy
    · exact Or.inl ⟨h, sAsm_ok hM hm1 (by omega)⟩
    · exact Or.inr ⟨h, sAsm_ok hM ht (by omega)⟩
  simp only [if_neg b2]
  by_cases b3 : b = 3
  · simp only [if_pos b3, decide_eq_true_eq, eLe'']
    by_cases h : zy ≤ zx
    · exact Or.inl ⟨h, sAsm_ok hM ht (by omega)⟩
    · exact Or.inr ⟨h, sAsm_ok hM hm1 (by omega)⟩
  simp only [if_neg b3]
  by_cases b4 : b = 4
  · simp only [if_pos b4, decide_eq_true_eq, eLt']
    by_cases h : zy < zx
    · exact Or.inl ⟨h, sAsm_ok hM hm2 (by omega)⟩
    · exact Or.inr ⟨h, sAsm_ok hM hm3 (by omega)⟩
  simp only [if_neg b4, decide_eq_true_eq, eLe']
  by_cases h : zx ≤ zy
  · exact Or.inl ⟨h, sAsm_ok hM hm3 (by omega)⟩
  · exact Or.inr ⟨h, sAsm_ok hM hm2 (by omega)⟩
end
section
/-! S: arithmetic. -/
def sBin (Γ : sG) (b : Nat) (x y : sL) : Option (sL × sG) :=
  if b = 0 then some (sAdd x y, Γ) else if b = 1 then some (sSub x y, Γ)
  else match sK Γ.1 x, sK Γ.1 y with
    | some kx, some ky => (eBin b (Int32.ofInt kx) (Int32.ofInt ky)).map fun v => (sC v.toInt, Γ)
    | some kx, none => if b = 2 then some (sMul kx y, Γ) else if b < 9 then some (sNew Γ b x y (-2147483648) 2147483647) else none
    | none, some ky => if b = 2 then some (sMul ky x, Γ)
      else if b = 3 then (if 0 ≤ ky ∧ ky ≤ 2147483647 then some (sNew Γ 3 x y 0 ky) else some (sNew Γ b x y (-2147483648) 2147483647))
      else if b = 9 then (if 0 < ky ∧ ky ≤ 2147483647 ∧ sWi Γ.1 x 0 2147483647 = true then (match sIv Γ.1 x with
        | some i => some (sNew Γ 9 x y (i.1 / ky) (i.2 / ky))
        | none => none) else none)
      else if b = 10 then (if 0 < ky ∧ ky ≤ 2147483647 ∧ sWi Γ.1 x 0 2147483647 = true then some (sNew Γ 10 x y 0 (ky - 1)) else none)
      else if b < 9 then some (sNew Γ b x y (-2147483648) 2147483647) else none
    | none, none => if b < 9 then some (sNew Γ b x y (-2147483648) 2147483647) else none
theorem sRng32 (x : Int32) : -2147483648 ≤ x.toInt ∧ x.toInt ≤ 2147483647 := by
  have h1 := x.le_toInt
  have h2 := x.toInt_lt
  omega
theorem sOp_bin {b : Nat} {x y : Int} {v : Int32} (hb : b < 100) (h : eBin b (Int32.ofInt x) (Int32.ofInt y) = some v) : sOp b x y = v.toInt := by
  unfold sOp
  rw [if_pos hb, h]
theorem eBin_tot {b : Nat} (hb : b < 9) (x y : Int32) : ∃ v, eBin b x y = some v := by
  unfold eBin
  by_cases h0 : b = 0
  · exact ⟨_, if_pos h0⟩
  rw [if_neg h0]
  by_cases h1 : b = 1
  · exact ⟨_, if_pos h1⟩
  rw [if_neg h1]
  by_cases h2 : b = 2
  · exact ⟨_, if_pos h2⟩
  rw [if_neg h2]
  by_cases h3 : b = 3
  · exact ⟨_, if_pos h3⟩
  rw [if_neg h3]
  by_cases h4 : b = 4
  · exact ⟨_, if_pos h4⟩
  rw [if_neg h4]
  by_cases h5 : b = 5
  · exact ⟨_, if_pos h5⟩
  rw [if_neg h5]
  by_cases h6 : b = 6
  · exact ⟨_, if_pos h6⟩
  rw [if_neg h6]
  by_cases h7 : b = 7
  · exact ⟨_, if_pos h7⟩
  rw [if_neg h7]
  by_cases h8 : b = 8
  · exact ⟨_, if_pos h8⟩
  omega
theorem sAnd_rng (x : Int32) {k : Int} (h0 : 0 ≤ k) (h1 : k ≤ 2147483647) : 0 ≤ (x &&& Int32.ofInt k).toInt ∧ (x &&& Int32.ofInt k).toInt ≤ k := by
  obtain ⟨n, rfl⟩ := Int.eq_ofNat_of_zero_le h0
  have hn : n < 2 ^ 31 := by omega
  have e1 : (Int32.ofInt (n : Int)).toBitVec.toNat = n := by
    have : (Int32.ofInt (n : Int)) = nI n := by simp [nI, Int32.ofNat, Int32.ofInt]
    rw [this]
    exact pk_tn (by omega)
  have e2 : (x &&& Int32.ofInt (n : Int)).toBitVec.toNat ≤ n := by
    have e3 : (x &&& Int32.ofInt (n : Int)).toBitVec.toNat = x.toBitVec.toNat &&& (Int32.ofInt (n : Int)).toBitVec.toNat := by simp
    rw [e3, e1]
    exact Nat.and_le_right
  have e4 : (x &&& Int32.ofInt (n : Int)).toInt = ((x &&& Int32.ofInt (n : Int)).toBitVec.toNat : Int) := by
    show (x &&& Int32.ofInt (n : Int)).toBitVec.toInt = _
    rw [BitVec.toInt_eq_toNat_of_lt (by omega)]
  rw [e4]
  omega
theorem sDiv_val {x k : Int} (hx : 0 ≤ x) (hx2 : x ≤ 2147483647) (hk : 0 < k) (hk2 : k ≤ 2147483647) : (Int32.ofInt x / Int32.ofInt k).toInt = x / k ∧ (Int32.ofInt x - Int32.ofInt x / Int32.ofInt k * Int32.ofInt k).toInt = x % k ∧ ¬ Int32.ofInt k = 0 := by
  obtain ⟨a, rfl⟩ := Int.eq_ofNat_of_zero_le hx
  obtain ⟨d, rfl⟩ := Int.eq_ofNat_of_zero_le (Int.le_of_lt hk)
  have ea : (Int32.ofInt (a : Int)) = nI a := by simp [nI, Int32.ofNat, Int32.ofInt]
  have ed : (Int32.ofInt (d : Int)) = nI d := by simp [nI, Int32.ofNat, Int32.ofInt]
  have ha : a < 2 ^ 31 := by omega
  have hd : d < 2 ^ 31 := by omega
  have hd0 : 0 < d := by omega
  have l1 : a / d < 2 ^ 31 := Nat.lt_of_le_of_lt (Nat.div_le_self a d) ha
  have l2 : a % d < 2 ^ 31 := Nat.lt_of_le_of_lt (Nat.mod_le a d) ha
  rw [ea, ed]
  refine ⟨?_, ?_, nI_ne0 hd0 hd⟩
  · rw [pk_div ha hd0 hd, nI_toInt l1]
    rfl
  · rw [pk_rem ha hd0 hd, nI_toInt l2]
    rfl
theorem sBin_ok {ρ : List Int} {Γ : sG} {b : Nat} {x y : sL} {zx zy : Int} {r : sL × sG} (hM : sMo ρ Γ) (hx : sEv ρ x = some zx) (hy : sEv ρ y = some zy) (h : sBin Γ b x y = some r) :
    ∃ ρ' z, ρ <+: ρ' ∧ sMo ρ' r.2 ∧ sEv ρ' r.1 = some z ∧ eBin b (Int32.ofInt zx) (Int32.ofInt zy) = some (Int32.ofInt z) := by
  have hnew : ∀ (op : Nat) (lo hi : Int) (v : Int32), op < 100 → b = op → eBin b (Int32.ofInt zx) (Int32.ofInt zy) = some v → lo ≤ v.toInt → v.toInt ≤ hi → ∃ ρ' z, ρ <+: ρ' ∧ sMo ρ' (sNew Γ op x y lo hi).2 ∧ sEv ρ' (sNew Γ op x y lo hi).1 = some z ∧ eBin b (Int32.ofInt zx) (Int32.ofInt zy) = some (Int32.ofInt z) := by
    intro op lo hi v hop hbo hv h1 h2
    subst hbo
    have e := sOp_bin hop hv
    obtain ⟨ρ', p1, p2, p3⟩ := sNew_ok (op := b) (lo := lo) (hi := hi) hM hx hy (by rw [e]; exact h1) (by rw [e]; exact h2)
    exact ⟨ρ', _, p1, p2, p3, by rw [hv, e, Int32.ofInt_toInt]⟩
  have hfull : b < 9 → ∀ rr, some (sNew Γ b x y (-2147483648) 2147483647) = some rr → ∃ ρ' z, ρ <+: ρ' ∧ sMo ρ' rr.2 ∧ sEv ρ' rr.1 = some z ∧ eBin b (Int32.ofInt zx) (Int32.ofInt zy) = some (Int32.ofInt z) := by
    intro hb rr hr
    cases hr
    obtain ⟨v, hv⟩ := eBin_tot hb (Int32.ofInt zx) (Int32.ofInt zy)
    have q := sRng32 v
    exact hnew b _ _ v (by omega) rfl hv q.1 q.2
  unfold sBin at h
  by_cases b0 : b = 0
  · rw [if_pos b0] at h; cases h
    refine ⟨ρ, _, List.prefix_refl _, hM, sEv_add hx hy, ?_⟩
    unfold eBin; rw [if_pos b0, Int32.ofInt_add]
  rw [if_neg b0] at h
  by_cases b1 : b = 1
  · rw [if_pos b1] at h; cases h
    refine ⟨ρ, _, List.prefix_refl _, hM, sEv_sub hx hy, ?_⟩
    unfold eBin; rw [if_neg b0, if_pos b1, Int32.ofInt_sub]
  rw [if_neg b1] at h
  split at h
  · rename_i kx ky hkx hky
    obtain ⟨v, hv, rfl⟩ := Option.map_eq_some_iff.mp h
    have e1 := sK_ok hM.1 hx hkx
    have e2 := sK_ok hM.1 hy hky
    subst e1; subst e2
    exact ⟨ρ, v.toInt, List.prefix_refl _, hM, sEv_C _, by rw [hv, Int32.ofInt_toInt]⟩
  · rename_i kx hkx hky
    have e1 := sK_ok hM.1 hx hkx
    subst e1
    by_cases b2 : b = 2
    · rw [if_pos b2] at h; cases h
      refine ⟨ρ, _, List.prefix_refl _, hM, sEv_mul zx hy, ?_⟩
      subst b2
      show some (_ * _) = _
      rw [Int32.ofInt_mul]
    rw [if_neg b2] at h
    by_cases b9 : b < 9
    · rw [if_pos b9] at h; exact hfull b9 r h
    · rw [if_neg b9] at h; cases h
  · rename_i ky hkx hky
    have e2 := sK_ok hM.1 hy hky
    subst e2
    by_cases b2 : b = 2
    · rw [if_pos b2] at h; cases h
      refine ⟨ρ, _, List.prefix_refl _, hM, sEv_mul zy hx, ?_⟩
      subst b2
      show some (_ * _) = _
      rw [Int.mul_comm, Int32.ofInt_mul]
    rw [if_neg b2] at h
    by_cases b3 : b = 3
    · rw [if_pos b3] at h
      split at h
      · rename_i hk
        cases h
        subst b3
        have q := sAnd_rng (Int32.ofInt zx) hk.1 hk.2
        exact hnew 3 0 zy _ (by decide) rfl rfl q.1 q.2
      · exact hfull (by omega) r h
    rw [if_neg b3] at h
    by_cases b9 : b = 9
    · rw [if_pos b9] at h
      split at h
      · rename_i hk
        split at h
        · rename_i i hi
          cases h
          subst b9
          have rx := sWi_ok hM.1 hx hk.2.2
          have ri := sIv_ok hM.1 hx hi
          obtain ⟨v1, v2, v3⟩ := sDiv_val rx.1 rx.2 hk.1 hk.2.1
          refine hnew 9 _ _ (Int32.ofInt zx / Int32.ofInt zy) (by decide) rfl ?_ ?_ ?_
          · show (if Int32.ofInt zy = 0 then none else some _) = _
            rw [if_neg v3]
          · rw [v1]; exact Int.ediv_le_ediv hk.1 ri.1
          · rw [v1]; exact Int.ediv_le_ediv hk.1 ri.2
        · cases h
      · cases h
    rw [if_neg b9] at h
    by_cases b10 : b = 10
    · rw [if_pos b10] at h
      split at h
      · rename_i hk
        cases h
        subst b10
        have rx := sWi_ok hM.1 hx hk.2.2
        obtain ⟨v1, v2, v3⟩ := sDiv_val rx.1 rx.2 hk.1 hk.2.1
        refine hnew 10 _ _ (Int32.ofInt zx - Int32.ofInt zx / Int32.ofInt zy * Int32.ofInt zy) (by decide) rfl ?_ ?_ ?_
        · show (if Int32.ofInt zy = 0 then none else some _) = _
          rw [if_neg v3]
        · rw [v2]; exact Int.emod_nonneg _ (by omega)
        · rw [v2]; have := Int.emod_lt_of_pos zx hk.1; omega
      · cases h
    rw [if_neg b10] at h
    split at h
    · rename_i hb; exact hfull hb r h
    · cases h
  · split at h
    · rename_i hb; exact hfull hb r h
    · cases h
end
section
/-! S: what a symbolic state stands for. -/
def sCat (v : sV) : Nat := if v.1 = 1 then 2 else 1
def sVr (ρ : List Int) (v : sV) (w : Value) : Prop :=
  if v.1 = 0 then ∃ z, sEv ρ v.2 = some z ∧ w = .int (Int32.ofInt z) else if v.1 = 1 then ∃ z, sEv ρ v.2 = some z ∧ w = .long (Int64.ofInt z)
  else if v.1 = 2 then w = .ref v.2.1.toNat else if v.1 = 3 then w = .null else if v.1 = 4 then ∃ q ∈ v.2.2, w = .ref q.1 else False
def sVs (ρ : List Int) : List sV → List Value → Prop
  | [], [] => True
  | v :: vs, w :: ws => sVr ρ v w ∧ sVs ρ vs ws
  | _, _ => False
def sGetL (ls : List (Nat × sV)) (i : Nat) : Option sV := (ls.find? (fun q => q.1 == i)).map (fun q => q.2)
/-- what the locals that are told hold -/
def sLs (ρ : List Int) (vs : List (Nat × sV)) (ws : List (Nat × Value)) : Prop := ∀ (i : Nat) (v : sV), sGetL vs i = some v → ∃ w, eGetL ws i = some w ∧ sVr ρ v w
def sLk (ov : List (Nat × sL)) (i : Nat) : Option sL := (ov.find? (fun q => q.1 == i)).map fun q => q.2
def sArI (ρ : List Int) (b : Int × Int) (ov : List (Nat × sL)) (n : Nat) (f : Nat → Int32) : Prop := ∀ i, i < n → match sLk ov i with
  | some a => ∃ z, sEv ρ a = some z ∧ f i = Int32.ofInt z
  | none => b.1 ≤ (f i).toInt ∧ (f i).toInt ≤ b.2
def sArL (ρ : List Int) (b : Int × Int) (ov : List (Nat × sL)) (n : Nat) (f : Nat → Int64) : Prop := ∀ i, i < n → match sLk ov i with
  | some a => ∃ z, sEv ρ a = some z ∧ f i = Int64.ofInt z
  | none => b.1 ≤ (f i).toInt ∧ (f i).toInt ≤ b.2
def sArQ (ov : List (Nat × sL)) (n : Nat) (f : Nat → Option Nat) : Prop := ∀ i, i < n → f i = (sLk ov i).map fun a => a.1.toNat
def sEr (ρ : List Int) (x : sE) (y : eE) : Prop := match x, y with
  | .inl (ty, n, b, ov), .inl (ty', n', arr) => ty' = ty ∧ n' = n ∧ (match arr with
    | .inl f => (ty = .int ∨ ty = .byte ∨ ty = .short) ∧ sArI ρ b ov n f
    | .inr (.inl f) => ty = .long ∧ sArL ρ b ov n f
    | .inr (.inr f) => ty.isReference = true ∧ sArQ ov n f)
  | .inr (ci, fs), .inr (ci', gs) => ci' = ci ∧ sVs ρ fs gs
  | _, _ => False
/-- a cell of which nothing is told -/
def sIsA (x : sE) : Bool := match x with
  | .inr (c, _) => c == 999
  | .inl _ => false
def sHp (ρ : List Int) : List sE → List eE → Prop
  | [], [] => True
  | x :: xs, y :: ys => (sIsA x = true ∨ sEr ρ x y) ∧ sHp ρ xs ys
  | _, _ => False
def sRor (ρ : List Int) : List (Nat × List sL) → List (Nat × (Nat → Int32)) → Prop
  | [], [] => True
  | x :: xs, y :: ys => ((x.1 = 0 ∨ y.1 = x.1) ∧ ∀ i, i < x.1 → ∃ a z, x.2[i]? = some a ∧ sEv ρ a = some z ∧ y.2 i = Int32.ofInt z) ∧ sRor ρ xs ys
  | _, _ => False
def sD (ρ : List Int) (S : sR) (R : eR) : Prop := R.1 = S.1 ∧ sLs ρ S.2.1 R.2.1 ∧ sVs ρ S.2.2.1 R.2.2.1 ∧ sHp ρ S.2.2.2.1 R.2.2.2.1 ∧ R.2.2.2.2.1 = S.2.2.2.2.1 ∧ R.2.2.2.2.2 = S.2.2.2.2.2.1
theorem sVr.mono {ρ ρ' : List Int} (h : ρ <+: ρ') {v : sV} {w : Value} (q : sVr ρ v w) : sVr ρ' v w := by
  unfold sVr at q ⊢
  split
  · rename_i h0
    rw [if_pos h0] at q
    obtain ⟨z, e1, e2⟩ := q
    exact ⟨z, sEv_mono h e1, e2⟩
  · rename_i h0
    rw [if_neg h0] at q
    split
    · rename_i h1
      rw [if_pos h1] at q
      obtain ⟨z, e1, e2⟩ := q
      exact ⟨z, sEv_mono h e1, e2⟩
    · rename_i h1
      rw [if_neg h1] at q
      exact q
theorem sVs.mono {ρ ρ' : List Int} (h : ρ <+: ρ') : ∀ {vs : List sV} {ws : List Value}, sVs ρ vs ws → sVs ρ' vs ws
  | [], [], _ => trivial
  | _ :: _, _ :: _, q => ⟨q.1.mono h, q.2.mono h⟩
theorem sLs.mono {ρ ρ' : List Int} (h : ρ <+: ρ') {vs : List (Nat × sV)} {ws : List (Nat × Value)} (q : sLs ρ vs ws) : sLs ρ' vs ws := fun i v hv => by
  obtain ⟨w, h1, h2⟩ := q i v hv
  exact ⟨w, h1, h2.mono h⟩
theorem sEr.mono {ρ ρ' : List Int} (h : ρ <+: ρ') {x : sE} {y : eE} (q : sEr ρ x y) : sEr ρ' x y := by
  rcases x with ⟨ty, n, b, ov⟩ | ⟨ci, fs⟩ <;> rcases y with ⟨ty', n', arr⟩ | ⟨cj, gs⟩
  · obtain ⟨h1, h2, h3⟩ := q
    refine ⟨h1, h2, ?_⟩
    rcases arr with f | f | f
    · refine ⟨h3.1, fun i hi => ?_⟩
      have h4 := h3.2 i hi
      split at h4
      · obtain ⟨z, e1, e2⟩ := h4; exact ⟨z, sEv_mono h e1, e2⟩
      · exact h4
    · refine ⟨h3.1, fun i hi => ?_⟩
      have h4 := h3.2 i hi
      split at h4
      · obtain ⟨z, e1, e2⟩ := h4; exact ⟨z, sEv_mono h e1, e2⟩
      · exact h4
    · exact h3
  · exact q.elim
  · exact q.elim
  · exact ⟨q.1, q.2.mono h⟩
theorem sHp.mono {ρ ρ' : List Int} (h : ρ <+: ρ') : ∀ {xs : List sE} {ys : List eE}, sHp ρ xs ys → sHp ρ' xs ys
  | [], [], _ => trivial
  | _ :: _, _ :: _, q => ⟨q.1.imp id (fun q => q.mono h), q.2.mono h⟩
theorem sRor.mono {ρ ρ' : List Int} (h : ρ <+: ρ') : ∀ {xs : List (Nat × List sL)} {ys : List (Nat × (Nat → Int32))}, sRor ρ xs ys → sRor ρ' xs ys
  | [], [], _ => trivial
  | _ :: _, _ :: _, q => ⟨⟨q.1.1, fun i hi => by obtain ⟨a, z, e1, e2, e3⟩ := q.1.2 i hi; exact ⟨a, z, e1, sEv_mono h e2, e3⟩⟩, q.2.mono h⟩
theorem sVr_cat {ρ : List Int} {v : sV} {w : Value} (q : sVr ρ v w) : w.category = sCat v := by
  unfold sVr at q
  unfold sCat
  split at q
  · rename_i h; obtain ⟨z, -, rfl⟩ := q; rw [if_neg (by omega)]; rfl
  split at q
  · rename_i h; obtain ⟨z, -, rfl⟩ := q; rw [if_pos h]; rfl
  split at q
  · rename_i h1 h; subst q; rw [if_neg h1]; rfl
  split at q
  · rename_i h1 _ h; subst q; rw [if_neg h1]; rfl
  split at q
  · rename_i h1 _ _ h; obtain ⟨_, -, rfl⟩ := q; rw [if_neg h1]; rfl
  · exact q.elim
theorem sVr_tag {ρ : List Int} {v : sV} {w : Value} (q : sVr ρ v w) {k : Nat} (hk : v.1 = k) (h3 : k < 3) : eTag w = k := by
  subst hk
  unfold sVr at q
  split at q
  · rename_i h; obtain ⟨z, -, rfl⟩ := q; rw [h]; rfl
  split at q
  · rename_i h; obtain ⟨z, -, rfl⟩ := q; rw [h]; rfl
  split at q
  · rename_i h; subst q; rw [h]; rfl
  · omega
theorem sVr_int {ρ : List Int} {x : sL} {w : Value} (q : sVr ρ (0, x) w) : ∃ z, sEv ρ x = some z ∧ w = .int (Int32.ofInt z) := q
theorem sVr_long {ρ : List Int} {x : sL} {w : Value} (q : sVr ρ (1, x) w) : ∃ z, sEv ρ x = some z ∧ w = .long (Int64.ofInt z) := q
theorem sVr_ref {ρ : List Int} {x : sL} {w : Value} (q : sVr ρ (2, x) w) : w = .ref x.1.toNat := q
theorem sVs_cons {ρ : List Int} {v : sV} {vs : List sV} {ws : List Value} (q : sVs ρ (v :: vs) ws) : ∃ w r, ws = w :: r ∧ sVr ρ v w ∧ sVs ρ vs r := by
  cases ws with
  | nil => exact q.elim
  | cons w r => exact ⟨w, r, rfl, q.1, q.2⟩
theorem sVs_nil {ρ : List Int} {ws : List Value} (q : sVs ρ [] ws) : ws = [] := by
  cases ws with
  | nil => rfl
  | cons w r => exact q.elim
theorem sVs_int {ρ : List Int} {x : sL} {vs : List sV} {ws : List Value} (q : sVs ρ ((0, x) :: vs) ws) : ∃ z r, ws = .int (Int32.ofInt z) :: r ∧ sEv ρ x = some z ∧ sVs ρ vs r := by
  obtain ⟨w, r, rfl, h1, h2⟩ := sVs_cons q
  obtain ⟨z, e1, rfl⟩ := sVr_int h1
  exact ⟨z, r, rfl, e1, h2⟩
theorem sVs_long {ρ : List Int} {x : sL} {vs : List sV} {ws : List Value} (q : sVs ρ ((1, x) :: vs) ws) : ∃ z r, ws = .long (Int64.ofInt z) :: r ∧ sEv ρ x = some z ∧ sVs ρ vs r := by
  obtain ⟨w, r, rfl, h1, h2⟩ := sVs_cons q
  obtain ⟨z, e1, rfl⟩ := sVr_long h1
  exact ⟨z, r, rfl, e1, h2⟩
theorem sVs_ref {ρ : List Int} {x : sL} {vs : List sV} {ws : List Value} (q : sVs ρ ((2, x) :: vs) ws) : ∃ r, ws = .ref x.1.toNat :: r ∧ sVs ρ vs r := by
  obtain ⟨w, r, rfl, h1, h2⟩ := sVs_cons q
  exact ⟨r, by rw [sVr_ref h1], h2⟩
theorem sVs_len {ρ : List Int} : ∀ {vs : List sV} {ws : List Value}, sVs ρ vs ws → ws.length = vs.length
  | [], [], _ => rfl
  | _ :: _, _ :: _, q => congrArg Nat.succ (sVs_len q.2)
theorem sVs_app {ρ : List Int} : ∀ {v1 : List sV} {w1 : List Value} {v2 : List sV} {w2 : List Value}, sVs ρ v1 w1 → sVs ρ v2 w2 → sVs ρ (v1 ++ v2) (w1 ++ w2)
  | [], [], _, _, _, h => h
  | _ :: _, _ :: _, _, _, q, h => ⟨q.1, sVs_app q.2 h⟩
theorem sVs_rev {ρ : List Int} : ∀ {vs : List sV} {ws : List Value}, sVs ρ vs ws → sVs ρ vs.reverse ws.reverse
  | [], [], _ => trivial
  | _ :: _, _ :: _, q => by
    rw [List.reverse_cons, List.reverse_cons]
    exact sVs_app (sVs_rev q.2) ⟨q.1, trivial⟩
theorem sVs_take {ρ : List Int} : ∀ (n : Nat) {vs : List sV} {ws : List Value}, sVs ρ vs ws → sVs ρ (vs.take n) (ws.take n)
  | 0, _, _, _ => by simp only [List.take_zero]; exact trivial
  | _ + 1, [], [], _ => trivial
  | n + 1, _ :: _, _ :: _, q => ⟨q.1, sVs_take n q.2⟩
theorem sVs_drop {ρ : List Int} : ∀ (n : Nat) {vs : List sV} {ws : List Value}, sVs ρ vs ws → sVs ρ (vs.drop n) (ws.drop n)
  | 0, _, _, h => h
  | _ + 1, [], [], _ => trivial
  | n + 1, _ :: _, _ :: _, q => sVs_drop n q.2
theorem sVs_cats {ρ : List Int} : ∀ {vs : List sV} {ws : List Value}, sVs ρ vs ws → (ws.map fun v => v.category) = vs.map sCat
  | [], [], _ => rfl
  | _ :: _, _ :: _, q => by
    rw [List.map_cons, List.map_cons, sVr_cat q.1, sVs_cats q.2]
theorem sVs_get {ρ : List Int} : ∀ {vs : List sV} {ws : List Value}, sVs ρ vs ws → ∀ {k : Nat} {v : sV}, vs[k]? = some v → ∃ w, ws[k]? = some w ∧ sVr ρ v w
  | [], [], _, k, v, h => by cases h
  | _ :: _, w :: _, q, 0, v, h => by
    cases h
    exact ⟨w, rfl, q.1⟩
  | _ :: _, _ :: _, q, k + 1, v, h => sVs_get q.2 (k := k) h
theorem sVs_set {ρ : List Int} {v : sV} {w : Value} (hv : sVr ρ v w) : ∀ {vs : List sV} {ws : List Value} (k : Nat), sVs ρ vs ws → sVs ρ (vs.set k v) (ws.set k w)
  | [], [], _, _ => trivial
  | _ :: _, _ :: _, 0, q => ⟨hv, q.2⟩
  | _ :: _, _ :: _, k + 1, q => ⟨q.1, sVs_set hv k q.2⟩
theorem sLs_get {ρ : List Int} {vs : List (Nat × sV)} {ws : List (Nat × Value)} (h : sLs ρ vs ws) {i : Nat} {v : sV} (hv : sGetL vs i = some v) : ∃ w, eGetL ws i = some w ∧ sVr ρ v w := h i v hv
/-- a filter that goes by the key alone -/
theorem sGetL_filter {f : Nat × sV → Bool} (i : Nat) : ∀ (vs : List (Nat × sV)), (∀ q ∈ vs, q.1 = i → f q = true) → sGetL (vs.filter f) i = sGetL vs i
  | [], _ => rfl
  | q :: r, hf => by
    have ih := sGetL_filter (f := f) i r (fun q hq => hf q (List.mem_cons_of_mem _ hq))
    unfold sGetL at ih ⊢
    rw [List.filter_cons, List.find?_cons]
    by_cases hq : (q.1 == i) = true
    · rw [if_pos (hf q List.mem_cons_self (beq_iff_eq.mp hq)), List.find?_cons]
      simp only [hq]
    · simp only [hq]
      split
      · rw [List.find?_cons]
        simp only [hq]
        exact ih
      · exact ih
theorem sGetL_none {f : Nat × sV → Bool} (i : Nat) (vs : List (Nat × sV)) (hf : ∀ q ∈ vs, q.1 = i → f q = false) : sGetL (vs.filter f) i = none := by
  unfold sGetL
  rw [Option.map_eq_none_iff, List.find?_eq_none]
  intro q hq hqi
  obtain ⟨h1, h2⟩ := List.mem_filter.mp hq
  rw [hf q h1 (beq_iff_eq.mp hqi)] at h2
  cases h2
theorem eGetL_filter {g : Nat × Value → Bool} {i : Nat} {w : Value} (hg : g (i, w) = true) : ∀ {ws : List (Nat × Value)}, eGetL ws i = some w → eGetL (ws.filter g) i = some w
  | [], h => by cases h
  | q :: r, h => by
    unfold eGetL at h ⊢
    rw [List.find?_cons] at h
    rw [List.filter_cons]
    by_cases hq : (q.1 == i) = true
    · simp only [hq, Option.map_some, Option.some.injEq] at h
      have e : q = (i, w) := Prod.ext (beq_iff_eq.mp hq) h
      rw [e, if_pos hg, List.find?_cons]
      simp
    · simp only [hq] at h
      have ih := eGetL_filter (g := g) hg (ws := r) h
      unfold eGetL at ih
      split
      · rw [List.find?_cons]
        simp only [hq]
        exact ih
      · exact ih
/-- whether a local of two slots stands right ahead -/
def sWide (ls : List (Nat × sV)) (j : Nat) : Bool := match sGetL ls j with
  | some v => sCat v == 2
  | none => false
def sSt1 (ls : List (Nat × sV)) (i : Nat) (v : sV) : List (Nat × sV) := (i, v) :: ls.filter (fun q => !(q.1 == i) && !(q.1 + 1 == i && sWide ls q.1))
def sSt2 (ls : List (Nat × sV)) (i : Nat) (v : sV) : List (Nat × sV) := (i, v) :: ls.filter (fun q => !(q.1 == i) && (!(q.1 == i + 1) && !(q.1 + 1 == i && sWide ls q.1)))
theorem sGetL_hd (i : Nat) (v : sV) (r : List (Nat × sV)) : sGetL ((i, v) :: r) i = some v := by simp [sGetL]
theorem eGetL_hd (i : Nat) (v : Value) (r : List (Nat × Value)) : eGetL ((i, v) :: r) i = some v := by simp [eGetL]
theorem sGetL_tl {i j : Nat} (h : ¬ i = j) (v : sV) (r : List (Nat × sV)) : sGetL ((i, v) :: r) j = sGetL r j := by
  have : (i == j) = false := by simpa using h
  simp [sGetL, List.find?_cons, this]
theorem eGetL_tl {i j : Nat} (h : ¬ i = j) (v : Value) (r : List (Nat × Value)) : eGetL ((i, v) :: r) j = eGetL r j := by
  have : (i == j) = false := by simpa using h
  simp [eGetL, List.find?_cons, this]
theorem sLs_st {ρ : List Int} {vs : List (Nat × sV)} {ws : List (Nat × Value)} (h : sLs ρ vs ws) {i : Nat} {v : sV} {w : Value} (hv : sVr ρ v w) {f : Nat × sV → Bool} {g : Nat × Value → Bool}
    (hd : ∀ j, ¬ i = j → (∀ q : Nat × sV, q.1 = j → f q = false) ∨ ((∀ q : Nat × sV, q.1 = j → f q = true) ∧ ∀ (u : sV) (x : Value), sGetL vs j = some u → sVr ρ u x → g (j, x) = true)) : sLs ρ ((i, v) :: vs.filter f) ((i, w) :: ws.filter g) := by
  intro j u hu
  by_cases hij : i = j
  · subst hij
    rw [sGetL_hd] at hu
    cases hu
    exact ⟨w, eGetL_hd _ _ _, hv⟩
  · rw [sGetL_tl hij] at hu
    rcases hd j hij with h1 | ⟨h1, h2⟩
    · rw [sGetL_none j vs (fun q _ hq => h1 q hq)] at hu
      cases hu
    · rw [sGetL_filter j vs (fun q _ hq => h1 q hq)] at hu
      obtain ⟨x, h3, h4⟩ := h j u hu
      exact ⟨x, by rw [eGetL_tl hij]; exact eGetL_filter (h2 u x hu h4) h3, h4⟩
theorem sLs_st1 {ρ : List Int} {vs : List (Nat × sV)} {ws : List (Nat × Value)} (h : sLs ρ vs ws) {i : Nat} {v : sV} {w : Value} (hv : sVr ρ v w) : sLs ρ (sSt1 vs i v) (eSt1 ws i w) := by
  refine sLs_st h hv fun j hij => ?_
  have hji : (j == i) = false := by simpa using fun z : j = i => hij z.symm
  by_cases hw : (j + 1 == i && sWide vs j) = true
  · left
    intro q hq
    subst hq
    rw [hw]
    simp
  · right
    have hw := Bool.eq_false_iff.mpr hw
    refine ⟨fun q hq => by subst hq; rw [hji, hw]; rfl, fun u x hu hx => ?_⟩
    have e : sWide vs j = (sCat u == 2) := by simp [sWide, hu]
    simp only [hji, Bool.not_false, Bool.true_and]
    rw [sVr_cat hx, ← e, hw]
    rfl
theorem sLs_st2 {ρ : List Int} {vs : List (Nat × sV)} {ws : List (Nat × Value)} (h : sLs ρ vs ws) {i : Nat} {v : sV} {w : Value} (hv : sVr ρ v w) : sLs ρ (sSt2 vs i v) (eSt2 ws i w) := by
  refine sLs_st h hv fun j hij => ?_
  have hji : (j == i) = false := by simpa using fun z : j = i => hij z.symm
  by_cases hj1 : (j == i + 1) = true
  · left
    intro q hq
    subst hq
    simp [hj1]
  by_cases hw : (j + 1 == i && sWide vs j) = true
  · left
    intro q hq
    subst hq
    rw [hw]
    simp
  · right
    have hw := Bool.eq_false_iff.mpr hw
    have hj1 := Bool.eq_false_iff.mpr hj1
    refine ⟨fun q hq => by subst hq; rw [hji, hj1, hw]; rfl, fun u x hu hx => ?_⟩
    have e : sWide vs j = (sCat u == 2) := by simp [sWide, hu]
    simp only [hji, hj1, Bool.not_false, Bool.true_and]
    rw [sVr_cat hx, ← e, hw]
    rfl
def sArgs : Nat → List sV → List (Nat × sV)
  | _, [] => []
  | i, v :: vs => (i, v) :: sArgs (if sCat v = 2 then i + 2 else i + 1) vs
theorem sLs_args {ρ : List Int} : ∀ (i : Nat) {vs : List sV} {ws : List Value}, sVs ρ vs ws → sLs ρ (sArgs i vs) (lv_args i ws)
  | _, [], [], _ => fun j u hu => by cases hu
  | i, v :: vs, w :: ws, h => by
    simp only [lv_args, sArgs]
    rw [sVr_cat h.1]
    intro j u hu
    by_cases hij : i = j
    · subst hij
      rw [sGetL_hd] at hu
      cases hu
      exact ⟨w, eGetL_hd _ _ _, h.1⟩
    · rw [sGetL_tl hij] at hu
      rw [eGetL_tl hij]
      exact sLs_args _ h.2 j u hu
theorem sHp_len {ρ : List Int} : ∀ {xs : List sE} {ys : List eE}, sHp ρ xs ys → ys.length = xs.length
  | [], [], _ => rfl
  | _ :: _, _ :: _, q => congrArg Nat.succ (sHp_len q.2)
theorem sHp_get0 {ρ : List Int} : ∀ {xs : List sE} {ys : List eE}, sHp ρ xs ys → ∀ {k : Nat} {x : sE}, xs[k]? = some x → ∃ y, ys[k]? = some y ∧ (sIsA x = true ∨ sEr ρ x y)
  | [], [], _, k, v, h => by cases h
  | _ :: _, w :: _, q, 0, v, h => by
    cases h
    exact ⟨w, rfl, q.1⟩
  | _ :: _, _ :: _, q, k + 1, v, h => sHp_get0 q.2 (k := k) h
theorem sHp_get {ρ : List Int} {xs : List sE} {ys : List eE} (h : sHp ρ xs ys) {k : Nat} {x : sE} (hk : xs[k]? = some x) (hx : sIsA x = false := by rfl) : ∃ y, ys[k]? = some y ∧ sEr ρ x y := by
  obtain ⟨y, h1, h2⟩ := sHp_get0 h hk
  refine ⟨y, h1, h2.resolve_left fun h3 => ?_⟩
  rw [hx] at h3
  cases h3
theorem sSet_self {α : Type} : ∀ {l : List α} {k : Nat} {x : α}, l[k]? = some x → l.set k x = l
  | [], _, _, h => by cases h
  | _ :: _, 0, _, h => by cases h; rfl
  | y :: r, k + 1, x, h => congrArg (List.cons y) (sSet_self (l := r) (k := k) h)
theorem sIsA_ne {c : Nat} {fs : List sV} (h : c ≠ 999) : sIsA (.inr (c, fs)) = false := by simp [sIsA, h]
theorem sHp_set {ρ : List Int} {x : sE} {y : eE} (hv : sEr ρ x y) : ∀ {xs : List sE} {ys : List eE} (k : Nat), sHp ρ xs ys → sHp ρ (xs.set k x) (ys.set k y)
  | [], [], _, _ => trivial
  | _ :: _, _ :: _, 0, q => ⟨Or.inr hv, q.2⟩
  | _ :: _, _ :: _, k + 1, q => ⟨q.1, sHp_set hv k q.2⟩
theorem sHp_app {ρ : List Int} : ∀ {v1 : List sE} {w1 : List eE} {v2 : List sE} {w2 : List eE}, sHp ρ v1 w1 → sHp ρ v2 w2 → sHp ρ (v1 ++ v2) (w1 ++ w2)
  | [], [], _, _, _, h => h
  | _ :: _, _ :: _, _, _, q, h => ⟨q.1, sHp_app q.2 h⟩
theorem sRor_len {ρ : List Int} : ∀ {xs : List (Nat × List sL)} {ys : List (Nat × (Nat → Int32))}, sRor ρ xs ys → ys.length = xs.length
  | [], [], _ => rfl
  | _ :: _, _ :: _, q => congrArg Nat.succ (sRor_len q.2)
theorem sRor_get {ρ : List Int} : ∀ {xs : List (Nat × List sL)} {ys : List (Nat × (Nat → Int32))}, sRor ρ xs ys → ∀ {k : Nat} {x : Nat × List sL}, xs[k]? = some x → ∃ y, ys[k]? = some y ∧ (x.1 = 0 ∨ y.1 = x.1) ∧ ∀ i, i < x.1 → ∃ a z, x.2[i]? = some a ∧ sEv ρ a = some z ∧ y.2 i = Int32.ofInt z
  | [], [], _, k, v, h => by cases h
  | _ :: _, w :: _, q, 0, v, h => by
    cases h
    exact ⟨w, rfl, q.1.1, q.1.2⟩
  | _ :: _, _ :: _, q, k + 1, v, h => sRor_get q.2 (k := k) h
end
section
/-! S: one step of a symbolic state. -/
def sOK (ρ : List Int) (L : List sR) (o : Option eR) : Prop := ∃ S' ∈ L, ∃ ρ' R', ρ <+: ρ' ∧ sMo ρ' S'.2.2.2.2.2.2 ∧ o = some R' ∧ sD ρ' S' R'
theorem sOK.one {ρ ρ' : List Int} {S' : sR} {R' : eR} {o : Option eR} (h1 : ρ <+: ρ') (h2 : sMo ρ' S'.2.2.2.2.2.2) (h3 : o = some R') (h4 : sD ρ' S' R') : sOK ρ [S'] o := ⟨S', List.mem_singleton.mpr rfl, ρ', R', h1, h2, h3, h4⟩
/-- a place of an array: each number that it may be -/
def sIdx (Γ : sG) (x : sL) (n : Nat) : Option (List (Nat × sG)) := match sIv Γ.1 x with
  | none => none
  | some i => if i.1 = i.2 then (if 0 ≤ i.1 ∧ i.1 < n ∧ i.1 ≤ 2147483647 then some [(i.1.toNat, Γ)] else none)
    else if 0 ≤ i.1 ∧ i.2 < n ∧ i.2 ≤ 2147483647 then (match x with
      | (c, [(s, k)]) => if k = 1 then some ((List.range (i.2 - i.1 + 1).toNat).map fun j => (i.1.toNat + j, (Γ.1.set s (i.1 + j - c, i.1 + j - c), Γ.2))) else none
      | _ => none) else none
theorem sIdx_ok {ρ : List Int} {Γ : sG} {x : sL} {n : Nat} {z : Int} {l : List (Nat × sG)} (hM : sMo ρ Γ) (hx : sEv ρ x = some z) (h : sIdx Γ x n = some l) : ∃ q ∈ l, sMo ρ q.2 ∧ q.1 < n ∧ (Int32.ofInt z).toNatClampNeg = q.1 ∧ eIn (Int32.ofInt z) n = true := by
  have fin : ∀ k : Nat, (k : Int) = z → k < n → k ≤ 2147483647 → (Int32.ofInt z).toNatClampNeg = k ∧ eIn (Int32.ofInt z) n = true := by
    intro k hk hkn hk2
    subst hk
    have e1 : (Int32.ofInt (k : Int)) = nI k := by simp [nI, Int32.ofNat, Int32.ofInt]
    have e2 : (nI k).toNatClampNeg = k := nI_clamp (by omega)
    rw [e1]
    refine ⟨e2, ?_⟩
    simp only [eIn, e2, Bool.and_eq_true, Bool.not_eq_true', decide_eq_false_iff_not, decide_eq_true_eq]
    exact ⟨nI_pos (by omega), hkn⟩
  unfold sIdx at h
  split at h
  · cases h
  · rename_i i hi
    have hb := sIv_ok hM.1 hx hi
    split at h
    · rename_i he
      split at h
      · rename_i hc
        cases h
        have hz : z = i.1 := by omega
        refine ⟨_, List.mem_singleton.mpr rfl, hM, by simp only; omega, ?_⟩
        exact fin i.1.toNat (by omega) (by omega) (by omega)
      · cases h
    split at h
    · rename_i hc
      split at h
      · rename_i c s k
        split at h
        · rename_i hk
          subst hk
          cases h
          refine ⟨_, List.mem_map.mpr ⟨(z - i.1).toNat, List.mem_range.mpr (by omega), rfl⟩, sMo_set hM fun w hw => ?_, by simp only; omega, ?_⟩
          · simp only [sEv, sEvT, hw, Option.map_some, Option.some.injEq] at hx
            simp only
            omega
          · exact fin _ (by omega) (by omega) (by omega)
        · cases h
      · cases h
    · cases h
section SSTEP
variable (SO : List (Nat × List sL)) (CL : List vw_C) (CT : Nat → Nat → FieldType)
def s3 (nx a b : Nat) : sR → Option (List sR)
  | (_, ls, st, G, c, s, Γ) => match sGetL ls a with
    | some v => if v.1 = b % 3 then some [(nx, ls, v :: st, G, c, s, Γ)] else none
    | none => none
def s4 (mL nx a b : Nat) : sR → Option (List sR)
  | (_, ls, v :: st, G, c, s, Γ) => if v.1 = b % 3 then (if b % 3 = 1 then (if a + 1 < mL then some [(nx, sSt2 ls a v, st, G, c, s, Γ)] else none) else (if a < mL then some [(nx, sSt1 ls a v, st, G, c, s, Γ)] else none)) else none
  | _ => none
def s5 (mL nx a : Nat) (z : Int) : sR → Option (List sR)
  | (_, ls, st, G, c, s, Γ) => match sGetL ls a with
    | some v => if v.1 = 0 ∧ a < mL then some [(nx, sSt1 ls a (0, sAdd v.2 (sC z)), st, G, c, s, Γ)] else none
    | none => none
def s6 (nx b : Nat) : sR → Option (List sR)
  | (_, ls, (0, y) :: (0, x) :: st, G, c, s, Γ) => (sBin Γ b x y).map fun r => [(nx, ls, (0, r.1) :: st, G, c, s, r.2)]
  | _ => none
def sLin (Γ : sG) (b : Nat) (x y : sL) : Option (sL × sG) :=
  if b = 0 then some (sAdd x y, Γ) else if b = 1 then some (sSub x y, Γ)
  else if b = 2 then (match sK Γ.1 y with
    | some k => some (sMul k x, Γ)
    | none => match sK Γ.1 x with
      | some k => some (sMul k y, Γ)
      | none => none)
  else if b < 6 then some (sNew Γ (100 + b) x y (-9223372036854775808) 9223372036854775807) else none
def s7 (nx b : Nat) : sR → Option (List sR)
  | (_, ls, (1, y) :: (1, x) :: st, G, c, s, Γ) => (sLin Γ b x y).map fun r => [(nx, ls, (1, r.1) :: st, G, c, s, r.2)]
  | _ => none
def s8 (nx b : Nat) : sR → Option (List sR)
  | (_, ls, (0, x) :: st, G, c, s, Γ) => if b = 0 then some [(nx, ls, (0, sNeg x) :: st, G, c, s, Γ)]
    else if b = 1 then (match sNew Γ 301 x (sC 0) (-128) 127 with
      | r => some [(nx, ls, (0, r.1) :: st, G, c, s, r.2)])
    else if b = 2 then (match sNew Γ 302 x (sC 0) (-32768) 32767 with
      | r => some [(nx, ls, (0, r.1) :: st, G, c, s, r.2)])
    else if b = 3 ∧ sI32 Γ.1 x = true then some [(nx, ls, (1, x) :: st, G, c, s, Γ)] else none
  | (_, ls, (1, x) :: st, G, c, s, Γ) => if b = 4 then some [(nx, ls, (0, x) :: st, G, c, s, Γ)] else none
  | _ => none
def sOpt (o : Option sG) (f : sG → sR) : List sR := match o with
  | some Γ => [f Γ]
  | none => []
def s9 (nx : Nat) : sR → Option (List sR)
  | (_, ls, (1, y) :: (1, x) :: st, G, c, s, Γ) => if sI64 Γ.1 x = true ∧ sI64 Γ.1 y = true then
      some (sOpt (sAsm Γ (sSub (sSub x y) (sC 1))) (fun Γ' => (nx, ls, (0, sC 1) :: st, G, c, s, Γ')) ++ (sOpt (sAsE Γ (sSub x y)) (fun Γ' => (nx, ls, (0, sC 0) :: st, G, c, s, Γ')) ++ sOpt (sAsm Γ (sSub (sC (-1)) (sSub x y))) (fun Γ' => (nx, ls, (0, sC (-1)) :: st, G, c, s, Γ')))) else none
  | _ => none
def s10 (nx : Nat) : sR → Option (List sR)
  | (_, ls, (0, y) :: (1, x) :: st, G, c, s, Γ) => match sNew Γ 200 x y (-9223372036854775808) 9223372036854775807 with
    | r => some [(nx, ls, (1, r.1) :: st, G, c, s, r.2)]
  | _ => none
def s12 (nx a b : Nat) : sR → Option (List sR)
  | (_, ls, (0, x) :: st, G, c, s, Γ) => if sI32 Γ.1 x = true then some (sOpt (sCnd b Γ (sSub x (sC 0))).1 (fun Γ' => (a, ls, st, G, c, s, Γ')) ++ sOpt (sCnd b Γ (sSub x (sC 0))).2 (fun Γ' => (nx, ls, st, G, c, s, Γ'))) else none
  | _ => none
def s13 (nx a b : Nat) : sR → Option (List sR)
  | (_, ls, (0, y) :: (0, x) :: st, G, c, s, Γ) => if sI32 Γ.1 x = true ∧ sI32 Γ.1 y = true then some (sOpt (sCnd b Γ (sSub x y)).1 (fun Γ' => (a, ls, st, G, c, s, Γ')) ++ sOpt (sCnd b Γ (sSub x y)).2 (fun Γ' => (nx, ls, st, G, c, s, Γ'))) else none
  | _ => none
def sDft (x : sL) : List (Int × Nat) → sG → Option sG
  | [], Γ => some Γ
  | q :: r, Γ => match sAsN Γ (sSub x (sC q.1)) with
    | none => none
    | some Γ' => sDft x r Γ'
def s15 (a : Nat) (sw : List (Int × Nat)) : sR → Option (List sR)
  | (_, ls, (0, x) :: st, G, c, s, Γ) => if sI32 Γ.1 x = true then (match sK Γ.1 x with
      | some k => some [(eSw sw a k, ls, st, G, c, s, Γ)]
      | none => some (sOpt (sDft x sw Γ) (fun Γ' => (a, ls, st, G, c, s, Γ')) ++ sw.flatMap fun q => sOpt (sAsE Γ (sSub x (sC q.1))) (fun Γ' => (q.2, ls, st, G, c, s, Γ')))) else none
  | _ => none
def s16 (nx b k : Nat) : sR → Option (List sR)
  | (_, ls, (2, q) :: st, G, c, s, Γ) => if q.1.toNat < SO.length then none else match G[q.1.toNat - SO.length]? with
    | some (.inr (ci, fs)) => if ci = b ∧ ci ≠ 999 then (fs[k]?).map fun v => if v.1 = 4 then v.2.2.map fun r => (nx, ls, (2, sC r.1) :: st, G.set (q.1.toNat - SO.length) (.inr (ci, fs.set k (2, sC r.1))), c, s, Γ) else [(nx, ls, v :: st, G, c, s, Γ)] else none
    | _ => none
  | _ => none
def sFit (B : List (Int × Int)) (ty : FieldType) (v : sV) : Bool := match ty with
  | .object _ => decide (v.1 = 2)
  | .array _ => decide (v.1 = 2)
  | .int => decide (v.1 = 0)
  | .boolean => decide (v.1 = 0) && sWi B v.2 0 1
  | .long => decide (v.1 = 1)
  | _ => false
def s17 (nx b k : Nat) : sR → Option (List sR)
  | (_, ls, v :: (2, q) :: st, G, c, s, Γ) => if q.1.toNat < SO.length then none else match G[q.1.toNat - SO.length]? with
    | some (.inr (ci, fs)) => if (ci = b ∧ ci ≠ 999) ∧ k < fs.length ∧ sFit Γ.1 (CT b k) v = true then some [(nx, ls, st, G.set (q.1.toNat - SO.length) (.inr (ci, fs.set k v)), c, s, Γ)] else none
    | _ => none
  | _ => none
def s18 (nx b : Nat) : sR → Option (List sR)
  | (_, ls, st, G, c, s, Γ) => some [(nx, ls, (2, sC b) :: st, G, c, s, Γ)]
end SSTEP
section SPROOF
variable {ρ : List Int} {S : sR} {R : eR} {L : List sR} {SO : List (Nat × List sL)} {RO : List (Nat × (Nat → Int32))} {CL : List vw_C} {CT : Nat → Nat → FieldType} {nx a b mL : Nat}
theorem t3 (hM : sMo ρ S.2.2.2.2.2.2) (hD : sD ρ S R) (h : s3 nx a b S = some L) : sOK ρ L (e3 nx a b R) := by
  obtain ⟨pc, ls, st, G, c, s, Γ⟩ := S
  obtain ⟨pc', ls', st', G', c', s'⟩ := R
  obtain ⟨h1, hL, hV, hH, h2, h3⟩ := hD
  simp only at h1 hL hV hH h2 h3 hM
  subst h1; subst h2; subst h3
  simp only [s3] at h
  split at h
  · rename_i v hv
    split at h
    · rename_i ht
      cases h
      obtain ⟨w, hw, hvw⟩ := sLs_get hL hv
      refine sOK.one (List.prefix_refl _) hM (R' := (nx, ls', w :: st', G', c', s')) ?_ ⟨rfl, hL, ⟨hvw, hV⟩, hH, rfl, rfl⟩
      simp only [e3, hw]
      rw [if_pos (sVr_tag hvw ht (by omega))]
    · cases h
  · cases h
theorem t4 (hM : sMo ρ S.2.2.2.2.2.2) (hD : sD ρ S R) (h : s4 mL nx a b S = some L) : sOK ρ L (e4 mL nx a b R) := by
  obtain ⟨pc, ls, st, G, c, s, Γ⟩ := S
  obtain ⟨pc', ls', st', G', c', s'⟩ := R
  obtain ⟨h1, hL, hV, hH, h2, h3⟩ := hD
  simp only at h1 hL hV hH h2 h3 hM
  subst h1; subst h2; subst h3
  unfold s4 at h
  split at h
  · rename_i heq
    cases heq
    obtain ⟨w, r, rfl, hvw, hV1⟩ := sVs_cons hV
    split at h
    · rename_i ht
      have htw := sVr_tag hvw ht (by omega)
      split at h
      · rename_i hb1
        split at h
        · rename_i ha
          cases h
          refine sOK.one (List.prefix_refl _) hM (R' := (nx, eSt2 ls' a w, r, G', c', s')) ?_ ⟨rfl, sLs_st2 hL hvw, hV1, hH, rfl, rfl⟩
          simp only [e4]
          rw [if_pos htw, if_pos hb1, if_pos ha]
        · cases h
      · rename_i hb1
        split at h
        · rename_i ha
          cases h
          refine sOK.one (List.prefix_refl _) hM (R' := (nx, eSt1 ls' a w, r, G', c', s')) ?_ ⟨rfl, sLs_st1 hL hvw, hV1, hH, rfl, rfl⟩
          simp only [e4]
          rw [if_pos htw, if_neg hb1, if_pos ha]
        · cases h
    · cases h
  · cases h
theorem t5 {z : Int} (hM : sMo ρ S.2.2.2.2.2.2) (hD : sD ρ S R) (h : s5 mL nx a z S = some L) : sOK ρ L (e5 mL nx a z R) := by
  obtain ⟨pc, ls, st, G, c, s, Γ⟩ := S
  obtain ⟨pc', ls', st', G', c', s'⟩ := R
  obtain ⟨h1, hL, hV, hH, h2, h3⟩ := hD
  simp only at h1 hL hV hH h2 h3 hM
  subst h1; subst h2; subst h3
  simp only [s5] at h
  split at h
  · rename_i v hv
    split at h
    · rename_i hc
      cases h
      obtain ⟨w, hw, hvw⟩ := sLs_get hL hv
      obtain ⟨t, x⟩ := v
      obtain ⟨ht, ha⟩ := hc
      simp only at ht
      subst ht
      obtain ⟨zx, hx, rfl⟩ := sVr_int hvw
      refine sOK.one (List.prefix_refl _) hM (R' := (nx, eSt1 ls' a (.int (Int32.ofInt zx + Int32.ofInt z)), st', G', c', s')) ?_ ⟨rfl, sLs_st1 hL ⟨zx + z, sEv_add hx (sEv_C z), by rw [Int32.ofInt_add]⟩, hV, hH, rfl, rfl⟩
      simp only [e5, hw]
      rw [if_pos ha]
    · cases h
  · cases h
theorem t6 (hM : sMo ρ S.2.2.2.2.2.2) (hD : sD ρ S R) (h : s6 nx b S = some L) : sOK ρ L (e6 nx b R) := by
  obtain ⟨pc, ls, st, G, c, s, Γ⟩ := S
  obtain ⟨pc', ls', st', G', c', s'⟩ := R
  obtain ⟨h1, hL, hV, hH, h2, h3⟩ := hD
  simp only at h1 hL hV hH h2 h3 hM
  subst h1; subst h2; subst h3
  unfold s6 at h
  split at h
  · rename_i heq
    cases heq
    obtain ⟨r, hr, rfl⟩ := Option.map_eq_some_iff.mp h
    obtain ⟨zy, r1, rfl, hy, hV1⟩ := sVs_int hV
    obtain ⟨zx, r2, rfl, hx, hV2⟩ := sVs_int hV1
    obtain ⟨ρ', z, p1, p2, p3, p4⟩ := sBin_ok hM hx hy hr
    refine sOK.one p1 p2 (R' := (nx, ls', .int (Int32.ofInt z) :: r2, G', c', s')) ?_ ⟨rfl, hL.mono p1, ⟨⟨z, p3, rfl⟩, hV2.mono p1⟩, hH.mono p1, rfl, rfl⟩
    simp only [e6, p4, Option.map_some]
  · cases h
theorem sRng64 (x : Int64) : -9223372036854775808 ≤ x.toInt ∧ x.toInt ≤ 9223372036854775807 := by
  have h1 := x.le_toInt
  have h2 := x.toInt_lt
  omega
theorem sLin_ok {Γ : sG} {x y : sL} {zx zy : Int} {r : sL × sG} (hM : sMo ρ Γ) (hx : sEv ρ x = some zx) (hy : sEv ρ y = some zy) (h : sLin Γ b x y = some r) :
    ∃ ρ' z, ρ <+: ρ' ∧ sMo ρ' r.2 ∧ sEv ρ' r.1 = some z ∧ eLin b (Int64.ofInt zx) (Int64.ofInt zy) = some (Int64.ofInt z) := by
  unfold sLin at h
  by_cases b0 : b = 0
  · rw [if_pos b0] at h; cases h
    refine ⟨ρ, _, List.prefix_refl _, hM, sEv_add hx hy, ?_⟩
    unfold eLin; rw [if_pos b0, Int64.ofInt_add]
  rw [if_neg b0] at h
  by_cases b1 : b = 1
  · rw [if_pos b1] at h; cases h
    refine ⟨ρ, _, List.prefix_refl _, hM, sEv_sub hx hy, ?_⟩
    unfold eLin; rw [if_neg b0, if_pos b1, Int64.ofInt_sub]
  rw [if_neg b1] at h
  by_cases b2 : b = 2
  · rw [if_pos b2] at h
    split at h
    · rename_i k hk
      cases h
      have e := sK_ok hM.1 hy hk
      subst e
      refine ⟨ρ, _, List.prefix_refl _, hM, sEv_mul zy hx, ?_⟩
      unfold eLin; rw [if_neg b0, if_neg b1, if_pos b2, Int.mul_comm, Int64.ofInt_mul]
    · split at h
      · rename_i k hk
        cases h
        have e := sK_ok hM.1 hx hk
        subst e
        refine ⟨ρ, _, List.prefix_refl _, hM, sEv_mul zx hy, ?_⟩
        unfold eLin; rw [if_neg b0, if_neg b1, if_pos b2, Int64.ofInt_mul]
      · cases h
  rw [if_neg b2] at h
  split at h
  · rename_i hb
    cases h
    have htot : ∃ v, eLin b (Int64.ofInt zx) (Int64.ofInt zy) = some v := by
      unfold eLin
      rw [if_neg b0, if_neg b1, if_neg b2]
      by_cases b3 : b = 3
      · exact ⟨_, if_pos b3⟩
      rw [if_neg b3]
      by_cases b4 : b = 4
      · exact ⟨_, if_pos b4⟩
      rw [if_neg b4]
      by_cases b5 : b = 5
      · exact ⟨_, if_pos b5⟩
      omega
    obtain ⟨v, hv⟩ := htot
    have e : sOp (100 + b) zx zy = v.toInt := by
      unfold sOp
      rw [if_neg (by omega), if_pos (by omega), Nat.add_sub_cancel_left, hv]
    have q := sRng64 v
    obtain ⟨ρ', p1, p2, p3⟩ := sNew_ok (op := 100 + b) (lo := -9223372036854775808) (hi := 9223372036854775807) hM hx hy (by rw [e]; exact q.1) (by rw [e]; exact q.2)
    exact ⟨ρ', _, p1, p2, p3, by rw [hv, e, Int64.ofInt_toInt]⟩
  · cases h
theorem t7 (hM : sMo ρ S.2.2.2.2.2.2) (hD : sD ρ S R) (h : s7 nx b S = some L) : sOK ρ L (e7 nx b R) := by
  obtain ⟨pc, ls, st, G, c, s, Γ⟩ := S
  obtain ⟨pc', ls', st', G', c', s'⟩ := R
  obtain ⟨h1, hL, hV, hH, h2, h3⟩ := hD
  simp only at h1 hL hV hH h2 h3 hM
  subst h1; subst h2; subst h3
  unfold s7 at h
  split at h
  · rename_i heq
    cases heq
    obtain ⟨r, hr, rfl⟩ := Option.map_eq_some_iff.mp h
    obtain ⟨zy, r1, rfl, hy, hV1⟩ := sVs_long hV
    obtain ⟨zx, r2, rfl, hx, hV2⟩ := sVs_long hV1
    obtain ⟨ρ', z, p1, p2, p3, p4⟩ := sLin_ok hM hx hy hr
    refine sOK.one p1 p2 (R' := (nx, ls', .long (Int64.ofInt z) :: r2, G', c', s')) ?_ ⟨rfl, hL.mono p1, ⟨⟨z, p3, rfl⟩, hV2.mono p1⟩, hH.mono p1, rfl, rfl⟩
    simp only [e7, p4, Option.map_some]
  · cases h
theorem sI2L {z : Int} (h1 : -2147483648 ≤ z) (h2 : z ≤ 2147483647) : (Int32.ofInt z).toInt64 = Int64.ofInt z := by
  apply Int64.toInt_inj.mp
  rw [Int32.toInt_toInt64, sTo32 h1 h2, sTo64 (by omega) (by omega)]
theorem sByte (x : Int32) : -128 ≤ x.toInt8.toInt32.toInt ∧ x.toInt8.toInt32.toInt ≤ 127 := by
  rw [Int8.toInt_toInt32]
  have h1 := x.toInt8.le_toInt
  have h2 := x.toInt8.toInt_lt
  omega
theorem sShort (x : Int32) : -32768 ≤ x.toInt16.toInt32.toInt ∧ x.toInt16.toInt32.toInt ≤ 32767 := by
  rw [Int16.toInt_toInt32]
  have h1 := x.toInt16.le_toInt
  have h2 := x.toInt16.toInt_lt
  omega
theorem t8 (hM : sMo ρ S.2.2.2.2.2.2) (hD : sD ρ S R) (h : s8 nx b S = some L) : sOK ρ L (e8 nx b R) := by
  obtain ⟨pc, ls, st, G, c, s, Γ⟩ := S
  obtain ⟨pc', ls', st', G', c', s'⟩ := R
  obtain ⟨h1, hL, hV, hH, h2, h3⟩ := hD
  simp only at h1 hL hV hH h2 h3 hM
  subst h1; subst h2; subst h3
  unfold s8 at h
  split at h
  · rename_i heq
    cases heq
    obtain ⟨zx, r1, rfl, hx, hV1⟩ := sVs_int hV
    by_cases b0 : b = 0
    · rw [if_pos b0] at h; cases h
      subst b0
      refine sOK.one (List.prefix_refl _) hM (R' := (nx, ls', .int (-Int32.ofInt zx) :: r1, G', c', s')) rfl ⟨rfl, hL, ⟨⟨-zx, sEv_neg hx, by rw [Int32.ofInt_neg]⟩, hV1⟩, hH, rfl, rfl⟩
    rw [if_neg b0] at h
    by_cases b1 : b = 1
    · rw [if_pos b1] at h; cases h
      subst b1
      have e : sOp 301 zx 0 = (Int32.ofInt zx).toInt8.toInt32.toInt := rfl
      have q := sByte (Int32.ofInt zx)
      obtain ⟨ρ', p1, p2, p3⟩ := sNew_ok (op := 301) (lo := -128) (hi := 127) hM hx (sEv_C (ρ := ρ) 0) (by rw [e]; exact q.1) (by rw [e]; exact q.2)
      exact sOK.one p1 p2 (R' := (nx, ls', .int (Int32.ofInt zx).toInt8.toInt32 :: r1, G', c', s')) rfl ⟨rfl, hL.mono p1, ⟨⟨_, p3, by rw [e, Int32.ofInt_toInt]⟩, hV1.mono p1⟩, hH.mono p1, rfl, rfl⟩
    rw [if_neg b1] at h
    by_cases b2 : b = 2
    · rw [if_pos b2] at h; cases h
      subst b2
      have e : sOp 302 zx 0 = (Int32.ofInt zx).toInt16.toInt32.toInt := rfl
      have q := sShort (Int32.ofInt zx)
      obtain ⟨ρ', p1, p2, p3⟩ := sNew_ok (op := 302) (lo := -32768) (hi := 32767) hM hx (sEv_C (ρ := ρ) 0) (by rw [e]; exact q.1) (by rw [e]; exact q.2)
      exact sOK.one p1 p2 (R' := (nx, ls', .int (Int32.ofInt zx).toInt16.toInt32 :: r1, G', c', s')) rfl ⟨rfl, hL.mono p1, ⟨⟨_, p3, by rw [e, Int32.ofInt_toInt]⟩, hV1.mono p1⟩, hH.mono p1, rfl, rfl⟩
    rw [if_neg b2] at h
    split at h
    · rename_i hc
      obtain ⟨rfl, hc⟩ := hc
      cases h
      have q := sWi_ok hM.1 hx hc
      refine sOK.one (List.prefix_refl _) hM (R' := (nx, ls', .long (Int32.ofInt zx).toInt64 :: r1, G', c', s')) rfl ⟨rfl, hL, ⟨⟨zx, hx, by rw [sI2L q.1 q.2]⟩, hV1⟩, hH, rfl, rfl⟩
    · cases h
  · rename_i heq
    cases heq
    obtain ⟨zx, r1, rfl, hx, hV1⟩ := sVs_long hV
    split at h
    · rename_i b4
      cases h
      subst b4
      refine sOK.one (List.prefix_refl _) hM (R' := (nx, ls', .int (Int64.ofInt zx).toInt32 :: r1, G', c', s')) rfl ⟨rfl, hL, ⟨⟨zx, hx, by rw [Int64.toInt32_ofInt]⟩, hV1⟩, hH, rfl, rfl⟩
    · cases h
  · cases h
end SPROOF
end
section
/-! S: compares, jumps, fields. -/
section SPROOF2
variable {ρ : List Int} {S : sR} {R : eR} {L : List sR} {SO : List (Nat × List sL)} {RO : List (Nat × (Nat → Int32))} {CL : List vw_C} {CT : Nat → Nat → FieldType} {nx a b mL : Nat}
theorem sOpt_in {o : Option sG} {f : sG → sR} {Γ : sG} (h : o = some Γ) : f Γ ∈ sOpt o f := by
  subst h
  exact List.mem_singleton.mpr rfl
theorem sGt64 {x y : Int} (hx : -9223372036854775808 ≤ x ∧ x ≤ 9223372036854775807) (hy : -9223372036854775808 ≤ y ∧ y ≤ 9223372036854775807) : (y < x → lg_cmp (Int64.ofInt x) (Int64.ofInt y) = 1) ∧ (x = y → lg_cmp (Int64.ofInt x) (Int64.ofInt y) = 0) ∧ (x < y → lg_cmp (Int64.ofInt x) (Int64.ofInt y) = -1) := by
  have t1 := sTo64 hx.1 hx.2
  have t2 := sTo64 hy.1 hy.2
  have eGt : Int64.ofInt x > Int64.ofInt y ↔ y < x := by rw [gt_iff_lt, Int64.lt_iff_toInt_lt, t1, t2]
  have eEq : Int64.ofInt x = Int64.ofInt y ↔ x = y := by rw [← Int64.toInt_inj, t1, t2]
  unfold lg_cmp
  refine ⟨fun h => if_pos (eGt.mpr h), fun h => ?_, fun h => ?_⟩
  · rw [if_neg (fun q => by have := eGt.mp q; omega), if_pos (eEq.mpr h)]
  · rw [if_neg (fun q => by have := eGt.mp q; omega), if_neg (fun q => by have := eEq.mp q; omega)]
theorem t9 (hM : sMo ρ S.2.2.2.2.2.2) (hD : sD ρ S R) (h : s9 nx S = some L) : sOK ρ L (e9 nx R) := by
  obtain ⟨pc, ls, st, G, c, s, Γ⟩ := S
  obtain ⟨pc', ls', st', G', c', s'⟩ := R
  obtain ⟨h1, hL, hV, hH, h2, h3⟩ := hD
  simp only at h1 hL hV hH h2 h3 hM
  subst h1; subst h2; subst h3
  unfold s9 at h
  split at h
  · rename_i heq
    cases heq
    obtain ⟨zy, r1, rfl, hy, hV1⟩ := sVs_long hV
    obtain ⟨zx, r2, rfl, hx, hV2⟩ := sVs_long hV1
    split at h
    · rename_i hc
      cases h
      have qx := sWi_ok hM.1 hx hc.1
      have qy := sWi_ok hM.1 hy hc.2
      have ht := sEv_sub hx hy
      obtain ⟨c1, c2, c3⟩ := sGt64 qx qy
      have fin : ∀ (z : Int) (Γ' : sG), sMo ρ Γ' → Int32.ofInt z = lg_cmp (Int64.ofInt zx) (Int64.ofInt zy) → sD ρ (nx, ls, (0, sC z) :: _, G, c', s', Γ') (nx, ls', .int (lg_cmp (Int64.ofInt zx) (Int64.ofInt zy)) :: r2, G', c', s') := fun z Γ' _ hz => ⟨rfl, hL, ⟨⟨z, sEv_C z, by rw [hz]⟩, hV2⟩, hH, rfl, rfl⟩
      rcases Int.lt_trichotomy zx zy with h9 | h9 | h9
      · obtain ⟨Γ', e, m⟩ := sAsm_ok hM (sEv_sub (sEv_C (ρ := ρ) (-1)) ht) (by omega)
        exact ⟨_, List.mem_append_right _ (List.mem_append_right _ (sOpt_in e)), ρ, _, List.prefix_refl _, m, rfl, fin (-1) Γ' m (by rw [c3 h9]; rfl)⟩
      · obtain ⟨Γ', e, m⟩ := sAsE_ok (t := sSub _ _) hM (by rw [ht]; congr 1; omega)
        exact ⟨_, List.mem_append_right _ (List.mem_append_left _ (sOpt_in e)), ρ, _, List.prefix_refl _, m, rfl, fin 0 Γ' m (by rw [c2 h9]; rfl)⟩
      · obtain ⟨Γ', e, m⟩ := sAsm_ok hM (sEv_sub ht (sEv_C (ρ := ρ) 1)) (by omega)
        exact ⟨_, List.mem_append_left _ (sOpt_in e), ρ, _, List.prefix_refl _, m, rfl, fin 1 Γ' m (by rw [c1 h9]; rfl)⟩
    · cases h
  · cases h
theorem t10 (hM : sMo ρ S.2.2.2.2.2.2) (hD : sD ρ S R) (h : s10 nx S = some L) : sOK ρ L (e10 nx R) := by
  obtain ⟨pc, ls, st, G, c, s, Γ⟩ := S
  obtain ⟨pc', ls', st', G', c', s'⟩ := R
  obtain ⟨h1, hL, hV, hH, h2, h3⟩ := hD
  simp only at h1 hL hV hH h2 h3 hM
  subst h1; subst h2; subst h3
  unfold s10 at h
  split at h
  · rename_i heq
    cases heq
    obtain ⟨zy, r1, rfl, hy, hV1⟩ := sVs_int hV
    obtain ⟨zx, r2, rfl, hx, hV2⟩ := sVs_long hV1
    cases h
    have e : sOp 200 zx zy = (Int64.ofInt zx <<< ((Int32.ofInt zy).toInt64 &&& 63)).toInt := rfl
    have q := sRng64 (Int64.ofInt zx <<< ((Int32.ofInt zy).toInt64 &&& 63))
    obtain ⟨ρ', p1, p2, p3⟩ := sNew_ok (op := 200) (lo := -9223372036854775808) (hi := 9223372036854775807) hM hx hy (by rw [e]; exact q.1) (by rw [e]; exact q.2)
    refine sOK.one p1 p2 (R' := (nx, ls', .long (Int64.ofInt zx <<< ((Int32.ofInt zy).toInt64 &&& 63)) :: r2, G', c', s')) rfl ⟨rfl, hL.mono p1, ⟨⟨_, p3, by rw [e, Int64.ofInt_toInt]⟩, hV2.mono p1⟩, hH.mono p1, rfl, rfl⟩
  · cases h
theorem t12 (hM : sMo ρ S.2.2.2.2.2.2) (hD : sD ρ S R) (h : s12 nx a b S = some L) : sOK ρ L (e12 nx a b R) := by
  obtain ⟨pc, ls, st, G, c, s, Γ⟩ := S
  obtain ⟨pc', ls', st', G', c', s'⟩ := R
  obtain ⟨h1, hL, hV, hH, h2, h3⟩ := hD
  simp only at h1 hL hV hH h2 h3 hM
  subst h1; subst h2; subst h3
  unfold s12 at h
  split at h
  · rename_i heq
    cases heq
    obtain ⟨zx, r1, rfl, hx, hV1⟩ := sVs_int hV
    split at h
    · rename_i hc
      cases h
      have h0 : Int32.ofInt 0 = 0 := rfl
      rcases sCnd_ok b hM hx (sEv_C (ρ := ρ) 0) hc (by simp [sI32, sWi, sIv, sIvT, sC]) with ⟨e1, Γ', e2, m⟩ | ⟨e1, Γ', e2, m⟩
      · rw [h0] at e1
        exact ⟨_, List.mem_append_left _ (sOpt_in e2), ρ, (a, ls', r1, G', c', s'), List.prefix_refl _, m, by simp only [e12]; rw [if_pos e1], rfl, hL, hV1, hH, rfl, rfl⟩
      · rw [h0] at e1
        exact ⟨_, List.mem_append_right _ (sOpt_in e2), ρ, (nx, ls', r1, G', c', s'), List.prefix_refl _, m, by simp only [e12]; rw [if_neg e1], rfl, hL, hV1, hH, rfl, rfl⟩
    · cases h
  · cases h
theorem t13 (hM : sMo ρ S.2.2.2.2.2.2) (hD : sD ρ S R) (h : s13 nx a b S = some L) : sOK ρ L (e13 nx a b R) := by
  obtain ⟨pc, ls, st, G, c, s, Γ⟩ := S
  obtain ⟨pc', ls', st', G', c', s'⟩ := R
  obtain ⟨h1, hL, hV, hH, h2, h3⟩ := hD
  simp only at h1 hL hV hH h2 h3 hM
  subst h1; subst h2; subst h3
  unfold s13 at h
  split at h
  · rename_i heq
    cases heq
    obtain ⟨zy, r1, rfl, hy, hV1⟩ := sVs_int hV
    obtain ⟨zx, r2, rfl, hx, hV2⟩ := sVs_int hV1
    split at h
    · rename_i hc
      cases h
      rcases sCnd_ok b hM hx hy hc.1 hc.2 with ⟨e1, Γ', e2, m⟩ | ⟨e1, Γ', e2, m⟩
      · exact ⟨_, List.mem_append_left _ (sOpt_in e2), ρ, (a, ls', r2, G', c', s'), List.prefix_refl _, m, by simp only [e13]; rw [if_pos e1], rfl, hL, hV2, hH, rfl, rfl⟩
      · exact ⟨_, List.mem_append_right _ (sOpt_in e2), ρ, (nx, ls', r2, G', c', s'), List.prefix_refl _, m, by simp only [e13]; rw [if_neg e1], rfl, hL, hV2, hH, rfl, rfl⟩
    · cases h
  · cases h
theorem eSw_cases (d : Nat) (x : Int) : ∀ sw : List (Int × Nat), ((∀ q ∈ sw, q.1 ≠ x) ∧ eSw sw d x = d) ∨ ∃ q ∈ sw, q.1 = x ∧ eSw sw d x = q.2
  | [] => Or.inl ⟨fun q hq => (by cases hq), rfl⟩
  | q :: r => by
    by_cases h : q.1 = x
    · exact Or.inr ⟨q, List.mem_cons_self, h, by simp only [eSw, if_pos h]⟩
    · simp only [eSw, if_neg h]
      rcases eSw_cases d x r with ⟨h0, h1⟩ | ⟨q', h1, h2, h3⟩
      · refine Or.inl ⟨fun q' hq' => ?_, h1⟩
        rcases List.mem_cons.mp hq' with rfl | hq'
        · exact h
        · exact h0 q' hq'
      · exact Or.inr ⟨q', List.mem_cons_of_mem _ h1, h2, h3⟩
theorem sDft_ok {x : sL} {z : Int} (hx : sEv ρ x = some z) : ∀ (sw : List (Int × Nat)) (Γ : sG), sMo ρ Γ → (∀ q ∈ sw, q.1 ≠ z) → ∃ Γ', sDft x sw Γ = some Γ' ∧ sMo ρ Γ'
  | [], Γ, hM, _ => ⟨Γ, rfl, hM⟩
  | q :: r, Γ, hM, h => by
    have h1 := h q List.mem_cons_self
    obtain ⟨Γ1, e1, m1⟩ := sAsN_ok hM (sEv_sub hx (sEv_C (ρ := ρ) q.1)) (by omega)
    obtain ⟨Γ2, e2, m2⟩ := sDft_ok hx r Γ1 m1 (fun q' hq' => h q' (List.mem_cons_of_mem _ hq'))
    exact ⟨Γ2, by simp only [sDft, e1, e2], m2⟩
theorem t15 {sw : List (Int × Nat)} (hM : sMo ρ S.2.2.2.2.2.2) (hD : sD ρ S R) (h : s15 a sw S = some L) : sOK ρ L (e15 a sw R) := by
  obtain ⟨pc, ls, st, G, c, s, Γ⟩ := S
  obtain ⟨pc', ls', st', G', c', s'⟩ := R
  obtain ⟨h1, hL, hV, hH, h2, h3⟩ := hD
  simp only at h1 hL hV hH h2 h3 hM
  subst h1; subst h2; subst h3
  unfold s15 at h
  split at h
  · rename_i heq
    cases heq
    obtain ⟨zx, r1, rfl, hx, hV1⟩ := sVs_int hV
    split at h
    · rename_i hc
      have q := sWi_ok hM.1 hx hc
      have hto := sTo32 q.1 q.2
      split at h
      · rename_i k hk
        cases h
        have e := sK_ok hM.1 hx hk
        subst e
        exact sOK.one (List.prefix_refl _) hM (R' := (eSw sw a zx, ls', r1, G', c', s')) (by simp only [e15, hto]) ⟨rfl, hL, hV1, hH, rfl, rfl⟩
      · cases h
        rcases eSw_cases a zx sw with ⟨h8, h9⟩ | ⟨q9, hq, h8, h9⟩
        · obtain ⟨Γ', e, m⟩ := sDft_ok hx sw Γ hM h8
          exact ⟨_, List.mem_append_left _ (sOpt_in e), ρ, (a, ls', r1, G', c', s'), List.prefix_refl _, m, by simp only [e15, hto, h9], rfl, hL, hV1, hH, rfl, rfl⟩
        · obtain ⟨Γ', e, m⟩ := sAsE_ok (t := sSub _ (sC q9.1)) hM (by rw [sEv_sub hx (sEv_C q9.1)]; congr 1; omega)
          exact ⟨_, List.mem_append_right _ (List.mem_flatMap.mpr ⟨q9, hq, sOpt_in e⟩), ρ, (q9.2, ls', r1, G', c', s'), List.prefix_refl _, m, by simp only [e15, hto, h9], rfl, hL, hV1, hH, rfl, rfl⟩
    · cases h
  · cases h
theorem t16 {k : Nat} (hro : RO.length = SO.length) (hM : sMo ρ S.2.2.2.2.2.2) (hD : sD ρ S R) (h : s16 SO nx b k S = some L) : sOK ρ L (e16 RO nx b k R) := by
  obtain ⟨pc, ls, st, G, c, s, Γ⟩ := S
  obtain ⟨pc', ls', st', G', c', s'⟩ := R
  obtain ⟨h1, hL, hV, hH, h2, h3⟩ := hD
  simp only at h1 hL hV hH h2 h3 hM
  subst h1; subst h2; subst h3
  unfold s16 at h
  split at h
  · rename_i q st1 G1 c1 s1 Γ1 heq
    cases heq
    obtain ⟨r1, rfl, hV1⟩ := sVs_ref hV
    split at h
    · cases h
    rename_i hq
    split at h
    · rename_i ci fs hg
      split at h
      · rename_i hci
        obtain ⟨hci, h999⟩ := hci
        subst hci
        obtain ⟨v, hv, rfl⟩ := Option.map_eq_some_iff.mp h
        obtain ⟨y, hy, hxy⟩ := sHp_get hH hg (sIsA_ne h999)
        rcases y with y | ⟨cj, gs⟩
        · exact hxy.elim
        obtain ⟨rfl, hfs⟩ := hxy
        obtain ⟨w, hw, hvw⟩ := sVs_get hfs hv
        split
        · rename_i h4
          obtain ⟨r, hr, rfl⟩ : ∃ r ∈ v.2.2, w = .ref r.1 := by
            unfold sVr at hvw
            rw [if_neg (by omega), if_neg (by omega), if_neg (by omega), if_neg (by omega), if_pos h4] at hvw
            exact hvw
          have hvr : sVr ρ (2, sC (r.1 : Int)) (.ref r.1) := rfl
          have hset := sVs_set hvr k hfs
          rw [sSet_self hw] at hset
          have hH2 := sHp_set (x := .inr (cj, fs.set k (2, sC (r.1 : Int)))) (y := .inr (cj, gs)) ⟨rfl, hset⟩ (q.1.toNat - SO.length) hH
          rw [sSet_self hy] at hH2
          refine ⟨_, List.mem_map.mpr ⟨r, hr, rfl⟩, ρ, (nx, ls', .ref r.1 :: r1, G', c', s'), List.prefix_refl _, hM, ?_, rfl, hL, ⟨hvr, hV1⟩, hH2, rfl, rfl⟩
          simp only [e16, hro]
          rw [if_neg hq, hy]
          simp only [if_true, hw, Option.map_some]
        refine sOK.one (List.prefix_refl _) hM (R' := (nx, ls', w :: r1, G', c', s')) ?_ ⟨rfl, hL, ⟨hvw, hV1⟩, hH, rfl, rfl⟩
        simp only [e16, hro]
        rw [if_neg hq, hy]
        simp only [if_true, hw, Option.map_some]
      · cases h
    · cases h
  · cases h
theorem sFit_ok {B : List (Int × Int)} {ty : FieldType} {v : sV} {w : Value} (hB : sBd ρ B) (h : sFit B ty v = true) (hv : sVr ρ v w) : eFit ty w = true := by
  obtain ⟨t, x⟩ := v
  unfold sFit at h
  split at h
  · have h := of_decide_eq_true h
    simp only at h; subst h
    rw [sVr_ref hv]; rfl
  · have h := of_decide_eq_true h
    simp only at h; subst h
    rw [sVr_ref hv]; rfl
  · have h := of_decide_eq_true h
    simp only at h; subst h
    obtain ⟨z, -, rfl⟩ := sVr_int hv; rfl
  · simp only [Bool.and_eq_true, decide_eq_true_eq] at h
    obtain ⟨h, h2⟩ := h
    subst h
    obtain ⟨z, hz, rfl⟩ := sVr_int hv
    have q := sWi_ok hB hz h2
    have hz2 : z = 0 ∨ z = 1 := by omega
    rcases hz2 with rfl | rfl <;> rfl
  · have h := of_decide_eq_true h
    simp only at h; subst h
    obtain ⟨z, -, rfl⟩ := sVr_long hv; rfl
  · cases h
theorem t17 {k : Nat} (hro : RO.length = SO.length) (hM : sMo ρ S.2.2.2.2.2.2) (hD : sD ρ S R) (h : s17 SO CT nx b k S = some L) : sOK ρ L (e17 RO CT nx b k R) := by
  obtain ⟨pc, ls, st, G, c, s, Γ⟩ := S
  obtain ⟨pc', ls', st', G', c', s'⟩ := R
  obtain ⟨h1, hL, hV, hH, h2, h3⟩ := hD
  simp only at h1 hL hV hH h2 h3 hM
  subst h1; subst h2; subst h3
  unfold s17 at h
  split at h
  · rename_i heq
    cases heq
    obtain ⟨w, r0, rfl, hvw, hV0⟩ := sVs_cons hV
    obtain ⟨r1, rfl, hV1⟩ := sVs_ref hV0
    split at h
    · cases h
    rename_i hq
    split at h
    · rename_i ci fs hg
      split at h
      · rename_i hci
        obtain ⟨⟨rfl, h999⟩, hkl, hfit⟩ := hci
        cases h
        obtain ⟨y, hy, hxy⟩ := sHp_get hH hg (sIsA_ne h999)
        rcases y with y | ⟨cj, gs⟩
        · exact hxy.elim
        obtain ⟨rfl, hfs⟩ := hxy
        refine sOK.one (List.prefix_refl _) hM (R' := (nx, ls', r1, G'.set _ (.inr (cj, gs.set k w)), c', s')) ?_ ⟨rfl, hL, hV1, sHp_set (x := .inr (cj, fs.set k _)) (y := .inr (cj, gs.set k w)) ⟨rfl, sVs_set hvw k hfs⟩ _ hH, rfl, rfl⟩
        simp only [e17, hro]
        rw [if_neg hq, hy]
        simp only
        rw [if_pos ⟨trivial, by rw [sVs_len hfs]; exact hkl, sFit_ok hM.1 hfit hvw⟩]
      · cases h
    · cases h
  · cases h
theorem t18 (hM : sMo ρ S.2.2.2.2.2.2) (hD : sD ρ S R) (h : s18 nx b S = some L) : sOK ρ L (e18 nx b R) := by
  obtain ⟨pc, ls, st, G, c, s, Γ⟩ := S
  obtain ⟨pc', ls', st', G', c', s'⟩ := R
  obtain ⟨h1, hL, hV, hH, h2, h3⟩ := hD
  simp only at h1 hL hV hH h2 h3 hM
  subst h1; subst h2; subst h3
  cases h
  exact sOK.one (List.prefix_refl _) hM (R' := (nx, ls', .ref b :: st', G', c', s')) rfl ⟨rfl, hL, ⟨rfl, hV⟩, hH, rfl, rfl⟩
end SPROOF2
end
section
/-! S: arrays, new cells, and the rest. -/
def sUp (b : Int × Int) (ov : List (Nat × sL)) (i : Nat) (a : sL) : List (Nat × sL) :=
  (if a.2 = [] ∧ a.1 = b.1 ∧ b.1 = b.2 ∧ -2147483648 ≤ a.1 ∧ a.1 ≤ 2147483647 then [] else [(i, a)]) ++ ov.filter (fun q => !(q.1 == i))
theorem sLk_filter {f : Nat × sL → Bool} {i : Nat} (hf : ∀ q : Nat × sL, q.1 = i → f q = true) : ∀ ov : List (Nat × sL), sLk (ov.filter f) i = sLk ov i
  | [] => rfl
  | q :: r => by
    have ih := sLk_filter hf r
    unfold sLk at ih ⊢
    rw [List.filter_cons, List.find?_cons]
    by_cases hq : (q.1 == i) = true
    · rw [if_pos (hf q (beq_iff_eq.mp hq)), List.find?_cons]
      simp only [hq]
    · simp only [hq]
      split
      · rw [List.find?_cons]
        simp only [hq]
        exact ih
      · exact ih
theorem sLk_none {f : Nat × sL → Bool} {i : Nat} (hf : ∀ q : Nat × sL, q.1 = i → f q = false) : ∀ ov : List (Nat × sL), sLk (ov.filter f) i = none
  | [] => rfl
  | q :: r => by
    have ih := sLk_none hf r
    rw [List.filter_cons]
    split
    · rename_i h
      unfold sLk at ih ⊢
      rw [List.find?_cons]
      have hq : ¬ (q.1 == i) = true := fun z => by rw [hf q (beq_iff_eq.mp z)] at h; cases h
      simp only [hq]
      exact ih
    · exact ih
theorem sLk_up_ne {b : Int × Int} {ov : List (Nat × sL)} {i j : Nat} {a : sL} (h : j ≠ i) : sLk (sUp b ov i a) j = sLk ov j := by
  have h1 := sLk_filter (f := fun q => !(q.1 == i)) (i := j) (fun q hq => by simp [hq, h]) ov
  unfold sUp
  split
  · exact h1
  · unfold sLk at h1 ⊢
    rw [List.singleton_append, List.find?_cons]
    have : ¬ (i == j) = true := fun z => h (beq_iff_eq.mp z).symm
    simp only [this]
    exact h1
theorem sLk_up_eq (b : Int × Int) (ov : List (Nat × sL)) (i : Nat) (a : sL) : sLk (sUp b ov i a) i = some a ∨ (sLk (sUp b ov i a) i = none ∧ a.2 = [] ∧ a.1 = b.1 ∧ b.1 = b.2 ∧ -2147483648 ≤ a.1 ∧ a.1 ≤ 2147483647) := by
  unfold sUp
  split
  · rename_i h
    exact Or.inr ⟨sLk_none (fun q hq => by simp [hq]) ov, h⟩
  · left
    simp [sLk]
theorem sArI_up {ρ : List Int} {b : Int × Int} {ov : List (Nat × sL)} {n i : Nat} {a : sL} {z : Int} {f : Nat → Int32} (h : sArI ρ b ov n f) (hz : sEv ρ a = some z) : sArI ρ b (sUp b ov i a) n (upd f i (Int32.ofInt z)) := by
  intro j hj
  by_cases hji : j = i
  · subst hji
    rcases sLk_up_eq b ov j a with e | ⟨e, h1, h2, h3, h4, h5⟩
    · rw [e]
      exact ⟨z, hz, by simp [upd]⟩
    · rw [e]
      have e9 : z = a.1 := by
        obtain ⟨c, t⟩ := a
        simp only at h1; subst h1
        simp only [sEv, sEvT, Option.map_some, Option.some.injEq] at hz
        omega
      have h6 := sTo32 h4 h5
      simp only [upd, if_true]
      rw [e9, h6]
      omega
  · rw [sLk_up_ne hji]
    have := h j hj
    simpa [upd, hji] using this
theorem sArL_up {ρ : List Int} {b : Int × Int} {ov : List (Nat × sL)} {n i : Nat} {a : sL} {z : Int} {f : Nat → Int64} (h : sArL ρ b ov n f) (hz : sEv ρ a = some z) : sArL ρ b (sUp b ov i a) n (vp_updL f i (Int64.ofInt z)) := by
  intro j hj
  by_cases hji : j = i
  · subst hji
    rcases sLk_up_eq b ov j a with e | ⟨e, h1, h2, h3, h4, h5⟩
    · rw [e]
      exact ⟨z, hz, by simp [vp_updL]⟩
    · rw [e]
      have e9 : z = a.1 := by
        obtain ⟨c, t⟩ := a
        simp only at h1; subst h1
        simp only [sEv, sEvT, Option.map_some, Option.some.injEq] at hz
        omega
      have h6 : (Int64.ofInt a.1).toInt = a.1 := sTo64 (by omega) (by omega)
      simp only [vp_updL, if_true]
      rw [e9, h6]
      omega
  · rw [sLk_up_ne hji]
    have := h j hj
    simpa [vp_updL, hji] using this
def sUpQ (ov : List (Nat × sL)) (i : Nat) (a : sL) : List (Nat × sL) := (i, a) :: ov.filter (fun q => !(q.1 == i))
theorem sArQ_up {ov : List (Nat × sL)} {n i : Nat} {a : sL} {f : Nat → Option Nat} (h : sArQ ov n f) : sArQ (sUpQ ov i a) n (va_up f i (some a.1.toNat)) := by
  intro j hj
  by_cases hji : j = i
  · subst hji
    simp [va_up, sLk, sUpQ]
  · have e : sLk (sUpQ ov i a) j = sLk ov j := by
      have h1 := sLk_filter (f := fun q => !(q.1 == i)) (i := j) (fun q hq => by simp [hq, hji]) ov
      unfold sLk sUpQ at *
      rw [List.find?_cons]
      have : ¬ (i == j) = true := fun z => hji (beq_iff_eq.mp z).symm
      simp only [this]
      exact h1
    rw [e]
    simp only [va_up, hji, if_false]
    exact h j hj
def sDf (ty : FieldType) : sV := match ty with
  | .long => (1, sC 0)
  | .object _ => (3, sC 0)
  | .array _ => (3, sC 0)
  | .int => (0, sC 0)
  | .boolean => (0, sC 0)
  | .byte => (0, sC 0)
  | .short => (0, sC 0)
  | .char => (0, sC 0)
  | _ => (9, sC 0)
theorem sDf_ok {ρ : List Int} {ty : FieldType} (h : (sDf ty).1 ≠ 9) : sVr ρ (sDf ty) (defaultValue ty) := by
  cases ty <;> first | exact ⟨0, sEv_C 0, rfl⟩ | rfl | exact absurd rfl h
section SSTEP3
variable (SO : List (Nat × List sL)) (CL : List vw_C) (CT : Nat → Nat → FieldType)
def s19 (nx b : Nat) : sR → Option (List sR)
  | (_, ls, (0, i) :: (2, q) :: st, G, c, s, Γ) => if q.1.toNat < SO.length then (if b = 0 then (match SO[q.1.toNat]? with
      | some (n, l) => (sIdx Γ i n).map fun ks => ks.flatMap fun k => (match l[k.1]? with
        | some a => [(nx, ls, (0, a) :: st, G, c, s, k.2)]
        | none => [])
      | none => none) else none) else match G[q.1.toNat - SO.length]? with
    | some (.inl (ty, n, bd, ov)) => (match sIdx Γ i n with
      | none => none
      | some ks => if (b = 0 ∧ ty = .int) ∨ (b = 1 ∧ ty = .byte) ∨ (b = 2 ∧ ty = .short) then
          (if ks.all (fun k => (sLk ov k.1).isSome || decide (bd.1 = bd.2)) = true then some (ks.map fun k => (nx, ls, (0, (sLk ov k.1).getD (sC bd.1)) :: st, G, c, s, k.2)) else none)
        else if b = 3 ∧ ty = .long then
          (if ks.all (fun k => (sLk ov k.1).isSome || decide (bd.1 = bd.2)) = true then some (ks.map fun k => (nx, ls, (1, (sLk ov k.1).getD (sC bd.1)) :: st, G, c, s, k.2)) else none)
        else if b = 4 ∧ ty.isReference = true then some (ks.map fun k => (nx, ls, (match sLk ov k.1 with | some a => (2, a) | none => (3, sC 0)) :: st, G, c, s, k.2))
        else none)
    | _ => none
  | _ => none
def s20 (nx b : Nat) : sR → Option (List sR)
  | (_, ls, v :: (0, i) :: (2, q) :: st, G, c, s, Γ) => if q.1.toNat < SO.length then none else match G[q.1.toNat - SO.length]? with
    | some (.inl (ty, n, bd, ov)) => (match sIdx Γ i n with
      | none => none
      | some ks => if (b = 0 ∧ ty = .int ∧ v.1 = 0) ∨ (b = 1 ∧ ty = .byte ∧ v.1 = 0 ∧ sWi Γ.1 v.2 (-128) 127 = true) ∨ (b = 2 ∧ ty = .short ∧ v.1 = 0 ∧ sWi Γ.1 v.2 (-32768) 32767 = true) ∨ (b = 3 ∧ ty = .long ∧ v.1 = 1) then
          some (ks.map fun k => (nx, ls, st, G.set (q.1.toNat - SO.length) (.inl (ty, n, bd, sUp bd ov k.1 v.2)), c, s, k.2))
        else if b = 4 ∧ v.1 = 2 ∧ ¬ v.2.1.toNat < SO.length then (match G[v.2.1.toNat - SO.length]? with
          | some (.inr (ci, _)) => (match CL[ci]? with
            | some kk => if ty = .object kk.1 ∧ ci ≠ 999 then some (ks.map fun k => (nx, ls, st, G.set (q.1.toNat - SO.length) (.inl (ty, n, bd, sUpQ ov k.1 v.2)), c, s, k.2)) else none
            | none => none)
          | _ => none)
        else none)
    | _ => none
  | _ => none
def s21 (nx : Nat) : sR → Option (List sR)
  | (_, ls, (2, q) :: st, G, c, s, Γ) => if q.1.toNat < SO.length then (match SO[q.1.toNat]? with
      | some (n, _) => if 0 < n ∧ n ≤ 2147483647 then some [(nx, ls, (0, sC n) :: st, G, c, s, Γ)] else none
      | none => none) else match G[q.1.toNat - SO.length]? with
    | some (.inl (_, n, _, _)) => some [(nx, ls, (0, sC n) :: st, G, c, s, Γ)]
    | _ => none
  | _ => none
def s22 (nx b : Nat) : sR → Option (List sR)
  | (_, ls, st, G, c, s, Γ) => match CL[b]? with
    | some k => if (List.range k.2.2).all (fun j => decide ((sDf (CT b j)).1 ≠ 9)) = true then some [(nx, ls, (2, sC (SO.length + G.length : Nat)) :: st, G ++ [.inr (b, (List.range k.2.2).map (fun j => sDf (CT b j)))], c + 1, s + k.2.2, Γ)] else none
    | none => none
def sNwT (b : Nat) : Option FieldType := if b = 0 then some .int else if b = 1 then some .byte else if b = 2 then some .short else if b = 3 then some .long else none
def s23 (nx b : Nat) : sR → Option (List sR)
  | (_, ls, (0, x) :: st, G, c, s, Γ) => match sK Γ.1 x, sNwT b with
    | some k, some ty => if 0 ≤ k ∧ k ≤ 65536 then some [(nx, ls, (2, sC (SO.length + G.length : Nat)) :: st, G ++ [.inl (ty, k.toNat, (0, 0), [])], c + 1, s + k.toNat, Γ)] else none
    | _, _ => none
  | _ => none
def s24 (nx b : Nat) : sR → Option (List sR)
  | (_, ls, (0, x) :: st, G, c, s, Γ) => match sK Γ.1 x, CL[b]? with
    | some k, some kc => if 0 ≤ k ∧ k ≤ 65536 then some [(nx, ls, (2, sC (SO.length + G.length : Nat)) :: st, G ++ [.inl (.object kc.1, k.toNat, (0, 0), [])], c + 1, s + k.toNat, Γ)] else none
    | _, _ => none
  | _ => none
def s25 (nx : Nat) : sR → Option (List sR)
  | (_, ls, (0, x) :: (0, y) :: st, G, c, s, Γ) => match sK Γ.1 x, sK Γ.1 y with
    | some k, some n => if 0 ≤ k ∧ k ≤ 65536 ∧ 0 ≤ n ∧ n ≤ 65536 then some [(nx, ls, (2, sC (SO.length + G.length : Nat)) :: st, (G ++ [.inl (.array .int, n.toNat, (0, 0), (List.range n.toNat).map fun i => (i, sC (SO.length + G.length + 1 + i : Nat)))]) ++ List.replicate n.toNat (.inl (.int, k.toNat, (0, 0), [])),
        c + 1 + n.toNat, s + n.toNat + n.toNat * k.toNat, Γ)] else none
    | _, _ => none
  | _ => none
def s26 (nx b : Nat) : sR → Option (List sR)
  | (_, ls, v :: st, G, c, s, Γ) => if sCat v = 1 then (if b = 0 then some [(nx, ls, v :: v :: st, G, c, s, Γ)] else if b = 1 then some [(nx, ls, st, G, c, s, Γ)]
      else if b = 2 then (match st with
        | w :: r => if sCat w = 1 then some [(nx, ls, v :: w :: v :: w :: r, G, c, s, Γ)] else none
        | [] => none) else none) else none
  | _ => none
def s30 (nx : Nat) : sR → Option (List sR)
  | (_, ls, (2, _) :: st, G, c, s, Γ) => if (st.map sCat).sum ≤ 8 then some [(nx, ls, st, G, c, s, Γ)] else none
  | _ => none
def s31 (nx : Nat) : sR → Option (List sR)
  | (_, ls, (0, n) :: (0, dp) :: (2, kd) :: (0, sp) :: (2, ks) :: st, G, c, s, Γ) => if kd.1.toNat < SO.length ∨ ks.1.toNat < SO.length ∨ 8 < (st.map sCat).sum then none else
    match sK Γ.1 n, sK Γ.1 dp, sK Γ.1 sp, G[ks.1.toNat - SO.length]?, G[kd.1.toNat - SO.length]? with
    | some n, some dp, some sp, some (.inl (ty, n0, b0, o0)), some (.inl (ty1, n1, b1, o1)) =>
      if 0 ≤ n ∧ 0 ≤ dp ∧ 0 ≤ sp ∧ n ≤ 65536 ∧ dp ≤ 65536 ∧ sp ≤ 65536 ∧ ty = .int ∧ ty1 = .int ∧ sp.toNat + n.toNat ≤ n0 ∧ dp.toNat + n.toNat ≤ n1 ∧ b0.1 = b0.2 then
        some [(nx, ls, st, G.set (kd.1.toNat - SO.length) (.inl (.int, n1, b1, ((List.range n.toNat).map fun j => (dp.toNat + j, (sLk o0 (sp.toNat + j)).getD (sC b0.1))) ++ o1.filter (fun q => !(decide (dp.toNat ≤ q.1) && decide (q.1 < dp.toNat + n.toNat))))), c, s, Γ)] else none
    | _, _, _, _, _ => none
  | _ => none
def s32 (nx b : Nat) : sR → Option (List sR)
  | (_, ls, (0, y) :: (0, x) :: st, G, c, s, Γ) => if sI32 Γ.1 x = true ∧ sI32 Γ.1 y = true ∧ (st.map sCat).sum ≤ 8 then
      some (sOpt (sCnd (if b = 0 then 2 else 4) Γ (sSub x y)).1 (fun Γ' => (nx, ls, (0, y) :: st, G, c, s, Γ')) ++ sOpt (sCnd (if b = 0 then 2 else 4) Γ (sSub x y)).2 (fun Γ' => (nx, ls, (0, x) :: st, G, c, s, Γ'))) else none
  | _ => none
end SSTEP3
end
section
/-! S: the proofs for arrays, new cells, and the rest. -/
section SPROOF3
variable {ρ : List Int} {S : sR} {R : eR} {L : List sR} {SO : List (Nat × List sL)} {RO : List (Nat × (Nat → Int32))} {CL : List vw_C} {CT : Nat → Nat → FieldType} {nx a b mL : Nat}
theorem t19 (hRO : sRor ρ SO RO) (hM : sMo ρ S.2.2.2.2.2.2) (hD : sD ρ S R) (h : s19 SO nx b S = some L) : sOK ρ L (e19 RO nx b R) := by
  have hro := sRor_len hRO
  obtain ⟨pc, ls, st, G, c, s, Γ⟩ := S
  obtain ⟨pc', ls', st', G', c', s'⟩ := R
  obtain ⟨h1, hL, hV, hH, h2, h3⟩ := hD
  simp only at h1 hL hV hH h2 h3 hM
  subst h1; subst h2; subst h3
  unfold s19 at h
  split at h
  · rename_i i q st1 G1 c1 s1 Γ1 heq
    cases heq
    obtain ⟨zi, r0, rfl, hi, hV0⟩ := sVs_int hV
    obtain ⟨r1, rfl, hV1⟩ := sVs_ref hV0
    split at h
    · rename_i hq
      split at h
      · rename_i b0
        subst b0
        split at h
        · rename_i n l hso
          obtain ⟨ks, hks, rfl⟩ := Option.map_eq_some_iff.mp h
          obtain ⟨k, hk, m, hkn, hcl, hin⟩ := sIdx_ok hM hi hks
          obtain ⟨⟨n', f⟩, hy, hn, hf⟩ := sRor_get hRO hso
          simp only at hn hf
          have hn := hn.resolve_left (by omega)
          subst hn
          obtain ⟨lf, z, hl, hz, hfz⟩ := hf k.1 hkn
          refine ⟨(nx, ls, (0, lf) :: st1, G, c', s', k.2), List.mem_flatMap.mpr ⟨k, hk, by rw [hl]; exact List.mem_singleton.mpr rfl⟩, ρ, (nx, ls', .int (f k.1) :: r1, G', c', s'), List.prefix_refl _, m, ?_, rfl, hL, ⟨⟨z, hz, by rw [hfz]⟩, hV1⟩, hH, rfl, rfl⟩
          simp only [e19]
          rw [if_pos (by rw [hro]; exact hq), hy]
          simp only
          rw [if_pos ⟨trivial, hin⟩, hcl]
        · cases h
      · cases h
    · rename_i hq
      split at h
      · rename_i ty n bd ov hg
        split at h
        · cases h
        · rename_i ks hks
          obtain ⟨k, hk, m, hkn, hcl, hin⟩ := sIdx_ok hM hi hks
          obtain ⟨y, hy, hxy⟩ := sHp_get hH hg
          rcases y with ⟨ty', n', arr⟩ | y
          · obtain ⟨rfl, rfl, harr⟩ := hxy
            split at h
            · rename_i hc
              split at h
              · rename_i hall
                cases h
                have hka := List.all_eq_true.mp hall k hk
                rcases arr with f | f | f
                · have hf := harr.2 k.1 hkn
                  have hval : sVr ρ (0, (sLk ov k.1).getD (sC bd.1)) (.int (f k.1)) := by
                    cases hlk : sLk ov k.1 with
                    | some aa =>
                      rw [hlk] at hf
                      obtain ⟨z, e1, e2⟩ := hf
                      exact ⟨z, e1, by rw [e2]⟩
                    | none =>
                      rw [hlk] at hf hka
                      have hb : bd.1 = bd.2 := by simpa using hka
                      refine ⟨bd.1, sEv_C _, ?_⟩
                      have : (f k.1).toInt = bd.1 := by omega
                      rw [← this, Int32.ofInt_toInt]
                  refine ⟨_, List.mem_map.mpr ⟨k, hk, rfl⟩, ρ, (nx, ls', .int (f k.1) :: r1, G', c', s'), List.prefix_refl _, m, ?_, rfl, hL, ⟨hval, hV1⟩, hH, rfl, rfl⟩
                  simp only [e19]
                  rw [if_neg (by rw [hro]; exact hq), hro, hy]
                  simp only
                  rw [if_pos ⟨hc, hin⟩, hcl]
                · have := harr.1
                  subst this
                  rcases hc with ⟨-, h9⟩ | ⟨-, h9⟩ | ⟨-, h9⟩ <;> cases h9
                · have := harr.1
                  rcases hc with ⟨-, rfl⟩ | ⟨-, rfl⟩ | ⟨-, rfl⟩ <;> cases this
              · cases h
            rename_i hc0
            split at h
            · rename_i hc
              obtain ⟨rfl, rfl⟩ := hc
              split at h
              · rename_i hall
                cases h
                have hka := List.all_eq_true.mp hall k hk
                rcases arr with f | f | f
                · rcases harr.1 with h9 | h9 | h9 <;> cases h9
                · have hf := harr.2 k.1 hkn
                  have hval : sVr ρ (1, (sLk ov k.1).getD (sC bd.1)) (.long (f k.1)) := by
                    cases hlk : sLk ov k.1 with
                    | some aa =>
                      rw [hlk] at hf
                      obtain ⟨z, e1, e2⟩ := hf
                      exact ⟨z, e1, by rw [e2]⟩
                    | none =>
                      rw [hlk] at hf hka
                      have hb : bd.1 = bd.2 := by simpa using hka
                      refine ⟨bd.1, sEv_C _, ?_⟩
                      have : (f k.1).toInt = bd.1 := by omega
                      rw [← this, Int64.ofInt_toInt]
                  refine ⟨_, List.mem_map.mpr ⟨k, hk, rfl⟩, ρ, (nx, ls', .long (f k.1) :: r1, G', c', s'), List.prefix_refl _, m, ?_, rfl, hL, ⟨hval, hV1⟩, hH, rfl, rfl⟩
                  simp only [e19]
                  rw [if_neg (by rw [hro]; exact hq), hro, hy]
                  simp only
                  rw [if_pos ⟨⟨trivial, trivial⟩, hin⟩, hcl]
                · have := harr.1
                  cases this
              · cases h
            rename_i hc1
            split at h
            · rename_i hc
              obtain ⟨rfl, hty⟩ := hc
              cases h
              rcases arr with f | f | f
              · rcases harr.1 with rfl | rfl | rfl <;> cases hty
              · have := harr.1; subst this; cases hty
              · have hf := harr.2 k.1 hkn
                have hval : sVr ρ (match sLk ov k.1 with | some a => (2, a) | none => (3, sC 0)) (eRf (f k.1)) := by
                  rw [hf]
                  cases hlk : sLk ov k.1 with
                  | some aa => exact rfl
                  | none => exact rfl
                refine ⟨_, List.mem_map.mpr ⟨k, hk, rfl⟩, ρ, (nx, ls', eRf (f k.1) :: r1, G', c', s'), List.prefix_refl _, m, ?_, rfl, hL, ⟨hval, hV1⟩, hH, rfl, rfl⟩
                simp only [e19]
                rw [if_neg (by rw [hro]; exact hq), hro, hy]
                simp only
                rw [if_pos ⟨⟨trivial, hty⟩, hin⟩, hcl]
            · cases h
          · exact hxy.elim
      · cases h
  · cases h
theorem sNarB {z : Int} (h1 : -128 ≤ z) (h2 : z ≤ 127) : vp_nar .byte (Int32.ofInt z) = Int32.ofInt z := by
  rw [vp_nar_byte]
  apply Int32.toInt_inj.mp
  rw [Int8.toInt_toInt32, Int32.toInt_toInt8, sTo32 (by omega) (by omega)]
  exact Int.bmod_eq_of_le (by omega) (by omega)
theorem sNarS {z : Int} (h1 : -32768 ≤ z) (h2 : z ≤ 32767) : vp_nar .short (Int32.ofInt z) = Int32.ofInt z := by
  rw [vp_nar_short]
  apply Int32.toInt_inj.mp
  rw [Int16.toInt_toInt32, Int32.toInt_toInt16, sTo32 (by omega) (by omega)]
  exact Int.bmod_eq_of_le (by omega) (by omega)
theorem t20 (hRO : sRor ρ SO RO) (hM : sMo ρ S.2.2.2.2.2.2) (hD : sD ρ S R) (h : s20 SO CL nx b S = some L) : sOK ρ L (e20 RO CL nx b R) := by
  have hro := sRor_len hRO
  obtain ⟨pc, ls, st, G, c, s, Γ⟩ := S
  obtain ⟨pc', ls', st', G', c', s'⟩ := R
  obtain ⟨h1, hL, hV, hH, h2, h3⟩ := hD
  simp only at h1 hL hV hH h2 h3 hM
  subst h1; subst h2; subst h3
  unfold s20 at h
  split at h
  · rename_i v i q st1 G1 c1 s1 Γ1 heq
    cases heq
    obtain ⟨w, rv, rfl, hvw, hVv⟩ := sVs_cons hV
    obtain ⟨zi, r0, rfl, hi, hV0⟩ := sVs_int hVv
    obtain ⟨r1, rfl, hV1⟩ := sVs_ref hV0
    split at h
    · cases h
    rename_i hq
    split at h
    · rename_i ty n bd ov hg
      split at h
      · cases h
      · rename_i ks hks
        obtain ⟨k, hk, m, hkn, hcl, hin⟩ := sIdx_ok hM hi hks
        obtain ⟨y, hy, hxy⟩ := sHp_get hH hg
        rcases y with ⟨ty', n', arr⟩ | y
        · obtain ⟨rfl, rfl, harr⟩ := hxy
          obtain ⟨tg, lv⟩ := v
          split at h
          · rename_i hc
            cases h
            rcases arr with f | f | f
            · have hint : tg = 0 := by
                rcases hc with ⟨-, -, h9⟩ | ⟨-, -, h9, -⟩ | ⟨-, -, h9, -⟩ | ⟨-, h8, -⟩
                · exact h9
                · exact h9
                · exact h9
                · subst h8; rcases harr.1 with h9 | h9 | h9 <;> cases h9
              subst hint
              obtain ⟨z, hz, rfl⟩ := sVr_int hvw
              have key : ∀ x : Int32, x = Int32.ofInt z → sD ρ (nx, ls, st1, G.set (q.1.toNat - SO.length) (.inl (ty', n', bd, sUp bd ov k.1 lv)), c', s', k.2) (nx, ls', r1, G'.set (q.1.toNat - SO.length) (.inl (ty', n', .inl (upd f k.1 x))), c', s') := by
                intro x hx
                subst hx
                exact ⟨rfl, hL, hV1, sHp_set (x := .inl (ty', n', bd, sUp bd ov k.1 lv)) (y := .inl (ty', n', .inl (upd f k.1 (Int32.ofInt z)))) ⟨rfl, rfl, harr.1, sArI_up harr.2 hz⟩ _ hH, rfl, rfl⟩
              rcases hc with ⟨rfl, rfl, -⟩ | ⟨rfl, rfl, -, hw⟩ | ⟨rfl, rfl, -, hw⟩ | ⟨-, h8, -⟩
              · refine ⟨_, List.mem_map.mpr ⟨k, hk, rfl⟩, ρ, _, List.prefix_refl _, m, ?_, key (Int32.ofInt z) rfl⟩
                simp only [e20]
                rw [if_neg (by rw [hro]; exact hq), hro, hy]
                simp only
                rw [if_pos hin, if_pos ⟨trivial, trivial⟩, hcl]
              · have qw := sWi_ok hM.1 hz hw
                refine ⟨_, List.mem_map.mpr ⟨k, hk, rfl⟩, ρ, _, List.prefix_refl _, m, ?_, key _ (sNarB qw.1 qw.2)⟩
                simp only [e20]
                rw [if_neg (by rw [hro]; exact hq), hro, hy]
                simp only
                rw [if_pos hin, if_neg (by decide), if_pos ⟨trivial, trivial⟩, hcl]
              · have qw := sWi_ok hM.1 hz hw
                refine ⟨_, List.mem_map.mpr ⟨k, hk, rfl⟩, ρ, _, List.prefix_refl _, m, ?_, key _ (sNarS qw.1 qw.2)⟩
                simp only [e20]
                rw [if_neg (by rw [hro]; exact hq), hro, hy]
                simp only
                rw [if_pos hin, if_neg (by decide), if_neg (by decide), if_pos ⟨trivial, trivial⟩, hcl]
              · subst h8; rcases harr.1 with h9 | h9 | h9 <;> cases h9
            · have := harr.1
              subst this
              rcases hc with ⟨-, h9, -⟩ | ⟨-, h9, -⟩ | ⟨-, h9, -⟩ | ⟨rfl, -, h9⟩
              · cases h9
              · cases h9
              · cases h9
              · simp only at h9
                subst h9
                obtain ⟨z, hz, rfl⟩ := sVr_long hvw
                refine ⟨_, List.mem_map.mpr ⟨k, hk, rfl⟩, ρ, (nx, ls', r1, G'.set (q.1.toNat - SO.length) (.inl (.long, n', .inr (.inl (vp_updL f k.1 (Int64.ofInt z))))), c', s'), List.prefix_refl _, m, ?_, rfl, hL, hV1, sHp_set (x := .inl (.long, n', bd, sUp bd ov k.1 lv)) (y := .inl (.long, n', .inr (.inl (vp_updL f k.1 (Int64.ofInt z))))) ⟨rfl, rfl, rfl, sArL_up harr.2 hz⟩ _ hH, rfl, rfl⟩
                simp only [e20]
                rw [if_neg (by rw [hro]; exact hq), hro, hy]
                simp only
                rw [if_pos ⟨⟨trivial, trivial⟩, hin⟩, hcl]
            · have h9 := harr.1
              rcases hc with ⟨-, rfl, -⟩ | ⟨-, rfl, -⟩ | ⟨-, rfl, -⟩ | ⟨-, rfl, -⟩ <;> cases h9
          · split at h
            · rename_i hc
              obtain ⟨rfl, htg, hr⟩ := hc
              simp only at htg hr
              subst htg
              split at h
              · rename_i ci fs hgr
                split at h
                · rename_i kk hkk
                  split at h
                  · rename_i hty
                    obtain ⟨hty, h999⟩ := hty
                    cases h
                    rcases arr with f | f | f
                    · subst hty; rcases harr.1 with h9 | h9 | h9 <;> cases h9
                    · subst hty; have h9 := harr.1; cases h9
                    · obtain ⟨yr, hyr, hxr⟩ := sHp_get hH hgr (sIsA_ne h999)
                      rcases yr with yr | ⟨cj, gs⟩
                      · exact hxr.elim
                      obtain ⟨rfl, hgs⟩ := hxr
                      have hw := sVr_ref hvw
                      subst hw
                      refine ⟨_, List.mem_map.mpr ⟨k, hk, rfl⟩, ρ, (nx, ls', r1, G'.set (q.1.toNat - SO.length) (.inl (ty', n', .inr (.inr (va_up f k.1 (some lv.1.toNat))))), c', s'), List.prefix_refl _, m, ?_, rfl, hL, hV1, sHp_set (x := .inl (ty', n', bd, sUpQ ov k.1 lv)) (y := .inl (ty', n', .inr (.inr (va_up f k.1 (some lv.1.toNat))))) ⟨rfl, rfl, harr.1, sArQ_up harr.2⟩ _ hH, rfl, rfl⟩
                      simp only [e20]
                      rw [if_neg (by rw [hro]; exact hq), hro, hy]
                      simp only
                      rw [if_pos ⟨trivial, hin, hr⟩, hyr]
                      simp only [hkk]
                      rw [if_pos hty, hcl]
                  · cases h
                · cases h
              · cases h
            · cases h
        · exact hxy.elim
    · cases h
  · cases h
end SPROOF3
end
section
/-! S: new cells, copies, and the rest: the proofs. -/
section SPROOF4
variable {ρ : List Int} {S : sR} {R : eR} {L : List sR} {SO : List (Nat × List sL)} {RO : List (Nat × (Nat → Int32))} {CL : List vw_C} {CT : Nat → Nat → FieldType} {nx a b mL : Nat}
theorem sOfNat (n : Nat) : Int32.ofNat n = Int32.ofInt (n : Int) := by simp [Int32.ofNat, Int32.ofInt]
theorem t21 (hRO : sRor ρ SO RO) (hM : sMo ρ S.2.2.2.2.2.2) (hD : sD ρ S R) (h : s21 SO nx S = some L) : sOK ρ L (e21 RO nx R) := by
  have hro := sRor_len hRO
  obtain ⟨pc, ls, st, G, c, s, Γ⟩ := S
  obtain ⟨pc', ls', st', G', c', s'⟩ := R
  obtain ⟨h1, hL, hV, hH, h2, h3⟩ := hD
  simp only at h1 hL hV hH h2 h3 hM
  subst h1; subst h2; subst h3
  unfold s21 at h
  split at h
  · rename_i heq
    cases heq
    obtain ⟨r1, rfl, hV1⟩ := sVs_ref hV
    split at h
    · rename_i hq
      split at h
      · rename_i n l hso
        split at h
        · rename_i h0n
          cases h
          obtain ⟨⟨n', f⟩, hy, hn, -⟩ := sRor_get hRO hso
          simp only at hn
          have hn := hn.resolve_left (by omega)
          subst hn
          refine sOK.one (List.prefix_refl _) hM (R' := (nx, ls', .int (Int32.ofNat n') :: r1, G', c', s')) ?_ ⟨rfl, hL, ⟨⟨n', sEv_C _, by rw [sOfNat]⟩, hV1⟩, hH, rfl, rfl⟩
          simp only [e21]
          rw [if_pos (by rw [hro]; exact hq), hy]
        · cases h
      · cases h
    · rename_i hq
      split at h
      · rename_i ty n bd ov hg
        cases h
        obtain ⟨y, hy, hxy⟩ := sHp_get hH hg
        rcases y with ⟨ty', n', arr⟩ | y
        · obtain ⟨rfl, rfl, harr⟩ := hxy
          refine sOK.one (List.prefix_refl _) hM (R' := (nx, ls', .int (Int32.ofNat n') :: r1, G', c', s')) ?_ ⟨rfl, hL, ⟨⟨n', sEv_C _, by rw [sOfNat]⟩, hV1⟩, hH, rfl, rfl⟩
          simp only [e21]
          rw [if_neg (by rw [hro]; exact hq), hro, hy]
        · exact hxy.elim
      · cases h
  · cases h
theorem sVs_dflt {f : Nat → FieldType} : ∀ l : List Nat, (∀ j ∈ l, (sDf (f j)).1 ≠ 9) → sVs ρ (l.map fun j => sDf (f j)) (l.map fun j => defaultValue (f j))
  | [], _ => trivial
  | j :: r, h => ⟨sDf_ok (h j List.mem_cons_self), sVs_dflt r (fun k hk => h k (List.mem_cons_of_mem _ hk))⟩
theorem sHp_push {G : List sE} {G' : List eE} {x : sE} {y : eE} (h : sHp ρ G G') (hx : sEr ρ x y) : sHp ρ (G ++ [x]) (G' ++ [y]) := sHp_app h ⟨Or.inr hx, trivial⟩
theorem t22 (hRO : sRor ρ SO RO) (hM : sMo ρ S.2.2.2.2.2.2) (hD : sD ρ S R) (h : s22 SO CL CT nx b S = some L) : sOK ρ L (e22 RO CL CT nx b R) := by
  have hro := sRor_len hRO
  obtain ⟨pc, ls, st, G, c, s, Γ⟩ := S
  obtain ⟨pc', ls', st', G', c', s'⟩ := R
  obtain ⟨h1, hL, hV, hH, h2, h3⟩ := hD
  simp only at h1 hL hV hH h2 h3 hM
  subst h1; subst h2; subst h3
  simp only [s22] at h
  split at h
  · rename_i k hk
    split at h
    · rename_i hall
      cases h
      have hx : sEr ρ (.inr (b, (List.range k.2.2).map (fun j => sDf (CT b j)))) (.inr (b, (List.range k.2.2).map (fun j => defaultValue (CT b j)))) := ⟨rfl, sVs_dflt _ (fun j hj => of_decide_eq_true (List.all_eq_true.mp hall j hj))⟩
      refine sOK.one (List.prefix_refl _) hM (R' := (nx, ls', .ref (RO.length + G'.length) :: st', G' ++ [.inr (b, (List.range k.2.2).map (fun j => defaultValue (CT b j)))], c' + 1, s' + k.2.2)) ?_ ⟨rfl, hL, ⟨?_, hV⟩, sHp_push hH hx, rfl, rfl⟩
      · simp only [e22, hk]
      · show Value.ref _ = Value.ref _
        rw [hro, sHp_len hH]
        rfl
    · cases h
  · cases h
theorem sArr0 {ty : FieldType} {n b : Nat} (h : sNwT b = some ty) : ∃ y, eNewK b n = some y ∧ sEr ρ (.inl (ty, n, (0, 0), [])) y := by
  unfold sNwT at h
  unfold eNewK
  by_cases b0 : b = 0
  · rw [if_pos b0] at h ⊢; cases h
    exact ⟨_, rfl, rfl, rfl, Or.inl rfl, fun i hi => by simp [sLk]⟩
  rw [if_neg b0] at h ⊢
  by_cases b1 : b = 1
  · rw [if_pos b1] at h ⊢; cases h
    exact ⟨_, rfl, rfl, rfl, Or.inr (Or.inl rfl), fun i hi => by simp [sLk]⟩
  rw [if_neg b1] at h ⊢
  by_cases b2 : b = 2
  · rw [if_pos b2] at h ⊢; cases h
    exact ⟨_, rfl, rfl, rfl, Or.inr (Or.inr rfl), fun i hi => by simp [sLk]⟩
  rw [if_neg b2] at h ⊢
  by_cases b3 : b = 3
  · rw [if_pos b3] at h ⊢; cases h
    exact ⟨_, rfl, rfl, rfl, rfl, fun i hi => by simp [sLk]⟩
  rw [if_neg b3] at h
  cases h
theorem sCl {z : Int} (h0 : 0 ≤ z) (h1 : z ≤ 65536) : (Int32.ofInt z).toNatClampNeg = z.toNat ∧ ¬ Int32.ofInt z < 0 := by
  obtain ⟨k, rfl⟩ := Int.eq_ofNat_of_zero_le h0
  have e1 : (Int32.ofInt (k : Int)) = nI k := by simp [nI, Int32.ofNat, Int32.ofInt]
  rw [e1]
  exact ⟨nI_clamp (by omega), nI_pos (by omega)⟩
theorem t23 (hRO : sRor ρ SO RO) (hM : sMo ρ S.2.2.2.2.2.2) (hD : sD ρ S R) (h : s23 SO nx b S = some L) : sOK ρ L (e23 RO nx b R) := by
  have hro := sRor_len hRO
  obtain ⟨pc, ls, st, G, c, s, Γ⟩ := S
  obtain ⟨pc', ls', st', G', c', s'⟩ := R
  obtain ⟨h1, hL, hV, hH, h2, h3⟩ := hD
  simp only at h1 hL hV hH h2 h3 hM
  subst h1; subst h2; subst h3
  unfold s23 at h
  split at h
  · rename_i heq
    cases heq
    obtain ⟨z, r1, rfl, hz, hV1⟩ := sVs_int hV
    split at h
    · rename_i k ty hk hty
      split at h
      · rename_i hc
        cases h
        have e := sK_ok hM.1 hz hk
        subst e
        obtain ⟨y, hy, hr⟩ := sArr0 (ρ := ρ) (n := z.toNat) hty
        obtain ⟨q1, q2⟩ := sCl hc.1 hc.2
        refine sOK.one (List.prefix_refl _) hM (R' := (nx, ls', .ref (RO.length + G'.length) :: r1, G' ++ [y], c' + 1, s' + z.toNat)) ?_ ⟨rfl, hL, ⟨?_, hV1⟩, sHp_app hH ⟨Or.inr hr, trivial⟩, rfl, rfl⟩
        · simp only [e23]
          rw [if_neg q2, q1, if_pos (by omega), hy]
          rfl
        · show Value.ref _ = Value.ref _
          rw [hro, sHp_len hH]
          rfl
      · cases h
    · cases h
  · cases h
theorem t24 (hRO : sRor ρ SO RO) (hM : sMo ρ S.2.2.2.2.2.2) (hD : sD ρ S R) (h : s24 SO CL nx b S = some L) : sOK ρ L (e24 RO CL nx b R) := by
  have hro := sRor_len hRO
  obtain ⟨pc, ls, st, G, c, s, Γ⟩ := S
  obtain ⟨pc', ls', st', G', c', s'⟩ := R
  obtain ⟨h1, hL, hV, hH, h2, h3⟩ := hD
  simp only at h1 hL hV hH h2 h3 hM
  subst h1; subst h2; subst h3
  unfold s24 at h
  split at h
  · rename_i heq
    cases heq
    obtain ⟨z, r1, rfl, hz, hV1⟩ := sVs_int hV
    split at h
    · rename_i k kc hk hkc
      split at h
      · rename_i hc
        cases h
        have e := sK_ok hM.1 hz hk
        subst e
        obtain ⟨q1, q2⟩ := sCl hc.1 hc.2
        have hx : sEr ρ (.inl (.object kc.1, z.toNat, (0, 0), [])) (.inl (.object kc.1, z.toNat, .inr (.inr (fun _ => none)))) := ⟨rfl, rfl, rfl, fun i hi => by simp [sLk]⟩
        refine sOK.one (List.prefix_refl _) hM (R' := (nx, ls', .ref (RO.length + G'.length) :: r1, G' ++ [.inl (.object kc.1, z.toNat, .inr (.inr (fun _ => none)))], c' + 1, s' + z.toNat)) ?_ ⟨rfl, hL, ⟨?_, hV1⟩, sHp_push hH hx, rfl, rfl⟩
        · simp only [e24]
          rw [if_neg q2, q1, if_pos (by omega), hkc]
        · show Value.ref _ = Value.ref _
          rw [hro, sHp_len hH]
          rfl
      · cases h
    · cases h
  · cases h
theorem sLk_map (g : Nat → sL) (n : Nat) {i : Nat} (hi : i < n) : sLk ((List.range n).map fun j => (j, g j)) i = some (g i) := by
  unfold sLk
  rw [List.find?_map]
  have : List.find? ((fun q : Nat × sL => q.1 == i) ∘ fun j => (j, g j)) (List.range n) = some i := by
    rw [List.find?_range_eq_some]
    refine ⟨by simp, List.mem_range.mpr hi, fun j hj => ?_⟩
    simp
    omega
  rw [this]
  rfl
theorem sHp_rep {x : sE} {y : eE} (h : sEr ρ x y) : ∀ n : Nat, sHp ρ (List.replicate n x) (List.replicate n y)
  | 0 => trivial
  | n + 1 => ⟨Or.inr h, sHp_rep h n⟩
theorem t25 (hRO : sRor ρ SO RO) (hM : sMo ρ S.2.2.2.2.2.2) (hD : sD ρ S R) (h : s25 SO nx S = some L) : sOK ρ L (e25 RO nx R) := by
  have hro := sRor_len hRO
  obtain ⟨pc, ls, st, G, c, s, Γ⟩ := S
  obtain ⟨pc', ls', st', G', c', s'⟩ := R
  obtain ⟨h1, hL, hV, hH, h2, h3⟩ := hD
  simp only at h1 hL hV hH h2 h3 hM
  subst h1; subst h2; subst h3
  unfold s25 at h
  split at h
  · rename_i heq
    cases heq
    obtain ⟨z, r1, rfl, hz, hV1⟩ := sVs_int hV
    obtain ⟨y, r2, rfl, hy, hV2⟩ := sVs_int hV1
    split at h
    · rename_i k n hk hn
      split at h
      · rename_i hc
        cases h
        have e := sK_ok hM.1 hz hk
        subst e
        have e := sK_ok hM.1 hy hn
        subst e
        obtain ⟨q1, q2⟩ := sCl hc.1 hc.2.1
        obtain ⟨q3, q4⟩ := sCl hc.2.2.1 hc.2.2.2
        have hlen := sHp_len hH
        have hx : sEr ρ (.inl (.array .int, y.toNat, (0, 0), (List.range y.toNat).map fun i => (i, sC (SO.length + G.length + 1 + i : Nat)))) (.inl (.array .int, y.toNat, .inr (.inr (fun i => if i < y.toNat then some (RO.length + G'.length + 1 + i) else none)))) := ⟨rfl, rfl, rfl, fun i hi => by
          simp only
          rw [sLk_map _ _ hi, if_pos hi, hro, hlen]
          rfl⟩
        have hx2 : sEr ρ (.inl (.int, z.toNat, (0, 0), [])) (.inl (.int, z.toNat, .inl (fun _ => 0))) := ⟨rfl, rfl, Or.inl rfl, fun i hi => by simp [sLk]⟩
        refine sOK.one (List.prefix_refl _) hM (R' := (nx, ls', .ref (RO.length + G'.length) :: r2, (G' ++ [.inl (.array .int, y.toNat, .inr (.inr (fun i => if i < y.toNat then some (RO.length + G'.length + 1 + i) else none)))]) ++ List.replicate y.toNat (.inl (.int, z.toNat, .inl (fun _ => 0))),
          c' + 1 + y.toNat, s' + y.toNat + y.toNat * z.toNat)) ?_ ⟨rfl, hL, ⟨?_, hV2⟩, sHp_app (sHp_push hH hx) (sHp_rep hx2 _), rfl, rfl⟩
        · simp only [e25]
          rw [if_neg (by rintro (h9 | h9) <;> contradiction), q1, q3, if_pos ⟨by omega, by omega⟩]
        · show Value.ref _ = Value.ref _
          rw [hro, hlen]
          rfl
      · cases h
    · cases h
  · cases h
theorem t26 (hM : sMo ρ S.2.2.2.2.2.2) (hD : sD ρ S R) (h : s26 nx b S = some L) : sOK ρ L (e26 nx b R) := by
  obtain ⟨pc, ls, st, G, c, s, Γ⟩ := S
  obtain ⟨pc', ls', st', G', c', s'⟩ := R
  obtain ⟨h1, hL, hV, hH, h2, h3⟩ := hD
  simp only at h1 hL hV hH h2 h3 hM
  subst h1; subst h2; subst h3
  unfold s26 at h
  split at h
  · rename_i heq
    cases heq
    obtain ⟨w, r, rfl, hvw, hV1⟩ := sVs_cons hV
    split at h
    · rename_i hcat
      have hwc : w.category = 1 := (sVr_cat hvw).trans hcat
      by_cases b0 : b = 0
      · rw [if_pos b0] at h; cases h
        refine sOK.one (List.prefix_refl _) hM (R' := (nx, ls', w :: w :: r, G', c', s')) ?_ ⟨rfl, hL, ⟨hvw, hvw, hV1⟩, hH, rfl, rfl⟩
        simp only [e26]
        rw [if_pos hwc, if_pos b0]
      rw [if_neg b0] at h
      by_cases b1 : b = 1
      · rw [if_pos b1] at h; cases h
        refine sOK.one (List.prefix_refl _) hM (R' := (nx, ls', r, G', c', s')) ?_ ⟨rfl, hL, hV1, hH, rfl, rfl⟩
        simp only [e26]
        rw [if_pos hwc, if_neg b0, if_pos b1]
      rw [if_neg b1] at h
      by_cases b2 : b = 2
      · rw [if_pos b2] at h
        split at h
        · split at h
          · rename_i hu
            cases h
            obtain ⟨w2, r2, rfl, huw, hV2⟩ := sVs_cons hV1
            refine sOK.one (List.prefix_refl _) hM (R' := (nx, ls', w :: w2 :: w :: w2 :: r2, G', c', s')) ?_ ⟨rfl, hL, ⟨hvw, huw, hvw, huw, hV2⟩, hH, rfl, rfl⟩
            simp only [e26]
            rw [if_pos hwc, if_neg b0, if_neg b1, if_pos b2, if_pos ((sVr_cat huw).trans hu)]
          · cases h
        · cases h
      rw [if_neg b2] at h
      cases h
    · cases h
  · cases h
theorem t30 (hM : sMo ρ S.2.2.2.2.2.2) (hD : sD ρ S R) (h : s30 nx S = some L) : sOK ρ L (e30 nx R) := by
  obtain ⟨pc, ls, st, G, c, s, Γ⟩ := S
  obtain ⟨pc', ls', st', G', c', s'⟩ := R
  obtain ⟨h1, hL, hV, hH, h2, h3⟩ := hD
  simp only at h1 hL hV hH h2 h3 hM
  subst h1; subst h2; subst h3
  unfold s30 at h
  split at h
  · rename_i heq
    cases heq
    obtain ⟨r1, rfl, hV1⟩ := sVs_ref hV
    split at h
    · rename_i hc
      cases h
      refine sOK.one (List.prefix_refl _) hM (R' := (nx, ls', r1, G', c', s')) ?_ ⟨rfl, hL, hV1, hH, rfl, rfl⟩
      simp only [e30]
      rw [if_pos (by rw [sVs_cats hV1]; exact hc)]
    · cases h
  · cases h
theorem sLk_copy {o1 : List (Nat × sL)} {g : Nat → sL} {dp n : Nat} (i : Nat) : sLk (((List.range n).map fun j => (dp + j, g j)) ++ o1.filter (fun q => !(decide (dp ≤ q.1) && decide (q.1 < dp + n)))) i = if dp ≤ i ∧ i < dp + n then some (g (i - dp)) else sLk o1 i := by
  split
  · rename_i h
    unfold sLk
    rw [List.find?_append, List.find?_map]
    have : List.find? ((fun q : Nat × sL => q.1 == i) ∘ fun j => (dp + j, g j)) (List.range n) = some (i - dp) := by
      rw [List.find?_range_eq_some]
      refine ⟨?_, List.mem_range.mpr (by omega), fun j hj => ?_⟩
      · simp
        omega
      · simp
        omega
    rw [this]
    rfl
  · rename_i h
    have h0 : List.find? (fun q : Nat × sL => q.1 == i) ((List.range n).map fun j => (dp + j, g j)) = none := by
      rw [List.find?_eq_none]
      intro q hq
      obtain ⟨j, hj, rfl⟩ := List.mem_map.mp hq
      have := List.mem_range.mp hj
      simp
      omega
    have h1 := sLk_filter (f := fun q => !(decide (dp ≤ q.1) && decide (q.1 < dp + n))) (i := i) (fun q hq => by
      subst hq
      simp only [Bool.not_eq_true', Bool.and_eq_false_iff, decide_eq_false_iff_not]
      omega) o1
    unfold sLk at h1 ⊢
    rw [List.find?_append, h0]
    exact h1
theorem t31 (hRO : sRor ρ SO RO) (hM : sMo ρ S.2.2.2.2.2.2) (hD : sD ρ S R) (h : s31 SO nx S = some L) : sOK ρ L (e31 RO nx R) := by
  have hro := sRor_len hRO
  obtain ⟨pc, ls, st, G, c, s, Γ⟩ := S
  obtain ⟨pc', ls', st', G', c', s'⟩ := R
  obtain ⟨h1, hL, hV, hH, h2, h3⟩ := hD
  simp only at h1 hL hV hH h2 h3 hM
  subst h1; subst h2; subst h3
  unfold s31 at h
  split at h
  · rename_i heq
    cases heq
    obtain ⟨zn, r0, rfl, hn, hV0⟩ := sVs_int hV
    obtain ⟨zd, r1, rfl, hd, hV1⟩ := sVs_int hV0
    obtain ⟨r2, rfl, hV2⟩ := sVs_ref hV1
    obtain ⟨zs, r3, rfl, hs, hV3⟩ := sVs_int hV2
    obtain ⟨r4, rfl, hV4⟩ := sVs_ref hV3
    split at h
    · cases h
    rename_i hc0
    simp only [not_or] at hc0
    split at h
    · rename_i n dp sp ty n0 b0 o0 ty1 n1 b1 o1 hkn hkd hks hg0 hg1
      split at h
      · rename_i hc
        cases h
        obtain ⟨c1, c2, c3, c4, c5, c6, rfl, rfl, c7, c8, c9⟩ := hc
        have e := sK_ok hM.1 hn hkn
        subst e
        have e := sK_ok hM.1 hd hkd
        subst e
        have e := sK_ok hM.1 hs hks
        subst e
        obtain ⟨a1, a2⟩ := sCl c1 c4
        obtain ⟨a3, a4⟩ := sCl c2 c5
        obtain ⟨a5, a6⟩ := sCl c3 c6
        obtain ⟨y0, hy0, hx0⟩ := sHp_get hH hg0
        obtain ⟨y1, hy1, hx1⟩ := sHp_get hH hg1
        rcases y0 with ⟨t0, m0, arr0⟩ | y0
        · rcases y1 with ⟨t1, m1, arr1⟩ | y1
          · obtain ⟨rfl, rfl, q0⟩ := hx0
            obtain ⟨rfl, rfl, q1⟩ := hx1
            rcases arr0 with f | f | f
            · rcases arr1 with g | g | g
              · have hf := q0.2
                have hg := q1.2
                refine sOK.one (List.prefix_refl _) hM (R' := (nx, ls', r4, G'.set _ (.inl (.int, m1, .inl (va_cpy f g zs.toNat zd.toNat zn.toNat))), c', s')) ?_ ⟨rfl, hL, hV4, sHp_set (x := .inl (.int, m1, b1, ((List.range zn.toNat).map fun j => (zd.toNat + j, (sLk o0 (zs.toNat + j)).getD (sC b0.1))) ++ o1.filter (fun q => !(decide (zd.toNat ≤ q.1) && decide (q.1 < zd.toNat + zn.toNat))))) (y := .inl (.int, m1, .inl (va_cpy f g zs.toNat zd.toNat zn.toNat))) ⟨rfl, rfl, Or.inl rfl, fun i hi => ?_⟩ _ hH, rfl, rfl⟩
                · simp only [e31]
                  rw [if_neg (by rw [hro, sVs_cats hV4]; rintro (h9 | h9 | h9 | h9 | h9 | h9) <;> first | exact hc0.1 h9 | exact hc0.2.1 h9 | exact a2 h9 | exact a4 h9 | exact a6 h9 | exact hc0.2.2 h9), hro, hy0, hy1]
                  simp only
                  rw [a1, a3, a5, if_pos ⟨trivial, trivial, c7, c8⟩]
                · rw [sLk_copy (g := fun j => (sLk o0 (zs.toNat + j)).getD (sC b0.1)) i]
                  unfold va_cpy
                  split
                  · rename_i hh
                    split at hh
                    · rename_i hin
                      simp only [Option.some.injEq] at hh
                      subst hh
                      rw [if_pos hin]
                      have hf1 := hf (zs.toNat + (i - zd.toNat)) (by omega)
                      cases hlk : sLk o0 (zs.toNat + (i - zd.toNat)) with
                      | some aa => rw [hlk] at hf1; exact hf1
                      | none =>
                        rw [hlk] at hf1
                        refine ⟨b0.1, sEv_C _, ?_⟩
                        have : (f (zs.toNat + (i - zd.toNat))).toInt = b0.1 := by omega
                        rw [← this, Int32.ofInt_toInt]
                    · rename_i hin
                      rw [if_neg hin]
                      have hg1 := hg i hi
                      rw [hh] at hg1
                      exact hg1
                  · rename_i hh
                    split at hh
                    · cases hh
                    · rename_i hin
                      rw [if_neg hin]
                      have hg1 := hg i hi
                      rw [hh] at hg1
                      exact hg1
              · have := q1.1; cases this
              · have := q1.1; cases this
            · have := q0.1; cases this
            · have := q0.1; cases this
          · exact hx1.elim
        · exact hx0.elim
      · cases h
    · cases h
  · cases h
theorem t32 (hM : sMo ρ S.2.2.2.2.2.2) (hD : sD ρ S R) (h : s32 nx b S = some L) : sOK ρ L (e32 nx b R) := by
  obtain ⟨pc, ls, st, G, c, s, Γ⟩ := S
  obtain ⟨pc', ls', st', G', c', s'⟩ := R
  obtain ⟨h1, hL, hV, hH, h2, h3⟩ := hD
  simp only at h1 hL hV hH h2 h3 hM
  subst h1; subst h2; subst h3
  unfold s32 at h
  split at h
  · rename_i heq
    cases heq
    obtain ⟨zy, r1, rfl, hy, hV1⟩ := sVs_int hV
    obtain ⟨zx, r2, rfl, hx, hV2⟩ := sVs_int hV1
    split at h
    · rename_i hc
      cases h
      have hcat : ¬ 8 < (r2.map fun v => v.category).sum := by rw [sVs_cats hV2]; have := hc.2.2; omega
      rcases sCnd_ok (if b = 0 then 2 else 4) hM hx hy hc.1 hc.2.1 with ⟨e1, Γ', e2, m⟩ | ⟨e1, Γ', e2, m⟩
      · refine ⟨_, List.mem_append_left _ (sOpt_in e2), ρ, (nx, ls', .int (Int32.ofInt zy) :: r2, G', c', s'), List.prefix_refl _, m, ?_, rfl, hL, ⟨⟨zy, hy, rfl⟩, hV2⟩, hH, rfl, rfl⟩
        simp only [e32]
        rw [if_neg hcat]
        by_cases b0 : b = 0
        · rw [if_pos b0] at e1 ⊢
          rw [if_pos (by simpa [eCmp] using e1)]
        · rw [if_neg b0] at e1 ⊢
          rw [if_pos (by simpa [eCmp] using e1)]
      · refine ⟨_, List.mem_append_right _ (sOpt_in e2), ρ, (nx, ls', .int (Int32.ofInt zx) :: r2, G', c', s'), List.prefix_refl _, m, ?_, rfl, hL, ⟨⟨zx, hx, rfl⟩, hV2⟩, hH, rfl, rfl⟩
        simp only [e32]
        rw [if_neg hcat]
        by_cases b0 : b = 0
        · rw [if_pos b0] at e1 ⊢
          rw [if_neg (by simpa [eCmp] using e1)]
        · rw [if_neg b0] at e1 ⊢
          rw [if_neg (by simpa [eCmp] using e1)]
    · cases h
  · cases h
end SPROOF4
end
section
/-! S: a whole symbolic run. -/
section SRUN
variable (SO : List (Nat × List sL)) (CL : List vw_C) (CT : Nat → Nat → FieldType) (MT : Nat → Option eM)
def sStep (mL : Nat) (I : eI) (S : sR) : Option (List sR) := match I with
  | (op, nx, a, b, z, _, sw) =>
    if op = 3 then s3 nx a b S
    else if op = 16 then s16 SO nx b z.toNat S
    else if op = 0 then (match S with | (_, ls, st, G, c, s, Γ) => some [(nx, ls, (0, sC z) :: st, G, c, s, Γ)])
    else if op = 4 then s4 mL nx a b S
    else if op = 5 then s5 mL nx a z S
    else if op = 6 then s6 nx b S
    else if op = 12 then s12 nx a b S
    else if op = 13 then s13 nx a b S
    else if op = 14 then (match S with | (_, ls, st, G, c, s, Γ) => some [(a, ls, st, G, c, s, Γ)])
    else if op = 19 then s19 SO nx b S
    else if op = 20 then s20 SO CL nx b S
    else if op = 17 then s17 SO CT nx b z.toNat S
    else if op = 26 then s26 nx b S
    else if op = 1 then (match S with | (_, ls, st, G, c, s, Γ) => some [(nx, ls, (1, sC z) :: st, G, c, s, Γ)])
    else if op = 7 then s7 nx b S
    else if op = 8 then s8 nx b S
    else if op = 9 then s9 nx S
    else if op = 10 then s10 nx S
    else if op = 15 then s15 a sw S
    else if op = 18 then s18 nx b S
    else if op = 21 then s21 SO nx S
    else if op = 22 then s22 SO CL CT nx b S
    else if op = 23 then s23 SO nx b S
    else if op = 24 then s24 SO CL nx b S
    else if op = 25 then s25 SO nx S
    else if op = 30 then s30 nx S
    else if op = 31 then s31 SO nx S
    else if op = 32 then s32 nx b S
    else none
def sAll (f : sR → Option (List sR)) : List sR → Option (List sR)
  | [] => some []
  | x :: r => match f x with
    | none => none
    | some a => match sAll f r with
      | none => none
      | some b => some (a ++ b)
def sAns (B : List (Int × Int)) (b : Nat) (ret : Option FieldType) (st : List sV) : Bool := match st with
  | [] => decide (b = 0) && decide (ret = none)
  | [(0, x)] => decide (b = 1) && (decide (ret = some .int) || (decide (ret = some .boolean) && sWi B x 0 1))
  | [(1, _)] => decide (b = 2) && decide (ret = some .long)
  | _ => false
def sRecv (G : List sE) (ci : Nat) (v : Option sV) : Bool := match v with
  | some (2, q) => !decide (q.1.toNat < SO.length) && (match G[q.1.toNat - SO.length]? with
    | some (.inr (cj, _)) => decide (cj = ci ∧ cj ≠ 999)
    | _ => false)
  | _ => false
def sCallP (I : eI) (S : sR) : Option (List sV × List sV) := match MT I.2.2.2.1 with
  | none => none
  | some M2 => if I.2.2.2.2.1.toNat + (if I.1 = 41 then 0 else 1) ≤ S.2.2.1.length then
      (if ((S.2.2.1.drop (I.2.2.2.2.1.toNat + (if I.1 = 41 then 0 else 1))).map sCat).sum ≤ 8 ∧ (((S.2.2.1.take (I.2.2.2.2.1.toNat + (if I.1 = 41 then 0 else 1))).reverse).map sCat).sum ≤ M2.2.2.1 ∧ (I.1 = 41 ∨ sRecv SO S.2.2.2.1 I.2.2.1 (S.2.2.1.take (I.2.2.2.2.1.toNat + (if I.1 = 41 then 0 else 1))).reverse.head? = true) then
        some ((S.2.2.1.take (I.2.2.2.2.1.toNat + (if I.1 = 41 then 0 else 1))).reverse, S.2.2.1.drop (I.2.2.2.2.1.toNat + (if I.1 = 41 then 0 else 1))) else none) else none
def sRun : Nat → Nat → Nat → sR → Option (List sR)
  | 0, _, _, _ => none
  | _ + 1, 0, _, _ => none
  | n + 1, d + 1, mi, S => match MT mi with
    | none => none
    | some M => if M.2.2.2.2.1 ≤ S.1 then none else match M.2.2.2.2.2 S.1 with
      | none => none
      | some I => if I.1 = 50 then (if sAns S.2.2.2.2.2.2.1 I.2.2.2.1 M.2.2.2.1 S.2.2.1 = true then some [S] else none)
        else if 40 ≤ I.1 then (match sCallP SO MT I S with
          | none => none
          | some ar => match sRun n d I.2.2.2.1 (0, sArgs 0 ar.1, [], S.2.2.2.1, 0, 0, S.2.2.2.2.2.2) with
            | none => none
            | some outs => sAll (fun o => sRun n (d + 1) mi (I.2.1, S.2.1, o.2.2.1 ++ ar.2, o.2.2.2.1, S.2.2.2.2.1 + o.2.2.2.2.1, S.2.2.2.2.2.1 + o.2.2.2.2.2.1, o.2.2.2.2.2.2)) outs)
        else match sStep SO CL CT M.2.2.1 I S with
          | none => none
          | some L => sAll (sRun n (d + 1) mi) L
end SRUN
section SRUNP
variable {ρ : List Int} {S : sR} {R : eR} {L : List sR} {SO : List (Nat × List sL)} {RO : List (Nat × (Nat → Int32))} {CL : List vw_C} {CT : Nat → Nat → FieldType} {MT : Nat → Option eM} {nx a b mL : Nat}
theorem sAll_in {f : sR → Option (List sR)} : ∀ {xs : List sR} {L : List sR}, sAll f xs = some L → ∀ x ∈ xs, ∃ a, f x = some a ∧ ∀ y ∈ a, y ∈ L
  | [], L, h, x, hx => by cases hx
  | y :: r, L, h, x, hx => by
    simp only [sAll] at h
    split at h
    · cases h
    rename_i a ha
    split at h
    · cases h
    rename_i b hb
    cases h
    rcases List.mem_cons.mp hx with rfl | hx
    · exact ⟨a, ha, fun z hz => List.mem_append_left _ hz⟩
    · obtain ⟨a', h1, h2⟩ := sAll_in hb x hx
      exact ⟨a', h1, fun z hz => List.mem_append_right _ (h2 z hz)⟩
theorem sOK.more {ρ ρ' : List Int} {La L : List sR} {o : Option eR} (h : sOK ρ' La o) (hp : ρ <+: ρ') (hs : ∀ y ∈ La, y ∈ L) : sOK ρ L o := by
  obtain ⟨S', h1, ρ2, R', h2, h3⟩ := h
  exact ⟨S', hs S' h1, ρ2, R', hp.trans h2, h3⟩
theorem sStep_ok (hRO : sRor ρ SO RO) (hM : sMo ρ S.2.2.2.2.2.2) (hD : sD ρ S R) {I : eI} (h : sStep SO CL CT mL I S = some L) : sOK ρ L (eStep RO CL CT mL I R) := by
  have hro := sRor_len hRO
  obtain ⟨op, nx, a, b, z, ws, sw⟩ := I
  simp only [sStep] at h
  simp only [eStep]
  by_cases o3 : op = 3
  · subst o3; simp only [if_true] at h; exact t3 hM hD h
  rw [if_neg o3] at h
  by_cases o16 : op = 16
  · subst o16; simp only [if_true] at h; exact t16 hro hM hD h
  rw [if_neg o16] at h
  by_cases o0 : op = 0
  · subst o0
    simp only [if_true] at h ⊢
    obtain ⟨pc, ls, st, G, c, s, Γ⟩ := S
    obtain ⟨pc', ls', st', G', c', s'⟩ := R
    obtain ⟨h1, hL, hV, hH, h2, h3⟩ := hD
    cases h
    exact sOK.one (List.prefix_refl _) hM rfl ⟨rfl, hL, ⟨⟨z, sEv_C z, rfl⟩, hV⟩, hH, h2, h3⟩
  rw [if_neg o0] at h
  rw [if_neg o0]
  by_cases o4 : op = 4
  · subst o4; exact t4 hM hD h
  rw [if_neg o4] at h
  by_cases o5 : op = 5
  · subst o5; exact t5 hM hD h
  rw [if_neg o5] at h
  by_cases o6 : op = 6
  · subst o6; exact t6 hM hD h
  rw [if_neg o6] at h
  by_cases o12 : op = 12
  · subst o12; exact t12 hM hD h
  rw [if_neg o12] at h
  by_cases o13 : op = 13
  · subst o13; exact t13 hM hD h
  rw [if_neg o13] at h
  by_cases o14 : op = 14
  · subst o14
    obtain ⟨pc, ls, st, G, c, s, Γ⟩ := S
    obtain ⟨pc', ls', st', G', c', s'⟩ := R
    obtain ⟨h1, hL, hV, hH, h2, h3⟩ := hD
    cases h
    exact sOK.one (List.prefix_refl _) hM rfl ⟨rfl, hL, hV, hH, h2, h3⟩
  rw [if_neg o14] at h
  by_cases o19 : op = 19
  · subst o19; exact t19 hRO hM hD h
  rw [if_neg o19] at h
  by_cases o20 : op = 20
  · subst o20; exact t20 hRO hM hD h
  rw [if_neg o20] at h
  by_cases o17 : op = 17
  · subst o17; exact t17 hro hM hD h
  rw [if_neg o17] at h
  by_cases o26 : op = 26
  · subst o26; exact t26 hM hD h
  rw [if_neg o26] at h
  by_cases o1 : op = 1
  · subst o1
    obtain ⟨pc, ls, st, G, c, s, Γ⟩ := S
    obtain ⟨pc', ls', st', G', c', s'⟩ := R
    obtain ⟨h1, hL, hV, hH, h2, h3⟩ := hD
    cases h
    exact sOK.one (List.prefix_refl _) hM rfl ⟨rfl, hL, ⟨⟨z, sEv_C z, rfl⟩, hV⟩, hH, h2, h3⟩
  rw [if_neg o1] at h
  by_cases o7 : op = 7
  · subst o7; exact t7 hM hD h
  rw [if_neg o7] at h
  by_cases o8 : op = 8
  · subst o8; exact t8 hM hD h
  rw [if_neg o8] at h
  by_cases o9 : op = 9
  · subst o9; exact t9 hM hD h
  rw [if_neg o9] at h
  by_cases o10 : op = 10
  · subst o10; exact t10 hM hD h
  rw [if_neg o10] at h
  by_cases o15 : op = 15
  · subst o15; exact t15 hM hD h
  rw [if_neg o15] at h
  by_cases o18 : op = 18
  · subst o18; exact t18 hM hD h
  rw [if_neg o18] at h
  by_cases o21 : op = 21
  · subst o21; exact t21 hRO hM hD h
  rw [if_neg o21] at h
  by_cases o22 : op = 22
  · subst o22; exact t22 hRO hM hD h
  rw [if_neg o22] at h
  by_cases o23 : op = 23
  · subst o23; exact t23 hRO hM hD h
  rw [if_neg o23] at h
  by_cases o24 : op = 24
  · subst o24; exact t24 hRO hM hD h
  rw [if_neg o24] at h
  by_cases o25 : op = 25
  · subst o25; exact t25 hRO hM hD h
  rw [if_neg o25] at h
  by_cases o30 : op = 30
  · subst o30; exact t30 hM hD h
  rw [if_neg o30] at h
  by_cases o31 : op = 31
  · subst o31; exact t31 hRO hM hD h
  rw [if_neg o31] at h
  by_cases o32 : op = 32
  · subst o32; exact t32 hM hD h
  rw [if_neg o32] at h
  cases h
theorem sAns_ok {B : List (Int × Int)} {ret : Option FieldType} {st : List sV} {st' : List Value} (hB : sBd ρ B) (h : sAns B b ret st = true) (hV : sVs ρ st st') : eAns b ret st' = true := by
  unfold sAns at h
  split at h
  · rw [sVs_nil hV]
    exact h
  · obtain ⟨z, r, rfl, hz, hr⟩ := sVs_int hV
    rw [sVs_nil hr]
    simp only [Bool.and_eq_true, Bool.or_eq_true] at h
    simp only [eAns, Bool.and_eq_true, Bool.or_eq_true]
    refine ⟨h.1, ?_⟩
    rcases h.2 with h2 | ⟨h2, h3⟩
    · exact Or.inl h2
    · have q := sWi_ok hB hz h3
      refine Or.inr ⟨h2, ?_⟩
      have hz2 : z = 0 ∨ z = 1 := by omega
      rcases hz2 with rfl | rfl
      · exact Or.inl (by decide)
      · exact Or.inr (by decide)
  · obtain ⟨z, r, rfl, hz, hr⟩ := sVs_long hV
    rw [sVs_nil hr]
    exact h
  · cases h
theorem sRun_ok (hRO0 : ∀ ρ ρ', ρ <+: ρ' → sRor ρ SO RO → sRor ρ' SO RO := fun _ _ h q => q.mono h) : ∀ (n d mi : Nat) (S : sR) (L : List sR), sRun SO CL CT MT n d mi S = some L → ∀ (ρ : List Int) (R : eR), sRor ρ SO RO → sMo ρ S.2.2.2.2.2.2 → sD ρ S R → sOK ρ L (eRun RO CL CT MT n d mi R)
  | 0, _, _, _, _, h => by simp [sRun] at h
  | _ + 1, 0, _, _, _, h => by simp [sRun] at h
  | n + 1, d + 1, mi, S, L, h => by
    intro ρ R hRO hM hD
    simp only [sRun] at h
    simp only [eRun]
    split at h
    · cases h
    rename_i M hMi
    rw [hMi]
    simp only
    have hpc : R.1 = S.1 := hD.1
    split at h
    · cases h
    rename_i hlt
    rw [if_neg (by rw [hpc]; exact hlt), hpc]
    split at h
    · cases h
    rename_i I hI
    rw [hI]
    simp only
    by_cases h50 : I.1 = 50
    · rw [if_pos h50] at h
      rw [if_pos h50]
      split at h
      · rename_i ha
        cases h
        rw [if_pos (sAns_ok hM.1 ha hD.2.2.1)]
        exact ⟨S, List.mem_singleton.mpr rfl, ρ, R, List.prefix_refl _, hM, rfl, hD⟩
      · cases h
    rw [if_neg h50] at h
    rw [if_neg h50]
    by_cases h40 : 40 ≤ I.1
    · rw [if_pos h40] at h
      rw [if_pos h40]
      split at h
      · cases h
      rename_i ar har
      split at h
      · cases h
      rename_i outs houts
      have hro := sRor_len hRO
      have hV := hD.2.2.1
      have hH := hD.2.2.2.1
      unfold sCallP at har
      split at har
      · cases har
      rename_i M2 hM2
      generalize hN : I.2.2.2.2.1.toNat + (if I.1 = 41 then 0 else 1) = N1 at har
      split at har
      · rename_i hlen
        split at har
        · rename_i hc
          cases har
          obtain ⟨hc1, hc2, hc3⟩ := hc
          have hVt : sVs ρ (S.2.2.1.take N1).reverse (R.2.2.1.take N1).reverse := sVs_rev (sVs_take N1 hV)
          have hVd : sVs ρ (S.2.2.1.drop N1) (R.2.2.1.drop N1) := sVs_drop N1 hV
          have hrc : I.1 = 41 ∨ eRecv RO R.2.2.2.1 I.2.2.1 (R.2.2.1.take N1).reverse.head? = true := by
            rcases hc3 with hc3 | hc3
            · exact Or.inl hc3
            · right
              generalize (S.2.2.1.take N1).reverse = sv at hc3 hVt
              generalize (R.2.2.1.take N1).reverse = ev at hVt
              unfold sRecv at hc3
              split at hc3
              · rename_i q hq
                cases sv with
                | nil => cases hq
                | cons v vs =>
                  simp only [List.head?_cons, Option.some.injEq] at hq
                  subst hq
                  obtain ⟨r, rfl, -⟩ := sVs_ref hVt
                  simp only [Bool.and_eq_true, Bool.not_eq_true', decide_eq_false_iff_not] at hc3
                  obtain ⟨hq1, hc3⟩ := hc3
                  split at hc3
                  · rename_i cj fs hg
                    have hc3 := of_decide_eq_true hc3
                    obtain ⟨y, hy, hxy⟩ := sHp_get hH hg (sIsA_ne hc3.2)
                    rcases y with y | ⟨ck, gs⟩
                    · exact hxy.elim
                    obtain ⟨rfl, -⟩ := hxy
                    simp only [eRecv, List.head?_cons, Bool.and_eq_true, Bool.not_eq_true', decide_eq_false_iff_not]
                    rw [hro]
                    refine ⟨hq1, ?_⟩
                    rw [hy]
                    exact decide_eq_true hc3.1
                  · cases hc3
              · cases hc3
          have hcp : eCallP RO MT I R = some (M2, (R.2.2.1.take N1).reverse, R.2.2.1.drop N1) := by
            unfold eCallP
            rw [hM2]
            simp only
            rw [hN]
            unfold eArgs
            rw [if_pos (by rw [sVs_len hV]; exact hlen)]
            simp only
            rw [if_pos ⟨by rw [sVs_cats hVd]; exact hc1, by rw [sVs_cats hVt]; exact hc2, hrc⟩]
          rw [hcp]
          simp only
          have hD0 : sD ρ (0, sArgs 0 (S.2.2.1.take N1).reverse, [], S.2.2.2.1, 0, 0, S.2.2.2.2.2.2) (0, lv_args 0 (R.2.2.1.take N1).reverse, [], R.2.2.2.1, 0, 0) := ⟨rfl, sLs_args 0 hVt, trivial, hH, rfl, rfl⟩
          obtain ⟨o, ho, ρ', R2, hp, hM', he, hD'⟩ := sRun_ok hRO0 n d I.2.2.2.1 _ outs houts ρ _ hRO hM hD0
          rw [he]
          simp only
          obtain ⟨La, hLa, hsub⟩ := sAll_in h o ho
          obtain ⟨e1, e2, e3, e4, e5, e6⟩ := hD'
          refine (sRun_ok hRO0 n (d + 1) mi _ La hLa ρ' (I.2.1, R.2.1, R2.2.2.1 ++ R.2.2.1.drop N1, R2.2.2.2.1, R.2.2.2.2.1 + R2.2.2.2.2.1, R.2.2.2.2.2 + R2.2.2.2.2.2) (hRO0 _ _ hp hRO) hM' ⟨rfl, hD.2.1.mono hp, sVs_app e3 (hVd.mono hp), e4, ?_, ?_⟩).more hp hsub
          · show R.2.2.2.2.1 + _ = S.2.2.2.2.1 + _
            rw [hD.2.2.2.2.1, e5]
          · show R.2.2.2.2.2 + _ = S.2.2.2.2.2.1 + _
            rw [hD.2.2.2.2.2, e6]
        · cases har
      · cases har
    · rw [if_neg h40] at h
      rw [if_neg h40]
      split at h
      · cases h
      rename_i L1 hL1
      obtain ⟨S1, hS1, ρ', R1, hp, hM', he, hD'⟩ := sStep_ok hRO hM hD hL1
      rw [he]
      simp only
      obtain ⟨La, hLa, hsub⟩ := sAll_in h S1 hS1
      exact (sRun_ok hRO0 n (d + 1) mi S1 La hLa ρ' R1 (hRO0 _ _ hp hRO) hM' hD').more hp hsub
end SRUNP
end
section
/-! More fuel and more depth: the same run. -/
section EUP
variable {RO : List (Nat × (Nat → Int32))} {CL : List vw_C} {CT : Nat → Nat → FieldType} {MT : Nat → Option eM}
theorem eRun_up : ∀ (n d mi : Nat) (R Rf : eR), eRun RO CL CT MT n d mi R = some Rf → ∀ n' d' : Nat, n ≤ n' → d ≤ d' → eRun RO CL CT MT n' d' mi R = some Rf
  | 0, _, _, _, _, h => by simp [eRun] at h
  | _ + 1, 0, _, _, _, h => by simp [eRun] at h
  | n + 1, d + 1, mi, R, Rf, h => by
    intro n' d' hn hd
    obtain ⟨n', rfl⟩ : ∃ k, n' = k + 1 := ⟨n' - 1, by omega⟩
    obtain ⟨d', rfl⟩ : ∃ k, d' = k + 1 := ⟨d' - 1, by omega⟩
    have hn : n ≤ n' := by omega
    have hd : d ≤ d' := by omega
    have ih := fun (dd mj : Nat) (R1 Rg : eR) (q : eRun RO CL CT MT n dd mj R1 = some Rg) (d2 : Nat) (hq : dd ≤ d2) => eRun_up n dd mj R1 Rg q n' d2 hn hq
    simp only [eRun] at h ⊢
    split at h
    · cases h
    rename_i M hM
    split at h
    · cases h
    rename_i hlt
    rw [if_neg hlt]
    split at h
    · cases h
    rename_i I hI
    split at h
    · rename_i h50
      rw [if_pos h50]
      exact h
    rename_i h50
    rw [if_neg h50]
    split at h
    · rename_i h40
      rw [if_pos h40]
      split at h
      · cases h
      rename_i ar har
      split at h
      · cases h
      rename_i R2 hR2
      rw [ih d _ _ R2 hR2 d' hd]
      exact ih (d + 1) mi _ Rf h (d' + 1) (by omega)
    · rename_i h40
      rw [if_neg h40]
      split at h
      · cases h
      rename_i R1 h1
      exact ih (d + 1) mi R1 Rf h (d' + 1) (by omega)
/-- a run that comes to its return -/
def eC (RO : List (Nat × (Nat → Int32))) (CL : List vw_C) (CT : Nat → Nat → FieldType) (MT : Nat → Option eM) (d mi : Nat) (R Rf : eR) : Prop := ∃ n, eRun RO CL CT MT n d mi R = some Rf
theorem eC.up {d d' mi : Nat} {R Rf : eR} (h : eC RO CL CT MT d mi R Rf) (hd : d ≤ d') : eC RO CL CT MT d' mi R Rf := by
  obtain ⟨n, h⟩ := h
  exact ⟨n, eRun_up n d mi R Rf h n d' (Nat.le_refl _) hd⟩
/-- one step, then a run -/
theorem eC.step {d mi : Nat} {R R1 Rf : eR} {M : eM} {I : eI} (hM : MT mi = some M) (hlt : R.1 < M.2.2.2.2.1) (hI : M.2.2.2.2.2 R.1 = some I) (h40 : ¬ 40 ≤ I.1) (hs : eStep RO CL CT M.2.2.1 I R = some R1) (h : eC RO CL CT MT (d + 1) mi R1 Rf) : eC RO CL CT MT (d + 1) mi R Rf := by
  obtain ⟨n, h⟩ := h
  refine ⟨n + 1, ?_⟩
  simp only [eRun]
  rw [hM]
  simp only
  rw [if_neg (Nat.not_le.mpr hlt), hI]
  simp only
  rw [if_neg (by omega), if_neg h40, hs]
  exact h
/-- a call, then a run -/
theorem eC.call {d mi : Nat} {R R2 Rf : eR} {M : eM} {I : eI} {ar : eM × List Value × List Value} (hM : MT mi = some M) (hlt : R.1 < M.2.2.2.2.1) (hI : M.2.2.2.2.2 R.1 = some I) (h50 : ¬ I.1 = 50) (h40 : 40 ≤ I.1) (har : eCallP RO MT I R = some ar)
    (hc : eC RO CL CT MT d I.2.2.2.1 (0, lv_args 0 ar.2.1, [], R.2.2.2.1, 0, 0) R2) (h : eC RO CL CT MT (d + 1) mi (I.2.1, R.2.1, R2.2.2.1 ++ ar.2.2, R2.2.2.2.1, R.2.2.2.2.1 + R2.2.2.2.2.1, R.2.2.2.2.2 + R2.2.2.2.2.2) Rf) : eC RO CL CT MT (d + 1) mi R Rf := by
  obtain ⟨n1, h1⟩ := hc
  obtain ⟨n2, h2⟩ := h
  refine ⟨max n1 n2 + 1, ?_⟩
  have h1 := eRun_up n1 d _ _ _ h1 (max n1 n2) d (Nat.le_max_left _ _) (Nat.le_refl _)
  have h2 := eRun_up n2 (d + 1) _ _ _ h2 (max n1 n2) (d + 1) (Nat.le_max_right _ _) (Nat.le_refl _)
  simp only [eRun]
  rw [hM]
  simp only
  rw [if_neg (Nat.not_le.mpr hlt), hI]
  simp only
  rw [if_neg h50, if_pos h40, har]
  simp only
  rw [h1]
  exact h2
/-- at a return -/
theorem eC.ret {d mi : Nat} {R : eR} {M : eM} {I : eI} (hM : MT mi = some M) (hlt : R.1 < M.2.2.2.2.1) (hI : M.2.2.2.2.2 R.1 = some I) (h50 : I.1 = 50) (ha : eAns I.2.2.2.1 M.2.2.2.1 R.2.2.1 = true) : eC RO CL CT MT (d + 1) mi R R := by
  refine ⟨1, ?_⟩
  simp only [eRun]
  rw [hM]
  simp only
  rw [if_neg (Nat.not_le.mpr hlt), hI]
  simp only
  rw [if_pos h50, if_pos ha]
end EUP
end
section
/-! Templates: forms over a template's unknowns, laid over the forms of a caller. -/
def sSubT (σ : List sL) : List (Nat × Int) → Option sL
  | [] => some (0, [])
  | q :: r => match σ[q.1]?, sSubT σ r with
    | some a, some b => some (sAdd (sMul q.2 a) b)
    | _, _ => none
def sSubst (σ : List sL) (a : sL) : Option sL := (sSubT σ a.2).map fun b => sAdd (sC a.1) b
/-- what the template's unknowns are worth -/
def sVal (ρ : List Int) : List sL → Option (List Int)
  | [] => some []
  | a :: r => match sEv ρ a, sVal ρ r with
    | some z, some zs => some (z :: zs)
    | _, _ => none
theorem sVal_get {ρ : List Int} : ∀ {σ : List sL} {vs : List Int}, sVal ρ σ = some vs → ∀ {i : Nat} {a : sL}, σ[i]? = some a → ∃ z, vs[i]? = some z ∧ sEv ρ a = some z
  | [], _, _, i, a, h => by cases h
  | b :: r, vs, hv, i, a, h => by
    simp only [sVal] at hv
    split at hv
    · rename_i z zs hz hzs
      cases hv
      cases i with
      | zero => cases h; exact ⟨z, rfl, hz⟩
      | succ i => exact sVal_get hzs (i := i) h
    · cases hv
theorem sVal_len {ρ : List Int} : ∀ {σ : List sL} {vs : List Int}, sVal ρ σ = some vs → vs.length = σ.length
  | [], vs, h => by cases h; rfl
  | b :: r, vs, h => by
    simp only [sVal] at h
    split at h
    · rename_i z zs hz hzs
      cases h
      exact congrArg Nat.succ (sVal_len hzs)
    · cases h
theorem sSubT_ev {ρ : List Int} {σ : List sL} {vs : List Int} (hv : sVal ρ σ = some vs) : ∀ {l : List (Nat × Int)} {b : sL} {y : Int}, sSubT σ l = some b → sEvT vs l = some y → sEv ρ b = some y
  | [], b, y, h, hy => by
    cases h
    cases hy
    rfl
  | q :: r, b, y, h, hy => by
    simp only [sSubT] at h
    split at h
    · rename_i a b' ha hb
      cases h
      simp only [sEvT] at hy
      split at hy
      · rename_i z w hz hw
        cases hy
        obtain ⟨z', h1, h2⟩ := sVal_get hv ha
        cases hz.symm.trans h1
        exact sEv_add (sEv_mul q.2 h2) (sSubT_ev hv hb hw)
      · cases hy
    · cases h
theorem sSubst_ev {ρ : List Int} {σ : List sL} {vs : List Int} (hv : sVal ρ σ = some vs) {a b : sL} {y : Int} (h : sSubst σ a = some b) (hy : sEv vs a = some y) : sEv ρ b = some y := by
  unfold sSubst at h
  obtain ⟨b', hb, rfl⟩ := Option.map_eq_some_iff.mp h
  unfold sEv at hy
  obtain ⟨w, hw, rfl⟩ := Option.map_eq_some_iff.mp hy
  exact sEv_add (sEv_C a.1) (sSubT_ev hv hb hw)
/-- a form of the template is worth something as soon as its image is there -/
theorem sSubT_has {ρ : List Int} {σ : List sL} {vs : List Int} (hv : sVal ρ σ = some vs) : ∀ {l : List (Nat × Int)} {b : sL}, sSubT σ l = some b → ∃ y, sEvT vs l = some y
  | [], b, _ => ⟨0, rfl⟩
  | q :: r, b, h => by
    simp only [sSubT] at h
    split at h
    · rename_i a b' ha hb
      obtain ⟨z, h1, -⟩ := sVal_get hv ha
      obtain ⟨w, hw⟩ := sSubT_has hv hb
      exact ⟨q.2 * z + w, by simp only [sEvT, h1, hw]⟩
    · cases h
theorem sSubst_has {ρ : List Int} {σ : List sL} {vs : List Int} (hv : sVal ρ σ = some vs) {a b : sL} (h : sSubst σ a = some b) : ∃ y, sEv vs a = some y ∧ sEv ρ b = some y := by
  have h0 := h
  unfold sSubst at h
  obtain ⟨b', hb, rfl⟩ := Option.map_eq_some_iff.mp h
  obtain ⟨w, hw⟩ := sSubT_has hv hb
  have hy : sEv vs a = some (a.1 + w) := by unfold sEv; rw [hw]; rfl
  exact ⟨_, hy, sSubst_ev hv h0 hy⟩
end
section
/-! Fresh unknowns, facts that follow, indices that are no one number. -/
def sFresh (Γ : sG) (b : Int × Int) : sG := (Γ.1 ++ [b], Γ.2)
theorem sFresh_ok {ρ : List Int} {Γ : sG} {b : Int × Int} {z : Int} (hM : sMo ρ Γ) (h1 : b.1 ≤ z) (h2 : z ≤ b.2) : sMo (ρ ++ [z]) (sFresh Γ b) ∧ sEv (ρ ++ [z]) (sX Γ.1.length) = some z := by
  have hpre : ρ <+: ρ ++ [z] := ⟨_, rfl⟩
  have hl : Γ.1.length = ρ.length := hM.1.1
  have hnew : (ρ ++ [z])[Γ.1.length]? = some z := by rw [hl]; simp
  refine ⟨⟨⟨by simp [sFresh, hl], fun i q y hi hz => ?_⟩, fun f hf => ?_, fun f hf => ?_, fun q hq => ?_⟩, sEv_X hnew⟩
  · simp only [sFresh] at hi
    by_cases hlt : i < ρ.length
    · rw [List.getElem?_append_left (by rw [hl]; exact hlt)] at hi
      rw [List.getElem?_append_left hlt] at hz
      exact hM.1.2 i q y hi hz
    · have hi2 : i < Γ.1.length + 1 := by have := (List.getElem?_eq_some_iff.mp hi).1; simpa using this
      have hie : i = ρ.length := by omega
      subst hie
      rw [← hl] at hi hz
      rw [hnew] at hz
      simp at hi
      cases hz; cases hi
      exact ⟨h1, h2⟩
  · obtain ⟨y, e1, e2⟩ := hM.2.1 f hf
    exact ⟨y, sEv_mono hpre e1, e2⟩
  · obtain ⟨y, e1, e2⟩ := hM.2.2.1 f hf
    exact ⟨y, sEv_mono hpre e1, e2⟩
  · obtain ⟨ya, yb, e1, e2, e3⟩ := hM.2.2.2 q hq
    exact ⟨ya, yb, sEv_mono hpre e1, sEv_mono hpre e2, by rw [List.getElem?_append_left (List.getElem?_eq_some_iff.mp e3).1]; exact e3⟩
/-- not below 0, by bounds or by one known fact -/
def sNN (Γ : sG) (a : sL) : Bool := sLo0 Γ.1 a || (Γ.2.1.any (fun f => sLo0 Γ.1 (sSub a f)) || Γ.2.1.any (fun f => Γ.2.1.any (fun g => sLo0 Γ.1 (sSub (sSub a f) g))))
theorem sNN_ok {ρ : List Int} {Γ : sG} (hM : sMo ρ Γ) {a : sL} {z : Int} (ha : sEv ρ a = some z) (h : sNN Γ a = true) : 0 ≤ z := by
  unfold sNN at h
  rcases Bool.or_eq_true_iff.mp h with h | h
  · exact sLo0_ok hM.1 ha h
  rcases Bool.or_eq_true_iff.mp h with h | h
  · obtain ⟨f, hf, h⟩ := List.any_eq_true.mp h
    obtain ⟨y, e1, e2⟩ := hM.2.1 f hf
    have := sLo0_ok hM.1 (sEv_sub ha e1) h
    omega
  · obtain ⟨f, hf, h⟩ := List.any_eq_true.mp h
    obtain ⟨g, hg, h⟩ := List.any_eq_true.mp h
    obtain ⟨y, e1, e2⟩ := hM.2.1 f hf
    obtain ⟨u, e3, e4⟩ := hM.2.1 g hg
    have := sLo0_ok hM.1 (sEv_sub (sEv_sub ha e1) e3) h
    omega
/-- an index within an array -/
def sInR (Γ : sG) (a : sL) (n : Nat) : Bool := sNN Γ a && (sNN Γ (sSub (sC ((n : Int) - 1)) a) && decide (n ≤ 2147483647))
theorem sInR_ok {ρ : List Int} {Γ : sG} (hM : sMo ρ Γ) {a : sL} {n : Nat} {z : Int} (ha : sEv ρ a = some z) (h : sInR Γ a n = true) : (Int32.ofInt z).toNatClampNeg < n ∧ eIn (Int32.ofInt z) n = true := by
  unfold sInR at h
  simp only [Bool.and_eq_true, decide_eq_true_eq] at h
  obtain ⟨h1, h2, h3⟩ := h
  have h1 := sNN_ok hM ha h1
  have h2 := sNN_ok hM (sEv_sub (sEv_C ((n : Int) - 1)) ha) h2
  obtain ⟨k, rfl⟩ : ∃ k : Nat, z = (k : Int) := ⟨z.toNat, by omega⟩
  have e1 : (Int32.ofInt (k : Int)) = nI k := by simp [nI, Int32.ofNat, Int32.ofInt]
  have e2 : (nI k).toNatClampNeg = k := nI_clamp (by omega)
  rw [e1]
  refine ⟨by rw [e2]; omega, ?_⟩
  simp only [eIn, e2, Bool.and_eq_true, Bool.not_eq_true', decide_eq_false_iff_not, decide_eq_true_eq]
  exact ⟨nI_pos (by omega), by omega⟩
/-- between what all an array's numbers lie -/
def sHull (B : List (Int × Int)) (b : Int × Int) : List (Nat × sL) → Option (Int × Int)
  | [] => some b
  | q :: r => match sHull B b r, sIv B q.2 with
    | some h, some i => some (min h.1 i.1, max h.2 i.2)
    | _, _ => none
theorem sHull_b {B : List (Int × Int)} {b : Int × Int} : ∀ {ov : List (Nat × sL)} {h : Int × Int}, sHull B b ov = some h → h.1 ≤ b.1 ∧ b.2 ≤ h.2
  | [], h, q => by cases q; exact ⟨Int.le_refl _, Int.le_refl _⟩
  | x :: r, h, q => by
    simp only [sHull] at q
    split at q
    · rename_i h' i hh _
      cases q
      have ih := sHull_b hh
      simp only
      omega
    · cases q
theorem sHull_in {ρ : List Int} {B : List (Int × Int)} (hB : sBd ρ B) {b : Int × Int} : ∀ {ov : List (Nat × sL)} {h : Int × Int}, sHull B b ov = some h → ∀ x ∈ ov, ∀ z, sEv ρ x.2 = some z → h.1 ≤ z ∧ z ≤ h.2
  | [], h, _, x, hx, _, _ => by cases hx
  | y :: r, h, q, x, hx, z, hz => by
    simp only [sHull] at q
    split at q
    · rename_i h' i hh hi
      cases q
      simp only
      rcases List.mem_cons.mp hx with rfl | hx
      · have := sIv_ok hB hz hi
        omega
      · have := sHull_in hB hh x hx z hz
        omega
    · cases q
theorem sLk_mem {ov : List (Nat × sL)} {i : Nat} {a : sL} (h : sLk ov i = some a) : ∃ x ∈ ov, x.2 = a := by
  unfold sLk at h
  obtain ⟨x, hx, rfl⟩ := Option.map_eq_some_iff.mp h
  exact ⟨x, List.mem_of_find?_eq_some hx, rfl⟩
/-- any number of an array of ints lies within its hull -/
theorem sHull_I {ρ : List Int} {B : List (Int × Int)} (hB : sBd ρ B) {b h : Int × Int} {ov : List (Nat × sL)} {n : Nat} {f : Nat → Int32} (hA : sArI ρ b ov n f) (hh : sHull B b ov = some h) (h1 : -2147483648 ≤ h.1) (h2 : h.2 ≤ 2147483647) {i : Nat} (hi : i < n) : h.1 ≤ (f i).toInt ∧ (f i).toInt ≤ h.2 := by
  have q := hA i hi
  split at q
  · rename_i a ha
    obtain ⟨x, hx, rfl⟩ := sLk_mem ha
    obtain ⟨z, e1, e2⟩ := q
    have e3 := sHull_in hB hh x hx z e1
    rw [e2, Int32.toInt_ofInt_of_le (by omega) (by omega)]
    exact e3
  · have := sHull_b hh
    omega
end
section
/-! Reads and writes at an index that is no one number. -/
section SWEAK
variable {ρ : List Int} {S : sR} {R : eR} {L : List sR} {SO : List (Nat × List sL)} {RO : List (Nat × (Nat → Int32))} {nx b : Nat}
def s19w (SO : List (Nat × List sL)) (nx b : Nat) : sR → Option (List sR)
  | (_, ls, (0, i) :: (2, q) :: st, G, c, s, Γ) => if q.1.toNat < SO.length then none else match G[q.1.toNat - SO.length]? with
    | some (.inl (ty, n, bd, ov)) => if (b = 0 ∧ ty = .int) ∨ (b = 1 ∧ ty = .byte) ∨ (b = 2 ∧ ty = .short) then (match sHull Γ.1 bd ov with
        | some h => if sInR Γ i n = true ∧ -2147483648 ≤ h.1 ∧ h.2 ≤ 2147483647 then some [(nx, ls, (0, sX Γ.1.length) :: st, G, c, s, sFresh Γ h)] else none
        | none => none) else none
    | _ => none
  | _ => none
theorem t19w (hRO : sRor ρ SO RO) (hM : sMo ρ S.2.2.2.2.2.2) (hD : sD ρ S R) (h : s19w SO nx b S = some L) : sOK ρ L (e19 RO nx b R) := by
  have hro := sRor_len hRO
  obtain ⟨pc, ls, st, G, c, s, Γ⟩ := S
  obtain ⟨pc', ls', st', G', c', s'⟩ := R
  obtain ⟨h1, hL, hV, hH, h2, h3⟩ := hD
  simp only at h1 hL hV hH h2 h3 hM
  subst h1; subst h2; subst h3
  unfold s19w at h
  split at h
  · rename_i i q st1 G1 c1 s1 Γ1 heq
    cases heq
    obtain ⟨zi, r0, rfl, hi, hV0⟩ := sVs_int hV
    obtain ⟨r1, rfl, hV1⟩ := sVs_ref hV0
    split at h
    · cases h
    · rename_i hq
      split at h
      · rename_i ty n bd ov hg
        split at h
        · rename_i hc
          split at h
          · rename_i hu hhu
            split at h
            · rename_i hin
              cases h
              obtain ⟨hin, hb1, hb2⟩ := hin
              obtain ⟨hlt, hein⟩ := sInR_ok hM hi hin
              obtain ⟨y, hy, hxy⟩ := sHp_get hH hg
              rcases y with ⟨ty', n', arr⟩ | y
              · obtain ⟨rfl, rfl, harr⟩ := hxy
                rcases arr with f | f | f
                · have hb := sHull_I hM.1 harr.2 hhu hb1 hb2 hlt
                  obtain ⟨m, hx⟩ := sFresh_ok hM hb.1 hb.2
                  have hpre : ρ <+: ρ ++ [(f (Int32.ofInt zi).toNatClampNeg).toInt] := ⟨_, rfl⟩
                  refine sOK.one hpre m (R' := (nx, ls', .int (f (Int32.ofInt zi).toNatClampNeg) :: r1, G', c', s')) ?_ ⟨rfl, hL.mono hpre, ⟨⟨_, hx, by rw [Int32.ofInt_toInt]⟩, hV1.mono hpre⟩, hH.mono hpre, rfl, rfl⟩
                  simp only [e19]
                  rw [if_neg (by rw [hro]; exact hq), hro, hy]
                  simp only
                  rw [if_pos ⟨hc, hein⟩]
                · have := harr.1
                  subst this
                  rcases hc with ⟨-, h9⟩ | ⟨-, h9⟩ | ⟨-, h9⟩ <;> cases h9
                · have := harr.1
                  rcases hc with ⟨-, rfl⟩ | ⟨-, rfl⟩ | ⟨-, rfl⟩ <;> cases this
              · exact hxy.elim
            · cases h
          · cases h
        · cases h
      · cases h
  · cases h
end SWEAK
end
section
/-! Writes at an index that is no one number. -/
section SWEAK2
variable {ρ : List Int} {S : sR} {R : eR} {L : List sR} {SO : List (Nat × List sL)} {RO : List (Nat × (Nat → Int32))} {CL : List vw_C} {nx b : Nat}
def s20w (SO : List (Nat × List sL)) (nx b : Nat) : sR → Option (List sR)
  | (_, ls, (0, lv) :: (0, i) :: (2, q) :: st, G, c, s, Γ) => if q.1.toNat < SO.length then none else match G[q.1.toNat - SO.length]? with
    | some (.inl (ty, n, bd, ov)) => if (b = 0 ∧ ty = .int) ∨ (b = 1 ∧ ty = .byte ∧ sWi Γ.1 lv (-128) 127 = true) ∨ (b = 2 ∧ ty = .short ∧ sWi Γ.1 lv (-32768) 32767 = true) then (match sHull Γ.1 bd ((0, lv) :: ov) with
        | some h => if sInR Γ i n = true ∧ -2147483648 ≤ h.1 ∧ h.2 ≤ 2147483647 then some [(nx, ls, st, G.set (q.1.toNat - SO.length) (.inl (ty, n, h, [])), c, s, Γ)] else none
        | none => none) else none
    | _ => none
  | _ => none
theorem sHull_tl {B : List (Int × Int)} {b h : Int × Int} {x : Nat × sL} {ov : List (Nat × sL)} (hh : sHull B b (x :: ov) = some h) : ∃ h', sHull B b ov = some h' ∧ h.1 ≤ h'.1 ∧ h'.2 ≤ h.2 := by
  simp only [sHull] at hh
  split at hh
  · rename_i h' i hh' _
    cases hh
    exact ⟨h', hh', by simp only; omega, by simp only; omega⟩
  · cases hh
theorem sArI_w {ρ : List Int} {B : List (Int × Int)} (hB : sBd ρ B) {b h : Int × Int} {ov : List (Nat × sL)} {n k : Nat} {f : Nat → Int32} {lv : sL} {z : Int} (hz : sEv ρ lv = some z) (hA : sArI ρ b ov n f) (hh : sHull B b ((0, lv) :: ov) = some h) (h1 : -2147483648 ≤ h.1) (h2 : h.2 ≤ 2147483647) : sArI ρ h [] n (upd f k (Int32.ofInt z)) := by
  intro j hj
  show h.1 ≤ (upd f k (Int32.ofInt z) j).toInt ∧ (upd f k (Int32.ofInt z) j).toInt ≤ h.2
  by_cases hjk : j = k
  · subst hjk
    have q := sHull_in hB hh (0, lv) List.mem_cons_self z hz
    have e : upd f j (Int32.ofInt z) j = Int32.ofInt z := by simp [upd]
    rw [e, Int32.toInt_ofInt_of_le (by omega) (by omega)]
    exact q
  · have e : upd f k (Int32.ofInt z) j = f j := by simp [upd, hjk]
    rw [e]
    obtain ⟨h', hh', q1, q2⟩ := sHull_tl hh
    have := sHull_I hB hA hh' (by omega) (by omega) hj
    omega
theorem t20w (hRO : sRor ρ SO RO) (hM : sMo ρ S.2.2.2.2.2.2) (hD : sD ρ S R) (h : s20w SO nx b S = some L) : sOK ρ L (e20 RO CL nx b R) := by
  have hro := sRor_len hRO
  obtain ⟨pc, ls, st, G, c, s, Γ⟩ := S
  obtain ⟨pc', ls', st', G', c', s'⟩ := R
  obtain ⟨h1, hL, hV, hH, h2, h3⟩ := hD
  simp only at h1 hL hV hH h2 h3 hM
  subst h1; subst h2; subst h3
  unfold s20w at h
  split at h
  · rename_i lv i q st1 G1 c1 s1 Γ1 heq
    cases heq
    obtain ⟨z, rv, rfl, hz, hVv⟩ := sVs_int hV
    obtain ⟨zi, r0, rfl, hi, hV0⟩ := sVs_int hVv
    obtain ⟨r1, rfl, hV1⟩ := sVs_ref hV0
    split at h
    · cases h
    rename_i hq
    split at h
    · rename_i ty n bd ov hg
      split at h
      · rename_i hc
        split at h
        · rename_i hu hhu
          split at h
          · rename_i hin
            cases h
            obtain ⟨hin, hb1, hb2⟩ := hin
            obtain ⟨hlt, hein⟩ := sInR_ok hM hi hin
            obtain ⟨y, hy, hxy⟩ := sHp_get hH hg
            rcases y with ⟨ty', n', arr⟩ | y
            · obtain ⟨rfl, rfl, harr⟩ := hxy
              rcases arr with f | f | f
              · have key : ∀ x : Int32, x = Int32.ofInt z → sD ρ (nx, ls, st1, G.set (q.1.toNat - SO.length) (.inl (ty', n', hu, [])), c', s', Γ) (nx, ls', r1, G'.set (q.1.toNat - SO.length) (.inl (ty', n', .inl (upd f (Int32.ofInt zi).toNatClampNeg x))), c', s') := by
                  intro x hx
                  subst hx
                  exact ⟨rfl, hL, hV1, sHp_set (x := .inl (ty', n', hu, [])) (y := .inl (ty', n', .inl (upd f (Int32.ofInt zi).toNatClampNeg (Int32.ofInt z)))) ⟨rfl, rfl, harr.1, sArI_w hM.1 hz harr.2 hhu hb1 hb2⟩ _ hH, rfl, rfl⟩
                rcases hc with ⟨rfl, rfl⟩ | ⟨rfl, rfl, hw⟩ | ⟨rfl, rfl, hw⟩
                · refine sOK.one (List.prefix_refl _) hM ?_ (key (Int32.ofInt z) rfl)
                  simp only [e20]
                  rw [if_neg (by rw [hro]; exact hq), hro, hy]
                  simp only
                  rw [if_pos hein, if_pos ⟨trivial, trivial⟩]
                · have qw := sWi_ok hM.1 hz hw
                  refine sOK.one (List.prefix_refl _) hM ?_ (key _ (sNarB qw.1 qw.2))
                  simp only [e20]
                  rw [if_neg (by rw [hro]; exact hq), hro, hy]
                  simp only
                  rw [if_pos hein, if_neg (by decide), if_pos ⟨trivial, trivial⟩]
                · have qw := sWi_ok hM.1 hz hw
                  refine sOK.one (List.prefix_refl _) hM ?_ (key _ (sNarS qw.1 qw.2))
                  simp only [e20]
                  rw [if_neg (by rw [hro]; exact hq), hro, hy]
                  simp only
                  rw [if_pos hein, if_neg (by decide), if_neg (by decide), if_pos ⟨trivial, trivial⟩]
              · have := harr.1
                subst this
                rcases hc with ⟨-, h9⟩ | ⟨-, h9, -⟩ | ⟨-, h9, -⟩ <;> cases h9
              · have := harr.1
                rcases hc with ⟨-, rfl⟩ | ⟨-, rfl, -⟩ | ⟨-, rfl, -⟩ <;> cases this
            · exact hxy.elim
          · cases h
        · cases h
      · cases h
    · cases h
  · cases h
end SWEAK2
end
section
/-! The same for arrays of longs. -/
section SWEAK3
variable {ρ : List Int} {S : sR} {R : eR} {L : List sR} {SO : List (Nat × List sL)} {RO : List (Nat × (Nat → Int32))} {CL : List vw_C} {nx : Nat}
theorem sHull_L {ρ : List Int} {B : List (Int × Int)} (hB : sBd ρ B) {b h : Int × Int} {ov : List (Nat × sL)} {n : Nat} {f : Nat → Int64} (hA : sArL ρ b ov n f) (hh : sHull B b ov = some h) (h1 : -9223372036854775808 ≤ h.1) (h2 : h.2 ≤ 9223372036854775807) {i : Nat} (hi : i < n) : h.1 ≤ (f i).toInt ∧ (f i).toInt ≤ h.2 := by
  have q := hA i hi
  split at q
  · rename_i a ha
    obtain ⟨x, hx, rfl⟩ := sLk_mem ha
    obtain ⟨z, e1, e2⟩ := q
    have e3 := sHull_in hB hh x hx z e1
    rw [e2, Int64.toInt_ofInt_of_le (by omega) (by omega)]
    exact e3
  · have := sHull_b hh
    omega
theorem sArL_w {ρ : List Int} {B : List (Int × Int)} (hB : sBd ρ B) {b h : Int × Int} {ov : List (Nat × sL)} {n k : Nat} {f : Nat → Int64} {lv : sL} {z : Int} (hz : sEv ρ lv = some z) (hA : sArL ρ b ov n f) (hh : sHull B b ((0, lv) :: ov) = some h) (h1 : -9223372036854775808 ≤ h.1) (h2 : h.2 ≤ 9223372036854775807) : sArL ρ h [] n (vp_updL f k (Int64.ofInt z)) := by
  intro j hj
  show h.1 ≤ (vp_updL f k (Int64.ofInt z) j).toInt ∧ (vp_updL f k (Int64.ofInt z) j).toInt ≤ h.2
  by_cases hjk : j = k
  · subst hjk
    have q := sHull_in hB hh (0, lv) List.mem_cons_self z hz
    have e : vp_updL f j (Int64.ofInt z) j = Int64.ofInt z := by simp [vp_updL]
    rw [e, Int64.toInt_ofInt_of_le (by omega) (by omega)]
    exact q
  · have e : vp_updL f k (Int64.ofInt z) j = f j := by simp [vp_updL, hjk]
    rw [e]
    obtain ⟨h', hh', q1, q2⟩ := sHull_tl hh
    have := sHull_L hB hA hh' (by omega) (by omega) hj
    omega
def s19l (SO : List (Nat × List sL)) (nx : Nat) : sR → Option (List sR)
  | (_, ls, (0, i) :: (2, q) :: st, G, c, s, Γ) => if q.1.toNat < SO.length then none else match G[q.1.toNat - SO.length]? with
    | some (.inl (ty, n, bd, ov)) => if ty = .long then (match sHull Γ.1 bd ov with
        | some h => if sInR Γ i n = true ∧ -9223372036854775808 ≤ h.1 ∧ h.2 ≤ 9223372036854775807 then some [(nx, ls, (1, sX Γ.1.length) :: st, G, c, s, sFresh Γ h)] else none
        | none => none) else none
    | _ => none
  | _ => none
theorem t19l (hRO : sRor ρ SO RO) (hM : sMo ρ S.2.2.2.2.2.2) (hD : sD ρ S R) (h : s19l SO nx S = some L) : sOK ρ L (e19 RO nx 3 R) := by
  have hro := sRor_len hRO
  obtain ⟨pc, ls, st, G, c, s, Γ⟩ := S
  obtain ⟨pc', ls', st', G', c', s'⟩ := R
  obtain ⟨h1, hL, hV, hH, h2, h3⟩ := hD
  simp only at h1 hL hV hH h2 h3 hM
  subst h1; subst h2; subst h3
  unfold s19l at h
  split at h
  · rename_i i q st1 G1 c1 s1 Γ1 heq
    cases heq
    obtain ⟨zi, r0, rfl, hi, hV0⟩ := sVs_int hV
    obtain ⟨r1, rfl, hV1⟩ := sVs_ref hV0
    split at h
    · cases h
    · rename_i hq
      split at h
      · rename_i ty n bd ov hg
        split at h
        · rename_i hc
          subst hc
          split at h
          · rename_i hu hhu
            split at h
            · rename_i hin
              cases h
              obtain ⟨hin, hb1, hb2⟩ := hin
              obtain ⟨hlt, hein⟩ := sInR_ok hM hi hin
              obtain ⟨y, hy, hxy⟩ := sHp_get hH hg
              rcases y with ⟨ty', n', arr⟩ | y
              · obtain ⟨rfl, rfl, harr⟩ := hxy
                rcases arr with f | f | f
                · rcases harr.1 with h9 | h9 | h9 <;> cases h9
                · have hb := sHull_L hM.1 harr.2 hhu hb1 hb2 hlt
                  obtain ⟨m, hx⟩ := sFresh_ok hM hb.1 hb.2
                  have hpre : ρ <+: ρ ++ [(f (Int32.ofInt zi).toNatClampNeg).toInt] := ⟨_, rfl⟩
                  refine sOK.one hpre m (R' := (nx, ls', .long (f (Int32.ofInt zi).toNatClampNeg) :: r1, G', c', s')) ?_ ⟨rfl, hL.mono hpre, ⟨⟨_, hx, by rw [Int64.ofInt_toInt]⟩, hV1.mono hpre⟩, hH.mono hpre, rfl, rfl⟩
                  simp only [e19]
                  rw [if_neg (by rw [hro]; exact hq), hro, hy]
                  simp only
                  rw [if_pos ⟨⟨trivial, trivial⟩, hein⟩]
                · have := harr.1
                  cases this
              · exact hxy.elim
            · cases h
          · cases h
        · cases h
      · cases h
  · cases h
def s20l (SO : List (Nat × List sL)) (nx : Nat) : sR → Option (List sR)
  | (_, ls, (1, lv) :: (0, i) :: (2, q) :: st, G, c, s, Γ) => if q.1.toNat < SO.length then none else match G[q.1.toNat - SO.length]? with
    | some (.inl (ty, n, bd, ov)) => if ty = .long then (match sHull Γ.1 bd ((0, lv) :: ov) with
        | some h => if sInR Γ i n = true ∧ -9223372036854775808 ≤ h.1 ∧ h.2 ≤ 9223372036854775807 then some [(nx, ls, st, G.set (q.1.toNat - SO.length) (.inl (ty, n, h, [])), c, s, Γ)] else none
        | none => none) else none
    | _ => none
  | _ => none
theorem t20l (hRO : sRor ρ SO RO) (hM : sMo ρ S.2.2.2.2.2.2) (hD : sD ρ S R) (h : s20l SO nx S = some L) : sOK ρ L (e20 RO CL nx 3 R) := by
  have hro := sRor_len hRO
  obtain ⟨pc, ls, st, G, c, s, Γ⟩ := S
  obtain ⟨pc', ls', st', G', c', s'⟩ := R
  obtain ⟨h1, hL, hV, hH, h2, h3⟩ := hD
  simp only at h1 hL hV hH h2 h3 hM
  subst h1; subst h2; subst h3
  unfold s20l at h
  split at h
  · rename_i lv i q st1 G1 c1 s1 Γ1 heq
    cases heq
    obtain ⟨z, rv, rfl, hz, hVv⟩ := sVs_long hV
    obtain ⟨zi, r0, rfl, hi, hV0⟩ := sVs_int hVv
    obtain ⟨r1, rfl, hV1⟩ := sVs_ref hV0
    split at h
    · cases h
    rename_i hq
    split at h
    · rename_i ty n bd ov hg
      split at h
      · rename_i hc
        subst hc
        split at h
        · rename_i hu hhu
          split at h
          · rename_i hin
            cases h
            obtain ⟨hin, hb1, hb2⟩ := hin
            obtain ⟨hlt, hein⟩ := sInR_ok hM hi hin
            obtain ⟨y, hy, hxy⟩ := sHp_get hH hg
            rcases y with ⟨ty', n', arr⟩ | y
            · obtain ⟨rfl, rfl, harr⟩ := hxy
              rcases arr with f | f | f
              · rcases harr.1 with h9 | h9 | h9 <;> cases h9
              · refine sOK.one (List.prefix_refl _) hM (R' := (nx, ls', r1, G'.set (q.1.toNat - SO.length) (.inl (.long, n', .inr (.inl (vp_updL f (Int32.ofInt zi).toNatClampNeg (Int64.ofInt z))))), c', s')) ?_ ⟨rfl, hL, hV1, sHp_set (x := .inl (.long, n', hu, [])) (y := .inl (.long, n', .inr (.inl (vp_updL f (Int32.ofInt zi).toNatClampNeg (Int64.ofInt z))))) ⟨rfl, rfl, harr.1, sArL_w hM.1 hz harr.2 hhu hb1 hb2⟩ _ hH, rfl, rfl⟩
                simp only [e20]
                rw [if_neg (by rw [hro]; exact hq), hro, hy]
                simp only
                rw [if_pos ⟨⟨trivial, trivial⟩, hein⟩]
              · have := harr.1
                cases this
            · exact hxy.elim
          · cases h
        · cases h
      · cases h
    · cases h
  · cases h
end SWEAK3
end
section
/-! A state below a template: values and arrays. -/
def sVb (σ : List sL) (t a : sV) : Bool := if t.1 = 4 then (if a.1 = 2 then t.2.2.any (fun q => q.1 == a.2.1.toNat) else decide (a.1 = 4) && a.2.2.all (fun r => t.2.2.any (fun q => q.1 == r.1))) else decide (t.1 = a.1) && (if t.1 ≤ 1 then (match sSubst σ t.2 with
  | some f => decide (f = a.2)
  | none => false) else if t.1 = 2 then decide (t.2.1 = a.2.1) else decide (t.1 = 3))
theorem sVb_ok {ρ vs : List Int} {σ : List sL} (hv : sVal ρ σ = some vs) {t a : sV} {w : Value} (h : sVb σ t a = true) (q : sVr ρ a w) : sVr vs t w := by
  unfold sVb at h
  split at h
  · rename_i h4
    unfold sVr
    rw [if_neg (by omega), if_neg (by omega), if_neg (by omega), if_neg (by omega), if_pos h4]
    split at h
    · rename_i h2
      obtain ⟨r, hr, hq⟩ := List.any_eq_true.mp h
      unfold sVr at q
      rw [if_neg (by omega), if_neg (by omega), if_pos h2] at q
      exact ⟨r, hr, by rw [q, beq_iff_eq.mp hq]⟩
    · simp only [Bool.and_eq_true, decide_eq_true_eq] at h
      obtain ⟨h1, h2⟩ := h
      unfold sVr at q
      rw [if_neg (by omega), if_neg (by omega), if_neg (by omega), if_neg (by omega), if_pos h1] at q
      obtain ⟨r, hr, rfl⟩ := q
      obtain ⟨r2, hr2, hq⟩ := List.any_eq_true.mp (List.all_eq_true.mp h2 r hr)
      exact ⟨r2, hr2, by rw [beq_iff_eq.mp hq]⟩
  rename_i hn4
  simp only [Bool.and_eq_true, decide_eq_true_eq] at h
  obtain ⟨h1, h2⟩ := h
  obtain ⟨t1, t2⟩ := t
  obtain ⟨a1, a2⟩ := a
  simp only at h1 h2 hn4
  subst h1
  unfold sVr at q ⊢
  simp only at q ⊢
  split at h2
  · rename_i hle
    split at h2
    · rename_i f hf
      have h2 := of_decide_eq_true h2
      subst h2
      obtain ⟨y, e1, e2⟩ := sSubst_has hv hf
      by_cases h0 : t1 = 0
      · rw [if_pos h0] at q ⊢
        obtain ⟨z, e3, e4⟩ := q
        cases e2.symm.trans e3
        exact ⟨y, e1, e4⟩
      · have h1 : t1 = 1 := by omega
        rw [if_neg h0, if_pos h1] at q ⊢
        obtain ⟨z, e3, e4⟩ := q
        cases e2.symm.trans e3
        exact ⟨y, e1, e4⟩
    · cases h2
  · rename_i hgt
    rw [if_neg (by omega), if_neg (by omega)] at q ⊢
    split at h2
    · rename_i h22
      rw [if_pos h22] at q ⊢
      rw [of_decide_eq_true h2]
      exact q
    · rename_i h22
      have h3 := of_decide_eq_true h2
      rw [if_neg h22, if_pos h3] at q ⊢
      exact q
def sVsb (σ : List sL) : List sV → List sV → Bool
  | [], [] => true
  | t :: ts, a :: as => sVb σ t a && sVsb σ ts as
  | _, _ => false
theorem sVsb_ok {ρ vs : List Int} {σ : List sL} (hv : sVal ρ σ = some vs) : ∀ {ts as : List sV} {ws : List Value}, sVsb σ ts as = true → sVs ρ as ws → sVs vs ts ws
  | [], [], [], _, _ => trivial
  | [], [], _ :: _, _, q => q.elim
  | _ :: _, [], _, h, _ => by simp [sVsb] at h
  | [], _ :: _, _, h, _ => by simp [sVsb] at h
  | t :: ts, a :: as, [], _, q => q.elim
  | t :: ts, a :: as, w :: ws, h, q => by
    simp only [sVsb, Bool.and_eq_true] at h
    exact ⟨sVb_ok hv h.1 q.1, sVsb_ok hv h.2 q.2⟩
theorem sLk_at {ov : List (Nat × sL)} {i : Nat} {a : sL} (h : sLk ov i = some a) : (i, a) ∈ ov := by
  unfold sLk at h
  obtain ⟨x, hx, rfl⟩ := Option.map_eq_some_iff.mp h
  have h1 := List.find?_some hx
  have h2 : x.1 = i := beq_iff_eq.mp h1
  rw [← h2]
  exact List.mem_of_find?_eq_some hx
/-- the told places of a template's array stand in the state, with the same forms; all else lies within its bounds -/
def sOvb (σ : List sL) (b : Int × Int) (tov ov : List (Nat × sL)) : Bool := tov.all (fun x => match sLk ov x.1, sSubst σ x.2 with
  | some a, some f => decide (a = f)
  | none, some f => decide (b.1 = b.2) && decide (sC b.1 = f)
  | _, _ => false)
def sAb (B : List (Int × Int)) (σ : List sL) (lo hi : Int) (tb b : Int × Int) (tov ov : List (Nat × sL)) : Bool := sOvb σ b tov ov && (match sHull B b (ov.filter (fun q => (sLk tov q.1).isNone)) with
  | some h => decide (tb.1 ≤ h.1) && (decide (h.2 ≤ tb.2) && (decide (lo ≤ h.1) && decide (h.2 ≤ hi)))
  | none => false)
theorem sAbI_ok {ρ vs : List Int} {σ : List sL} (hv : sVal ρ σ = some vs) {B : List (Int × Int)} (hB : sBd ρ B) {tb b : Int × Int} {tov ov : List (Nat × sL)} {n : Nat} {f : Nat → Int32} (h : sAb B σ (-2147483648) 2147483647 tb b tov ov = true) (q : sArI ρ b ov n f) : sArI vs tb tov n f := by
  unfold sAb at h
  rw [Bool.and_eq_true] at h
  obtain ⟨h1, h2⟩ := h
  split at h2
  · rename_i hu hhu
    simp only [Bool.and_eq_true, decide_eq_true_eq] at h2
    intro i hi
    have qi := q i hi
    split
    · rename_i tf htf
      have h3 := List.all_eq_true.mp h1 (i, tf) (sLk_at htf)
      simp only at h3
      split at h3
      · rename_i a ff ha hff
        have h3 := of_decide_eq_true h3
        subst h3
        rw [ha] at qi
        obtain ⟨z, e1, e2⟩ := qi
        obtain ⟨y, e3, e4⟩ := sSubst_has hv hff
        cases e1.symm.trans e4
        exact ⟨_, e3, e2⟩
      · rename_i ff ha hff
        simp only [Bool.and_eq_true, decide_eq_true_eq] at h3
        obtain ⟨h3, h4⟩ := h3
        rw [ha] at qi
        subst h4
        obtain ⟨y, e3, e4⟩ := sSubst_has hv hff
        rw [sEv_C] at e4
        cases e4
        refine ⟨_, e3, ?_⟩
        have e5 : (f i).toInt = b.1 := by omega
        rw [← e5]
        simp
      · cases h3
    · rename_i hno
      split at qi
      · rename_i a ha
        obtain ⟨z, e1, e2⟩ := qi
        have hm : (i, a) ∈ ov.filter (fun q => (sLk tov q.1).isNone) := List.mem_filter.mpr ⟨sLk_at ha, by simp [hno]⟩
        have e3 := sHull_in hB hhu (i, a) hm z e1
        rw [e2, Int32.toInt_ofInt_of_le (by omega) (by omega)]
        omega
      · have := sHull_b hhu
        omega
  · cases h2
theorem sAbL_ok {ρ vs : List Int} {σ : List sL} (hv : sVal ρ σ = some vs) {B : List (Int × Int)} (hB : sBd ρ B) {tb b : Int × Int} {tov ov : List (Nat × sL)} {n : Nat} {f : Nat → Int64} (h : sAb B σ (-9223372036854775808) 9223372036854775807 tb b tov ov = true) (q : sArL ρ b ov n f) : sArL vs tb tov n f := by
  unfold sAb at h
  rw [Bool.and_eq_true] at h
  obtain ⟨h1, h2⟩ := h
  split at h2
  · rename_i hu hhu
    simp only [Bool.and_eq_true, decide_eq_true_eq] at h2
    intro i hi
    have qi := q i hi
    split
    · rename_i tf htf
      have h3 := List.all_eq_true.mp h1 (i, tf) (sLk_at htf)
      simp only at h3
      split at h3
      · rename_i a ff ha hff
        have h3 := of_decide_eq_true h3
        subst h3
        rw [ha] at qi
        obtain ⟨z, e1, e2⟩ := qi
        obtain ⟨y, e3, e4⟩ := sSubst_has hv hff
        cases e1.symm.trans e4
        exact ⟨_, e3, e2⟩
      · rename_i ff ha hff
        simp only [Bool.and_eq_true, decide_eq_true_eq] at h3
        obtain ⟨h3, h4⟩ := h3
        rw [ha] at qi
        subst h4
        obtain ⟨y, e3, e4⟩ := sSubst_has hv hff
        rw [sEv_C] at e4
        cases e4
        refine ⟨_, e3, ?_⟩
        have e5 : (f i).toInt = b.1 := by omega
        rw [← e5]
        simp
      · cases h3
    · rename_i hno
      split at qi
      · rename_i a ha
        obtain ⟨z, e1, e2⟩ := qi
        have hm : (i, a) ∈ ov.filter (fun q => (sLk tov q.1).isNone) := List.mem_filter.mpr ⟨sLk_at ha, by simp [hno]⟩
        have e3 := sHull_in hB hhu (i, a) hm z e1
        rw [e2, Int64.toInt_ofInt_of_le (by omega) (by omega)]
        omega
      · have := sHull_b hhu
        omega
  · cases h2
end
section
/-! A state below a template: the whole heap, the facts. -/
def sQb (tov ov : List (Nat × sL)) (n : Nat) : Bool := (List.range n).all (fun i => decide ((sLk tov i).map (fun a => a.1.toNat) = (sLk ov i).map (fun a => a.1.toNat)))
theorem sQb_ok {tov ov : List (Nat × sL)} {n : Nat} {f : Nat → Option Nat} (h : sQb tov ov n = true) (q : sArQ ov n f) : sArQ tov n f := by
  intro i hi
  rw [q i hi]
  exact (of_decide_eq_true (List.all_eq_true.mp h i (List.mem_range.mpr hi))).symm
def sEb (B : List (Int × Int)) (σ : List sL) (t a : sE) : Bool := match t, a with
  | .inl (ty, n, tb, tov), .inl (ty', n', b, ov) => decide (ty = ty') && (decide (n = n') && (if ty.isReference = true then sQb tov ov n else if ty = .long then sAb B σ (-9223372036854775808) 9223372036854775807 tb b tov ov else sAb B σ (-2147483648) 2147483647 tb b tov ov))
  | .inr (ci, fs), .inr (ci', gs) => decide (ci = ci') && sVsb σ fs gs
  | _, _ => false
theorem sEb_ok {ρ vs : List Int} {σ : List sL} (hv : sVal ρ σ = some vs) {B : List (Int × Int)} (hB : sBd ρ B) {t a : sE} {y : eE} (h : sEb B σ t a = true) (q : sEr ρ a y) : sEr vs t y := by
  rcases t with ⟨ty, n, tb, tov⟩ | ⟨ci, fs⟩
  · rcases a with ⟨ty', n', b, ov⟩ | ⟨ci', gs⟩
    · simp only [sEb, Bool.and_eq_true, decide_eq_true_eq] at h
      obtain ⟨rfl, rfl, h⟩ := h
      rcases y with ⟨ty2, n2, arr⟩ | y
      · obtain ⟨rfl, rfl, harr⟩ := q
        refine ⟨rfl, rfl, ?_⟩
        rcases arr with f | f | f
        · obtain ⟨h1, h2⟩ := harr
          rw [if_neg (by rcases h1 with rfl | rfl | rfl <;> decide), if_neg (by rcases h1 with rfl | rfl | rfl <;> decide)] at h
          exact ⟨h1, sAbI_ok hv hB h h2⟩
        · obtain ⟨h1, h2⟩ := harr
          subst h1
          rw [if_neg (by decide), if_pos rfl] at h
          exact ⟨rfl, sAbL_ok hv hB h h2⟩
        · obtain ⟨h1, h2⟩ := harr
          rw [if_pos h1] at h
          exact ⟨h1, sQb_ok h h2⟩
      · exact q.elim
    · simp [sEb] at h
  · rcases a with ⟨ty', n', b, ov⟩ | ⟨ci', gs⟩
    · simp [sEb] at h
    · simp only [sEb, Bool.and_eq_true, decide_eq_true_eq] at h
      obtain ⟨rfl, h⟩ := h
      rcases y with y | ⟨c2, hs⟩
      · exact q.elim
      · obtain ⟨rfl, q⟩ := q
        exact ⟨rfl, sVsb_ok hv h q⟩
/-- each told local of a template stands in the state -/
def sLsb (σ : List sL) (ts as : List (Nat × sV)) : Bool := ts.all (fun t => match sGetL as t.1 with
  | some a => sVb σ t.2 a
  | none => false)
theorem sLsb_ok {ρ vs : List Int} {σ : List sL} (hv : sVal ρ σ = some vs) {ts as : List (Nat × sV)} {ws : List (Nat × Value)} (h : sLsb σ ts as = true) (q : sLs ρ as ws) : sLs vs ts ws := by
  intro i t ht
  unfold sGetL at ht
  obtain ⟨p, hp, rfl⟩ := Option.map_eq_some_iff.mp ht
  have h1 := List.all_eq_true.mp h p (List.mem_of_find?_eq_some hp)
  have h2a := List.find?_some hp
  have h2 : p.1 = i := beq_iff_eq.mp h2a
  subst h2
  split at h1
  · rename_i a ha
    obtain ⟨w, h3, h4⟩ := q p.1 a ha
    exact ⟨w, h3, sVb_ok hv h1 h4⟩
  · cases h1
end
section
/-! A state below a template: its unknowns, their bounds and facts. -/
theorem sIvT_has {ρ : List Int} {B : List (Int × Int)} (hB : sBd ρ B) : ∀ {l : List (Nat × Int)} {i : Int × Int}, sIvT B l = some i → ∃ y, sEvT ρ l = some y
  | [], _, _ => ⟨0, rfl⟩
  | q :: r, i, h => by
    simp only [sIvT] at h
    split at h
    · rename_i b j hb hj
      obtain ⟨y, hy⟩ := sIvT_has hB hj
      have hl : q.1 < ρ.length := by rw [← hB.1]; exact (List.getElem?_eq_some_iff.mp hb).1
      exact ⟨q.2 * ρ[q.1] + y, by simp only [sEvT, List.getElem?_eq_getElem hl, hy]⟩
    · cases h
theorem sWi_has {ρ : List Int} {B : List (Int × Int)} (hB : sBd ρ B) {a : sL} {lo hi : Int} (h : sWi B a lo hi = true) : ∃ z, sEv ρ a = some z ∧ lo ≤ z ∧ z ≤ hi := by
  have h0 := h
  unfold sWi at h
  split at h
  · rename_i i hi'
    unfold sIv at hi'
    obtain ⟨j, hj, -⟩ := Option.map_eq_some_iff.mp hi'
    obtain ⟨y, hy⟩ := sIvT_has hB hj
    have e : sEv ρ a = some (a.1 + y) := by unfold sEv; rw [hy]; rfl
    exact ⟨_, e, sWi_ok hB e h0⟩
  · cases h
theorem sIv_has {ρ : List Int} {B : List (Int × Int)} (hB : sBd ρ B) {a : sL} {i : Int × Int} (h : sIv B a = some i) : ∃ z, sEv ρ a = some z := by
  unfold sIv at h
  obtain ⟨j, hj, -⟩ := Option.map_eq_some_iff.mp h
  obtain ⟨y, hy⟩ := sIvT_has hB hj
  exact ⟨a.1 + y, by unfold sEv; rw [hy]; rfl⟩
/-- a form within bounds, by its own interval or by facts -/
def sWf (Γ : sG) (a : sL) (lo hi : Int) : Bool := match sIv Γ.1 a with
  | some i => (decide (lo ≤ i.1) || sNN Γ (sSub a (sC lo))) && (decide (i.2 ≤ hi) || sNN Γ (sSub (sC hi) a))
  | none => false
theorem sWf_has {ρ : List Int} {Γ : sG} (hM : sMo ρ Γ) {a : sL} {lo hi : Int} (h : sWf Γ a lo hi = true) : ∃ z, sEv ρ a = some z ∧ lo ≤ z ∧ z ≤ hi := by
  unfold sWf at h
  split at h
  · rename_i i hi'
    obtain ⟨z, hz⟩ := sIv_has hM.1 hi'
    have hb := sIv_ok hM.1 hz hi'
    simp only [Bool.and_eq_true, Bool.or_eq_true, decide_eq_true_eq] at h
    refine ⟨z, hz, ?_, ?_⟩
    · rcases h.1 with h1 | h1
      · omega
      · have := sNN_ok hM (sEv_sub hz (sEv_C lo)) h1
        omega
    · rcases h.2 with h1 | h1
      · omega
      · have := sNN_ok hM (sEv_sub (sEv_C hi) hz) h1
        omega
  · cases h
def sBb (Γ : sG) : List (Int × Int) → List sL → Bool
  | [], [] => true
  | b :: bs, a :: as => sWf Γ a b.1 b.2 && sBb Γ bs as
  | _, _ => false
theorem sBb_ok {ρ : List Int} {Γ : sG} (hM : sMo ρ Γ) : ∀ {T : List (Int × Int)} {σ : List sL}, sBb Γ T σ = true → ∃ vs, sVal ρ σ = some vs ∧ sBd vs T
  | [], [], _ => ⟨[], rfl, rfl, fun i b z h _ => by simp at h⟩
  | _ :: _, [], h => by simp [sBb] at h
  | [], _ :: _, h => by simp [sBb] at h
  | b :: bs, a :: as, h => by
    simp only [sBb, Bool.and_eq_true] at h
    obtain ⟨z, e1, e2⟩ := sWf_has hM h.1
    obtain ⟨vs, e3, e4, e5⟩ := sBb_ok hM h.2
    refine ⟨z :: vs, by simp only [sVal, e1, e3], by simp [e4], fun i b' z' hi hz => ?_⟩
    cases i with
    | zero => simp at hi hz; subst hi; subst hz; exact e2
    | succ i => exact e5 i b' z' (by simpa using hi) (by simpa using hz)
/-- a template's bounds and facts hold of what is laid in; it has no definitions and no facts of the other kind -/
def sGb (Γ : sG) (σ : List sL) (T : sG) : Bool := sBb Γ T.1 σ && (T.2.1.all (fun f => match sSubst σ f with
  | some g => sNN Γ g
  | none => false) && (T.2.2.1.isEmpty && T.2.2.2.isEmpty))
theorem sGb_ok {ρ : List Int} {Γ : sG} {σ : List sL} {T : sG} (hM : sMo ρ Γ) (h : sGb Γ σ T = true) : ∃ vs, sVal ρ σ = some vs ∧ sMo vs T := by
  unfold sGb at h
  simp only [Bool.and_eq_true] at h
  obtain ⟨h1, h2, h3, h4⟩ := h
  obtain ⟨vs, hv, hb⟩ := sBb_ok hM h1
  refine ⟨vs, hv, hb, fun f hf => ?_, fun f hf => ?_, fun q hq => ?_⟩
  · have h5 := List.all_eq_true.mp h2 f hf
    split at h5
    · rename_i g hg
      obtain ⟨y, e1, e2⟩ := sSubst_has hv hg
      exact ⟨y, e1, sNN_ok hM e2 h5⟩
    · cases h5
  · rw [List.isEmpty_iff.mp h3] at hf
    cases hf
  · rw [List.isEmpty_iff.mp h4] at hq
    cases hq
end
section
/-! A contract's new unknowns, laid behind the caller's. -/
theorem sVal_mono {ρ ρ' : List Int} (hp : ρ <+: ρ') : ∀ {σ : List sL} {vs : List Int}, sVal ρ σ = some vs → sVal ρ' σ = some vs
  | [], vs, h => h
  | a :: r, vs, h => by
    simp only [sVal] at h ⊢
    split at h
    · rename_i z zs hz hzs
      rw [sEv_mono hp hz, sVal_mono hp hzs]
      exact h
    · cases h
theorem sVal_app {ρ : List Int} {τ : List sL} {ws : List Int} (hw : sVal ρ τ = some ws) : ∀ {σ : List sL} {vs : List Int}, sVal ρ σ = some vs → sVal ρ (σ ++ τ) = some (vs ++ ws)
  | [], vs, h => by cases h; exact hw
  | a :: r, vs, h => by
    simp only [sVal] at h
    split at h
    · rename_i z zs hz hzs
      cases h
      simp only [List.cons_append, sVal, hz, sVal_app hw hzs]
    · cases h
def sNewX : Nat → Nat → List sL
  | _, 0 => []
  | k, n + 1 => sX k :: sNewX (k + 1) n
theorem sVal_new {ρ : List Int} : ∀ {new : List Int} {k : Nat}, (∀ (i : Nat) (z : Int), new[i]? = some z → ρ[k + i]? = some z) → sVal ρ (sNewX k new.length) = some new
  | [], _, _ => rfl
  | z :: r, k, h => by
    have h0 : sEv ρ (sX k) = some z := sEv_X (by simpa using h 0 z rfl)
    have hr : sVal ρ (sNewX (k + 1) r.length) = some r := sVal_new fun i y hy => by
      have := h (i + 1) y (by simpa using hy)
      rw [show k + 1 + i = k + (i + 1) by omega]
      exact this
    simp only [List.length_cons, sNewX, sVal, h0, hr]
theorem sVal_lay {ρ new : List Int} {σ : List sL} {vs : List Int} (h : sVal ρ σ = some vs) : sVal (ρ ++ new) (σ ++ sNewX ρ.length new.length) = some (vs ++ new) :=
  sVal_app (sVal_new fun i z hz => by rw [List.getElem?_append_right (by omega), Nat.add_sub_cancel_left]; exact hz) (sVal_mono ⟨new, rfl⟩ h)
end
section
/-! A template's things, in the caller's forms. -/
def sPV (σ : List sL) (t : sV) : Option sV := if t.1 ≤ 1 then (sSubst σ t.2).map fun f => (t.1, f) else some t
theorem sPV_ok {ρ vs : List Int} {σ : List sL} (hv : sVal ρ σ = some vs) {t a : sV} {w : Value} (h : sPV σ t = some a) (q : sVr vs t w) : sVr ρ a w := by
  unfold sPV at h
  split at h
  · rename_i hle
    obtain ⟨f, hf, rfl⟩ := Option.map_eq_some_iff.mp h
    obtain ⟨y, e1, e2⟩ := sSubst_has hv hf
    unfold sVr at q ⊢
    simp only
    by_cases h0 : t.1 = 0
    · rw [if_pos h0] at q ⊢
      obtain ⟨z, e3, e4⟩ := q
      cases e1.symm.trans e3
      exact ⟨_, e2, e4⟩
    · have h1 : t.1 = 1 := by omega
      rw [if_neg h0, if_pos h1] at q ⊢
      obtain ⟨z, e3, e4⟩ := q
      cases e1.symm.trans e3
      exact ⟨_, e2, e4⟩
  · rename_i hgt
    cases h
    unfold sVr at q ⊢
    rw [if_neg (by omega), if_neg (by omega)] at q ⊢
    exact q
def sPVs (σ : List sL) : List sV → Option (List sV)
  | [] => some []
  | t :: ts => match sPV σ t, sPVs σ ts with
    | some a, some as => some (a :: as)
    | _, _ => none
theorem sPVs_ok {ρ vs : List Int} {σ : List sL} (hv : sVal ρ σ = some vs) : ∀ {ts as : List sV} {ws : List Value}, sPVs σ ts = some as → sVs vs ts ws → sVs ρ as ws
  | [], as, [], h, _ => by cases h; exact trivial
  | [], _, _ :: _, _, q => q.elim
  | t :: ts, _, [], _, q => q.elim
  | t :: ts, as, w :: ws, h, q => by
    simp only [sPVs] at h
    split at h
    · rename_i a as' ha has
      cases h
      exact ⟨sPV_ok hv ha q.1, sPVs_ok hv has q.2⟩
    · cases h
def sPO (σ : List sL) : List (Nat × sL) → Option (List (Nat × sL))
  | [] => some []
  | x :: r => match sSubst σ x.2, sPO σ r with
    | some f, some r' => some ((x.1, f) :: r')
    | _, _ => none
theorem sPO_lk {σ : List sL} {i : Nat} : ∀ {ov ov' : List (Nat × sL)}, sPO σ ov = some ov' → (sLk ov i = none ∧ sLk ov' i = none) ∨ ∃ a f, sLk ov i = some a ∧ sSubst σ a = some f ∧ sLk ov' i = some f
  | [], ov', h => by cases h; exact Or.inl ⟨rfl, rfl⟩
  | x :: r, ov', h => by
    simp only [sPO] at h
    split at h
    · rename_i f r' hf hr
      cases h
      by_cases hx : (x.1 == i) = true
      · exact Or.inr ⟨x.2, f, by simp [sLk, List.find?_cons, hx], hf, by simp [sLk, List.find?_cons, hx]⟩
      · have ih := sPO_lk (i := i) hr
        have e1 : sLk (x :: r) i = sLk r i := by simp [sLk, List.find?_cons, hx]
        have e2 : sLk ((x.1, f) :: r') i = sLk r' i := by simp [sLk, List.find?_cons, hx]
        rw [e1, e2]
        exact ih
    · cases h
end
section
/-! A template's heap, in the caller's forms. -/
theorem sPO_I {ρ vs : List Int} {σ : List sL} (hv : sVal ρ σ = some vs) {b : Int × Int} {ov ov' : List (Nat × sL)} {n : Nat} {f : Nat → Int32} (h : sPO σ ov = some ov') (q : sArI vs b ov n f) : sArI ρ b ov' n f := by
  intro i hi
  have qi := q i hi
  rcases sPO_lk (i := i) h with ⟨e1, e2⟩ | ⟨a, g, e1, e2, e3⟩
  · rw [e1] at qi
    rw [e2]
    exact qi
  · rw [e1] at qi
    rw [e3]
    obtain ⟨z, q1, q2⟩ := qi
    exact ⟨z, sSubst_ev hv e2 q1, q2⟩
theorem sPO_L {ρ vs : List Int} {σ : List sL} (hv : sVal ρ σ = some vs) {b : Int × Int} {ov ov' : List (Nat × sL)} {n : Nat} {f : Nat → Int64} (h : sPO σ ov = some ov') (q : sArL vs b ov n f) : sArL ρ b ov' n f := by
  intro i hi
  have qi := q i hi
  rcases sPO_lk (i := i) h with ⟨e1, e2⟩ | ⟨a, g, e1, e2, e3⟩
  · rw [e1] at qi
    rw [e2]
    exact qi
  · rw [e1] at qi
    rw [e3]
    obtain ⟨z, q1, q2⟩ := qi
    exact ⟨z, sSubst_ev hv e2 q1, q2⟩
def sPE (σ : List sL) (t : sE) : Option sE := match t with
  | .inl (ty, n, b, ov) => if ty.isReference = true then some (.inl (ty, n, b, ov)) else (sPO σ ov).map fun ov' => .inl (ty, n, b, ov')
  | .inr (ci, fs) => (sPVs σ fs).map fun gs => .inr (ci, gs)
theorem sPE_ok {ρ vs : List Int} {σ : List sL} (hv : sVal ρ σ = some vs) {t a : sE} {y : eE} (h : sPE σ t = some a) (q : sEr vs t y) : sEr ρ a y := by
  rcases t with ⟨ty, n, b, ov⟩ | ⟨ci, fs⟩
  · rcases y with ⟨ty2, n2, arr⟩ | y
    · obtain ⟨rfl, rfl, harr⟩ := q
      simp only [sPE] at h
      split at h
      · rename_i href
        cases h
        refine ⟨rfl, rfl, ?_⟩
        rcases arr with f | f | f
        · rcases harr.1 with rfl | rfl | rfl <;> cases href
        · have := harr.1
          subst this
          cases href
        · exact harr
      · rename_i href
        obtain ⟨ov', ho, rfl⟩ := Option.map_eq_some_iff.mp h
        refine ⟨rfl, rfl, ?_⟩
        rcases arr with f | f | f
        · exact ⟨harr.1, sPO_I hv ho harr.2⟩
        · exact ⟨harr.1, sPO_L hv ho harr.2⟩
        · exact absurd harr.1 href
    · exact q.elim
  · rcases y with y | ⟨c2, hs⟩
    · exact q.elim
    · obtain ⟨rfl, q⟩ := q
      simp only [sPE] at h
      obtain ⟨gs, hg, rfl⟩ := Option.map_eq_some_iff.mp h
      exact ⟨rfl, sPVs_ok hv hg q⟩
end
section
/-! The caller's world behind a contract. -/
def sPF (σ : List sL) : List sL → Option (List sL)
  | [] => some []
  | f :: r => match sSubst σ f, sPF σ r with
    | some g, some r' => some (g :: r')
    | _, _ => none
theorem sPF_in {σ : List sL} : ∀ {fs gs : List sL}, sPF σ fs = some gs → ∀ g ∈ gs, ∃ f ∈ fs, sSubst σ f = some g
  | [], gs, h, g, hg => by cases h; cases hg
  | f :: r, gs, h, g, hg => by
    simp only [sPF] at h
    split at h
    · rename_i g0 r' hg0 hr
      cases h
      rcases List.mem_cons.mp hg with rfl | hg
      · exact ⟨f, List.mem_cons_self, hg0⟩
      · obtain ⟨f', h1, h2⟩ := sPF_in hr g hg
        exact ⟨f', List.mem_cons_of_mem _ h1, h2⟩
    · cases h
def sJoin (Γ : sG) (σ : List sL) (m : Nat) (U : sG) : Option sG := (sPF σ U.2.1).map fun fs => (Γ.1 ++ U.1.drop m, fs ++ Γ.2.1, Γ.2.2)
theorem sJoin_ok {ρ vs new : List Int} {Γ U Γ' : sG} {σ : List sL} (hM : sMo ρ Γ) (hv : sVal (ρ ++ new) σ = some (vs ++ new)) (hU : sMo (vs ++ new) U) (h : sJoin Γ σ vs.length U = some Γ') : sMo (ρ ++ new) Γ' := by
  have hpre : ρ <+: ρ ++ new := ⟨_, rfl⟩
  obtain ⟨fs, hf, rfl⟩ := Option.map_eq_some_iff.mp h
  have hl : Γ.1.length = ρ.length := hM.1.1
  have hlU : U.1.length = vs.length + new.length := by rw [hU.1.1, List.length_append]
  refine ⟨⟨by simp [hl, hlU], fun i b z hi hz => ?_⟩, fun f hff => ?_, fun f hff => ?_, fun q hq => ?_⟩
  · simp only at hi
    by_cases hlt : i < ρ.length
    · rw [List.getElem?_append_left (by rw [hl]; exact hlt)] at hi
      rw [List.getElem?_append_left hlt] at hz
      exact hM.1.2 i b z hi hz
    · rw [List.getElem?_append_right (by omega), hl, List.getElem?_drop] at hi
      rw [List.getElem?_append_right (by omega)] at hz
      exact hU.1.2 (vs.length + (i - ρ.length)) b z hi (by rw [List.getElem?_append_right (by omega), Nat.add_sub_cancel_left]; exact hz)
  · rcases List.mem_append.mp hff with hff | hff
    · obtain ⟨f0, h1, h2⟩ := sPF_in hf f hff
      obtain ⟨z, e1, e2⟩ := hU.2.1 f0 h1
      exact ⟨z, sSubst_ev hv h2 e1, e2⟩
    · obtain ⟨z, e1, e2⟩ := hM.2.1 f hff
      exact ⟨z, sEv_mono hpre e1, e2⟩
  · obtain ⟨z, e1, e2⟩ := hM.2.2.1 f hff
    exact ⟨z, sEv_mono hpre e1, e2⟩
  · obtain ⟨ya, yb, e1, e2, e3⟩ := hM.2.2.2 q hq
    exact ⟨ya, yb, sEv_mono hpre e1, sEv_mono hpre e2, by rw [List.getElem?_append_left (List.getElem?_eq_some_iff.mp e3).1]; exact e3⟩
end
section
/-! K: states with atoms; what a contract is. -/
/-- an atom: which, of which numbers -/
abbrev kA : Type := Nat × List sL
abbrev kS : Type := sR × List kA
/-- an end of a contract: bounds and facts (the template's first), stack, told cells, atoms -/
abbrev kU : Type := sG × List sV × List (Nat × sE) × List kA
/-- a contract: method, place; (locals, told cells, bounds and facts, atoms); ends; (depth, level, rank); cells that may change, counts -/
abbrev kC : Type := (Nat × Nat) × (List (Nat × sV) × List (Nat × sE) × sG × List kA) × List kU × (sL × Nat × sL) × List Nat × Nat × Nat
def sIsAny : sE := .inr (999, [])
/-- sHp, place by place -/
theorem sHp_at {ρ : List Int} : ∀ {xs : List sE} {ys : List eE}, sHp ρ xs ys ↔ ys.length = xs.length ∧ ∀ (k : Nat) (x : sE) (y : eE), xs[k]? = some x → ys[k]? = some y → sIsA x = true ∨ sEr ρ x y
  | [], [] => ⟨fun _ => ⟨rfl, fun k x y h _ => by simp at h⟩, fun _ => trivial⟩
  | [], _ :: _ => ⟨fun h => h.elim, fun h => by simp at h⟩
  | _ :: _, [] => ⟨fun h => h.elim, fun h => by simp at h⟩
  | a :: xs, b :: ys => by
    have ih := sHp_at (ρ := ρ) (xs := xs) (ys := ys)
    constructor
    · rintro ⟨h1, h2⟩
      obtain ⟨h3, h4⟩ := ih.mp h2
      refine ⟨congrArg Nat.succ h3, fun k x y hx hy => ?_⟩
      cases k with
      | zero => simp at hx hy; subst hx; subst hy; exact h1
      | succ k => exact h4 k x y (by simpa using hx) (by simpa using hy)
    · rintro ⟨h1, h2⟩
      exact ⟨h2 0 a b rfl rfl, ih.mpr ⟨by simpa using h1, fun k x y hx hy => h2 (k + 1) x y (by simpa using hx) (by simpa using hy)⟩⟩
/-- cells of which nothing is told any more -/
def kForget (md : List Nat) (G : List sE) : List sE := md.foldl (fun G j => G.set j sIsAny) G
theorem kForget_len : ∀ (md : List Nat) (G : List sE), (kForget md G).length = G.length
  | [], _ => rfl
  | j :: r, G => by
    have := kForget_len r (G.set j sIsAny)
    rw [List.length_set] at this
    exact this
theorem kForget_at {k : Nat} : ∀ (md : List Nat) (G : List sE) (x : sE), (kForget md G)[k]? = some x → sIsA x = true ∨ (md.contains k = false ∧ G[k]? = some x)
  | [], G, x, h => Or.inr ⟨rfl, h⟩
  | j :: r, G, x, h => by
    rcases kForget_at r (G.set j sIsAny) x h with h1 | ⟨h1, h2⟩
    · exact Or.inl h1
    · by_cases hjk : j = k
      · subst hjk
        have hl : j < (G.set j sIsAny).length := (List.getElem?_eq_some_iff.mp h2).1
        rw [List.length_set] at hl
        rw [List.getElem?_set_self hl] at h2
        cases h2
        exact Or.inl rfl
      · rw [List.getElem?_set_ne hjk] at h2
        refine Or.inr ⟨?_, h2⟩
        rw [List.contains_cons, h1, Bool.or_false]
        simpa using fun e : k = j => hjk e.symm
theorem kForget_ok {ρ : List Int} {md : List Nat} {G : List sE} {H H' : List eE} (h : sHp ρ G H) (hl : H'.length = H.length) (hf : ∀ j, md.contains j = false → H'[j]? = H[j]?) : sHp ρ (kForget md G) H' := by
  obtain ⟨h1, h2⟩ := sHp_at.mp h
  refine sHp_at.mpr ⟨by rw [kForget_len, hl, h1], fun k x y hx hy => ?_⟩
  rcases kForget_at md G x hx with h3 | ⟨h3, h4⟩
  · exact Or.inl h3
  · rw [hf k h3] at hy
    exact h2 k x y h4 hy
/-- told cells, laid into a heap -/
def kLay (cs : List (Nat × sE)) (G : List sE) : List sE := cs.foldl (fun G q => G.set q.1 q.2) G
theorem kLay_ok {ρ : List Int} {H : List eE} : ∀ {cs : List (Nat × sE)} {G : List sE}, sHp ρ G H → (∀ q ∈ cs, ∃ y, H[q.1]? = some y ∧ sEr ρ q.2 y) → sHp ρ (kLay cs G) H
  | [], _, h, _ => h
  | q :: r, G, h, hc => by
    obtain ⟨y, h1, h2⟩ := hc q List.mem_cons_self
    have h3 := sHp_set h2 q.1 h
    rw [sSet_self h1] at h3
    show sHp ρ (kLay r (G.set q.1 q.2)) H
    exact kLay_ok h3 fun p hp => hc p (List.mem_cons_of_mem _ hp)
theorem kLay_len : ∀ (cs : List (Nat × sE)) (G : List sE), (kLay cs G).length = G.length
  | [], _ => rfl
  | q :: r, G => by
    have := kLay_len r (G.set q.1 q.2)
    rw [List.length_set] at this
    exact this
theorem kAnyHp {ρ : List Int} : ∀ {H : List eE}, sHp ρ (List.replicate H.length sIsAny) H
  | [] => trivial
  | _ :: r => ⟨Or.inl rfl, kAnyHp (H := r)⟩
/-- forms, over a caller's -/
def kSub (σ : List sL) (fs : List sL) : Option (List sL) := sPF σ fs
theorem sVal_sub {ρ vs : List Int} {σ : List sL} (hv : sVal ρ σ = some vs) : ∀ {fs gs : List sL} {zs : List Int}, sPF σ fs = some gs → sVal vs fs = some zs → sVal ρ gs = some zs
  | [], gs, zs, h, hz => by cases h; cases hz; rfl
  | f :: r, gs, zs, h, hz => by
    simp only [sPF] at h
    simp only [sVal] at hz
    split at h
    · rename_i g r' hg hr
      cases h
      split at hz
      · rename_i z zs' e1 e2
        cases hz
        simp only [sVal, sSubst_ev hv hg e1, sVal_sub hv hr e2]
      · cases hz
    · cases h
theorem sVal_subR {ρ vs : List Int} {σ : List sL} (hv : sVal ρ σ = some vs) : ∀ {fs gs : List sL} {zs : List Int}, sPF σ fs = some gs → sVal ρ gs = some zs → sVal vs fs = some zs
  | [], gs, zs, h, hz => by cases h; cases hz; rfl
  | f :: r, gs, zs, h, hz => by
    simp only [sPF] at h
    split at h
    · rename_i g r' hg hr
      cases h
      simp only [sVal] at hz
      split at hz
      · rename_i z zs' e1 e2
        cases hz
        obtain ⟨y, e3, e4⟩ := sSubst_has hv hg
        cases e1.symm.trans e4
        simp only [sVal, e3, sVal_subR hv hr e2]
      · cases hz
    · cases h
section KDEF
variable (GP : Nat → List Int → List eE → Prop)
def kGh (ρ : List Int) (γ : List kA) (H : List eE) : Prop := ∀ q ∈ γ, ∃ zs, sVal ρ q.2 = some zs ∧ GP q.1 zs H
def kD (ρ : List Int) (K : kS) (R : eR) : Prop := sMo ρ K.1.2.2.2.2.2.2 ∧ sD ρ K.1 R ∧ kGh GP ρ K.2 R.2.2.2.1
/-- at an end: all but place and locals -/
def kE (ρ : List Int) (K : kS) (R : eR) : Prop := sMo ρ K.1.2.2.2.2.2.2 ∧ sVs ρ K.1.2.2.1 R.2.2.1 ∧ sHp ρ K.1.2.2.2.1 R.2.2.2.1 ∧ (R.2.2.2.2.1 = K.1.2.2.2.2.1 ∧ R.2.2.2.2.2 = K.1.2.2.2.2.2.1) ∧ kGh GP ρ K.2 R.2.2.2.1
theorem kGh.mono {ρ ρ' : List Int} (h : ρ <+: ρ') {γ : List kA} {H : List eE} (q : kGh GP ρ γ H) : kGh GP ρ' γ H := fun a ha => by
  obtain ⟨zs, h1, h2⟩ := q a ha
  exact ⟨zs, sVal_mono h h1, h2⟩
theorem kD.toE {ρ : List Int} {K : kS} {R : eR} (h : kD GP ρ K R) : kE GP ρ K R := ⟨h.1, h.2.1.2.2.1, h.2.1.2.2.2.1, h.2.1.2.2.2.2, h.2.2⟩
/-- told cells of a heap -/
def kCe (ρ : List Int) (cs : List (Nat × sE)) (H : List eE) : Prop := ∀ q ∈ cs, ∃ y, H[q.1]? = some y ∧ sEr ρ q.2 y
def kPre (nh : Nat) (c : kC) (vs : List Int) (ws : List (Nat × Value)) (H : List eE) : Prop :=
  sMo vs c.2.1.2.2.1 ∧ sLs vs c.2.1.1 ws ∧ H.length = nh ∧ kCe vs c.2.1.2.1 H ∧ kGh GP vs c.2.1.2.2.2 H
def kPost (c : kC) (U : kU) (vs new : List Int) (H : List eE) (Rf : eR) : Prop :=
  sMo (vs ++ new) U.1 ∧ sVs (vs ++ new) U.2.1 Rf.2.2.1 ∧ Rf.2.2.2.1.length = H.length ∧ kCe (vs ++ new) U.2.2.1 Rf.2.2.2.1 ∧ (∀ j, c.2.2.2.2.1.contains j = false → Rf.2.2.2.1[j]? = H[j]?) ∧ (Rf.2.2.2.2.1 = c.2.2.2.2.2.1 ∧ Rf.2.2.2.2.2 = c.2.2.2.2.2.2) ∧ kGh GP (vs ++ new) U.2.2.2 Rf.2.2.2.1
variable (RO : List (Nat × (Nat → Int32))) (CL : List vw_C) (CT : Nat → Nat → FieldType) (MT : Nat → Option eM)
def kHolds (nh : Nat) (c : kC) (vs : List Int) : Prop := ∀ (ws : List (Nat × Value)) (H : List eE), kPre GP nh c vs ws H → ∀ dv, sEv vs c.2.2.2.1.1 = some dv →
  ∃ U ∈ c.2.2.1, ∃ new Rf, eC RO CL CT MT dv.toNat c.1.1 (c.1.2, ws, [], H, c.2.2.2.2.2.1, c.2.2.2.2.2.2) Rf ∧ kPost GP c U vs new H Rf
end KDEF
end
section
/-! K: laying a state's forms into a contract's template. -/
/-- the next unknown of a template, if the form is just that -/
def kPut (t a : sL) (p : Nat × List sL) : Nat × List sL := match t.2 with
  | [q] => if q.1 = p.1 ∧ q.2 = 1 ∧ t.1 = 0 then (p.1 + 1, a :: p.2) else p
  | _ => p
def kPutV (t a : sV) (p : Nat × List sL) : Nat × List sL := if t.1 ≤ 1 then kPut t.2 a.2 p else p
def kPutVs : List sV → List sV → Nat × List sL → Nat × List sL
  | t :: ts, a :: as, p => kPutVs ts as (kPutV t a p)
  | _, _, p => p
def kPutO (b : Int × Int) (ov : List (Nat × sL)) : List (Nat × sL) → Nat × List sL → Nat × List sL
  | [], p => p
  | x :: r, p => kPutO b ov r (kPut x.2 ((sLk ov x.1).getD (sC b.1)) p)
def kPutE (t a : sE) (p : Nat × List sL) : Nat × List sL := match t, a with
  | .inl (ty, _, _, tov), .inl (_, _, b, ov) => if ty.isReference = true then p else kPutO b ov tov p
  | .inr (_, fs), .inr (_, gs) => kPutVs fs gs p
  | _, _ => p
def kPutL (as : List (Nat × sV)) : List (Nat × sV) → Nat × List sL → Nat × List sL
  | [], p => p
  | t :: r, p => kPutL as r (match sGetL as t.1 with
    | some a => kPutV t.2 a p
    | none => p)
def kPutH (G : List sE) : List (Nat × sE) → Nat × List sL → Nat × List sL
  | [], p => p
  | t :: r, p => kPutH G r (match G[t.1]? with
    | some a => kPutE t.2 a p
    | none => p)
def kPutF : List sL → List sL → Nat × List sL → Nat × List sL
  | t :: ts, a :: as, p => kPutF ts as (kPut t a p)
  | _, _, p => p
/-- whether forms agree as far as the template's unknowns are known -/
def kCon (n : Nat) (σ : List sL) : List sL → List sL → Bool
  | [], [] => true
  | t :: ts, a :: as => (if t.2.any (fun q => decide (n ≤ q.1)) then true else match sSubst σ t with
    | some f => decide (f = a)
    | none => false) && kCon n σ ts as
  | _, _ => false
def kPutA (γ : List kA) : List kA → Nat × List sL → Nat × List sL
  | [], p => p
  | t :: r, p => kPutA γ r (match γ.find? (fun q => decide (q.1 = t.1) && kCon p.1 p.2.reverse t.2 q.2) with
    | some q => kPutF t.2 q.2 p
    | none => p)
/-- told cells below a heap's -/
def kCb (B : List (Int × Int)) (σ : List sL) (G : List sE) (cs : List (Nat × sE)) : Bool := cs.all (fun t => match G[t.1]? with
  | some a => !sIsA a && sEb B σ t.2 a
  | none => false)
def kAb (σ : List sL) (γ : List kA) (ts : List kA) : Bool := ts.all (fun t => match sPF σ t.2 with
  | some fs => γ.any (fun q => decide (q.1 = t.1) && decide (q.2 = fs))
  | none => false)
theorem kCb_ok {ρ vs : List Int} {σ : List sL} (hv : sVal ρ σ = some vs) {B : List (Int × Int)} (hB : sBd ρ B) {G : List sE} {H : List eE} {cs : List (Nat × sE)} (hH : sHp ρ G H) (h : kCb B σ G cs = true) : kCe vs cs H := by
  intro t ht
  have h1 := List.all_eq_true.mp h t ht
  split at h1
  · rename_i a ha
    simp only [Bool.and_eq_true, Bool.not_eq_true'] at h1
    obtain ⟨y, h2, h3⟩ := sHp_get hH ha h1.1
    exact ⟨y, h2, sEb_ok hv hB h1.2 h3⟩
  · cases h1
theorem kAb_ok {GP : Nat → List Int → List eE → Prop} {ρ vs : List Int} {σ : List sL} (hv : sVal ρ σ = some vs) {γ ts : List kA} {H : List eE} (hg : kGh GP ρ γ H) (h : kAb σ γ ts = true) : kGh GP vs ts H := by
  intro t ht
  have h1 := List.all_eq_true.mp h t ht
  split at h1
  · rename_i fs hfs
    obtain ⟨q, hq, h2⟩ := List.any_eq_true.mp h1
    simp only [Bool.and_eq_true, decide_eq_true_eq] at h2
    obtain ⟨zs, e1, e2⟩ := hg q hq
    rw [h2.2] at e1
    rw [h2.1] at e2
    exact ⟨zs, sVal_subR hv hfs e1, e2⟩
  · cases h1
/-- a state's forms for a contract's unknowns -/
def kMat (nh : Nat) (c : kC) (ls : List (Nat × sV)) (G : List sE) (Γ : sG) (γ : List kA) : Option (List sL) :=
  match (kPutA γ c.2.1.2.2.2 (kPutH G c.2.1.2.1 (kPutL ls c.2.1.1 (0, [])))).2.reverse with
  | σ => if (decide (G.length = nh) && (sGb Γ σ c.2.1.2.2.1 && (sLsb σ c.2.1.1 ls && (kCb Γ.1 σ G c.2.1.2.1 && kAb σ γ c.2.1.2.2.2)))) = true then some σ else none
theorem kMat_ok {GP : Nat → List Int → List eE → Prop} {nh : Nat} {c : kC} {ls : List (Nat × sV)} {G : List sE} {Γ : sG} {γ : List kA} {σ : List sL} (h : kMat nh c ls G Γ γ = some σ) {ρ : List Int} {ws : List (Nat × Value)} {H : List eE} (hM : sMo ρ Γ) (hL : sLs ρ ls ws) (hH : sHp ρ G H) (hg : kGh GP ρ γ H) :
    ∃ vs, sVal ρ σ = some vs ∧ kPre GP nh c vs ws H := by
  unfold kMat at h
  simp only at h
  split at h
  · rename_i hc
    simp only [Bool.and_eq_true, decide_eq_true_eq] at hc
    obtain ⟨h1, h2, h3, h4, h5⟩ := hc
    simp only [Option.some.injEq] at h
    subst h
    obtain ⟨vs, hv, hT⟩ := sGb_ok hM h2
    exact ⟨vs, hv, hT, sLsb_ok hv h3 hL, by rw [(sHp_at.mp hH).1, h1], kCb_ok hv hM.1 hH h4, kAb_ok hv hg h5⟩
  · cases h
def sPC (σ : List sL) : List (Nat × sE) → Option (List (Nat × sE))
  | [] => some []
  | t :: r => match sPE σ t.2, sPC σ r with
    | some a, some as => some ((t.1, a) :: as)
    | _, _ => none
theorem sPC_ok {ρ vs : List Int} {σ : List sL} (hv : sVal ρ σ = some vs) {H : List eE} : ∀ {cs ds : List (Nat × sE)}, sPC σ cs = some ds → kCe vs cs H → kCe ρ ds H
  | [], ds, h, _ => by cases h; exact fun q hq => by cases hq
  | t :: r, ds, h, hc => by
    simp only [sPC] at h
    split at h
    · rename_i a as ha has
      cases h
      have ih := sPC_ok hv has (fun q hq => hc q (List.mem_cons_of_mem _ hq))
      intro q hq
      rcases List.mem_cons.mp hq with rfl | hq
      · obtain ⟨y, h1, h2⟩ := hc t List.mem_cons_self
        exact ⟨y, h1, sPE_ok hv ha h2⟩
      · exact ih q hq
    · cases h
def sPA (σ : List sL) : List kA → Option (List kA)
  | [] => some []
  | t :: r => match sPF σ t.2, sPA σ r with
    | some a, some as => some ((t.1, a) :: as)
    | _, _ => none
theorem sPA_ok {GP : Nat → List Int → List eE → Prop} {ρ vs : List Int} {σ : List sL} (hv : sVal ρ σ = some vs) {H : List eE} : ∀ {cs ds : List kA}, sPA σ cs = some ds → kGh GP vs cs H → kGh GP ρ ds H
  | [], ds, h, _ => by cases h; exact fun q hq => by cases hq
  | t :: r, ds, h, hc => by
    simp only [sPA] at h
    split at h
    · rename_i a as ha has
      cases h
      have ih := sPA_ok hv has (fun q hq => hc q (List.mem_cons_of_mem _ hq))
      intro q hq
      rcases List.mem_cons.mp hq with rfl | hq
      · obtain ⟨zs, h1, h2⟩ := hc t List.mem_cons_self
        exact ⟨zs, sVal_sub hv ha h1, h2⟩
      · exact ih q hq
    · cases h
/-- a contract's end, in the caller's forms -/
def kEnd (dep : Nat → List Nat) (c : kC) (σ : List sL) (G : List sE) (Γ : sG) (γ : List kA) (U : kU) : Option kS :=
  match σ ++ sNewX Γ.1.length (U.1.1.length - σ.length) with
  | τ => match sJoin Γ τ σ.length U.1, sPVs τ U.2.1, sPC τ U.2.2.1, sPA τ U.2.2.2 with
    | some Γ', some st, some cs, some as => some ((0, [], st, kLay cs (kForget c.2.2.2.2.1 G), c.2.2.2.2.2.1, c.2.2.2.2.2.2, Γ'), as ++ γ.filter (fun q => (dep q.1).all (fun j => !c.2.2.2.2.1.contains j)))
    | _, _, _, _ => none
theorem kEnd_ok {GP : Nat → List Int → List eE → Prop} {dep : Nat → List Nat} (hGP : ∀ k zs (H H' : List eE), (∀ j ∈ dep k, H'[j]? = H[j]?) → GP k zs H → GP k zs H') {c : kC} {σ : List sL} {G : List sE} {Γ : sG} {γ : List kA} {U : kU} {K' : kS} (h : kEnd dep c σ G Γ γ U = some K')
    {ρ vs new : List Int} {H : List eE} {Rf : eR} (hM : sMo ρ Γ) (hv : sVal ρ σ = some vs) (hH : sHp ρ G H) (hg : kGh GP ρ γ H) (hP : kPost GP c U vs new H Rf) : kE GP (ρ ++ new) K' Rf := by
  obtain ⟨p1, p2, p3, p4, p5, p6, p7⟩ := hP
  have hls := sVal_len hv
  have hlU : U.1.1.length - σ.length = new.length := by rw [p1.1.1, List.length_append, hls]; omega
  have hlay := sVal_lay (new := new) hv
  rw [← hM.1.1] at hlay
  unfold kEnd at h
  rw [hlU] at h
  simp only at h
  split at h
  · rename_i Γ' st cs as e1 e2 e3 e4
    cases h
    rw [← hls] at e1
    have hpre : ρ <+: ρ ++ new := ⟨_, rfl⟩
    refine ⟨sJoin_ok hM hlay p1 e1, sPVs_ok hlay e2 p2, kLay_ok (kForget_ok (hH.mono hpre) p3 p5) (sPC_ok hlay e3 p4), p6, fun q hq => ?_⟩
    rcases List.mem_append.mp hq with hq | hq
    · exact sPA_ok hlay e4 p7 q hq
    · obtain ⟨hq, hd⟩ := List.mem_filter.mp hq
      obtain ⟨zs, q1, q2⟩ := hg q hq
      refine ⟨zs, sVal_mono hpre q1, hGP _ _ H _ (fun j hj => ?_) q2⟩
      have := List.all_eq_true.mp hd j hj
      exact p5 j (by simpa using this)
  · cases h
end
section
/-! K: a run that uses contracts. -/
def kAll {α β : Type} (f : α → Option (List β)) : List α → Option (List β)
  | [] => some []
  | x :: r => match f x with
    | none => none
    | some a => match kAll f r with
      | none => none
      | some b => some (a ++ b)
theorem kAll_in {α β : Type} {f : α → Option (List β)} : ∀ {xs : List α} {L : List β}, kAll f xs = some L → ∀ x ∈ xs, ∃ a, f x = some a ∧ ∀ y ∈ a, y ∈ L
  | [], L, h, x, hx => by cases hx
  | y :: r, L, h, x, hx => by
    simp only [kAll] at h
    split at h
    · cases h
    rename_i a ha
    split at h
    · cases h
    rename_i b hb
    cases h
    rcases List.mem_cons.mp hx with rfl | hx
    · exact ⟨a, ha, fun z hz => List.mem_append_left _ hz⟩
    · obtain ⟨a', h1, h2⟩ := kAll_in hb x hx
      exact ⟨a', h1, fun z hz => List.mem_append_right _ (h2 z hz)⟩
section KRUN
variable (SO : List (Nat × List sL)) (CL : List vw_C) (CT : Nat → Nat → FieldType) (MT : Nat → Option eM) (dep : Nat → List Nat) (nh : Nat)
variable (HK : Nat → Nat → kS → Option (List kS)) (KS : (Nat → Bool) → Nat → eI → kS → Option (List kS)) (CS : Nat → Nat → List kC)
/-- the contract whose run is walked: which cells may change, level, rank, depth -/
abbrev kX : Type := (Nat → Bool) × Nat × sL × sL
/-- whether a contract may be used: it is lower, it changes no more, it is no deeper -/
def kMay (X : kX) (i : Nat) (c : kC) (σ : List sL) (Γ : sG) : Bool :=
  (decide (c.2.2.2.1.2.1 < X.2.1) || (decide (c.2.2.2.1.2.1 = X.2.1) && (match sSubst σ c.2.2.2.1.2.2 with
    | some r => sNN Γ r && sNN Γ (sSub (sSub X.2.2.1 r) (sC 1))
    | none => false))) && (c.2.2.2.2.1.all X.1 && (match sSubst σ c.2.2.2.1.1 with
    | some d => sNN Γ (sSub (sSub X.2.2.2 d) (sC i))
    | none => false))
/-- the first of several contracts that may be used: its ends -/
def kUse (X : kX) (i c0 s0 : Nat) (ls : List (Nat × sV)) (G : List sE) (Γ : sG) (γ : List kA) : List kC → Option (List kS)
  | [] => none
  | c :: r => match kMat nh c ls G Γ γ with
    | some σ => if (kMay X i c σ Γ && decide (c.2.2.2.2.2.1 = c0 ∧ c.2.2.2.2.2.2 = s0)) = true then kAll (fun U => (kEnd dep c σ G Γ γ U).map fun K => [K]) c.2.2.1 else kUse X i c0 s0 ls G Γ γ r
    | none => kUse X i c0 s0 ls G Γ γ r
def kRun (X : kX) : Nat → Nat → Nat → kS → Option (List kS)
  | 0, _, _, _ => none
  | n + 1, i, mi, K0 => match MT mi with
    | none => none
    | some M => if M.2.2.2.2.1 ≤ K0.1.1 then none else match M.2.2.2.2.2 K0.1.1 with
      | none => none
      | some I => match HK mi K0.1.1 K0 with
        | none => none
        | some Ks => kAll (fun K => if K.1.1 ≠ K0.1.1 then none else
          match (if K.1.2.2.1.isEmpty then kUse dep nh X i K.1.2.2.2.2.1 K.1.2.2.2.2.2.1 K.1.2.1 K.1.2.2.2.1 K.1.2.2.2.2.2.2 K.2 (CS mi K.1.1) else none) with
          | some outs => some outs
          | none => if I.1 = 50 then (if sAns K.1.2.2.2.2.2.2.1 I.2.2.2.1 M.2.2.2.1 K.1.2.2.1 = true then some [K] else none)
            else if 40 ≤ I.1 then (match sCallP SO MT I K.1 with
              | none => none
              | some ar => match kUse dep nh X (i + 1) 0 0 (sArgs 0 ar.1) K.1.2.2.2.1 K.1.2.2.2.2.2.2 K.2 (CS I.2.2.2.1 0) with
                | some outs => kAll (fun o => kRun X n i mi ((I.2.1, K.1.2.1, o.1.2.2.1 ++ ar.2, o.1.2.2.2.1, K.1.2.2.2.2.1 + o.1.2.2.2.2.1, K.1.2.2.2.2.2.1 + o.1.2.2.2.2.2.1, o.1.2.2.2.2.2.2), o.2)) outs
                | none => if sNN K.1.2.2.2.2.2.2 (sSub X.2.2.2 (sC (i + 2 : Nat))) = true then (match kRun X n (i + 1) I.2.2.2.1 ((0, sArgs 0 ar.1, [], K.1.2.2.2.1, 0, 0, K.1.2.2.2.2.2.2), K.2) with
                  | none => none
                  | some outs => kAll (fun o => kRun X n i mi ((I.2.1, K.1.2.1, o.1.2.2.1 ++ ar.2, o.1.2.2.2.1, K.1.2.2.2.2.1 + o.1.2.2.2.2.1, K.1.2.2.2.2.2.1 + o.1.2.2.2.2.2.1, o.1.2.2.2.2.2.2), o.2)) outs) else none)
            else match KS X.1 M.2.2.1 I K with
              | none => none
              | some L => kAll (kRun X n i mi) L) Ks
end KRUN
end
section
/-! K: a run that uses contracts is right. -/
section KRUNP
variable {GP : Nat → List Int → List eE → Prop} {SO : List (Nat × List sL)} {RO : List (Nat × (Nat → Int32))} {CL : List vw_C} {CT : Nat → Nat → FieldType} {MT : Nat → Option eM} {dep : Nat → List Nat} {nh : Nat}
variable {HK : Nat → Nat → kS → Option (List kS)} {KS : (Nat → Bool) → Nat → eI → kS → Option (List kS)} {CS : Nat → Nat → List kC}
/-- what is lower holds -/
def kIH (GP : Nat → List Int → List eE → Prop) (RO : List (Nat × (Nat → Int32))) (CL : List vw_C) (CT : Nat → Nat → FieldType) (MT : Nat → Option eM) (nh : Nat) (CS : Nat → Nat → List kC) (lev : Nat) (rv : Int) : Prop :=
  ∀ (mi pc : Nat) (c : kC), c ∈ CS mi pc → ∀ (vs : List Int) (z : Int), (c.2.2.2.1.2.1 < lev ∨ (c.2.2.2.1.2.1 = lev ∧ sEv vs c.2.2.2.1.2.2 = some z ∧ 0 ≤ z ∧ z < rv)) → kHolds GP RO CL CT MT nh c vs
/-- an end of a run from a place: a state of the list stands for it -/
def kDone (GP : Nat → List Int → List eE → Prop) (RO : List (Nat × (Nat → Int32))) (CL : List vw_C) (CT : Nat → Nat → FieldType) (MT : Nat → Option eM) (md : Nat → Bool) (d mi : Nat) (ρ : List Int) (R : eR) (L : List kS) : Prop :=
  ∃ K' ∈ L, ∃ ρ' Rf, ρ <+: ρ' ∧ eC RO CL CT MT d mi R Rf ∧ kE GP ρ' K' Rf ∧ (∀ j, j < R.2.2.2.1.length → md j = false → Rf.2.2.2.1[j]? = R.2.2.2.1[j]?) ∧ R.2.2.2.1.length ≤ Rf.2.2.2.1.length
theorem kUse_ok (hGP : ∀ k zs (H H' : List eE), (∀ j ∈ dep k, H'[j]? = H[j]?) → GP k zs H → GP k zs H') (hCS : ∀ (mi pc : Nat) (c : kC), c ∈ CS mi pc → c.1 = (mi, pc)) {X : kX} {i c0 s0 mi pc : Nat} {ls : List (Nat × sV)} {G : List sE} {Γ : sG} {γ : List kA} {outs : List kS} {ρ : List Int} {ws : List (Nat × Value)} {H : List eE} {dv rv : Int}
    (hD : sEv ρ X.2.2.2 = some dv) (hR : sEv ρ X.2.2.1 = some rv) (hIH : kIH GP RO CL CT MT nh CS X.2.1 rv) (hM : sMo ρ Γ) (hL : sLs ρ ls ws) (hH : sHp ρ G H) (hg : kGh GP ρ γ H) :
    ∀ (cs : List kC), (∀ c ∈ cs, c ∈ CS mi pc) → kUse dep nh X i c0 s0 ls G Γ γ cs = some outs → kDone GP RO CL CT MT X.1 (dv - i).toNat mi ρ (pc, ws, [], H, c0, s0) outs
  | [], _, h => by cases h
  | c :: r, hcs, h => by
    simp only [kUse] at h
    split at h
    · rename_i σ hσ
      split at h
      · rename_i hc
        have hcin := hcs c List.mem_cons_self
        have hc1 := hCS mi pc c hcin
        obtain ⟨vs, hv, hpre⟩ := kMat_ok (GP := GP) hσ hM hL hH hg
        simp only [kMay, Bool.and_eq_true, Bool.or_eq_true, decide_eq_true_eq] at hc
        obtain ⟨⟨hlev, hmd, hdep⟩, rfl, rfl⟩ := hc
        have hlow : ∃ z, (c.2.2.2.1.2.1 < X.2.1 ∨ (c.2.2.2.1.2.1 = X.2.1 ∧ sEv vs c.2.2.2.1.2.2 = some z ∧ 0 ≤ z ∧ z < rv)) := by
          rcases hlev with h1 | ⟨h1, h2⟩
          · exact ⟨0, Or.inl h1⟩
          · split at h2
            · rename_i rr hrr
              obtain ⟨z, e1, e2⟩ := sSubst_has hv hrr
              simp only [Bool.and_eq_true] at h2
              have q1 := sNN_ok hM e2 h2.1
              have q2 := sNN_ok hM (sEv_sub (sEv_sub hR e2) (sEv_C 1)) h2.2
              exact ⟨z, Or.inr ⟨h1, e1, q1, by omega⟩⟩
            · cases h2
        obtain ⟨z, hlow⟩ := hlow
        have hh := hIH mi pc c hcin vs z hlow
        split at hdep
        · rename_i d hd
          obtain ⟨dv', e1, e2⟩ := sSubst_has hv hd
          have q3 := sNN_ok hM (sEv_sub (sEv_sub hD e2) (sEv_C (i : Int))) hdep
          obtain ⟨U, hU, new, Rf, hrun, hpost⟩ := hh ws H hpre dv' e1
          obtain ⟨a, ha, hsub⟩ := kAll_in h U hU
          obtain ⟨K', hK', rfl⟩ := Option.map_eq_some_iff.mp ha
          refine ⟨K', hsub K' (List.mem_singleton.mpr rfl), ρ ++ new, Rf, ⟨_, rfl⟩, ?_, kEnd_ok hGP hK' hM hv hH hg hpost, fun j _ hj => hpost.2.2.2.2.1 j ?_, ?_⟩
          · rw [hc1] at hrun
            exact hrun.up (by omega)
          · by_cases hjm : c.2.2.2.2.1.contains j = true
            · have hin := List.all_eq_true.mp hmd j (List.contains_iff_mem.mp hjm)
              rw [hj] at hin
              cases hin
            · exact Bool.eq_false_iff.mpr hjm
          · exact Nat.le_of_eq hpost.2.2.1.symm
        · cases hdep
      · exact kUse_ok hGP hCS hD hR hIH hM hL hH hg r (fun c hc => hcs c (List.mem_cons_of_mem _ hc)) h
    · exact kUse_ok hGP hCS hD hR hIH hM hL hH hg r (fun c hc => hcs c (List.mem_cons_of_mem _ hc)) h
/-- what a step must keep to -/
def kStepOk (GP : Nat → List Int → List eE → Prop) (SO : List (Nat × List sL)) (RO : List (Nat × (Nat → Int32))) (CL : List vw_C) (CT : Nat → Nat → FieldType) (KS : (Nat → Bool) → Nat → eI → kS → Option (List kS)) : Prop :=
  ∀ (md : Nat → Bool) (mL : Nat) (I : eI) (K : kS) (L : List kS), KS md mL I K = some L → ∀ (ρ : List Int) (R : eR), sRor ρ SO RO → kD GP ρ K R →
    ∃ K' ∈ L, ∃ ρ' R', ρ <+: ρ' ∧ eStep RO CL CT mL I R = some R' ∧ kD GP ρ' K' R' ∧ (∀ j, j < R.2.2.2.1.length → md j = false → R'.2.2.2.1[j]? = R.2.2.2.1[j]?) ∧ R.2.2.2.1.length ≤ R'.2.2.2.1.length
/-- what a consequence must keep to -/
def kHookOk (GP : Nat → List Int → List eE → Prop) (HK : Nat → Nat → kS → Option (List kS)) : Prop :=
  ∀ (mi pc : Nat) (K : kS) (L : List kS), HK mi pc K = some L → ∀ (ρ : List Int) (R : eR), kD GP ρ K R → ∃ K' ∈ L, ∃ ρ', ρ <+: ρ' ∧ kD GP ρ' K' R
theorem kDone.more {md : Nat → Bool} {d mi : Nat} {ρ ρ' : List Int} {R : eR} {La L : List kS} (h : kDone GP RO CL CT MT md d mi ρ' R La) (hp : ρ <+: ρ') (hs : ∀ y ∈ La, y ∈ L) : kDone GP RO CL CT MT md d mi ρ R L := by
  obtain ⟨K', h1, ρ2, Rf, h2, h3⟩ := h
  exact ⟨K', hs K' h1, ρ2, Rf, hp.trans h2, h3⟩
theorem sCallP_ok {ρ : List Int} {S : sR} {R : eR} {I : eI} {ar : List sV × List sV} (hRO : sRor ρ SO RO) (hD : sD ρ S R) (har : sCallP SO MT I S = some ar) :
    ∃ (M2 : eM) (av rv : List Value), eCallP RO MT I R = some (M2, av, rv) ∧ sVs ρ ar.1 av ∧ sVs ρ ar.2 rv := by
  have hro := sRor_len hRO
  have hV := hD.2.2.1
  have hH := hD.2.2.2.1
  unfold sCallP at har
  split at har
  · cases har
  rename_i M2 hM2
  generalize hN : I.2.2.2.2.1.toNat + (if I.1 = 41 then 0 else 1) = N1 at har
  split at har
  · rename_i hlen
    split at har
    · rename_i hc
      cases har
      obtain ⟨hc1, hc2, hc3⟩ := hc
      have hVt : sVs ρ (S.2.2.1.take N1).reverse (R.2.2.1.take N1).reverse := sVs_rev (sVs_take N1 hV)
      have hVd : sVs ρ (S.2.2.1.drop N1) (R.2.2.1.drop N1) := sVs_drop N1 hV
      have hrc : I.1 = 41 ∨ eRecv RO R.2.2.2.1 I.2.2.1 (R.2.2.1.take N1).reverse.head? = true := by
        rcases hc3 with hc3 | hc3
        · exact Or.inl hc3
        · right
          generalize (S.2.2.1.take N1).reverse = sv at hc3 hVt
          generalize (R.2.2.1.take N1).reverse = ev at hVt
          unfold sRecv at hc3
          split at hc3
          · rename_i q hq
            cases sv with
            | nil => cases hq
            | cons v vs =>
              simp only [List.head?_cons, Option.some.injEq] at hq
              subst hq
              obtain ⟨r, rfl, -⟩ := sVs_ref hVt
              simp only [Bool.and_eq_true, Bool.not_eq_true', decide_eq_false_iff_not] at hc3
              obtain ⟨hq1, hc3⟩ := hc3
              split at hc3
              · rename_i cj fs hg
                have hc3 := of_decide_eq_true hc3
                obtain ⟨y, hy, hxy⟩ := sHp_get hH hg (sIsA_ne hc3.2)
                rcases y with y | ⟨ck, gs⟩
                · exact hxy.elim
                obtain ⟨rfl, -⟩ := hxy
                simp only [eRecv, List.head?_cons, Bool.and_eq_true, Bool.not_eq_true', decide_eq_false_iff_not]
                rw [hro]
                refine ⟨hq1, ?_⟩
                rw [hy]
                exact decide_eq_true hc3.1
              · cases hc3
          · cases hc3
      refine ⟨M2, _, _, ?_, hVt, hVd⟩
      unfold eCallP
      rw [hM2]
      simp only
      rw [hN]
      unfold eArgs
      rw [if_pos (by rw [sVs_len hV]; exact hlen)]
      simp only
      rw [if_pos ⟨by rw [sVs_cats hVd]; exact hc1, by rw [sVs_cats hVt]; exact hc2, hrc⟩]
    · cases har
  · cases har
theorem kRun_ok (hGP : ∀ k zs (H H' : List eE), (∀ j ∈ dep k, H'[j]? = H[j]?) → GP k zs H → GP k zs H') (hCS : ∀ (mi pc : Nat) (c : kC), c ∈ CS mi pc → c.1 = (mi, pc)) (hKS : kStepOk GP SO RO CL CT KS) (hHK : kHookOk GP HK) (X : kX) :
    ∀ (n i mi : Nat) (K : kS) (L : List kS), kRun SO MT dep nh HK KS CS X n i mi K = some L → ∀ (ρ : List Int) (R : eR) (dv rv : Int), sRor ρ SO RO → sEv ρ X.2.2.2 = some dv → sEv ρ X.2.2.1 = some rv → (i : Int) + 1 ≤ dv → kIH GP RO CL CT MT nh CS X.2.1 rv → kD GP ρ K R → kDone GP RO CL CT MT X.1 (dv - i).toNat mi ρ R L
  | 0, _, _, _, _, h => by simp [kRun] at h
  | n + 1, i, mi, K0, L, h => by
    intro ρ0 R dv rv hRO0 hDv0 hRv0 hi hIH hD0
    have ih := kRun_ok hGP hCS hKS hHK X n
    simp only [kRun] at h
    split at h
    · cases h
    rename_i M hMi
    split at h
    · cases h
    rename_i hlt
    split at h
    · cases h
    rename_i I hI
    split at h
    · cases h
    rename_i Ks hKs
    obtain ⟨K, hKin, ρ, hp0, hD⟩ := hHK mi K0.1.1 K0 Ks hKs ρ0 R hD0
    obtain ⟨La, hLa, hsub⟩ := kAll_in h K hKin
    have hRO := hRO0.mono hp0
    have hDv := sEv_mono hp0 hDv0
    have hRv := sEv_mono hp0 hRv0
    refine kDone.more (La := La) ?_ hp0 hsub
    clear h
    have hpc0 : R.1 = K0.1.1 := hD0.2.1.1
    have hlt' : R.1 < M.2.2.2.2.1 := by rw [hpc0]; omega
    have hI' : M.2.2.2.2.2 R.1 = some I := by rw [hpc0]; exact hI
    obtain ⟨dn, hdn⟩ : ∃ dn, (dv - i).toNat = dn + 1 := ⟨(dv - i).toNat - 1, by omega⟩
    split at hLa
    · cases hLa
    rename_i hpcK
    have hpcK : K.1.1 = K0.1.1 := Decidable.not_not.mp hpcK
    split at hLa
    · rename_i outs houts
      cases hLa
      split at houts
      · rename_i hemp
        have hemp' : K.1.2.2.1 = [] := List.isEmpty_iff.mp hemp
        have hV := hD.2.1.2.2.1
        rw [hemp'] at hV
        have hstk : R.2.2.1 = [] := sVs_nil hV
        have hu := kUse_ok hGP hCS hDv hRv hIH hD.1 hD.2.1.2.1 hD.2.1.2.2.2.1 hD.2.2 _ (fun c hc => hc) houts
        have hRe : R = (K.1.1, R.2.1, [], R.2.2.2.1, K.1.2.2.2.2.1, K.1.2.2.2.2.2.1) := by
          rw [← hD.2.1.1, ← hD.2.1.2.2.2.2.1, ← hD.2.1.2.2.2.2.2, ← hstk]
        rw [hRe]
        exact hu
      · cases houts
    · split at hLa
      · rename_i h50
        split at hLa
        · rename_i ha
          cases hLa
          refine ⟨K, List.mem_singleton.mpr rfl, ρ, R, List.prefix_refl _, ?_, hD.toE, fun _ _ _ => rfl, Nat.le_refl _⟩
          rw [hdn]
          exact eC.ret hMi hlt' hI' h50 (sAns_ok hD.1.1 ha hD.2.1.2.2.1)
        · cases hLa
      rename_i h50
      split at hLa
      · rename_i h40
        split at hLa
        · cases hLa
        rename_i ar har
        obtain ⟨M2, av, rs, hcp, hVa, hVr⟩ := sCallP_ok hRO hD.2.1 har
        have cont : ∀ outs : List kS, kAll (fun o => kRun SO MT dep nh HK KS CS X n i mi ((I.2.1, K.1.2.1, o.1.2.2.1 ++ ar.2, o.1.2.2.2.1, K.1.2.2.2.2.1 + o.1.2.2.2.2.1, K.1.2.2.2.2.2.1 + o.1.2.2.2.2.2.1, o.1.2.2.2.2.2.2), o.2)) outs = some La →
            kDone GP RO CL CT MT X.1 dn I.2.2.2.1 ρ (0, lv_args 0 av, [], R.2.2.2.1, 0, 0) outs → kDone GP RO CL CT MT X.1 (dv - i).toNat mi ρ R La := by
          rintro outs hall ⟨o, ho, ρ1, R2, hp1, hc, hE, hfr, hlen⟩
          obtain ⟨Lb, hLb, hsub2⟩ := kAll_in hall o ho
          obtain ⟨K', g1, ρ2, Rf, g2, g3, g4, g5, g6⟩ := ih i mi _ Lb hLb ρ1 (I.2.1, R.2.1, R2.2.2.1 ++ rs, R2.2.2.2.1, R.2.2.2.2.1 + R2.2.2.2.2.1, R.2.2.2.2.2 + R2.2.2.2.2.2) dv rv (hRO.mono hp1) (sEv_mono hp1 hDv) (sEv_mono hp1 hRv) hi hIH
            ⟨hE.1, ⟨rfl, hD.2.1.2.1.mono hp1, sVs_app hE.2.1 (hVr.mono hp1), hE.2.2.1, by rw [hD.2.1.2.2.2.2.1, hE.2.2.2.1.1], by rw [hD.2.1.2.2.2.2.2, hE.2.2.2.1.2]⟩, hE.2.2.2.2⟩
          refine ⟨K', hsub2 K' g1, ρ2, Rf, hp1.trans g2, ?_, g4, fun j hj hmd => ?_, Nat.le_trans hlen g6⟩
          · rw [hdn] at g3 ⊢
            exact eC.call hMi hlt' hI' h50 h40 hcp hc g3
          · exact (g5 j (Nat.lt_of_lt_of_le hj hlen) hmd).trans (hfr j hj hmd)
        split at hLa
        · rename_i outs houts
          refine cont outs hLa ?_
          have hu := kUse_ok hGP hCS hDv hRv hIH hD.1 (sLs_args 0 hVa) hD.2.1.2.2.2.1 hD.2.2 _ (fun c hc => hc) houts
          have e : (dv - ((i + 1 : Nat) : Int)).toNat = dn := by omega
          rw [e] at hu
          exact hu
        · split at hLa
          · rename_i hnn
            split at hLa
            · cases hLa
            rename_i outs houts
            refine cont outs hLa ?_
            have q := sNN_ok hD.1 (sEv_sub hDv (sEv_C ((i + 2 : Nat) : Int))) hnn
            have hu := ih (i + 1) I.2.2.2.1 _ outs houts ρ (0, lv_args 0 av, [], R.2.2.2.1, 0, 0) dv rv hRO hDv hRv (by omega) hIH ⟨hD.1, ⟨rfl, sLs_args 0 hVa, trivial, hD.2.1.2.2.2.1, rfl, rfl⟩, hD.2.2⟩
            have e : (dv - ((i + 1 : Nat) : Int)).toNat = dn := by omega
            rw [e] at hu
            exact hu
          · cases hLa
      · rename_i h40
        split at hLa
        · cases hLa
        rename_i Lc hLc
        obtain ⟨K1, hK1, ρ1, R1, hp1, hs, hD1, hfr, hlen⟩ := hKS X.1 M.2.2.1 I K Lc hLc ρ R hRO hD
        obtain ⟨Lb, hLb, hsub2⟩ := kAll_in hLa K1 hK1
        obtain ⟨K', g1, ρ2, Rf, g2, g3, g4, g5, g6⟩ := ih i mi K1 Lb hLb ρ1 R1 dv rv (hRO.mono hp1) (sEv_mono hp1 hDv) (sEv_mono hp1 hRv) hi hIH hD1
        refine ⟨K', hsub2 K' g1, ρ2, Rf, hp1.trans g2, ?_, g4, fun j hj hmd => ?_, Nat.le_trans hlen g6⟩
        · rw [hdn] at g3 ⊢
          exact eC.step hMi hlt' hI' h40 hs g3
        · exact (g5 j (Nat.lt_of_lt_of_le hj hlen) hmd).trans (hfr j hj hmd)
end KRUNP
end
section
/-! K: a contract's check, and that all contracts hold. -/
section KCHK
variable (SO : List (Nat × List sL)) (MT : Nat → Option eM) (dep : Nat → List Nat) (nh : Nat)
variable (HK : Nat → Nat → kS → Option (List kS)) (KS : (Nat → Bool) → Nat → eI → kS → Option (List kS)) (CS : Nat → Nat → List kC)
/-- the state that a contract begins with -/
def kIni (c : kC) : kS := ((c.1.2, c.2.1.1, [], kLay c.2.1.2.1 (List.replicate nh sIsAny), c.2.2.2.2.2.1, c.2.2.2.2.2.2, c.2.1.2.2.1), c.2.1.2.2.2)
/-- an end of the run below one of the contract's ends -/
def kBel (c : kC) (K : kS) (U : kU) : Bool :=
  match (kPutA K.2 U.2.2.2 (kPutH K.1.2.2.2.1 U.2.2.1 (kPutVs U.2.1 K.1.2.2.1 (c.2.1.2.2.1.1.length, (sNewX 0 c.2.1.2.2.1.1.length).reverse)))).2.reverse with
  | σ => decide (σ.take c.2.1.2.2.1.1.length = sNewX 0 c.2.1.2.2.1.1.length) && (decide (K.1.2.2.2.1.length = nh ∧ K.1.2.2.2.2.1 = c.2.2.2.2.2.1 ∧ K.1.2.2.2.2.2.1 = c.2.2.2.2.2.2) && (sGb K.1.2.2.2.2.2.2 σ U.1 && (sVsb σ U.2.1 K.1.2.2.1 && (kCb K.1.2.2.2.2.2.2.1 σ K.1.2.2.2.1 U.2.2.1 && kAb σ K.2 U.2.2.2))))
def kChk (fuel : Nat) (c : kC) : Bool := (sIv c.2.1.2.2.1.1 c.2.2.2.1.2.2).isSome && ((sIv c.2.1.2.2.1.1 c.2.2.2.1.1).isSome && (sNN c.2.1.2.2.1 (sSub c.2.2.2.1.1 (sC 1)) &&
  (match kRun SO MT dep nh HK KS CS ((fun j => c.2.2.2.2.1.contains j), c.2.2.2.1.2.1, c.2.2.2.1.2.2, c.2.2.2.1.1) fuel 0 c.1.1 (kIni nh c) with
    | some L => L.all (fun K => c.2.2.1.any (fun U => kBel nh c K U))
    | none => false)))
end KCHK
section KCHKP
variable {GP : Nat → List Int → List eE → Prop} {SO : List (Nat × List sL)} {RO : List (Nat × (Nat → Int32))} {CL : List vw_C} {CT : Nat → Nat → FieldType} {MT : Nat → Option eM} {dep : Nat → List Nat} {nh : Nat}
variable {HK : Nat → Nat → kS → Option (List kS)} {KS : (Nat → Bool) → Nat → eI → kS → Option (List kS)} {CS : Nat → Nat → List kC}
theorem sNewX_len : ∀ k n : Nat, (sNewX k n).length = n
  | _, 0 => rfl
  | k, n + 1 => congrArg Nat.succ (sNewX_len (k + 1) n)
theorem sVal_appR {ρ : List Int} : ∀ {σ τ : List sL} {ws : List Int}, sVal ρ (σ ++ τ) = some ws → ∃ us vs, ws = us ++ vs ∧ sVal ρ σ = some us ∧ sVal ρ τ = some vs
  | [], τ, ws, h => ⟨[], ws, rfl, rfl, h⟩
  | a :: r, τ, ws, h => by
    simp only [List.cons_append, sVal] at h
    split at h
    · rename_i z zs hz hzs
      cases h
      obtain ⟨us, vs, rfl, h1, h2⟩ := sVal_appR hzs
      exact ⟨z :: us, vs, rfl, by simp only [sVal, hz, h1], h2⟩
    · cases h
theorem kHold1 (hGP : ∀ k zs (H H' : List eE), (∀ j ∈ dep k, H'[j]? = H[j]?) → GP k zs H → GP k zs H') (hCS : ∀ (mi pc : Nat) (c : kC), c ∈ CS mi pc → c.1 = (mi, pc)) (hKS : kStepOk GP SO RO CL CT KS) (hHK : kHookOk GP HK) (hRO : sRor [] SO RO)
    {fuel : Nat} {c : kC} (hc : kChk SO MT dep nh HK KS CS fuel c = true) {vs : List Int} {rv : Int} (hrv : sEv vs c.2.2.2.1.2.2 = some rv) (hIH : kIH GP RO CL CT MT nh CS c.2.2.2.1.2.1 rv) : kHolds GP RO CL CT MT nh c vs := by
  intro ws H hpre dv hdv
  obtain ⟨hM, hL, hlen, hC, hg⟩ := hpre
  unfold kChk at hc
  simp only [Bool.and_eq_true] at hc
  obtain ⟨-, -, hd1, hc⟩ := hc
  split at hc
  · rename_i L hL0
    have hdv1 := sNN_ok hM (sEv_sub hdv (sEv_C 1)) hd1
    have hD : kD GP vs (kIni nh c) (c.1.2, ws, [], H, c.2.2.2.2.2.1, c.2.2.2.2.2.2) := ⟨hM, ⟨rfl, hL, trivial, kLay_ok (by rw [← hlen]; exact kAnyHp) hC, rfl, rfl⟩, hg⟩
    obtain ⟨K, hK, ρ', Rf, hp, hrun, hE, hfr, hle⟩ := kRun_ok hGP hCS hKS hHK _ fuel 0 c.1.1 (kIni nh c) L hL0 vs _ dv rv (hRO.mono (List.nil_prefix)) hdv hrv (by omega) hIH hD
    have hb := List.all_eq_true.mp hc K hK
    obtain ⟨U, hU, hb⟩ := List.any_eq_true.mp hb
    unfold kBel at hb
    simp only [Bool.and_eq_true, decide_eq_true_eq] at hb
    obtain ⟨b1, ⟨b2, b3, b4⟩, b5, b6, b7, b8⟩ := hb
    generalize (kPutA K.2 U.2.2.2 (kPutH K.1.2.2.2.1 U.2.2.1 (kPutVs U.2.1 K.1.2.2.1 (c.2.1.2.2.1.1.length, (sNewX 0 c.2.1.2.2.1.1.length).reverse)))).2.reverse = σ at b1 b5 b6 b7 b8
    obtain ⟨w, hw, hU1⟩ := sGb_ok hE.1 b5
    obtain ⟨new, hnew⟩ : ∃ new, w = vs ++ new := by
      rw [← List.take_append_drop c.2.1.2.2.1.1.length σ, b1] at hw
      obtain ⟨us, new, rfl, h1, -⟩ := sVal_appR hw
      have h2 : sVal ρ' (sNewX 0 vs.length) = some vs := sVal_new fun i z hz => by
        obtain ⟨t, rfl⟩ := hp
        rw [Nat.zero_add, List.getElem?_append_left (List.getElem?_eq_some_iff.mp hz).1]
        exact hz
      rw [← hM.1.1] at h2
      cases h1.symm.trans h2
      exact ⟨new, rfl⟩
    subst hnew
    have hlf : Rf.2.2.2.1.length = H.length := by rw [(sHp_at.mp hE.2.2.1).1, b2, hlen]
    refine ⟨U, hU, new, Rf, ?_, hU1, sVsb_ok hw b6 hE.2.1, hlf, kCb_ok hw hE.1.1 hE.2.2.1 b7, fun j hj => ?_, ⟨by rw [hE.2.2.2.1.1, b3], by rw [hE.2.2.2.1.2, b4]⟩, kAb_ok hw hE.2.2.2.2 b8⟩
    · have e : (dv - ((0 : Nat) : Int)).toNat = dv.toNat := by omega
      rw [e] at hrun
      exact hrun
    · by_cases hjl : j < H.length
      · exact hfr j hjl hj
      · rw [List.getElem?_eq_none (by omega), List.getElem?_eq_none (by omega)]
  · cases hc
theorem kHoldAll (hGP : ∀ k zs (H H' : List eE), (∀ j ∈ dep k, H'[j]? = H[j]?) → GP k zs H → GP k zs H') (hCS : ∀ (mi pc : Nat) (c : kC), c ∈ CS mi pc → c.1 = (mi, pc)) (hKS : kStepOk GP SO RO CL CT KS) (hHK : kHookOk GP HK) (hRO : sRor [] SO RO)
    (hc : ∀ (mi pc : Nat) (c : kC), c ∈ CS mi pc → ∃ fuel, kChk SO MT dep nh HK KS CS fuel c = true) : ∀ (lev : Nat) (r : Nat) (mi pc : Nat) (c : kC), c ∈ CS mi pc → c.2.2.2.1.2.1 = lev → ∀ (vs : List Int), (∀ z, sEv vs c.2.2.2.1.2.2 = some z → z.toNat = r) → kHolds GP RO CL CT MT nh c vs := by
  intro lev
  induction lev using Nat.strongRecOn with
  | _ lev ihl =>
    intro r
    induction r using Nat.strongRecOn with
    | _ r ihr =>
      intro mi pc c hcin hlev vs hr
      obtain ⟨fuel, hk⟩ := hc mi pc c hcin
      intro ws H hpre
      have hk0 := hk
      unfold kChk at hk0
      simp only [Bool.and_eq_true] at hk0
      obtain ⟨i, hi⟩ := Option.isSome_iff_exists.mp hk0.1
      obtain ⟨rv, hrv⟩ := sIv_has hpre.1.1 hi
      refine kHold1 hGP hCS hKS hHK hRO hk hrv ?_ ws H hpre
      intro mi' pc' c' hc' vs' z hz
      rcases hz with h1 | ⟨h1, h2, h3, h4⟩
      · rw [hlev] at h1
        by_cases hex : ∃ y, sEv vs' c'.2.2.2.1.2.2 = some y
        · obtain ⟨y, hy⟩ := hex
          exact ihl _ h1 y.toNat mi' pc' c' hc' rfl vs' (fun x hx => by cases hy.symm.trans hx; rfl)
        · exact ihl _ h1 0 mi' pc' c' hc' rfl vs' (fun x hx => absurd ⟨x, hx⟩ hex)
      · have h5 := hr rv hrv
        exact ihr z.toNat (by omega) mi' pc' c' hc' (h1.trans hlev) vs' (fun x hx => by cases h2.symm.trans hx; rfl)
/-- all contracts hold -/
theorem kHold (hGP : ∀ k zs (H H' : List eE), (∀ j ∈ dep k, H'[j]? = H[j]?) → GP k zs H → GP k zs H') (hCS : ∀ (mi pc : Nat) (c : kC), c ∈ CS mi pc → c.1 = (mi, pc)) (hKS : kStepOk GP SO RO CL CT KS) (hHK : kHookOk GP HK) (hRO : sRor [] SO RO)
    (hc : ∀ (mi pc : Nat) (c : kC), c ∈ CS mi pc → ∃ fuel, kChk SO MT dep nh HK KS CS fuel c = true) {mi pc : Nat} {c : kC} (h : c ∈ CS mi pc) (vs : List Int) : kHolds GP RO CL CT MT nh c vs := by
  by_cases hex : ∃ y, sEv vs c.2.2.2.1.2.2 = some y
  · obtain ⟨y, hy⟩ := hex
    exact kHoldAll hGP hCS hKS hHK hRO hc _ y.toNat mi pc c h rfl vs (fun x hx => by cases hy.symm.trans hx; rfl)
  · exact kHoldAll hGP hCS hKS hHK hRO hc _ 0 mi pc c h rfl vs (fun x hx => absurd ⟨x, hx⟩ hex)
end KCHKP
end
section
/-! What a step leaves of the heap. -/
section EFRM
variable {RO : List (Nat × (Nat → Int32))} {CL : List vw_C} {CT : Nat → Nat → FieldType} {nx a b k mL : Nat} {z : Int} {R R' : eR}
theorem f3 (h : e3 nx a b R = some R') : R'.2.2.2.1 = R.2.2.2.1 := by
  obtain ⟨pc, ls, st, G, c, s⟩ := R
  simp only [e3] at h
  repeat' split at h
  all_goals first | (cases h; rfl) | cases h
theorem f4 (h : e4 mL nx a b R = some R') : R'.2.2.2.1 = R.2.2.2.1 := by
  obtain ⟨pc, ls, st, G, c, s⟩ := R
  unfold e4 at h
  repeat' split at h
  all_goals first | (rename_i heq _ _ _; cases heq; cases h; rfl) | (rename_i heq _ _; cases heq; cases h; rfl) | cases h
theorem f5 (h : e5 mL nx a z R = some R') : R'.2.2.2.1 = R.2.2.2.1 := by
  obtain ⟨pc, ls, st, G, c, s⟩ := R
  simp only [e5] at h
  repeat' split at h
  all_goals first | (cases h; rfl) | cases h
theorem f6 (h : e6 nx b R = some R') : R'.2.2.2.1 = R.2.2.2.1 := by
  obtain ⟨pc, ls, st, G, c, s⟩ := R
  unfold e6 at h
  split at h
  · rename_i heq; cases heq
    obtain ⟨v, -, rfl⟩ := Option.map_eq_some_iff.mp h
    rfl
  · cases h
theorem f7 (h : e7 nx b R = some R') : R'.2.2.2.1 = R.2.2.2.1 := by
  obtain ⟨pc, ls, st, G, c, s⟩ := R
  unfold e7 at h
  split at h
  · rename_i heq; cases heq
    obtain ⟨v, -, rfl⟩ := Option.map_eq_some_iff.mp h
    rfl
  · cases h
theorem f8 (h : e8 nx b R = some R') : R'.2.2.2.1 = R.2.2.2.1 := by
  obtain ⟨pc, ls, st, G, c, s⟩ := R
  unfold e8 at h
  split at h
  · rename_i heq; cases heq
    obtain ⟨v, -, rfl⟩ := Option.map_eq_some_iff.mp h
    rfl
  · cases h
theorem f9 (h : e9 nx R = some R') : R'.2.2.2.1 = R.2.2.2.1 := by
  obtain ⟨pc, ls, st, G, c, s⟩ := R
  unfold e9 at h
  split at h
  · rename_i heq; cases heq; cases h; rfl
  · cases h
theorem f10 (h : e10 nx R = some R') : R'.2.2.2.1 = R.2.2.2.1 := by
  obtain ⟨pc, ls, st, G, c, s⟩ := R
  unfold e10 at h
  split at h
  · rename_i heq; cases heq; cases h; rfl
  · cases h
theorem f12 (h : e12 nx a b R = some R') : R'.2.2.2.1 = R.2.2.2.1 := by
  obtain ⟨pc, ls, st, G, c, s⟩ := R
  unfold e12 at h
  split at h
  · rename_i heq; cases heq; cases h; rfl
  · cases h
theorem f13 (h : e13 nx a b R = some R') : R'.2.2.2.1 = R.2.2.2.1 := by
  obtain ⟨pc, ls, st, G, c, s⟩ := R
  unfold e13 at h
  split at h
  · rename_i heq; cases heq; cases h; rfl
  · cases h
theorem f15 {sw : List (Int × Nat)} (h : e15 a sw R = some R') : R'.2.2.2.1 = R.2.2.2.1 := by
  obtain ⟨pc, ls, st, G, c, s⟩ := R
  unfold e15 at h
  split at h
  · rename_i heq; cases heq; cases h; rfl
  · cases h
theorem f16 (h : e16 RO nx b k R = some R') : R'.2.2.2.1 = R.2.2.2.1 := by
  obtain ⟨pc, ls, st, G, c, s⟩ := R
  unfold e16 at h
  split at h
  · rename_i heq; cases heq
    split at h
    · cases h
    split at h
    · split at h
      · obtain ⟨v, -, rfl⟩ := Option.map_eq_some_iff.mp h
        rfl
      · cases h
    · cases h
  · cases h
theorem f18 (h : e18 nx b R = some R') : R'.2.2.2.1 = R.2.2.2.1 := by
  obtain ⟨pc, ls, st, G, c, s⟩ := R
  cases h
  rfl
theorem f19 (h : e19 RO nx b R = some R') : R'.2.2.2.1 = R.2.2.2.1 := by
  obtain ⟨pc, ls, st, G, c, s⟩ := R
  unfold e19 at h
  split at h
  · rename_i heq; cases heq
    repeat' split at h
    all_goals first | (cases h; rfl) | cases h
  · cases h
theorem f21 (h : e21 RO nx R = some R') : R'.2.2.2.1 = R.2.2.2.1 := by
  obtain ⟨pc, ls, st, G, c, s⟩ := R
  unfold e21 at h
  split at h
  · rename_i heq; cases heq
    repeat' split at h
    all_goals first | (cases h; rfl) | cases h
  · cases h
theorem f26 (h : e26 nx b R = some R') : R'.2.2.2.1 = R.2.2.2.1 := by
  obtain ⟨pc, ls, st, G, c, s⟩ := R
  unfold e26 at h
  split at h
  · rename_i heq; cases heq
    repeat' split at h
    all_goals first | (cases h; rfl) | cases h
  · cases h
theorem f30 (h : e30 nx R = some R') : R'.2.2.2.1 = R.2.2.2.1 := by
  obtain ⟨pc, ls, st, G, c, s⟩ := R
  unfold e30 at h
  split at h
  · rename_i heq; cases heq
    repeat' split at h
    all_goals first | (cases h; rfl) | cases h
  · cases h
theorem f32 (h : e32 nx b R = some R') : R'.2.2.2.1 = R.2.2.2.1 := by
  obtain ⟨pc, ls, st, G, c, s⟩ := R
  unfold e32 at h
  split at h
  · rename_i heq; cases heq
    split at h
    · cases h
    · cases h; rfl
  · cases h
/-- the cell that a write goes to -/
theorem f17 {v : Value} {q : Nat} {st : List Value} (h : e17 RO CT nx b k R = some R') (hs : R.2.2.1 = v :: .ref q :: st) : ∃ x, R'.2.2.2.1 = R.2.2.2.1.set (q - RO.length) x := by
  obtain ⟨pc, ls, st', G, c, s⟩ := R
  simp only at hs
  subst hs
  simp only [e17] at h
  repeat' split at h
  all_goals first | (cases h; exact ⟨_, rfl⟩) | cases h
theorem f20 {v w : Value} {q : Nat} {st : List Value} (h : e20 RO CL nx b R = some R') (hs : R.2.2.1 = v :: w :: .ref q :: st) : ∃ x, R'.2.2.2.1 = R.2.2.2.1.set (q - RO.length) x := by
  obtain ⟨pc, ls, st', G, c, s⟩ := R
  simp only at hs
  subst hs
  unfold e20 at h
  split at h
  · rename_i heq; cases heq
    repeat' split at h
    all_goals first | (cases h; exact ⟨_, rfl⟩) | cases h
  · cases h
theorem f31 {v0 v1 v2 v3 : Value} {q : Nat} {st : List Value} (h : e31 RO nx R = some R') (hs : R.2.2.1 = v0 :: v1 :: .ref q :: v2 :: v3 :: st) : ∃ x, R'.2.2.2.1 = R.2.2.2.1.set (q - RO.length) x := by
  obtain ⟨pc, ls, st', G, c, s⟩ := R
  simp only at hs
  subst hs
  unfold e31 at h
  split at h
  · rename_i heq; cases heq
    repeat' split at h
    all_goals first | (cases h; exact ⟨_, rfl⟩) | cases h
  · cases h
theorem f22 (h : e22 RO CL CT nx b R = some R') : ∃ t, R'.2.2.2.1 = R.2.2.2.1 ++ t := by
  obtain ⟨pc, ls, st, G, c, s⟩ := R
  simp only [e22] at h
  repeat' split at h
  all_goals first | (cases h; exact ⟨_, rfl⟩) | cases h
theorem f23 (h : e23 RO nx b R = some R') : ∃ t, R'.2.2.2.1 = R.2.2.2.1 ++ t := by
  obtain ⟨pc, ls, st, G, c, s⟩ := R
  unfold e23 at h
  split at h
  · rename_i heq; cases heq
    split at h
    · cases h
    split at h
    · obtain ⟨v, -, rfl⟩ := Option.map_eq_some_iff.mp h
      exact ⟨_, rfl⟩
    · cases h
  · cases h
theorem f24 (h : e24 RO CL nx b R = some R') : ∃ t, R'.2.2.2.1 = R.2.2.2.1 ++ t := by
  obtain ⟨pc, ls, st, G, c, s⟩ := R
  unfold e24 at h
  split at h
  · rename_i heq; cases heq
    repeat' split at h
    all_goals first | (cases h; exact ⟨_, rfl⟩) | cases h
  · cases h
theorem f25 (h : e25 RO nx R = some R') : ∃ t, R'.2.2.2.1 = R.2.2.2.1 ++ t := by
  obtain ⟨pc, ls, st, G, c, s⟩ := R
  unfold e25 at h
  split at h
  · rename_i heq; cases heq
    repeat' split at h
    all_goals first | (cases h; exact ⟨_, List.append_assoc _ _ _⟩) | cases h
  · cases h
/-- the instructions that leave the heap as it is -/
def kQuiet (op : Nat) : Bool := !(op == 17) && (!(op == 20) && (!(op == 31) && (!(op == 22) && (!(op == 23) && (!(op == 24) && !(op == 25))))))
theorem fQuiet {I : eI} (h : eStep RO CL CT mL I R = some R') (hq : kQuiet I.1 = true) : R'.2.2.2.1 = R.2.2.2.1 := by
  obtain ⟨op, nx, a, b, z, ws, sw⟩ := I
  simp only [kQuiet, Bool.and_eq_true, Bool.not_eq_true', beq_eq_false_iff_ne] at hq
  obtain ⟨q17, q20, q31, q22, q23, q24, q25⟩ := hq
  simp only [eStep] at h
  by_cases o0 : op = 0
  · rw [if_pos o0] at h
    cases h; rfl
  rw [if_neg o0] at h
  by_cases o1 : op = 1
  · rw [if_pos o1] at h
    cases h; rfl
  rw [if_neg o1] at h
  by_cases o3 : op = 3
  · rw [if_pos o3] at h
    exact f3 h
  rw [if_neg o3] at h
  by_cases o4 : op = 4
  · rw [if_pos o4] at h
    exact f4 h
  rw [if_neg o4] at h
  by_cases o5 : op = 5
  · rw [if_pos o5] at h
    exact f5 h
  rw [if_neg o5] at h
  by_cases o6 : op = 6
  · rw [if_pos o6] at h
    exact f6 h
  rw [if_neg o6] at h
  by_cases o7 : op = 7
  · rw [if_pos o7] at h
    exact f7 h
  rw [if_neg o7] at h
  by_cases o8 : op = 8
  · rw [if_pos o8] at h
    exact f8 h
  rw [if_neg o8] at h
  by_cases o9 : op = 9
  · rw [if_pos o9] at h
    exact f9 h
  rw [if_neg o9] at h
  by_cases o10 : op = 10
  · rw [if_pos o10] at h
    exact f10 h
  rw [if_neg o10] at h
  by_cases o12 : op = 12
  · rw [if_pos o12] at h
    exact f12 h
  rw [if_neg o12] at h
  by_cases o13 : op = 13
  · rw [if_pos o13] at h
    exact f13 h
  rw [if_neg o13] at h
  by_cases o14 : op = 14
  · rw [if_pos o14] at h
    cases h; rfl
  rw [if_neg o14] at h
  by_cases o15 : op = 15
  · rw [if_pos o15] at h
    exact f15 h
  rw [if_neg o15] at h
  by_cases o16 : op = 16
  · rw [if_pos o16] at h
    exact f16 h
  rw [if_neg o16] at h
  by_cases o17 : op = 17
  · exact absurd o17 q17
  rw [if_neg o17] at h
  by_cases o18 : op = 18
  · rw [if_pos o18] at h
    exact f18 h
  rw [if_neg o18] at h
  by_cases o19 : op = 19
  · rw [if_pos o19] at h
    exact f19 h
  rw [if_neg o19] at h
  by_cases o20 : op = 20
  · exact absurd o20 q20
  rw [if_neg o20] at h
  by_cases o21 : op = 21
  · rw [if_pos o21] at h
    exact f21 h
  rw [if_neg o21] at h
  by_cases o22 : op = 22
  · exact absurd o22 q22
  rw [if_neg o22] at h
  by_cases o23 : op = 23
  · exact absurd o23 q23
  rw [if_neg o23] at h
  by_cases o24 : op = 24
  · exact absurd o24 q24
  rw [if_neg o24] at h
  by_cases o25 : op = 25
  · exact absurd o25 q25
  rw [if_neg o25] at h
  by_cases o26 : op = 26
  · rw [if_pos o26] at h
    exact f26 h
  rw [if_neg o26] at h
  by_cases o30 : op = 30
  · rw [if_pos o30] at h
    exact f30 h
  rw [if_neg o30] at h
  by_cases o31 : op = 31
  · exact absurd o31 q31
  rw [if_neg o31] at h
  by_cases o32 : op = 32
  · rw [if_pos o32] at h
    exact f32 h
  rw [if_neg o32] at h
  cases h
end EFRM
end
section
/-! K: atoms; reads and writes of arrays. -/
/-- an element of an array -/
def kEl (j : Nat) (i v : Int) (H : List eE) : Prop := ∃ ty n arr, H[j]? = some (.inl (ty, n, arr)) ∧ 0 ≤ i ∧ (match arr with
  | .inl f => f i.toNat = Int32.ofInt v
  | .inr (.inl f) => f i.toNat = Int64.ofInt v
  | .inr (.inr _) => False)
section KATM
variable (UP : Nat → List Int → List eE → Prop) (ud : Nat → List Nat)
def kGP (k : Nat) (zs : List Int) (H : List eE) : Prop := if 1000 ≤ k then (match zs with
  | [i, v] => kEl (k - 1000) i v H
  | _ => False) else UP k zs H
def kDp (k : Nat) : List Nat := if 1000 ≤ k then [k - 1000] else ud k
variable {UP ud}
theorem kGP_fr (hU : ∀ k zs (H H' : List eE), (∀ j ∈ ud k, H'[j]? = H[j]?) → UP k zs H → UP k zs H') : ∀ k zs (H H' : List eE), (∀ j ∈ kDp ud k, H'[j]? = H[j]?) → kGP UP k zs H → kGP UP k zs H' := by
  intro k zs H H' hd h
  unfold kGP at h ⊢
  unfold kDp at hd
  split at h
  · rename_i hk
    rw [if_pos hk] at hd
    rw [if_pos hk]
    split at h
    · obtain ⟨ty, n, arr, h1, h2⟩ := h
      exact ⟨ty, n, arr, by rw [hd _ (List.mem_singleton.mpr rfl)]; exact h1, h2⟩
    · exact h.elim
  · rename_i hk
    rw [if_neg hk] at hd
    rw [if_neg hk]
    exact hU k zs H H' hd h
/-- the atoms that a write to a cell leaves -/
def kRest (ud : Nat → List Nat) (j : Nat) (γ : List kA) : List kA := γ.filter (fun q => !(kDp ud q.1).contains j)
theorem kRest_ok (hU : ∀ k zs (H H' : List eE), (∀ j ∈ ud k, H'[j]? = H[j]?) → UP k zs H → UP k zs H') {ρ : List Int} {γ : List kA} {H : List eE} {j : Nat} {x : eE} (h : kGh (kGP UP) ρ γ H) : kGh (kGP UP) ρ (kRest ud j γ) (H.set j x) := by
  intro q hq
  obtain ⟨hq, hd⟩ := List.mem_filter.mp hq
  obtain ⟨zs, h1, h2⟩ := h q hq
  refine ⟨zs, h1, kGP_fr hU _ _ H _ (fun k hk => ?_) h2⟩
  by_cases hkj : j = k
  · subst hkj
    exact absurd hk (by simpa using hd)
  · rw [List.getElem?_set_ne hkj]
theorem kGP_el {j : Nat} {i v : Int} {H : List eE} : kGP UP (1000 + j) [i, v] H ↔ kEl j i v H := by
  unfold kGP
  rw [if_pos (by omega), Nat.add_sub_cancel_left]
theorem sInR_at {ρ : List Int} {Γ : sG} (hM : sMo ρ Γ) {a : sL} {n : Nat} {z : Int} (ha : sEv ρ a = some z) (h : sInR Γ a n = true) : 0 ≤ z ∧ z < n ∧ (Int32.ofInt z).toNatClampNeg = z.toNat := by
  unfold sInR at h
  simp only [Bool.and_eq_true, decide_eq_true_eq] at h
  obtain ⟨h1, h2, h3⟩ := h
  have h1 := sNN_ok hM ha h1
  have h2 := sNN_ok hM (sEv_sub (sEv_C ((n : Int) - 1)) ha) h2
  obtain ⟨k, rfl⟩ : ∃ k : Nat, z = (k : Int) := ⟨z.toNat, by omega⟩
  have e1 : (Int32.ofInt (k : Int)) = nI k := by simp [nI, Int32.ofNat, Int32.ofInt]
  rw [e1, nI_clamp (by omega)]
  exact ⟨by omega, by omega, by omega⟩
theorem e19_val {RO : List (Nat × (Nat → Int32))} {nx b : Nat} {pc : Nat} {ls : List (Nat × Value)} {i : Int32} {q : Nat} {st : List Value} {G : List eE} {c s : Nat} {R' : eR} (h : e19 RO nx b (pc, ls, .int i :: .ref q :: st, G, c, s) = some R') (hq : ¬ q < RO.length) :
    ∃ ty n arr, G[q - RO.length]? = some (.inl (ty, n, arr)) ∧ (match arr with
      | .inl f => R' = (nx, ls, .int (f i.toNatClampNeg) :: st, G, c, s)
      | .inr (.inl f) => R' = (nx, ls, .long (f i.toNatClampNeg) :: st, G, c, s)
      | .inr (.inr f) => R' = (nx, ls, eRf (f i.toNatClampNeg) :: st, G, c, s)) := by
  simp only [e19] at h
  rw [if_neg hq] at h
  split at h
  · rename_i ty n f hg
    split at h
    · cases h
      exact ⟨ty, n, .inl f, hg, rfl⟩
    · cases h
  · rename_i ty n f hg
    split at h
    · cases h
      exact ⟨ty, n, .inr (.inl f), hg, rfl⟩
    · cases h
  · rename_i ty n f hg
    split at h
    · cases h
      exact ⟨ty, n, .inr (.inr f), hg, rfl⟩
    · cases h
  · cases h
/-- what was read is an element -/
theorem kRdEl {ρ : List Int} {RO : List (Nat × (Nat → Int32))} {nx b pc : Nat} {ls : List (Nat × Value)} {zi : Int} {q : Nat} {st : List Value} {G : List eE} {c s : Nat} {R' : eR} (h : e19 RO nx b (pc, ls, .int (Int32.ofInt zi) :: .ref q :: st, G, c, s) = some R') (hq : ¬ q < RO.length)
    (h0 : 0 ≤ zi) (hcl : (Int32.ofInt zi).toNatClampNeg = zi.toNat) {t : Nat} {v : sL} {vs : List sV} (ht : t ≤ 1) (hV : sVs ρ ((t, v) :: vs) R'.2.2.1) : ∃ z, sEv ρ v = some z ∧ kEl (q - RO.length) zi z G := by
  obtain ⟨ty, n, arr, h1, h2⟩ := e19_val h hq
  rw [hcl] at h2
  rcases arr with f | f | f
  · simp only at h2
    subst h2
    obtain ⟨w, r, e, hw, -⟩ := sVs_cons hV
    cases e
    rcases Nat.le_one_iff_eq_zero_or_eq_one.mp ht with rfl | rfl
    · obtain ⟨z, e1, e2⟩ := sVr_int hw
      refine ⟨z, e1, ty, n, _, h1, h0, ?_⟩
      exact Value.int.inj e2
    · obtain ⟨z, e1, e2⟩ := sVr_long hw
      cases e2
  · simp only at h2
    subst h2
    obtain ⟨w, r, e, hw, -⟩ := sVs_cons hV
    cases e
    rcases Nat.le_one_iff_eq_zero_or_eq_one.mp ht with rfl | rfl
    · obtain ⟨z, e1, e2⟩ := sVr_int hw
      cases e2
    · obtain ⟨z, e1, e2⟩ := sVr_long hw
      refine ⟨z, e1, ty, n, _, h1, h0, ?_⟩
      exact Value.long.inj e2
  · simp only at h2
    subst h2
    obtain ⟨w, r, e, hw, -⟩ := sVs_cons hV
    cases e
    exfalso
    rcases Nat.le_one_iff_eq_zero_or_eq_one.mp ht with rfl | rfl
    · obtain ⟨z, e1, e2⟩ := sVr_int hw
      unfold eRf at e2
      split at e2 <;> cases e2
    · obtain ⟨z, e1, e2⟩ := sVr_long hw
      unfold eRf at e2
      split at e2 <;> cases e2
end KATM
end
section
/-! K: the read of an array's element. -/
section KRD
variable {UP : Nat → List Int → List eE → Prop} {ud : Nat → List Nat} {SO : List (Nat × List sL)} {RO : List (Nat × (Nat → Int32))} {CL : List vw_C} {CT : Nat → Nat → FieldType} {sl nx b : Nat}
theorem kLift {GP : Nat → List Int → List eE → Prop} {ρ : List Int} {o : Option eR} {L0 : List sR} {γ : List kA} {R : eR} (h : sOK ρ L0 o) (hg : kGh GP ρ γ R.2.2.2.1) (hh : ∀ R', o = some R' → R'.2.2.2.1 = R.2.2.2.1) :
    ∃ K' ∈ L0.map (fun S => ((S, γ) : kS)), ∃ ρ' R', ρ <+: ρ' ∧ o = some R' ∧ kD GP ρ' K' R' := by
  obtain ⟨S', hS, ρ', R', hp, hM, he, hD⟩ := h
  exact ⟨(S', γ), List.mem_map.mpr ⟨S', hS, rfl⟩, ρ', R', hp, he, hM, hD, by rw [hh R' he]; exact hg.mono GP hp⟩
/-- the length of the script is an atom of its own: number 0 -/
def kLenOk (UP : Nat → List Int → List eE → Prop) (RO : List (Nat × (Nat → Int32))) (sl : Nat) : Prop := ∀ (z : Int) (H : List eE), UP 0 [z] H → ∃ q, RO[sl]? = some q ∧ (q.1 : Int) = z
def kFindEl (γ : List kA) (j : Nat) (i : sL) : Option sL := match γ.find? (fun a => decide (a.1 = 1000 + j) && (match a.2 with
  | [i', _] => decide (i' = i)
  | _ => false)) with
  | some (_, [_, v]) => some v
  | _ => none
theorem kFindEl_ok {ρ : List Int} {γ : List kA} {j : Nat} {i v : sL} {H : List eE} {zi : Int} (hg : kGh (kGP UP) ρ γ H) (h : kFindEl γ j i = some v) (hi : sEv ρ i = some zi) : ∃ z, sEv ρ v = some z ∧ kEl j zi z H := by
  unfold kFindEl at h
  split at h
  · rename_i k i' v' hf
    cases h
    have hm := List.mem_of_find?_eq_some hf
    have hp := List.find?_some hf
    simp only [Bool.and_eq_true, decide_eq_true_eq] at hp
    obtain ⟨h1, h2⟩ := hp
    subst h1; subst h2
    obtain ⟨zs, h3, h4⟩ := hg _ hm
    simp only [sVal] at h3
    rw [hi] at h3
    split at h3
    · rename_i z zs' e1 e2
      cases e1
      cases hv : sEv ρ v with
      | none => rw [hv] at e2; cases e2
      | some y =>
        rw [hv] at e2
        cases e2
        cases h3
        exact ⟨y, rfl, kGP_el.mp h4⟩
    · cases h3
  · cases h
/-- a place that is one number, with a number of its own there; or an array of references -/
def kExact (B : List (Int × Int)) (ty : FieldType) (i : sL) (bd : Int × Int) (ov : List (Nat × sL)) : Bool := ty.isReference || (match sK B i with
  | some k => (sLk ov k.toNat).isSome || decide (bd.1 = bd.2)
  | none => false)
def kRd (SO : List (Nat × List sL)) (sl nx b : Nat) : kS → Option (List kS)
  | ((pc, ls, (0, i) :: (2, q) :: st, G, c, s, Γ), γ) =>
    if q.1.toNat < SO.length then (if q.1.toNat = sl then (match γ.find? (fun a => decide (a.1 = 0)) with
        | some (_, [len]) => if b = 0 ∧ sNN Γ i = true ∧ sNN Γ (sSub (sSub len i) (sC 1)) = true ∧ sI32 Γ.1 i = true then some [((nx, ls, (0, sX Γ.1.length) :: st, G, c, s, sFresh Γ (-2147483648, 2147483647)), γ)] else none
        | _ => none) else (s19 SO nx b (pc, ls, (0, i) :: (2, q) :: st, G, c, s, Γ)).map fun L => L.map fun S => (S, γ))
    else match G[q.1.toNat - SO.length]? with
    | some (.inl (ty, n, bd, ov)) => if kExact Γ.1 ty i bd ov = true then (s19 SO nx b (pc, ls, (0, i) :: (2, q) :: st, G, c, s, Γ)).map fun L => L.map fun S => (S, γ)
      else (match kFindEl γ (q.1.toNat - SO.length) i with
        | some v => if sInR Γ i n = true ∧ ((b = 0 ∧ ty = .int) ∨ (b = 1 ∧ ty = .byte) ∨ (b = 2 ∧ ty = .short)) then some [((nx, ls, (0, v) :: st, G, c, s, Γ), γ)]
          else if sInR Γ i n = true ∧ b = 3 ∧ ty = .long then some [((nx, ls, (1, v) :: st, G, c, s, Γ), γ)] else none
        | none => if sInR Γ i n = true then (if b = 3 then (s19l SO nx (pc, ls, (0, i) :: (2, q) :: st, G, c, s, Γ)).map fun L => L.map fun S => (S, (1000 + (q.1.toNat - SO.length), [i, sX Γ.1.length]) :: γ)
          else (s19w SO nx b (pc, ls, (0, i) :: (2, q) :: st, G, c, s, Γ)).map fun L => L.map fun S => (S, (1000 + (q.1.toNat - SO.length), [i, sX Γ.1.length]) :: γ)) else none)
    | _ => none
  | _ => none
theorem s19w_top {pc : Nat} {ls : List (Nat × sV)} {i q : sL} {st : List sV} {G : List sE} {c s : Nat} {Γ : sG} {L : List sR} (h : s19w SO nx b (pc, ls, (0, i) :: (2, q) :: st, G, c, s, Γ) = some L) : ∀ S ∈ L, ∃ r, S.2.2.1 = (0, sX Γ.1.length) :: r := by
  simp only [s19w] at h
  repeat' split at h
  all_goals first | (cases h; intro S hS; rw [List.mem_singleton.mp hS]; exact ⟨_, rfl⟩) | cases h
theorem s19l_top {pc : Nat} {ls : List (Nat × sV)} {i q : sL} {st : List sV} {G : List sE} {c s : Nat} {Γ : sG} {L : List sR} (h : s19l SO nx (pc, ls, (0, i) :: (2, q) :: st, G, c, s, Γ) = some L) : ∀ S ∈ L, ∃ r, S.2.2.1 = (1, sX Γ.1.length) :: r := by
  simp only [s19l] at h
  repeat' split at h
  all_goals first | (cases h; intro S hS; rw [List.mem_singleton.mp hS]; exact ⟨_, rfl⟩) | cases h
theorem kRd_ok (hlen : kLenOk UP RO sl) (hsl : sl < SO.length) {K : kS} {L : List kS} (h : kRd SO sl nx b K = some L) {ρ : List Int} {R : eR} (hRO : sRor ρ SO RO) (hD : kD (kGP UP) ρ K R) : ∃ K' ∈ L, ∃ ρ' R', ρ <+: ρ' ∧ e19 RO nx b R = some R' ∧ kD (kGP UP) ρ' K' R' := by
  have hro := sRor_len hRO
  obtain ⟨⟨pc, ls, stk, G, c, s, Γ⟩, γ⟩ := K
  obtain ⟨pc', ls', st', G', c', s'⟩ := R
  have hD0 := hD
  obtain ⟨hM, ⟨h1, hL, hV, hH, h2, h3⟩, hg⟩ := hD
  simp only at hM h1 hL hV hH h2 h3 hg
  subst h1; subst h2; subst h3
  unfold kRd at h
  split at h
  · rename_i i q st G1 c1 s1 Γ1 γ1 heq
    cases heq
    obtain ⟨zi, r0, rfl, hi, hV0⟩ := sVs_int hV
    obtain ⟨r1, rfl, hV1⟩ := sVs_ref hV0
    split at h
    · rename_i hq
      split at h
      · rename_i hsl2
        split at h
        · rename_i k len hf
          split at h
          · rename_i hc
            obtain ⟨rfl, c1, c2, c3⟩ := hc
            cases h
            have hm := List.mem_of_find?_eq_some hf
            have hk : k = 0 := by simpa using List.find?_some hf
            subst hk
            obtain ⟨zs, e1, e2⟩ := hg _ hm
            have n1 := sNN_ok hM hi c1
            have r32 := sWi_ok hM.1 hi c3
            simp only [sVal] at e1
            split at e1
            · rename_i zl zs' el ez
              cases ez
              cases e1
              have e2' : UP 0 [zl] G' := e2
              obtain ⟨qq, g1, g2⟩ := hlen zl G' e2'
              obtain ⟨nn, f⟩ := qq
              have n2 := sNN_ok hM (sEv_sub (sEv_sub el hi) (sEv_C 1)) c2
              simp only at g2
              obtain ⟨kk, rfl⟩ : ∃ kk : Nat, zi = (kk : Int) := ⟨zi.toNat, by omega⟩
              have ei : (Int32.ofInt (kk : Int)) = nI kk := by simp [nI, Int32.ofNat, Int32.ofInt]
              have ecl : (nI kk).toNatClampNeg = kk := nI_clamp (by omega)
              have hin : eIn (nI kk) nn = true := by
                simp only [eIn, ecl, Bool.and_eq_true, Bool.not_eq_true', decide_eq_false_iff_not, decide_eq_true_eq]
                exact ⟨nI_pos (by omega), by omega⟩
              have hb := sRng32 (f kk)
              obtain ⟨m, hx⟩ := sFresh_ok (b := (-2147483648, 2147483647)) hM hb.1 hb.2
              have hpre : ρ <+: ρ ++ [(f kk).toInt] := ⟨_, rfl⟩
              refine ⟨_, List.mem_singleton.mpr rfl, _, (nx, ls', .int (f kk) :: r1, G', c', s'), hpre, ?_, m, ⟨rfl, hL.mono hpre, ⟨⟨_, hx, by rw [Int32.ofInt_toInt]⟩, hV1.mono hpre⟩, hH.mono hpre, rfl, rfl⟩, hg.mono _ hpre⟩
              simp only [e19]
              rw [if_pos (by rw [hro]; exact hq), hsl2, g1]
              simp only
              rw [ei, if_pos ⟨trivial, hin⟩, ecl]
            · cases e1
          · cases h
        · cases h
      · obtain ⟨L0, hL0, rfl⟩ := Option.map_eq_some_iff.mp h
        exact kLift (t19 hRO hM ⟨rfl, hL, hV, hH, rfl, rfl⟩ hL0) hg (fun R' he => f19 he)
    · rename_i hq
      split at h
      · rename_i ty n bd ov hgj
        split at h
        · obtain ⟨L0, hL0, rfl⟩ := Option.map_eq_some_iff.mp h
          exact kLift (t19 hRO hM ⟨rfl, hL, hV, hH, rfl, rfl⟩ hL0) hg (fun R' he => f19 he)
        · obtain ⟨y, hy, hxy⟩ := sHp_get hH hgj
          rcases y with ⟨ty', n', arr⟩ | y
          · obtain ⟨rfl, rfl, harr⟩ := hxy
            split at h
            · rename_i v hv
              obtain ⟨z, hz, ty2, n2, arr2, k1, k2, k3⟩ := kFindEl_ok hg hv hi
              rw [hy] at k1
              cases k1
              split at h
              · rename_i hc
                cases h
                obtain ⟨i1, i2, i3⟩ := sInR_at hM hi hc.1
                obtain ⟨-, hein⟩ := sInR_ok hM hi hc.1
                rcases arr with f | f | f
                · simp only at k3
                  refine ⟨_, List.mem_singleton.mpr rfl, ρ, (nx, ls', .int (f zi.toNat) :: r1, G', c', s'), List.prefix_refl _, ?_, hM, ⟨rfl, hL, ⟨⟨z, hz, by rw [k3]⟩, hV1⟩, hH, rfl, rfl⟩, hg⟩
                  simp only [e19]
                  rw [if_neg (by rw [hro]; exact hq), hro, hy]
                  simp only
                  rw [if_pos ⟨hc.2, hein⟩, i3]
                · have := harr.1
                  subst this
                  rcases hc.2 with ⟨-, h9⟩ | ⟨-, h9⟩ | ⟨-, h9⟩ <;> cases h9
                · exact k3.elim
              · split at h
                · rename_i hc
                  cases h
                  obtain ⟨i1, i2, i3⟩ := sInR_at hM hi hc.1
                  obtain ⟨-, hein⟩ := sInR_ok hM hi hc.1
                  obtain ⟨-, rfl, rfl⟩ := hc
                  rcases arr with f | f | f
                  · rcases harr.1 with h9 | h9 | h9 <;> cases h9
                  · simp only at k3
                    refine ⟨_, List.mem_singleton.mpr rfl, ρ, (nx, ls', .long (f zi.toNat) :: r1, G', c', s'), List.prefix_refl _, ?_, hM, ⟨rfl, hL, ⟨⟨z, hz, by rw [k3]⟩, hV1⟩, hH, rfl, rfl⟩, hg⟩
                    simp only [e19]
                    rw [if_neg (by rw [hro]; exact hq), hro, hy]
                    simp only
                    rw [if_pos ⟨⟨trivial, trivial⟩, hein⟩, i3]
                  · exact k3.elim
                · cases h
            · split at h
              · rename_i hin
                obtain ⟨i1, i2, i3⟩ := sInR_at hM hi hin
                have fin : ∀ {t : Nat} {L0 : List sR}, t ≤ 1 → sOK ρ L0 (e19 RO nx b (pc', ls', .int (Int32.ofInt zi) :: .ref q.1.toNat :: r1, G', c', s')) → (∀ S ∈ L0, ∃ r, S.2.2.1 = (t, sX Γ.1.length) :: r) →
                    ∃ K' ∈ L0.map (fun S => ((S, (1000 + (q.1.toNat - SO.length), [i, sX Γ.1.length]) :: γ) : kS)), ∃ ρ' R', ρ <+: ρ' ∧ e19 RO nx b (pc', ls', .int (Int32.ofInt zi) :: .ref q.1.toNat :: r1, G', c', s') = some R' ∧ kD (kGP UP) ρ' K' R' := by
                  intro t L0 ht hok htop
                  obtain ⟨S', hS, ρ', R', hp, hM', he, hD'⟩ := hok
                  obtain ⟨r, hr⟩ := htop S' hS
                  have hV' := hD'.2.2.1
                  rw [hr] at hV'
                  obtain ⟨z, hz, hel⟩ := kRdEl he (by rw [hro]; exact hq) i1 i3 ht hV'
                  have hheap : R'.2.2.2.1 = G' := f19 he
                  refine ⟨_, List.mem_map.mpr ⟨S', hS, rfl⟩, ρ', R', hp, he, hM', hD', fun a ha => ?_⟩
                  rw [hheap]
                  rcases List.mem_cons.mp ha with rfl | ha
                  · refine ⟨[zi, z], by simp only [sVal, sEv_mono hp hi, hz], ?_⟩
                    rw [hro] at hel
                    exact kGP_el.mpr hel
                  · exact hg.mono _ hp a ha
                split at h
                · rename_i b3
                  subst b3
                  obtain ⟨L0, hL0, rfl⟩ := Option.map_eq_some_iff.mp h
                  exact fin (t := 1) (by omega) (t19l hRO hM ⟨rfl, hL, hV, hH, rfl, rfl⟩ hL0) (s19l_top hL0)
                · obtain ⟨L0, hL0, rfl⟩ := Option.map_eq_some_iff.mp h
                  exact fin (t := 0) (by omega) (t19w hRO hM ⟨rfl, hL, hV, hH, rfl, rfl⟩ hL0) (s19w_top hL0)
              · cases h
          · exact hxy.elim
      · cases h
  · cases h
end KRD
end
section
/-! K: the write of an array's element, of a field. -/
section KWR
variable {UP : Nat → List Int → List eE → Prop} {ud : Nat → List Nat} {SO : List (Nat × List sL)} {RO : List (Nat × (Nat → Int32))} {CL : List vw_C} {CT : Nat → Nat → FieldType} {nx b : Nat}
theorem e20_I {pc : Nat} {ls : List (Nat × Value)} {w : Value} {i : Int32} {q : Nat} {st : List Value} {G : List eE} {c s : Nat} {R' : eR} {ty : FieldType} {n : Nat} {f : Nat → Int32} (h : e20 RO CL nx b (pc, ls, w :: .int i :: .ref q :: st, G, c, s) = some R') (hq : ¬ q < RO.length) (hg : G[q - RO.length]? = some (.inl (ty, n, .inl f))) :
    ∃ x x', w = .int x ∧ R'.2.2.2.1 = G.set (q - RO.length) (.inl (ty, n, .inl (upd f i.toNatClampNeg x'))) ∧ ((b = 0 ∧ x' = x) ∨ (b = 1 ∧ x' = vp_nar .byte x) ∨ (b = 2 ∧ x' = vp_nar .short x)) := by
  cases w with
  | int x =>
    simp only [e20] at h
    rw [if_neg hq, hg] at h
    simp only at h
    split at h
    · split at h
      · rename_i hb
        cases h
        exact ⟨x, x, rfl, rfl, Or.inl ⟨hb.1, rfl⟩⟩
      split at h
      · rename_i hb
        cases h
        exact ⟨x, _, rfl, rfl, Or.inr (Or.inl ⟨hb.1, rfl⟩)⟩
      split at h
      · rename_i hb
        cases h
        exact ⟨x, _, rfl, rfl, Or.inr (Or.inr ⟨hb.1, rfl⟩)⟩
      · cases h
    · cases h
  | _ =>
    simp only [e20] at h
    rw [if_neg hq] at h
    first | (rw [hg] at h; cases h) | cases h
theorem e20_L {pc : Nat} {ls : List (Nat × Value)} {w : Value} {i : Int32} {q : Nat} {st : List Value} {G : List eE} {c s : Nat} {R' : eR} {ty : FieldType} {n : Nat} {f : Nat → Int64} (h : e20 RO CL nx b (pc, ls, w :: .int i :: .ref q :: st, G, c, s) = some R') (hq : ¬ q < RO.length) (hg : G[q - RO.length]? = some (.inl (ty, n, .inr (.inl f)))) :
    b = 3 ∧ ∃ x, w = .long x ∧ R'.2.2.2.1 = G.set (q - RO.length) (.inl (ty, n, .inr (.inl (vp_updL f i.toNatClampNeg x)))) := by
  cases w with
  | long x =>
    simp only [e20] at h
    rw [if_neg hq, hg] at h
    simp only at h
    split at h
    · rename_i hb
      cases h
      exact ⟨hb.1.1, x, rfl, rfl⟩
    · cases h
  | _ =>
    simp only [e20] at h
    rw [if_neg hq] at h
    first | (rw [hg] at h; cases h) | cases h
/-- what atoms of the caller's own hold behind a write -/
def kWOk (UP : Nat → List Int → List eE → Prop) (KW : sG → List kA → Nat → sL → sL → List kA) : Prop := ∀ (Γ : sG) (γ : List kA) (j : Nat) (i v : sL) (ρ : List Int) (zi zv : Int) (H : List eE) (ty : FieldType) (n : Nat) (f : Nat → Int32), sMo ρ Γ → kGh (kGP UP) ρ γ H → sEv ρ i = some zi → sEv ρ v = some zv → 0 ≤ zi → zi < n → H[j]? = some (.inl (ty, n, .inl f)) →
  kGh (kGP UP) ρ (KW Γ γ j i v) (H.set j (.inl (ty, n, .inl (upd f zi.toNat (Int32.ofInt zv)))))
def kWrA (KW : sG → List kA → Nat → sL → sL → List kA) (Γ : sG) (γ : List kA) (b j n : Nat) (i v : sL) : List kA :=
  if (sInR Γ i n && (decide (b = 0) || (decide (b = 1) && sWi Γ.1 v (-128) 127 || decide (b = 2) && sWi Γ.1 v (-32768) 32767))) = true then (1000 + j, [i, v]) :: KW Γ γ j i v
  else if (sInR Γ i n && decide (b = 3)) = true then [(1000 + j, [i, v])] else []
def kWr (SO : List (Nat × List sL)) (CL : List vw_C) (ud : Nat → List Nat) (KW : sG → List kA → Nat → sL → sL → List kA) (md : Nat → Bool) (nx b : Nat) : kS → Option (List kS)
  | ((pc, ls, (t, v) :: (0, i) :: (2, q) :: st, G, c, s, Γ), γ) => if q.1.toNat < SO.length then none else if md (q.1.toNat - SO.length) = true then (match G[q.1.toNat - SO.length]? with
    | some (.inl (ty, n, _, _)) => (if (ty.isReference || (sK Γ.1 i).isSome) = true then s20 SO CL nx b (pc, ls, (t, v) :: (0, i) :: (2, q) :: st, G, c, s, Γ) else if b = 3 then s20l SO nx (pc, ls, (t, v) :: (0, i) :: (2, q) :: st, G, c, s, Γ) else s20w SO nx b (pc, ls, (t, v) :: (0, i) :: (2, q) :: st, G, c, s, Γ)).map fun L => L.map fun S => (S, (if ty.isReference = true then [] else kWrA KW Γ γ b (q.1.toNat - SO.length) n i v) ++ kRest ud (q.1.toNat - SO.length) γ)
    | _ => none) else none
  | _ => none
theorem kWr_ok (hU : ∀ k zs (H H' : List eE), (∀ j ∈ ud k, H'[j]? = H[j]?) → UP k zs H → UP k zs H') {KW : sG → List kA → Nat → sL → sL → List kA} (hKW : kWOk UP KW) {md : Nat → Bool} {K : kS} {L : List kS} (h : kWr SO CL ud KW md nx b K = some L) {ρ : List Int} {R : eR} (hRO : sRor ρ SO RO) (hD : kD (kGP UP) ρ K R) :
    ∃ K' ∈ L, ∃ ρ' R', ρ <+: ρ' ∧ e20 RO CL nx b R = some R' ∧ kD (kGP UP) ρ' K' R' ∧ (∀ j, j < R.2.2.2.1.length → md j = false → R'.2.2.2.1[j]? = R.2.2.2.1[j]?) ∧ R.2.2.2.1.length ≤ R'.2.2.2.1.length := by
  have hro := sRor_len hRO
  obtain ⟨⟨pc, ls, stk, G, c, s, Γ⟩, γ⟩ := K
  obtain ⟨pc', ls', st', G', c', s'⟩ := R
  obtain ⟨hM, ⟨h1, hL, hV, hH, h2, h3⟩, hg⟩ := hD
  simp only at hM h1 hL hV hH h2 h3 hg
  subst h1; subst h2; subst h3
  unfold kWr at h
  split at h
  · rename_i t v i q st G1 c1 s1 Γ1 γ1 heq
    cases heq
    obtain ⟨w, r9, rfl, hw, hV9⟩ := sVs_cons hV
    obtain ⟨zi, r0, rfl, hi, hV0⟩ := sVs_int hV9
    obtain ⟨r1, rfl, hV1⟩ := sVs_ref hV0
    split at h
    · cases h
    rename_i hq
    split at h
    · rename_i hmd
      split at h
      · rename_i ty n bd ov hgj
        obtain ⟨L0, hL0, rfl⟩ := Option.map_eq_some_iff.mp h
        have hDs : sD ρ (pc', ls, (t, v) :: (0, i) :: (2, q) :: st, G, c', s', Γ) (pc', ls', w :: .int (Int32.ofInt zi) :: .ref q.1.toNat :: r1, G', c', s') := ⟨rfl, hL, hV, hH, rfl, rfl⟩
        have hok : sOK ρ L0 (e20 RO CL nx b (pc', ls', w :: .int (Int32.ofInt zi) :: .ref q.1.toNat :: r1, G', c', s')) := by
          split at hL0
          · exact t20 hRO hM hDs hL0
          · split at hL0
            · rename_i b3
              subst b3
              exact t20l hRO hM hDs hL0
            · exact t20w hRO hM hDs hL0
        obtain ⟨S', hS, ρ', R', hp, hM', he, hD'⟩ := hok
        obtain ⟨x, hx⟩ := f20 he rfl
        simp only at hx
        rw [hro] at hx
        refine ⟨_, List.mem_map.mpr ⟨S', hS, rfl⟩, ρ', R', hp, he, ⟨hM', hD', fun a ha => ?_⟩, fun j hj hmj => ?_, ?_⟩
        · change a ∈ (if ty.isReference = true then [] else kWrA KW Γ γ b (q.1.toNat - SO.length) n i v) ++ kRest ud (q.1.toNat - SO.length) γ at ha
          rcases List.mem_append.mp ha with ha1 | ha1
          · clear ha
            have ha := ha1
            split at ha
            · cases ha
            rename_i href
            obtain ⟨y, hy, hxy⟩ := sHp_get hH hgj
            rcases y with ⟨ty', n', arr⟩ | y
            · obtain ⟨rfl, rfl, harr⟩ := hxy
              have hjl : q.1.toNat - SO.length < G'.length := (List.getElem?_eq_some_iff.mp hy).1
              have hq' : ¬ q.1.toNat < RO.length := by rw [hro]; exact hq
              unfold kWrA at ha
              split at ha
              · rename_i hc
                simp only [Bool.and_eq_true, Bool.or_eq_true, decide_eq_true_eq] at hc
                obtain ⟨hin, hb⟩ := hc
                obtain ⟨i1, i2, i3⟩ := sInR_at hM hi hin
                rcases arr with f | f | f
                · obtain ⟨xw, x', rfl, hheap, hxx⟩ := e20_I he hq' (by rw [hro]; exact hy)
                  rw [i3, hro] at hheap
                  have hvz : ∃ z, sEv ρ v = some z ∧ x' = Int32.ofInt z := by
                    by_cases ht : t = 0
                    · subst ht
                      obtain ⟨z, e1, e2⟩ := sVr_int hw
                      have e2 := Value.int.inj e2
                      refine ⟨z, e1, ?_⟩
                      rcases hxx with ⟨rfl, e3⟩ | ⟨rfl, e3⟩ | ⟨rfl, e3⟩
                      · rw [e3, e2]
                      · have hwi : sWi Γ.1 v (-128) 127 = true := by
                          rcases hb with hb | ⟨-, hb⟩ | ⟨hb, -⟩
                          · cases hb
                          · exact hb
                          · cases hb
                        have := sWi_ok hM.1 e1 hwi
                        rw [e3, e2, sNarB this.1 this.2]
                      · have hwi : sWi Γ.1 v (-32768) 32767 = true := by
                          rcases hb with hb | ⟨hb, -⟩ | ⟨-, hb⟩
                          · cases hb
                          · cases hb
                          · exact hb
                        have := sWi_ok hM.1 e1 hwi
                        rw [e3, e2, sNarS this.1 this.2]
                    · exfalso
                      unfold sVr at hw
                      rw [if_neg ht] at hw
                      split at hw
                      · obtain ⟨_, -, hw⟩ := hw; cases hw
                      split at hw
                      · cases hw
                      split at hw
                      · cases hw
                      split at hw
                      · obtain ⟨_, -, hw⟩ := hw; cases hw
                      · exact hw
                  obtain ⟨z, hz, hxz⟩ := hvz
                  rw [hxz] at hheap
                  rcases List.mem_cons.mp ha with rfl | ha
                  · refine ⟨[zi, z], by simp only [sVal, sEv_mono hp hi, sEv_mono hp hz], kGP_el.mpr ⟨ty', n', .inl (upd f zi.toNat (Int32.ofInt z)), by rw [hheap, List.getElem?_set_self hjl], i1, by simp [upd]⟩⟩
                  · rw [hheap]
                    exact (hKW Γ γ _ i v ρ zi z G' ty' n' f hM hg hi hz i1 i2 hy).mono _ hp a ha
                · exfalso
                  have h9 := (e20_L he hq' (by rw [hro]; exact hy)).1
                  rcases hb with hb | ⟨hb, -⟩ | ⟨hb, -⟩ <;> omega
                · exact absurd harr.1 href
              · split at ha
                · rename_i hc
                  simp only [Bool.and_eq_true, decide_eq_true_eq] at hc
                  obtain ⟨hin, hb⟩ := hc
                  subst hb
                  obtain ⟨i1, i2, i3⟩ := sInR_at hM hi hin
                  rcases List.mem_singleton.mp ha with rfl
                  rcases arr with f | f | f
                  · exfalso
                    obtain ⟨xw, x', rfl, -, hxx⟩ := e20_I he hq' (by rw [hro]; exact hy)
                    rcases hxx with ⟨h9, -⟩ | ⟨h9, -⟩ | ⟨h9, -⟩ <;> cases h9
                  · obtain ⟨-, xw, rfl, hheap⟩ := e20_L he hq' (by rw [hro]; exact hy)
                    rw [i3, hro] at hheap
                    have hvz : ∃ z, sEv ρ v = some z ∧ xw = Int64.ofInt z := by
                      by_cases ht : t = 1
                      · subst ht
                        obtain ⟨z, e1, e2⟩ := sVr_long hw
                        exact ⟨z, e1, Value.long.inj e2⟩
                      · exfalso
                        unfold sVr at hw
                        repeat' split at hw
                        all_goals first | (obtain ⟨_, -, hw⟩ := hw; cases hw; done) | (exact ht ‹_›) | (cases hw; done) | exact hw
                    obtain ⟨z, hz, hxz⟩ := hvz
                    rw [hxz] at hheap
                    exact ⟨[zi, z], by simp only [sVal, sEv_mono hp hi, sEv_mono hp hz], kGP_el.mpr ⟨ty', n', .inr (.inl (vp_updL f zi.toNat (Int64.ofInt z))), by rw [hheap, List.getElem?_set_self hjl], i1, by simp [vp_updL]⟩⟩
                  · exact absurd harr.1 href
                · cases ha
            · exact hxy.elim
          · rw [hx]
            exact (kRest_ok hU hg).mono _ hp a ha1
        · rw [hx]
          have hne : q.1.toNat - SO.length ≠ j := by
            rintro rfl
            rw [hmd] at hmj
            cases hmj
          rw [List.getElem?_set_ne hne]
        · rw [hx, List.length_set]
          exact Nat.le_refl _
      · cases h
    · cases h
  · cases h
/-- a field -/
def kFl (SO : List (Nat × List sL)) (CT : Nat → Nat → FieldType) (ud : Nat → List Nat) (md : Nat → Bool) (nx b k : Nat) : kS → Option (List kS)
  | ((pc, ls, v :: (2, q) :: st, G, c, s, Γ), γ) => if md (q.1.toNat - SO.length) = true then (s17 SO CT nx b k (pc, ls, v :: (2, q) :: st, G, c, s, Γ)).map fun L => L.map fun S => (S, kRest ud (q.1.toNat - SO.length) γ) else none
  | _ => none
theorem kFl_ok (hU : ∀ k zs (H H' : List eE), (∀ j ∈ ud k, H'[j]? = H[j]?) → UP k zs H → UP k zs H') {k : Nat} {md : Nat → Bool} {K : kS} {L : List kS} (h : kFl SO CT ud md nx b k K = some L) {ρ : List Int} {R : eR} (hRO : sRor ρ SO RO) (hD : kD (kGP UP) ρ K R) :
    ∃ K' ∈ L, ∃ ρ' R', ρ <+: ρ' ∧ e17 RO CT nx b k R = some R' ∧ kD (kGP UP) ρ' K' R' ∧ (∀ j, j < R.2.2.2.1.length → md j = false → R'.2.2.2.1[j]? = R.2.2.2.1[j]?) ∧ R.2.2.2.1.length ≤ R'.2.2.2.1.length := by
  have hro := sRor_len hRO
  obtain ⟨⟨pc, ls, stk, G, c, s, Γ⟩, γ⟩ := K
  obtain ⟨pc', ls', st', G', c', s'⟩ := R
  obtain ⟨hM, ⟨h1, hL, hV, hH, h2, h3⟩, hg⟩ := hD
  simp only at hM h1 hL hV hH h2 h3 hg
  subst h1; subst h2; subst h3
  unfold kFl at h
  split at h
  · rename_i v q st G1 c1 s1 Γ1 γ1 heq
    cases heq
    obtain ⟨w, r9, rfl, hw, hV9⟩ := sVs_cons hV
    obtain ⟨r1, rfl, hV1⟩ := sVs_ref hV9
    split at h
    · rename_i hmd
      obtain ⟨L0, hL0, rfl⟩ := Option.map_eq_some_iff.mp h
      obtain ⟨S', hS, ρ', R', hp, hM', he, hD'⟩ := t17 hro hM (R := (pc', ls', w :: .ref q.1.toNat :: r1, G', c', s')) ⟨rfl, hL, hV, hH, rfl, rfl⟩ hL0
      obtain ⟨x, hx⟩ := f17 he rfl
      simp only at hx
      rw [hro] at hx
      refine ⟨_, List.mem_map.mpr ⟨S', hS, rfl⟩, ρ', R', hp, he, ⟨hM', hD', ?_⟩, fun j hj hmj => ?_, ?_⟩
      · rw [hx]
        exact (kRest_ok hU hg).mono _ hp
      · rw [hx]
        have hne : q.1.toNat - SO.length ≠ j := by
          rintro rfl
          rw [hmd] at hmj
          cases hmj
        rw [List.getElem?_set_ne hne]
      · rw [hx, List.length_set]
        exact Nat.le_refl _
    · cases h
  · cases h
end KWR
end
section
/-! K: arithmetic, numbers that wrap. -/
section KARI
variable {ρ : List Int} {S : sR} {R : eR} {L : List sR} {nx a b mL : Nat}
def kN32 (x : sL) (Γ : sG) : sL × sG := if sI32 Γ.1 x = true then (x, Γ) else (sX Γ.1.length, sFresh Γ (-2147483648, 2147483647))
def kN64 (x : sL) (Γ : sG) : sL × sG := if sI64 Γ.1 x = true then (x, Γ) else (sX Γ.1.length, sFresh Γ (-9223372036854775808, 9223372036854775807))
theorem kN32_ok {x : sL} {Γ : sG} {z : Int} (hM : sMo ρ Γ) (hx : sEv ρ x = some z) : ∃ ρ' z', ρ <+: ρ' ∧ sMo ρ' (kN32 x Γ).2 ∧ sEv ρ' (kN32 x Γ).1 = some z' ∧ Int32.ofInt z' = Int32.ofInt z := by
  unfold kN32
  split
  · exact ⟨ρ, z, List.prefix_refl _, hM, hx, rfl⟩
  · have hb := sRng32 (Int32.ofInt z)
    obtain ⟨m, h1⟩ := sFresh_ok (b := (-2147483648, 2147483647)) hM hb.1 hb.2
    exact ⟨_, _, ⟨_, rfl⟩, m, h1, Int32.ofInt_toInt _⟩
theorem kN64_ok {x : sL} {Γ : sG} {z : Int} (hM : sMo ρ Γ) (hx : sEv ρ x = some z) : ∃ ρ' z', ρ <+: ρ' ∧ sMo ρ' (kN64 x Γ).2 ∧ sEv ρ' (kN64 x Γ).1 = some z' ∧ Int64.ofInt z' = Int64.ofInt z := by
  unfold kN64
  split
  · exact ⟨ρ, z, List.prefix_refl _, hM, hx, rfl⟩
  · have hb := sRng64 (Int64.ofInt z)
    obtain ⟨m, h1⟩ := sFresh_ok (b := (-9223372036854775808, 9223372036854775807)) hM hb.1 hb.2
    exact ⟨_, _, ⟨_, rfl⟩, m, h1, Int64.ofInt_toInt _⟩
def kNormT : sR → sR
  | (pc, ls, (0, x) :: st, G, c, s, Γ) => (pc, ls, (0, (kN32 x Γ).1) :: st, G, c, s, (kN32 x Γ).2)
  | (pc, ls, (1, x) :: st, G, c, s, Γ) => (pc, ls, (1, (kN64 x Γ).1) :: st, G, c, s, (kN64 x Γ).2)
  | S => S
def kNormL : sR → sR
  | (pc, (i, (0, x)) :: ls, st, G, c, s, Γ) => (pc, (i, (0, (kN32 x Γ).1)) :: ls, st, G, c, s, (kN32 x Γ).2)
  | S => S
theorem kNormT_ok (hM : sMo ρ S.2.2.2.2.2.2) (hD : sD ρ S R) : ∃ ρ', ρ <+: ρ' ∧ sMo ρ' (kNormT S).2.2.2.2.2.2 ∧ sD ρ' (kNormT S) R := by
  unfold kNormT
  split
  · rename_i pc ls x st G c s Γ
    obtain ⟨h1, hL, hV, hH, h2⟩ := hD
    obtain ⟨w, r, e, hw, hr⟩ := sVs_cons hV
    obtain ⟨z, e1, e2⟩ := sVr_int hw
    obtain ⟨ρ', z', p1, p2, p3, p4⟩ := kN32_ok hM e1
    refine ⟨ρ', p1, p2, h1, hL.mono p1, ?_, hH.mono p1, h2⟩
    rw [e]
    exact ⟨⟨z', p3, by rw [e2, p4]⟩, hr.mono p1⟩
  · rename_i pc ls x st G c s Γ
    obtain ⟨h1, hL, hV, hH, h2⟩ := hD
    obtain ⟨w, r, e, hw, hr⟩ := sVs_cons hV
    obtain ⟨z, e1, e2⟩ := sVr_long hw
    obtain ⟨ρ', z', p1, p2, p3, p4⟩ := kN64_ok hM e1
    refine ⟨ρ', p1, p2, h1, hL.mono p1, ?_, hH.mono p1, h2⟩
    rw [e]
    exact ⟨⟨z', p3, by rw [e2, p4]⟩, hr.mono p1⟩
  · exact ⟨ρ, List.prefix_refl _, hM, hD⟩
theorem kNormL_ok (hM : sMo ρ S.2.2.2.2.2.2) (hD : sD ρ S R) : ∃ ρ', ρ <+: ρ' ∧ sMo ρ' (kNormL S).2.2.2.2.2.2 ∧ sD ρ' (kNormL S) R := by
  unfold kNormL
  split
  · rename_i pc i x ls st G c s Γ
    obtain ⟨h1, hL, hV, hH, h2⟩ := hD
    obtain ⟨w, hw0, hw⟩ := hL i (0, x) (sGetL_hd _ _ _)
    obtain ⟨z, e1, e2⟩ := sVr_int hw
    obtain ⟨ρ', z', p1, p2, p3, p4⟩ := kN32_ok hM e1
    refine ⟨ρ', p1, p2, h1, fun j v hj => ?_, hV.mono p1, hH.mono p1, h2⟩
    by_cases hij : i = j
    · subst hij
      rw [sGetL_hd] at hj
      cases hj
      exact ⟨w, hw0, z', p3, by rw [e2, p4]⟩
    · rw [sGetL_tl hij] at hj
      exact hL.mono p1 j v (by rw [sGetL_tl hij]; exact hj)
  · exact ⟨ρ, List.prefix_refl _, hM, hD⟩
theorem kNorm_all {f : sR → sR} (hf : ∀ (ρ : List Int) (S : sR) (R : eR), sMo ρ S.2.2.2.2.2.2 → sD ρ S R → ∃ ρ', ρ <+: ρ' ∧ sMo ρ' (f S).2.2.2.2.2.2 ∧ sD ρ' (f S) R) {o : Option eR} (h : sOK ρ L o) : sOK ρ (L.map f) o := by
  obtain ⟨S', hS, ρ', R', hp, hM, he, hD⟩ := h
  obtain ⟨ρ2, q1, q2, q3⟩ := hf ρ' S' R' hM hD
  exact ⟨f S', List.mem_map.mpr ⟨S', hS, rfl⟩, ρ2, R', hp.trans q1, q2, he, q3⟩
/-- not 0 -/
def kNz (Γ : sG) (y : sL) : Bool := (match sIv Γ.1 y with
  | some i => decide (0 < i.1) || decide (i.2 < 0)
  | none => false) || Γ.2.2.1.any (fun f => decide (f = y) || decide (f = sNeg y))
theorem kNz_ok {Γ : sG} {y : sL} {z : Int} (hM : sMo ρ Γ) (hy : sEv ρ y = some z) (h : kNz Γ y = true) : z ≠ 0 := by
  unfold kNz at h
  rcases Bool.or_eq_true_iff.mp h with h | h
  · split at h
    · rename_i i hi
      have := sIv_ok hM.1 hy hi
      simp only [Bool.or_eq_true, decide_eq_true_eq] at h
      omega
    · cases h
  · obtain ⟨f, hf, h⟩ := List.any_eq_true.mp h
    obtain ⟨u, e1, e2⟩ := hM.2.2.1 f hf
    simp only [Bool.or_eq_true, decide_eq_true_eq] at h
    rcases h with rfl | rfl
    · cases e1.symm.trans hy; exact e2
    · have e3 := sEv_neg hy
      cases e1.symm.trans e3
      omega
/-- x as q times k and r, r from 0 to k - 1 -/
def kSplit (Γ : sG) (x y : sL) : Option (sL × sL) := match sK Γ.1 y with
  | some k => if 0 < k then (match ((x.1 / k, (x.2.filter (fun t => decide (t.2 % k = 0))).map fun t => (t.1, t.2 / k)) : sL) with
    | q => if (sLo0 Γ.1 x && (sWi Γ.1 (sSub x (sMul k q)) 0 (k - 1) && (sIv Γ.1 q).isSome)) = true then some (q, sSub x (sMul k q)) else none) else none
  | none => none
theorem kSplit_ok {Γ : sG} {x y : sL} {zx zy : Int} {p : sL × sL} (hM : sMo ρ Γ) (hx : sEv ρ x = some zx) (hy : sEv ρ y = some zy) (h : kSplit Γ x y = some p) : 0 ≤ zx ∧ 0 < zy ∧ sEv ρ p.1 = some (zx / zy) ∧ sEv ρ p.2 = some (zx % zy) := by
  unfold kSplit at h
  split at h
  · rename_i k hk
    have e := sK_ok hM.1 hy hk
    subst e
    split at h
    · rename_i h0
      simp only at h
      split at h
      · rename_i hc
        cases h
        simp only [Bool.and_eq_true] at hc
        obtain ⟨c1, c2, c3⟩ := hc
        obtain ⟨i, hi⟩ := Option.isSome_iff_exists.mp c3
        obtain ⟨zq, hq⟩ := sIv_has hM.1 hi
        have hr := sEv_sub hx (sEv_mul zy hq)
        have g1 := sLo0_ok hM.1 hx c1
        have g2 := sWi_ok hM.1 hr c2
        have e1 : zx = (zx - zy * zq) + zy * zq := by omega
        have e2 : zx / zy = zq := by
          rw [e1, Int.add_mul_ediv_left _ _ (by omega), Int.ediv_eq_zero_of_lt g2.1 (by omega)]
          omega
        have e3 : zx % zy = zx - zy * zq := by
          have := Int.mul_ediv_add_emod zx zy
          rw [e2] at this
          omega
        exact ⟨g1, h0, by rw [hq, e2], by rw [hr, e3]⟩
      · cases h
    · cases h
  · cases h
def kFr (Γ : sG) (lo hi : Int) : sL × sG := (sX Γ.1.length, sFresh Γ (lo, hi))
def kDiv (Γ : sG) (b : Nat) (x y : sL) : Option (sL × sG) :=
  if (sI32 Γ.1 x && (sI32 Γ.1 y && kNz Γ y)) = true then (match kSplit Γ x y with
    | some p => some (if b = 9 then p.1 else p.2, Γ)
    | none => match sIv Γ.1 x, sIv Γ.1 y with
      | some ix, some iy => if 0 ≤ ix.1 ∧ 0 < iy.1 then some (if b = 9 then kFr Γ 0 ix.2 else kFr Γ 0 (iy.2 - 1)) else some (kFr Γ (-2147483648) 2147483647)
      | _, _ => none) else none
def kBin (Γ : sG) (b : Nat) (x y : sL) : Option (sL × sG) :=
  if b = 9 ∨ b = 10 then kDiv Γ b x y
  else if b = 8 ∧ sK Γ.1 y = some 4 then some (kFr Γ 0 268435455)
  else if b = 8 ∧ sK Γ.1 y = some 10 then some (kFr Γ 0 4194303)
  else if b = 8 ∧ sK Γ.1 y = some 18 then some (kFr Γ 0 16383)
  else sBin Γ b x y
theorem kUsh {x : Int32} {s : Int32} {k : Nat} (hs : ((s.toUInt32 &&& Int32.toUInt32 31).toBitVec % 32).toNat = k) (hk : 1 ≤ k) : 0 ≤ (x.toUInt32 >>> (s.toUInt32 &&& Int32.toUInt32 31)).toInt32.toInt ∧ (x.toUInt32 >>> (s.toUInt32 &&& Int32.toUInt32 31)).toInt32.toInt ≤ ((2 ^ 32 / 2 ^ k : Nat) : Int) - 1 := by
  have h := pk_ushr x s k hs
  have h1 : x.toBitVec.toNat < 2 ^ 32 := x.toBitVec.isLt
  have h2 : 2 ^ 32 / 2 ^ k ≤ 2 ^ 31 := by
    have : 2 ^ 1 ≤ 2 ^ k := Nat.pow_le_pow_right (by decide) hk
    exact Nat.le_trans (Nat.div_le_div_left this (by decide)) (by decide)
  have h5 : 2 ^ 32 / 2 ^ k * 2 ^ k = 2 ^ 32 := by
    have hk32 : k ≤ 32 := by
      have : k < 32 := by
        rw [← hs]
        have := BitVec.toNat_umod (x := (s.toUInt32 &&& Int32.toUInt32 31).toBitVec) (y := 32)
        rw [this]
        exact Nat.mod_lt _ (by decide)
      omega
    exact Nat.div_mul_cancel (Nat.pow_dvd_pow 2 hk32)
  have h3 : x.toBitVec.toNat / 2 ^ k < 2 ^ 32 / 2 ^ k := by
    rw [Nat.div_lt_iff_lt_mul (Nat.two_pow_pos k), h5]
    exact h1
  have h4 : (x.toUInt32 >>> (s.toUInt32 &&& Int32.toUInt32 31)).toInt32.toInt = ((x.toBitVec.toNat / 2 ^ k : Nat) : Int) := by
    show (x.toUInt32 >>> (s.toUInt32 &&& Int32.toUInt32 31)).toInt32.toBitVec.toInt = _
    rw [BitVec.toInt_eq_toNat_of_lt (by rw [h]; omega), h]
  rw [h4]
  omega
theorem kFr_ok {Γ : sG} {lo hi : Int} {o : Option Int32} {v : Int32} (hM : sMo ρ Γ) (ho : o = some v) (h1 : lo ≤ v.toInt) (h2 : v.toInt ≤ hi) : ∃ ρ' z, ρ <+: ρ' ∧ sMo ρ' (kFr Γ lo hi).2 ∧ sEv ρ' (kFr Γ lo hi).1 = some z ∧ o = some (Int32.ofInt z) := by
  obtain ⟨m, h3⟩ := sFresh_ok (b := (lo, hi)) hM h1 h2
  exact ⟨_, _, ⟨_, rfl⟩, m, h3, by rw [Int32.ofInt_toInt]; exact ho⟩
theorem kBin_ok {Γ : sG} {x y : sL} {zx zy : Int} {r : sL × sG} (hM : sMo ρ Γ) (hx : sEv ρ x = some zx) (hy : sEv ρ y = some zy) (h : kBin Γ b x y = some r) :
    ∃ ρ' z, ρ <+: ρ' ∧ sMo ρ' r.2 ∧ sEv ρ' r.1 = some z ∧ eBin b (Int32.ofInt zx) (Int32.ofInt zy) = some (Int32.ofInt z) := by
  unfold kBin at h
  split at h
  · rename_i hb
    unfold kDiv at h
    split at h
    · rename_i hc
      simp only [Bool.and_eq_true] at hc
      obtain ⟨c1, c2, c3⟩ := hc
      have rx := sWi_ok hM.1 hx c1
      have ry := sWi_ok hM.1 hy c2
      have hz := kNz_ok hM hy c3
      have hne : ¬ Int32.ofInt zy = 0 := by
        intro e
        have := congrArg Int32.toInt e
        rw [sTo32 ry.1 ry.2] at this
        exact hz this
      have hv : ∃ v, eBin b (Int32.ofInt zx) (Int32.ofInt zy) = some v := by
        rcases hb with rfl | rfl
        · exact ⟨_, show (if Int32.ofInt zy = 0 then none else some _) = _ from if_neg hne⟩
        · exact ⟨_, show (if Int32.ofInt zy = 0 then none else some _) = _ from if_neg hne⟩
      have hpos : 0 ≤ zx → 0 < zy → eBin b (Int32.ofInt zx) (Int32.ofInt zy) = some (Int32.ofInt (if b = 9 then zx / zy else zx % zy)) := by
        intro g1 g2
        obtain ⟨v1, v2, v3⟩ := sDiv_val g1 rx.2 g2 ry.2
        rcases hb with rfl | rfl
        · rw [if_pos rfl, ← v1, Int32.ofInt_toInt]
          exact if_neg hne
        · rw [if_neg (by decide), ← v2, Int32.ofInt_toInt]
          exact if_neg hne
      split at h
      · rename_i p hp
        cases h
        obtain ⟨g1, g2, g3, g4⟩ := kSplit_ok hM hx hy hp
        refine ⟨ρ, _, List.prefix_refl _, hM, ?_, hpos g1 g2⟩
        split
        · exact g3
        · exact g4
      · split at h
        · rename_i ix iy hix hiy
          have bx := sIv_ok hM.1 hx hix
          have by' := sIv_ok hM.1 hy hiy
          split at h
          · rename_i hc2
            cases h
            have g1 : 0 ≤ zx := by omega
            have g2 : 0 < zy := by omega
            have e := hpos g1 g2
            have d1 : 0 ≤ zx / zy := Int.ediv_nonneg g1 (by omega)
            have d2 : zx / zy ≤ zx := Int.ediv_le_self _ g1
            have d3 : 0 ≤ zx % zy := Int.emod_nonneg _ (by omega)
            have d4 : zx % zy < zy := Int.emod_lt_of_pos _ g2
            rcases hb with rfl | rfl
            · rw [if_pos rfl] at e
              have t := sTo32 (z := zx / zy) (by omega) (by omega)
              exact kFr_ok hM e (by rw [t]; exact d1) (by rw [t]; omega)
            · rw [if_neg (by decide)] at e
              have t := sTo32 (z := zx % zy) (by omega) (by omega)
              exact kFr_ok hM e (by rw [t]; exact d3) (by rw [t]; omega)
          · cases h
            obtain ⟨v, hv⟩ := hv
            have q := sRng32 v
            exact kFr_ok hM hv q.1 q.2
        · cases h
    · cases h
  split at h
  · rename_i hb
    obtain ⟨rfl, hk⟩ := hb
    cases h
    have e := sK_ok hM.1 hy hk
    subst e
    have q := kUsh (x := Int32.ofInt zx) (s := Int32.ofInt 4) (k := 4) (by decide) (by decide)
    exact kFr_ok hM rfl q.1 q.2
  split at h
  · rename_i hb
    obtain ⟨rfl, hk⟩ := hb
    cases h
    have e := sK_ok hM.1 hy hk
    subst e
    have q := kUsh (x := Int32.ofInt zx) (s := Int32.ofInt 10) (k := 10) (by decide) (by decide)
    exact kFr_ok hM rfl q.1 q.2
  split at h
  · rename_i hb
    obtain ⟨rfl, hk⟩ := hb
    cases h
    have e := sK_ok hM.1 hy hk
    subst e
    have q := kUsh (x := Int32.ofInt zx) (s := Int32.ofInt 18) (k := 18) (by decide) (by decide)
    exact kFr_ok hM rfl q.1 q.2
  exact sBin_ok hM hx hy h
def k6 (nx b : Nat) : sR → Option (List sR)
  | (_, ls, (0, y) :: (0, x) :: st, G, c, s, Γ) => (kBin Γ b x y).map fun r => [kNormT (nx, ls, (0, r.1) :: st, G, c, s, r.2)]
  | _ => none
theorem k6_ok (hM : sMo ρ S.2.2.2.2.2.2) (hD : sD ρ S R) (h : k6 nx b S = some L) : sOK ρ L (e6 nx b R) := by
  obtain ⟨pc, ls, st, G, c, s, Γ⟩ := S
  obtain ⟨pc', ls', st', G', c', s'⟩ := R
  obtain ⟨h1, hL, hV, hH, h2, h3⟩ := hD
  simp only at h1 hL hV hH h2 h3 hM
  subst h1; subst h2; subst h3
  unfold k6 at h
  split at h
  · rename_i heq
    cases heq
    obtain ⟨r, hr, rfl⟩ := Option.map_eq_some_iff.mp h
    obtain ⟨zy, r1, rfl, hy, hV1⟩ := sVs_int hV
    obtain ⟨zx, r2, rfl, hx, hV2⟩ := sVs_int hV1
    obtain ⟨ρ', z, p1, p2, p3, p4⟩ := kBin_ok hM hx hy hr
    refine kNorm_all (f := kNormT) (L := [_]) (fun ρ S R => kNormT_ok) (sOK.one p1 p2 (R' := (nx, ls', .int (Int32.ofInt z) :: r2, G', c', s')) ?_ ⟨rfl, hL.mono p1, ⟨⟨z, p3, rfl⟩, hV2.mono p1⟩, hH.mono p1, rfl, rfl⟩)
    simp only [e6, p4, Option.map_some]
  · cases h
/-- longs -/
def kLin (Γ : sG) (b : Nat) (x y : sL) : Option (sL × sG) :=
  if b = 9 then (if (sI64 Γ.1 y && kNz Γ y) = true then some (kFr Γ (-9223372036854775808) 9223372036854775807) else none)
  else match sLin Γ b x y with
    | some r => some r
    | none => if b = 2 then some (kFr Γ (-9223372036854775808) 9223372036854775807) else none
theorem kLin_ok {Γ : sG} {x y : sL} {zx zy : Int} {r : sL × sG} (hM : sMo ρ Γ) (hx : sEv ρ x = some zx) (hy : sEv ρ y = some zy) (h : kLin Γ b x y = some r) :
    ∃ ρ' z, ρ <+: ρ' ∧ sMo ρ' r.2 ∧ sEv ρ' r.1 = some z ∧ eLin b (Int64.ofInt zx) (Int64.ofInt zy) = some (Int64.ofInt z) := by
  have fin : ∀ v : Int64, eLin b (Int64.ofInt zx) (Int64.ofInt zy) = some v → ∃ ρ' z, ρ <+: ρ' ∧ sMo ρ' (kFr Γ (-9223372036854775808) 9223372036854775807).2 ∧ sEv ρ' (kFr Γ (-9223372036854775808) 9223372036854775807).1 = some z ∧ eLin b (Int64.ofInt zx) (Int64.ofInt zy) = some (Int64.ofInt z) := by
    intro v hv
    have q := sRng64 v
    obtain ⟨m, h3⟩ := sFresh_ok (b := (-9223372036854775808, 9223372036854775807)) hM q.1 q.2
    exact ⟨_, _, ⟨_, rfl⟩, m, h3, by rw [Int64.ofInt_toInt]; exact hv⟩
  unfold kLin at h
  split at h
  · rename_i hb
    subst hb
    split at h
    · rename_i hc
      cases h
      simp only [Bool.and_eq_true] at hc
      have ry := sWi_ok hM.1 hy hc.1
      have hz := kNz_ok hM hy hc.2
      have hne : ¬ Int64.ofInt zy = 0 := by
        intro e
        have := congrArg Int64.toInt e
        rw [sTo64 ry.1 ry.2] at this
        exact hz this
      exact fin (Int64.ofInt zx / Int64.ofInt zy) (show (if Int64.ofInt zy = 0 then none else some _) = _ from if_neg hne)
    · cases h
  · split at h
    · rename_i r' hr
      cases h
      exact sLin_ok hM hx hy hr
    · split at h
      · rename_i hb
        subst hb
        cases h
        exact fin (Int64.ofInt zx * Int64.ofInt zy) rfl
      · cases h
def k7 (nx b : Nat) : sR → Option (List sR)
  | (_, ls, (1, y) :: (1, x) :: st, G, c, s, Γ) => (kLin Γ b x y).map fun r => [kNormT (nx, ls, (1, r.1) :: st, G, c, s, r.2)]
  | _ => none
theorem k7_ok (hM : sMo ρ S.2.2.2.2.2.2) (hD : sD ρ S R) (h : k7 nx b S = some L) : sOK ρ L (e7 nx b R) := by
  obtain ⟨pc, ls, st, G, c, s, Γ⟩ := S
  obtain ⟨pc', ls', st', G', c', s'⟩ := R
  obtain ⟨h1, hL, hV, hH, h2, h3⟩ := hD
  simp only at h1 hL hV hH h2 h3 hM
  subst h1; subst h2; subst h3
  unfold k7 at h
  split at h
  · rename_i heq
    cases heq
    obtain ⟨r, hr, rfl⟩ := Option.map_eq_some_iff.mp h
    obtain ⟨zy, r1, rfl, hy, hV1⟩ := sVs_long hV
    obtain ⟨zx, r2, rfl, hx, hV2⟩ := sVs_long hV1
    obtain ⟨ρ', z, p1, p2, p3, p4⟩ := kLin_ok hM hx hy hr
    refine kNorm_all (f := kNormT) (L := [_]) (fun ρ S R => kNormT_ok) (sOK.one p1 p2 (R' := (nx, ls', .long (Int64.ofInt z) :: r2, G', c', s')) ?_ ⟨rfl, hL.mono p1, ⟨⟨z, p3, rfl⟩, hV2.mono p1⟩, hH.mono p1, rfl, rfl⟩)
    simp only [e7, p4, Option.map_some]
  · cases h
end KARI
end
section
/-! K: copies; one step. -/
section KSTP
variable {UP : Nat → List Int → List eE → Prop} {ud : Nat → List Nat} {SO : List (Nat × List sL)} {RO : List (Nat × (Nat → Int32))} {CL : List vw_C} {CT : Nat → Nat → FieldType} {sl nx b : Nat}
/-- a copy of which only bounds are kept -/
def s31w (SO : List (Nat × List sL)) (nx : Nat) : sR → Option (List sR)
  | (_, ls, (0, n) :: (0, dp) :: (2, kd) :: (0, sp) :: (2, ks) :: st, G, c, s, Γ) => if kd.1.toNat < SO.length ∨ ks.1.toNat < SO.length ∨ 8 < (st.map sCat).sum then none else
    match G[ks.1.toNat - SO.length]?, G[kd.1.toNat - SO.length]? with
    | some (.inl (ty, n0, b0, o0)), some (.inl (ty1, n1, b1, o1)) => (match sHull Γ.1 b0 o0, sHull Γ.1 b1 o1 with
      | some h0, some h1 => if (sNN Γ n && (sNN Γ dp && (sNN Γ sp && (sNN Γ (sSub (sSub (sC n0) sp) n) && (sNN Γ (sSub (sSub (sC n1) dp) n) && (decide (n0 ≤ 2147483647) && (decide (n1 ≤ 2147483647) && (decide (ty = ty1) && ((decide (ty = .int) && (decide (-2147483648 ≤ h0.1 ∧ h0.2 ≤ 2147483647) && decide (-2147483648 ≤ h1.1 ∧ h1.2 ≤ 2147483647))) || (decide (ty = .long) && (decide (-9223372036854775808 ≤ h0.1 ∧ h0.2 ≤ 9223372036854775807) && decide (-9223372036854775808 ≤ h1.1 ∧ h1.2 ≤ 9223372036854775807)))))))))))) = true then
          some [(nx, ls, st, G.set (kd.1.toNat - SO.length) (.inl (ty, n1, (min h0.1 h1.1, max h0.2 h1.2), [])), c, s, Γ)] else none
      | _, _ => none)
    | _, _ => none
  | _ => none
theorem kCl {z : Int} (h0 : 0 ≤ z) (h1 : z ≤ 2147483647) : (Int32.ofInt z).toNatClampNeg = z.toNat ∧ ¬ Int32.ofInt z < 0 := by
  obtain ⟨k, rfl⟩ := Int.eq_ofNat_of_zero_le h0
  have e1 : (Int32.ofInt (k : Int)) = nI k := by simp [nI, Int32.ofNat, Int32.ofInt]
  rw [e1]
  exact ⟨nI_clamp (by omega), nI_pos (by omega)⟩
theorem t31w {ρ : List Int} {S : sR} {R : eR} {L : List sR} (hRO : sRor ρ SO RO) (hM : sMo ρ S.2.2.2.2.2.2) (hD : sD ρ S R) (h : s31w SO nx S = some L) : sOK ρ L (e31 RO nx R) := by
  have hro := sRor_len hRO
  obtain ⟨pc, ls, st, G, c, s, Γ⟩ := S
  obtain ⟨pc', ls', st', G', c', s'⟩ := R
  obtain ⟨h1, hL, hV, hH, h2, h3⟩ := hD
  simp only at h1 hL hV hH h2 h3 hM
  subst h1; subst h2; subst h3
  unfold s31w at h
  split at h
  · rename_i n dp kd sp ks st1 G1 c1 s1 Γ1 heq
    cases heq
    obtain ⟨zn, r0, rfl, hn, hV0⟩ := sVs_int hV
    obtain ⟨zd, r1, rfl, hd, hV1⟩ := sVs_int hV0
    obtain ⟨r2, rfl, hV2⟩ := sVs_ref hV1
    obtain ⟨zs, r3, rfl, hs, hV3⟩ := sVs_int hV2
    obtain ⟨r4, rfl, hV4⟩ := sVs_ref hV3
    split at h
    · cases h
    rename_i hc0
    simp only [not_or] at hc0
    split at h
    · rename_i ty n0 b0 o0 ty1 n1 b1 o1 hg0 hg1
      split at h
      · rename_i u0 u1 hu0 hu1
        split at h
        · rename_i hc
          cases h
          simp only [Bool.and_eq_true, Bool.or_eq_true, decide_eq_true_eq] at hc
          obtain ⟨c1, c2, c3, c4, c5, c6, c7, rfl, c8⟩ := hc
          have q1 := sNN_ok hM hn c1
          have q2 := sNN_ok hM hd c2
          have q3 := sNN_ok hM hs c3
          have q4 := sNN_ok hM (sEv_sub (sEv_sub (sEv_C (n0 : Int)) hs) hn) c4
          have q5 := sNN_ok hM (sEv_sub (sEv_sub (sEv_C (n1 : Int)) hd) hn) c5
          obtain ⟨a1, a2⟩ := kCl (z := zn) q1 (by omega)
          obtain ⟨a3, a4⟩ := kCl (z := zd) q2 (by omega)
          obtain ⟨a5, a6⟩ := kCl (z := zs) q3 (by omega)
          obtain ⟨y0, hy0, hx0⟩ := sHp_get hH hg0
          obtain ⟨y1, hy1, hx1⟩ := sHp_get hH hg1
          rcases y0 with ⟨t0, m0, arr0⟩ | y0
          · rcases y1 with ⟨t1, m1, arr1⟩ | y1
            · obtain ⟨rfl, rfl, g0⟩ := hx0
              obtain ⟨rfl, rfl, g1⟩ := hx1
              have hcond : ¬ (kd.1.toNat < RO.length ∨ ks.1.toNat < RO.length ∨ Int32.ofInt zn < 0 ∨ Int32.ofInt zd < 0 ∨ Int32.ofInt zs < 0 ∨ 8 < (r4.map fun v => v.category).sum) := by
                rw [hro, sVs_cats hV4]
                rintro (h9 | h9 | h9 | h9 | h9 | h9) <;> first | exact hc0.1 h9 | exact hc0.2.1 h9 | exact a2 h9 | exact a4 h9 | exact a6 h9 | exact hc0.2.2 h9
              rcases c8 with ⟨rfl, ⟨d1, d2⟩, d3, d4⟩ | ⟨rfl, ⟨d1, d2⟩, d3, d4⟩
              · rcases arr0 with f | f | f
                · rcases arr1 with g | g | g
                  · refine sOK.one (List.prefix_refl _) hM (R' := (nx, ls', r4, G'.set _ (.inl (.int, m1, .inl (va_cpy f g zs.toNat zd.toNat zn.toNat))), c', s')) ?_ ⟨rfl, hL, hV4, sHp_set (x := .inl (.int, m1, (min u0.1 u1.1, max u0.2 u1.2), [])) (y := .inl (.int, m1, .inl (va_cpy f g zs.toNat zd.toNat zn.toNat))) ⟨rfl, rfl, Or.inl rfl, fun i hi => ?_⟩ _ hH, rfl, rfl⟩
                    · simp only [e31]
                      rw [if_neg hcond, hro, hy0, hy1]
                      simp only
                      rw [a1, a3, a5, if_pos ⟨trivial, trivial, by omega, by omega⟩]
                    · show _ ≤ (va_cpy f g zs.toNat zd.toNat zn.toNat i).toInt ∧ (va_cpy f g zs.toNat zd.toNat zn.toNat i).toInt ≤ _
                      unfold va_cpy
                      simp only
                      split
                      · have := sHull_I hM.1 g0.2 hu0 d1 d2 (i := zs.toNat + (i - zd.toNat)) (by omega)
                        omega
                      · have := sHull_I hM.1 g1.2 hu1 d3 d4 hi
                        omega
                  · have := g1.1; cases this
                  · have := g1.1; cases this
                · have := g0.1; cases this
                · have := g0.1; cases this
              · rcases arr0 with f | f | f
                · rcases g0.1 with h9 | h9 | h9 <;> cases h9
                · rcases arr1 with g | g | g
                  · rcases g1.1 with h9 | h9 | h9 <;> cases h9
                  · refine sOK.one (List.prefix_refl _) hM (R' := (nx, ls', r4, G'.set _ (.inl (.long, m1, .inr (.inl (va_cpy f g zs.toNat zd.toNat zn.toNat)))), c', s')) ?_ ⟨rfl, hL, hV4, sHp_set (x := .inl (.long, m1, (min u0.1 u1.1, max u0.2 u1.2), [])) (y := .inl (.long, m1, .inr (.inl (va_cpy f g zs.toNat zd.toNat zn.toNat)))) ⟨rfl, rfl, rfl, fun i hi => ?_⟩ _ hH, rfl, rfl⟩
                    · simp only [e31]
                      rw [if_neg hcond, hro, hy0, hy1]
                      simp only
                      rw [a1, a3, a5, if_pos ⟨trivial, trivial, by omega, by omega⟩]
                    · show _ ≤ (va_cpy f g zs.toNat zd.toNat zn.toNat i).toInt ∧ (va_cpy f g zs.toNat zd.toNat zn.toNat i).toInt ≤ _
                      unfold va_cpy
                      simp only
                      split
                      · have := sHull_L hM.1 g0.2 hu0 d1 d2 (i := zs.toNat + (i - zd.toNat)) (by omega)
                        omega
                      · have := sHull_L hM.1 g1.2 hu1 d3 d4 hi
                        omega
                  · have := g1.1; cases this
                · have := g0.1; cases this
            · exact hx1.elim
          · exact hx0.elim
        · cases h
      · cases h
    · cases h
  · cases h
def kCp (SO : List (Nat × List sL)) (ud : Nat → List Nat) (md : Nat → Bool) (nx : Nat) : kS → Option (List kS)
  | ((pc, ls, (0, n) :: (0, dp) :: (2, kd) :: v :: w :: st, G, c, s, Γ), γ) => if md (kd.1.toNat - SO.length) = true then (match s31 SO nx (pc, ls, (0, n) :: (0, dp) :: (2, kd) :: v :: w :: st, G, c, s, Γ) with
    | some L => some (L.map fun S => (S, kRest ud (kd.1.toNat - SO.length) γ))
    | none => (s31w SO nx (pc, ls, (0, n) :: (0, dp) :: (2, kd) :: v :: w :: st, G, c, s, Γ)).map fun L => L.map fun S => (S, kRest ud (kd.1.toNat - SO.length) γ)) else none
  | _ => none
theorem kCp_ok (hU : ∀ k zs (H H' : List eE), (∀ j ∈ ud k, H'[j]? = H[j]?) → UP k zs H → UP k zs H') {md : Nat → Bool} {K : kS} {L : List kS} (h : kCp SO ud md nx K = some L) {ρ : List Int} {R : eR} (hRO : sRor ρ SO RO) (hD : kD (kGP UP) ρ K R) :
    ∃ K' ∈ L, ∃ ρ' R', ρ <+: ρ' ∧ e31 RO nx R = some R' ∧ kD (kGP UP) ρ' K' R' ∧ (∀ j, j < R.2.2.2.1.length → md j = false → R'.2.2.2.1[j]? = R.2.2.2.1[j]?) ∧ R.2.2.2.1.length ≤ R'.2.2.2.1.length := by
  have hro := sRor_len hRO
  obtain ⟨⟨pc, ls, stk, G, c, s, Γ⟩, γ⟩ := K
  obtain ⟨pc', ls', st', G', c', s'⟩ := R
  obtain ⟨hM, ⟨h1, hL, hV, hH, h2, h3⟩, hg⟩ := hD
  simp only at hM h1 hL hV hH h2 h3 hg
  subst h1; subst h2; subst h3
  unfold kCp at h
  split at h
  · rename_i n dp kd v w st G1 c1 s1 Γ1 γ1 heq
    cases heq
    obtain ⟨zn, r0, rfl, hn, hV0⟩ := sVs_int hV
    obtain ⟨zd, r1, rfl, hd, hV1⟩ := sVs_int hV0
    obtain ⟨r2, rfl, hV2⟩ := sVs_ref hV1
    obtain ⟨wv, r3, rfl, hwv, hV3⟩ := sVs_cons hV2
    obtain ⟨ww, r4, rfl, hww, hV4⟩ := sVs_cons hV3
    split at h
    · rename_i hmd
      have fin : ∀ L0 : List sR, sOK ρ L0 (e31 RO nx (pc', ls', .int (Int32.ofInt zn) :: .int (Int32.ofInt zd) :: .ref kd.1.toNat :: wv :: ww :: r4, G', c', s')) → L = L0.map (fun S => (S, kRest ud (kd.1.toNat - SO.length) γ)) →
          ∃ K' ∈ L, ∃ ρ' R', ρ <+: ρ' ∧ e31 RO nx (pc', ls', .int (Int32.ofInt zn) :: .int (Int32.ofInt zd) :: .ref kd.1.toNat :: wv :: ww :: r4, G', c', s') = some R' ∧ kD (kGP UP) ρ' K' R' ∧ (∀ j, j < G'.length → md j = false → R'.2.2.2.1[j]? = G'[j]?) ∧ G'.length ≤ R'.2.2.2.1.length := by
        rintro L0 ⟨S', hS, ρ', R', hp, hM', he, hD'⟩ rfl
        obtain ⟨x, hx⟩ := f31 he rfl
        simp only at hx
        rw [hro] at hx
        refine ⟨_, List.mem_map.mpr ⟨S', hS, rfl⟩, ρ', R', hp, he, ⟨hM', hD', ?_⟩, fun j hj hmj => ?_, ?_⟩
        · rw [hx]
          exact (kRest_ok hU hg).mono _ hp
        · rw [hx]
          have hne : kd.1.toNat - SO.length ≠ j := by
            rintro rfl
            rw [hmd] at hmj
            cases hmj
          rw [List.getElem?_set_ne hne]
        · rw [hx, List.length_set]
          exact Nat.le_refl _
      split at h
      · rename_i L0 hL0
        cases h
        exact fin L0 (t31 hRO hM ⟨rfl, hL, hV, hH, rfl, rfl⟩ hL0) rfl
      · obtain ⟨L0, hL0, rfl⟩ := Option.map_eq_some_iff.mp h
        exact fin L0 (t31w hRO hM ⟨rfl, hL, hV, hH, rfl, rfl⟩ hL0) rfl
    · cases h
  · cases h
/-- one step -/
def kStep (SO : List (Nat × List sL)) (CL : List vw_C) (CT : Nat → Nat → FieldType) (ud : Nat → List Nat) (KW : sG → List kA → Nat → sL → sL → List kA) (sl : Nat) (md : Nat → Bool) (mL : Nat) (I : eI) (K : kS) : Option (List kS) :=
  if I.1 = 19 then kRd SO sl I.2.1 I.2.2.2.1 K
  else if I.1 = 6 then (k6 I.2.1 I.2.2.2.1 K.1).map fun L => L.map fun S => (S, K.2)
  else if I.1 = 20 then kWr SO CL ud KW md I.2.1 I.2.2.2.1 K
  else if I.1 = 17 then kFl SO CT ud md I.2.1 I.2.2.2.1 I.2.2.2.2.1.toNat K
  else if I.1 = 5 then (s5 mL I.2.1 I.2.2.1 I.2.2.2.2.1 K.1).map fun L => L.map fun S => (kNormL S, K.2)
  else if I.1 = 8 then (s8 I.2.1 I.2.2.2.1 K.1).map fun L => L.map fun S => (kNormT S, K.2)
  else if I.1 = 7 then (k7 I.2.1 I.2.2.2.1 K.1).map fun L => L.map fun S => (S, K.2)
  else if I.1 = 31 then kCp SO ud md I.2.1 K
  else if kQuiet I.1 = true then (sStep SO CL CT mL I K.1).map fun L => L.map fun S => (S, K.2)
  else if K.2.all (fun q => (kDp ud q.1).isEmpty) = true then (sStep SO CL CT mL I K.1).map fun L => L.map fun S => (S, K.2)
  else none
theorem kStep_ok (hU : ∀ k zs (H H' : List eE), (∀ j ∈ ud k, H'[j]? = H[j]?) → UP k zs H → UP k zs H') {KW : sG → List kA → Nat → sL → sL → List kA} (hKW : kWOk UP KW) (hlen : kLenOk UP RO sl) (hsl : sl < SO.length) : kStepOk (kGP UP) SO RO CL CT (kStep SO CL CT ud KW sl) := by
  intro md mL I K L h ρ R hRO hD
  obtain ⟨op, nx, a, b, z, ws, sw⟩ := I
  have quiet : ∀ {L0 : List sR}, kQuiet op = true → sOK ρ L0 (eStep RO CL CT mL (op, nx, a, b, z, ws, sw) R) → L = L0.map (fun S => (S, K.2)) →
      ∃ K' ∈ L, ∃ ρ' R', ρ <+: ρ' ∧ eStep RO CL CT mL (op, nx, a, b, z, ws, sw) R = some R' ∧ kD (kGP UP) ρ' K' R' ∧ (∀ j, j < R.2.2.2.1.length → md j = false → R'.2.2.2.1[j]? = R.2.2.2.1[j]?) ∧ R.2.2.2.1.length ≤ R'.2.2.2.1.length := by
    intro L0 hq hok hL
    subst hL
    obtain ⟨K', h1, ρ', R', h2, h3, h4⟩ := kLift hok hD.2.2 (fun R' he => fQuiet he hq)
    have he := fQuiet h3 hq
    exact ⟨K', h1, ρ', R', h2, h3, h4, fun j _ _ => by rw [he], by rw [he]; exact Nat.le_refl _⟩
  unfold kStep at h
  simp only at h
  by_cases o19 : op = 19
  · subst o19
    obtain ⟨K', h1, ρ', R', h2, h3, h4⟩ := kRd_ok hlen hsl h hRO hD
    have he := f19 h3
    exact ⟨K', h1, ρ', R', h2, h3, h4, fun j _ _ => by rw [he], by rw [he]; exact Nat.le_refl _⟩
  rw [if_neg o19] at h
  by_cases o6 : op = 6
  · subst o6
    obtain ⟨L0, hL0, rfl⟩ := Option.map_eq_some_iff.mp h
    exact quiet (by rfl) (k6_ok hD.1 hD.2.1 hL0) rfl
  rw [if_neg o6] at h
  by_cases o20 : op = 20
  · subst o20
    exact kWr_ok hU hKW h hRO hD
  rw [if_neg o20] at h
  by_cases o17 : op = 17
  · subst o17
    exact kFl_ok hU h hRO hD
  rw [if_neg o17] at h
  by_cases o5 : op = 5
  · subst o5
    obtain ⟨L0, hL0, rfl⟩ := Option.map_eq_some_iff.mp h
    refine quiet (L0 := L0.map kNormL) (by rfl) (kNorm_all (f := kNormL) (fun ρ S R => kNormL_ok) (t5 hD.1 hD.2.1 hL0)) ?_
    rw [List.map_map]
    rfl
  rw [if_neg o5] at h
  by_cases o8 : op = 8
  · subst o8
    obtain ⟨L0, hL0, rfl⟩ := Option.map_eq_some_iff.mp h
    refine quiet (L0 := L0.map kNormT) (by rfl) (kNorm_all (f := kNormT) (fun ρ S R => kNormT_ok) (t8 hD.1 hD.2.1 hL0)) ?_
    rw [List.map_map]
    rfl
  rw [if_neg o8] at h
  by_cases o7 : op = 7
  · subst o7
    obtain ⟨L0, hL0, rfl⟩ := Option.map_eq_some_iff.mp h
    exact quiet (by rfl) (k7_ok hD.1 hD.2.1 hL0) rfl
  rw [if_neg o7] at h
  by_cases o31 : op = 31
  · subst o31
    exact kCp_ok hU h hRO hD
  rw [if_neg o31] at h
  split at h
  · rename_i hq
    obtain ⟨L0, hL0, rfl⟩ := Option.map_eq_some_iff.mp h
    exact quiet hq (sStep_ok hRO hD.1 hD.2.1 hL0) rfl
  rename_i hq
  split at h
  · rename_i hall
    obtain ⟨L0, hL0, rfl⟩ := Option.map_eq_some_iff.mp h
    obtain ⟨S', hS, ρ', R', hp, hM', he, hD'⟩ := sStep_ok hRO hD.1 hD.2.1 hL0
    have happ : ∃ t, R'.2.2.2.1 = R.2.2.2.1 ++ t := by
      by_cases o22 : op = 22
      · subst o22; exact f22 he
      by_cases o23 : op = 23
      · subst o23; exact f23 he
      by_cases o24 : op = 24
      · subst o24; exact f24 he
      by_cases o25 : op = 25
      · subst o25; exact f25 he
      exfalso
      apply hq
      simp [kQuiet, o17, o20, o31, o22, o23, o24, o25]
    obtain ⟨t, ht⟩ := happ
    refine ⟨_, List.mem_map.mpr ⟨S', hS, rfl⟩, ρ', R', hp, he, ⟨hM', hD', fun q hq' => ?_⟩, fun j hj _ => ?_, ?_⟩
    · obtain ⟨zs, e1, e2⟩ := hD.2.2 q hq'
      have hem := List.isEmpty_iff.mp (List.all_eq_true.mp hall q hq')
      exact ⟨zs, sVal_mono hp e1, kGP_fr hU q.1 zs R.2.2.2.1 _ (fun j hj => by rw [hem] at hj; cases hj) e2⟩
    · rw [ht, List.getElem?_append_left hj]
    · rw [ht, List.length_append]
      omega
  · cases h
end KSTP
end
