/-! What it is for a row of the program table to be right. -/
def eBinI (b : Nat) : Instr :=
  if b = 0 then .iadd else if b = 1 then .isub else if b = 2 then .imul else if b = 3 then .iand else if b = 4 then .ior else if b = 5 then .ixor
  else if b = 6 then .ishl else if b = 7 then .ishr else if b = 8 then .iushr else if b = 9 then .idiv else if b = 10 then .irem else .nop
def eLinI (b : Nat) : Instr :=
  if b = 0 then .ladd else if b = 1 then .lsub else if b = 2 then .lmul else if b = 3 then .land else if b = 4 then .lor else if b = 5 then .lxor else if b = 9 then .ldiv else .nop
def eUnI (b : Nat) : Instr := if b = 0 then .ineg else if b = 1 then .i2b else if b = 2 then .i2s else if b = 3 then .i2l else if b = 4 then .l2i else .nop
def eCmpI (b : Nat) : ClassFile.Cond := if b = 0 then .eq else if b = 1 then .ne else if b = 2 then .lt else if b = 3 then .ge else if b = 4 then .gt else .le
def eLdI (b a : Nat) : Option (Instr × Nat) :=
  if b = 0 then some (.iload a, 2) else if b = 1 then some (.lload a, 2) else if b = 2 then some (.aload a, 2)
  else if h : a < 4 then (if b = 3 then some (.iload_n ⟨a, h⟩, 1) else if b = 4 then some (.lload_n ⟨a, h⟩, 1) else if b = 5 then some (.aload_n ⟨a, h⟩, 1) else none) else none
def eSnI (b a : Nat) : Option (Instr × Nat) :=
  if b = 0 then some (.istore a, 2) else if b = 1 then some (.lstore a, 2) else if b = 2 then some (.astore a, 2)
  else if h : a < 4 then (if b = 3 then some (.istore_n ⟨a, h⟩, 1) else if b = 4 then some (.lstore_n ⟨a, h⟩, 1) else if b = 5 then some (.astore_n ⟨a, h⟩, 1) else none) else none
def eAlI (b : Nat) : Instr := if b = 0 then .iaload else if b = 1 then .baload else if b = 2 then .saload else if b = 3 then .laload else if b = 4 then .aaload else .nop
def eAsI (b : Nat) : Instr := if b = 0 then .iastore else if b = 1 then .bastore else if b = 2 then .sastore else if b = 3 then .lastore else if b = 4 then .aastore else .nop
def eNwT (b : Nat) : ArrayType := if b = 0 then .int else if b = 1 then .byte else if b = 2 then .short else .long
def eTabL (pc : Nat) : Int → List (Int × Nat) → List Int → Bool
  | lo, q :: sw, o :: offs => decide (q.1 = lo) && (decide ((pc : Int) + o = (q.2 : Int)) && eTabL pc (lo + 1) sw offs)
  | _, [], [] => true
  | _, _, _ => false
def eLkL (pc : Nat) : List (Int × Nat) → List (Int × Int) → Bool
  | q :: sw, o :: ps => decide (q.1 = o.1) && (decide ((pc : Int) + o.2 = (q.2 : Int)) && eLkL pc sw ps)
  | [], [] => true
  | _, _ => false
def eSwOk (cc : ByteArray) (pc a : Nat) (sw : List (Int × Nat)) : Bool := match decode cc pc with
  | .ok (.tableswitch d lo hi offs, _) => decide ((pc : Int) + d = (a : Int)) && (decide (hi = lo + sw.length - 1) && eTabL pc lo sw offs.toList)
  | .ok (.lookupswitch d ps, _) => decide ((pc : Int) + d = (a : Int)) && ((ps.toList.zip (ps.toList.drop 1)).all (fun (a, next) => a.1 < next.1) && eLkL pc sw ps.toList)
  | _ => false
def eWS (WT : List Cond) : List Cond := WT.filter goodWord
def eWd (WT : List Cond) (ws : List Nat) (k : Nat) (w : Cond) : Bool := match ws[k]? with
  | some i => decide (WT[i]? = some w) && goodWord w
  | none => false
theorem eWd_in {WT : List Cond} {ws : List Nat} {k : Nat} {w : Cond} (h : eWd WT ws k w = true) : w ∈ eWS WT := by
  unfold eWd at h
  split at h
  · simp only [Bool.and_eq_true, decide_eq_true_eq] at h
    exact List.mem_filter.mpr ⟨List.mem_of_getElem? h.1, h.2⟩
  · cases h
/-- the instruction at a place is what the table says, and its words stand in the tables -/
def eDec (cc : ByteArray) (pc nx : Nat) (i : Instr) (n : Nat) : Bool := decide (decode cc pc = .ok (i, n)) && decide (nx = pc + n)
def eOk0 (WT : List Cond) (own : String) (cc : ByteArray) (pc nx a b : Nat) (z : Int) (ws : List Nat) : Bool :=
  if b = 0 then eDec cc pc nx (.iconst z) 1 else if b = 1 then eDec cc pc nx (.bipush z) 2 && decide ((Int8.ofInt z).toInt32 = Int32.ofInt z) else if b = 2 then eDec cc pc nx (.sipush z) 3 && decide ((Int16.ofInt z).toInt32 = Int32.ofInt z)
  else if b = 3 then eDec cc pc nx (.ldc a) 2 && eWd WT ws 0 (.constant own a (Int32.ofInt z)) else if b = 4 then eDec cc pc nx (.ldc_w a) 3 && eWd WT ws 0 (.constant own a (Int32.ofInt z)) else false
def eOk1 (WT : List Cond) (own : String) (cc : ByteArray) (pc nx a b : Nat) (z : Int) (ws : List Nat) : Bool :=
  if b = 0 then (eDec cc pc nx (.lconst 0) 1 && decide (z = 0)) || (eDec cc pc nx (.lconst 1) 1 && decide (z = 1)) else if b = 1 then eDec cc pc nx (.ldc2_w a) 3 && eWd WT ws 0 (.constantLong own a (Int64.ofInt z)) else false
def eOkO (cc : ByteArray) (pc nx : Nat) (q : Option (Instr × Nat)) : Bool := match q with
  | some (i, n) => eDec cc pc nx i n
  | none => false
/-- one instruction that is no call: its row of the table is right -/
def eOk (WT : List Cond) (CL : List vw_C) (nro : Nat) (SN : List (String × String × String)) (own mname : String) (cc : ByteArray) (pc : Nat) (I : eI) : Bool := match I with
  | (op, nx, a, b, z, ws, sw) =>
    if op = 0 then eOk0 WT own cc pc nx a b z ws
    else if op = 1 then eOk1 WT own cc pc nx a b z ws
    else if op = 3 then eOkO cc pc nx (eLdI b a)
    else if op = 4 then eOkO cc pc nx (eSnI b a)
    else if op = 5 then eDec cc pc nx (.iinc a z) 3
    else if op = 6 then eDec cc pc nx (eBinI b) 1
    else if op = 7 then eDec cc pc nx (eLinI b) 1
    else if op = 8 then eDec cc pc nx (eUnI b) 1
    else if op = 9 then eDec cc pc nx .lcmp 1
    else if op = 10 then eDec cc pc nx .lshl 1
    else if op = 12 then eDec cc pc nx (.ifCond (eCmpI b) z) 3 && decide ((pc : Int) + z = (a : Int))
    else if op = 13 then eDec cc pc nx (.if_icmp (eCmpI b) z) 3 && decide ((pc : Int) + z = (a : Int))
    else if op = 14 then decide (decode cc pc = .ok (.goto z, 3)) && decide ((pc : Int) + z = (a : Int))
    else if op = 15 then eSwOk cc pc a sw
    else if op = 16 then eDec cc pc nx (.getfield a) 3 && (match CL[b]? with
      | some k => decide (z.toNat < k.2.2) && eWd WT ws 0 (.fieldLink own a (k.2.1 z.toNat).1 (k.2.1 z.toNat).2.1 (k.2.1 z.toNat).2.2.1)
      | none => false)
    else if op = 17 then eDec cc pc nx (.putfield a) 3 && (match CL[b]? with
      | some k => decide (z.toNat < k.2.2) && (eWd WT ws 0 (.fieldLink own a (k.2.1 z.toNat).1 (k.2.1 z.toNat).2.1 (k.2.1 z.toNat).2.2.1) && (decide ((k.2.1 z.toNat).2.2.2 = false) || (decide (mname = "<init>") && decide ((k.2.1 z.toNat).1 = own))))
      | none => false)
    else if op = 18 then eDec cc pc nx (.getstatic a) 3 && (decide (b < nro) && (match SN[b]? with
      | some sn => eWd WT ws 0 (.fieldLink own a sn.1 sn.2.1 sn.2.2)
      | none => false))
    else if op = 19 then eDec cc pc nx (eAlI b) 1
    else if op = 20 then eDec cc pc nx (eAsI b) 1
    else if op = 21 then eDec cc pc nx .arraylength 1
    else if op = 22 then eDec cc pc nx (.new a) 3 && (match CL[b]? with
      | some k => eWd WT ws 0 (.classLink own a k.1) && (eWd WT ws 1 (.instantiable k.1 k.2.2) && eWd WT ws 2 (.initialized k.1))
      | none => false)
    else if op = 23 then eDec cc pc nx (.newarray (eNwT b)) 2 && eWd WT ws 0 (.arrayClass (newarray.typeOf (eNwT b)))
    else if op = 24 then eDec cc pc nx (.anewarray a) 3 && (match CL[b]? with
      | some k => eWd WT ws 0 (.classLink own a k.1) && decide (k.1 = "WhoMentionsIt$Shelf")
      | none => false)
    else if op = 25 then eDec cc pc nx (.multianewarray a 2) 4 && (eWd WT ws 0 (.classLink own a "[[I") && eWd WT ws 1 (.arrayClass .int))
    else if op = 26 then eDec cc pc nx (if b = 0 then .dup else if b = 1 then .pop else if b = 3 then .pop2 else .dup2) 1
    else if op = 30 then eDec cc pc nx (.invokespecial a) 3 && (eWd WT ws 0 (.methodLink own a objectInit) && (eWd WT ws 1 (.instanceMethod objectInit) && eWd WT ws 2 (.code objectInit ⟨#[0xb1]⟩ 1 none)))
    else if op = 32 then eDec cc pc nx (.invokestatic a) 3 && (eWd WT ws 0 (.methodLink own a (if b = 0 then Lib.Math.max.name else Lib.Math.min.name)) && (eWd WT ws 1 (.static (if b = 0 then Lib.Math.max.name else Lib.Math.min.name)) && (eWd WT ws 2 (.initialized "java/lang/Math") && eWd WT ws 3 (.code (if b = 0 then Lib.Math.max.name else Lib.Math.min.name) (if b = 0 then Lib.Math.max.code else Lib.Math.min.code) 2 (some .int)))))
    else if op = 31 then eDec cc pc nx (.invokestatic a) 3 && (eWd WT ws 0 (.methodLink own a arraycopyName) && (eWd WT ws 1 (.native arraycopyName) && (eWd WT ws 2 (.static arraycopyName) && eWd WT ws 3 (.initialized "java/lang/System"))))
    else false
theorem eDec_ok {cc : ByteArray} {pc nx n : Nat} {i : Instr} (h : eDec cc pc nx i n = true) : decode cc pc = .ok (i, n) ∧ nx = pc + n := by
  simpa [eDec] using h
/-- what the table of classes says is so -/
def eCLok (WS : List Cond) (CL : List vw_C) (CT : Nat → Nat → FieldType) : Prop := ∀ (b : Nat) (k : vw_C), CL[b]? = some k → (∀ w ∈ u_ws k.1 k.2.1 k.2.2, w ∈ WS) ∧ (∀ j, j < k.2.2 → parseFieldDescriptor (k.2.1 j).2.2.1 = some (CT b j)) ∧ ∀ x, x < k.2.2 → ∀ y, y < k.2.2 → x ≠ y → (k.2.1 x).2.1 ≠ (k.2.1 y).2.1
/-- a method that may be called: its class, its code among the words, its room -/
def eMok (WT : List Cond) (M : eM) : Prop := plainName M.1.cls = true ∧ Cond.code M.1 M.2.1 M.2.2.1 M.2.2.2.1 ∈ eWS WT ∧ M.2.2.1 ≤ 20 ∧ M.1.cls ≠ "java/lang/invoke/MethodHandle" ∧ M.1.cls ≠ "java/lang/invoke/VarHandle"
def eOkC (WT NW : List Cond) (CL : List vw_C) (NC : Nat) (MT : Nat → Option eM) (own : String) (cc : ByteArray) (pc : Nat) (I : eI) : Bool := match I with
  | (op, nx, a, b, z, ws, _) => match MT b with
    | none => false
    | some M2 => decide (b < NC) && (decide ((parseMethodDescriptor M2.1.desc).map (fun d => d.parameters.length) = some z.toNat) && (eWd WT ws 1 (.initialized M2.1.cls) && (match ws[0]? with
      | none => false
      | some cp => if op = 40 then eDec cc pc nx (.invokevirtual cp) 3 && ((match CL[a]? with
          | some k => decide (k.1 = M2.1.cls)
          | none => false) && (eWd WT ws 2 (.methodLink own cp M2.1) && (eWd WT ws 3 (.instanceMethod M2.1) && eWd WT ws 4 (.selects M2.1.cls M2.1 M2.1))))
        else if op = 41 then eDec cc pc nx (.invokestatic cp) 3 && (eWd WT ws 2 (.methodLink own cp M2.1) && eWd WT ws 3 (.static M2.1))
        else if op = 42 then eDec cc pc nx (.invokespecial cp) 3 && (decide (M2.1.name = "<init>") && (decide (M2.2.2.2.1 = none) && (eWd WT ws 2 (.methodLink own cp M2.1) && eWd WT ws 3 (.instanceMethod M2.1))))
        else if op = 43 then eDec cc pc nx (.invokespecial cp) 3 && (decide (M2.1.name = "<init>") && (decide (M2.2.2.2.1 = none) && (decide (Cond.methodLinkNest own cp M2.1 "WhoMentionsIt" ∈ NW) && eWd WT ws 2 (.instanceMethod M2.1))))
        else false)))
def eOkR (cc : ByteArray) (pc : Nat) (I : eI) : Bool := if I.2.2.2.1 = 0 then decide (decode cc pc = .ok (.return_, 1)) else if I.2.2.2.1 = 1 then decide (decode cc pc = .ok (.ireturn, 1)) else decide (decode cc pc = .ok (.lreturn, 1))
/-- every instruction of a method is right -/
def eOkI (WT NW : List Cond) (CL : List vw_C) (nro : Nat) (SN : List (String × String × String)) (NC : Nat) (MT : Nat → Option eM) (M : eM) (pc : Nat) (I : eI) : Bool :=
  if I.1 = 50 then eOkR M.2.1 pc I else if 40 ≤ I.1 then eOkC WT NW CL NC MT M.1.cls M.2.1 pc I else eOk WT CL nro SN M.1.cls M.1.name M.2.1 pc I
