/-! The tables' checks, by numbers: bytes told by what is to be decoded, words by the places of names. -/
noncomputable section
def eqAt {α : Type} (l : List α) : Nat → Option α := @List.rec α (fun _ => Nat → Option α) (fun _ => none) (fun b _ ih i => @Nat.rec (fun _ => Option α) (some b) (fun j _ => ih j) i) l
theorem eqAt_eq {α : Type} : ∀ (l : List α) (i : Nat), eqAt l i = l[i]?
  | [], _ => rfl
  | _ :: _, 0 => rfl
  | _ :: r, i + 1 => (eqAt_eq r i).trans List.getElem?_cons_succ.symm
def eqApp {α : Type} (a : List α) (n : Nat) (f : Nat → Option α) (i : Nat) : Option α := @Bool.rec (fun _ => Option α) (f (Nat.sub i n)) (eqAt a i) (Nat.blt i n)
theorem eqApp_eq {α : Type} {a b : List α} {n : Nat} {f : Nat → Option α} (hn : a.length = n) (hf : ∀ i, f i = b[i]?) (i : Nat) : eqApp a n f i = (a ++ b)[i]? := by
  unfold eqApp
  cases h : Nat.blt i n with
  | true =>
    have h1 : i < n := Nat.le_of_ble_eq_true h
    show eqAt a i = _
    rw [eqAt_eq, List.getElem?_append_left (by omega)]
  | false =>
    have h1 : ¬ i < n := fun l => by
      have l2 : Nat.blt i n = true := Nat.ble_eq_true_of_le l
      rw [h] at l2
      cases l2
    show f (Nat.sub i n) = _
    rw [hf, List.getElem?_append_right (by omega), hn]
    rfl
section EQDEC
abbrev eqD (α : Type) : Type := Jvm.ClassFile.Decoder α
abbrev eqU : eqD Nat := Jvm.ClassFile.Reader.u1
theorem eqU1 {bs : Array UInt8} {p x : Nat} (h : (bs.toList.map UInt8.toNat)[p]? = some x) : eqU ⟨bs⟩ p = .ok (x, p + 1) := by
  rw [List.getElem?_map] at h
  obtain ⟨b, hb, rfl⟩ := Option.map_eq_some_iff.mp h
  obtain ⟨hl, e⟩ := List.getElem?_eq_some_iff.mp hb
  have hp : p < (⟨bs⟩ : ByteArray).size := by
    show p < bs.size
    rw [← Array.length_toList]
    exact hl
  show (dite (p < (⟨bs⟩ : ByteArray).size) (fun h => (do set (p + 1); Pure.pure ((⟨bs⟩ : ByteArray)[p]'h).toNat : eqD Nat)) (fun _ => throw (Jvm.ClassFile.HasTruncated.truncated p))) ⟨bs⟩ p = _
  rw [dif_pos hp]
  have e2 : ((⟨bs⟩ : ByteArray)[p]'hp) = b := by
    rw [← e]
    rfl
  show Except.ok ((((⟨bs⟩ : ByteArray)[p]'hp).toNat, p + 1) : Nat × Nat) = _
  rw [e2]
/-- the bytes from a place on -/
def eqHas (cc : ByteArray) (pc : Nat) (l : List Nat) : Prop := ∀ k x, l[k]? = some x → eqU cc (pc + k) = .ok (x, pc + k + 1)

def eqT0 : List (Nat × Instr) := [(2, Instr.iconst (-1)), (3, Instr.iconst 0), (4, Instr.iconst 1), (5, Instr.iconst 2), (6, Instr.iconst 3), (7, Instr.iconst 4), (8, Instr.iconst 5), (26, Instr.iload_n 0), (27, Instr.iload_n 1), (28, Instr.iload_n 2), (29, Instr.iload_n 3), (30, Instr.lload_n 0), (31, Instr.lload_n 1), (32, Instr.lload_n 2), (33, Instr.lload_n 3), (42, Instr.aload_n 0), (43, Instr.aload_n 1), (44, Instr.aload_n 2), (45, Instr.aload_n 3), (59, Instr.istore_n 0), (60, Instr.istore_n 1), (61, Instr.istore_n 2), (62, Instr.istore_n 3), (63, Instr.lstore_n 0), (64, Instr.lstore_n 1), (65, Instr.lstore_n 2), (66, Instr.lstore_n 3), (75, Instr.astore_n 0), (76, Instr.astore_n 1), (77, Instr.astore_n 2), (78, Instr.astore_n 3), (46, Instr.iaload), (47, Instr.laload), (50, Instr.aaload), (51, Instr.baload), (53, Instr.saload), (79, Instr.iastore), (80, Instr.lastore), (83, Instr.aastore), (84, Instr.bastore), (86, Instr.sastore), (87, Instr.pop), (88, Instr.pop2), (89, Instr.dup), (92, Instr.dup2), (96, Instr.iadd), (97, Instr.ladd), (100, Instr.isub), (101, Instr.lsub), (104, Instr.imul), (105, Instr.lmul), (108, Instr.idiv), (109, Instr.ldiv), (112, Instr.irem), (116, Instr.ineg), (120, Instr.ishl), (121, Instr.lshl), (122, Instr.ishr), (124, Instr.iushr), (126, Instr.iand), (127, Instr.land), (128, Instr.ior), (129, Instr.lor), (130, Instr.ixor), (131, Instr.lxor), (133, Instr.i2l), (136, Instr.l2i), (145, Instr.i2b), (147, Instr.i2s), (148, Instr.lcmp), (172, Instr.ireturn), (173, Instr.lreturn), (177, Instr.return_), (190, Instr.arraylength)]
def eqT1 : List (Nat × (Nat → Instr)) := [(21, Instr.iload), (22, Instr.lload), (25, Instr.aload), (54, Instr.istore), (55, Instr.lstore), (58, Instr.astore)]
def eqT2 : List (Nat × (Nat → Instr)) := [(178, Instr.getstatic), (180, Instr.getfield), (181, Instr.putfield), (182, Instr.invokevirtual), (183, Instr.invokespecial), (184, Instr.invokestatic)]
def eqT2S : List (Nat × (Int → Instr)) := [(17, Instr.sipush), (153, Instr.ifCond .eq), (154, Instr.ifCond .ne), (155, Instr.ifCond .lt), (156, Instr.ifCond .ge), (157, Instr.ifCond .gt), (158, Instr.ifCond .le), (159, Instr.if_icmp .eq), (160, Instr.if_icmp .ne), (161, Instr.if_icmp .lt), (162, Instr.if_icmp .ge), (163, Instr.if_icmp .gt), (164, Instr.if_icmp .le), (167, Instr.goto)]
set_option maxRecDepth 100000 in
theorem eqK_ex (pc : Nat) : ∃ K : Nat → eqD Instr, Jvm.ClassFile.Decoder.instr pc = (eqU >>= K) ∧ (∀ q ∈ eqT0, K q.1 = Pure.pure q.2) ∧ (∀ q ∈ eqT1, K q.1 = (eqU >>= fun x => Pure.pure (q.2 x))) ∧ (∀ q ∈ eqT2, K q.1 = (Jvm.ClassFile.Reader.u2 >>= fun x => Pure.pure (q.2 x))) ∧ (∀ q ∈ eqT2S, K q.1 = (Jvm.ClassFile.Reader.s2 >>= fun x => Pure.pure (q.2 x))) ∧ K 16 = (Jvm.ClassFile.Reader.s1 >>= fun x => Pure.pure (Instr.bipush x)) ∧ K 132 = (eqU >>= fun a => Jvm.ClassFile.Reader.s1 >>= fun b => Pure.pure (Instr.iinc a b)) := by
  refine ⟨_, rfl, ?_, ?_, ?_, ?_, rfl, rfl⟩
  · unfold eqT0
    repeat refine List.forall_mem_cons.mpr ⟨rfl, ?_⟩
    exact fun q hq => absurd hq List.not_mem_nil
  · unfold eqT1
    repeat refine List.forall_mem_cons.mpr ⟨rfl, ?_⟩
    exact fun q hq => absurd hq List.not_mem_nil
  · unfold eqT2
    repeat refine List.forall_mem_cons.mpr ⟨rfl, ?_⟩
    exact fun q hq => absurd hq List.not_mem_nil
  · unfold eqT2S
    repeat refine List.forall_mem_cons.mpr ⟨rfl, ?_⟩
    exact fun q hq => absurd hq List.not_mem_nil
theorem eqDec_of {cc : ByteArray} {pc op p : Nat} {K : Nat → eqD Instr} (hK : Jvm.ClassFile.Decoder.instr pc = (eqU >>= K)) (h0 : eqU cc pc = .ok (op, pc + 1)) {i : Instr} (h1 : K op cc (pc + 1) = .ok (i, p)) : decode cc pc = .ok (i, p - pc) := by
  have e : Jvm.ClassFile.Decoder.instr pc cc pc = .ok (i, p) := by
    rw [hK]
    show Except.bind (eqU cc pc) (fun x => K x.1 cc x.2) = _
    rw [h0]
    exact h1
  show Except.bind (Jvm.ClassFile.Decoder.instr pc cc pc) (fun x => Pure.pure (x.1, x.2 - pc)) = _
  rw [e]
  rfl
theorem eqU2 {cc : ByteArray} {p x y : Nat} (h1 : eqU cc p = .ok (x, p + 1)) (h2 : eqU cc (p + 1) = .ok (y, p + 2)) : (Jvm.ClassFile.Reader.u2 : eqD Nat) cc p = .ok (x * 256 + y, p + 2) := by
  show Except.bind (eqU cc p) (fun x => Except.bind (eqU cc x.2) (fun y => .ok (x.1 * 256 + y.1, y.2))) = _
  rw [h1]
  show Except.bind (eqU cc (p + 1)) (fun y => .ok (x * 256 + y.1, y.2)) = _
  rw [h2]
  rfl
theorem eqS1 {cc : ByteArray} {p x : Nat} (h1 : eqU cc p = .ok (x, p + 1)) : (Jvm.ClassFile.Reader.s1 : eqD Int) cc p = .ok (Jvm.ClassFile.Reader.signed 8 x, p + 1) := by
  show Except.bind (eqU cc p) (fun x => .ok (Jvm.ClassFile.Reader.signed 8 x.1, x.2)) = _
  rw [h1]
  rfl
theorem eqS2 {cc : ByteArray} {p x y : Nat} (h1 : eqU cc p = .ok (x, p + 1)) (h2 : eqU cc (p + 1) = .ok (y, p + 2)) : (Jvm.ClassFile.Reader.s2 : eqD Int) cc p = .ok (Jvm.ClassFile.Reader.signed 16 (x * 256 + y), p + 2) := by
  show Except.bind ((Jvm.ClassFile.Reader.u2 : eqD Nat) cc p) (fun x => .ok (Jvm.ClassFile.Reader.signed 16 x.1, x.2)) = _
  rw [eqU2 h1 h2]
  rfl
theorem eqSub {pc n : Nat} : pc + n - pc = n := by omega
theorem eqDec_0 {cc : ByteArray} {pc : Nat} {q : Nat × Instr} (hq : q ∈ eqT0) (h : eqHas cc pc [q.1]) : decode cc pc = .ok (q.2, 1) := by
  obtain ⟨K, hK, h0, -⟩ := eqK_ex pc
  have e := eqDec_of hK (h 0 q.1 rfl) (i := q.2) (p := pc + 1) (by rw [h0 q hq]; rfl)
  rw [eqSub] at e
  exact e
theorem eqDec_1 {cc : ByteArray} {pc x : Nat} {q : Nat × (Nat → Instr)} (hq : q ∈ eqT1) (h : eqHas cc pc [q.1, x]) : decode cc pc = .ok (q.2 x, 2) := by
  obtain ⟨K, hK, -, h0, -⟩ := eqK_ex pc
  have e := eqDec_of hK (h 0 q.1 rfl) (i := q.2 x) (p := pc + 2) (by
    rw [h0 q hq]
    show Except.bind (eqU cc (pc + 1)) (fun y => .ok (q.2 y.1, y.2)) = _
    rw [h 1 x rfl]
    rfl)
  rw [eqSub] at e
  exact e
theorem eqDec_2 {cc : ByteArray} {pc x y : Nat} {q : Nat × (Nat → Instr)} (hq : q ∈ eqT2) (h : eqHas cc pc [q.1, x, y]) : decode cc pc = .ok (q.2 (x * 256 + y), 3) := by
  obtain ⟨K, hK, -, -, h0, -⟩ := eqK_ex pc
  have e := eqDec_of hK (h 0 q.1 rfl) (i := q.2 (x * 256 + y)) (p := pc + 3) (by
    rw [h0 q hq]
    show Except.bind ((Jvm.ClassFile.Reader.u2 : eqD Nat) cc (pc + 1)) (fun y => .ok (q.2 y.1, y.2)) = _
    rw [eqU2 (h 1 x rfl) (h 2 y rfl)]
    rfl)
  rw [eqSub] at e
  exact e
theorem eqDec_2S {cc : ByteArray} {pc x y : Nat} {q : Nat × (Int → Instr)} (hq : q ∈ eqT2S) (h : eqHas cc pc [q.1, x, y]) : decode cc pc = .ok (q.2 (Jvm.ClassFile.Reader.signed 16 (x * 256 + y)), 3) := by
  obtain ⟨K, hK, -, -, -, h0, -⟩ := eqK_ex pc
  have e := eqDec_of hK (h 0 q.1 rfl) (i := q.2 (Jvm.ClassFile.Reader.signed 16 (x * 256 + y))) (p := pc + 3) (by
    rw [h0 q hq]
    show Except.bind ((Jvm.ClassFile.Reader.s2 : eqD Int) cc (pc + 1)) (fun y => .ok (q.2 y.1, y.2)) = _
    rw [eqS2 (h 1 x rfl) (h 2 y rfl)]
    rfl)
  rw [eqSub] at e
  exact e
theorem eqDec_bp {cc : ByteArray} {pc x : Nat} (h : eqHas cc pc [16, x]) : decode cc pc = .ok (.bipush (Jvm.ClassFile.Reader.signed 8 x), 2) := by
  obtain ⟨K, hK, -, -, -, -, h0, -⟩ := eqK_ex pc
  have e := eqDec_of hK (h 0 16 rfl) (i := .bipush (Jvm.ClassFile.Reader.signed 8 x)) (p := pc + 2) (by
    rw [h0]
    show Except.bind ((Jvm.ClassFile.Reader.s1 : eqD Int) cc (pc + 1)) (fun y => .ok (Instr.bipush y.1, y.2)) = _
    rw [eqS1 (h 1 x rfl)]
    rfl)
  rw [eqSub] at e
  exact e
theorem eqDec_ii {cc : ByteArray} {pc a x : Nat} (h : eqHas cc pc [132, a, x]) : decode cc pc = .ok (.iinc a (Jvm.ClassFile.Reader.signed 8 x), 3) := by
  obtain ⟨K, hK, -, -, -, -, -, h0⟩ := eqK_ex pc
  have e := eqDec_of hK (h 0 132 rfl) (i := .iinc a (Jvm.ClassFile.Reader.signed 8 x)) (p := pc + 3) (by
    rw [h0]
    show Except.bind (eqU cc (pc + 1)) (fun a => Except.bind ((Jvm.ClassFile.Reader.s1 : eqD Int) cc a.2) (fun y => .ok (Instr.iinc a.1 y.1, y.2))) = _
    rw [h 1 a rfl]
    show Except.bind ((Jvm.ClassFile.Reader.s1 : eqD Int) cc (pc + 2)) (fun y => .ok (Instr.iinc a y.1, y.2)) = _
    rw [eqS1 (h 2 x rfl)]
    rfl)
  rw [eqSub] at e
  exact e
theorem eqSg8 {z : Int} (h1 : -128 ≤ z) (h2 : z ≤ 127) : Jvm.ClassFile.Reader.signed 8 (z % 256).toNat = z := by
  show (if (z % 256).toNat < 128 then (((z % 256).toNat : Nat) : Int) else (((z % 256).toNat : Nat) : Int) - ((256 : Nat) : Int)) = z
  split <;> omega
theorem eqSg16 {z : Int} (h1 : -32768 ≤ z) (h2 : z ≤ 32767) : Jvm.ClassFile.Reader.signed 16 ((z % 65536).toNat / 256 * 256 + (z % 65536).toNat % 256) = z := by
  have e : (z % 65536).toNat / 256 * 256 + (z % 65536).toNat % 256 = (z % 65536).toNat := Nat.div_add_mod' _ _
  rw [e]
  show (if (z % 65536).toNat < 32768 then (((z % 65536).toNat : Nat) : Int) else (((z % 65536).toNat : Nat) : Int) - ((65536 : Nat) : Int)) = z
  split <;> omega
end EQDEC
section EQBY
variable {cc : ByteArray} {pc : Nat}
def eqHl (op : Nat) (z : Int) : Option (List Nat) := if -32768 ≤ z ∧ z ≤ 32767 then some [op, (z % 65536).toNat / 256, (z % 65536).toNat % 256] else none
theorem eqHl_ok {q : Nat × (Int → Instr)} {z : Int} {l : List Nat} (h : eqHl q.1 z = some l) (hq : q ∈ eqT2S) (hl : eqHas cc pc l) : decode cc pc = .ok (q.2 z, l.length) := by
  unfold eqHl at h
  split at h
  · rename_i hz
    cases h
    have e := eqDec_2S hq hl
    rw [eqSg16 hz.1 hz.2] at e
    exact e
  · cases h
def eqA2 (op a : Nat) : Option (List Nat) := some [op, a / 256, a % 256]
theorem eqA2_ok {q : Nat × (Nat → Instr)} {a : Nat} {l : List Nat} (h : eqA2 q.1 a = some l) (hq : q ∈ eqT2) (hl : eqHas cc pc l) : decode cc pc = .ok (q.2 a, l.length) := by
  unfold eqA2 at h
  cases h
  have e := eqDec_2 hq hl
  rw [Nat.div_add_mod' a 256] at e
  exact e

def eqBy0 (b : Nat) (z : Int) : Option (List Nat) := if b = 0 then (if -1 ≤ z ∧ z ≤ 5 then some [(z + 3).toNat] else none) else if b = 1 then (if -128 ≤ z ∧ z ≤ 127 then some [16, (z % 256).toNat] else none) else if b = 2 then eqHl 17 z else none
theorem eqic {z : Int} (h1 : -1 ≤ z) (h2 : z ≤ 5) (hl : eqHas cc pc [(z + 3).toNat]) : decode cc pc = .ok (.iconst z, 1) := by
  have hz : z = -1 ∨ z = 0 ∨ z = 1 ∨ z = 2 ∨ z = 3 ∨ z = 4 ∨ z = 5 := by omega
  rcases hz with rfl | rfl | rfl | rfl | rfl | rfl | rfl
  · exact eqDec_0 (q := (2, Instr.iconst (-1))) (List.mem_of_getElem? (l := eqT0) (i := 0) rfl) hl
  · exact eqDec_0 (q := (3, Instr.iconst 0)) (List.mem_of_getElem? (l := eqT0) (i := 1) rfl) hl
  · exact eqDec_0 (q := (4, Instr.iconst 1)) (List.mem_of_getElem? (l := eqT0) (i := 2) rfl) hl
  · exact eqDec_0 (q := (5, Instr.iconst 2)) (List.mem_of_getElem? (l := eqT0) (i := 3) rfl) hl
  · exact eqDec_0 (q := (6, Instr.iconst 3)) (List.mem_of_getElem? (l := eqT0) (i := 4) rfl) hl
  · exact eqDec_0 (q := (7, Instr.iconst 4)) (List.mem_of_getElem? (l := eqT0) (i := 5) rfl) hl
  · exact eqDec_0 (q := (8, Instr.iconst 5)) (List.mem_of_getElem? (l := eqT0) (i := 6) rfl) hl
theorem eqs0 {b : Nat} {z : Int} {l : List Nat} (h : eqBy0 b z = some l) (hl : eqHas cc pc l) : (b = 0 ∧ decode cc pc = .ok (.iconst z, 1) ∧ l.length = 1) ∨ (b = 1 ∧ decode cc pc = .ok (.bipush z, 2) ∧ l.length = 2) ∨ (b = 2 ∧ decode cc pc = .ok (.sipush z, 3) ∧ l.length = 3) := by
  unfold eqBy0 at h
  split at h
  · rename_i hb
    split at h
    · rename_i hz
      cases h
      exact Or.inl ⟨hb, eqic hz.1 hz.2 hl, rfl⟩
    · cases h
  split at h
  · rename_i hb
    split at h
    · rename_i hz
      cases h
      have e := eqDec_bp hl
      rw [eqSg8 hz.1 hz.2] at e
      exact Or.inr (Or.inl ⟨hb, e, rfl⟩)
    · cases h
  split at h
  · rename_i hb
    have e := eqHl_ok (q := (17, Instr.sipush)) h (List.mem_of_getElem? (l := eqT2S) (i := 0) rfl) hl
    unfold eqHl at h
    split at h
    · cases h
      exact Or.inr (Or.inr ⟨hb, e, rfl⟩)
    · cases h
  · cases h
def eqBy3 (b a : Nat) : Option (List Nat) := if b = 0 then some [21, a] else if b = 1 then some [22, a] else if b = 2 then some [25, a] else if b = 3 ∧ a < 4 then some [26 + a] else if b = 4 ∧ a < 4 then some [30 + a] else if b = 5 ∧ a < 4 then some [42 + a] else none
theorem eqs3 {b a : Nat} {l : List Nat} (h : eqBy3 b a = some l) (hl : eqHas cc pc l) : ∃ i, eLdI b a = some (i, l.length) ∧ decode cc pc = .ok (i, l.length) := by
  unfold eqBy3 at h
  split at h
  · subst b
    cases h
    exact ⟨_, rfl, eqDec_1 (q := (21, Instr.iload)) (List.mem_of_getElem? (l := eqT1) (i := 0) rfl) hl⟩
  split at h
  · subst b
    cases h
    exact ⟨_, rfl, eqDec_1 (q := (22, Instr.lload)) (List.mem_of_getElem? (l := eqT1) (i := 1) rfl) hl⟩
  split at h
  · subst b
    cases h
    exact ⟨_, rfl, eqDec_1 (q := (25, Instr.aload)) (List.mem_of_getElem? (l := eqT1) (i := 2) rfl) hl⟩
  split at h
  · rename_i hb
    obtain ⟨rfl, ha⟩ := hb
    cases h
    have ha : a = 0 ∨ a = 1 ∨ a = 2 ∨ a = 3 := by omega
    rcases ha with rfl | rfl | rfl | rfl
    · exact ⟨_, rfl, eqDec_0 (q := (26, Instr.iload_n 0)) (List.mem_of_getElem? (l := eqT0) (i := 7) rfl) hl⟩
    · exact ⟨_, rfl, eqDec_0 (q := (27, Instr.iload_n 1)) (List.mem_of_getElem? (l := eqT0) (i := 8) rfl) hl⟩
    · exact ⟨_, rfl, eqDec_0 (q := (28, Instr.iload_n 2)) (List.mem_of_getElem? (l := eqT0) (i := 9) rfl) hl⟩
    · exact ⟨_, rfl, eqDec_0 (q := (29, Instr.iload_n 3)) (List.mem_of_getElem? (l := eqT0) (i := 10) rfl) hl⟩
  split at h
  · rename_i hb
    obtain ⟨rfl, ha⟩ := hb
    cases h
    have ha : a = 0 ∨ a = 1 ∨ a = 2 ∨ a = 3 := by omega
    rcases ha with rfl | rfl | rfl | rfl
    · exact ⟨_, rfl, eqDec_0 (q := (30, Instr.lload_n 0)) (List.mem_of_getElem? (l := eqT0) (i := 11) rfl) hl⟩
    · exact ⟨_, rfl, eqDec_0 (q := (31, Instr.lload_n 1)) (List.mem_of_getElem? (l := eqT0) (i := 12) rfl) hl⟩
    · exact ⟨_, rfl, eqDec_0 (q := (32, Instr.lload_n 2)) (List.mem_of_getElem? (l := eqT0) (i := 13) rfl) hl⟩
    · exact ⟨_, rfl, eqDec_0 (q := (33, Instr.lload_n 3)) (List.mem_of_getElem? (l := eqT0) (i := 14) rfl) hl⟩
  split at h
  · rename_i hb
    obtain ⟨rfl, ha⟩ := hb
    cases h
    have ha : a = 0 ∨ a = 1 ∨ a = 2 ∨ a = 3 := by omega
    rcases ha with rfl | rfl | rfl | rfl
    · exact ⟨_, rfl, eqDec_0 (q := (42, Instr.aload_n 0)) (List.mem_of_getElem? (l := eqT0) (i := 15) rfl) hl⟩
    · exact ⟨_, rfl, eqDec_0 (q := (43, Instr.aload_n 1)) (List.mem_of_getElem? (l := eqT0) (i := 16) rfl) hl⟩
    · exact ⟨_, rfl, eqDec_0 (q := (44, Instr.aload_n 2)) (List.mem_of_getElem? (l := eqT0) (i := 17) rfl) hl⟩
    · exact ⟨_, rfl, eqDec_0 (q := (45, Instr.aload_n 3)) (List.mem_of_getElem? (l := eqT0) (i := 18) rfl) hl⟩
  · cases h
def eqBy4 (b a : Nat) : Option (List Nat) := if b = 0 then some [54, a] else if b = 1 then some [55, a] else if b = 2 then some [58, a] else if b = 3 ∧ a < 4 then some [59 + a] else if b = 4 ∧ a < 4 then some [63 + a] else if b = 5 ∧ a < 4 then some [75 + a] else none
theorem eqs4 {b a : Nat} {l : List Nat} (h : eqBy4 b a = some l) (hl : eqHas cc pc l) : ∃ i, eSnI b a = some (i, l.length) ∧ decode cc pc = .ok (i, l.length) := by
  unfold eqBy4 at h
  split at h
  · subst b
    cases h
    exact ⟨_, rfl, eqDec_1 (q := (54, Instr.istore)) (List.mem_of_getElem? (l := eqT1) (i := 3) rfl) hl⟩
  split at h
  · subst b
    cases h
    exact ⟨_, rfl, eqDec_1 (q := (55, Instr.lstore)) (List.mem_of_getElem? (l := eqT1) (i := 4) rfl) hl⟩
  split at h
  · subst b
    cases h
    exact ⟨_, rfl, eqDec_1 (q := (58, Instr.astore)) (List.mem_of_getElem? (l := eqT1) (i := 5) rfl) hl⟩
  split at h
  · rename_i hb
    obtain ⟨rfl, ha⟩ := hb
    cases h
    have ha : a = 0 ∨ a = 1 ∨ a = 2 ∨ a = 3 := by omega
    rcases ha with rfl | rfl | rfl | rfl
    · exact ⟨_, rfl, eqDec_0 (q := (59, Instr.istore_n 0)) (List.mem_of_getElem? (l := eqT0) (i := 19) rfl) hl⟩
    · exact ⟨_, rfl, eqDec_0 (q := (60, Instr.istore_n 1)) (List.mem_of_getElem? (l := eqT0) (i := 20) rfl) hl⟩
    · exact ⟨_, rfl, eqDec_0 (q := (61, Instr.istore_n 2)) (List.mem_of_getElem? (l := eqT0) (i := 21) rfl) hl⟩
    · exact ⟨_, rfl, eqDec_0 (q := (62, Instr.istore_n 3)) (List.mem_of_getElem? (l := eqT0) (i := 22) rfl) hl⟩
  split at h
  · rename_i hb
    obtain ⟨rfl, ha⟩ := hb
    cases h
    have ha : a = 0 ∨ a = 1 ∨ a = 2 ∨ a = 3 := by omega
    rcases ha with rfl | rfl | rfl | rfl
    · exact ⟨_, rfl, eqDec_0 (q := (63, Instr.lstore_n 0)) (List.mem_of_getElem? (l := eqT0) (i := 23) rfl) hl⟩
    · exact ⟨_, rfl, eqDec_0 (q := (64, Instr.lstore_n 1)) (List.mem_of_getElem? (l := eqT0) (i := 24) rfl) hl⟩
    · exact ⟨_, rfl, eqDec_0 (q := (65, Instr.lstore_n 2)) (List.mem_of_getElem? (l := eqT0) (i := 25) rfl) hl⟩
    · exact ⟨_, rfl, eqDec_0 (q := (66, Instr.lstore_n 3)) (List.mem_of_getElem? (l := eqT0) (i := 26) rfl) hl⟩
  split at h
  · rename_i hb
    obtain ⟨rfl, ha⟩ := hb
    cases h
    have ha : a = 0 ∨ a = 1 ∨ a = 2 ∨ a = 3 := by omega
    rcases ha with rfl | rfl | rfl | rfl
    · exact ⟨_, rfl, eqDec_0 (q := (75, Instr.astore_n 0)) (List.mem_of_getElem? (l := eqT0) (i := 27) rfl) hl⟩
    · exact ⟨_, rfl, eqDec_0 (q := (76, Instr.astore_n 1)) (List.mem_of_getElem? (l := eqT0) (i := 28) rfl) hl⟩
    · exact ⟨_, rfl, eqDec_0 (q := (77, Instr.astore_n 2)) (List.mem_of_getElem? (l := eqT0) (i := 29) rfl) hl⟩
    · exact ⟨_, rfl, eqDec_0 (q := (78, Instr.astore_n 3)) (List.mem_of_getElem? (l := eqT0) (i := 30) rfl) hl⟩
  · cases h
def eqBy5 (a : Nat) (z : Int) : Option (List Nat) := if -128 ≤ z ∧ z ≤ 127 then some [132, a, (z % 256).toNat] else none
theorem eqs5 {a : Nat} {z : Int} {l : List Nat} (h : eqBy5 a z = some l) (hl : eqHas cc pc l) : decode cc pc = .ok (.iinc a z, 3) ∧ l.length = 3 := by
  unfold eqBy5 at h
  split at h
  · rename_i hz
    cases h
    have e := eqDec_ii hl
    rw [eqSg8 hz.1 hz.2] at e
    exact ⟨e, rfl⟩
  · cases h
def eqBy6 (b : Nat) : Option (List Nat) := if b = 0 then some [96] else if b = 1 then some [100] else if b = 2 then some [104] else if b = 3 then some [126] else if b = 4 then some [128] else if b = 5 then some [130] else if b = 6 then some [120] else if b = 7 then some [122] else if b = 8 then some [124] else if b = 9 then some [108] else if b = 10 then some [112] else none
theorem eqs6 {b : Nat} {l : List Nat} (h : eqBy6 b = some l) (hl : eqHas cc pc l) : decode cc pc = .ok (eBinI b, 1) ∧ l.length = 1 := by
  unfold eqBy6 at h
  split at h
  · subst b
    cases h
    exact ⟨eqDec_0 (q := (96, Instr.iadd)) (List.mem_of_getElem? (l := eqT0) (i := 45) rfl) hl, rfl⟩
  split at h
  · subst b
    cases h
    exact ⟨eqDec_0 (q := (100, Instr.isub)) (List.mem_of_getElem? (l := eqT0) (i := 47) rfl) hl, rfl⟩
  split at h
  · subst b
    cases h
    exact ⟨eqDec_0 (q := (104, Instr.imul)) (List.mem_of_getElem? (l := eqT0) (i := 49) rfl) hl, rfl⟩
  split at h
  · subst b
    cases h
    exact ⟨eqDec_0 (q := (126, Instr.iand)) (List.mem_of_getElem? (l := eqT0) (i := 59) rfl) hl, rfl⟩
  split at h
  · subst b
    cases h
    exact ⟨eqDec_0 (q := (128, Instr.ior)) (List.mem_of_getElem? (l := eqT0) (i := 61) rfl) hl, rfl⟩
  split at h
  · subst b
    cases h
    exact ⟨eqDec_0 (q := (130, Instr.ixor)) (List.mem_of_getElem? (l := eqT0) (i := 63) rfl) hl, rfl⟩
  split at h
  · subst b
    cases h
    exact ⟨eqDec_0 (q := (120, Instr.ishl)) (List.mem_of_getElem? (l := eqT0) (i := 55) rfl) hl, rfl⟩
  split at h
  · subst b
    cases h
    exact ⟨eqDec_0 (q := (122, Instr.ishr)) (List.mem_of_getElem? (l := eqT0) (i := 57) rfl) hl, rfl⟩
  split at h
  · subst b
    cases h
    exact ⟨eqDec_0 (q := (124, Instr.iushr)) (List.mem_of_getElem? (l := eqT0) (i := 58) rfl) hl, rfl⟩
  split at h
  · subst b
    cases h
    exact ⟨eqDec_0 (q := (108, Instr.idiv)) (List.mem_of_getElem? (l := eqT0) (i := 51) rfl) hl, rfl⟩
  split at h
  · subst b
    cases h
    exact ⟨eqDec_0 (q := (112, Instr.irem)) (List.mem_of_getElem? (l := eqT0) (i := 53) rfl) hl, rfl⟩
  · cases h
def eqBy7 (b : Nat) : Option (List Nat) := if b = 0 then some [97] else if b = 1 then some [101] else if b = 2 then some [105] else if b = 3 then some [127] else if b = 4 then some [129] else if b = 5 then some [131] else if b = 9 then some [109] else none
theorem eqs7 {b : Nat} {l : List Nat} (h : eqBy7 b = some l) (hl : eqHas cc pc l) : decode cc pc = .ok (eLinI b, 1) ∧ l.length = 1 := by
  unfold eqBy7 at h
  split at h
  · subst b
    cases h
    exact ⟨eqDec_0 (q := (97, Instr.ladd)) (List.mem_of_getElem? (l := eqT0) (i := 46) rfl) hl, rfl⟩
  split at h
  · subst b
    cases h
    exact ⟨eqDec_0 (q := (101, Instr.lsub)) (List.mem_of_getElem? (l := eqT0) (i := 48) rfl) hl, rfl⟩
  split at h
  · subst b
    cases h
    exact ⟨eqDec_0 (q := (105, Instr.lmul)) (List.mem_of_getElem? (l := eqT0) (i := 50) rfl) hl, rfl⟩
  split at h
  · subst b
    cases h
    exact ⟨eqDec_0 (q := (127, Instr.land)) (List.mem_of_getElem? (l := eqT0) (i := 60) rfl) hl, rfl⟩
  split at h
  · subst b
    cases h
    exact ⟨eqDec_0 (q := (129, Instr.lor)) (List.mem_of_getElem? (l := eqT0) (i := 62) rfl) hl, rfl⟩
  split at h
  · subst b
    cases h
    exact ⟨eqDec_0 (q := (131, Instr.lxor)) (List.mem_of_getElem? (l := eqT0) (i := 64) rfl) hl, rfl⟩
  split at h
  · subst b
    cases h
    exact ⟨eqDec_0 (q := (109, Instr.ldiv)) (List.mem_of_getElem? (l := eqT0) (i := 52) rfl) hl, rfl⟩
  · cases h
def eqBy8 (b : Nat) : Option (List Nat) := if b = 0 then some [116] else if b = 1 then some [145] else if b = 2 then some [147] else if b = 3 then some [133] else if b = 4 then some [136] else none
theorem eqs8 {b : Nat} {l : List Nat} (h : eqBy8 b = some l) (hl : eqHas cc pc l) : decode cc pc = .ok (eUnI b, 1) ∧ l.length = 1 := by
  unfold eqBy8 at h
  split at h
  · subst b
    cases h
    exact ⟨eqDec_0 (q := (116, Instr.ineg)) (List.mem_of_getElem? (l := eqT0) (i := 54) rfl) hl, rfl⟩
  split at h
  · subst b
    cases h
    exact ⟨eqDec_0 (q := (145, Instr.i2b)) (List.mem_of_getElem? (l := eqT0) (i := 67) rfl) hl, rfl⟩
  split at h
  · subst b
    cases h
    exact ⟨eqDec_0 (q := (147, Instr.i2s)) (List.mem_of_getElem? (l := eqT0) (i := 68) rfl) hl, rfl⟩
  split at h
  · subst b
    cases h
    exact ⟨eqDec_0 (q := (133, Instr.i2l)) (List.mem_of_getElem? (l := eqT0) (i := 65) rfl) hl, rfl⟩
  split at h
  · subst b
    cases h
    exact ⟨eqDec_0 (q := (136, Instr.l2i)) (List.mem_of_getElem? (l := eqT0) (i := 66) rfl) hl, rfl⟩
  · cases h
def eqBy19 (b : Nat) : Option (List Nat) := if b = 0 then some [46] else if b = 1 then some [51] else if b = 2 then some [53] else if b = 3 then some [47] else if b = 4 then some [50] else none
theorem eqs19 {b : Nat} {l : List Nat} (h : eqBy19 b = some l) (hl : eqHas cc pc l) : decode cc pc = .ok (eAlI b, 1) ∧ l.length = 1 := by
  unfold eqBy19 at h
  split at h
  · subst b
    cases h
    exact ⟨eqDec_0 (q := (46, Instr.iaload)) (List.mem_of_getElem? (l := eqT0) (i := 31) rfl) hl, rfl⟩
  split at h
  · subst b
    cases h
    exact ⟨eqDec_0 (q := (51, Instr.baload)) (List.mem_of_getElem? (l := eqT0) (i := 34) rfl) hl, rfl⟩
  split at h
  · subst b
    cases h
    exact ⟨eqDec_0 (q := (53, Instr.saload)) (List.mem_of_getElem? (l := eqT0) (i := 35) rfl) hl, rfl⟩
  split at h
  · subst b
    cases h
    exact ⟨eqDec_0 (q := (47, Instr.laload)) (List.mem_of_getElem? (l := eqT0) (i := 32) rfl) hl, rfl⟩
  split at h
  · subst b
    cases h
    exact ⟨eqDec_0 (q := (50, Instr.aaload)) (List.mem_of_getElem? (l := eqT0) (i := 33) rfl) hl, rfl⟩
  · cases h
def eqBy20 (b : Nat) : Option (List Nat) := if b = 0 then some [79] else if b = 1 then some [84] else if b = 2 then some [86] else if b = 3 then some [80] else if b = 4 then some [83] else none
theorem eqs20 {b : Nat} {l : List Nat} (h : eqBy20 b = some l) (hl : eqHas cc pc l) : decode cc pc = .ok (eAsI b, 1) ∧ l.length = 1 := by
  unfold eqBy20 at h
  split at h
  · subst b
    cases h
    exact ⟨eqDec_0 (q := (79, Instr.iastore)) (List.mem_of_getElem? (l := eqT0) (i := 36) rfl) hl, rfl⟩
  split at h
  · subst b
    cases h
    exact ⟨eqDec_0 (q := (84, Instr.bastore)) (List.mem_of_getElem? (l := eqT0) (i := 39) rfl) hl, rfl⟩
  split at h
  · subst b
    cases h
    exact ⟨eqDec_0 (q := (86, Instr.sastore)) (List.mem_of_getElem? (l := eqT0) (i := 40) rfl) hl, rfl⟩
  split at h
  · subst b
    cases h
    exact ⟨eqDec_0 (q := (80, Instr.lastore)) (List.mem_of_getElem? (l := eqT0) (i := 37) rfl) hl, rfl⟩
  split at h
  · subst b
    cases h
    exact ⟨eqDec_0 (q := (83, Instr.aastore)) (List.mem_of_getElem? (l := eqT0) (i := 38) rfl) hl, rfl⟩
  · cases h
def eqBy26 (b : Nat) : Option (List Nat) := if b = 0 then some [89] else if b = 1 then some [87] else if b = 2 then some [92] else if b = 3 then some [88] else none
theorem eqs26 {b : Nat} {l : List Nat} (h : eqBy26 b = some l) (hl : eqHas cc pc l) : decode cc pc = .ok ((if b = 0 then Instr.dup else if b = 1 then .pop else if b = 3 then .pop2 else .dup2), 1) ∧ l.length = 1 := by
  unfold eqBy26 at h
  split at h
  · subst b
    cases h
    exact ⟨eqDec_0 (q := (89, Instr.dup)) (List.mem_of_getElem? (l := eqT0) (i := 43) rfl) hl, rfl⟩
  split at h
  · subst b
    cases h
    exact ⟨eqDec_0 (q := (87, Instr.pop)) (List.mem_of_getElem? (l := eqT0) (i := 41) rfl) hl, rfl⟩
  split at h
  · subst b
    cases h
    exact ⟨eqDec_0 (q := (92, Instr.dup2)) (List.mem_of_getElem? (l := eqT0) (i := 44) rfl) hl, rfl⟩
  split at h
  · subst b
    cases h
    exact ⟨eqDec_0 (q := (88, Instr.pop2)) (List.mem_of_getElem? (l := eqT0) (i := 42) rfl) hl, rfl⟩
  · cases h
def eqBy50 (b : Nat) : Option (List Nat) := if b = 0 then some [177] else if b = 1 then some [172] else some [173]
theorem eqs50 {b : Nat} {l : List Nat} (h : eqBy50 b = some l) (hl : eqHas cc pc l) : (if b = 0 then decide (decode cc pc = .ok (.return_, 1)) else if b = 1 then decide (decode cc pc = .ok (.ireturn, 1)) else decide (decode cc pc = .ok (.lreturn, 1))) = true := by
  unfold eqBy50 at h
  by_cases h0 : b = 0
  · rw [if_pos h0] at h ⊢
    cases h
    exact decide_eq_true (eqDec_0 (q := (177, Instr.return_)) (List.mem_of_getElem? (l := eqT0) (i := 72) rfl) hl)
  rw [if_neg h0] at h ⊢
  by_cases h1 : b = 1
  · rw [if_pos h1] at h ⊢
    cases h
    exact decide_eq_true (eqDec_0 (q := (172, Instr.ireturn)) (List.mem_of_getElem? (l := eqT0) (i := 70) rfl) hl)
  rw [if_neg h1] at h ⊢
  cases h
  exact decide_eq_true (eqDec_0 (q := (173, Instr.lreturn)) (List.mem_of_getElem? (l := eqT0) (i := 71) rfl) hl)
def eqBy12 (b : Nat) (z : Int) : Option (List Nat) := if b = 0 then eqHl 153 z else if b = 1 then eqHl 154 z else if b = 2 then eqHl 155 z else if b = 3 then eqHl 156 z else if b = 4 then eqHl 157 z else if b = 5 then eqHl 158 z else none
theorem eqs12 {b : Nat} {z : Int} {l : List Nat} (h : eqBy12 b z = some l) (hl : eqHas cc pc l) : decode cc pc = .ok (.ifCond (eCmpI b) z, l.length) := by
  unfold eqBy12 at h
  split at h
  · subst b
    exact eqHl_ok (q := (153, Instr.ifCond .eq)) h (List.mem_of_getElem? (l := eqT2S) (i := 1) rfl) hl
  split at h
  · subst b
    exact eqHl_ok (q := (154, Instr.ifCond .ne)) h (List.mem_of_getElem? (l := eqT2S) (i := 2) rfl) hl
  split at h
  · subst b
    exact eqHl_ok (q := (155, Instr.ifCond .lt)) h (List.mem_of_getElem? (l := eqT2S) (i := 3) rfl) hl
  split at h
  · subst b
    exact eqHl_ok (q := (156, Instr.ifCond .ge)) h (List.mem_of_getElem? (l := eqT2S) (i := 4) rfl) hl
  split at h
  · subst b
    exact eqHl_ok (q := (157, Instr.ifCond .gt)) h (List.mem_of_getElem? (l := eqT2S) (i := 5) rfl) hl
  split at h
  · subst b
    exact eqHl_ok (q := (158, Instr.ifCond .le)) h (List.mem_of_getElem? (l := eqT2S) (i := 6) rfl) hl
  · cases h
def eqBy13 (b : Nat) (z : Int) : Option (List Nat) := if b = 0 then eqHl 159 z else if b = 1 then eqHl 160 z else if b = 2 then eqHl 161 z else if b = 3 then eqHl 162 z else if b = 4 then eqHl 163 z else if b = 5 then eqHl 164 z else none
theorem eqs13 {b : Nat} {z : Int} {l : List Nat} (h : eqBy13 b z = some l) (hl : eqHas cc pc l) : decode cc pc = .ok (.if_icmp (eCmpI b) z, l.length) := by
  unfold eqBy13 at h
  split at h
  · subst b
    exact eqHl_ok (q := (159, Instr.if_icmp .eq)) h (List.mem_of_getElem? (l := eqT2S) (i := 7) rfl) hl
  split at h
  · subst b
    exact eqHl_ok (q := (160, Instr.if_icmp .ne)) h (List.mem_of_getElem? (l := eqT2S) (i := 8) rfl) hl
  split at h
  · subst b
    exact eqHl_ok (q := (161, Instr.if_icmp .lt)) h (List.mem_of_getElem? (l := eqT2S) (i := 9) rfl) hl
  split at h
  · subst b
    exact eqHl_ok (q := (162, Instr.if_icmp .ge)) h (List.mem_of_getElem? (l := eqT2S) (i := 10) rfl) hl
  split at h
  · subst b
    exact eqHl_ok (q := (163, Instr.if_icmp .gt)) h (List.mem_of_getElem? (l := eqT2S) (i := 11) rfl) hl
  split at h
  · subst b
    exact eqHl_ok (q := (164, Instr.if_icmp .le)) h (List.mem_of_getElem? (l := eqT2S) (i := 12) rfl) hl
  · cases h
theorem eqHl_len {op : Nat} {z : Int} {l : List Nat} (h : eqHl op z = some l) : l.length = 3 := by
  unfold eqHl at h
  split at h
  · cases h; rfl
  · cases h
theorem eqs12_len {b : Nat} {z : Int} {l : List Nat} (h : eqBy12 b z = some l) : l.length = 3 := by
  unfold eqBy12 at h
  split at h
  · exact eqHl_len h
  split at h
  · exact eqHl_len h
  split at h
  · exact eqHl_len h
  split at h
  · exact eqHl_len h
  split at h
  · exact eqHl_len h
  split at h
  · exact eqHl_len h
  · cases h
theorem eqs13_len {b : Nat} {z : Int} {l : List Nat} (h : eqBy13 b z = some l) : l.length = 3 := by
  unfold eqBy13 at h
  split at h
  · exact eqHl_len h
  split at h
  · exact eqHl_len h
  split at h
  · exact eqHl_len h
  split at h
  · exact eqHl_len h
  split at h
  · exact eqHl_len h
  split at h
  · exact eqHl_len h
  · cases h
def eqBy (I : eI) : Option (List Nat) := match I with
  | (op, _, a, b, z, ws, _) =>
    if op = 3 then eqBy3 b a else if op = 0 then eqBy0 b z else if op = 16 then eqA2 180 a else if op = 40 then (match ws[0]? with
      | some cp => eqA2 182 cp
      | none => none)
    else if op = 6 then eqBy6 b else if op = 50 then eqBy50 b else if op = 19 then eqBy19 b else if op = 13 then eqBy13 b z else if op = 12 then eqBy12 b z else if op = 14 then eqHl 167 z
    else if op = 4 then eqBy4 b a else if op = 17 then eqA2 181 a else if op = 26 then eqBy26 b else if op = 20 then eqBy20 b else if op = 5 then eqBy5 a z
    else if op = 41 then (match ws[0]? with
      | some cp => eqA2 184 cp
      | none => none)
    else if op = 42 then (match ws[0]? with
      | some cp => eqA2 183 cp
      | none => none)
    else if op = 8 then eqBy8 b else if op = 7 then eqBy7 b else if op = 9 then some [148] else if op = 10 then some [121] else if op = 21 then some [190] else none
end EQBY
end
