/-! The kinds of things that the abstract machine works on. -/
abbrev eA : Type := (Nat → Int32) ⊕ ((Nat → Int64) ⊕ (Nat → Option Nat))
abbrev eE : Type := (FieldType × Nat × eA) ⊕ (Nat × List Value)
/-- an instruction: what it does, the next place, two numbers, an integer, places of words, a switch's cases -/
abbrev eI : Type := Nat × Nat × Nat × Nat × Int × List Nat × List (Int × Nat)
/-- a frame and the heap: place, locals, stack, heap, cells made, slots made -/
abbrev eR : Type := Nat × List (Nat × Value) × List Value × List eE × Nat × Nat
/-- a method: name, code, locals, answer, length, whether it is a constructor, instructions -/
abbrev eM : Type := MethodName × ByteArray × Nat × Option FieldType × Nat × (Nat → Option eI)
