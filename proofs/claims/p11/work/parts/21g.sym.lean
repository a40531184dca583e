/-! S: arrays, new cells, and the rest. -/
noncomputable section
def sUp (b : Int × Int) (ov : List (Nat × sL)) (i : Nat) (a : sL) : List (Nat × sL) :=
  (if a.2 = [] ∧ a.1 = b.1 ∧ b.1 = b.2 ∧ -2147483648 ≤ a.1 ∧ a.1 ≤ 2147483647 then [] else [(i, a)]) ++ ov.filter (fun q => !(q.1 == i))
theorem sLk_filter {f : Nat × sL → Bool} {i : Nat} (hf : ∀ q : Nat × sL, q.1 = i → f q = true) : ∀ ov : List (Nat × sL), sLk (ov.filter f) i = sLk ov i
  | [] => rfl
  | q :: r => by
    have ih := sLk_filter hf r
    simp only [sLk_def] at ih ⊢
    rw [List.filter_cons, List.find?_cons]
    by_cases hq : (q.1 == i) = true
    · rw [if_pos (hf q (beq_iff_eq.mp hq)), List.find?_cons]
      simp only [hq]
    · simp only [hq]
      split
      · rw [List.find?_cons]
        simp only [hq]
        exact ih
      · exact ih
theorem sLk_none {f : Nat × sL → Bool} {i : Nat} (hf : ∀ q : Nat × sL, q.1 = i → f q = false) : ∀ ov : List (Nat × sL), sLk (ov.filter f) i = none
  | [] => rfl
  | q :: r => by
    have ih := sLk_none hf r
    rw [List.filter_cons]
    split
    · rename_i h
      simp only [sLk_def] at ih ⊢
      rw [List.find?_cons]
      have hq : ¬ (q.1 == i) = true := fun z => by rw [hf q (beq_iff_eq.mp z)] at h; cases h
      simp only [hq]
      exact ih
    · exact ih
theorem sLk_up_ne {b : Int × Int} {ov : List (Nat × sL)} {i j : Nat} {a : sL} (h : j ≠ i) : sLk (sUp b ov i a) j = sLk ov j := by
  have h1 := sLk_filter (f := fun q => !(q.1 == i)) (i := j) (fun q hq => by simp [hq, h]) ov
  unfold sUp
  split
  · exact h1
  · simp only [sLk_def] at h1 ⊢
    rw [List.singleton_append, List.find?_cons]
    have : ¬ (i == j) = true := fun z => h (beq_iff_eq.mp z).symm
    simp only [this]
    exact h1
theorem sLk_up_eq (b : Int × Int) (ov : List (Nat × sL)) (i : Nat) (a : sL) : sLk (sUp b ov i a) i = some a ∨ (sLk (sUp b ov i a) i = none ∧ a.2 = [] ∧ a.1 = b.1 ∧ b.1 = b.2 ∧ -2147483648 ≤ a.1 ∧ a.1 ≤ 2147483647) := by
  unfold sUp
  split
  · rename_i h
    exact Or.inr ⟨sLk_none (fun q hq => by simp [hq]) ov, h⟩
  · left
    simp [sLk_def]
theorem sArI_up {ρ : List Int} {b : Int × Int} {ov : List (Nat × sL)} {n i : Nat} {a : sL} {z : Int} {f : Nat → Int32} (h : sArI ρ b ov n f) (hz : sEv ρ a = some z) : sArI ρ b (sUp b ov i a) n (upd f i (Int32.ofInt z)) := by
  intro j hj
  by_cases hji : j = i
  · subst hji
    rcases sLk_up_eq b ov j a with e | ⟨e, h1, h2, h3, h4, h5⟩
    · rw [e]
      exact ⟨z, hz, by simp [upd]⟩
    · rw [e]
      have e9 : z = a.1 := by
        obtain ⟨c, t⟩ := a
        simp only at h1; subst h1
        simp only [sEv, sEvT, Option.map_some, Option.some.injEq] at hz
        omega
      have h6 := sTo32 h4 h5
      simp only [upd, if_true]
      rw [e9, h6]
      omega
  · rw [sLk_up_ne hji]
    have := h j hj
    simpa [upd, hji] using this
theorem sArL_up {ρ : List Int} {b : Int × Int} {ov : List (Nat × sL)} {n i : Nat} {a : sL} {z : Int} {f : Nat → Int64} (h : sArL ρ b ov n f) (hz : sEv ρ a = some z) : sArL ρ b (sUp b ov i a) n (vp_updL f i (Int64.ofInt z)) := by
  intro j hj
  by_cases hji : j = i
  · subst hji
    rcases sLk_up_eq b ov j a with e | ⟨e, h1, h2, h3, h4, h5⟩
    · rw [e]
      exact ⟨z, hz, by simp [vp_updL]⟩
    · rw [e]
      have e9 : z = a.1 := by
        obtain ⟨c, t⟩ := a
        simp only at h1; subst h1
        simp only [sEv, sEvT, Option.map_some, Option.some.injEq] at hz
        omega
      have h6 : (Int64.ofInt a.1).toInt = a.1 := sTo64 (by omega) (by omega)
      simp only [vp_updL, if_true]
      rw [e9, h6]
      omega
  · rw [sLk_up_ne hji]
    have := h j hj
    simpa [vp_updL, hji] using this
def sUpQ (ov : List (Nat × sL)) (i : Nat) (a : sL) : List (Nat × sL) := (i, a) :: ov.filter (fun q => !(q.1 == i))
theorem sArQ_up {ov : List (Nat × sL)} {n i : Nat} {a : sL} {f : Nat → Option Nat} (h : sArQ ov n f) : sArQ (sUpQ ov i a) n (va_up f i (some a.1.toNat)) := by
  intro j hj
  by_cases hji : j = i
  · subst hji
    simp [va_up, sLk_def, sUpQ]
  · have e : sLk (sUpQ ov i a) j = sLk ov j := by
      have h1 := sLk_filter (f := fun q => !(q.1 == i)) (i := j) (fun q hq => by simp [hq, hji]) ov
      simp only [sLk_def, sUpQ] at *
      rw [List.find?_cons]
      have : ¬ (i == j) = true := fun z => hji (beq_iff_eq.mp z).symm
      simp only [this]
      exact h1
    rw [e]
    simp only [va_up, hji, if_false]
    exact h j hj
def sDf (ty : FieldType) : sV := match ty with
  | .long => (1, sC 0)
  | .object _ => (3, sC 0)
  | .array _ => (3, sC 0)
  | .int => (0, sC 0)
  | .boolean => (0, sC 0)
  | .byte => (0, sC 0)
  | .short => (0, sC 0)
  | .char => (0, sC 0)
  | _ => (9, sC 0)
theorem sDf_ok {ρ : List Int} {ty : FieldType} (h : (sDf ty).1 ≠ 9) : sVr ρ (sDf ty) (defaultValue ty) := by
  cases ty <;> first | exact ⟨0, sEv_C 0, rfl⟩ | rfl | exact absurd rfl h
section SSTEP3
variable (SO : List (Nat × List sL)) (CL : List vw_C) (CT : Nat → Nat → FieldType)
def s19 (nx b : Nat) : sR → Option (List sR)
  | (_, ls, (0, i) :: (2, q) :: st, G, c, s, Γ) => if q.1.toNat < SO.length then (if b = 0 then (match SO[q.1.toNat]? with
      | some (n, l) => (sIdx Γ i n).map fun ks => ks.flatMap fun k => (match l[k.1]? with
        | some a => [(nx, ls, (0, a) :: st, G, c, s, k.2)]
        | none => [])
      | none => none) else none) else match sAt G (q.1.toNat - SO.length) with
    | some (.inl (ty, n, bd, ov)) => (match sIdx Γ i n with
      | none => none
      | some ks => if (b = 0 ∧ ty = .int) ∨ (b = 1 ∧ ty = .byte) ∨ (b = 2 ∧ ty = .short) then
          (if ks.all (fun k => (sLk ov k.1).isSome || decide (bd.1 = bd.2)) = true then some (ks.map fun k => (nx, ls, (0, (sLk ov k.1).getD (sC bd.1)) :: st, G, c, s, k.2)) else none)
        else if b = 3 ∧ ty = .long then
          (if ks.all (fun k => (sLk ov k.1).isSome || decide (bd.1 = bd.2)) = true then some (ks.map fun k => (nx, ls, (1, (sLk ov k.1).getD (sC bd.1)) :: st, G, c, s, k.2)) else none)
        else if b = 4 ∧ ty.isReference = true then some (ks.map fun k => (nx, ls, (match sLk ov k.1 with | some a => (2, a) | none => (3, sC 0)) :: st, G, c, s, k.2))
        else none)
    | _ => none
  | _ => none
def s20 (nx b : Nat) : sR → Option (List sR)
  | (_, ls, v :: (0, i) :: (2, q) :: st, G, c, s, Γ) => if q.1.toNat < SO.length then none else match sAt G (q.1.toNat - SO.length) with
    | some (.inl (ty, n, bd, ov)) => (match sIdx Γ i n with
      | none => none
      | some ks => if (b = 0 ∧ ty = .int ∧ v.1 = 0) ∨ (b = 1 ∧ ty = .byte ∧ v.1 = 0 ∧ sWi Γ.1 v.2 (-128) 127 = true) ∨ (b = 2 ∧ ty = .short ∧ v.1 = 0 ∧ sWi Γ.1 v.2 (-32768) 32767 = true) ∨ (b = 3 ∧ ty = .long ∧ v.1 = 1) then
          some (ks.map fun k => (nx, ls, st, sSet G (q.1.toNat - SO.length) (.inl (ty, n, bd, sUp bd ov k.1 v.2)), c, s, k.2))
        else if b = 4 ∧ v.1 = 2 ∧ ¬ v.2.1.toNat < SO.length then (match sAt G (v.2.1.toNat - SO.length) with
          | some (.inr (ci, _)) => (match CL[ci]? with
            | some kk => if ty = .object kk.1 ∧ ci ≠ 999 then some (ks.map fun k => (nx, ls, st, sSet G (q.1.toNat - SO.length) (.inl (ty, n, bd, sUpQ ov k.1 v.2)), c, s, k.2)) else none
            | none => none)
          | _ => none)
        else none)
    | _ => none
  | _ => none
def s21 (nx : Nat) : sR → Option (List sR)
  | (_, ls, (2, q) :: st, G, c, s, Γ) => if q.1.toNat < SO.length then (match SO[q.1.toNat]? with
      | some (n, _) => if 0 < n ∧ n ≤ 2147483647 then some [(nx, ls, (0, sC n) :: st, G, c, s, Γ)] else none
      | none => none) else match sAt G (q.1.toNat - SO.length) with
    | some (.inl (_, n, _, _)) => some [(nx, ls, (0, sC n) :: st, G, c, s, Γ)]
    | _ => none
  | _ => none
def s22 (nx b : Nat) : sR → Option (List sR)
  | (_, ls, st, G, c, s, Γ) => match CL[b]? with
    | some k => if (List.range k.2.2).all (fun j => decide ((sDf (CT b j)).1 ≠ 9)) = true then some [(nx, ls, (2, sC (SO.length + G.length : Nat)) :: st, G ++ [.inr (b, (List.range k.2.2).map (fun j => sDf (CT b j)))], c + 1, s + k.2.2, Γ)] else none
    | none => none
def sNwT (b : Nat) : Option FieldType := if b = 0 then some .int else if b = 1 then some .byte else if b = 2 then some .short else if b = 3 then some .long else none
def s23 (nx b : Nat) : sR → Option (List sR)
  | (_, ls, (0, x) :: st, G, c, s, Γ) => match sK Γ.1 x, sNwT b with
    | some k, some ty => if 0 ≤ k ∧ k ≤ 65536 then some [(nx, ls, (2, sC (SO.length + G.length : Nat)) :: st, G ++ [.inl (ty, k.toNat, (0, 0), [])], c + 1, s + k.toNat, Γ)] else none
    | _, _ => none
  | _ => none
def s24 (nx b : Nat) : sR → Option (List sR)
  | (_, ls, (0, x) :: st, G, c, s, Γ) => match sK Γ.1 x, CL[b]? with
    | some k, some kc => if 0 ≤ k ∧ k ≤ 65536 then some [(nx, ls, (2, sC (SO.length + G.length : Nat)) :: st, G ++ [.inl (.object kc.1, k.toNat, (0, 0), [])], c + 1, s + k.toNat, Γ)] else none
    | _, _ => none
  | _ => none
def s25 (nx : Nat) : sR → Option (List sR)
  | (_, ls, (0, x) :: (0, y) :: st, G, c, s, Γ) => match sK Γ.1 x, sK Γ.1 y with
    | some k, some n => if 0 ≤ k ∧ k ≤ 65536 ∧ 0 ≤ n ∧ n ≤ 65536 then some [(nx, ls, (2, sC (SO.length + G.length : Nat)) :: st, (G ++ [.inl (.array .int, n.toNat, (0, 0), (List.range n.toNat).map fun i => (i, sC (SO.length + G.length + 1 + i : Nat)))]) ++ List.replicate n.toNat (.inl (.int, k.toNat, (0, 0), [])),
        c + 1 + n.toNat, s + n.toNat + n.toNat * k.toNat, Γ)] else none
    | _, _ => none
  | _ => none
def s26 (nx b : Nat) : sR → Option (List sR)
  | (_, ls, v :: st, G, c, s, Γ) => if sCat v = 1 then (if b = 0 then some [(nx, ls, v :: v :: st, G, c, s, Γ)] else if b = 1 then some [(nx, ls, st, G, c, s, Γ)]
      else if b = 2 then (match st with
        | w :: r => if sCat w = 1 then some [(nx, ls, v :: w :: v :: w :: r, G, c, s, Γ)] else none
        | [] => none) else none) else if sCat v = 2 ∧ b = 3 then some [(nx, ls, st, G, c, s, Γ)] else none
  | _ => none
def s30 (nx : Nat) : sR → Option (List sR)
  | (_, ls, (2, _) :: st, G, c, s, Γ) => if (st.map sCat).sum ≤ 8 then some [(nx, ls, st, G, c, s, Γ)] else none
  | _ => none
def s31 (nx : Nat) : sR → Option (List sR)
  | (_, ls, (0, n) :: (0, dp) :: (2, kd) :: (0, sp) :: (2, ks) :: st, G, c, s, Γ) => if kd.1.toNat < SO.length ∨ ks.1.toNat < SO.length ∨ 8 < (st.map sCat).sum then none else
    match sK Γ.1 n, sK Γ.1 dp, sK Γ.1 sp, G[ks.1.toNat - SO.length]?, G[kd.1.toNat - SO.length]? with
    | some n, some dp, some sp, some (.inl (ty, n0, b0, o0)), some (.inl (ty1, n1, b1, o1)) =>
      if 0 ≤ n ∧ 0 ≤ dp ∧ 0 ≤ sp ∧ n ≤ 65536 ∧ dp ≤ 65536 ∧ sp ≤ 65536 ∧ ty = .int ∧ ty1 = .int ∧ sp.toNat + n.toNat ≤ n0 ∧ dp.toNat + n.toNat ≤ n1 ∧ b0.1 = b0.2 then
        some [(nx, ls, st, G.set (kd.1.toNat - SO.length) (.inl (.int, n1, b1, ((List.range n.toNat).map fun j => (dp.toNat + j, (sLk o0 (sp.toNat + j)).getD (sC b0.1))) ++ o1.filter (fun q => !(decide (dp.toNat ≤ q.1) && decide (q.1 < dp.toNat + n.toNat))))), c, s, Γ)] else none
    | _, _, _, _, _ => none
  | _ => none
def s32 (nx b : Nat) : sR → Option (List sR)
  | (_, ls, (0, y) :: (0, x) :: st, G, c, s, Γ) => if sI32 Γ.1 x = true ∧ sI32 Γ.1 y = true ∧ (st.map sCat).sum ≤ 8 then
      some (sOpt (sCnd (if b = 0 then 2 else 4) Γ (sSub x y)).1 (fun Γ' => (nx, ls, (0, y) :: st, G, c, s, Γ')) ++ sOpt (sCnd (if b = 0 then 2 else 4) Γ (sSub x y)).2 (fun Γ' => (nx, ls, (0, x) :: st, G, c, s, Γ'))) else none
  | _ => none
end SSTEP3
end
