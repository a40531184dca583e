/-! The class works the law out: what is told. -/
noncomputable section
def nZ0 (Γ : sG) (v : sL) : Bool := decide (sK Γ.1 v = some 0)
/-- the names' numbers -/
def nNms : List Int := [-110, -107, -108, -112, -98, -118]
def nXneg (Γ : sG) (now : sL) : Bool := (match sIv Γ.1 now with
  | some i => decide (i.2 < 0)
  | none => false) && nNms.all (fun c => nNt Γ now c)
def nX10 (γ : List kA) : Option (sL × sL × sL × sL × List sL) := match kFa γ 65 (fun _ => true) with
  | some (sz :: a :: t :: s :: fs) => some (sz, a, t, s, fs)
  | _ => none
def nXHD (K : kS) : Option nWs := match nX10 K.2 with
  | some (sz, a, t, s, _) => some [(none, [], [(sSub (sSub sz a) (sC 1), 0, 2147483647), (sSub a s, 0, 2147483647), (sSub a t, 0, 2147483647)])]
  | none => none
def nXB (K : kS) : Option nWs := match nX10 K.2 with
  | some (_, a, _) => (match kFindEl K.2 22 a with
    | some now => if sI32 K.1.2.2.2.2.2.2.1 now = true then some [(none, [], [(now, -1002, 9999)])] else none
    | none => none)
  | none => none
def nXT (b : Bool) (K : kS) : Option nWs := match nX10 K.2 with
  | some (_, a, t, _) => (match kFindEl K.2 22 a with
    | some now => if (sI32 K.1.2.2.2.2.2.2.1 now && (nXneg K.1.2.2.2.2.2.2 now && (!b || [-1000, -1001, -1002, -33].all (fun c => nNt K.1.2.2.2.2.2.2 now c)))) = true then some [(none, [], [(sSub t (sC (if b = true then 2 else 1)), 0, 2147483647)])] else none
    | none => none)
  | none => none
def nXSZ (K : kS) : Option nWs := match nX10 K.2 with
  | some (sz, a, t, _) => (match kFindEl K.2 22 a, kFindEl K.2 23 (sSub t (sC 1)) with
    | some now, some u => if (decide (sK K.1.2.2.2.2.2.2.1 now = some (-1001)) && sI32 K.1.2.2.2.2.2.2.1 u) = true then some [(none, [], [(sSub (sSub sz a) (sC 2), 0, 2147483647)])] else none
    | _, _ => none)
  | none => none
def nXTG (K : kS) : Option nWs := match nX10 K.2 with
  | some (sz, a, t, _) => (match kFindEl K.2 22 a, kFindEl K.2 23 (sSub t (sC 1)), kFindEl K.2 22 (sAdd a (sC 1)) with
    | some now, some u, some tg => if (decide (sK K.1.2.2.2.2.2.2.1 now = some (-1001)) && (sI32 K.1.2.2.2.2.2.2.1 u && sI32 K.1.2.2.2.2.2.2.1 tg)) = true then some [(none, [], [(sSub (sSub tg a) (sC 2), 0, 2147483647), (sSub (sSub sz tg) (sC 1), 0, 2147483647)])] else none
    | _, _, _ => none)
  | none => none
section NXRU
variable {RO : List (Nat × (Nat → Int32))} {ρ : List Int} {Γ : sG} {γ : List kA} {H : List eE}
theorem sVal_len1 : ∀ {fs : List sL} {zs : List Int}, sVal ρ fs = some zs → zs.length = fs.length
  | [], zs, h => by cases h; rfl
  | f :: r, zs, h => by
    obtain ⟨z, zr, rfl, -, h2⟩ := sVal_cons h
    exact congrArg Nat.succ (sVal_len1 h2)
theorem nX10_ok (hg : kGh (kGP (kUP RO)) ρ γ H) {sz a t s : sL} {fs : List sL} (h : nX10 γ = some (sz, a, t, s, fs)) : ∃ z1 z2 z3 z4 zf, sEv ρ sz = some z1 ∧ sEv ρ a = some z2 ∧ sEv ρ t = some z3 ∧ sEv ρ s = some z4 ∧ sVal ρ fs = some zf ∧ zf.length = 6 ∧ nXS z1 z2 z3 z4 zf [] H := by
  unfold nX10 at h
  split at h
  · rename_i sz' a' t' s' fs' hfa
    cases h
    obtain ⟨-, zs, e1, e2⟩ := nFa_ok hg hfa (by decide) (by decide)
    obtain ⟨z1, z2, z3, z4, zf, rfl, f1, f2, f3, f4, f5⟩ : ∃ z1 z2 z3 z4 zf, zs = z1 :: z2 :: z3 :: z4 :: zf ∧ sEv ρ sz = some z1 ∧ sEv ρ a = some z2 ∧ sEv ρ t = some z3 ∧ sEv ρ s = some z4 ∧ sVal ρ fs = some zf := by
      obtain ⟨z1, _, rfl, f1, e1⟩ := sVal_cons e1
      obtain ⟨z2, _, rfl, f2, e1⟩ := sVal_cons e1
      obtain ⟨z3, _, rfl, f3, e1⟩ := sVal_cons e1
      obtain ⟨z4, _, rfl, f4, e1⟩ := sVal_cons e1
      exact ⟨z1, z2, z3, z4, _, rfl, f1, f2, f3, f4, e1⟩
    obtain ⟨b1, b2, b3, b4, n1, n2, n3, n4, n5, n6, he, hx⟩ : ∃ a b c e n1 n2 n3 n4 n5 n6, z1 :: z2 :: z3 :: z4 :: zf = [a, b, c, e, n1, n2, n3, n4, n5, n6] ∧ nXS a b c e [n1, n2, n3, n4, n5, n6] [] H := e2
    cases he
    exact ⟨_, _, _, _, _, f1, f2, f3, f4, f5, rfl, hx⟩
  · cases h
theorem nBd_ok {bs : List (sL × Int × Int)} (h : ∀ b ∈ bs, ∃ z, sEv ρ b.1 = some z ∧ b.2.1 ≤ z ∧ z ≤ b.2.2) : nGood RO ρ H [(none, [], bs)] := ⟨_, List.mem_singleton.mpr rfl, [], rfl, fun q hq => (by cases hq), fun b hb => by rw [List.append_nil]; exact h b hb⟩
theorem nXHD_ok : nRok RO nXHD := by
  intro K ws h ρ R hD
  unfold nXHD at h
  split at h
  · rename_i sz a t s fs hx
    cases h
    obtain ⟨z1, z2, z3, z4, zf, e1, e2, e3, e4, e5, e6, hX⟩ := nX10_ok hD.2.2 hx
    have hb := nXS_at hX
    refine nBd_ok (fun b hb' => ?_)
    simp only [List.mem_cons, List.not_mem_nil, or_false] at hb'
    rcases hb' with rfl | rfl | rfl
    · exact ⟨_, sEv_sub (sEv_sub e1 e2) (sEv_C 1), by simp only; omega, by simp only; omega⟩
    · exact ⟨_, sEv_sub e2 e4, by simp only; omega, by simp only; omega⟩
    · exact ⟨_, sEv_sub e2 e3, by simp only; omega, by simp only; omega⟩
  · cases h
theorem nXB_ok : nRok RO nXB := by
  intro K ws h ρ R hD
  have hM := hD.1
  unfold nXB at h
  split at h
  · rename_i sz a t hx
    split at h
    · rename_i now hn
      split at h
      · rename_i hc
        cases h
        obtain ⟨t, s, fs⟩ := t
        obtain ⟨z1, z2, z3, z4, zf, e1, e2, e3, e4, e5, e6, hX⟩ := nX10_ok hD.2.2 hx
        obtain ⟨z, ez, hk⟩ := kFindEl_ok hD.2.2 hn e2
        have hr := sWi_ok hM.1 ez hc
        have := nXS_now hX hk hr
        refine nBd_ok (fun b hb' => ?_)
        rw [List.mem_singleton.mp hb']
        exact ⟨_, ez, this.1, this.2.1⟩
      · cases h
    · cases h
  · cases h
theorem nXneg_ok (hM : sMo ρ Γ) {now : sL} {z : Int} (e : sEv ρ now = some z) (h : nXneg Γ now = true) : z < 0 ∧ ∀ c, z = -(nNl c) → ¬ (0 ≤ c ∧ c ≤ 5) := by
  unfold nXneg at h
  simp only [Bool.and_eq_true] at h
  obtain ⟨h1, h2⟩ := h
  have hn : z < 0 := by
    split at h1
    · rename_i i hi
      have := sIv_ok hM.1 e hi
      have := of_decide_eq_true h1
      omega
    · cases h1
  refine ⟨hn, fun c hc hr => ?_⟩
  have hall : ∀ k ∈ nNms, z ≠ k := fun k hk => nNt_ok hM e (List.all_eq_true.mp h2 k hk)
  rcases nNl_r hr with ⟨q, -⟩ | ⟨q, -⟩ | ⟨q, -⟩ | ⟨q, -⟩ | ⟨q, -⟩ | ⟨q, -⟩ <;> rw [q] at hc
  · exact hall (-110) (by decide) hc
  · exact hall (-107) (by decide) hc
  · exact hall (-108) (by decide) hc
  · exact hall (-112) (by decide) hc
  · exact hall (-98) (by decide) hc
  · exact hall (-118) (by decide) hc
theorem nXT_ok (b : Bool) : nRok RO (nXT b) := by
  intro K ws h ρ R hD
  have hM := hD.1
  unfold nXT at h
  split at h
  · rename_i sz a t s hx
    split at h
    · rename_i now hn
      split at h
      · rename_i hc
        cases h
        obtain ⟨s, fs⟩ := s
        simp only [Bool.and_eq_true] at hc
        obtain ⟨c1, c2, c3⟩ := hc
        obtain ⟨z1, z2, z3, z4, zf, e1, e2, e3, e4, e5, e6, hX⟩ := nX10_ok hD.2.2 hx
        obtain ⟨z, ez, hk⟩ := kFindEl_ok hD.2.2 hn e2
        have hr := sWi_ok hM.1 ez c1
        have hx1 := nXS_now hX hk hr
        have hx2 := nXneg_ok hM ez c2
        have hx3 := hx1.2.2 hx2.1 hx2.2
        have hb := nXS_at hX
        refine nBd_ok (fun b' hb' => ?_)
        rw [List.mem_singleton.mp hb']
        refine ⟨_, sEv_sub e3 (sEv_C _), ?_, by simp only; split <;> omega⟩
        cases b with
        | false => simp only; simp; omega
        | true =>
          have hall : ∀ k ∈ [-1000, -1001, -1002, -33], z ≠ k := fun k hk => nNt_ok hM ez (List.all_eq_true.mp (by simpa using c3) k hk)
          have := hx3.2 (hall (-1000) (by decide)) (hall (-1001) (by decide)) (hall (-1002) (by decide)) (hall (-33) (by decide))
          simp only
          simp
          omega
      · cases h
    · cases h
  · cases h
theorem nXSZ_ok : nRok RO nXSZ := by
  intro K ws h ρ R hD
  have hM := hD.1
  unfold nXSZ at h
  split at h
  · rename_i sz a t s hx
    split at h
    · rename_i now u hn hu
      split at h
      · rename_i hc
        cases h
        obtain ⟨s, fs⟩ := s
        simp only [Bool.and_eq_true, decide_eq_true_eq] at hc
        obtain ⟨z1, z2, z3, z4, zf, e1, e2, e3, e4, e5, e6, hX⟩ := nX10_ok hD.2.2 hx
        obtain ⟨z, ez, hk⟩ := kFindEl_ok hD.2.2 hn e2
        obtain ⟨y, ey, hy⟩ := kFindEl_ok hD.2.2 hu (sEv_sub e3 (sEv_C 1))
        have h1 := sK_ok hM.1 ez hc.1
        subst h1
        have := nXS_skip hX hk hy (sWi_ok hM.1 ey hc.2)
        have hb := nXS_at hX
        refine nBd_ok (fun b' hb' => ?_)
        rw [List.mem_singleton.mp hb']
        exact ⟨_, sEv_sub (sEv_sub e1 e2) (sEv_C 2), by simp only; omega, by simp only; omega⟩
      · cases h
    · cases h
  · cases h
theorem nXTG_ok : nRok RO nXTG := by
  intro K ws h ρ R hD
  have hM := hD.1
  unfold nXTG at h
  split at h
  · rename_i sz a t s hx
    split at h
    · rename_i now u tg hn hu ht
      split at h
      · rename_i hc
        cases h
        obtain ⟨s, fs⟩ := s
        simp only [Bool.and_eq_true, decide_eq_true_eq] at hc
        obtain ⟨c1, c2, c3⟩ := hc
        obtain ⟨z1, z2, z3, z4, zf, e1, e2, e3, e4, e5, e6, hX⟩ := nX10_ok hD.2.2 hx
        obtain ⟨z, ez, hk⟩ := kFindEl_ok hD.2.2 hn e2
        obtain ⟨y, ey, hy⟩ := kFindEl_ok hD.2.2 hu (sEv_sub e3 (sEv_C 1))
        obtain ⟨w, ew, hw⟩ := kFindEl_ok hD.2.2 ht (sEv_add e2 (sEv_C 1))
        have h1 := sK_ok hM.1 ez c1
        subst h1
        have := (nXS_skip hX hk hy (sWi_ok hM.1 ey c2)).2.2 w hw (sWi_ok hM.1 ew c3)
        have hb := nXS_at hX
        refine nBd_ok (fun b' hb' => ?_)
        simp only [List.mem_cons, List.not_mem_nil, or_false] at hb'
        rcases hb' with rfl | rfl
        · exact ⟨_, sEv_sub (sEv_sub ew e2) (sEv_C 2), by simp only; omega, by simp only; omega⟩
        · exact ⟨_, sEv_sub (sEv_sub e1 ew) (sEv_C 1), by simp only; omega, by simp only; omega⟩
      · cases h
    · cases h
  · cases h
end NXRU
end
