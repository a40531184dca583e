/-! The reference works steps out. -/
noncomputable section
/-- nothing is worked out yet -/
def nWI (K : kS) : Option nWs := match kLf K.1.2.1 5, kLf K.1.2.1 4, kFa K.2 68 (fun _ => true) with
  | some k, some n, none => if (decide (n = sC 0) && (kSh K.1.2.2.2.1 && (kShb K.1.2.2.2.1 70 .int 6 && (kShb K.1.2.2.2.1 71 .int 130 && (sNN K.1.2.2.2.2.2.2 k && (sIv K.1.2.2.2.2.2.2.1 k).isSome))))) = true then some (nOne [(68, [k, k, sC 0])]) else none
  | _, _, _ => none
/-- all steps are worked out -/
def nWE (K : kS) : Option nWs := match kFa K.2 68 (fun _ => true), kTop K with
  | some [s, k, _], some r => (match kFa K.2 5 (fun q => match q with
      | [s', e] => decide (s' = s) && kEqf K.1.2.2.2.2.2.2 k e
      | _ => false), kFindEl K.2 71 (sC 0) with
    | some [_, e], some u => if (decide (u = r)) = true then some (nOne [(71, [s, e, r])]) else none
    | _, _ => none)
  | _, _ => none
section NWKD
variable {RO : List (Nat × (Nat → Int32))}
theorem nWI_ok : nRok RO nWI := by
  intro K ws h ρ R hD
  have hM := hD.1
  unfold nWI at h
  split at h
  · rename_i k n hk hn hz
    split at h
    · rename_i hc
      cases h
      simp only [Bool.and_eq_true, decide_eq_true_eq] at hc
      obtain ⟨-, c2, c3, c4, c5, c6⟩ := hc
      obtain ⟨A, W, T, E, hAW, -⟩ := kSh_ok hD.2.1.2.2.2.1 c2
      obtain ⟨F, hF⟩ := kSh1 hD.2.1.2.2.2.1 (by decide) rfl c3
      obtain ⟨P, hP⟩ := kSh1 hD.2.1.2.2.2.1 (by decide) rfl c4
      obtain ⟨i, hi⟩ := Option.isSome_iff_exists.mp c6
      obtain ⟨z, ez⟩ := sIv_has hM.1 hi
      have h0 := sNN_ok hM ez c5
      have q0 := sEv_C (ρ := ρ) 0
      refine nOne_ok (fun q hq => ?_)
      rw [List.mem_singleton.mp hq]
      refine nAt1 (k := 68) (zs := [z, z, 0]) (by decide) (by decide) (by simp only [sVal, ez, q0]) ⟨z, z, 0, rfl, A, W, F, P, [], hAW, hF, hP, h0, by omega, rfl, fun i x q => (by simp at q), ?_⟩
      rw [show (z - z).toNat = 0 by omega]
      rfl
    · cases h
  · cases h
theorem nWE_ok : nRok RO nWE := by
  intro K ws h ρ R hD
  have hM := hD.1
  unfold nWE at h
  split at h
  · rename_i s k n r hws hr
    split at h
    · rename_i s' e u h5 hu
      split at h
      · rename_i hc
        cases h
        have hc := of_decide_eq_true hc
        subst hc
        obtain ⟨-, zs, f1, f2⟩ := nFa_ok hD.2.2 hws (by decide) (by decide)
        obtain ⟨zs1, zk, zn, rfl, es, ek, en⟩ := sVal_3 f1
        obtain ⟨p5, zt, f3, f4⟩ := kFa_ok hD.2.2 h5 (by decide)
        obtain ⟨zs2, ze, rfl, es2, ee⟩ := sVal_2 f3
        simp only [Bool.and_eq_true, decide_eq_true_eq] at p5
        obtain ⟨rfl, p5⟩ := p5
        have hke := kEqf_ok hM ek ee p5
        subst hke
        obtain ⟨x1, x2, x3, he, A, W, F, P, st, hAW, hF, hP, q1, q2, q3, q4, q5⟩ : ∃ a b c, [zs1, zk, zn] = [a, b, c] ∧ nWS a b c [] R.2.2.2.1 := f2
        cases he
        obtain ⟨y, ey, hy⟩ := kFindEl_ok hD.2.2 hu (sEv_C 0)
        have hv := (kElA hy hP).2
        refine nOne_ok (fun q hq => ?_)
        rw [List.mem_singleton.mp hq]
        refine nAt1 (k := 71) (zs := [zs1, zk, y]) (by decide) (by decide) (by simp only [sVal, es, ee, ey]) ⟨zs1, zk, y, rfl, A, W, F, hAW, hF, q1, q2, fun x hx => ?_⟩
        rw [q5] at hx
        exact (q4 0 x hx).symm.trans hv
      · cases h
    · cases h
  · cases h
end NWKD
end
