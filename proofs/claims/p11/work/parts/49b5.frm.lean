/-! What the atoms depend on. -/
theorem nUP_fr : ∀ k zs (H H' : List eE), (∀ j ∈ nUD k, H'[j]? = H[j]?) → nUP k zs H → nUP k zs H' := by
  intro k zs H H' hd h
  by_cases c53 : k = 53
  · subst c53
    have h : nG 0 zs H := h
    show nG 0 zs H'
    obtain ⟨ln, md, o, a, k0, r, B, n, e, h1, h2, h3, h4, h5⟩ := h
    exact ⟨ln, md, o, a, k0, r, B, n, e, h1, nTp_fr (hd 19 (by decide)) h2, h3, h4, by
      obtain ⟨C, z, t, q1, q2, q3⟩ : ∃ C z t, r = [z, t] ∧ H[20]? = some (.inl (.int, 256, .inl C)) ∧ nAg C 0 (nPc md e) ∧ z = ((nPc md e).length : Int) ∧ t = nPn e := (by unfold nLd at h5; rw [if_pos rfl] at h5; exact h5)
      show nLd 0 md e r H'
      unfold nLd
      rw [if_pos rfl]
      exact ⟨C, z, t, q1, (hd 20 (by decide)).trans q2, q3⟩⟩
  by_cases c54 : k = 54
  · subst c54
    have h : nG 1 zs H := h
    show nG 1 zs H'
    obtain ⟨ln, md, o, a, k0, r, B, n, e, h1, h2, h3, h4, h5⟩ := h
    exact ⟨ln, md, o, a, k0, r, B, n, e, h1, nTp_fr (hd 64 (by decide)) h2, h3, h4, by
      obtain ⟨A, W, T, E, l, m, f, t, q1, q2, q3, q4⟩ : ∃ A W T E l m f t, r = [l, m, f, t] ∧ kAW A W H ∧ kTE T E H ∧ nAg2 A W 130 (nAs e) ∧ l = ((nAs e).length : Int) ∧ nAg2 T E 61 (nLv 0 e.1) ∧ m = (e.1.length : Int) ∧ f = ((nAl e.1).length : Int) ∧ t = nPm e := (by unfold nLd at h5; rw [if_neg (by decide)] at h5; exact h5)
      show nLd 1 md e r H'
      unfold nLd
      rw [if_neg (by decide)]
      exact ⟨A, W, T, E, l, m, f, t, q1, nAWf (hd 65 (by decide)) (hd 66 (by decide)) q2, nTEf (hd 68 (by decide)) (hd 69 (by decide)) q3, q4⟩⟩
  by_cases c55 : k = 55
  · subst c55
    have h : nU 0 zs H := h
    show nU 0 zs H'
    obtain ⟨ln, k1, t, o, k2, B, h1, h2, h3⟩ := h
    exact ⟨ln, k1, t, o, k2, B, h1, nTp_fr (hd 19 (by decide)) h2, h3⟩
  by_cases c56 : k = 56
  · subst c56
    have h : nU 1 zs H := h
    show nU 1 zs H'
    obtain ⟨ln, k1, t, o, k2, B, h1, h2, h3⟩ := h
    exact ⟨ln, k1, t, o, k2, B, h1, nTp_fr (hd 64 (by decide)) h2, h3⟩
  by_cases c57 : k = 57
  · subst c57
    have h : nF 0 zs H := h
    show nF 0 zs H'
    obtain ⟨ln, f, B, n, h1, h2, h3⟩ := h
    exact ⟨ln, f, B, n, h1, nTp_fr (hd 19 (by decide)) h2, h3⟩
  by_cases c58 : k = 58
  · subst c58
    have h : nF 1 zs H := h
    show nF 1 zs H'
    obtain ⟨ln, f, B, n, h1, h2, h3⟩ := h
    exact ⟨ln, f, B, n, h1, nTp_fr (hd 64 (by decide)) h2, h3⟩
  by_cases c59 : k = 59
  · subst c59
    have h : ∃ a b, zs = [a, b] ∧ nOX a b H := h
    show ∃ a b, zs = [a, b] ∧ nOX a b H'
    obtain ⟨a, b, h0, h⟩ := h
    refine ⟨a, b, h0, ?_⟩
    obtain ⟨B, C, n, e, h1, h2, h3⟩ := h
    exact ⟨B, C, n, e, nTp_fr (hd 19 (by decide)) h1, (hd 20 (by decide)).trans h2, h3⟩
  by_cases c60 : k = 60
  · subst c60
    have h : ∃ a b c, zs = [a, b, c] ∧ nOM a b c H := h
    show ∃ a b c, zs = [a, b, c] ∧ nOM a b c H'
    obtain ⟨a, b, c, h0, h⟩ := h
    refine ⟨a, b, c, h0, ?_⟩
    obtain ⟨B, A, W, T, E, n, e, h1, h2, h3, h4⟩ := h
    exact ⟨B, A, W, T, E, n, e, nTp_fr (hd 64 (by decide)) h1, nAWf (hd 65 (by decide)) (hd 66 (by decide)) h2, nTEf (hd 68 (by decide)) (hd 69 (by decide)) h3, h4⟩
  by_cases c61 : k = 61
  · subst c61
    have h : ∃ a, zs = [a] ∧ nTQ a H := h
    show ∃ a, zs = [a] ∧ nTQ a H'
    obtain ⟨a, h0, h⟩ := h
    refine ⟨a, h0, ?_⟩
    obtain ⟨B, T, h1, h2, h3⟩ := h
    exact ⟨B, T, nTp_fr (hd 19 (by decide)) h1, nTp_fr (hd 64 (by decide)) h2, h3⟩
  by_cases c62 : k = 62
  · subst c62
    have h : ∃ a b, zs = [a, b] ∧ nLW a b H := h
    show ∃ a b, zs = [a, b] ∧ nLW a b H'
    obtain ⟨a, b, h0, h⟩ := h
    refine ⟨a, b, h0, ?_⟩
    rcases h with ⟨C, h1, A, W, T, E, M, h2, h3, h4, h5⟩ | h
    · refine Or.inl ⟨C, (hd 22 (by decide)).trans h1, A, W, T, E, M, nAWf (hd 65 (by decide)) (hd 66 (by decide)) h2, nTEf (hd 68 (by decide)) (hd 69 (by decide)) h3, (hd 67 (by decide)).trans h4, ?_⟩
      rcases h5 with h5 | ⟨h5, e, h6, h7⟩
      · exact Or.inl h5
      · exact Or.inr ⟨h5, e, nLaw_fr (fun j hj => hd j (by have hj : j ∈ [65, 66, 67, 68, 69] := hj; simp only [List.mem_cons, List.not_mem_nil, or_false] at hj; rcases hj with rfl | rfl | rfl | rfl | rfl <;> decide)) h6, h7⟩
    · exact Or.inr h
  by_cases c63 : k = 63
  · subst c63
    have h : ∃ a b, zs = [a, b] ∧ nRL a b H := h
    show ∃ a b, zs = [a, b] ∧ nRL a b H'
    obtain ⟨a, b, h0, h⟩ := h
    refine ⟨a, b, h0, ?_⟩
    obtain ⟨B, C, n, e, h1, h2, h3⟩ := h
    exact ⟨B, C, n, e, nTp_fr (hd 19 (by decide)) h1, (hd 22 (by decide)).trans h2, h3⟩
  by_cases c64 : k = 64
  · subst c64
    have h : ∃ a, zs = [a] ∧ nRM a H := h
    show ∃ a, zs = [a] ∧ nRM a H'
    obtain ⟨a, h0, h⟩ := h
    refine ⟨a, h0, ?_⟩
    obtain ⟨B, A, W, T, E, M, n, e, h1, h2, h3, h4, h5⟩ := h
    exact ⟨B, A, W, T, E, M, n, e, nTp_fr (hd 64 (by decide)) h1, nAWf (hd 65 (by decide)) (hd 66 (by decide)) h2, nTEf (hd 68 (by decide)) (hd 69 (by decide)) h3, (hd 67 (by decide)).trans h4, h5⟩
  by_cases c65 : k = 65
  · subst c65
    have h : ∃ a b c e n1 n2 n3 n4 n5 n6, zs = [a, b, c, e, n1, n2, n3, n4, n5, n6] ∧ nXS a b c e [n1, n2, n3, n4, n5, n6] [] H := h
    show ∃ a b c e n1 n2 n3 n4 n5 n6, zs = [a, b, c, e, n1, n2, n3, n4, n5, n6] ∧ nXS a b c e [n1, n2, n3, n4, n5, n6] [] H'
    obtain ⟨a, b, c, e, n1, n2, n3, n4, n5, n6, h0, h⟩ := h
    refine ⟨a, b, c, e, n1, n2, n3, n4, n5, n6, h0, ?_⟩
    obtain ⟨C, Q, l, st, h1, h2, h3, h4⟩ := h
    exact ⟨C, Q, l, st, (hd 22 (by decide)).trans h1, (hd 23 (by decide)).trans h2, nLaw_fr (fun j hj => hd j (by have hj : j ∈ [65, 66, 67, 68, 69] := hj; simp only [List.mem_cons, List.not_mem_nil, or_false] at hj; rcases hj with rfl | rfl | rfl | rfl | rfl <;> decide)) h3, h4⟩
  by_cases c66 : k = 66
  · subst c66
    have h : ∃ a b c e n1 n2 n3 n4 n5 n6 u, zs = [a, b, c, e, n1, n2, n3, n4, n5, n6, u] ∧ nXS a b c e [n1, n2, n3, n4, n5, n6] [u] H := h
    show ∃ a b c e n1 n2 n3 n4 n5 n6 u, zs = [a, b, c, e, n1, n2, n3, n4, n5, n6, u] ∧ nXS a b c e [n1, n2, n3, n4, n5, n6] [u] H'
    obtain ⟨a, b, c, e, n1, n2, n3, n4, n5, n6, u, h0, h⟩ := h
    refine ⟨a, b, c, e, n1, n2, n3, n4, n5, n6, u, h0, ?_⟩
    obtain ⟨C, Q, l, st, h1, h2, h3, h4⟩ := h
    exact ⟨C, Q, l, st, (hd 22 (by decide)).trans h1, (hd 23 (by decide)).trans h2, nLaw_fr (fun j hj => hd j (by have hj : j ∈ [65, 66, 67, 68, 69] := hj; simp only [List.mem_cons, List.not_mem_nil, or_false] at hj; rcases hj with rfl | rfl | rfl | rfl | rfl <;> decide)) h3, h4⟩
  by_cases c67 : k = 67
  · subst c67
    have h : ∃ a b c e n1 n2 n3 n4 n5 n6 u v, zs = [a, b, c, e, n1, n2, n3, n4, n5, n6, u, v] ∧ nXS a b c e [n1, n2, n3, n4, n5, n6] [v, u] H := h
    show ∃ a b c e n1 n2 n3 n4 n5 n6 u v, zs = [a, b, c, e, n1, n2, n3, n4, n5, n6, u, v] ∧ nXS a b c e [n1, n2, n3, n4, n5, n6] [v, u] H'
    obtain ⟨a, b, c, e, n1, n2, n3, n4, n5, n6, u, v, h0, h⟩ := h
    refine ⟨a, b, c, e, n1, n2, n3, n4, n5, n6, u, v, h0, ?_⟩
    obtain ⟨C, Q, l, st, h1, h2, h3, h4⟩ := h
    exact ⟨C, Q, l, st, (hd 22 (by decide)).trans h1, (hd 23 (by decide)).trans h2, nLaw_fr (fun j hj => hd j (by have hj : j ∈ [65, 66, 67, 68, 69] := hj; simp only [List.mem_cons, List.not_mem_nil, or_false] at hj; rcases hj with rfl | rfl | rfl | rfl | rfl <;> decide)) h3, h4⟩
  by_cases c68 : k = 68
  · subst c68
    have h : ∃ a b c, zs = [a, b, c] ∧ nWS a b c [] H := h
    show ∃ a b c, zs = [a, b, c] ∧ nWS a b c [] H'
    obtain ⟨a, b, c, h0, h⟩ := h
    refine ⟨a, b, c, h0, ?_⟩
    obtain ⟨A, W, F, Q, st, h1, h2, h3, h4⟩ := h
    exact ⟨A, W, F, Q, st, nAWf (hd 65 (by decide)) (hd 66 (by decide)) h1, (hd 70 (by decide)).trans h2, (hd 71 (by decide)).trans h3, h4⟩
  by_cases c69 : k = 69
  · subst c69
    have h : ∃ a b c u, zs = [a, b, c, u] ∧ nWS a b c [u] H := h
    show ∃ a b c u, zs = [a, b, c, u] ∧ nWS a b c [u] H'
    obtain ⟨a, b, c, u, h0, h⟩ := h
    refine ⟨a, b, c, u, h0, ?_⟩
    obtain ⟨A, W, F, Q, st, h1, h2, h3, h4⟩ := h
    exact ⟨A, W, F, Q, st, nAWf (hd 65 (by decide)) (hd 66 (by decide)) h1, (hd 70 (by decide)).trans h2, (hd 71 (by decide)).trans h3, h4⟩
  by_cases c70 : k = 70
  · subst c70
    have h : ∃ a b c u v, zs = [a, b, c, u, v] ∧ nWS a b c [v, u] H := h
    show ∃ a b c u v, zs = [a, b, c, u, v] ∧ nWS a b c [v, u] H'
    obtain ⟨a, b, c, u, v, h0, h⟩ := h
    refine ⟨a, b, c, u, v, h0, ?_⟩
    obtain ⟨A, W, F, Q, st, h1, h2, h3, h4⟩ := h
    exact ⟨A, W, F, Q, st, nAWf (hd 65 (by decide)) (hd 66 (by decide)) h1, (hd 70 (by decide)).trans h2, (hd 71 (by decide)).trans h3, h4⟩
  by_cases c71 : k = 71
  · subst c71
    have h : ∃ a b c, zs = [a, b, c] ∧ nWV a b c H := h
    show ∃ a b c, zs = [a, b, c] ∧ nWV a b c H'
    obtain ⟨a, b, c, h0, h⟩ := h
    refine ⟨a, b, c, h0, ?_⟩
    obtain ⟨A, W, F, h1, h2, h3⟩ := h
    exact ⟨A, W, F, nAWf (hd 65 (by decide)) (hd 66 (by decide)) h1, (hd 70 (by decide)).trans h2, h3⟩
  by_cases c72 : k = 72
  · subst c72
    have h : ∃ a b, zs = [a, b] ∧ nGR a b H := h
    show ∃ a b, zs = [a, b] ∧ nGR a b H'
    obtain ⟨a, b, h0, h⟩ := h
    refine ⟨a, b, h0, ?_⟩
    obtain ⟨l, F, h1, h2, h3⟩ := h
    exact ⟨l, F, nLaw_fr (fun j hj => hd j (by have hj : j ∈ [65, 66, 67, 68, 69] := hj; simp only [List.mem_cons, List.not_mem_nil, or_false] at hj; rcases hj with rfl | rfl | rfl | rfl | rfl <;> decide)) h1, (hd 70 (by decide)).trans h2, h3⟩
  by_cases c73 : k = 73
  · subst c73
    have h : ∃ a, zs = [a] ∧ nGT a H := h
    show ∃ a, zs = [a] ∧ nGT a H'
    obtain ⟨a, h0, h⟩ := h
    refine ⟨a, h0, ?_⟩
    obtain ⟨l, F, h1, h2, h3⟩ := h
    exact ⟨l, F, nLaw_fr (fun j hj => hd j (by have hj : j ∈ [65, 66, 67, 68, 69] := hj; simp only [List.mem_cons, List.not_mem_nil, or_false] at hj; rcases hj with rfl | rfl | rfl | rfl | rfl <;> decide)) h1, (hd 70 (by decide)).trans h2, h3⟩
  by_cases c74 : k = 74
  · subst c74
    have h : ∃ h1 n1 n2 n3 n4 n5 n6 r, zs = [h1, n1, n2, n3, n4, n5, n6, r] ∧ nGB h1 [n1, n2, n3, n4, n5, n6] r H := h
    show ∃ h1 n1 n2 n3 n4 n5 n6 r, zs = [h1, n1, n2, n3, n4, n5, n6, r] ∧ nGB h1 [n1, n2, n3, n4, n5, n6] r H'
    obtain ⟨h1, n1, n2, n3, n4, n5, n6, r, h0, h⟩ := h
    refine ⟨h1, n1, n2, n3, n4, n5, n6, r, h0, ?_⟩
    exact nGB_fr (fun j hj => hd j (by have hj : j ∈ [65, 66, 67, 68, 69] := hj; simp only [List.mem_cons, List.not_mem_nil, or_false] at hj; rcases hj with rfl | rfl | rfl | rfl | rfl <;> decide)) h
  by_cases c75 : k = 75
  · subst c75
    have h : ∃ a, zs = [a] ∧ nNE 0 a H := h
    show ∃ a, zs = [a] ∧ nNE 0 a H'
    obtain ⟨a, h0, h⟩ := h
    refine ⟨a, h0, ?_⟩
    obtain ⟨f, g, h1, h2, h3⟩ := h
    exact ⟨f, g, (hd 3 (by decide)).trans h1, (hd 53 (by decide)).trans h2, h3⟩
  by_cases c76 : k = 76
  · subst c76
    have h : ∃ a, zs = [a] ∧ nNE 1 a H := h
    show ∃ a, zs = [a] ∧ nNE 1 a H'
    obtain ⟨a, h0, h⟩ := h
    refine ⟨a, h0, ?_⟩
    obtain ⟨f, g, h1, h2, h3⟩ := h
    exact ⟨f, g, (hd 4 (by decide)).trans h1, (hd 54 (by decide)).trans h2, h3⟩
  by_cases c77 : k = 77
  · subst c77
    have h : ∃ a, zs = [a] ∧ nNE 2 a H := h
    show ∃ a, zs = [a] ∧ nNE 2 a H'
    obtain ⟨a, h0, h⟩ := h
    refine ⟨a, h0, ?_⟩
    obtain ⟨f, g, h1, h2, h3⟩ := h
    exact ⟨f, g, (hd 5 (by decide)).trans h1, (hd 55 (by decide)).trans h2, h3⟩
  by_cases c78 : k = 78
  · subst c78
    have h : ∃ a, zs = [a] ∧ nNE 3 a H := h
    show ∃ a, zs = [a] ∧ nNE 3 a H'
    obtain ⟨a, h0, h⟩ := h
    refine ⟨a, h0, ?_⟩
    obtain ⟨f, g, h1, h2, h3⟩ := h
    exact ⟨f, g, (hd 6 (by decide)).trans h1, (hd 56 (by decide)).trans h2, h3⟩
  by_cases c79 : k = 79
  · subst c79
    have h : ∃ a, zs = [a] ∧ nNE 4 a H := h
    show ∃ a, zs = [a] ∧ nNE 4 a H'
    obtain ⟨a, h0, h⟩ := h
    refine ⟨a, h0, ?_⟩
    obtain ⟨f, g, h1, h2, h3⟩ := h
    exact ⟨f, g, (hd 7 (by decide)).trans h1, (hd 57 (by decide)).trans h2, h3⟩
  by_cases c80 : k = 80
  · subst c80
    have h : ∃ a, zs = [a] ∧ nNE 5 a H := h
    show ∃ a, zs = [a] ∧ nNE 5 a H'
    obtain ⟨a, h0, h⟩ := h
    refine ⟨a, h0, ?_⟩
    obtain ⟨f, g, h1, h2, h3⟩ := h
    exact ⟨f, g, (hd 8 (by decide)).trans h1, (hd 58 (by decide)).trans h2, h3⟩
  by_cases c81 : k = 81
  · subst c81
    have h : ∃ hl w p b v r, zs = [hl, w, p, b, v, r] ∧ nGV hl w p b v r H := h
    show ∃ hl w p b v r, zs = [hl, w, p, b, v, r] ∧ nGV hl w p b v r H'
    obtain ⟨hl, w, p, b, v, r, h0, h⟩ := h
    refine ⟨hl, w, p, b, v, r, h0, ?_⟩
    exact nGV_fr (fun j hj => hd j (by have hj : j ∈ [65, 66, 67, 68, 69] := hj; simp only [List.mem_cons, List.not_mem_nil, or_false] at hj; rcases hj with rfl | rfl | rfl | rfl | rfl <;> decide)) (hd 53 (by decide)) (hd 54 (by decide)) (hd 55 (by decide)) h
  by_cases c82 : k = 82
  · subst c82
    have h : ∃ a b, zs = [a, b] ∧ nCA a b (-1) H := h
    show ∃ a b, zs = [a, b] ∧ nCA a b (-1) H'
    obtain ⟨a, b, h0, h⟩ := h
    refine ⟨a, b, h0, ?_⟩
    obtain ⟨G, h1, h2⟩ := h
    exact ⟨G, (hd 26 (by decide)).trans h1, fun key q1 q2 => ⟨(h2 key q1 q2).1, fun q3 => nGV_fr (fun j hj => hd j (by have hj : j ∈ [65, 66, 67, 68, 69] := hj; simp only [List.mem_cons, List.not_mem_nil, or_false] at hj; rcases hj with rfl | rfl | rfl | rfl | rfl <;> decide)) (hd 53 (by decide)) (hd 54 (by decide)) (hd 55 (by decide)) ((h2 key q1 q2).2 q3)⟩⟩
  by_cases c83 : k = 83
  · subst c83
    have h : ∃ a b c, zs = [a, b, c] ∧ nCA a b c H := h
    show ∃ a b c, zs = [a, b, c] ∧ nCA a b c H'
    obtain ⟨a, b, c, h0, h⟩ := h
    refine ⟨a, b, c, h0, ?_⟩
    obtain ⟨G, h1, h2⟩ := h
    exact ⟨G, (hd 26 (by decide)).trans h1, fun key q1 q2 => ⟨(h2 key q1 q2).1, fun q3 => nGV_fr (fun j hj => hd j (by have hj : j ∈ [65, 66, 67, 68, 69] := hj; simp only [List.mem_cons, List.not_mem_nil, or_false] at hj; rcases hj with rfl | rfl | rfl | rfl | rfl <;> decide)) (hd 53 (by decide)) (hd 54 (by decide)) (hd 55 (by decide)) ((h2 key q1 q2).2 q3)⟩⟩
  by_cases c84 : k = 84
  · subst c84
    have h : ∃ a, zs = [a] ∧ nFR a (-1) H := h
    show ∃ a, zs = [a] ∧ nFR a (-1) H'
    obtain ⟨a, h0, h⟩ := h
    refine ⟨a, h0, ?_⟩
    obtain ⟨G, h1, h2⟩ := h
    exact ⟨G, (hd 26 (by decide)).trans h1, h2⟩
  by_cases c85 : k = 85
  · subst c85
    have h : ∃ hl w p a o r, zs = [hl, w, p, a, o, r] ∧ nGW hl w p a o r H := h
    show ∃ hl w p a o r, zs = [hl, w, p, a, o, r] ∧ nGW hl w p a o r H'
    obtain ⟨hl, w, p, a, o, r, h0, h⟩ := h
    refine ⟨hl, w, p, a, o, r, h0, ?_⟩
    exact nGW_fr (fun j hj => hd j (by have hj : j ∈ [65, 66, 67, 68, 69] := hj; simp only [List.mem_cons, List.not_mem_nil, or_false] at hj; rcases hj with rfl | rfl | rfl | rfl | rfl <;> decide)) (hd 53 (by decide)) (hd 54 (by decide)) (hd 55 (by decide)) (hd 57 (by decide)) h
  by_cases c86 : k = 86
  · subst c86
    have h : ∃ a b, zs = [a, b] ∧ nSP 25 64 a b H := h
    show ∃ a b, zs = [a, b] ∧ nSP 25 64 a b H'
    obtain ⟨a, b, h0, h⟩ := h
    refine ⟨a, b, h0, ?_⟩
    obtain ⟨S, g, h1, h2, h3⟩ := h
    exact ⟨S, g, (hd 25 (by decide)).trans h1, (hd 84 (by decide)).trans h2, h3⟩
  by_cases c87 : k = 87
  · subst c87
    have h : ∃ a b, zs = [a, b] ∧ nSP 72 61 a b H := h
    show ∃ a b, zs = [a, b] ∧ nSP 72 61 a b H'
    obtain ⟨a, b, h0, h⟩ := h
    refine ⟨a, b, h0, ?_⟩
    obtain ⟨S, g, h1, h2, h3⟩ := h
    exact ⟨S, g, (hd 72 (by decide)).trans h1, (hd 84 (by decide)).trans h2, h3⟩
  by_cases c88 : k = 88
  · subst c88
    have h : ∃ hl b o j u m, zs = [hl, b, o, j, u, m] ∧ nNF hl b o j u m H := h
    show ∃ hl b o j u m, zs = [hl, b, o, j, u, m] ∧ nNF hl b o j u m H'
    obtain ⟨hl, b, o, j, u, m, h0, h⟩ := h
    refine ⟨hl, b, o, j, u, m, h0, ?_⟩
    exact nNF_fr (fun j hj => hd j (by have hj : j ∈ [65, 66, 67, 68, 69] := hj; simp only [List.mem_cons, List.not_mem_nil, or_false] at hj; rcases hj with rfl | rfl | rfl | rfl | rfl <;> decide)) (hd 53 (by decide)) (hd 54 (by decide)) (hd 55 (by decide)) (hd 57 (by decide)) (hd 84 (by decide)) h
  by_cases c89 : k = 89
  · subst c89
    have h : ∃ hl b o j m, zs = [hl, b, o, j, m] ∧ ∃ u, nNF hl b o j u m H := h
    show ∃ hl b o j m, zs = [hl, b, o, j, m] ∧ ∃ u, nNF hl b o j u m H'
    obtain ⟨hl, b, o, j, m, h0, u, h⟩ := h
    exact ⟨hl, b, o, j, m, h0, u, nNF_fr (fun j hj => hd j (by have hj : j ∈ [65, 66, 67, 68, 69] := hj; simp only [List.mem_cons, List.not_mem_nil, or_false] at hj; rcases hj with rfl | rfl | rfl | rfl | rfl <;> decide)) (hd 53 (by decide)) (hd 54 (by decide)) (hd 55 (by decide)) (hd 57 (by decide)) (hd 84 (by decide)) h⟩
  by_cases c90 : k = 90
  · subst c90
    have h : ∃ a b c e r, zs = [a, b, c, e, r] ∧ nRT a b c e r H := h
    show ∃ a b c e r, zs = [a, b, c, e, r] ∧ nRT a b c e r H'
    obtain ⟨a, b, c, e, r, h0, h⟩ := h
    refine ⟨a, b, c, e, r, h0, ?_⟩
    obtain ⟨g, h1, h2⟩ := h
    exact ⟨g, (hd 84 (by decide)).trans h1, h2⟩
  by_cases c91 : k = 91
  · subst c91
    have h : ∃ a b, zs = [a, b] ∧ nHN a b H := h
    show ∃ a b, zs = [a, b] ∧ nHN a b H'
    obtain ⟨a, b, h0, h⟩ := h
    refine ⟨a, b, h0, ?_⟩
    obtain ⟨f, h1, h2⟩ := h
    exact ⟨f, (hd 58 (by decide)).trans h1, h2⟩
  by_cases c92 : k = 92
  · subst c92
    have h : ∃ a b c, zs = [a, b, c] ∧ nHR a b c H := h
    show ∃ a b c, zs = [a, b, c] ∧ nHR a b c H'
    obtain ⟨a, b, c, h0, h⟩ := h
    refine ⟨a, b, c, h0, ?_⟩
    obtain ⟨f, h1, h2⟩ := h
    exact ⟨f, (hd 58 (by decide)).trans h1, h2⟩
  by_cases c93 : k = 93
  · subst c93
    exact h
  by_cases c94 : k = 94
  · subst c94
    exact h
  by_cases c95 : k = 95
  · subst c95
    have h : ∃ a b, zs = [a, b] ∧ nFR a b H := h
    show ∃ a b, zs = [a, b] ∧ nFR a b H'
    obtain ⟨a, b, h0, h⟩ := h
    refine ⟨a, b, h0, ?_⟩
    obtain ⟨G, h1, h2⟩ := h
    exact ⟨G, (hd 26 (by decide)).trans h1, h2⟩
  by_cases c96 : k = 96
  · subst c96
    have h : ∃ a, zs = [a] ∧ nLG a H := h
    show ∃ a, zs = [a] ∧ nLG a H'
    obtain ⟨a, h0, h⟩ := h
    refine ⟨a, h0, ?_⟩
    obtain ⟨x1, x2, x3, x4, y1, y2, y3, y4, h1, h2⟩ := h
    exact ⟨x1, x2, x3, x4, y1, y2, y3, y4, ⟨(hd 14 (by decide)).trans h1.1, (hd 15 (by decide)).trans h1.2.1, (hd 16 (by decide)).trans h1.2.2.1, (hd 17 (by decide)).trans h1.2.2.2.1, (hd 61 (by decide)).trans h1.2.2.2.2.1, (hd 60 (by decide)).trans h1.2.2.2.2.2.1, (hd 62 (by decide)).trans h1.2.2.2.2.2.2.1, (hd 63 (by decide)).trans h1.2.2.2.2.2.2.2⟩, h2⟩
  by_cases c97 : k = 97
  · subst c97
    have h : ∃ a, zs = [a] ∧ nLGC a H := h
    show ∃ a, zs = [a] ∧ nLGC a H'
    obtain ⟨a, h0, h⟩ := h
    refine ⟨a, h0, ?_⟩
    obtain ⟨x1, x2, x3, x4, y1, y2, y3, y4, h1, h2⟩ := h
    exact ⟨x1, x2, x3, x4, y1, y2, y3, y4, ⟨(hd 14 (by decide)).trans h1.1, (hd 15 (by decide)).trans h1.2.1, (hd 16 (by decide)).trans h1.2.2.1, (hd 17 (by decide)).trans h1.2.2.2.1, (hd 61 (by decide)).trans h1.2.2.2.2.1, (hd 60 (by decide)).trans h1.2.2.2.2.2.1, (hd 62 (by decide)).trans h1.2.2.2.2.2.2.1, (hd 63 (by decide)).trans h1.2.2.2.2.2.2.2⟩, h2⟩
  by_cases c98 : k = 98
  · subst c98
    have h : ∃ a, zs = [a] ∧ nLGS a H := h
    show ∃ a, zs = [a] ∧ nLGS a H'
    obtain ⟨a, h0, h⟩ := h
    refine ⟨a, h0, ?_⟩
    obtain ⟨x1, x2, x3, x4, y1, y2, y3, y4, h1, h2⟩ := h
    exact ⟨x1, x2, x3, x4, y1, y2, y3, y4, ⟨(hd 14 (by decide)).trans h1.1, (hd 15 (by decide)).trans h1.2.1, (hd 16 (by decide)).trans h1.2.2.1, (hd 17 (by decide)).trans h1.2.2.2.1, (hd 61 (by decide)).trans h1.2.2.2.2.1, (hd 60 (by decide)).trans h1.2.2.2.2.2.1, (hd 62 (by decide)).trans h1.2.2.2.2.2.2.1, (hd 63 (by decide)).trans h1.2.2.2.2.2.2.2⟩, h2⟩
  by_cases c99 : k = 99
  · subst c99
    have h : ∃ a b c, zs = [a, b, c] ∧ nNX a b c (-1) H := h
    show ∃ a b c, zs = [a, b, c] ∧ nNX a b c (-1) H'
    obtain ⟨a, b, c, h0, h⟩ := h
    refine ⟨a, b, c, h0, ?_⟩
    obtain ⟨x1, x2, x3, y1, y2, y3, g, h1, h2, h3, h4, h5, h6⟩ := h
    exact ⟨x1, x2, x3, y1, y2, y3, g, (hd 3 (by decide)).trans h1, (hd 4 (by decide)).trans h2, (hd 5 (by decide)).trans h3, nW3_fr (hd 53 (by decide)) (hd 54 (by decide)) (hd 55 (by decide)) h4, (hd 84 (by decide)).trans h5, h6⟩
  by_cases c100 : k = 100
  · subst c100
    have h : ∃ a b c e, zs = [a, b, c, e] ∧ nNX a b c e H := h
    show ∃ a b c e, zs = [a, b, c, e] ∧ nNX a b c e H'
    obtain ⟨a, b, c, e, h0, h⟩ := h
    refine ⟨a, b, c, e, h0, ?_⟩
    obtain ⟨x1, x2, x3, y1, y2, y3, g, h1, h2, h3, h4, h5, h6⟩ := h
    exact ⟨x1, x2, x3, y1, y2, y3, g, (hd 3 (by decide)).trans h1, (hd 4 (by decide)).trans h2, (hd 5 (by decide)).trans h3, nW3_fr (hd 53 (by decide)) (hd 54 (by decide)) (hd 55 (by decide)) h4, (hd 84 (by decide)).trans h5, h6⟩
  by_cases c101 : k = 101
  · subst c101
    have h : ∃ a b, zs = [a, b] ∧ nIM a b H := h
    show ∃ a b, zs = [a, b] ∧ nIM a b H'
    obtain ⟨a, b, h0, h⟩ := h
    refine ⟨a, b, h0, ?_⟩
    obtain ⟨x, m, y, h1, h2, h3, h4⟩ := h
    exact ⟨x, m, y, (hd 35 (by decide)).trans h1, (hd 56 (by decide)).trans h2, (hd 78 (by decide)).trans h3, h4⟩
  by_cases c102 : k = 102
  · subst c102
    have h : ∃ a b, zs = [a, b] ∧ nIB a b H := h
    show ∃ a b, zs = [a, b] ∧ nIB a b H'
    obtain ⟨a, b, h0, h⟩ := h
    refine ⟨a, b, h0, ?_⟩
    obtain ⟨x, m, y, h1, h2, h3, h4⟩ := h
    exact ⟨x, m, y, (hd 6 (by decide)).trans h1, (hd 56 (by decide)).trans h2, (hd 78 (by decide)).trans h3, h4⟩
  by_cases c103 : k = 103
  · subst c103
    have h : nE6 H := h
    show nE6 H'
    obtain ⟨x, y, h1, h2, h3⟩ := h
    exact ⟨x, y, (hd 35 (by decide)).trans h1, (hd 78 (by decide)).trans h2, h3⟩
  by_cases c104 : k = 104
  · subst c104
    exact h
  unfold nUP at h ⊢
  rw [if_neg c53, if_neg c54, if_neg c55, if_neg c56, if_neg c57, if_neg c58, if_neg c59, if_neg c60, if_neg c61, if_neg c62, if_neg c63, if_neg c64, if_neg c65, if_neg c66, if_neg c67, if_neg c68, if_neg c69, if_neg c70, if_neg c71, if_neg c72, if_neg c73, if_neg c74, if_neg (by omega), if_neg c81, if_neg c82, if_neg c83, if_neg c84, if_neg c85, if_neg c86, if_neg c87, if_neg c88, if_neg c89, if_neg c90, if_neg c91, if_neg c92, if_neg c93, if_neg c94, if_neg c95, if_neg c96, if_neg c97, if_neg c98, if_neg c99, if_neg c100, if_neg c101, if_neg c102, if_neg c103, if_neg c104] at h ⊢
  by_cases c110 : 110 ≤ k
  · rw [if_pos c110] at h ⊢
    exact mUP_fr k zs H H' (fun j hj => hd j (by rw [nUD_m c110]; exact hj)) h
  rw [if_neg c110] at h ⊢
  exact h
theorem nUP_P {k : Nat} (hk : 105 ≤ k ∧ k < 110) {zs : List Int} {H : List eE} : nUP k zs H ↔ pUP k zs := by
  unfold nUP
  rw [if_neg (by omega), if_neg (by omega), if_neg (by omega), if_neg (by omega), if_neg (by omega), if_neg (by omega), if_neg (by omega), if_neg (by omega), if_neg (by omega), if_neg (by omega), if_neg (by omega), if_neg (by omega), if_neg (by omega), if_neg (by omega), if_neg (by omega), if_neg (by omega), if_neg (by omega), if_neg (by omega), if_neg (by omega), if_neg (by omega), if_neg (by omega), if_neg (by omega), if_neg (by omega), if_neg (by omega), if_neg (by omega), if_neg (by omega), if_neg (by omega), if_neg (by omega), if_neg (by omega), if_neg (by omega), if_neg (by omega), if_neg (by omega), if_neg (by omega), if_neg (by omega), if_neg (by omega), if_neg (by omega), if_neg (by omega), if_neg (by omega), if_neg (by omega), if_neg (by omega), if_neg (by omega), if_neg (by omega), if_neg (by omega), if_neg (by omega), if_neg (by omega), if_neg (by omega), if_neg (by omega), if_neg (by omega)]
theorem nUP_m {k : Nat} (hk : 110 ≤ k) {zs : List Int} {H : List eE} : nUP k zs H ↔ mUP k zs H := by
  unfold nUP
  rw [if_neg (by omega), if_neg (by omega), if_neg (by omega), if_neg (by omega), if_neg (by omega), if_neg (by omega), if_neg (by omega), if_neg (by omega), if_neg (by omega), if_neg (by omega), if_neg (by omega), if_neg (by omega), if_neg (by omega), if_neg (by omega), if_neg (by omega), if_neg (by omega), if_neg (by omega), if_neg (by omega), if_neg (by omega), if_neg (by omega), if_neg (by omega), if_neg (by omega), if_neg (by omega), if_neg (by omega), if_neg (by omega), if_neg (by omega), if_neg (by omega), if_neg (by omega), if_neg (by omega), if_neg (by omega), if_neg (by omega), if_neg (by omega), if_neg (by omega), if_neg (by omega), if_neg (by omega), if_neg (by omega), if_neg (by omega), if_neg (by omega), if_neg (by omega), if_neg (by omega), if_neg (by omega), if_neg (by omega), if_neg (by omega), if_neg (by omega), if_neg (by omega), if_neg (by omega), if_neg (by omega), if_pos hk]
theorem nUP_75 {k : Nat} (hk : 75 ≤ k ∧ k < 81) {zs : List Int} {H : List eE} : nUP k zs H ↔ ∃ a, zs = [a] ∧ nNE (k - 75) a H := by
  unfold nUP
  rw [if_neg (by omega), if_neg (by omega), if_neg (by omega), if_neg (by omega), if_neg (by omega), if_neg (by omega), if_neg (by omega), if_neg (by omega), if_neg (by omega), if_neg (by omega), if_neg (by omega), if_neg (by omega), if_neg (by omega), if_neg (by omega), if_neg (by omega), if_neg (by omega), if_neg (by omega), if_neg (by omega), if_neg (by omega), if_neg (by omega), if_neg (by omega), if_neg (by omega), if_pos hk]
theorem nUP_NE {k : Nat} (hk : 75 ≤ k ∧ k < 81) {z : Int} {H : List eE} (h : nUP k [z] H) : nNE (k - 75) z H := by
  obtain ⟨a, he, h⟩ := (nUP_75 hk).mp h
  cases he
  exact h
theorem nUP_NEr {k : Nat} (hk : 75 ≤ k ∧ k < 81) {z : Int} {H : List eE} (h : nNE (k - 75) z H) : nUP k [z] H := (nUP_75 hk).mpr ⟨z, rfl, h⟩
