/-! What is told of the rows, behind a write. -/
noncomputable section
def kUpd (c j i : Nat) (x : Int32) (f : Nat → Int32) : Nat → Int32 := if c = j then upd f i x else f
theorem kUpd_ne {c j i k : Nat} {x : Int32} {f : Nat → Int32} (h : k ≠ i) : kUpd c j i x f k = f k := by
  unfold kUpd
  split
  · simp [upd, h]
  · rfl
theorem kCell_set {c j i n m : Nat} {x : Int32} {f g : Nat → Int32} {ty tz : FieldType} {H : List eE} (hf : H[c]? = some (.inl (tz, m, .inl f))) (hj : H[j]? = some (.inl (ty, n, .inl g))) : (H.set j (.inl (ty, n, .inl (upd g i x))))[c]? = some (.inl (tz, m, .inl (kUpd c j i x f))) := by
  unfold kUpd
  split
  · rename_i h
    subst h
    rw [hj] at hf
    cases hf
    rw [List.getElem?_set_self (List.getElem?_eq_some_iff.mp hj).1]
  · rename_i h
    rw [List.getElem?_set_ne (fun e => h e.symm)]
    exact hf
def kKW1 (Γ : sG) (j : Nat) (i : sL) (q : kA) : List kA :=
  if q.1 = 1000 + j then (match q.2 with
    | [i', _] => if (sSub i' i).2 = [] ∧ (sSub i' i).1 ≠ 0 then [q] else []
    | _ => [])
  else if q.1 = 1 ∧ (j = 14 ∨ j = 15 ∨ j = 16 ∨ j = 17) then (match q.2 with
    | [e] => if e = sC (-1) ∨ e = i then [(1, [i])] else []
    | _ => [])
  else if q.1 = 2 ∧ (j = 60 ∨ j = 61 ∨ j = 62 ∨ j = 63) then (match q.2 with
    | [e] => if e = sC (-1) ∨ e = i then [(2, [i])] else []
    | _ => [])
  else if q.1 = 4 ∧ (j = 65 ∨ j = 66) then (match q.2 with
    | [_, k, _] => if sNN Γ (sSub i k) = true then [q] else []
    | _ => [])
  else if q.1 = 5 ∧ (j = 65 ∨ j = 66) then (match q.2 with
    | [_, e] => if sNN Γ (sSub i e) = true then [q] else []
    | _ => [])
  else if q.1 = 6 ∧ (j = 65 ∨ j = 66) then (match q.2 with
    | [_, L] => if sNN Γ (sSub (sC 129) i) = true ∨ sNN Γ (sSub (sSub i L) (sC 130)) = true then [q] else []
    | _ => [])
  else if q.1 = 6 ∧ (j = 68 ∨ j = 69) then (match q.2 with
    | [m, _] => if sNN Γ (sSub (sC 60) i) = true ∨ sNN Γ (sSub (sSub i m) (sC 61)) = true then [q] else []
    | _ => [])
  else if q.1 = 7 ∧ (j = 65 ∨ j = 66) then (if sNN Γ (sSub i (sC 130)) = true then [q] else [])
  else if q.1 = 7 ∧ (j = 68 ∨ j = 69) then (if sNN Γ (sSub i (sC 61)) = true then [q] else [])
  else if q.1 = 7 ∧ j = 67 then (if sNN Γ (sSub i (sC 1)) = true then [q] else [])
  else if q.1 = 8 ∧ (j = 65 ∨ j = 66) then (match q.2 with
    | [k] => if sNN Γ (sSub i k) = true ∧ sNN Γ (sSub (sC 129) i) = true then [q] else []
    | _ => [])
  else if q.1 = 9 ∧ (j = 68 ∨ j = 69) then (match q.2 with
    | [k] => if sNN Γ (sSub i k) = true ∧ sNN Γ (sSub (sC 60) i) = true then [q] else []
    | _ => [])
  else if q.1 = 13 ∧ (j = 37 ∨ j = 80) then (match q.2 with
    | [e] => if e = sC (-1) ∨ e = i then [(13, [i])] else []
    | _ => [])
  else []
/-- which cells the atoms hang on: those alone are looked at -/
def kMs : List Nat := [0, 245760, 17293822569102704640, 245760, 110680464442257309696, 110680464442257309696, 996124179980315787264, 1143698132569992200192, 110680464442257309696, 885443715538058477568, 996124179980315787264, 0, 0, 1208925819614766613659648, 19342813113836265818554368, 19342813113842862888321024, 19342813113869251167387648, 19342813113974804283654144, 19342813114397016748720128, 19342813116085866608984064, 0, 2199023255552, 8796093022208, 35184372088832, 140737488355328, 562949953421312, 2251799813685248, 19342813113834066795298816, 19342813113836265818554368, 19342813113842862888321024, 19342813113869251167387648, 19342813113974804283654144, 19342813114397016748720128, 19342813116085866608984064, 58028439341502200385896448, 58028439341504399409152000, 58028439341510996478918656, 58028439341537384757985280, 58028439341642937874251776, 58028439342065150339317760, 58028439343754000199581696, 2199023255552, 8796093022208, 35184372088832, 140737488355328, 562949953421312, 2251799813685248, 19342813113834066795298816, 19342813113834066795298816, 19342813113834066795298816, 19342813113834066795298816, 19342813113834066795298816, 19342813113834066795298816, 1572864, 1014570924054025338880, 524288, 18446744073709551616, 524288, 18446744073709551616, 1572864, 1014570924054025338880, 18446744073710075904, 1143698132569996394496, 4718592, 1162144876643701751808, 1143698132570004783104, 1143698132570004783104, 1143698132570004783104, 3652455326594491219968, 3652455326594491219968, 3652455326594491219968, 1291272085159668613120, 2324289753287403503616, 2324289753287403503616, 1143698132569992200192, 9007199254741000, 18014398509482000, 36028797018964000, 72057594037928000, 144115188075856000, 288230376151712000, 1143761182964775387136, 1143761182964842496000, 1143761182964842496000, 67108864, 1143905298152851243008, 19342813113834066828853248, 19347535480316936440512512, 19343957019132219646541824, 19343957019132219646541824, 19342813113834066795298816, 288230376151711744, 288230376151711744, 0, 0, 67108864, 17293822569102950400, 17293822569102950400, 17293822569102950400, 19342813176884461578485816, 19342813176884461578485816, 302231526961285691342848, 302231526961251331604544, 302231454903691653414912, 0, 0, 0, 0, 0, 0, 19343957019132219646541824, 19343957019132219646541824, 19343957019132219646541824, 1143905298152851243008, 1143905298152851243008, 1143905298152851243008, 1143905298152851243008, 0, 1143905298152851243008, 1143905298152851243008, 1143905298152851243008, 1143905298152851243008, 1143905298152851243008, 1143905298152851243008, 1143905298152851243008, 1143905298152851243008, 0, 1143905298152851243008, 1143905298152851243008, 1143905298152851243008, 1143905298152851243008, 1143905298152851243008, 1143905298152851243008, 0, 0, 72057594037927936, 72057594037927936, 72057594037927936, 72057594037927936, 72057594037927936, 75557935783508361347072, 75557935783508361347072, 72057594037927936, 75557935783508361347072, 72057594037927936, 19342813113834066795298816, 19342813113834066795298816, 19343957019132219646541824, 19343957019132219646541824, 19343957019132219646541824, 19342813113834066795298816, 19342813113834066795298816, 19342813113834066795298816, 33851067142738145894727680, 33851067142738145894727680, 33851067142738145894727680, 33851067142738145894727680, 19343957019132219646541824, 19343957019132219646541824, 19343957019132219646541824, 19343957019132219646541824, 19343957019132219646541824, 19343957019132219646541824, 19343957019132219646541824, 19343957019132219646541824, 19343957019132219646541824, 19343957019132219646541824, 19343957019132219646541824, 19343957019132219646541824, 19343957019132219646541824, 0, 0, 0, 0, 0, 0, 0, 0, 0, 0, 0, 0, 0, 0, 0, 0, 0, 0, 0, 0, 0, 0, 0, 0, 0, 0, 0, 0, 0, 0, 0, 1143761182964775387144, 1143761182964842496008, 1143761182964842496008, 0, 1143905298152851243016, 0, 0, 19343957019132219646541832, 19343957019132219646541832, 0, 0, 0, 0, 0, 0, 0, 0, 0, 0, 0, 0, 0, 0, 0, 0, 0, 0, 0, 0, 0, 0, 0, 0, 0, 0, 0, 0, 0, 0, 0, 0, 0, 0, 0, 0, 0, 0, 0, 0, 0, 0, 0, 0, 0, 0, 0, 0, 0, 0, 0, 0, 0, 0, 0, 0, 0, 19343957019132219646541832, 19343957019132219646541832, 0, 0, 0, 0, 0, 0, 0, 0, 0, 0, 0, 0, 0, 0, 0, 0, 0, 0, 0, 0, 0, 9007199254741000, 19343957019132219646541824, 19343957019132219646541824, 19343957019132219646541824, 19342813113834067063734272, 19352257846799806085726208, 19342813113834066795298816, 19342813113834066795298816, 19342813140855664559521792, 19342813122841266050039808, 19343957019132220183412736, 536870912, 19343957019132220183412736, 19343957019132220183412736, 19343957019132219646541824, 19343957019132219646541824, 19343957019132219646541824, 19343957019132219646541824, 20033371229631432097792, 1143905298152851243008, 0, 19381735950995176808251392, 19343957019132219646541824, 19343957019132219646541824, 19343957019132219646541824, 19343957019132219646541824, 19343957019132219646541824, 19343957019132219646541824, 19343957019132219646541824, 19343957019132219646541824, 19343957019132219646541824, 134217728, 19343957019132220720283648, 19343957019132221794025472, 19343957019132220720283648, 19343957019132221794025472, 19343957019132220720283648, 19343957019132221794025472, 1073741824, 2147483648, 19343957019132220720283648, 19343957019132221794025472, 19343957019132220720283648, 19343957019132221794025472, 19343957019132220720283648, 19343957019132221794025472, 19343957019132220720283648, 19343957019132221794025472, 19343957019132219646541824, 19343957019132219646541824, 19343957019132219646541824, 19343957019132219646541824, 19343957019132219646541824, 19343957019132219646541824, 37778931862957161709568, 19381735950995176808251392, 19381735950995176808251392, 19381735950995176808251392, 19381735950995176808251392, 19381735950995176808251392, 19343957019132219646541824, 19343957019132219646541824]
def kHng (k j : Nat) : Bool := @Bool.rec (fun _ => Bool) (@Option.rec Nat (fun _ => Bool) false (fun m => Nat.beq (Nat.land (Nat.shiftRight m j) 1) 1) (sAt kMs k)) (Nat.beq k (Nat.add 1000 j)) (Nat.ble 1000 k)
def kFm (f : kA → List kA) (j : Nat) (γ : List kA) : List kA := @List.rec kA (fun _ => List kA) [] (fun q _ ih => @Bool.rec (fun _ => List kA) ih (fApp (f q) ih) (kHng q.1 j)) γ
theorem kFm_mem {f : kA → List kA} {j : Nat} {q : kA} : ∀ {γ : List kA}, q ∈ kFm f j γ → ∃ a ∈ γ, q ∈ f a
  | [], h => by cases h
  | a :: r, h => by
    have h : q ∈ @Bool.rec (fun _ => List kA) (kFm f j r) (fApp (f a) (kFm f j r)) (kHng a.1 j) := h
    cases hb : kHng a.1 j with
    | false =>
      rw [hb] at h
      obtain ⟨x, h1, h2⟩ := kFm_mem (γ := r) h
      exact ⟨x, List.mem_cons_of_mem _ h1, h2⟩
    | true =>
      rw [hb] at h
      have h : q ∈ fApp (f a) (kFm f j r) := h
      rw [fApp_eq] at h
      rcases List.mem_append.mp h with h | h
      · exact ⟨a, List.mem_cons_self, h⟩
      · obtain ⟨x, h1, h2⟩ := kFm_mem (γ := r) h
        exact ⟨x, List.mem_cons_of_mem _ h1, h2⟩
def kKW (Γ : sG) (γ : List kA) (j : Nat) (i _v : sL) : List kA := kFm (kKW1 Γ j i) j γ
theorem sVal_2 {ρ : List Int} {f g : sL} {zs : List Int} (h : sVal ρ [f, g] = some zs) : ∃ y z, zs = [y, z] ∧ sEv ρ f = some y ∧ sEv ρ g = some z := by
  simp only [sVal] at h
  split at h
  · rename_i y r e1 e2
    cases h
    split at e2
    · rename_i z r2 e3 e4
      cases e4; cases e2
      exact ⟨y, z, rfl, e1, e3⟩
    · cases e2
  · cases h
theorem sVal_3 {ρ : List Int} {f g k : sL} {zs : List Int} (h : sVal ρ [f, g, k] = some zs) : ∃ x y z, zs = [x, y, z] ∧ sEv ρ f = some x ∧ sEv ρ g = some y ∧ sEv ρ k = some z := by
  simp only [sVal] at h
  split at h
  · rename_i y r e1 e2
    cases h
    split at e2
    · rename_i z r2 e3 e4
      cases e2
      split at e4
      · rename_i w r3 e5 e6
        cases e6; cases e4
        exact ⟨y, z, w, rfl, e1, e3, e5⟩
      · cases e4
    · cases e2
  · cases h
section KKW
variable {RO : List (Nat × (Nat → Int32))} {ρ : List Int} {H : List eE} {j n : Nat} {zi : Int} {x : Int32} {ty : FieldType} {g : Nat → Int32}
theorem kLog_set {cw ci cb ca : Nat} {e : Int} (h0 : 0 ≤ zi) (hj : H[j]? = some (.inl (ty, n, .inl g))) (he : e = -1 ∨ e = zi) (h : kLog cw ci cb ca e H) : kLog cw ci cb ca zi (H.set j (.inl (ty, n, .inl (upd g zi.toNat x)))) := by
  obtain ⟨fw, fi, fb, fa, q1, q2, q3, q4, q5⟩ := h
  refine ⟨kUpd cw j zi.toNat x fw, kUpd ci j zi.toNat x fi, kUpd cb j zi.toNat x fb, kUpd ca j zi.toNat x fa, kCell_set q1 hj, kCell_set q2 hj, kCell_set q3 hj, kCell_set q4 hj, fun k hk hne => ?_⟩
  have hk2 : k ≠ zi.toNat := by omega
  unfold kTp
  rw [kUpd_ne hk2, kUpd_ne hk2, kUpd_ne hk2, kUpd_ne hk2]
  exact q5 k hk (by rcases he with rfl | rfl <;> omega)
theorem kAW_set {A W : Nat → Int32} {i : Nat} (hj : H[j]? = some (.inl (ty, n, .inl g))) (h : kAW A W H) : kAW (kUpd 65 j i x A) (kUpd 66 j i x W) (H.set j (.inl (ty, n, .inl (upd g i x)))) := ⟨kCell_set h.1 hj, kCell_set h.2 hj⟩
theorem kTE_set {A W : Nat → Int32} {i : Nat} (hj : H[j]? = some (.inl (ty, n, .inl g))) (h : kTE A W H) : kTE (kUpd 68 j i x A) (kUpd 69 j i x W) (H.set j (.inl (ty, n, .inl (upd g i x)))) := ⟨kCell_set h.1 hj, kCell_set h.2 hj⟩
theorem kUpd_off {c i : Nat} {f : Nat → Int32} (h : c ≠ j) : kUpd c j i x f = f := if_neg h
theorem kKW1_ok {Γ : sG} {i : sL} {q : kA} (hM : sMo ρ Γ) (hi : sEv ρ i = some zi) (h0 : 0 ≤ zi) (hj : H[j]? = some (.inl (ty, n, .inl g))) {zs : List Int} (hz : sVal ρ q.2 = some zs) (hq : kGP (kUP RO) q.1 zs H) : kGh (kGP (kUP RO)) ρ (kKW1 Γ j i q) (H.set j (.inl (ty, n, .inl (upd g zi.toNat x)))) := by
  have none_ : kGh (kGP (kUP RO)) ρ [] (H.set j (.inl (ty, n, .inl (upd g zi.toNat x)))) := fun a ha => by cases ha
  have one_ : ∀ {a : kA} {zs' : List Int}, sVal ρ a.2 = some zs' → kGP (kUP RO) a.1 zs' (H.set j (.inl (ty, n, .inl (upd g zi.toNat x)))) → kGh (kGP (kUP RO)) ρ [a] (H.set j (.inl (ty, n, .inl (upd g zi.toNat x)))) := fun h1 h2 b hb => by
    rcases List.mem_singleton.mp hb with rfl
    exact ⟨_, h1, h2⟩
  obtain ⟨k, fs⟩ := q
  simp only at hz hq
  unfold kKW1
  simp only
  by_cases k0 : k = 1000 + j
  · rw [if_pos k0]
    subst k0
    split
    · rename_i i' v'
      split
      · rename_i hc
        obtain ⟨z1, z2, rfl, e1, e2⟩ := sVal_2 hz
        refine one_ (zs' := [z1, z2]) hz (kGP_el.mpr ?_)
        obtain ⟨ty2, n2, arr, h1, h2, h3⟩ := kGP_el.mp hq
        rw [hj] at h1
        cases h1
        refine ⟨ty, n, .inl (upd g zi.toNat x), by rw [List.getElem?_set_self (List.getElem?_eq_some_iff.mp hj).1], h2, ?_⟩
        have hs := sEv_sub e1 hi
        have hform : sSub i' i = ((sSub i' i).1, []) := Prod.ext rfl hc.1
        rw [hform] at hs
        simp only [sEv, sEvT, Option.map_some, Option.some.injEq] at hs
        have hne : z1.toNat ≠ zi.toNat := by have := hc.2; omega
        simp only at h3 ⊢
        simp [upd, hne, h3]
      · exact none_
    · exact none_
  rw [if_neg k0]
  have up : ∀ {k' : Nat} {zs' : List Int} {H' : List eE}, k' < 1000 → (kGP (kUP RO) k' zs' H' ↔ kUP RO k' zs' H') := fun h => by
    unfold kGP
    rw [if_neg (by omega)]
  by_cases k1 : k = 1 ∧ (j = 14 ∨ j = 15 ∨ j = 16 ∨ j = 17)
  · rw [if_pos k1]
    obtain ⟨rfl, -⟩ := k1
    split
    · rename_i e
      split
      · rename_i hc
        obtain ⟨z1, rfl, e1⟩ := sVal_1 hz
        obtain ⟨e', he', hl⟩ : ∃ e, [z1] = [e] ∧ kLog 15 14 16 17 e H := (up (by decide)).mp hq
        cases he'
        refine one_ (zs' := [zi]) (by simp only [sVal, hi]) ((up (by simp)).mpr ?_)
        refine ⟨zi, rfl, kLog_set h0 hj ?_ hl⟩
        rcases hc with rfl | rfl
        · rw [sEv_C] at e1; cases e1; exact Or.inl rfl
        · cases e1.symm.trans hi; exact Or.inr rfl
      · exact none_
    · exact none_
  rw [if_neg k1]
  by_cases k2 : k = 2 ∧ (j = 60 ∨ j = 61 ∨ j = 62 ∨ j = 63)
  · rw [if_pos k2]
    obtain ⟨rfl, -⟩ := k2
    split
    · rename_i e
      split
      · rename_i hc
        obtain ⟨z1, rfl, e1⟩ := sVal_1 hz
        obtain ⟨e', he', hl⟩ : ∃ e, [z1] = [e] ∧ kLog 60 61 62 63 e H := (up (by decide)).mp hq
        cases he'
        refine one_ (zs' := [zi]) (by simp only [sVal, hi]) ((up (by simp)).mpr ?_)
        refine ⟨zi, rfl, kLog_set h0 hj ?_ hl⟩
        rcases hc with rfl | rfl
        · rw [sEv_C] at e1; cases e1; exact Or.inl rfl
        · cases e1.symm.trans hi; exact Or.inr rfl
      · exact none_
    · exact none_
  rw [if_neg k2]
  by_cases k4 : k = 4 ∧ (j = 65 ∨ j = 66)
  · rw [if_pos k4]
    obtain ⟨rfl, -⟩ := k4
    split
    · rename_i s e m
      split
      · rename_i hc
        obtain ⟨z1, z2, z3, rfl, e1, e2, e3⟩ := sVal_3 hz
        obtain ⟨a, b, c, he, A, W, hAW, s', m', n', r1, r2, r3, r4⟩ : ∃ s k n, [z1, z2, z3] = [s, k, n] ∧ kPW s k n H := (up (by decide)).mp hq
        cases he
        have hc := sNN_ok hM (sEv_sub hi e2) hc
        refine one_ (zs' := [z1, z2, z3]) hz ((up (by simp)).mpr ?_)
        refine ⟨z1, z2, z3, rfl, _, _, kAW_set hj hAW, s', m', n', r1, r2, r3, ?_⟩
        rw [kWk_eq m' (fun y h1 h2 => ⟨kUpd_ne (by omega), kUpd_ne (by omega)⟩)]
        exact r4
      · exact none_
    · exact none_
  rw [if_neg k4]
  by_cases k5 : k = 5 ∧ (j = 65 ∨ j = 66)
  · rw [if_pos k5]
    obtain ⟨rfl, -⟩ := k5
    split
    · rename_i s e
      split
      · rename_i hc
        obtain ⟨z1, z2, rfl, e1, e2⟩ := sVal_2 hz
        obtain ⟨a, b, he, A, W, hAW, s', e', r1, r2, r3⟩ : ∃ s k, [z1, z2] = [s, k] ∧ kSG s k H := (up (by decide)).mp hq
        cases he
        have hc := sNN_ok hM (sEv_sub hi e2) hc
        refine one_ (zs' := [z1, z2]) hz ((up (by simp)).mpr ?_)
        exact ⟨z1, z2, rfl, _, _, kAW_set hj hAW, s', e', r1, r2, kSg_eq (fun y h1 h2 => ⟨kUpd_ne (by omega), kUpd_ne (by omega)⟩) r3⟩
      · exact none_
    · exact none_
  rw [if_neg k5]
  by_cases k6 : k = 6 ∧ (j = 65 ∨ j = 66)
  · rw [if_pos k6]
    obtain ⟨rfl, hjj⟩ := k6
    split
    · rename_i m L
      split
      · rename_i hc
        obtain ⟨z1, z2, rfl, e1, e2⟩ := sVal_2 hz
        obtain ⟨a, b, he, A, W, T, E, hAW, hTE, m', L', r1, r2, r3⟩ : ∃ s k, [z1, z2] = [s, k] ∧ kLN s k H := (up (by decide)).mp hq
        cases he
        have hcc : zi ≤ 129 ∨ (L' : Int) + 130 ≤ zi := by
          rcases hc with hc | hc
          · have := sNN_ok hM (sEv_sub (sEv_C 129) hi) hc
            left; omega
          · have := sNN_ok hM (sEv_sub (sEv_sub hi e2) (sEv_C 130)) hc
            right; omega
        refine one_ (zs' := [z1, z2]) hz ((up (by simp)).mpr ?_)
        have t1 : kTE T E (H.set j (.inl (ty, n, .inl (upd g zi.toNat x)))) := by
          have := kTE_set (i := zi.toNat) (x := x) hj hTE
          rw [kUpd_off (by rcases hjj with rfl | rfl <;> decide), kUpd_off (by rcases hjj with rfl | rfl <;> decide)] at this
          exact this
        exact ⟨z1, z2, rfl, _, _, T, E, kAW_set hj hAW, t1, m', L', r1, r2, kLn_eq m' L' (fun y hy => ⟨kUpd_ne (by omega), kUpd_ne (by omega)⟩) (fun y hy => ⟨rfl, rfl⟩) r3⟩
      · exact none_
    · exact none_
  rw [if_neg k6]
  by_cases k6b : k = 6 ∧ (j = 68 ∨ j = 69)
  · rw [if_pos k6b]
    obtain ⟨rfl, hjj⟩ := k6b
    split
    · rename_i m L
      split
      · rename_i hc
        obtain ⟨z1, z2, rfl, e1, e2⟩ := sVal_2 hz
        obtain ⟨a, b, he, A, W, T, E, hAW, hTE, m', L', r1, r2, r3⟩ : ∃ s k, [z1, z2] = [s, k] ∧ kLN s k H := (up (by decide)).mp hq
        cases he
        have hcc : zi ≤ 60 ∨ (m' : Int) + 61 ≤ zi := by
          rcases hc with hc | hc
          · have := sNN_ok hM (sEv_sub (sEv_C 60) hi) hc
            left; omega
          · have := sNN_ok hM (sEv_sub (sEv_sub hi e1) (sEv_C 61)) hc
            right; omega
        refine one_ (zs' := [z1, z2]) hz ((up (by simp)).mpr ?_)
        have t1 : kAW A W (H.set j (.inl (ty, n, .inl (upd g zi.toNat x)))) := by
          have := kAW_set (i := zi.toNat) (x := x) hj hAW
          rw [kUpd_off (by rcases hjj with rfl | rfl <;> decide), kUpd_off (by rcases hjj with rfl | rfl <;> decide)] at this
          exact this
        exact ⟨z1, z2, rfl, A, W, _, _, t1, kTE_set hj hTE, m', L', r1, r2, kLn_eq m' L' (fun y hy => ⟨rfl, rfl⟩) (fun y hy => ⟨kUpd_ne (by omega), kUpd_ne (by omega)⟩) r3⟩
      · exact none_
    · exact none_
  rw [if_neg k6b]
  by_cases k7 : k = 7 ∧ (j = 65 ∨ j = 66)
  · rw [if_pos k7]
    obtain ⟨rfl, hjj⟩ := k7
    split
    · rename_i hc
      have hc := sNN_ok hM (sEv_sub hi (sEv_C 130)) hc
      obtain ⟨A, W, T, E, M, hAW, hTE, hLM, m, L, r1, r2, r3, r4⟩ : kPG H := (up (by decide)).mp hq
      refine one_ hz ((up (by simp)).mpr ?_)
      have t1 : kTE T E (H.set j (.inl (ty, n, .inl (upd g zi.toNat x)))) := by
        have := kTE_set (i := zi.toNat) (x := x) hj hTE
        rw [kUpd_off (by rcases hjj with rfl | rfl <;> decide), kUpd_off (by rcases hjj with rfl | rfl <;> decide)] at this
        exact this
      have t2 : kLM M (H.set j (.inl (ty, n, .inl (upd g zi.toNat x)))) := by
        have := kCell_set (i := zi.toNat) (x := x) hLM hj
        rw [kUpd_off (by rcases hjj with rfl | rfl <;> decide)] at this
        exact this
      exact ⟨_, _, T, E, M, kAW_set hj hAW, t1, t2, m, L, r1, r2, r3, kLn_eq m L (fun y hy => ⟨kUpd_ne (by omega), kUpd_ne (by omega)⟩) (fun y hy => ⟨rfl, rfl⟩) r4⟩
    · exact none_
  rw [if_neg k7]
  by_cases k7b : k = 7 ∧ (j = 68 ∨ j = 69)
  · rw [if_pos k7b]
    obtain ⟨rfl, hjj⟩ := k7b
    split
    · rename_i hc
      have hc := sNN_ok hM (sEv_sub hi (sEv_C 61)) hc
      obtain ⟨A, W, T, E, M, hAW, hTE, hLM, m, L, r1, r2, r3, r4⟩ : kPG H := (up (by decide)).mp hq
      refine one_ hz ((up (by simp)).mpr ?_)
      have t1 : kAW A W (H.set j (.inl (ty, n, .inl (upd g zi.toNat x)))) := by
        have := kAW_set (i := zi.toNat) (x := x) hj hAW
        rw [kUpd_off (by rcases hjj with rfl | rfl <;> decide), kUpd_off (by rcases hjj with rfl | rfl <;> decide)] at this
        exact this
      have t2 : kLM M (H.set j (.inl (ty, n, .inl (upd g zi.toNat x)))) := by
        have := kCell_set (i := zi.toNat) (x := x) hLM hj
        rw [kUpd_off (by rcases hjj with rfl | rfl <;> decide)] at this
        exact this
      exact ⟨A, W, _, _, M, t1, kTE_set hj hTE, t2, m, L, r1, r2, r3, kLn_eq m L (fun y hy => ⟨rfl, rfl⟩) (fun y hy => ⟨kUpd_ne (by omega), kUpd_ne (by omega)⟩) r4⟩
    · exact none_
  rw [if_neg k7b]
  by_cases k7c : k = 7 ∧ j = 67
  · rw [if_pos k7c]
    obtain ⟨rfl, rfl⟩ := k7c
    split
    · rename_i hc
      have hc := sNN_ok hM (sEv_sub hi (sEv_C 1)) hc
      obtain ⟨A, W, T, E, M, hAW, hTE, hLM, m, L, r1, r2, r3, r4⟩ : kPG H := (up (by decide)).mp hq
      refine one_ hz ((up (by simp)).mpr ?_)
      have t1 : kAW A W (H.set 67 (.inl (ty, n, .inl (upd g zi.toNat x)))) := by
        have := kAW_set (i := zi.toNat) (x := x) hj hAW
        rw [kUpd_off (by decide), kUpd_off (by decide)] at this
        exact this
      have t2 : kTE T E (H.set 67 (.inl (ty, n, .inl (upd g zi.toNat x)))) := by
        have := kTE_set (i := zi.toNat) (x := x) hj hTE
        rw [kUpd_off (by decide), kUpd_off (by decide)] at this
        exact this
      exact ⟨A, W, T, E, _, t1, t2, kCell_set hLM hj, m, L, by rw [kUpd_ne (by omega)]; exact r1, r2, r3, r4⟩
    · exact none_
  rw [if_neg k7c]
  by_cases k8 : k = 8 ∧ (j = 65 ∨ j = 66)
  · rw [if_pos k8]
    obtain ⟨rfl, hjj⟩ := k8
    split
    · rename_i kk
      split
      · rename_i hc
        obtain ⟨z1, rfl, e1⟩ := sVal_1 hz
        obtain ⟨a, he, A, W, hAW, r1, r2⟩ : ∃ s, [z1] = [s] ∧ kCP s H := (up (by decide)).mp hq
        cases he
        have h1 := sNN_ok hM (sEv_sub hi e1) hc.1
        have h2 := sNN_ok hM (sEv_sub (sEv_C 129) hi) hc.2
        refine one_ (zs' := [z1]) hz ((up (by simp)).mpr ?_)
        refine ⟨z1, rfl, _, _, kAW_set hj hAW, r1, fun y hy => ?_⟩
        rw [kUpd_ne (by omega), kUpd_ne (by omega), kUpd_ne (by omega), kUpd_ne (by omega)]
        exact r2 y hy
      · exact none_
    · exact none_
  rw [if_neg k8]
  by_cases k9 : k = 9 ∧ (j = 68 ∨ j = 69)
  · rw [if_pos k9]
    obtain ⟨rfl, hjj⟩ := k9
    split
    · rename_i kk
      split
      · rename_i hc
        obtain ⟨z1, rfl, e1⟩ := sVal_1 hz
        obtain ⟨a, he, A, W, hAW, r1, r2⟩ : ∃ s, [z1] = [s] ∧ kCT s H := (up (by decide)).mp hq
        cases he
        have h1 := sNN_ok hM (sEv_sub hi e1) hc.1
        have h2 := sNN_ok hM (sEv_sub (sEv_C 60) hi) hc.2
        refine one_ (zs' := [z1]) hz ((up (by simp)).mpr ?_)
        refine ⟨z1, rfl, _, _, kTE_set hj hAW, r1, fun y hy => ?_⟩
        rw [kUpd_ne (by omega), kUpd_ne (by omega), kUpd_ne (by omega), kUpd_ne (by omega)]
        exact r2 y hy
      · exact none_
    · exact none_
  rw [if_neg k9]
  by_cases k13 : k = 13 ∧ (j = 37 ∨ j = 80)
  · rw [if_pos k13]
    obtain ⟨rfl, -⟩ := k13
    split
    · rename_i e
      split
      · rename_i hc
        obtain ⟨z1, rfl, e1⟩ := sVal_1 hz
        obtain ⟨e', he', f, g2, q1, q2, q3⟩ : ∃ e, [z1] = [e] ∧ kEQ e H := (up (by decide)).mp hq
        cases he'
        refine one_ (zs' := [zi]) (by simp only [sVal, hi]) ((up (by simp)).mpr ?_)
        refine ⟨zi, rfl, kUpd 37 j zi.toNat x f, kUpd 80 j zi.toNat x g2, kCell_set q1 hj, kCell_set q2 hj, fun y hy hne => ?_⟩
        have hk2 : y ≠ zi.toNat := by omega
        rw [kUpd_ne hk2, kUpd_ne hk2]
        refine q3 y hy ?_
        rcases hc with rfl | rfl
        · rw [sEv_C] at e1; cases e1; omega
        · cases e1.symm.trans hi; omega
      · exact none_
    · exact none_
  rw [if_neg k13]
  exact none_
end KKW
theorem kKW_ok (RO : List (Nat × (Nat → Int32))) : kWOk (kUP RO) kKW := by
  intro Γ γ j i v ρ zi zv H ty n f hM hg hi hv h0 hn hj q hq
  obtain ⟨a, ha, hqa⟩ := kFm_mem hq
  obtain ⟨zs, e1, e2⟩ := hg a ha
  exact kKW1_ok hM hi h0 hj e1 e2 q hqa
end
