/-! How many must be put in: the class, two. -/
noncomputable section
def pdALi (zn : Nat) (K : kS) : Option kWs := pB (pdPin K 4) fun d => pB (sfQ zn K) fun (hl, b, one, x, n, N) => pB (kLf K.1.2.1 1) fun p => pB (kLf K.1.2.1 2) fun m => pB (kLf K.1.2.1 3) fun w =>
  pI (decide (w = sC 0)) <| pI (decide (m = sC 100)) <| pB (pdF1 K.2 (322 + d) [hl, b, one, x, n, N]) fun k => pI (!kHav K.2 338 [hl, b, one, x, n, N, k, p, w, m]) <| pO [(338, [hl, b, one, x, n, N, k, p, sC 0, sC 100])]
def pdALs (zn : Nat) (K : kS) : Option kWs := pB (pdPin K 4) fun d => pB (sfQ zn K) fun (hl, b, one, x, n, N) => pB (kLf K.1.2.1 1) fun p => pB (kLf K.1.2.1 2) fun m => pB (kLf K.1.2.1 3) fun w =>
  pB (pdF K.2 338 [hl, b, one, x, n, N] (fun r => match r with
    | [_, p', w', _] => decide (p' = p) && decide (w' = w)
    | _ => false)) fun r => match r with
  | [k, _, _, old] => pI (kHav K.2 (322 + d) [hl, b, one, x, n, N, k]) <| pI (sNN K.1.2.2.2.2.2.2 p) <| pI (sNN K.1.2.2.2.2.2.2 (sSub (sC 7) p)) <| pI (sNN K.1.2.2.2.2.2.2 w) <| pI (sNN K.1.2.2.2.2.2.2 (sSub (sC 15) w)) <| pI (sNN K.1.2.2.2.2.2.2 (sSub (sC 99) x)) <|
    pB (kFindEl K.2 (30 + d) (pd16 p w)) fun v => pI (sI32 K.1.2.2.2.2.2.2.1 v) <| pI ((decide (m = old) && sNN K.1.2.2.2.2.2.2 (sSub v old)) || (decide (m = v) && sNN K.1.2.2.2.2.2.2 (sSub old v))) <| pO [(338, [hl, b, one, x, n, N, k, p, sAdd w (sC 1), m])]
  | _ => none
def pdALe (zn : Nat) (K : kS) : Option kWs := pB (sfQ zn K) fun (hl, b, one, x, n, N) => pB (kLf K.1.2.1 1) fun p => pB (kLf K.1.2.1 2) fun m => pB (kLf K.1.2.1 3) fun w => pI (!decide (w = N)) <|
  pB (pdF K.2 338 [hl, b, one, x, n, N] (fun r => match r with
    | [_, p', w', m'] => decide (p' = p) && (decide (w' = w) && decide (m' = m))
    | _ => false)) fun r => match r with
  | [k, _, _, _] => pI (sNN K.1.2.2.2.2.2.2 (sSub w N)) <| pO [(338, [hl, b, one, x, n, N, k, p, N, m])]
  | _ => none
def pdBNi (zn : Nat) (K : kS) : Option kWs := pB (sfQ zn K) fun (hl, b, one, x, n, N) => pB (kLf K.1.2.1 1) fun k => pB (kLf K.1.2.1 2) fun p => pB (kLf K.1.2.1 3) fun r => pB (kLf K.1.2.1 4) fun m => pB (kLf K.1.2.1 5) fun w =>
  pI (decide (w = sC 0)) <| pI (decide (m = sC 100)) <| pI (kHav K.2 338 [hl, b, one, x, n, N, k, p, N, r]) <| pI (!kHav K.2 339 [hl, b, one, x, n, N, k, p, w, m]) <| pI (sNN K.1.2.2.2.2.2.2 (sSub (sC 99) x)) <| pO [(339, [hl, b, one, x, n, N, k, p, sC 0, sC 100])]
def pdBNs (zn : Nat) (K : kS) : Option kWs := pB (sfQ zn K) fun (hl, b, one, x, n, N) => pB (kLf K.1.2.1 1) fun k => pB (kLf K.1.2.1 2) fun p => pB (kLf K.1.2.1 3) fun r => pB (kLf K.1.2.1 4) fun m => pB (kLf K.1.2.1 5) fun w =>
  pB (pdF1 K.2 339 [hl, b, one, x, n, N, k, p, w]) fun old => pI (sNN K.1.2.2.2.2.2.2 w) <| pI (sNN K.1.2.2.2.2.2.2 (sSub (sSub N w) (sC 1))) <| pI (sNN K.1.2.2.2.2.2.2 k) <| pI (sNN K.1.2.2.2.2.2.2 (sSub (sC 99) x)) <|
  (match decide (sfKi K.1.2.2.2.2.2.2 K.2 28 w k n = some true) || decide (sfKi K.1.2.2.2.2.2.2 K.2 28 w (sAdd k (sC 1)) n = some true) with
  | true => pI (decide (m = old)) <| pO [(339, [hl, b, one, x, n, N, k, p, sAdd w (sC 1), m])]
  | false => pI (decide (sfKi K.1.2.2.2.2.2.2 K.2 28 w k n = some false)) <| pI (decide (sfKi K.1.2.2.2.2.2.2 K.2 28 w (sAdd k (sC 1)) n = some false)) <| pI (kHav K.2 338 [hl, b, one, x, n, N, k, p, N, r]) <| pI (sNN K.1.2.2.2.2.2.2 (sSub x r)) <|
    pB (nFf K.1.2.2.2.1 24 zn) fun v => pB (sfGv K.2 hl w (sAdd (sAdd k p) (sC 1)) (sC 0) v) fun g => pI (pdRn K (sAdd r g) (fun s => (decide (m = old) && sNN K.1.2.2.2.2.2.2 (sSub s old)) || (decide (m = s) && sNN K.1.2.2.2.2.2.2 (sSub old s)))) <| pO [(339, [hl, b, one, x, n, N, k, p, sAdd w (sC 1), m])])
def pdBNe (zn : Nat) (K : kS) : Option kWs := pB (sfQ zn K) fun (hl, b, one, x, n, N) => pB (kLf K.1.2.1 1) fun k => pB (kLf K.1.2.1 2) fun p => pB (kLf K.1.2.1 3) fun r => pB (kLf K.1.2.1 4) fun m =>
  pB (pdF K.2 339 [hl, b, one, x, n, N, k, p] (fun q => match q with
    | [_, m'] => decide (m' = m)
    | _ => false)) fun q => match q with
  | [w, _] => pI ((sNN K.1.2.2.2.2.2.2 (sSub w N) && sNN K.1.2.2.2.2.2.2 (sSub N w)) || (kHav K.2 338 [hl, b, one, x, n, N, k, p, N, r] && sNN K.1.2.2.2.2.2.2 (sSub (sSub r x) (sC 1)))) <| pO [(339, [hl, b, one, x, n, N, k, p, N, m])]
  | _ => none
def pdNPs (zn : Nat) (K : kS) : Option kWs := pB (pdPin K 5) fun c => pB (sfQ zn K) fun (hl, b, one, x, n, N) => pB (kLf K.1.2.1 1) fun k => pB (kLf K.1.2.1 2) fun p => pB (kLf K.1.2.1 4) fun m => pB (kLf K.1.2.1 5) fun w =>
  pI (sNN K.1.2.2.2.2.2.2 w) <| pI (sNN K.1.2.2.2.2.2.2 (sSub (sSub N w) (sC 1))) <| pI (sNN K.1.2.2.2.2.2.2 (sSub (sC 16) N)) <| pI (sNN K.1.2.2.2.2.2.2 (sSub (sC 99) x)) <| pI (sNN K.1.2.2.2.2.2.2 p) <| pI (sNN K.1.2.2.2.2.2.2 (sSub (sC 6) p)) <|
  pB (sfKi K.1.2.2.2.2.2.2 K.2 28 w (sAdd k (sC 1)) n) fun t => match t with
  | false => pI (kHav K.2 (326 + c) [hl, b, one, x, n, N, k, p, w]) <| pO [(326 + c, [hl, b, one, x, n, N, k, p, sAdd w (sC 1)])]
  | true => pI (kHav K.2 339 [hl, b, one, x, n, N, k, p, N, m]) <| pI (sNN K.1.2.2.2.2.2.2 (sSub x m)) <| pB (nFf K.1.2.2.2.1 24 zn) fun v => pB (sfGv K.2 hl w (sAdd (sAdd k p) (sC 2)) (sC 0) v) fun g =>
    pI (pdRn K (sAdd m g) (fun run => pdOf K c 326 334 hl b one x n N [k, p, w] run (pd16 (sAdd p (sC 1)) w))) <| pO [(326 + c, [hl, b, one, x, n, N, k, p, sAdd w (sC 1)])]
def pdNPe (zn : Nat) (K : kS) : Option kWs := pB (pdPin K 5) fun c => pB (sfQ zn K) fun (hl, b, one, x, n, N) => pB (kLf K.1.2.1 1) fun k => pB (kLf K.1.2.1 2) fun p => pB (kLf K.1.2.1 4) fun m => pB (pdF1 K.2 (326 + c) [hl, b, one, x, n, N, k, p]) fun w =>
  pI (sNN K.1.2.2.2.2.2.2 (sSub w N) || (kHav K.2 339 [hl, b, one, x, n, N, k, p, N, m] && sNN K.1.2.2.2.2.2.2 (sSub (sSub m x) (sC 1)))) <| pO [(324 + c, [hl, b, one, x, n, N, k, sAdd p (sC 1), sC 0, sC 0])]
def pdRUn (zn : Nat) (K : kS) : Option kWs := pB (pdPin K 5) fun c => pB (sfQ zn K) fun (hl, b, one, x, n, N) => pB (kLf K.1.2.1 1) fun k => pI (!decide (k = sSub n (sC 1))) <| pI (kHav K.2 (322 + c) [hl, b, one, x, n, N, k]) <| pI (kEqf K.1.2.2.2.2.2.2 k (sSub n (sC 1))) <| pO [(322 + c, [hl, b, one, x, n, N, sSub n (sC 1)])]
def pdPCi (zn : Nat) (K : kS) : Option kWs := pB (pdPin K 5) fun c => pB (sfQ zn K) fun (hl, b, one, x, n, N) => pB (kLf K.1.2.1 1) fun i => pI (decide (i = sC 0)) <| pI (!(kFa K.2 341 (fun _ => true)).isSome) <| pI (kHav K.2 (322 + c) [hl, b, one, x, n, N, sSub n (sC 1)]) <| pO [(341, [hl, b, one, x, n, N, sC 0])]
/-- what stands in the last row -/
def pdRuv (K : kS) (c : Nat) (hl b one x n N i : sL) : Option sL := pB (kFindEl K.2 (30 + c) i) fun v => pI (sI32 K.1.2.2.2.2.2.2.1 v) <| pI (kHav K.2 (322 + c) [hl, b, one, x, n, N, sSub n (sC 1)]) <| pI (sNN K.1.2.2.2.2.2.2 i) <| pI (sNN K.1.2.2.2.2.2.2 (sSub (sC 127) i)) <| some v
def pdPCs (zn : Nat) (K : kS) : Option kWs := pB (pdPin K 5) fun c => pB (sfQ zn K) fun (hl, b, one, x, n, N) => pB (kLf K.1.2.1 1) fun i => pI (kHav K.2 341 [hl, b, one, x, n, N, i]) <| pB (pdRuv K c hl b one x n N i) fun v => pI (sNN K.1.2.2.2.2.2.2 (sSub (sSub v x) (sC 1))) <| pI (sNN K.1.2.2.2.2.2.2 (sSub (sC 16) N)) <| pO [(341, [hl, b, one, x, n, N, sAdd i (sC 1)])]
def pdPCe (zn : Nat) (K : kS) : Option kWs := pB (pdPin K 5) fun c => pB (sfQ zn K) fun (hl, b, one, x, n, N) => pB (kLf K.1.2.1 1) fun i => pB (kTop K) fun r => pI (kHav K.2 341 [hl, b, one, x, n, N, i]) <| pI (sNN K.1.2.2.2.2.2.2 (sSub n (sC 1))) <| pI (sNN K.1.2.2.2.2.2.2 (sSub (sC 16) N)) <|
  (match decide (r = sC (-2)) with
  | true => pI (sNN K.1.2.2.2.2.2.2 (sSub i (sC 128))) <| pI (sNN K.1.2.2.2.2.2.2 (sSub (sC 8) n)) <| pO [(342, [hl, b, one, x, n, N, sC (-2)])]
  | false => pB (pdRuv K c hl b one x n N i) fun v => pI (sNN K.1.2.2.2.2.2.2 (sSub x v)) <| pI (sNN K.1.2.2.2.2.2.2 (sSub (sC 99) x)) <| pI (sNN K.1.2.2.2.2.2.2 (sSub i (sMul 16 r))) <| pI (sNN K.1.2.2.2.2.2.2 (sSub (sAdd (sMul 16 r) (sC 15)) i)) <| some [([(342, [hl, b, one, x, n, N, r])], [(r, 0, 7)])])
def pdPC0 (zn : Nat) (K : kS) : Option kWs := pB (sfQ zn K) fun (hl, b, one, x, n, N) => pB (kTop K) fun r => pI (decide (r = sC 0)) <| pI (decide (sK K.1.2.2.2.2.2.2.1 n = some 0)) <| pI (sfNE K.2) <| pO [(342, [hl, b, one, x, n, N, sC 0])]
def pdPXx (zn : Nat) (K : kS) : Option kWs := pB (sfQ zn K) fun (hl, b, one, x, n, N) => pB (kLf K.1.2.1 2) fun ox => pB (kTop K) fun r => pB (kFa K.2 297 (sfKNq b n)) fun q => match q with
  | [_, le, _] => pI (decide (nDl K.1.2.2.2.2.2.2 9 ox (sC 100) = some one)) <| pI (decide (nDl K.1.2.2.2.2.2.2 10 ox (sC 100) = some x)) <| pI (kHav K.2 342 [hl, b, one, x, n, N, r]) <| pO [(343, [hl, b, le, ox, N, r])]
  | _ => none
section PDD
variable {RO : List (Nat × (Nat → Int32))} {ρ : List Int} {Γ : sG} {γ : List kA} {H : List eE} {P : pP} {hl b one x n N : sL} {zh zb zo zx zn zN : Int}
theorem k338 : pdK 338 := pdKq (by decide) (by decide) (by decide) (by decide)
theorem k339 : pdK 339 := pdKq (by decide) (by decide) (by decide) (by decide)
theorem k341 : pdK 341 := pdKq (by decide) (by decide) (by decide) (by decide)
theorem k342 : pdK 342 := pdKq (by decide) (by decide) (by decide) (by decide)
theorem k322 {c : Nat} (hc : c < 2) : pdK (322 + c) := pdKr hc (by decide) (by decide) (by decide) (by decide) (by decide)
theorem k324 {c : Nat} (hc : c < 2) : pdK (324 + c) := pdKr hc (by decide) (by decide) (by decide) (by decide) (by decide)
theorem k326 {c : Nat} (hc : c < 2) : pdK (326 + c) := pdKr hc (by decide) (by decide) (by decide) (by decide) (by decide)
theorem pdALi_ok (nz : Nat) : kRok RO (pdALi nz) := by
  intro K ws h ρ R hD
  have hM := hD.1
  unfold pdALi at h
  obtain ⟨d, h₀, h⟩ := pB_ok h
  have hd := pdPin_lt h₀
  clear h₀
  obtain ⟨⟨hl, b, one, x, n, N⟩, hQ, h⟩ := pB_ok h
  obtain ⟨zh, zb, zo, zx, zn, zN, v, zv, eh, eb, eo, ex, en, eN, hv, ev, hk, hS⟩ := sfQ_ok hD hQ
  have E : pdE ρ hl b one x n N zh zb zo zx zn zN := ⟨eh, eb, eo, ex, en, eN⟩
  obtain ⟨p, h₀, h⟩ := pB_ok h
  obtain ⟨zp, ep⟩ := kLf_ok hD.2.1 h₀
  clear h₀
  obtain ⟨m, h₀, h⟩ := pB_ok h
  obtain ⟨zm, em⟩ := kLf_ok hD.2.1 h₀
  clear h₀
  obtain ⟨w, h₀, h⟩ := pB_ok h
  obtain ⟨zw, ew⟩ := kLf_ok hD.2.1 h₀
  clear h₀
  obtain ⟨h₀, h⟩ := pI_ok h
  have c1 := of_decide_eq_true h₀
  clear h₀
  obtain ⟨h₀, h⟩ := pI_ok h
  have c2 := of_decide_eq_true h₀
  clear h₀
  obtain ⟨k, hk1, h⟩ := pB_ok h
  obtain ⟨c3, h⟩ := pI_ok h
  obtain ⟨zk, ek, hC⟩ := pdF1_ok hD.2.2 (k322 hd) E (zq := []) rfl hk1
  obtain ⟨P, cP, hP⟩ := pdC_of hC
  obtain ⟨f, f1, k0, -⟩ := (dRU hd).mp hP
  exact pd_out h (pdMk k338 E (zs := [zk, zp, 0, 100]) (by (repeat' first | with_reducible assumption | exact sEv_C _ | with_reducible exact pvN | with_reducible apply pvC | with_reducible apply sEv_add | with_reducible apply sEv_sub | with_reducible apply sEv_mul)) (pdC_mk cP (dAL.mpr ⟨k0, pUn_0⟩)))
theorem pdALs_ok (nz : Nat) : kRok RO (pdALs nz) := by
  intro K ws h ρ R hD
  have hM := hD.1
  unfold pdALs at h
  obtain ⟨d, h₀, h⟩ := pB_ok h
  have hd := pdPin_lt h₀
  clear h₀
  obtain ⟨⟨hl, b, one, x, n, N⟩, hQ, h⟩ := pB_ok h
  obtain ⟨zh, zb, zo, zx, zn, zN, v, zv, eh, eb, eo, ex, en, eN, hv, ev, hk, hS⟩ := sfQ_ok hD hQ
  have E : pdE ρ hl b one x n N zh zb zo zx zn zN := ⟨eh, eb, eo, ex, en, eN⟩
  obtain ⟨p, h₀, h⟩ := pB_ok h
  obtain ⟨zp, ep⟩ := kLf_ok hD.2.1 h₀
  clear h₀
  obtain ⟨m, h₀, h⟩ := pB_ok h
  obtain ⟨zm, em⟩ := kLf_ok hD.2.1 h₀
  clear h₀
  obtain ⟨w, h₀, h⟩ := pB_ok h
  obtain ⟨zw, ew⟩ := kLf_ok hD.2.1 h₀
  clear h₀
  obtain ⟨r, hr, h⟩ := pB_ok h
  obtain ⟨q, zs, ez, hC⟩ := pdFz hD.2.2 k338 E (q := []) hr
  split at h
  · rename_i k p' w' old
    obtain ⟨q1, q2⟩ := pAnd q
    cases of_decide_eq_true q1
    cases of_decide_eq_true q2
    obtain ⟨zk, zp', zw', zo', rfl, ek, ep', ew', eo'⟩ := sVal_4 ez
    cases ep'.symm.trans ep
    cases ew'.symm.trans ew
    obtain ⟨c1, h⟩ := pI_ok h
    obtain ⟨h₀, h⟩ := pI_ok h
    have d1 := sNN_ok hM (by (repeat' first | with_reducible assumption | exact sEv_C _ | with_reducible exact pvN | with_reducible apply pvC | with_reducible apply sEv_add | with_reducible apply sEv_sub | with_reducible apply sEv_mul)) h₀
    clear h₀
    obtain ⟨h₀, h⟩ := pI_ok h
    have d2 := sNN_ok hM (by (repeat' first | with_reducible assumption | exact sEv_C _ | with_reducible exact pvN | with_reducible apply pvC | with_reducible apply sEv_add | with_reducible apply sEv_sub | with_reducible apply sEv_mul)) h₀
    clear h₀
    obtain ⟨h₀, h⟩ := pI_ok h
    have d3 := sNN_ok hM (by (repeat' first | with_reducible assumption | exact sEv_C _ | with_reducible exact pvN | with_reducible apply pvC | with_reducible apply sEv_add | with_reducible apply sEv_sub | with_reducible apply sEv_mul)) h₀
    clear h₀
    obtain ⟨h₀, h⟩ := pI_ok h
    have d4 := sNN_ok hM (by (repeat' first | with_reducible assumption | exact sEv_C _ | with_reducible exact pvN | with_reducible apply pvC | with_reducible apply sEv_add | with_reducible apply sEv_sub | with_reducible apply sEv_mul)) h₀
    clear h₀
    obtain ⟨h₀, h⟩ := pI_ok h
    have d5 := sNN_ok hM (by (repeat' first | with_reducible assumption | exact sEv_C _ | with_reducible exact pvN | with_reducible apply pvC | with_reducible apply sEv_add | with_reducible apply sEv_sub | with_reducible apply sEv_mul)) h₀
    clear h₀
    obtain ⟨v', hv', h⟩ := pB_ok h
    obtain ⟨zv', ev', kv⟩ := kFindEl_ok hD.2.2 hv' (pd16_ev ep ew)
    obtain ⟨h₀, h⟩ := pI_ok h
    have r1 := sWi_ok hM.1 (by (repeat' first | with_reducible assumption | exact sEv_C _ | with_reducible exact pvN | with_reducible apply pvC | with_reducible apply sEv_add | with_reducible apply sEv_sub | with_reducible apply sEv_mul)) h₀
    clear h₀
    obtain ⟨c2, h⟩ := pI_ok h
    obtain ⟨P, cP, hP⟩ := pdC_of hC
    obtain ⟨hX, hN, hM', hG⟩ := pdC_f cP
    obtain ⟨k0, hal⟩ := dAL.mp hP
    obtain ⟨f, f1, -, f2⟩ := (dRU hd).mp (pdC_at cP (pdHz hD.2.2 (k322 hd) E (zs := [zk]) (by (repeat' first | with_reducible assumption | exact sEv_C _ | with_reducible exact pvN | with_reducible apply pvC | with_reducible apply sEv_add | with_reducible apply sEv_sub | with_reducible apply sEv_mul)) c1))
    obtain ⟨-, hz⟩ := pdEl kv f1 r1
    have h2 := f2 zp zw (by omega) (by omega) (by omega) (by omega)
    rw [hz] at h2
    have hs := pUn_s (S := fun w r => pR P zk.toNat zp w r) (by omega) d3 hal h2
    refine pd_out h (pdMk k338 E (zs := [zk, zp, zw + 1, zm]) (by (repeat' first | with_reducible assumption | exact sEv_C _ | with_reducible exact pvN | with_reducible apply pvC | with_reducible apply sEv_add | with_reducible apply sEv_sub | with_reducible apply sEv_mul)) (pdC_mk cP (dAL.mpr ⟨k0, ?_⟩)))
    have hm : zm = min zo' zv' := by
      rcases pOr c2 with c | c
      · obtain ⟨c3, c4⟩ := pAnd c
        cases of_decide_eq_true c3
        cases em.symm.trans eo'
        have d := sNN_ok hM (sEv_sub ev' eo') c4
        omega
      · obtain ⟨c3, c4⟩ := pAnd c
        cases of_decide_eq_true c3
        cases em.symm.trans ev'
        have d := sNN_ok hM (sEv_sub eo' ev') c4
        omega
    rw [hm]
    exact hs
  · cases h
theorem pdALe_ok (nz : Nat) : kRok RO (pdALe nz) := by
  intro K ws h ρ R hD
  have hM := hD.1
  unfold pdALe at h
  obtain ⟨⟨hl, b, one, x, n, N⟩, hQ, h⟩ := pB_ok h
  obtain ⟨zh, zb, zo, zx, zn, zN, v, zv, eh, eb, eo, ex, en, eN, hv, ev, hk, hS⟩ := sfQ_ok hD hQ
  have E : pdE ρ hl b one x n N zh zb zo zx zn zN := ⟨eh, eb, eo, ex, en, eN⟩
  obtain ⟨p, h₀, h⟩ := pB_ok h
  obtain ⟨zp, ep⟩ := kLf_ok hD.2.1 h₀
  clear h₀
  obtain ⟨m, h₀, h⟩ := pB_ok h
  obtain ⟨zm, em⟩ := kLf_ok hD.2.1 h₀
  clear h₀
  obtain ⟨w, h₀, h⟩ := pB_ok h
  obtain ⟨zw, ew⟩ := kLf_ok hD.2.1 h₀
  clear h₀
  obtain ⟨c0, h⟩ := pI_ok h
  obtain ⟨r, hr, h⟩ := pB_ok h
  obtain ⟨q, zs, ez, hC⟩ := pdFz hD.2.2 k338 E (q := []) hr
  split at h
  · rename_i k p' w' m'
    obtain ⟨q1, q2⟩ := pAnd q
    obtain ⟨q2, q3⟩ := pAnd q2
    cases of_decide_eq_true q1
    cases of_decide_eq_true q2
    cases of_decide_eq_true q3
    obtain ⟨zk, zp', zw', zm', rfl, ek, ep', ew', em'⟩ := sVal_4 ez
    cases ep'.symm.trans ep
    cases ew'.symm.trans ew
    cases em'.symm.trans em
    obtain ⟨h₀, h⟩ := pI_ok h
    have d1 := sNN_ok hM (by (repeat' first | with_reducible assumption | exact sEv_C _ | with_reducible exact pvN | with_reducible apply pvC | with_reducible apply sEv_add | with_reducible apply sEv_sub | with_reducible apply sEv_mul)) h₀
    clear h₀
    obtain ⟨P, cP, hP⟩ := pdC_of hC
    obtain ⟨hX, hN, hM', hG⟩ := pdC_f cP
    obtain ⟨k0, hal⟩ := dAL.mp hP
    exact pd_out h (pdMk k338 E (zs := [zk, zp, zN, zm]) (by (repeat' first | with_reducible assumption | exact sEv_C _ | with_reducible exact pvN | with_reducible apply pvC | with_reducible apply sEv_add | with_reducible apply sEv_sub | with_reducible apply sEv_mul)) (pdC_mk cP (dAL.mpr ⟨k0, pUn_N (by omega) (by omega) hal⟩)))
  · cases h
theorem pdBNi_ok (nz : Nat) : kRok RO (pdBNi nz) := by
  intro K ws h ρ R hD
  have hM := hD.1
  unfold pdBNi at h
  obtain ⟨⟨hl, b, one, x, n, N⟩, hQ, h⟩ := pB_ok h
  obtain ⟨zh, zb, zo, zx, zn, zN, v, zv, eh, eb, eo, ex, en, eN, hv, ev, hk, hS⟩ := sfQ_ok hD hQ
  have E : pdE ρ hl b one x n N zh zb zo zx zn zN := ⟨eh, eb, eo, ex, en, eN⟩
  obtain ⟨k, h₀, h⟩ := pB_ok h
  obtain ⟨zk, ek⟩ := kLf_ok hD.2.1 h₀
  clear h₀
  obtain ⟨p, h₀, h⟩ := pB_ok h
  obtain ⟨zp, ep⟩ := kLf_ok hD.2.1 h₀
  clear h₀
  obtain ⟨r, h₀, h⟩ := pB_ok h
  obtain ⟨zr, er⟩ := kLf_ok hD.2.1 h₀
  clear h₀
  obtain ⟨m, h₀, h⟩ := pB_ok h
  obtain ⟨zm, em⟩ := kLf_ok hD.2.1 h₀
  clear h₀
  obtain ⟨w, h₀, h⟩ := pB_ok h
  obtain ⟨zw, ew⟩ := kLf_ok hD.2.1 h₀
  clear h₀
  obtain ⟨h₀, h⟩ := pI_ok h
  have c1 := of_decide_eq_true h₀
  clear h₀
  obtain ⟨h₀, h⟩ := pI_ok h
  have c2 := of_decide_eq_true h₀
  clear h₀
  obtain ⟨c3, h⟩ := pI_ok h
  obtain ⟨c4, h⟩ := pI_ok h
  obtain ⟨h₀, h⟩ := pI_ok h
  have d1 := sNN_ok hM (by (repeat' first | with_reducible assumption | exact sEv_C _ | with_reducible exact pvN | with_reducible apply pvC | with_reducible apply sEv_add | with_reducible apply sEv_sub | with_reducible apply sEv_mul)) h₀
  clear h₀
  obtain ⟨P, cP, hP⟩ := pdC_of (pdHz hD.2.2 k338 E (zs := [zk, zp, zN, zr]) (by (repeat' first | with_reducible assumption | exact sEv_C _ | with_reducible exact pvN | with_reducible apply pvC | with_reducible apply sEv_add | with_reducible apply sEv_sub | with_reducible apply sEv_mul)) c3)
  obtain ⟨hX, hN, hM', hG⟩ := pdC_f cP
  obtain ⟨k0, hal⟩ := dAL.mp hP
  exact pd_out h (pdMk k339 E (zs := [zk, zp, 0, 100]) (by (repeat' first | with_reducible assumption | exact sEv_C _ | with_reducible exact pvN | with_reducible apply pvC | with_reducible apply sEv_add | with_reducible apply sEv_sub | with_reducible apply sEv_mul)) (pdC_mk cP (dBN.mpr ⟨k0, pBl_0 (by omega)⟩)))
theorem pdBNs_ok (nz : Nat) : kRok RO (pdBNs nz) := by
  intro K ws h ρ R hD
  have hM := hD.1
  unfold pdBNs at h
  obtain ⟨⟨hl, b, one, x, n, N⟩, hQ, h⟩ := pB_ok h
  obtain ⟨zh, zb, zo, zx, zn, zN, v, zv, eh, eb, eo, ex, en, eN, hv, ev, hk, hS⟩ := sfQ_ok hD hQ
  have E : pdE ρ hl b one x n N zh zb zo zx zn zN := ⟨eh, eb, eo, ex, en, eN⟩
  obtain ⟨k, h₀, h⟩ := pB_ok h
  obtain ⟨zk, ek⟩ := kLf_ok hD.2.1 h₀
  clear h₀
  obtain ⟨p, h₀, h⟩ := pB_ok h
  obtain ⟨zp, ep⟩ := kLf_ok hD.2.1 h₀
  clear h₀
  obtain ⟨r, h₀, h⟩ := pB_ok h
  obtain ⟨zr, er⟩ := kLf_ok hD.2.1 h₀
  clear h₀
  obtain ⟨m, h₀, h⟩ := pB_ok h
  obtain ⟨zm, em⟩ := kLf_ok hD.2.1 h₀
  clear h₀
  obtain ⟨w, h₀, h⟩ := pB_ok h
  obtain ⟨zw, ew⟩ := kLf_ok hD.2.1 h₀
  clear h₀
  obtain ⟨old, ho, h⟩ := pB_ok h
  obtain ⟨h₀, h⟩ := pI_ok h
  have d1 := sNN_ok hM (by (repeat' first | with_reducible assumption | exact sEv_C _ | with_reducible exact pvN | with_reducible apply pvC | with_reducible apply sEv_add | with_reducible apply sEv_sub | with_reducible apply sEv_mul)) h₀
  clear h₀
  obtain ⟨h₀, h⟩ := pI_ok h
  have d2 := sNN_ok hM (by (repeat' first | with_reducible assumption | exact sEv_C _ | with_reducible exact pvN | with_reducible apply pvC | with_reducible apply sEv_add | with_reducible apply sEv_sub | with_reducible apply sEv_mul)) h₀
  clear h₀
  obtain ⟨h₀, h⟩ := pI_ok h
  have d3 := sNN_ok hM (by (repeat' first | with_reducible assumption | exact sEv_C _ | with_reducible exact pvN | with_reducible apply pvC | with_reducible apply sEv_add | with_reducible apply sEv_sub | with_reducible apply sEv_mul)) h₀
  clear h₀
  obtain ⟨h₀, h⟩ := pI_ok h
  have d4 := sNN_ok hM (by (repeat' first | with_reducible assumption | exact sEv_C _ | with_reducible exact pvN | with_reducible apply pvC | with_reducible apply sEv_add | with_reducible apply sEv_sub | with_reducible apply sEv_mul)) h₀
  clear h₀
  obtain ⟨zo', eo', hC⟩ := pdF1_ok hD.2.2 k339 E (zq := [zk, zp, zw]) (by (repeat' first | with_reducible assumption | exact sEv_C _ | with_reducible exact pvN | with_reducible apply pvC | with_reducible apply sEv_add | with_reducible apply sEv_sub | with_reducible apply sEv_mul)) ho
  obtain ⟨P, cP, hP⟩ := pdC_of hC
  obtain ⟨hX, hN, hM', hG⟩ := pdC_f cP
  obtain ⟨k0, hbn⟩ := dBN.mp hP
  have ek1 := sEv_add ek (sEv_C 1)
  have ekk : ((zk.toNat : Nat) : Int) = zk := by omega
  split at h
  · rename_i ht
    obtain ⟨h₀, h⟩ := pI_ok h
    have c1 := of_decide_eq_true h₀
    clear h₀
    have hmo : zm = zo' := by
      rw [c1] at em
      exact Option.some.inj (em.symm.trans eo')
    have hor : pKn P zw.toNat = pK P zk.toNat ∨ pKn P zw.toNat = pK P (zk + 1).toNat := by
      rcases pOr ht with q | q
      · obtain ⟨-, -, -, -, hki⟩ := pdKi hM hD.2.2 cP hS ew ek en (of_decide_eq_true q)
        exact Or.inl (hki.mp rfl)
      · obtain ⟨-, -, -, -, hki⟩ := pdKi hM hD.2.2 cP hS ew ek1 en (of_decide_eq_true q)
        exact Or.inr (hki.mp rfl)
    exact pd_out h (pdMk k339 E (zs := [zk, zp, zw + 1, zm]) (by (repeat' first | with_reducible assumption | exact sEv_C _ | with_reducible exact pvN | with_reducible apply pvC | with_reducible apply sEv_add | with_reducible apply sEv_sub | with_reducible apply sEv_mul)) (pdC_mk cP (dBN.mpr ⟨k0, by rw [hmo]; exact pBl_n hbn hor⟩)))
  · obtain ⟨h₀, h⟩ := pI_ok h
    have c1 := of_decide_eq_true h₀
    clear h₀
    obtain ⟨h₀, h⟩ := pI_ok h
    have c2 := of_decide_eq_true h₀
    clear h₀
    obtain ⟨c3, h⟩ := pI_ok h
    obtain ⟨h₀, h⟩ := pI_ok h
    have d5 := sNN_ok hM (by (repeat' first | with_reducible assumption | exact sEv_C _ | with_reducible exact pvN | with_reducible apply pvC | with_reducible apply sEv_add | with_reducible apply sEv_sub | with_reducible apply sEv_mul)) h₀
    clear h₀
    obtain ⟨v', hv', h⟩ := pB_ok h
    cases hv'.symm.trans hv
    obtain ⟨g, hg, h⟩ := pB_ok h
    obtain ⟨c4, h⟩ := pI_ok h
    obtain ⟨-, -, -, -, hki⟩ := pdKi hM hD.2.2 cP hS ew ek en c1
    obtain ⟨-, -, -, -, hki1⟩ := pdKi hM hD.2.2 cP hS ew ek1 en c2
    obtain ⟨-, hal⟩ := dAL.mp (pdC_at cP (pdHz hD.2.2 k338 E (zs := [zk, zp, zN, zr]) (by (repeat' first | with_reducible assumption | exact sEv_C _ | with_reducible exact pvN | with_reducible apply pvC | with_reducible apply sEv_add | with_reducible apply sEv_sub | with_reducible apply sEv_mul)) c3))
    have hal := pAl_un (by omega) hal
    obtain ⟨zg, eg, hgg⟩ := pdGv hD.2.2 cP eh ew (sEv_add (sEv_add ek ep) (sEv_C 1)) (sEv_C 0) ev hk hg
    obtain ⟨s, es, hs⟩ := pdRn_ok hM (sEv_add er eg) c4
    refine pd_out h (pdMk k339 E (zs := [zk, zp, zw + 1, zm]) (by (repeat' first | with_reducible assumption | exact sEv_C _ | with_reducible exact pvN | with_reducible apply pvC | with_reducible apply sEv_add | with_reducible apply sEv_sub | with_reducible apply sEv_mul)) (pdC_mk cP (dBN.mpr ⟨k0, pBl_s hG (by omega) d1 hbn hal (fun q => absurd (hki.mpr q) (by decide)) (fun q => absurd (hki1.mpr q) (by decide)) (by rw [show zk + 1 + zp = zk + zp + 1 by omega]; exact hgg) (by omega) rfl ?_⟩)))
    rcases pOr hs with c | c
    · obtain ⟨q1, q2⟩ := pAnd c
      cases of_decide_eq_true q1
      cases em.symm.trans eo'
      have d := sNN_ok hM (sEv_sub es eo') q2
      exact Or.inl ⟨rfl, by omega⟩
    · obtain ⟨q1, q2⟩ := pAnd c
      cases of_decide_eq_true q1
      cases em.symm.trans es
      have d := sNN_ok hM (sEv_sub eo' es) q2
      exact Or.inr ⟨rfl, by omega⟩
theorem pdBNe_ok (nz : Nat) : kRok RO (pdBNe nz) := by
  intro K ws h ρ R hD
  have hM := hD.1
  unfold pdBNe at h
  obtain ⟨⟨hl, b, one, x, n, N⟩, hQ, h⟩ := pB_ok h
  obtain ⟨zh, zb, zo, zx, zn, zN, v, zv, eh, eb, eo, ex, en, eN, hv, ev, hk, hS⟩ := sfQ_ok hD hQ
  have E : pdE ρ hl b one x n N zh zb zo zx zn zN := ⟨eh, eb, eo, ex, en, eN⟩
  obtain ⟨k, h₀, h⟩ := pB_ok h
  obtain ⟨zk, ek⟩ := kLf_ok hD.2.1 h₀
  clear h₀
  obtain ⟨p, h₀, h⟩ := pB_ok h
  obtain ⟨zp, ep⟩ := kLf_ok hD.2.1 h₀
  clear h₀
  obtain ⟨r, h₀, h⟩ := pB_ok h
  obtain ⟨zr, er⟩ := kLf_ok hD.2.1 h₀
  clear h₀
  obtain ⟨m, h₀, h⟩ := pB_ok h
  obtain ⟨zm, em⟩ := kLf_ok hD.2.1 h₀
  clear h₀
  obtain ⟨q, hq, h⟩ := pB_ok h
  obtain ⟨qq, zs, ez, hC⟩ := pdFz hD.2.2 k339 E (q := [k, p]) hq
  split at h
  · rename_i w m'
    cases of_decide_eq_true qq
    obtain ⟨zk', zp', zw, zm', rfl, ek', ep', ew, em'⟩ := sVal_4 ez
    cases ep'.symm.trans ep
    cases ek'.symm.trans ek
    cases em'.symm.trans em
    obtain ⟨c1, h⟩ := pI_ok h
    obtain ⟨P, cP, hP⟩ := pdC_of hC
    obtain ⟨hX, hN, hM', hG⟩ := pdC_f cP
    obtain ⟨k0, hbn⟩ := dBN.mp hP
    refine pd_out h (pdMk k339 E (zs := [zk, zp, zN, zm]) (by (repeat' first | with_reducible assumption | exact sEv_C _ | with_reducible exact pvN | with_reducible apply pvC | with_reducible apply sEv_add | with_reducible apply sEv_sub | with_reducible apply sEv_mul)) (pdC_mk cP (dBN.mpr ⟨k0, ?_⟩)))
    rcases pOr c1 with c | c
    · obtain ⟨q1, q2⟩ := pAnd c
      have d1 := sNN_ok hM (sEv_sub ew eN) q1
      have d2 := sNN_ok hM (sEv_sub eN ew) q2
      rw [show zN = zw by omega]
      exact hbn
    · obtain ⟨q1, q2⟩ := pAnd c
      have d1 := sNN_ok hM (sEv_sub (sEv_sub er ex) (sEv_C 1)) q2
      obtain ⟨-, hal⟩ := dAL.mp (pdC_at cP (pdHz hD.2.2 k338 E (zs := [zk, zp, zN, zr]) (by (repeat' first | with_reducible assumption | exact sEv_C _ | with_reducible exact pvN | with_reducible apply pvC | with_reducible apply sEv_add | with_reducible apply sEv_sub | with_reducible apply sEv_mul)) q1))
      exact pBl_y hbn (pAl_un (by omega) hal) (by omega)
  · cases h
theorem pdNPs_ok (nz : Nat) : kRok RO (pdNPs nz) := by
  intro K ws h ρ R hD
  have hM := hD.1
  unfold pdNPs at h
  obtain ⟨c, h₀, h⟩ := pB_ok h
  have hc := pdPin_lt h₀
  clear h₀
  obtain ⟨⟨hl, b, one, x, n, N⟩, hQ, h⟩ := pB_ok h
  obtain ⟨zh, zb, zo, zx, zn, zN, v, zv, eh, eb, eo, ex, en, eN, hv, ev, hk, hS⟩ := sfQ_ok hD hQ
  have E : pdE ρ hl b one x n N zh zb zo zx zn zN := ⟨eh, eb, eo, ex, en, eN⟩
  obtain ⟨k, h₀, h⟩ := pB_ok h
  obtain ⟨zk, ek⟩ := kLf_ok hD.2.1 h₀
  clear h₀
  obtain ⟨p, h₀, h⟩ := pB_ok h
  obtain ⟨zp, ep⟩ := kLf_ok hD.2.1 h₀
  clear h₀
  obtain ⟨m, h₀, h⟩ := pB_ok h
  obtain ⟨zm, em⟩ := kLf_ok hD.2.1 h₀
  clear h₀
  obtain ⟨w, h₀, h⟩ := pB_ok h
  obtain ⟨zw, ew⟩ := kLf_ok hD.2.1 h₀
  clear h₀
  obtain ⟨h₀, h⟩ := pI_ok h
  have d1 := sNN_ok hM (by (repeat' first | with_reducible assumption | exact sEv_C _ | with_reducible exact pvN | with_reducible apply pvC | with_reducible apply sEv_add | with_reducible apply sEv_sub | with_reducible apply sEv_mul)) h₀
  clear h₀
  obtain ⟨h₀, h⟩ := pI_ok h
  have d2 := sNN_ok hM (by (repeat' first | with_reducible assumption | exact sEv_C _ | with_reducible exact pvN | with_reducible apply pvC | with_reducible apply sEv_add | with_reducible apply sEv_sub | with_reducible apply sEv_mul)) h₀
  clear h₀
  obtain ⟨h₀, h⟩ := pI_ok h
  have d3 := sNN_ok hM (by (repeat' first | with_reducible assumption | exact sEv_C _ | with_reducible exact pvN | with_reducible apply pvC | with_reducible apply sEv_add | with_reducible apply sEv_sub | with_reducible apply sEv_mul)) h₀
  clear h₀
  obtain ⟨h₀, h⟩ := pI_ok h
  have d4 := sNN_ok hM (by (repeat' first | with_reducible assumption | exact sEv_C _ | with_reducible exact pvN | with_reducible apply pvC | with_reducible apply sEv_add | with_reducible apply sEv_sub | with_reducible apply sEv_mul)) h₀
  clear h₀
  obtain ⟨h₀, h⟩ := pI_ok h
  have d5 := sNN_ok hM (by (repeat' first | with_reducible assumption | exact sEv_C _ | with_reducible exact pvN | with_reducible apply pvC | with_reducible apply sEv_add | with_reducible apply sEv_sub | with_reducible apply sEv_mul)) h₀
  clear h₀
  obtain ⟨h₀, h⟩ := pI_ok h
  have d6 := sNN_ok hM (by (repeat' first | with_reducible assumption | exact sEv_C _ | with_reducible exact pvN | with_reducible apply pvC | with_reducible apply sEv_add | with_reducible apply sEv_sub | with_reducible apply sEv_mul)) h₀
  clear h₀
  obtain ⟨t, ht, h⟩ := pB_ok h
  have ek1 := sEv_add ek (sEv_C 1)
  cases t
  · obtain ⟨c1, h⟩ := pI_ok h
    obtain ⟨P, cP, hP⟩ := pdC_of (pdHz hD.2.2 (k326 hc) E (zs := [zk, zp, zw]) (by (repeat' first | with_reducible assumption | exact sEv_C _ | with_reducible exact pvN | with_reducible apply pvC | with_reducible apply sEv_add | with_reducible apply sEv_sub | with_reducible apply sEv_mul)) c1)
    obtain ⟨f, f1, k0, f2⟩ := (dNP hc).mp hP
    obtain ⟨-, -, -, -, hki⟩ := pdKi hM hD.2.2 cP hS ew ek1 en ht
    refine pd_out h (pdMk (k326 hc) E (zs := [zk, zp, zw + 1]) (by (repeat' first | with_reducible assumption | exact sEv_C _ | with_reducible exact pvN | with_reducible apply pvC | with_reducible apply sEv_add | with_reducible apply sEv_sub | with_reducible apply sEv_mul)) (pdC_mk cP ((dNP hc).mpr ⟨f, f1, k0, pNp_k f2 (fun r q => ?_)⟩)))
    have q3 := q.2.2.1
    rw [Int.toNat_of_nonneg k0] at q3
    exact absurd (hki.mpr q3) (by decide)
  · obtain ⟨c1, h⟩ := pI_ok h
    obtain ⟨h₀, h⟩ := pI_ok h
    have d8 := sNN_ok hM (by (repeat' first | with_reducible assumption | exact sEv_C _ | with_reducible exact pvN | with_reducible apply pvC | with_reducible apply sEv_add | with_reducible apply sEv_sub | with_reducible apply sEv_mul)) h₀
    clear h₀
    obtain ⟨v', hv', h⟩ := pB_ok h
    cases hv'.symm.trans hv
    obtain ⟨g, hg, h⟩ := pB_ok h
    obtain ⟨c2, h⟩ := pI_ok h
    obtain ⟨P, cP, hP⟩ := pdC_of (pdHz hD.2.2 k339 E (zs := [zk, zp, zN, zm]) (by (repeat' first | with_reducible assumption | exact sEv_C _ | with_reducible exact pvN | with_reducible apply pvC | with_reducible apply sEv_add | with_reducible apply sEv_sub | with_reducible apply sEv_mul)) c1)
    obtain ⟨hX, hN, hM', hG⟩ := pdC_f cP
    obtain ⟨k0, hbn⟩ := dBN.mp hP
    obtain ⟨w0, w16, -, kn, hki⟩ := pdKi hM hD.2.2 cP hS ew ek1 en ht
    have hki := hki.mp rfl
    obtain ⟨zg, eg, hgg⟩ := pdGv hD.2.2 cP eh ew (sEv_add (sEv_add ek ep) (sEv_C 2)) (sEv_C 0) ev hk hg
    obtain ⟨run, er, hof⟩ := pdRn_ok hM (sEv_add em eg) c2
    obtain ⟨f, f0, f1, f2, f3, f4⟩ := pdOf_ok hD hc (Or.inr (Or.inl ⟨rfl, rfl⟩)) E cP (zp := [zk, zp, zw]) (by (repeat' first | with_reducible assumption | exact sEv_C _ | with_reducible exact pvN | with_reducible apply pvC | with_reducible apply sEv_add | with_reducible apply sEv_sub | with_reducible apply sEv_mul)) er (pd16_ev (sEv_add ep (sEv_C 1)) ew) (by omega) hof
    obtain ⟨-, f2⟩ : 0 ≤ zk ∧ pNp P f0 zk.toNat zp zw := f2
    have ho := f2 (zp + 1) zw (by omega) (by omega) w0 w16
    obtain ⟨j, rfl⟩ : ∃ j : Nat, zk = (j : Int) := ⟨zk.toNat, by omega⟩
    rw [Int.toNat_natCast] at f2 hbn ho
    rw [← hM'] at hbn
    have hm := pDe_s hG (R := pR P j) (k := (j : Int)) (p := zp) (w := zw) (by omega) (pMl_mn hbn (by omega)) w0 (by omega) hki (by rw [show (j : Int) + 1 + zp + 1 = j + zp + 2 by omega]; exact hgg)
    exact pd_out h (pdMk (k326 hc) E (zs := [(j : Int), zp, zw + 1]) (by (repeat' first | with_reducible assumption | exact sEv_C _ | with_reducible exact pvN | with_reducible apply pvC | with_reducible apply sEv_add | with_reducible apply sEv_sub | with_reducible apply sEv_mul)) (pdC_mk cP ((dNP hc).mpr ⟨f, f1, by omega, by
      rw [Int.toNat_natCast]
      exact pNp_s (by omega) d5 w0 w16 f2 hm f3 (pOfr (by omega) ho (by omega) rfl (by rw [hX]; exact f4))⟩)))
theorem pdNPe_ok (nz : Nat) : kRok RO (pdNPe nz) := by
  intro K ws h ρ R hD
  have hM := hD.1
  unfold pdNPe at h
  obtain ⟨c, h₀, h⟩ := pB_ok h
  have hc := pdPin_lt h₀
  clear h₀
  obtain ⟨⟨hl, b, one, x, n, N⟩, hQ, h⟩ := pB_ok h
  obtain ⟨zh, zb, zo, zx, zn, zN, v, zv, eh, eb, eo, ex, en, eN, hv, ev, hk, hS⟩ := sfQ_ok hD hQ
  have E : pdE ρ hl b one x n N zh zb zo zx zn zN := ⟨eh, eb, eo, ex, en, eN⟩
  obtain ⟨k, h₀, h⟩ := pB_ok h
  obtain ⟨zk, ek⟩ := kLf_ok hD.2.1 h₀
  clear h₀
  obtain ⟨p, h₀, h⟩ := pB_ok h
  obtain ⟨zp, ep⟩ := kLf_ok hD.2.1 h₀
  clear h₀
  obtain ⟨m, h₀, h⟩ := pB_ok h
  obtain ⟨zm, em⟩ := kLf_ok hD.2.1 h₀
  clear h₀
  obtain ⟨w, hw, h⟩ := pB_ok h
  obtain ⟨c1, h⟩ := pI_ok h
  obtain ⟨zw, ew, hq⟩ := pdF1_ok hD.2.2 (k326 hc) E (zq := [zk, zp]) (by (repeat' first | with_reducible assumption | exact sEv_C _ | with_reducible exact pvN | with_reducible apply pvC | with_reducible apply sEv_add | with_reducible apply sEv_sub | with_reducible apply sEv_mul)) hw
  obtain ⟨P, cP, hP⟩ := pdC_of hq
  obtain ⟨hX, hN, hM', hG⟩ := pdC_f cP
  obtain ⟨f, f1, k0, f2⟩ := (dNP hc).mp hP
  refine pd_out h (pdMk (k324 hc) E (zs := [zk, zp + 1, 0, 0]) (by (repeat' first | with_reducible assumption | exact sEv_C _ | with_reducible exact pvN | with_reducible apply pvC | with_reducible apply sEv_add | with_reducible apply sEv_sub | with_reducible apply sEv_mul)) (pdC_mk cP ((dND hc).mpr ⟨f, f1, k0, pNp_d (pNp_n f2 ?_)⟩)))
  rcases pOr c1 with c1 | c1
  · have d := sNN_ok hM (sEv_sub ew eN) c1
    exact Or.inl (by omega)
  · obtain ⟨c1, c2⟩ := pAnd c1
    have d := sNN_ok hM (sEv_sub (sEv_sub em ex) (sEv_C 1)) c2
    obtain ⟨-, hbn⟩ := dBN.mp (pdC_at cP (pdHz hD.2.2 k339 E (zs := [zk, zp, zN, zm]) (by (repeat' first | with_reducible assumption | exact sEv_C _ | with_reducible exact pvN | with_reducible apply pvC | with_reducible apply sEv_add | with_reducible apply sEv_sub | with_reducible apply sEv_mul)) c1))
    obtain ⟨j, rfl⟩ : ∃ j : Nat, zk = (j : Int) := ⟨zk.toNat, by omega⟩
    rw [Int.toNat_natCast] at hbn ⊢
    rw [← hM'] at hbn
    exact Or.inr (pDe_none hbn (by omega))
theorem pdRUn_ok (nz : Nat) : kRok RO (pdRUn nz) := by
  intro K ws h ρ R hD
  have hM := hD.1
  unfold pdRUn at h
  obtain ⟨c, h₀, h⟩ := pB_ok h
  have hc := pdPin_lt h₀
  clear h₀
  obtain ⟨⟨hl, b, one, x, n, N⟩, hQ, h⟩ := pB_ok h
  obtain ⟨zh, zb, zo, zx, zn, zN, v, zv, eh, eb, eo, ex, en, eN, hv, ev, hk, hS⟩ := sfQ_ok hD hQ
  have E : pdE ρ hl b one x n N zh zb zo zx zn zN := ⟨eh, eb, eo, ex, en, eN⟩
  obtain ⟨k, h₀, h⟩ := pB_ok h
  obtain ⟨zk, ek⟩ := kLf_ok hD.2.1 h₀
  clear h₀
  obtain ⟨c1, h⟩ := pI_ok h
  obtain ⟨c2, h⟩ := pI_ok h
  obtain ⟨c3, h⟩ := pI_ok h
  have hC := pdHz hD.2.2 (k322 hc) E (zs := [zk]) (by (repeat' first | with_reducible assumption | exact sEv_C _ | with_reducible exact pvN | with_reducible apply pvC | with_reducible apply sEv_add | with_reducible apply sEv_sub | with_reducible apply sEv_mul)) c2
  have := kEqf_ok hM ek (sEv_sub en (sEv_C 1)) c3
  subst this
  exact pd_out h (pdMk (k322 hc) E (zs := [zn - 1]) (by (repeat' first | with_reducible assumption | exact sEv_C _ | with_reducible exact pvN | with_reducible apply pvC | with_reducible apply sEv_add | with_reducible apply sEv_sub | with_reducible apply sEv_mul)) hC)
theorem pdPCi_ok (nz : Nat) : kRok RO (pdPCi nz) := by
  intro K ws h ρ R hD
  have hM := hD.1
  unfold pdPCi at h
  obtain ⟨c, h₀, h⟩ := pB_ok h
  have hc := pdPin_lt h₀
  clear h₀
  obtain ⟨⟨hl, b, one, x, n, N⟩, hQ, h⟩ := pB_ok h
  obtain ⟨zh, zb, zo, zx, zn, zN, v, zv, eh, eb, eo, ex, en, eN, hv, ev, hk, hS⟩ := sfQ_ok hD hQ
  have E : pdE ρ hl b one x n N zh zb zo zx zn zN := ⟨eh, eb, eo, ex, en, eN⟩
  obtain ⟨i, h₀, h⟩ := pB_ok h
  obtain ⟨zi, ei⟩ := kLf_ok hD.2.1 h₀
  clear h₀
  obtain ⟨h₀, h⟩ := pI_ok h
  have c1 := of_decide_eq_true h₀
  clear h₀
  obtain ⟨c2, h⟩ := pI_ok h
  obtain ⟨c3, h⟩ := pI_ok h
  obtain ⟨P, cP, hP⟩ := pdC_of (pdHz hD.2.2 (k322 hc) E (zs := [zn - 1]) (by (repeat' first | with_reducible assumption | exact sEv_C _ | with_reducible exact pvN | with_reducible apply pvC | with_reducible apply sEv_add | with_reducible apply sEv_sub | with_reducible apply sEv_mul)) c3)
  exact pd_out h (pdMk k341 E (zs := [0]) (by (repeat' first | with_reducible assumption | exact sEv_C _ | with_reducible exact pvN | with_reducible apply pvC | with_reducible apply sEv_add | with_reducible apply sEv_sub | with_reducible apply sEv_mul)) (pdC_mk cP (dPXc.mpr (fun p w r q => by
    have := pR_rng _ q
    omega))))
theorem pdRuv_ok {K : kS} {R : eR} (hD : kD (kGP (kUP RO)) ρ K R) {c : Nat} (hc : c < 2) (E : pdE ρ hl b one x n N zh zb zo zx zn zN) (cP : pdC R.2.2.2.1 P zh zb zo zx zn zN) {i v : sL} {zi : Int} (ei : sEv ρ i = some zi) (h : pdRuv K c hl b one x n N i = some v) : ∃ zv, sEv ρ v = some zv ∧ 0 ≤ zi ∧ zi ≤ 127 ∧ ∀ p w, 0 ≤ w → w < 16 → 16 * p + w = zi → pMn (pX P) (pR P (pN P - 1).toNat p w) zv := by
  have hM := hD.1
  have en := E.2.2.2.2.1
  unfold pdRuv at h
  obtain ⟨v', hv, h⟩ := pB_ok h
  obtain ⟨zv, ev, kv⟩ := kFindEl_ok hD.2.2 hv ei
  obtain ⟨h₀, h⟩ := pI_ok h
  have r1 := sWi_ok hM.1 (by (repeat' first | with_reducible assumption | exact sEv_C _ | with_reducible exact pvN | with_reducible apply pvC | with_reducible apply sEv_add | with_reducible apply sEv_sub | with_reducible apply sEv_mul)) h₀
  clear h₀
  obtain ⟨c1, h⟩ := pI_ok h
  obtain ⟨h₀, h⟩ := pI_ok h
  have d1 := sNN_ok hM (by (repeat' first | with_reducible assumption | exact sEv_C _ | with_reducible exact pvN | with_reducible apply pvC | with_reducible apply sEv_add | with_reducible apply sEv_sub | with_reducible apply sEv_mul)) h₀
  clear h₀
  obtain ⟨h₀, h⟩ := pI_ok h
  have d2 := sNN_ok hM (by (repeat' first | with_reducible assumption | exact sEv_C _ | with_reducible exact pvN | with_reducible apply pvC | with_reducible apply sEv_add | with_reducible apply sEv_sub | with_reducible apply sEv_mul)) h₀
  clear h₀
  cases h
  obtain ⟨f, f1, -, f2⟩ := (dRU hc).mp (pdC_at cP (pdHz hD.2.2 (k322 hc) E (zs := [zn - 1]) (by (repeat' first | with_reducible assumption | exact sEv_C _ | with_reducible exact pvN | with_reducible apply pvC | with_reducible apply sEv_add | with_reducible apply sEv_sub | with_reducible apply sEv_mul)) c1))
  obtain ⟨-, hz⟩ := pdEl kv f1 r1
  refine ⟨zv, ev, d1, by omega, fun p w w0 w1 he => ?_⟩
  have q := f2 p w (by omega) (by omega) w0 w1
  rw [he, hz] at q
  rw [(pdC_f cP).2.1]
  exact q
theorem pdPCs_ok (nz : Nat) : kRok RO (pdPCs nz) := by
  intro K ws h ρ R hD
  have hM := hD.1
  unfold pdPCs at h
  obtain ⟨c, h₀, h⟩ := pB_ok h
  have hc := pdPin_lt h₀
  clear h₀
  obtain ⟨⟨hl, b, one, x, n, N⟩, hQ, h⟩ := pB_ok h
  obtain ⟨zh, zb, zo, zx, zn, zN, v, zv, eh, eb, eo, ex, en, eN, hv, ev, hk, hS⟩ := sfQ_ok hD hQ
  have E : pdE ρ hl b one x n N zh zb zo zx zn zN := ⟨eh, eb, eo, ex, en, eN⟩
  obtain ⟨i, h₀, h⟩ := pB_ok h
  obtain ⟨zi, ei⟩ := kLf_ok hD.2.1 h₀
  clear h₀
  obtain ⟨c1, h⟩ := pI_ok h
  obtain ⟨v', hv', h⟩ := pB_ok h
  obtain ⟨P, cP, hP⟩ := pdC_of (pdHz hD.2.2 k341 E (zs := [zi]) (by (repeat' first | with_reducible assumption | exact sEv_C _ | with_reducible exact pvN | with_reducible apply pvC | with_reducible apply sEv_add | with_reducible apply sEv_sub | with_reducible apply sEv_mul)) c1)
  obtain ⟨hX, hN, hM', hG⟩ := pdC_f cP
  have hP := dPXc.mp hP
  obtain ⟨zv', ev', i0, i1, hru⟩ := pdRuv_ok hD hc E cP ei hv'
  obtain ⟨h₀, h⟩ := pI_ok h
  have d1 := sNN_ok hM (by (repeat' first | with_reducible assumption | exact sEv_C _ | with_reducible exact pvN | with_reducible apply pvC | with_reducible apply sEv_add | with_reducible apply sEv_sub | with_reducible apply sEv_mul)) h₀
  clear h₀
  obtain ⟨h₀, h⟩ := pI_ok h
  have d2 := sNN_ok hM (by (repeat' first | with_reducible assumption | exact sEv_C _ | with_reducible exact pvN | with_reducible apply pvC | with_reducible apply sEv_add | with_reducible apply sEv_sub | with_reducible apply sEv_mul)) h₀
  clear h₀
  refine pd_out h (pdMk k341 E (zs := [zi + 1]) (by (repeat' first | with_reducible assumption | exact sEv_C _ | with_reducible exact pvN | with_reducible apply pvC | with_reducible apply sEv_add | with_reducible apply sEv_sub | with_reducible apply sEv_mul)) (pdC_mk cP (dPXc.mpr (fun p w r q => ?_))))
  have h1 := hP p w r q
  have h2 := pR_rng _ q
  by_cases e : 16 * p + w = zi
  · exact absurd q (pMn_n (hru p w (by omega) (by omega) e) (by omega) r)
  · omega
theorem pdPCe_ok (nz : Nat) : kRok RO (pdPCe nz) := by
  intro K ws h ρ R hD
  have hM := hD.1
  unfold pdPCe at h
  obtain ⟨c, h₀, h⟩ := pB_ok h
  have hc := pdPin_lt h₀
  clear h₀
  obtain ⟨⟨hl, b, one, x, n, N⟩, hQ, h⟩ := pB_ok h
  obtain ⟨zh, zb, zo, zx, zn, zN, v, zv, eh, eb, eo, ex, en, eN, hv, ev, hk, hS⟩ := sfQ_ok hD hQ
  have E : pdE ρ hl b one x n N zh zb zo zx zn zN := ⟨eh, eb, eo, ex, en, eN⟩
  obtain ⟨i, h₀, h⟩ := pB_ok h
  obtain ⟨zi, ei⟩ := kLf_ok hD.2.1 h₀
  clear h₀
  obtain ⟨r, h₀, h⟩ := pB_ok h
  obtain ⟨zr, er⟩ := nTop_ev hD.2.1 h₀
  clear h₀
  obtain ⟨c1, h⟩ := pI_ok h
  obtain ⟨h₀, h⟩ := pI_ok h
  have d1 := sNN_ok hM (by (repeat' first | with_reducible assumption | exact sEv_C _ | with_reducible exact pvN | with_reducible apply pvC | with_reducible apply sEv_add | with_reducible apply sEv_sub | with_reducible apply sEv_mul)) h₀
  clear h₀
  obtain ⟨h₀, h⟩ := pI_ok h
  have d2 := sNN_ok hM (by (repeat' first | with_reducible assumption | exact sEv_C _ | with_reducible exact pvN | with_reducible apply pvC | with_reducible apply sEv_add | with_reducible apply sEv_sub | with_reducible apply sEv_mul)) h₀
  clear h₀
  obtain ⟨P, cP, hP⟩ := pdC_of (pdHz hD.2.2 k341 E (zs := [zi]) (by (repeat' first | with_reducible assumption | exact sEv_C _ | with_reducible exact pvN | with_reducible apply pvC | with_reducible apply sEv_add | with_reducible apply sEv_sub | with_reducible apply sEv_mul)) c1)
  obtain ⟨hX, hN, hM', hG⟩ := pdC_f cP
  have hP := dPXc.mp hP
  split at h
  · rename_i ht
    have hr := of_decide_eq_true ht
    obtain ⟨h₀, h⟩ := pI_ok h
    have d3 := sNN_ok hM (by (repeat' first | with_reducible assumption | exact sEv_C _ | with_reducible exact pvN | with_reducible apply pvC | with_reducible apply sEv_add | with_reducible apply sEv_sub | with_reducible apply sEv_mul)) h₀
    clear h₀
    obtain ⟨h₀, h⟩ := pI_ok h
    have d4 := sNN_ok hM (by (repeat' first | with_reducible assumption | exact sEv_C _ | with_reducible exact pvN | with_reducible apply pvC | with_reducible apply sEv_add | with_reducible apply sEv_sub | with_reducible apply sEv_mul)) h₀
    clear h₀
    refine pd_out h (pdMk k342 E (zs := [-2]) (by (repeat' first | with_reducible assumption | exact sEv_C _ | with_reducible exact pvN | with_reducible apply pvC | with_reducible apply sEv_add | with_reducible apply sEv_sub | with_reducible apply sEv_mul)) (pdC_mk cP (dPXQ.mpr (Or.inr ⟨by omega, Or.inl ⟨rfl, fun p a s q => ?_⟩⟩))))
    have h1 := hP p a s q
    have h2 := pR_rng _ q
    omega
  · obtain ⟨v', hv', h⟩ := pB_ok h
    obtain ⟨zv', ev', i0, i1, hru⟩ := pdRuv_ok hD hc E cP ei hv'
    obtain ⟨h₀, h⟩ := pI_ok h
    have d3 := sNN_ok hM (by (repeat' first | with_reducible assumption | exact sEv_C _ | with_reducible exact pvN | with_reducible apply pvC | with_reducible apply sEv_add | with_reducible apply sEv_sub | with_reducible apply sEv_mul)) h₀
    clear h₀
    obtain ⟨h₀, h⟩ := pI_ok h
    have d4 := sNN_ok hM (by (repeat' first | with_reducible assumption | exact sEv_C _ | with_reducible exact pvN | with_reducible apply pvC | with_reducible apply sEv_add | with_reducible apply sEv_sub | with_reducible apply sEv_mul)) h₀
    clear h₀
    obtain ⟨h₀, h⟩ := pI_ok h
    have d5 := sNN_ok hM (by (repeat' first | with_reducible assumption | exact sEv_C _ | with_reducible exact pvN | with_reducible apply pvC | with_reducible apply sEv_add | with_reducible apply sEv_sub | with_reducible apply sEv_mul)) h₀
    clear h₀
    obtain ⟨h₀, h⟩ := pI_ok h
    have d6 := sNN_ok hM (by (repeat' first | with_reducible assumption | exact sEv_C _ | with_reducible exact pvN | with_reducible apply pvC | with_reducible apply sEv_add | with_reducible apply sEv_sub | with_reducible apply sEv_mul)) h₀
    clear h₀
    have hS := pMn_x (hru zr (zi - 16 * zr) (by omega) (by omega) (by omega)) (by omega) (by omega)
    refine pd_ou2 h (pdMk k342 E (zs := [zr]) (by (repeat' first | with_reducible assumption | exact sEv_C _ | with_reducible exact pvN | with_reducible apply pvC | with_reducible apply sEv_add | with_reducible apply sEv_sub | with_reducible apply sEv_mul)) (pdC_mk cP (dPXQ.mpr (Or.inr ⟨by omega, Or.inr ⟨⟨_, _, hS⟩, fun p a s q => ?_⟩⟩)))) er (by omega) (by omega)
    have h1 := hP p a s q
    have h2 := pR_rng _ q
    omega
theorem pdPC0_ok (nz : Nat) : kRok RO (pdPC0 nz) := by
  intro K ws h ρ R hD
  have hM := hD.1
  unfold pdPC0 at h
  obtain ⟨⟨hl, b, one, x, n, N⟩, hQ, h⟩ := pB_ok h
  obtain ⟨zh, zb, zo, zx, zn, zN, v, zv, eh, eb, eo, ex, en, eN, hv, ev, hk, hS⟩ := sfQ_ok hD hQ
  have E : pdE ρ hl b one x n N zh zb zo zx zn zN := ⟨eh, eb, eo, ex, en, eN⟩
  obtain ⟨r, h₀, h⟩ := pB_ok h
  obtain ⟨zr, er⟩ := nTop_ev hD.2.1 h₀
  clear h₀
  obtain ⟨h₀, h⟩ := pI_ok h
  have c1 := of_decide_eq_true h₀
  clear h₀
  obtain ⟨h₀, h⟩ := pI_ok h
  have c2 := of_decide_eq_true h₀
  clear h₀
  obtain ⟨c3, h⟩ := pI_ok h
  have hz := sK_ok hM.1 en c2
  subst hz
  obtain ⟨P, cP⟩ := pdC_NE (zh := zh) (zb := zb) (zo := zo) (zx := zx) (zn := 0) (zN := zN) hD.2.2 c3 hS
  exact pd_out h (pdMk k342 E (zs := [0]) (by (repeat' first | with_reducible assumption | exact sEv_C _ | with_reducible exact pvN | with_reducible apply pvC | with_reducible apply sEv_add | with_reducible apply sEv_sub | with_reducible apply sEv_mul)) (pdC_mk cP (dPXQ.mpr (Or.inl ⟨(pdC_f cP).2.1, rfl⟩))))
theorem dPX {zh zb zl zo zN zr : Int} : nUP 343 [zh, zb, zl, zo, zN, zr] H ↔ ∃ n, pNK H zb zl n ∧ pC H zh zb (sOp 9 zo 100) (sOp 10 zo 100) n zN (fun P => pPx P n zr) := by
  refine (pdUP (by decide)).trans ⟨fun q => ?_, fun q => ?_⟩
  · obtain ⟨a1, a2, a3, a4, a5, a6, he, q⟩ : ∃ hl b le ox N r, [zh, zb, zl, zo, zN, zr] = [hl, b, le, ox, N, r] ∧ ∃ n, pNK H b le n ∧ pC H hl b (sOp 9 ox 100) (sOp 10 ox 100) n N (fun P => pPx P n r) := q
    cases he
    exact q
  · exact show ∃ hl b le ox N r, [zh, zb, zl, zo, zN, zr] = [hl, b, le, ox, N, r] ∧ ∃ n, pNK H b le n ∧ pC H hl b (sOp 9 ox 100) (sOp 10 ox 100) n N (fun P => pPx P n r) from ⟨_, _, _, _, _, _, rfl, q⟩
theorem pdPXa {hl b le ox N r : sL} {zh zb zl zo zN zr zn : Int} (e1 : sEv ρ hl = some zh) (e2 : sEv ρ b = some zb) (e3 : sEv ρ le = some zl) (e4 : sEv ρ ox = some zo) (e5 : sEv ρ N = some zN) (e6 : sEv ρ r = some zr) (h1 : pNK H zb zl zn) (h2 : pC H zh zb (sOp 9 zo 100) (sOp 10 zo 100) zn zN (fun P => pPx P zn zr)) : kGh (kGP (kUP RO)) ρ [(343, [hl, b, le, ox, N, r])] H := kAt1 (zs := [zh, zb, zl, zo, zN, zr]) (by decide) (by (repeat' first | with_reducible assumption | exact sEv_C _ | with_reducible exact pvN | with_reducible apply pvC | with_reducible apply sEv_add | with_reducible apply sEv_sub | with_reducible apply sEv_mul)) ((kUPn (by decide)).mpr (dPX.mpr ⟨zn, h1, h2⟩))
theorem pdPXx_ok (nz : Nat) : kRok RO (pdPXx nz) := by
  intro K ws h ρ R hD
  have hM := hD.1
  unfold pdPXx at h
  obtain ⟨⟨hl, b, one, x, n, N⟩, hQ, h⟩ := pB_ok h
  obtain ⟨zh, zb, zo, zx, zn, zN, v, zv, eh, eb, eo, ex, en, eN, hv, ev, hk, hS⟩ := sfQ_ok hD hQ
  have E : pdE ρ hl b one x n N zh zb zo zx zn zN := ⟨eh, eb, eo, ex, en, eN⟩
  obtain ⟨ox, h₀, h⟩ := pB_ok h
  obtain ⟨zox, eox⟩ := kLf_ok hD.2.1 h₀
  clear h₀
  obtain ⟨r, h₀, h⟩ := pB_ok h
  obtain ⟨zr, er⟩ := nTop_ev hD.2.1 h₀
  clear h₀
  obtain ⟨q, hq, h⟩ := pB_ok h
  split at h
  · rename_i b2 le n2
    obtain ⟨h₀, h⟩ := pI_ok h
    have c1 := of_decide_eq_true h₀
    clear h₀
    obtain ⟨h₀, h⟩ := pI_ok h
    have c2 := of_decide_eq_true h₀
    clear h₀
    obtain ⟨c3, h⟩ := pI_ok h
    have e1 := nDl_ok hM eox (sEv_C 100) c1
    have e2 := nDl_ok hM eox (sEv_C 100) c2
    cases e1.symm.trans eo
    cases e2.symm.trans ex
    obtain ⟨zl, el, hNK⟩ := sfKNe hD.2.2 eb en hq
    obtain ⟨P, cP, hP⟩ := pdC_of (pdHz hD.2.2 k342 E (zs := [zr]) (by (repeat' first | with_reducible assumption | exact sEv_C _ | with_reducible exact pvN | with_reducible apply pvC | with_reducible apply sEv_add | with_reducible apply sEv_sub | with_reducible apply sEv_mul)) c3)
    have hP := dPXQ.mp hP
    rw [(pdC_f cP).2.1] at hP
    exact pd_out h (pdPXa eh eb el eox eN er hNK (pdC_mk cP hP))
  · cases h
end PDD
end
