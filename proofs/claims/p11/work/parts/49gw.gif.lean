/-! What a word gives: kept, found, laid down. -/
noncomputable section
/-- the place of what is kept -/
def nKey (w p b : sL) : sL := sAdd (sAdd (sMul 160 p) (sMul 16 b)) w
/-- what is kept for this turn -/
def nGH (K : kS) : Option kWs := match kFa K.2 82 (fun _ => true), kFa K.2 62 (fun _ => true), kLf K.1.2.1 1, kLf K.1.2.1 2, kLf K.1.2.1 3, kTop K with
  | some [t, nv], some [_, hl], some w, some p, some b, some r => (match kFindEl K.2 26 (nKey w p b) with
    | some x => (match nDl K.1.2.2.2.2.2.2 7 x (sC 8), nDl K.1.2.2.2.2.2.2 3 x (sC 255) with
      | some y, some z => if (decide (sK K.1.2.2.2.2.2.2.1 hl = some 1) && (sWi K.1.2.2.2.2.2.2.1 w 0 15 && (sWi K.1.2.2.2.2.2.2.1 b 0 9 && (sWi K.1.2.2.2.2.2.2.1 p 0 15 && (kEqf K.1.2.2.2.2.2.2 y t && decide (r = sSub z (sC 128))))))) = true then some [([(81, [hl, w, p, b, nv, r])], [(r, -99, 99)])] else none
      | _, _ => none)
    | none => none)
  | _, _, _, _, _, _ => none
/-- what the law gives, of a word -/
def nGVr (K : kS) : Option kWs := match kFa K.2 74 (fun _ => true), kLf K.1.2.1 1 with
  | some [hl, n, k, l, p, b, v, r], some w => if (decide (kFindEl K.2 53 w = some n) && (decide (kFindEl K.2 54 w = some k) && (decide (kFindEl K.2 55 w = some l) && (sI32 K.1.2.2.2.2.2.2.1 n && (sI32 K.1.2.2.2.2.2.2.1 k && (sI32 K.1.2.2.2.2.2.2.1 l && (sInR K.1.2.2.2.2.2.2 w 16 && ((kFa K.2 75 (fun _ => true)).isSome && ((kFa K.2 76 (fun _ => true)).isSome && (kFa K.2 77 (fun _ => true)).isSome))))))))) = true then some [([(81, [hl, w, p, b, v, r])], [])] else none
  | _, _ => none
/-- what is laid down for a turn -/
def nPut (Γ : sG) (t r x : sL) : Bool := sWi Γ.1 t 0 8000000 && (match nDl Γ 6 t (sC 8) with
  | some y => (match kNr Γ (sAdd y r) with
    | some s => decide (kNr Γ (sAdd s (sC 128)) = some x)
    | none => false)
  | none => false)
def nCAq (Γ : sG) (t nv i x : sL) (q : kA) : Bool := decide (q.1 = 81) && (match q.2 with
  | [hl, w, p, b, v, r] => decide (v = nv) && (decide (sK Γ.1 hl = some 1) && (decide (i = nKey w p b) && (sWi Γ.1 w 0 15 && (sWi Γ.1 b 0 9 && (sWi Γ.1 p 0 15 && (sWf Γ r (-99) 99 && nPut Γ t r x))))))
  | _ => false)
/-- what is kept is right again -/
def nCAr (K : kS) : Option kWs := match kFa K.2 83 (fun _ => true) with
  | some [t, nv, i] => (match kFindEl K.2 26 i with
    | some x => if K.2.any (nCAq K.1.2.2.2.2.2.2 t nv i x) = true then some [([(82, [t, nv])], [])] else none
    | none => none)
  | _ => none
def nFRr (K : kS) : Option kWs := match kFa K.2 95 (fun _ => true), kLf K.1.2.1 6 with
  | some [t, i], some r => (match kFindEl K.2 26 i with
    | some x => if (sWf K.1.2.2.2.2.2.2 r (-128) 127 && nPut K.1.2.2.2.2.2.2 t r x) = true then some [([(84, [t])], [])] else none
    | none => none)
  | _, _ => none
/-- whether b is what the word a ahead of w tells -/
def nBsp (Γ : sG) (γ : List kA) (w a b : sL) : Bool := if sNN Γ (sSub (sC (-1)) a) = true then decide (b = sC 0) else sNN Γ a && (match kFindEl γ 54 a, kFindEl γ 54 w with
  | some ka, some kw => sI32 Γ.1 ka && (sI32 Γ.1 kw && (if kEqf Γ ka kw = true then decide (kFindEl γ 53 a = some b) && sI32 Γ.1 b else nNe Γ ka kw && decide (b = sC 0)))
  | _, _ => false)
/-- the word ahead of a place of the sentence -/
def nAhd (Γ : sG) (γ : List kA) (i : sL) : Option sL := if sK Γ.1 i = some 0 then some (sC (-1)) else if sNN Γ (sSub i (sC 1)) = true then kFindEl γ 25 (sSub i (sC 1)) else none
/-- a gift at a place, of the word there and the one ahead -/
def nGA (K : kS) : Option kWs := match kFa K.2 81 (fun _ => true), kLf K.1.2.1 1, kTop K with
  | some [hl, w, p, b, nv, r0], some i, some r => (match nAhd K.1.2.2.2.2.2.2 K.2 i, kFa K.2 1057 (fun fs => match fs with
      | [_, v] => decide (v = nv)
      | _ => false) with
    | some a, some [one, v] => if ((r0 = r ∧ p = i) ∧ kFindEl K.2 25 i = some w ∧ v = nv) ∧ (nBsp K.1.2.2.2.2.2.2 K.2 w a b && sI32 K.1.2.2.2.2.2.2.1 nv) = true then some [([(85, [hl, w, p, a, one, r])], [])] else none
    | _, _ => none)
  | _, _, _ => none
/-- the six numbers that the reference has laid down -/
def nSix (K : kS) (n w p b one : sL) : Bool := match kFindEl K.2 54 w, kFindEl K.2 55 w, kFindEl K.2 57 one with
  | some k, some l, some v => decide (kToldI K.1.2.2.2.1 70 0 = some n) && (decide (kToldI K.1.2.2.2.1 70 1 = some k) && (decide (kToldI K.1.2.2.2.1 70 2 = some l) && (decide (kToldI K.1.2.2.2.1 70 3 = some p) && (decide (kToldI K.1.2.2.2.1 70 4 = some b) && (decide (kToldI K.1.2.2.2.1 70 5 = some v) && (sI32 K.1.2.2.2.2.2.2.1 k && (sI32 K.1.2.2.2.2.2.2.1 l && sI32 K.1.2.2.2.2.2.2.1 v)))))))
  | _, _, _ => false
/-- the reference: what a word gives -/
def nWGc (zh : Nat) (K : kS) (hl n w p b one r : sL) : Bool := if sK K.1.2.2.2.2.2.2.1 hl = some 0 then decide (r = sAdd n b) else decide (sK K.1.2.2.2.2.2.2.1 hl = some 1) && (nSix K n w p b one && (match kFa K.2 73 (fun _ => true) with
  | some [u] => sI32 K.1.2.2.2.2.2.2.1 u && nCp K.1.2.2.2.2.2.2 u r
  | _ => false))
def nWG (zh : Nat) (K : kS) : Option kWs := match kLf K.1.2.1 1, kLf K.1.2.1 2, kLf K.1.2.1 3, kLf K.1.2.1 4, kLf K.1.2.1 5, kTop K, nFf K.1.2.2.2.1 52 zh with
  | some w, some p, some a, some one, some b, some r, some hl => (match kFindEl K.2 53 w with
    | some n => if (nBsp K.1.2.2.2.2.2.2 K.2 w a b && (sI32 K.1.2.2.2.2.2.2.1 n && (sInR K.1.2.2.2.2.2.2 w 16 && (sInR K.1.2.2.2.2.2.2 one 7 && (kShb K.1.2.2.2.1 53 .int 16 && (kShb K.1.2.2.2.1 54 .int 16 && (kShb K.1.2.2.2.1 55 .int 16 && (kShb K.1.2.2.2.1 57 .int 7 && nWGc zh K hl n w p b one r)))))))) = true then some [([(85, [hl, w, p, a, one, r])], [])] else none
    | none => none)
  | _, _, _, _, _, _, _ => none
section NGIF
variable {RO : List (Nat × (Nat → Int32))} {ρ : List Int} {Γ : sG} {γ : List kA} {H : List eE}
theorem nClip_r (u : Int) : -99 ≤ nClip u ∧ nClip u ≤ 99 := by
  unfold nClip
  split
  · omega
  split <;> omega
theorem n8 : (Int32.ofInt 8 &&& 31 : Int32) = 8 := by decide
theorem nShr8 (z : Int) : sOp 7 z 8 = (Int32.ofInt z >>> 8).toInt := by
  show (Int32.ofInt z >>> (Int32.ofInt 8 &&& 31)).toInt = _
  rw [n8]
theorem nAnd8 (z : Int) : sOp 3 z 255 = (Int32.ofInt z &&& 255).toInt := rfl
/-- a turn and a gift in one number -/
theorem n32N (n : Nat) : Int32.ofInt (n : Int) = nI n := by simp [nI, Int32.ofNat, Int32.ofInt]
theorem nPut_ok (hM : sMo ρ Γ) {t r x : sL} {zt zr zx : Int} (et : sEv ρ t = some zt) (er : sEv ρ r = some zr) (ex : sEv ρ x = some zx) (h1 : -128 ≤ zr) (h2 : zr ≤ 127) (h : nPut Γ t r x = true) : (Int32.ofInt zx >>> 8).toInt = zt ∧ (Int32.ofInt zx &&& 255).toInt - 128 = zr := by
  unfold nPut at h
  simp only [Bool.and_eq_true] at h
  obtain ⟨h3, h⟩ := h
  have hb := sWi_ok hM.1 et h3
  split at h
  · rename_i y hy
    split at h
    · rename_i s hs
      have ey := nDl_ok hM et (sEv_C 8) hy
      have e1 := sEv_add ey er
      have es := kNr_ok hM e1 hs
      have k1 := nNr_ok hM e1 es (decide_eq_true hs)
      have k2 := nNr_ok hM (sEv_add es (sEv_C 128)) ex h
      obtain ⟨tn, rfl⟩ := Int.eq_ofNat_of_zero_le hb.1
      obtain ⟨rn, hr⟩ := Int.eq_ofNat_of_zero_le (show 0 ≤ zr + 128 by omega)
      have hshl : sOp 6 (tn : Int) 8 = ((tn * 256 : Nat) : Int) := by
        show (Int32.ofInt (tn : Int) <<< (Int32.ofInt 8 &&& 31)).toInt = _
        rw [n8, show Int32.ofInt (tn : Int) = nI tn by simp [nI, Int32.ofNat, Int32.ofInt], pk_shlN (n := tn) 8 8 (by decide) (by omega), nI_toInt (by omega)]
      rw [hshl] at k1 k2
      rw [Int32.ofInt_add, k1, ← Int32.ofInt_add, show ((tn * 256 : Nat) : Int) + zr + 128 = ((tn * 256 + rn : Nat) : Int) by omega] at k2
      rw [n32N (tn * 256 + rn)] at k2
      rw [k2, pk_shrN (by omega) 8 8 (by decide), pk_andN (by omega) 8 (by decide), nI_toInt (by omega), nI_toInt (by omega)]
      constructor <;> omega
    · cases h
  · cases h
theorem nKey_ev {w p b : sL} {zw zp zb : Int} (ew : sEv ρ w = some zw) (ep : sEv ρ p = some zp) (eb : sEv ρ b = some zb) : sEv ρ (nKey w p b) = some (160 * zp + 16 * zb + zw) := sEv_add (sEv_add (sEv_mul 160 ep) (sEv_mul 16 eb)) ew
theorem nGV_r {w p b v r : Int} (h : nGV 1 w p b v r H) : -99 ≤ r ∧ r ≤ 99 := by
  obtain ⟨fn, fk, fl, -, -, -, h | ⟨-, d, -, rfl⟩⟩ := h
  · omega
  · exact nClip_r _
theorem nGH_ok : kRok RO nGH := by
  intro K ws h ρ R hD
  have hM := hD.1
  unfold nGH at h
  split at h
  · rename_i t nv x0 hl w p b r hca hlw hw hp hb hr
    split at h
    · rename_i x hx
      split at h
      · rename_i y z hy hz
        split at h
        · rename_i hc
          cases h
          simp only [Bool.and_eq_true, decide_eq_true_eq] at hc
          obtain ⟨c1, c2, c3, c4, c5, rfl⟩ := hc
          obtain ⟨-, zs, e1, e2⟩ := nFa_ok hD.2.2 hca (by decide) (by decide)
          obtain ⟨zt, zv, rfl, et, ev⟩ := sVal_2 e1
          obtain ⟨a', b', he, G, g1, g2⟩ : ∃ a b, [zt, zv] = [a, b] ∧ nCA a b (-1) R.2.2.2.1 := e2
          cases he
          obtain ⟨-, zs, e3, -⟩ := nFa_ok hD.2.2 hlw (by decide) (by decide)
          obtain ⟨z0, zh, rfl, -, eh⟩ := sVal_2 e3
          have hh := sK_ok hM.1 eh c1
          subst hh
          obtain ⟨zw, ew⟩ := kLf_ok hD.2.1 hw
          obtain ⟨zp, ep⟩ := kLf_ok hD.2.1 hp
          obtain ⟨zb, eb⟩ := kLf_ok hD.2.1 hb
          have bw := sWi_ok hM.1 ew c2
          have bb := sWi_ok hM.1 eb c3
          have bp := sWi_ok hM.1 ep c4
          obtain ⟨zx, ex, kx⟩ := kFindEl_ok hD.2.2 hx (nKey_ev ew ep eb)
          have ey := nDl_ok hM ex (sEv_C 8) hy
          have ez := nDl_ok hM ex (sEv_C 255) hz
          have hyt := kEqf_ok hM ey et c5
          rw [nShr8] at hyt
          rw [nAnd8] at ez
          obtain ⟨k0, kv⟩ := kEl_v kx g1
          obtain ⟨key, hkey⟩ : ∃ key : Nat, 160 * zp + 16 * zb + zw = (key : Int) := Int.eq_ofNat_of_zero_le k0
          rw [hkey, Int.toNat_natCast] at kv
          have hg := (g2 key (by omega) (by omega)).2 (by rw [kv]; exact hyt)
          rw [kv, show ((key % 16 : Nat) : Int) = zw by omega, show ((key / 160 : Nat) : Int) = zp by omega, show ((key / 16 % 10 : Nat) : Int) = zb by omega] at hg
          have er := sEv_sub ez (sEv_C (ρ := ρ) 128)
          have hr2 := nGV_r hg
          refine ⟨_, List.mem_singleton.mpr rfl, kAt1 (zs := [1, zw, zp, zb, zv, _]) (by decide) (by simp only [sVal, eh, ew, ep, eb, ev, er]) ((kUPn (by decide)).mpr ⟨_, _, _, _, _, _, rfl, hg⟩), fun b hb => ?_⟩
          rw [List.mem_singleton.mp hb]
          exact ⟨_, er, hr2.1, hr2.2⟩
        · cases h
      · cases h
    · cases h
  · cases h
theorem nNEa {t : Nat} (ht : t < 6) (hg : kGh (kGP (kUP RO)) ρ γ H) (h : (kFa γ (75 + t) (fun _ => true)).isSome = true) : ∃ g, nI2 H (53 + t) (nNn t) g := by
  obtain ⟨fs, hfa⟩ := Option.isSome_iff_exists.mp h
  obtain ⟨-, zs, e1, e2⟩ := nFa_ok hg hfa (by omega) (by omega)
  obtain ⟨a, rfl, hN⟩ := (nUP_75 ⟨by omega, by omega⟩).mp e2
  rw [show 75 + t - 75 = t by omega] at hN
  obtain ⟨f, g, -, q, -⟩ := hN
  exact ⟨g, q⟩
theorem nGVr_ok : kRok RO nGVr := by
  intro K ws h ρ R hD
  have hM := hD.1
  unfold nGVr at h
  split at h
  · rename_i hl n k l p b v r w hgb hw
    split at h
    · rename_i hc
      cases h
      simp only [Bool.and_eq_true, decide_eq_true_eq] at hc
      obtain ⟨c1, c2, c3, c4, c5, c6, c7, c8, c9, c10⟩ := hc
      obtain ⟨-, zs, e1, e2⟩ := nFa_ok hD.2.2 hgb (by decide) (by decide)
      obtain ⟨y1, y2, y3, y4, y5, y6, y7, y8, rfl, f1, f2, f3, f4, f5, f6, f7, f8⟩ := qVal_8 e1
      obtain ⟨h', a1, a2, a3, a4, a5, a6, r', he, hG⟩ : ∃ h n1 n2 n3 n4 n5 n6 r, [y1, y2, y3, y4, y5, y6, y7, y8] = [h, n1, n2, n3, n4, n5, n6, r] ∧ nGB h [n1, n2, n3, n4, n5, n6] r R.2.2.2.1 := e2
      cases he
      obtain ⟨zw, ew⟩ := kLf_ok hD.2.1 hw
      obtain ⟨r1, r2, -⟩ := sInR_at hM ew c7
      obtain ⟨gn, q1⟩ := nNEa (t := 0) (by decide) hD.2.2 c8
      obtain ⟨gk, q2⟩ := nNEa (t := 1) (by decide) hD.2.2 c9
      obtain ⟨gl, q3⟩ := nNEa (t := 2) (by decide) hD.2.2 c10
      obtain ⟨x1, ex1, k1⟩ := kFindEl_ok hD.2.2 c1 ew
      obtain ⟨x2, ex2, k2⟩ := kFindEl_ok hD.2.2 c2 ew
      obtain ⟨x3, ex3, k3⟩ := kFindEl_ok hD.2.2 c3 ew
      cases ex1.symm.trans f2
      cases ex2.symm.trans f3
      cases ex3.symm.trans f4
      have b1 := sWi_ok hM.1 ex1 c4
      have b2 := sWi_ok hM.1 ex2 c5
      have b3 := sWi_ok hM.1 ex3 c6
      refine ⟨_, List.mem_singleton.mpr rfl, kAt1 (zs := [y1, zw, y5, y6, y7, y8]) (by decide) (by simp only [sVal, f1, ew, f5, f6, f7, f8]) ((kUPn (by decide)).mpr ⟨_, _, _, _, _, _, rfl, gn, gk, gl, ⟨q1, q2, q3⟩, r1, by omega, ?_⟩), fun b hb => by cases hb⟩
      rw [(kEl_v k1 q1).2, (kEl_v k2 q2).2, (kEl_v k3 q3).2, sTo32 b1.1 b1.2, sTo32 b2.1 b2.2, sTo32 b3.1 b3.2]
      exact hG
    · cases h
  · cases h
theorem nCAr_ok : kRok RO nCAr := by
  intro K ws h ρ R hD
  have hM := hD.1
  unfold nCAr at h
  split at h
  · rename_i t nv i hfa
    split at h
    · rename_i x hx
      split at h
      · rename_i hc
        cases h
        obtain ⟨⟨k, fs⟩, hq, hc⟩ := List.any_eq_true.mp hc
        unfold nCAq at hc
        simp only [Bool.and_eq_true, decide_eq_true_eq] at hc
        obtain ⟨rfl, hc⟩ := hc
        split at hc
        · rename_i hl w p b v r
          simp only [Bool.and_eq_true, decide_eq_true_eq] at hc
          obtain ⟨rfl, c1, rfl, c2, c3, c4, c5, c6⟩ := hc
          obtain ⟨-, zs, e1, e2⟩ := nFa_ok hD.2.2 hfa (by decide) (by decide)
          obtain ⟨zt, zv, zi, rfl, et, ev, ei⟩ := sVal_3 e1
          obtain ⟨a', b', c', he, G, g1, g2⟩ : ∃ a b c, [zt, zv, zi] = [a, b, c] ∧ nCA a b c R.2.2.2.1 := e2
          cases he
          obtain ⟨zs, k1, k2⟩ := hD.2.2 _ hq
          have k2 := nGP (k := 81) (by decide) (by decide) k2
          obtain ⟨h', w', p', b', v', r', he, hG⟩ : ∃ h w p b v r, zs = [h, w, p, b, v, r] ∧ nGV h w p b v r R.2.2.2.1 := k2
          subst he
          obtain ⟨y1, y2, y3, y4, y5, y6, he, f1, f2, f3, f4, f5, f6⟩ := sVal_6 k1
          cases he
          have hh := sK_ok hM.1 f1 c1
          subst hh
          cases f5.symm.trans ev
          cases ei.symm.trans (nKey_ev f2 f3 f4)
          have bw := sWi_ok hM.1 f2 c2
          have bb := sWi_ok hM.1 f4 c3
          have bp := sWi_ok hM.1 f3 c4
          obtain ⟨_, e3, d1, d2⟩ := sWf_has hM c5
          cases e3.symm.trans f6
          obtain ⟨zx, ex, kx⟩ := kFindEl_ok hD.2.2 hx ei
          obtain ⟨n1, n2⟩ := nPut_ok hM et f6 ex (by omega) (by omega) c6
          obtain ⟨k0, kv⟩ := kEl_v kx g1
          refine ⟨_, List.mem_singleton.mpr rfl, kAt1 (zs := [zt, zv]) (by decide) (by simp only [sVal, et, ev]) ((kUPn (by decide)).mpr ⟨_, _, rfl, G, g1, fun key h1 h2 => ?_⟩), fun b hb => by cases hb⟩
          by_cases hk : (key : Int) = 160 * p' + 16 * b' + w'
          · have hk2 : key = (160 * p' + 16 * b' + w').toNat := by omega
            rw [← hk2] at kv
            rw [kv]
            refine ⟨by omega, fun _ => ?_⟩
            rw [n2, show ((key % 16 : Nat) : Int) = w' by omega, show ((key / 160 : Nat) : Int) = p' by omega, show ((key / 16 % 10 : Nat) : Int) = b' by omega]
            exact hG
          · exact g2 key h1 hk
        · cases hc
      · cases h
    · cases h
  · cases h
theorem nFRr_ok : kRok RO nFRr := by
  intro K ws h ρ R hD
  have hM := hD.1
  unfold nFRr at h
  split at h
  · rename_i t i r hfa hr
    split at h
    · rename_i x hx
      split at h
      · rename_i hc
        cases h
        simp only [Bool.and_eq_true] at hc
        obtain ⟨-, zs, e1, e2⟩ := nFa_ok hD.2.2 hfa (by decide) (by decide)
        obtain ⟨zt, zi, rfl, et, ei⟩ := sVal_2 e1
        obtain ⟨a', b', he, G, g1, g2⟩ : ∃ a b, [zt, zi] = [a, b] ∧ nFR a b R.2.2.2.1 := e2
        cases he
        obtain ⟨zr, er, d1, d2⟩ := sWf_has hM hc.1
        obtain ⟨zx, ex, kx⟩ := kFindEl_ok hD.2.2 hx ei
        obtain ⟨n1, n2⟩ := nPut_ok hM et er ex d1 d2 hc.2
        obtain ⟨k0, kv⟩ := kEl_v kx g1
        refine ⟨_, List.mem_singleton.mpr rfl, kAt1 (zs := [zt]) (by decide) (by simp only [sVal, et]) ((kUPn (by decide)).mpr ⟨_, rfl, G, g1, fun key h1 h2 => ?_⟩), fun b hb => by cases hb⟩
        by_cases hk : (key : Int) = zi
        · have hk2 : key = zi.toNat := by omega
          rw [hk2, kv]
          omega
        · exact g2 key h1 hk
      · cases h
    · cases h
  · cases h
theorem nBsp_ok (hM : sMo ρ Γ) (hg : kGh (kGP (kUP RO)) ρ γ H) {fn fk fl : Nat → Int32} (hW : nW3 fn fk fl H) {w a b : sL} {zw za zb : Int} (ew : sEv ρ w = some zw) (ea : sEv ρ a = some za) (eb : sEv ρ b = some zb) (h : nBsp Γ γ w a b = true) : zb = (if 0 ≤ za ∧ fk za.toNat = fk zw.toNat then (fn za.toNat).toInt else 0) := by
  unfold nBsp at h
  split at h
  · rename_i hc
    have := sNN_ok hM (sEv_sub (sEv_C (-1)) ea) hc
    have h := of_decide_eq_true h
    subst h
    rw [sEv_C] at eb
    cases eb
    rw [if_neg (by omega)]
  · simp only [Bool.and_eq_true] at h
    obtain ⟨h1, h⟩ := h
    have ha := sNN_ok hM ea h1
    split at h
    · rename_i ka kw hka hkw
      simp only [Bool.and_eq_true] at h
      obtain ⟨c1, c2, h⟩ := h
      obtain ⟨y1, e1, k1⟩ := kFindEl_ok hg hka ea
      obtain ⟨y2, e2, k2⟩ := kFindEl_ok hg hkw ew
      have b1 := sWi_ok hM.1 e1 c1
      have b2 := sWi_ok hM.1 e2 c2
      have v1 := (kEl_v k1 hW.2.1).2
      have v2 := (kEl_v k2 hW.2.1).2
      split at h
      · rename_i hq
        have hyy := kEqf_ok hM e1 e2 hq
        subst hyy
        simp only [Bool.and_eq_true, decide_eq_true_eq] at h
        obtain ⟨y3, e3, k3⟩ := kFindEl_ok hg h.1 ea
        cases e3.symm.trans eb
        have b3 := sWi_ok hM.1 eb h.2
        rw [if_pos ⟨ha, by rw [v1, v2]⟩, (kEl_v k3 hW.1).2, sTo32 b3.1 b3.2]
      · simp only [Bool.and_eq_true, decide_eq_true_eq] at h
        obtain ⟨h2, rfl⟩ := h
        have hne := nNe_ok hM e1 e2 h2
        rw [sEv_C] at eb
        cases eb
        rw [if_neg]
        rintro ⟨-, q⟩
        rw [v1, v2] at q
        have := congrArg Int32.toInt q
        rw [sTo32 b1.1 b1.2, sTo32 b2.1 b2.2] at this
        exact hne this
    · cases h
theorem kFaEl (hg : kGh (kGP (kUP RO)) ρ γ H) {j : Nat} {p : List sL → Bool} {i v : sL} (h : kFa γ (1000 + j) p = some [i, v]) : ∃ zi zv, sEv ρ i = some zi ∧ sEv ρ v = some zv ∧ kEl j zi zv H := by
  unfold kFa at h
  obtain ⟨⟨k, fs⟩, ha, rfl⟩ := Option.map_eq_some_iff.mp h
  have h1 := List.find?_some ha
  simp only [Bool.and_eq_true, decide_eq_true_eq] at h1
  obtain ⟨rfl, -⟩ := h1
  exact kElm hg (List.mem_of_find?_eq_some ha)
theorem nAhd_ok (hg : kGh (kGP (kUP RO)) ρ γ H) {i a : sL} {zi : Int} (ei : sEv ρ i = some zi) (h : nAhd Γ γ i = some a) : ∃ za, sEv ρ a = some za := by
  unfold nAhd at h
  split at h
  · cases h
    exact ⟨-1, sEv_C _⟩
  split at h
  · obtain ⟨z, e, -⟩ := kFindEl_ok hg h (sEv_sub ei (sEv_C 1))
    exact ⟨z, e⟩
  · cases h
theorem nGA_ok : kRok RO nGA := by
  intro K ws h ρ R hD
  have hM := hD.1
  unfold nGA at h
  split at h
  · rename_i hl w p b nv r0 i r hgv hi hr
    split at h
    · rename_i a one v ha hone
      split at h
      · rename_i hc
        cases h
        obtain ⟨⟨⟨rfl, rfl⟩, h25, rfl⟩, hc⟩ := hc
        simp only [Bool.and_eq_true] at hc
        obtain ⟨-, zs, e1, e2⟩ := nFa_ok hD.2.2 hgv (by decide) (by decide)
        obtain ⟨y1, y2, y3, y4, y5, y6, rfl, f1, f2, f3, f4, f5, f6⟩ := sVal_6 e1
        obtain ⟨h', w', p', b', v', r', he, fn, fk, fl, hW, w0, w1, hG⟩ : ∃ h w p b v r, [y1, y2, y3, y4, y5, y6] = [h, w, p, b, v, r] ∧ nGV h w p b v r R.2.2.2.1 := e2
        cases he
        obtain ⟨za, ea⟩ := nAhd_ok hD.2.2 f3 ha
        obtain ⟨zo, zv, eo, ev, kv⟩ := kFaEl (j := 57) hD.2.2 hone
        cases ev.symm.trans f5
        have bv := sWi_ok hM.1 ev hc.2
        have hb := nBsp_ok hM hD.2.2 hW f2 ea f4 hc.1
        exact ⟨_, List.mem_singleton.mpr rfl, kAt1 (zs := [y1, y2, y3, za, zo, y6]) (by decide) (by simp only [sVal, f1, f2, f3, ea, eo, f6]) ((kUPn (by decide)).mpr ⟨_, _, _, _, _, _, rfl, fn, fk, fl, y4, _, hW, ⟨kv, bv⟩, ⟨fn, fk, fl, hW, w0, w1, hG⟩, hb⟩), fun b hb => by cases hb⟩
      · cases h
    · cases h
  · cases h
/-- of six names alone -/
theorem nSt1_congr {F F' : Int → Int32} (h : ∀ w, 0 ≤ w → w ≤ 5 → F w = F' w) {x : nSp} (hx : nOkS x) (st : List Int32) : nSt1 F x st = nSt1 F' x st := by
  unfold nSt1
  split
  · rfl
  split
  · rename_i h1 h2
    have : 0 ≤ x.2 ∧ x.2 ≤ 5 := by
      rcases hx with q | q | q | q | ⟨q, -⟩
      · omega
      · exact q.2
      · omega
      · omega
      · have := nOp_b q; omega
    rw [h x.2 this.1 this.2]
  · rfl
theorem nRun_congr {F F' : Int → Int32} (h : ∀ w, 0 ≤ w → w ≤ 5 → F w = F' w) : ∀ {q : List nSp} (st : List Int32), (∀ x ∈ q, nOkS x) → nRun F q st = nRun F' q st
  | [], _, _ => rfl
  | x :: r, st, hq => by
    show nRun F r (nSt1 F x st) = nRun F' r (nSt1 F' x st)
    rw [nSt1_congr h (hq x List.mem_cons_self), nRun_congr h _ (fun y hy => hq y (List.mem_cons_of_mem _ hy))]
theorem nEv_congr {F F' : Int → Int32} (h : ∀ w, 0 ≤ w → w ≤ 5 → F w = F' w) : ∀ {d : List nLi}, (∀ l ∈ d, nOkL l) → nEv F d = nEv F' d
  | [], _ => rfl
  | (none, v) :: r, hd => by
    have hv := (hd _ List.mem_cons_self).2
    show nVal F v = nVal F' v
    unfold nVal
    rw [nRun_congr h [] hv]
  | (some t, v) :: r, hd => by
    have hv := (hd _ List.mem_cons_self).2
    have ht : ∀ x ∈ t, nOkS x := (hd _ List.mem_cons_self).1
    have ih := nEv_congr h (d := r) (fun l hl => hd l (List.mem_cons_of_mem _ hl))
    show (if nVal F t ≠ 0 then nVal F v else nEv F r) = (if nVal F' t ≠ 0 then nVal F' v else nEv F' r)
    unfold nVal
    rw [nRun_congr h [] hv, nRun_congr h [] ht, ih]
theorem nLaw_ok {d : List nLi} (h : nLaw d H) : ∀ l ∈ d, nOkL l := by
  obtain ⟨A, W, T, E, M, -, -, -, -, -, -, -, h, -⟩ := h
  exact h
theorem nToldF {G : List sE} {F : Nat → Int32} (hH : sHp ρ G H) (hF : nI2 H 70 6 F) {i : Nat} {f : sL} {z : Int} (h : kToldI G 70 i = some f) (ef : sEv ρ f = some z) : F i = Int32.ofInt z := by
  obtain ⟨n, a, z', h1, -, e, h2⟩ := kToldI_ok hH h
  unfold nI2 at hF
  rw [hF] at h1
  cases h1
  cases e.symm.trans ef
  exact h2
theorem nWG_ok (zh : Nat) : kRok RO (nWG zh) := by
  intro K ws h ρ R hD
  have hM := hD.1
  have hH := hD.2.1.2.2.2.1
  unfold nWG at h
  split at h
  · rename_i w p a one b r hl hw hp ha hone hb hr hhl
    split at h
    · rename_i n hn
      split at h
      · rename_i hc
        cases h
        simp only [Bool.and_eq_true] at hc
        obtain ⟨c1, c2, c3, c4, c5, c6, c7, c8, c9⟩ := hc
        obtain ⟨zw, ew⟩ := kLf_ok hD.2.1 hw
        obtain ⟨zp, ep⟩ := kLf_ok hD.2.1 hp
        obtain ⟨za, ea⟩ := kLf_ok hD.2.1 ha
        obtain ⟨zo, eo⟩ := kLf_ok hD.2.1 hone
        obtain ⟨zb, eb⟩ := kLf_ok hD.2.1 hb
        obtain ⟨zr, er⟩ := nTop_ev hD.2.1 hr
        obtain ⟨zl, el⟩ := nFf_ok hH hhl
        obtain ⟨zn, en, kn⟩ := kFindEl_ok hD.2.2 hn ew
        obtain ⟨fn, hfn⟩ := kSh1 hH (by decide) rfl c5
        obtain ⟨fk, hfk⟩ := kSh1 hH (by decide) rfl c6
        obtain ⟨fl, hfl⟩ := kSh1 hH (by decide) rfl c7
        obtain ⟨fv, hfv⟩ := kSh1 hH (by decide) rfl c8
        have hW : nW3 fn fk fl R.2.2.2.1 := ⟨hfn, hfk, hfl⟩
        obtain ⟨w0, w1, -⟩ := sInR_at hM ew c3
        obtain ⟨o0, o1, -⟩ := sInR_at hM eo c4
        have bn := sWi_ok hM.1 en c2
        have vn := (kEl_v kn hfn).2
        have hbs := nBsp_ok hM hD.2.2 hW ew ea eb c1
        have fin : ∀ {v : Int}, kEl 57 zo v R.2.2.2.1 → (-2147483648 ≤ v ∧ v ≤ 2147483647) → nGB zl [(fn zw.toNat).toInt, (fk zw.toNat).toInt, (fl zw.toNat).toInt, zp, zb, v] zr R.2.2.2.1 → kGh (kGP (kUP RO)) ρ [(85, [hl, w, p, a, one, r])] R.2.2.2.1 := fun {v} q1 q2 q3 =>
          kAt1 (zs := [zl, zw, zp, za, zo, zr]) (by decide) (by simp only [sVal, el, ew, ep, ea, eo, er]) ((kUPn (by decide)).mpr ⟨_, _, _, _, _, _, rfl, fn, fk, fl, zb, v, hW, ⟨q1, q2⟩, ⟨fn, fk, fl, hW, w0, by omega, q3⟩, hbs⟩)
        refine ⟨_, List.mem_singleton.mpr rfl, ?_, fun b hb => by cases hb⟩
        unfold nWGc at c9
        split at c9
        · rename_i h0
          have := sK_ok hM.1 el h0
          subst this
          have c9 := of_decide_eq_true c9
          subst c9
          cases er.symm.trans (sEv_add en eb)
          refine fin (v := (fv zo.toNat).toInt) ⟨_, _, _, hfv, o0, (Int32.ofInt_toInt _).symm⟩ (sRng32 _) (Or.inl ⟨rfl, ?_⟩)
          show zn + zb = (fn zw.toNat).toInt + zb
          rw [vn, sTo32 bn.1 bn.2]
        · simp only [Bool.and_eq_true, decide_eq_true_eq] at c9
          obtain ⟨h1, h6, hu⟩ := c9
          have := sK_ok hM.1 el h1
          subst this
          split at hu
          · rename_i u hfu
            simp only [Bool.and_eq_true] at hu
            obtain ⟨-, zs, e1, e2⟩ := nFa_ok hD.2.2 hfu (by decide) (by decide)
            obtain ⟨zu, rfl, eu⟩ := sVal_1 e1
            obtain ⟨u', he, d, F, hd, hF, hev⟩ : ∃ a, [zu] = [a] ∧ nGT a R.2.2.2.1 := e2
            cases he
            have bu := sWi_ok hM.1 eu hu.1
            have hcl := nCp_ok hM eu er hu.2
            unfold nSix at h6
            split at h6
            · rename_i k l v hk hl2 hv
              simp only [Bool.and_eq_true, decide_eq_true_eq] at h6
              obtain ⟨t0, t1, t2, t3, t4, t5, bk, bl, bv⟩ := h6
              obtain ⟨zk, ek, kk⟩ := kFindEl_ok hD.2.2 hk ew
              obtain ⟨zll, ell, kl⟩ := kFindEl_ok hD.2.2 hl2 ew
              obtain ⟨zv, ev, kv⟩ := kFindEl_ok hD.2.2 hv eo
              have bk := sWi_ok hM.1 ek bk
              have bl := sWi_ok hM.1 ell bl
              have bv := sWi_ok hM.1 ev bv
              refine fin kv bv (Or.inr ⟨rfl, d, hd, ?_⟩)
              rw [hcl, vn, (kEl_v kk hfk).2, (kEl_v kl hfl).2, sTo32 bn.1 bn.2, sTo32 bk.1 bk.2, sTo32 bl.1 bl.2]
              have hF0 := nToldF hH hF t0 en
              have hF1 := nToldF hH hF t1 ek
              have hF2 := nToldF hH hF t2 ell
              have hF3 := nToldF hH hF t3 ep
              have hF4 := nToldF hH hF t4 eb
              have hF5 := nToldF hH hF t5 ev
              rw [← nEv_congr (F := fun w => F w.toNat) (F' := nFs [zn, zk, zll, zp, zb, zv]) (fun w q1 q2 => ?_) (nLaw_ok hd), hev, sTo32 bu.1 bu.2]
              have : w = 0 ∨ w = 1 ∨ w = 2 ∨ w = 3 ∨ w = 4 ∨ w = 5 := by omega
              rcases this with rfl | rfl | rfl | rfl | rfl | rfl
              · exact hF0
              · exact hF1
              · exact hF2
              · exact hF3
              · exact hF4
              · exact hF5
            · cases h6
          · cases hu
      · cases h
    · cases h
  · cases h
end NGIF
end
