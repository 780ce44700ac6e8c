/-! pure: errors are 0 on both sides -/
theorem se_low {w : Nat} (hw : w ≤ 64) (z : BitVec w) : (z.signExtend 64).setWidth w = z := by
  apply BitVec.eq_of_getLsbD_eq
  intro i hi
  rw [BitVec.getLsbD_setWidth, decide_eq_true hi, Bool.true_and, BitVec.getLsbD_signExtend, decide_eq_true (by omega), Bool.true_and, if_pos hi]
theorem rdx_ok {R : Nat} (h1 : 2 ≤ R) (h2 : R ≤ 36) : rdx (nI R) = R ∧ ¬ (nI R < 2 ∨ 36 < nI R) := by
  have a1 : ¬ nI R < (2 : Int32) := nI_nlt (b := 2) h1 (by omega)
  have a2 : ¬ (36 : Int32) < nI R := nI_nlt (a := 36) h2 (by omega)
  refine ⟨?_, fun z => z.elim a1 a2⟩
  rw [rdx, if_neg a1, if_neg a2, nI_clamp (by omega)]
theorem sz_most (b p : Bool) (v : BitVec 64) : szA b p v ≤ mostN p (szN b p v) (wd b) := by
  have h := szA_lt b p v
  have hw := wd_pos b
  cases p with
  | true => show szA b true v ≤ 2 ^ wd b - 1; omega
  | false =>
    have hm := BitVec.msb_eq_decide (v.setWidth (wd b))
    have hlt := (v.setWidth (wd b)).isLt
    have hp1 : 2 ^ wd b = 2 ^ (wd b - 1) * 2 := by rw [← Nat.pow_succ, show (wd b - 1).succ = wd b by omega]
    have eN : szN b false v = (v.setWidth (wd b)).msb := Bool.true_and _
    have eA : szA b false v = (if szN b false v then -(v.setWidth (wd b)) else v.setWidth (wd b)).toNat := rfl
    rw [eA, eN]
    cases hb : (v.setWidth (wd b)).msb with
    | true =>
      rw [hb] at hm
      have h1 := of_decide_eq_true hm.symm
      rw [if_pos rfl, BitVec.toNat_neg, Nat.mod_eq_of_lt (by omega)]
      show _ ≤ 2 ^ (wd b - 1)
      omega
    | false =>
      rw [hb] at hm
      have h1 := of_decide_eq_false hm.symm
      rw [if_neg (by decide)]
      show _ ≤ 2 ^ (wd b - 1) - 1
      omega
theorem vz_vlu (b p : Bool) (v : BitVec 64) : vz (szN b p v) (szA b p v) 64 = vlu b p v := by
  have h := (pr_left b p v).2
  unfold vz
  cases hN : szN b p v with
  | false =>
    rw [hN, if_pos bI_f] at h
    have h1 := congrArg Int64.toBitVec (Option.some.inj h)
    exact h1.symm
  | true =>
    rw [hN, if_neg (by decide)] at h
    have h1 : -(vlu b p v) = BitVec.ofNat 64 (szA b p v) := congrArg Int64.toBitVec (Option.some.inj h)
    rw [if_pos rfl, ← h1, BitVec.neg_neg]
theorem vz_x (b p : Bool) (v : BitVec 64) : vz (szN b p v) (szA b p v) (wd b) = v.setWidth (wd b) := by
  rw [← vz_low (wd_le b), vz_vlu, vlu_low]
theorem hval_dg {R A n : Nat} {ng : Bool} (hR : 2 ≤ R) (hR2 : R ≤ 36) : ∀ d, d ≤ n → hval R (pgB ng R A n) d (n + ng.toNat - d) (A / R ^ d) = A ∧ alld R (pgB ng R A n) d (n + ng.toNat - d) = true
  | 0, _ => ⟨by rw [hval, Nat.pow_zero, Nat.div_one], rfl⟩
  | d + 1, h => by
    obtain ⟨h1, h2⟩ := hval_dg (A := A) (n := n) (ng := ng) hR hR2 d (by omega)
    have hb : pgB ng R A n (n + ng.toNat - (d + 1)) = dB (A / R ^ d % R) := by
      rw [pgB, if_neg (fun z => by
        have a := z.2
        have e : ng.toNat = 1 := by rw [z.1]; rfl
        omega), show n + ng.toNat - 1 - (n + ng.toNat - (d + 1)) = d by omega]
    have hl : A / R ^ d % R < R := Nat.mod_lt _ (by omega)
    have hd : dgv (dB (A / R ^ d % R)) = A / R ^ d % R := dgv_dB _ (by omega)
    have hs : A / R ^ (d + 1) * R + A / R ^ d % R = A / R ^ d := by
      rw [dg_step]
      have := Nat.div_add_mod (A / R ^ d) R
      rw [Nat.mul_comm] at this
      exact this
    rw [hval, alld, hb, hd, hs, decide_eq_true hl, Bool.true_and, show n + ng.toNat - (d + 1) + 1 = n + ng.toNat - d by omega]
    exact ⟨h1, h2⟩
theorem rt_ok {b p : Bool} {v : BitVec 64} {R n : Nat} (hR : 2 ≤ R) (hR2 : R ≤ 36) (hn : isND R (szA b p v) n) : pcN (pgB (szN b p v) R (szA b p v) n) 0 (n + (szN b p v).toNat) = szN b p v ∧ pcV (nI R) (pgB (szN b p v) R (szA b p v) n) 0 (n + (szN b p v).toNat) = szA b p v ∧ pcOK p (wd b) (nI R) (pgB (szN b p v) R (szA b p v) n) 0 (n + (szN b p v).toNat) = true := by
  obtain ⟨r1, r2⟩ := rdx_ok hR hR2
  have hn1 := hn.1
  have g0 : szN b p v = true → pgB (szN b p v) R (szA b p v) n 0 = 45 := fun h => by rw [pgB, if_pos ⟨h, rfl⟩]
  have g1 : szN b p v = false → 48 ≤ pgB (szN b p v) R (szA b p v) n 0 := fun h => by
    rw [pgB, if_neg (fun z => by rw [h] at z; cases z.1)]
    unfold dB
    split <;> omega
  have eN : pcN (pgB (szN b p v) R (szA b p v) n) 0 (n + (szN b p v).toNat) = szN b p v := by
    rw [pcN, decide_eq_true (by omega), Bool.true_and]
    cases h : szN b p v with
    | true =>
      rw [h] at g0
      exact decide_eq_true (g0 rfl)
    | false =>
      rw [h] at g1
      have := g1 rfl
      exact decide_eq_false (by omega)
  have eF : pcF (pgB (szN b p v) R (szA b p v) n) 0 (n + (szN b p v).toNat) = (szN b p v).toNat := by
    rw [pcF]
    cases h : szN b p v with
    | true =>
      rw [h] at g0
      rw [if_pos ⟨by omega, Or.inl (g0 rfl)⟩]
      rfl
    | false =>
      rw [h] at g1
      have := g1 rfl
      rw [if_neg (fun z => by have := z.2; omega)]
      rfl
  obtain ⟨h1, h2⟩ := hval_dg (A := szA b p v) (ng := szN b p v) hR hR2 n (Nat.le_refl _)
  rw [show n + (szN b p v).toNat - n = (szN b p v).toNat by omega, hn.2.2.1] at h1
  rw [show n + (szN b p v).toNat - n = (szN b p v).toNat by omega] at h2
  have eV : pcV (nI R) (pgB (szN b p v) R (szA b p v) n) 0 (n + (szN b p v).toNat) = szA b p v := by
    rw [pcV, eF, r1, show n + (szN b p v).toNat - (szN b p v).toNat = n by omega]
    exact h1
  refine ⟨eN, eV, ?_⟩
  have hnp : (szN b p v && p) = false := by
    cases p with
    | false => exact Bool.and_false _
    | true => rfl
  rw [pcOK, eN, eV, eF, r1, decide_eq_false r2, decide_eq_true (show (szN b p v).toNat < n + (szN b p v).toNat by omega), hnp, decide_eq_true (sz_most b p v), show n + (szN b p v).toNat - (szN b p v).toNat = n by omega, h2]
  rfl
theorem pr_readBack {b p : Bool} {xc : Nat → Int64} {c : Nat → BitVec 64} {f : Nat → Int32} {v0 : Int64} {i k R : Nat} (hC : isC xc c) (hi : i < 8) (hR : 2 ≤ R) (hR2 : R ≤ 36) (hk : 130 < k) : ∃ f2 s2 v2, mX8_isReadBack k 65 f v0 xc (bI b) (nI i) (nI R) (bI p) = some (1, f2, s2, v2) := by
  obtain ⟨r1, r2⟩ := rdx_ok hR hR2
  obtain ⟨n, hn⟩ := nd_get (A := szA b p (c i)) hR (szA_lt64 b p (c i))
  have hn2 := hn.2.1
  have hg : (szN b p (c i)).toNat ≤ 1 := by cases szN b p (c i) <;> decide
  obtain ⟨f2, e1, a1⟩ := pr_writeOn (b := b) (p := p) (v := c i) (k := k) (r := nI R) (f := f) hk (by rw [r1]; exact hn)
  rw [r1] at a1
  have h2 := pr_canRead (b := b) (p := p) (N := 65) (k := k) (r := nI R) (v := v0) (a := 0) (e := n + (szN b p (c i)).toNat) (len := n + (szN b p (c i)).toNat) (f := f2) (g := pgB (szN b p (c i)) R (szA b p (c i)) n) (Nat.zero_le _) (Nat.le_refl _) (by omega) (by omega) (by omega) a1 (fun q _ => (pgB_bd hR2 (by omega)).2)
  obtain ⟨t1, t2, t3⟩ := rt_ok (p := p) hR hR2 hn
  rw [t1, t2, t3, if_pos rfl, vz_vlu] at h2
  have h2' : mX5_canRead k 65 v0 f2 (nI (n + (szN b p (c i)).toNat)) 0 (nI (n + (szN b p (c i)).toNat)) (nI R) (bI p) (bI b) = some (1, Int64.ofBitVec (vlu b p (c i))) := h2
  refine ⟨f2, nI (n + (szN b p (c i)).toNat), Int64.ofBitVec (vlu b p (c i)), ?_⟩
  rw [mX8_isReadBack, pr_valueOf b p hC hi]
  simp only [Option.bind_some]
  rw [e1]
  simp only [Option.bind_some, mX6_size]
  rw [h2']
  simp only [Option.bind_some, e10, if_false]
  rw [if_pos ((lg_cmp_eq _ _).mpr rfl)]
theorem low_sgn {b : Bool} {u v : BitVec 64} (h : ∀ q, q < wd b → u.getLsbD q = v.getLsbD q) : sgn b u = sgn b v := by
  have e : u.setWidth (wd b) = v.setWidth (wd b) := BitVec.eq_of_getLsbD_eq (fun q hq => by rw [BitVec.getLsbD_setWidth, BitVec.getLsbD_setWidth, h q hq])
  unfold sgn
  rw [e]
theorem pr_turnedBack {b : Bool} {xc : Nat → Int64} {c : Nat → BitVec 64} {i : Nat} (hC : isC xc c) (hi : i < 8) : mX8_isTurnedBack xc (bI b) (nI i) = some 1 := by
  obtain ⟨z1, e1, h1⟩ := pr_turned b (c i)
  obtain ⟨z2, e2, h2⟩ := pr_turned b z1
  have hw0 := wd_pos b
  rw [mX8_isTurnedBack, pr_allBits hC hi]
  simp only [Option.bind_some]
  rw [e1]
  simp only [Option.bind_some]
  rw [e2]
  simp only [Option.bind_some]
  rw [pr_signed, pr_csigned b hC hi]
  simp only [Option.bind_some]
  rw [if_pos ((lg_cmp_eq _ _).mpr (by rw [low_sgn (u := z2) (v := c i) (fun q hq => by rw [h2 q hq, h1 _ (by omega), show wd b - 1 - (wd b - 1 - q) = q by omega])]))]
theorem pr_bytesBack {b : Bool} {xc : Nat → Int64} {c : Nat → BitVec 64} {i : Nat} (hC : isC xc c) (hi : i < 8) : mX8_areBytesTurnedBack xc (bI b) (nI i) = some 1 := by
  obtain ⟨z1, e1, h1⟩ := pr_bytesTurned b (c i)
  obtain ⟨z2, e2, h2⟩ := pr_bytesTurned b z1
  have hw := wd_cases b
  rw [mX8_areBytesTurnedBack, pr_allBits hC hi]
  simp only [Option.bind_some]
  rw [e1]
  simp only [Option.bind_some]
  rw [e2]
  simp only [Option.bind_some]
  rw [pr_signed, pr_csigned b hC hi]
  simp only [Option.bind_some]
  rw [if_pos ((lg_cmp_eq _ _).mpr (by rw [low_sgn (u := z2) (v := c i) (fun q hq => by
    rw [h2 q hq, h1 _ (by omega)]
    congr 1
    omega)]))]
theorem pr_rotL1 {b left : Bool} (v : BitVec 64) (d : Int32) : ∃ z : BitVec 64, (if left then mX1_rotatedLeft (Int64.ofBitVec v) d (bI b) else mX1_rotatedRight (Int64.ofBitVec v) d (bI b)) = some (Int64.ofBitVec z) ∧ ∀ q, q < wd b → z.getLsbD q = v.getLsbD ((q + rof left (wd b) d.toBitVec.toNat) % wd b) := by
  obtain ⟨z, e, h⟩ := pr_rotated (b := b) (left := left) (f := fun _ => Int64.ofBitVec v) (c := fun _ => v) (j := 0) d (fun _ _ => rfl) (by decide)
  refine ⟨z, ?_, h⟩
  rw [mX2_rotated, pr_allBits (c := fun _ => v) (fun _ _ => rfl) (by decide)] at e
  simp only [Option.bind_some] at e
  cases left with
  | false =>
    rw [if_pos bI_f] at e
    rw [if_neg (by decide)]
    cases hm : mX1_rotatedRight (Int64.ofBitVec v) d (bI b) with
    | none => rw [hm] at e; cases e
    | some r => rw [hm] at e; exact e
  | true =>
    rw [if_neg (by decide)] at e
    rw [if_pos rfl]
    cases hm : mX1_rotatedLeft (Int64.ofBitVec v) d (bI b) with
    | none => rw [hm] at e; cases e
    | some r => rw [hm] at e; exact e
theorem rof_back {w D q : Nat} (hq : q < w) : ((q + rof false w D) % w + rof true w D) % w = q := by
  have e : rof false w D + rof true w D = w := by
    have := Nat.mod_lt D (show 0 < w by omega)
    show D % w + (w - D % w) = w
    omega
  exact tn_back (by rw [Nat.add_comm, e, Nat.mod_self]) hq
theorem pr_rotBack {b : Bool} {xc : Nat → Int64} {c : Nat → BitVec 64} {i : Nat} (hC : isC xc c) (hi : i < 8) : mX8_isRotatedBack xc (bI b) (nI i) = some 1 := by
  obtain ⟨z1, e1, h1⟩ := pr_rotL1 (b := b) (left := true) (c i) (nI (cnt (c i) (wd b)))
  obtain ⟨z2, e2, h2⟩ := pr_rotL1 (b := b) (left := false) z1 (nI (cnt (c i) (wd b)))
  rw [if_pos rfl] at e1
  rw [if_neg (by decide)] at e2
  have hw0 := wd_pos b
  rw [mX8_isRotatedBack, pr_ones hC hi, pr_allBits hC hi]
  simp only [Option.bind_some]
  rw [e1]
  simp only [Option.bind_some]
  rw [e2]
  simp only [Option.bind_some]
  rw [pr_signed, pr_csigned b hC hi]
  simp only [Option.bind_some]
  rw [if_pos ((lg_cmp_eq _ _).mpr (by rw [low_sgn (u := z2) (v := c i) (fun q hq => by rw [h2 q hq, h1 _ (Nat.mod_lt _ hw0), rof_back hq])]))]
theorem pr_divd (u v : BitVec 64) : mX8_isDivided (Int64.ofBitVec u) (Int64.ofBitVec v) = some 1 := by
  rw [mX8_isDivided]
  by_cases hv : v = 0#64
  · rw [hv, if_pos ((lg_cmp_eq (Int64.ofBitVec 0#64) 0).mpr rfl)]
  · have h0 : 0 < v.toNat := Nat.pos_of_ne_zero (fun z => hv (BitVec.eq_of_toNat_eq (by rw [z]; rfl)))
    rw [if_neg (fun z => hv (show (Int64.ofBitVec v).toBitVec = (0 : Int64).toBitVec from congrArg Int64.toBitVec ((lg_cmp_eq _ _).mp z))), pr_plainQuotient u v hv]
    simp only [Option.bind_some]
    have em : Int64.ofBitVec (u / v) * Int64.ofBitVec v = Int64.ofBitVec (u / v * v) := rfl
    have es : Int64.ofBitVec u - Int64.ofBitVec (u / v * v) = Int64.ofBitVec (u - u / v * v) := rfl
    have q1 : u.toNat / v.toNat * v.toNat ≤ u.toNat := Nat.div_mul_le_self _ _
    have hu := u.isLt
    have n1 : (u / v * v).toNat = u.toNat / v.toNat * v.toNat := by
      rw [BitVec.toNat_mul, BitVec.toNat_udiv, Nat.mod_eq_of_lt (by omega)]
    have n2 : (u - u / v * v).toNat = u.toNat % v.toNat := by
      have h9 := Nat.div_add_mod u.toNat v.toNat
      rw [Nat.mul_comm] at h9
      rw [BitVec.toNat_sub, n1]
      omega
    have hlt := Nat.mod_lt u.toNat h0
    rw [em, pr_plainOrder, n1]
    simp only [Option.bind_some]
    have hle : ¬ (0 : Int32) < cmpI (u.toNat / v.toNat * v.toNat) u.toNat := by
      rcases Nat.lt_or_eq_of_le q1 with h | h
      · rw [cmpI_lt h]
        decide
      · rw [cmpI_eq h]
        decide
    rw [if_neg hle, es, pr_plainOrder, n2, cmpI_lt hlt]
    rfl
theorem add0 (x : Int32) : x + 0 = x := Int32.add_zero x
theorem pr_f13 {b : Bool} {xc : Nat → Int64} {c : Nat → BitVec 64} {i K : Nat} (hC : isC xc c) (hi : i < 8) (hK : 130 < K) : ∀ (d R k : Nat) (sum s : Int32) (v : Int64) (f : Nat → Int32), R + d = 37 → d < k → 2 ≤ R → ∃ s2 v2 f2, mX8_failures_L13 K 65 xc (bI b) (nI i) k sum (nI R) s v f = some (sum, s2, v2, f2)
  | _, _, 0, _, _, _, _, _, hk, _ => absurd hk (Nat.not_lt_zero _)
  | 0, R, k + 1, sum, s, v, f, h, _, _ => ⟨s, v, f, by rw [mX8_failures_L13, if_pos (show (36 : Int32) < nI R from nI_lt (a := 36) (by omega) (by omega))]⟩
  | d + 1, R, k + 1, sum, s, v, f, h, hk, hR => by
    obtain ⟨f1, s1, v1, e1⟩ := pr_readBack (b := b) (p := false) (f := f) (v0 := v) hC hi hR (show R ≤ 36 by omega) hK
    obtain ⟨f2, s2, v2, e2⟩ := pr_readBack (b := b) (p := true) (f := f1) (v0 := v1) hC hi hR (show R ≤ 36 by omega) hK
    obtain ⟨s3, v3, f3, e3⟩ := pr_f13 (b := b) hC hi hK d (R + 1) k sum s2 v2 f2 (by omega) (by omega) (by omega)
    have e1' : mX8_isReadBack K 65 f v xc (bI b) (nI i) (nI R) 0 = _ := e1
    have e2' : mX8_isReadBack K 65 f1 v1 xc (bI b) (nI i) (nI R) 1 = _ := e2
    refine ⟨s3, v3, f3, ?_⟩
    rw [mX8_failures_L13, if_neg (show ¬ (36 : Int32) < nI R from nI_nlt (a := 36) (by omega) (by omega)), e1']
    simp only [Option.bind_some, e10, if_false, add0]
    rw [e2']
    simp only [Option.bind_some, e10, if_false, add0]
    rw [nI_1]
    exact e3
theorem pr_f4 {b : Bool} {xc : Nat → Int64} {c : Nat → BitVec 64} {K : Nat} (hC : isC xc c) (hK : 130 < K) : ∀ (d i k : Nat) (sum s : Int32) (v : Int64) (f : Nat → Int32), i + d = 8 → d < k → ∃ s2 v2 f2, mX8_failures_L4 K 65 xc (bI b) k sum (nI i) s v f = some (sum, s2, v2, f2)
  | _, _, 0, _, _, _, _, _, hk => absurd hk (Nat.not_lt_zero _)
  | 0, i, k + 1, sum, s, v, f, h, _ => ⟨s, v, f, by rw [mX8_failures_L4, if_pos (show (8 : Int32) ≤ nI i from nI_le (a := 8) (by omega) (by omega))]⟩
  | d + 1, i, k + 1, sum, s, v, f, h, hk => by
    have hi : i < 8 := by omega
    obtain ⟨s1, v1, f1, e1⟩ := pr_f13 (b := b) hC hi hK 35 2 K sum s v f (by omega) (by omega) (by omega)
    obtain ⟨s2, v2, f2, e2⟩ := pr_f4 (b := b) hC hK d (i + 1) k sum s1 v1 f1 (by omega) (by omega)
    have e1' : mX8_failures_L13 K 65 xc (bI b) (nI i) K sum 2 s v f = _ := e1
    obtain ⟨j, hj, ej⟩ : ∃ j : Nat, j < 8 ∧ ((if (8 : Int32) ≤ (nI i + 1) then some 0 else some (nI i + 1)) : Option Int32) = some (nI j) := by
      rw [nI_1]
      by_cases h8 : 8 ≤ i + 1
      · exact ⟨0, by decide, by rw [if_pos (show (8 : Int32) ≤ nI (i + 1) from nI_le (a := 8) h8 (by omega))]; rfl⟩
      · exact ⟨i + 1, by omega, by rw [if_neg (show ¬ (8 : Int32) ≤ nI (i + 1) from nI_ge (b := 8) (by omega) (by omega))]⟩
    refine ⟨s2, v2, f2, ?_⟩
    rw [mX8_failures_L4, if_neg (show ¬ (8 : Int32) ≤ nI i from nI_ge (b := 8) (by omega) (by omega)), e1']
    simp only [Option.bind_some]
    rw [pr_turnedBack hC hi]
    simp only [Option.bind_some, e10, if_false, add0]
    rw [pr_bytesBack hC hi]
    simp only [Option.bind_some, e10, if_false, add0]
    rw [pr_rotBack hC hi]
    simp only [Option.bind_some, e10, if_false, add0]
    rw [pr_cplain b hC hi, ej]
    simp only [Option.bind_some]
    rw [pr_cplain b hC hj]
    simp only [Option.bind_some]
    rw [pr_divd]
    simp only [Option.bind_some, e10, if_false, add0]
    rw [nI_1]
    exact e2
theorem pr_tk10_r {B : Nat → Nat → Int32} {c : Nat → BitVec 64} {K : Nat} (hB : isB B c) (hK : 64 < K) : ∀ (d i k : Nat) (g : Nat → Nat → Int32), i + d = 8 → d < k → (∀ j, j < i → isR 64 (g j) (c j)) → ∃ g2, mX12_take_r_L10 K B k (nI i) g = some g2 ∧ isB g2 c
  | _, _, 0, _, _, hk, _ => absurd hk (Nat.not_lt_zero _)
  | 0, i, k + 1, g, h, _, q => ⟨g, by rw [mX12_take_r_L10, if_pos (show (8 : Int32) ≤ nI i from nI_le (a := 8) (by omega) (by omega))], fun j hj => q j (by omega)⟩
  | d + 1, i, k + 1, g, h, hk, q => by
    obtain ⟨f1, e1, a1, a2⟩ := pr_copy (w := 64) (N1 := 64) (N2 := 64) (k := K) (g := B i) (f := g i) (Nat.le_refl _) (Nat.le_refl _) (by omega) (by omega) hK
    obtain ⟨g2, e, q2⟩ := pr_tk10_r hB hK d (i + 1) k (upR g i f1) (by omega) (by omega) (fun j hj => by
      unfold upR
      by_cases hji : j = i
      · rw [if_pos hji, hji]
        exact fun t ht => by rw [a1 t ht, hB i (by omega) t ht, nar_b]
      · rw [if_neg hji]
        exact q j (by omega))
    refine ⟨g2, ?_, q2⟩
    rw [mX12_take_r_L10, if_neg (show ¬ (8 : Int32) ≤ nI i from nI_ge (b := 8) (by omega) (by omega)), if_neg (nI_in (show i < 8 by omega) (by omega)), if_neg (nI_in (show i < 8 by omega) (by omega)), nI_clamp (by omega)]
    have e1' : mX13_copy K 64 64 (B i) (g i) 64 = some f1 := e1
    rw [e1']
    simp only [Option.bind_some]
    rw [nI_1]
    exact e
theorem pr_tk41_r {pn : Nat} {pg : Nat → Nat} {fp : Nat → Int32} (hp : pn ≤ 65) (hfp : ∀ q, q < pn → fp q = nI (pg q)) : ∀ (d i k : Nat) (f : Nat → Int32), i + d = pn → d < k → (∀ q, q < i → f q = nI (pg q)) → ∃ f2, mX12_take_r_L41 (nI pn) fp k (nI i) f = some f2 ∧ ∀ q, q < pn → f2 q = nI (pg q)
  | _, _, 0, _, _, hk, _ => absurd hk (Nat.not_lt_zero _)
  | 0, i, k + 1, f, h, _, q1 => ⟨f, by rw [mX12_take_r_L41, if_pos (nI_le (by omega) (by omega))], fun q hq => q1 q (by omega)⟩
  | d + 1, i, k + 1, f, h, hk, q1 => by
    obtain ⟨f2, e, r⟩ := pr_tk41_r hp hfp d (i + 1) k (upd f i (nI (pg i))) (by omega) (by omega) (fun q hq => by
      by_cases hqi : q = i
      · rw [hqi, pk_us]
      · rw [pk_un hqi]
        exact q1 q (by omega))
    refine ⟨f2, ?_, r⟩
    rw [mX12_take_r_L41, if_neg (nI_ge (by omega) (by omega)), if_neg (nI_in (show i < 66 by omega) (by omega)), if_neg (nI_in (show i < 66 by omega) (by omega)), nI_clamp (by omega), hfp i (by omega), nI_1]
    exact e
theorem pr_tk_r {b : Bool} {B Bt : Nat → Nat → Int32} {c : Nat → BitVec 64} {k pn : Nat} {pg : Nat → Nat} {fp ft : Nat → Int32} (hB : isB B c) (hk : 64 < k) (hp : pn ≤ 65) (hk2 : 65 < k) (hfp : ∀ q, q < pn → fp q = nI (pg q)) : ∃ B2 f2, mX12_take_r k Bt ft (bI b) B fp (nI pn) = some (bI b, B2, f2, nI pn) ∧ isB B2 c ∧ ∀ q, q < pn → f2 q = nI (pg q) := by
  obtain ⟨B2, e1, h1⟩ := pr_tk10_r hB hk 8 0 k Bt (by omega) (by omega) (fun j hj => absurd hj (Nat.not_lt_zero _))
  obtain ⟨f2, e2, h2⟩ := pr_tk41_r hp hfp pn 0 k ft (by omega) (by omega) (fun j hj => absurd hj (Nat.not_lt_zero _))
  have e1' : mX12_take_r_L10 k B k 0 Bt = some B2 := e1
  have e2' : mX12_take_r_L41 (nI pn) fp k 0 ft = some f2 := e2
  refine ⟨B2, f2, ?_, h1, h2⟩
  rw [mX12_take_r, if_neg (bI_nn _), e1']
  simp only [Option.bind_some]
  rw [e2']
  rfl
theorem pr_tk10 {B : Nat → Nat → Int32} {c : Nat → BitVec 64} {K : Nat} (hB : isB B c) (hK : 64 < K) : ∀ (d i k : Nat) (g : Nat → Nat → Int32), i + d = 8 → d < k → (∀ j, j < i → isR 64 (g j) (c j)) → ∃ g2, mX12_take_L10 K B k (nI i) g = some g2 ∧ isB g2 c
  | _, _, 0, _, _, hk, _ => absurd hk (Nat.not_lt_zero _)
  | 0, i, k + 1, g, h, _, q => ⟨g, by rw [mX12_take_L10, if_pos (show (8 : Int32) ≤ nI i from nI_le (a := 8) (by omega) (by omega))], fun j hj => q j (by omega)⟩
  | d + 1, i, k + 1, g, h, hk, q => by
    obtain ⟨f1, e1, a1, a2⟩ := pr_copy (w := 64) (N1 := 64) (N2 := 64) (k := K) (g := B i) (f := g i) (Nat.le_refl _) (Nat.le_refl _) (by omega) (by omega) hK
    obtain ⟨g2, e, q2⟩ := pr_tk10 hB hK d (i + 1) k (upR g i f1) (by omega) (by omega) (fun j hj => by
      unfold upR
      by_cases hji : j = i
      · rw [if_pos hji, hji]
        exact fun t ht => by rw [a1 t ht, hB i (by omega) t ht, nar_b]
      · rw [if_neg hji]
        exact q j (by omega))
    refine ⟨g2, ?_, q2⟩
    rw [mX12_take_L10, if_neg (show ¬ (8 : Int32) ≤ nI i from nI_ge (b := 8) (by omega) (by omega)), if_neg (nI_in (show i < 8 by omega) (by omega)), if_neg (nI_in (show i < 8 by omega) (by omega)), nI_clamp (by omega)]
    have e1' : mX13_copy K 64 64 (B i) (g i) 64 = some f1 := e1
    rw [e1']
    simp only [Option.bind_some]
    rw [nI_1]
    exact e
theorem pr_tk41 {pn : Nat} {pg : Nat → Nat} {fp : Nat → Int32} (hp : pn ≤ 65) (hfp : ∀ q, q < pn → fp q = nI (pg q)) : ∀ (d i k : Nat) (f : Nat → Int32), i + d = pn → d < k → (∀ q, q < i → f q = nI (pg q)) → ∃ f2, mX12_take_L41 (nI pn) fp k (nI i) f = some f2 ∧ ∀ q, q < pn → f2 q = nI (pg q)
  | _, _, 0, _, _, hk, _ => absurd hk (Nat.not_lt_zero _)
  | 0, i, k + 1, f, h, _, q1 => ⟨f, by rw [mX12_take_L41, if_pos (nI_le (by omega) (by omega))], fun q hq => q1 q (by omega)⟩
  | d + 1, i, k + 1, f, h, hk, q1 => by
    obtain ⟨f2, e, r⟩ := pr_tk41 hp hfp d (i + 1) k (upd f i (nI (pg i))) (by omega) (by omega) (fun q hq => by
      by_cases hqi : q = i
      · rw [hqi, pk_us]
      · rw [pk_un hqi]
        exact q1 q (by omega))
    refine ⟨f2, ?_, r⟩
    rw [mX12_take_L41, if_neg (nI_ge (by omega) (by omega)), if_neg (nI_in (show i < 66 by omega) (by omega)), if_neg (nI_in (show i < 66 by omega) (by omega)), nI_clamp (by omega), hfp i (by omega), nI_1]
    exact e
theorem pr_tk {b : Bool} {B Bt : Nat → Nat → Int32} {c : Nat → BitVec 64} {k pn : Nat} {pg : Nat → Nat} {fp ft : Nat → Int32} (hB : isB B c) (hk : 64 < k) (hp : pn ≤ 65) (hk2 : 65 < k) (hfp : ∀ q, q < pn → fp q = nI (pg q)) : ∃ B2 f2, mX12_take k Bt ft (bI b) B fp (nI pn) = some (bI b, B2, f2, nI pn) ∧ isB B2 c ∧ ∀ q, q < pn → f2 q = nI (pg q) := by
  obtain ⟨B2, e1, h1⟩ := pr_tk10 hB hk 8 0 k Bt (by omega) (by omega) (fun j hj => absurd hj (Nat.not_lt_zero _))
  obtain ⟨f2, e2, h2⟩ := pr_tk41 hp hfp pn 0 k ft (by omega) (by omega) (fun j hj => absurd hj (Nat.not_lt_zero _))
  have e1' : mX12_take_L10 k B k 0 Bt = some B2 := e1
  have e2' : mX12_take_L41 (nI pn) fp k 0 ft = some f2 := e2
  refine ⟨B2, f2, ?_, h1, h2⟩
  rw [mX12_take, if_neg (bI_nn _), e1']
  simp only [Option.bind_some]
  rw [e2']
  rfl
