/-! pure: compare -/
theorem lN_bv (n : Nat) : (lN n).toBitVec = BitVec.ofNat 64 n := rfl
theorem lN_nat {n : Nat} (h : n < 2 ^ 64) : (lN n).toBitVec.toNat = n := by rw [lN_bv, BitVec.toNat_ofNat]; exact Nat.mod_eq_of_lt h
theorem lN_xor (a b : Nat) : lN a ^^^ lN b = lN (a ^^^ b) := by
  apply Int64.toBitVec_inj.mp; rw [Int64.toBitVec_xor, lN_bv, lN_bv, lN_bv]; apply BitVec.eq_of_getLsbD_eq; intro i hi; simp [BitVec.getLsbD_ofNat, Nat.testBit_xor, hi]
theorem lN_ti {m : Nat} (h : m < 2 ^ 64) : (lN m).toInt = if m < 2 ^ 63 then (m : Int) else (m : Int) - 2 ^ 64 := by
  have c := BitVec.toInt_eq_toNat_cond (lN m).toBitVec
  rw [lN_nat h] at c
  show (lN m).toBitVec.toInt = _
  rw [c]
  split <;> split <;> omega
theorem xor63 {x : Nat} (h : x < 2 ^ 63) : x ^^^ 2 ^ 63 = 2 ^ 63 + x := by
  apply Nat.eq_of_testBit_eq
  intro i
  rw [Nat.testBit_xor, Nat.testBit_two_pow]
  rcases Nat.lt_trichotomy i 63 with z | z | z
  · rw [Nat.testBit_two_pow_add_gt z, decide_eq_false (by omega)]; simp
  · subst z; rw [Nat.testBit_two_pow_add_eq]; simp
  · have hp : 2 ^ 64 ≤ 2 ^ i := Nat.pow_le_pow_right (by decide) z
    rw [Nat.testBit_lt_two_pow (show x < 2 ^ i by omega), Nat.testBit_lt_two_pow (show 2 ^ 63 + x < 2 ^ i by omega), decide_eq_false (by omega)]; rfl
theorem xorS {a : Nat} (h : a < 2 ^ 64) : (lN a ^^^ (-9223372036854775808)).toInt = (a : Int) - 2 ^ 63 := by
  rw [show (-9223372036854775808 : Int64) = lN (2 ^ 63) from by decide +kernel, lN_xor]
  rcases Nat.lt_or_ge a (2 ^ 63) with z | z
  · rw [xor63 z, lN_ti (by omega), if_neg (by omega)]; omega
  · obtain ⟨x, rfl⟩ : ∃ x, a = 2 ^ 63 + x := ⟨a - 2 ^ 63, by omega⟩
    rw [← xor63 (by omega), Nat.xor_assoc, Nat.xor_self, Nat.xor_zero, lN_ti (by omega), if_pos (by omega), xor63 (by omega)]; omega
theorem ultL {a b : Nat} (ha : a < 2 ^ 64) (hb : b < 2 ^ 64) : ((lN b ^^^ (-9223372036854775808)) ≤ (lN a ^^^ (-9223372036854775808))) ↔ b ≤ a := by
  rw [Int64.le_iff_toInt_le, xorS ha, xorS hb]; omega
/-! ===== Int64 masks of n low bits ===== -/
theorem pr_plainOrder (u v : BitVec 64) : mX1_plainOrder (Int64.ofBitVec u) (Int64.ofBitVec v) = some (cmpI u.toNat v.toNat) := by
  rw [← lN_bv64 u, ← lN_bv64 v, mX1_plainOrder, cmpI]
  rcases Nat.lt_trichotomy u.toNat v.toNat with h | h | h
  · rw [if_neg (fun z => by
      have h9 := congrArg (fun q => q.toBitVec.toNat) ((lg_cmp_eq _ _).mp z)
      simp only [lN_nat u.isLt, lN_nat v.isLt] at h9
      omega), if_neg (fun z => by
      have h9 := (ultL u.isLt v.isLt).mp ((lg_cmp_ge _ _).mp z)
      omega), if_pos h]
  · rw [h, if_pos ((lg_cmp_eq _ _).mpr rfl), if_neg (Nat.lt_irrefl _), if_pos rfl]
  · rw [if_neg (fun z => by
      have h9 := congrArg (fun q => q.toBitVec.toNat) ((lg_cmp_eq _ _).mp z)
      simp only [lN_nat u.isLt, lN_nat v.isLt] at h9
      omega), if_pos ((lg_cmp_ge _ _).mpr ((ultL u.isLt v.isLt).mpr (by omega))), if_neg (by omega), if_neg (by omega)]
def cmpZ (a b : Int) : Int32 := if a < b then -1 else if a = b then 0 else 1
theorem pr_compareL (u v : BitVec 64) : mJ13_compare_74951 (Int64.ofBitVec u) (Int64.ofBitVec v) = some (cmpZ u.toInt v.toInt) := by
  have e : ∀ q : BitVec 64, (Int64.ofBitVec q).toInt = q.toInt := fun _ => rfl
  rw [mJ13_compare_74951, cmpZ]
  by_cases h : u.toInt < v.toInt
  · rw [if_neg (fun z => by
      have h9 := Int64.le_iff_toInt_le.mp ((lg_cmp_ge _ _).mp z)
      rw [e, e] at h9
      omega), if_pos h]
  · rw [if_pos ((lg_cmp_ge _ _).mpr (Int64.le_iff_toInt_le.mpr (by rw [e, e]; omega))), if_neg h]
    by_cases h2 : Int64.ofBitVec u = Int64.ofBitVec v
    · have h3 : u.toInt = v.toInt := congrArg Int64.toInt h2
      rw [if_pos ((lg_cmp_eq _ _).mpr h2), if_pos h3]
    · have h3 : ¬ u.toInt = v.toInt := fun z => h2 (Int64.toInt_inj.mp (show (Int64.ofBitVec u).toInt = (Int64.ofBitVec v).toInt from z))
      rw [if_neg (fun z => h2 ((lg_cmp_eq _ _).mp z)), if_neg h3]
theorem pr_signumI (a b : Int) : mJ6_signum_0f7a4 (cmpZ a b) = some (cmpZ a b) := by
  unfold cmpZ
  split
  · decide
  · split <;> decide
theorem cmpZ_w {w : Nat} (x y : BitVec w) : cmpZ x.toInt y.toInt = if x.msb = y.msb then cmpI x.toNat y.toNat else if x.msb = false then 1 else -1 := by
  have hx := x.isLt
  have hy := y.isLt
  rw [BitVec.toInt_eq_msb_cond, BitVec.toInt_eq_msb_cond]
  cases x.msb <;> cases y.msb
  · rw [if_neg (by decide), if_neg (by decide), if_pos rfl]
    unfold cmpZ cmpI
    rcases Nat.lt_trichotomy x.toNat y.toNat with h | h | h
    · rw [if_pos (by omega), if_pos h]
    · rw [if_neg (by omega), if_pos (by omega), if_neg (by omega), if_pos h]
    · rw [if_neg (by omega), if_neg (by omega), if_neg (by omega), if_neg (by omega)]
  · rw [if_neg (by decide), if_pos rfl, if_neg (by decide), if_pos rfl]
    unfold cmpZ
    rw [if_neg (by omega), if_neg (by omega)]
  · rw [if_pos rfl, if_neg (by decide), if_neg (by decide), if_neg (by decide)]
    unfold cmpZ
    rw [if_pos (by omega)]
  · rw [if_pos rfl, if_pos rfl, if_pos rfl]
    unfold cmpZ cmpI
    rcases Nat.lt_trichotomy x.toNat y.toNat with h | h | h
    · rw [if_pos (by omega), if_pos h]
    · rw [if_neg (by omega), if_pos (by omega), if_neg (by omega), if_pos h]
    · rw [if_neg (by omega), if_neg (by omega), if_neg (by omega), if_neg (by omega)]
/-- the order of two cells -/
def ordr (b p : Bool) (x y : BitVec 64) : Int32 := if p then cmpI (x.setWidth (wd b)).toNat (y.setWidth (wd b)).toNat else cmpZ (x.setWidth (wd b)).toInt (y.setWidth (wd b)).toInt
theorem pln_nat (b : Bool) (x : BitVec 64) : (pln b x).toNat = (x.setWidth (wd b)).toNat := BitVec.toNat_setWidth_of_le (wd_le b)
theorem sgn_int (b : Bool) (x : BitVec 64) : (sgn b x).toInt = (x.setWidth (wd b)).toInt := BitVec.toInt_signExtend_of_le (wd_le b)
theorem pr_ccompared {b p : Bool} {f : Nat → Int64} {c : Nat → BitVec 64} {i j : Nat} (h : isC f c) (hi : i < 8) (hj : j < 8) : mX2_compared f (bI b) (nI i) (nI j) (bI p) = some (ordr b p (c i) (c j)) := by
  rw [mX2_compared, pr_valueOf b p h hi, pr_valueOf b p h hj]
  simp only [Option.bind_some]
  cases p with
  | true =>
    rw [if_neg (by decide)]
    show (mX1_plainOrder (Int64.ofBitVec (pln b (c i))) (Int64.ofBitVec (pln b (c j)))).bind _ = _
    rw [pr_plainOrder, pln_nat, pln_nat]
    rfl
  | false =>
    rw [if_pos bI_f]
    show (mJ13_compare_74951 (Int64.ofBitVec (sgn b (c i))) (Int64.ofBitVec (sgn b (c j)))).bind _ = _
    rw [pr_compareL]
    simp only [Option.bind_some]
    rw [pr_signumI, sgn_int, sgn_int]
    rfl
theorem pr_rcompared {b p : Bool} {k : Nat} {f g : Nat → Int32} {x y : BitVec 64} (hf : isR 64 f x) (hg : isR 64 g y) (hk : 64 < k) : mX12_compares_s k (bI b) f g (bI p) = some (ordr b p x y) := by
  have hw0 := wd_pos b
  have hw := wd_le b
  have hb : mX12_bits_s (bI b) = some (nI (wd b)) := pr_bits b
  have em : nI (wd b) - 1 = nI (wd b - 1) := pk_sub (b := 1) hw0
  have h36 : mX12_compares_s_j36 (bI b) k f g = some (cmpI (x.setWidth (wd b)).toNat (y.setWidth (wd b)).toNat) := by
    rw [mX12_compares_s_j36, hb]
    simp only [Option.bind_some]
    rw [pr_compared (hf.sub hw) (hg.sub hw) hw hw (by omega) (by omega) (by omega)]
    rfl
  rw [mX12_compares_s, hb]
  simp only [Option.bind_some]
  cases p with
  | true =>
    rw [if_neg (by decide), h36]
    rfl
  | false =>
    have mx : f (wd b - 1) = bI (x.setWidth (wd b)).msb := by rw [hf.sub hw _ (by omega), BitVec.msb_eq_getLsbD_last]
    have my : g (wd b - 1) = bI (y.setWidth (wd b)).msb := by rw [hg.sub hw _ (by omega), BitVec.msb_eq_getLsbD_last]
    rw [if_pos bI_f, em, if_neg (nI_in (by omega) (by omega)), if_neg (nI_in (by omega) (by omega)), nI_clamp (by omega), mx, my]
    show _ = some (cmpZ (x.setWidth (wd b)).toInt (y.setWidth (wd b)).toInt)
    rw [cmpZ_w]
    by_cases hm : (x.setWidth (wd b)).msb = (y.setWidth (wd b)).msb
    · rw [if_pos (bI_inj.mpr hm), if_pos hm, h36]
    · rw [if_neg (fun z => hm (bI_inj.mp z)), if_neg hm, if_neg (nI_in2 (by omega) (by omega))]
      by_cases h0 : (x.setWidth (wd b)).msb = false
      · rw [if_pos (bI_0.mpr h0), if_pos h0]
      · rw [if_neg (fun z => h0 (bI_0.mp z)), if_neg h0]
theorem pr_compared_same {N : Nat} {f : Nat → Int32} (hN : N < 1000) : ∀ (i k : Nat), i ≤ N → i < k → mX13_compared_s_L4 N f k (dn i) = some 0
  | _, 0, _, hk => absurd hk (Nat.not_lt_zero _)
  | 0, k + 1, _, _ => by rw [mX13_compared_s_L4, if_pos dn_neg]
  | i + 1, k + 1, hi, hk => by
    rw [mX13_compared_s_L4, dn_s, if_neg (nI_pos (by omega)), if_neg (nI_in (by omega) (by omega)), if_neg (nI_in (by omega) (by omega)), if_pos rfl, dn_m]
    exact pr_compared_same hN i k (by omega) (by omega)
theorem pr_rcompares {b p : Bool} {k i j : Nat} {B : Nat → Nat → Int32} {c : Nat → BitVec 64} (h : isB B c) (hi : i < 8) (hj : j < 8) (hk : 64 < k) : mX12_compares k (bI b) B (bI p) i j = some (ordr b p (c i) (c j)) := by
  rw [← pr_rcompared (b := b) (p := p) (k := k) (h i hi) (h j hj) hk]
  have hw := wd_le b
  have h36 : mX12_compares_j36 (bI b) i j k B = mX12_compares_s_j36 (bI b) k (B i) (B j) := by
    have hb : mX12_bits_s (bI b) = some (nI (wd b)) := pr_bits b
    rw [mX12_compares_j36, mX12_compares_s_j36, pr_bits, hb]
    simp only [Option.bind_some]
    by_cases hij : i = j
    · rw [if_pos hij, hij, pr_compared (h j hj |>.sub hw) (h j hj |>.sub hw) hw hw (by omega) (by omega) (by omega)]
      have h9 : mX13_compared_s k 64 (B j) (nI (wd b)) = some 0 := pr_compared_same (by omega) (wd b) k (by omega) (by omega)
      rw [h9]
      unfold cmpI
      rw [if_neg (Nat.lt_irrefl _), if_pos rfl]
    · rw [if_neg hij]
  rw [mX12_compares, mX12_compares_s, h36]
  rfl
theorem pr_signumL (v : BitVec 64) : mJ13_signum_95d88 (Int64.ofBitVec v) = some (cmpZ v.toInt 0) := by
  have hx : ∀ i, i < 64 → ((Int64.ofBitVec v) >>> ((63 : Int32).toInt64 &&& 63)).toBitVec.getLsbD i = v.msb := fun i hi => by
    have h1 : (((63 : Int32).toInt64 &&& 63).toBitVec.smod 64) = 63#64 := by decide
    rw [Int64.toBitVec_shiftRight, h1]
    show (v.sshiftRight 63).getLsbD i = _
    rw [BitVec.getLsbD_sshiftRight, BitVec.msb_eq_getLsbD_last]
    by_cases h : 63 + i < 64
    · rw [if_pos h, show 63 + i = 64 - 1 by omega]
      simp [hi]
    · rw [if_neg h]
      simp [hi]
  have hn : ∀ i, ((((-(Int64.ofBitVec v))).toUInt64 >>> (((63 : Int32)).toInt64.toUInt64 &&& Int64.toUInt64 63)).toInt64).toBitVec.getLsbD i = (-v).getLsbD (63 + i) := fun i => by
    rw [t_ushrL _ (((63 : Int32)).toInt64.toUInt64 &&& Int64.toUInt64 63) (s := 63) (by decide), BitVec.getLsbD_ushiftRight]
    rfl
  rw [mJ13_signum_95d88]
  congr 1
  apply Int32.toBitVec_inj.mp
  apply BitVec.eq_of_getLsbD_eq
  intro i hi
  rw [Int64.toBitVec_toInt32, sx32, BitVec.getLsbD_setWidth, decide_eq_true hi, Bool.true_and, Int64.toBitVec_or, BitVec.getLsbD_or, hx i (by omega), hn]
  have hm : v.msb = decide (v.toInt < 0) := BitVec.msb_eq_toInt
  have hz : v = 0#64 ∨ v ≠ 0#64 := Decidable.em _
  rcases hz with hz | hz
  · subst hz
    revert i
    decide +kernel
  · have h0 : v.toInt ≠ 0 := fun z => hz (BitVec.eq_of_toInt_eq (by rw [z]; rfl))
    unfold cmpZ
    by_cases hneg : v.toInt < 0
    · rw [if_pos hneg, hm, decide_eq_true hneg, Bool.true_or]
      revert i
      decide +kernel
    · rw [if_neg hneg, if_neg h0, hm, decide_eq_false hneg, Bool.false_or]
      by_cases hi0 : i = 0
      · subst hi0
        have h9 : (-v).getLsbD 63 = (-v).msb := (BitVec.msb_eq_getLsbD_last _).symm
        show (-v).getLsbD 63 = true
        have hlt := v.isLt
        have hv : v.toInt = (v.toNat : Int) := by
          have h8 := BitVec.toInt_eq_msb_cond v
          rw [hm, decide_eq_false hneg] at h8
          exact h8
        have hpos : v.toNat ≠ 0 := by omega
        have h7 := BitVec.toInt_lt (x := v)
        rw [h9, BitVec.msb_eq_decide, decide_eq_true]
        rw [BitVec.toNat_neg]
        omega
      · rw [BitVec.getLsbD_of_ge _ _ (by omega)]
        revert i
        decide +kernel
