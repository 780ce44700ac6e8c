/-! pure: leading zeros of 32 and of 64 bits -/
def lz (w v : Nat) : Nat := fst1 (fun i => v.testBit (w - 1 - i)) w 0
theorem lz_top {w v r : Nat} (h : isTop r v) (hr : r < w) : lz w v = w - 1 - r := by
  refine fst1_uniq (by omega) (fun q hq => top_above h (by omega)) (fun _ => ?_)
  have e : w - 1 - (w - 1 - r) = r := by omega
  rw [e]
  exact top_bit h
theorem lz_zero (w : Nat) : lz w 0 = w := fst1_uniq (Nat.le_refl _) (fun q _ => Nat.zero_testBit _) (fun h => absurd h (Nat.lt_irrefl _))
theorem nI_big {v : Nat} (h1 : 2 ^ 31 ≤ v) (h2 : v < 2 ^ 32) : (nI v).toInt = (v : Int) - 4294967296 := by
  show (nI v).toBitVec.toInt = _
  rw [BitVec.toInt_eq_toNat_cond, pk_tn h2, if_neg (by omega)]
  rfl
theorem pr_lz32 {v : Nat} (hv : v < 2 ^ 32) : mJ6_numberOfLeadingZeros_0f7a4 (nI v) = some (nI (lz 32 v)) := by
  by_cases h0 : v = 0
  · subst h0
    rw [lz_zero]
    decide
  · obtain ⟨r, hr, ht⟩ := top_ex 32 v (by omega) hv
    rw [lz_top ht hr]
    by_cases h31 : v < 2 ^ 31
    · exact pr_nlz32 h31 ht
    · have e : r = 31 := by
        have h9 : ¬ r < 31 := fun z => by
          have h8 : 2 ^ (r + 1) ≤ 2 ^ 31 := Nat.pow_le_pow_right (by decide) z
          have h7 := ht.2
          omega
        omega
      have hb := nI_big (Nat.le_of_not_lt h31) hv
      have hn : ¬ (0 : Int32) < nI v := fun z => by
        rw [Int32.lt_iff_toInt_lt, hb] at z
        have z2 : (0 : Int) < (v : Int) - 4294967296 := z
        omega
      have hz : ¬ nI v = 0 := fun z => by
        rw [z] at hb
        have z2 : (0 : Int) = (v : Int) - 4294967296 := hb
        omega
      rw [mJ6_numberOfLeadingZeros_0f7a4, if_neg hn, if_neg hz, e]
      rfl
theorem k_wshr {n k : Nat} {y : UInt64} (hn : n < 2 ^ 64) (hy : y.toNat % 64 = k) : ((lN n).toUInt64 >>> y).toInt64 = lN (n / 2 ^ k) := by
  apply Int64.toBitVec_inj.mp
  rw [UInt64.toBitVec_toInt64, UInt64.toBitVec_shiftRight, Int64.toBitVec_toUInt64]
  apply BitVec.eq_of_toNat_eq
  show ((BitVec.ofNat 64 n) >>> (y.toBitVec % 64#64)).toNat = (BitVec.ofNat 64 (n / 2 ^ k)).toNat
  rw [BitVec.ushiftRight_eq', BitVec.toNat_ushiftRight, BitVec.toNat_ofNat, BitVec.toNat_ofNat, Nat.mod_eq_of_lt hn, BitVec.toNat_umod, Nat.shiftRight_eq_div_pow]
  have e : y.toBitVec.toNat % (64#64).toNat = k := hy
  rw [e, Nat.mod_eq_of_lt (Nat.lt_of_le_of_lt (Nat.div_le_self _ _) hn)]
theorem lI (n : Nat) : (lN n).toInt32 = nI n := lN_i n
theorem pr_lz64 {v : Nat} (hv : v < 2 ^ 64) : mJ13_numberOfLeadingZeros_95d88 (lN v) = some (nI (lz 64 v)) := by
  have hs : ((lN v).toUInt64 >>> (((32 : Int32)).toInt64.toUInt64 &&& Int64.toUInt64 63)).toInt64 = lN (v / 2 ^ 32) := k_wshr hv (by decide)
  have hd : v / 2 ^ 32 < 2 ^ 32 := by
    rw [Nat.div_lt_iff_lt_mul (Nat.two_pow_pos 32), ← Nat.pow_add]
    exact hv
  rw [mJ13_numberOfLeadingZeros_95d88, hs, lI]
  simp only [Option.bind_some]
  by_cases h0 : v / 2 ^ 32 = 0
  · have hv32 : v < 2 ^ 32 := by
      have := Nat.div_add_mod v (2 ^ 32)
      have h9 := Nat.mod_lt v (Nat.two_pow_pos 32)
      rw [h0] at this
      omega
    rw [h0, if_pos nI_0, lI, pr_lz32 hv32]
    simp only [Option.bind_some]
    have e : (32 : Int32) + nI (lz 32 v) = nI (32 + lz 32 v) := nI_add 32 _
    rw [e]
    congr 2
    by_cases hz : v = 0
    · subst hz
      rw [lz_zero, lz_zero]
    · obtain ⟨r, hr, ht⟩ := top_ex 32 v (by omega) hv32
      rw [lz_top ht hr, lz_top ht (by omega)]
      omega
  · have hne : ¬ nI (v / 2 ^ 32) = 0 := fun z => by
      have z2 := congrArg (fun q => q.toBitVec.toNat) z
      have z3 : (nI (v / 2 ^ 32)).toBitVec.toNat = 0 := z2
      rw [pk_tn hd] at z3
      exact h0 z3
    rw [if_neg hne, pr_lz32 hd]
    simp only [Option.bind_some]
    congr 2
    obtain ⟨r, hr, ht⟩ := top_ex 64 v (by
      apply Nat.pos_of_ne_zero
      intro z
      rw [z] at h0
      exact h0 (Nat.zero_div _)) hv
    have hle : 2 ^ 32 ≤ v := by
      apply Nat.le_of_not_lt
      intro z
      exact h0 (Nat.div_eq_of_lt z)
    obtain ⟨h1, h2⟩ := top_shift ht hle
    rw [lz_top ht hr, lz_top h2 (by omega)]
    omega
