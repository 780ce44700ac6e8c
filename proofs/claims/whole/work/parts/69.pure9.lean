/-! pure: the class's zeros in front are the reference's bits alike -/
theorem alk_lz (w : Nat) (v : BitVec 64) : alk false true w v = lz w v.toNat := by
  unfold alk lz
  congr 1
  funext i
  show (v.toNat.testBit (w - 1 - i) != false) = v.toNat.testBit (w - 1 - i)
  cases v.toNat.testBit (w - 1 - i) <;> rfl
theorem lz_mod (v : Nat) : lz 32 (v % 2 ^ 32) = lz 32 v := by
  unfold lz
  congr 1
  funext i
  rw [Nat.testBit_mod_two_pow, decide_eq_true (by omega), Bool.true_and]
theorem nI_mod (v : Nat) : nI v = nI (v % 2 ^ 32) := by
  apply Int32.toBitVec_inj.mp
  show BitVec.ofNat 32 v = BitVec.ofNat 32 (v % 2 ^ 32)
  apply BitVec.eq_of_toNat_eq
  rw [BitVec.toNat_ofNat, BitVec.toNat_ofNat, Nat.mod_mod]
theorem pr_zerosInFront (b : Bool) (v : BitVec 64) : mX1_zerosInFront (Int64.ofBitVec v) (bI b) = some (nI (alk false true (wd b) v)) := by
  rw [← lN_bv64, alk_lz]
  cases b with
  | true =>
    rw [mX1_zerosInFront, if_neg (by decide), pr_lz64 v.isLt]
    rfl
  | false =>
    rw [mX1_zerosInFront, if_pos bI_f, lI, nI_mod, pr_lz32 (Nat.mod_lt _ (Nat.two_pow_pos 32)), lz_mod]
    rfl
