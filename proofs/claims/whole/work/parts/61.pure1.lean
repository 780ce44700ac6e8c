/-! pure: lays, told, puts, sizes -/
theorem sh1 (y : Int64) : (y >>> ((1 : Int32).toInt64 &&& 63)).toBitVec = y.toBitVec.sshiftRight 1 := by
  rw [Int64.toBitVec_shiftRight]
  have h : (((1 : Int32).toInt64 &&& 63).toBitVec.smod 64) = 1#64 := by decide
  rw [h]
  rfl
theorem low1 (y : Int64) : (lg_cmp (y &&& 1) 1 = 0) ↔ y.toBitVec.getLsbD 0 = true := by
  rw [lg_cmp_eq, ← Int64.toBitVec_inj, Int64.toBitVec_and]
  have h1 : (1 : Int64).toBitVec = 1#64 := rfl
  rw [h1]
  constructor
  · intro h
    have h2 := congrArg (fun z => BitVec.getLsbD z 0) h
    simpa using h2
  · intro h
    apply BitVec.eq_of_getLsbD_eq
    intro i hi
    rw [BitVec.getLsbD_and]
    by_cases h0 : i = 0
    · subst h0
      rw [h]
      rfl
    · simp [h0]
theorem pr_lays_L {N : Nat} {f : Nat → Int32} {v : BitVec 64} (h1 : 64 ≤ N) (hN : N < 1000) : ∀ (d i k : Nat) (y : Int64) (row : Nat → Int32), i + d = 64 → d < k → y.toBitVec = v.sshiftRight i → (∀ j, j < i → row j = bI (v.getLsbD j)) → (∀ j, i ≤ j → row j = f j) → ∃ R, mX13_lays_L5 N k y (nI i) row = some R ∧ isR 64 R v ∧ ∀ j, 64 ≤ j → R j = f j
  | _, _, 0, _, _, _, hk, _, _, _ => absurd hk (Nat.not_lt_zero _)
  | 0, i, k + 1, y, row, h, _, _, q1, q2 => ⟨row, by rw [mX13_lays_L5, if_pos (show (64 : Int32) ≤ nI i from nI_le (a := 64) (by omega) (by omega))], fun j hj => q1 j (by omega), fun j hj => q2 j (by omega)⟩
  | d + 1, i, k + 1, y, row, h, hk, hy, q1, q2 => by
    have hb : y.toBitVec.getLsbD 0 = v.getLsbD i := by
      rw [hy, BitVec.getLsbD_sshiftRight]
      simp only [Nat.add_zero]
      rw [if_pos (by omega)]
      simp
    obtain ⟨R, e, r1, r2⟩ := pr_lays_L (f := f) h1 hN d (i + 1) k (y >>> ((1 : Int32).toInt64 &&& 63)) (upd row i (bI (v.getLsbD i))) (by omega) (by omega) (by rw [sh1, hy, ← BitVec.sshiftRight_add]) (fun j hj => by
      by_cases hji : j = i
      · subst hji
        rw [pk_us]
      · rw [pk_un hji]
        exact q1 j (by omega)) (fun j hj => by
      rw [pk_un (by omega)]
      exact q2 j (by omega))
    refine ⟨R, ?_, r1, r2⟩
    have e1 : ((if (lg_cmp (y &&& 1) 1) = 0 then some 1 else some 0) : Option Int32) = some (bI (v.getLsbD i)) := by
      cases hc : v.getLsbD i with
      | true => rw [if_pos ((low1 y).mpr (hb.trans hc))]; rfl
      | false => rw [if_neg (fun z => by rw [(low1 y).mp z] at hb; rw [← hb] at hc; cases hc)]; rfl
    rw [mX13_lays_L5, if_neg (show ¬ (64 : Int32) ≤ nI i from nI_ge (b := 64) (by omega) (by omega)), e1]
    simp only [Option.bind_some]
    rw [if_neg (nI_in (by omega) (by omega)), nI_clamp (by omega), nI_1, nar_b]
    exact e
theorem pr_lays {N k : Nat} {f : Nat → Int32} (v : Int64) (h1 : 64 ≤ N) (hN : N < 1000) (hk : 64 < k) : ∃ R, mX13_lays k N f v = some R ∧ isR 64 R v.toBitVec ∧ ∀ j, 64 ≤ j → R j = f j := by
  obtain ⟨R, e, r1, r2⟩ := pr_lays_L (f := f) (v := v.toBitVec) h1 hN 64 0 k v f (by omega) hk (by simp) (fun j hj => absurd hj (Nat.not_lt_zero _)) (fun _ _ => rfl)
  refine ⟨R, ?_, r1, r2⟩
  rw [mX13_lays]
  show (mX13_lays_L5 N k v (nI 0) f).bind _ = _
  rw [e]
  rfl
theorem sx_bit {w : Nat} (hw : 0 < w) (x : BitVec w) {i : Nat} (hi : i < 64) : (x.signExtend 64).getLsbD i = x.getLsbD (if w - 1 < i then w - 1 else i) := by
  rw [BitVec.getLsbD_signExtend, decide_eq_true hi, Bool.true_and]
  by_cases h : i < w
  · rw [if_pos h, if_neg (by omega)]
  · rw [if_neg h, if_pos (by omega), BitVec.msb_eq_getLsbD_last]
theorem min_nI {w i : Nat} (hw : 0 < w) (h : w ≤ 64) (hi : i < 64) : (if nI w - 1 < nI i then nI w - 1 else nI i) = nI (if w - 1 < i then w - 1 else i) := by
  have e : nI w - 1 = nI (w - 1) := pk_sub (b := 1) hw
  rw [e]
  by_cases hc : w - 1 < i
  · rw [if_pos (nI_lt hc (by omega)), if_pos hc]
  · rw [if_neg (nI_nlt (by omega) (by omega)), if_neg hc]
theorem bit_L (a : Bool) : ((if bI a = 0 then some 0 else some 1) : Option Int64) = some (lN a.toNat) := by cases a <;> rfl
theorem pr_told_L {w : Nat} {B : Nat → Nat → Int32} {r : Nat} {x : BitVec w} (hB : isR w (B r) x) (hw0 : 0 < w) (hw : w ≤ 64) : ∀ (i k : Nat), i ≤ 64 → i < k → mX12_told_r_L6 (nI w) B r k (lN ((x.signExtend 64).toNat / 2 ^ i)) (dn i) = some (lN (x.signExtend 64).toNat)
  | _, 0, _, hk => absurd hk (Nat.not_lt_zero _)
  | 0, k + 1, _, _ => by
    rw [mX12_told_r_L6, if_pos dn_neg]
    simp
  | i + 1, k + 1, hi, hk => by
    have hb := nat_bit (x.signExtend 64).toNat i
    have hx := sx_bit hw0 x (i := i) (by omega)
    have hlt : (if w - 1 < i then w - 1 else i) < w := by split <;> omega
    rw [mX12_told_r_L6, dn_s, if_neg (nI_pos (by omega)), min_nI hw0 hw (by omega)]
    simp only [Option.bind_some]
    rw [if_neg (nI_in (by omega) (by omega)), nI_clamp (by omega), hB _ hlt, ← hx, bit_L]
    simp only [Option.bind_some]
    rw [dn_m]
    have e : lN ((x.signExtend 64).toNat / 2 ^ (i + 1)) * 2 + lN ((x.signExtend 64).getLsbD i).toNat = lN ((x.signExtend 64).toNat / 2 ^ i) := by
      have h2 : (2 : Int64) = lN 2 := rfl
      rw [h2, lN_mul, lN_add, hb, Nat.mul_comm]
      rfl
    rw [e]
    exact pr_told_L hB hw0 hw i k (by omega) (by omega)
theorem pr_told {w k : Nat} {B : Nat → Nat → Int32} {r : Nat} {x : BitVec w} (hB : isR w (B r) x) (hw0 : 0 < w) (hw : w ≤ 64) (hk : 64 < k) : mX12_told_r k B (nI w) r = some (lN (x.signExtend 64).toNat) := by
  have h := pr_told_L hB hw0 hw 64 k (Nat.le_refl _) hk
  rw [Nat.div_eq_of_lt (x.signExtend 64).isLt] at h
  rw [mX12_told_r]
  show (mX12_told_r_L6 (nI w) B r k (lN 0) (dn 64)).bind _ = _
  rw [h]
  rfl
/-- the told number of a row: its w bits with sign -/
theorem pr_toldf_L {w : Nat} {f : Nat → Int32} {x : BitVec w} (hB : isR w f x) (hw0 : 0 < w) (hw : w ≤ 64) : ∀ (i k : Nat), i ≤ 64 → i < k → mX12_told_f_L6 (nI w) f k (lN ((x.signExtend 64).toNat / 2 ^ i)) (dn i) = some (lN (x.signExtend 64).toNat)
  | _, 0, _, hk => absurd hk (Nat.not_lt_zero _)
  | 0, k + 1, _, _ => by
    rw [mX12_told_f_L6, if_pos dn_neg]
    simp
  | i + 1, k + 1, hi, hk => by
    have hb := nat_bit (x.signExtend 64).toNat i
    have hx := sx_bit hw0 x (i := i) (by omega)
    have hlt : (if w - 1 < i then w - 1 else i) < w := by split <;> omega
    rw [mX12_told_f_L6, dn_s, if_neg (nI_pos (by omega)), min_nI hw0 hw (by omega)]
    simp only [Option.bind_some]
    rw [if_neg (nI_in (by omega) (by omega)), nI_clamp (by omega), hB _ hlt, ← hx, bit_L]
    simp only [Option.bind_some]
    rw [dn_m]
    have e : lN ((x.signExtend 64).toNat / 2 ^ (i + 1)) * 2 + lN ((x.signExtend 64).getLsbD i).toNat = lN ((x.signExtend 64).toNat / 2 ^ i) := by
      have h2 : (2 : Int64) = lN 2 := rfl
      rw [h2, lN_mul, lN_add, hb, Nat.mul_comm]
      rfl
    rw [e]
    exact pr_toldf_L hB hw0 hw i k (by omega) (by omega)
theorem pr_toldf {w k : Nat} {f : Nat → Int32} {x : BitVec w} (hB : isR w f x) (hw0 : 0 < w) (hw : w ≤ 64) (hk : 64 < k) : mX12_told_f k f (nI w) = some (lN (x.signExtend 64).toNat) := by
  have h := pr_toldf_L hB hw0 hw 64 k (Nat.le_refl _) hk
  rw [Nat.div_eq_of_lt (x.signExtend 64).isLt] at h
  rw [mX12_told_f]
  show (mX12_told_f_L6 (nI w) f k (lN 0) (dn 64)).bind _ = _
  rw [h]
  rfl
/-- the desk's width -/
def wd (b : Bool) : Nat := if b then 64 else 32
theorem wd_cases (b : Bool) : wd b = 32 ∨ wd b = 64 := by cases b <;> decide
theorem wd_pos (b : Bool) : 0 < wd b := by cases b <;> decide
theorem wd_le (b : Bool) : wd b ≤ 64 := by cases b <;> decide
theorem pr_bits (b : Bool) : mX12_bits (bI b) = some (nI (wd b)) := by cases b <;> rfl
theorem lN_bv64 (e : BitVec 64) : lN e.toNat = Int64.ofBitVec e := Int64.toBitVec_inj.mp (by show BitVec.ofNat 64 e.toNat = e; simp)
/-- the reference's cells: c's bits in the rows of B -/
def isB (B : Nat → Nat → Int32) (c : Nat → BitVec 64) : Prop := ∀ j, j < 8 → isR 64 (B j) (c j)
theorem isR.sub {w : Nat} {f : Nat → Int32} {x : BitVec 64} (h : isR 64 f x) (hw : w ≤ 64) : isR w f (x.setWidth w) := fun i hi => by
  rw [h i (by omega), BitVec.getLsbD_setWidth, decide_eq_true hi, Bool.true_and]
/-- a cell's number: its w bits with sign -/
def sgn (b : Bool) (x : BitVec 64) : BitVec 64 := (x.setWidth (wd b)).signExtend 64
theorem pr_number {b : Bool} {k j : Nat} {B : Nat → Nat → Int32} {c : Nat → BitVec 64} (hB : isB B c) (hj : j < 8) (hk : 64 < k) : mX12_number k (bI b) B (nI j) = some (Int64.ofBitVec (sgn b (c j))) := by
  rw [mX12_number, if_neg (nI_in hj (by omega)), pr_bits]
  simp only [Option.bind_some]
  rw [nI_clamp (by omega), pr_told ((hB j hj).sub (wd_le b)) (wd_pos b) (wd_le b) hk]
  simp only [Option.bind_some]
  rw [lN_bv64]
  rfl
