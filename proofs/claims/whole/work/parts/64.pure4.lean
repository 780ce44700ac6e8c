/-! pure: the class's cells, as the reference's -/
/-- the class's cells hold c -/
def isC (f : Nat → Int64) (c : Nat → BitVec 64) : Prop := ∀ j, j < 8 → f j = Int64.ofBitVec (c j)
/-- a number's w bits without sign -/
def pln (b : Bool) (x : BitVec 64) : BitVec 64 := (x.setWidth (wd b)).setWidth 64
def vlu (b p : Bool) (x : BitVec 64) : BitVec 64 := if p then pln b x else sgn b x
theorem sx32 (v : BitVec 64) : v.signExtend 32 = v.setWidth 32 := by
  apply BitVec.eq_of_getLsbD_eq
  intro i hi
  rw [BitVec.getLsbD_signExtend, BitVec.getLsbD_setWidth, if_pos (by omega)]
theorem sgn_t (v : BitVec 64) : sgn true v = v := by
  show (v.setWidth 64).signExtend 64 = v
  simp
theorem pln_t (v : BitVec 64) : pln true v = v := by
  show (v.setWidth 64).setWidth 64 = v
  simp
theorem pr_signed (b : Bool) (v : BitVec 64) : mX1_signed (Int64.ofBitVec v) (bI b) = some (Int64.ofBitVec (sgn b v)) := by
  cases b with
  | true =>
    rw [mX1_signed, if_neg (by decide), sgn_t]
  | false =>
    rw [mX1_signed, if_pos (by decide)]
    congr 1
    apply Int64.toBitVec_inj.mp
    rw [Int32.toBitVec_toInt64, Int64.toBitVec_toInt32, Int64.toBitVec_ofBitVec, Int64.toBitVec_ofBitVec, sx32]
    rfl
theorem low_mask : ∀ i, i < 64 → (4294967295#64).getLsbD i = decide (i < 32) := by decide +kernel
theorem pr_plain (b : Bool) (v : BitVec 64) : mX1_plain (Int64.ofBitVec v) (bI b) = some (Int64.ofBitVec (pln b v)) := by
  cases b with
  | true =>
    rw [mX1_plain, if_neg (by decide), pln_t]
  | false =>
    rw [mX1_plain, if_pos (by decide)]
    congr 1
    apply Int64.toBitVec_inj.mp
    rw [Int64.toBitVec_and, Int64.toBitVec_ofBitVec, Int64.toBitVec_ofBitVec]
    have h1 : (4294967295 : Int64).toBitVec = 4294967295#64 := rfl
    rw [h1]
    show _ = (v.setWidth 32).setWidth 64
    apply BitVec.eq_of_getLsbD_eq
    intro i hi
    rw [BitVec.getLsbD_and, low_mask i hi, BitVec.getLsbD_setWidth, BitVec.getLsbD_setWidth, decide_eq_true hi]
    cases decide (i < 32) <;> simp
theorem pr_allBits {f : Nat → Int64} {c : Nat → BitVec 64} {j : Nat} (h : isC f c) (hj : j < 8) : mX2_allBits f (nI j) = some (Int64.ofBitVec (c j)) := by
  rw [mX2_allBits, if_neg (nI_pos (by omega)), if_neg (show ¬ (8 : Int32) ≤ nI j from nI_ge (b := 8) hj (by omega)), if_neg (nI_in hj (by omega)), nI_clamp (by omega), h j hj]
/-- the cells with one of them another number -/
def upC (c : Nat → BitVec 64) (j : Nat) (v : BitVec 64) : Nat → BitVec 64 := fun q => if q = j then v else c q
theorem isC.up {f : Nat → Int64} {c : Nat → BitVec 64} (h : isC f c) (j : Nat) (v : BitVec 64) : isC (vp_updL f j (Int64.ofBitVec v)) (upC c j v) := fun q hq => by
  unfold vp_updL upC
  by_cases e : q = j
  · rw [if_pos e, if_pos e]
  · rw [if_neg e, if_neg e]
    exact h q hq
theorem putsTo.up {j : Nat} {B R : Nat → Nat → Int32} {c : Nat → BitVec 64} {w : Nat} {y : BitVec w} (hB : isB B c) (h : putsTo j B R y) : isB R (upC c j (y.signExtend 64)) := fun q hq => by
  unfold upC
  by_cases e : q = j
  · rw [if_pos e, e]
    exact h.1
  · rw [if_neg e, h.2 q e]
    exact hB q hq
theorem pr_keep {f : Nat → Int64} {j : Nat} (v : Int64) (hj : j < 8) : mX2_keep f (nI j) v = some (vp_updL f j v) := by
  rw [mX2_keep, if_neg (nI_pos (by omega)), if_neg (show ¬ (8 : Int32) ≤ nI j from nI_ge (b := 8) hj (by omega)), if_neg (nI_in hj (by omega)), nI_clamp (by omega)]
theorem pr_put {f : Nat → Int64} {j : Nat} (b : Bool) (v : BitVec 64) (hj : j < 8) : mX2_put f (bI b) (nI j) (Int64.ofBitVec v) = some (Int64.ofBitVec (sgn b v), vp_updL f j (Int64.ofBitVec (sgn b v))) := by
  rw [mX2_put, pr_signed]
  simp only [Option.bind_some]
  rw [pr_keep _ hj]
  rfl
theorem pr_csigned {f : Nat → Int64} {c : Nat → BitVec 64} {j : Nat} (b : Bool) (h : isC f c) (hj : j < 8) : mX2_signed f (bI b) (nI j) = some (Int64.ofBitVec (sgn b (c j))) := by
  rw [mX2_signed, pr_allBits h hj]
  simp only [Option.bind_some]
  rw [pr_signed]
  rfl
theorem pr_cplain {f : Nat → Int64} {c : Nat → BitVec 64} {j : Nat} (b : Bool) (h : isC f c) (hj : j < 8) : mX2_plain f (bI b) (nI j) = some (Int64.ofBitVec (pln b (c j))) := by
  rw [mX2_plain, pr_allBits h hj]
  simp only [Option.bind_some]
  rw [pr_plain]
  rfl
theorem pr_valueOf {f : Nat → Int64} {c : Nat → BitVec 64} {j : Nat} (b p : Bool) (h : isC f c) (hj : j < 8) : mX2_valueOf f (bI b) (nI j) (bI p) = some (Int64.ofBitVec (vlu b p (c j))) := by
  cases p with
  | false =>
    rw [mX2_valueOf, if_pos (by decide), pr_csigned b h hj]
    rfl
  | true =>
    rw [mX2_valueOf, if_neg (by decide), pr_cplain b h hj]
    rfl
/-- numbers with the same w bits have one number with sign -/
theorem sgn_of {b : Bool} {v : BitVec 64} {y : BitVec (wd b)} (h : v.setWidth (wd b) = y) : sgn b v = y.signExtend 64 := by rw [sgn, h]
theorem sgn_low {b : Bool} (v : BitVec 64) : (sgn b v).setWidth (wd b) = v.setWidth (wd b) := by
  have hw := wd_le b
  apply BitVec.eq_of_getLsbD_eq
  intro i hi
  rw [BitVec.getLsbD_setWidth, decide_eq_true hi, Bool.true_and, sgn, BitVec.getLsbD_signExtend, decide_eq_true (by omega), Bool.true_and, if_pos hi]
theorem pln_low {b : Bool} (v : BitVec 64) : (pln b v).setWidth (wd b) = v.setWidth (wd b) := by
  have hw := wd_le b
  apply BitVec.eq_of_getLsbD_eq
  intro i hi
  rw [BitVec.getLsbD_setWidth, decide_eq_true hi, Bool.true_and, pln, BitVec.getLsbD_setWidth, decide_eq_true (by omega), Bool.true_and]
