/-! pure: x - 1, -x, the lowest 1, zeros behind, the highest 1 -/
theorem sub1_carry {w : Nat} {x : BitVec w} {r : Nat} (hr : r < w) (h0 : ∀ q, q < r → x.getLsbD q = false) (h1 : x.getLsbD r = true) : ∀ i, i ≤ w → BitVec.carry i x (BitVec.allOnes w) false = decide (r < i)
  | 0, _ => by simp
  | i + 1, h => by
    rw [BitVec.carry_succ, sub1_carry hr h0 h1 i (by omega), BitVec.getLsbD_allOnes, decide_eq_true (show i < w by omega)]
    rcases Nat.lt_trichotomy i r with z | z | z
    · rw [h0 i z, decide_eq_false (by omega), decide_eq_false (by omega)]
      rfl
    · rw [z, h1, decide_eq_false (by omega), decide_eq_true (by omega)]
      rfl
    · rw [decide_eq_true (by omega), decide_eq_true (by omega)]
      cases x.getLsbD i <;> rfl
theorem sub1_bits {w : Nat} {x : BitVec w} {r i : Nat} (hr : r < w) (h0 : ∀ q, q < r → x.getLsbD q = false) (h1 : x.getLsbD r = true) (hi : i < w) : (x + BitVec.allOnes w).getLsbD i = (x.getLsbD i ^^ !decide (r < i)) := by
  rw [BitVec.getLsbD_add hi, sub1_carry hr h0 h1 i (by omega), BitVec.getLsbD_allOnes, decide_eq_true hi]
  cases x.getLsbD i <;> cases decide (r < i) <;> rfl
theorem low_bits {w : Nat} {x : BitVec w} {r i : Nat} (hr : r < w) (h0 : ∀ q, q < r → x.getLsbD q = false) (h1 : x.getLsbD r = true) (hi : i < w) : (x &&& -x).getLsbD i = decide (i = r) := by
  have e : (-x).getLsbD i = !(x + BitVec.allOnes w).getLsbD i := by
    have h9 := BitVec.not_neg x
    rw [BitVec.sub_eq_add_neg, BitVec.neg_one_eq_allOnes] at h9
    rw [← h9, BitVec.getLsbD_not, decide_eq_true hi, Bool.true_and, Bool.not_not]
  rw [BitVec.getLsbD_and, e, sub1_bits hr h0 h1 hi]
  rcases Nat.lt_trichotomy i r with z | z | z
  · rw [h0 i z, decide_eq_false (show ¬ r < i by omega), decide_eq_false (show ¬ i = r by omega)]
    rfl
  · rw [z, h1, decide_eq_false (by omega), decide_eq_true rfl]
    rfl
  · rw [decide_eq_true z, decide_eq_false (by omega)]
    cases x.getLsbD i <;> rfl
theorem msk_bits {w : Nat} {x : BitVec w} {r i : Nat} (hr : r < w) (h0 : ∀ q, q < r → x.getLsbD q = false) (h1 : x.getLsbD r = true) (hi : i < w) : ((x ^^^ BitVec.allOnes w) &&& (x + BitVec.allOnes w)).getLsbD i = decide (i < r) := by
  rw [BitVec.getLsbD_and, BitVec.getLsbD_xor, BitVec.getLsbD_allOnes, decide_eq_true hi, sub1_bits hr h0 h1 hi]
  rcases Nat.lt_trichotomy i r with z | z | z
  · rw [h0 i z, decide_eq_false (by omega), decide_eq_true z]
    rfl
  · rw [z, h1, decide_eq_false (by omega)]
    rfl
  · rw [decide_eq_true z, decide_eq_false (by omega)]
    cases x.getLsbD i <;> rfl
theorem ntz_tab : ∀ r, r < 32 → mJ6_numberOfTrailingZeros_0f7a4 (nI (2 ^ r)) = some (nI r) := by decide +kernel
theorem ntz_0 : mJ6_numberOfTrailingZeros_0f7a4 0 = some 32 := by decide +kernel
theorem pr_ntz32 {x : Int32} {r : Nat} (hr : r < 32) (h0 : ∀ q, q < r → x.toBitVec.getLsbD q = false) (h1 : x.toBitVec.getLsbD r = true) : mJ6_numberOfTrailingZeros_0f7a4 x = some (nI r) := by
  have key : ∀ y : Int32, (∀ q, q < r → y.toBitVec.getLsbD q = false) → y.toBitVec.getLsbD r = true → ∀ i, i < 32 → ((y ^^^ (-1)) &&& (y - 1)).toBitVec.getLsbD i = decide (i < r) := fun y a b i hi => by
    have e1 : (-1 : Int32).toBitVec = BitVec.allOnes 32 := by decide
    rw [Int32.toBitVec_and, Int32.toBitVec_xor, Int32.sub_eq_add_neg, Int32.toBitVec_add, e1]
    exact msk_bits hr a b hi
  have p0 : ∀ q, q < r → (nI (2 ^ r)).toBitVec.getLsbD q = false := fun q hq => by
    show (BitVec.ofNat 32 (2 ^ r)).getLsbD q = false
    rw [BitVec.getLsbD_ofNat, Nat.testBit_two_pow, decide_eq_false (show ¬ r = q by omega), Bool.and_false]
  have p1 : (nI (2 ^ r)).toBitVec.getLsbD r = true := by
    show (BitVec.ofNat 32 (2 ^ r)).getLsbD r = true
    rw [BitVec.getLsbD_ofNat, Nat.testBit_two_pow, decide_eq_true rfl, decide_eq_true hr]
    rfl
  have e : ((x ^^^ (-1)) &&& (x - 1)) = ((nI (2 ^ r) ^^^ (-1)) &&& (nI (2 ^ r) - 1)) := Int32.toBitVec_inj.mp (BitVec.eq_of_getLsbD_eq (fun i hi => (key x h0 h1 i hi).trans (key _ p0 p1 i hi).symm))
  rw [← ntz_tab r hr, mJ6_numberOfTrailingZeros_0f7a4, mJ6_numberOfTrailingZeros_0f7a4, e]
theorem alk_spec (above : Bool) (w : Nat) (v : BitVec 64) : alk false above w v ≤ w ∧ (∀ q, q < alk false above w v → v.getLsbD (pick above w q) = false) ∧ (alk false above w v < w → v.getLsbD (pick above w (alk false above w v)) = true) := by
  obtain ⟨-, b, c, d⟩ := fst1_spec (fun i => v.getLsbD (pick above w i) != false) w 0
  refine ⟨by rw [Nat.zero_add] at b; exact b, fun q hq => ?_, fun h => ?_⟩
  · have h9 := c q (Nat.zero_le _) hq
    simpa using h9
  · have h9 := d (by rw [Nat.zero_add]; exact h)
    simpa [alk] using h9
theorem fst1_congr {p p2 : Nat → Bool} : ∀ (d i : Nat), (∀ q, i ≤ q → q < i + d → p q = p2 q) → fst1 p d i = fst1 p2 d i
  | 0, _, _ => rfl
  | d + 1, i, h => by
    rw [fst1, fst1, h i (Nat.le_refl _) (by omega), fst1_congr d (i + 1) (fun q a b => h q (by omega) (by omega))]
theorem alk_one (above : Bool) {w : Nat} (hw : w ≤ 64) (v : BitVec 64) : alk false above w (v ^^^ BitVec.allOnes 64) = alk true above w v := by
  refine fst1_congr w 0 (fun q _ hq => ?_)
  have hp : pick above w q < w := pick_lt (by omega)
  show ((v ^^^ BitVec.allOnes 64).getLsbD (pick above w q) != false) = (v.getLsbD (pick above w q) != true)
  rw [BitVec.getLsbD_xor, BitVec.getLsbD_allOnes, decide_eq_true (show pick above w q < 64 by omega)]
  cases v.getLsbD (pick above w q) <;> rfl
theorem xor_ones (v : BitVec 64) : (Int64.ofBitVec v) ^^^ (-1) = Int64.ofBitVec (v ^^^ BitVec.allOnes 64) := by
  apply Int64.toBitVec_inj.mp
  rw [Int64.toBitVec_xor]
  have e1 : (-1 : Int64).toBitVec = BitVec.allOnes 64 := by decide
  rw [e1]
  rfl
theorem z32 {x : Int32} (h : ∀ i, i < 32 → x.toBitVec.getLsbD i = false) : x = 0 := Int32.toBitVec_inj.mp (BitVec.eq_of_getLsbD_eq (fun i hi => (h i hi).trans (by rw [show (0 : Int32).toBitVec = 0#32 from rfl, BitVec.getLsbD_zero])))
theorem nz32b {x : Int32} {r : Nat} (h : x.toBitVec.getLsbD r = true) : ¬ x = 0 := fun z => by
  rw [z, show (0 : Int32).toBitVec = 0#32 from rfl, BitVec.getLsbD_zero] at h
  cases h
theorem sh32_bits (v : BitVec 64) {i : Nat} (hi : i < 32) : ((((Int64.ofBitVec v).toUInt64 >>> (((32 : Int32)).toInt64.toUInt64 &&& Int64.toUInt64 63)).toInt64).toInt32).toBitVec.getLsbD i = v.getLsbD (32 + i) := by
  rw [Int64.toBitVec_toInt32, t_ushrL _ (((32 : Int32)).toInt64.toUInt64 &&& Int64.toUInt64 63) (s := 32) (by decide), sx32, BitVec.getLsbD_setWidth, decide_eq_true hi, Bool.true_and, BitVec.getLsbD_ushiftRight]
  rfl
theorem pr_zerosBehind (b : Bool) (v : BitVec 64) : mX1_zerosBehind (Int64.ofBitVec v) (bI b) = some (nI (alk false false (wd b) v)) := by
  obtain ⟨h1, h2, h3⟩ := alk_spec false (wd b) v
  have pk : ∀ i w, pick false w i = i := fun i w => rfl
  simp only [pk] at h2 h3
  generalize alk false false (wd b) v = z at h1 h2 h3
  have n32 : ∀ y : Int32, ∀ q, (∀ i, i < 32 → y.toBitVec.getLsbD i = v.getLsbD (q + i)) → q ≤ z → z < q + 32 → z < wd b → mJ6_numberOfTrailingZeros_0f7a4 y = some (nI (z - q)) := fun y q hy a c d => pr_ntz32 (by omega) (fun i hi => by rw [hy i (by omega)]; exact h2 _ (by omega)) (by rw [hy _ (by omega), show q + (z - q) = z by omega]; exact h3 d)
  cases b with
  | false =>
    have h32 : z ≤ 32 := h1
    rw [mX1_zerosBehind, if_pos bI_f]
    by_cases hz : z < 32
    · rw [n32 _ 0 (fun i hi => by rw [lo32 v hi, Nat.zero_add]) (Nat.zero_le _) (by omega) hz]
      rfl
    · have e : (Int64.ofBitVec v).toInt32 = 0 := z32 (fun i hi => by rw [lo32 v hi]; exact h2 i (by omega))
      rw [e, ntz_0, show z = 32 by omega]
      rfl
  | true =>
    have h64 : z ≤ 64 := h1
    rw [mX1_zerosBehind, if_neg (by decide), mJ13_numberOfTrailingZeros_95d88]
    by_cases hl : z < 32
    · rw [if_neg (nz32b (r := z) (by rw [lo32 v hl]; exact h3 (show z < 64 by omega))), n32 _ 0 (fun i hi => by rw [lo32 v hi, Nat.zero_add]) (Nat.zero_le _) (by omega) (show z < 64 by omega)]
      rfl
    · have e : (Int64.ofBitVec v).toInt32 = 0 := z32 (fun i hi => by rw [lo32 v hi]; exact h2 i (by omega))
      rw [if_pos e]
      by_cases hz : z < 64
      · rw [n32 _ 32 (fun i hi => sh32_bits v hi) (by omega) (by omega) hz]
        show some (nI 32 + nI (z - 32)) = _
        rw [nI_add, show 32 + (z - 32) = z by omega]
      · have e2 : (((Int64.ofBitVec v).toUInt64 >>> (((32 : Int32)).toInt64.toUInt64 &&& Int64.toUInt64 63)).toInt64).toInt32 = 0 := z32 (fun i hi => by rw [sh32_bits v hi]; exact h2 _ (by omega))
        rw [e2, ntz_0, show z = 64 by omega]
        rfl
theorem pr_lowestBit (b : Bool) (v : BitVec 64) : ∃ z : BitVec 64, mX1_lowestBit (Int64.ofBitVec v) (bI b) = some (Int64.ofBitVec z) ∧ ∀ i, i < wd b → z.getLsbD i = (decide (alk false false (wd b) v < wd b) && decide (i = pick false (wd b) (alk false false (wd b) v))) := by
  obtain ⟨h1, h2, h3⟩ := alk_spec false (wd b) v
  have pk : ∀ i w, pick false w i = i := fun i w => rfl
  simp only [pk] at h2 h3 ⊢
  generalize alk false false (wd b) v = z at h1 h2 h3
  cases b with
  | true =>
    refine ⟨v &&& -v, ?_, fun i hi => ?_⟩
    · rw [mX1_lowestBit, if_neg (by decide), mJ13_lowestOneBit_067f4]
      rfl
    · by_cases hz : z < wd true
      · rw [decide_eq_true hz, Bool.true_and]
        exact low_bits hz h2 (h3 hz) hi
      · have e : v.getLsbD i = false := h2 i (Nat.lt_of_lt_of_le hi (Nat.le_of_not_lt hz))
        rw [BitVec.getLsbD_and, e, decide_eq_false hz]
        rfl
  | false =>
    obtain ⟨x, hx⟩ : ∃ x, x = (Int64.ofBitVec v).toInt32 := ⟨_, rfl⟩
    have hb : ∀ i, i < 32 → x.toBitVec.getLsbD i = v.getLsbD i := fun i hi => by rw [hx]; exact lo32 v hi
    refine ⟨(x &&& -x).toInt64.toBitVec, ?_, fun i hi => ?_⟩
    · rw [mX1_lowestBit, if_pos bI_f, mJ6_lowestOneBit_0f7a4, ← hx]
      rfl
    · have h32 : i < 32 := hi
      rw [up32 _ h32]
      by_cases hz : z < wd false
      · have hz2 : z < 32 := hz
        rw [decide_eq_true hz, Bool.true_and]
        exact low_bits (x := x.toBitVec) hz2 (fun q hq => by rw [hb q (by omega)]; exact h2 q hq) (by rw [hb z hz2]; exact h3 hz) h32
      · have e : v.getLsbD i = false := h2 i (Nat.lt_of_lt_of_le hi (Nat.le_of_not_lt hz))
        rw [Int32.toBitVec_and, BitVec.getLsbD_and, hb i h32, e, decide_eq_false hz]
        rfl
theorem top_tab : ∀ n, n < 32 → ∀ i, i < 32 → ((((-2147483648 : Int32)).toUInt32 >>> ((nI n).toUInt32 &&& Int32.toUInt32 31)).toInt32).toBitVec.getLsbD i = decide (i = 31 - n) := by decide +kernel
theorem top_tabL : ∀ n, n < 64 → ∀ i, i < 64 → ((((-9223372036854775808 : Int64)).toUInt64 >>> ((nI n).toInt64.toUInt64 &&& Int64.toUInt64 63)).toInt64).toBitVec.getLsbD i = decide (i = 63 - n) := by decide +kernel
theorem pr_highestBit (b : Bool) (v : BitVec 64) : ∃ z : BitVec 64, mX1_highestBit (Int64.ofBitVec v) (bI b) = some (Int64.ofBitVec z) ∧ ∀ i, i < wd b → z.getLsbD i = (decide (alk false true (wd b) v < wd b) && decide (i = pick true (wd b) (alk false true (wd b) v))) := by
  obtain ⟨h1, h2, h3⟩ := alk_spec true (wd b) v
  have hq := pr_zerosInFront b v
  generalize alk false true (wd b) v = z at h1 h2 h3 hq
  have pk : ∀ i w, pick true w i = w - 1 - i := fun i w => rfl
  simp only [pk] at h2 h3 ⊢
  have h0 : ¬ z < wd b → ∀ i, i < wd b → v.getLsbD i = false := fun hz i hi => by
    have h9 := h2 (wd b - 1 - i) (by omega)
    rw [show wd b - 1 - (wd b - 1 - i) = i by omega] at h9
    exact h9
  cases b with
  | true =>
    rw [mX1_zerosInFront, if_neg (by decide)] at hq
    have hq2 : mJ13_numberOfLeadingZeros_95d88 (Int64.ofBitVec v) = some (nI z) := by
      cases hm : mJ13_numberOfLeadingZeros_95d88 (Int64.ofBitVec v) with
      | none => rw [hm] at hq; cases hq
      | some r => rw [hm] at hq; exact hq
    refine ⟨(Int64.ofBitVec v &&& ((((-9223372036854775808 : Int64)).toUInt64 >>> ((nI z).toInt64.toUInt64 &&& Int64.toUInt64 63)).toInt64)).toBitVec, ?_, fun i hi => ?_⟩
    · rw [mX1_highestBit, if_neg (by decide), mJ13_highestOneBit_067f4, hq2]
      rfl
    · rw [Int64.toBitVec_and, BitVec.getLsbD_and]
      show (v.getLsbD i && _) = _
      by_cases hz : z < wd true
      · rw [top_tabL z hz i hi, decide_eq_true hz, Bool.true_and]
        by_cases hi2 : i = wd true - 1 - z
        · rw [hi2, h3 hz]
          rfl
        · rw [decide_eq_false hi2, decide_eq_false (show ¬ i = 63 - z from hi2), Bool.and_false]
      · rw [h0 hz i hi, decide_eq_false hz]
        rfl
  | false =>
    rw [mX1_zerosInFront, if_pos bI_f] at hq
    obtain ⟨x, hx⟩ : ∃ x, x = (Int64.ofBitVec v).toInt32 := ⟨_, rfl⟩
    have hb : ∀ i, i < 32 → x.toBitVec.getLsbD i = v.getLsbD i := fun i hi => by rw [hx]; exact lo32 v hi
    rw [← hx] at hq
    have hq2 : mJ6_numberOfLeadingZeros_0f7a4 x = some (nI z) := by
      cases hm : mJ6_numberOfLeadingZeros_0f7a4 x with
      | none => rw [hm] at hq; cases hq
      | some r => rw [hm] at hq; exact hq
    refine ⟨(x &&& ((((-2147483648 : Int32)).toUInt32 >>> ((nI z).toUInt32 &&& Int32.toUInt32 31)).toInt32)).toInt64.toBitVec, ?_, fun i hi => ?_⟩
    · rw [mX1_highestBit, if_pos bI_f, mJ6_highestOneBit_0f7a4, ← hx, hq2]
      rfl
    · have h32 : i < 32 := hi
      rw [up32 _ h32, Int32.toBitVec_and, BitVec.getLsbD_and, hb i h32]
      by_cases hz : z < wd false
      · rw [top_tab z hz i h32, decide_eq_true hz, Bool.true_and]
        by_cases hi2 : i = wd false - 1 - z
        · rw [hi2, h3 hz]
          rfl
        · rw [decide_eq_false hi2, decide_eq_false (show ¬ i = 31 - z from hi2), Bool.and_false]
      · rw [h0 hz i hi, decide_eq_false hz]
        rfl
