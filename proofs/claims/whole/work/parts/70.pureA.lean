/-! pure: bits moved: shifts, reverse, reverseBytes -/
theorem t_shl (x S : Int32) {s : Nat} (h : (S.toBitVec.smod 32).toNat = s) : (x <<< S).toBitVec = x.toBitVec <<< s := by
  rw [Int32.toBitVec_shiftLeft]
  show x.toBitVec <<< (S.toBitVec.smod 32).toNat = _
  rw [h]
theorem t_ushr (x : Int32) (U : UInt32) {s : Nat} (h : (U.toBitVec % 32).toNat = s) : ((x.toUInt32 >>> U).toInt32).toBitVec = x.toBitVec >>> s := by
  show (x.toUInt32 >>> U).toBitVec = _
  rw [UInt32.toBitVec_shiftRight]
  show x.toBitVec >>> (U.toBitVec % 32).toNat = _
  rw [h]
theorem t_shlL (x S : Int64) {s : Nat} (h : (S.toBitVec.smod 64).toNat = s) : (x <<< S).toBitVec = x.toBitVec <<< s := by
  rw [Int64.toBitVec_shiftLeft]
  show x.toBitVec <<< (S.toBitVec.smod 64).toNat = _
  rw [h]
theorem t_ushrL (x : Int64) (U : UInt64) {s : Nat} (h : (U.toBitVec % 64).toNat = s) : ((x.toUInt64 >>> U).toInt64).toBitVec = x.toBitVec >>> s := by
  show (x.toUInt64 >>> U).toBitVec = _
  rw [UInt64.toBitVec_shiftRight]
  show x.toBitVec >>> (U.toBitVec % 64).toNat = _
  rw [h]
/-- y's bits are x's, moved -/
def isP {w : Nat} (y x : BitVec w) (g : Nat → Nat) : Prop := ∀ i, i < w → y.getLsbD i = x.getLsbD (g i)
theorem mv_l {w s i : Nat} {m x : BitVec w} {g : Nat → Nat} (hi : i < w) (h : s ≤ i → m.getLsbD (i - s) = true → g i = i - s) : ((x &&& m) <<< s).getLsbD i = ((decide (s ≤ i) && m.getLsbD (i - s)) && x.getLsbD (g i)) := by
  rw [BitVec.getLsbD_shiftLeft, BitVec.getLsbD_and, decide_eq_true hi, Bool.true_and]
  by_cases hs : s ≤ i
  · rw [decide_eq_false (Nat.not_lt.mpr hs), decide_eq_true hs]
    cases hm : m.getLsbD (i - s) with
    | true => rw [h hs hm]; simp
    | false => simp
  · rw [decide_eq_true (Nat.lt_of_not_le hs), decide_eq_false hs]
    simp
theorem mv_r {w s i : Nat} {m x : BitVec w} {g : Nat → Nat} (h : m.getLsbD i = true → g i = s + i) : ((x >>> s) &&& m).getLsbD i = (m.getLsbD i && x.getLsbD (g i)) := by
  rw [BitVec.getLsbD_and, BitVec.getLsbD_ushiftRight]
  cases hm : m.getLsbD i with
  | true => rw [h hm]; simp
  | false => simp
theorem mv_L {w s i : Nat} {x : BitVec w} {g : Nat → Nat} (hi : i < w) (h : s ≤ i → g i = i - s) : (x <<< s).getLsbD i = (decide (s ≤ i) && x.getLsbD (g i)) := by
  rw [BitVec.getLsbD_shiftLeft, decide_eq_true hi, Bool.true_and]
  by_cases hs : s ≤ i
  · rw [decide_eq_false (Nat.not_lt.mpr hs), decide_eq_true hs, h hs]
    rfl
  · rw [decide_eq_true (Nat.lt_of_not_le hs), decide_eq_false hs]
    rfl
theorem mv_R {w s i : Nat} {x : BitVec w} {g : Nat → Nat} (h : s + i < w → g i = s + i) : (x >>> s).getLsbD i = (decide (s + i < w) && x.getLsbD (g i)) := by
  rw [BitVec.getLsbD_ushiftRight]
  by_cases hs : s + i < w
  · rw [decide_eq_true hs, h hs]
    rfl
  · rw [decide_eq_false hs, BitVec.getLsbD_of_ge _ _ (Nat.le_of_not_lt hs)]
    rfl
theorem mv_swap {w s : Nat} {m x : BitVec w} {g : Nat → Nat} (h : ∀ i, i < w → (s ≤ i → m.getLsbD (i - s) = true → g i = i - s) ∧ (m.getLsbD i = true → g i = s + i) ∧ ((decide (s ≤ i) && m.getLsbD (i - s)) || m.getLsbD i) = true) : isP (((x &&& m) <<< s) ||| ((x >>> s) &&& m)) x g := fun i hi => by
  obtain ⟨h1, h2, h3⟩ := h i hi
  rw [BitVec.getLsbD_or, mv_l hi h1, mv_r h2, ← Bool.and_or_distrib_right, h3, Bool.true_and]
theorem mv_bytes {w a b : Nat} {m x : BitVec w} {g : Nat → Nat} (h : ∀ i, i < w → (a ≤ i → g i = i - a) ∧ (b ≤ i → m.getLsbD (i - b) = true → g i = i - b) ∧ (m.getLsbD i = true → g i = b + i) ∧ (a + i < w → g i = a + i) ∧ (((decide (a ≤ i) || (decide (b ≤ i) && m.getLsbD (i - b))) || m.getLsbD i) || decide (a + i < w)) = true) : isP ((((x <<< a) ||| ((x &&& m) <<< b)) ||| ((x >>> b) &&& m)) ||| (x >>> a)) x g := fun i hi => by
  obtain ⟨h1, h2, h3, h4, h5⟩ := h i hi
  rw [BitVec.getLsbD_or, BitVec.getLsbD_or, BitVec.getLsbD_or, mv_L hi h1, mv_l hi h2, mv_r h3, mv_R h4, ← Bool.and_or_distrib_right, ← Bool.and_or_distrib_right, ← Bool.and_or_distrib_right, h5, Bool.true_and]
theorem st32 {x M S : Int32} {U : UInt32} {s : Nat} {g : Nat → Nat} (hS : (S.toBitVec.smod 32).toNat = s) (hU : (U.toBitVec % 32).toNat = s) (h : ∀ i, i < 32 → (s ≤ i → M.toBitVec.getLsbD (i - s) = true → g i = i - s) ∧ (M.toBitVec.getLsbD i = true → g i = s + i) ∧ ((decide (s ≤ i) && M.toBitVec.getLsbD (i - s)) || M.toBitVec.getLsbD i) = true) : isP (((x &&& M) <<< S) ||| ((x.toUInt32 >>> U).toInt32 &&& M)).toBitVec x.toBitVec g := by
  rw [Int32.toBitVec_or, t_shl _ S hS, Int32.toBitVec_and, Int32.toBitVec_and, t_ushr x U hU]
  exact mv_swap h
theorem st64 {x M S : Int64} {U : UInt64} {s : Nat} {g : Nat → Nat} (hS : (S.toBitVec.smod 64).toNat = s) (hU : (U.toBitVec % 64).toNat = s) (h : ∀ i, i < 64 → (s ≤ i → M.toBitVec.getLsbD (i - s) = true → g i = i - s) ∧ (M.toBitVec.getLsbD i = true → g i = s + i) ∧ ((decide (s ≤ i) && M.toBitVec.getLsbD (i - s)) || M.toBitVec.getLsbD i) = true) : isP (((x &&& M) <<< S) ||| ((x.toUInt64 >>> U).toInt64 &&& M)).toBitVec x.toBitVec g := by
  rw [Int64.toBitVec_or, t_shlL _ S hS, Int64.toBitVec_and, Int64.toBitVec_and, t_ushrL x U hU]
  exact mv_swap h
theorem bind_ex {α β : Type} {a : α} {f : α → Option β} {P : β → Prop} (Q : α → Prop) (ha : Q a) (h : ∀ x, Q x → ∃ y, f x = some y ∧ P y) : ∃ y, (some a).bind f = some y ∧ P y := h a ha
theorem pr_rb32 (x : Int32) : ∃ y, mJ6_reverseBytes_0f7a4 x = some y ∧ isP y.toBitVec x.toBitVec (fun i => 24 - i / 8 * 8 + i % 8) := by
  refine ⟨_, rfl, ?_⟩
  rw [Int32.toBitVec_or, Int32.toBitVec_or, Int32.toBitVec_or, Int32.toBitVec_and, t_shl x ((24 : Int32) &&& 31) (s := 24) (by decide), t_shl _ ((8 : Int32) &&& 31) (s := 8) (by decide), Int32.toBitVec_and, t_ushr x (((8 : Int32)).toUInt32 &&& Int32.toUInt32 31) (s := 8) (by decide), t_ushr x (((24 : Int32)).toUInt32 &&& Int32.toUInt32 31) (s := 24) (by decide)]
  exact mv_bytes (by decide +kernel)
theorem pr_rev32 (x : Int32) : ∃ y, mJ6_reverse_0f7a4 x = some y ∧ ∀ i, i < 32 → y.toBitVec.getLsbD i = x.toBitVec.getLsbD (31 - i) := by
  rw [mJ6_reverse_0f7a4]
  refine bind_ex (fun y => isP y.toBitVec x.toBitVec (fun i => i ^^^ 1)) (st32 (s := 1) (by decide) (by decide) (by decide +kernel)) (fun x1 a1 => ?_)
  refine bind_ex (fun y => isP y.toBitVec x1.toBitVec (fun i => i ^^^ 2)) (st32 (s := 2) (by decide) (by decide) (by decide +kernel)) (fun x2 a2 => ?_)
  refine bind_ex (fun y => isP y.toBitVec x2.toBitVec (fun i => i ^^^ 4)) (st32 (s := 4) (by decide) (by decide) (by decide +kernel)) (fun x3 a3 => ?_)
  obtain ⟨y, e, a⟩ := pr_rb32 x3
  refine ⟨y, by rw [e]; rfl, fun i hi => ?_⟩
  have ht : ∀ i, i < 32 → 24 - i / 8 * 8 + i % 8 < 32 ∧ ((24 - i / 8 * 8 + i % 8) ^^^ 4) < 32 ∧ (((24 - i / 8 * 8 + i % 8) ^^^ 4) ^^^ 2) < 32 ∧ ((((24 - i / 8 * 8 + i % 8) ^^^ 4) ^^^ 2) ^^^ 1) = 31 - i := by decide +kernel
  obtain ⟨t1, t2, t3, t4⟩ := ht i hi
  rw [a i hi, a3 _ t1, a2 _ t2, a1 _ t3]
  show x.toBitVec.getLsbD ((((24 - i / 8 * 8 + i % 8) ^^^ 4) ^^^ 2) ^^^ 1) = _
  rw [t4]
theorem pr_rb64 (x : Int64) : ∃ y, mJ13_reverseBytes_067f4 x = some y ∧ ∀ i, i < 64 → y.toBitVec.getLsbD i = x.toBitVec.getLsbD (56 - i / 8 * 8 + i % 8) := by
  rw [mJ13_reverseBytes_067f4]
  refine bind_ex (fun y => isP y.toBitVec x.toBitVec (fun i => i ^^^ 8)) (st64 (s := 8) (by decide) (by decide) (by decide +kernel)) (fun x1 a1 => ?_)
  refine ⟨_, rfl, fun i hi => ?_⟩
  have h : isP ((((x1 <<< ((48 : Int32).toInt64 &&& 63)) ||| ((x1 &&& 4294901760) <<< ((16 : Int32).toInt64 &&& 63))) ||| (((x1).toUInt64 >>> (((16 : Int32)).toInt64.toUInt64 &&& Int64.toUInt64 63)).toInt64 &&& 4294901760)) ||| ((x1).toUInt64 >>> (((48 : Int32)).toInt64.toUInt64 &&& Int64.toUInt64 63)).toInt64).toBitVec x1.toBitVec (fun i => 48 - i / 16 * 16 + i % 16) := by
    rw [Int64.toBitVec_or, Int64.toBitVec_or, Int64.toBitVec_or, Int64.toBitVec_and, t_shlL x1 ((48 : Int32).toInt64 &&& 63) (s := 48) (by decide), t_shlL _ ((16 : Int32).toInt64 &&& 63) (s := 16) (by decide), Int64.toBitVec_and, t_ushrL x1 (((16 : Int32)).toInt64.toUInt64 &&& Int64.toUInt64 63) (s := 16) (by decide), t_ushrL x1 (((48 : Int32)).toInt64.toUInt64 &&& Int64.toUInt64 63) (s := 48) (by decide)]
    exact mv_bytes (by decide +kernel)
  have ht : ∀ i, i < 64 → 48 - i / 16 * 16 + i % 16 < 64 ∧ ((48 - i / 16 * 16 + i % 16) ^^^ 8) = 56 - i / 8 * 8 + i % 8 := by decide +kernel
  obtain ⟨t1, t2⟩ := ht i hi
  rw [h i hi, a1 _ t1]
  show x.toBitVec.getLsbD ((48 - i / 16 * 16 + i % 16) ^^^ 8) = _
  rw [t2]
theorem pr_rev64 (x : Int64) : ∃ y, mJ13_reverse_067f4 x = some y ∧ ∀ i, i < 64 → y.toBitVec.getLsbD i = x.toBitVec.getLsbD (63 - i) := by
  rw [mJ13_reverse_067f4]
  refine bind_ex (fun y => isP y.toBitVec x.toBitVec (fun i => i ^^^ 1)) (st64 (s := 1) (by decide) (by decide) (by decide +kernel)) (fun x1 a1 => ?_)
  refine bind_ex (fun y => isP y.toBitVec x1.toBitVec (fun i => i ^^^ 2)) (st64 (s := 2) (by decide) (by decide) (by decide +kernel)) (fun x2 a2 => ?_)
  refine bind_ex (fun y => isP y.toBitVec x2.toBitVec (fun i => i ^^^ 4)) (st64 (s := 4) (by decide) (by decide) (by decide +kernel)) (fun x3 a3 => ?_)
  obtain ⟨y, e, a⟩ := pr_rb64 x3
  refine ⟨y, by rw [e]; rfl, fun i hi => ?_⟩
  have ht : ∀ i, i < 64 → 56 - i / 8 * 8 + i % 8 < 64 ∧ ((56 - i / 8 * 8 + i % 8) ^^^ 4) < 64 ∧ (((56 - i / 8 * 8 + i % 8) ^^^ 4) ^^^ 2) < 64 ∧ ((((56 - i / 8 * 8 + i % 8) ^^^ 4) ^^^ 2) ^^^ 1) = 63 - i := by decide +kernel
  obtain ⟨t1, t2, t3, t4⟩ := ht i hi
  rw [a i hi, a3 _ t1, a2 _ t2, a1 _ t3]
  show x.toBitVec.getLsbD ((((56 - i / 8 * 8 + i % 8) ^^^ 4) ^^^ 2) ^^^ 1) = _
  rw [t4]
theorem lo32 (v : BitVec 64) {i : Nat} (hi : i < 32) : ((Int64.ofBitVec v).toInt32).toBitVec.getLsbD i = v.getLsbD i := by
  rw [Int64.toBitVec_toInt32, Int64.toBitVec_ofBitVec, sx32, BitVec.getLsbD_setWidth, decide_eq_true hi, Bool.true_and]
theorem up32 (y : Int32) {i : Nat} (hi : i < 32) : y.toInt64.toBitVec.getLsbD i = y.toBitVec.getLsbD i := by
  rw [Int32.toBitVec_toInt64, BitVec.getLsbD_signExtend, decide_eq_true (by omega), Bool.true_and, if_pos hi]
theorem pr_turned (b : Bool) (v : BitVec 64) : ∃ z : BitVec 64, mX1_turned (Int64.ofBitVec v) (bI b) = some (Int64.ofBitVec z) ∧ ∀ i, i < wd b → z.getLsbD i = v.getLsbD (wd b - 1 - i) := by
  cases b with
  | true =>
    obtain ⟨y, e, a⟩ := pr_rev64 (Int64.ofBitVec v)
    refine ⟨y.toBitVec, ?_, fun i hi => a i hi⟩
    rw [mX1_turned, if_neg (by decide), e]
    rfl
  | false =>
    obtain ⟨y, e, a⟩ := pr_rev32 ((Int64.ofBitVec v).toInt32)
    refine ⟨y.toInt64.toBitVec, ?_, fun i hi => ?_⟩
    · rw [mX1_turned, if_pos bI_f, e]
      rfl
    · have h32 : i < 32 := hi
      rw [up32 y h32, a i h32, lo32 v (by omega)]
      rfl
theorem pr_bytesTurned (b : Bool) (v : BitVec 64) : ∃ z : BitVec 64, mX1_bytesTurned (Int64.ofBitVec v) (bI b) = some (Int64.ofBitVec z) ∧ ∀ i, i < wd b → z.getLsbD i = v.getLsbD (wd b - 8 - i / 8 * 8 + i % 8) := by
  cases b with
  | true =>
    obtain ⟨y, e, a⟩ := pr_rb64 (Int64.ofBitVec v)
    refine ⟨y.toBitVec, ?_, fun i hi => a i hi⟩
    rw [mX1_bytesTurned, if_neg (by decide), e]
    rfl
  | false =>
    obtain ⟨y, e, a⟩ := pr_rb32 ((Int64.ofBitVec v).toInt32)
    refine ⟨y.toInt64.toBitVec, ?_, fun i hi => ?_⟩
    · rw [mX1_bytesTurned, if_pos bI_f, e]
      rfl
    · have h32 : i < 32 := hi
      rw [up32 y h32, a i h32]
      show ((Int64.ofBitVec v).toInt32).toBitVec.getLsbD (24 - i / 8 * 8 + i % 8) = _
      rw [lo32 v (by omega)]
      rfl
