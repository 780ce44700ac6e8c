/-! pure: rotates and turns -/
theorem fb_rng (x : Int32) : -2147483648 ≤ x.toInt ∧ x.toInt < 2147483648 := by
  have h1 := Int32.le_toInt x
  have h2 := Int32.toInt_lt x
  omega
theorem fb_bmod {z : Int} (h1 : -2147483648 ≤ z) (h2 : z < 2147483648) : z.bmod (2 ^ 32) = z := by
  rw [Int.bmod_eq_of_le (by omega) (by omega)]
theorem fb_addI {x y : Int32} (h1 : -2147483648 ≤ x.toInt + y.toInt) (h2 : x.toInt + y.toInt < 2147483648) : (x + y).toInt = x.toInt + y.toInt := by
  rw [Int32.toInt_add, fb_bmod h1 h2]
theorem fb_subI {x y : Int32} (h1 : -2147483648 ≤ x.toInt - y.toInt) (h2 : x.toInt - y.toInt < 2147483648) : (x - y).toInt = x.toInt - y.toInt := by
  rw [Int32.toInt_sub, fb_bmod h1 h2]
theorem fb_mulI {x y : Int32} (h1 : -2147483648 ≤ x.toInt * y.toInt) (h2 : x.toInt * y.toInt < 2147483648) : (x * y).toInt = x.toInt * y.toInt := by
  rw [Int32.toInt_mul, fb_bmod h1 h2]
theorem fb_negI {x : Int32} (h : x.toInt ≠ -2147483648) : (-x).toInt = -x.toInt := by
  have := fb_rng x
  rw [Int32.toInt_neg, fb_bmod (by omega) (by omega)]
theorem fb_rngL (x : Int64) : -9223372036854775808 ≤ x.toInt ∧ x.toInt < 9223372036854775808 := by
  have h1 := Int64.le_toInt x
  have h2 := Int64.toInt_lt x
  omega
theorem fb_bmodL {z : Int} (h1 : -9223372036854775808 ≤ z) (h2 : z < 9223372036854775808) : z.bmod (2 ^ 64) = z := by
  rw [Int.bmod_eq_of_le (by omega) (by omega)]
theorem fb_addL {x y : Int64} (h1 : -9223372036854775808 ≤ x.toInt + y.toInt) (h2 : x.toInt + y.toInt < 9223372036854775808) : (x + y).toInt = x.toInt + y.toInt := by
  rw [Int64.toInt_add, fb_bmodL h1 h2]
theorem fb_subL {x y : Int64} (h1 : -9223372036854775808 ≤ x.toInt - y.toInt) (h2 : x.toInt - y.toInt < 9223372036854775808) : (x - y).toInt = x.toInt - y.toInt := by
  rw [Int64.toInt_sub, fb_bmodL h1 h2]
theorem fb_mulL {x y : Int64} (h1 : -9223372036854775808 ≤ x.toInt * y.toInt) (h2 : x.toInt * y.toInt < 9223372036854775808) : (x * y).toInt = x.toInt * y.toInt := by
  rw [Int64.toInt_mul, fb_bmodL h1 h2]
theorem rot_l {w : Nat} (x : BitVec w) {a i : Nat} (ha : a < w) (hi : i < w) : ((x <<< a) ||| (x >>> ((w - a) % w))).getLsbD i = x.getLsbD ((i + (w - a)) % w) := by
  rw [BitVec.getLsbD_or, BitVec.getLsbD_shiftLeft, BitVec.getLsbD_ushiftRight, decide_eq_true hi, Bool.true_and]
  by_cases h0 : a = 0
  · subst h0
    simp only [Nat.sub_zero]
    rw [Nat.mod_self, Nat.add_mod_right, Nat.mod_eq_of_lt hi]
    simp
  · rw [Nat.mod_eq_of_lt (show w - a < w by omega)]
    by_cases hs : i < a
    · rw [decide_eq_true hs, Nat.mod_eq_of_lt (show i + (w - a) < w by omega), Nat.add_comm]
      rfl
    · have e : (i + (w - a)) % w = i - a := by
        rw [show i + (w - a) = (i - a) + w by omega, Nat.add_mod_right, Nat.mod_eq_of_lt (by omega)]
      rw [decide_eq_false hs, e, BitVec.getLsbD_of_ge _ _ (show w ≤ w - a + i by omega), Bool.or_false]
      rfl
theorem rot_r {w : Nat} (x : BitVec w) {a i : Nat} (ha : a < w) (hi : i < w) : ((x >>> a) ||| (x <<< ((w - a) % w))).getLsbD i = x.getLsbD ((i + a) % w) := by
  rw [BitVec.getLsbD_or, BitVec.getLsbD_shiftLeft, BitVec.getLsbD_ushiftRight, decide_eq_true hi, Bool.true_and]
  by_cases h0 : a = 0
  · subst h0
    simp only [Nat.sub_zero, Nat.add_zero, Nat.mod_self, Nat.mod_eq_of_lt hi]
    simp
  · rw [Nat.mod_eq_of_lt (show w - a < w by omega)]
    by_cases hs : i < w - a
    · rw [decide_eq_true hs, Nat.mod_eq_of_lt (show i + a < w by omega), Nat.add_comm]
      simp
    · have e : (i + a) % w = i - (w - a) := by
        rw [show i + a = (i - (w - a)) + w by omega, Nat.add_mod_right, Nat.mod_eq_of_lt (by omega)]
      rw [decide_eq_false hs, e, BitVec.getLsbD_of_ge _ _ (show w ≤ a + i by omega), Bool.false_or]
      rfl
theorem am_l (d : Int32) : ((d &&& 31).toBitVec.smod 32).toNat = d.toBitVec.toNat % 32 := by
  have h : ∀ n, n < 32 → ((nI n).toBitVec.smod 32).toNat = n := by decide +kernel
  rw [pk_and d (m := 31) 5 (by decide)]
  exact h _ (Nat.mod_lt _ (by decide))
theorem am_u (d : Int32) : ((d.toUInt32 &&& Int32.toUInt32 31).toBitVec % 32).toNat = d.toBitVec.toNat % 32 := by
  have h : d.toBitVec.toNat &&& 31 = d.toBitVec.toNat % 2 ^ 5 := Nat.and_two_pow_sub_one_eq_mod _ 5
  show (d.toBitVec.toNat &&& 31) % 32 = _
  rw [h]
  exact Nat.mod_mod _ _
theorem am_lL (T : Int64) : ((T &&& 63).toBitVec.smod 64).toNat = T.toBitVec.toNat % 64 := by
  have h : ∀ n, n < 64 → ((lN n).toBitVec.smod 64).toNat = n := by decide +kernel
  have h2 : T.toBitVec.toNat &&& 63 = T.toBitVec.toNat % 2 ^ 6 := Nat.and_two_pow_sub_one_eq_mod _ 6
  have hlt : T.toBitVec.toNat % 2 ^ 6 < 64 := Nat.mod_lt _ (by decide)
  have e : T &&& 63 = lN (T.toBitVec.toNat % 2 ^ 6) := by
    apply Int64.toBitVec_inj.mp
    apply BitVec.eq_of_toNat_eq
    show T.toBitVec.toNat &&& 63 = (T.toBitVec.toNat % 2 ^ 6) % 2 ^ 64
    rw [h2]
    omega
  rw [e]
  exact h _ hlt
theorem am_uL (T : Int64) : ((T.toUInt64 &&& Int64.toUInt64 63).toBitVec % 64).toNat = T.toBitVec.toNat % 64 := by
  have h : T.toBitVec.toNat &&& 63 = T.toBitVec.toNat % 2 ^ 6 := Nat.and_two_pow_sub_one_eq_mod _ 6
  show (T.toBitVec.toNat &&& 63) % 64 = _
  rw [h]
  exact Nat.mod_mod _ _
theorem am_x (d : Int32) : d.toInt64.toBitVec.toNat % 64 = d.toBitVec.toNat % 64 := by
  rw [Int32.toBitVec_toInt64, BitVec.toNat_signExtend, BitVec.toNat_setWidth]
  have h := d.toBitVec.isLt
  split <;> omega
theorem am_n (d : Int32) : (-d).toBitVec.toNat = (2 ^ 32 - d.toBitVec.toNat) % 2 ^ 32 := by
  rw [Int32.toBitVec_neg, BitVec.toNat_neg]
/-- from how far on a rotated number takes its bits -/
def rof (left : Bool) (w D : Nat) : Nat := if left then w - D % w else D % w
theorem pr_rotated {b left : Bool} {f : Nat → Int64} {c : Nat → BitVec 64} {j : Nat} (d : Int32) (hC : isC f c) (hj : j < 8) : ∃ z : BitVec 64, mX2_rotated f (bI b) (nI j) d (bI left) = some (Int64.ofBitVec z) ∧ ∀ i, i < wd b → z.getLsbD i = (c j).getLsbD ((i + rof left (wd b) d.toBitVec.toNat) % wd b) := by
  have hlt := d.toBitVec.isLt
  have n32 : (-d).toBitVec.toNat % 32 = (32 - d.toBitVec.toNat % 32) % 32 := by rw [am_n]; omega
  have n64 : (-d).toInt64.toBitVec.toNat % 64 = (64 - d.toBitVec.toNat % 64) % 64 := by rw [am_x, am_n]; omega
  rw [mX2_rotated, pr_allBits hC hj]
  simp only [Option.bind_some]
  cases b with
  | true =>
    cases left with
    | false =>
      rw [if_pos bI_f, mX1_rotatedRight, if_neg (by decide), mJ13_rotateRight_b2ac5]
      refine ⟨_, rfl, fun i hi => ?_⟩
      rw [← Int64.toBitVec_ofBitVec (Int64.toBitVec _)]
      show (Int64.toBitVec (((Int64.ofBitVec (c j)).toUInt64 >>> ((d).toInt64.toUInt64 &&& Int64.toUInt64 63)).toInt64 ||| (Int64.ofBitVec (c j) <<< ((-d).toInt64 &&& 63)))).getLsbD i = _
      rw [Int64.toBitVec_or, t_ushrL _ _ (am_uL d.toInt64), t_shlL _ _ (am_lL (-d).toInt64), n64, am_x]
      exact rot_r (c j) (Nat.mod_lt _ (by decide)) hi
    | true =>
      rw [if_neg (by decide), mX1_rotatedLeft, if_neg (by decide), mJ13_rotateLeft_b2ac5]
      refine ⟨_, rfl, fun i hi => ?_⟩
      rw [← Int64.toBitVec_ofBitVec (Int64.toBitVec _)]
      show (Int64.toBitVec ((Int64.ofBitVec (c j) <<< ((d).toInt64 &&& 63)) ||| ((Int64.ofBitVec (c j)).toUInt64 >>> ((-d).toInt64.toUInt64 &&& Int64.toUInt64 63)).toInt64)).getLsbD i = _
      rw [Int64.toBitVec_or, t_ushrL _ _ (am_uL (-d).toInt64), t_shlL _ _ (am_lL d.toInt64), n64, am_x]
      exact rot_l (c j) (Nat.mod_lt _ (by decide)) hi
  | false =>
    have lo : ∀ q, ((Int64.ofBitVec (c j)).toInt32).toBitVec.getLsbD (q % 32) = (c j).getLsbD (q % 32) := fun q => lo32 _ (Nat.mod_lt _ (by decide))
    cases left with
    | false =>
      refine ⟨((((Int64.ofBitVec (c j)).toInt32.toUInt32 >>> ((d).toUInt32 &&& Int32.toUInt32 31)).toInt32) ||| ((Int64.ofBitVec (c j)).toInt32 <<< ((-d) &&& 31))).toInt64.toBitVec, ?_, fun i hi => ?_⟩
      · rw [if_pos bI_f, mX1_rotatedRight, if_pos bI_f, mJ6_rotateRight_7cf53]
        rfl
      · have h32 : i < 32 := hi
        rw [up32 _ h32, Int32.toBitVec_or, t_ushr _ _ (am_u d), t_shl _ _ (am_l (-d)), n32, rot_r _ (Nat.mod_lt _ (by decide)) h32, lo]
        rfl
    | true =>
      refine ⟨(((Int64.ofBitVec (c j)).toInt32 <<< (d &&& 31)) ||| (((Int64.ofBitVec (c j)).toInt32.toUInt32 >>> ((-d).toUInt32 &&& Int32.toUInt32 31)).toInt32)).toInt64.toBitVec, ?_, fun i hi => ?_⟩
      · rw [if_neg (by decide), mX1_rotatedLeft, if_pos bI_f, mJ6_rotateLeft_7cf53]
        rfl
      · have h32 : i < 32 := hi
        rw [up32 _ h32, Int32.toBitVec_or, t_ushr _ _ (am_u (-d)), t_shl _ _ (am_l d), n32, rot_l _ (Nat.mod_lt _ (by decide)) h32, lo]
        rfl
theorem tq (T : Int) {w : Nat} (hw : w = 32 ∨ w = 64) : (0 ≤ T → T.tdiv w * w ≤ T ∧ T < T.tdiv w * w + w) ∧ (T < 0 → T ≤ T.tdiv w * w ∧ T.tdiv w * w < T + w) := by
  rcases hw with hw | hw
  · subst hw
    have h1 : Int.sign 32 = 1 := rfl
    rw [show ((32 : Nat) : Int) = 32 from rfl, Int.tdiv_eq_ediv, h1]
    split <;> omega
  · subst hw
    have h1 : Int.sign 64 = 1 := rfl
    rw [show ((64 : Nat) : Int) = 64 from rfl, Int.tdiv_eq_ediv, h1]
    split <;> omega
theorem rem_int (d : Int32) {w : Nat} (hw : w = 32 ∨ w = 64) : (d - d / nI w * nI w).toInt = d.toInt - d.toInt.tdiv w * w := by
  have hr := fb_rng d
  have hq := tq d.toInt hw
  have hn : (nI w).toInt = (w : Int) := nI_toInt (by omega)
  generalize hQ : d.toInt.tdiv w = q at hq
  have hqr : -2147483648 ≤ q ∧ q < 2147483648 ∧ -2147483648 ≤ q * w ∧ q * w < 2147483648 ∧ -2147483648 ≤ d.toInt - q * w ∧ d.toInt - q * w < 2147483648 := by
    rcases hw with hw | hw <;> subst hw <;> by_cases h0 : 0 ≤ d.toInt
    · have := hq.1 h0
      omega
    · have := hq.2 (by omega)
      omega
    · have := hq.1 h0
      omega
    · have := hq.2 (by omega)
      omega
  have hd : (d / nI w).toInt = q := by rw [Int32.toInt_div, hn, hQ, fb_bmod hqr.1 hqr.2.1]
  have hm : (d / nI w * nI w).toInt = q * w := by
    have h9 : (d / nI w).toInt * (nI w).toInt = q * w := by rw [hd, hn]
    rw [fb_mulI (by omega) (by omega), h9]
  rw [fb_subI (by omega) (by omega), hm]
theorem tn_off (b left : Bool) (d : Int32) : ∃ (e : Nat) (x : Int32), e < 1000 ∧ ((if bI left = 0 then ((mX12_bits (bI b)).bind (fun r_24 => (if r_24 = 0 then none else some (-(d - d / r_24 * r_24))))) else ((mX12_bits (bI b)).bind (fun r_25 => (if r_25 = 0 then none else some (d - d / r_25 * r_25))))) : Option Int32) = some x ∧ x + nI (wd b) = nI e ∧ (e + rof left (wd b) d.toBitVec.toNat) % wd b = 0 := by
  have hw : wd b = 32 ∨ wd b = 64 := wd_cases b
  have hR := rem_int d hw
  have hq := tq d.toInt hw
  have hr := fb_rng d
  have hT : d.toInt = if 2 * d.toBitVec.toNat < 2 ^ 32 then (d.toBitVec.toNat : Int) else (d.toBitVec.toNat : Int) - (2 ^ 32 : Nat) := BitVec.toInt_eq_toNat_cond _
  have hlt := d.toBitVec.isLt
  have hne : ¬ nI (wd b) = 0 := nI_ne0 (wd_pos b) (by have := wd_le b; omega)
  have hn : (nI (wd b)).toInt = (wd b : Int) := nI_toInt (by have := wd_le b; omega)
  rw [pr_bits]
  simp only [Option.bind_some]
  rw [if_neg hne, if_neg hne]
  generalize d - d / nI (wd b) * nI (wd b) = x at hR
  generalize d.toInt.tdiv (wd b) = q at hR hq
  generalize d.toInt = T at hR hq hr hT
  generalize d.toBitVec.toNat = D at hT hlt
  generalize wd b = w at hw hR hq hne hn
  cases left with
  | true =>
    rw [if_neg (by decide)]
    refine ⟨(x.toInt + w).toNat, x, ?_, rfl, ?_, ?_⟩
    · rcases hw with hw | hw <;> subst hw <;> by_cases h0 : 0 ≤ T
      · have := hq.1 h0
        omega
      · have := hq.2 (by omega)
        omega
      · have := hq.1 h0
        omega
      · have := hq.2 (by omega)
        omega
    · apply Int32.toInt_inj.mp
      have h5 : 0 ≤ x.toInt + w ∧ x.toInt + w < 1000 := by
        rcases hw with hw | hw <;> subst hw <;> by_cases h0 : 0 ≤ T
        · have := hq.1 h0
          omega
        · have := hq.2 (by omega)
          omega
        · have := hq.1 h0
          omega
        · have := hq.2 (by omega)
          omega
      rw [fb_addI (by omega) (by omega), hn, nI_toInt (by omega)]
      omega
    · show ((x.toInt + w).toNat + (w - D % w)) % w = 0
      rcases hw with hw | hw <;> subst hw <;> split at hT <;> by_cases h0 : 0 ≤ T
      all_goals first
        | (have := hq.1 h0; omega)
        | (have := hq.2 (by omega); omega)
  | false =>
    rw [if_pos bI_f]
    have h5 : -64 < x.toInt ∧ x.toInt < 64 ∧ 0 ≤ -x.toInt + w ∧ -x.toInt + w < 1000 := by
      rcases hw with hw | hw <;> subst hw <;> by_cases h0 : 0 ≤ T
      · have := hq.1 h0
        omega
      · have := hq.2 (by omega)
        omega
      · have := hq.1 h0
        omega
      · have := hq.2 (by omega)
        omega
    have hg : (-x).toInt = -x.toInt := fb_negI (by omega)
    refine ⟨(-x.toInt + w).toNat, -x, by omega, rfl, ?_, ?_⟩
    · apply Int32.toInt_inj.mp
      rw [fb_addI (by omega) (by omega), hn, hg, nI_toInt (by omega)]
      omega
    · show ((-x.toInt + w).toNat + D % w) % w = 0
      rcases hw with hw | hw <;> subst hw <;> split at hT <;> by_cases h0 : 0 ≤ T
      all_goals first
        | (have := hq.1 h0; omega)
        | (have := hq.2 (by omega); omega)
theorem tn_back {w e o i : Nat} (hs : (e + o) % w = 0) (hi : i < w) : ((i + o) % w + e) % w = i := by
  obtain ⟨t, ht⟩ := Nat.dvd_of_mod_eq_zero hs
  rw [Nat.mod_add_mod, show i + o + e = i + w * t by omega, Nat.add_mul_mod_self_left, Nat.mod_eq_of_lt hi]
theorem tn_inj {w e o : Nat} (hs : (e + o) % w = 0) (q i : Nat) (h1 : q < i) (h2 : i < w) : (q + e) % w ≠ (i + e) % w := fun z => by
  have hs2 : (o + e) % w = 0 := by rw [Nat.add_comm]; exact hs
  have a := tn_back hs2 (show q < w by omega)
  have b := tn_back hs2 h2
  rw [z] at a
  omega
theorem pr_turns_L {b : Bool} {j e o : Nat} {x4 : Int32} {B : Nat → Nat → Int32} {x : BitVec 64} (hB : isR 64 (B j) x) (hj : j < 8) (he : e < 1000) (hx : x4 + nI (wd b) = nI e) (hs : (e + o) % wd b = 0) : ∀ (d i k : Nat) (f : Nat → Int32), i + d = wd b → d < k → (∀ q, q < i → f ((q + e) % wd b) = bI (x.getLsbD q)) → ∃ R, mX12_turns_L30 (bI b) (nI j) x4 (nI (wd b)) B k (nI i) f = some R ∧ ∀ q, q < wd b → R ((q + e) % wd b) = bI (x.getLsbD q)
  | _, _, 0, _, _, hk, _ => absurd hk (Nat.not_lt_zero _)
  | 0, i, k + 1, f, h, _, q1 => ⟨f, by
    have hw := wd_le b
    rw [mX12_turns_L30, pr_bits]
    simp only [Option.bind_some]
    rw [if_pos (nI_le (by omega) (by omega))], fun q hq => q1 q (by omega)⟩
  | d + 1, i, k + 1, f, h, hk, q1 => by
    have hw := wd_le b
    have hw0 := wd_pos b
    have hlt : (i + e) % wd b < wd b := Nat.mod_lt _ hw0
    obtain ⟨R, e1, r1⟩ := pr_turns_L hB hj he hx hs d (i + 1) k (upd f ((i + e) % wd b) (bI (x.getLsbD i))) (by omega) (by omega) (fun q hq => by
      by_cases hqi : q = i
      · rw [hqi, pk_us]
      · rw [pk_un (tn_inj hs q i (by omega) (by omega))]
        exact q1 q (by omega))
    refine ⟨R, ?_, r1⟩
    rw [mX12_turns_L30, pr_bits]
    simp only [Option.bind_some]
    rw [if_neg (nI_ge (by omega) (by omega)), hx, nI_add, pk_rem (by omega) hw0 (by omega), if_neg (nI_ne0 hw0 (by omega)), if_neg (nI_in hj (by omega)), if_neg (nI_in (show i < 64 by omega) (by omega)), if_neg (nI_in (show (i + e) % wd b < 65 by omega) (by omega)), nI_clamp (by omega), nI_clamp (by omega), nI_clamp (by omega), hB _ (by omega), nar_b, nI_1]
    exact e1
theorem pr_turns {b left : Bool} {j k : Nat} {B : Nat → Nat → Int32} {f : Nat → Int32} {x : BitVec 64} {y : BitVec (wd b)} (d : Int32) (hB : isR 64 (B j) x) (hj : j < 8) (hk : 65 < k) (hy : ∀ i, i < wd b → y.getLsbD i = x.getLsbD ((i + rof left (wd b) d.toBitVec.toNat) % wd b)) : ∃ R f2, mX12_turns k (bI b) B f (nI j) d (bI left) = some (Int64.ofBitVec (y.signExtend 64), R, f2) ∧ putsTo j B R y := by
  have hw := wd_le b
  have hw0 := wd_pos b
  obtain ⟨e, x4, he, e4, hx, hs⟩ := tn_off b left d
  obtain ⟨f2, e1, r1⟩ := pr_turns_L hB hj he hx hs (wd b) 0 k f (by omega) (by omega) (fun q hq => absurd hq (Nat.not_lt_zero _))
  have hf : isR (wd b) f2 y := fun i hi => by
    have h9 := r1 ((i + rof left (wd b) d.toBitVec.toNat) % wd b) (Nat.mod_lt _ hw0)
    rw [tn_back hs hi] at h9
    rw [h9, hy i hi]
  obtain ⟨R, e2, r2⟩ := pr_puts_sum (k := k) (B := B) hf hj (by omega)
  refine ⟨R, f2, ?_, r2⟩
  rw [mX12_turns, e4]
  simp only [Option.bind_some]
  rw [pr_bits]
  simp only [Option.bind_some]
  have e1' : mX12_turns_L30 (bI b) (nI j) x4 (nI (wd b)) B k 0 f = some f2 := e1
  rw [e1']
  simp only [Option.bind_some]
  rw [e2]
  rfl
