/-! pure: the reference divides -/
theorem cmpI_lt {a b : Nat} (h : a < b) : cmpI a b = -1 := if_pos h
theorem cmpI_eq {a b : Nat} (h : a = b) : cmpI a b = 0 := by rw [cmpI, if_neg (by omega), if_pos h]
theorem cmpI_gt {a b : Nat} (h : b < a) : cmpI a b = 1 := by rw [cmpI, if_neg (by omega), if_neg (by omega)]
theorem pr_shl77 {N : Nat} (hN : N < 65) : ∀ (i k : Nat) (f : Nat → Int32), i ≤ N → i < k → ∃ g, mX12_divides_L77 k (nI i) f = some g ∧ (∀ q, q < i → g (q + 1) = vp_nar .boolean (f q)) ∧ ∀ q, (q = 0 ∨ i < q) → g q = f q
  | _, 0, _, _, hk => absurd hk (Nat.not_lt_zero _)
  | 0, k + 1, f, _, _ => ⟨f, by rw [mX12_divides_L77, if_pos (by decide)], fun q hq => absurd hq (Nat.not_lt_zero _), fun _ _ => rfl⟩
  | i + 1, k + 1, f, hi, hk => by
    obtain ⟨g, e, h1, h2⟩ := pr_shl77 hN i k (upd f (i + 1) (vp_nar .boolean (f i))) (by omega) (by omega)
    refine ⟨g, ?_, fun q hq => ?_, fun q hq => ?_⟩
    · rw [mX12_divides_L77, if_neg (nI_nle (by omega) (by omega)), nI_pred, if_neg (nI_in (show i < 65 by omega) (by omega)), if_neg (nI_in (show i + 1 < 65 by omega) (by omega)), nI_clamp (show i < 2 ^ 31 by omega), nI_clamp (show i + 1 < 2 ^ 31 by omega), pk_m1]
      exact e
    · by_cases hqi : q = i
      · rw [hqi, h2 (i + 1) (Or.inr (by omega)), pk_us]
      · rw [h1 q (by omega), pk_un (by omega)]
    · rw [h2 q (by omega), pk_un (by omega)]
theorem div_step {A D i : Nat} (hD : 0 < D) : 2 * (A / 2 ^ (i + 1) % D) + (A.testBit i).toNat < 2 * D ∧ (A / D).testBit i = decide (D ≤ 2 * (A / 2 ^ (i + 1) % D) + (A.testBit i).toNat) ∧ A / 2 ^ i % D = if D ≤ 2 * (A / 2 ^ (i + 1) % D) + (A.testBit i).toNat then 2 * (A / 2 ^ (i + 1) % D) + (A.testBit i).toNat - D else 2 * (A / 2 ^ (i + 1) % D) + (A.testBit i).toNat := by
  have h1 := nat_bit A i
  have ha : (A.testBit i).toNat ≤ 1 := by cases A.testBit i <;> decide
  have hm := Nat.div_add_mod (A / 2 ^ (i + 1)) D
  have hr := Nat.mod_lt (A / 2 ^ (i + 1)) hD
  have hb : (A / D).testBit i = decide (A / 2 ^ i / D % 2 = 1) := by
    rw [Nat.testBit_eq_decide_div_mod_eq, Nat.div_div_eq_div_mul, Nat.div_div_eq_div_mul, Nat.mul_comm]
  generalize (A.testBit i).toNat = a at *
  generalize A / 2 ^ (i + 1) % D = r at *
  generalize A / 2 ^ (i + 1) / D = Q at *
  generalize A / 2 ^ (i + 1) = m at *
  generalize A / 2 ^ i = n at *
  have hn : n = D * (2 * Q) + (2 * r + a) := by
    rw [h1, ← hm, Nat.mul_left_comm]
    omega
  refine ⟨by omega, ?_, ?_⟩
  · rw [hb]
    by_cases hle : D ≤ 2 * r + a
    · have e : n / D = 2 * Q + 1 := by
        have e1 : n = D * (2 * Q + 1) + (2 * r + a - D) := by
          rw [Nat.mul_add]
          omega
        rw [e1, Nat.mul_add_div hD, Nat.div_eq_of_lt (by omega), Nat.add_zero]
      rw [e, decide_eq_true hle, decide_eq_true (by omega)]
    · have e : n / D = 2 * Q := by
        rw [hn, Nat.mul_add_div hD, Nat.div_eq_of_lt (by omega), Nat.add_zero]
      rw [e, decide_eq_false hle, decide_eq_false (by omega)]
  · by_cases hle : D ≤ 2 * r + a
    · have e1 : n = D * (2 * Q + 1) + (2 * r + a - D) := by
        rw [Nat.mul_add]
        omega
      rw [if_pos hle, e1, Nat.mul_add_mod, Nat.mod_eq_of_lt (by omega)]
    · rw [if_neg hle, hn, Nat.mul_add_mod, Nat.mod_eq_of_lt (by omega)]
theorem ofN_bit {w n q : Nat} (hq : q < w) : (BitVec.ofNat w n).getLsbD q = n.testBit q := by rw [BitVec.getLsbD_ofNat, decide_eq_true hq, Bool.true_and]
theorem ofN_sub {w a d : Nat} (h : d ≤ a) : BitVec.ofNat w a - BitVec.ofNat w d = BitVec.ofNat w (a - d) := by
  have e : BitVec.ofNat w a = BitVec.ofNat w (a - d) + BitVec.ofNat w d := by rw [← BitVec.ofNat_add, Nat.sub_add_cancel h]
  rw [e, BitVec.add_sub_cancel]
theorem pr_div66 {b : Bool} {K D : Nat} {r5 r6 : Int32 × (Nat → Int32)} {X : BitVec (wd b)} (h5 : isR (wd b) r5.2 X) (h6 : isR (wd b + 1) r6.2 (BitVec.ofNat (wd b + 1) D)) (h0 : 0 < D) (hD : D < 2 ^ wd b) (hK : 66 < K) : ∀ (i k : Nat) (sum rest : Nat → Int32), i ≤ wd b → i < k → isR (wd b + 1) rest (BitVec.ofNat (wd b + 1) (X.toNat / 2 ^ i % D)) → (∀ q, i ≤ q → q < wd b → sum q = bI ((X.toNat / D).testBit q)) → ∃ S R, mX12_divides_L66 (bI b) K r5 r6 k (dn i) sum rest = some (S, R) ∧ isR (wd b) S (BitVec.ofNat (wd b) (X.toNat / D)) ∧ isR (wd b + 1) R (BitVec.ofNat (wd b + 1) (X.toNat % D))
  | _, 0, _, _, _, hk, _, _ => absurd hk (Nat.not_lt_zero _)
  | 0, k + 1, sum, rest, _, _, q1, q2 => ⟨sum, rest, by rw [mX12_divides_L66, if_pos dn_neg], fun q hq => by rw [q2 q (Nat.zero_le _) hq, ofN_bit hq], by
    rw [Nat.pow_zero, Nat.div_one] at q1
    exact q1⟩
  | i + 1, k + 1, sum, rest, hi, hk, q1, q2 => by
    have hw := wd_le b
    obtain ⟨g, e1, g1, g2⟩ := pr_shl77 (N := wd b) (by omega) (wd b) K rest (Nat.le_refl _) (by omega)
    obtain ⟨s1, s2, s3⟩ := div_step (A := X.toNat) (i := i) h0
    have hrD : X.toNat / 2 ^ (i + 1) % D < D := Nat.mod_lt _ h0
    have ha : (X.toNat.testBit i).toNat ≤ 1 := by cases X.toNat.testBit i <;> decide
    obtain ⟨N, hN⟩ : ∃ N, N = 2 * (X.toNat / 2 ^ (i + 1) % D) + (X.toNat.testBit i).toNat := ⟨_, rfl⟩
    rw [← hN] at s1 s2 s3
    have hp : 2 ^ (wd b + 1) = 2 ^ wd b * 2 := Nat.pow_succ ..
    have hN0 : N.testBit 0 = X.toNat.testBit i := by
      rw [Nat.testBit_zero, hN]
      cases X.toNat.testBit i with
      | true => exact decide_eq_true (by show (2 * _ + 1) % 2 = 1; omega)
      | false => exact decide_eq_false (by show ¬ (2 * _ + 0) % 2 = 1; omega)
    have hN1 : N / 2 = X.toNat / 2 ^ (i + 1) % D := by omega
    have hh : isR (wd b + 1) (upd g 0 (vp_nar .boolean (r5.2 i))) (BitVec.ofNat (wd b + 1) N) := fun q hq => by
      rw [ofN_bit hq]
      cases q with
      | zero => rw [pk_us, h5 i (by omega), nar_b, hN0]; rfl
      | succ q =>
        rw [pk_un (by omega), g1 q (by omega), q1 q (by omega), nar_b, ofN_bit (by omega), Nat.testBit_succ, hN1]
    have hc := pr_compared (N1 := 65) (N2 := 65) (k := K) hh h6 (by omega) (by omega) (by omega) (by omega) (by omega)
    have hNn : (BitVec.ofNat (wd b + 1) N).toNat = N := by
      rw [BitVec.toNat_ofNat, Nat.mod_eq_of_lt (by omega)]
    have hDn : (BitVec.ofNat (wd b + 1) D).toNat = D := by
      rw [BitVec.toNat_ofNat, Nat.mod_eq_of_lt (by omega)]
    rw [hNn, hDn] at hc
    have e3 : ((if cmpI N D < 0 then some 0 else some 1) : Option Int32) = some (bI ((X.toNat / D).testBit i)) := by
      rw [s2]
      rcases Nat.lt_trichotomy N D with h | h | h
      · rw [cmpI_lt h, decide_eq_false (show ¬ D ≤ N by omega)]
        rfl
      · rw [cmpI_eq h, decide_eq_true (show D ≤ N by omega)]
        rfl
      · rw [cmpI_gt h, decide_eq_true (show D ≤ N by omega)]
        rfl
    have cz : (0 : Int32).toNatClampNeg = 0 := rfl
    have gz : ((0 : Int32) < 0 ∨ 65 ≤ 0) = False := eq_false (by decide)
    have ci : (nI i).toNatClampNeg = i := nI_clamp (by omega)
    have gi : (nI i < 0 ∨ 65 ≤ i) = False := eq_false (nI_in2 (by omega) (by omega))
    have q3 : ∀ q, i ≤ q → q < wd b → (upd sum i (bI ((X.toNat / D).testBit i))) q = bI ((X.toNat / D).testBit q) := fun q h1 h2 => by
      by_cases hqi : q = i
      · rw [hqi, pk_us]
      · rw [pk_un hqi]
        exact q2 q (by omega) h2
    by_cases hle : D ≤ N
    · rw [if_pos hle] at s3
      obtain ⟨f3, e4, b1, b2⟩ := pr_adds (N1 := 65) (N2 := 65) (k := K) true hh h6 (by omega) (by omega) (by omega) (by omega) (by omega) (by omega)
      rw [if_pos rfl, ofN_sub hle, ← s3] at b1
      obtain ⟨S, R, e, r1, r2⟩ := pr_div66 h5 h6 h0 hD hK i k (upd sum i (bI ((X.toNat / D).testBit i))) f3 (by omega) (by omega) b1 q3
      refine ⟨S, R, ?_, r1, r2⟩
      rw [mX12_divides_L66, dn_s, if_neg (nI_pos (by omega)), pr_bits]
      simp only [Option.bind_some, ci, cz, gi, gz, if_false]
      rw [e1]
      simp only [Option.bind_some]
      rw [nI_1, hc]
      simp only [Option.bind_some]
      rw [e3]
      simp only [Option.bind_some]
      have ht : (X.toNat / D).testBit i = true := by rw [s2, decide_eq_true hle]
      rw [nar_b, pk_us, ht, if_neg (by decide)]
      have e4' : mX13_adds K 65 65 (upd g 0 (vp_nar .boolean (r5.2 i))) r6.2 (nI (wd b + 1)) 1 = some f3 := e4
      rw [e4']
      simp only [Option.bind_some]
      rw [dn_m]
      rw [ht] at e
      exact e
    · rw [if_neg hle] at s3
      rw [← s3] at hh
      obtain ⟨S, R, e, r1, r2⟩ := pr_div66 h5 h6 h0 hD hK i k (upd sum i (bI ((X.toNat / D).testBit i))) (upd g 0 (vp_nar .boolean (r5.2 i))) (by omega) (by omega) hh q3
      refine ⟨S, R, ?_, r1, r2⟩
      rw [mX12_divides_L66, dn_s, if_neg (nI_pos (by omega)), pr_bits]
      simp only [Option.bind_some, ci, cz, gi, gz, if_false]
      rw [e1]
      simp only [Option.bind_some]
      rw [nI_1, hc]
      simp only [Option.bind_some]
      rw [e3]
      simp only [Option.bind_some]
      have ht : (X.toNat / D).testBit i = false := by rw [s2, decide_eq_false hle]
      rw [nar_b, pk_us, ht, if_pos bI_f, dn_m]
      rw [ht] at e
      exact e
/-- the rest, by sizes -/
theorem rem_quo {p : Bool} {w : Nat} (x y : BitVec w) : (if isNg p x then -(mag p x % mag p y) else mag p x % mag p y) = x - quo p x y * y := by
  have hx : x = if isNg p x then -(mag p x) else mag p x := by
    unfold mag
    cases isNg p x
    · rfl
    · exact BitVec.neg_neg.symm
  have hy : y = if isNg p y then -(mag p y) else mag p y := by
    unfold mag
    cases isNg p y
    · rfl
    · exact BitVec.neg_neg.symm
  have hd : mag p x % mag p y = mag p x - mag p x / mag p y * mag p y := by
    rw [BitVec.eq_sub_iff_add_eq]
    apply BitVec.eq_of_toNat_eq
    have h1 := Nat.div_add_mod (mag p x).toNat (mag p y).toNat
    rw [BitVec.toNat_add, BitVec.toNat_mul, BitVec.toNat_umod, BitVec.toNat_udiv, Nat.add_mod_mod, Nat.add_comm, Nat.mul_comm, h1, Nat.mod_eq_of_lt (mag p x).isLt]
  unfold quo
  cases h1 : isNg p x <;> cases h2 : isNg p y
  · rw [h1, if_neg (by decide)] at hx
    rw [h2, if_neg (by decide)] at hy
    rw [if_neg (by decide), if_neg (by decide), hd, ← hx, ← hy]
  · rw [h1, if_neg (by decide)] at hx
    rw [h2, if_pos rfl] at hy
    have hy2 : mag p y = -y := by
      have h9 := congrArg (fun z => -z) hy
      simp only [BitVec.neg_neg] at h9
      exact h9.symm
    rw [if_neg (by decide), if_pos (by decide), hd, ← hx, hy2, BitVec.neg_mul, BitVec.mul_neg]
  · rw [h1, if_pos rfl] at hx
    rw [h2, if_neg (by decide)] at hy
    rw [if_pos rfl, if_pos (by decide), hd, ← hy, BitVec.neg_sub, ← hx, BitVec.neg_mul, BitVec.sub_neg]
  · rw [h1, if_pos rfl] at hx
    rw [h2, if_pos rfl] at hy
    have hy2 : mag p y = -y := by
      have h9 := congrArg (fun z => -z) hy
      simp only [BitVec.neg_neg] at h9
      exact h9.symm
    rw [if_pos rfl, if_neg (by decide), hd, hy2, BitVec.neg_sub, ← hx, BitVec.mul_neg, BitVec.sub_eq_add_neg]
theorem mag_ne {p : Bool} {w : Nat} {y : BitVec w} (h : y ≠ 0#w) : 0 < (mag p y).toNat := by
  apply Nat.pos_of_ne_zero
  intro z
  have h1 : mag p y = 0#w := BitVec.eq_of_toNat_eq (by rw [z]; simp)
  unfold mag at h1
  split at h1
  · exact h (BitVec.neg_eq_zero_iff.mp h1)
  · exact h h1
theorem pr_divides0 {b p : Bool} {i j k : Nat} {r : Int32} {B : Nat → Nat → Int32} {c : Nat → BitVec 64} {one other sum rest : Nat → Int32} (hB : isB B c) (hj : j < 8) (hk : 66 < k) (h0 : (c j).setWidth (wd b) = 0#(wd b)) : mX12_divides k (bI b) B one other sum rest (nI i) (nI j) r (bI p) = some (0, B, one, other, sum, rest) := by
  have hw := wd_le b
  rw [mX12_divides, if_neg (nI_in hj (by omega)), pr_bits]
  simp only [Option.bind_some]
  rw [nI_clamp (by omega), pr_nothing ((hB j hj).sub hw) (by omega) (by omega) (by omega) (by omega), decide_eq_true h0]
  simp only [Option.bind_some]
  rw [if_neg (by decide)]
theorem pr_divides {b p : Bool} {i j r k : Nat} {B : Nat → Nat → Int32} {c : Nat → BitVec 64} {one other sum rest : Nat → Int32} (hB : isB B c) (hi : i < 8) (hj : j < 8) (hr : r < 8) (hk : 66 < k) (h0 : (c j).setWidth (wd b) ≠ 0#(wd b)) : ∃ R o1 o2 s2 r2, mX12_divides k (bI b) B one other sum rest (nI i) (nI j) (nI r) (bI p) = some (1, R, o1, o2, s2, r2) ∧ isB R (upC (upC c i ((quo p ((c i).setWidth (wd b)) ((c j).setWidth (wd b))).signExtend 64)) r (((c i).setWidth (wd b) - quo p ((c i).setWidth (wd b)) ((c j).setWidth (wd b)) * (c j).setWidth (wd b)).signExtend 64)) := by
  have hw := wd_le b
  have hw0 := wd_pos b
  rw [← rem_quo]
  unfold quo
  obtain ⟨f1, e1, a1, a2⟩ := pr_sizes_one (b := b) (p := p) (k := k) (f := one) (hB i hi) hi (by omega)
  obtain ⟨f2, e2, b1, b2⟩ := pr_sizes_other (b := b) (p := p) (k := k) (f := other) (hB j hj) hj (by omega)
  obtain ⟨f3, e3, c1, c2⟩ := pr_clear (N := 65) (k := k) (f := rest) (by omega) (by omega)
  obtain ⟨f4, e4, d1, d2⟩ := pr_clear (N := 65) (k := k) (f := sum) (by omega) (by omega)
  have hpos := mag_ne (p := p) h0
  generalize hx : (c i).setWidth (wd b) = x at *
  generalize hy : (c j).setWidth (wd b) = y at *
  have hD : (mag p y).toNat < 2 ^ wd b := (mag p y).isLt
  have h6 : isR (wd b + 1) f2 (BitVec.ofNat (wd b + 1) (mag p y).toNat) := fun q hq => by
    rw [ofN_bit hq]
    by_cases hqw : q < wd b
    · rw [b1 q hqw]
      rfl
    · rw [b2 q (by omega) (by omega), Nat.testBit_lt_two_pow (Nat.lt_of_lt_of_le hD (Nat.pow_le_pow_right (by decide) (by omega)))]
      rfl
  obtain ⟨S, R, e5, g1, g2⟩ := pr_div66 (K := k) (r5 := (bI (isNg p x), f1)) (r6 := (bI (isNg p y), f2)) a1 h6 hpos hD hk (wd b) k f4 f3 (Nat.le_refl _) (by omega) (fun q hq => by
    rw [c1 q (by omega), Nat.div_eq_of_lt (mag p x).isLt, Nat.zero_mod, ofN_bit hq, Nat.zero_testBit]
    rfl) (fun q h1 h2 => by omega)
  have hS : BitVec.ofNat (wd b) ((mag p x).toNat / (mag p y).toNat) = mag p x / mag p y := by
    apply BitVec.eq_of_toNat_eq
    rw [BitVec.toNat_ofNat, BitVec.toNat_udiv, Nat.mod_eq_of_lt (Nat.lt_of_le_of_lt (Nat.div_le_self _ _) (mag p x).isLt)]
  have hRl : (mag p x).toNat % (mag p y).toNat < 2 ^ wd b := Nat.lt_trans (Nat.mod_lt _ hpos) hD
  have hR : isR (wd b) R (mag p x % mag p y) := fun q hq => by
    rw [g2 q (by omega), ofN_bit (by omega)]
    rfl
  rw [hS] at g1
  obtain ⟨S2, e6, i1⟩ : ∃ S2, ((if bI (isNg p x) = bI (isNg p y) then some S else ((mX12_bits (bI b)).bind (fun r_80 => ((mX13_negates k 65 S r_80).bind (fun r_81 => some r_81))))) : Option (Nat → Int32)) = some S2 ∧ isR (wd b) S2 (if isNg p x != isNg p y then -(mag p x / mag p y) else mag p x / mag p y) := by
    by_cases hs : isNg p x = isNg p y
    · refine ⟨S, by rw [if_pos (bI_inj.mpr hs)], ?_⟩
      rw [if_neg (by rw [hs]; simp)]
      exact g1
    · obtain ⟨S2, e7, j1, j2⟩ := pr_negates (N := 65) (k := k) g1 (by omega) (by omega) (by omega) (by omega)
      refine ⟨S2, ?_, ?_⟩
      · rw [if_neg (fun z => hs (bI_inj.mp z)), pr_bits]
        simp only [Option.bind_some]
        rw [e7]
        rfl
      · rw [if_pos (by simpa using hs)]
        exact j1
  obtain ⟨R2, e7, i2⟩ : ∃ R2, ((if bI (isNg p x) = 0 then some R else ((mX12_bits (bI b)).bind (fun r_78 => ((mX13_negates k 65 R r_78).bind (fun r_79 => some r_79))))) : Option (Nat → Int32)) = some R2 ∧ isR (wd b) R2 (if isNg p x then -(mag p x % mag p y) else mag p x % mag p y) := by
    cases hs : isNg p x with
    | false =>
      refine ⟨R, by rw [if_pos bI_f], ?_⟩
      rw [if_neg (by decide)]
      exact hR
    | true =>
      obtain ⟨R2, e7, j1, j2⟩ := pr_negates (N := 65) (k := k) hR (by omega) (by omega) (by omega) (by omega)
      refine ⟨R2, ?_, ?_⟩
      · rw [if_neg (by decide), pr_bits]
        simp only [Option.bind_some]
        rw [e7]
        rfl
      · rw [if_pos rfl]
        exact j1
  obtain ⟨B1, e8, l1⟩ := pr_puts_sum (k := k) (B := B) i1 hi (by omega)
  have hB1 := putsTo.up hB l1
  obtain ⟨B2, e9, l2⟩ := pr_puts_rest (k := k) (B := B1) i2 hr (by omega)
  refine ⟨B2, f1, f2, S2, R2, ?_, putsTo.up hB1 l2⟩
  rw [mX12_divides, if_neg (nI_in hj (by omega)), pr_bits]
  simp only [Option.bind_some]
  rw [nI_clamp (by omega), pr_nothing ((hB j hj).sub hw) (by omega) (by omega) (by omega) (by omega), hy, decide_eq_false h0]
  simp only [Option.bind_some]
  rw [if_pos bI_f, e1]
  simp only [Option.bind_some]
  rw [e2]
  simp only [Option.bind_some]
  rw [e3]
  simp only [Option.bind_some]
  rw [e4]
  simp only [Option.bind_some]
  have e5' : mX12_divides_L66 (bI b) k (bI (isNg p x), f1) (bI (isNg p y), f2) k (nI (wd b) - 1) f4 f3 = some (S, R) := e5
  rw [e5']
  rw [pr_bits] at e6 e7
  simp only [Option.bind_some] at e6 e7 ⊢
  rw [e6]
  simp only [Option.bind_some]
  rw [e7]
  simp only [Option.bind_some]
  rw [e8]
  simp only [Option.bind_some]
  rw [e9]
  rfl
