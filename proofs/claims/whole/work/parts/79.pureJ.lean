/-! pure: digits -/
def rdx (r : Int32) : Nat := if r < 2 then 10 else if 36 < r then 10 else r.toNatClampNeg
theorem rdx_spec (r : Int32) : 2 ≤ rdx r ∧ rdx r ≤ 36 ∧ ((if (r < 2 ∨ 36 < r) then (10 : Int32) else r) = nI (rdx r)) := by
  unfold rdx
  by_cases h1 : r < 2
  · rw [if_pos h1, if_pos (Or.inl h1)]
    exact ⟨by decide, by decide, rfl⟩
  · rw [if_neg h1]
    by_cases h2 : 36 < r
    · rw [if_pos h2, if_pos (Or.inr h2)]
      exact ⟨by decide, by decide, rfl⟩
    · rw [if_neg h2, if_neg (fun z => z.elim h1 h2)]
      have h3 : ¬ r < 0 := fun z => h1 (Int32.lt_iff_toInt_lt.mpr (by
        have := Int32.lt_iff_toInt_lt.mp z
        have z0 : (0 : Int32).toInt = 0 := rfl
        have z2 : (2 : Int32).toInt = 2 := rfl
        omega))
      obtain ⟨j, hj, e⟩ := nI_of h3
      subst e
      rw [nI_clamp hj]
      have a1 : ¬ j < 2 := fun z => h1 (nI_lt (b := 2) z (by omega))
      have a2 : ¬ 36 < j := fun z => h2 (nI_lt (a := 36) z hj)
      exact ⟨by omega, by omega, rfl⟩
theorem pr_isRadix (r : Int32) : mX3_isRadix r = some (if r < 2 ∨ 36 < r then 0 else 1) := by
  rw [mX3_isRadix]
  by_cases h1 : r < 2
  · rw [if_pos h1, if_pos (Or.inl h1)]
  · rw [if_neg h1]
    by_cases h2 : 36 < r
    · rw [if_pos h2, if_pos (Or.inr h2)]
    · rw [if_neg h2, if_neg (fun z => z.elim h1 h2)]
theorem pr_base (r : Int32) : ((if (if r < 2 ∨ 36 < r then (0 : Int32) else 1) = 0 then some 10 else some r) : Option Int32) = some (nI (rdx r)) := by
  rw [← (rdx_spec r).2.2]
  by_cases h : r < 2 ∨ 36 < r
  · rw [if_pos h, if_pos rfl, if_pos h]
  · rw [if_neg h, if_neg (by decide), if_neg h]
/-- n is the number of A's digits -/
def isND (R A n : Nat) : Prop := 1 ≤ n ∧ n ≤ 64 ∧ A / R ^ n = 0 ∧ ∀ m, 1 ≤ m → m < n → A / R ^ m ≠ 0
theorem nd_ex {R : Nat} (hR : 2 ≤ R) : ∀ (f A : Nat), A < 2 ^ (f + 1) → ∃ n, 1 ≤ n ∧ n ≤ f + 1 ∧ A / R ^ n = 0 ∧ ∀ m, 1 ≤ m → m < n → A / R ^ m ≠ 0
  | 0, A, h => ⟨1, Nat.le_refl _, Nat.le_refl _, by
    rw [Nat.pow_one]
    have h2 : A < 2 := h
    exact Nat.div_eq_of_lt (by omega), fun m h1 h2 => by omega⟩
  | f + 1, A, h => by
    by_cases h0 : A / R = 0
    · exact ⟨1, Nat.le_refl _, by omega, by rw [Nat.pow_one]; exact h0, fun m h1 h2 => by omega⟩
    · have hA : A / R < 2 ^ (f + 1) := by
        rw [Nat.div_lt_iff_lt_mul (by omega)]
        have e : 2 ^ (f + 1 + 1) = 2 ^ (f + 1) * 2 := Nat.pow_succ ..
        have e2 : 2 ^ (f + 1) * 2 ≤ 2 ^ (f + 1) * R := Nat.mul_le_mul_left _ hR
        omega
      obtain ⟨n, h1, h2, h3, h4⟩ := nd_ex hR f (A / R) hA
      have ep : ∀ m, A / R ^ (m + 1) = A / R / R ^ m := fun m => by rw [Nat.pow_succ, Nat.mul_comm, Nat.div_div_eq_div_mul]
      refine ⟨n + 1, by omega, by omega, by rw [ep]; exact h3, fun m a b => ?_⟩
      obtain ⟨m, rfl⟩ : ∃ q, m = q + 1 := ⟨m - 1, by omega⟩
      rw [ep]
      by_cases hm : m = 0
      · subst hm
        rw [Nat.pow_zero, Nat.div_one]
        exact h0
      · exact h4 m (by omega) (by omega)
theorem nd_get {R A : Nat} (hR : 2 ≤ R) (hA : A < 2 ^ 64) : ∃ n, isND R A n := nd_ex hR 63 A hA
theorem dg_step (A R m : Nat) : A / R ^ (m + 1) = A / R ^ m / R := by rw [Nat.pow_succ, Nat.div_div_eq_div_mul]
theorem pr_dig56 {w A R : Nat} (hw : w ≤ 64) (hR : 2 ≤ R) (hR2 : R ≤ 36) : ∀ (i k : Nat) (f : Nat → Int32), i ≤ w → i < k → (∀ j, j < i → f j = bI (A.testBit j)) → (∀ j, i ≤ j → j < w → f j = bI ((A / R).testBit j)) → ∃ g, mX12_digits_L56 (nI R) k (nI (A / 2 ^ i % R)) (dn i) f = some (nI (A % R), g) ∧ ∀ j, j < w → g j = bI ((A / R).testBit j)
  | _, 0, _, _, hk, _, _ => absurd hk (Nat.not_lt_zero _)
  | 0, k + 1, f, _, _, _, q2 => ⟨f, by rw [mX12_digits_L56, if_pos dn_neg, Nat.pow_zero, Nat.div_one], fun j hj => q2 j (Nat.zero_le _) hj⟩
  | i + 1, k + 1, f, hi, hk, q1, q2 => by
    obtain ⟨s1, s2, s3⟩ := div_step (A := A) (D := R) (i := i) (by omega)
    have hlt : A / 2 ^ (i + 1) % R < R := Nat.mod_lt _ (by omega)
    have ci : (nI i).toNatClampNeg = i := nI_clamp (by omega)
    have gi : (nI i < 0 ∨ 65 ≤ i) = False := eq_false (nI_in2 (by omega) (by omega))
    have e1 : ((if bI (A.testBit i) = 0 then some 0 else some 1) : Option Int32) = some (nI (A.testBit i).toNat) := by cases A.testBit i <;> rfl
    have e2 : 2 * nI (A / 2 ^ (i + 1) % R) + nI (A.testBit i).toNat = nI (2 * (A / 2 ^ (i + 1) % R) + (A.testBit i).toNat) := by
      have h2 : (2 : Int32) = nI 2 := rfl
      rw [h2, pk_mul, nI_add]
    obtain ⟨N, hN⟩ : ∃ N, N = 2 * (A / 2 ^ (i + 1) % R) + (A.testBit i).toNat := ⟨_, rfl⟩
    rw [← hN] at s1 s2 s3 e2
    have e3 : ((if nI N < nI R then some 0 else some 1) : Option Int32) = some (bI ((A / R).testBit i)) := by
      rw [s2]
      by_cases h : N < R
      · rw [if_pos (nI_lt h (by omega)), decide_eq_false (by omega)]
        rfl
      · rw [if_neg (nI_nlt (by omega) (by omega)), decide_eq_true (by omega)]
        rfl
    have e4 : ((if bI ((A / R).testBit i) = 0 then some 0 else some (nI R)) : Option Int32).bind (fun x_119 => ((some (nI N - x_119) : Option Int32))) = some (nI (A / 2 ^ i % R)) := by
      rw [s2, s3]
      by_cases h : R ≤ N
      · rw [decide_eq_true h, if_neg (by decide), if_pos h]
        simp only [Option.bind_some]
        rw [pk_sub h]
      · rw [decide_eq_false h, if_pos bI_f, if_neg h]
        simp only [Option.bind_some]
        have : nI N - 0 = nI N - nI 0 := rfl
        rw [this, pk_sub (Nat.zero_le _)]
        rfl
    obtain ⟨g, e, r1⟩ := pr_dig56 hw hR hR2 i k (upd f i (bI ((A / R).testBit i))) (by omega) (by omega) (fun j hj => by rw [pk_un (by omega)]; exact q1 j (by omega)) (fun j h1 h2 => by
      by_cases hji : j = i
      · rw [hji, pk_us]
      · rw [pk_un hji]
        exact q2 j (by omega) h2)
    refine ⟨g, ?_, r1⟩
    rw [mX12_digits_L56, dn_s, if_neg (nI_pos (by omega))]
    simp only [ci, gi, if_false]
    rw [q1 i (by omega), e1]
    simp only [Option.bind_some]
    rw [e2, e3]
    simp only [Option.bind_some]
    rw [nar_b, pk_us]
    cases hx : ((if bI ((A / R).testBit i) = 0 then some 0 else some (nI R)) : Option Int32) with
    | none =>
      rw [hx] at e4
      cases e4
    | some z =>
      rw [hx] at e4
      simp only [Option.bind_some] at e4 ⊢
      have e5 : nI N - z = nI (A / 2 ^ i % R) := Option.some.inj e4
      rw [e5, dn_m]
      exact e
theorem pr_dig40 {b : Bool} {A R n K : Nat} (hR : 2 ≤ R) (hR2 : R ≤ 36) (hA : A < 2 ^ wd b) (hn : isND R A n) (hK : 66 < K) : ∀ (d m k : Nat) (ds one : Nat → Int32), m + d = n → d < k → (∀ j, j < m → ds j = nI (A / R ^ j % R)) → (∀ j, j < wd b → one j = bI ((A / R ^ m).testBit j)) → ∃ ds2 one2, mX12_digits_L40 (bI b) (nI R) K k (bI (decide (m < n))) (nI m) ds one = some (nI n, ds2, one2) ∧ ∀ j, j < n → ds2 j = nI (A / R ^ j % R)
  | _, _, 0, _, _, _, hk, _, _ => absurd hk (Nat.not_lt_zero _)
  | 0, m, k + 1, ds, one, h, _, q1, _ => ⟨ds, one, by rw [mX12_digits_L40, decide_eq_false (show ¬ m < n by omega), if_pos bI_f, show m = n by omega], fun j hj => q1 j (by omega)⟩
  | d + 1, m, k + 1, ds, one, h, hk, q1, q2 => by
    have hw := wd_le b
    obtain ⟨n1, n2, n3, n4⟩ := hn
    have hAm : A / R ^ m < 2 ^ wd b := Nat.lt_of_le_of_lt (Nat.div_le_self _ _) hA
    obtain ⟨g, e1, r1⟩ := pr_dig56 (A := A / R ^ m) hw hR hR2 (wd b) K one (Nat.le_refl _) (by omega) q2 (fun j h1 h2 => by omega)
    rw [Nat.div_eq_of_lt hAm, Nat.zero_mod] at e1
    have hg : isR (wd b) g (BitVec.ofNat (wd b) (A / R ^ (m + 1))) := fun j hj => by rw [r1 j hj, ofN_bit hj, dg_step]
    have hz := pr_nothing (N := 65) (k := K) hg (by omega) (by omega) (by omega) (by omega)
    have hzz : decide (BitVec.ofNat (wd b) (A / R ^ (m + 1)) = 0#(wd b)) = !decide (m + 1 < n) := by
      have hlt : A / R ^ (m + 1) < 2 ^ wd b := Nat.lt_of_le_of_lt (Nat.div_le_self _ _) hA
      by_cases hm : m + 1 < n
      · rw [decide_eq_true hm]
        refine decide_eq_false (fun z => n4 (m + 1) (by omega) hm ?_)
        have h9 := congrArg BitVec.toNat z
        rw [BitVec.toNat_ofNat, Nat.mod_eq_of_lt hlt] at h9
        simpa using h9
      · rw [decide_eq_false hm, show m + 1 = n by omega, n3]
        exact decide_eq_true rfl
    rw [hzz] at hz
    obtain ⟨ds2, one2, e, r2⟩ := pr_dig40 hR hR2 hA ⟨n1, n2, n3, n4⟩ hK d (m + 1) k (upd ds m (nI (A / R ^ m % R))) g (by omega) (by omega) (fun j hj => by
      by_cases hjm : j = m
      · rw [hjm, pk_us]
      · rw [pk_un hjm]
        exact q1 j (by omega)) (fun j hj => by rw [r1 j hj, dg_step])
    refine ⟨ds2, one2, ?_, r2⟩
    rw [mX12_digits_L40, decide_eq_true (show m < n by omega), if_neg (by decide), pr_bits]
    simp only [Option.bind_some]
    have e1' : mX12_digits_L56 (nI R) K 0 (nI (wd b) - 1) one = some (nI (A / R ^ m % R), g) := e1
    rw [e1']
    simp only [Option.bind_some]
    rw [if_neg (nI_in (show m < 64 by omega) (by omega)), hz]
    simp only [Option.bind_some]
    have e9 : ((if bI (!decide (m + 1 < n)) = 0 then some 1 else some 0) : Option Int32) = some (bI (decide (m + 1 < n))) := by cases decide (m + 1 < n) <;> rfl
    rw [e9]
    simp only [Option.bind_some]
    rw [nI_clamp (by omega), nI_1]
    exact e
/-- the size that the digits are made of -/
def szA (b p : Bool) (v : BitVec 64) : Nat := (mag p (v.setWidth (wd b))).toNat
def szN (b p : Bool) (v : BitVec 64) : Bool := isNg p (v.setWidth (wd b))
theorem szA_lt (b p : Bool) (v : BitVec 64) : szA b p v < 2 ^ wd b := BitVec.isLt _
theorem szA_lt64 (b p : Bool) (v : BitVec 64) : szA b p v < 2 ^ 64 := Nat.lt_of_lt_of_le (szA_lt b p v) (Nat.pow_le_pow_right (by decide) (wd_le b))
theorem pr_digits {b p : Bool} {j k n : Nat} {r : Int32} {B : Nat → Nat → Int32} {c : Nat → BitVec 64} {ds one : Nat → Int32} (hB : isB B c) (hj : j < 8) (hk : 66 < k) (hn : isND (rdx r) (szA b p (c j)) n) : ∃ ds2 one2, mX12_digits k (bI b) B ds one (nI j) r (bI p) = some (ds2, nI n, bI (szN b p (c j)), one2) ∧ ∀ q, q < n → ds2 q = nI (szA b p (c j) / rdx r ^ q % rdx r) := by
  have hw := wd_le b
  obtain ⟨f1, e1, a1, a2⟩ := pr_sizes_one (p := p) (k := k) (f := one) (hB j hj) hj (by omega)
  obtain ⟨ds2, one2, e2, r2⟩ := pr_dig40 (K := k) (rdx_spec r).1 (rdx_spec r).2.1 (szA_lt b p (c j)) hn hk n 0 k ds f1 (by omega) (by have := hn.2.1; omega) (fun q hq => absurd hq (Nat.not_lt_zero _)) (fun q hq => by
    rw [a1 q hq, Nat.pow_zero, Nat.div_one]
    rfl)
  refine ⟨ds2, one2, ?_, r2⟩
  have hin : mX13_in r 2 36 = some (if r < 2 ∨ 36 < r then 0 else 1) := pr_isRadix r
  rw [mX12_digits, hin]
  simp only [Option.bind_some]
  rw [pr_base]
  simp only [Option.bind_some]
  rw [e1]
  simp only [Option.bind_some]
  rw [if_neg (bI_nn _)]
  rw [decide_eq_true (show 0 < n by have := hn.1; omega)] at e2
  have e2' : mX12_digits_L40 (bI b) (nI (rdx r)) k k 1 0 ds f1 = some (nI n, ds2, one2) := e2
  rw [e2']
  rfl
