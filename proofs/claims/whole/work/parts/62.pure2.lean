/-! pure: puts, sizes -/
theorem pr_puts_sum_L {b : Bool} {j : Nat} {f : Nat → Int32} {x : BitVec (wd b)} (hf : isR (wd b) f x) (hj : j < 8) : ∀ (d i k : Nat) (B : Nat → Nat → Int32), i + d = 64 → d < k → (∀ q, q < i → B j q = bI ((x.signExtend 64).getLsbD q)) → ∃ R, mX12_puts_sum_L2 (nI j) (bI b) f k (nI i) B = some R ∧ isR 64 (R j) (x.signExtend 64) ∧ ∀ q, q ≠ j → R q = B q
  | _, _, 0, _, _, hk, _ => absurd hk (Nat.not_lt_zero _)
  | 0, i, k + 1, B, h, _, q1 => ⟨B, by rw [mX12_puts_sum_L2, if_pos (show (64 : Int32) ≤ nI i from nI_le (a := 64) (by omega) (by omega))], fun q hq => q1 q (by omega), fun _ _ => rfl⟩
  | d + 1, i, k + 1, B, h, hk, q1 => by
    have hw0 := wd_pos b
    have hw := wd_le b
    have hlt : (if wd b - 1 < i then wd b - 1 else i) < wd b := by split <;> omega
    obtain ⟨R, e, r1, r2⟩ := pr_puts_sum_L hf hj d (i + 1) k (upR B j (upd (B j) i (bI ((x.signExtend 64).getLsbD i)))) (by omega) (by omega) (fun q hq => by
      have e0 : upR B j (upd (B j) i (bI ((x.signExtend 64).getLsbD i))) j = upd (B j) i (bI ((x.signExtend 64).getLsbD i)) := if_pos rfl
      rw [e0]
      by_cases hqi : q = i
      · rw [hqi, pk_us]
      · rw [pk_un hqi]
        exact q1 q (by omega))
    refine ⟨R, ?_, r1, fun q hq => (r2 q hq).trans (if_neg hq)⟩
    rw [mX12_puts_sum_L2, if_neg (show ¬ (64 : Int32) ≤ nI i from nI_ge (b := 64) (by omega) (by omega)), if_neg (nI_in hj (by omega)), pr_bits]
    simp only [Option.bind_some]
    rw [min_nI hw0 hw (by omega), if_neg (nI_in (by omega) (by omega)), if_neg (nI_in (by omega) (by omega)), nI_clamp (by omega), nI_clamp (by omega), nI_clamp (by omega), hf _ hlt, ← sx_bit hw0 x (by omega), nar_b, nI_1]
    exact e
theorem pr_puts_sum {b : Bool} {j k : Nat} {f : Nat → Int32} {x : BitVec (wd b)} {B : Nat → Nat → Int32} (hf : isR (wd b) f x) (hj : j < 8) (hk : 64 < k) : ∃ R, mX12_puts_sum k (bI b) B f (nI j) = some (Int64.ofBitVec (x.signExtend 64), R) ∧ isR 64 (R j) (x.signExtend 64) ∧ ∀ q, q ≠ j → R q = B q := by
  obtain ⟨R, e, r1, r2⟩ := pr_puts_sum_L hf hj 64 0 k B (by omega) hk (fun q hq => absurd hq (Nat.not_lt_zero _))
  refine ⟨R, ?_, r1, r2⟩
  have hx : (x.signExtend 64).setWidth (wd b) = x := by
    have hw := wd_le b
    apply BitVec.eq_of_getLsbD_eq
    intro i hi
    rw [BitVec.getLsbD_setWidth, decide_eq_true hi, Bool.true_and, BitVec.getLsbD_signExtend, decide_eq_true (by omega), Bool.true_and, if_pos hi]
  have hn : isR (wd b) (R j) x := by
    have h9 := r1.sub (wd_le b)
    rw [hx] at h9
    exact h9
  rw [mX12_puts_sum]
  show (mX12_puts_sum_L2 (nI j) (bI b) f k (nI 0) B).bind _ = _
  rw [e]
  simp only [Option.bind_some]
  rw [mX12_number, if_neg (nI_in hj (by omega)), pr_bits]
  simp only [Option.bind_some]
  rw [nI_clamp (by omega), pr_told hn (wd_pos b) (wd_le b) hk]
  simp only [Option.bind_some]
  rw [lN_bv64]
theorem pr_puts_found_L {b : Bool} {j : Nat} {f : Nat → Int32} {x : BitVec (wd b)} (hf : isR (wd b) f x) (hj : j < 8) : ∀ (d i k : Nat) (B : Nat → Nat → Int32), i + d = 64 → d < k → (∀ q, q < i → B j q = bI ((x.signExtend 64).getLsbD q)) → ∃ R, mX12_puts_found_L2 (nI j) (bI b) f k (nI i) B = some R ∧ isR 64 (R j) (x.signExtend 64) ∧ ∀ q, q ≠ j → R q = B q
  | _, _, 0, _, _, hk, _ => absurd hk (Nat.not_lt_zero _)
  | 0, i, k + 1, B, h, _, q1 => ⟨B, by rw [mX12_puts_found_L2, if_pos (show (64 : Int32) ≤ nI i from nI_le (a := 64) (by omega) (by omega))], fun q hq => q1 q (by omega), fun _ _ => rfl⟩
  | d + 1, i, k + 1, B, h, hk, q1 => by
    have hw0 := wd_pos b
    have hw := wd_le b
    have hlt : (if wd b - 1 < i then wd b - 1 else i) < wd b := by split <;> omega
    obtain ⟨R, e, r1, r2⟩ := pr_puts_found_L hf hj d (i + 1) k (upR B j (upd (B j) i (bI ((x.signExtend 64).getLsbD i)))) (by omega) (by omega) (fun q hq => by
      have e0 : upR B j (upd (B j) i (bI ((x.signExtend 64).getLsbD i))) j = upd (B j) i (bI ((x.signExtend 64).getLsbD i)) := if_pos rfl
      rw [e0]
      by_cases hqi : q = i
      · rw [hqi, pk_us]
      · rw [pk_un hqi]
        exact q1 q (by omega))
    refine ⟨R, ?_, r1, fun q hq => (r2 q hq).trans (if_neg hq)⟩
    rw [mX12_puts_found_L2, if_neg (show ¬ (64 : Int32) ≤ nI i from nI_ge (b := 64) (by omega) (by omega)), if_neg (nI_in hj (by omega)), pr_bits]
    simp only [Option.bind_some]
    rw [min_nI hw0 hw (by omega), if_neg (nI_in (by omega) (by omega)), if_neg (nI_in (by omega) (by omega)), nI_clamp (by omega), nI_clamp (by omega), nI_clamp (by omega), hf _ hlt, ← sx_bit hw0 x (by omega), nar_b, nI_1]
    exact e
theorem pr_puts_found {b : Bool} {j k : Nat} {f : Nat → Int32} {x : BitVec (wd b)} {B : Nat → Nat → Int32} (hf : isR (wd b) f x) (hj : j < 8) (hk : 64 < k) : ∃ R, mX12_puts_found k (bI b) B f (nI j) = some (Int64.ofBitVec (x.signExtend 64), R) ∧ isR 64 (R j) (x.signExtend 64) ∧ ∀ q, q ≠ j → R q = B q := by
  obtain ⟨R, e, r1, r2⟩ := pr_puts_found_L hf hj 64 0 k B (by omega) hk (fun q hq => absurd hq (Nat.not_lt_zero _))
  refine ⟨R, ?_, r1, r2⟩
  have hx : (x.signExtend 64).setWidth (wd b) = x := by
    have hw := wd_le b
    apply BitVec.eq_of_getLsbD_eq
    intro i hi
    rw [BitVec.getLsbD_setWidth, decide_eq_true hi, Bool.true_and, BitVec.getLsbD_signExtend, decide_eq_true (by omega), Bool.true_and, if_pos hi]
  have hn : isR (wd b) (R j) x := by
    have h9 := r1.sub (wd_le b)
    rw [hx] at h9
    exact h9
  rw [mX12_puts_found]
  show (mX12_puts_found_L2 (nI j) (bI b) f k (nI 0) B).bind _ = _
  rw [e]
  simp only [Option.bind_some]
  rw [mX12_number, if_neg (nI_in hj (by omega)), pr_bits]
  simp only [Option.bind_some]
  rw [nI_clamp (by omega), pr_told hn (wd_pos b) (wd_le b) hk]
  simp only [Option.bind_some]
  rw [lN_bv64]
theorem pr_puts_rest_L {b : Bool} {j : Nat} {f : Nat → Int32} {x : BitVec (wd b)} (hf : isR (wd b) f x) (hj : j < 8) : ∀ (d i k : Nat) (B : Nat → Nat → Int32), i + d = 64 → d < k → (∀ q, q < i → B j q = bI ((x.signExtend 64).getLsbD q)) → ∃ R, mX12_puts_rest_L2 (nI j) (bI b) f k (nI i) B = some R ∧ isR 64 (R j) (x.signExtend 64) ∧ ∀ q, q ≠ j → R q = B q
  | _, _, 0, _, _, hk, _ => absurd hk (Nat.not_lt_zero _)
  | 0, i, k + 1, B, h, _, q1 => ⟨B, by rw [mX12_puts_rest_L2, if_pos (show (64 : Int32) ≤ nI i from nI_le (a := 64) (by omega) (by omega))], fun q hq => q1 q (by omega), fun _ _ => rfl⟩
  | d + 1, i, k + 1, B, h, hk, q1 => by
    have hw0 := wd_pos b
    have hw := wd_le b
    have hlt : (if wd b - 1 < i then wd b - 1 else i) < wd b := by split <;> omega
    obtain ⟨R, e, r1, r2⟩ := pr_puts_rest_L hf hj d (i + 1) k (upR B j (upd (B j) i (bI ((x.signExtend 64).getLsbD i)))) (by omega) (by omega) (fun q hq => by
      have e0 : upR B j (upd (B j) i (bI ((x.signExtend 64).getLsbD i))) j = upd (B j) i (bI ((x.signExtend 64).getLsbD i)) := if_pos rfl
      rw [e0]
      by_cases hqi : q = i
      · rw [hqi, pk_us]
      · rw [pk_un hqi]
        exact q1 q (by omega))
    refine ⟨R, ?_, r1, fun q hq => (r2 q hq).trans (if_neg hq)⟩
    rw [mX12_puts_rest_L2, if_neg (show ¬ (64 : Int32) ≤ nI i from nI_ge (b := 64) (by omega) (by omega)), if_neg (nI_in hj (by omega)), pr_bits]
    simp only [Option.bind_some]
    rw [min_nI hw0 hw (by omega), if_neg (nI_in (by omega) (by omega)), if_neg (nI_in (by omega) (by omega)), nI_clamp (by omega), nI_clamp (by omega), nI_clamp (by omega), hf _ hlt, ← sx_bit hw0 x (by omega), nar_b, nI_1]
    exact e
theorem pr_puts_rest {b : Bool} {j k : Nat} {f : Nat → Int32} {x : BitVec (wd b)} {B : Nat → Nat → Int32} (hf : isR (wd b) f x) (hj : j < 8) (hk : 64 < k) : ∃ R, mX12_puts_rest k (bI b) B f (nI j) = some (Int64.ofBitVec (x.signExtend 64), R) ∧ isR 64 (R j) (x.signExtend 64) ∧ ∀ q, q ≠ j → R q = B q := by
  obtain ⟨R, e, r1, r2⟩ := pr_puts_rest_L hf hj 64 0 k B (by omega) hk (fun q hq => absurd hq (Nat.not_lt_zero _))
  refine ⟨R, ?_, r1, r2⟩
  have hx : (x.signExtend 64).setWidth (wd b) = x := by
    have hw := wd_le b
    apply BitVec.eq_of_getLsbD_eq
    intro i hi
    rw [BitVec.getLsbD_setWidth, decide_eq_true hi, Bool.true_and, BitVec.getLsbD_signExtend, decide_eq_true (by omega), Bool.true_and, if_pos hi]
  have hn : isR (wd b) (R j) x := by
    have h9 := r1.sub (wd_le b)
    rw [hx] at h9
    exact h9
  rw [mX12_puts_rest]
  show (mX12_puts_rest_L2 (nI j) (bI b) f k (nI 0) B).bind _ = _
  rw [e]
  simp only [Option.bind_some]
  rw [mX12_number, if_neg (nI_in hj (by omega)), pr_bits]
  simp only [Option.bind_some]
  rw [nI_clamp (by omega), pr_told hn (wd_pos b) (wd_le b) hk]
  simp only [Option.bind_some]
  rw [lN_bv64]
/-- the size of a number of w bits, and whether it is below 0 -/
def isNg (p : Bool) {w : Nat} (x : BitVec w) : Bool := !p && x.msb
def mag (p : Bool) {w : Nat} (x : BitVec w) : BitVec w := if isNg p x then -x else x
theorem pr_sizes_one {b p : Bool} {j k : Nat} {f : Nat → Int32} {B : Nat → Nat → Int32} {x : BitVec 64} (hB : isR 64 (B j) x) (hj : j < 8) (hk : 65 < k) : ∃ R, mX12_sizes_one k (bI b) B f (nI j) (bI p) = some (bI (isNg p (x.setWidth (wd b))), R) ∧ isR (wd b) R (mag p (x.setWidth (wd b))) ∧ ∀ q, wd b ≤ q → q < 65 → R q = 0 := by
  have hw0 := wd_pos b
  have hw := wd_le b
  obtain ⟨R1, e1, a1, a2⟩ := pr_clear (N := 65) (k := k) (f := f) (by omega) (by omega)
  obtain ⟨R2, e2, c1, c2⟩ := pr_copy (w := wd b) (N1 := 64) (N2 := 65) (k := k) (g := B j) (f := R1) hw (by omega) (by omega) (by omega) (by omega)
  have hR2 : isR (wd b) R2 (x.setWidth (wd b)) := fun i hi => by rw [c1 i hi, hB.sub hw i hi, nar_b]
  have hm : R2 (wd b - 1) = bI (x.setWidth (wd b)).msb := by rw [hR2 _ (by omega), BitVec.msb_eq_getLsbD_last]
  have h0 : ∀ q, wd b ≤ q → q < 65 → R2 q = 0 := fun q h1 h2 => by rw [c2 q h1, a1 q h2]
  have em : nI (wd b) - 1 = nI (wd b - 1) := pk_sub (b := 1) hw0
  rw [mX12_sizes_one, e1]
  simp only [Option.bind_some]
  rw [if_neg (nI_in hj (by omega)), pr_bits]
  simp only [Option.bind_some]
  rw [nI_clamp (by omega), e2]
  simp only [Option.bind_some]
  have e3 : ((if bI p = 0 then (if (nI (wd b) - 1) < 0 ∨ 65 ≤ (nI (wd b) - 1).toNatClampNeg then none else (if (R2 (nI (wd b) - 1).toNatClampNeg) = 0 then some 0 else some 1)) else some 0) : Option Int32) = some (bI (isNg p (x.setWidth (wd b)))) := by
    cases p with
    | true => rfl
    | false =>
      rw [if_pos bI_f, em, if_neg (nI_in (by omega) (by omega)), nI_clamp (by omega), hm]
      show _ = some (bI (x.setWidth (wd b)).msb)
      cases (x.setWidth (wd b)).msb <;> rfl
  rw [e3]
  simp only [Option.bind_some]
  cases hn : isNg p (x.setWidth (wd b)) with
  | false =>
    refine ⟨R2, ?_, ?_, h0⟩
    · rw [if_pos bI_f, if_neg (by decide)]
    · rw [mag, hn]
      exact hR2
  | true =>
    obtain ⟨R3, e4, d1, d2⟩ := pr_negates (N := 65) (k := k) hR2 (by omega) (by omega) (by omega) (by omega)
    refine ⟨R3, ?_, ?_, fun q h1 h2 => by rw [d2 q h1]; exact h0 q h1 h2⟩
    · rw [if_neg (by decide), e4]
      simp only [Option.bind_some]
      rw [if_neg (by decide)]
    · rw [mag, hn]
      exact d1
theorem pr_sizes_other {b p : Bool} {j k : Nat} {f : Nat → Int32} {B : Nat → Nat → Int32} {x : BitVec 64} (hB : isR 64 (B j) x) (hj : j < 8) (hk : 65 < k) : ∃ R, mX12_sizes_other k (bI b) B f (nI j) (bI p) = some (bI (isNg p (x.setWidth (wd b))), R) ∧ isR (wd b) R (mag p (x.setWidth (wd b))) ∧ ∀ q, wd b ≤ q → q < 65 → R q = 0 := by
  have hw0 := wd_pos b
  have hw := wd_le b
  obtain ⟨R1, e1, a1, a2⟩ := pr_clear (N := 65) (k := k) (f := f) (by omega) (by omega)
  obtain ⟨R2, e2, c1, c2⟩ := pr_copy (w := wd b) (N1 := 64) (N2 := 65) (k := k) (g := B j) (f := R1) hw (by omega) (by omega) (by omega) (by omega)
  have hR2 : isR (wd b) R2 (x.setWidth (wd b)) := fun i hi => by rw [c1 i hi, hB.sub hw i hi, nar_b]
  have hm : R2 (wd b - 1) = bI (x.setWidth (wd b)).msb := by rw [hR2 _ (by omega), BitVec.msb_eq_getLsbD_last]
  have h0 : ∀ q, wd b ≤ q → q < 65 → R2 q = 0 := fun q h1 h2 => by rw [c2 q h1, a1 q h2]
  have em : nI (wd b) - 1 = nI (wd b - 1) := pk_sub (b := 1) hw0
  rw [mX12_sizes_other, e1]
  simp only [Option.bind_some]
  rw [if_neg (nI_in hj (by omega)), pr_bits]
  simp only [Option.bind_some]
  rw [nI_clamp (by omega), e2]
  simp only [Option.bind_some]
  have e3 : ((if bI p = 0 then (if (nI (wd b) - 1) < 0 ∨ 65 ≤ (nI (wd b) - 1).toNatClampNeg then none else (if (R2 (nI (wd b) - 1).toNatClampNeg) = 0 then some 0 else some 1)) else some 0) : Option Int32) = some (bI (isNg p (x.setWidth (wd b)))) := by
    cases p with
    | true => rfl
    | false =>
      rw [if_pos bI_f, em, if_neg (nI_in (by omega) (by omega)), nI_clamp (by omega), hm]
      show _ = some (bI (x.setWidth (wd b)).msb)
      cases (x.setWidth (wd b)).msb <;> rfl
  rw [e3]
  simp only [Option.bind_some]
  cases hn : isNg p (x.setWidth (wd b)) with
  | false =>
    refine ⟨R2, ?_, ?_, h0⟩
    · rw [if_pos bI_f, if_neg (by decide)]
    · rw [mag, hn]
      exact hR2
  | true =>
    obtain ⟨R3, e4, d1, d2⟩ := pr_negates (N := 65) (k := k) hR2 (by omega) (by omega) (by omega) (by omega)
    refine ⟨R3, ?_, ?_, fun q h1 h2 => by rw [d2 q h1]; exact h0 q h1 h2⟩
    · rw [if_neg (by decide), e4]
      simp only [Option.bind_some]
      rw [if_neg (by decide)]
    · rw [mag, hn]
      exact d1
