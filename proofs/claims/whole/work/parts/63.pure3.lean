/-! pure: alike, count, reverses, reversesBytes, leaves, spreads, turns -/
/-- the first place from i on, at most d further, where p holds -/
def fst1 (p : Nat → Bool) : Nat → Nat → Nat
  | 0, i => i
  | d + 1, i => if p i then i else fst1 p d (i + 1)
theorem fst1_spec (p : Nat → Bool) : ∀ (d i : Nat), i ≤ fst1 p d i ∧ fst1 p d i ≤ i + d ∧ (∀ q, i ≤ q → q < fst1 p d i → p q = false) ∧ (fst1 p d i < i + d → p (fst1 p d i) = true)
  | 0, i => ⟨Nat.le_refl _, Nat.le_refl _, fun q h1 h2 => absurd h2 (Nat.not_lt.mpr h1), fun h => absurd h (Nat.lt_irrefl _)⟩
  | d + 1, i => by
    cases h : p i with
    | true =>
      have e : fst1 p (d + 1) i = i := by rw [fst1, if_pos h]
      rw [e]
      exact ⟨Nat.le_refl _, by omega, fun q h1 h2 => absurd h2 (Nat.not_lt.mpr h1), fun _ => h⟩
    | false =>
      have e : fst1 p (d + 1) i = fst1 p d (i + 1) := by rw [fst1, if_neg (by rw [h]; decide)]
      obtain ⟨a1, a2, a3, a4⟩ := fst1_spec p d (i + 1)
      rw [e]
      refine ⟨by omega, by omega, fun q h1 h2 => ?_, fun h2 => a4 (by omega)⟩
      by_cases hq : q = i
      · rw [hq]; exact h
      · exact a3 q (by omega) h2
theorem fst1_uniq {p : Nat → Bool} {d r : Nat} (h1 : r ≤ d) (h2 : ∀ q, q < r → p q = false) (h3 : r < d → p r = true) : fst1 p d 0 = r := by
  obtain ⟨-, b, c, e⟩ := fst1_spec p d 0
  rcases Nat.lt_trichotomy (fst1 p d 0) r with h | h | h
  · have h9 := e (by omega)
    rw [h2 _ h] at h9
    cases h9
  · exact h
  · have h9 := h3 (by omega)
    rw [c r (Nat.zero_le _) h] at h9
    cases h9
/-- a bit of the w, counted from above or from below -/
def pick (above : Bool) (w i : Nat) : Nat := if above then w - 1 - i else i
theorem pick_lt {above : Bool} {w i : Nat} (h : i < w) : pick above w i < w := by
  unfold pick
  split <;> omega
/-- how many bits are alike from one end on -/
def alk (bit above : Bool) (w : Nat) (x : BitVec 64) : Nat := fst1 (fun i => x.getLsbD (pick above w i) != bit) w 0
theorem pr_alike_L {b bit above : Bool} {j : Nat} {B : Nat → Nat → Int32} {x : BitVec 64} (hB : isR 64 (B j) x) (hj : j < 8) : ∀ (d i k : Nat), i + d = wd b → d < k → mX12_alike_L3 (bI b) (nI j) (bI above) B (bI bit) k (nI i) = some (nI (fst1 (fun i => x.getLsbD (pick above (wd b) i) != bit) d i))
  | _, _, 0, _, hk => absurd hk (Nat.not_lt_zero _)
  | 0, i, k + 1, h, _ => by
    have hw := wd_le b
    rw [mX12_alike_L3, pr_bits]
    simp only [Option.bind_some]
    rw [if_pos (nI_le (by omega) (by omega))]
    rfl
  | d + 1, i, k + 1, h, hk => by
    have hw := wd_le b
    have hw0 := wd_pos b
    have hp : pick above (wd b) i < wd b := pick_lt (by omega)
    have em : nI (wd b) - 1 - nI i = nI (wd b - 1 - i) := by
      have e1 : nI (wd b) - 1 = nI (wd b - 1) := pk_sub (b := 1) hw0
      rw [e1, pk_sub (by omega)]
    have e3 : ((if bI above = 0 then some (nI i) else ((some (nI (wd b)) : Option Int32).bind (fun r_26 => some ((r_26 - 1) - nI i)))) : Option Int32) = some (nI (pick above (wd b) i)) := by
      cases above with
      | false => rfl
      | true =>
        show some (nI (wd b) - 1 - nI i) = _
        rw [em]
        rfl
    rw [mX12_alike_L3, pr_bits]
    simp only [Option.bind_some]
    rw [if_neg (nI_ge (by omega) (by omega)), if_neg (nI_in hj (by omega))]
    simp only [Option.bind_some] at e3
    rw [e3]
    simp only [Option.bind_some]
    rw [if_neg (nI_in (by omega) (by omega)), nI_clamp (by omega), nI_clamp (by omega), hB _ (by omega), fst1, nI_1]
    by_cases hc : x.getLsbD (pick above (wd b) i) = bit
    · rw [if_pos (bI_inj.mpr hc), if_neg (by rw [hc]; simp)]
      exact pr_alike_L hB hj d (i + 1) k (by omega) (by omega)
    · rw [if_neg (fun z => hc (bI_inj.mp z)), if_pos (by simpa using hc)]
theorem pr_alike {b bit above : Bool} {j k : Nat} {B : Nat → Nat → Int32} {x : BitVec 64} (hB : isR 64 (B j) x) (hj : j < 8) (hk : 64 < k) : mX12_alike k (bI b) B (nI j) (bI bit) (bI above) = some (nI (alk bit above (wd b) x)) := by
  have hw := wd_le b
  rw [mX12_alike]
  show (mX12_alike_L3 (bI b) (nI j) (bI above) B (bI bit) k (nI 0)).bind _ = _
  rw [pr_alike_L hB hj (wd b) 0 k (by omega) (by omega)]
  rfl
/-- how many of the lowest n bits are 1 -/
def cnt (x : BitVec 64) : Nat → Nat
  | 0 => 0
  | n + 1 => cnt x n + (x.getLsbD n).toNat
theorem cnt_le (x : BitVec 64) : ∀ n, cnt x n ≤ n
  | 0 => Nat.le_refl _
  | n + 1 => by
    have h := cnt_le x n
    have h2 : (x.getLsbD n).toNat ≤ 1 := by cases x.getLsbD n <;> decide
    rw [cnt]
    omega
theorem pr_count_L {b : Bool} {j : Nat} {B : Nat → Nat → Int32} {x : BitVec 64} (hB : isR 64 (B j) x) (hj : j < 8) : ∀ (d i k : Nat), i + d = wd b → d < k → mX12_count_L4 (bI b) (nI j) B k (nI (cnt x i)) (nI i) = some (nI (cnt x (wd b)))
  | _, _, 0, _, hk => absurd hk (Nat.not_lt_zero _)
  | 0, i, k + 1, h, _ => by
    have hw := wd_le b
    rw [mX12_count_L4, pr_bits]
    simp only [Option.bind_some]
    rw [if_pos (nI_le (by omega) (by omega)), show i = wd b by omega]
  | d + 1, i, k + 1, h, hk => by
    have hw := wd_le b
    have e1 : ((if bI (x.getLsbD i) = 0 then some 0 else some 1) : Option Int32) = some (nI (x.getLsbD i).toNat) := by cases x.getLsbD i <;> rfl
    rw [mX12_count_L4, pr_bits]
    simp only [Option.bind_some]
    rw [if_neg (nI_ge (by omega) (by omega)), if_neg (nI_in hj (by omega)), if_neg (nI_in (by omega) (by omega)), nI_clamp (by omega), nI_clamp (by omega), hB _ (by omega), e1]
    simp only [Option.bind_some]
    rw [nI_add, nI_1]
    exact pr_count_L hB hj d (i + 1) k (by omega) (by omega)
theorem pr_count {b : Bool} {j k : Nat} {B : Nat → Nat → Int32} {x : BitVec 64} (hB : isR 64 (B j) x) (hj : j < 8) (hk : 64 < k) : mX12_count k (bI b) B (nI j) = some (nI (cnt x (wd b))) := by
  have hw := wd_le b
  rw [mX12_count]
  show (mX12_count_L4 (bI b) (nI j) B k (nI (cnt x 0)) (nI 0)).bind _ = _
  rw [pr_count_L hB hj (wd b) 0 k (by omega) (by omega)]
  rfl
/-- what a call that puts a row of w bits into a cell leaves: the answer and the rows -/
def putsTo (j : Nat) (B R : Nat → Nat → Int32) {w : Nat} (y : BitVec w) : Prop := isR 64 (R j) (y.signExtend 64) ∧ ∀ q, q ≠ j → R q = B q
theorem pr_rev_L {b : Bool} {j : Nat} {B : Nat → Nat → Int32} {x : BitVec 64} {y : BitVec (wd b)} (hB : isR 64 (B j) x) (hj : j < 8) (hy : ∀ i, i < wd b → y.getLsbD i = x.getLsbD (wd b - 1 - i)) : ∀ (d i k : Nat) (f : Nat → Int32), i + d = wd b → d < k → (∀ q, q < i → f q = bI (y.getLsbD q)) → ∃ R, mX12_reverses_L2 (bI b) (nI j) B k (nI i) f = some R ∧ isR (wd b) R y
  | _, _, 0, _, _, hk, _ => absurd hk (Nat.not_lt_zero _)
  | 0, i, k + 1, f, h, _, q1 => ⟨f, by
    have hw := wd_le b
    rw [mX12_reverses_L2, pr_bits]
    simp only [Option.bind_some]
    rw [if_pos (nI_le (by omega) (by omega))], fun q hq => q1 q (by omega)⟩
  | d + 1, i, k + 1, f, h, hk, q1 => by
    have hw := wd_le b
    have hw0 := wd_pos b
    have em : nI (wd b) - 1 - nI i = nI (wd b - 1 - i) := by
      have e1 : nI (wd b) - 1 = nI (wd b - 1) := pk_sub (b := 1) hw0
      rw [e1, pk_sub (by omega)]
    obtain ⟨R, e, r1⟩ := pr_rev_L hB hj hy d (i + 1) k (upd f i (bI (y.getLsbD i))) (by omega) (by omega) (fun q hq => by
      by_cases hqi : q = i
      · rw [hqi, pk_us]
      · rw [pk_un hqi]
        exact q1 q (by omega))
    refine ⟨R, ?_, r1⟩
    rw [mX12_reverses_L2, pr_bits]
    simp only [Option.bind_some]
    rw [if_neg (nI_ge (by omega) (by omega)), if_neg (nI_in hj (by omega)), em, if_neg (nI_in (by omega) (by omega)), if_neg (nI_in (by omega) (by omega)), nI_clamp (by omega), nI_clamp (by omega), nI_clamp (by omega), hB _ (by omega), ← hy i (by omega), nar_b, nI_1]
    exact e
theorem pr_reverses {b : Bool} {j k : Nat} {B : Nat → Nat → Int32} {f : Nat → Int32} {x : BitVec 64} {y : BitVec (wd b)} (hB : isR 64 (B j) x) (hj : j < 8) (hk : 65 < k) (hy : ∀ i, i < wd b → y.getLsbD i = x.getLsbD (wd b - 1 - i)) : ∃ R f2, mX12_reverses k (bI b) B f (nI j) = some (Int64.ofBitVec (y.signExtend 64), R, f2) ∧ putsTo j B R y := by
  have hw := wd_le b
  obtain ⟨f2, e, r1⟩ := pr_rev_L hB hj hy (wd b) 0 k f (by omega) (by omega) (fun q hq => absurd hq (Nat.not_lt_zero _))
  obtain ⟨R, e2, r2⟩ := pr_puts_sum (k := k) (B := B) r1 hj (by omega)
  refine ⟨R, f2, ?_, r2⟩
  rw [mX12_reverses]
  show (mX12_reverses_L2 (bI b) (nI j) B k (nI 0) f).bind _ = _
  rw [e]
  simp only [Option.bind_some]
  rw [e2]
  rfl
theorem pr_revB_L {b : Bool} {j : Nat} {B : Nat → Nat → Int32} {x : BitVec 64} {y : BitVec (wd b)} (hB : isR 64 (B j) x) (hj : j < 8) (hy : ∀ i, i < wd b → y.getLsbD i = x.getLsbD (wd b - 8 - i / 8 * 8 + i % 8)) : ∀ (d i k : Nat) (f : Nat → Int32), i + d = wd b → d < k → (∀ q, q < i → f q = bI (y.getLsbD q)) → ∃ R, mX12_reversesBytes_L2 (bI b) (nI j) B k (nI i) f = some R ∧ isR (wd b) R y
  | _, _, 0, _, _, hk, _ => absurd hk (Nat.not_lt_zero _)
  | 0, i, k + 1, f, h, _, q1 => ⟨f, by
    have hw := wd_le b
    rw [mX12_reversesBytes_L2, pr_bits]
    simp only [Option.bind_some]
    rw [if_pos (nI_le (by omega) (by omega))], fun q hq => q1 q (by omega)⟩
  | d + 1, i, k + 1, f, h, hk, q1 => by
    have hw := wd_le b
    have hw8 : wd b % 8 = 0 := by cases b <;> decide
    have hi : i < wd b := by omega
    have hle : i / 8 * 8 ≤ wd b - 8 := by omega
    have em : nI (wd b) - 8 - nI i / 8 * 8 + (nI i - nI i / 8 * 8) = nI (wd b - 8 - i / 8 * 8 + i % 8) := by
      have e8 : (8 : Int32) = nI 8 := rfl
      rw [e8, pk_rem (by omega) (by omega) (by omega), pk_div (by omega) (by omega) (by omega), pk_mul, pk_sub (by omega), pk_sub hle, nI_add]
    have hlt : wd b - 8 - i / 8 * 8 + i % 8 < 64 := by omega
    obtain ⟨R, e, r1⟩ := pr_revB_L hB hj hy d (i + 1) k (upd f i (bI (y.getLsbD i))) (by omega) (by omega) (fun q hq => by
      by_cases hqi : q = i
      · rw [hqi, pk_us]
      · rw [pk_un hqi]
        exact q1 q (by omega))
    refine ⟨R, ?_, r1⟩
    rw [mX12_reversesBytes_L2, pr_bits]
    simp only [Option.bind_some]
    rw [if_neg (nI_ge (by omega) (by omega)), if_neg (nI_in hj (by omega)), em, if_neg (nI_in hlt (by omega)), if_neg (nI_in (by omega) (by omega)), nI_clamp (by omega), nI_clamp (by omega), nI_clamp (by omega), hB _ hlt, ← hy i hi, nar_b, nI_1]
    exact e
theorem pr_reversesBytes {b : Bool} {j k : Nat} {B : Nat → Nat → Int32} {f : Nat → Int32} {x : BitVec 64} {y : BitVec (wd b)} (hB : isR 64 (B j) x) (hj : j < 8) (hk : 65 < k) (hy : ∀ i, i < wd b → y.getLsbD i = x.getLsbD (wd b - 8 - i / 8 * 8 + i % 8)) : ∃ R f2, mX12_reversesBytes k (bI b) B f (nI j) = some (Int64.ofBitVec (y.signExtend 64), R, f2) ∧ putsTo j B R y := by
  have hw := wd_le b
  obtain ⟨f2, e, r1⟩ := pr_revB_L hB hj hy (wd b) 0 k f (by omega) (by omega) (fun q hq => absurd hq (Nat.not_lt_zero _))
  obtain ⟨R, e2, r2⟩ := pr_puts_sum (k := k) (B := B) r1 hj (by omega)
  refine ⟨R, f2, ?_, r2⟩
  rw [mX12_reversesBytes]
  show (mX12_reversesBytes_L2 (bI b) (nI j) B k (nI 0) f).bind _ = _
  rw [e]
  simp only [Option.bind_some]
  rw [e2]
  rfl
