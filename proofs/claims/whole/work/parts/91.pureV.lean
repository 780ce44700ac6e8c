/-! pure: words -/
def gapN (x : Nat) : Bool := decide (x = 32 ∨ x = 10)
def mrkN (x : Nat) : Bool := decide (x = 59 ∨ x = 123 ∨ x = 125)
/-- where the next word begins; where a word ends -/
def nbw (tx : Nat → Nat) (len i : Nat) : Nat := fst1 (fun q => !gapN (tx q)) (len - i) i
def wew (tx : Nat → Nat) (len i : Nat) : Nat := if len ≤ i then len else if mrkN (tx i) then i + 1 else fst1 (fun q => gapN (tx q) || mrkN (tx q)) (len - (i + 1)) (i + 1)
def WB (tx : Nat → Nat) (len : Nat) : Nat → Nat
  | 0 => nbw tx len 0
  | j + 1 => nbw tx len (wew tx len (WB tx len j))
def WE (tx : Nat → Nat) (len j : Nat) : Nat := wew tx len (WB tx len j)
theorem nbw_le {tx : Nat → Nat} {len i : Nat} (h : i ≤ len) : i ≤ nbw tx len i ∧ nbw tx len i ≤ len := by
  obtain ⟨a, b, -, -⟩ := fst1_spec (fun q => !gapN (tx q)) (len - i) i
  unfold nbw
  omega
theorem nbw_len {tx : Nat → Nat} {len : Nat} : nbw tx len len = len := by
  have := nbw_le (tx := tx) (Nat.le_refl len)
  omega
theorem nbw_ng {tx : Nat → Nat} {len i : Nat} (hi : i ≤ len) (h : nbw tx len i < len) : gapN (tx (nbw tx len i)) = false := by
  obtain ⟨-, -, -, d⟩ := fst1_spec (fun q => !gapN (tx q)) (len - i) i
  unfold nbw at h ⊢
  have h9 := d (by omega)
  simpa using h9
theorem nbw_gap {tx : Nat → Nat} {len i : Nat} (hi : i < len) (h : gapN (tx i) = true) : nbw tx len i = nbw tx len (i + 1) := by
  unfold nbw
  rw [show len - i = (len - (i + 1)) + 1 by omega, fst1, if_neg (by rw [h]; decide)]
theorem nbw_self {tx : Nat → Nat} {len i : Nat} (hi : i < len) (h : gapN (tx i) = false) : nbw tx len i = i := by
  unfold nbw
  rw [show len - i = (len - (i + 1)) + 1 by omega, fst1, if_pos (by rw [h]; decide)]
theorem wew_len {tx : Nat → Nat} {len : Nat} : wew tx len len = len := if_pos (Nat.le_refl _)
theorem wew_le {tx : Nat → Nat} {len i : Nat} (h : i < len) : i < wew tx len i ∧ wew tx len i ≤ len := by
  unfold wew
  rw [if_neg (by omega)]
  split
  · omega
  · obtain ⟨a, b, -, -⟩ := fst1_spec (fun q => gapN (tx q) || mrkN (tx q)) (len - (i + 1)) (i + 1)
    omega
theorem wew_le2 {tx : Nat → Nat} {len i : Nat} (h : i ≤ len) : i ≤ wew tx len i ∧ wew tx len i ≤ len := by
  rcases Nat.lt_or_eq_of_le h with h1 | h1
  · have := wew_le (tx := tx) h1
    omega
  · rw [h1, wew_len]
    omega
theorem WB_le (tx : Nat → Nat) (len : Nat) : ∀ j, WB tx len j ≤ len
  | 0 => (nbw_le (Nat.zero_le _)).2
  | j + 1 => (nbw_le (wew_le2 (WB_le tx len j)).2).2
theorem WB_ng {tx : Nat → Nat} {len : Nat} : ∀ j, WB tx len j < len → gapN (tx (WB tx len j)) = false
  | 0, h => nbw_ng (Nat.zero_le _) h
  | j + 1, h => nbw_ng (wew_le2 (WB_le tx len j)).2 h
theorem WB_step {tx : Nat → Nat} {len j : Nat} (h : WB tx len j < len) : WB tx len j < WE tx len j ∧ WE tx len j ≤ WB tx len (j + 1) ∧ WE tx len j ≤ len := by
  have h1 := wew_le (tx := tx) h
  have h2 := nbw_le (tx := tx) (len := len) (i := wew tx len (WB tx len j)) h1.2
  exact ⟨h1.1, h2.1, h1.2⟩
/-! the class goes through the words -/
def txR (f : Nat → Int32) (tx : Nat → Nat) (len : Nat) : Prop := len ≤ 300 ∧ ∀ i, i < len → f i = nI (tx i) ∧ tx i < 256
theorem pr_isGap {x : Nat} (h : x < 256) : mX10_isGap (nI x) = some (bI (gapN x)) := by
  have h1 : nI x = 32 ↔ x = 32 := nI_eq (b := 32) (by omega) (by omega)
  have h2 : nI x = 10 ↔ x = 10 := nI_eq (b := 10) (by omega) (by omega)
  rw [mX10_isGap, gapN]
  by_cases a : x = 32
  · rw [if_pos (h1.mpr a), decide_eq_true (Or.inl a)]
    rfl
  · rw [if_neg (fun z => a (h1.mp z))]
    by_cases b : x = 10
    · rw [if_pos (h2.mpr b), decide_eq_true (Or.inr b)]
      rfl
    · rw [if_neg (fun z => b (h2.mp z)), decide_eq_false (fun z => z.elim a b)]
      rfl
theorem pr_isSignB {x : Nat} (h : x < 256) : mX10_isSignByte (nI x) = some (bI (mrkN x)) := by
  have h1 : nI x = 59 ↔ x = 59 := nI_eq (b := 59) (by omega) (by omega)
  have h2 : nI x = 123 ↔ x = 123 := nI_eq (b := 123) (by omega) (by omega)
  have h3 : nI x = 125 ↔ x = 125 := nI_eq (b := 125) (by omega) (by omega)
  rw [mX10_isSignByte, mrkN]
  by_cases a : x = 59
  · rw [if_pos (h1.mpr a), decide_eq_true (Or.inl a)]
    rfl
  · rw [if_neg (fun z => a (h1.mp z))]
    by_cases b : x = 123
    · rw [if_pos (h2.mpr b), decide_eq_true (Or.inr (Or.inl b))]
      rfl
    · rw [if_neg (fun z => b (h2.mp z))]
      by_cases c : x = 125
      · rw [if_pos (h3.mpr c), decide_eq_true (Or.inr (Or.inr c))]
        rfl
      · rw [if_neg (fun z => c (h3.mp z)), decide_eq_false (fun z => z.elim a (fun y => y.elim b c))]
        rfl
theorem pr_isBlank {x : Nat} (h : x < 256) : mX13_isBlank (nI x) = some (bI (gapN x)) := pr_isGap h
theorem pr_isMark {x : Nat} (h : x < 256) : mX13_isMark (nI x) = some (bI (mrkN x)) := pr_isSignB h
theorem pr_adv8 {f : Nat → Int32} {tx : Nat → Nat} {len : Nat} (hf : txR f tx len) : ∀ (d i k : Nat), i + d = len → d < k → mX10_advance_L8 (nI len) 300 f k (nI i) = some (nI (fst1 (fun q => !gapN (tx q)) d i))
  | _, _, 0, _, hk => absurd hk (Nat.not_lt_zero _)
  | 0, i, k + 1, h, _ => by
    have h3 := hf.1
    rw [mX10_advance_L8, mX6_size]
    simp only [Option.bind_some]
    rw [if_pos (nI_le (by omega) (by omega))]
    rfl
  | d + 1, i, k + 1, h, hk => by
    have h3 := hf.1
    obtain ⟨e, hb⟩ := hf.2 i (by omega)
    rw [mX10_advance_L8, mX6_size]
    simp only [Option.bind_some]
    rw [if_neg (nI_ge (by omega) (by omega)), pr_byteAt (by omega) hf.1 (by omega), e]
    simp only [Option.bind_some]
    rw [pr_isGap hb, fst1]
    simp only [Option.bind_some]
    cases hg : gapN (tx i) with
    | false => rw [if_pos bI_f, if_pos (by decide)]
    | true =>
      rw [if_neg (by decide), if_neg (by decide), nI_1]
      exact pr_adv8 hf d (i + 1) k (by omega) (by omega)
theorem pr_adv80 {f : Nat → Int32} {tx : Nat → Nat} {len : Nat} (hf : txR f tx len) : ∀ (d i k : Nat), i + d = len → d < k → mX10_advance_L80 (nI len) 300 f k (nI i) = some (nI (fst1 (fun q => gapN (tx q) || mrkN (tx q)) d i))
  | _, _, 0, _, hk => absurd hk (Nat.not_lt_zero _)
  | 0, i, k + 1, h, _ => by
    have h3 := hf.1
    rw [mX10_advance_L80, mX6_size]
    simp only [Option.bind_some]
    rw [if_pos (nI_le (by omega) (by omega))]
    rfl
  | d + 1, i, k + 1, h, hk => by
    have h3 := hf.1
    obtain ⟨e, hb⟩ := hf.2 i (by omega)
    rw [mX10_advance_L80, mX6_size]
    simp only [Option.bind_some]
    rw [if_neg (nI_ge (by omega) (by omega)), pr_byteAt (by omega) hf.1 (by omega), e]
    simp only [Option.bind_some]
    rw [pr_isGap hb, fst1]
    simp only [Option.bind_some]
    cases hg : gapN (tx i) with
    | true => rw [if_neg (by decide), if_pos (by rfl)]
    | false =>
      rw [if_pos bI_f, pr_isSignB hb]
      simp only [Option.bind_some]
      cases hm : mrkN (tx i) with
      | true => rw [if_neg (by decide), if_pos (by rfl)]
      | false =>
        rw [if_pos bI_f, if_neg (by decide), nI_1]
        exact pr_adv80 hf d (i + 1) k (by omega) (by omega)
theorem pr_anySign {f : Nat → Int32} {tx : Nat → Nat} {len i : Nat} (hf : txR f tx len) (hi : i ≤ len) : mX10_isAnySign 300 f (nI len) (nI i) = some (bI (decide (i < len) && mrkN (tx i))) := by
  have h3 := hf.1
  rw [mX10_isAnySign]
  by_cases h : i < len
  · obtain ⟨e, hb⟩ := hf.2 i h
    rw [pr_byteAt h hf.1 (by omega), e]
    simp only [Option.bind_some]
    rw [pr_isSignB hb, decide_eq_true h, Bool.true_and]
    simp only [Option.bind_some]
    rw [if_neg (bI_nn _)]
  · rw [pr_byteAt0 (by omega) (by omega), decide_eq_false h, Bool.false_and]
    rfl
theorem pr_sign {f : Nat → Int32} {tx : Nat → Nat} {len i s : Nat} (hf : txR f tx len) (hi : i ≤ len) (hs : 0 < s) (hs2 : s < 1000) : mX10_isSign 300 f (nI len) (nI i) (nI s) = some (bI (decide (i < len) && decide (tx i = s))) := by
  have h3 := hf.1
  rw [mX10_isSign]
  by_cases h : i < len
  · obtain ⟨e, hb⟩ := hf.2 i h
    rw [pr_byteAt h hf.1 (by omega), e, decide_eq_true h, Bool.true_and]
    simp only [Option.bind_some]
    have h1 : nI (tx i) = nI s ↔ tx i = s := nI_eq (by omega) (by omega)
    by_cases hx : tx i = s
    · rw [if_pos (h1.mpr hx), decide_eq_true hx]
      rfl
    · rw [if_neg (fun z => hx (h1.mp z)), decide_eq_false hx]
      rfl
  · rw [pr_byteAt0 (by omega) (by omega), decide_eq_false h, Bool.false_and]
    simp only [Option.bind_some]
    rw [if_neg (fun z => nI_ne0 hs (by omega) z.symm)]
    rfl
theorem pr_advance {f : Nat → Int32} {tx : Nat → Nat} {len e k : Nat} (hf : txR f tx len) (he : e ≤ len) (hk : 301 < k) : mX10_advance k 300 f (nI len) (nI e) = some (nI (nbw tx len e), nI (wew tx len (nbw tx len e))) := by
  have h3 := hf.1
  have hn := nbw_le (tx := tx) he
  have e1 : mX10_advance_L8 (nI len) 300 f k (nI e) = some (nI (nbw tx len e)) := pr_adv8 hf (len - e) e k (by omega) (by omega)
  rw [mX10_advance, e1, mX6_size]
  simp only [Option.bind_some]
  rw [pr_anySign hf hn.2, nI_1]
  simp only [Option.bind_some]
  generalize nbw tx len e = i at hn
  by_cases hi : i < len
  · rw [if_neg (nI_nlt (by omega) (by omega)), decide_eq_true hi, Bool.true_and]
    unfold wew
    rw [if_neg (show ¬ len ≤ i by omega)]
    cases hm : mrkN (tx i) with
    | true =>
      rw [if_neg (by decide), if_pos rfl]
    | false =>
      rw [if_pos bI_f, if_neg (by decide), pr_adv80 hf (len - (i + 1)) (i + 1) k (by omega) (by omega)]
      rfl
  · have hil : i = len := by omega
    rw [if_pos (nI_lt (by omega) (by omega)), decide_eq_false hi, Bool.false_and, if_pos bI_f, pr_adv80 hf 0 len k (by omega) (by omega), hil, wew_len]
    rfl
theorem pr_isEnd {len i : Nat} (hl : len ≤ 300) (hi : i ≤ len) : mX10_isEnd (nI len) (nI i) = some (bI (decide (i = len))) := by
  rw [mX10_isEnd, mX6_size]
  simp only [Option.bind_some]
  by_cases h : i < len
  · rw [if_pos (nI_lt h (by omega)), decide_eq_false (by omega)]
    rfl
  · rw [if_neg (nI_nlt (by omega) (by omega)), decide_eq_true (by omega)]
    rfl
/-! the reference splits the text into words -/
theorem pr_sp32 {f : Nat → Int32} {tx : Nat → Nat} {len b : Nat} (hf : txR f tx len) (hb : b < len) (hm : mrkN (tx b) = false) : ∀ (d i k : Nat), i + d = len → d < k → mX13_splits_L32 (nI b) f (nI len) k (nI i) = some (nI (fst1 (fun q => gapN (tx q) || mrkN (tx q)) d i))
  | _, _, 0, _, hk => absurd hk (Nat.not_lt_zero _)
  | 0, i, k + 1, h, _ => by
    have h3 := hf.1
    obtain ⟨e, hbb⟩ := hf.2 b hb
    rw [mX13_splits_L32, if_neg (nI_in (show b < 300 by omega) (by omega)), nI_clamp (show b < 2 ^ 31 by omega), e, pr_isMark hbb, hm]
    simp only [Option.bind_some]
    rw [if_pos bI_f, if_pos (nI_le (by omega) (by omega))]
    rfl
  | d + 1, i, k + 1, h, hk => by
    have h3 := hf.1
    obtain ⟨e, hbb⟩ := hf.2 b hb
    obtain ⟨e2, hb2⟩ := hf.2 i (by omega)
    rw [mX13_splits_L32, if_neg (nI_in (show b < 300 by omega) (by omega)), nI_clamp (show b < 2 ^ 31 by omega), e, pr_isMark hbb, hm]
    simp only [Option.bind_some]
    rw [if_pos bI_f, if_neg (nI_ge (by omega) (by omega)), if_neg (nI_in (show i < 300 by omega) (by omega)), nI_clamp (show i < 2 ^ 31 by omega), e2, pr_isBlank hb2, fst1]
    simp only [Option.bind_some]
    cases hg : gapN (tx i) with
    | true => rw [if_neg (by decide), if_pos (by rfl)]
    | false =>
      rw [if_pos bI_f, if_neg (nI_in2 (show i < 300 by omega) (by omega)), pr_isMark hb2]
      simp only [Option.bind_some]
      cases hm2 : mrkN (tx i) with
      | true => rw [if_neg (by decide), if_pos (by rfl)]
      | false =>
        rw [if_pos bI_f, if_neg (by decide), nI_1]
        exact pr_sp32 hf hb hm d (i + 1) k (by omega) (by omega)
theorem pr_spW {f : Nat → Int32} {tx : Nat → Nat} {len b k : Nat} (hf : txR f tx len) (hb : b < len) (hk : 301 < k) : mX13_splits_L32 (nI b) f (nI len) k (nI b + 1) = some (nI (wew tx len b)) := by
  have h3 := hf.1
  obtain ⟨e, hbb⟩ := hf.2 b hb
  unfold wew
  rw [if_neg (show ¬ len ≤ b by omega), nI_1]
  cases hm : mrkN (tx b) with
  | true =>
    obtain ⟨k9, rfl⟩ : ∃ k9, k = k9 + 1 := ⟨k - 1, by omega⟩
    rw [if_pos rfl, mX13_splits_L32, if_neg (nI_in (show b < 300 by omega) (by omega)), nI_clamp (show b < 2 ^ 31 by omega), e, pr_isMark hbb, hm]
    simp only [Option.bind_some]
    rw [if_neg (by decide)]
  | false =>
    rw [if_neg (by decide)]
    exact pr_sp32 hf hb hm (len - (b + 1)) (b + 1) k (by omega) (by omega)
/-- the table of words -/
def wdR (tx : Nat → Nat) (len nw : Nat) (bs es : Nat → Int32) : Prop := nw ≤ len ∧ WB tx len nw = len ∧ (∀ q, q < nw → WB tx len q < len) ∧ ∀ q, q < nw → bs q = nI (WB tx len q) ∧ es q = nI (WE tx len q)
theorem pr_sp7 {f : Nat → Int32} {tx : Nat → Nat} {len K : Nat} (hf : txR f tx len) (hK : 301 < K) : ∀ (k i j : Nat) (bs es : Nat → Int32), len - i < k → i ≤ len → j ≤ i → nbw tx len i = WB tx len j → (∀ q, q < j → WB tx len q < len) → (∀ q, q < j → bs q = nI (WB tx len q) ∧ es q = nI (WE tx len q)) → ∃ nw bs2 es2, mX13_splits_L7 (nI len) f K k (nI i) (nI j) bs es = some (nI nw, bs2, es2) ∧ wdR tx len nw bs2 es2
  | 0, i, j, bs, es, h, _, _, _, _, _ => absurd h (Nat.not_lt_zero _)
  | k + 1, i, j, bs, es, h, hi, hji, hnb, hlt, hq => by
    have h3 := hf.1
    by_cases hil : i < len
    · obtain ⟨e, hb⟩ := hf.2 i hil
      rw [mX13_splits_L7, if_neg (nI_ge hil (by omega)), if_neg (nI_in (show i < 300 by omega) (by omega)), nI_clamp (show i < 2 ^ 31 by omega), e, pr_isBlank hb]
      simp only [Option.bind_some]
      cases hg : gapN (tx i) with
      | true =>
        rw [if_neg (by decide), nI_1]
        exact pr_sp7 hf hK k (i + 1) j bs es (by omega) (by omega) (by omega) (by rw [← nbw_gap hil hg]; exact hnb) hlt hq
      | false =>
        have hself := nbw_self hil hg
        have hWi : WB tx len j = i := by rw [← hnb, hself]
        have hwe := wew_le (tx := tx) hil
        rw [if_pos bI_f, pr_spW hf hil hK]
        simp only [Option.bind_some]
        rw [if_neg (nI_in (show j < 300 by omega) (by omega)), if_neg (nI_in (show j < 300 by omega) (by omega)), nI_clamp (show j < 2 ^ 31 by omega), nI_1]
        refine pr_sp7 hf hK k (wew tx len i) (j + 1) _ _ (by omega) hwe.2 (by omega) (by show _ = nbw tx len (wew tx len (WB tx len j)); rw [hWi]) (fun q hq2 => ?_) (fun q hq2 => ?_)
        · by_cases hqj : q = j
          · rw [hqj, hWi]
            exact hil
          · exact hlt q (by omega)
        · by_cases hqj : q = j
          · rw [hqj, pk_us, pk_us, hWi]
            refine ⟨rfl, ?_⟩
            unfold WE
            rw [hWi]
          · rw [pk_un hqj, pk_un hqj]
            exact hq q (by omega)
    · have hie : i = len := by omega
      rw [mX13_splits_L7, if_pos (nI_le (by omega) (by omega))]
      exact ⟨j, bs, es, rfl, by omega, by rw [← hnb, hie, nbw_len], hlt, hq⟩
theorem pr_splits {f : Nat → Int32} {tx : Nat → Nat} {len k : Nat} {bs es : Nat → Int32} (hf : txR f tx len) (hk : 301 < k) : ∃ nw bs2 es2, mX13_splits k f (nI len) bs es = some (bs2, es2, nI nw) ∧ wdR tx len nw bs2 es2 := by
  have h3 := hf.1
  obtain ⟨nw, bs2, es2, e, h⟩ := pr_sp7 hf hk k 0 0 bs es (by omega) (Nat.zero_le _) (Nat.le_refl _) rfl (fun q hq => absurd hq (Nat.not_lt_zero _)) (fun q hq => absurd hq (Nat.not_lt_zero _))
  have e' : mX13_splits_L7 (nI len) f k k 0 0 bs es = _ := e
  refine ⟨nw, bs2, es2, ?_, h⟩
  rw [mX13_splits, e']
  rfl
