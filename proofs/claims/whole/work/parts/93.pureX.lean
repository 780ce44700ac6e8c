/-! pure: an argument on both sides -/
theorem wlt {tx : Nat → Nat} {len nw w : Nat} {bs es : Nat → Int32} (h : wdR tx len nw bs es) (hw : w ≤ nw) : WB tx len w < len ↔ w < nw := by
  constructor
  · intro h1
    rcases Nat.lt_or_eq_of_le hw with h2 | h2
    · exact h2
    · rw [h2, h.2.1] at h1
      exact absurd h1 (Nat.lt_irrefl _)
  · intro h1
    exact h.2.2.1 w h1
theorem WE_le (tx : Nat → Nat) (len w : Nat) : WB tx len w ≤ WE tx len w ∧ WE tx len w ≤ len := wew_le2 (WB_le tx len w)
/-- a mark stands at a word -/
def mk (tx : Nat → Nat) (len nw w m : Nat) : Bool := decide (w < nw) && decide (tx (WB tx len w) = m)
def anyMk (tx : Nat → Nat) (len nw w : Nat) : Bool := decide (w < nw) && mrkN (tx (WB tx len w))
theorem pr_rmk {tx : Nat → Nat} {len nw w m : Nat} {fr bs es : Nat → Int32} (hr : txR fr tx len) (h : wdR tx len nw bs es) (hw : w < 1000) (hm : m < 256) : mX13_isMarkAt fr bs (nI nw) (nI w) (nI m) = some (bI (mk tx len nw w m)) := by
  have h3 := hr.1
  have h4 := h.1
  rw [mX13_isMarkAt, mk]
  by_cases hlt : w < nw
  · have hb := (h.2.2.2 w hlt).1
    have hl := h.2.2.1 w hlt
    obtain ⟨e1, e2⟩ := hr.2 _ hl
    rw [if_neg (nI_ge hlt (by omega)), if_neg (nI_in (show w < 300 by omega) (by omega)), nI_clamp (show w < 2 ^ 31 by omega), hb, if_neg (nI_in (show WB tx len w < 300 by omega) (by omega)), nI_clamp (show WB tx len w < 2 ^ 31 by omega), e1, decide_eq_true hlt, Bool.true_and]
    by_cases hx : tx (WB tx len w) = m
    · rw [if_pos (by rw [hx]), decide_eq_true hx]
      rfl
    · rw [if_neg (fun z => hx ((nI_eq (by omega) (by omega)).mp z)), decide_eq_false hx]
      rfl
  · rw [if_pos (nI_le (by omega) (by omega)), decide_eq_false hlt]
    rfl
theorem pr_cmk {tx : Nat → Nat} {len nw w m : Nat} {f bs es : Nat → Int32} (hf : txR f tx len) (h : wdR tx len nw bs es) (hw : w ≤ nw) (h0 : 0 < m) (hm : m < 256) : mX10_isSign 300 f (nI len) (nI (WB tx len w)) (nI m) = some (bI (mk tx len nw w m)) := by
  rw [pr_sign hf (WB_le tx len w) h0 (by omega), mk]
  rw [decide_eq_decide.mpr (wlt h hw)]
theorem pr_cany {tx : Nat → Nat} {len nw w : Nat} {f bs es : Nat → Int32} (hf : txR f tx len) (h : wdR tx len nw bs es) (hw : w ≤ nw) : mX10_isAnySign 300 f (nI len) (nI (WB tx len w)) = some (bI (anyMk tx len nw w)) := by
  rw [pr_anySign hf (WB_le tx len w), anyMk, decide_eq_decide.mpr (wlt h hw)]
theorem pr_cend {tx : Nat → Nat} {len nw w : Nat} {bs es : Nat → Int32} (hl : len ≤ 300) (h : wdR tx len nw bs es) (hw : w ≤ nw) : mX10_isEnd (nI len) (nI (WB tx len w)) = some (bI (decide (w = nw))) := by
  rw [pr_isEnd hl (WB_le tx len w)]
  have h1 := wlt h hw
  have h2 := WB_le tx len w
  rw [decide_eq_decide.mpr (show WB tx len w = len ↔ w = nw by omega)]
theorem pr_adv {tx : Nat → Nat} {len w k : Nat} {f : Nat → Int32} (hf : txR f tx len) (hk : 301 < k) : mX10_advance k 300 f (nI len) (nI (WE tx len w)) = some (nI (WB tx len (w + 1)), nI (WE tx len (w + 1))) := pr_advance hf (WE_le tx len w).2 hk
theorem pr_rfailsHere {tx : Nat → Nat} {len nw w : Nat} {bs es : Nat → Int32} {ep : Int32} (h : wdR tx len nw bs es) (hl : len ≤ 300) (hw : w ≤ nw) : mX13_failsHere (nI len) bs (nI nw) (nI w) 0 ep = some (1, nI (WB tx len w)) := by
  have h4 := h.1
  rw [mX13_failsHere]
  by_cases hlt : w < nw
  · rw [if_neg (nI_ge hlt (by omega)), if_neg (nI_in (show w < 300 by omega) (by omega)), nI_clamp (by omega), (h.2.2.2 w hlt).1]
    rfl
  · rw [if_pos (nI_le (by omega) (by omega)), show w = nw by omega, h.2.1]
    rfl
def z10 (tx : Nat → Nat) (len w : Nat) : BitVec 64 := vz (pcN tx (WB tx len w) (WE tx len w)) (pcV 10 tx (WB tx len w) (WE tx len w)) 64
def ok10 (tx : Nat → Nat) (len w : Nat) : Bool := pcOK false 64 10 tx (WB tx len w) (WE tx len w)
def inL (L : Nat) (z : BitVec 64) : Bool := if L = 78 then true else if L = 67 then decide (0 ≤ z.toInt ∧ z.toInt < 8) else if L = 82 then decide (2 ≤ z.toInt ∧ z.toInt ≤ 36) else decide (0 ≤ z.toInt ∧ z.toInt ≤ 50)
def letN (L : Nat) : Prop := L = 67 ∨ L = 78 ∨ L = 82 ∨ L = 84
theorem lg_ltI {z : BitVec 64} {n : Nat} (hn : n < 1000) : (lg_cmp (Int64.ofBitVec z) (lN n) < 0 ↔ z.toInt < n) ∧ (0 < lg_cmp (Int64.ofBitVec z) (lN n) ↔ (n : Int) < z.toInt) ∧ ((0 : Int32) ≤ lg_cmp (Int64.ofBitVec z) (lN n) ↔ (n : Int) ≤ z.toInt) := by
  have e1 : (lN n).toInt = (n : Int) := lN_toInt (by omega)
  have e2 : (Int64.ofBitVec z).toInt = z.toInt := rfl
  refine ⟨?_, ?_, ?_⟩
  · rw [lg_cmp_lt, Int64.lt_iff_toInt_lt, e1, e2]
  · rw [lg_cmp_gt, Int64.lt_iff_toInt_lt, e1, e2]
  · rw [lg_cmp_ge, Int64.le_iff_toInt_le, e1, e2]
theorem pr_isIn {L : Nat} {z : BitVec 64} (hL : letN L) : mX13_isIn (Int64.ofBitVec z) (nI L) = some (bI (inL L z)) := by
  obtain ⟨a0, -, -⟩ := lg_ltI (z := z) (n := 0) (by decide)
  obtain ⟨-, -, a8⟩ := lg_ltI (z := z) (n := 8) (by decide)
  obtain ⟨a2, -, -⟩ := lg_ltI (z := z) (n := 2) (by decide)
  obtain ⟨-, a36, -⟩ := lg_ltI (z := z) (n := 36) (by decide)
  obtain ⟨-, a50, -⟩ := lg_ltI (z := z) (n := 50) (by decide)
  rw [mX13_isIn]
  rcases hL with h | h | h | h <;> subst h
  · have hi : inL 67 z = decide (0 ≤ z.toInt ∧ z.toInt < 8) := rfl
    rw [hi, if_neg (show ¬ nI 67 = 78 by decide), if_pos (show nI 67 = 67 by decide)]
    by_cases h1 : z.toInt < 0
    · rw [if_pos (show lg_cmp (Int64.ofBitVec z) 0 < 0 from a0.mpr h1), decide_eq_false (by omega)]
      rfl
    · rw [if_neg (show ¬ lg_cmp (Int64.ofBitVec z) 0 < 0 from fun y => h1 (a0.mp y))]
      by_cases h2 : 8 ≤ z.toInt
      · rw [if_pos (show (0 : Int32) ≤ lg_cmp (Int64.ofBitVec z) 8 from a8.mpr h2), decide_eq_false (by omega)]
        rfl
      · rw [if_neg (show ¬ (0 : Int32) ≤ lg_cmp (Int64.ofBitVec z) 8 from fun y => h2 (a8.mp y)), decide_eq_true (by omega)]
        rfl
  · rw [if_pos (by decide)]
    rfl
  · have hi : inL 82 z = decide (2 ≤ z.toInt ∧ z.toInt ≤ 36) := rfl
    rw [hi, if_neg (show ¬ nI 82 = 78 by decide), if_neg (show ¬ nI 82 = 67 by decide), if_pos (show nI 82 = 82 by decide)]
    by_cases h1 : z.toInt < 2
    · rw [if_pos (show lg_cmp (Int64.ofBitVec z) 2 < 0 from a2.mpr h1), decide_eq_false (by omega)]
      rfl
    · rw [if_neg (show ¬ lg_cmp (Int64.ofBitVec z) 2 < 0 from fun y => h1 (a2.mp y))]
      by_cases h2 : 36 < z.toInt
      · rw [if_pos (show (0 : Int32) < lg_cmp (Int64.ofBitVec z) 36 from a36.mpr h2), decide_eq_false (by omega)]
        rfl
      · rw [if_neg (show ¬ (0 : Int32) < lg_cmp (Int64.ofBitVec z) 36 from fun y => h2 (a36.mp y)), decide_eq_true (by omega)]
        rfl
  · have hi : inL 84 z = decide (0 ≤ z.toInt ∧ z.toInt ≤ 50) := rfl
    rw [hi, if_neg (show ¬ nI 84 = 78 by decide), if_neg (show ¬ nI 84 = 67 by decide), if_neg (show ¬ nI 84 = 82 by decide)]
    by_cases h1 : z.toInt < 0
    · rw [if_pos (show lg_cmp (Int64.ofBitVec z) 0 < 0 from a0.mpr h1), decide_eq_false (by omega)]
      rfl
    · rw [if_neg (show ¬ lg_cmp (Int64.ofBitVec z) 0 < 0 from fun y => h1 (a0.mp y))]
      by_cases h2 : 50 < z.toInt
      · rw [if_pos (show (0 : Int32) < lg_cmp (Int64.ofBitVec z) 50 from a50.mpr h2), decide_eq_false (by omega)]
        rfl
      · rw [if_neg (show ¬ (0 : Int32) < lg_cmp (Int64.ofBitVec z) 50 from fun y => h2 (a50.mp y)), decide_eq_true (by omega)]
        rfl
theorem pr_range {L : Nat} {z : BitVec 64} (hL : letN L) : ∃ lo hi, mX9_least (nI L) = some lo ∧ mX9_most (nI L) = some hi ∧ ((¬ lg_cmp (Int64.ofBitVec z) lo < 0 ∧ ¬ (0 : Int32) < lg_cmp (Int64.ofBitVec z) hi) ↔ inL L z = true) := by
  obtain ⟨a0, -, -⟩ := lg_ltI (z := z) (n := 0) (by decide)
  obtain ⟨-, a7, -⟩ := lg_ltI (z := z) (n := 7) (by decide)
  obtain ⟨a2, -, -⟩ := lg_ltI (z := z) (n := 2) (by decide)
  obtain ⟨-, a36, -⟩ := lg_ltI (z := z) (n := 36) (by decide)
  obtain ⟨-, a50, -⟩ := lg_ltI (z := z) (n := 50) (by decide)
  have hz := fb_rngL (Int64.ofBitVec z)
  rcases hL with h | h | h | h <;> subst h
  · refine ⟨lN 0, lN 7, by decide, by decide, ?_⟩
    rw [a0, a7, inL, if_neg (by decide), if_pos rfl, decide_eq_true_iff]
    omega
  · refine ⟨-9223372036854775808, 9223372036854775807, by decide, by decide, ?_⟩
    rw [inL, if_pos rfl, lg_cmp_lt, lg_cmp_gt, Int64.lt_iff_toInt_lt, Int64.lt_iff_toInt_lt]
    have h1 : (-9223372036854775808 : Int64).toInt = -9223372036854775808 := by decide
    have h2 : (9223372036854775807 : Int64).toInt = 9223372036854775807 := by decide
    rw [h1, h2]
    constructor
    · intro _
      rfl
    · intro _
      omega
  · refine ⟨lN 2, lN 36, by decide, by decide, ?_⟩
    rw [a2, a36, inL, if_neg (by decide), if_neg (by decide), if_pos rfl, decide_eq_true_iff]
    omega
  · refine ⟨lN 0, lN 50, by decide, by decide, ?_⟩
    rw [a0, a50, inL, if_neg (by decide), if_neg (by decide), if_neg (by decide), decide_eq_true_iff]
    omega
/-- the argument at a word can't be taken at all -/
def noArg (tx : Nat → Nat) (len nw w : Nat) : Prop := w = nw ∨ anyMk tx len nw w = true
theorem ca_no {tx : Nat → Nat} {len nw w k L q : Nat} {f bs es : Nat → Int32} (hf : txR f tx len) (h : wdR tx len nw bs es) (hw : w ≤ nw) (hk : 301 < k) {pf pt : Nat → Int32} {ar : Nat → Nat → Int64} {rv : Int64} {ep p3 : Int32} {i1 : Nat} (hb : noArg tx len nw w) : mX4_parseArgument k 300 pf pt ar f (nI len) (nI (WB tx len w)) (nI (WE tx len w)) rv 0 ep (nI q) p3 i1 = some (pf, pt, ar, nI (WB tx len w), nI (WE tx len w), rv, 1, nI (WB tx len w)) := by
  rw [mX4_parseArgument, if_pos rfl, pr_cend hf.1 h hw]
  simp only [Option.bind_some]
  by_cases he : w = nw
  · rw [decide_eq_true he, if_neg (by decide)]
    rfl
  · rw [decide_eq_false he, if_pos bI_f, pr_cany hf h hw, hb.resolve_left he]
    simp only [Option.bind_some]
    rw [if_neg (by decide)]
    rfl
theorem ca_piece {tx : Nat → Nat} {len nw w k L q : Nat} {f bs es : Nat → Int32} (hf : txR f tx len) (h : wdR tx len nw bs es) (hw : w ≤ nw) (hk : 301 < k) {pf pt : Nat → Int32} {ar : Nat → Nat → Int64} {rv : Int64} {ep : Int32} {i1 : Nat} (hb : ¬ noArg tx len nw w) : mX4_parseArgument k 300 pf pt ar f (nI len) (nI (WB tx len w)) (nI (WE tx len w)) rv 0 ep (nI q) (nI 80) i1 = some (upN pf i1 (nI (WB tx len w)), upN pt i1 (nI (WE tx len w)), ar, nI (WB tx len (w + 1)), nI (WE tx len (w + 1)), rv, 0, ep) := by
  have h1 : anyMk tx len nw w = false := by
    cases hm : anyMk tx len nw w with
    | false => rfl
    | true => exact absurd (Or.inr hm) hb
  rw [mX4_parseArgument, if_pos rfl, pr_cend hf.1 h hw, decide_eq_false (fun z => hb (Or.inl z))]
  simp only [Option.bind_some]
  rw [if_pos bI_f, pr_cany hf h hw, h1]
  simp only [Option.bind_some]
  rw [if_pos bI_f, if_pos (show nI 80 = 80 from rfl), mX7_setPiece]
  simp only [Option.bind_some]
  rw [pr_adv hf hk]
  rfl
theorem ca_bad {tx : Nat → Nat} {len nw w k L q : Nat} {f bs es : Nat → Int32} (hf : txR f tx len) (h : wdR tx len nw bs es) (hw : w ≤ nw) (hk : 301 < k) {pf pt : Nat → Int32} {ar : Nat → Nat → Int64} {rv : Int64} {ep : Int32} {i1 : Nat} (hb : ¬ noArg tx len nw w) (hL : letN L) (hn : (ok10 tx len w && inL L (z10 tx len w)) = false) : ∃ rv2, mX4_parseArgument k 300 pf pt ar f (nI len) (nI (WB tx len w)) (nI (WE tx len w)) rv 0 ep (nI q) (nI L) i1 = some (pf, pt, ar, nI (WB tx len w), nI (WE tx len w), rv2, 2, nI (WB tx len w)) := by
  have h1 : anyMk tx len nw w = false := by
    cases hm : anyMk tx len nw w with
    | false => rfl
    | true => exact absurd (Or.inr hm) hb
  have hL80 : ¬ nI L = 80 := fun z => by
    have hl2 : L < 2 ^ 31 := by rcases hL with hh | hh | hh | hh <;> omega
    have := (nI_eq (a := L) (b := 80) hl2 (by omega)).mp z
    rcases hL with hh | hh | hh | hh <;> omega
  have hc := pr_canRead (b := true) (p := false) (N := 300) (k := k) (r := 10) (v := rv) (WE_le tx len w).1 (WE_le tx len w).2 hf.1 (by omega) (by omega) (fun i hi => (hf.2 i hi).1) (fun i hi => (hf.2 i hi).2)
  have hc' : mX5_canRead k 300 rv f (nI len) (nI (WB tx len w)) (nI (WE tx len w)) 10 0 1 = some (if ok10 tx len w = true then (1, Int64.ofBitVec (z10 tx len w)) else (0, rv)) := hc
  rw [mX4_parseArgument, if_pos rfl, pr_cend hf.1 h hw, decide_eq_false (fun z => hb (Or.inl z))]
  simp only [Option.bind_some]
  rw [if_pos bI_f, pr_cany hf h hw, h1]
  simp only [Option.bind_some]
  rw [if_pos bI_f, if_neg hL80, hc']
  simp only [Option.bind_some]
  cases hok : ok10 tx len w with
  | false =>
    simp only [Bool.false_eq_true, if_false, if_true]
    exact ⟨rv, rfl⟩
  | true =>
    rw [hok, Bool.true_and] at hn
    obtain ⟨lo, hi, e1, e2, e3⟩ := pr_range (z := z10 tx len w) hL
    simp only [if_true, e10, if_false]
    rw [e1]
    simp only [Option.bind_some]
    by_cases hlo : lg_cmp (Int64.ofBitVec (z10 tx len w)) lo < 0
    · rw [if_pos hlo]
      exact ⟨_, rfl⟩
    · rw [if_neg hlo, e2]
      simp only [Option.bind_some]
      rw [if_pos (Decidable.byContradiction (fun z => by
        have := e3.mp ⟨hlo, z⟩
        rw [hn] at this
        cases this))]
      exact ⟨_, rfl⟩
theorem ca_ok {tx : Nat → Nat} {len nw w k L q : Nat} {f bs es : Nat → Int32} (hf : txR f tx len) (h : wdR tx len nw bs es) (hw : w ≤ nw) (hk : 301 < k) {pf pt : Nat → Int32} {ar : Nat → Nat → Int64} {rv : Int64} {ep : Int32} {i1 : Nat} (hb : ¬ noArg tx len nw w) (hL : letN L) (hq : q < 3) (hn : (ok10 tx len w && inL L (z10 tx len w)) = true) : mX4_parseArgument k 300 pf pt ar f (nI len) (nI (WB tx len w)) (nI (WE tx len w)) rv 0 ep (nI q) (nI L) i1 = some (pf, pt, upN ar i1 (vp_updL (ar i1) q (Int64.ofBitVec (z10 tx len w))), nI (WB tx len (w + 1)), nI (WE tx len (w + 1)), Int64.ofBitVec (z10 tx len w), 0, ep) := by
  have h1 : anyMk tx len nw w = false := by
    cases hm : anyMk tx len nw w with
    | false => rfl
    | true => exact absurd (Or.inr hm) hb
  have hL80 : ¬ nI L = 80 := fun z => by
    have hl2 : L < 2 ^ 31 := by rcases hL with hh | hh | hh | hh <;> omega
    have := (nI_eq (a := L) (b := 80) hl2 (by omega)).mp z
    rcases hL with hh | hh | hh | hh <;> omega
  rw [Bool.and_eq_true] at hn
  have hc := pr_canRead (b := true) (p := false) (N := 300) (k := k) (r := 10) (v := rv) (WE_le tx len w).1 (WE_le tx len w).2 hf.1 (by omega) (by omega) (fun i hi => (hf.2 i hi).1) (fun i hi => (hf.2 i hi).2)
  have hc' : mX5_canRead k 300 rv f (nI len) (nI (WB tx len w)) (nI (WE tx len w)) 10 0 1 = some (if ok10 tx len w = true then (1, Int64.ofBitVec (z10 tx len w)) else (0, rv)) := hc
  obtain ⟨lo, hi, e1, e2, e3⟩ := pr_range (z := z10 tx len w) hL
  obtain ⟨e4, e5⟩ := e3.mpr hn.2
  rw [mX4_parseArgument, if_pos rfl, pr_cend hf.1 h hw, decide_eq_false (fun z => hb (Or.inl z))]
  simp only [Option.bind_some]
  rw [if_pos bI_f, pr_cany hf h hw, h1]
  simp only [Option.bind_some]
  rw [if_pos bI_f, if_neg hL80, hc', if_pos hn.1]
  simp only [Option.bind_some, e10, if_false]
  rw [e1]
  simp only [Option.bind_some]
  rw [if_neg e4, e2]
  simp only [Option.bind_some]
  rw [if_neg e5, mX7_setArgument, if_neg (nI_pos (by omega)), if_neg (show ¬ (3 : Int32) ≤ nI q from nI_ge (b := 3) hq (by omega)), if_neg (nI_in hq (by omega)), nI_clamp (by omega)]
  simp only [Option.bind_some]
  rw [pr_adv hf hk]
  rfl
theorem ra_no {tx : Nat → Nat} {len nw w k L : Nat} {fr bs es : Nat → Int32} (hr : txR fr tx len) (h : wdR tx len nw bs es) (hw : w ≤ nw) (hk : 301 < k) {fd : Nat → Int32} {vs : Nat → Int64} {ep p1 : Int32} (hb : noArg tx len nw w) : mX13_operand k fd fr (nI len) bs es vs (nI nw) (nI w) 0 ep p1 = some (fd, vs, nI w, 1, nI (WB tx len w)) := by
  have h3 := hr.1
  have h4 := h.1
  have e31 : mX13_operand_j31 (nI len) bs (nI nw) (nI w) 0 ep fd vs = some (fd, vs, nI w, 1, nI (WB tx len w)) := by
    rw [mX13_operand_j31, pr_rfailsHere h hr.1 hw]
    rfl
  rw [mX13_operand]
  by_cases he : w = nw
  · rw [if_pos (by rw [he]), e31]
  · have hlt : w < nw := by omega
    have hl := h.2.2.1 w hlt
    obtain ⟨e1, e2⟩ := hr.2 _ hl
    have hm := hb.resolve_left he
    rw [anyMk, decide_eq_true hlt, Bool.true_and] at hm
    rw [if_neg (fun z => he ((nI_eq (by omega) (by omega)).mp z)), if_neg (nI_in (show w < 300 by omega) (by omega)), nI_clamp (show w < 2 ^ 31 by omega), (h.2.2.2 w hlt).1, if_neg (nI_in (show WB tx len w < 300 by omega) (by omega)), nI_clamp (show WB tx len w < 2 ^ 31 by omega), e1, pr_isMark e2, hm]
    simp only [Option.bind_some]
    rw [if_neg (by decide), e31]
theorem ra_piece {tx : Nat → Nat} {len nw w k L : Nat} {fr bs es : Nat → Int32} (hr : txR fr tx len) (h : wdR tx len nw bs es) (hw : w ≤ nw) (hk : 301 < k) {fd : Nat → Int32} {vs : Nat → Int64} {ep : Int32} (hb : ¬ noArg tx len nw w) : mX13_operand k fd fr (nI len) bs es vs (nI nw) (nI w) 0 ep (nI 80) = some (fd, vs, nI (w + 1), 0, ep) := by
  have h3 := hr.1
  have h4 := h.1
  have he : ¬ w = nw := fun z => hb (Or.inl z)
  have hlt : w < nw := by omega
  have hl := h.2.2.1 w hlt
  obtain ⟨e1, e2⟩ := hr.2 _ hl
  have hm : mrkN (tx (WB tx len w)) = false := by
    cases hx : mrkN (tx (WB tx len w)) with
    | false => rfl
    | true => exact absurd (Or.inr (by rw [anyMk, decide_eq_true hlt, hx]; rfl)) hb
  rw [mX13_operand, if_neg (fun z => he ((nI_eq (by omega) (by omega)).mp z)), if_neg (nI_in (show w < 300 by omega) (by omega)), nI_clamp (show w < 2 ^ 31 by omega), (h.2.2.2 w hlt).1, if_neg (nI_in (show WB tx len w < 300 by omega) (by omega)), nI_clamp (show WB tx len w < 2 ^ 31 by omega), e1, pr_isMark e2, hm]
  simp only [Option.bind_some]
  rw [if_pos bI_f, if_pos (show nI 80 = 80 from rfl)]
  simp only [Option.bind_some]
  rw [nI_1]
theorem ra_val {tx : Nat → Nat} {len nw w k L : Nat} {fr bs es : Nat → Int32} (hr : txR fr tx len) (h : wdR tx len nw bs es) (hw : w ≤ nw) (hk : 301 < k) {fd : Nat → Int32} {vs : Nat → Int64} {ep : Int32} (hb : ¬ noArg tx len nw w) (hL : letN L) : ∃ fd2 vs2, mX13_operand k fd fr (nI len) bs es vs (nI nw) (nI w) 0 ep (nI L) = some (fd2, vs2, nI (w + 1), if (ok10 tx len w && inL L (z10 tx len w)) = true then 0 else 2, if (ok10 tx len w && inL L (z10 tx len w)) = true then ep else nI (WB tx len w)) ∧ ((ok10 tx len w && inL L (z10 tx len w)) = true → vs2 = vp_updL vs w (Int64.ofBitVec (z10 tx len w))) := by
  have h3 := hr.1
  have h4 := h.1
  have he : ¬ w = nw := fun z => hb (Or.inl z)
  have hlt : w < nw := by omega
  have hl := h.2.2.1 w hlt
  obtain ⟨e1, e2⟩ := hr.2 _ hl
  have hm : mrkN (tx (WB tx len w)) = false := by
    cases hx : mrkN (tx (WB tx len w)) with
    | false => rfl
    | true => exact absurd (Or.inr (by rw [anyMk, decide_eq_true hlt, hx]; rfl)) hb
  have hL80 : ¬ nI L = 80 := fun z => by
    have hl2 : L < 2 ^ 31 := by rcases hL with hh | hh | hh | hh <;> omega
    have := (nI_eq (a := L) (b := 80) hl2 (by omega)).mp z
    rcases hL with hh | hh | hh | hh <;> omega
  obtain ⟨fd2, e3, h5⟩ := pr_finds_x (p := false) (W := 64) (k := k) (r := 10) (fr := fr) (found := fd) (g := tx) (by decide) (by decide) (WE_le tx len w).1 (by have := (WE_le tx len w).2; omega) (by omega) (fun i hi => (hr.2 i (by have := (WE_le tx len w).2; omega)).1) (fun i hi => (hr.2 i (by have := (WE_le tx len w).2; omega)).2)
  have e3' : mX12_finds_x k fd fr (nI (WB tx len w)) (nI (WE tx len w)) 10 0 64 = some (bI (ok10 tx len w), fd2) := e3
  have efl : mX13_fails 0 ep 2 (nI (WB tx len w)) = some (2, nI (WB tx len w)) := rfl
  have hb2 := h.2.2.2 w hlt
  rw [mX13_operand, if_neg (fun z => he ((nI_eq (by omega) (by omega)).mp z)), if_neg (nI_in (show w < 300 by omega) (by omega)), nI_clamp (show w < 2 ^ 31 by omega), hb2.1, if_neg (nI_in (show WB tx len w < 300 by omega) (by omega)), nI_clamp (show WB tx len w < 2 ^ 31 by omega), e1, pr_isMark e2, hm]
  simp only [Option.bind_some]
  rw [if_pos bI_f, if_neg hL80, if_neg (nI_in2 (show w < 300 by omega) (by omega)), if_neg (nI_in2 (show w < 300 by omega) (by omega)), hb2.2, e3']
  simp only [Option.bind_some]
  cases hok : ok10 tx len w with
  | false =>
    rw [if_pos bI_f]
    simp only [Option.bind_some]
    rw [if_neg (nI_in2 (show w < 300 by omega) (by omega)), if_pos bI_f]
    rw [if_neg (nI_in2 (show w < 300 by omega) (by omega)), efl]
    simp only [Option.bind_some]
    rw [nI_1]
    exact ⟨_, _, rfl, fun z => by cases z⟩
  | true =>
    have h6 := h5 hok
    have e4 : mX12_told_f k fd2 64 = some (Int64.ofBitVec (z10 tx len w)) := by
      have h7 := pr_toldf (k := k) h6 (by decide) (by decide) (by omega)
      rw [lN_bv64] at h7
      have h8 : (z10 tx len w).signExtend 64 = z10 tx len w := BitVec.signExtend_eq _
      have h9 : mX12_told_f k fd2 64 = some (Int64.ofBitVec ((z10 tx len w).signExtend 64)) := h7
      rw [h9, h8]
    rw [if_neg (by decide), e4]
    simp only [Option.bind_some]
    rw [if_neg (nI_in2 (show w < 300 by omega) (by omega)), if_neg (by decide), if_neg (nI_in2 (show w < 300 by omega) (by omega)), pk_uLs, pr_isIn hL]
    simp only [Option.bind_some]
    cases hin : inL L (z10 tx len w) with
    | false =>
      rw [if_pos bI_f]
      rw [if_neg (nI_in2 (show w < 300 by omega) (by omega)), efl]
      simp only [Option.bind_some]
      rw [nI_1]
      exact ⟨_, _, rfl, fun z => by cases z⟩
    | true =>
      rw [if_neg (by decide)]
      simp only [Option.bind_some]
      rw [nI_1]
      exact ⟨_, _, rfl, fun _ => rfl⟩
