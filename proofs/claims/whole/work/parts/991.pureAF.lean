/-! pure: programs: the reference's two skips -/
theorem mk_any {tx : Nat → Nat} {len nw w m : Nat} (hm : mrkN m = true) (h : mk tx len nw w m = true) : noArg tx len nw w := by
  rw [mk, Bool.and_eq_true] at h
  refine Or.inr ?_
  rw [anyMk, h.1, of_decide_eq_true h.2, hm]
  rfl
theorem hd_mk {tx : Nat → Nat} {len nw s w v m : Nat} {A : SA} {vs : Nat → Int64} (hm : mrkN m = true) (h : hdA tx len nw A vs s w v) : ∀ q, q < 1 + alen v → mk tx len nw (w + q) m = false := by
  intro q hq
  cases hx : mk tx len nw (w + q) m with
  | false => rfl
  | true =>
    exfalso
    by_cases h0 : q = 0
    · subst h0
      have h1 := mk_one hm hx
      exact h1 (by rw [show w + 0 = w from rfl, h.2.2.1]; exact h.2.1)
    · have h1 := (h.2.2.2.2.2 (q - 1) (by omega)).1
      have e : w + 1 + (q - 1) = w + q := by omega
      rw [e] at h1
      exact h1 (mk_any hm hx)
theorem pr_L75 {tx : Nat → Nat} {len nw : Nat} {fr bs es : Nat → Int32} (hr : txR fr tx len) (h : wdR tx len nw bs es) : ∀ (d w k : Nat), d < k → w + d < nw → (∀ q, q < d → mk tx len nw (w + q) 59 = false) → mk tx len nw (w + d) 59 = true → mX13_runStatementF_L75 fr bs (nI nw) k (nI w) = some (nI (w + d))
  | _, _, 0, h1, _, _, _ => absurd h1 (Nat.not_lt_zero _)
  | 0, w, k + 1, h1, h2, h3, h4 => by
    have h5 := hr.1
    have h6 := h.1
    have e : mX13_isMarkAt fr bs (nI nw) (nI w) 59 = some (bI (mk tx len nw w 59)) := pr_rmk (m := 59) hr h (by omega) (by decide)
    have h4' : mk tx len nw w 59 = true := h4
    rw [mX13_runStatementF_L75, e, h4', Option.bind_some, if_neg (show ¬ bI true = 0 by decide)]
    rfl
  | d + 1, w, k + 1, h1, h2, h3, h4 => by
    have h5 := hr.1
    have h6 := h.1
    have e : mX13_isMarkAt fr bs (nI nw) (nI w) 59 = some (bI (mk tx len nw w 59)) := pr_rmk (m := 59) hr h (by omega) (by decide)
    have h3' : mk tx len nw w 59 = false := h3 0 (by omega)
    have e2 : w + 1 + d = w + (d + 1) := by omega
    have ih := pr_L75 hr h d (w + 1) k (by omega) (by omega) (fun q hq => by have := h3 (q + 1) (by omega); rw [show w + 1 + q = w + (q + 1) by omega]; exact this) (by rw [e2]; exact h4)
    rw [mX13_runStatementF_L75, e, h3', Option.bind_some, if_pos bI_f, nI_1, ih, e2]
theorem nI_m1 (c : Nat) : nI (c + 1) + (-1) = nI c := by
  rw [← nI_1, Int32.add_assoc, show (1 : Int32) + (-1) = 0 from by decide, Int32.add_zero]
theorem sk_0 {tx : Nat → Nat} {len nw w c K : Nat} {fr bs es : Nat → Int32} (hr : txR fr tx len) (h : wdR tx len nw bs es) (hw : w < 1000) (hc : c < 1000) (h1 : mk tx len nw w 123 = false) (h2 : mk tx len nw w 125 = false) : mX13_skipsBlock_L4 fr bs (nI nw) (K + 1) (nI (c + 1)) 1 (nI w) = mX13_skipsBlock_L4 fr bs (nI nw) K (nI (c + 1)) 1 (nI (w + 1)) := by
  have e1 : mX13_isMarkAt fr bs (nI nw) (nI w) 123 = some (bI (mk tx len nw w 123)) := pr_rmk (m := 123) hr h hw (by decide)
  have e2 : mX13_isMarkAt fr bs (nI nw) (nI w) 125 = some (bI (mk tx len nw w 125)) := pr_rmk (m := 125) hr h hw (by decide)
  rw [mX13_skipsBlock_L4, if_neg (show ¬ (1 : Int32) = 0 by decide), e1, h1, Option.bind_some, if_pos bI_f, e2, h2, Option.bind_some, if_pos bI_f, Option.bind_some, Int32.add_zero, if_neg (show ¬ nI (c + 1) ≤ (0 : Int32) from nI_ge (a := 0) (by omega) (by omega)), Option.bind_some, nI_1]
theorem sk_1 {tx : Nat → Nat} {len nw w c K : Nat} {fr bs es : Nat → Int32} (hr : txR fr tx len) (h : wdR tx len nw bs es) (hw : w < 1000) (hc : c < 1000) (h1 : mk tx len nw w 123 = true) : mX13_skipsBlock_L4 fr bs (nI nw) (K + 1) (nI c) 1 (nI w) = mX13_skipsBlock_L4 fr bs (nI nw) K (nI (c + 1)) 1 (nI (w + 1)) := by
  have e1 : mX13_isMarkAt fr bs (nI nw) (nI w) 123 = some (bI (mk tx len nw w 123)) := pr_rmk (m := 123) hr h hw (by decide)
  rw [mX13_skipsBlock_L4, if_neg (show ¬ (1 : Int32) = 0 by decide), e1, h1, Option.bind_some, if_neg (show ¬ bI true = 0 by decide), Option.bind_some, nI_1, if_neg (show ¬ nI (c + 1) ≤ (0 : Int32) from nI_ge (a := 0) (by omega) (by omega)), Option.bind_some, nI_1]
theorem sk_2 {tx : Nat → Nat} {len nw w c K : Nat} {fr bs es : Nat → Int32} (hr : txR fr tx len) (h : wdR tx len nw bs es) (hw : w < 1000) (hc : c < 1000) (h1 : mk tx len nw w 123 = false) (h2 : mk tx len nw w 125 = true) : mX13_skipsBlock_L4 fr bs (nI nw) (K + 1) (nI (c + 1)) 1 (nI w) = mX13_skipsBlock_L4 fr bs (nI nw) K (nI c) (if c = 0 then 0 else 1) (nI (w + 1)) := by
  have e1 : mX13_isMarkAt fr bs (nI nw) (nI w) 123 = some (bI (mk tx len nw w 123)) := pr_rmk (m := 123) hr h hw (by decide)
  have e2 : mX13_isMarkAt fr bs (nI nw) (nI w) 125 = some (bI (mk tx len nw w 125)) := pr_rmk (m := 125) hr h hw (by decide)
  rw [mX13_skipsBlock_L4, if_neg (show ¬ (1 : Int32) = 0 by decide), e1, h1, Option.bind_some, if_pos bI_f, e2, h2, Option.bind_some, if_neg (show ¬ bI true = 0 by decide), Option.bind_some, nI_m1]
  by_cases h0 : c = 0
  · rw [if_pos h0, h0, if_pos (show nI 0 ≤ (0 : Int32) by decide), Option.bind_some, nI_1]
  · rw [if_neg h0, if_neg (show ¬ nI c ≤ (0 : Int32) from nI_ge (a := 0) (by omega) (by omega)), Option.bind_some, nI_1]
theorem mk_two {tx : Nat → Nat} {len nw w m m2 : Nat} (hne : m ≠ m2) (h : mk tx len nw w m = true) : mk tx len nw w m2 = false := by
  rw [mk, Bool.and_eq_true] at h
  rw [mk, of_decide_eq_true h.2, decide_eq_false hne, Bool.and_false]
/-- words that are no braces -/
theorem sk_many {tx : Nat → Nat} {len nw c : Nat} {fr bs es : Nat → Int32} (hr : txR fr tx len) (h : wdR tx len nw bs es) (hc : c < 1000) : ∀ (d w K : Nat), w + d ≤ 1000 → (∀ q, q < d → mk tx len nw (w + q) 123 = false ∧ mk tx len nw (w + q) 125 = false) → mX13_skipsBlock_L4 fr bs (nI nw) (K + d) (nI (c + 1)) 1 (nI w) = mX13_skipsBlock_L4 fr bs (nI nw) K (nI (c + 1)) 1 (nI (w + d))
  | 0, _, _, _, _ => rfl
  | d + 1, w, K, h1, h2 => by
    have h3 := h2 0 (by omega)
    have ih := sk_many hr h hc d (w + 1) K (by omega) (fun q hq => by have := h2 (q + 1) (by omega); rw [show w + 1 + q = w + (q + 1) by omega]; exact this)
    have e1 : K + (d + 1) = K + d + 1 := rfl
    have e2 : w + 1 + d = w + (d + 1) := by omega
    rw [e1, sk_0 (w := w) hr h (by omega) hc h3.1 h3.2, ih, e2]
theorem sk_blk {tx : Nat → Nat} {len nw : Nat} {fr bs es : Nat → Int32} {A : SA} {vs : Nat → Int64} (hr : txR fr tx len) (h : wdR tx len nw bs es) : ∀ (n d s t w u c K : Nat), Blk tx len nw A vs n d s t w u → u ≤ nw → c + n < 900 → mX13_skipsBlock_L4 fr bs (nI nw) (K + (u - w)) (nI (c + 1)) 1 (nI w) = mX13_skipsBlock_L4 fr bs (nI nw) K (nI (c + 1)) 1 (nI u)
  | 0, _, _, _, _, _, _, _, hB, _, _ => hB.elim
  | n + 1, d, s, t, w, u, c, K, hB, hu, hc => by
    have h5 := hr.1
    have h6 := h.1
    rcases hB with ⟨h1, h2⟩ | ⟨s2, w2, ⟨g1, g2, g3, v, g4, g5⟩, h2⟩
    · rw [h2, Nat.sub_self]
      rfl
    · have hle := Blk.le n d s2 t w2 u h2
      have ih := sk_blk hr h n d s2 t w2 u c K h2 hu (by omega)
      rcases g5 with ⟨c1, c2, c3, c4⟩ | ⟨c1, c2, c3, u2, c4, c5, c6, c7⟩
      · have e1 : K + (u - w) = K + (u - w2) + (2 + alen v) := by omega
        have e2 : w + (2 + alen v) = w2 := by omega
        rw [e1, sk_many hr h (by omega) (2 + alen v) w _ (by omega) (fun q hq => ?_), e2, ih]
        by_cases hq2 : q < 1 + alen v
        · exact ⟨hd_mk (by decide) g4 q hq2, hd_mk (by decide) g4 q hq2⟩
        · have e3 : w + q = w + 1 + alen v := by omega
          rw [e3]
          exact ⟨mk_two (by decide) c4, mk_two (by decide) c4⟩
      · have hal : alen v = 1 := by rw [c1]; decide
        have ih2 := sk_blk hr h n (d + 1) (s + 1) s2 (w + 3) u2 (c + 1) (K + (u - w2) + 1) c4 (by omega) (by omega)
        have e1 : K + (u - w) = K + (u - w2) + 1 + (u2 - (w + 3)) + 1 + 2 := by omega
        rw [e1, sk_many hr h (by omega) 2 w _ (by omega) (fun q hq => ⟨hd_mk (by decide) g4 q (by omega), hd_mk (by decide) g4 q (by omega)⟩), sk_1 hr h (by omega) (by omega) c3, ih2, sk_2 hr h (by omega) (by omega) (mk_two (by decide) c6) c6, if_neg (by omega), ← c7, ih]
theorem pr_skips {tx : Nat → Nat} {len nw n d s s2 w u k : Nat} {fr bs es : Nat → Int32} {A : SA} {vs : Nat → Int64} (hr : txR fr tx len) (h : wdR tx len nw bs es) (hB : Blk tx len nw A vs n d s s2 (w + 1) u) (hu : u < nw) (hn : n < 890) (h1 : mk tx len nw w 123 = true) (h2 : mk tx len nw u 125 = true) (hk : 310 < k) : mX13_skipsBlock k fr bs (nI nw) (nI w) = some (nI (u + 1)) := by
  have h5 := hr.1
  have h6 := h.1
  have hle := Blk.le n d s s2 (w + 1) u hB
  obtain ⟨K, hK⟩ : ∃ K, k = K + 1 + 1 + (u - (w + 1)) + 1 := ⟨k - 3 - (u - (w + 1)), by omega⟩
  have e1 := sk_1 (c := 0) (K := K + 1 + 1 + (u - (w + 1))) hr h (show w < 1000 by omega) (by omega) h1
  have e2 := sk_blk hr h n d s s2 (w + 1) u 0 (K + 1 + 1) hB (by omega) (by omega)
  have e3 := sk_2 (c := 0) (K := K + 1) hr h (show u < 1000 by omega) (by omega) (mk_two (by decide) h2) h2
  rw [if_pos rfl] at e3
  have e4 : mX13_skipsBlock_L4 fr bs (nI nw) k 0 1 (nI w) = some (nI (u + 1)) := by
    rw [hK]
    refine e1.trans (e2.trans (e3.trans ?_))
    rw [mX13_skipsBlock_L4, if_pos rfl]
  rw [mX13_skipsBlock, e4]
  rfl
