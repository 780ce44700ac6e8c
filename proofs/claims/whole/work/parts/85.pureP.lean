/-! pure: the text's and the page's calls -/
theorem ix_or (p : Int32) {n : Nat} (hn : n < 1000) : (p < 0 ∨ nI n ≤ p) ∨ ∃ i : Nat, i < n ∧ p = nI i := by
  rcases pk_ix p (n := n) (by omega) with z | z | z
  · exact Or.inl (Or.inl z)
  · exact Or.inl (Or.inr z)
  · exact Or.inr z
theorem at_bad {p : Int32} {n : Nat} (hn : n < 1000) (h : p < 0 ∨ nI n ≤ p) : mX13_in p 0 (nI n - 1) = some 0 := by
  rw [mX13_in]
  by_cases h0 : p < 0
  · rw [if_pos h0]
  · rw [if_neg h0, if_pos]
    have h1 := Int32.le_iff_toInt_le.mp (h.resolve_left h0)
    rw [nI_toInt (by omega)] at h1
    have h2 : (nI n - nI 1).toInt = (n : Int) - (1 : Nat) := pk_sub_toInt (by omega) (by omega)
    have h3 : (nI n - 1).toInt = (n : Int) - (1 : Nat) := h2
    exact Int32.lt_iff_toInt_lt.mpr (by rw [h3]; omega)
theorem at_ok {i n : Nat} (hn : n < 1000) (h : i < n) : mX13_in (nI i) 0 (nI n - 1) = some 1 := by
  have e : nI n - 1 = nI (n - 1) := pk_sub (b := 1) (by omega)
  rw [e, mX13_in, if_neg (nI_pos (by omega)), if_neg (nI_nlt (by omega) (by omega))]
theorem bf_bad {p : Int32} {N n : Nat} {f : Nat → Int32} (h : p < 0 ∨ nI n ≤ p) : mX11_byteFrom N f (nI n) p = none ∧ mX11_byteFrom_T12 N f (nI n) p = some () := by
  rw [mX11_byteFrom, mX11_byteFrom_T12, mX6_size]
  simp only [Option.bind_some]
  by_cases h0 : p < 0
  · rw [if_pos h0, if_pos h0]
    exact ⟨rfl, rfl⟩
  · have h2 : ¬ p < nI n := fun z => by
      have h1 := Int32.le_iff_toInt_le.mp (h.resolve_left h0)
      have h3 := Int32.lt_iff_toInt_lt.mp z
      omega
    rw [if_neg h0, if_neg h0, if_neg h2, if_neg h2]
    exact ⟨rfl, rfl⟩
theorem bf_ok {i N n : Nat} {f : Nat → Int32} (h : i < n) (hl : n ≤ N) (hN : N < 1000) : mX11_byteFrom N f (nI n) (nI i) = some (f i) := by
  rw [mX11_byteFrom, mX6_size]
  simp only [Option.bind_some]
  rw [if_neg (nI_pos (by omega)), if_pos (nI_lt h (by omega)), pr_byteAt h hl hN]
  rfl
theorem cl_textAt_bad {p : Int32} {n : Nat} {f : Nat → Int32} {o : Nat → Int64} (h : p < 0 ∨ nI n ≤ p) : mL_textAt 300 f (nI n) o p = some (1, o) := by
  rw [mL_textAt, mL_textAt_N, mX11_textAt, (bf_bad h).1, mL_textAt_T5_12, mX11_textAt_T5_12, (bf_bad h).2]
  rfl
theorem rf_textAt_bad {p : Int32} {n : Nat} {f : Nat → Int32} (hn : n < 1000) (h : p < 0 ∨ nI n ≤ p) : mX13_textAt f (nI n) p = some (0, 1) := by
  rw [mX13_textAt, at_bad hn h]
  rfl
set_option maxHeartbeats 4000000 in
set_option maxRecDepth 100000 in
theorem hs_8 {k L j : Nat} {xs : Nat → Int32} {ax : Nat → Nat} {x : XS} {m : MS} {o : Nat → Int64} (hk : 1000 ≤ k) (hL : j + 6 ≤ L) (hL2 : L ≤ 3072) (h : Inv x m o) : ∃ R, mC_8 xs L (nI j) (x.1) (x.2.1) (x.2.2.1) (x.2.2.2.1) (x.2.2.2.2.1) (x.2.2.2.2.2.1) (x.2.2.2.2.2.2.1) (x.2.2.2.2.2.2.2.1) (x.2.2.2.2.2.2.2.2.1) (x.2.2.2.2.2.2.2.2.2.1) (x.2.2.2.2.2.2.2.2.2.2.1) (x.2.2.2.2.2.2.2.2.2.2.2.1) (x.2.2.2.2.2.2.2.2.2.2.2.2.1) (x.2.2.2.2.2.2.2.2.2.2.2.2.2.1) (x.2.2.2.2.2.2.2.2.2.2.2.2.2.2.1) (x.2.2.2.2.2.2.2.2.2.2.2.2.2.2.2.1) (x.2.2.2.2.2.2.2.2.2.2.2.2.2.2.2.2.1) (x.2.2.2.2.2.2.2.2.2.2.2.2.2.2.2.2.2.1) (x.2.2.2.2.2.2.2.2.2.2.2.2.2.2.2.2.2.2.1) (x.2.2.2.2.2.2.2.2.2.2.2.2.2.2.2.2.2.2.2.1) (x.2.2.2.2.2.2.2.2.2.2.2.2.2.2.2.2.2.2.2.2.1) (x.2.2.2.2.2.2.2.2.2.2.2.2.2.2.2.2.2.2.2.2.2.1) (x.2.2.2.2.2.2.2.2.2.2.2.2.2.2.2.2.2.2.2.2.2.2.1) (x.2.2.2.2.2.2.2.2.2.2.2.2.2.2.2.2.2.2.2.2.2.2.2.1) (x.2.2.2.2.2.2.2.2.2.2.2.2.2.2.2.2.2.2.2.2.2.2.2.2.1) (x.2.2.2.2.2.2.2.2.2.2.2.2.2.2.2.2.2.2.2.2.2.2.2.2.2.1) (x.2.2.2.2.2.2.2.2.2.2.2.2.2.2.2.2.2.2.2.2.2.2.2.2.2.2.1) (x.2.2.2.2.2.2.2.2.2.2.2.2.2.2.2.2.2.2.2.2.2.2.2.2.2.2.2.1) (x.2.2.2.2.2.2.2.2.2.2.2.2.2.2.2.2.2.2.2.2.2.2.2.2.2.2.2.2.1) (x.2.2.2.2.2.2.2.2.2.2.2.2.2.2.2.2.2.2.2.2.2.2.2.2.2.2.2.2.2.1) (x.2.2.2.2.2.2.2.2.2.2.2.2.2.2.2.2.2.2.2.2.2.2.2.2.2.2.2.2.2.2.1) (x.2.2.2.2.2.2.2.2.2.2.2.2.2.2.2.2.2.2.2.2.2.2.2.2.2.2.2.2.2.2.2.1) (x.2.2.2.2.2.2.2.2.2.2.2.2.2.2.2.2.2.2.2.2.2.2.2.2.2.2.2.2.2.2.2.2) (m.2.1) (m.2.2.1) (m.2.2.2.1) (m.2.2.2.2.1) (m.2.2.2.2.2.1) (m.2.2.2.2.2.2.1) (m.2.2.2.2.2.2.2.1) (m.2.2.2.2.2.2.2.2.1) (m.2.2.2.2.2.2.2.2.2.1) (m.2.2.2.2.2.2.2.2.2.2.1) (m.2.2.2.2.2.2.2.2.2.2.2.1) (m.2.2.2.2.2.2.2.2.2.2.2.2.1) (m.2.2.2.2.2.2.2.2.2.2.2.2.2.1) (m.2.2.2.2.2.2.2.2.2.2.2.2.2.2.1) (m.2.2.2.2.2.2.2.2.2.2.2.2.2.2.2.1) (m.2.2.2.2.2.2.2.2.2.2.2.2.2.2.2.2.1) (m.2.2.2.2.2.2.2.2.2.2.2.2.2.2.2.2.2.1) (m.2.2.2.2.2.2.2.2.2.2.2.2.2.2.2.2.2.2.1) (m.2.2.2.2.2.2.2.2.2.2.2.2.2.2.2.2.2.2.2.1) (m.2.2.2.2.2.2.2.2.2.2.2.2.2.2.2.2.2.2.2.2.1) (m.2.2.2.2.2.2.2.2.2.2.2.2.2.2.2.2.2.2.2.2.2.1) (m.2.2.2.2.2.2.2.2.2.2.2.2.2.2.2.2.2.2.2.2.2.2.1) (m.2.2.2.2.2.2.2.2.2.2.2.2.2.2.2.2.2.2.2.2.2.2.2.1) (m.2.2.2.2.2.2.2.2.2.2.2.2.2.2.2.2.2.2.2.2.2.2.2.2.1) (m.2.2.2.2.2.2.2.2.2.2.2.2.2.2.2.2.2.2.2.2.2.2.2.2.2.1) (m.2.2.2.2.2.2.2.2.2.2.2.2.2.2.2.2.2.2.2.2.2.2.2.2.2.2.1) (m.2.2.2.2.2.2.2.2.2.2.2.2.2.2.2.2.2.2.2.2.2.2.2.2.2.2.2.1) (m.2.2.2.2.2.2.2.2.2.2.2.2.2.2.2.2.2.2.2.2.2.2.2.2.2.2.2.2.1) (m.2.2.2.2.2.2.2.2.2.2.2.2.2.2.2.2.2.2.2.2.2.2.2.2.2.2.2.2.2.1) (m.2.2.2.2.2.2.2.2.2.2.2.2.2.2.2.2.2.2.2.2.2.2.2.2.2.2.2.2.2.2.1) (m.2.2.2.2.2.2.2.2.2.2.2.2.2.2.2.2.2.2.2.2.2.2.2.2.2.2.2.2.2.2.2.1) (m.2.2.2.2.2.2.2.2.2.2.2.2.2.2.2.2.2.2.2.2.2.2.2.2.2.2.2.2.2.2.2.2.1) (m.2.2.2.2.2.2.2.2.2.2.2.2.2.2.2.2.2.2.2.2.2.2.2.2.2.2.2.2.2.2.2.2.2.1) (m.2.2.2.2.2.2.2.2.2.2.2.2.2.2.2.2.2.2.2.2.2.2.2.2.2.2.2.2.2.2.2.2.2.2.1) (m.2.2.2.2.2.2.2.2.2.2.2.2.2.2.2.2.2.2.2.2.2.2.2.2.2.2.2.2.2.2.2.2.2.2.2) o = some R ∧ Inv R.1 R.2.1 R.2.2 := by
  obtain ⟨b, c, tn, tx, pn, pg, hC, hw, hmw, hB, hp, ht⟩ := h
  obtain ⟨h1, h2, h3, h4⟩ := ht
  rw [h2, h3, mC_8]
  simp only [gd1 hL hL2, gd2 hL hL2, gd3 hL hL2, gd4 hL hL2, gd5 hL hL2, if_false]
  generalize xs (nI j + 1).toNatClampNeg = p
  rcases ix_or p (n := tn) (by omega) with hb | ⟨i, hi, e⟩
  · rw [cl_textAt_bad hb]
    simp only [Option.bind_some]
    rw [rf_textAt_bad (by omega) hb]
    simp only [Option.bind_some, mX13_thrown, if_true, e10, e20, if_false]
    exact ⟨_, rfl, ⟨b, c, tn, tx, pn, pg, hC, hw, hmw, hB, hp, ⟨h1, rfl, rfl, h4⟩⟩⟩
  · subst e
    have g4 := h4 i hi
    have eL : mL_textAt 300 (x.2.2.2.2.2.2.1) (nI tn) o (nI i) = some (0, vp_updL o 0 (Int32.toInt64 ((x.2.2.2.2.2.2.1) i))) := by
      rw [mL_textAt, mL_textAt_N, mX11_textAt, bf_ok hi (by omega) (by omega)]
      simp only [Option.bind_some, c00, z00, if_false]
    have eM : mX13_textAt (m.2.2.2.2.2.2.2.2.2.2.2.2.2.2.2.2.2.2.2.2.2.2.2.2.2.1) (nI tn) (nI i) = some ((x.2.2.2.2.2.2.1) i, 0) := by
      rw [mX13_textAt, at_ok (by omega) hi]
      simp only [Option.bind_some, ps_11]
      rw [if_neg (by decide), if_neg (nI_in (show i < 300 by omega) (by omega)), nI_clamp (by omega), g4.2.1, g4.1]
    rw [eL]
    simp only [Option.bind_some]
    rw [eM]
    simp only [Option.bind_some, mX13_thrown, if_true, c00, z00, if_false, up_0]
    rw [if_pos ((lg_cmp_eq _ _).mpr rfl)]
    exact ⟨_, rfl, ⟨b, c, tn, tx, pn, pg, hC, hw, hmw, hB, hp, ⟨h1, rfl, rfl, h4⟩⟩⟩
theorem cl_pageAt_bad {p : Int32} {n : Nat} {f : Nat → Int32} {o : Nat → Int64} (h : p < 0 ∨ nI n ≤ p) : mL_pageAt 65 f (nI n) o p = some (1, o) := by
  rw [mL_pageAt, mL_pageAt_N, mX11_pageAt, (bf_bad h).1, mL_pageAt_T8_12, mX11_pageAt_T8_12, (bf_bad h).2]
  rfl
theorem rf_pageAt_bad {p : Int32} {n : Nat} {f : Nat → Int32} (hn : n < 1000) (h : p < 0 ∨ nI n ≤ p) : mX13_pageAt f (nI n) p = some (0, 1) := by
  rw [mX13_pageAt, at_bad hn h]
  rfl
set_option maxHeartbeats 4000000 in
set_option maxRecDepth 100000 in
theorem hs_15 {k L j : Nat} {xs : Nat → Int32} {ax : Nat → Nat} {x : XS} {m : MS} {o : Nat → Int64} (hk : 1000 ≤ k) (hL : j + 6 ≤ L) (hL2 : L ≤ 3072) (h : Inv x m o) : ∃ R, mC_15 xs L (nI j) (x.1) (x.2.1) (x.2.2.1) (x.2.2.2.1) (x.2.2.2.2.1) (x.2.2.2.2.2.1) (x.2.2.2.2.2.2.1) (x.2.2.2.2.2.2.2.1) (x.2.2.2.2.2.2.2.2.1) (x.2.2.2.2.2.2.2.2.2.1) (x.2.2.2.2.2.2.2.2.2.2.1) (x.2.2.2.2.2.2.2.2.2.2.2.1) (x.2.2.2.2.2.2.2.2.2.2.2.2.1) (x.2.2.2.2.2.2.2.2.2.2.2.2.2.1) (x.2.2.2.2.2.2.2.2.2.2.2.2.2.2.1) (x.2.2.2.2.2.2.2.2.2.2.2.2.2.2.2.1) (x.2.2.2.2.2.2.2.2.2.2.2.2.2.2.2.2.1) (x.2.2.2.2.2.2.2.2.2.2.2.2.2.2.2.2.2.1) (x.2.2.2.2.2.2.2.2.2.2.2.2.2.2.2.2.2.2.1) (x.2.2.2.2.2.2.2.2.2.2.2.2.2.2.2.2.2.2.2.1) (x.2.2.2.2.2.2.2.2.2.2.2.2.2.2.2.2.2.2.2.2.1) (x.2.2.2.2.2.2.2.2.2.2.2.2.2.2.2.2.2.2.2.2.2.1) (x.2.2.2.2.2.2.2.2.2.2.2.2.2.2.2.2.2.2.2.2.2.2.1) (x.2.2.2.2.2.2.2.2.2.2.2.2.2.2.2.2.2.2.2.2.2.2.2.1) (x.2.2.2.2.2.2.2.2.2.2.2.2.2.2.2.2.2.2.2.2.2.2.2.2.1) (x.2.2.2.2.2.2.2.2.2.2.2.2.2.2.2.2.2.2.2.2.2.2.2.2.2.1) (x.2.2.2.2.2.2.2.2.2.2.2.2.2.2.2.2.2.2.2.2.2.2.2.2.2.2.1) (x.2.2.2.2.2.2.2.2.2.2.2.2.2.2.2.2.2.2.2.2.2.2.2.2.2.2.2.1) (x.2.2.2.2.2.2.2.2.2.2.2.2.2.2.2.2.2.2.2.2.2.2.2.2.2.2.2.2.1) (x.2.2.2.2.2.2.2.2.2.2.2.2.2.2.2.2.2.2.2.2.2.2.2.2.2.2.2.2.2.1) (x.2.2.2.2.2.2.2.2.2.2.2.2.2.2.2.2.2.2.2.2.2.2.2.2.2.2.2.2.2.2.1) (x.2.2.2.2.2.2.2.2.2.2.2.2.2.2.2.2.2.2.2.2.2.2.2.2.2.2.2.2.2.2.2.1) (x.2.2.2.2.2.2.2.2.2.2.2.2.2.2.2.2.2.2.2.2.2.2.2.2.2.2.2.2.2.2.2.2) (m.2.1) (m.2.2.1) (m.2.2.2.1) (m.2.2.2.2.1) (m.2.2.2.2.2.1) (m.2.2.2.2.2.2.1) (m.2.2.2.2.2.2.2.1) (m.2.2.2.2.2.2.2.2.1) (m.2.2.2.2.2.2.2.2.2.1) (m.2.2.2.2.2.2.2.2.2.2.1) (m.2.2.2.2.2.2.2.2.2.2.2.1) (m.2.2.2.2.2.2.2.2.2.2.2.2.1) (m.2.2.2.2.2.2.2.2.2.2.2.2.2.1) (m.2.2.2.2.2.2.2.2.2.2.2.2.2.2.1) (m.2.2.2.2.2.2.2.2.2.2.2.2.2.2.2.1) (m.2.2.2.2.2.2.2.2.2.2.2.2.2.2.2.2.1) (m.2.2.2.2.2.2.2.2.2.2.2.2.2.2.2.2.2.1) (m.2.2.2.2.2.2.2.2.2.2.2.2.2.2.2.2.2.2.1) (m.2.2.2.2.2.2.2.2.2.2.2.2.2.2.2.2.2.2.2.1) (m.2.2.2.2.2.2.2.2.2.2.2.2.2.2.2.2.2.2.2.2.1) (m.2.2.2.2.2.2.2.2.2.2.2.2.2.2.2.2.2.2.2.2.2.1) (m.2.2.2.2.2.2.2.2.2.2.2.2.2.2.2.2.2.2.2.2.2.2.1) (m.2.2.2.2.2.2.2.2.2.2.2.2.2.2.2.2.2.2.2.2.2.2.2.1) (m.2.2.2.2.2.2.2.2.2.2.2.2.2.2.2.2.2.2.2.2.2.2.2.2.1) (m.2.2.2.2.2.2.2.2.2.2.2.2.2.2.2.2.2.2.2.2.2.2.2.2.2.1) (m.2.2.2.2.2.2.2.2.2.2.2.2.2.2.2.2.2.2.2.2.2.2.2.2.2.2.1) (m.2.2.2.2.2.2.2.2.2.2.2.2.2.2.2.2.2.2.2.2.2.2.2.2.2.2.2.1) (m.2.2.2.2.2.2.2.2.2.2.2.2.2.2.2.2.2.2.2.2.2.2.2.2.2.2.2.2.1) (m.2.2.2.2.2.2.2.2.2.2.2.2.2.2.2.2.2.2.2.2.2.2.2.2.2.2.2.2.2.1) (m.2.2.2.2.2.2.2.2.2.2.2.2.2.2.2.2.2.2.2.2.2.2.2.2.2.2.2.2.2.2.1) (m.2.2.2.2.2.2.2.2.2.2.2.2.2.2.2.2.2.2.2.2.2.2.2.2.2.2.2.2.2.2.2.1) (m.2.2.2.2.2.2.2.2.2.2.2.2.2.2.2.2.2.2.2.2.2.2.2.2.2.2.2.2.2.2.2.2.1) (m.2.2.2.2.2.2.2.2.2.2.2.2.2.2.2.2.2.2.2.2.2.2.2.2.2.2.2.2.2.2.2.2.2.1) (m.2.2.2.2.2.2.2.2.2.2.2.2.2.2.2.2.2.2.2.2.2.2.2.2.2.2.2.2.2.2.2.2.2.2.1) (m.2.2.2.2.2.2.2.2.2.2.2.2.2.2.2.2.2.2.2.2.2.2.2.2.2.2.2.2.2.2.2.2.2.2.2) o = some R ∧ Inv R.1 R.2.1 R.2.2 := by
  obtain ⟨b, c, tn, tx, pn, pg, hC, hw, hmw, hB, hp, ht⟩ := h
  obtain ⟨h1, h2, h3, h4⟩ := hp
  rw [h2, h3, mC_15]
  simp only [gd1 hL hL2, gd2 hL hL2, gd3 hL hL2, gd4 hL hL2, gd5 hL hL2, if_false]
  generalize xs (nI j + 1).toNatClampNeg = p
  rcases ix_or p (n := pn) (by omega) with hb | ⟨i, hi, e⟩
  · rw [cl_pageAt_bad hb]
    simp only [Option.bind_some]
    rw [rf_pageAt_bad (by omega) hb]
    simp only [Option.bind_some, mX13_thrown, if_true, e10, e20, if_false]
    exact ⟨_, rfl, ⟨b, c, tn, tx, pn, pg, hC, hw, hmw, hB, ⟨h1, rfl, rfl, h4⟩, ht⟩⟩
  · subst e
    have g4 := h4 i hi
    have eL : mL_pageAt 65 (x.2.2.1) (nI pn) o (nI i) = some (0, vp_updL o 0 (Int32.toInt64 ((x.2.2.1) i))) := by
      rw [mL_pageAt, mL_pageAt_N, mX11_pageAt, bf_ok hi (by omega) (by omega)]
      simp only [Option.bind_some, c00, z00, if_false]
    have eM : mX13_pageAt (m.2.2.2.1) (nI pn) (nI i) = some ((x.2.2.1) i, 0) := by
      rw [mX13_pageAt, at_ok (by omega) hi]
      simp only [Option.bind_some, ps_11]
      rw [if_neg (by decide), if_neg (nI_in (show i < 66 by omega) (by omega)), nI_clamp (by omega), g4.2.1, g4.1]
    rw [eL]
    simp only [Option.bind_some]
    rw [eM]
    simp only [Option.bind_some, mX13_thrown, if_true, c00, z00, if_false, up_0]
    rw [if_pos ((lg_cmp_eq _ _).mpr rfl)]
    exact ⟨_, rfl, ⟨b, c, tn, tx, pn, pg, hC, hw, hmw, hB, ⟨h1, rfl, rfl, h4⟩, ht⟩⟩
theorem pgB_bd {ng : Bool} {R A n i : Nat} (hR : R ≤ 36) (h0 : 0 < R) : 0 < pgB ng R A n i ∧ pgB ng R A n i < 256 := by
  unfold pgB dB
  have h := Nat.mod_lt (A / R ^ (n + ng.toNat - 1 - i)) h0
  split
  · omega
  · split <;> omega
theorem pr_cwrite {b p : Bool} {xc : Nat → Int64} {c : Nat → BitVec 64} {f : Nat → Int32} {i k n : Nat} {r : Int32} (hC : isC xc c) (hi : i < 8) (hk : 130 < k) (hn : isND (rdx r) (szA b p (c i)) n) : ∃ f2, mX2_writePage k 65 xc f (bI b) (nI i) r (bI p) = some (f2, nI (n + (szN b p (c i)).toNat)) ∧ ∀ q, q < n + (szN b p (c i)).toNat → f2 q = nI (pgB (szN b p (c i)) (rdx r) (szA b p (c i)) n q) := by
  obtain ⟨f2, e, h⟩ := pr_writeOn (b := b) (p := p) (v := c i) (f := f) (r := r) hk hn
  refine ⟨f2, ?_, h⟩
  rw [mX2_writePage, pr_valueOf b p hC hi]
  simp only [Option.bind_some]
  rw [e]
  rfl
theorem cl_write_bad {k : Nat} {xc : Nat → Int64} {f : Nat → Int32} {l w : Int32} {o : Nat → Int64} {p : Int32} {r : Int32} {q : Int32} (h : cellBad p) : mL_write k 65 xc f l w o p r q = some (1, f, l, o) := by
  rw [mL_write, mL_write_N, mX11_write, ck_bad h, mL_write_T1_10, mX11_write_T1_10, ckT_bad h]
  rfl
theorem rf_write_bad {k : Nat} {w : Int32} {B : Nat → Nat → Int32} {f1 f2 f3 : Nat → Int32} {l1 l2 l3 : Int32} {p : Int32} {r : Int32} {q : Int32} (h : cellBad p) : mX13_write k w B f1 l1 f2 l2 l3 f3 p r q = some (0, 1, f1, l1, f2, l2, l3, f3) := by
  rw [mX13_write, ic_bad h]
  rfl
set_option maxHeartbeats 4000000 in
set_option maxRecDepth 100000 in
theorem hs_11 {k L j : Nat} {xs : Nat → Int32} {ax : Nat → Nat} {x : XS} {m : MS} {o : Nat → Int64} (hk : 1000 ≤ k) (hL : j + 6 ≤ L) (hL2 : L ≤ 3072) (h : Inv x m o) : ∃ R, mC_11 k xs L (nI j) (x.1) (x.2.1) (x.2.2.1) (x.2.2.2.1) (x.2.2.2.2.1) (x.2.2.2.2.2.1) (x.2.2.2.2.2.2.1) (x.2.2.2.2.2.2.2.1) (x.2.2.2.2.2.2.2.2.1) (x.2.2.2.2.2.2.2.2.2.1) (x.2.2.2.2.2.2.2.2.2.2.1) (x.2.2.2.2.2.2.2.2.2.2.2.1) (x.2.2.2.2.2.2.2.2.2.2.2.2.1) (x.2.2.2.2.2.2.2.2.2.2.2.2.2.1) (x.2.2.2.2.2.2.2.2.2.2.2.2.2.2.1) (x.2.2.2.2.2.2.2.2.2.2.2.2.2.2.2.1) (x.2.2.2.2.2.2.2.2.2.2.2.2.2.2.2.2.1) (x.2.2.2.2.2.2.2.2.2.2.2.2.2.2.2.2.2.1) (x.2.2.2.2.2.2.2.2.2.2.2.2.2.2.2.2.2.2.1) (x.2.2.2.2.2.2.2.2.2.2.2.2.2.2.2.2.2.2.2.1) (x.2.2.2.2.2.2.2.2.2.2.2.2.2.2.2.2.2.2.2.2.1) (x.2.2.2.2.2.2.2.2.2.2.2.2.2.2.2.2.2.2.2.2.2.1) (x.2.2.2.2.2.2.2.2.2.2.2.2.2.2.2.2.2.2.2.2.2.2.1) (x.2.2.2.2.2.2.2.2.2.2.2.2.2.2.2.2.2.2.2.2.2.2.2.1) (x.2.2.2.2.2.2.2.2.2.2.2.2.2.2.2.2.2.2.2.2.2.2.2.2.1) (x.2.2.2.2.2.2.2.2.2.2.2.2.2.2.2.2.2.2.2.2.2.2.2.2.2.1) (x.2.2.2.2.2.2.2.2.2.2.2.2.2.2.2.2.2.2.2.2.2.2.2.2.2.2.1) (x.2.2.2.2.2.2.2.2.2.2.2.2.2.2.2.2.2.2.2.2.2.2.2.2.2.2.2.1) (x.2.2.2.2.2.2.2.2.2.2.2.2.2.2.2.2.2.2.2.2.2.2.2.2.2.2.2.2.1) (x.2.2.2.2.2.2.2.2.2.2.2.2.2.2.2.2.2.2.2.2.2.2.2.2.2.2.2.2.2.1) (x.2.2.2.2.2.2.2.2.2.2.2.2.2.2.2.2.2.2.2.2.2.2.2.2.2.2.2.2.2.2.1) (x.2.2.2.2.2.2.2.2.2.2.2.2.2.2.2.2.2.2.2.2.2.2.2.2.2.2.2.2.2.2.2.1) (x.2.2.2.2.2.2.2.2.2.2.2.2.2.2.2.2.2.2.2.2.2.2.2.2.2.2.2.2.2.2.2.2) (m.2.1) (m.2.2.1) (m.2.2.2.1) (m.2.2.2.2.1) (m.2.2.2.2.2.1) (m.2.2.2.2.2.2.1) (m.2.2.2.2.2.2.2.1) (m.2.2.2.2.2.2.2.2.1) (m.2.2.2.2.2.2.2.2.2.1) (m.2.2.2.2.2.2.2.2.2.2.1) (m.2.2.2.2.2.2.2.2.2.2.2.1) (m.2.2.2.2.2.2.2.2.2.2.2.2.1) (m.2.2.2.2.2.2.2.2.2.2.2.2.2.1) (m.2.2.2.2.2.2.2.2.2.2.2.2.2.2.1) (m.2.2.2.2.2.2.2.2.2.2.2.2.2.2.2.1) (m.2.2.2.2.2.2.2.2.2.2.2.2.2.2.2.2.1) (m.2.2.2.2.2.2.2.2.2.2.2.2.2.2.2.2.2.1) (m.2.2.2.2.2.2.2.2.2.2.2.2.2.2.2.2.2.2.1) (m.2.2.2.2.2.2.2.2.2.2.2.2.2.2.2.2.2.2.2.1) (m.2.2.2.2.2.2.2.2.2.2.2.2.2.2.2.2.2.2.2.2.1) (m.2.2.2.2.2.2.2.2.2.2.2.2.2.2.2.2.2.2.2.2.2.1) (m.2.2.2.2.2.2.2.2.2.2.2.2.2.2.2.2.2.2.2.2.2.2.1) (m.2.2.2.2.2.2.2.2.2.2.2.2.2.2.2.2.2.2.2.2.2.2.2.1) (m.2.2.2.2.2.2.2.2.2.2.2.2.2.2.2.2.2.2.2.2.2.2.2.2.1) (m.2.2.2.2.2.2.2.2.2.2.2.2.2.2.2.2.2.2.2.2.2.2.2.2.2.1) (m.2.2.2.2.2.2.2.2.2.2.2.2.2.2.2.2.2.2.2.2.2.2.2.2.2.2.1) (m.2.2.2.2.2.2.2.2.2.2.2.2.2.2.2.2.2.2.2.2.2.2.2.2.2.2.2.1) (m.2.2.2.2.2.2.2.2.2.2.2.2.2.2.2.2.2.2.2.2.2.2.2.2.2.2.2.2.1) (m.2.2.2.2.2.2.2.2.2.2.2.2.2.2.2.2.2.2.2.2.2.2.2.2.2.2.2.2.2.1) (m.2.2.2.2.2.2.2.2.2.2.2.2.2.2.2.2.2.2.2.2.2.2.2.2.2.2.2.2.2.2.1) (m.2.2.2.2.2.2.2.2.2.2.2.2.2.2.2.2.2.2.2.2.2.2.2.2.2.2.2.2.2.2.2.1) (m.2.2.2.2.2.2.2.2.2.2.2.2.2.2.2.2.2.2.2.2.2.2.2.2.2.2.2.2.2.2.2.2.1) (m.2.2.2.2.2.2.2.2.2.2.2.2.2.2.2.2.2.2.2.2.2.2.2.2.2.2.2.2.2.2.2.2.2.1) (m.2.2.2.2.2.2.2.2.2.2.2.2.2.2.2.2.2.2.2.2.2.2.2.2.2.2.2.2.2.2.2.2.2.2.1) (m.2.2.2.2.2.2.2.2.2.2.2.2.2.2.2.2.2.2.2.2.2.2.2.2.2.2.2.2.2.2.2.2.2.2.2) o = some R ∧ Inv R.1 R.2.1 R.2.2 := by
  obtain ⟨b, c, tn, tx, pn, pg, hC, hw, hmw, hB, hp, ht⟩ := h
  rw [hw, hmw, mC_11]
  simp only [gd1 hL hL2, gd2 hL hL2, gd3 hL hL2, gd4 hL hL2, gd5 hL hL2, if_false]
  generalize xs (nI j + 1).toNatClampNeg = p
  generalize xs (nI j + 2).toNatClampNeg = r
  obtain ⟨q4, e4⟩ := flg (xs (nI j + 3).toNatClampNeg)
  rw [e4]
  simp only [Option.bind_some]
  rcases cell_or p with hb | ⟨i, hi, e⟩
  · rw [cl_write_bad hb]
    simp only [Option.bind_some]
    rw [rf_write_bad hb]
    simp only [Option.bind_some, mX13_thrown, if_true, e10, e20, if_false]
    exact ⟨_, rfl, ⟨b, c, tn, tx, pn, pg, hC, rfl, rfl, hB, hp, ht⟩⟩
  · subst e
    obtain ⟨R1, R2, -⟩ := rdx_spec r
    obtain ⟨n, hn⟩ := nd_get (A := szA b q4 (c i)) R1 (szA_lt64 b q4 (c i))
    have hn2 := hn.2.1
    have hg : (szN b q4 (c i)).toNat ≤ 1 := by cases szN b q4 (c i) <;> decide
    obtain ⟨f2, e1, a1⟩ := pr_cwrite (k := k) (f := (x.2.2.1)) hC hi (by omega) hn
    obtain ⟨pg2, ds2, one2, e2, a2⟩ := pr_writes (k := k) (pg := (m.2.2.2.1)) (ds := (m.2.2.2.2.2.1)) (one := (m.2.2.2.2.2.2.2.2.2.1)) hB hi (by omega) hn
    have eL : mL_write k 65 (x.1) (x.2.2.1) (x.2.2.2.1) (bI b) o (nI i) r (bI q4) = some (0, f2, nI (n + (szN b q4 (c i)).toNat), vp_updL o 0 ((nI (n + (szN b q4 (c i)).toNat)).toInt64)) := by
      rw [mL_write, mL_write_N, mX11_write, ck_ok hi]
      simp only [Option.bind_some]
      rw [e1]
      simp only [Option.bind_some, mX6_size, c00, z00, if_false]
    have eM : mX13_write k (bI b) (m.2.2.1) (m.2.2.2.1) (m.2.2.2.2.1) (m.2.2.2.2.2.1) (m.2.2.2.2.2.2.1) (m.2.2.2.2.2.2.2.1) (m.2.2.2.2.2.2.2.2.2.1) (nI i) r (bI q4) = some (nI (n + (szN b q4 (c i)).toNat), 0, pg2, nI (n + (szN b q4 (c i)).toNat), ds2, nI n, bI (szN b q4 (c i)), one2) := by
      rw [mX13_write, ic_ok hi]
      simp only [Option.bind_some, ps_11]
      rw [if_neg (by decide), e2]
      rfl
    rw [eL]
    simp only [Option.bind_some]
    rw [eM]
    simp only [Option.bind_some, mX13_thrown, if_true, c00, z00, if_false, up_0]
    rw [if_pos ((lg_cmp_eq _ _).mpr rfl)]
    exact ⟨_, rfl, ⟨b, c, tn, tx, n + (szN b q4 (c i)).toNat, _, hC, rfl, rfl, hB, ⟨by omega, rfl, rfl, fun q hq => ⟨a1 q hq, a2 q hq, pgB_bd R2 (by omega)⟩⟩, ht⟩⟩
theorem cl_writeTen_bad {k : Nat} {xc : Nat → Int64} {f : Nat → Int32} {l w : Int32} {o : Nat → Int64} {p : Int32} {q : Int32} (h : cellBad p) : mL_writeTen k 65 xc f l w o p q = some (1, f, l, o) := by
  rw [mL_writeTen, mL_writeTen_N, mX11_writeTen, ck_bad h, mL_writeTen_T1_10, mX11_writeTen_T1_10, ckT_bad h]
  rfl
theorem rf_writeTen_bad {k : Nat} {w : Int32} {B : Nat → Nat → Int32} {f1 f2 f3 : Nat → Int32} {l1 l2 l3 : Int32} {p : Int32} {q : Int32} (h : cellBad p) : mX13_writeTen k w B f1 l1 f2 l2 l3 f3 p q = some (0, 1, f1, l1, f2, l2, l3, f3) := by
  rw [mX13_writeTen, ic_bad h]
  rfl
set_option maxHeartbeats 4000000 in
set_option maxRecDepth 100000 in
theorem hs_13 {k L j : Nat} {xs : Nat → Int32} {ax : Nat → Nat} {x : XS} {m : MS} {o : Nat → Int64} (hk : 1000 ≤ k) (hL : j + 6 ≤ L) (hL2 : L ≤ 3072) (h : Inv x m o) : ∃ R, mC_13 k xs L (nI j) (x.1) (x.2.1) (x.2.2.1) (x.2.2.2.1) (x.2.2.2.2.1) (x.2.2.2.2.2.1) (x.2.2.2.2.2.2.1) (x.2.2.2.2.2.2.2.1) (x.2.2.2.2.2.2.2.2.1) (x.2.2.2.2.2.2.2.2.2.1) (x.2.2.2.2.2.2.2.2.2.2.1) (x.2.2.2.2.2.2.2.2.2.2.2.1) (x.2.2.2.2.2.2.2.2.2.2.2.2.1) (x.2.2.2.2.2.2.2.2.2.2.2.2.2.1) (x.2.2.2.2.2.2.2.2.2.2.2.2.2.2.1) (x.2.2.2.2.2.2.2.2.2.2.2.2.2.2.2.1) (x.2.2.2.2.2.2.2.2.2.2.2.2.2.2.2.2.1) (x.2.2.2.2.2.2.2.2.2.2.2.2.2.2.2.2.2.1) (x.2.2.2.2.2.2.2.2.2.2.2.2.2.2.2.2.2.2.1) (x.2.2.2.2.2.2.2.2.2.2.2.2.2.2.2.2.2.2.2.1) (x.2.2.2.2.2.2.2.2.2.2.2.2.2.2.2.2.2.2.2.2.1) (x.2.2.2.2.2.2.2.2.2.2.2.2.2.2.2.2.2.2.2.2.2.1) (x.2.2.2.2.2.2.2.2.2.2.2.2.2.2.2.2.2.2.2.2.2.2.1) (x.2.2.2.2.2.2.2.2.2.2.2.2.2.2.2.2.2.2.2.2.2.2.2.1) (x.2.2.2.2.2.2.2.2.2.2.2.2.2.2.2.2.2.2.2.2.2.2.2.2.1) (x.2.2.2.2.2.2.2.2.2.2.2.2.2.2.2.2.2.2.2.2.2.2.2.2.2.1) (x.2.2.2.2.2.2.2.2.2.2.2.2.2.2.2.2.2.2.2.2.2.2.2.2.2.2.1) (x.2.2.2.2.2.2.2.2.2.2.2.2.2.2.2.2.2.2.2.2.2.2.2.2.2.2.2.1) (x.2.2.2.2.2.2.2.2.2.2.2.2.2.2.2.2.2.2.2.2.2.2.2.2.2.2.2.2.1) (x.2.2.2.2.2.2.2.2.2.2.2.2.2.2.2.2.2.2.2.2.2.2.2.2.2.2.2.2.2.1) (x.2.2.2.2.2.2.2.2.2.2.2.2.2.2.2.2.2.2.2.2.2.2.2.2.2.2.2.2.2.2.1) (x.2.2.2.2.2.2.2.2.2.2.2.2.2.2.2.2.2.2.2.2.2.2.2.2.2.2.2.2.2.2.2.1) (x.2.2.2.2.2.2.2.2.2.2.2.2.2.2.2.2.2.2.2.2.2.2.2.2.2.2.2.2.2.2.2.2) (m.2.1) (m.2.2.1) (m.2.2.2.1) (m.2.2.2.2.1) (m.2.2.2.2.2.1) (m.2.2.2.2.2.2.1) (m.2.2.2.2.2.2.2.1) (m.2.2.2.2.2.2.2.2.1) (m.2.2.2.2.2.2.2.2.2.1) (m.2.2.2.2.2.2.2.2.2.2.1) (m.2.2.2.2.2.2.2.2.2.2.2.1) (m.2.2.2.2.2.2.2.2.2.2.2.2.1) (m.2.2.2.2.2.2.2.2.2.2.2.2.2.1) (m.2.2.2.2.2.2.2.2.2.2.2.2.2.2.1) (m.2.2.2.2.2.2.2.2.2.2.2.2.2.2.2.1) (m.2.2.2.2.2.2.2.2.2.2.2.2.2.2.2.2.1) (m.2.2.2.2.2.2.2.2.2.2.2.2.2.2.2.2.2.1) (m.2.2.2.2.2.2.2.2.2.2.2.2.2.2.2.2.2.2.1) (m.2.2.2.2.2.2.2.2.2.2.2.2.2.2.2.2.2.2.2.1) (m.2.2.2.2.2.2.2.2.2.2.2.2.2.2.2.2.2.2.2.2.1) (m.2.2.2.2.2.2.2.2.2.2.2.2.2.2.2.2.2.2.2.2.2.1) (m.2.2.2.2.2.2.2.2.2.2.2.2.2.2.2.2.2.2.2.2.2.2.1) (m.2.2.2.2.2.2.2.2.2.2.2.2.2.2.2.2.2.2.2.2.2.2.2.1) (m.2.2.2.2.2.2.2.2.2.2.2.2.2.2.2.2.2.2.2.2.2.2.2.2.1) (m.2.2.2.2.2.2.2.2.2.2.2.2.2.2.2.2.2.2.2.2.2.2.2.2.2.1) (m.2.2.2.2.2.2.2.2.2.2.2.2.2.2.2.2.2.2.2.2.2.2.2.2.2.2.1) (m.2.2.2.2.2.2.2.2.2.2.2.2.2.2.2.2.2.2.2.2.2.2.2.2.2.2.2.1) (m.2.2.2.2.2.2.2.2.2.2.2.2.2.2.2.2.2.2.2.2.2.2.2.2.2.2.2.2.1) (m.2.2.2.2.2.2.2.2.2.2.2.2.2.2.2.2.2.2.2.2.2.2.2.2.2.2.2.2.2.1) (m.2.2.2.2.2.2.2.2.2.2.2.2.2.2.2.2.2.2.2.2.2.2.2.2.2.2.2.2.2.2.1) (m.2.2.2.2.2.2.2.2.2.2.2.2.2.2.2.2.2.2.2.2.2.2.2.2.2.2.2.2.2.2.2.1) (m.2.2.2.2.2.2.2.2.2.2.2.2.2.2.2.2.2.2.2.2.2.2.2.2.2.2.2.2.2.2.2.2.1) (m.2.2.2.2.2.2.2.2.2.2.2.2.2.2.2.2.2.2.2.2.2.2.2.2.2.2.2.2.2.2.2.2.2.1) (m.2.2.2.2.2.2.2.2.2.2.2.2.2.2.2.2.2.2.2.2.2.2.2.2.2.2.2.2.2.2.2.2.2.2.1) (m.2.2.2.2.2.2.2.2.2.2.2.2.2.2.2.2.2.2.2.2.2.2.2.2.2.2.2.2.2.2.2.2.2.2.2) o = some R ∧ Inv R.1 R.2.1 R.2.2 := by
  obtain ⟨b, c, tn, tx, pn, pg, hC, hw, hmw, hB, hp, ht⟩ := h
  rw [hw, hmw, mC_13]
  simp only [gd1 hL hL2, gd2 hL hL2, gd3 hL hL2, gd4 hL hL2, gd5 hL hL2, if_false]
  generalize xs (nI j + 1).toNatClampNeg = p
  obtain ⟨q4, e4⟩ := flg (xs (nI j + 2).toNatClampNeg)
  rw [e4]
  simp only [Option.bind_some]
  rcases cell_or p with hb | ⟨i, hi, e⟩
  · rw [cl_writeTen_bad hb]
    simp only [Option.bind_some]
    rw [rf_writeTen_bad hb]
    simp only [Option.bind_some, mX13_thrown, if_true, e10, e20, if_false]
    exact ⟨_, rfl, ⟨b, c, tn, tx, pn, pg, hC, rfl, rfl, hB, hp, ht⟩⟩
  · subst e
    obtain ⟨R1, R2, -⟩ := rdx_spec 10
    obtain ⟨n, hn⟩ := nd_get (A := szA b q4 (c i)) R1 (szA_lt64 b q4 (c i))
    have hn2 := hn.2.1
    have hg : (szN b q4 (c i)).toNat ≤ 1 := by cases szN b q4 (c i) <;> decide
    obtain ⟨f2, e1, a1⟩ := pr_cwrite (k := k) (f := (x.2.2.1)) hC hi (by omega) hn
    obtain ⟨pg2, ds2, one2, e2, a2⟩ := pr_writes (k := k) (pg := (m.2.2.2.1)) (ds := (m.2.2.2.2.2.1)) (one := (m.2.2.2.2.2.2.2.2.2.1)) hB hi (by omega) hn
    have eL : mL_writeTen k 65 (x.1) (x.2.2.1) (x.2.2.2.1) (bI b) o (nI i) (bI q4) = some (0, f2, nI (n + (szN b q4 (c i)).toNat), vp_updL o 0 ((nI (n + (szN b q4 (c i)).toNat)).toInt64)) := by
      rw [mL_writeTen, mL_writeTen_N, mX11_writeTen, ck_ok hi]
      simp only [Option.bind_some]
      rw [e1]
      simp only [Option.bind_some, mX6_size, c00, z00, if_false]
    have eM : mX13_writeTen k (bI b) (m.2.2.1) (m.2.2.2.1) (m.2.2.2.2.1) (m.2.2.2.2.2.1) (m.2.2.2.2.2.2.1) (m.2.2.2.2.2.2.2.1) (m.2.2.2.2.2.2.2.2.2.1) (nI i) (bI q4) = some (nI (n + (szN b q4 (c i)).toNat), 0, pg2, nI (n + (szN b q4 (c i)).toNat), ds2, nI n, bI (szN b q4 (c i)), one2) := by
      rw [mX13_writeTen, ic_ok hi]
      simp only [Option.bind_some, ps_11]
      rw [if_neg (by decide), e2]
      rfl
    rw [eL]
    simp only [Option.bind_some]
    rw [eM]
    simp only [Option.bind_some, mX13_thrown, if_true, c00, z00, if_false, up_0]
    rw [if_pos ((lg_cmp_eq _ _).mpr rfl)]
    exact ⟨_, rfl, ⟨b, c, tn, tx, n + (szN b q4 (c i)).toNat, _, hC, rfl, rfl, hB, ⟨by omega, rfl, rfl, fun q hq => ⟨a1 q hq, a2 q hq, pgB_bd R2 (by omega)⟩⟩, ht⟩⟩
theorem in2_bad {p : Int32} (h : p < 0 ∨ ¬ p ≤ 2) : mX13_in p 0 2 = some 0 := by
  rw [mX13_in]
  by_cases h0 : p < 0
  · rw [if_pos h0]
  · rw [if_neg h0, if_pos]
    have h1 := h.resolve_left h0
    rw [Int32.le_iff_toInt_le] at h1
    exact Int32.lt_iff_toInt_lt.mpr (by omega)
theorem in2_ok {p : Int32} (h : ¬ (p < 0 ∨ ¬ p ≤ 2)) : mX13_in p 0 2 = some 1 := by
  rw [mX13_in, if_neg (fun z => h (Or.inl z)), if_neg]
  intro z
  refine h (Or.inr (fun y => ?_))
  rw [Int32.le_iff_toInt_le] at y
  rw [Int32.lt_iff_toInt_lt] at z
  omega
theorem cl_writeBits_bad {k : Nat} {xc : Nat → Int64} {f : Nat → Int32} {l w : Int32} {o : Nat → Int64} {p q : Int32} (h : cellBad p) : mL_writeBits k 65 xc f l w o p q = some (1, f, l, o) := by
  rw [mL_writeBits, mL_writeBits_N, mX11_writeBits, ck_bad h, mL_writeBits_T1_10, mX11_writeBits_T1_10, ckT_bad h]
  rfl
theorem rf_writeBits_bad {k : Nat} {w : Int32} {B : Nat → Nat → Int32} {f1 f2 f3 : Nat → Int32} {l1 l2 l3 : Int32} {p q : Int32} (h : cellBad p) : mX13_writeBits k w B f1 l1 f2 l2 l3 f3 p q = some (0, 1, f1, l1, f2, l2, l3, f3) := by
  have hin : ∃ z, mX13_in q 0 2 = some z ∧ (z = 0 ∨ z = 1) := by
    rw [mX13_in]
    split
    · exact ⟨0, rfl, Or.inl rfl⟩
    · split
      · exact ⟨0, rfl, Or.inl rfl⟩
      · exact ⟨1, rfl, Or.inr rfl⟩
  obtain ⟨z, ez, hz⟩ := hin
  have hps : mX13_passes 0 z = some (0, 1) := by rcases hz with hz | hz <;> rw [hz] <;> rfl
  rw [mX13_writeBits, ic_bad h]
  simp only [Option.bind_some]
  rw [ez]
  simp only [Option.bind_some]
  rw [hps]
  simp only [Option.bind_some, if_true]
theorem cl_writeBits2 {k : Nat} {xc : Nat → Int64} {f : Nat → Int32} {l w : Int32} {o : Nat → Int64} {q : Int32} {i : Nat} (hi : i < 8) (h3 : q < 0 ∨ ¬ q ≤ 2) : mL_writeBits k 65 xc f l w o (nI i) q = some (2, f, l, o) := by
  have eN : mX11_writeBits k 65 xc f w (nI i) q = none := by
    rw [mX11_writeBits, ck_ok hi]
    simp only [Option.bind_some]
    by_cases h0 : q < 0
    · rw [if_pos h0]
    · rw [if_neg h0, if_neg (h3.resolve_left h0)]
  have eT : mX11_writeBits_T13 k 65 xc f w (nI i) q = some () := by
    rw [mX11_writeBits_T13, ck_ok hi]
    simp only [Option.bind_some]
    by_cases h0 : q < 0
    · rw [if_pos h0]
      rfl
    · rw [if_neg h0, if_neg (h3.resolve_left h0)]
      rfl
  rw [mL_writeBits, mL_writeBits_N, eN, mL_writeBits_T1_10, mX11_writeBits_T1_10, ckT_ok hi, mL_writeBits_T13, eT]
  rfl
theorem rf_writeBits2 {k : Nat} {w : Int32} {B : Nat → Nat → Int32} {f1 f2 f3 : Nat → Int32} {l1 l2 l3 : Int32} {q : Int32} {i : Nat} (hi : i < 8) (h3 : q < 0 ∨ ¬ q ≤ 2) : mX13_writeBits k w B f1 l1 f2 l2 l3 f3 (nI i) q = some (0, 2, f1, l1, f2, l2, l3, f3) := by
  rw [mX13_writeBits, ic_ok hi]
  simp only [Option.bind_some]
  rw [in2_bad h3]
  rfl
set_option maxHeartbeats 4000000 in
set_option maxRecDepth 100000 in
theorem hs_12 {k L j : Nat} {xs : Nat → Int32} {ax : Nat → Nat} {x : XS} {m : MS} {o : Nat → Int64} (hk : 1000 ≤ k) (hL : j + 6 ≤ L) (hL2 : L ≤ 3072) (h : Inv x m o) : ∃ R, mC_12 k xs L (nI j) (x.1) (x.2.1) (x.2.2.1) (x.2.2.2.1) (x.2.2.2.2.1) (x.2.2.2.2.2.1) (x.2.2.2.2.2.2.1) (x.2.2.2.2.2.2.2.1) (x.2.2.2.2.2.2.2.2.1) (x.2.2.2.2.2.2.2.2.2.1) (x.2.2.2.2.2.2.2.2.2.2.1) (x.2.2.2.2.2.2.2.2.2.2.2.1) (x.2.2.2.2.2.2.2.2.2.2.2.2.1) (x.2.2.2.2.2.2.2.2.2.2.2.2.2.1) (x.2.2.2.2.2.2.2.2.2.2.2.2.2.2.1) (x.2.2.2.2.2.2.2.2.2.2.2.2.2.2.2.1) (x.2.2.2.2.2.2.2.2.2.2.2.2.2.2.2.2.1) (x.2.2.2.2.2.2.2.2.2.2.2.2.2.2.2.2.2.1) (x.2.2.2.2.2.2.2.2.2.2.2.2.2.2.2.2.2.2.1) (x.2.2.2.2.2.2.2.2.2.2.2.2.2.2.2.2.2.2.2.1) (x.2.2.2.2.2.2.2.2.2.2.2.2.2.2.2.2.2.2.2.2.1) (x.2.2.2.2.2.2.2.2.2.2.2.2.2.2.2.2.2.2.2.2.2.1) (x.2.2.2.2.2.2.2.2.2.2.2.2.2.2.2.2.2.2.2.2.2.2.1) (x.2.2.2.2.2.2.2.2.2.2.2.2.2.2.2.2.2.2.2.2.2.2.2.1) (x.2.2.2.2.2.2.2.2.2.2.2.2.2.2.2.2.2.2.2.2.2.2.2.2.1) (x.2.2.2.2.2.2.2.2.2.2.2.2.2.2.2.2.2.2.2.2.2.2.2.2.2.1) (x.2.2.2.2.2.2.2.2.2.2.2.2.2.2.2.2.2.2.2.2.2.2.2.2.2.2.1) (x.2.2.2.2.2.2.2.2.2.2.2.2.2.2.2.2.2.2.2.2.2.2.2.2.2.2.2.1) (x.2.2.2.2.2.2.2.2.2.2.2.2.2.2.2.2.2.2.2.2.2.2.2.2.2.2.2.2.1) (x.2.2.2.2.2.2.2.2.2.2.2.2.2.2.2.2.2.2.2.2.2.2.2.2.2.2.2.2.2.1) (x.2.2.2.2.2.2.2.2.2.2.2.2.2.2.2.2.2.2.2.2.2.2.2.2.2.2.2.2.2.2.1) (x.2.2.2.2.2.2.2.2.2.2.2.2.2.2.2.2.2.2.2.2.2.2.2.2.2.2.2.2.2.2.2.1) (x.2.2.2.2.2.2.2.2.2.2.2.2.2.2.2.2.2.2.2.2.2.2.2.2.2.2.2.2.2.2.2.2) (m.2.1) (m.2.2.1) (m.2.2.2.1) (m.2.2.2.2.1) (m.2.2.2.2.2.1) (m.2.2.2.2.2.2.1) (m.2.2.2.2.2.2.2.1) (m.2.2.2.2.2.2.2.2.1) (m.2.2.2.2.2.2.2.2.2.1) (m.2.2.2.2.2.2.2.2.2.2.1) (m.2.2.2.2.2.2.2.2.2.2.2.1) (m.2.2.2.2.2.2.2.2.2.2.2.2.1) (m.2.2.2.2.2.2.2.2.2.2.2.2.2.1) (m.2.2.2.2.2.2.2.2.2.2.2.2.2.2.1) (m.2.2.2.2.2.2.2.2.2.2.2.2.2.2.2.1) (m.2.2.2.2.2.2.2.2.2.2.2.2.2.2.2.2.1) (m.2.2.2.2.2.2.2.2.2.2.2.2.2.2.2.2.2.1) (m.2.2.2.2.2.2.2.2.2.2.2.2.2.2.2.2.2.2.1) (m.2.2.2.2.2.2.2.2.2.2.2.2.2.2.2.2.2.2.2.1) (m.2.2.2.2.2.2.2.2.2.2.2.2.2.2.2.2.2.2.2.2.1) (m.2.2.2.2.2.2.2.2.2.2.2.2.2.2.2.2.2.2.2.2.2.1) (m.2.2.2.2.2.2.2.2.2.2.2.2.2.2.2.2.2.2.2.2.2.2.1) (m.2.2.2.2.2.2.2.2.2.2.2.2.2.2.2.2.2.2.2.2.2.2.2.1) (m.2.2.2.2.2.2.2.2.2.2.2.2.2.2.2.2.2.2.2.2.2.2.2.2.1) (m.2.2.2.2.2.2.2.2.2.2.2.2.2.2.2.2.2.2.2.2.2.2.2.2.2.1) (m.2.2.2.2.2.2.2.2.2.2.2.2.2.2.2.2.2.2.2.2.2.2.2.2.2.2.1) (m.2.2.2.2.2.2.2.2.2.2.2.2.2.2.2.2.2.2.2.2.2.2.2.2.2.2.2.1) (m.2.2.2.2.2.2.2.2.2.2.2.2.2.2.2.2.2.2.2.2.2.2.2.2.2.2.2.2.1) (m.2.2.2.2.2.2.2.2.2.2.2.2.2.2.2.2.2.2.2.2.2.2.2.2.2.2.2.2.2.1) (m.2.2.2.2.2.2.2.2.2.2.2.2.2.2.2.2.2.2.2.2.2.2.2.2.2.2.2.2.2.2.1) (m.2.2.2.2.2.2.2.2.2.2.2.2.2.2.2.2.2.2.2.2.2.2.2.2.2.2.2.2.2.2.2.1) (m.2.2.2.2.2.2.2.2.2.2.2.2.2.2.2.2.2.2.2.2.2.2.2.2.2.2.2.2.2.2.2.2.1) (m.2.2.2.2.2.2.2.2.2.2.2.2.2.2.2.2.2.2.2.2.2.2.2.2.2.2.2.2.2.2.2.2.2.1) (m.2.2.2.2.2.2.2.2.2.2.2.2.2.2.2.2.2.2.2.2.2.2.2.2.2.2.2.2.2.2.2.2.2.2.1) (m.2.2.2.2.2.2.2.2.2.2.2.2.2.2.2.2.2.2.2.2.2.2.2.2.2.2.2.2.2.2.2.2.2.2.2) o = some R ∧ Inv R.1 R.2.1 R.2.2 := by
  obtain ⟨b, c, tn, tx, pn, pg, hC, hw, hmw, hB, hp, ht⟩ := h
  rw [hw, hmw, mC_12]
  simp only [gd1 hL hL2, gd2 hL hL2, gd3 hL hL2, gd4 hL hL2, gd5 hL hL2, if_false]
  generalize xs (nI j + 1).toNatClampNeg = p
  generalize xs (nI j + 2).toNatClampNeg = q
  rcases cell_or p with hb | ⟨i, hi, e⟩
  · rw [cl_writeBits_bad hb]
    simp only [Option.bind_some]
    rw [rf_writeBits_bad hb]
    simp only [Option.bind_some, mX13_thrown, if_true, e10, e20, if_false]
    exact ⟨_, rfl, ⟨b, c, tn, tx, pn, pg, hC, rfl, rfl, hB, hp, ht⟩⟩
  · subst e
    by_cases h3 : q < 0 ∨ ¬ q ≤ 2
    · rw [cl_writeBits2 hi h3]
      simp only [Option.bind_some]
      rw [rf_writeBits2 hi h3]
      simp only [Option.bind_some, mX13_thrown, if_true, e10, e20, if_false]
      exact ⟨_, rfl, ⟨b, c, tn, tx, pn, pg, hC, rfl, rfl, hB, hp, ht⟩⟩
    · obtain ⟨r, er⟩ : ∃ r : Int32, ((if q = 0 then some 16 else (if q = 1 then some 8 else some 2)) : Option Int32) = some r := by
        split
        · exact ⟨_, rfl⟩
        · split <;> exact ⟨_, rfl⟩
      obtain ⟨R1, R2, -⟩ := rdx_spec r
      obtain ⟨n, hn⟩ := nd_get (A := szA b true (c i)) R1 (szA_lt64 b true (c i))
      have hn2 := hn.2.1
      have hg : (szN b true (c i)).toNat ≤ 1 := by cases szN b true (c i) <;> decide
      obtain ⟨f2, e1, a1⟩ := pr_cwrite (k := k) (f := (x.2.2.1)) hC hi (by omega) hn
      obtain ⟨pg2, ds2, one2, e2, a2⟩ := pr_writes (k := k) (pg := (m.2.2.2.1)) (ds := (m.2.2.2.2.2.1)) (one := (m.2.2.2.2.2.2.2.2.2.1)) hB hi (by omega) hn
      have eL : mL_writeBits k 65 (x.1) (x.2.2.1) (x.2.2.2.1) (bI b) o (nI i) q = some (0, f2, nI (n + (szN b true (c i)).toNat), vp_updL o 0 ((nI (n + (szN b true (c i)).toNat)).toInt64)) := by
        rw [mL_writeBits, mL_writeBits_N, mX11_writeBits, ck_ok hi]
        simp only [Option.bind_some]
        rw [if_neg (fun z => h3 (Or.inl z)), if_pos (Decidable.byContradiction (fun z => h3 (Or.inr z))), er]
        simp only [Option.bind_some]
        have e1' : mX2_writePage k 65 (x.1) (x.2.2.1) (bI b) (nI i) r 1 = _ := e1
        rw [e1']
        simp only [Option.bind_some, mX6_size, c00, z00, if_false]
      have eM : mX13_writeBits k (bI b) (m.2.2.1) (m.2.2.2.1) (m.2.2.2.2.1) (m.2.2.2.2.2.1) (m.2.2.2.2.2.2.1) (m.2.2.2.2.2.2.2.1) (m.2.2.2.2.2.2.2.2.2.1) (nI i) q = some (nI (n + (szN b true (c i)).toNat), 0, pg2, nI (n + (szN b true (c i)).toNat), ds2, nI n, bI (szN b true (c i)), one2) := by
        rw [mX13_writeBits, ic_ok hi]
        simp only [Option.bind_some]
        rw [in2_ok h3]
        simp only [Option.bind_some, ps_11]
        rw [if_neg (by decide), er]
        simp only [Option.bind_some]
        have e2' : mX12_writes k (bI b) (m.2.2.1) (m.2.2.2.1) (m.2.2.2.2.2.1) (m.2.2.2.2.2.2.2.2.2.1) (nI i) r 1 = _ := e2
        rw [e2']
        rfl
      rw [eL]
      simp only [Option.bind_some]
      rw [eM]
      simp only [Option.bind_some, mX13_thrown, if_true, c00, z00, if_false, up_0]
      rw [if_pos ((lg_cmp_eq _ _).mpr rfl)]
      exact ⟨_, rfl, ⟨b, c, tn, tx, n + (szN b true (c i)).toNat, _, hC, rfl, rfl, hB, ⟨by omega, rfl, rfl, fun q hq => ⟨a1 q hq, a2 q hq, pgB_bd R2 (by omega)⟩⟩, ht⟩⟩
theorem pr_app7 {tn pn N : Nat} {pg tx : Nat → Nat} {fp : Nat → Int32} (hN : N < 1000) (hp : pn ≤ N) (hpt : tn + pn ≤ 300) (hfp : ∀ q, q < pn → fp q = nI (pg q)) : ∀ (d i k : Nat) (f : Nat → Int32), i + d = pn → d < k → (∀ q, q < tn + i → f q = nI (if q < tn then tx q else pg (q - tn))) → ∃ f2, mX6_appendRow_L7 (nI pn) N fp 300 k (nI i) (nI (tn + i)) f = some (nI (tn + pn), f2) ∧ ∀ q, q < tn + pn → f2 q = nI (if q < tn then tx q else pg (q - tn))
  | _, _, 0, _, _, hk, _ => absurd hk (Nat.not_lt_zero _)
  | 0, i, k + 1, f, h, _, q1 => ⟨f, by rw [mX6_appendRow_L7, if_pos (nI_le (by omega) (by omega)), show tn + i = tn + pn by omega], fun q hq => q1 q (by omega)⟩
  | d + 1, i, k + 1, f, h, hk, q1 => by
    obtain ⟨f2, e, r⟩ := pr_app7 hN hp hpt hfp d (i + 1) k (upd f (tn + i) (nI (pg i))) (by omega) (by omega) (fun q hq => by
      by_cases hqi : q = tn + i
      · rw [hqi, pk_us, if_neg (by omega), show tn + i - tn = i by omega]
      · rw [pk_un hqi]
        exact q1 q (by omega))
    refine ⟨f2, ?_, r⟩
    rw [mX6_appendRow_L7, if_neg (nI_ge (by omega) (by omega)), pr_byteAt (show i < pn by omega) hp hN]
    simp only [Option.bind_some]
    rw [pr_append _ (by omega) (by omega), hfp i (by omega)]
    simp only [Option.bind_some]
    rw [nI_1]
    exact e
theorem pr_typed {n : Nat} {f : Nat → Int32} {s : Nat} (h0 : 0 < s) (hs : s < 1000) (hn : n < 300) : mX13_typed f (nI n) (nI s) = some (1, upd f n (nI s), nI (n + 1)) := by
  rw [mX13_typed, if_neg (nI_ne0 h0 (by omega))]
  simp only [Option.bind_some]
  rw [if_neg (by decide), if_neg (nI_in hn (by omega)), if_neg (by decide), nI_clamp (by omega), nI_1]
theorem pr_typed0 {n : Nat} {f : Nat → Int32} : mX13_typed f (nI n) (nI 0) = some (0, f, nI n) := by
  rw [mX13_typed, if_pos nI_0]
  rfl
theorem pr_cp35 {tn pn : Nat} {pg tx : Nat → Nat} {fp : Nat → Int32} (hp : pn ≤ 65) (hpt : tn + pn ≤ 300) (hfp : ∀ q, q < pn → fp q = nI (pg q) ∧ 0 < pg q ∧ pg q < 256) : ∀ (d i k : Nat) (f : Nat → Int32), i + d = pn → d < k → (∀ q, q < tn + i → f q = nI (if q < tn then tx q else pg (q - tn))) → ∃ f2, mX13_copyPage_L35 (nI pn) fp k (nI i) (nI (tn + i)) f = some (nI (tn + pn), f2) ∧ ∀ q, q < tn + pn → f2 q = nI (if q < tn then tx q else pg (q - tn))
  | _, _, 0, _, _, hk, _ => absurd hk (Nat.not_lt_zero _)
  | 0, i, k + 1, f, h, _, q1 => ⟨f, by rw [mX13_copyPage_L35, if_pos (nI_le (by omega) (by omega)), show tn + i = tn + pn by omega], fun q hq => q1 q (by omega)⟩
  | d + 1, i, k + 1, f, h, hk, q1 => by
    obtain ⟨f2, e, r⟩ := pr_cp35 hp hpt hfp d (i + 1) k (upd f (tn + i) (nI (pg i))) (by omega) (by omega) (fun q hq => by
      by_cases hqi : q = tn + i
      · rw [hqi, pk_us, if_neg (by omega), show tn + i - tn = i by omega]
      · rw [pk_un hqi]
        exact q1 q (by omega))
    refine ⟨f2, ?_, r⟩
    obtain ⟨g1, g2, g3⟩ := hfp i (by omega)
    rw [mX13_copyPage_L35, if_neg (nI_ge (by omega) (by omega)), if_neg (nI_in (show i < 66 by omega) (by omega)), nI_clamp (by omega), g1, pr_typed g2 (by omega) (by omega)]
    simp only [Option.bind_some]
    rw [nI_1]
    exact e
set_option maxHeartbeats 4000000 in
set_option maxRecDepth 100000 in
theorem hs_16 {k L j : Nat} {xs : Nat → Int32} {ax : Nat → Nat} {x : XS} {m : MS} {o : Nat → Int64} (hk : 1000 ≤ k) (hL : j + 6 ≤ L) (hL2 : L ≤ 3072) (h : Inv x m o) : ∃ R, mC_16 k (x.1) (x.2.1) (x.2.2.1) (x.2.2.2.1) (x.2.2.2.2.1) (x.2.2.2.2.2.1) (x.2.2.2.2.2.2.1) (x.2.2.2.2.2.2.2.1) (x.2.2.2.2.2.2.2.2.1) (x.2.2.2.2.2.2.2.2.2.1) (x.2.2.2.2.2.2.2.2.2.2.1) (x.2.2.2.2.2.2.2.2.2.2.2.1) (x.2.2.2.2.2.2.2.2.2.2.2.2.1) (x.2.2.2.2.2.2.2.2.2.2.2.2.2.1) (x.2.2.2.2.2.2.2.2.2.2.2.2.2.2.1) (x.2.2.2.2.2.2.2.2.2.2.2.2.2.2.2.1) (x.2.2.2.2.2.2.2.2.2.2.2.2.2.2.2.2.1) (x.2.2.2.2.2.2.2.2.2.2.2.2.2.2.2.2.2.1) (x.2.2.2.2.2.2.2.2.2.2.2.2.2.2.2.2.2.2.1) (x.2.2.2.2.2.2.2.2.2.2.2.2.2.2.2.2.2.2.2.1) (x.2.2.2.2.2.2.2.2.2.2.2.2.2.2.2.2.2.2.2.2.1) (x.2.2.2.2.2.2.2.2.2.2.2.2.2.2.2.2.2.2.2.2.2.1) (x.2.2.2.2.2.2.2.2.2.2.2.2.2.2.2.2.2.2.2.2.2.2.1) (x.2.2.2.2.2.2.2.2.2.2.2.2.2.2.2.2.2.2.2.2.2.2.2.1) (x.2.2.2.2.2.2.2.2.2.2.2.2.2.2.2.2.2.2.2.2.2.2.2.2.1) (x.2.2.2.2.2.2.2.2.2.2.2.2.2.2.2.2.2.2.2.2.2.2.2.2.2.1) (x.2.2.2.2.2.2.2.2.2.2.2.2.2.2.2.2.2.2.2.2.2.2.2.2.2.2.1) (x.2.2.2.2.2.2.2.2.2.2.2.2.2.2.2.2.2.2.2.2.2.2.2.2.2.2.2.1) (x.2.2.2.2.2.2.2.2.2.2.2.2.2.2.2.2.2.2.2.2.2.2.2.2.2.2.2.2.1) (x.2.2.2.2.2.2.2.2.2.2.2.2.2.2.2.2.2.2.2.2.2.2.2.2.2.2.2.2.2.1) (x.2.2.2.2.2.2.2.2.2.2.2.2.2.2.2.2.2.2.2.2.2.2.2.2.2.2.2.2.2.2.1) (x.2.2.2.2.2.2.2.2.2.2.2.2.2.2.2.2.2.2.2.2.2.2.2.2.2.2.2.2.2.2.2.1) (x.2.2.2.2.2.2.2.2.2.2.2.2.2.2.2.2.2.2.2.2.2.2.2.2.2.2.2.2.2.2.2.2) (m.2.1) (m.2.2.1) (m.2.2.2.1) (m.2.2.2.2.1) (m.2.2.2.2.2.1) (m.2.2.2.2.2.2.1) (m.2.2.2.2.2.2.2.1) (m.2.2.2.2.2.2.2.2.1) (m.2.2.2.2.2.2.2.2.2.1) (m.2.2.2.2.2.2.2.2.2.2.1) (m.2.2.2.2.2.2.2.2.2.2.2.1) (m.2.2.2.2.2.2.2.2.2.2.2.2.1) (m.2.2.2.2.2.2.2.2.2.2.2.2.2.1) (m.2.2.2.2.2.2.2.2.2.2.2.2.2.2.1) (m.2.2.2.2.2.2.2.2.2.2.2.2.2.2.2.1) (m.2.2.2.2.2.2.2.2.2.2.2.2.2.2.2.2.1) (m.2.2.2.2.2.2.2.2.2.2.2.2.2.2.2.2.2.1) (m.2.2.2.2.2.2.2.2.2.2.2.2.2.2.2.2.2.2.1) (m.2.2.2.2.2.2.2.2.2.2.2.2.2.2.2.2.2.2.2.1) (m.2.2.2.2.2.2.2.2.2.2.2.2.2.2.2.2.2.2.2.2.1) (m.2.2.2.2.2.2.2.2.2.2.2.2.2.2.2.2.2.2.2.2.2.1) (m.2.2.2.2.2.2.2.2.2.2.2.2.2.2.2.2.2.2.2.2.2.2.1) (m.2.2.2.2.2.2.2.2.2.2.2.2.2.2.2.2.2.2.2.2.2.2.2.1) (m.2.2.2.2.2.2.2.2.2.2.2.2.2.2.2.2.2.2.2.2.2.2.2.2.1) (m.2.2.2.2.2.2.2.2.2.2.2.2.2.2.2.2.2.2.2.2.2.2.2.2.2.1) (m.2.2.2.2.2.2.2.2.2.2.2.2.2.2.2.2.2.2.2.2.2.2.2.2.2.2.1) (m.2.2.2.2.2.2.2.2.2.2.2.2.2.2.2.2.2.2.2.2.2.2.2.2.2.2.2.1) (m.2.2.2.2.2.2.2.2.2.2.2.2.2.2.2.2.2.2.2.2.2.2.2.2.2.2.2.2.1) (m.2.2.2.2.2.2.2.2.2.2.2.2.2.2.2.2.2.2.2.2.2.2.2.2.2.2.2.2.2.1) (m.2.2.2.2.2.2.2.2.2.2.2.2.2.2.2.2.2.2.2.2.2.2.2.2.2.2.2.2.2.2.1) (m.2.2.2.2.2.2.2.2.2.2.2.2.2.2.2.2.2.2.2.2.2.2.2.2.2.2.2.2.2.2.2.1) (m.2.2.2.2.2.2.2.2.2.2.2.2.2.2.2.2.2.2.2.2.2.2.2.2.2.2.2.2.2.2.2.2.1) (m.2.2.2.2.2.2.2.2.2.2.2.2.2.2.2.2.2.2.2.2.2.2.2.2.2.2.2.2.2.2.2.2.2.1) (m.2.2.2.2.2.2.2.2.2.2.2.2.2.2.2.2.2.2.2.2.2.2.2.2.2.2.2.2.2.2.2.2.2.2.1) (m.2.2.2.2.2.2.2.2.2.2.2.2.2.2.2.2.2.2.2.2.2.2.2.2.2.2.2.2.2.2.2.2.2.2.2) o = some R ∧ Inv R.1 R.2.1 R.2.2 := by
  obtain ⟨b, c, tn, tx, pn, pg, hC, hw, hmw, hB, hp, ht⟩ := h
  obtain ⟨p1, p2, p3, p4⟩ := hp
  obtain ⟨h1, h2, h3, h4⟩ := ht
  rw [p2, p3, h2, h3, mC_16]
  by_cases hr : tn + pn ≤ 300
  · obtain ⟨f2, e1, a1⟩ := pr_app7 (N := 65) (tx := tx) (by omega) p1 hr (fun q hq => (p4 q hq).1) pn 0 k (x.2.2.2.2.2.2.1) (by omega) (by omega) (fun q hq => by rw [if_pos (by omega)]; exact (h4 q (by omega)).1)
    obtain ⟨f3, e2, a2⟩ := pr_cp35 (tx := tx) p1 hr (fun q hq => (p4 q hq).2) pn 0 k (m.2.2.2.2.2.2.2.2.2.2.2.2.2.2.2.2.2.2.2.2.2.2.2.2.2.1) (by omega) (by omega) (fun q hq => by rw [if_pos (by omega)]; exact (h4 q (by omega)).2.1)
    have eL : mL_copyPage k 65 300 (x.2.2.1) (nI pn) (x.2.2.2.2.2.2.1) (nI tn) o = some (0, f2, nI (tn + pn), vp_updL o 0 ((nI (tn + pn)).toInt64)) := by
      rw [mL_copyPage, mL_copyPage_N, mX11_copyPage, mX6_size]
      simp only [Option.bind_some]
      rw [mX11_checkRoom, mX6_size]
      simp only [Option.bind_some]
      rw [nI_add, if_pos (show nI (tn + pn) ≤ (300 : Int32) from nI_le (b := 300) hr (by omega))]
      simp only [Option.bind_some]
      have e1' : mX6_appendRow_L7 (nI pn) 65 (x.2.2.1) 300 k 0 (nI tn) (x.2.2.2.2.2.2.1) = some (nI (tn + pn), f2) := e1
      rw [mX6_appendRow, e1']
      simp only [Option.bind_some, mX6_size, c00, z00, if_false]
    have eM : mX13_copyPage k (m.2.2.2.1) (nI pn) (m.2.2.2.2.2.2.2.2.2.2.2.2.2.2.2.2.2.2.2.2.2.2.2.2.2.1) (nI tn) = some (nI (tn + pn), 0, f3, nI (tn + pn)) := by
      have e2' : mX13_copyPage_L35 (nI pn) (m.2.2.2.1) k 0 (nI tn) (m.2.2.2.2.2.2.2.2.2.2.2.2.2.2.2.2.2.2.2.2.2.2.2.2.2.1) = some (nI (tn + pn), f3) := e2
      rw [mX13_copyPage, nI_add, if_neg (show ¬ (300 : Int32) < nI (tn + pn) from nI_nlt (a := 300) (by omega) (by omega))]
      simp only [Option.bind_some, ps_11]
      rw [if_neg (by decide), e2']
      rfl
    rw [eL]
    simp only [Option.bind_some]
    rw [eM]
    simp only [Option.bind_some, mX13_thrown, if_true, c00, z00, if_false, up_0]
    rw [if_pos ((lg_cmp_eq _ _).mpr rfl)]
    exact ⟨_, rfl, ⟨b, c, tn + pn, _, pn, pg, hC, hw, hmw, hB, ⟨p1, rfl, rfl, p4⟩, ⟨hr, rfl, rfl, fun q hq => ⟨a1 q hq, a2 q hq, by
      split
      · exact (h4 q (by omega)).2.2
      · exact (p4 (q - tn) (by omega)).2.2.2⟩⟩⟩⟩
  · have eL : mL_copyPage k 65 300 (x.2.2.1) (nI pn) (x.2.2.2.2.2.2.1) (nI tn) o = some (1, (x.2.2.2.2.2.2.1), nI tn, o) := by
      rw [mL_copyPage, mL_copyPage_N, mX11_copyPage, mX6_size, mL_copyPage_T11_15, mX11_copyPage_T11_15, mX6_size]
      simp only [Option.bind_some]
      rw [mX11_checkRoom, mX6_size, mX11_checkRoom_T15, mX6_size]
      simp only [Option.bind_some]
      rw [nI_add, if_neg (show ¬ nI (tn + pn) ≤ (300 : Int32) from nI_ge (a := 300) (by omega) (by omega)), if_neg (show ¬ nI (tn + pn) ≤ (300 : Int32) from nI_ge (a := 300) (by omega) (by omega))]
      rfl
    have eM : mX13_copyPage k (m.2.2.2.1) (nI pn) (m.2.2.2.2.2.2.2.2.2.2.2.2.2.2.2.2.2.2.2.2.2.2.2.2.2.1) (nI tn) = some (0, 1, (m.2.2.2.2.2.2.2.2.2.2.2.2.2.2.2.2.2.2.2.2.2.2.2.2.2.1), nI tn) := by
      rw [mX13_copyPage, nI_add, if_pos (show (300 : Int32) < nI (tn + pn) from nI_lt (a := 300) (by omega) (by omega))]
      rfl
    rw [eL]
    simp only [Option.bind_some]
    rw [eM]
    simp only [Option.bind_some, mX13_thrown, if_true, e10, e20, if_false]
    exact ⟨_, rfl, ⟨b, c, tn, tx, pn, pg, hC, hw, hmw, hB, ⟨p1, rfl, rfl, p4⟩, ⟨h1, rfl, rfl, h4⟩⟩⟩
