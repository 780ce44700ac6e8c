/-! pure: more of the cells' calls -/
theorem ckT_ok {j : Nat} (h : j < 8) : mX11_checkCell_T10 (nI j) = none := by
  rw [mX11_checkCell_T10, if_neg (nI_pos (by omega)), if_pos (show nI j < (8 : Int32) from nI_lt (b := 8) h (by omega))]
theorem cl_spread_bad {xc : Nat → Int64} {w : Int32} {o : Nat → Int64} {p : Int32} (h : cellBad p) : mL_spread xc w o p = some (1, xc, o) := by
  rw [mL_spread, mL_spread_N, mX11_spread, ck_bad h, mL_spread_T1_10, mX11_spread_T1_10, ckT_bad h]
  rfl
theorem rf_spread_bad {k : Nat} {w : Int32} {B : Nat → Nat → Int32} {p : Int32} (h : cellBad p) : mX13_spread k w B p = some (0, 1, B) := by
  rw [mX13_spread, ic_bad h]
  rfl
theorem and_low (v : BitVec 64) : Int64.ofBitVec v &&& 4294967295 = Int64.ofBitVec ((v.setWidth 32).setWidth 64) := by
  have h := pr_plain false v
  rw [mX1_plain, if_pos bI_f] at h
  exact Option.some.inj h
theorem pr_cspread {f : Nat → Int64} {c : Nat → BitVec 64} {i : Nat} (hC : isC f c) (hi : i < 8) : mX2_clearUpperHalf f (nI i) = some (vp_updL f i (Int64.ofBitVec (((c i).setWidth 32).setWidth 64))) := by
  rw [mX2_clearUpperHalf, pr_allBits hC hi]
  simp only [Option.bind_some]
  rw [and_low, pr_keep _ hi]
  rfl
set_option maxHeartbeats 4000000 in
set_option maxRecDepth 100000 in
theorem hs_33 {k L j : Nat} {xs : Nat → Int32} {ax : Nat → Nat} {x : XS} {m : MS} {o : Nat → Int64} (hk : 1000 ≤ k) (hL : j + 6 ≤ L) (hL2 : L ≤ 3072) (h : Inv x m o) : ∃ R, mC_33 k xs L (nI j) (x.1) (x.2.1) (x.2.2.1) (x.2.2.2.1) (x.2.2.2.2.1) (x.2.2.2.2.2.1) (x.2.2.2.2.2.2.1) (x.2.2.2.2.2.2.2.1) (x.2.2.2.2.2.2.2.2.1) (x.2.2.2.2.2.2.2.2.2.1) (x.2.2.2.2.2.2.2.2.2.2.1) (x.2.2.2.2.2.2.2.2.2.2.2.1) (x.2.2.2.2.2.2.2.2.2.2.2.2.1) (x.2.2.2.2.2.2.2.2.2.2.2.2.2.1) (x.2.2.2.2.2.2.2.2.2.2.2.2.2.2.1) (x.2.2.2.2.2.2.2.2.2.2.2.2.2.2.2.1) (x.2.2.2.2.2.2.2.2.2.2.2.2.2.2.2.2.1) (x.2.2.2.2.2.2.2.2.2.2.2.2.2.2.2.2.2.1) (x.2.2.2.2.2.2.2.2.2.2.2.2.2.2.2.2.2.2.1) (x.2.2.2.2.2.2.2.2.2.2.2.2.2.2.2.2.2.2.2.1) (x.2.2.2.2.2.2.2.2.2.2.2.2.2.2.2.2.2.2.2.2.1) (x.2.2.2.2.2.2.2.2.2.2.2.2.2.2.2.2.2.2.2.2.2.1) (x.2.2.2.2.2.2.2.2.2.2.2.2.2.2.2.2.2.2.2.2.2.2.1) (x.2.2.2.2.2.2.2.2.2.2.2.2.2.2.2.2.2.2.2.2.2.2.2.1) (x.2.2.2.2.2.2.2.2.2.2.2.2.2.2.2.2.2.2.2.2.2.2.2.2.1) (x.2.2.2.2.2.2.2.2.2.2.2.2.2.2.2.2.2.2.2.2.2.2.2.2.2.1) (x.2.2.2.2.2.2.2.2.2.2.2.2.2.2.2.2.2.2.2.2.2.2.2.2.2.2.1) (x.2.2.2.2.2.2.2.2.2.2.2.2.2.2.2.2.2.2.2.2.2.2.2.2.2.2.2.1) (x.2.2.2.2.2.2.2.2.2.2.2.2.2.2.2.2.2.2.2.2.2.2.2.2.2.2.2.2.1) (x.2.2.2.2.2.2.2.2.2.2.2.2.2.2.2.2.2.2.2.2.2.2.2.2.2.2.2.2.2.1) (x.2.2.2.2.2.2.2.2.2.2.2.2.2.2.2.2.2.2.2.2.2.2.2.2.2.2.2.2.2.2.1) (x.2.2.2.2.2.2.2.2.2.2.2.2.2.2.2.2.2.2.2.2.2.2.2.2.2.2.2.2.2.2.2.1) (x.2.2.2.2.2.2.2.2.2.2.2.2.2.2.2.2.2.2.2.2.2.2.2.2.2.2.2.2.2.2.2.2) (m.2.1) (m.2.2.1) (m.2.2.2.1) (m.2.2.2.2.1) (m.2.2.2.2.2.1) (m.2.2.2.2.2.2.1) (m.2.2.2.2.2.2.2.1) (m.2.2.2.2.2.2.2.2.1) (m.2.2.2.2.2.2.2.2.2.1) (m.2.2.2.2.2.2.2.2.2.2.1) (m.2.2.2.2.2.2.2.2.2.2.2.1) (m.2.2.2.2.2.2.2.2.2.2.2.2.1) (m.2.2.2.2.2.2.2.2.2.2.2.2.2.1) (m.2.2.2.2.2.2.2.2.2.2.2.2.2.2.1) (m.2.2.2.2.2.2.2.2.2.2.2.2.2.2.2.1) (m.2.2.2.2.2.2.2.2.2.2.2.2.2.2.2.2.1) (m.2.2.2.2.2.2.2.2.2.2.2.2.2.2.2.2.2.1) (m.2.2.2.2.2.2.2.2.2.2.2.2.2.2.2.2.2.2.1) (m.2.2.2.2.2.2.2.2.2.2.2.2.2.2.2.2.2.2.2.1) (m.2.2.2.2.2.2.2.2.2.2.2.2.2.2.2.2.2.2.2.2.1) (m.2.2.2.2.2.2.2.2.2.2.2.2.2.2.2.2.2.2.2.2.2.1) (m.2.2.2.2.2.2.2.2.2.2.2.2.2.2.2.2.2.2.2.2.2.2.1) (m.2.2.2.2.2.2.2.2.2.2.2.2.2.2.2.2.2.2.2.2.2.2.2.1) (m.2.2.2.2.2.2.2.2.2.2.2.2.2.2.2.2.2.2.2.2.2.2.2.2.1) (m.2.2.2.2.2.2.2.2.2.2.2.2.2.2.2.2.2.2.2.2.2.2.2.2.2.1) (m.2.2.2.2.2.2.2.2.2.2.2.2.2.2.2.2.2.2.2.2.2.2.2.2.2.2.1) (m.2.2.2.2.2.2.2.2.2.2.2.2.2.2.2.2.2.2.2.2.2.2.2.2.2.2.2.1) (m.2.2.2.2.2.2.2.2.2.2.2.2.2.2.2.2.2.2.2.2.2.2.2.2.2.2.2.2.1) (m.2.2.2.2.2.2.2.2.2.2.2.2.2.2.2.2.2.2.2.2.2.2.2.2.2.2.2.2.2.1) (m.2.2.2.2.2.2.2.2.2.2.2.2.2.2.2.2.2.2.2.2.2.2.2.2.2.2.2.2.2.2.1) (m.2.2.2.2.2.2.2.2.2.2.2.2.2.2.2.2.2.2.2.2.2.2.2.2.2.2.2.2.2.2.2.1) (m.2.2.2.2.2.2.2.2.2.2.2.2.2.2.2.2.2.2.2.2.2.2.2.2.2.2.2.2.2.2.2.2.1) (m.2.2.2.2.2.2.2.2.2.2.2.2.2.2.2.2.2.2.2.2.2.2.2.2.2.2.2.2.2.2.2.2.2.1) (m.2.2.2.2.2.2.2.2.2.2.2.2.2.2.2.2.2.2.2.2.2.2.2.2.2.2.2.2.2.2.2.2.2.2.1) (m.2.2.2.2.2.2.2.2.2.2.2.2.2.2.2.2.2.2.2.2.2.2.2.2.2.2.2.2.2.2.2.2.2.2.2) o = some R ∧ Inv R.1 R.2.1 R.2.2 := by
  obtain ⟨b, c, tn, tx, pn, pg, hC, hw, hmw, hB, hp, ht⟩ := h
  rw [hw, hmw, mC_33]
  simp only [gd1 hL hL2, gd2 hL hL2, gd3 hL hL2, gd4 hL hL2, gd5 hL hL2, if_false]
  generalize xs (nI j + 1).toNatClampNeg = p
  rcases cell_or p with hb | ⟨i, hi, e⟩
  · rw [cl_spread_bad hb]
    simp only [Option.bind_some]
    rw [rf_spread_bad hb]
    simp only [Option.bind_some, mX13_thrown, if_true, e10, e20, if_false]
    exact ⟨_, rfl, ⟨b, c, tn, tx, pn, pg, hC, rfl, rfl, hB, hp, ht⟩⟩
  · subst e
    have hC2 := hC.up i (((c i).setWidth 32).setWidth 64)
    obtain ⟨B2, e2, hB2⟩ := pr_spreads (b := b) (k := k) hB hi (by omega)
    have ec : upC c i (((c i).setWidth 32).setWidth 64) i = ((c i).setWidth 32).setWidth 64 := if_pos rfl
    have eL : mL_spread (x.1) (bI b) o (nI i) = some (0, vp_updL x.1 i (Int64.ofBitVec (((c i).setWidth 32).setWidth 64)), vp_updL o 0 (Int64.ofBitVec (sgn b (((c i).setWidth 32).setWidth 64)))) := by
      rw [mL_spread, mL_spread_N, mX11_spread, ck_ok hi]
      simp only [Option.bind_some]
      rw [pr_cspread hC hi]
      simp only [Option.bind_some]
      rw [pr_csigned b hC2 hi, ec]
      simp only [Option.bind_some, c00, z00, if_false]
    have eM : mX13_spread k (bI b) (m.2.2.1) (nI i) = some (Int64.ofBitVec (sgn b (((c i).setWidth 32).setWidth 64)), 0, B2) := by
      rw [mX13_spread, ic_ok hi]
      simp only [Option.bind_some, ps_11]
      rw [if_neg (by decide), e2]
      rfl
    rw [eL]
    simp only [Option.bind_some]
    rw [eM]
    simp only [Option.bind_some, mX13_thrown, if_true, c00, z00, if_false, up_0]
    rw [if_pos ((lg_cmp_eq _ _).mpr rfl)]
    exact ⟨_, rfl, ⟨b, upC c i (((c i).setWidth 32).setWidth 64), tn, tx, pn, pg, hC2, rfl, rfl, hB2, hp, ht⟩⟩
theorem in_bad {p : Int32} (h : p < 0 ∨ ¬ p ≤ 5) : mX13_in p 0 5 = some 0 := by
  rw [mX13_in]
  by_cases h0 : p < 0
  · rw [if_pos h0]
  · rw [if_neg h0, if_pos]
    have h1 := h.resolve_left h0
    rw [Int32.le_iff_toInt_le] at h1
    exact Int32.lt_iff_toInt_lt.mpr (by omega)
theorem in_ok {p : Int32} (h : ¬ (p < 0 ∨ ¬ p ≤ 5)) : mX13_in p 0 5 = some 1 := by
  rw [mX13_in, if_neg (fun z => h (Or.inl z)), if_neg]
  intro z
  refine h (Or.inr (fun y => ?_))
  rw [Int32.le_iff_toInt_le] at y
  rw [Int32.lt_iff_toInt_lt] at z
  omega
theorem pr_rcombine {b : Bool} {k i q : Nat} {p3 : Int32} {B R : Nat → Nat → Int32} {s1 s2 o2 s3 : Nat → Int32} {v : Int64} (hi : i < 8) (hq : q < 8) (h3 : ¬ (p3 < 0 ∨ ¬ p3 ≤ 5)) (e : mX12_combines k (bI b) B s1 s2 (nI i) (nI q) p3 = some (v, R, o2, s3)) : mX13_combine k (bI b) B s1 s2 (nI i) (nI q) p3 = some (v, 0, R, o2, s3) := by
  rw [mX13_combine, ic_ok hi]
  simp only [Option.bind_some]
  rw [if_neg (by decide), ic_ok hq]
  simp only [Option.bind_some]
  rw [if_neg (by decide)]
  simp only [Option.bind_some]
  rw [in_ok h3]
  simp only [Option.bind_some, ps_11]
  rw [if_neg (by decide), e]
  rfl
theorem pr_rcombine2 {k i q : Nat} {w p3 : Int32} {B : Nat → Nat → Int32} {s1 s2 : Nat → Int32} (hi : i < 8) (hq : q < 8) (h3 : (p3 < 0 ∨ ¬ p3 ≤ 5)) : mX13_combine k w B s1 s2 (nI i) (nI q) p3 = some (0, 2, B, s1, s2) := by
  rw [mX13_combine, ic_ok hi]
  simp only [Option.bind_some]
  rw [if_neg (by decide), ic_ok hq]
  simp only [Option.bind_some]
  rw [if_neg (by decide)]
  simp only [Option.bind_some]
  rw [in_bad h3]
  simp only [Option.bind_some, ps_10, if_true]
theorem pr_rcombine1 {k : Nat} {w p1 p2 p3 : Int32} {B : Nat → Nat → Int32} {s1 s2 : Nat → Int32} (h : cellBad p1 ∨ (∃ i, i < 8 ∧ p1 = nI i) ∧ cellBad p2) : mX13_combine k w B s1 s2 p1 p2 p3 = some (0, 1, B, s1, s2) := by
  have hin : ∃ z, mX13_in p3 0 5 = some z ∧ (z = 0 ∨ z = 1) := by
    rw [mX13_in]
    split
    · exact ⟨0, rfl, Or.inl rfl⟩
    · split
      · exact ⟨0, rfl, Or.inl rfl⟩
      · exact ⟨1, rfl, Or.inr rfl⟩
  obtain ⟨z, ez, hz⟩ := hin
  have hps : mX13_passes 0 z = some (0, 1) := by rcases hz with hz | hz <;> rw [hz] <;> rfl
  rcases h with h | ⟨⟨i, hi, e⟩, h⟩
  · rw [mX13_combine, ic_bad h]
    simp only [Option.bind_some, if_true]
    rw [ez]
    simp only [Option.bind_some]
    rw [hps]
    simp only [Option.bind_some, if_true]
  · rw [mX13_combine, e, ic_ok hi]
    simp only [Option.bind_some]
    rw [if_neg (by decide), ic_bad h]
    simp only [Option.bind_some, if_true]
    rw [ez]
    simp only [Option.bind_some]
    rw [hps]
    simp only [Option.bind_some, if_true]
theorem cl_combine1 {xc : Nat → Int64} {w p1 p2 p3 : Int32} {o : Nat → Int64} (h : cellBad p1 ∨ (∃ i, i < 8 ∧ p1 = nI i) ∧ cellBad p2) : mL_combine xc w o p1 p2 p3 = some (1, xc, o) := by
  rcases h with h | ⟨⟨i, hi, e⟩, h⟩
  · rw [mL_combine, mL_combine_N, mX11_combine, ck_bad h, mL_combine_T1_10, mX11_combine_T1_10, ckT_bad h]
    rfl
  · subst e
    rw [mL_combine, mL_combine_N, mX11_combine, ck_ok hi, ck_bad h, mL_combine_T1_10, mX11_combine_T1_10, ckT_ok hi, mL_combine_T5_10, mX11_combine_T5_10, ck_ok hi, ckT_bad h]
    rfl
theorem cl_combine2 {xc : Nat → Int64} {w p3 : Int32} {i q : Nat} {o : Nat → Int64} (hi : i < 8) (hq : q < 8) (h3 : (p3 < 0 ∨ ¬ p3 ≤ 5)) : mL_combine xc w o (nI i) (nI q) p3 = some (2, xc, o) := by
  have eN : mX11_combine xc w (nI i) (nI q) p3 = none := by
    rw [mX11_combine, ck_ok hi, ck_ok hq]
    simp only [Option.bind_some]
    by_cases h0 : p3 < 0
    · rw [if_pos h0]
    · rw [if_neg h0, if_neg (h3.resolve_left h0)]
  have eT : mX11_combine_T17 xc w (nI i) (nI q) p3 = some () := by
    rw [mX11_combine_T17, ck_ok hi, ck_ok hq]
    simp only [Option.bind_some]
    by_cases h0 : p3 < 0
    · rw [if_pos h0]
      rfl
    · rw [if_neg h0, if_neg (h3.resolve_left h0)]
      rfl
  rw [mL_combine, mL_combine_N, eN, mL_combine_T1_10, mX11_combine_T1_10, ckT_ok hi, mL_combine_T5_10, mX11_combine_T5_10, ck_ok hi, ckT_ok hq, mL_combine_T17, eT]
  rfl
set_option maxHeartbeats 4000000 in
set_option maxRecDepth 100000 in
theorem hs_34 {k L j : Nat} {xs : Nat → Int32} {ax : Nat → Nat} {x : XS} {m : MS} {o : Nat → Int64} (hk : 1000 ≤ k) (hL : j + 6 ≤ L) (hL2 : L ≤ 3072) (h : Inv x m o) : ∃ R, mC_34 k xs L (nI j) (x.1) (x.2.1) (x.2.2.1) (x.2.2.2.1) (x.2.2.2.2.1) (x.2.2.2.2.2.1) (x.2.2.2.2.2.2.1) (x.2.2.2.2.2.2.2.1) (x.2.2.2.2.2.2.2.2.1) (x.2.2.2.2.2.2.2.2.2.1) (x.2.2.2.2.2.2.2.2.2.2.1) (x.2.2.2.2.2.2.2.2.2.2.2.1) (x.2.2.2.2.2.2.2.2.2.2.2.2.1) (x.2.2.2.2.2.2.2.2.2.2.2.2.2.1) (x.2.2.2.2.2.2.2.2.2.2.2.2.2.2.1) (x.2.2.2.2.2.2.2.2.2.2.2.2.2.2.2.1) (x.2.2.2.2.2.2.2.2.2.2.2.2.2.2.2.2.1) (x.2.2.2.2.2.2.2.2.2.2.2.2.2.2.2.2.2.1) (x.2.2.2.2.2.2.2.2.2.2.2.2.2.2.2.2.2.2.1) (x.2.2.2.2.2.2.2.2.2.2.2.2.2.2.2.2.2.2.2.1) (x.2.2.2.2.2.2.2.2.2.2.2.2.2.2.2.2.2.2.2.2.1) (x.2.2.2.2.2.2.2.2.2.2.2.2.2.2.2.2.2.2.2.2.2.1) (x.2.2.2.2.2.2.2.2.2.2.2.2.2.2.2.2.2.2.2.2.2.2.1) (x.2.2.2.2.2.2.2.2.2.2.2.2.2.2.2.2.2.2.2.2.2.2.2.1) (x.2.2.2.2.2.2.2.2.2.2.2.2.2.2.2.2.2.2.2.2.2.2.2.2.1) (x.2.2.2.2.2.2.2.2.2.2.2.2.2.2.2.2.2.2.2.2.2.2.2.2.2.1) (x.2.2.2.2.2.2.2.2.2.2.2.2.2.2.2.2.2.2.2.2.2.2.2.2.2.2.1) (x.2.2.2.2.2.2.2.2.2.2.2.2.2.2.2.2.2.2.2.2.2.2.2.2.2.2.2.1) (x.2.2.2.2.2.2.2.2.2.2.2.2.2.2.2.2.2.2.2.2.2.2.2.2.2.2.2.2.1) (x.2.2.2.2.2.2.2.2.2.2.2.2.2.2.2.2.2.2.2.2.2.2.2.2.2.2.2.2.2.1) (x.2.2.2.2.2.2.2.2.2.2.2.2.2.2.2.2.2.2.2.2.2.2.2.2.2.2.2.2.2.2.1) (x.2.2.2.2.2.2.2.2.2.2.2.2.2.2.2.2.2.2.2.2.2.2.2.2.2.2.2.2.2.2.2.1) (x.2.2.2.2.2.2.2.2.2.2.2.2.2.2.2.2.2.2.2.2.2.2.2.2.2.2.2.2.2.2.2.2) (m.2.1) (m.2.2.1) (m.2.2.2.1) (m.2.2.2.2.1) (m.2.2.2.2.2.1) (m.2.2.2.2.2.2.1) (m.2.2.2.2.2.2.2.1) (m.2.2.2.2.2.2.2.2.1) (m.2.2.2.2.2.2.2.2.2.1) (m.2.2.2.2.2.2.2.2.2.2.1) (m.2.2.2.2.2.2.2.2.2.2.2.1) (m.2.2.2.2.2.2.2.2.2.2.2.2.1) (m.2.2.2.2.2.2.2.2.2.2.2.2.2.1) (m.2.2.2.2.2.2.2.2.2.2.2.2.2.2.1) (m.2.2.2.2.2.2.2.2.2.2.2.2.2.2.2.1) (m.2.2.2.2.2.2.2.2.2.2.2.2.2.2.2.2.1) (m.2.2.2.2.2.2.2.2.2.2.2.2.2.2.2.2.2.1) (m.2.2.2.2.2.2.2.2.2.2.2.2.2.2.2.2.2.2.1) (m.2.2.2.2.2.2.2.2.2.2.2.2.2.2.2.2.2.2.2.1) (m.2.2.2.2.2.2.2.2.2.2.2.2.2.2.2.2.2.2.2.2.1) (m.2.2.2.2.2.2.2.2.2.2.2.2.2.2.2.2.2.2.2.2.2.1) (m.2.2.2.2.2.2.2.2.2.2.2.2.2.2.2.2.2.2.2.2.2.2.1) (m.2.2.2.2.2.2.2.2.2.2.2.2.2.2.2.2.2.2.2.2.2.2.2.1) (m.2.2.2.2.2.2.2.2.2.2.2.2.2.2.2.2.2.2.2.2.2.2.2.2.1) (m.2.2.2.2.2.2.2.2.2.2.2.2.2.2.2.2.2.2.2.2.2.2.2.2.2.1) (m.2.2.2.2.2.2.2.2.2.2.2.2.2.2.2.2.2.2.2.2.2.2.2.2.2.2.1) (m.2.2.2.2.2.2.2.2.2.2.2.2.2.2.2.2.2.2.2.2.2.2.2.2.2.2.2.1) (m.2.2.2.2.2.2.2.2.2.2.2.2.2.2.2.2.2.2.2.2.2.2.2.2.2.2.2.2.1) (m.2.2.2.2.2.2.2.2.2.2.2.2.2.2.2.2.2.2.2.2.2.2.2.2.2.2.2.2.2.1) (m.2.2.2.2.2.2.2.2.2.2.2.2.2.2.2.2.2.2.2.2.2.2.2.2.2.2.2.2.2.2.1) (m.2.2.2.2.2.2.2.2.2.2.2.2.2.2.2.2.2.2.2.2.2.2.2.2.2.2.2.2.2.2.2.1) (m.2.2.2.2.2.2.2.2.2.2.2.2.2.2.2.2.2.2.2.2.2.2.2.2.2.2.2.2.2.2.2.2.1) (m.2.2.2.2.2.2.2.2.2.2.2.2.2.2.2.2.2.2.2.2.2.2.2.2.2.2.2.2.2.2.2.2.2.1) (m.2.2.2.2.2.2.2.2.2.2.2.2.2.2.2.2.2.2.2.2.2.2.2.2.2.2.2.2.2.2.2.2.2.2.1) (m.2.2.2.2.2.2.2.2.2.2.2.2.2.2.2.2.2.2.2.2.2.2.2.2.2.2.2.2.2.2.2.2.2.2.2) o = some R ∧ Inv R.1 R.2.1 R.2.2 := by
  obtain ⟨b, c, tn, tx, pn, pg, hC, hw, hmw, hB, hp, ht⟩ := h
  rw [hw, hmw, mC_34]
  simp only [gd1 hL hL2, gd2 hL hL2, gd3 hL hL2, gd4 hL hL2, gd5 hL hL2, if_false]
  generalize xs (nI j + 1).toNatClampNeg = p1
  generalize xs (nI j + 2).toNatClampNeg = p2
  generalize xs (nI j + 3).toNatClampNeg = p3
  by_cases hb : cellBad p1 ∨ (∃ i, i < 8 ∧ p1 = nI i) ∧ cellBad p2
  · rw [cl_combine1 hb]
    simp only [Option.bind_some]
    rw [pr_rcombine1 hb]
    simp only [Option.bind_some, mX13_thrown, if_true, e10, e20, if_false]
    exact ⟨_, rfl, ⟨b, c, tn, tx, pn, pg, hC, rfl, rfl, hB, hp, ht⟩⟩
  · obtain ⟨i, hi, e1⟩ := (cell_or p1).resolve_left (fun z => hb (Or.inl z))
    obtain ⟨q, hq, e2⟩ := (cell_or p2).resolve_left (fun z => hb (Or.inr ⟨⟨i, hi, e1⟩, z⟩))
    subst e1
    subst e2
    by_cases h3 : p3 < 0 ∨ ¬ p3 ≤ 5
    · rw [cl_combine2 hi hq h3]
      simp only [Option.bind_some]
      rw [pr_rcombine2 hi hq h3]
      simp only [Option.bind_some, mX13_thrown, if_true, e10, e20, if_false]
      exact ⟨_, rfl, ⟨b, c, tn, tx, pn, pg, hC, rfl, rfl, hB, hp, ht⟩⟩
    · obtain ⟨R, o2, s2, e3, hP⟩ := pr_combines (b := b) (p3 := p3) (k := k) (one := m.2.2.2.2.2.2.2.2.2.1) (sum := m.2.2.2.2.2.2.2.2.2.2.2.1) hB hi hq (by omega)
      have hs : sgn b (cmb p3 (sgn b (c i)) (sgn b (c q))) = (cmb p3 ((c i).setWidth (wd b)) ((c q).setWidth (wd b))).signExtend 64 := sgn_of (by rw [cmb_low p3 (wd_le b), sgn_low, sgn_low])
      have eL : mL_combine (x.1) (bI b) o (nI i) (nI q) p3 = some (0, vp_updL x.1 i (Int64.ofBitVec (sgn b (cmb p3 (sgn b (c i)) (sgn b (c q))))), vp_updL o 0 (Int64.ofBitVec (sgn b (cmb p3 (sgn b (c i)) (sgn b (c q)))))) := by
        rw [mL_combine, mL_combine_N, mX11_combine, ck_ok hi, ck_ok hq]
        simp only [Option.bind_some]
        rw [if_neg (fun z => h3 (Or.inl z)), if_pos (Decidable.byContradiction (fun z => h3 (Or.inr z))), pr_combined p3 hC hi hq]
        simp only [Option.bind_some]
        rw [pr_put b _ hi]
        simp only [Option.bind_some, c00, z00, if_false]
      rw [eL]
      simp only [Option.bind_some]
      rw [pr_rcombine hi hq h3 e3, ← hs]
      simp only [Option.bind_some, mX13_thrown, if_true, c00, z00, if_false, up_0]
      rw [if_pos ((lg_cmp_eq _ _).mpr rfl)]
      exact ⟨_, rfl, ⟨b, upC c i (sgn b (cmb p3 (sgn b (c i)) (sgn b (c q)))), tn, tx, pn, pg, hC.up i _, rfl, rfl, hs ▸ putsTo.up hB hP, hp, ht⟩⟩
theorem cl_divide1 {xc : Nat → Int64} {w p1 p2 p3 p4 : Int32} {o : Nat → Int64} (h : cellBad p1 ∨ (∃ i, i < 8 ∧ p1 = nI i) ∧ (cellBad p2 ∨ (∃ i, i < 8 ∧ p2 = nI i) ∧ cellBad p3)) : mL_divide xc w o p1 p2 p3 p4 = some (1, xc, o) := by
  rcases h with h | ⟨⟨i, hi, e⟩, h | ⟨⟨q, hq, e2⟩, h⟩⟩
  · rw [mL_divide, mL_divide_N, mX11_divide, ck_bad h, mL_divide_T1_10, mX11_divide_T1_10, ckT_bad h]
    rfl
  · subst e
    rw [mL_divide, mL_divide_N, mX11_divide, ck_ok hi, ck_bad h, mL_divide_T1_10, mX11_divide_T1_10, ckT_ok hi, mL_divide_T5_10, mX11_divide_T5_10, ck_ok hi, ckT_bad h]
    rfl
  · subst e
    subst e2
    rw [mL_divide, mL_divide_N, mX11_divide, ck_ok hi, ck_ok hq, ck_bad h, mL_divide_T1_10, mX11_divide_T1_10, ckT_ok hi, mL_divide_T5_10, mX11_divide_T5_10, ck_ok hi, ckT_ok hq, mL_divide_T9_10, mX11_divide_T9_10, ck_ok hi, ck_ok hq, ckT_bad h]
    rfl
theorem rf_divide1 {k : Nat} {w p1 p2 p3 p4 : Int32} {B : Nat → Nat → Int32} {s1 s2 s3 s4 : Nat → Int32} (h : cellBad p1 ∨ (∃ i, i < 8 ∧ p1 = nI i) ∧ (cellBad p2 ∨ (∃ i, i < 8 ∧ p2 = nI i) ∧ cellBad p3)) : mX13_divide k w B s1 s2 s3 s4 p1 p2 p3 p4 = some (0, 1, B, s1, s2, s3, s4) := by
  rcases h with h | ⟨⟨i, hi, e⟩, h | ⟨⟨q, hq, e2⟩, h⟩⟩
  · rw [mX13_divide, ic_bad h]
    rfl
  · rw [mX13_divide, e, ic_ok hi, ic_bad h]
    rfl
  · rw [mX13_divide, e, e2, ic_ok hi, ic_ok hq, ic_bad h]
    rfl
theorem cl_divide0 {xc f2 : Nat → Int64} {b : Bool} {i q r : Nat} {o : Nat → Int64} {p4 : Int32} (t : Bool) (hi : i < 8) (hq : q < 8) (hr : r < 8) (e : mX2_divideInto xc (bI b) (nI i) (nI q) (nI r) p4 = some (bI t, f2)) : mL_divide xc (bI b) o (nI i) (nI q) (nI r) p4 = some (0, f2, vp_updL o 0 (lN t.toNat)) := by
  rw [mL_divide, mL_divide_N, mX11_divide, ck_ok hi, ck_ok hq, ck_ok hr]
  simp only [Option.bind_some]
  rw [e]
  simp only [Option.bind_some]
  rw [if_neg (bI_nn _)]
  simp only [Option.bind_some]
  cases t <;> rfl
theorem rf_divide0 {b : Bool} {k i q r : Nat} {p4 : Int32} {B R : Nat → Nat → Int32} {s1 s2 s3 s4 u1 u2 u3 u4 : Nat → Int32} (t : Bool) (hi : i < 8) (hq : q < 8) (hr : r < 8) (e : mX12_divides k (bI b) B s1 s2 s3 s4 (nI i) (nI q) (nI r) p4 = some (bI t, R, u1, u2, u3, u4)) : mX13_divide k (bI b) B s1 s2 s3 s4 (nI i) (nI q) (nI r) p4 = some (bI t, 0, R, u1, u2, u3, u4) := by
  rw [mX13_divide, ic_ok hi]
  simp only [Option.bind_some]
  rw [if_neg (by decide), ic_ok hq]
  simp only [Option.bind_some]
  rw [if_neg (by decide), ic_ok hr]
  simp only [Option.bind_some]
  rw [if_neg (by decide)]
  simp only [Option.bind_some, ps_11]
  rw [if_neg (by decide), e]
  simp only [Option.bind_some]
  cases t <;> rfl
set_option maxHeartbeats 4000000 in
set_option maxRecDepth 100000 in
theorem hs_35 {k L j : Nat} {xs : Nat → Int32} {ax : Nat → Nat} {x : XS} {m : MS} {o : Nat → Int64} (hk : 1000 ≤ k) (hL : j + 6 ≤ L) (hL2 : L ≤ 3072) (h : Inv x m o) : ∃ R, mC_35 k xs L (nI j) (x.1) (x.2.1) (x.2.2.1) (x.2.2.2.1) (x.2.2.2.2.1) (x.2.2.2.2.2.1) (x.2.2.2.2.2.2.1) (x.2.2.2.2.2.2.2.1) (x.2.2.2.2.2.2.2.2.1) (x.2.2.2.2.2.2.2.2.2.1) (x.2.2.2.2.2.2.2.2.2.2.1) (x.2.2.2.2.2.2.2.2.2.2.2.1) (x.2.2.2.2.2.2.2.2.2.2.2.2.1) (x.2.2.2.2.2.2.2.2.2.2.2.2.2.1) (x.2.2.2.2.2.2.2.2.2.2.2.2.2.2.1) (x.2.2.2.2.2.2.2.2.2.2.2.2.2.2.2.1) (x.2.2.2.2.2.2.2.2.2.2.2.2.2.2.2.2.1) (x.2.2.2.2.2.2.2.2.2.2.2.2.2.2.2.2.2.1) (x.2.2.2.2.2.2.2.2.2.2.2.2.2.2.2.2.2.2.1) (x.2.2.2.2.2.2.2.2.2.2.2.2.2.2.2.2.2.2.2.1) (x.2.2.2.2.2.2.2.2.2.2.2.2.2.2.2.2.2.2.2.2.1) (x.2.2.2.2.2.2.2.2.2.2.2.2.2.2.2.2.2.2.2.2.2.1) (x.2.2.2.2.2.2.2.2.2.2.2.2.2.2.2.2.2.2.2.2.2.2.1) (x.2.2.2.2.2.2.2.2.2.2.2.2.2.2.2.2.2.2.2.2.2.2.2.1) (x.2.2.2.2.2.2.2.2.2.2.2.2.2.2.2.2.2.2.2.2.2.2.2.2.1) (x.2.2.2.2.2.2.2.2.2.2.2.2.2.2.2.2.2.2.2.2.2.2.2.2.2.1) (x.2.2.2.2.2.2.2.2.2.2.2.2.2.2.2.2.2.2.2.2.2.2.2.2.2.2.1) (x.2.2.2.2.2.2.2.2.2.2.2.2.2.2.2.2.2.2.2.2.2.2.2.2.2.2.2.1) (x.2.2.2.2.2.2.2.2.2.2.2.2.2.2.2.2.2.2.2.2.2.2.2.2.2.2.2.2.1) (x.2.2.2.2.2.2.2.2.2.2.2.2.2.2.2.2.2.2.2.2.2.2.2.2.2.2.2.2.2.1) (x.2.2.2.2.2.2.2.2.2.2.2.2.2.2.2.2.2.2.2.2.2.2.2.2.2.2.2.2.2.2.1) (x.2.2.2.2.2.2.2.2.2.2.2.2.2.2.2.2.2.2.2.2.2.2.2.2.2.2.2.2.2.2.2.1) (x.2.2.2.2.2.2.2.2.2.2.2.2.2.2.2.2.2.2.2.2.2.2.2.2.2.2.2.2.2.2.2.2) (m.2.1) (m.2.2.1) (m.2.2.2.1) (m.2.2.2.2.1) (m.2.2.2.2.2.1) (m.2.2.2.2.2.2.1) (m.2.2.2.2.2.2.2.1) (m.2.2.2.2.2.2.2.2.1) (m.2.2.2.2.2.2.2.2.2.1) (m.2.2.2.2.2.2.2.2.2.2.1) (m.2.2.2.2.2.2.2.2.2.2.2.1) (m.2.2.2.2.2.2.2.2.2.2.2.2.1) (m.2.2.2.2.2.2.2.2.2.2.2.2.2.1) (m.2.2.2.2.2.2.2.2.2.2.2.2.2.2.1) (m.2.2.2.2.2.2.2.2.2.2.2.2.2.2.2.1) (m.2.2.2.2.2.2.2.2.2.2.2.2.2.2.2.2.1) (m.2.2.2.2.2.2.2.2.2.2.2.2.2.2.2.2.2.1) (m.2.2.2.2.2.2.2.2.2.2.2.2.2.2.2.2.2.2.1) (m.2.2.2.2.2.2.2.2.2.2.2.2.2.2.2.2.2.2.2.1) (m.2.2.2.2.2.2.2.2.2.2.2.2.2.2.2.2.2.2.2.2.1) (m.2.2.2.2.2.2.2.2.2.2.2.2.2.2.2.2.2.2.2.2.2.1) (m.2.2.2.2.2.2.2.2.2.2.2.2.2.2.2.2.2.2.2.2.2.2.1) (m.2.2.2.2.2.2.2.2.2.2.2.2.2.2.2.2.2.2.2.2.2.2.2.1) (m.2.2.2.2.2.2.2.2.2.2.2.2.2.2.2.2.2.2.2.2.2.2.2.2.1) (m.2.2.2.2.2.2.2.2.2.2.2.2.2.2.2.2.2.2.2.2.2.2.2.2.2.1) (m.2.2.2.2.2.2.2.2.2.2.2.2.2.2.2.2.2.2.2.2.2.2.2.2.2.2.1) (m.2.2.2.2.2.2.2.2.2.2.2.2.2.2.2.2.2.2.2.2.2.2.2.2.2.2.2.1) (m.2.2.2.2.2.2.2.2.2.2.2.2.2.2.2.2.2.2.2.2.2.2.2.2.2.2.2.2.1) (m.2.2.2.2.2.2.2.2.2.2.2.2.2.2.2.2.2.2.2.2.2.2.2.2.2.2.2.2.2.1) (m.2.2.2.2.2.2.2.2.2.2.2.2.2.2.2.2.2.2.2.2.2.2.2.2.2.2.2.2.2.2.1) (m.2.2.2.2.2.2.2.2.2.2.2.2.2.2.2.2.2.2.2.2.2.2.2.2.2.2.2.2.2.2.2.1) (m.2.2.2.2.2.2.2.2.2.2.2.2.2.2.2.2.2.2.2.2.2.2.2.2.2.2.2.2.2.2.2.2.1) (m.2.2.2.2.2.2.2.2.2.2.2.2.2.2.2.2.2.2.2.2.2.2.2.2.2.2.2.2.2.2.2.2.2.1) (m.2.2.2.2.2.2.2.2.2.2.2.2.2.2.2.2.2.2.2.2.2.2.2.2.2.2.2.2.2.2.2.2.2.2.1) (m.2.2.2.2.2.2.2.2.2.2.2.2.2.2.2.2.2.2.2.2.2.2.2.2.2.2.2.2.2.2.2.2.2.2.2) o = some R ∧ Inv R.1 R.2.1 R.2.2 := by
  obtain ⟨b, c, tn, tx, pn, pg, hC, hw, hmw, hB, hp, ht⟩ := h
  rw [hw, hmw, mC_35]
  simp only [gd1 hL hL2, gd2 hL hL2, gd3 hL hL2, gd4 hL hL2, gd5 hL hL2, if_false]
  generalize xs (nI j + 1).toNatClampNeg = p1
  generalize xs (nI j + 2).toNatClampNeg = p2
  generalize xs (nI j + 3).toNatClampNeg = p3
  obtain ⟨q4, e4⟩ := flg (xs (nI j + 4).toNatClampNeg)
  rw [e4]
  simp only [Option.bind_some]
  by_cases hb : cellBad p1 ∨ (∃ i, i < 8 ∧ p1 = nI i) ∧ (cellBad p2 ∨ (∃ i, i < 8 ∧ p2 = nI i) ∧ cellBad p3)
  · rw [cl_divide1 hb]
    simp only [Option.bind_some]
    rw [rf_divide1 hb]
    simp only [Option.bind_some, mX13_thrown, if_true, e10, e20, if_false]
    exact ⟨_, rfl, ⟨b, c, tn, tx, pn, pg, hC, rfl, rfl, hB, hp, ht⟩⟩
  · obtain ⟨i, hi, e1⟩ := (cell_or p1).resolve_left (fun z => hb (Or.inl z))
    obtain ⟨q, hq, e2⟩ := (cell_or p2).resolve_left (fun z => hb (Or.inr ⟨⟨i, hi, e1⟩, Or.inl z⟩))
    obtain ⟨r, hr, e3⟩ := (cell_or p3).resolve_left (fun z => hb (Or.inr ⟨⟨i, hi, e1⟩, Or.inr ⟨⟨q, hq, e2⟩, z⟩⟩))
    subst e1
    subst e2
    subst e3
    by_cases h0 : (c q).setWidth (wd b) = 0#(wd b)
    · rw [cl_divide0 false hi hq hr (pr_divideInto0 (nI r) hC hi hq h0)]
      simp only [Option.bind_some]
      rw [rf_divide0 false hi hq hr (pr_divides0 hB hq (by omega) h0)]
      simp only [Option.bind_some, mX13_thrown, if_true, c00, z00, if_false, up_0]
      rw [bit_L]
      simp only [Option.bind_some]
      rw [if_pos ((lg_cmp_eq _ _).mpr rfl)]
      exact ⟨_, rfl, ⟨b, c, tn, tx, pn, pg, hC, rfl, rfl, hB, hp, ht⟩⟩
    · obtain ⟨f2, e5, hC2⟩ := pr_divideInto (p := q4) hC hi hq hr h0
      obtain ⟨R, u1, u2, u3, u4, e6, hB2⟩ := pr_divides (p := q4) (k := k) (one := m.2.2.2.2.2.2.2.2.2.1) (other := m.2.2.2.2.2.2.2.2.2.2.1) (sum := m.2.2.2.2.2.2.2.2.2.2.2.1) (rest := m.2.2.2.2.2.2.2.2.2.2.2.2.1) hB hi hq hr (by omega) h0
      rw [cl_divide0 true hi hq hr e5]
      simp only [Option.bind_some]
      rw [rf_divide0 true hi hq hr e6]
      simp only [Option.bind_some, mX13_thrown, if_true, c00, z00, if_false, up_0]
      rw [bit_L]
      simp only [Option.bind_some]
      rw [if_pos ((lg_cmp_eq _ _).mpr rfl)]
      exact ⟨_, rfl, ⟨b, _, tn, tx, pn, pg, hC2, rfl, rfl, hB2, hp, ht⟩⟩
theorem cl_compare1 {xc : Nat → Int64} {w p1 p2 p3 : Int32} {o : Nat → Int64} (h : cellBad p1 ∨ (∃ i, i < 8 ∧ p1 = nI i) ∧ cellBad p2) : mL_compare xc w o p1 p2 p3 = some (1, o) := by
  rcases h with h | ⟨⟨i, hi, e⟩, h⟩
  · rw [mL_compare, mL_compare_N, mX11_compare, ck_bad h, mL_compare_T1_10, mX11_compare_T1_10, ckT_bad h]
    rfl
  · subst e
    rw [mL_compare, mL_compare_N, mX11_compare, ck_ok hi, ck_bad h, mL_compare_T1_10, mX11_compare_T1_10, ckT_ok hi, mL_compare_T5_10, mX11_compare_T5_10, ck_ok hi, ckT_bad h]
    rfl
theorem rf_compare1 {k : Nat} {w p1 p2 p3 : Int32} {B : Nat → Nat → Int32} (h : cellBad p1 ∨ (∃ i, i < 8 ∧ p1 = nI i) ∧ cellBad p2) : mX13_compare k w B p1 p2 p3 = some (0, 1) := by
  rcases h with h | ⟨⟨i, hi, e⟩, h⟩
  · rw [mX13_compare, ic_bad h]
    rfl
  · rw [mX13_compare, e, ic_ok hi, ic_bad h]
    rfl
set_option maxHeartbeats 4000000 in
set_option maxRecDepth 100000 in
theorem hs_36 {k L j : Nat} {xs : Nat → Int32} {ax : Nat → Nat} {x : XS} {m : MS} {o : Nat → Int64} (hk : 1000 ≤ k) (hL : j + 6 ≤ L) (hL2 : L ≤ 3072) (h : Inv x m o) : ∃ R, mC_36 k xs L (nI j) (x.1) (x.2.1) (x.2.2.1) (x.2.2.2.1) (x.2.2.2.2.1) (x.2.2.2.2.2.1) (x.2.2.2.2.2.2.1) (x.2.2.2.2.2.2.2.1) (x.2.2.2.2.2.2.2.2.1) (x.2.2.2.2.2.2.2.2.2.1) (x.2.2.2.2.2.2.2.2.2.2.1) (x.2.2.2.2.2.2.2.2.2.2.2.1) (x.2.2.2.2.2.2.2.2.2.2.2.2.1) (x.2.2.2.2.2.2.2.2.2.2.2.2.2.1) (x.2.2.2.2.2.2.2.2.2.2.2.2.2.2.1) (x.2.2.2.2.2.2.2.2.2.2.2.2.2.2.2.1) (x.2.2.2.2.2.2.2.2.2.2.2.2.2.2.2.2.1) (x.2.2.2.2.2.2.2.2.2.2.2.2.2.2.2.2.2.1) (x.2.2.2.2.2.2.2.2.2.2.2.2.2.2.2.2.2.2.1) (x.2.2.2.2.2.2.2.2.2.2.2.2.2.2.2.2.2.2.2.1) (x.2.2.2.2.2.2.2.2.2.2.2.2.2.2.2.2.2.2.2.2.1) (x.2.2.2.2.2.2.2.2.2.2.2.2.2.2.2.2.2.2.2.2.2.1) (x.2.2.2.2.2.2.2.2.2.2.2.2.2.2.2.2.2.2.2.2.2.2.1) (x.2.2.2.2.2.2.2.2.2.2.2.2.2.2.2.2.2.2.2.2.2.2.2.1) (x.2.2.2.2.2.2.2.2.2.2.2.2.2.2.2.2.2.2.2.2.2.2.2.2.1) (x.2.2.2.2.2.2.2.2.2.2.2.2.2.2.2.2.2.2.2.2.2.2.2.2.2.1) (x.2.2.2.2.2.2.2.2.2.2.2.2.2.2.2.2.2.2.2.2.2.2.2.2.2.2.1) (x.2.2.2.2.2.2.2.2.2.2.2.2.2.2.2.2.2.2.2.2.2.2.2.2.2.2.2.1) (x.2.2.2.2.2.2.2.2.2.2.2.2.2.2.2.2.2.2.2.2.2.2.2.2.2.2.2.2.1) (x.2.2.2.2.2.2.2.2.2.2.2.2.2.2.2.2.2.2.2.2.2.2.2.2.2.2.2.2.2.1) (x.2.2.2.2.2.2.2.2.2.2.2.2.2.2.2.2.2.2.2.2.2.2.2.2.2.2.2.2.2.2.1) (x.2.2.2.2.2.2.2.2.2.2.2.2.2.2.2.2.2.2.2.2.2.2.2.2.2.2.2.2.2.2.2.1) (x.2.2.2.2.2.2.2.2.2.2.2.2.2.2.2.2.2.2.2.2.2.2.2.2.2.2.2.2.2.2.2.2) (m.2.1) (m.2.2.1) (m.2.2.2.1) (m.2.2.2.2.1) (m.2.2.2.2.2.1) (m.2.2.2.2.2.2.1) (m.2.2.2.2.2.2.2.1) (m.2.2.2.2.2.2.2.2.1) (m.2.2.2.2.2.2.2.2.2.1) (m.2.2.2.2.2.2.2.2.2.2.1) (m.2.2.2.2.2.2.2.2.2.2.2.1) (m.2.2.2.2.2.2.2.2.2.2.2.2.1) (m.2.2.2.2.2.2.2.2.2.2.2.2.2.1) (m.2.2.2.2.2.2.2.2.2.2.2.2.2.2.1) (m.2.2.2.2.2.2.2.2.2.2.2.2.2.2.2.1) (m.2.2.2.2.2.2.2.2.2.2.2.2.2.2.2.2.1) (m.2.2.2.2.2.2.2.2.2.2.2.2.2.2.2.2.2.1) (m.2.2.2.2.2.2.2.2.2.2.2.2.2.2.2.2.2.2.1) (m.2.2.2.2.2.2.2.2.2.2.2.2.2.2.2.2.2.2.2.1) (m.2.2.2.2.2.2.2.2.2.2.2.2.2.2.2.2.2.2.2.2.1) (m.2.2.2.2.2.2.2.2.2.2.2.2.2.2.2.2.2.2.2.2.2.1) (m.2.2.2.2.2.2.2.2.2.2.2.2.2.2.2.2.2.2.2.2.2.2.1) (m.2.2.2.2.2.2.2.2.2.2.2.2.2.2.2.2.2.2.2.2.2.2.2.1) (m.2.2.2.2.2.2.2.2.2.2.2.2.2.2.2.2.2.2.2.2.2.2.2.2.1) (m.2.2.2.2.2.2.2.2.2.2.2.2.2.2.2.2.2.2.2.2.2.2.2.2.2.1) (m.2.2.2.2.2.2.2.2.2.2.2.2.2.2.2.2.2.2.2.2.2.2.2.2.2.2.1) (m.2.2.2.2.2.2.2.2.2.2.2.2.2.2.2.2.2.2.2.2.2.2.2.2.2.2.2.1) (m.2.2.2.2.2.2.2.2.2.2.2.2.2.2.2.2.2.2.2.2.2.2.2.2.2.2.2.2.1) (m.2.2.2.2.2.2.2.2.2.2.2.2.2.2.2.2.2.2.2.2.2.2.2.2.2.2.2.2.2.1) (m.2.2.2.2.2.2.2.2.2.2.2.2.2.2.2.2.2.2.2.2.2.2.2.2.2.2.2.2.2.2.1) (m.2.2.2.2.2.2.2.2.2.2.2.2.2.2.2.2.2.2.2.2.2.2.2.2.2.2.2.2.2.2.2.1) (m.2.2.2.2.2.2.2.2.2.2.2.2.2.2.2.2.2.2.2.2.2.2.2.2.2.2.2.2.2.2.2.2.1) (m.2.2.2.2.2.2.2.2.2.2.2.2.2.2.2.2.2.2.2.2.2.2.2.2.2.2.2.2.2.2.2.2.2.1) (m.2.2.2.2.2.2.2.2.2.2.2.2.2.2.2.2.2.2.2.2.2.2.2.2.2.2.2.2.2.2.2.2.2.2.1) (m.2.2.2.2.2.2.2.2.2.2.2.2.2.2.2.2.2.2.2.2.2.2.2.2.2.2.2.2.2.2.2.2.2.2.2) o = some R ∧ Inv R.1 R.2.1 R.2.2 := by
  obtain ⟨b, c, tn, tx, pn, pg, hC, hw, hmw, hB, hp, ht⟩ := h
  rw [hw, hmw, mC_36]
  simp only [gd1 hL hL2, gd2 hL hL2, gd3 hL hL2, gd4 hL hL2, gd5 hL hL2, if_false]
  generalize xs (nI j + 1).toNatClampNeg = p1
  generalize xs (nI j + 2).toNatClampNeg = p2
  obtain ⟨q4, e4⟩ := flg (xs (nI j + 3).toNatClampNeg)
  rw [e4]
  simp only [Option.bind_some]
  by_cases hb : cellBad p1 ∨ (∃ i, i < 8 ∧ p1 = nI i) ∧ cellBad p2
  · rw [cl_compare1 hb]
    simp only [Option.bind_some]
    rw [rf_compare1 hb]
    simp only [Option.bind_some, mX13_thrown, if_true, e10, e20, if_false]
    exact ⟨_, rfl, ⟨b, c, tn, tx, pn, pg, hC, rfl, rfl, hB, hp, ht⟩⟩
  · obtain ⟨i, hi, e1⟩ := (cell_or p1).resolve_left (fun z => hb (Or.inl z))
    obtain ⟨q, hq, e2⟩ := (cell_or p2).resolve_left (fun z => hb (Or.inr ⟨⟨i, hi, e1⟩, z⟩))
    subst e1
    subst e2
    have eL : mL_compare (x.1) (bI b) o (nI i) (nI q) (bI q4) = some (0, vp_updL o 0 (Int32.toInt64 (ordr b q4 (c i) (c q)))) := by
      rw [mL_compare, mL_compare_N, mX11_compare, ck_ok hi, ck_ok hq]
      simp only [Option.bind_some]
      rw [pr_ccompared hC hi hq]
      simp only [Option.bind_some, c00, z00, if_false]
    have eM : mX13_compare k (bI b) (m.2.2.1) (nI i) (nI q) (bI q4) = some (ordr b q4 (c i) (c q), 0) := by
      rw [mX13_compare, ic_ok hi]
      simp only [Option.bind_some]
      rw [if_neg (by decide), ic_ok hq]
      simp only [Option.bind_some]
      rw [if_neg (by decide)]
      simp only [Option.bind_some, ps_11]
      rw [if_neg (by decide), if_neg (nI_in hi (by omega)), if_neg (nI_in hq (by omega)), nI_clamp (show i < 2 ^ 31 by omega), nI_clamp (show q < 2 ^ 31 by omega), pr_rcompares hB hi hq (by omega)]
      rfl
    rw [eL]
    simp only [Option.bind_some]
    rw [eM]
    simp only [Option.bind_some, mX13_thrown, if_true, c00, z00, if_false, up_0]
    rw [if_pos ((lg_cmp_eq _ _).mpr rfl)]
    exact ⟨_, rfl, ⟨b, c, tn, tx, pn, pg, hC, rfl, rfl, hB, hp, ht⟩⟩
set_option maxHeartbeats 4000000 in
set_option maxRecDepth 100000 in
theorem hs_37 {k L j : Nat} {xs : Nat → Int32} {ax : Nat → Nat} {x : XS} {m : MS} {o : Nat → Int64} (hk : 1000 ≤ k) (hL : j + 6 ≤ L) (hL2 : L ≤ 3072) (h : Inv x m o) : ∃ R, mC_37 k xs L (nI j) (x.1) (x.2.1) (x.2.2.1) (x.2.2.2.1) (x.2.2.2.2.1) (x.2.2.2.2.2.1) (x.2.2.2.2.2.2.1) (x.2.2.2.2.2.2.2.1) (x.2.2.2.2.2.2.2.2.1) (x.2.2.2.2.2.2.2.2.2.1) (x.2.2.2.2.2.2.2.2.2.2.1) (x.2.2.2.2.2.2.2.2.2.2.2.1) (x.2.2.2.2.2.2.2.2.2.2.2.2.1) (x.2.2.2.2.2.2.2.2.2.2.2.2.2.1) (x.2.2.2.2.2.2.2.2.2.2.2.2.2.2.1) (x.2.2.2.2.2.2.2.2.2.2.2.2.2.2.2.1) (x.2.2.2.2.2.2.2.2.2.2.2.2.2.2.2.2.1) (x.2.2.2.2.2.2.2.2.2.2.2.2.2.2.2.2.2.1) (x.2.2.2.2.2.2.2.2.2.2.2.2.2.2.2.2.2.2.1) (x.2.2.2.2.2.2.2.2.2.2.2.2.2.2.2.2.2.2.2.1) (x.2.2.2.2.2.2.2.2.2.2.2.2.2.2.2.2.2.2.2.2.1) (x.2.2.2.2.2.2.2.2.2.2.2.2.2.2.2.2.2.2.2.2.2.1) (x.2.2.2.2.2.2.2.2.2.2.2.2.2.2.2.2.2.2.2.2.2.2.1) (x.2.2.2.2.2.2.2.2.2.2.2.2.2.2.2.2.2.2.2.2.2.2.2.1) (x.2.2.2.2.2.2.2.2.2.2.2.2.2.2.2.2.2.2.2.2.2.2.2.2.1) (x.2.2.2.2.2.2.2.2.2.2.2.2.2.2.2.2.2.2.2.2.2.2.2.2.2.1) (x.2.2.2.2.2.2.2.2.2.2.2.2.2.2.2.2.2.2.2.2.2.2.2.2.2.2.1) (x.2.2.2.2.2.2.2.2.2.2.2.2.2.2.2.2.2.2.2.2.2.2.2.2.2.2.2.1) (x.2.2.2.2.2.2.2.2.2.2.2.2.2.2.2.2.2.2.2.2.2.2.2.2.2.2.2.2.1) (x.2.2.2.2.2.2.2.2.2.2.2.2.2.2.2.2.2.2.2.2.2.2.2.2.2.2.2.2.2.1) (x.2.2.2.2.2.2.2.2.2.2.2.2.2.2.2.2.2.2.2.2.2.2.2.2.2.2.2.2.2.2.1) (x.2.2.2.2.2.2.2.2.2.2.2.2.2.2.2.2.2.2.2.2.2.2.2.2.2.2.2.2.2.2.2.1) (x.2.2.2.2.2.2.2.2.2.2.2.2.2.2.2.2.2.2.2.2.2.2.2.2.2.2.2.2.2.2.2.2) (m.2.1) (m.2.2.1) (m.2.2.2.1) (m.2.2.2.2.1) (m.2.2.2.2.2.1) (m.2.2.2.2.2.2.1) (m.2.2.2.2.2.2.2.1) (m.2.2.2.2.2.2.2.2.1) (m.2.2.2.2.2.2.2.2.2.1) (m.2.2.2.2.2.2.2.2.2.2.1) (m.2.2.2.2.2.2.2.2.2.2.2.1) (m.2.2.2.2.2.2.2.2.2.2.2.2.1) (m.2.2.2.2.2.2.2.2.2.2.2.2.2.1) (m.2.2.2.2.2.2.2.2.2.2.2.2.2.2.1) (m.2.2.2.2.2.2.2.2.2.2.2.2.2.2.2.1) (m.2.2.2.2.2.2.2.2.2.2.2.2.2.2.2.2.1) (m.2.2.2.2.2.2.2.2.2.2.2.2.2.2.2.2.2.1) (m.2.2.2.2.2.2.2.2.2.2.2.2.2.2.2.2.2.2.1) (m.2.2.2.2.2.2.2.2.2.2.2.2.2.2.2.2.2.2.2.1) (m.2.2.2.2.2.2.2.2.2.2.2.2.2.2.2.2.2.2.2.2.1) (m.2.2.2.2.2.2.2.2.2.2.2.2.2.2.2.2.2.2.2.2.2.1) (m.2.2.2.2.2.2.2.2.2.2.2.2.2.2.2.2.2.2.2.2.2.2.1) (m.2.2.2.2.2.2.2.2.2.2.2.2.2.2.2.2.2.2.2.2.2.2.2.1) (m.2.2.2.2.2.2.2.2.2.2.2.2.2.2.2.2.2.2.2.2.2.2.2.2.1) (m.2.2.2.2.2.2.2.2.2.2.2.2.2.2.2.2.2.2.2.2.2.2.2.2.2.1) (m.2.2.2.2.2.2.2.2.2.2.2.2.2.2.2.2.2.2.2.2.2.2.2.2.2.2.1) (m.2.2.2.2.2.2.2.2.2.2.2.2.2.2.2.2.2.2.2.2.2.2.2.2.2.2.2.1) (m.2.2.2.2.2.2.2.2.2.2.2.2.2.2.2.2.2.2.2.2.2.2.2.2.2.2.2.2.1) (m.2.2.2.2.2.2.2.2.2.2.2.2.2.2.2.2.2.2.2.2.2.2.2.2.2.2.2.2.2.1) (m.2.2.2.2.2.2.2.2.2.2.2.2.2.2.2.2.2.2.2.2.2.2.2.2.2.2.2.2.2.2.1) (m.2.2.2.2.2.2.2.2.2.2.2.2.2.2.2.2.2.2.2.2.2.2.2.2.2.2.2.2.2.2.2.1) (m.2.2.2.2.2.2.2.2.2.2.2.2.2.2.2.2.2.2.2.2.2.2.2.2.2.2.2.2.2.2.2.2.1) (m.2.2.2.2.2.2.2.2.2.2.2.2.2.2.2.2.2.2.2.2.2.2.2.2.2.2.2.2.2.2.2.2.2.1) (m.2.2.2.2.2.2.2.2.2.2.2.2.2.2.2.2.2.2.2.2.2.2.2.2.2.2.2.2.2.2.2.2.2.2.1) (m.2.2.2.2.2.2.2.2.2.2.2.2.2.2.2.2.2.2.2.2.2.2.2.2.2.2.2.2.2.2.2.2.2.2.2) o = some R ∧ Inv R.1 R.2.1 R.2.2 := by
  obtain ⟨b, c, tn, tx, pn, pg, hC, hw, hmw, hB, hp, ht⟩ := h
  rw [hw, hmw, mC_37]
  simp only [gd1 hL hL2, gd2 hL hL2, gd3 hL hL2, gd4 hL hL2, gd5 hL hL2, if_false]
  obtain ⟨q4, e4⟩ := flg (xs (nI j + 1).toNatClampNeg)
  rw [e4]
  simp only [Option.bind_some]
  obtain ⟨n, f2, g2, c2, sig, e1, e2, hC2, hB2, h8⟩ := pr_sorts (b := b) (p := q4) (g := x.2.1) (k := k) hC hB (by omega)
  rw [mX11_sort, e1, mX13_sort, e2]
  simp only [Option.bind_some]
  rw [h8, if_neg (by decide), if_pos trivial]
  exact ⟨_, rfl, ⟨b, c2, tn, tx, pn, pg, hC2, rfl, rfl, hB2, hp, ht⟩⟩
set_option maxHeartbeats 4000000 in
set_option maxRecDepth 100000 in
theorem hs_0 {k L j : Nat} {xs : Nat → Int32} {ax : Nat → Nat} {x : XS} {m : MS} {o : Nat → Int64} (hk : 1000 ≤ k) (hL : j + 6 ≤ L) (hL2 : L ≤ 3072) (h : Inv x m o) : ∃ R, mC_0 xs L (nI j) (x.1) (x.2.1) (x.2.2.1) (x.2.2.2.1) (x.2.2.2.2.1) (x.2.2.2.2.2.1) (x.2.2.2.2.2.2.1) (x.2.2.2.2.2.2.2.1) (x.2.2.2.2.2.2.2.2.1) (x.2.2.2.2.2.2.2.2.2.1) (x.2.2.2.2.2.2.2.2.2.2.1) (x.2.2.2.2.2.2.2.2.2.2.2.1) (x.2.2.2.2.2.2.2.2.2.2.2.2.1) (x.2.2.2.2.2.2.2.2.2.2.2.2.2.1) (x.2.2.2.2.2.2.2.2.2.2.2.2.2.2.1) (x.2.2.2.2.2.2.2.2.2.2.2.2.2.2.2.1) (x.2.2.2.2.2.2.2.2.2.2.2.2.2.2.2.2.1) (x.2.2.2.2.2.2.2.2.2.2.2.2.2.2.2.2.2.1) (x.2.2.2.2.2.2.2.2.2.2.2.2.2.2.2.2.2.2.1) (x.2.2.2.2.2.2.2.2.2.2.2.2.2.2.2.2.2.2.2.1) (x.2.2.2.2.2.2.2.2.2.2.2.2.2.2.2.2.2.2.2.2.1) (x.2.2.2.2.2.2.2.2.2.2.2.2.2.2.2.2.2.2.2.2.2.1) (x.2.2.2.2.2.2.2.2.2.2.2.2.2.2.2.2.2.2.2.2.2.2.1) (x.2.2.2.2.2.2.2.2.2.2.2.2.2.2.2.2.2.2.2.2.2.2.2.1) (x.2.2.2.2.2.2.2.2.2.2.2.2.2.2.2.2.2.2.2.2.2.2.2.2.1) (x.2.2.2.2.2.2.2.2.2.2.2.2.2.2.2.2.2.2.2.2.2.2.2.2.2.1) (x.2.2.2.2.2.2.2.2.2.2.2.2.2.2.2.2.2.2.2.2.2.2.2.2.2.2.1) (x.2.2.2.2.2.2.2.2.2.2.2.2.2.2.2.2.2.2.2.2.2.2.2.2.2.2.2.1) (x.2.2.2.2.2.2.2.2.2.2.2.2.2.2.2.2.2.2.2.2.2.2.2.2.2.2.2.2.1) (x.2.2.2.2.2.2.2.2.2.2.2.2.2.2.2.2.2.2.2.2.2.2.2.2.2.2.2.2.2.1) (x.2.2.2.2.2.2.2.2.2.2.2.2.2.2.2.2.2.2.2.2.2.2.2.2.2.2.2.2.2.2.1) (x.2.2.2.2.2.2.2.2.2.2.2.2.2.2.2.2.2.2.2.2.2.2.2.2.2.2.2.2.2.2.2.1) (x.2.2.2.2.2.2.2.2.2.2.2.2.2.2.2.2.2.2.2.2.2.2.2.2.2.2.2.2.2.2.2.2) (m.2.1) (m.2.2.1) (m.2.2.2.1) (m.2.2.2.2.1) (m.2.2.2.2.2.1) (m.2.2.2.2.2.2.1) (m.2.2.2.2.2.2.2.1) (m.2.2.2.2.2.2.2.2.1) (m.2.2.2.2.2.2.2.2.2.1) (m.2.2.2.2.2.2.2.2.2.2.1) (m.2.2.2.2.2.2.2.2.2.2.2.1) (m.2.2.2.2.2.2.2.2.2.2.2.2.1) (m.2.2.2.2.2.2.2.2.2.2.2.2.2.1) (m.2.2.2.2.2.2.2.2.2.2.2.2.2.2.1) (m.2.2.2.2.2.2.2.2.2.2.2.2.2.2.2.1) (m.2.2.2.2.2.2.2.2.2.2.2.2.2.2.2.2.1) (m.2.2.2.2.2.2.2.2.2.2.2.2.2.2.2.2.2.1) (m.2.2.2.2.2.2.2.2.2.2.2.2.2.2.2.2.2.2.1) (m.2.2.2.2.2.2.2.2.2.2.2.2.2.2.2.2.2.2.2.1) (m.2.2.2.2.2.2.2.2.2.2.2.2.2.2.2.2.2.2.2.2.1) (m.2.2.2.2.2.2.2.2.2.2.2.2.2.2.2.2.2.2.2.2.2.1) (m.2.2.2.2.2.2.2.2.2.2.2.2.2.2.2.2.2.2.2.2.2.2.1) (m.2.2.2.2.2.2.2.2.2.2.2.2.2.2.2.2.2.2.2.2.2.2.2.1) (m.2.2.2.2.2.2.2.2.2.2.2.2.2.2.2.2.2.2.2.2.2.2.2.2.1) (m.2.2.2.2.2.2.2.2.2.2.2.2.2.2.2.2.2.2.2.2.2.2.2.2.2.1) (m.2.2.2.2.2.2.2.2.2.2.2.2.2.2.2.2.2.2.2.2.2.2.2.2.2.2.1) (m.2.2.2.2.2.2.2.2.2.2.2.2.2.2.2.2.2.2.2.2.2.2.2.2.2.2.2.1) (m.2.2.2.2.2.2.2.2.2.2.2.2.2.2.2.2.2.2.2.2.2.2.2.2.2.2.2.2.1) (m.2.2.2.2.2.2.2.2.2.2.2.2.2.2.2.2.2.2.2.2.2.2.2.2.2.2.2.2.2.1) (m.2.2.2.2.2.2.2.2.2.2.2.2.2.2.2.2.2.2.2.2.2.2.2.2.2.2.2.2.2.2.1) (m.2.2.2.2.2.2.2.2.2.2.2.2.2.2.2.2.2.2.2.2.2.2.2.2.2.2.2.2.2.2.2.1) (m.2.2.2.2.2.2.2.2.2.2.2.2.2.2.2.2.2.2.2.2.2.2.2.2.2.2.2.2.2.2.2.2.1) (m.2.2.2.2.2.2.2.2.2.2.2.2.2.2.2.2.2.2.2.2.2.2.2.2.2.2.2.2.2.2.2.2.2.1) (m.2.2.2.2.2.2.2.2.2.2.2.2.2.2.2.2.2.2.2.2.2.2.2.2.2.2.2.2.2.2.2.2.2.2.1) (m.2.2.2.2.2.2.2.2.2.2.2.2.2.2.2.2.2.2.2.2.2.2.2.2.2.2.2.2.2.2.2.2.2.2.2) o = some R ∧ Inv R.1 R.2.1 R.2.2 := by
  obtain ⟨b, c, tn, tx, pn, pg, hC, hw, hmw, hB, hp, ht⟩ := h
  rw [hw, hmw, mC_0]
  simp only [gd1 hL hL2, gd2 hL hL2, gd3 hL hL2, gd4 hL hL2, gd5 hL hL2, if_false]
  obtain ⟨q4, e4⟩ := flg (xs (nI j + 1).toNatClampNeg)
  rw [e4]
  simp only [Option.bind_some]
  rw [mX11_setWide, if_neg (bI_nn _), if_neg (bI_nn _), mX13_setWide, if_neg (bI_nn _), if_neg (bI_nn _)]
  simp only [Option.bind_some, if_true]
  exact ⟨_, rfl, ⟨q4, c, tn, tx, pn, pg, hC, rfl, rfl, hB, hp, ht⟩⟩
set_option maxHeartbeats 4000000 in
set_option maxRecDepth 100000 in
theorem hs_1 {k L j : Nat} {xs : Nat → Int32} {ax : Nat → Nat} {x : XS} {m : MS} {o : Nat → Int64} (hk : 1000 ≤ k) (hL : j + 6 ≤ L) (hL2 : L ≤ 3072) (h : Inv x m o) : ∃ R, mC_1 (x.1) (x.2.1) (x.2.2.1) (x.2.2.2.1) (x.2.2.2.2.1) (x.2.2.2.2.2.1) (x.2.2.2.2.2.2.1) (x.2.2.2.2.2.2.2.1) (x.2.2.2.2.2.2.2.2.1) (x.2.2.2.2.2.2.2.2.2.1) (x.2.2.2.2.2.2.2.2.2.2.1) (x.2.2.2.2.2.2.2.2.2.2.2.1) (x.2.2.2.2.2.2.2.2.2.2.2.2.1) (x.2.2.2.2.2.2.2.2.2.2.2.2.2.1) (x.2.2.2.2.2.2.2.2.2.2.2.2.2.2.1) (x.2.2.2.2.2.2.2.2.2.2.2.2.2.2.2.1) (x.2.2.2.2.2.2.2.2.2.2.2.2.2.2.2.2.1) (x.2.2.2.2.2.2.2.2.2.2.2.2.2.2.2.2.2.1) (x.2.2.2.2.2.2.2.2.2.2.2.2.2.2.2.2.2.2.1) (x.2.2.2.2.2.2.2.2.2.2.2.2.2.2.2.2.2.2.2.1) (x.2.2.2.2.2.2.2.2.2.2.2.2.2.2.2.2.2.2.2.2.1) (x.2.2.2.2.2.2.2.2.2.2.2.2.2.2.2.2.2.2.2.2.2.1) (x.2.2.2.2.2.2.2.2.2.2.2.2.2.2.2.2.2.2.2.2.2.2.1) (x.2.2.2.2.2.2.2.2.2.2.2.2.2.2.2.2.2.2.2.2.2.2.2.1) (x.2.2.2.2.2.2.2.2.2.2.2.2.2.2.2.2.2.2.2.2.2.2.2.2.1) (x.2.2.2.2.2.2.2.2.2.2.2.2.2.2.2.2.2.2.2.2.2.2.2.2.2.1) (x.2.2.2.2.2.2.2.2.2.2.2.2.2.2.2.2.2.2.2.2.2.2.2.2.2.2.1) (x.2.2.2.2.2.2.2.2.2.2.2.2.2.2.2.2.2.2.2.2.2.2.2.2.2.2.2.1) (x.2.2.2.2.2.2.2.2.2.2.2.2.2.2.2.2.2.2.2.2.2.2.2.2.2.2.2.2.1) (x.2.2.2.2.2.2.2.2.2.2.2.2.2.2.2.2.2.2.2.2.2.2.2.2.2.2.2.2.2.1) (x.2.2.2.2.2.2.2.2.2.2.2.2.2.2.2.2.2.2.2.2.2.2.2.2.2.2.2.2.2.2.1) (x.2.2.2.2.2.2.2.2.2.2.2.2.2.2.2.2.2.2.2.2.2.2.2.2.2.2.2.2.2.2.2.1) (x.2.2.2.2.2.2.2.2.2.2.2.2.2.2.2.2.2.2.2.2.2.2.2.2.2.2.2.2.2.2.2.2) (m.2.1) (m.2.2.1) (m.2.2.2.1) (m.2.2.2.2.1) (m.2.2.2.2.2.1) (m.2.2.2.2.2.2.1) (m.2.2.2.2.2.2.2.1) (m.2.2.2.2.2.2.2.2.1) (m.2.2.2.2.2.2.2.2.2.1) (m.2.2.2.2.2.2.2.2.2.2.1) (m.2.2.2.2.2.2.2.2.2.2.2.1) (m.2.2.2.2.2.2.2.2.2.2.2.2.1) (m.2.2.2.2.2.2.2.2.2.2.2.2.2.1) (m.2.2.2.2.2.2.2.2.2.2.2.2.2.2.1) (m.2.2.2.2.2.2.2.2.2.2.2.2.2.2.2.1) (m.2.2.2.2.2.2.2.2.2.2.2.2.2.2.2.2.1) (m.2.2.2.2.2.2.2.2.2.2.2.2.2.2.2.2.2.1) (m.2.2.2.2.2.2.2.2.2.2.2.2.2.2.2.2.2.2.1) (m.2.2.2.2.2.2.2.2.2.2.2.2.2.2.2.2.2.2.2.1) (m.2.2.2.2.2.2.2.2.2.2.2.2.2.2.2.2.2.2.2.2.1) (m.2.2.2.2.2.2.2.2.2.2.2.2.2.2.2.2.2.2.2.2.2.1) (m.2.2.2.2.2.2.2.2.2.2.2.2.2.2.2.2.2.2.2.2.2.2.1) (m.2.2.2.2.2.2.2.2.2.2.2.2.2.2.2.2.2.2.2.2.2.2.2.1) (m.2.2.2.2.2.2.2.2.2.2.2.2.2.2.2.2.2.2.2.2.2.2.2.2.1) (m.2.2.2.2.2.2.2.2.2.2.2.2.2.2.2.2.2.2.2.2.2.2.2.2.2.1) (m.2.2.2.2.2.2.2.2.2.2.2.2.2.2.2.2.2.2.2.2.2.2.2.2.2.2.1) (m.2.2.2.2.2.2.2.2.2.2.2.2.2.2.2.2.2.2.2.2.2.2.2.2.2.2.2.1) (m.2.2.2.2.2.2.2.2.2.2.2.2.2.2.2.2.2.2.2.2.2.2.2.2.2.2.2.2.1) (m.2.2.2.2.2.2.2.2.2.2.2.2.2.2.2.2.2.2.2.2.2.2.2.2.2.2.2.2.2.1) (m.2.2.2.2.2.2.2.2.2.2.2.2.2.2.2.2.2.2.2.2.2.2.2.2.2.2.2.2.2.2.1) (m.2.2.2.2.2.2.2.2.2.2.2.2.2.2.2.2.2.2.2.2.2.2.2.2.2.2.2.2.2.2.2.1) (m.2.2.2.2.2.2.2.2.2.2.2.2.2.2.2.2.2.2.2.2.2.2.2.2.2.2.2.2.2.2.2.2.1) (m.2.2.2.2.2.2.2.2.2.2.2.2.2.2.2.2.2.2.2.2.2.2.2.2.2.2.2.2.2.2.2.2.2.1) (m.2.2.2.2.2.2.2.2.2.2.2.2.2.2.2.2.2.2.2.2.2.2.2.2.2.2.2.2.2.2.2.2.2.2.1) (m.2.2.2.2.2.2.2.2.2.2.2.2.2.2.2.2.2.2.2.2.2.2.2.2.2.2.2.2.2.2.2.2.2.2.2) o = some R ∧ Inv R.1 R.2.1 R.2.2 := by
  obtain ⟨b, c, tn, tx, pn, pg, hC, hw, hmw, hB, hp, ht⟩ := h
  rw [hw, hmw, mC_1]
  rw [mX11_isWide, if_neg (bI_nn _), mX13_isWide, if_neg (bI_nn _)]
  simp only [Option.bind_some, if_true]
  exact ⟨_, rfl, ⟨b, c, tn, tx, pn, pg, hC, rfl, rfl, hB, hp, ht⟩⟩
set_option maxHeartbeats 4000000 in
set_option maxRecDepth 100000 in
theorem hs_6 {k L j : Nat} {xs : Nat → Int32} {ax : Nat → Nat} {x : XS} {m : MS} {o : Nat → Int64} (hk : 1000 ≤ k) (hL : j + 6 ≤ L) (hL2 : L ≤ 3072) (h : Inv x m o) : ∃ R, mC_6 (x.1) (x.2.1) (x.2.2.1) (x.2.2.2.1) (x.2.2.2.2.1) (x.2.2.2.2.2.1) (x.2.2.2.2.2.2.1) (x.2.2.2.2.2.2.2.1) (x.2.2.2.2.2.2.2.2.1) (x.2.2.2.2.2.2.2.2.2.1) (x.2.2.2.2.2.2.2.2.2.2.1) (x.2.2.2.2.2.2.2.2.2.2.2.1) (x.2.2.2.2.2.2.2.2.2.2.2.2.1) (x.2.2.2.2.2.2.2.2.2.2.2.2.2.1) (x.2.2.2.2.2.2.2.2.2.2.2.2.2.2.1) (x.2.2.2.2.2.2.2.2.2.2.2.2.2.2.2.1) (x.2.2.2.2.2.2.2.2.2.2.2.2.2.2.2.2.1) (x.2.2.2.2.2.2.2.2.2.2.2.2.2.2.2.2.2.1) (x.2.2.2.2.2.2.2.2.2.2.2.2.2.2.2.2.2.2.1) (x.2.2.2.2.2.2.2.2.2.2.2.2.2.2.2.2.2.2.2.1) (x.2.2.2.2.2.2.2.2.2.2.2.2.2.2.2.2.2.2.2.2.1) (x.2.2.2.2.2.2.2.2.2.2.2.2.2.2.2.2.2.2.2.2.2.1) (x.2.2.2.2.2.2.2.2.2.2.2.2.2.2.2.2.2.2.2.2.2.2.1) (x.2.2.2.2.2.2.2.2.2.2.2.2.2.2.2.2.2.2.2.2.2.2.2.1) (x.2.2.2.2.2.2.2.2.2.2.2.2.2.2.2.2.2.2.2.2.2.2.2.2.1) (x.2.2.2.2.2.2.2.2.2.2.2.2.2.2.2.2.2.2.2.2.2.2.2.2.2.1) (x.2.2.2.2.2.2.2.2.2.2.2.2.2.2.2.2.2.2.2.2.2.2.2.2.2.2.1) (x.2.2.2.2.2.2.2.2.2.2.2.2.2.2.2.2.2.2.2.2.2.2.2.2.2.2.2.1) (x.2.2.2.2.2.2.2.2.2.2.2.2.2.2.2.2.2.2.2.2.2.2.2.2.2.2.2.2.1) (x.2.2.2.2.2.2.2.2.2.2.2.2.2.2.2.2.2.2.2.2.2.2.2.2.2.2.2.2.2.1) (x.2.2.2.2.2.2.2.2.2.2.2.2.2.2.2.2.2.2.2.2.2.2.2.2.2.2.2.2.2.2.1) (x.2.2.2.2.2.2.2.2.2.2.2.2.2.2.2.2.2.2.2.2.2.2.2.2.2.2.2.2.2.2.2.1) (x.2.2.2.2.2.2.2.2.2.2.2.2.2.2.2.2.2.2.2.2.2.2.2.2.2.2.2.2.2.2.2.2) (m.2.1) (m.2.2.1) (m.2.2.2.1) (m.2.2.2.2.1) (m.2.2.2.2.2.1) (m.2.2.2.2.2.2.1) (m.2.2.2.2.2.2.2.1) (m.2.2.2.2.2.2.2.2.1) (m.2.2.2.2.2.2.2.2.2.1) (m.2.2.2.2.2.2.2.2.2.2.1) (m.2.2.2.2.2.2.2.2.2.2.2.1) (m.2.2.2.2.2.2.2.2.2.2.2.2.1) (m.2.2.2.2.2.2.2.2.2.2.2.2.2.1) (m.2.2.2.2.2.2.2.2.2.2.2.2.2.2.1) (m.2.2.2.2.2.2.2.2.2.2.2.2.2.2.2.1) (m.2.2.2.2.2.2.2.2.2.2.2.2.2.2.2.2.1) (m.2.2.2.2.2.2.2.2.2.2.2.2.2.2.2.2.2.1) (m.2.2.2.2.2.2.2.2.2.2.2.2.2.2.2.2.2.2.1) (m.2.2.2.2.2.2.2.2.2.2.2.2.2.2.2.2.2.2.2.1) (m.2.2.2.2.2.2.2.2.2.2.2.2.2.2.2.2.2.2.2.2.1) (m.2.2.2.2.2.2.2.2.2.2.2.2.2.2.2.2.2.2.2.2.2.1) (m.2.2.2.2.2.2.2.2.2.2.2.2.2.2.2.2.2.2.2.2.2.2.1) (m.2.2.2.2.2.2.2.2.2.2.2.2.2.2.2.2.2.2.2.2.2.2.2.1) (m.2.2.2.2.2.2.2.2.2.2.2.2.2.2.2.2.2.2.2.2.2.2.2.2.1) (m.2.2.2.2.2.2.2.2.2.2.2.2.2.2.2.2.2.2.2.2.2.2.2.2.2.1) (m.2.2.2.2.2.2.2.2.2.2.2.2.2.2.2.2.2.2.2.2.2.2.2.2.2.2.1) (m.2.2.2.2.2.2.2.2.2.2.2.2.2.2.2.2.2.2.2.2.2.2.2.2.2.2.2.1) (m.2.2.2.2.2.2.2.2.2.2.2.2.2.2.2.2.2.2.2.2.2.2.2.2.2.2.2.2.1) (m.2.2.2.2.2.2.2.2.2.2.2.2.2.2.2.2.2.2.2.2.2.2.2.2.2.2.2.2.2.1) (m.2.2.2.2.2.2.2.2.2.2.2.2.2.2.2.2.2.2.2.2.2.2.2.2.2.2.2.2.2.2.1) (m.2.2.2.2.2.2.2.2.2.2.2.2.2.2.2.2.2.2.2.2.2.2.2.2.2.2.2.2.2.2.2.1) (m.2.2.2.2.2.2.2.2.2.2.2.2.2.2.2.2.2.2.2.2.2.2.2.2.2.2.2.2.2.2.2.2.1) (m.2.2.2.2.2.2.2.2.2.2.2.2.2.2.2.2.2.2.2.2.2.2.2.2.2.2.2.2.2.2.2.2.2.1) (m.2.2.2.2.2.2.2.2.2.2.2.2.2.2.2.2.2.2.2.2.2.2.2.2.2.2.2.2.2.2.2.2.2.2.1) (m.2.2.2.2.2.2.2.2.2.2.2.2.2.2.2.2.2.2.2.2.2.2.2.2.2.2.2.2.2.2.2.2.2.2.2) o = some R ∧ Inv R.1 R.2.1 R.2.2 := by
  obtain ⟨b, c, tn, tx, pn, pg, hC, hw, hmw, hB, hp, ht⟩ := h
  rw [mC_6, mX11_clearText, mX13_clearText, mX6_size, mX6_empty, ht.2.1, ht.2.2.1]
  simp only [Option.bind_some, if_true]
  exact ⟨_, rfl, ⟨b, c, 0, tx, pn, pg, hC, hw, hmw, hB, hp, ⟨by omega, rfl, rfl, fun i hi => absurd hi (Nat.not_lt_zero _)⟩⟩⟩
set_option maxHeartbeats 4000000 in
set_option maxRecDepth 100000 in
theorem hs_7 {k L j : Nat} {xs : Nat → Int32} {ax : Nat → Nat} {x : XS} {m : MS} {o : Nat → Int64} (hk : 1000 ≤ k) (hL : j + 6 ≤ L) (hL2 : L ≤ 3072) (h : Inv x m o) : ∃ R, mC_7 (x.1) (x.2.1) (x.2.2.1) (x.2.2.2.1) (x.2.2.2.2.1) (x.2.2.2.2.2.1) (x.2.2.2.2.2.2.1) (x.2.2.2.2.2.2.2.1) (x.2.2.2.2.2.2.2.2.1) (x.2.2.2.2.2.2.2.2.2.1) (x.2.2.2.2.2.2.2.2.2.2.1) (x.2.2.2.2.2.2.2.2.2.2.2.1) (x.2.2.2.2.2.2.2.2.2.2.2.2.1) (x.2.2.2.2.2.2.2.2.2.2.2.2.2.1) (x.2.2.2.2.2.2.2.2.2.2.2.2.2.2.1) (x.2.2.2.2.2.2.2.2.2.2.2.2.2.2.2.1) (x.2.2.2.2.2.2.2.2.2.2.2.2.2.2.2.2.1) (x.2.2.2.2.2.2.2.2.2.2.2.2.2.2.2.2.2.1) (x.2.2.2.2.2.2.2.2.2.2.2.2.2.2.2.2.2.2.1) (x.2.2.2.2.2.2.2.2.2.2.2.2.2.2.2.2.2.2.2.1) (x.2.2.2.2.2.2.2.2.2.2.2.2.2.2.2.2.2.2.2.2.1) (x.2.2.2.2.2.2.2.2.2.2.2.2.2.2.2.2.2.2.2.2.2.1) (x.2.2.2.2.2.2.2.2.2.2.2.2.2.2.2.2.2.2.2.2.2.2.1) (x.2.2.2.2.2.2.2.2.2.2.2.2.2.2.2.2.2.2.2.2.2.2.2.1) (x.2.2.2.2.2.2.2.2.2.2.2.2.2.2.2.2.2.2.2.2.2.2.2.2.1) (x.2.2.2.2.2.2.2.2.2.2.2.2.2.2.2.2.2.2.2.2.2.2.2.2.2.1) (x.2.2.2.2.2.2.2.2.2.2.2.2.2.2.2.2.2.2.2.2.2.2.2.2.2.2.1) (x.2.2.2.2.2.2.2.2.2.2.2.2.2.2.2.2.2.2.2.2.2.2.2.2.2.2.2.1) (x.2.2.2.2.2.2.2.2.2.2.2.2.2.2.2.2.2.2.2.2.2.2.2.2.2.2.2.2.1) (x.2.2.2.2.2.2.2.2.2.2.2.2.2.2.2.2.2.2.2.2.2.2.2.2.2.2.2.2.2.1) (x.2.2.2.2.2.2.2.2.2.2.2.2.2.2.2.2.2.2.2.2.2.2.2.2.2.2.2.2.2.2.1) (x.2.2.2.2.2.2.2.2.2.2.2.2.2.2.2.2.2.2.2.2.2.2.2.2.2.2.2.2.2.2.2.1) (x.2.2.2.2.2.2.2.2.2.2.2.2.2.2.2.2.2.2.2.2.2.2.2.2.2.2.2.2.2.2.2.2) (m.2.1) (m.2.2.1) (m.2.2.2.1) (m.2.2.2.2.1) (m.2.2.2.2.2.1) (m.2.2.2.2.2.2.1) (m.2.2.2.2.2.2.2.1) (m.2.2.2.2.2.2.2.2.1) (m.2.2.2.2.2.2.2.2.2.1) (m.2.2.2.2.2.2.2.2.2.2.1) (m.2.2.2.2.2.2.2.2.2.2.2.1) (m.2.2.2.2.2.2.2.2.2.2.2.2.1) (m.2.2.2.2.2.2.2.2.2.2.2.2.2.1) (m.2.2.2.2.2.2.2.2.2.2.2.2.2.2.1) (m.2.2.2.2.2.2.2.2.2.2.2.2.2.2.2.1) (m.2.2.2.2.2.2.2.2.2.2.2.2.2.2.2.2.1) (m.2.2.2.2.2.2.2.2.2.2.2.2.2.2.2.2.2.1) (m.2.2.2.2.2.2.2.2.2.2.2.2.2.2.2.2.2.2.1) (m.2.2.2.2.2.2.2.2.2.2.2.2.2.2.2.2.2.2.2.1) (m.2.2.2.2.2.2.2.2.2.2.2.2.2.2.2.2.2.2.2.2.1) (m.2.2.2.2.2.2.2.2.2.2.2.2.2.2.2.2.2.2.2.2.2.1) (m.2.2.2.2.2.2.2.2.2.2.2.2.2.2.2.2.2.2.2.2.2.2.1) (m.2.2.2.2.2.2.2.2.2.2.2.2.2.2.2.2.2.2.2.2.2.2.2.1) (m.2.2.2.2.2.2.2.2.2.2.2.2.2.2.2.2.2.2.2.2.2.2.2.2.1) (m.2.2.2.2.2.2.2.2.2.2.2.2.2.2.2.2.2.2.2.2.2.2.2.2.2.1) (m.2.2.2.2.2.2.2.2.2.2.2.2.2.2.2.2.2.2.2.2.2.2.2.2.2.2.1) (m.2.2.2.2.2.2.2.2.2.2.2.2.2.2.2.2.2.2.2.2.2.2.2.2.2.2.2.1) (m.2.2.2.2.2.2.2.2.2.2.2.2.2.2.2.2.2.2.2.2.2.2.2.2.2.2.2.2.1) (m.2.2.2.2.2.2.2.2.2.2.2.2.2.2.2.2.2.2.2.2.2.2.2.2.2.2.2.2.2.1) (m.2.2.2.2.2.2.2.2.2.2.2.2.2.2.2.2.2.2.2.2.2.2.2.2.2.2.2.2.2.2.1) (m.2.2.2.2.2.2.2.2.2.2.2.2.2.2.2.2.2.2.2.2.2.2.2.2.2.2.2.2.2.2.2.1) (m.2.2.2.2.2.2.2.2.2.2.2.2.2.2.2.2.2.2.2.2.2.2.2.2.2.2.2.2.2.2.2.2.1) (m.2.2.2.2.2.2.2.2.2.2.2.2.2.2.2.2.2.2.2.2.2.2.2.2.2.2.2.2.2.2.2.2.2.1) (m.2.2.2.2.2.2.2.2.2.2.2.2.2.2.2.2.2.2.2.2.2.2.2.2.2.2.2.2.2.2.2.2.2.2.1) (m.2.2.2.2.2.2.2.2.2.2.2.2.2.2.2.2.2.2.2.2.2.2.2.2.2.2.2.2.2.2.2.2.2.2.2) o = some R ∧ Inv R.1 R.2.1 R.2.2 := by
  obtain ⟨b, c, tn, tx, pn, pg, hC, hw, hmw, hB, hp, ht⟩ := h
  rw [mC_7, mX11_textLength, mX13_textLength, mX6_size, ht.2.1, ht.2.2.1]
  simp only [Option.bind_some, if_true]
  exact ⟨_, rfl, ⟨b, c, tn, tx, pn, pg, hC, hw, hmw, hB, hp, ⟨ht.1, rfl, rfl, ht.2.2.2⟩⟩⟩
set_option maxHeartbeats 4000000 in
set_option maxRecDepth 100000 in
theorem hs_14 {k L j : Nat} {xs : Nat → Int32} {ax : Nat → Nat} {x : XS} {m : MS} {o : Nat → Int64} (hk : 1000 ≤ k) (hL : j + 6 ≤ L) (hL2 : L ≤ 3072) (h : Inv x m o) : ∃ R, mC_14 (x.1) (x.2.1) (x.2.2.1) (x.2.2.2.1) (x.2.2.2.2.1) (x.2.2.2.2.2.1) (x.2.2.2.2.2.2.1) (x.2.2.2.2.2.2.2.1) (x.2.2.2.2.2.2.2.2.1) (x.2.2.2.2.2.2.2.2.2.1) (x.2.2.2.2.2.2.2.2.2.2.1) (x.2.2.2.2.2.2.2.2.2.2.2.1) (x.2.2.2.2.2.2.2.2.2.2.2.2.1) (x.2.2.2.2.2.2.2.2.2.2.2.2.2.1) (x.2.2.2.2.2.2.2.2.2.2.2.2.2.2.1) (x.2.2.2.2.2.2.2.2.2.2.2.2.2.2.2.1) (x.2.2.2.2.2.2.2.2.2.2.2.2.2.2.2.2.1) (x.2.2.2.2.2.2.2.2.2.2.2.2.2.2.2.2.2.1) (x.2.2.2.2.2.2.2.2.2.2.2.2.2.2.2.2.2.2.1) (x.2.2.2.2.2.2.2.2.2.2.2.2.2.2.2.2.2.2.2.1) (x.2.2.2.2.2.2.2.2.2.2.2.2.2.2.2.2.2.2.2.2.1) (x.2.2.2.2.2.2.2.2.2.2.2.2.2.2.2.2.2.2.2.2.2.1) (x.2.2.2.2.2.2.2.2.2.2.2.2.2.2.2.2.2.2.2.2.2.2.1) (x.2.2.2.2.2.2.2.2.2.2.2.2.2.2.2.2.2.2.2.2.2.2.2.1) (x.2.2.2.2.2.2.2.2.2.2.2.2.2.2.2.2.2.2.2.2.2.2.2.2.1) (x.2.2.2.2.2.2.2.2.2.2.2.2.2.2.2.2.2.2.2.2.2.2.2.2.2.1) (x.2.2.2.2.2.2.2.2.2.2.2.2.2.2.2.2.2.2.2.2.2.2.2.2.2.2.1) (x.2.2.2.2.2.2.2.2.2.2.2.2.2.2.2.2.2.2.2.2.2.2.2.2.2.2.2.1) (x.2.2.2.2.2.2.2.2.2.2.2.2.2.2.2.2.2.2.2.2.2.2.2.2.2.2.2.2.1) (x.2.2.2.2.2.2.2.2.2.2.2.2.2.2.2.2.2.2.2.2.2.2.2.2.2.2.2.2.2.1) (x.2.2.2.2.2.2.2.2.2.2.2.2.2.2.2.2.2.2.2.2.2.2.2.2.2.2.2.2.2.2.1) (x.2.2.2.2.2.2.2.2.2.2.2.2.2.2.2.2.2.2.2.2.2.2.2.2.2.2.2.2.2.2.2.1) (x.2.2.2.2.2.2.2.2.2.2.2.2.2.2.2.2.2.2.2.2.2.2.2.2.2.2.2.2.2.2.2.2) (m.2.1) (m.2.2.1) (m.2.2.2.1) (m.2.2.2.2.1) (m.2.2.2.2.2.1) (m.2.2.2.2.2.2.1) (m.2.2.2.2.2.2.2.1) (m.2.2.2.2.2.2.2.2.1) (m.2.2.2.2.2.2.2.2.2.1) (m.2.2.2.2.2.2.2.2.2.2.1) (m.2.2.2.2.2.2.2.2.2.2.2.1) (m.2.2.2.2.2.2.2.2.2.2.2.2.1) (m.2.2.2.2.2.2.2.2.2.2.2.2.2.1) (m.2.2.2.2.2.2.2.2.2.2.2.2.2.2.1) (m.2.2.2.2.2.2.2.2.2.2.2.2.2.2.2.1) (m.2.2.2.2.2.2.2.2.2.2.2.2.2.2.2.2.1) (m.2.2.2.2.2.2.2.2.2.2.2.2.2.2.2.2.2.1) (m.2.2.2.2.2.2.2.2.2.2.2.2.2.2.2.2.2.2.1) (m.2.2.2.2.2.2.2.2.2.2.2.2.2.2.2.2.2.2.2.1) (m.2.2.2.2.2.2.2.2.2.2.2.2.2.2.2.2.2.2.2.2.1) (m.2.2.2.2.2.2.2.2.2.2.2.2.2.2.2.2.2.2.2.2.2.1) (m.2.2.2.2.2.2.2.2.2.2.2.2.2.2.2.2.2.2.2.2.2.2.1) (m.2.2.2.2.2.2.2.2.2.2.2.2.2.2.2.2.2.2.2.2.2.2.2.1) (m.2.2.2.2.2.2.2.2.2.2.2.2.2.2.2.2.2.2.2.2.2.2.2.2.1) (m.2.2.2.2.2.2.2.2.2.2.2.2.2.2.2.2.2.2.2.2.2.2.2.2.2.1) (m.2.2.2.2.2.2.2.2.2.2.2.2.2.2.2.2.2.2.2.2.2.2.2.2.2.2.1) (m.2.2.2.2.2.2.2.2.2.2.2.2.2.2.2.2.2.2.2.2.2.2.2.2.2.2.2.1) (m.2.2.2.2.2.2.2.2.2.2.2.2.2.2.2.2.2.2.2.2.2.2.2.2.2.2.2.2.1) (m.2.2.2.2.2.2.2.2.2.2.2.2.2.2.2.2.2.2.2.2.2.2.2.2.2.2.2.2.2.1) (m.2.2.2.2.2.2.2.2.2.2.2.2.2.2.2.2.2.2.2.2.2.2.2.2.2.2.2.2.2.2.1) (m.2.2.2.2.2.2.2.2.2.2.2.2.2.2.2.2.2.2.2.2.2.2.2.2.2.2.2.2.2.2.2.1) (m.2.2.2.2.2.2.2.2.2.2.2.2.2.2.2.2.2.2.2.2.2.2.2.2.2.2.2.2.2.2.2.2.1) (m.2.2.2.2.2.2.2.2.2.2.2.2.2.2.2.2.2.2.2.2.2.2.2.2.2.2.2.2.2.2.2.2.2.1) (m.2.2.2.2.2.2.2.2.2.2.2.2.2.2.2.2.2.2.2.2.2.2.2.2.2.2.2.2.2.2.2.2.2.2.1) (m.2.2.2.2.2.2.2.2.2.2.2.2.2.2.2.2.2.2.2.2.2.2.2.2.2.2.2.2.2.2.2.2.2.2.2) o = some R ∧ Inv R.1 R.2.1 R.2.2 := by
  obtain ⟨b, c, tn, tx, pn, pg, hC, hw, hmw, hB, hp, ht⟩ := h
  rw [mC_14, mX11_pageLength, mX13_pageLength, mX6_size, hp.2.1, hp.2.2.1]
  simp only [Option.bind_some, if_true]
  exact ⟨_, rfl, ⟨b, c, tn, tx, pn, pg, hC, hw, hmw, hB, ⟨hp.1, rfl, rfl, hp.2.2.2⟩, ht⟩⟩
theorem pr_cfill {u s : Int64} {c : Nat → BitVec 64} : ∀ (d i k : Nat) (f : Nat → Int64), i + d = 8 → d < k → (∀ q, q < i → f q = Int64.ofBitVec (c q)) → (∀ q, q < 8 → Int64.ofBitVec (c q) = u + lN q * s) → ∃ f2, mX11_fill_L3 u s k (nI i) f = some f2 ∧ isC f2 c
  | _, _, 0, _, _, hk, _, _ => absurd hk (Nat.not_lt_zero _)
  | 0, i, k + 1, f, h, _, q1, _ => ⟨f, by rw [mX11_fill_L3, if_pos (show (8 : Int32) ≤ nI i from nI_le (a := 8) (by omega) (by omega))], fun q hq => q1 q (by omega)⟩
  | d + 1, i, k + 1, f, h, hk, q1, q2 => by
    obtain ⟨f2, e, r⟩ := pr_cfill (u := u) (s := s) d (i + 1) k (vp_updL f i (Int64.ofBitVec (c i))) (by omega) (by omega) (fun q hq => by
      by_cases hqi : q = i
      · rw [hqi, pk_uLs]
      · rw [pk_uLn hqi]
        exact q1 q (by omega)) q2
    refine ⟨f2, ?_, r⟩
    rw [mX11_fill_L3, if_neg (show ¬ (8 : Int32) ≤ nI i from nI_ge (b := 8) (by omega) (by omega)), nI_l (by omega), ← q2 i (by omega), pr_keep _ (by omega)]
    simp only [Option.bind_some]
    rw [nI_1]
    exact e
theorem pr_rfill {u s : Int64} {c : Nat → BitVec 64} {K : Nat} (hK : 64 < K) : ∀ (d i k : Nat) (B : Nat → Nat → Int32), i + d = 8 → d < k → (∀ q, q < i → isR 64 (B q) (c q)) → (∀ q, q < 8 → Int64.ofBitVec (c q) = u + lN q * s) → ∃ B2, mX13_fill_L11 K s k (u + lN i * s) (nI i) B = some B2 ∧ isB B2 c
  | _, _, 0, _, _, hk, _, _ => absurd hk (Nat.not_lt_zero _)
  | 0, i, k + 1, B, h, _, q1, _ => ⟨B, by rw [mX13_fill_L11, if_pos (show (8 : Int32) ≤ nI i from nI_le (a := 8) (by omega) (by omega))], fun q hq => q1 q (by omega)⟩
  | d + 1, i, k + 1, B, h, hk, q1, q2 => by
    obtain ⟨f1, e1, a1, a2⟩ := pr_lays (N := 64) (k := K) (f := B i) (u + lN i * s) (by omega) (by omega) hK
    have a3 : isR 64 f1 (c i) := by
      have h9 : (u + lN i * s).toBitVec = c i := by
        rw [← q2 i (by omega)]
        rfl
      rw [h9] at a1
      exact a1
    obtain ⟨B2, e, r⟩ := pr_rfill (u := u) (s := s) hK d (i + 1) k (upR B i f1) (by omega) (by omega) (fun q hq => by
      unfold upR
      by_cases hqi : q = i
      · rw [if_pos hqi, hqi]
        exact a3
      · rw [if_neg hqi]
        exact q1 q (by omega)) q2
    refine ⟨B2, ?_, r⟩
    have es : u + lN i * s + s = u + lN (i + 1) * s := by
      rw [← lN_1, Int64.add_mul, Int64.one_mul, Int64.add_assoc]
    rw [mX13_fill_L11, if_neg (show ¬ (8 : Int32) ≤ nI i from nI_ge (b := 8) (by omega) (by omega)), if_neg (nI_in (show i < 8 by omega) (by omega)), nI_clamp (by omega), e1]
    simp only [Option.bind_some]
    rw [nI_1, es]
    exact e
set_option maxHeartbeats 4000000 in
set_option maxRecDepth 100000 in
theorem hs_3 {k L j : Nat} {xs : Nat → Int32} {ax : Nat → Nat} {x : XS} {m : MS} {o : Nat → Int64} (hk : 1000 ≤ k) (hL : j + 6 ≤ L) (hL2 : L ≤ 3072) (h : Inv x m o) : ∃ R, mC_3 k xs L (nI j) (x.1) (x.2.1) (x.2.2.1) (x.2.2.2.1) (x.2.2.2.2.1) (x.2.2.2.2.2.1) (x.2.2.2.2.2.2.1) (x.2.2.2.2.2.2.2.1) (x.2.2.2.2.2.2.2.2.1) (x.2.2.2.2.2.2.2.2.2.1) (x.2.2.2.2.2.2.2.2.2.2.1) (x.2.2.2.2.2.2.2.2.2.2.2.1) (x.2.2.2.2.2.2.2.2.2.2.2.2.1) (x.2.2.2.2.2.2.2.2.2.2.2.2.2.1) (x.2.2.2.2.2.2.2.2.2.2.2.2.2.2.1) (x.2.2.2.2.2.2.2.2.2.2.2.2.2.2.2.1) (x.2.2.2.2.2.2.2.2.2.2.2.2.2.2.2.2.1) (x.2.2.2.2.2.2.2.2.2.2.2.2.2.2.2.2.2.1) (x.2.2.2.2.2.2.2.2.2.2.2.2.2.2.2.2.2.2.1) (x.2.2.2.2.2.2.2.2.2.2.2.2.2.2.2.2.2.2.2.1) (x.2.2.2.2.2.2.2.2.2.2.2.2.2.2.2.2.2.2.2.2.1) (x.2.2.2.2.2.2.2.2.2.2.2.2.2.2.2.2.2.2.2.2.2.1) (x.2.2.2.2.2.2.2.2.2.2.2.2.2.2.2.2.2.2.2.2.2.2.1) (x.2.2.2.2.2.2.2.2.2.2.2.2.2.2.2.2.2.2.2.2.2.2.2.1) (x.2.2.2.2.2.2.2.2.2.2.2.2.2.2.2.2.2.2.2.2.2.2.2.2.1) (x.2.2.2.2.2.2.2.2.2.2.2.2.2.2.2.2.2.2.2.2.2.2.2.2.2.1) (x.2.2.2.2.2.2.2.2.2.2.2.2.2.2.2.2.2.2.2.2.2.2.2.2.2.2.1) (x.2.2.2.2.2.2.2.2.2.2.2.2.2.2.2.2.2.2.2.2.2.2.2.2.2.2.2.1) (x.2.2.2.2.2.2.2.2.2.2.2.2.2.2.2.2.2.2.2.2.2.2.2.2.2.2.2.2.1) (x.2.2.2.2.2.2.2.2.2.2.2.2.2.2.2.2.2.2.2.2.2.2.2.2.2.2.2.2.2.1) (x.2.2.2.2.2.2.2.2.2.2.2.2.2.2.2.2.2.2.2.2.2.2.2.2.2.2.2.2.2.2.1) (x.2.2.2.2.2.2.2.2.2.2.2.2.2.2.2.2.2.2.2.2.2.2.2.2.2.2.2.2.2.2.2.1) (x.2.2.2.2.2.2.2.2.2.2.2.2.2.2.2.2.2.2.2.2.2.2.2.2.2.2.2.2.2.2.2.2) (m.2.1) (m.2.2.1) (m.2.2.2.1) (m.2.2.2.2.1) (m.2.2.2.2.2.1) (m.2.2.2.2.2.2.1) (m.2.2.2.2.2.2.2.1) (m.2.2.2.2.2.2.2.2.1) (m.2.2.2.2.2.2.2.2.2.1) (m.2.2.2.2.2.2.2.2.2.2.1) (m.2.2.2.2.2.2.2.2.2.2.2.1) (m.2.2.2.2.2.2.2.2.2.2.2.2.1) (m.2.2.2.2.2.2.2.2.2.2.2.2.2.1) (m.2.2.2.2.2.2.2.2.2.2.2.2.2.2.1) (m.2.2.2.2.2.2.2.2.2.2.2.2.2.2.2.1) (m.2.2.2.2.2.2.2.2.2.2.2.2.2.2.2.2.1) (m.2.2.2.2.2.2.2.2.2.2.2.2.2.2.2.2.2.1) (m.2.2.2.2.2.2.2.2.2.2.2.2.2.2.2.2.2.2.1) (m.2.2.2.2.2.2.2.2.2.2.2.2.2.2.2.2.2.2.2.1) (m.2.2.2.2.2.2.2.2.2.2.2.2.2.2.2.2.2.2.2.2.1) (m.2.2.2.2.2.2.2.2.2.2.2.2.2.2.2.2.2.2.2.2.2.1) (m.2.2.2.2.2.2.2.2.2.2.2.2.2.2.2.2.2.2.2.2.2.2.1) (m.2.2.2.2.2.2.2.2.2.2.2.2.2.2.2.2.2.2.2.2.2.2.2.1) (m.2.2.2.2.2.2.2.2.2.2.2.2.2.2.2.2.2.2.2.2.2.2.2.2.1) (m.2.2.2.2.2.2.2.2.2.2.2.2.2.2.2.2.2.2.2.2.2.2.2.2.2.1) (m.2.2.2.2.2.2.2.2.2.2.2.2.2.2.2.2.2.2.2.2.2.2.2.2.2.2.1) (m.2.2.2.2.2.2.2.2.2.2.2.2.2.2.2.2.2.2.2.2.2.2.2.2.2.2.2.1) (m.2.2.2.2.2.2.2.2.2.2.2.2.2.2.2.2.2.2.2.2.2.2.2.2.2.2.2.2.1) (m.2.2.2.2.2.2.2.2.2.2.2.2.2.2.2.2.2.2.2.2.2.2.2.2.2.2.2.2.2.1) (m.2.2.2.2.2.2.2.2.2.2.2.2.2.2.2.2.2.2.2.2.2.2.2.2.2.2.2.2.2.2.1) (m.2.2.2.2.2.2.2.2.2.2.2.2.2.2.2.2.2.2.2.2.2.2.2.2.2.2.2.2.2.2.2.1) (m.2.2.2.2.2.2.2.2.2.2.2.2.2.2.2.2.2.2.2.2.2.2.2.2.2.2.2.2.2.2.2.2.1) (m.2.2.2.2.2.2.2.2.2.2.2.2.2.2.2.2.2.2.2.2.2.2.2.2.2.2.2.2.2.2.2.2.2.1) (m.2.2.2.2.2.2.2.2.2.2.2.2.2.2.2.2.2.2.2.2.2.2.2.2.2.2.2.2.2.2.2.2.2.2.1) (m.2.2.2.2.2.2.2.2.2.2.2.2.2.2.2.2.2.2.2.2.2.2.2.2.2.2.2.2.2.2.2.2.2.2.2) o = some R ∧ Inv R.1 R.2.1 R.2.2 := by
  obtain ⟨b, c, tn, tx, pn, pg, hC, hw, hmw, hB, hp, ht⟩ := h
  rw [hw, hmw, mC_3]
  simp only [gd1 hL hL2, gd2 hL hL2, gd3 hL hL2, gd4 hL hL2, gd5 hL hL2, if_false]
  generalize ((((((xs (nI j + 1).toNatClampNeg).toInt64) <<< ((32 : Int32).toInt64 &&& 63))) ||| (((xs (nI j + 2).toNatClampNeg).toInt64) &&& 4294967295))) = u
  generalize ((((((xs (nI j + 3).toNatClampNeg).toInt64) <<< ((32 : Int32).toInt64 &&& 63))) ||| (((xs (nI j + 4).toNatClampNeg).toInt64) &&& 4294967295))) = s
  have q2 : ∀ q, q < 8 → Int64.ofBitVec ((fun q : Nat => (u + lN q * s).toBitVec) q) = u + lN q * s := fun q _ => rfl
  obtain ⟨f2, e1, hC2⟩ := pr_cfill (u := u) (s := s) (c := fun q : Nat => (u + lN q * s).toBitVec) 8 0 k x.1 (by omega) (by omega) (fun q hq => absurd hq (Nat.not_lt_zero _)) q2
  obtain ⟨B2, e2, hB2⟩ := pr_rfill (u := u) (s := s) (c := fun q : Nat => (u + lN q * s).toBitVec) (K := k) (by omega) 8 0 k m.2.2.1 (by omega) (by omega) (fun q hq => absurd hq (Nat.not_lt_zero _)) q2
  have e1' : mX11_fill_L3 u s k 0 x.1 = some f2 := e1
  have e2' : mX13_fill_L11 k s k u 0 m.2.2.1 = some B2 := by
    have h9 : u + lN 0 * s = u := by
      have h8 : lN 0 = 0 := rfl
      rw [h8, Int64.zero_mul, Int64.add_zero]
    rw [h9] at e2
    exact e2
  have n1 := pr_csigned b hC2 (show 7 < 8 by omega)
  have n2 := pr_number (b := b) (k := k) hB2 (show 7 < 8 by omega) (by omega)
  have n1' : mX2_signed f2 (bI b) 7 = _ := n1
  have n2' : mX12_number k (bI b) B2 7 = _ := n2
  rw [mX11_fill, e1', mX13_fill, e2']
  simp only [Option.bind_some]
  rw [n1', n2']
  simp only [Option.bind_some]
  rw [if_pos ((lg_cmp_eq _ _).mpr rfl)]
  exact ⟨_, rfl, ⟨b, _, tn, tx, pn, pg, hC2, rfl, rfl, hB2, hp, ht⟩⟩
