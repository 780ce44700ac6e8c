/-! pure: the state of both sides, the cells' calls -/
def INV (b : Bool) (c : Nat → BitVec 64) (tn : Nat) (tx : Nat → Nat) (pn : Nat) (pg : Nat → Nat) (xc : Nat → Int64) (xw : Int32) (xp : Nat → Int32) (xpl : Int32) (xt : Nat → Int32) (xtl : Int32) (mw : Int32) (mB : Nat → Nat → Int32) (mp : Nat → Int32) (mpl : Int32) (mt : Nat → Int32) (mtl : Int32) : Prop :=
  isC xc c ∧ xw = bI b ∧ mw = bI b ∧ isB mB c ∧ (pn ≤ 65 ∧ xpl = nI pn ∧ mpl = nI pn ∧ ∀ i, i < pn → xp i = nI (pg i) ∧ mp i = nI (pg i) ∧ 0 < pg i ∧ pg i < 256) ∧ (tn ≤ 300 ∧ xtl = nI tn ∧ mtl = nI tn ∧ ∀ i, i < tn → xt i = nI (tx i) ∧ mt i = nI (tx i) ∧ tx i < 256)
def Inv (x : XS) (m : MS) (_ : Nat → Int64) : Prop := ∃ b c tn tx pn pg, INV b c tn tx pn pg (x.1) (x.2.2.2.2.2.1) (x.2.2.1) (x.2.2.2.1) (x.2.2.2.2.2.2.1) (x.2.2.2.2.2.2.2.1) (m.2.1) (m.2.2.1) (m.2.2.2.1) (m.2.2.2.2.1) (m.2.2.2.2.2.2.2.2.2.2.2.2.2.2.2.2.2.2.2.2.2.2.2.2.2.1) (m.2.2.2.2.2.2.2.2.2.2.2.2.2.2.2.2.2.2.2.2.2.2.2.2.2.2.1)
theorem e10 : ((1 : Int32) = 0) = False := eq_false (by decide)
theorem e20 : ((2 : Int32) = 0) = False := eq_false (by decide)
theorem c00 : (0 : Int32).toNatClampNeg = 0 := rfl
theorem z00 : ((0 : Int32) < 0 ∨ 1 ≤ 0) = False := eq_false (by decide)
theorem flg (p : Int32) : ∃ q : Bool, ((if p = 0 then some 0 else some 1) : Option Int32) = some (bI q) := by
  by_cases h : p = 0
  · exact ⟨false, by rw [if_pos h]; rfl⟩
  · exact ⟨true, by rw [if_neg h]; rfl⟩
def cellBad (p : Int32) : Prop := p < 0 ∨ nI 8 ≤ p
theorem cell_or (p : Int32) : cellBad p ∨ ∃ i : Nat, i < 8 ∧ p = nI i := by
  rcases pk_ix p (n := 8) (by decide) with h | h | h
  · exact Or.inl (Or.inl h)
  · exact Or.inl (Or.inr h)
  · exact Or.inr h
theorem bad_n8 {p : Int32} (h : nI 8 ≤ p) : ¬ p < 8 := fun z => by
  have h1 := Int32.le_iff_toInt_le.mp h
  have h2 := Int32.lt_iff_toInt_lt.mp z
  have h3 : (nI 8).toInt = 8 := rfl
  have h4 : (8 : Int32).toInt = 8 := rfl
  omega
theorem ck_ok {j : Nat} (h : j < 8) : mX11_checkCell (nI j) = some () := by
  rw [mX11_checkCell, if_neg (nI_pos (by omega)), if_pos (show nI j < (8 : Int32) from nI_lt (b := 8) h (by omega))]
theorem ck_bad {p : Int32} (h : cellBad p) : mX11_checkCell p = none := by
  rw [mX11_checkCell]
  by_cases h0 : p < 0
  · rw [if_pos h0]
  · rw [if_neg h0, if_neg (bad_n8 (h.resolve_left h0))]
theorem ckT_bad {p : Int32} (h : cellBad p) : mX11_checkCell_T10 p = some () := by
  rw [mX11_checkCell_T10]
  by_cases h0 : p < 0
  · rw [if_pos h0]
    rfl
  · rw [if_neg h0, if_neg (bad_n8 (h.resolve_left h0))]
    rfl
theorem ic_ok {j : Nat} (h : j < 8) : mX13_isCell (nI j) = some 1 := by
  rw [mX13_isCell, mX13_in, if_neg (nI_pos (by omega)), if_neg (show ¬ (7 : Int32) < nI j from nI_nlt (a := 7) (by omega) (by omega))]
  rfl
theorem ic_bad {p : Int32} (h : cellBad p) : mX13_isCell p = some 0 := by
  rw [mX13_isCell, mX13_in]
  by_cases h0 : p < 0
  · rw [if_pos h0]
    rfl
  · have h7 : (7 : Int32) < p := by
      have h1 := Int32.le_iff_toInt_le.mp (h.resolve_left h0)
      have h3 : (nI 8).toInt = 8 := rfl
      have h4 : (7 : Int32).toInt = 7 := rfl
      exact Int32.lt_iff_toInt_lt.mpr (by omega)
    rw [if_neg h0, if_pos h7]
    rfl
theorem ps_11 : mX13_passes 1 1 = some (1, 0) := rfl
theorem ps_01 : mX13_passes 0 1 = some (0, 1) := rfl
theorem ps_10 : mX13_passes 1 0 = some (0, 2) := rfl
theorem ps_00 : mX13_passes 0 0 = some (0, 1) := rfl
theorem up_0 {o : Nat → Int64} {v : Int64} : vp_updL o 0 v 0 = v := pk_uLs
theorem gd1 {j L : Nat} (h : j + 6 ≤ L) (h2 : L ≤ 3072) : (nI j + 1 < 0 ∨ L ≤ (nI j + 1).toNatClampNeg) = False := by
  have e : nI j + 1 = nI (j + 1) := nI_add j 1
  rw [e]
  exact eq_false (nI_in (by omega) (by omega))
theorem gd2 {j L : Nat} (h : j + 6 ≤ L) (h2 : L ≤ 3072) : (nI j + 2 < 0 ∨ L ≤ (nI j + 2).toNatClampNeg) = False := by
  have e : nI j + 2 = nI (j + 2) := nI_add j 2
  rw [e]
  exact eq_false (nI_in (by omega) (by omega))
theorem gd3 {j L : Nat} (h : j + 6 ≤ L) (h2 : L ≤ 3072) : (nI j + 3 < 0 ∨ L ≤ (nI j + 3).toNatClampNeg) = False := by
  have e : nI j + 3 = nI (j + 3) := nI_add j 3
  rw [e]
  exact eq_false (nI_in (by omega) (by omega))
theorem gd4 {j L : Nat} (h : j + 6 ≤ L) (h2 : L ≤ 3072) : (nI j + 4 < 0 ∨ L ≤ (nI j + 4).toNatClampNeg) = False := by
  have e : nI j + 4 = nI (j + 4) := nI_add j 4
  rw [e]
  exact eq_false (nI_in (by omega) (by omega))
theorem gd5 {j L : Nat} (h : j + 6 ≤ L) (h2 : L ≤ 3072) : (nI j + 5 < 0 ∨ L ≤ (nI j + 5).toNatClampNeg) = False := by
  have e : nI j + 5 = nI (j + 5) := nI_add j 5
  rw [e]
  exact eq_false (nI_in (by omega) (by omega))
theorem cl_count_bad {xc : Nat → Int64} {w : Int32} {o : Nat → Int64} {p : Int32} (h : cellBad p) : mL_count xc w o p = some (1, o) := by
  rw [mL_count, mL_count_N, mX11_count, ck_bad h, mL_count_T1_10, mX11_count_T1_10, ckT_bad h]
  rfl
theorem rf_count_bad {k : Nat} {w : Int32} {B : Nat → Nat → Int32} {p : Int32} (h : cellBad p) : mX13_count k w B p = some (0, 1) := by
  rw [mX13_count, ic_bad h]
  rfl
set_option maxHeartbeats 4000000 in
set_option maxRecDepth 100000 in
theorem hs_22 {k L j : Nat} {xs : Nat → Int32} {ax : Nat → Nat} {x : XS} {m : MS} {o : Nat → Int64} (hk : 1000 ≤ k) (hL : j + 6 ≤ L) (hL2 : L ≤ 3072) (h : Inv x m o) : ∃ R, mC_22 k xs L (nI j) (x.1) (x.2.1) (x.2.2.1) (x.2.2.2.1) (x.2.2.2.2.1) (x.2.2.2.2.2.1) (x.2.2.2.2.2.2.1) (x.2.2.2.2.2.2.2.1) (x.2.2.2.2.2.2.2.2.1) (x.2.2.2.2.2.2.2.2.2.1) (x.2.2.2.2.2.2.2.2.2.2.1) (x.2.2.2.2.2.2.2.2.2.2.2.1) (x.2.2.2.2.2.2.2.2.2.2.2.2.1) (x.2.2.2.2.2.2.2.2.2.2.2.2.2.1) (x.2.2.2.2.2.2.2.2.2.2.2.2.2.2.1) (x.2.2.2.2.2.2.2.2.2.2.2.2.2.2.2.1) (x.2.2.2.2.2.2.2.2.2.2.2.2.2.2.2.2.1) (x.2.2.2.2.2.2.2.2.2.2.2.2.2.2.2.2.2.1) (x.2.2.2.2.2.2.2.2.2.2.2.2.2.2.2.2.2.2.1) (x.2.2.2.2.2.2.2.2.2.2.2.2.2.2.2.2.2.2.2.1) (x.2.2.2.2.2.2.2.2.2.2.2.2.2.2.2.2.2.2.2.2.1) (x.2.2.2.2.2.2.2.2.2.2.2.2.2.2.2.2.2.2.2.2.2.1) (x.2.2.2.2.2.2.2.2.2.2.2.2.2.2.2.2.2.2.2.2.2.2.1) (x.2.2.2.2.2.2.2.2.2.2.2.2.2.2.2.2.2.2.2.2.2.2.2.1) (x.2.2.2.2.2.2.2.2.2.2.2.2.2.2.2.2.2.2.2.2.2.2.2.2.1) (x.2.2.2.2.2.2.2.2.2.2.2.2.2.2.2.2.2.2.2.2.2.2.2.2.2.1) (x.2.2.2.2.2.2.2.2.2.2.2.2.2.2.2.2.2.2.2.2.2.2.2.2.2.2.1) (x.2.2.2.2.2.2.2.2.2.2.2.2.2.2.2.2.2.2.2.2.2.2.2.2.2.2.2.1) (x.2.2.2.2.2.2.2.2.2.2.2.2.2.2.2.2.2.2.2.2.2.2.2.2.2.2.2.2.1) (x.2.2.2.2.2.2.2.2.2.2.2.2.2.2.2.2.2.2.2.2.2.2.2.2.2.2.2.2.2.1) (x.2.2.2.2.2.2.2.2.2.2.2.2.2.2.2.2.2.2.2.2.2.2.2.2.2.2.2.2.2.2.1) (x.2.2.2.2.2.2.2.2.2.2.2.2.2.2.2.2.2.2.2.2.2.2.2.2.2.2.2.2.2.2.2.1) (x.2.2.2.2.2.2.2.2.2.2.2.2.2.2.2.2.2.2.2.2.2.2.2.2.2.2.2.2.2.2.2.2) (m.2.1) (m.2.2.1) (m.2.2.2.1) (m.2.2.2.2.1) (m.2.2.2.2.2.1) (m.2.2.2.2.2.2.1) (m.2.2.2.2.2.2.2.1) (m.2.2.2.2.2.2.2.2.1) (m.2.2.2.2.2.2.2.2.2.1) (m.2.2.2.2.2.2.2.2.2.2.1) (m.2.2.2.2.2.2.2.2.2.2.2.1) (m.2.2.2.2.2.2.2.2.2.2.2.2.1) (m.2.2.2.2.2.2.2.2.2.2.2.2.2.1) (m.2.2.2.2.2.2.2.2.2.2.2.2.2.2.1) (m.2.2.2.2.2.2.2.2.2.2.2.2.2.2.2.1) (m.2.2.2.2.2.2.2.2.2.2.2.2.2.2.2.2.1) (m.2.2.2.2.2.2.2.2.2.2.2.2.2.2.2.2.2.1) (m.2.2.2.2.2.2.2.2.2.2.2.2.2.2.2.2.2.2.1) (m.2.2.2.2.2.2.2.2.2.2.2.2.2.2.2.2.2.2.2.1) (m.2.2.2.2.2.2.2.2.2.2.2.2.2.2.2.2.2.2.2.2.1) (m.2.2.2.2.2.2.2.2.2.2.2.2.2.2.2.2.2.2.2.2.2.1) (m.2.2.2.2.2.2.2.2.2.2.2.2.2.2.2.2.2.2.2.2.2.2.1) (m.2.2.2.2.2.2.2.2.2.2.2.2.2.2.2.2.2.2.2.2.2.2.2.1) (m.2.2.2.2.2.2.2.2.2.2.2.2.2.2.2.2.2.2.2.2.2.2.2.2.1) (m.2.2.2.2.2.2.2.2.2.2.2.2.2.2.2.2.2.2.2.2.2.2.2.2.2.1) (m.2.2.2.2.2.2.2.2.2.2.2.2.2.2.2.2.2.2.2.2.2.2.2.2.2.2.1) (m.2.2.2.2.2.2.2.2.2.2.2.2.2.2.2.2.2.2.2.2.2.2.2.2.2.2.2.1) (m.2.2.2.2.2.2.2.2.2.2.2.2.2.2.2.2.2.2.2.2.2.2.2.2.2.2.2.2.1) (m.2.2.2.2.2.2.2.2.2.2.2.2.2.2.2.2.2.2.2.2.2.2.2.2.2.2.2.2.2.1) (m.2.2.2.2.2.2.2.2.2.2.2.2.2.2.2.2.2.2.2.2.2.2.2.2.2.2.2.2.2.2.1) (m.2.2.2.2.2.2.2.2.2.2.2.2.2.2.2.2.2.2.2.2.2.2.2.2.2.2.2.2.2.2.2.1) (m.2.2.2.2.2.2.2.2.2.2.2.2.2.2.2.2.2.2.2.2.2.2.2.2.2.2.2.2.2.2.2.2.1) (m.2.2.2.2.2.2.2.2.2.2.2.2.2.2.2.2.2.2.2.2.2.2.2.2.2.2.2.2.2.2.2.2.2.1) (m.2.2.2.2.2.2.2.2.2.2.2.2.2.2.2.2.2.2.2.2.2.2.2.2.2.2.2.2.2.2.2.2.2.2.1) (m.2.2.2.2.2.2.2.2.2.2.2.2.2.2.2.2.2.2.2.2.2.2.2.2.2.2.2.2.2.2.2.2.2.2.2) o = some R ∧ Inv R.1 R.2.1 R.2.2 := by
  obtain ⟨b, c, tn, tx, pn, pg, hC, hw, hmw, hB, hp, ht⟩ := h
  rw [hw, hmw, mC_22]
  simp only [gd1 hL hL2, gd2 hL hL2, gd3 hL hL2, gd4 hL hL2, gd5 hL hL2, if_false]
  generalize xs (nI j + 1).toNatClampNeg = p
  rcases cell_or p with hb | ⟨i, hi, e⟩
  · rw [cl_count_bad hb]
    simp only [Option.bind_some]
    rw [rf_count_bad hb]
    simp only [Option.bind_some, mX13_thrown, if_true, e10, e20, if_false]
    exact ⟨_, rfl, ⟨b, c, tn, tx, pn, pg, hC, rfl, rfl, hB, hp, ht⟩⟩
  · subst e
    have eL : mL_count (x.1) (bI b) o (nI i) = some (0, vp_updL o 0 (Int32.toInt64 (nI (cnt (c i) (wd b))))) := by
      rw [mL_count, mL_count_N, mX11_count, ck_ok hi]
      simp only [Option.bind_some]
      rw [pr_ones hC hi]
      simp only [Option.bind_some, c00, z00, if_false]
    have eM : mX13_count k (bI b) (m.2.2.1) (nI i) = some (nI (cnt (c i) (wd b)), 0) := by
      rw [mX13_count, ic_ok hi]
      simp only [Option.bind_some, ps_11]
      rw [if_neg (by decide)]
      rw [pr_count (hB i hi) hi (by omega)]
      rfl
    rw [eL]
    simp only [Option.bind_some]
    rw [eM]
    simp only [Option.bind_some, mX13_thrown, if_true, c00, z00, if_false, up_0]
    rw [if_pos ((lg_cmp_eq _ _).mpr rfl)]
    exact ⟨_, rfl, ⟨b, c, tn, tx, pn, pg, hC, rfl, rfl, hB, hp, ht⟩⟩
theorem cl_leading_bad {xc : Nat → Int64} {w : Int32} {o : Nat → Int64} {p : Int32} (h : cellBad p) : mL_leading xc w o p = some (1, o) := by
  rw [mL_leading, mL_leading_N, mX11_leading, ck_bad h, mL_leading_T1_10, mX11_leading_T1_10, ckT_bad h]
  rfl
theorem rf_leading_bad {k : Nat} {w : Int32} {B : Nat → Nat → Int32} {p : Int32} (h : cellBad p) : mX13_leading k w B p = some (0, 1) := by
  rw [mX13_leading, ic_bad h]
  rfl
set_option maxHeartbeats 4000000 in
set_option maxRecDepth 100000 in
theorem hs_23 {k L j : Nat} {xs : Nat → Int32} {ax : Nat → Nat} {x : XS} {m : MS} {o : Nat → Int64} (hk : 1000 ≤ k) (hL : j + 6 ≤ L) (hL2 : L ≤ 3072) (h : Inv x m o) : ∃ R, mC_23 k xs L (nI j) (x.1) (x.2.1) (x.2.2.1) (x.2.2.2.1) (x.2.2.2.2.1) (x.2.2.2.2.2.1) (x.2.2.2.2.2.2.1) (x.2.2.2.2.2.2.2.1) (x.2.2.2.2.2.2.2.2.1) (x.2.2.2.2.2.2.2.2.2.1) (x.2.2.2.2.2.2.2.2.2.2.1) (x.2.2.2.2.2.2.2.2.2.2.2.1) (x.2.2.2.2.2.2.2.2.2.2.2.2.1) (x.2.2.2.2.2.2.2.2.2.2.2.2.2.1) (x.2.2.2.2.2.2.2.2.2.2.2.2.2.2.1) (x.2.2.2.2.2.2.2.2.2.2.2.2.2.2.2.1) (x.2.2.2.2.2.2.2.2.2.2.2.2.2.2.2.2.1) (x.2.2.2.2.2.2.2.2.2.2.2.2.2.2.2.2.2.1) (x.2.2.2.2.2.2.2.2.2.2.2.2.2.2.2.2.2.2.1) (x.2.2.2.2.2.2.2.2.2.2.2.2.2.2.2.2.2.2.2.1) (x.2.2.2.2.2.2.2.2.2.2.2.2.2.2.2.2.2.2.2.2.1) (x.2.2.2.2.2.2.2.2.2.2.2.2.2.2.2.2.2.2.2.2.2.1) (x.2.2.2.2.2.2.2.2.2.2.2.2.2.2.2.2.2.2.2.2.2.2.1) (x.2.2.2.2.2.2.2.2.2.2.2.2.2.2.2.2.2.2.2.2.2.2.2.1) (x.2.2.2.2.2.2.2.2.2.2.2.2.2.2.2.2.2.2.2.2.2.2.2.2.1) (x.2.2.2.2.2.2.2.2.2.2.2.2.2.2.2.2.2.2.2.2.2.2.2.2.2.1) (x.2.2.2.2.2.2.2.2.2.2.2.2.2.2.2.2.2.2.2.2.2.2.2.2.2.2.1) (x.2.2.2.2.2.2.2.2.2.2.2.2.2.2.2.2.2.2.2.2.2.2.2.2.2.2.2.1) (x.2.2.2.2.2.2.2.2.2.2.2.2.2.2.2.2.2.2.2.2.2.2.2.2.2.2.2.2.1) (x.2.2.2.2.2.2.2.2.2.2.2.2.2.2.2.2.2.2.2.2.2.2.2.2.2.2.2.2.2.1) (x.2.2.2.2.2.2.2.2.2.2.2.2.2.2.2.2.2.2.2.2.2.2.2.2.2.2.2.2.2.2.1) (x.2.2.2.2.2.2.2.2.2.2.2.2.2.2.2.2.2.2.2.2.2.2.2.2.2.2.2.2.2.2.2.1) (x.2.2.2.2.2.2.2.2.2.2.2.2.2.2.2.2.2.2.2.2.2.2.2.2.2.2.2.2.2.2.2.2) (m.2.1) (m.2.2.1) (m.2.2.2.1) (m.2.2.2.2.1) (m.2.2.2.2.2.1) (m.2.2.2.2.2.2.1) (m.2.2.2.2.2.2.2.1) (m.2.2.2.2.2.2.2.2.1) (m.2.2.2.2.2.2.2.2.2.1) (m.2.2.2.2.2.2.2.2.2.2.1) (m.2.2.2.2.2.2.2.2.2.2.2.1) (m.2.2.2.2.2.2.2.2.2.2.2.2.1) (m.2.2.2.2.2.2.2.2.2.2.2.2.2.1) (m.2.2.2.2.2.2.2.2.2.2.2.2.2.2.1) (m.2.2.2.2.2.2.2.2.2.2.2.2.2.2.2.1) (m.2.2.2.2.2.2.2.2.2.2.2.2.2.2.2.2.1) (m.2.2.2.2.2.2.2.2.2.2.2.2.2.2.2.2.2.1) (m.2.2.2.2.2.2.2.2.2.2.2.2.2.2.2.2.2.2.1) (m.2.2.2.2.2.2.2.2.2.2.2.2.2.2.2.2.2.2.2.1) (m.2.2.2.2.2.2.2.2.2.2.2.2.2.2.2.2.2.2.2.2.1) (m.2.2.2.2.2.2.2.2.2.2.2.2.2.2.2.2.2.2.2.2.2.1) (m.2.2.2.2.2.2.2.2.2.2.2.2.2.2.2.2.2.2.2.2.2.2.1) (m.2.2.2.2.2.2.2.2.2.2.2.2.2.2.2.2.2.2.2.2.2.2.2.1) (m.2.2.2.2.2.2.2.2.2.2.2.2.2.2.2.2.2.2.2.2.2.2.2.2.1) (m.2.2.2.2.2.2.2.2.2.2.2.2.2.2.2.2.2.2.2.2.2.2.2.2.2.1) (m.2.2.2.2.2.2.2.2.2.2.2.2.2.2.2.2.2.2.2.2.2.2.2.2.2.2.1) (m.2.2.2.2.2.2.2.2.2.2.2.2.2.2.2.2.2.2.2.2.2.2.2.2.2.2.2.1) (m.2.2.2.2.2.2.2.2.2.2.2.2.2.2.2.2.2.2.2.2.2.2.2.2.2.2.2.2.1) (m.2.2.2.2.2.2.2.2.2.2.2.2.2.2.2.2.2.2.2.2.2.2.2.2.2.2.2.2.2.1) (m.2.2.2.2.2.2.2.2.2.2.2.2.2.2.2.2.2.2.2.2.2.2.2.2.2.2.2.2.2.2.1) (m.2.2.2.2.2.2.2.2.2.2.2.2.2.2.2.2.2.2.2.2.2.2.2.2.2.2.2.2.2.2.2.1) (m.2.2.2.2.2.2.2.2.2.2.2.2.2.2.2.2.2.2.2.2.2.2.2.2.2.2.2.2.2.2.2.2.1) (m.2.2.2.2.2.2.2.2.2.2.2.2.2.2.2.2.2.2.2.2.2.2.2.2.2.2.2.2.2.2.2.2.2.1) (m.2.2.2.2.2.2.2.2.2.2.2.2.2.2.2.2.2.2.2.2.2.2.2.2.2.2.2.2.2.2.2.2.2.2.1) (m.2.2.2.2.2.2.2.2.2.2.2.2.2.2.2.2.2.2.2.2.2.2.2.2.2.2.2.2.2.2.2.2.2.2.2) o = some R ∧ Inv R.1 R.2.1 R.2.2 := by
  obtain ⟨b, c, tn, tx, pn, pg, hC, hw, hmw, hB, hp, ht⟩ := h
  rw [hw, hmw, mC_23]
  simp only [gd1 hL hL2, gd2 hL hL2, gd3 hL hL2, gd4 hL hL2, gd5 hL hL2, if_false]
  generalize xs (nI j + 1).toNatClampNeg = p
  rcases cell_or p with hb | ⟨i, hi, e⟩
  · rw [cl_leading_bad hb]
    simp only [Option.bind_some]
    rw [rf_leading_bad hb]
    simp only [Option.bind_some, mX13_thrown, if_true, e10, e20, if_false]
    exact ⟨_, rfl, ⟨b, c, tn, tx, pn, pg, hC, rfl, rfl, hB, hp, ht⟩⟩
  · subst e
    have eL : mL_leading (x.1) (bI b) o (nI i) = some (0, vp_updL o 0 (Int32.toInt64 (nI (alk false true (wd b) (c i))))) := by
      rw [mL_leading, mL_leading_N, mX11_leading, ck_ok hi]
      simp only [Option.bind_some]
      rw [mX2_zerosInFront, pr_allBits hC hi]
      simp only [Option.bind_some]
      rw [pr_zerosInFront]
      simp only [Option.bind_some, c00, z00, if_false]
    have eM : mX13_leading k (bI b) (m.2.2.1) (nI i) = some (nI (alk false true (wd b) (c i)), 0) := by
      rw [mX13_leading, ic_ok hi]
      simp only [Option.bind_some, ps_11]
      rw [if_neg (by decide)]
      have e9 := pr_alike (b := b) (bit := false) (above := true) (k := k) (hB i hi) hi (by omega)
      have e9' : mX12_alike k (bI b) (m.2.2.1) (nI i) 0 1 = _ := e9
      rw [e9']
      rfl
    rw [eL]
    simp only [Option.bind_some]
    rw [eM]
    simp only [Option.bind_some, mX13_thrown, if_true, c00, z00, if_false, up_0]
    rw [if_pos ((lg_cmp_eq _ _).mpr rfl)]
    exact ⟨_, rfl, ⟨b, c, tn, tx, pn, pg, hC, rfl, rfl, hB, hp, ht⟩⟩
theorem cl_trailing_bad {xc : Nat → Int64} {w : Int32} {o : Nat → Int64} {p : Int32} (h : cellBad p) : mL_trailing xc w o p = some (1, o) := by
  rw [mL_trailing, mL_trailing_N, mX11_trailing, ck_bad h, mL_trailing_T1_10, mX11_trailing_T1_10, ckT_bad h]
  rfl
theorem rf_trailing_bad {k : Nat} {w : Int32} {B : Nat → Nat → Int32} {p : Int32} (h : cellBad p) : mX13_trailing k w B p = some (0, 1) := by
  rw [mX13_trailing, ic_bad h]
  rfl
set_option maxHeartbeats 4000000 in
set_option maxRecDepth 100000 in
theorem hs_24 {k L j : Nat} {xs : Nat → Int32} {ax : Nat → Nat} {x : XS} {m : MS} {o : Nat → Int64} (hk : 1000 ≤ k) (hL : j + 6 ≤ L) (hL2 : L ≤ 3072) (h : Inv x m o) : ∃ R, mC_24 k xs L (nI j) (x.1) (x.2.1) (x.2.2.1) (x.2.2.2.1) (x.2.2.2.2.1) (x.2.2.2.2.2.1) (x.2.2.2.2.2.2.1) (x.2.2.2.2.2.2.2.1) (x.2.2.2.2.2.2.2.2.1) (x.2.2.2.2.2.2.2.2.2.1) (x.2.2.2.2.2.2.2.2.2.2.1) (x.2.2.2.2.2.2.2.2.2.2.2.1) (x.2.2.2.2.2.2.2.2.2.2.2.2.1) (x.2.2.2.2.2.2.2.2.2.2.2.2.2.1) (x.2.2.2.2.2.2.2.2.2.2.2.2.2.2.1) (x.2.2.2.2.2.2.2.2.2.2.2.2.2.2.2.1) (x.2.2.2.2.2.2.2.2.2.2.2.2.2.2.2.2.1) (x.2.2.2.2.2.2.2.2.2.2.2.2.2.2.2.2.2.1) (x.2.2.2.2.2.2.2.2.2.2.2.2.2.2.2.2.2.2.1) (x.2.2.2.2.2.2.2.2.2.2.2.2.2.2.2.2.2.2.2.1) (x.2.2.2.2.2.2.2.2.2.2.2.2.2.2.2.2.2.2.2.2.1) (x.2.2.2.2.2.2.2.2.2.2.2.2.2.2.2.2.2.2.2.2.2.1) (x.2.2.2.2.2.2.2.2.2.2.2.2.2.2.2.2.2.2.2.2.2.2.1) (x.2.2.2.2.2.2.2.2.2.2.2.2.2.2.2.2.2.2.2.2.2.2.2.1) (x.2.2.2.2.2.2.2.2.2.2.2.2.2.2.2.2.2.2.2.2.2.2.2.2.1) (x.2.2.2.2.2.2.2.2.2.2.2.2.2.2.2.2.2.2.2.2.2.2.2.2.2.1) (x.2.2.2.2.2.2.2.2.2.2.2.2.2.2.2.2.2.2.2.2.2.2.2.2.2.2.1) (x.2.2.2.2.2.2.2.2.2.2.2.2.2.2.2.2.2.2.2.2.2.2.2.2.2.2.2.1) (x.2.2.2.2.2.2.2.2.2.2.2.2.2.2.2.2.2.2.2.2.2.2.2.2.2.2.2.2.1) (x.2.2.2.2.2.2.2.2.2.2.2.2.2.2.2.2.2.2.2.2.2.2.2.2.2.2.2.2.2.1) (x.2.2.2.2.2.2.2.2.2.2.2.2.2.2.2.2.2.2.2.2.2.2.2.2.2.2.2.2.2.2.1) (x.2.2.2.2.2.2.2.2.2.2.2.2.2.2.2.2.2.2.2.2.2.2.2.2.2.2.2.2.2.2.2.1) (x.2.2.2.2.2.2.2.2.2.2.2.2.2.2.2.2.2.2.2.2.2.2.2.2.2.2.2.2.2.2.2.2) (m.2.1) (m.2.2.1) (m.2.2.2.1) (m.2.2.2.2.1) (m.2.2.2.2.2.1) (m.2.2.2.2.2.2.1) (m.2.2.2.2.2.2.2.1) (m.2.2.2.2.2.2.2.2.1) (m.2.2.2.2.2.2.2.2.2.1) (m.2.2.2.2.2.2.2.2.2.2.1) (m.2.2.2.2.2.2.2.2.2.2.2.1) (m.2.2.2.2.2.2.2.2.2.2.2.2.1) (m.2.2.2.2.2.2.2.2.2.2.2.2.2.1) (m.2.2.2.2.2.2.2.2.2.2.2.2.2.2.1) (m.2.2.2.2.2.2.2.2.2.2.2.2.2.2.2.1) (m.2.2.2.2.2.2.2.2.2.2.2.2.2.2.2.2.1) (m.2.2.2.2.2.2.2.2.2.2.2.2.2.2.2.2.2.1) (m.2.2.2.2.2.2.2.2.2.2.2.2.2.2.2.2.2.2.1) (m.2.2.2.2.2.2.2.2.2.2.2.2.2.2.2.2.2.2.2.1) (m.2.2.2.2.2.2.2.2.2.2.2.2.2.2.2.2.2.2.2.2.1) (m.2.2.2.2.2.2.2.2.2.2.2.2.2.2.2.2.2.2.2.2.2.1) (m.2.2.2.2.2.2.2.2.2.2.2.2.2.2.2.2.2.2.2.2.2.2.1) (m.2.2.2.2.2.2.2.2.2.2.2.2.2.2.2.2.2.2.2.2.2.2.2.1) (m.2.2.2.2.2.2.2.2.2.2.2.2.2.2.2.2.2.2.2.2.2.2.2.2.1) (m.2.2.2.2.2.2.2.2.2.2.2.2.2.2.2.2.2.2.2.2.2.2.2.2.2.1) (m.2.2.2.2.2.2.2.2.2.2.2.2.2.2.2.2.2.2.2.2.2.2.2.2.2.2.1) (m.2.2.2.2.2.2.2.2.2.2.2.2.2.2.2.2.2.2.2.2.2.2.2.2.2.2.2.1) (m.2.2.2.2.2.2.2.2.2.2.2.2.2.2.2.2.2.2.2.2.2.2.2.2.2.2.2.2.1) (m.2.2.2.2.2.2.2.2.2.2.2.2.2.2.2.2.2.2.2.2.2.2.2.2.2.2.2.2.2.1) (m.2.2.2.2.2.2.2.2.2.2.2.2.2.2.2.2.2.2.2.2.2.2.2.2.2.2.2.2.2.2.1) (m.2.2.2.2.2.2.2.2.2.2.2.2.2.2.2.2.2.2.2.2.2.2.2.2.2.2.2.2.2.2.2.1) (m.2.2.2.2.2.2.2.2.2.2.2.2.2.2.2.2.2.2.2.2.2.2.2.2.2.2.2.2.2.2.2.2.1) (m.2.2.2.2.2.2.2.2.2.2.2.2.2.2.2.2.2.2.2.2.2.2.2.2.2.2.2.2.2.2.2.2.2.1) (m.2.2.2.2.2.2.2.2.2.2.2.2.2.2.2.2.2.2.2.2.2.2.2.2.2.2.2.2.2.2.2.2.2.2.1) (m.2.2.2.2.2.2.2.2.2.2.2.2.2.2.2.2.2.2.2.2.2.2.2.2.2.2.2.2.2.2.2.2.2.2.2) o = some R ∧ Inv R.1 R.2.1 R.2.2 := by
  obtain ⟨b, c, tn, tx, pn, pg, hC, hw, hmw, hB, hp, ht⟩ := h
  rw [hw, hmw, mC_24]
  simp only [gd1 hL hL2, gd2 hL hL2, gd3 hL hL2, gd4 hL hL2, gd5 hL hL2, if_false]
  generalize xs (nI j + 1).toNatClampNeg = p
  rcases cell_or p with hb | ⟨i, hi, e⟩
  · rw [cl_trailing_bad hb]
    simp only [Option.bind_some]
    rw [rf_trailing_bad hb]
    simp only [Option.bind_some, mX13_thrown, if_true, e10, e20, if_false]
    exact ⟨_, rfl, ⟨b, c, tn, tx, pn, pg, hC, rfl, rfl, hB, hp, ht⟩⟩
  · subst e
    have eL : mL_trailing (x.1) (bI b) o (nI i) = some (0, vp_updL o 0 (Int32.toInt64 (nI (alk false false (wd b) (c i))))) := by
      rw [mL_trailing, mL_trailing_N, mX11_trailing, ck_ok hi]
      simp only [Option.bind_some]
      rw [mX2_zerosBehind, pr_allBits hC hi]
      simp only [Option.bind_some]
      rw [pr_zerosBehind]
      simp only [Option.bind_some, c00, z00, if_false]
    have eM : mX13_trailing k (bI b) (m.2.2.1) (nI i) = some (nI (alk false false (wd b) (c i)), 0) := by
      rw [mX13_trailing, ic_ok hi]
      simp only [Option.bind_some, ps_11]
      rw [if_neg (by decide)]
      have e9 := pr_alike (b := b) (bit := false) (above := false) (k := k) (hB i hi) hi (by omega)
      have e9' : mX12_alike k (bI b) (m.2.2.1) (nI i) 0 0 = _ := e9
      rw [e9']
      rfl
    rw [eL]
    simp only [Option.bind_some]
    rw [eM]
    simp only [Option.bind_some, mX13_thrown, if_true, c00, z00, if_false, up_0]
    rw [if_pos ((lg_cmp_eq _ _).mpr rfl)]
    exact ⟨_, rfl, ⟨b, c, tn, tx, pn, pg, hC, rfl, rfl, hB, hp, ht⟩⟩
theorem cl_leadingOnes_bad {xc : Nat → Int64} {w : Int32} {o : Nat → Int64} {p : Int32} (h : cellBad p) : mL_leadingOnes xc w o p = some (1, o) := by
  rw [mL_leadingOnes, mL_leadingOnes_N, mX11_leadingOnes, ck_bad h, mL_leadingOnes_T1_10, mX11_leadingOnes_T1_10, ckT_bad h]
  rfl
theorem rf_leadingOnes_bad {k : Nat} {w : Int32} {B : Nat → Nat → Int32} {p : Int32} (h : cellBad p) : mX13_leadingOnes k w B p = some (0, 1) := by
  rw [mX13_leadingOnes, ic_bad h]
  rfl
set_option maxHeartbeats 4000000 in
set_option maxRecDepth 100000 in
theorem hs_25 {k L j : Nat} {xs : Nat → Int32} {ax : Nat → Nat} {x : XS} {m : MS} {o : Nat → Int64} (hk : 1000 ≤ k) (hL : j + 6 ≤ L) (hL2 : L ≤ 3072) (h : Inv x m o) : ∃ R, mC_25 k xs L (nI j) (x.1) (x.2.1) (x.2.2.1) (x.2.2.2.1) (x.2.2.2.2.1) (x.2.2.2.2.2.1) (x.2.2.2.2.2.2.1) (x.2.2.2.2.2.2.2.1) (x.2.2.2.2.2.2.2.2.1) (x.2.2.2.2.2.2.2.2.2.1) (x.2.2.2.2.2.2.2.2.2.2.1) (x.2.2.2.2.2.2.2.2.2.2.2.1) (x.2.2.2.2.2.2.2.2.2.2.2.2.1) (x.2.2.2.2.2.2.2.2.2.2.2.2.2.1) (x.2.2.2.2.2.2.2.2.2.2.2.2.2.2.1) (x.2.2.2.2.2.2.2.2.2.2.2.2.2.2.2.1) (x.2.2.2.2.2.2.2.2.2.2.2.2.2.2.2.2.1) (x.2.2.2.2.2.2.2.2.2.2.2.2.2.2.2.2.2.1) (x.2.2.2.2.2.2.2.2.2.2.2.2.2.2.2.2.2.2.1) (x.2.2.2.2.2.2.2.2.2.2.2.2.2.2.2.2.2.2.2.1) (x.2.2.2.2.2.2.2.2.2.2.2.2.2.2.2.2.2.2.2.2.1) (x.2.2.2.2.2.2.2.2.2.2.2.2.2.2.2.2.2.2.2.2.2.1) (x.2.2.2.2.2.2.2.2.2.2.2.2.2.2.2.2.2.2.2.2.2.2.1) (x.2.2.2.2.2.2.2.2.2.2.2.2.2.2.2.2.2.2.2.2.2.2.2.1) (x.2.2.2.2.2.2.2.2.2.2.2.2.2.2.2.2.2.2.2.2.2.2.2.2.1) (x.2.2.2.2.2.2.2.2.2.2.2.2.2.2.2.2.2.2.2.2.2.2.2.2.2.1) (x.2.2.2.2.2.2.2.2.2.2.2.2.2.2.2.2.2.2.2.2.2.2.2.2.2.2.1) (x.2.2.2.2.2.2.2.2.2.2.2.2.2.2.2.2.2.2.2.2.2.2.2.2.2.2.2.1) (x.2.2.2.2.2.2.2.2.2.2.2.2.2.2.2.2.2.2.2.2.2.2.2.2.2.2.2.2.1) (x.2.2.2.2.2.2.2.2.2.2.2.2.2.2.2.2.2.2.2.2.2.2.2.2.2.2.2.2.2.1) (x.2.2.2.2.2.2.2.2.2.2.2.2.2.2.2.2.2.2.2.2.2.2.2.2.2.2.2.2.2.2.1) (x.2.2.2.2.2.2.2.2.2.2.2.2.2.2.2.2.2.2.2.2.2.2.2.2.2.2.2.2.2.2.2.1) (x.2.2.2.2.2.2.2.2.2.2.2.2.2.2.2.2.2.2.2.2.2.2.2.2.2.2.2.2.2.2.2.2) (m.2.1) (m.2.2.1) (m.2.2.2.1) (m.2.2.2.2.1) (m.2.2.2.2.2.1) (m.2.2.2.2.2.2.1) (m.2.2.2.2.2.2.2.1) (m.2.2.2.2.2.2.2.2.1) (m.2.2.2.2.2.2.2.2.2.1) (m.2.2.2.2.2.2.2.2.2.2.1) (m.2.2.2.2.2.2.2.2.2.2.2.1) (m.2.2.2.2.2.2.2.2.2.2.2.2.1) (m.2.2.2.2.2.2.2.2.2.2.2.2.2.1) (m.2.2.2.2.2.2.2.2.2.2.2.2.2.2.1) (m.2.2.2.2.2.2.2.2.2.2.2.2.2.2.2.1) (m.2.2.2.2.2.2.2.2.2.2.2.2.2.2.2.2.1) (m.2.2.2.2.2.2.2.2.2.2.2.2.2.2.2.2.2.1) (m.2.2.2.2.2.2.2.2.2.2.2.2.2.2.2.2.2.2.1) (m.2.2.2.2.2.2.2.2.2.2.2.2.2.2.2.2.2.2.2.1) (m.2.2.2.2.2.2.2.2.2.2.2.2.2.2.2.2.2.2.2.2.1) (m.2.2.2.2.2.2.2.2.2.2.2.2.2.2.2.2.2.2.2.2.2.1) (m.2.2.2.2.2.2.2.2.2.2.2.2.2.2.2.2.2.2.2.2.2.2.1) (m.2.2.2.2.2.2.2.2.2.2.2.2.2.2.2.2.2.2.2.2.2.2.2.1) (m.2.2.2.2.2.2.2.2.2.2.2.2.2.2.2.2.2.2.2.2.2.2.2.2.1) (m.2.2.2.2.2.2.2.2.2.2.2.2.2.2.2.2.2.2.2.2.2.2.2.2.2.1) (m.2.2.2.2.2.2.2.2.2.2.2.2.2.2.2.2.2.2.2.2.2.2.2.2.2.2.1) (m.2.2.2.2.2.2.2.2.2.2.2.2.2.2.2.2.2.2.2.2.2.2.2.2.2.2.2.1) (m.2.2.2.2.2.2.2.2.2.2.2.2.2.2.2.2.2.2.2.2.2.2.2.2.2.2.2.2.1) (m.2.2.2.2.2.2.2.2.2.2.2.2.2.2.2.2.2.2.2.2.2.2.2.2.2.2.2.2.2.1) (m.2.2.2.2.2.2.2.2.2.2.2.2.2.2.2.2.2.2.2.2.2.2.2.2.2.2.2.2.2.2.1) (m.2.2.2.2.2.2.2.2.2.2.2.2.2.2.2.2.2.2.2.2.2.2.2.2.2.2.2.2.2.2.2.1) (m.2.2.2.2.2.2.2.2.2.2.2.2.2.2.2.2.2.2.2.2.2.2.2.2.2.2.2.2.2.2.2.2.1) (m.2.2.2.2.2.2.2.2.2.2.2.2.2.2.2.2.2.2.2.2.2.2.2.2.2.2.2.2.2.2.2.2.2.1) (m.2.2.2.2.2.2.2.2.2.2.2.2.2.2.2.2.2.2.2.2.2.2.2.2.2.2.2.2.2.2.2.2.2.2.1) (m.2.2.2.2.2.2.2.2.2.2.2.2.2.2.2.2.2.2.2.2.2.2.2.2.2.2.2.2.2.2.2.2.2.2.2) o = some R ∧ Inv R.1 R.2.1 R.2.2 := by
  obtain ⟨b, c, tn, tx, pn, pg, hC, hw, hmw, hB, hp, ht⟩ := h
  rw [hw, hmw, mC_25]
  simp only [gd1 hL hL2, gd2 hL hL2, gd3 hL hL2, gd4 hL hL2, gd5 hL hL2, if_false]
  generalize xs (nI j + 1).toNatClampNeg = p
  rcases cell_or p with hb | ⟨i, hi, e⟩
  · rw [cl_leadingOnes_bad hb]
    simp only [Option.bind_some]
    rw [rf_leadingOnes_bad hb]
    simp only [Option.bind_some, mX13_thrown, if_true, e10, e20, if_false]
    exact ⟨_, rfl, ⟨b, c, tn, tx, pn, pg, hC, rfl, rfl, hB, hp, ht⟩⟩
  · subst e
    have eL : mL_leadingOnes (x.1) (bI b) o (nI i) = some (0, vp_updL o 0 (Int32.toInt64 (nI (alk true true (wd b) (c i))))) := by
      rw [mL_leadingOnes, mL_leadingOnes_N, mX11_leadingOnes, ck_ok hi]
      simp only [Option.bind_some]
      rw [mX2_onesInFront, pr_allBits hC hi]
      simp only [Option.bind_some]
      rw [xor_ones, pr_zerosInFront, alk_one _ (wd_le b)]
      simp only [Option.bind_some, c00, z00, if_false]
    have eM : mX13_leadingOnes k (bI b) (m.2.2.1) (nI i) = some (nI (alk true true (wd b) (c i)), 0) := by
      rw [mX13_leadingOnes, ic_ok hi]
      simp only [Option.bind_some, ps_11]
      rw [if_neg (by decide)]
      have e9 := pr_alike (b := b) (bit := true) (above := true) (k := k) (hB i hi) hi (by omega)
      have e9' : mX12_alike k (bI b) (m.2.2.1) (nI i) 1 1 = _ := e9
      rw [e9']
      rfl
    rw [eL]
    simp only [Option.bind_some]
    rw [eM]
    simp only [Option.bind_some, mX13_thrown, if_true, c00, z00, if_false, up_0]
    rw [if_pos ((lg_cmp_eq _ _).mpr rfl)]
    exact ⟨_, rfl, ⟨b, c, tn, tx, pn, pg, hC, rfl, rfl, hB, hp, ht⟩⟩
theorem cl_trailingOnes_bad {xc : Nat → Int64} {w : Int32} {o : Nat → Int64} {p : Int32} (h : cellBad p) : mL_trailingOnes xc w o p = some (1, o) := by
  rw [mL_trailingOnes, mL_trailingOnes_N, mX11_trailingOnes, ck_bad h, mL_trailingOnes_T1_10, mX11_trailingOnes_T1_10, ckT_bad h]
  rfl
theorem rf_trailingOnes_bad {k : Nat} {w : Int32} {B : Nat → Nat → Int32} {p : Int32} (h : cellBad p) : mX13_trailingOnes k w B p = some (0, 1) := by
  rw [mX13_trailingOnes, ic_bad h]
  rfl
set_option maxHeartbeats 4000000 in
set_option maxRecDepth 100000 in
theorem hs_26 {k L j : Nat} {xs : Nat → Int32} {ax : Nat → Nat} {x : XS} {m : MS} {o : Nat → Int64} (hk : 1000 ≤ k) (hL : j + 6 ≤ L) (hL2 : L ≤ 3072) (h : Inv x m o) : ∃ R, mC_26 k xs L (nI j) (x.1) (x.2.1) (x.2.2.1) (x.2.2.2.1) (x.2.2.2.2.1) (x.2.2.2.2.2.1) (x.2.2.2.2.2.2.1) (x.2.2.2.2.2.2.2.1) (x.2.2.2.2.2.2.2.2.1) (x.2.2.2.2.2.2.2.2.2.1) (x.2.2.2.2.2.2.2.2.2.2.1) (x.2.2.2.2.2.2.2.2.2.2.2.1) (x.2.2.2.2.2.2.2.2.2.2.2.2.1) (x.2.2.2.2.2.2.2.2.2.2.2.2.2.1) (x.2.2.2.2.2.2.2.2.2.2.2.2.2.2.1) (x.2.2.2.2.2.2.2.2.2.2.2.2.2.2.2.1) (x.2.2.2.2.2.2.2.2.2.2.2.2.2.2.2.2.1) (x.2.2.2.2.2.2.2.2.2.2.2.2.2.2.2.2.2.1) (x.2.2.2.2.2.2.2.2.2.2.2.2.2.2.2.2.2.2.1) (x.2.2.2.2.2.2.2.2.2.2.2.2.2.2.2.2.2.2.2.1) (x.2.2.2.2.2.2.2.2.2.2.2.2.2.2.2.2.2.2.2.2.1) (x.2.2.2.2.2.2.2.2.2.2.2.2.2.2.2.2.2.2.2.2.2.1) (x.2.2.2.2.2.2.2.2.2.2.2.2.2.2.2.2.2.2.2.2.2.2.1) (x.2.2.2.2.2.2.2.2.2.2.2.2.2.2.2.2.2.2.2.2.2.2.2.1) (x.2.2.2.2.2.2.2.2.2.2.2.2.2.2.2.2.2.2.2.2.2.2.2.2.1) (x.2.2.2.2.2.2.2.2.2.2.2.2.2.2.2.2.2.2.2.2.2.2.2.2.2.1) (x.2.2.2.2.2.2.2.2.2.2.2.2.2.2.2.2.2.2.2.2.2.2.2.2.2.2.1) (x.2.2.2.2.2.2.2.2.2.2.2.2.2.2.2.2.2.2.2.2.2.2.2.2.2.2.2.1) (x.2.2.2.2.2.2.2.2.2.2.2.2.2.2.2.2.2.2.2.2.2.2.2.2.2.2.2.2.1) (x.2.2.2.2.2.2.2.2.2.2.2.2.2.2.2.2.2.2.2.2.2.2.2.2.2.2.2.2.2.1) (x.2.2.2.2.2.2.2.2.2.2.2.2.2.2.2.2.2.2.2.2.2.2.2.2.2.2.2.2.2.2.1) (x.2.2.2.2.2.2.2.2.2.2.2.2.2.2.2.2.2.2.2.2.2.2.2.2.2.2.2.2.2.2.2.1) (x.2.2.2.2.2.2.2.2.2.2.2.2.2.2.2.2.2.2.2.2.2.2.2.2.2.2.2.2.2.2.2.2) (m.2.1) (m.2.2.1) (m.2.2.2.1) (m.2.2.2.2.1) (m.2.2.2.2.2.1) (m.2.2.2.2.2.2.1) (m.2.2.2.2.2.2.2.1) (m.2.2.2.2.2.2.2.2.1) (m.2.2.2.2.2.2.2.2.2.1) (m.2.2.2.2.2.2.2.2.2.2.1) (m.2.2.2.2.2.2.2.2.2.2.2.1) (m.2.2.2.2.2.2.2.2.2.2.2.2.1) (m.2.2.2.2.2.2.2.2.2.2.2.2.2.1) (m.2.2.2.2.2.2.2.2.2.2.2.2.2.2.1) (m.2.2.2.2.2.2.2.2.2.2.2.2.2.2.2.1) (m.2.2.2.2.2.2.2.2.2.2.2.2.2.2.2.2.1) (m.2.2.2.2.2.2.2.2.2.2.2.2.2.2.2.2.2.1) (m.2.2.2.2.2.2.2.2.2.2.2.2.2.2.2.2.2.2.1) (m.2.2.2.2.2.2.2.2.2.2.2.2.2.2.2.2.2.2.2.1) (m.2.2.2.2.2.2.2.2.2.2.2.2.2.2.2.2.2.2.2.2.1) (m.2.2.2.2.2.2.2.2.2.2.2.2.2.2.2.2.2.2.2.2.2.1) (m.2.2.2.2.2.2.2.2.2.2.2.2.2.2.2.2.2.2.2.2.2.2.1) (m.2.2.2.2.2.2.2.2.2.2.2.2.2.2.2.2.2.2.2.2.2.2.2.1) (m.2.2.2.2.2.2.2.2.2.2.2.2.2.2.2.2.2.2.2.2.2.2.2.2.1) (m.2.2.2.2.2.2.2.2.2.2.2.2.2.2.2.2.2.2.2.2.2.2.2.2.2.1) (m.2.2.2.2.2.2.2.2.2.2.2.2.2.2.2.2.2.2.2.2.2.2.2.2.2.2.1) (m.2.2.2.2.2.2.2.2.2.2.2.2.2.2.2.2.2.2.2.2.2.2.2.2.2.2.2.1) (m.2.2.2.2.2.2.2.2.2.2.2.2.2.2.2.2.2.2.2.2.2.2.2.2.2.2.2.2.1) (m.2.2.2.2.2.2.2.2.2.2.2.2.2.2.2.2.2.2.2.2.2.2.2.2.2.2.2.2.2.1) (m.2.2.2.2.2.2.2.2.2.2.2.2.2.2.2.2.2.2.2.2.2.2.2.2.2.2.2.2.2.2.1) (m.2.2.2.2.2.2.2.2.2.2.2.2.2.2.2.2.2.2.2.2.2.2.2.2.2.2.2.2.2.2.2.1) (m.2.2.2.2.2.2.2.2.2.2.2.2.2.2.2.2.2.2.2.2.2.2.2.2.2.2.2.2.2.2.2.2.1) (m.2.2.2.2.2.2.2.2.2.2.2.2.2.2.2.2.2.2.2.2.2.2.2.2.2.2.2.2.2.2.2.2.2.1) (m.2.2.2.2.2.2.2.2.2.2.2.2.2.2.2.2.2.2.2.2.2.2.2.2.2.2.2.2.2.2.2.2.2.2.1) (m.2.2.2.2.2.2.2.2.2.2.2.2.2.2.2.2.2.2.2.2.2.2.2.2.2.2.2.2.2.2.2.2.2.2.2) o = some R ∧ Inv R.1 R.2.1 R.2.2 := by
  obtain ⟨b, c, tn, tx, pn, pg, hC, hw, hmw, hB, hp, ht⟩ := h
  rw [hw, hmw, mC_26]
  simp only [gd1 hL hL2, gd2 hL hL2, gd3 hL hL2, gd4 hL hL2, gd5 hL hL2, if_false]
  generalize xs (nI j + 1).toNatClampNeg = p
  rcases cell_or p with hb | ⟨i, hi, e⟩
  · rw [cl_trailingOnes_bad hb]
    simp only [Option.bind_some]
    rw [rf_trailingOnes_bad hb]
    simp only [Option.bind_some, mX13_thrown, if_true, e10, e20, if_false]
    exact ⟨_, rfl, ⟨b, c, tn, tx, pn, pg, hC, rfl, rfl, hB, hp, ht⟩⟩
  · subst e
    have eL : mL_trailingOnes (x.1) (bI b) o (nI i) = some (0, vp_updL o 0 (Int32.toInt64 (nI (alk true false (wd b) (c i))))) := by
      rw [mL_trailingOnes, mL_trailingOnes_N, mX11_trailingOnes, ck_ok hi]
      simp only [Option.bind_some]
      rw [mX2_onesBehind, pr_allBits hC hi]
      simp only [Option.bind_some]
      rw [xor_ones, pr_zerosBehind, alk_one _ (wd_le b)]
      simp only [Option.bind_some, c00, z00, if_false]
    have eM : mX13_trailingOnes k (bI b) (m.2.2.1) (nI i) = some (nI (alk true false (wd b) (c i)), 0) := by
      rw [mX13_trailingOnes, ic_ok hi]
      simp only [Option.bind_some, ps_11]
      rw [if_neg (by decide)]
      have e9 := pr_alike (b := b) (bit := true) (above := false) (k := k) (hB i hi) hi (by omega)
      have e9' : mX12_alike k (bI b) (m.2.2.1) (nI i) 1 0 = _ := e9
      rw [e9']
      rfl
    rw [eL]
    simp only [Option.bind_some]
    rw [eM]
    simp only [Option.bind_some, mX13_thrown, if_true, c00, z00, if_false, up_0]
    rw [if_pos ((lg_cmp_eq _ _).mpr rfl)]
    exact ⟨_, rfl, ⟨b, c, tn, tx, pn, pg, hC, rfl, rfl, hB, hp, ht⟩⟩
theorem cnt_zero {x : BitVec 64} : ∀ {n : Nat}, cnt x n = 0 ↔ ∀ i, i < n → x.getLsbD i = false
  | 0 => ⟨fun _ i hi => absurd hi (Nat.not_lt_zero _), fun _ => rfl⟩
  | n + 1 => by
    have ih := cnt_zero (x := x) (n := n)
    rw [cnt]
    constructor
    · intro h i hi
      by_cases hin : i = n
      · rw [hin]
        cases hx : x.getLsbD n with
        | false => rfl
        | true =>
          rw [hx] at h
          have h2 : cnt x n + 1 = 0 := h
          omega
      · exact ih.mp (by omega) i (by omega)
    · intro h
      rw [ih.mpr (fun i hi => h i (by omega)), h n (by omega)]
      rfl
theorem cnt_int {b : Bool} (x : BitVec 64) : cmpZ (x.setWidth (wd b)).toInt 0 = if cnt x (wd b) = 0 then 0 else if (x.setWidth (wd b)).msb = false then 1 else -1 := by
  have hb : ∀ i, i < wd b → (x.setWidth (wd b)).getLsbD i = x.getLsbD i := fun i hi => by rw [BitVec.getLsbD_setWidth, decide_eq_true hi, Bool.true_and]
  have hm : (x.setWidth (wd b)).msb = decide ((x.setWidth (wd b)).toInt < 0) := BitVec.msb_eq_toInt
  by_cases h0 : cnt x (wd b) = 0
  · have e : x.setWidth (wd b) = 0#(wd b) := BitVec.eq_of_getLsbD_eq (fun i hi => by rw [hb i hi, cnt_zero.mp h0 i hi, BitVec.getLsbD_zero])
    rw [if_pos h0, e]
    cases b <;> decide
  · have hne : (x.setWidth (wd b)).toInt ≠ 0 := fun z => h0 (cnt_zero.mpr (fun i hi => by
      have e : x.setWidth (wd b) = 0#(wd b) := BitVec.eq_of_toInt_eq (by rw [z, BitVec.toInt_zero])
      rw [← hb i hi, e, BitVec.getLsbD_zero]))
    rw [if_neg h0, hm]
    unfold cmpZ
    by_cases hn : (x.setWidth (wd b)).toInt < 0
    · rw [if_pos hn, decide_eq_true hn, if_neg (by decide)]
    · rw [if_neg hn, if_neg hne, decide_eq_false hn, if_pos rfl]
theorem pr_rsign {b : Bool} {k i : Nat} {B : Nat → Nat → Int32} {c : Nat → BitVec 64} (hB : isB B c) (hi : i < 8) (hk : 65 < k) : mX13_sign k (bI b) B (nI i) = some (cmpZ (sgn b (c i)).toInt 0, 0) := by
  have hw := wd_le b
  have hw0 := wd_pos b
  have em : nI (wd b) - 1 = nI (wd b - 1) := pk_sub (b := 1) hw0
  have hcl := cnt_le (c i) (wd b)
  have mx : B i (wd b - 1) = bI ((c i).setWidth (wd b)).msb := by rw [(hB i hi).sub hw _ (by omega), BitVec.msb_eq_getLsbD_last]
  rw [mX13_sign, ic_ok hi]
  simp only [Option.bind_some, ps_11]
  rw [if_neg (by decide), pr_count (hB i hi) hi (by omega)]
  simp only [Option.bind_some]
  rw [sgn_int, cnt_int]
  by_cases h0 : cnt (c i) (wd b) = 0
  · rw [if_pos h0, h0, if_pos nI_0]
  · rw [if_neg h0, if_neg (nI_ne0 (by omega) (by omega)), if_neg (nI_in hi (by omega)), pr_bits]
    simp only [Option.bind_some]
    rw [em, if_neg (nI_in (by omega) (by omega)), nI_clamp (show i < 2 ^ 31 by omega), nI_clamp (by omega), mx]
    by_cases hm : ((c i).setWidth (wd b)).msb = false
    · rw [hm, if_pos bI_f, if_pos rfl]
    · rw [if_neg (fun z => hm (bI_0.mp z)), if_neg hm]
theorem cl_sign_bad {xc : Nat → Int64} {w : Int32} {o : Nat → Int64} {p : Int32} (h : cellBad p) : mL_sign xc w o p = some (1, o) := by
  rw [mL_sign, mL_sign_N, mX11_sign, ck_bad h, mL_sign_T1_10, mX11_sign_T1_10, ckT_bad h]
  rfl
theorem rf_sign_bad {k : Nat} {w : Int32} {B : Nat → Nat → Int32} {p : Int32} (h : cellBad p) : mX13_sign k w B p = some (0, 1) := by
  rw [mX13_sign, ic_bad h]
  rfl
set_option maxHeartbeats 4000000 in
set_option maxRecDepth 100000 in
theorem hs_27 {k L j : Nat} {xs : Nat → Int32} {ax : Nat → Nat} {x : XS} {m : MS} {o : Nat → Int64} (hk : 1000 ≤ k) (hL : j + 6 ≤ L) (hL2 : L ≤ 3072) (h : Inv x m o) : ∃ R, mC_27 k xs L (nI j) (x.1) (x.2.1) (x.2.2.1) (x.2.2.2.1) (x.2.2.2.2.1) (x.2.2.2.2.2.1) (x.2.2.2.2.2.2.1) (x.2.2.2.2.2.2.2.1) (x.2.2.2.2.2.2.2.2.1) (x.2.2.2.2.2.2.2.2.2.1) (x.2.2.2.2.2.2.2.2.2.2.1) (x.2.2.2.2.2.2.2.2.2.2.2.1) (x.2.2.2.2.2.2.2.2.2.2.2.2.1) (x.2.2.2.2.2.2.2.2.2.2.2.2.2.1) (x.2.2.2.2.2.2.2.2.2.2.2.2.2.2.1) (x.2.2.2.2.2.2.2.2.2.2.2.2.2.2.2.1) (x.2.2.2.2.2.2.2.2.2.2.2.2.2.2.2.2.1) (x.2.2.2.2.2.2.2.2.2.2.2.2.2.2.2.2.2.1) (x.2.2.2.2.2.2.2.2.2.2.2.2.2.2.2.2.2.2.1) (x.2.2.2.2.2.2.2.2.2.2.2.2.2.2.2.2.2.2.2.1) (x.2.2.2.2.2.2.2.2.2.2.2.2.2.2.2.2.2.2.2.2.1) (x.2.2.2.2.2.2.2.2.2.2.2.2.2.2.2.2.2.2.2.2.2.1) (x.2.2.2.2.2.2.2.2.2.2.2.2.2.2.2.2.2.2.2.2.2.2.1) (x.2.2.2.2.2.2.2.2.2.2.2.2.2.2.2.2.2.2.2.2.2.2.2.1) (x.2.2.2.2.2.2.2.2.2.2.2.2.2.2.2.2.2.2.2.2.2.2.2.2.1) (x.2.2.2.2.2.2.2.2.2.2.2.2.2.2.2.2.2.2.2.2.2.2.2.2.2.1) (x.2.2.2.2.2.2.2.2.2.2.2.2.2.2.2.2.2.2.2.2.2.2.2.2.2.2.1) (x.2.2.2.2.2.2.2.2.2.2.2.2.2.2.2.2.2.2.2.2.2.2.2.2.2.2.2.1) (x.2.2.2.2.2.2.2.2.2.2.2.2.2.2.2.2.2.2.2.2.2.2.2.2.2.2.2.2.1) (x.2.2.2.2.2.2.2.2.2.2.2.2.2.2.2.2.2.2.2.2.2.2.2.2.2.2.2.2.2.1) (x.2.2.2.2.2.2.2.2.2.2.2.2.2.2.2.2.2.2.2.2.2.2.2.2.2.2.2.2.2.2.1) (x.2.2.2.2.2.2.2.2.2.2.2.2.2.2.2.2.2.2.2.2.2.2.2.2.2.2.2.2.2.2.2.1) (x.2.2.2.2.2.2.2.2.2.2.2.2.2.2.2.2.2.2.2.2.2.2.2.2.2.2.2.2.2.2.2.2) (m.2.1) (m.2.2.1) (m.2.2.2.1) (m.2.2.2.2.1) (m.2.2.2.2.2.1) (m.2.2.2.2.2.2.1) (m.2.2.2.2.2.2.2.1) (m.2.2.2.2.2.2.2.2.1) (m.2.2.2.2.2.2.2.2.2.1) (m.2.2.2.2.2.2.2.2.2.2.1) (m.2.2.2.2.2.2.2.2.2.2.2.1) (m.2.2.2.2.2.2.2.2.2.2.2.2.1) (m.2.2.2.2.2.2.2.2.2.2.2.2.2.1) (m.2.2.2.2.2.2.2.2.2.2.2.2.2.2.1) (m.2.2.2.2.2.2.2.2.2.2.2.2.2.2.2.1) (m.2.2.2.2.2.2.2.2.2.2.2.2.2.2.2.2.1) (m.2.2.2.2.2.2.2.2.2.2.2.2.2.2.2.2.2.1) (m.2.2.2.2.2.2.2.2.2.2.2.2.2.2.2.2.2.2.1) (m.2.2.2.2.2.2.2.2.2.2.2.2.2.2.2.2.2.2.2.1) (m.2.2.2.2.2.2.2.2.2.2.2.2.2.2.2.2.2.2.2.2.1) (m.2.2.2.2.2.2.2.2.2.2.2.2.2.2.2.2.2.2.2.2.2.1) (m.2.2.2.2.2.2.2.2.2.2.2.2.2.2.2.2.2.2.2.2.2.2.1) (m.2.2.2.2.2.2.2.2.2.2.2.2.2.2.2.2.2.2.2.2.2.2.2.1) (m.2.2.2.2.2.2.2.2.2.2.2.2.2.2.2.2.2.2.2.2.2.2.2.2.1) (m.2.2.2.2.2.2.2.2.2.2.2.2.2.2.2.2.2.2.2.2.2.2.2.2.2.1) (m.2.2.2.2.2.2.2.2.2.2.2.2.2.2.2.2.2.2.2.2.2.2.2.2.2.2.1) (m.2.2.2.2.2.2.2.2.2.2.2.2.2.2.2.2.2.2.2.2.2.2.2.2.2.2.2.1) (m.2.2.2.2.2.2.2.2.2.2.2.2.2.2.2.2.2.2.2.2.2.2.2.2.2.2.2.2.1) (m.2.2.2.2.2.2.2.2.2.2.2.2.2.2.2.2.2.2.2.2.2.2.2.2.2.2.2.2.2.1) (m.2.2.2.2.2.2.2.2.2.2.2.2.2.2.2.2.2.2.2.2.2.2.2.2.2.2.2.2.2.2.1) (m.2.2.2.2.2.2.2.2.2.2.2.2.2.2.2.2.2.2.2.2.2.2.2.2.2.2.2.2.2.2.2.1) (m.2.2.2.2.2.2.2.2.2.2.2.2.2.2.2.2.2.2.2.2.2.2.2.2.2.2.2.2.2.2.2.2.1) (m.2.2.2.2.2.2.2.2.2.2.2.2.2.2.2.2.2.2.2.2.2.2.2.2.2.2.2.2.2.2.2.2.2.1) (m.2.2.2.2.2.2.2.2.2.2.2.2.2.2.2.2.2.2.2.2.2.2.2.2.2.2.2.2.2.2.2.2.2.2.1) (m.2.2.2.2.2.2.2.2.2.2.2.2.2.2.2.2.2.2.2.2.2.2.2.2.2.2.2.2.2.2.2.2.2.2.2) o = some R ∧ Inv R.1 R.2.1 R.2.2 := by
  obtain ⟨b, c, tn, tx, pn, pg, hC, hw, hmw, hB, hp, ht⟩ := h
  rw [hw, hmw, mC_27]
  simp only [gd1 hL hL2, gd2 hL hL2, gd3 hL hL2, gd4 hL hL2, gd5 hL hL2, if_false]
  generalize xs (nI j + 1).toNatClampNeg = p
  rcases cell_or p with hb | ⟨i, hi, e⟩
  · rw [cl_sign_bad hb]
    simp only [Option.bind_some]
    rw [rf_sign_bad hb]
    simp only [Option.bind_some, mX13_thrown, if_true, e10, e20, if_false]
    exact ⟨_, rfl, ⟨b, c, tn, tx, pn, pg, hC, rfl, rfl, hB, hp, ht⟩⟩
  · subst e
    have eL : mL_sign (x.1) (bI b) o (nI i) = some (0, vp_updL o 0 (Int32.toInt64 (cmpZ (sgn b (c i)).toInt 0))) := by
      rw [mL_sign, mL_sign_N, mX11_sign, ck_ok hi]
      simp only [Option.bind_some]
      rw [pr_csigned b hC hi]
      simp only [Option.bind_some]
      rw [pr_signumL]
      simp only [Option.bind_some, c00, z00, if_false]
    rw [eL]
    simp only [Option.bind_some]
    rw [pr_rsign hB hi (by omega)]
    simp only [Option.bind_some, mX13_thrown, if_true, c00, z00, if_false, up_0]
    rw [if_pos ((lg_cmp_eq _ _).mpr rfl)]
    exact ⟨_, rfl, ⟨b, c, tn, tx, pn, pg, hC, rfl, rfl, hB, hp, ht⟩⟩
theorem cl_number_bad {xc : Nat → Int64} {w : Int32} {o : Nat → Int64} {p : Int32} (h : cellBad p) : mL_number xc w o p = some (1, o) := by
  rw [mL_number, mL_number_N, mX11_number, ck_bad h, mL_number_T1_10, mX11_number_T1_10, ckT_bad h]
  rfl
theorem rf_number_bad {k : Nat} {w : Int32} {B : Nat → Nat → Int32} {p : Int32} (h : cellBad p) : mX13_number k w B p = some (0, 1) := by
  rw [mX13_number, ic_bad h]
  rfl
set_option maxHeartbeats 4000000 in
set_option maxRecDepth 100000 in
theorem hs_4 {k L j : Nat} {xs : Nat → Int32} {ax : Nat → Nat} {x : XS} {m : MS} {o : Nat → Int64} (hk : 1000 ≤ k) (hL : j + 6 ≤ L) (hL2 : L ≤ 3072) (h : Inv x m o) : ∃ R, mC_4 k xs L (nI j) (x.1) (x.2.1) (x.2.2.1) (x.2.2.2.1) (x.2.2.2.2.1) (x.2.2.2.2.2.1) (x.2.2.2.2.2.2.1) (x.2.2.2.2.2.2.2.1) (x.2.2.2.2.2.2.2.2.1) (x.2.2.2.2.2.2.2.2.2.1) (x.2.2.2.2.2.2.2.2.2.2.1) (x.2.2.2.2.2.2.2.2.2.2.2.1) (x.2.2.2.2.2.2.2.2.2.2.2.2.1) (x.2.2.2.2.2.2.2.2.2.2.2.2.2.1) (x.2.2.2.2.2.2.2.2.2.2.2.2.2.2.1) (x.2.2.2.2.2.2.2.2.2.2.2.2.2.2.2.1) (x.2.2.2.2.2.2.2.2.2.2.2.2.2.2.2.2.1) (x.2.2.2.2.2.2.2.2.2.2.2.2.2.2.2.2.2.1) (x.2.2.2.2.2.2.2.2.2.2.2.2.2.2.2.2.2.2.1) (x.2.2.2.2.2.2.2.2.2.2.2.2.2.2.2.2.2.2.2.1) (x.2.2.2.2.2.2.2.2.2.2.2.2.2.2.2.2.2.2.2.2.1) (x.2.2.2.2.2.2.2.2.2.2.2.2.2.2.2.2.2.2.2.2.2.1) (x.2.2.2.2.2.2.2.2.2.2.2.2.2.2.2.2.2.2.2.2.2.2.1) (x.2.2.2.2.2.2.2.2.2.2.2.2.2.2.2.2.2.2.2.2.2.2.2.1) (x.2.2.2.2.2.2.2.2.2.2.2.2.2.2.2.2.2.2.2.2.2.2.2.2.1) (x.2.2.2.2.2.2.2.2.2.2.2.2.2.2.2.2.2.2.2.2.2.2.2.2.2.1) (x.2.2.2.2.2.2.2.2.2.2.2.2.2.2.2.2.2.2.2.2.2.2.2.2.2.2.1) (x.2.2.2.2.2.2.2.2.2.2.2.2.2.2.2.2.2.2.2.2.2.2.2.2.2.2.2.1) (x.2.2.2.2.2.2.2.2.2.2.2.2.2.2.2.2.2.2.2.2.2.2.2.2.2.2.2.2.1) (x.2.2.2.2.2.2.2.2.2.2.2.2.2.2.2.2.2.2.2.2.2.2.2.2.2.2.2.2.2.1) (x.2.2.2.2.2.2.2.2.2.2.2.2.2.2.2.2.2.2.2.2.2.2.2.2.2.2.2.2.2.2.1) (x.2.2.2.2.2.2.2.2.2.2.2.2.2.2.2.2.2.2.2.2.2.2.2.2.2.2.2.2.2.2.2.1) (x.2.2.2.2.2.2.2.2.2.2.2.2.2.2.2.2.2.2.2.2.2.2.2.2.2.2.2.2.2.2.2.2) (m.2.1) (m.2.2.1) (m.2.2.2.1) (m.2.2.2.2.1) (m.2.2.2.2.2.1) (m.2.2.2.2.2.2.1) (m.2.2.2.2.2.2.2.1) (m.2.2.2.2.2.2.2.2.1) (m.2.2.2.2.2.2.2.2.2.1) (m.2.2.2.2.2.2.2.2.2.2.1) (m.2.2.2.2.2.2.2.2.2.2.2.1) (m.2.2.2.2.2.2.2.2.2.2.2.2.1) (m.2.2.2.2.2.2.2.2.2.2.2.2.2.1) (m.2.2.2.2.2.2.2.2.2.2.2.2.2.2.1) (m.2.2.2.2.2.2.2.2.2.2.2.2.2.2.2.1) (m.2.2.2.2.2.2.2.2.2.2.2.2.2.2.2.2.1) (m.2.2.2.2.2.2.2.2.2.2.2.2.2.2.2.2.2.1) (m.2.2.2.2.2.2.2.2.2.2.2.2.2.2.2.2.2.2.1) (m.2.2.2.2.2.2.2.2.2.2.2.2.2.2.2.2.2.2.2.1) (m.2.2.2.2.2.2.2.2.2.2.2.2.2.2.2.2.2.2.2.2.1) (m.2.2.2.2.2.2.2.2.2.2.2.2.2.2.2.2.2.2.2.2.2.1) (m.2.2.2.2.2.2.2.2.2.2.2.2.2.2.2.2.2.2.2.2.2.2.1) (m.2.2.2.2.2.2.2.2.2.2.2.2.2.2.2.2.2.2.2.2.2.2.2.1) (m.2.2.2.2.2.2.2.2.2.2.2.2.2.2.2.2.2.2.2.2.2.2.2.2.1) (m.2.2.2.2.2.2.2.2.2.2.2.2.2.2.2.2.2.2.2.2.2.2.2.2.2.1) (m.2.2.2.2.2.2.2.2.2.2.2.2.2.2.2.2.2.2.2.2.2.2.2.2.2.2.1) (m.2.2.2.2.2.2.2.2.2.2.2.2.2.2.2.2.2.2.2.2.2.2.2.2.2.2.2.1) (m.2.2.2.2.2.2.2.2.2.2.2.2.2.2.2.2.2.2.2.2.2.2.2.2.2.2.2.2.1) (m.2.2.2.2.2.2.2.2.2.2.2.2.2.2.2.2.2.2.2.2.2.2.2.2.2.2.2.2.2.1) (m.2.2.2.2.2.2.2.2.2.2.2.2.2.2.2.2.2.2.2.2.2.2.2.2.2.2.2.2.2.2.1) (m.2.2.2.2.2.2.2.2.2.2.2.2.2.2.2.2.2.2.2.2.2.2.2.2.2.2.2.2.2.2.2.1) (m.2.2.2.2.2.2.2.2.2.2.2.2.2.2.2.2.2.2.2.2.2.2.2.2.2.2.2.2.2.2.2.2.1) (m.2.2.2.2.2.2.2.2.2.2.2.2.2.2.2.2.2.2.2.2.2.2.2.2.2.2.2.2.2.2.2.2.2.1) (m.2.2.2.2.2.2.2.2.2.2.2.2.2.2.2.2.2.2.2.2.2.2.2.2.2.2.2.2.2.2.2.2.2.2.1) (m.2.2.2.2.2.2.2.2.2.2.2.2.2.2.2.2.2.2.2.2.2.2.2.2.2.2.2.2.2.2.2.2.2.2.2) o = some R ∧ Inv R.1 R.2.1 R.2.2 := by
  obtain ⟨b, c, tn, tx, pn, pg, hC, hw, hmw, hB, hp, ht⟩ := h
  rw [hw, hmw, mC_4]
  simp only [gd1 hL hL2, gd2 hL hL2, gd3 hL hL2, gd4 hL hL2, gd5 hL hL2, if_false]
  generalize xs (nI j + 1).toNatClampNeg = p
  rcases cell_or p with hb | ⟨i, hi, e⟩
  · rw [cl_number_bad hb]
    simp only [Option.bind_some]
    rw [rf_number_bad hb]
    simp only [Option.bind_some, mX13_thrown, if_true, e10, e20, if_false]
    exact ⟨_, rfl, ⟨b, c, tn, tx, pn, pg, hC, rfl, rfl, hB, hp, ht⟩⟩
  · subst e
    have eL : mL_number (x.1) (bI b) o (nI i) = some (0, vp_updL o 0 (Int64.ofBitVec (sgn b (c i)))) := by
      rw [mL_number, mL_number_N, mX11_number, ck_ok hi]
      simp only [Option.bind_some]
      rw [pr_csigned b hC hi]
      simp only [Option.bind_some, c00, z00, if_false]
    have eM : mX13_number k (bI b) (m.2.2.1) (nI i) = some (Int64.ofBitVec (sgn b (c i)), 0) := by
      rw [mX13_number, ic_ok hi]
      simp only [Option.bind_some, ps_11]
      rw [if_neg (by decide), pr_number hB hi (by omega)]
      rfl
    rw [eL]
    simp only [Option.bind_some]
    rw [eM]
    simp only [Option.bind_some, mX13_thrown, if_true, c00, z00, if_false, up_0]
    rw [if_pos ((lg_cmp_eq _ _).mpr rfl)]
    exact ⟨_, rfl, ⟨b, c, tn, tx, pn, pg, hC, rfl, rfl, hB, hp, ht⟩⟩
theorem isB.row {B : Nat → Nat → Int32} {c : Nat → BitVec 64} (h : isB B c) {j : Nat} {f : Nat → Int32} {v : BitVec 64} (hf : isR 64 f v) : isB (upR B j f) (upC c j v) := fun q hq => by
  unfold upR upC
  by_cases e : q = j
  · rw [if_pos e, if_pos e]
    exact hf
  · rw [if_neg e, if_neg e]
    exact h q hq
theorem isC.upL {f : Nat → Int64} {c : Nat → BitVec 64} (h : isC f c) (j : Nat) (v : Int64) : isC (vp_updL f j v) (upC c j v.toBitVec) := h.up j v.toBitVec
theorem cl_set_bad {xc : Nat → Int64} {w : Int32} {o : Nat → Int64} {p : Int32} {v : Int64} (h : cellBad p) : mL_set xc w o p v = some (1, xc, o) := by
  rw [mL_set, mL_set_N, mX11_set, ck_bad h, mL_set_T1_10, mX11_set_T1_10, ckT_bad h]
  rfl
theorem rf_set_bad {k : Nat} {w : Int32} {B : Nat → Nat → Int32} {p : Int32} {v : Int64} (h : cellBad p) : mX13_set k w B p v = some (0, 1, B) := by
  rw [mX13_set, ic_bad h]
  rfl
set_option maxHeartbeats 4000000 in
set_option maxRecDepth 100000 in
theorem hs_2 {k L j : Nat} {xs : Nat → Int32} {ax : Nat → Nat} {x : XS} {m : MS} {o : Nat → Int64} (hk : 1000 ≤ k) (hL : j + 6 ≤ L) (hL2 : L ≤ 3072) (h : Inv x m o) : ∃ R, mC_2 k xs L (nI j) (x.1) (x.2.1) (x.2.2.1) (x.2.2.2.1) (x.2.2.2.2.1) (x.2.2.2.2.2.1) (x.2.2.2.2.2.2.1) (x.2.2.2.2.2.2.2.1) (x.2.2.2.2.2.2.2.2.1) (x.2.2.2.2.2.2.2.2.2.1) (x.2.2.2.2.2.2.2.2.2.2.1) (x.2.2.2.2.2.2.2.2.2.2.2.1) (x.2.2.2.2.2.2.2.2.2.2.2.2.1) (x.2.2.2.2.2.2.2.2.2.2.2.2.2.1) (x.2.2.2.2.2.2.2.2.2.2.2.2.2.2.1) (x.2.2.2.2.2.2.2.2.2.2.2.2.2.2.2.1) (x.2.2.2.2.2.2.2.2.2.2.2.2.2.2.2.2.1) (x.2.2.2.2.2.2.2.2.2.2.2.2.2.2.2.2.2.1) (x.2.2.2.2.2.2.2.2.2.2.2.2.2.2.2.2.2.2.1) (x.2.2.2.2.2.2.2.2.2.2.2.2.2.2.2.2.2.2.2.1) (x.2.2.2.2.2.2.2.2.2.2.2.2.2.2.2.2.2.2.2.2.1) (x.2.2.2.2.2.2.2.2.2.2.2.2.2.2.2.2.2.2.2.2.2.1) (x.2.2.2.2.2.2.2.2.2.2.2.2.2.2.2.2.2.2.2.2.2.2.1) (x.2.2.2.2.2.2.2.2.2.2.2.2.2.2.2.2.2.2.2.2.2.2.2.1) (x.2.2.2.2.2.2.2.2.2.2.2.2.2.2.2.2.2.2.2.2.2.2.2.2.1) (x.2.2.2.2.2.2.2.2.2.2.2.2.2.2.2.2.2.2.2.2.2.2.2.2.2.1) (x.2.2.2.2.2.2.2.2.2.2.2.2.2.2.2.2.2.2.2.2.2.2.2.2.2.2.1) (x.2.2.2.2.2.2.2.2.2.2.2.2.2.2.2.2.2.2.2.2.2.2.2.2.2.2.2.1) (x.2.2.2.2.2.2.2.2.2.2.2.2.2.2.2.2.2.2.2.2.2.2.2.2.2.2.2.2.1) (x.2.2.2.2.2.2.2.2.2.2.2.2.2.2.2.2.2.2.2.2.2.2.2.2.2.2.2.2.2.1) (x.2.2.2.2.2.2.2.2.2.2.2.2.2.2.2.2.2.2.2.2.2.2.2.2.2.2.2.2.2.2.1) (x.2.2.2.2.2.2.2.2.2.2.2.2.2.2.2.2.2.2.2.2.2.2.2.2.2.2.2.2.2.2.2.1) (x.2.2.2.2.2.2.2.2.2.2.2.2.2.2.2.2.2.2.2.2.2.2.2.2.2.2.2.2.2.2.2.2) (m.2.1) (m.2.2.1) (m.2.2.2.1) (m.2.2.2.2.1) (m.2.2.2.2.2.1) (m.2.2.2.2.2.2.1) (m.2.2.2.2.2.2.2.1) (m.2.2.2.2.2.2.2.2.1) (m.2.2.2.2.2.2.2.2.2.1) (m.2.2.2.2.2.2.2.2.2.2.1) (m.2.2.2.2.2.2.2.2.2.2.2.1) (m.2.2.2.2.2.2.2.2.2.2.2.2.1) (m.2.2.2.2.2.2.2.2.2.2.2.2.2.1) (m.2.2.2.2.2.2.2.2.2.2.2.2.2.2.1) (m.2.2.2.2.2.2.2.2.2.2.2.2.2.2.2.1) (m.2.2.2.2.2.2.2.2.2.2.2.2.2.2.2.2.1) (m.2.2.2.2.2.2.2.2.2.2.2.2.2.2.2.2.2.1) (m.2.2.2.2.2.2.2.2.2.2.2.2.2.2.2.2.2.2.1) (m.2.2.2.2.2.2.2.2.2.2.2.2.2.2.2.2.2.2.2.1) (m.2.2.2.2.2.2.2.2.2.2.2.2.2.2.2.2.2.2.2.2.1) (m.2.2.2.2.2.2.2.2.2.2.2.2.2.2.2.2.2.2.2.2.2.1) (m.2.2.2.2.2.2.2.2.2.2.2.2.2.2.2.2.2.2.2.2.2.2.1) (m.2.2.2.2.2.2.2.2.2.2.2.2.2.2.2.2.2.2.2.2.2.2.2.1) (m.2.2.2.2.2.2.2.2.2.2.2.2.2.2.2.2.2.2.2.2.2.2.2.2.1) (m.2.2.2.2.2.2.2.2.2.2.2.2.2.2.2.2.2.2.2.2.2.2.2.2.2.1) (m.2.2.2.2.2.2.2.2.2.2.2.2.2.2.2.2.2.2.2.2.2.2.2.2.2.2.1) (m.2.2.2.2.2.2.2.2.2.2.2.2.2.2.2.2.2.2.2.2.2.2.2.2.2.2.2.1) (m.2.2.2.2.2.2.2.2.2.2.2.2.2.2.2.2.2.2.2.2.2.2.2.2.2.2.2.2.1) (m.2.2.2.2.2.2.2.2.2.2.2.2.2.2.2.2.2.2.2.2.2.2.2.2.2.2.2.2.2.1) (m.2.2.2.2.2.2.2.2.2.2.2.2.2.2.2.2.2.2.2.2.2.2.2.2.2.2.2.2.2.2.1) (m.2.2.2.2.2.2.2.2.2.2.2.2.2.2.2.2.2.2.2.2.2.2.2.2.2.2.2.2.2.2.2.1) (m.2.2.2.2.2.2.2.2.2.2.2.2.2.2.2.2.2.2.2.2.2.2.2.2.2.2.2.2.2.2.2.2.1) (m.2.2.2.2.2.2.2.2.2.2.2.2.2.2.2.2.2.2.2.2.2.2.2.2.2.2.2.2.2.2.2.2.2.1) (m.2.2.2.2.2.2.2.2.2.2.2.2.2.2.2.2.2.2.2.2.2.2.2.2.2.2.2.2.2.2.2.2.2.2.1) (m.2.2.2.2.2.2.2.2.2.2.2.2.2.2.2.2.2.2.2.2.2.2.2.2.2.2.2.2.2.2.2.2.2.2.2) o = some R ∧ Inv R.1 R.2.1 R.2.2 := by
  obtain ⟨b, c, tn, tx, pn, pg, hC, hw, hmw, hB, hp, ht⟩ := h
  rw [hw, hmw, mC_2]
  simp only [gd1 hL hL2, gd2 hL hL2, gd3 hL hL2, gd4 hL hL2, gd5 hL hL2, if_false]
  generalize xs (nI j + 1).toNatClampNeg = p
  generalize ((((((xs (nI j + 2).toNatClampNeg).toInt64) <<< ((32 : Int32).toInt64 &&& 63))) ||| (((xs (nI j + 3).toNatClampNeg).toInt64) &&& 4294967295))) = v
  rcases cell_or p with hb | ⟨i, hi, e⟩
  · rw [cl_set_bad hb]
    simp only [Option.bind_some]
    rw [rf_set_bad hb]
    simp only [Option.bind_some, mX13_thrown, if_true, e10, e20, if_false]
    exact ⟨_, rfl, ⟨b, c, tn, tx, pn, pg, hC, rfl, rfl, hB, hp, ht⟩⟩
  · subst e
    obtain ⟨f1, e1, a1, a2⟩ := pr_lays (N := 64) (k := k) (f := m.2.2.1 i) v (by omega) (by omega) (by omega)
    have eL : mL_set (x.1) (bI b) o (nI i) v = some (0, vp_updL x.1 i v, vp_updL o 0 (Int64.ofBitVec (sgn b (c i)))) := by
      rw [mL_set, mL_set_N, mX11_set, ck_ok hi]
      simp only [Option.bind_some]
      rw [pr_csigned b hC hi]
      simp only [Option.bind_some]
      rw [pr_keep _ hi]
      simp only [Option.bind_some, c00, z00, if_false]
    have eM : mX13_set k (bI b) (m.2.2.1) (nI i) v = some (Int64.ofBitVec (sgn b (c i)), 0, upR (m.2.2.1) i f1) := by
      rw [mX13_set, ic_ok hi]
      simp only [Option.bind_some, ps_11]
      rw [if_neg (by decide), pr_number hB hi (by omega)]
      simp only [Option.bind_some]
      rw [if_neg (nI_in hi (by omega)), nI_clamp (by omega), e1]
      rfl
    rw [eL]
    simp only [Option.bind_some]
    rw [eM]
    simp only [Option.bind_some, mX13_thrown, if_true, c00, z00, if_false, up_0]
    rw [if_pos ((lg_cmp_eq _ _).mpr rfl)]
    exact ⟨_, rfl, ⟨b, upC c i v.toBitVec, tn, tx, pn, pg, hC.upL i v, rfl, rfl, hB.row a1, hp, ht⟩⟩
theorem cl_reverse_bad {xc : Nat → Int64} {w : Int32} {o : Nat → Int64} {p : Int32} (h : cellBad p) : mL_reverse xc w o p = some (1, xc, o) := by
  rw [mL_reverse, mL_reverse_N, mX11_reverse, ck_bad h, mL_reverse_T1_10, mX11_reverse_T1_10, ckT_bad h]
  rfl
theorem rf_reverse_bad {k : Nat} {w : Int32} {B : Nat → Nat → Int32} {s : Nat → Int32} {p : Int32} (h : cellBad p) : mX13_reverse k w B s p = some (0, 1, B, s) := by
  rw [mX13_reverse, ic_bad h]
  rfl
set_option maxHeartbeats 4000000 in
set_option maxRecDepth 100000 in
theorem hs_28 {k L j : Nat} {xs : Nat → Int32} {ax : Nat → Nat} {x : XS} {m : MS} {o : Nat → Int64} (hk : 1000 ≤ k) (hL : j + 6 ≤ L) (hL2 : L ≤ 3072) (h : Inv x m o) : ∃ R, mC_28 k xs L (nI j) (x.1) (x.2.1) (x.2.2.1) (x.2.2.2.1) (x.2.2.2.2.1) (x.2.2.2.2.2.1) (x.2.2.2.2.2.2.1) (x.2.2.2.2.2.2.2.1) (x.2.2.2.2.2.2.2.2.1) (x.2.2.2.2.2.2.2.2.2.1) (x.2.2.2.2.2.2.2.2.2.2.1) (x.2.2.2.2.2.2.2.2.2.2.2.1) (x.2.2.2.2.2.2.2.2.2.2.2.2.1) (x.2.2.2.2.2.2.2.2.2.2.2.2.2.1) (x.2.2.2.2.2.2.2.2.2.2.2.2.2.2.1) (x.2.2.2.2.2.2.2.2.2.2.2.2.2.2.2.1) (x.2.2.2.2.2.2.2.2.2.2.2.2.2.2.2.2.1) (x.2.2.2.2.2.2.2.2.2.2.2.2.2.2.2.2.2.1) (x.2.2.2.2.2.2.2.2.2.2.2.2.2.2.2.2.2.2.1) (x.2.2.2.2.2.2.2.2.2.2.2.2.2.2.2.2.2.2.2.1) (x.2.2.2.2.2.2.2.2.2.2.2.2.2.2.2.2.2.2.2.2.1) (x.2.2.2.2.2.2.2.2.2.2.2.2.2.2.2.2.2.2.2.2.2.1) (x.2.2.2.2.2.2.2.2.2.2.2.2.2.2.2.2.2.2.2.2.2.2.1) (x.2.2.2.2.2.2.2.2.2.2.2.2.2.2.2.2.2.2.2.2.2.2.2.1) (x.2.2.2.2.2.2.2.2.2.2.2.2.2.2.2.2.2.2.2.2.2.2.2.2.1) (x.2.2.2.2.2.2.2.2.2.2.2.2.2.2.2.2.2.2.2.2.2.2.2.2.2.1) (x.2.2.2.2.2.2.2.2.2.2.2.2.2.2.2.2.2.2.2.2.2.2.2.2.2.2.1) (x.2.2.2.2.2.2.2.2.2.2.2.2.2.2.2.2.2.2.2.2.2.2.2.2.2.2.2.1) (x.2.2.2.2.2.2.2.2.2.2.2.2.2.2.2.2.2.2.2.2.2.2.2.2.2.2.2.2.1) (x.2.2.2.2.2.2.2.2.2.2.2.2.2.2.2.2.2.2.2.2.2.2.2.2.2.2.2.2.2.1) (x.2.2.2.2.2.2.2.2.2.2.2.2.2.2.2.2.2.2.2.2.2.2.2.2.2.2.2.2.2.2.1) (x.2.2.2.2.2.2.2.2.2.2.2.2.2.2.2.2.2.2.2.2.2.2.2.2.2.2.2.2.2.2.2.1) (x.2.2.2.2.2.2.2.2.2.2.2.2.2.2.2.2.2.2.2.2.2.2.2.2.2.2.2.2.2.2.2.2) (m.2.1) (m.2.2.1) (m.2.2.2.1) (m.2.2.2.2.1) (m.2.2.2.2.2.1) (m.2.2.2.2.2.2.1) (m.2.2.2.2.2.2.2.1) (m.2.2.2.2.2.2.2.2.1) (m.2.2.2.2.2.2.2.2.2.1) (m.2.2.2.2.2.2.2.2.2.2.1) (m.2.2.2.2.2.2.2.2.2.2.2.1) (m.2.2.2.2.2.2.2.2.2.2.2.2.1) (m.2.2.2.2.2.2.2.2.2.2.2.2.2.1) (m.2.2.2.2.2.2.2.2.2.2.2.2.2.2.1) (m.2.2.2.2.2.2.2.2.2.2.2.2.2.2.2.1) (m.2.2.2.2.2.2.2.2.2.2.2.2.2.2.2.2.1) (m.2.2.2.2.2.2.2.2.2.2.2.2.2.2.2.2.2.1) (m.2.2.2.2.2.2.2.2.2.2.2.2.2.2.2.2.2.2.1) (m.2.2.2.2.2.2.2.2.2.2.2.2.2.2.2.2.2.2.2.1) (m.2.2.2.2.2.2.2.2.2.2.2.2.2.2.2.2.2.2.2.2.1) (m.2.2.2.2.2.2.2.2.2.2.2.2.2.2.2.2.2.2.2.2.2.1) (m.2.2.2.2.2.2.2.2.2.2.2.2.2.2.2.2.2.2.2.2.2.2.1) (m.2.2.2.2.2.2.2.2.2.2.2.2.2.2.2.2.2.2.2.2.2.2.2.1) (m.2.2.2.2.2.2.2.2.2.2.2.2.2.2.2.2.2.2.2.2.2.2.2.2.1) (m.2.2.2.2.2.2.2.2.2.2.2.2.2.2.2.2.2.2.2.2.2.2.2.2.2.1) (m.2.2.2.2.2.2.2.2.2.2.2.2.2.2.2.2.2.2.2.2.2.2.2.2.2.2.1) (m.2.2.2.2.2.2.2.2.2.2.2.2.2.2.2.2.2.2.2.2.2.2.2.2.2.2.2.1) (m.2.2.2.2.2.2.2.2.2.2.2.2.2.2.2.2.2.2.2.2.2.2.2.2.2.2.2.2.1) (m.2.2.2.2.2.2.2.2.2.2.2.2.2.2.2.2.2.2.2.2.2.2.2.2.2.2.2.2.2.1) (m.2.2.2.2.2.2.2.2.2.2.2.2.2.2.2.2.2.2.2.2.2.2.2.2.2.2.2.2.2.2.1) (m.2.2.2.2.2.2.2.2.2.2.2.2.2.2.2.2.2.2.2.2.2.2.2.2.2.2.2.2.2.2.2.1) (m.2.2.2.2.2.2.2.2.2.2.2.2.2.2.2.2.2.2.2.2.2.2.2.2.2.2.2.2.2.2.2.2.1) (m.2.2.2.2.2.2.2.2.2.2.2.2.2.2.2.2.2.2.2.2.2.2.2.2.2.2.2.2.2.2.2.2.2.1) (m.2.2.2.2.2.2.2.2.2.2.2.2.2.2.2.2.2.2.2.2.2.2.2.2.2.2.2.2.2.2.2.2.2.2.1) (m.2.2.2.2.2.2.2.2.2.2.2.2.2.2.2.2.2.2.2.2.2.2.2.2.2.2.2.2.2.2.2.2.2.2.2) o = some R ∧ Inv R.1 R.2.1 R.2.2 := by
  obtain ⟨b, c, tn, tx, pn, pg, hC, hw, hmw, hB, hp, ht⟩ := h
  rw [hw, hmw, mC_28]
  simp only [gd1 hL hL2, gd2 hL hL2, gd3 hL hL2, gd4 hL hL2, gd5 hL hL2, if_false]
  generalize xs (nI j + 1).toNatClampNeg = p
  rcases cell_or p with hb | ⟨i, hi, e⟩
  · rw [cl_reverse_bad hb]
    simp only [Option.bind_some]
    rw [rf_reverse_bad hb]
    simp only [Option.bind_some, mX13_thrown, if_true, e10, e20, if_false]
    exact ⟨_, rfl, ⟨b, c, tn, tx, pn, pg, hC, rfl, rfl, hB, hp, ht⟩⟩
  · subst e
    obtain ⟨z, ez, hz⟩ := pr_turned b (c i)
    have hy : ∀ q, q < wd b → (z.setWidth (wd b)).getLsbD q = z.getLsbD q := fun q hq => by rw [BitVec.getLsbD_setWidth, decide_eq_true hq, Bool.true_and]
    have hs : sgn b z = (z.setWidth (wd b)).signExtend 64 := rfl
    obtain ⟨B2, s2, e2, hP⟩ := pr_reverses (k := k) (B := m.2.2.1) (f := m.2.2.2.2.2.2.2.2.2.2.2.1) (y := z.setWidth (wd b)) (hB i hi) hi (by omega) (fun q hq => (hy q hq).trans (hz q hq))
    have eL : mL_reverse (x.1) (bI b) o (nI i) = some (0, vp_updL x.1 i (Int64.ofBitVec (sgn b z)), vp_updL o 0 (Int64.ofBitVec (sgn b z))) := by
      rw [mL_reverse, mL_reverse_N, mX11_reverse, ck_ok hi]
      simp only [Option.bind_some]
      rw [mX2_bitsTurned, pr_allBits hC hi]
      simp only [Option.bind_some]
      rw [ez]
      simp only [Option.bind_some]
      rw [pr_put b z hi]
      simp only [Option.bind_some, c00, z00, if_false]
    have eM : mX13_reverse k (bI b) (m.2.2.1) (m.2.2.2.2.2.2.2.2.2.2.2.1) (nI i) = some (Int64.ofBitVec (sgn b z), 0, B2, s2) := by
      rw [mX13_reverse, ic_ok hi]
      simp only [Option.bind_some, ps_11]
      rw [if_neg (by decide)]
      have e2' := e2
      rw [e2', hs]
      rfl
    rw [eL]
    simp only [Option.bind_some]
    rw [eM]
    simp only [Option.bind_some, mX13_thrown, if_true, c00, z00, if_false, up_0]
    rw [if_pos ((lg_cmp_eq _ _).mpr rfl)]
    exact ⟨_, rfl, ⟨b, upC c i (sgn b z), tn, tx, pn, pg, hC.up i (sgn b z), rfl, rfl, putsTo.up hB hP, hp, ht⟩⟩
theorem cl_reverseBytes_bad {xc : Nat → Int64} {w : Int32} {o : Nat → Int64} {p : Int32} (h : cellBad p) : mL_reverseBytes xc w o p = some (1, xc, o) := by
  rw [mL_reverseBytes, mL_reverseBytes_N, mX11_reverseBytes, ck_bad h, mL_reverseBytes_T1_10, mX11_reverseBytes_T1_10, ckT_bad h]
  rfl
theorem rf_reverseBytes_bad {k : Nat} {w : Int32} {B : Nat → Nat → Int32} {s : Nat → Int32} {p : Int32} (h : cellBad p) : mX13_reverseBytes k w B s p = some (0, 1, B, s) := by
  rw [mX13_reverseBytes, ic_bad h]
  rfl
set_option maxHeartbeats 4000000 in
set_option maxRecDepth 100000 in
theorem hs_29 {k L j : Nat} {xs : Nat → Int32} {ax : Nat → Nat} {x : XS} {m : MS} {o : Nat → Int64} (hk : 1000 ≤ k) (hL : j + 6 ≤ L) (hL2 : L ≤ 3072) (h : Inv x m o) : ∃ R, mC_29 k xs L (nI j) (x.1) (x.2.1) (x.2.2.1) (x.2.2.2.1) (x.2.2.2.2.1) (x.2.2.2.2.2.1) (x.2.2.2.2.2.2.1) (x.2.2.2.2.2.2.2.1) (x.2.2.2.2.2.2.2.2.1) (x.2.2.2.2.2.2.2.2.2.1) (x.2.2.2.2.2.2.2.2.2.2.1) (x.2.2.2.2.2.2.2.2.2.2.2.1) (x.2.2.2.2.2.2.2.2.2.2.2.2.1) (x.2.2.2.2.2.2.2.2.2.2.2.2.2.1) (x.2.2.2.2.2.2.2.2.2.2.2.2.2.2.1) (x.2.2.2.2.2.2.2.2.2.2.2.2.2.2.2.1) (x.2.2.2.2.2.2.2.2.2.2.2.2.2.2.2.2.1) (x.2.2.2.2.2.2.2.2.2.2.2.2.2.2.2.2.2.1) (x.2.2.2.2.2.2.2.2.2.2.2.2.2.2.2.2.2.2.1) (x.2.2.2.2.2.2.2.2.2.2.2.2.2.2.2.2.2.2.2.1) (x.2.2.2.2.2.2.2.2.2.2.2.2.2.2.2.2.2.2.2.2.1) (x.2.2.2.2.2.2.2.2.2.2.2.2.2.2.2.2.2.2.2.2.2.1) (x.2.2.2.2.2.2.2.2.2.2.2.2.2.2.2.2.2.2.2.2.2.2.1) (x.2.2.2.2.2.2.2.2.2.2.2.2.2.2.2.2.2.2.2.2.2.2.2.1) (x.2.2.2.2.2.2.2.2.2.2.2.2.2.2.2.2.2.2.2.2.2.2.2.2.1) (x.2.2.2.2.2.2.2.2.2.2.2.2.2.2.2.2.2.2.2.2.2.2.2.2.2.1) (x.2.2.2.2.2.2.2.2.2.2.2.2.2.2.2.2.2.2.2.2.2.2.2.2.2.2.1) (x.2.2.2.2.2.2.2.2.2.2.2.2.2.2.2.2.2.2.2.2.2.2.2.2.2.2.2.1) (x.2.2.2.2.2.2.2.2.2.2.2.2.2.2.2.2.2.2.2.2.2.2.2.2.2.2.2.2.1) (x.2.2.2.2.2.2.2.2.2.2.2.2.2.2.2.2.2.2.2.2.2.2.2.2.2.2.2.2.2.1) (x.2.2.2.2.2.2.2.2.2.2.2.2.2.2.2.2.2.2.2.2.2.2.2.2.2.2.2.2.2.2.1) (x.2.2.2.2.2.2.2.2.2.2.2.2.2.2.2.2.2.2.2.2.2.2.2.2.2.2.2.2.2.2.2.1) (x.2.2.2.2.2.2.2.2.2.2.2.2.2.2.2.2.2.2.2.2.2.2.2.2.2.2.2.2.2.2.2.2) (m.2.1) (m.2.2.1) (m.2.2.2.1) (m.2.2.2.2.1) (m.2.2.2.2.2.1) (m.2.2.2.2.2.2.1) (m.2.2.2.2.2.2.2.1) (m.2.2.2.2.2.2.2.2.1) (m.2.2.2.2.2.2.2.2.2.1) (m.2.2.2.2.2.2.2.2.2.2.1) (m.2.2.2.2.2.2.2.2.2.2.2.1) (m.2.2.2.2.2.2.2.2.2.2.2.2.1) (m.2.2.2.2.2.2.2.2.2.2.2.2.2.1) (m.2.2.2.2.2.2.2.2.2.2.2.2.2.2.1) (m.2.2.2.2.2.2.2.2.2.2.2.2.2.2.2.1) (m.2.2.2.2.2.2.2.2.2.2.2.2.2.2.2.2.1) (m.2.2.2.2.2.2.2.2.2.2.2.2.2.2.2.2.2.1) (m.2.2.2.2.2.2.2.2.2.2.2.2.2.2.2.2.2.2.1) (m.2.2.2.2.2.2.2.2.2.2.2.2.2.2.2.2.2.2.2.1) (m.2.2.2.2.2.2.2.2.2.2.2.2.2.2.2.2.2.2.2.2.1) (m.2.2.2.2.2.2.2.2.2.2.2.2.2.2.2.2.2.2.2.2.2.1) (m.2.2.2.2.2.2.2.2.2.2.2.2.2.2.2.2.2.2.2.2.2.2.1) (m.2.2.2.2.2.2.2.2.2.2.2.2.2.2.2.2.2.2.2.2.2.2.2.1) (m.2.2.2.2.2.2.2.2.2.2.2.2.2.2.2.2.2.2.2.2.2.2.2.2.1) (m.2.2.2.2.2.2.2.2.2.2.2.2.2.2.2.2.2.2.2.2.2.2.2.2.2.1) (m.2.2.2.2.2.2.2.2.2.2.2.2.2.2.2.2.2.2.2.2.2.2.2.2.2.2.1) (m.2.2.2.2.2.2.2.2.2.2.2.2.2.2.2.2.2.2.2.2.2.2.2.2.2.2.2.1) (m.2.2.2.2.2.2.2.2.2.2.2.2.2.2.2.2.2.2.2.2.2.2.2.2.2.2.2.2.1) (m.2.2.2.2.2.2.2.2.2.2.2.2.2.2.2.2.2.2.2.2.2.2.2.2.2.2.2.2.2.1) (m.2.2.2.2.2.2.2.2.2.2.2.2.2.2.2.2.2.2.2.2.2.2.2.2.2.2.2.2.2.2.1) (m.2.2.2.2.2.2.2.2.2.2.2.2.2.2.2.2.2.2.2.2.2.2.2.2.2.2.2.2.2.2.2.1) (m.2.2.2.2.2.2.2.2.2.2.2.2.2.2.2.2.2.2.2.2.2.2.2.2.2.2.2.2.2.2.2.2.1) (m.2.2.2.2.2.2.2.2.2.2.2.2.2.2.2.2.2.2.2.2.2.2.2.2.2.2.2.2.2.2.2.2.2.1) (m.2.2.2.2.2.2.2.2.2.2.2.2.2.2.2.2.2.2.2.2.2.2.2.2.2.2.2.2.2.2.2.2.2.2.1) (m.2.2.2.2.2.2.2.2.2.2.2.2.2.2.2.2.2.2.2.2.2.2.2.2.2.2.2.2.2.2.2.2.2.2.2) o = some R ∧ Inv R.1 R.2.1 R.2.2 := by
  obtain ⟨b, c, tn, tx, pn, pg, hC, hw, hmw, hB, hp, ht⟩ := h
  rw [hw, hmw, mC_29]
  simp only [gd1 hL hL2, gd2 hL hL2, gd3 hL hL2, gd4 hL hL2, gd5 hL hL2, if_false]
  generalize xs (nI j + 1).toNatClampNeg = p
  rcases cell_or p with hb | ⟨i, hi, e⟩
  · rw [cl_reverseBytes_bad hb]
    simp only [Option.bind_some]
    rw [rf_reverseBytes_bad hb]
    simp only [Option.bind_some, mX13_thrown, if_true, e10, e20, if_false]
    exact ⟨_, rfl, ⟨b, c, tn, tx, pn, pg, hC, rfl, rfl, hB, hp, ht⟩⟩
  · subst e
    obtain ⟨z, ez, hz⟩ := pr_bytesTurned b (c i)
    have hy : ∀ q, q < wd b → (z.setWidth (wd b)).getLsbD q = z.getLsbD q := fun q hq => by rw [BitVec.getLsbD_setWidth, decide_eq_true hq, Bool.true_and]
    have hs : sgn b z = (z.setWidth (wd b)).signExtend 64 := rfl
    obtain ⟨B2, s2, e2, hP⟩ := pr_reversesBytes (k := k) (B := m.2.2.1) (f := m.2.2.2.2.2.2.2.2.2.2.2.1) (y := z.setWidth (wd b)) (hB i hi) hi (by omega) (fun q hq => (hy q hq).trans (hz q hq))
    have eL : mL_reverseBytes (x.1) (bI b) o (nI i) = some (0, vp_updL x.1 i (Int64.ofBitVec (sgn b z)), vp_updL o 0 (Int64.ofBitVec (sgn b z))) := by
      rw [mL_reverseBytes, mL_reverseBytes_N, mX11_reverseBytes, ck_ok hi]
      simp only [Option.bind_some]
      rw [mX2_bytesTurned, pr_allBits hC hi]
      simp only [Option.bind_some]
      rw [ez]
      simp only [Option.bind_some]
      rw [pr_put b z hi]
      simp only [Option.bind_some, c00, z00, if_false]
    have eM : mX13_reverseBytes k (bI b) (m.2.2.1) (m.2.2.2.2.2.2.2.2.2.2.2.1) (nI i) = some (Int64.ofBitVec (sgn b z), 0, B2, s2) := by
      rw [mX13_reverseBytes, ic_ok hi]
      simp only [Option.bind_some, ps_11]
      rw [if_neg (by decide)]
      have e2' := e2
      rw [e2', hs]
      rfl
    rw [eL]
    simp only [Option.bind_some]
    rw [eM]
    simp only [Option.bind_some, mX13_thrown, if_true, c00, z00, if_false, up_0]
    rw [if_pos ((lg_cmp_eq _ _).mpr rfl)]
    exact ⟨_, rfl, ⟨b, upC c i (sgn b z), tn, tx, pn, pg, hC.up i (sgn b z), rfl, rfl, putsTo.up hB hP, hp, ht⟩⟩
theorem cl_highest_bad {xc : Nat → Int64} {w : Int32} {o : Nat → Int64} {p : Int32} (h : cellBad p) : mL_highest xc w o p = some (1, xc, o) := by
  rw [mL_highest, mL_highest_N, mX11_highest, ck_bad h, mL_highest_T1_10, mX11_highest_T1_10, ckT_bad h]
  rfl
theorem rf_highest_bad {k : Nat} {w : Int32} {B : Nat → Nat → Int32} {s : Nat → Int32} {p : Int32} (h : cellBad p) : mX13_highest k w B s p = some (0, 1, B, s) := by
  rw [mX13_highest, ic_bad h]
  rfl
set_option maxHeartbeats 4000000 in
set_option maxRecDepth 100000 in
theorem hs_31 {k L j : Nat} {xs : Nat → Int32} {ax : Nat → Nat} {x : XS} {m : MS} {o : Nat → Int64} (hk : 1000 ≤ k) (hL : j + 6 ≤ L) (hL2 : L ≤ 3072) (h : Inv x m o) : ∃ R, mC_31 k xs L (nI j) (x.1) (x.2.1) (x.2.2.1) (x.2.2.2.1) (x.2.2.2.2.1) (x.2.2.2.2.2.1) (x.2.2.2.2.2.2.1) (x.2.2.2.2.2.2.2.1) (x.2.2.2.2.2.2.2.2.1) (x.2.2.2.2.2.2.2.2.2.1) (x.2.2.2.2.2.2.2.2.2.2.1) (x.2.2.2.2.2.2.2.2.2.2.2.1) (x.2.2.2.2.2.2.2.2.2.2.2.2.1) (x.2.2.2.2.2.2.2.2.2.2.2.2.2.1) (x.2.2.2.2.2.2.2.2.2.2.2.2.2.2.1) (x.2.2.2.2.2.2.2.2.2.2.2.2.2.2.2.1) (x.2.2.2.2.2.2.2.2.2.2.2.2.2.2.2.2.1) (x.2.2.2.2.2.2.2.2.2.2.2.2.2.2.2.2.2.1) (x.2.2.2.2.2.2.2.2.2.2.2.2.2.2.2.2.2.2.1) (x.2.2.2.2.2.2.2.2.2.2.2.2.2.2.2.2.2.2.2.1) (x.2.2.2.2.2.2.2.2.2.2.2.2.2.2.2.2.2.2.2.2.1) (x.2.2.2.2.2.2.2.2.2.2.2.2.2.2.2.2.2.2.2.2.2.1) (x.2.2.2.2.2.2.2.2.2.2.2.2.2.2.2.2.2.2.2.2.2.2.1) (x.2.2.2.2.2.2.2.2.2.2.2.2.2.2.2.2.2.2.2.2.2.2.2.1) (x.2.2.2.2.2.2.2.2.2.2.2.2.2.2.2.2.2.2.2.2.2.2.2.2.1) (x.2.2.2.2.2.2.2.2.2.2.2.2.2.2.2.2.2.2.2.2.2.2.2.2.2.1) (x.2.2.2.2.2.2.2.2.2.2.2.2.2.2.2.2.2.2.2.2.2.2.2.2.2.2.1) (x.2.2.2.2.2.2.2.2.2.2.2.2.2.2.2.2.2.2.2.2.2.2.2.2.2.2.2.1) (x.2.2.2.2.2.2.2.2.2.2.2.2.2.2.2.2.2.2.2.2.2.2.2.2.2.2.2.2.1) (x.2.2.2.2.2.2.2.2.2.2.2.2.2.2.2.2.2.2.2.2.2.2.2.2.2.2.2.2.2.1) (x.2.2.2.2.2.2.2.2.2.2.2.2.2.2.2.2.2.2.2.2.2.2.2.2.2.2.2.2.2.2.1) (x.2.2.2.2.2.2.2.2.2.2.2.2.2.2.2.2.2.2.2.2.2.2.2.2.2.2.2.2.2.2.2.1) (x.2.2.2.2.2.2.2.2.2.2.2.2.2.2.2.2.2.2.2.2.2.2.2.2.2.2.2.2.2.2.2.2) (m.2.1) (m.2.2.1) (m.2.2.2.1) (m.2.2.2.2.1) (m.2.2.2.2.2.1) (m.2.2.2.2.2.2.1) (m.2.2.2.2.2.2.2.1) (m.2.2.2.2.2.2.2.2.1) (m.2.2.2.2.2.2.2.2.2.1) (m.2.2.2.2.2.2.2.2.2.2.1) (m.2.2.2.2.2.2.2.2.2.2.2.1) (m.2.2.2.2.2.2.2.2.2.2.2.2.1) (m.2.2.2.2.2.2.2.2.2.2.2.2.2.1) (m.2.2.2.2.2.2.2.2.2.2.2.2.2.2.1) (m.2.2.2.2.2.2.2.2.2.2.2.2.2.2.2.1) (m.2.2.2.2.2.2.2.2.2.2.2.2.2.2.2.2.1) (m.2.2.2.2.2.2.2.2.2.2.2.2.2.2.2.2.2.1) (m.2.2.2.2.2.2.2.2.2.2.2.2.2.2.2.2.2.2.1) (m.2.2.2.2.2.2.2.2.2.2.2.2.2.2.2.2.2.2.2.1) (m.2.2.2.2.2.2.2.2.2.2.2.2.2.2.2.2.2.2.2.2.1) (m.2.2.2.2.2.2.2.2.2.2.2.2.2.2.2.2.2.2.2.2.2.1) (m.2.2.2.2.2.2.2.2.2.2.2.2.2.2.2.2.2.2.2.2.2.2.1) (m.2.2.2.2.2.2.2.2.2.2.2.2.2.2.2.2.2.2.2.2.2.2.2.1) (m.2.2.2.2.2.2.2.2.2.2.2.2.2.2.2.2.2.2.2.2.2.2.2.2.1) (m.2.2.2.2.2.2.2.2.2.2.2.2.2.2.2.2.2.2.2.2.2.2.2.2.2.1) (m.2.2.2.2.2.2.2.2.2.2.2.2.2.2.2.2.2.2.2.2.2.2.2.2.2.2.1) (m.2.2.2.2.2.2.2.2.2.2.2.2.2.2.2.2.2.2.2.2.2.2.2.2.2.2.2.1) (m.2.2.2.2.2.2.2.2.2.2.2.2.2.2.2.2.2.2.2.2.2.2.2.2.2.2.2.2.1) (m.2.2.2.2.2.2.2.2.2.2.2.2.2.2.2.2.2.2.2.2.2.2.2.2.2.2.2.2.2.1) (m.2.2.2.2.2.2.2.2.2.2.2.2.2.2.2.2.2.2.2.2.2.2.2.2.2.2.2.2.2.2.1) (m.2.2.2.2.2.2.2.2.2.2.2.2.2.2.2.2.2.2.2.2.2.2.2.2.2.2.2.2.2.2.2.1) (m.2.2.2.2.2.2.2.2.2.2.2.2.2.2.2.2.2.2.2.2.2.2.2.2.2.2.2.2.2.2.2.2.1) (m.2.2.2.2.2.2.2.2.2.2.2.2.2.2.2.2.2.2.2.2.2.2.2.2.2.2.2.2.2.2.2.2.2.1) (m.2.2.2.2.2.2.2.2.2.2.2.2.2.2.2.2.2.2.2.2.2.2.2.2.2.2.2.2.2.2.2.2.2.2.1) (m.2.2.2.2.2.2.2.2.2.2.2.2.2.2.2.2.2.2.2.2.2.2.2.2.2.2.2.2.2.2.2.2.2.2.2) o = some R ∧ Inv R.1 R.2.1 R.2.2 := by
  obtain ⟨b, c, tn, tx, pn, pg, hC, hw, hmw, hB, hp, ht⟩ := h
  rw [hw, hmw, mC_31]
  simp only [gd1 hL hL2, gd2 hL hL2, gd3 hL hL2, gd4 hL hL2, gd5 hL hL2, if_false]
  generalize xs (nI j + 1).toNatClampNeg = p
  rcases cell_or p with hb | ⟨i, hi, e⟩
  · rw [cl_highest_bad hb]
    simp only [Option.bind_some]
    rw [rf_highest_bad hb]
    simp only [Option.bind_some, mX13_thrown, if_true, e10, e20, if_false]
    exact ⟨_, rfl, ⟨b, c, tn, tx, pn, pg, hC, rfl, rfl, hB, hp, ht⟩⟩
  · subst e
    obtain ⟨z, ez, hz⟩ := pr_highestBit b (c i)
    have hy : ∀ q, q < wd b → (z.setWidth (wd b)).getLsbD q = z.getLsbD q := fun q hq => by rw [BitVec.getLsbD_setWidth, decide_eq_true hq, Bool.true_and]
    have hs : sgn b z = (z.setWidth (wd b)).signExtend 64 := rfl
    obtain ⟨B2, s2, e2, hP⟩ := pr_leaves (above := true) (k := k) (B := m.2.2.1) (f := m.2.2.2.2.2.2.2.2.2.2.2.1) (y := z.setWidth (wd b)) (hB i hi) hi (by omega) (fun q hq => (hy q hq).trans (hz q hq))
    have eL : mL_highest (x.1) (bI b) o (nI i) = some (0, vp_updL x.1 i (Int64.ofBitVec (sgn b z)), vp_updL o 0 (Int64.ofBitVec (sgn b z))) := by
      rw [mL_highest, mL_highest_N, mX11_highest, ck_ok hi]
      simp only [Option.bind_some]
      rw [mX2_highestBit, pr_allBits hC hi]
      simp only [Option.bind_some]
      rw [ez]
      simp only [Option.bind_some]
      rw [pr_put b z hi]
      simp only [Option.bind_some, c00, z00, if_false]
    have eM : mX13_highest k (bI b) (m.2.2.1) (m.2.2.2.2.2.2.2.2.2.2.2.1) (nI i) = some (Int64.ofBitVec (sgn b z), 0, B2, s2) := by
      rw [mX13_highest, ic_ok hi]
      simp only [Option.bind_some, ps_11]
      rw [if_neg (by decide)]
      have e2' := e2
      have e2' : mX12_leaves k (bI b) (m.2.2.1) (m.2.2.2.2.2.2.2.2.2.2.2.1) (nI i) 1 = _ := e2
      rw [e2', hs]
      rfl
    rw [eL]
    simp only [Option.bind_some]
    rw [eM]
    simp only [Option.bind_some, mX13_thrown, if_true, c00, z00, if_false, up_0]
    rw [if_pos ((lg_cmp_eq _ _).mpr rfl)]
    exact ⟨_, rfl, ⟨b, upC c i (sgn b z), tn, tx, pn, pg, hC.up i (sgn b z), rfl, rfl, putsTo.up hB hP, hp, ht⟩⟩
theorem cl_lowest_bad {xc : Nat → Int64} {w : Int32} {o : Nat → Int64} {p : Int32} (h : cellBad p) : mL_lowest xc w o p = some (1, xc, o) := by
  rw [mL_lowest, mL_lowest_N, mX11_lowest, ck_bad h, mL_lowest_T1_10, mX11_lowest_T1_10, ckT_bad h]
  rfl
theorem rf_lowest_bad {k : Nat} {w : Int32} {B : Nat → Nat → Int32} {s : Nat → Int32} {p : Int32} (h : cellBad p) : mX13_lowest k w B s p = some (0, 1, B, s) := by
  rw [mX13_lowest, ic_bad h]
  rfl
set_option maxHeartbeats 4000000 in
set_option maxRecDepth 100000 in
theorem hs_32 {k L j : Nat} {xs : Nat → Int32} {ax : Nat → Nat} {x : XS} {m : MS} {o : Nat → Int64} (hk : 1000 ≤ k) (hL : j + 6 ≤ L) (hL2 : L ≤ 3072) (h : Inv x m o) : ∃ R, mC_32 k xs L (nI j) (x.1) (x.2.1) (x.2.2.1) (x.2.2.2.1) (x.2.2.2.2.1) (x.2.2.2.2.2.1) (x.2.2.2.2.2.2.1) (x.2.2.2.2.2.2.2.1) (x.2.2.2.2.2.2.2.2.1) (x.2.2.2.2.2.2.2.2.2.1) (x.2.2.2.2.2.2.2.2.2.2.1) (x.2.2.2.2.2.2.2.2.2.2.2.1) (x.2.2.2.2.2.2.2.2.2.2.2.2.1) (x.2.2.2.2.2.2.2.2.2.2.2.2.2.1) (x.2.2.2.2.2.2.2.2.2.2.2.2.2.2.1) (x.2.2.2.2.2.2.2.2.2.2.2.2.2.2.2.1) (x.2.2.2.2.2.2.2.2.2.2.2.2.2.2.2.2.1) (x.2.2.2.2.2.2.2.2.2.2.2.2.2.2.2.2.2.1) (x.2.2.2.2.2.2.2.2.2.2.2.2.2.2.2.2.2.2.1) (x.2.2.2.2.2.2.2.2.2.2.2.2.2.2.2.2.2.2.2.1) (x.2.2.2.2.2.2.2.2.2.2.2.2.2.2.2.2.2.2.2.2.1) (x.2.2.2.2.2.2.2.2.2.2.2.2.2.2.2.2.2.2.2.2.2.1) (x.2.2.2.2.2.2.2.2.2.2.2.2.2.2.2.2.2.2.2.2.2.2.1) (x.2.2.2.2.2.2.2.2.2.2.2.2.2.2.2.2.2.2.2.2.2.2.2.1) (x.2.2.2.2.2.2.2.2.2.2.2.2.2.2.2.2.2.2.2.2.2.2.2.2.1) (x.2.2.2.2.2.2.2.2.2.2.2.2.2.2.2.2.2.2.2.2.2.2.2.2.2.1) (x.2.2.2.2.2.2.2.2.2.2.2.2.2.2.2.2.2.2.2.2.2.2.2.2.2.2.1) (x.2.2.2.2.2.2.2.2.2.2.2.2.2.2.2.2.2.2.2.2.2.2.2.2.2.2.2.1) (x.2.2.2.2.2.2.2.2.2.2.2.2.2.2.2.2.2.2.2.2.2.2.2.2.2.2.2.2.1) (x.2.2.2.2.2.2.2.2.2.2.2.2.2.2.2.2.2.2.2.2.2.2.2.2.2.2.2.2.2.1) (x.2.2.2.2.2.2.2.2.2.2.2.2.2.2.2.2.2.2.2.2.2.2.2.2.2.2.2.2.2.2.1) (x.2.2.2.2.2.2.2.2.2.2.2.2.2.2.2.2.2.2.2.2.2.2.2.2.2.2.2.2.2.2.2.1) (x.2.2.2.2.2.2.2.2.2.2.2.2.2.2.2.2.2.2.2.2.2.2.2.2.2.2.2.2.2.2.2.2) (m.2.1) (m.2.2.1) (m.2.2.2.1) (m.2.2.2.2.1) (m.2.2.2.2.2.1) (m.2.2.2.2.2.2.1) (m.2.2.2.2.2.2.2.1) (m.2.2.2.2.2.2.2.2.1) (m.2.2.2.2.2.2.2.2.2.1) (m.2.2.2.2.2.2.2.2.2.2.1) (m.2.2.2.2.2.2.2.2.2.2.2.1) (m.2.2.2.2.2.2.2.2.2.2.2.2.1) (m.2.2.2.2.2.2.2.2.2.2.2.2.2.1) (m.2.2.2.2.2.2.2.2.2.2.2.2.2.2.1) (m.2.2.2.2.2.2.2.2.2.2.2.2.2.2.2.1) (m.2.2.2.2.2.2.2.2.2.2.2.2.2.2.2.2.1) (m.2.2.2.2.2.2.2.2.2.2.2.2.2.2.2.2.2.1) (m.2.2.2.2.2.2.2.2.2.2.2.2.2.2.2.2.2.2.1) (m.2.2.2.2.2.2.2.2.2.2.2.2.2.2.2.2.2.2.2.1) (m.2.2.2.2.2.2.2.2.2.2.2.2.2.2.2.2.2.2.2.2.1) (m.2.2.2.2.2.2.2.2.2.2.2.2.2.2.2.2.2.2.2.2.2.1) (m.2.2.2.2.2.2.2.2.2.2.2.2.2.2.2.2.2.2.2.2.2.2.1) (m.2.2.2.2.2.2.2.2.2.2.2.2.2.2.2.2.2.2.2.2.2.2.2.1) (m.2.2.2.2.2.2.2.2.2.2.2.2.2.2.2.2.2.2.2.2.2.2.2.2.1) (m.2.2.2.2.2.2.2.2.2.2.2.2.2.2.2.2.2.2.2.2.2.2.2.2.2.1) (m.2.2.2.2.2.2.2.2.2.2.2.2.2.2.2.2.2.2.2.2.2.2.2.2.2.2.1) (m.2.2.2.2.2.2.2.2.2.2.2.2.2.2.2.2.2.2.2.2.2.2.2.2.2.2.2.1) (m.2.2.2.2.2.2.2.2.2.2.2.2.2.2.2.2.2.2.2.2.2.2.2.2.2.2.2.2.1) (m.2.2.2.2.2.2.2.2.2.2.2.2.2.2.2.2.2.2.2.2.2.2.2.2.2.2.2.2.2.1) (m.2.2.2.2.2.2.2.2.2.2.2.2.2.2.2.2.2.2.2.2.2.2.2.2.2.2.2.2.2.2.1) (m.2.2.2.2.2.2.2.2.2.2.2.2.2.2.2.2.2.2.2.2.2.2.2.2.2.2.2.2.2.2.2.1) (m.2.2.2.2.2.2.2.2.2.2.2.2.2.2.2.2.2.2.2.2.2.2.2.2.2.2.2.2.2.2.2.2.1) (m.2.2.2.2.2.2.2.2.2.2.2.2.2.2.2.2.2.2.2.2.2.2.2.2.2.2.2.2.2.2.2.2.2.1) (m.2.2.2.2.2.2.2.2.2.2.2.2.2.2.2.2.2.2.2.2.2.2.2.2.2.2.2.2.2.2.2.2.2.2.1) (m.2.2.2.2.2.2.2.2.2.2.2.2.2.2.2.2.2.2.2.2.2.2.2.2.2.2.2.2.2.2.2.2.2.2.2) o = some R ∧ Inv R.1 R.2.1 R.2.2 := by
  obtain ⟨b, c, tn, tx, pn, pg, hC, hw, hmw, hB, hp, ht⟩ := h
  rw [hw, hmw, mC_32]
  simp only [gd1 hL hL2, gd2 hL hL2, gd3 hL hL2, gd4 hL hL2, gd5 hL hL2, if_false]
  generalize xs (nI j + 1).toNatClampNeg = p
  rcases cell_or p with hb | ⟨i, hi, e⟩
  · rw [cl_lowest_bad hb]
    simp only [Option.bind_some]
    rw [rf_lowest_bad hb]
    simp only [Option.bind_some, mX13_thrown, if_true, e10, e20, if_false]
    exact ⟨_, rfl, ⟨b, c, tn, tx, pn, pg, hC, rfl, rfl, hB, hp, ht⟩⟩
  · subst e
    obtain ⟨z, ez, hz⟩ := pr_lowestBit b (c i)
    have hy : ∀ q, q < wd b → (z.setWidth (wd b)).getLsbD q = z.getLsbD q := fun q hq => by rw [BitVec.getLsbD_setWidth, decide_eq_true hq, Bool.true_and]
    have hs : sgn b z = (z.setWidth (wd b)).signExtend 64 := rfl
    obtain ⟨B2, s2, e2, hP⟩ := pr_leaves (above := false) (k := k) (B := m.2.2.1) (f := m.2.2.2.2.2.2.2.2.2.2.2.1) (y := z.setWidth (wd b)) (hB i hi) hi (by omega) (fun q hq => (hy q hq).trans (hz q hq))
    have eL : mL_lowest (x.1) (bI b) o (nI i) = some (0, vp_updL x.1 i (Int64.ofBitVec (sgn b z)), vp_updL o 0 (Int64.ofBitVec (sgn b z))) := by
      rw [mL_lowest, mL_lowest_N, mX11_lowest, ck_ok hi]
      simp only [Option.bind_some]
      rw [mX2_lowestBit, pr_allBits hC hi]
      simp only [Option.bind_some]
      rw [ez]
      simp only [Option.bind_some]
      rw [pr_put b z hi]
      simp only [Option.bind_some, c00, z00, if_false]
    have eM : mX13_lowest k (bI b) (m.2.2.1) (m.2.2.2.2.2.2.2.2.2.2.2.1) (nI i) = some (Int64.ofBitVec (sgn b z), 0, B2, s2) := by
      rw [mX13_lowest, ic_ok hi]
      simp only [Option.bind_some, ps_11]
      rw [if_neg (by decide)]
      have e2' := e2
      have e2' : mX12_leaves k (bI b) (m.2.2.1) (m.2.2.2.2.2.2.2.2.2.2.2.1) (nI i) 0 = _ := e2
      rw [e2', hs]
      rfl
    rw [eL]
    simp only [Option.bind_some]
    rw [eM]
    simp only [Option.bind_some, mX13_thrown, if_true, c00, z00, if_false, up_0]
    rw [if_pos ((lg_cmp_eq _ _).mpr rfl)]
    exact ⟨_, rfl, ⟨b, upC c i (sgn b z), tn, tx, pn, pg, hC.up i (sgn b z), rfl, rfl, putsTo.up hB hP, hp, ht⟩⟩
theorem cl_rotate_bad {xc : Nat → Int64} {w : Int32} {o : Nat → Int64} {p : Int32} {d : Int32} {q : Int32} (h : cellBad p) : mL_rotate xc w o p d q = some (1, xc, o) := by
  rw [mL_rotate, mL_rotate_N, mX11_rotate, ck_bad h, mL_rotate_T1_10, mX11_rotate_T1_10, ckT_bad h]
  rfl
theorem rf_rotate_bad {k : Nat} {w : Int32} {B : Nat → Nat → Int32} {s : Nat → Int32} {p : Int32} {d : Int32} {q : Int32} (h : cellBad p) : mX13_rotate k w B s p d q = some (0, 1, B, s) := by
  rw [mX13_rotate, ic_bad h]
  rfl
set_option maxHeartbeats 4000000 in
set_option maxRecDepth 100000 in
theorem hs_30 {k L j : Nat} {xs : Nat → Int32} {ax : Nat → Nat} {x : XS} {m : MS} {o : Nat → Int64} (hk : 1000 ≤ k) (hL : j + 6 ≤ L) (hL2 : L ≤ 3072) (h : Inv x m o) : ∃ R, mC_30 k xs L (nI j) (x.1) (x.2.1) (x.2.2.1) (x.2.2.2.1) (x.2.2.2.2.1) (x.2.2.2.2.2.1) (x.2.2.2.2.2.2.1) (x.2.2.2.2.2.2.2.1) (x.2.2.2.2.2.2.2.2.1) (x.2.2.2.2.2.2.2.2.2.1) (x.2.2.2.2.2.2.2.2.2.2.1) (x.2.2.2.2.2.2.2.2.2.2.2.1) (x.2.2.2.2.2.2.2.2.2.2.2.2.1) (x.2.2.2.2.2.2.2.2.2.2.2.2.2.1) (x.2.2.2.2.2.2.2.2.2.2.2.2.2.2.1) (x.2.2.2.2.2.2.2.2.2.2.2.2.2.2.2.1) (x.2.2.2.2.2.2.2.2.2.2.2.2.2.2.2.2.1) (x.2.2.2.2.2.2.2.2.2.2.2.2.2.2.2.2.2.1) (x.2.2.2.2.2.2.2.2.2.2.2.2.2.2.2.2.2.2.1) (x.2.2.2.2.2.2.2.2.2.2.2.2.2.2.2.2.2.2.2.1) (x.2.2.2.2.2.2.2.2.2.2.2.2.2.2.2.2.2.2.2.2.1) (x.2.2.2.2.2.2.2.2.2.2.2.2.2.2.2.2.2.2.2.2.2.1) (x.2.2.2.2.2.2.2.2.2.2.2.2.2.2.2.2.2.2.2.2.2.2.1) (x.2.2.2.2.2.2.2.2.2.2.2.2.2.2.2.2.2.2.2.2.2.2.2.1) (x.2.2.2.2.2.2.2.2.2.2.2.2.2.2.2.2.2.2.2.2.2.2.2.2.1) (x.2.2.2.2.2.2.2.2.2.2.2.2.2.2.2.2.2.2.2.2.2.2.2.2.2.1) (x.2.2.2.2.2.2.2.2.2.2.2.2.2.2.2.2.2.2.2.2.2.2.2.2.2.2.1) (x.2.2.2.2.2.2.2.2.2.2.2.2.2.2.2.2.2.2.2.2.2.2.2.2.2.2.2.1) (x.2.2.2.2.2.2.2.2.2.2.2.2.2.2.2.2.2.2.2.2.2.2.2.2.2.2.2.2.1) (x.2.2.2.2.2.2.2.2.2.2.2.2.2.2.2.2.2.2.2.2.2.2.2.2.2.2.2.2.2.1) (x.2.2.2.2.2.2.2.2.2.2.2.2.2.2.2.2.2.2.2.2.2.2.2.2.2.2.2.2.2.2.1) (x.2.2.2.2.2.2.2.2.2.2.2.2.2.2.2.2.2.2.2.2.2.2.2.2.2.2.2.2.2.2.2.1) (x.2.2.2.2.2.2.2.2.2.2.2.2.2.2.2.2.2.2.2.2.2.2.2.2.2.2.2.2.2.2.2.2) (m.2.1) (m.2.2.1) (m.2.2.2.1) (m.2.2.2.2.1) (m.2.2.2.2.2.1) (m.2.2.2.2.2.2.1) (m.2.2.2.2.2.2.2.1) (m.2.2.2.2.2.2.2.2.1) (m.2.2.2.2.2.2.2.2.2.1) (m.2.2.2.2.2.2.2.2.2.2.1) (m.2.2.2.2.2.2.2.2.2.2.2.1) (m.2.2.2.2.2.2.2.2.2.2.2.2.1) (m.2.2.2.2.2.2.2.2.2.2.2.2.2.1) (m.2.2.2.2.2.2.2.2.2.2.2.2.2.2.1) (m.2.2.2.2.2.2.2.2.2.2.2.2.2.2.2.1) (m.2.2.2.2.2.2.2.2.2.2.2.2.2.2.2.2.1) (m.2.2.2.2.2.2.2.2.2.2.2.2.2.2.2.2.2.1) (m.2.2.2.2.2.2.2.2.2.2.2.2.2.2.2.2.2.2.1) (m.2.2.2.2.2.2.2.2.2.2.2.2.2.2.2.2.2.2.2.1) (m.2.2.2.2.2.2.2.2.2.2.2.2.2.2.2.2.2.2.2.2.1) (m.2.2.2.2.2.2.2.2.2.2.2.2.2.2.2.2.2.2.2.2.2.1) (m.2.2.2.2.2.2.2.2.2.2.2.2.2.2.2.2.2.2.2.2.2.2.1) (m.2.2.2.2.2.2.2.2.2.2.2.2.2.2.2.2.2.2.2.2.2.2.2.1) (m.2.2.2.2.2.2.2.2.2.2.2.2.2.2.2.2.2.2.2.2.2.2.2.2.1) (m.2.2.2.2.2.2.2.2.2.2.2.2.2.2.2.2.2.2.2.2.2.2.2.2.2.1) (m.2.2.2.2.2.2.2.2.2.2.2.2.2.2.2.2.2.2.2.2.2.2.2.2.2.2.1) (m.2.2.2.2.2.2.2.2.2.2.2.2.2.2.2.2.2.2.2.2.2.2.2.2.2.2.2.1) (m.2.2.2.2.2.2.2.2.2.2.2.2.2.2.2.2.2.2.2.2.2.2.2.2.2.2.2.2.1) (m.2.2.2.2.2.2.2.2.2.2.2.2.2.2.2.2.2.2.2.2.2.2.2.2.2.2.2.2.2.1) (m.2.2.2.2.2.2.2.2.2.2.2.2.2.2.2.2.2.2.2.2.2.2.2.2.2.2.2.2.2.2.1) (m.2.2.2.2.2.2.2.2.2.2.2.2.2.2.2.2.2.2.2.2.2.2.2.2.2.2.2.2.2.2.2.1) (m.2.2.2.2.2.2.2.2.2.2.2.2.2.2.2.2.2.2.2.2.2.2.2.2.2.2.2.2.2.2.2.2.1) (m.2.2.2.2.2.2.2.2.2.2.2.2.2.2.2.2.2.2.2.2.2.2.2.2.2.2.2.2.2.2.2.2.2.1) (m.2.2.2.2.2.2.2.2.2.2.2.2.2.2.2.2.2.2.2.2.2.2.2.2.2.2.2.2.2.2.2.2.2.2.1) (m.2.2.2.2.2.2.2.2.2.2.2.2.2.2.2.2.2.2.2.2.2.2.2.2.2.2.2.2.2.2.2.2.2.2.2) o = some R ∧ Inv R.1 R.2.1 R.2.2 := by
  obtain ⟨b, c, tn, tx, pn, pg, hC, hw, hmw, hB, hp, ht⟩ := h
  rw [hw, hmw, mC_30]
  simp only [gd1 hL hL2, gd2 hL hL2, gd3 hL hL2, gd4 hL hL2, gd5 hL hL2, if_false]
  generalize xs (nI j + 1).toNatClampNeg = p
  generalize xs (nI j + 2).toNatClampNeg = d
  obtain ⟨q3, e3⟩ := flg (xs (nI j + 3).toNatClampNeg)
  rw [e3]
  simp only [Option.bind_some]
  rcases cell_or p with hb | ⟨i, hi, e⟩
  · rw [cl_rotate_bad hb]
    simp only [Option.bind_some]
    rw [rf_rotate_bad hb]
    simp only [Option.bind_some, mX13_thrown, if_true, e10, e20, if_false]
    exact ⟨_, rfl, ⟨b, c, tn, tx, pn, pg, hC, rfl, rfl, hB, hp, ht⟩⟩
  · subst e
    obtain ⟨z, ez, hz⟩ := pr_rotated (b := b) (left := q3) d hC hi
    have hy : ∀ q, q < wd b → (z.setWidth (wd b)).getLsbD q = z.getLsbD q := fun q hq => by rw [BitVec.getLsbD_setWidth, decide_eq_true hq, Bool.true_and]
    have hs : sgn b z = (z.setWidth (wd b)).signExtend 64 := rfl
    obtain ⟨B2, s2, e2, hP⟩ := pr_turns (left := q3) (k := k) (B := m.2.2.1) (f := m.2.2.2.2.2.2.2.2.2.2.2.1) (y := z.setWidth (wd b)) d (hB i hi) hi (by omega) (fun q hq => (hy q hq).trans (hz q hq))
    have eL : mL_rotate (x.1) (bI b) o (nI i) d (bI q3) = some (0, vp_updL x.1 i (Int64.ofBitVec (sgn b z)), vp_updL o 0 (Int64.ofBitVec (sgn b z))) := by
      rw [mL_rotate, mL_rotate_N, mX11_rotate, ck_ok hi]
      simp only [Option.bind_some]
      rw [ez]
      simp only [Option.bind_some]
      rw [pr_put b z hi]
      simp only [Option.bind_some, c00, z00, if_false]
    have eM : mX13_rotate k (bI b) (m.2.2.1) (m.2.2.2.2.2.2.2.2.2.2.2.1) (nI i) d (bI q3) = some (Int64.ofBitVec (sgn b z), 0, B2, s2) := by
      rw [mX13_rotate, ic_ok hi]
      simp only [Option.bind_some, ps_11]
      rw [if_neg (by decide)]
      have e2' := e2
      rw [e2', hs]
      rfl
    rw [eL]
    simp only [Option.bind_some]
    rw [eM]
    simp only [Option.bind_some, mX13_thrown, if_true, c00, z00, if_false, up_0]
    rw [if_pos ((lg_cmp_eq _ _).mpr rfl)]
    exact ⟨_, rfl, ⟨b, upC c i (sgn b z), tn, tx, pn, pg, hC.up i (sgn b z), rfl, rfl, putsTo.up hB hP, hp, ht⟩⟩
