/-! pure: asking about digits; means -/
theorem dgv_dB : ∀ d, d < 36 → dgv (dB d) = d := by decide +kernel
theorem dB_inj {a b : Nat} (ha : a < 36) (hb : b < 36) (h : dB a = dB b) : a = b := by rw [← dgv_dB a ha, ← dgv_dB b hb, h]
theorem pr_dgVal {d : Nat} (h : d < 36) : mX3_valueOf (nI (dB d)) = some (nI d) := by
  rw [pr_digVal _ (by have := dB_lt h; omega), dgv_dB d h, if_pos h]
/-- a digit -/
def dgt (R A q : Nat) : Nat := A / R ^ q % R
theorem dgt_lt {R A q : Nat} (h0 : 2 ≤ R) (hR : R ≤ 36) : dgt R A q < 36 := Nat.lt_of_lt_of_le (Nat.mod_lt _ (by omega)) hR
theorem pr_sheet {b p : Bool} {xc : Nat → Int64} {c : Nat → BitVec 64} {f : Nat → Int32} {i k n : Nat} {r : Int32} (hC : isC xc c) (hi : i < 8) (hk : 130 < k) (hn : isND (rdx r) (szA b p (c i)) n) : ∃ f2, mX11_writeOnSheet k 65 xc (bI b) f (nI i) r (bI p) = some (nI (szN b p (c i)).toNat, f2, nI (n + (szN b p (c i)).toNat)) ∧ ∀ q, q < n → f2 (n + (szN b p (c i)).toNat - 1 - q) = nI (dB (dgt (rdx r) (szA b p (c i)) q)) := by
  obtain ⟨R1, R2, -⟩ := rdx_spec r
  obtain ⟨f2, e, h⟩ := pr_writeOn (b := b) (p := p) (v := c i) (f := f) (r := r) hk hn
  have hn1 := hn.1
  have hn2 := hn.2.1
  have hg : (szN b p (c i)).toNat ≤ 1 := by cases szN b p (c i) <;> decide
  refine ⟨f2, ?_, fun q hq => ?_⟩
  · have hb0 := pr_byteAt (N := 65) (len := n + (szN b p (c i)).toNat) (i := 0) (f := f2) (by omega) (by omega) (by omega)
    have hb0' : mX6_byteAt 65 f2 (nI (n + (szN b p (c i)).toNat)) 0 = some (f2 0) := hb0
    rw [mX11_writeOnSheet, pr_valueOf b p hC hi]
    simp only [Option.bind_some]
    rw [e]
    simp only [Option.bind_some]
    rw [hb0', h 0 (by omega)]
    simp only [Option.bind_some]
    have hpd := pgB_bd (ng := szN b p (c i)) (R := rdx r) (A := szA b p (c i)) (n := n) (i := 0) R2 (by omega)
    have h45 : nI (pgB (szN b p (c i)) (rdx r) (szA b p (c i)) n 0) = 45 ↔ pgB (szN b p (c i)) (rdx r) (szA b p (c i)) n 0 = 45 := nI_eq (b := 45) (by omega) (by omega)
    cases hN : szN b p (c i) with
    | true =>
      rw [hN] at h45
      rw [if_pos (h45.mpr (by rw [pgB, if_pos ⟨rfl, rfl⟩]))]
      rfl
    | false =>
      rw [hN] at h45
      rw [if_neg (fun z => by
        have h9 := h45.mp z
        rw [pgB, if_neg (fun y => by cases y.1)] at h9
        unfold dB at h9
        split at h9 <;> omega)]
      rfl
  · rw [h _ (by omega), pgB, if_neg (fun z => by
      have h1 := z.2
      have h2 : (szN b p (c i)).toNat = 1 := by rw [z.1]; rfl
      omega), show n + (szN b p (c i)).toNat - 1 - (n + (szN b p (c i)).toNat - 1 - q) = q by omega]
    rfl
theorem cl_digitAt_bad {k : Nat} {xc : Nat → Int64} {f : Nat → Int32} {l w : Int32} {o : Nat → Int64} {p r s q : Int32} (h : cellBad p) : mL_digitAt k 65 xc w f l o p r s q = some (1, f, l, o) := by
  rw [mL_digitAt, mL_digitAt_N, mX11_digitAt, ck_bad h, mL_digitAt_T1_10, mX11_digitAt_T1_10, ckT_bad h]
  rfl
theorem rf_digitAt_bad {k : Nat} {w : Int32} {B : Nat → Nat → Int32} {f2 f3 : Nat → Int32} {l2 l3 : Int32} {p r s q : Int32} (h : cellBad p) : mX13_digitAt k w B f2 l2 l3 f3 p r s q = some (0, 1, f2, l2, l3, f3) := by
  rw [mX13_digitAt, ic_bad h]
  rfl
theorem cl_digitAt_no {k i n g : Nat} {xc : Nat → Int64} {f f2 : Nat → Int32} {l w : Int32} {o : Nat → Int64} {r s q : Int32} (hi : i < 8) (hn : n ≤ 64) (hg : g ≤ 1) (e1 : mX11_writeOnSheet k 65 xc w f (nI i) r q = some (nI g, f2, nI (n + g))) (hs : s < 0 ∨ nI n ≤ s) : mL_digitAt k 65 xc w f l o (nI i) r s q = some (2, f2, nI (n + g), o) := by
  have es : nI (n + g) - nI g = nI n := by rw [pk_sub (by omega), Nat.add_sub_cancel]
  have hlt : ¬ s < 0 → ¬ s < nI n := fun h0 z => by
    have h1 := Int32.le_iff_toInt_le.mp (hs.resolve_left h0)
    have h3 := Int32.lt_iff_toInt_lt.mp z
    omega
  have eN : mX11_digitAt k 65 xc w f (nI i) r s q = none := by
    rw [mX11_digitAt, ck_ok hi]
    simp only [Option.bind_some]
    rw [e1]
    simp only [Option.bind_some]
    by_cases h0 : s < 0
    · rw [if_pos h0]
    · rw [if_neg h0, mX6_size]
      simp only [Option.bind_some]
      rw [es, if_neg (hlt h0)]
  have eT : mX11_digitAt_T32 k 65 xc w f (nI i) r s q = some (f2, nI (n + g)) := by
    rw [mX11_digitAt_T32, ck_ok hi]
    simp only [Option.bind_some]
    rw [e1]
    simp only [Option.bind_some]
    by_cases h0 : s < 0
    · rw [if_pos h0]
      rfl
    · rw [if_neg h0, mX6_size]
      simp only [Option.bind_some]
      rw [es, if_neg (hlt h0)]
      rfl
  rw [mL_digitAt, mL_digitAt_N, eN, mL_digitAt_T1_10, mX11_digitAt_T1_10, ckT_ok hi, mL_digitAt_T32, eT]
  rfl
theorem cl_digitAt_ok {k i n g t R A : Nat} {xc : Nat → Int64} {f f2 : Nat → Int32} {l w : Int32} {o : Nat → Int64} {r q : Int32} (hi : i < 8) (hn : n ≤ 64) (hg : g ≤ 1) (hR : 2 ≤ R) (hR2 : R ≤ 36) (e1 : mX11_writeOnSheet k 65 xc w f (nI i) r q = some (nI g, f2, nI (n + g))) (a1 : ∀ q, q < n → f2 (n + g - 1 - q) = nI (dB (dgt R A q))) (ht : t < n) : mL_digitAt k 65 xc w f l o (nI i) r (nI t) q = some (0, f2, nI (n + g), vp_updL o 0 ((nI (dgt R A t)).toInt64)) := by
  have es : nI (n + g) - nI g = nI n := by rw [pk_sub (by omega), Nat.add_sub_cancel]
  have e5 : nI (n + g) - 1 - nI t = nI (n + g - 1 - t) := by
    have h9 : nI (n + g) - 1 = nI (n + g - 1) := pk_sub (b := 1) (by omega)
    rw [h9, pk_sub (by omega)]
  rw [mL_digitAt, mL_digitAt_N, mX11_digitAt, ck_ok hi]
  simp only [Option.bind_some]
  rw [e1]
  simp only [Option.bind_some]
  rw [if_neg (nI_pos (by omega)), mX6_size]
  simp only [Option.bind_some]
  rw [es, if_pos (nI_lt ht (by omega)), e5, pr_byteAt (by omega) (by omega) (by omega), a1 t ht]
  simp only [Option.bind_some]
  rw [pr_dgVal (dgt_lt hR hR2)]
  simp only [Option.bind_some, c00, z00, if_false]
theorem rf_digitAt_no {k i n : Nat} {g : Bool} {w : Int32} {B : Nat → Nat → Int32} {d1 d2 o1 o2 : Nat → Int32} {l2 l3 r s q : Int32} (hi : i < 8) (hn : n ≤ 64) (e2 : mX12_digits k w B d1 o1 (nI i) r q = some (d2, nI n, bI g, o2)) (hs : s < 0 ∨ nI n ≤ s) : mX13_digitAt k w B d1 l2 l3 o1 (nI i) r s q = some (0, 2, d2, nI n, bI g, o2) := by
  rw [mX13_digitAt, ic_ok hi]
  simp only [Option.bind_some]
  rw [if_neg (by decide), e2]
  simp only [Option.bind_some]
  rw [if_neg (by decide), at_bad (by omega) hs]
  rfl
theorem rf_digitAt_ok {k i n t : Nat} {g : Bool} {w : Int32} {B : Nat → Nat → Int32} {d1 d2 o1 o2 : Nat → Int32} {l2 l3 r q : Int32} (hi : i < 8) (hn : n ≤ 64) (e2 : mX12_digits k w B d1 o1 (nI i) r q = some (d2, nI n, bI g, o2)) (ht : t < n) : mX13_digitAt k w B d1 l2 l3 o1 (nI i) r (nI t) q = some (d2 t, 0, d2, nI n, bI g, o2) := by
  rw [mX13_digitAt, ic_ok hi]
  simp only [Option.bind_some]
  rw [if_neg (by decide), e2]
  simp only [Option.bind_some]
  rw [if_neg (by decide), at_ok (by omega) ht]
  simp only [Option.bind_some]
  rw [if_neg (by decide)]
  simp only [Option.bind_some, ps_11]
  rw [if_neg (by decide), if_neg (nI_in (show t < 64 by omega) (by omega)), nI_clamp (by omega)]
set_option maxHeartbeats 4000000 in
set_option maxRecDepth 100000 in
theorem hs_18 {k L j : Nat} {xs : Nat → Int32} {ax : Nat → Nat} {x : XS} {m : MS} {o : Nat → Int64} (hk : 1000 ≤ k) (hL : j + 6 ≤ L) (hL2 : L ≤ 3072) (h : Inv x m o) : ∃ R, mC_18 k xs L (nI j) (x.1) (x.2.1) (x.2.2.1) (x.2.2.2.1) (x.2.2.2.2.1) (x.2.2.2.2.2.1) (x.2.2.2.2.2.2.1) (x.2.2.2.2.2.2.2.1) (x.2.2.2.2.2.2.2.2.1) (x.2.2.2.2.2.2.2.2.2.1) (x.2.2.2.2.2.2.2.2.2.2.1) (x.2.2.2.2.2.2.2.2.2.2.2.1) (x.2.2.2.2.2.2.2.2.2.2.2.2.1) (x.2.2.2.2.2.2.2.2.2.2.2.2.2.1) (x.2.2.2.2.2.2.2.2.2.2.2.2.2.2.1) (x.2.2.2.2.2.2.2.2.2.2.2.2.2.2.2.1) (x.2.2.2.2.2.2.2.2.2.2.2.2.2.2.2.2.1) (x.2.2.2.2.2.2.2.2.2.2.2.2.2.2.2.2.2.1) (x.2.2.2.2.2.2.2.2.2.2.2.2.2.2.2.2.2.2.1) (x.2.2.2.2.2.2.2.2.2.2.2.2.2.2.2.2.2.2.2.1) (x.2.2.2.2.2.2.2.2.2.2.2.2.2.2.2.2.2.2.2.2.1) (x.2.2.2.2.2.2.2.2.2.2.2.2.2.2.2.2.2.2.2.2.2.1) (x.2.2.2.2.2.2.2.2.2.2.2.2.2.2.2.2.2.2.2.2.2.2.1) (x.2.2.2.2.2.2.2.2.2.2.2.2.2.2.2.2.2.2.2.2.2.2.2.1) (x.2.2.2.2.2.2.2.2.2.2.2.2.2.2.2.2.2.2.2.2.2.2.2.2.1) (x.2.2.2.2.2.2.2.2.2.2.2.2.2.2.2.2.2.2.2.2.2.2.2.2.2.1) (x.2.2.2.2.2.2.2.2.2.2.2.2.2.2.2.2.2.2.2.2.2.2.2.2.2.2.1) (x.2.2.2.2.2.2.2.2.2.2.2.2.2.2.2.2.2.2.2.2.2.2.2.2.2.2.2.1) (x.2.2.2.2.2.2.2.2.2.2.2.2.2.2.2.2.2.2.2.2.2.2.2.2.2.2.2.2.1) (x.2.2.2.2.2.2.2.2.2.2.2.2.2.2.2.2.2.2.2.2.2.2.2.2.2.2.2.2.2.1) (x.2.2.2.2.2.2.2.2.2.2.2.2.2.2.2.2.2.2.2.2.2.2.2.2.2.2.2.2.2.2.1) (x.2.2.2.2.2.2.2.2.2.2.2.2.2.2.2.2.2.2.2.2.2.2.2.2.2.2.2.2.2.2.2.1) (x.2.2.2.2.2.2.2.2.2.2.2.2.2.2.2.2.2.2.2.2.2.2.2.2.2.2.2.2.2.2.2.2) (m.2.1) (m.2.2.1) (m.2.2.2.1) (m.2.2.2.2.1) (m.2.2.2.2.2.1) (m.2.2.2.2.2.2.1) (m.2.2.2.2.2.2.2.1) (m.2.2.2.2.2.2.2.2.1) (m.2.2.2.2.2.2.2.2.2.1) (m.2.2.2.2.2.2.2.2.2.2.1) (m.2.2.2.2.2.2.2.2.2.2.2.1) (m.2.2.2.2.2.2.2.2.2.2.2.2.1) (m.2.2.2.2.2.2.2.2.2.2.2.2.2.1) (m.2.2.2.2.2.2.2.2.2.2.2.2.2.2.1) (m.2.2.2.2.2.2.2.2.2.2.2.2.2.2.2.1) (m.2.2.2.2.2.2.2.2.2.2.2.2.2.2.2.2.1) (m.2.2.2.2.2.2.2.2.2.2.2.2.2.2.2.2.2.1) (m.2.2.2.2.2.2.2.2.2.2.2.2.2.2.2.2.2.2.1) (m.2.2.2.2.2.2.2.2.2.2.2.2.2.2.2.2.2.2.2.1) (m.2.2.2.2.2.2.2.2.2.2.2.2.2.2.2.2.2.2.2.2.1) (m.2.2.2.2.2.2.2.2.2.2.2.2.2.2.2.2.2.2.2.2.2.1) (m.2.2.2.2.2.2.2.2.2.2.2.2.2.2.2.2.2.2.2.2.2.2.1) (m.2.2.2.2.2.2.2.2.2.2.2.2.2.2.2.2.2.2.2.2.2.2.2.1) (m.2.2.2.2.2.2.2.2.2.2.2.2.2.2.2.2.2.2.2.2.2.2.2.2.1) (m.2.2.2.2.2.2.2.2.2.2.2.2.2.2.2.2.2.2.2.2.2.2.2.2.2.1) (m.2.2.2.2.2.2.2.2.2.2.2.2.2.2.2.2.2.2.2.2.2.2.2.2.2.2.1) (m.2.2.2.2.2.2.2.2.2.2.2.2.2.2.2.2.2.2.2.2.2.2.2.2.2.2.2.1) (m.2.2.2.2.2.2.2.2.2.2.2.2.2.2.2.2.2.2.2.2.2.2.2.2.2.2.2.2.1) (m.2.2.2.2.2.2.2.2.2.2.2.2.2.2.2.2.2.2.2.2.2.2.2.2.2.2.2.2.2.1) (m.2.2.2.2.2.2.2.2.2.2.2.2.2.2.2.2.2.2.2.2.2.2.2.2.2.2.2.2.2.2.1) (m.2.2.2.2.2.2.2.2.2.2.2.2.2.2.2.2.2.2.2.2.2.2.2.2.2.2.2.2.2.2.2.1) (m.2.2.2.2.2.2.2.2.2.2.2.2.2.2.2.2.2.2.2.2.2.2.2.2.2.2.2.2.2.2.2.2.1) (m.2.2.2.2.2.2.2.2.2.2.2.2.2.2.2.2.2.2.2.2.2.2.2.2.2.2.2.2.2.2.2.2.2.1) (m.2.2.2.2.2.2.2.2.2.2.2.2.2.2.2.2.2.2.2.2.2.2.2.2.2.2.2.2.2.2.2.2.2.2.1) (m.2.2.2.2.2.2.2.2.2.2.2.2.2.2.2.2.2.2.2.2.2.2.2.2.2.2.2.2.2.2.2.2.2.2.2) o = some R ∧ Inv R.1 R.2.1 R.2.2 := by
  obtain ⟨b, c, tn, tx, pn, pg, hC, hw, hmw, hB, hp, ht⟩ := h
  rw [hw, hmw, mC_18]
  simp only [gd1 hL hL2, gd2 hL hL2, gd3 hL hL2, gd4 hL hL2, gd5 hL hL2, if_false]
  generalize xs (nI j + 1).toNatClampNeg = p
  generalize xs (nI j + 2).toNatClampNeg = r
  generalize xs (nI j + 3).toNatClampNeg = s
  obtain ⟨q4, e4⟩ := flg (xs (nI j + 4).toNatClampNeg)
  rw [e4]
  simp only [Option.bind_some]
  rcases cell_or p with hb | ⟨i, hi, e⟩
  · rw [cl_digitAt_bad hb]
    simp only [Option.bind_some]
    rw [rf_digitAt_bad hb]
    simp only [Option.bind_some, mX13_thrown, if_true, e10, e20, if_false]
    exact ⟨_, rfl, ⟨b, c, tn, tx, pn, pg, hC, rfl, rfl, hB, hp, ht⟩⟩
  · subst e
    obtain ⟨R1, R2, -⟩ := rdx_spec r
    obtain ⟨n, hn⟩ := nd_get (A := szA b q4 (c i)) R1 (szA_lt64 b q4 (c i))
    have hn1 := hn.1
    have hn2 := hn.2.1
    have hg : (szN b q4 (c i)).toNat ≤ 1 := by cases szN b q4 (c i) <;> decide
    obtain ⟨f2, e1, a1⟩ := pr_sheet (k := k) (f := (x.2.2.2.2.2.2.2.2.1)) hC hi (by omega) hn
    obtain ⟨ds2, one2, e2, a2⟩ := pr_digits (k := k) (ds := (m.2.2.2.2.2.1)) (one := (m.2.2.2.2.2.2.2.2.2.1)) hB hi (by omega) hn
    rcases ix_or s (n := n) (by omega) with hs | ⟨t, ht2, es⟩
    · rw [cl_digitAt_no hi hn2 hg e1 hs]
      simp only [Option.bind_some]
      rw [rf_digitAt_no hi hn2 e2 hs]
      simp only [Option.bind_some, mX13_thrown, if_true, e10, e20, if_false]
      exact ⟨_, rfl, ⟨b, c, tn, tx, pn, pg, hC, rfl, rfl, hB, hp, ht⟩⟩
    · subst es
      rw [cl_digitAt_ok hi hn2 hg R1 R2 e1 a1 ht2]
      simp only [Option.bind_some]
      have a2t : ds2 t = nI (dgt (rdx r) (szA b q4 (c i)) t) := a2 t ht2
      rw [rf_digitAt_ok hi hn2 e2 ht2, a2t]
      simp only [Option.bind_some, mX13_thrown, if_true, c00, z00, if_false, up_0]
      rw [if_pos ((lg_cmp_eq _ _).mpr rfl)]
      exact ⟨_, rfl, ⟨b, c, tn, tx, pn, pg, hC, rfl, rfl, hB, hp, ht⟩⟩
theorem cl_digitSum_bad {k : Nat} {xc : Nat → Int64} {f : Nat → Int32} {l w : Int32} {o : Nat → Int64} {p r q : Int32} (h : cellBad p) : mL_digitSum k 65 xc w f l o p r q = some (1, f, l, o) := by
  rw [mL_digitSum, mL_digitSum_N, mX11_digitSum, ck_bad h, mL_digitSum_T1_10, mX11_digitSum_T1_10, ckT_bad h]
  rfl
theorem rf_digitSum_bad {k : Nat} {w : Int32} {B : Nat → Nat → Int32} {f2 f3 : Nat → Int32} {l2 l3 : Int32} {p r q : Int32} (h : cellBad p) : mX13_digitSum k w B f2 l2 l3 f3 p r q = some (0, 1, f2, l2, l3, f3) := by
  rw [mX13_digitSum, ic_bad h]
  rfl
theorem pr_cs16 {n g R A : Nat} {f2 : Nat → Int32} (hn : n ≤ 64) (hg : g ≤ 1) (hR : 2 ≤ R) (hR2 : R ≤ 36) (a1 : ∀ q, q < n → f2 (n + g - 1 - q) = nI (dB (dgt R A q))) : ∀ (t k s : Nat), t ≤ n → t < k → s + smN (dgt R A) t = smN (dgt R A) n → mX11_digitSum_L16 (nI g, f2, nI (n + g)) 65 k (nI s) (nI (n + g - t)) = some (nI (smN (dgt R A) n))
  | _, 0, _, _, hk, _ => absurd hk (Nat.not_lt_zero _)
  | 0, k + 1, s, _, _, hs => by
    have h2 : s + 0 = smN (dgt R A) n := hs
    rw [mX11_digitSum_L16, mX6_size]
    simp only [Option.bind_some]
    rw [if_pos (nI_le (by omega) (by omega)), ← h2, Nat.add_zero]
  | t + 1, k + 1, s, ht, hk, hs => by
    have hs2 : s + (smN (dgt R A) t + dgt R A t) = smN (dgt R A) n := hs
    rw [mX11_digitSum_L16, mX6_size]
    simp only [Option.bind_some]
    rw [if_neg (nI_ge (by omega) (by omega)), pr_byteAt (by omega) (by omega) (by omega), show n + g - (t + 1) = n + g - 1 - t by omega, a1 t (by omega)]
    simp only [Option.bind_some]
    rw [pr_dgVal (dgt_lt hR hR2)]
    simp only [Option.bind_some]
    rw [nI_add, nI_1, show n + g - 1 - t + 1 = n + g - t by omega]
    exact pr_cs16 hn hg hR hR2 a1 t k (s + dgt R A t) (by omega) (by omega) (by omega)
theorem pr_rs30 {n R A : Nat} {r4 : (Nat → Int32) × Int32 × Int32 × (Nat → Int32)} (hn : n ≤ 64) (hr : r4.2.1 = nI n) (a2 : ∀ q, q < n → r4.1 q = nI (A / R ^ q % R)) : ∀ (d i k : Nat), i + d = n → d < k → mX13_digitSum_L30 r4 k (nI (smN (dgt R A) i)) (nI i) = some (nI (smN (dgt R A) n))
  | _, _, 0, _, hk => absurd hk (Nat.not_lt_zero _)
  | 0, i, k + 1, h, _ => by rw [mX13_digitSum_L30, hr, if_pos (nI_le (by omega) (by omega)), show i = n by omega]
  | d + 1, i, k + 1, h, hk => by
    rw [mX13_digitSum_L30, hr, if_neg (nI_ge (by omega) (by omega)), if_neg (nI_in (show i < 64 by omega) (by omega)), nI_clamp (by omega), a2 i (by omega)]
    simp only [Option.bind_some]
    rw [nI_add, nI_1]
    exact pr_rs30 hn hr a2 d (i + 1) k (by omega) (by omega)
set_option maxHeartbeats 4000000 in
set_option maxRecDepth 100000 in
theorem hs_19 {k L j : Nat} {xs : Nat → Int32} {ax : Nat → Nat} {x : XS} {m : MS} {o : Nat → Int64} (hk : 1000 ≤ k) (hL : j + 6 ≤ L) (hL2 : L ≤ 3072) (h : Inv x m o) : ∃ R, mC_19 k xs L (nI j) (x.1) (x.2.1) (x.2.2.1) (x.2.2.2.1) (x.2.2.2.2.1) (x.2.2.2.2.2.1) (x.2.2.2.2.2.2.1) (x.2.2.2.2.2.2.2.1) (x.2.2.2.2.2.2.2.2.1) (x.2.2.2.2.2.2.2.2.2.1) (x.2.2.2.2.2.2.2.2.2.2.1) (x.2.2.2.2.2.2.2.2.2.2.2.1) (x.2.2.2.2.2.2.2.2.2.2.2.2.1) (x.2.2.2.2.2.2.2.2.2.2.2.2.2.1) (x.2.2.2.2.2.2.2.2.2.2.2.2.2.2.1) (x.2.2.2.2.2.2.2.2.2.2.2.2.2.2.2.1) (x.2.2.2.2.2.2.2.2.2.2.2.2.2.2.2.2.1) (x.2.2.2.2.2.2.2.2.2.2.2.2.2.2.2.2.2.1) (x.2.2.2.2.2.2.2.2.2.2.2.2.2.2.2.2.2.2.1) (x.2.2.2.2.2.2.2.2.2.2.2.2.2.2.2.2.2.2.2.1) (x.2.2.2.2.2.2.2.2.2.2.2.2.2.2.2.2.2.2.2.2.1) (x.2.2.2.2.2.2.2.2.2.2.2.2.2.2.2.2.2.2.2.2.2.1) (x.2.2.2.2.2.2.2.2.2.2.2.2.2.2.2.2.2.2.2.2.2.2.1) (x.2.2.2.2.2.2.2.2.2.2.2.2.2.2.2.2.2.2.2.2.2.2.2.1) (x.2.2.2.2.2.2.2.2.2.2.2.2.2.2.2.2.2.2.2.2.2.2.2.2.1) (x.2.2.2.2.2.2.2.2.2.2.2.2.2.2.2.2.2.2.2.2.2.2.2.2.2.1) (x.2.2.2.2.2.2.2.2.2.2.2.2.2.2.2.2.2.2.2.2.2.2.2.2.2.2.1) (x.2.2.2.2.2.2.2.2.2.2.2.2.2.2.2.2.2.2.2.2.2.2.2.2.2.2.2.1) (x.2.2.2.2.2.2.2.2.2.2.2.2.2.2.2.2.2.2.2.2.2.2.2.2.2.2.2.2.1) (x.2.2.2.2.2.2.2.2.2.2.2.2.2.2.2.2.2.2.2.2.2.2.2.2.2.2.2.2.2.1) (x.2.2.2.2.2.2.2.2.2.2.2.2.2.2.2.2.2.2.2.2.2.2.2.2.2.2.2.2.2.2.1) (x.2.2.2.2.2.2.2.2.2.2.2.2.2.2.2.2.2.2.2.2.2.2.2.2.2.2.2.2.2.2.2.1) (x.2.2.2.2.2.2.2.2.2.2.2.2.2.2.2.2.2.2.2.2.2.2.2.2.2.2.2.2.2.2.2.2) (m.2.1) (m.2.2.1) (m.2.2.2.1) (m.2.2.2.2.1) (m.2.2.2.2.2.1) (m.2.2.2.2.2.2.1) (m.2.2.2.2.2.2.2.1) (m.2.2.2.2.2.2.2.2.1) (m.2.2.2.2.2.2.2.2.2.1) (m.2.2.2.2.2.2.2.2.2.2.1) (m.2.2.2.2.2.2.2.2.2.2.2.1) (m.2.2.2.2.2.2.2.2.2.2.2.2.1) (m.2.2.2.2.2.2.2.2.2.2.2.2.2.1) (m.2.2.2.2.2.2.2.2.2.2.2.2.2.2.1) (m.2.2.2.2.2.2.2.2.2.2.2.2.2.2.2.1) (m.2.2.2.2.2.2.2.2.2.2.2.2.2.2.2.2.1) (m.2.2.2.2.2.2.2.2.2.2.2.2.2.2.2.2.2.1) (m.2.2.2.2.2.2.2.2.2.2.2.2.2.2.2.2.2.2.1) (m.2.2.2.2.2.2.2.2.2.2.2.2.2.2.2.2.2.2.2.1) (m.2.2.2.2.2.2.2.2.2.2.2.2.2.2.2.2.2.2.2.2.1) (m.2.2.2.2.2.2.2.2.2.2.2.2.2.2.2.2.2.2.2.2.2.1) (m.2.2.2.2.2.2.2.2.2.2.2.2.2.2.2.2.2.2.2.2.2.2.1) (m.2.2.2.2.2.2.2.2.2.2.2.2.2.2.2.2.2.2.2.2.2.2.2.1) (m.2.2.2.2.2.2.2.2.2.2.2.2.2.2.2.2.2.2.2.2.2.2.2.2.1) (m.2.2.2.2.2.2.2.2.2.2.2.2.2.2.2.2.2.2.2.2.2.2.2.2.2.1) (m.2.2.2.2.2.2.2.2.2.2.2.2.2.2.2.2.2.2.2.2.2.2.2.2.2.2.1) (m.2.2.2.2.2.2.2.2.2.2.2.2.2.2.2.2.2.2.2.2.2.2.2.2.2.2.2.1) (m.2.2.2.2.2.2.2.2.2.2.2.2.2.2.2.2.2.2.2.2.2.2.2.2.2.2.2.2.1) (m.2.2.2.2.2.2.2.2.2.2.2.2.2.2.2.2.2.2.2.2.2.2.2.2.2.2.2.2.2.1) (m.2.2.2.2.2.2.2.2.2.2.2.2.2.2.2.2.2.2.2.2.2.2.2.2.2.2.2.2.2.2.1) (m.2.2.2.2.2.2.2.2.2.2.2.2.2.2.2.2.2.2.2.2.2.2.2.2.2.2.2.2.2.2.2.1) (m.2.2.2.2.2.2.2.2.2.2.2.2.2.2.2.2.2.2.2.2.2.2.2.2.2.2.2.2.2.2.2.2.1) (m.2.2.2.2.2.2.2.2.2.2.2.2.2.2.2.2.2.2.2.2.2.2.2.2.2.2.2.2.2.2.2.2.2.1) (m.2.2.2.2.2.2.2.2.2.2.2.2.2.2.2.2.2.2.2.2.2.2.2.2.2.2.2.2.2.2.2.2.2.2.1) (m.2.2.2.2.2.2.2.2.2.2.2.2.2.2.2.2.2.2.2.2.2.2.2.2.2.2.2.2.2.2.2.2.2.2.2) o = some R ∧ Inv R.1 R.2.1 R.2.2 := by
  obtain ⟨b, c, tn, tx, pn, pg, hC, hw, hmw, hB, hp, ht⟩ := h
  rw [hw, hmw, mC_19]
  simp only [gd1 hL hL2, gd2 hL hL2, gd3 hL hL2, gd4 hL hL2, gd5 hL hL2, if_false]
  generalize xs (nI j + 1).toNatClampNeg = p
  generalize xs (nI j + 2).toNatClampNeg = r
  obtain ⟨q4, e4⟩ := flg (xs (nI j + 3).toNatClampNeg)
  rw [e4]
  simp only [Option.bind_some]
  rcases cell_or p with hb | ⟨i, hi, e⟩
  · rw [cl_digitSum_bad hb]
    simp only [Option.bind_some]
    rw [rf_digitSum_bad hb]
    simp only [Option.bind_some, mX13_thrown, if_true, e10, e20, if_false]
    exact ⟨_, rfl, ⟨b, c, tn, tx, pn, pg, hC, rfl, rfl, hB, hp, ht⟩⟩
  · subst e
    obtain ⟨R1, R2, -⟩ := rdx_spec r
    obtain ⟨n, hn⟩ := nd_get (A := szA b q4 (c i)) R1 (szA_lt64 b q4 (c i))
    have hn1 := hn.1
    have hn2 := hn.2.1
    have hg : (szN b q4 (c i)).toNat ≤ 1 := by cases szN b q4 (c i) <;> decide
    obtain ⟨f2, e1, a1⟩ := pr_sheet (k := k) (f := (x.2.2.2.2.2.2.2.2.1)) hC hi (by omega) hn
    obtain ⟨ds2, one2, e2, a2⟩ := pr_digits (k := k) (ds := (m.2.2.2.2.2.1)) (one := (m.2.2.2.2.2.2.2.2.2.1)) hB hi (by omega) hn
    have hcs := pr_cs16 hn2 hg R1 R2 a1 n k 0 (Nat.le_refl _) (by omega) (Nat.zero_add _)
    rw [show n + (szN b q4 (c i)).toNat - n = (szN b q4 (c i)).toNat by omega] at hcs
    have hcs' : mX11_digitSum_L16 (nI (szN b q4 (c i)).toNat, f2, nI (n + (szN b q4 (c i)).toNat)) 65 k 0 (nI (szN b q4 (c i)).toNat) = _ := hcs
    have hrs : mX13_digitSum_L30 (ds2, nI n, bI (szN b q4 (c i)), one2) k 0 0 = some (nI (smN (dgt (rdx r) (szA b q4 (c i))) n)) := pr_rs30 hn2 rfl a2 n 0 k (by omega) (by omega)
    have eL : mL_digitSum k 65 (x.1) (bI b) (x.2.2.2.2.2.2.2.2.1) (x.2.2.2.2.2.2.2.2.2.1) o (nI i) r (bI q4) = some (0, f2, nI (n + (szN b q4 (c i)).toNat), vp_updL o 0 ((nI (smN (dgt (rdx r) (szA b q4 (c i))) n)).toInt64)) := by
      rw [mL_digitSum, mL_digitSum_N, mX11_digitSum, ck_ok hi]
      simp only [Option.bind_some]
      rw [e1]
      simp only [Option.bind_some]
      rw [hcs']
      simp only [Option.bind_some, c00, z00, if_false]
    have eM : mX13_digitSum k (bI b) (m.2.2.1) (m.2.2.2.2.2.1) (m.2.2.2.2.2.2.1) (m.2.2.2.2.2.2.2.1) (m.2.2.2.2.2.2.2.2.2.1) (nI i) r (bI q4) = some (nI (smN (dgt (rdx r) (szA b q4 (c i))) n), 0, ds2, nI n, bI (szN b q4 (c i)), one2) := by
      rw [mX13_digitSum, ic_ok hi]
      simp only [Option.bind_some, ps_11]
      rw [if_neg (by decide), e2]
      simp only [Option.bind_some]
      rw [hrs]
      rfl
    rw [eL]
    simp only [Option.bind_some]
    rw [eM]
    simp only [Option.bind_some, mX13_thrown, if_true, c00, z00, if_false, up_0]
    rw [if_pos ((lg_cmp_eq _ _).mpr rfl)]
    exact ⟨_, rfl, ⟨b, c, tn, tx, pn, pg, hC, rfl, rfl, hB, hp, ht⟩⟩
theorem cl_isMirror_bad {k : Nat} {xc : Nat → Int64} {f : Nat → Int32} {l w : Int32} {o : Nat → Int64} {p r q : Int32} (h : cellBad p) : mL_isMirror k 65 xc w f l o p r q = some (1, f, l, o) := by
  rw [mL_isMirror, mL_isMirror_N, mX11_isMirror, ck_bad h, mL_isMirror_T1_10, mX11_isMirror_T1_10, ckT_bad h]
  rfl
theorem rf_isMirror_bad {k : Nat} {w : Int32} {B : Nat → Nat → Int32} {f2 f3 : Nat → Int32} {l2 l3 : Int32} {p r q : Int32} (h : cellBad p) : mX13_isMirror k w B f2 l2 l3 f3 p r q = some (0, 1, f2, l2, l3, f3) := by
  rw [mX13_isMirror, ic_bad h]
  rfl
/-- the first n digits read alike from both ends -/
def pal (D : Nat → Nat) (n : Nat) : Bool := decide (∀ q, q < n → D q = D (n - 1 - q))
theorem pr_cm24 {n g R A : Nat} {f2 : Nat → Int32} (hn1 : 1 ≤ n) (hn : n ≤ 64) (hg : g ≤ 1) (hR : 2 ≤ R) (hR2 : R ≤ 36) (a1 : ∀ q, q < n → f2 (n + g - 1 - q) = nI (dB (dgt R A q))) : ∀ (k i : Nat), n < k + 2 * i → 2 * i ≤ n → (∀ q, q < i → dgt R A q = dgt R A (n - 1 - q)) → mX11_isMirror_L24 (nI g, f2, nI (n + g)) 65 k (nI (g + i)) (nI (n + g - 1 - i)) = some (bI (pal (dgt R A) n), f2, nI (n + g))
  | 0, i, h, h2, _ => by omega
  | k + 1, i, h, h2, q1 => by
    by_cases hc : n + g - 1 - i ≤ g + i
    · have hp : pal (dgt R A) n = true := decide_eq_true (fun q hq => by
        by_cases ha : q < i
        · exact q1 q ha
        · by_cases hb : n - 1 - q < i
          · have h9 := q1 (n - 1 - q) hb
            rw [show n - 1 - (n - 1 - q) = q by omega] at h9
            exact h9.symm
          · rw [show n - 1 - q = q by omega])
      rw [mX11_isMirror_L24, if_pos (nI_le hc (by omega)), hp]
      rfl
    · have ha := a1 i (by omega)
      have hb := a1 (n - 1 - i) (by omega)
      rw [show n + g - 1 - (n - 1 - i) = g + i by omega] at hb
      have hbd : dB (dgt R A (n - 1 - i)) < 123 := dB_lt (dgt_lt hR hR2)
      have had : dB (dgt R A i) < 123 := dB_lt (dgt_lt hR hR2)
      rw [mX11_isMirror_L24, if_neg (nI_ge (by omega) (by omega)), pr_byteAt (by omega) (by omega) (by omega), pr_byteAt (by omega) (by omega) (by omega)]
      simp only [Option.bind_some]
      rw [ha, hb]
      by_cases hd : dgt R A i = dgt R A (n - 1 - i)
      · have em : nI (n + g - 1 - i) + (-1) = nI (n + g - 1 - (i + 1)) := by
          have h9 := pk_m1 (n + g - 1 - (i + 1))
          rw [show n + g - 1 - (i + 1) + 1 = n + g - 1 - i by omega] at h9
          exact h9
        rw [if_pos (by rw [hd]), nI_1, em]
        exact pr_cm24 hn1 hn hg hR hR2 a1 k (i + 1) (by omega) (by omega) (fun q hq => by
          by_cases hqi : q = i
          · rw [hqi]; exact hd
          · exact q1 q (by omega))
      · have hp : pal (dgt R A) n = false := decide_eq_false (fun z => hd (z i (by omega)))
        rw [if_neg (fun z => hd (dB_inj (dgt_lt hR hR2) (dgt_lt hR hR2) ((nI_eq (by omega) (by omega)).mp z).symm)), hp]
        rfl
theorem pr_rm27 {n R A : Nat} {r4 : (Nat → Int32) × Int32 × Int32 × (Nat → Int32)} {r2 : Int32 × Int32} (hn : n ≤ 64) (hR : 2 ≤ R) (hR2 : R ≤ 36) (hr : r4.2.1 = nI n) (a2 : ∀ q, q < n → r4.1 q = nI (A / R ^ q % R)) : ∀ (d i k : Nat), i + d = n → d < k → (∀ q, q < i → dgt R A q = dgt R A (n - 1 - q)) → mX13_isMirror_L27 r4 r2 k (nI i) = some (bI (pal (dgt R A) n), r2.2, r4.1, nI n, r4.2.2.1, r4.2.2.2)
  | _, _, 0, _, hk, _ => absurd hk (Nat.not_lt_zero _)
  | 0, i, k + 1, h, _, q1 => by
    have hp : pal (dgt R A) n = true := decide_eq_true (fun q hq => q1 q (by omega))
    rw [mX13_isMirror_L27, hr, if_pos (nI_le (by omega) (by omega)), hp]
    rfl
  | d + 1, i, k + 1, h, hk, q1 => by
    have hm : nI n - 1 - nI i = nI (n - 1 - i) := by
      have h9 : nI n - 1 = nI (n - 1) := pk_sub (b := 1) (by omega)
      rw [h9, pk_sub (by omega)]
    have h1 : dgt R A i < 36 := dgt_lt hR hR2
    have h2 : dgt R A (n - 1 - i) < 36 := dgt_lt hR hR2
    rw [mX13_isMirror_L27, hr, if_neg (nI_ge (by omega) (by omega)), if_neg (nI_in (show i < 64 by omega) (by omega)), hm, if_neg (nI_in (show n - 1 - i < 64 by omega) (by omega)), nI_clamp (show i < 2 ^ 31 by omega), nI_clamp (show n - 1 - i < 2 ^ 31 by omega), a2 i (by omega), a2 (n - 1 - i) (by omega)]
    by_cases hd : dgt R A i = dgt R A (n - 1 - i)
    · rw [if_pos (show nI (A / R ^ i % R) = nI (A / R ^ (n - 1 - i) % R) from congrArg nI hd), nI_1]
      exact pr_rm27 hn hR hR2 hr a2 d (i + 1) k (by omega) (by omega) (fun q hq => by
        by_cases hqi : q = i
        · rw [hqi]; exact hd
        · exact q1 q (by omega))
    · have hp : pal (dgt R A) n = false := decide_eq_false (fun z => hd (z i (by omega)))
      rw [if_neg (fun z : nI (A / R ^ i % R) = nI (A / R ^ (n - 1 - i) % R) => hd ((nI_eq (a := dgt R A i) (b := dgt R A (n - 1 - i)) (by omega) (by omega)).mp z)), hp]
      rfl
set_option maxHeartbeats 4000000 in
set_option maxRecDepth 100000 in
theorem hs_20 {k L j : Nat} {xs : Nat → Int32} {ax : Nat → Nat} {x : XS} {m : MS} {o : Nat → Int64} (hk : 1000 ≤ k) (hL : j + 6 ≤ L) (hL2 : L ≤ 3072) (h : Inv x m o) : ∃ R, mC_20 k xs L (nI j) (x.1) (x.2.1) (x.2.2.1) (x.2.2.2.1) (x.2.2.2.2.1) (x.2.2.2.2.2.1) (x.2.2.2.2.2.2.1) (x.2.2.2.2.2.2.2.1) (x.2.2.2.2.2.2.2.2.1) (x.2.2.2.2.2.2.2.2.2.1) (x.2.2.2.2.2.2.2.2.2.2.1) (x.2.2.2.2.2.2.2.2.2.2.2.1) (x.2.2.2.2.2.2.2.2.2.2.2.2.1) (x.2.2.2.2.2.2.2.2.2.2.2.2.2.1) (x.2.2.2.2.2.2.2.2.2.2.2.2.2.2.1) (x.2.2.2.2.2.2.2.2.2.2.2.2.2.2.2.1) (x.2.2.2.2.2.2.2.2.2.2.2.2.2.2.2.2.1) (x.2.2.2.2.2.2.2.2.2.2.2.2.2.2.2.2.2.1) (x.2.2.2.2.2.2.2.2.2.2.2.2.2.2.2.2.2.2.1) (x.2.2.2.2.2.2.2.2.2.2.2.2.2.2.2.2.2.2.2.1) (x.2.2.2.2.2.2.2.2.2.2.2.2.2.2.2.2.2.2.2.2.1) (x.2.2.2.2.2.2.2.2.2.2.2.2.2.2.2.2.2.2.2.2.2.1) (x.2.2.2.2.2.2.2.2.2.2.2.2.2.2.2.2.2.2.2.2.2.2.1) (x.2.2.2.2.2.2.2.2.2.2.2.2.2.2.2.2.2.2.2.2.2.2.2.1) (x.2.2.2.2.2.2.2.2.2.2.2.2.2.2.2.2.2.2.2.2.2.2.2.2.1) (x.2.2.2.2.2.2.2.2.2.2.2.2.2.2.2.2.2.2.2.2.2.2.2.2.2.1) (x.2.2.2.2.2.2.2.2.2.2.2.2.2.2.2.2.2.2.2.2.2.2.2.2.2.2.1) (x.2.2.2.2.2.2.2.2.2.2.2.2.2.2.2.2.2.2.2.2.2.2.2.2.2.2.2.1) (x.2.2.2.2.2.2.2.2.2.2.2.2.2.2.2.2.2.2.2.2.2.2.2.2.2.2.2.2.1) (x.2.2.2.2.2.2.2.2.2.2.2.2.2.2.2.2.2.2.2.2.2.2.2.2.2.2.2.2.2.1) (x.2.2.2.2.2.2.2.2.2.2.2.2.2.2.2.2.2.2.2.2.2.2.2.2.2.2.2.2.2.2.1) (x.2.2.2.2.2.2.2.2.2.2.2.2.2.2.2.2.2.2.2.2.2.2.2.2.2.2.2.2.2.2.2.1) (x.2.2.2.2.2.2.2.2.2.2.2.2.2.2.2.2.2.2.2.2.2.2.2.2.2.2.2.2.2.2.2.2) (m.2.1) (m.2.2.1) (m.2.2.2.1) (m.2.2.2.2.1) (m.2.2.2.2.2.1) (m.2.2.2.2.2.2.1) (m.2.2.2.2.2.2.2.1) (m.2.2.2.2.2.2.2.2.1) (m.2.2.2.2.2.2.2.2.2.1) (m.2.2.2.2.2.2.2.2.2.2.1) (m.2.2.2.2.2.2.2.2.2.2.2.1) (m.2.2.2.2.2.2.2.2.2.2.2.2.1) (m.2.2.2.2.2.2.2.2.2.2.2.2.2.1) (m.2.2.2.2.2.2.2.2.2.2.2.2.2.2.1) (m.2.2.2.2.2.2.2.2.2.2.2.2.2.2.2.1) (m.2.2.2.2.2.2.2.2.2.2.2.2.2.2.2.2.1) (m.2.2.2.2.2.2.2.2.2.2.2.2.2.2.2.2.2.1) (m.2.2.2.2.2.2.2.2.2.2.2.2.2.2.2.2.2.2.1) (m.2.2.2.2.2.2.2.2.2.2.2.2.2.2.2.2.2.2.2.1) (m.2.2.2.2.2.2.2.2.2.2.2.2.2.2.2.2.2.2.2.2.1) (m.2.2.2.2.2.2.2.2.2.2.2.2.2.2.2.2.2.2.2.2.2.1) (m.2.2.2.2.2.2.2.2.2.2.2.2.2.2.2.2.2.2.2.2.2.2.1) (m.2.2.2.2.2.2.2.2.2.2.2.2.2.2.2.2.2.2.2.2.2.2.2.1) (m.2.2.2.2.2.2.2.2.2.2.2.2.2.2.2.2.2.2.2.2.2.2.2.2.1) (m.2.2.2.2.2.2.2.2.2.2.2.2.2.2.2.2.2.2.2.2.2.2.2.2.2.1) (m.2.2.2.2.2.2.2.2.2.2.2.2.2.2.2.2.2.2.2.2.2.2.2.2.2.2.1) (m.2.2.2.2.2.2.2.2.2.2.2.2.2.2.2.2.2.2.2.2.2.2.2.2.2.2.2.1) (m.2.2.2.2.2.2.2.2.2.2.2.2.2.2.2.2.2.2.2.2.2.2.2.2.2.2.2.2.1) (m.2.2.2.2.2.2.2.2.2.2.2.2.2.2.2.2.2.2.2.2.2.2.2.2.2.2.2.2.2.1) (m.2.2.2.2.2.2.2.2.2.2.2.2.2.2.2.2.2.2.2.2.2.2.2.2.2.2.2.2.2.2.1) (m.2.2.2.2.2.2.2.2.2.2.2.2.2.2.2.2.2.2.2.2.2.2.2.2.2.2.2.2.2.2.2.1) (m.2.2.2.2.2.2.2.2.2.2.2.2.2.2.2.2.2.2.2.2.2.2.2.2.2.2.2.2.2.2.2.2.1) (m.2.2.2.2.2.2.2.2.2.2.2.2.2.2.2.2.2.2.2.2.2.2.2.2.2.2.2.2.2.2.2.2.2.1) (m.2.2.2.2.2.2.2.2.2.2.2.2.2.2.2.2.2.2.2.2.2.2.2.2.2.2.2.2.2.2.2.2.2.2.1) (m.2.2.2.2.2.2.2.2.2.2.2.2.2.2.2.2.2.2.2.2.2.2.2.2.2.2.2.2.2.2.2.2.2.2.2) o = some R ∧ Inv R.1 R.2.1 R.2.2 := by
  obtain ⟨b, c, tn, tx, pn, pg, hC, hw, hmw, hB, hp, ht⟩ := h
  rw [hw, hmw, mC_20]
  simp only [gd1 hL hL2, gd2 hL hL2, gd3 hL hL2, gd4 hL hL2, gd5 hL hL2, if_false]
  generalize xs (nI j + 1).toNatClampNeg = p
  generalize xs (nI j + 2).toNatClampNeg = r
  obtain ⟨q4, e4⟩ := flg (xs (nI j + 3).toNatClampNeg)
  rw [e4]
  simp only [Option.bind_some]
  rcases cell_or p with hb | ⟨i, hi, e⟩
  · rw [cl_isMirror_bad hb]
    simp only [Option.bind_some]
    rw [rf_isMirror_bad hb]
    simp only [Option.bind_some, mX13_thrown, if_true, e10, e20, if_false]
    exact ⟨_, rfl, ⟨b, c, tn, tx, pn, pg, hC, rfl, rfl, hB, hp, ht⟩⟩
  · subst e
    obtain ⟨R1, R2, -⟩ := rdx_spec r
    obtain ⟨n, hn⟩ := nd_get (A := szA b q4 (c i)) R1 (szA_lt64 b q4 (c i))
    have hn1 := hn.1
    have hn2 := hn.2.1
    have hg : (szN b q4 (c i)).toNat ≤ 1 := by cases szN b q4 (c i) <;> decide
    obtain ⟨f2, e1, a1⟩ := pr_sheet (k := k) (f := (x.2.2.2.2.2.2.2.2.1)) hC hi (by omega) hn
    obtain ⟨ds2, one2, e2, a2⟩ := pr_digits (k := k) (ds := (m.2.2.2.2.2.1)) (one := (m.2.2.2.2.2.2.2.2.2.1)) hB hi (by omega) hn
    have hcm := pr_cm24 hn1 hn2 hg R1 R2 a1 k 0 (by omega) (by omega) (fun q hq => absurd hq (Nat.not_lt_zero _))
    rw [Nat.add_zero, Nat.sub_zero] at hcm
    have em : nI (n + (szN b q4 (c i)).toNat) - 1 = nI (n + (szN b q4 (c i)).toNat - 1) := pk_sub (b := 1) (by omega)
    have hrm : mX13_isMirror_L27 (ds2, nI n, bI (szN b q4 (c i)), one2) (1, 0) k 0 = some (bI (pal (dgt (rdx r) (szA b q4 (c i))) n), 0, ds2, nI n, bI (szN b q4 (c i)), one2) := pr_rm27 hn2 R1 R2 rfl a2 n 0 k (by omega) (by omega) (fun q hq => absurd hq (Nat.not_lt_zero _))
    have eL : mL_isMirror k 65 (x.1) (bI b) (x.2.2.2.2.2.2.2.2.1) (x.2.2.2.2.2.2.2.2.2.1) o (nI i) r (bI q4) = some (0, f2, nI (n + (szN b q4 (c i)).toNat), vp_updL o 0 (lN (pal (dgt (rdx r) (szA b q4 (c i))) n).toNat)) := by
      rw [mL_isMirror, mL_isMirror_N, mX11_isMirror, ck_ok hi]
      simp only [Option.bind_some]
      rw [e1]
      simp only [Option.bind_some, mX6_size]
      rw [em, hcm]
      simp only [Option.bind_some]
      rw [bit_L]
      simp only [Option.bind_some, c00, z00, if_false]
    have eM : mX13_isMirror k (bI b) (m.2.2.1) (m.2.2.2.2.2.1) (m.2.2.2.2.2.2.1) (m.2.2.2.2.2.2.2.1) (m.2.2.2.2.2.2.2.2.2.1) (nI i) r (bI q4) = some (bI (pal (dgt (rdx r) (szA b q4 (c i))) n), 0, ds2, nI n, bI (szN b q4 (c i)), one2) := by
      rw [mX13_isMirror, ic_ok hi]
      simp only [Option.bind_some, ps_11]
      rw [if_neg (by decide), e2]
      simp only [Option.bind_some]
      exact hrm
    rw [eL]
    simp only [Option.bind_some]
    rw [eM]
    simp only [Option.bind_some, mX13_thrown, if_true, c00, z00, if_false, up_0]
    rw [bit_L]
    simp only [Option.bind_some]
    rw [if_pos ((lg_cmp_eq _ _).mpr rfl)]
    exact ⟨_, rfl, ⟨b, c, tn, tx, pn, pg, hC, rfl, rfl, hB, hp, ht⟩⟩
theorem pr_lg {b p : Bool} {K : Nat} {r : Int32} {xc : Nat → Int64} {B : Nat → Nat → Int32} {c : Nat → BitVec 64} (hC : isC xc c) (hB : isB B c) (hK : 130 < K) : ∀ (d i k best most : Nat) (s : Int32) (f : Nat → Int32) (l2 l3 : Int32) (f2 f3 : Nat → Int32), i + d = 8 → d < k → most ≤ 65 → ∃ z s2 g m2 m3 g2 g3, mX11_longest_L8 K 65 xc (bI b) r (bI p) k (nI best) (nI most) (nI i) s f = some (z, s2, g) ∧ mX13_longest_L13 K (bI b) B r (bI p) k (nI best) (nI most) (nI i) l2 l3 f2 f3 = some (z, m2, m3, g2, g3)
  | _, _, 0, _, _, _, _, _, _, _, _, _, hk, _ => absurd hk (Nat.not_lt_zero _)
  | 0, i, k + 1, best, most, s, f, l2, l3, f2, f3, h, _, _ => ⟨nI best, s, f, l2, l3, f2, f3, by rw [mX11_longest_L8, if_pos (show (8 : Int32) ≤ nI i from nI_le (a := 8) (by omega) (by omega))], by rw [mX13_longest_L13, if_pos (show (8 : Int32) ≤ nI i from nI_le (a := 8) (by omega) (by omega))]⟩
  | d + 1, i, k + 1, best, most, s, f, l2, l3, f2, f3, h, hk, hm => by
    obtain ⟨R1, R2, -⟩ := rdx_spec r
    obtain ⟨n, hn⟩ := nd_get (A := szA b p (c i)) R1 (szA_lt64 b p (c i))
    have hn2 := hn.2.1
    have hg : (szN b p (c i)).toNat ≤ 1 := by cases szN b p (c i) <;> decide
    obtain ⟨fs, e1, -⟩ := pr_sheet (k := K) (f := f) hC (show i < 8 by omega) hK hn
    obtain ⟨ds2, one2, e2, -⟩ := pr_digits (k := K) (ds := f2) (one := f3) hB (show i < 8 by omega) (by omega) hn
    have el : mX12_length (nI n) (bI (szN b p (c i))) = some (nI (n + (szN b p (c i)).toNat)) := by
      rw [mX12_length]
      cases szN b p (c i) with
      | false =>
        rw [if_pos bI_f]
        show some (nI n + nI 0) = _
        rw [nI_add]
        rfl
      | true =>
        rw [if_neg (by decide), nI_1]
        rfl
    have s1 : ∀ q1 q2, mX11_longest_L8 K 65 xc (bI b) r (bI p) (k + 1) q1 q2 (nI i) s f = (if nI (n + (szN b p (c i)).toNat) ≤ q2 then (mX11_longest_L8 K 65 xc (bI b) r (bI p) k q1 q2 (nI (i + 1)) (nI (n + (szN b p (c i)).toNat)) fs) else (mX11_longest_L8 K 65 xc (bI b) r (bI p) k (nI i) (nI (n + (szN b p (c i)).toNat)) (nI (i + 1)) (nI (n + (szN b p (c i)).toNat)) fs)) := fun q1 q2 => by
      rw [mX11_longest_L8, if_neg (show ¬ (8 : Int32) ≤ nI i from nI_ge (b := 8) (by omega) (by omega)), e1]
      simp only [Option.bind_some, mX6_size, nI_1]
    have s2 : ∀ q1 q2, mX13_longest_L13 K (bI b) B r (bI p) (k + 1) q1 q2 (nI i) l2 l3 f2 f3 = (if nI (n + (szN b p (c i)).toNat) ≤ q2 then (mX13_longest_L13 K (bI b) B r (bI p) k q1 q2 (nI (i + 1)) (nI n) (bI (szN b p (c i))) ds2 one2) else (mX13_longest_L13 K (bI b) B r (bI p) k (nI i) (nI (n + (szN b p (c i)).toNat)) (nI (i + 1)) (nI n) (bI (szN b p (c i))) ds2 one2)) := fun q1 q2 => by
      rw [mX13_longest_L13, if_neg (show ¬ (8 : Int32) ≤ nI i from nI_ge (b := 8) (by omega) (by omega)), e2]
      simp only [Option.bind_some]
      rw [el]
      simp only [Option.bind_some, nI_1]
    rw [s1, s2]
    by_cases hle : n + (szN b p (c i)).toNat ≤ most
    · rw [if_pos (nI_le hle (by omega)), if_pos (nI_le hle (by omega))]
      exact pr_lg hC hB hK d (i + 1) k best most _ _ _ _ _ _ (by omega) (by omega) hm
    · rw [if_neg (nI_ge (by omega) (by omega)), if_neg (nI_ge (by omega) (by omega))]
      exact pr_lg hC hB hK d (i + 1) k i _ _ _ _ _ _ _ (by omega) (by omega) (by omega)
theorem pr_lg0 {b p : Bool} {k K : Nat} {r : Int32} {B : Nat → Nat → Int32} {c : Nat → BitVec 64} {l2 l3 z0 : Int32} {f2 f3 : Nat → Int32} (hB : isB B c) (hK : 130 < K) : mX13_longest_L13 K (bI b) B r (bI p) (k + 1) z0 0 0 l2 l3 f2 f3 = mX13_longest_L13 K (bI b) B r (bI p) (k + 1) 0 0 0 l2 l3 f2 f3 := by
  obtain ⟨R1, R2, -⟩ := rdx_spec r
  obtain ⟨n, hn⟩ := nd_get (A := szA b p (c 0)) R1 (szA_lt64 b p (c 0))
  have hn1 := hn.1
  have hn2 := hn.2.1
  have hg : (szN b p (c 0)).toNat ≤ 1 := by cases szN b p (c 0) <;> decide
  obtain ⟨ds2, one2, e2, -⟩ := pr_digits (k := K) (ds := f2) (one := f3) hB (show 0 < 8 by omega) (by omega) hn
  have e2' : mX12_digits K (bI b) B f2 f3 0 r (bI p) = _ := e2
  have el : mX12_length (nI n) (bI (szN b p (c 0))) = some (nI (n + (szN b p (c 0)).toNat)) := by
    rw [mX12_length]
    cases szN b p (c 0) with
    | false =>
      rw [if_pos bI_f]
      show some (nI n + nI 0) = _
      rw [nI_add]
      rfl
    | true =>
      rw [if_neg (by decide), nI_1]
      rfl
  rw [mX13_longest_L13, mX13_longest_L13, e2']
  simp only [Option.bind_some]
  rw [el]
  simp only [Option.bind_some]
  rw [if_neg (show ¬ (8 : Int32) ≤ 0 by decide), if_neg (show ¬ (8 : Int32) ≤ 0 by decide), if_neg (nI_nle (by omega) (by omega)), if_neg (nI_nle (by omega) (by omega))]
set_option maxHeartbeats 4000000 in
set_option maxRecDepth 100000 in
theorem hs_21 {k L j : Nat} {xs : Nat → Int32} {ax : Nat → Nat} {x : XS} {m : MS} {o : Nat → Int64} (hk : 1000 ≤ k) (hL : j + 6 ≤ L) (hL2 : L ≤ 3072) (h : Inv x m o) : ∃ R, mC_21 k xs L (nI j) (x.1) (x.2.1) (x.2.2.1) (x.2.2.2.1) (x.2.2.2.2.1) (x.2.2.2.2.2.1) (x.2.2.2.2.2.2.1) (x.2.2.2.2.2.2.2.1) (x.2.2.2.2.2.2.2.2.1) (x.2.2.2.2.2.2.2.2.2.1) (x.2.2.2.2.2.2.2.2.2.2.1) (x.2.2.2.2.2.2.2.2.2.2.2.1) (x.2.2.2.2.2.2.2.2.2.2.2.2.1) (x.2.2.2.2.2.2.2.2.2.2.2.2.2.1) (x.2.2.2.2.2.2.2.2.2.2.2.2.2.2.1) (x.2.2.2.2.2.2.2.2.2.2.2.2.2.2.2.1) (x.2.2.2.2.2.2.2.2.2.2.2.2.2.2.2.2.1) (x.2.2.2.2.2.2.2.2.2.2.2.2.2.2.2.2.2.1) (x.2.2.2.2.2.2.2.2.2.2.2.2.2.2.2.2.2.2.1) (x.2.2.2.2.2.2.2.2.2.2.2.2.2.2.2.2.2.2.2.1) (x.2.2.2.2.2.2.2.2.2.2.2.2.2.2.2.2.2.2.2.2.1) (x.2.2.2.2.2.2.2.2.2.2.2.2.2.2.2.2.2.2.2.2.2.1) (x.2.2.2.2.2.2.2.2.2.2.2.2.2.2.2.2.2.2.2.2.2.2.1) (x.2.2.2.2.2.2.2.2.2.2.2.2.2.2.2.2.2.2.2.2.2.2.2.1) (x.2.2.2.2.2.2.2.2.2.2.2.2.2.2.2.2.2.2.2.2.2.2.2.2.1) (x.2.2.2.2.2.2.2.2.2.2.2.2.2.2.2.2.2.2.2.2.2.2.2.2.2.1) (x.2.2.2.2.2.2.2.2.2.2.2.2.2.2.2.2.2.2.2.2.2.2.2.2.2.2.1) (x.2.2.2.2.2.2.2.2.2.2.2.2.2.2.2.2.2.2.2.2.2.2.2.2.2.2.2.1) (x.2.2.2.2.2.2.2.2.2.2.2.2.2.2.2.2.2.2.2.2.2.2.2.2.2.2.2.2.1) (x.2.2.2.2.2.2.2.2.2.2.2.2.2.2.2.2.2.2.2.2.2.2.2.2.2.2.2.2.2.1) (x.2.2.2.2.2.2.2.2.2.2.2.2.2.2.2.2.2.2.2.2.2.2.2.2.2.2.2.2.2.2.1) (x.2.2.2.2.2.2.2.2.2.2.2.2.2.2.2.2.2.2.2.2.2.2.2.2.2.2.2.2.2.2.2.1) (x.2.2.2.2.2.2.2.2.2.2.2.2.2.2.2.2.2.2.2.2.2.2.2.2.2.2.2.2.2.2.2.2) (m.2.1) (m.2.2.1) (m.2.2.2.1) (m.2.2.2.2.1) (m.2.2.2.2.2.1) (m.2.2.2.2.2.2.1) (m.2.2.2.2.2.2.2.1) (m.2.2.2.2.2.2.2.2.1) (m.2.2.2.2.2.2.2.2.2.1) (m.2.2.2.2.2.2.2.2.2.2.1) (m.2.2.2.2.2.2.2.2.2.2.2.1) (m.2.2.2.2.2.2.2.2.2.2.2.2.1) (m.2.2.2.2.2.2.2.2.2.2.2.2.2.1) (m.2.2.2.2.2.2.2.2.2.2.2.2.2.2.1) (m.2.2.2.2.2.2.2.2.2.2.2.2.2.2.2.1) (m.2.2.2.2.2.2.2.2.2.2.2.2.2.2.2.2.1) (m.2.2.2.2.2.2.2.2.2.2.2.2.2.2.2.2.2.1) (m.2.2.2.2.2.2.2.2.2.2.2.2.2.2.2.2.2.2.1) (m.2.2.2.2.2.2.2.2.2.2.2.2.2.2.2.2.2.2.2.1) (m.2.2.2.2.2.2.2.2.2.2.2.2.2.2.2.2.2.2.2.2.1) (m.2.2.2.2.2.2.2.2.2.2.2.2.2.2.2.2.2.2.2.2.2.1) (m.2.2.2.2.2.2.2.2.2.2.2.2.2.2.2.2.2.2.2.2.2.2.1) (m.2.2.2.2.2.2.2.2.2.2.2.2.2.2.2.2.2.2.2.2.2.2.2.1) (m.2.2.2.2.2.2.2.2.2.2.2.2.2.2.2.2.2.2.2.2.2.2.2.2.1) (m.2.2.2.2.2.2.2.2.2.2.2.2.2.2.2.2.2.2.2.2.2.2.2.2.2.1) (m.2.2.2.2.2.2.2.2.2.2.2.2.2.2.2.2.2.2.2.2.2.2.2.2.2.2.1) (m.2.2.2.2.2.2.2.2.2.2.2.2.2.2.2.2.2.2.2.2.2.2.2.2.2.2.2.1) (m.2.2.2.2.2.2.2.2.2.2.2.2.2.2.2.2.2.2.2.2.2.2.2.2.2.2.2.2.1) (m.2.2.2.2.2.2.2.2.2.2.2.2.2.2.2.2.2.2.2.2.2.2.2.2.2.2.2.2.2.1) (m.2.2.2.2.2.2.2.2.2.2.2.2.2.2.2.2.2.2.2.2.2.2.2.2.2.2.2.2.2.2.1) (m.2.2.2.2.2.2.2.2.2.2.2.2.2.2.2.2.2.2.2.2.2.2.2.2.2.2.2.2.2.2.2.1) (m.2.2.2.2.2.2.2.2.2.2.2.2.2.2.2.2.2.2.2.2.2.2.2.2.2.2.2.2.2.2.2.2.1) (m.2.2.2.2.2.2.2.2.2.2.2.2.2.2.2.2.2.2.2.2.2.2.2.2.2.2.2.2.2.2.2.2.2.1) (m.2.2.2.2.2.2.2.2.2.2.2.2.2.2.2.2.2.2.2.2.2.2.2.2.2.2.2.2.2.2.2.2.2.2.1) (m.2.2.2.2.2.2.2.2.2.2.2.2.2.2.2.2.2.2.2.2.2.2.2.2.2.2.2.2.2.2.2.2.2.2.2) o = some R ∧ Inv R.1 R.2.1 R.2.2 := by
  obtain ⟨b, c, tn, tx, pn, pg, hC, hw, hmw, hB, hp, ht⟩ := h
  rw [hw, hmw, mC_21]
  simp only [gd1 hL hL2, gd2 hL hL2, gd3 hL hL2, gd4 hL hL2, gd5 hL hL2, if_false]
  generalize xs (nI j + 1).toNatClampNeg = r
  obtain ⟨q4, e4⟩ := flg (xs (nI j + 2).toNatClampNeg)
  rw [e4]
  simp only [Option.bind_some]
  obtain ⟨z, s2, g, m2, m3, g2, g3, e1, e2⟩ := pr_lg (b := b) (p := q4) (r := r) (K := k) hC hB (by omega) 8 0 k 0 0 (x.2.2.2.2.2.2.2.2.2.1) (x.2.2.2.2.2.2.2.2.1) (m.2.2.2.2.2.2.1) (m.2.2.2.2.2.2.2.1) (m.2.2.2.2.2.1) (m.2.2.2.2.2.2.2.2.2.1) (by omega) (by omega) (by omega)
  have e1' : mX11_longest_L8 k 65 (x.1) (bI b) r (bI q4) k 0 0 0 (x.2.2.2.2.2.2.2.2.2.1) (x.2.2.2.2.2.2.2.2.1) = some (z, s2, g) := e1
  have e2' : mX13_longest_L13 k (bI b) (m.2.2.1) r (bI q4) k (-1) 0 0 (m.2.2.2.2.2.2.1) (m.2.2.2.2.2.2.2.1) (m.2.2.2.2.2.1) (m.2.2.2.2.2.2.2.2.2.1) = some (z, m2, m3, g2, g3) := by
    obtain ⟨k9, rfl⟩ : ∃ k9, k = k9 + 1 := ⟨k - 1, by omega⟩
    rw [pr_lg0 hB (by omega)]
    exact e2
  rw [mX11_longest, e1', mX13_longest, e2']
  simp only [Option.bind_some, if_true]
  exact ⟨_, rfl, ⟨b, c, tn, tx, pn, pg, hC, rfl, rfl, hB, hp, ht⟩⟩
theorem pr_cmean {b : Bool} {xc : Nat → Int64} {c : Nat → BitVec 64} (hC : isC xc c) : ∀ (d i k : Nat), i + d = 8 → d < k → mX11_meanCount_L4 xc (bI b) k (nI (smN (fun q => cnt (c q) (wd b)) i)) (nI i) = some (nI (smN (fun q => cnt (c q) (wd b)) 8))
  | _, _, 0, _, hk => absurd hk (Nat.not_lt_zero _)
  | 0, i, k + 1, h, _ => by rw [mX11_meanCount_L4, if_pos (show (8 : Int32) ≤ nI i from nI_le (a := 8) (by omega) (by omega)), show i = 8 by omega]
  | d + 1, i, k + 1, h, hk => by
    rw [mX11_meanCount_L4, if_neg (show ¬ (8 : Int32) ≤ nI i from nI_ge (b := 8) (by omega) (by omega)), pr_ones hC (by omega)]
    simp only [Option.bind_some]
    rw [nI_add, nI_1]
    exact pr_cmean hC d (i + 1) k (by omega) (by omega)
theorem pr_rmean {b : Bool} {B : Nat → Nat → Int32} {c : Nat → BitVec 64} {K : Nat} (hB : isB B c) (hK : 64 < K) : ∀ (d i k : Nat), i + d = 8 → d < k → mX13_meanCount_L9 K (bI b) B k (nI (smN (fun q => cnt (c q) (wd b)) i)) (nI i) = some (nI (smN (fun q => cnt (c q) (wd b)) 8))
  | _, _, 0, _, hk => absurd hk (Nat.not_lt_zero _)
  | 0, i, k + 1, h, _ => by rw [mX13_meanCount_L9, if_pos (show (8 : Int32) ≤ nI i from nI_le (a := 8) (by omega) (by omega)), show i = 8 by omega]
  | d + 1, i, k + 1, h, hk => by
    rw [mX13_meanCount_L9, if_neg (show ¬ (8 : Int32) ≤ nI i from nI_ge (b := 8) (by omega) (by omega)), pr_count (hB i (by omega)) (by omega) hK]
    simp only [Option.bind_some]
    rw [nI_add, nI_1]
    exact pr_rmean hB hK d (i + 1) k (by omega) (by omega)
theorem smN_le {f : Nat → Nat} {a : Nat} (h : ∀ q, f q ≤ a) : ∀ n, smN f n ≤ n * a
  | 0 => Nat.zero_le _
  | n + 1 => by
    have h1 := smN_le h n
    have h2 := h n
    rw [smN, Nat.add_mul, Nat.one_mul]
    omega
set_option maxRecDepth 100000 in
theorem mean_ok : ∀ s, s < 513 → nz64 (FP.ddiv (FP.i2d (nI s)) 4620693217682128896) = true ∧ Op.cmpValue (FP.dcmp (FP.ddiv (FP.i2d (nI s)) 4620693217682128896) (FP.ddiv (FP.i2d (nI s)) 4620693217682128896)) .l = 0 := by decide +kernel
set_option maxRecDepth 100000 in
theorem share_ok : ∀ s, s < 9 → nz32 (FP.fdiv (FP.i2f (nI s)) 1090519040) = true ∧ nz64 (FP.f2d (FP.fdiv (FP.i2f (nI s)) 1090519040)) = true ∧ Op.cmpValue (FP.dcmp (FP.f2d (FP.fdiv (FP.i2f (nI s)) 1090519040)) (FP.f2d (FP.fdiv (FP.i2f (nI s)) 1090519040))) .l = 0 := by decide +kernel
set_option maxHeartbeats 4000000 in
set_option maxRecDepth 100000 in
theorem hs_42 {k L j : Nat} {xs : Nat → Int32} {ax : Nat → Nat} {x : XS} {m : MS} {o : Nat → Int64} (hk : 1000 ≤ k) (hL : j + 6 ≤ L) (hL2 : L ≤ 3072) (h : Inv x m o) : ∃ R, mC_42 k (x.1) (x.2.1) (x.2.2.1) (x.2.2.2.1) (x.2.2.2.2.1) (x.2.2.2.2.2.1) (x.2.2.2.2.2.2.1) (x.2.2.2.2.2.2.2.1) (x.2.2.2.2.2.2.2.2.1) (x.2.2.2.2.2.2.2.2.2.1) (x.2.2.2.2.2.2.2.2.2.2.1) (x.2.2.2.2.2.2.2.2.2.2.2.1) (x.2.2.2.2.2.2.2.2.2.2.2.2.1) (x.2.2.2.2.2.2.2.2.2.2.2.2.2.1) (x.2.2.2.2.2.2.2.2.2.2.2.2.2.2.1) (x.2.2.2.2.2.2.2.2.2.2.2.2.2.2.2.1) (x.2.2.2.2.2.2.2.2.2.2.2.2.2.2.2.2.1) (x.2.2.2.2.2.2.2.2.2.2.2.2.2.2.2.2.2.1) (x.2.2.2.2.2.2.2.2.2.2.2.2.2.2.2.2.2.2.1) (x.2.2.2.2.2.2.2.2.2.2.2.2.2.2.2.2.2.2.2.1) (x.2.2.2.2.2.2.2.2.2.2.2.2.2.2.2.2.2.2.2.2.1) (x.2.2.2.2.2.2.2.2.2.2.2.2.2.2.2.2.2.2.2.2.2.1) (x.2.2.2.2.2.2.2.2.2.2.2.2.2.2.2.2.2.2.2.2.2.2.1) (x.2.2.2.2.2.2.2.2.2.2.2.2.2.2.2.2.2.2.2.2.2.2.2.1) (x.2.2.2.2.2.2.2.2.2.2.2.2.2.2.2.2.2.2.2.2.2.2.2.2.1) (x.2.2.2.2.2.2.2.2.2.2.2.2.2.2.2.2.2.2.2.2.2.2.2.2.2.1) (x.2.2.2.2.2.2.2.2.2.2.2.2.2.2.2.2.2.2.2.2.2.2.2.2.2.2.1) (x.2.2.2.2.2.2.2.2.2.2.2.2.2.2.2.2.2.2.2.2.2.2.2.2.2.2.2.1) (x.2.2.2.2.2.2.2.2.2.2.2.2.2.2.2.2.2.2.2.2.2.2.2.2.2.2.2.2.1) (x.2.2.2.2.2.2.2.2.2.2.2.2.2.2.2.2.2.2.2.2.2.2.2.2.2.2.2.2.2.1) (x.2.2.2.2.2.2.2.2.2.2.2.2.2.2.2.2.2.2.2.2.2.2.2.2.2.2.2.2.2.2.1) (x.2.2.2.2.2.2.2.2.2.2.2.2.2.2.2.2.2.2.2.2.2.2.2.2.2.2.2.2.2.2.2.1) (x.2.2.2.2.2.2.2.2.2.2.2.2.2.2.2.2.2.2.2.2.2.2.2.2.2.2.2.2.2.2.2.2) (m.2.1) (m.2.2.1) (m.2.2.2.1) (m.2.2.2.2.1) (m.2.2.2.2.2.1) (m.2.2.2.2.2.2.1) (m.2.2.2.2.2.2.2.1) (m.2.2.2.2.2.2.2.2.1) (m.2.2.2.2.2.2.2.2.2.1) (m.2.2.2.2.2.2.2.2.2.2.1) (m.2.2.2.2.2.2.2.2.2.2.2.1) (m.2.2.2.2.2.2.2.2.2.2.2.2.1) (m.2.2.2.2.2.2.2.2.2.2.2.2.2.1) (m.2.2.2.2.2.2.2.2.2.2.2.2.2.2.1) (m.2.2.2.2.2.2.2.2.2.2.2.2.2.2.2.1) (m.2.2.2.2.2.2.2.2.2.2.2.2.2.2.2.2.1) (m.2.2.2.2.2.2.2.2.2.2.2.2.2.2.2.2.2.1) (m.2.2.2.2.2.2.2.2.2.2.2.2.2.2.2.2.2.2.1) (m.2.2.2.2.2.2.2.2.2.2.2.2.2.2.2.2.2.2.2.1) (m.2.2.2.2.2.2.2.2.2.2.2.2.2.2.2.2.2.2.2.2.1) (m.2.2.2.2.2.2.2.2.2.2.2.2.2.2.2.2.2.2.2.2.2.1) (m.2.2.2.2.2.2.2.2.2.2.2.2.2.2.2.2.2.2.2.2.2.2.1) (m.2.2.2.2.2.2.2.2.2.2.2.2.2.2.2.2.2.2.2.2.2.2.2.1) (m.2.2.2.2.2.2.2.2.2.2.2.2.2.2.2.2.2.2.2.2.2.2.2.2.1) (m.2.2.2.2.2.2.2.2.2.2.2.2.2.2.2.2.2.2.2.2.2.2.2.2.2.1) (m.2.2.2.2.2.2.2.2.2.2.2.2.2.2.2.2.2.2.2.2.2.2.2.2.2.2.1) (m.2.2.2.2.2.2.2.2.2.2.2.2.2.2.2.2.2.2.2.2.2.2.2.2.2.2.2.1) (m.2.2.2.2.2.2.2.2.2.2.2.2.2.2.2.2.2.2.2.2.2.2.2.2.2.2.2.2.1) (m.2.2.2.2.2.2.2.2.2.2.2.2.2.2.2.2.2.2.2.2.2.2.2.2.2.2.2.2.2.1) (m.2.2.2.2.2.2.2.2.2.2.2.2.2.2.2.2.2.2.2.2.2.2.2.2.2.2.2.2.2.2.1) (m.2.2.2.2.2.2.2.2.2.2.2.2.2.2.2.2.2.2.2.2.2.2.2.2.2.2.2.2.2.2.2.1) (m.2.2.2.2.2.2.2.2.2.2.2.2.2.2.2.2.2.2.2.2.2.2.2.2.2.2.2.2.2.2.2.2.1) (m.2.2.2.2.2.2.2.2.2.2.2.2.2.2.2.2.2.2.2.2.2.2.2.2.2.2.2.2.2.2.2.2.2.1) (m.2.2.2.2.2.2.2.2.2.2.2.2.2.2.2.2.2.2.2.2.2.2.2.2.2.2.2.2.2.2.2.2.2.2.1) (m.2.2.2.2.2.2.2.2.2.2.2.2.2.2.2.2.2.2.2.2.2.2.2.2.2.2.2.2.2.2.2.2.2.2.2) o = some R ∧ Inv R.1 R.2.1 R.2.2 := by
  obtain ⟨b, c, tn, tx, pn, pg, hC, hw, hmw, hB, hp, ht⟩ := h
  rw [hw, hmw, mC_42]
  have h1 : mX11_meanCount_L4 (x.1) (bI b) k 0 0 = some (nI (smN (fun q => cnt (c q) (wd b)) 8)) := pr_cmean hC 8 0 k (by omega) (by omega)
  have h2 : mX13_meanCount_L9 k (bI b) (m.2.2.1) k 0 0 = some (nI (smN (fun q => cnt (c q) (wd b)) 8)) := pr_rmean hB (by omega) 8 0 k (by omega) (by omega)
  have hs : smN (fun q => cnt (c q) (wd b)) 8 ≤ 8 * 64 := smN_le (fun q => Nat.le_trans (cnt_le (c q) (wd b)) (wd_le b)) 8
  obtain ⟨m1, m2⟩ := mean_ok (smN (fun q => cnt (c q) (wd b)) 8) (by omega)
  rw [mX11_meanCount, h1, mX13_meanCount, h2]
  simp only [Option.bind_some]
  rw [m1, if_neg (by decide), if_neg (by decide)]
  simp only [Option.bind_some]
  rw [if_pos m2]
  exact ⟨_, rfl, ⟨b, c, tn, tx, pn, pg, hC, rfl, rfl, hB, hp, ht⟩⟩
def ngc (b : Bool) (c : Nat → BitVec 64) (q : Nat) : Nat := ((c q).setWidth (wd b)).msb.toNat
theorem pr_cshare {b : Bool} {xc : Nat → Int64} {c : Nat → BitVec 64} (hC : isC xc c) : ∀ (d i k : Nat), i + d = 8 → d < k → mX11_negativeShare_L4 xc (bI b) k (nI (smN (ngc b c) i)) (nI i) = some (nI (smN (ngc b c) 8))
  | _, _, 0, _, hk => absurd hk (Nat.not_lt_zero _)
  | 0, i, k + 1, h, _ => by rw [mX11_negativeShare_L4, if_pos (show (8 : Int32) ≤ nI i from nI_le (a := 8) (by omega) (by omega)), show i = 8 by omega]
  | d + 1, i, k + 1, h, hk => by
    have e := pr_cshare (b := b) hC d (i + 1) k (by omega) (by omega)
    have ei : (Int64.ofBitVec (sgn b (c i))).toInt = ((c i).setWidth (wd b)).toInt := sgn_int b (c i)
    have z0 : (0 : Int64).toInt = 0 := rfl
    have hm : ((c i).setWidth (wd b)).msb = decide (((c i).setWidth (wd b)).toInt < 0) := BitVec.msb_eq_toInt
    have hs : smN (ngc b c) (i + 1) = smN (ngc b c) i + ((c i).setWidth (wd b)).msb.toNat := rfl
    rw [hs, hm] at e
    rw [mX11_negativeShare_L4, if_neg (show ¬ (8 : Int32) ≤ nI i from nI_ge (b := 8) (by omega) (by omega)), pr_csigned b hC (by omega)]
    simp only [Option.bind_some]
    by_cases hn : ((c i).setWidth (wd b)).toInt < 0
    · rw [decide_eq_true hn] at e
      rw [if_neg (fun z => by
        have h9 := Int64.le_iff_toInt_le.mp ((lg_cmp_ge _ _).mp z)
        rw [ei, z0] at h9
        omega), nI_1, nI_1]
      exact e
    · rw [decide_eq_false hn] at e
      rw [if_pos ((lg_cmp_ge _ _).mpr (Int64.le_iff_toInt_le.mpr (by rw [ei, z0]; omega))), nI_1]
      exact e
theorem pr_rshare {b : Bool} {B : Nat → Nat → Int32} {c : Nat → BitVec 64} (hB : isB B c) : ∀ (d i k : Nat), i + d = 8 → d < k → mX13_negativeShare_L9 (bI b) B k (nI (smN (ngc b c) i)) (nI i) = some (nI (smN (ngc b c) 8))
  | _, _, 0, _, hk => absurd hk (Nat.not_lt_zero _)
  | 0, i, k + 1, h, _ => by rw [mX13_negativeShare_L9, if_pos (show (8 : Int32) ≤ nI i from nI_le (a := 8) (by omega) (by omega)), show i = 8 by omega]
  | d + 1, i, k + 1, h, hk => by
    have hw := wd_le b
    have hw0 := wd_pos b
    have em : nI (wd b) - 1 = nI (wd b - 1) := pk_sub (b := 1) hw0
    have mx : B i (wd b - 1) = bI ((c i).setWidth (wd b)).msb := by rw [(hB i (by omega)).sub hw _ (by omega), BitVec.msb_eq_getLsbD_last]
    have e9 : ((if bI ((c i).setWidth (wd b)).msb = 0 then some 0 else some 1) : Option Int32) = some (nI (ngc b c i)) := by
      unfold ngc
      cases ((c i).setWidth (wd b)).msb <;> rfl
    rw [mX13_negativeShare_L9, if_neg (show ¬ (8 : Int32) ≤ nI i from nI_ge (b := 8) (by omega) (by omega)), if_neg (nI_in (show i < 8 by omega) (by omega)), pr_bits]
    simp only [Option.bind_some]
    rw [em, if_neg (nI_in (by omega) (by omega)), nI_clamp (show i < 2 ^ 31 by omega), nI_clamp (show wd b - 1 < 2 ^ 31 by omega), mx, e9]
    simp only [Option.bind_some]
    rw [nI_add, nI_1]
    exact pr_rshare hB d (i + 1) k (by omega) (by omega)
set_option maxHeartbeats 4000000 in
set_option maxRecDepth 100000 in
theorem hs_43 {k L j : Nat} {xs : Nat → Int32} {ax : Nat → Nat} {x : XS} {m : MS} {o : Nat → Int64} (hk : 1000 ≤ k) (hL : j + 6 ≤ L) (hL2 : L ≤ 3072) (h : Inv x m o) : ∃ R, mC_43 k (x.1) (x.2.1) (x.2.2.1) (x.2.2.2.1) (x.2.2.2.2.1) (x.2.2.2.2.2.1) (x.2.2.2.2.2.2.1) (x.2.2.2.2.2.2.2.1) (x.2.2.2.2.2.2.2.2.1) (x.2.2.2.2.2.2.2.2.2.1) (x.2.2.2.2.2.2.2.2.2.2.1) (x.2.2.2.2.2.2.2.2.2.2.2.1) (x.2.2.2.2.2.2.2.2.2.2.2.2.1) (x.2.2.2.2.2.2.2.2.2.2.2.2.2.1) (x.2.2.2.2.2.2.2.2.2.2.2.2.2.2.1) (x.2.2.2.2.2.2.2.2.2.2.2.2.2.2.2.1) (x.2.2.2.2.2.2.2.2.2.2.2.2.2.2.2.2.1) (x.2.2.2.2.2.2.2.2.2.2.2.2.2.2.2.2.2.1) (x.2.2.2.2.2.2.2.2.2.2.2.2.2.2.2.2.2.2.1) (x.2.2.2.2.2.2.2.2.2.2.2.2.2.2.2.2.2.2.2.1) (x.2.2.2.2.2.2.2.2.2.2.2.2.2.2.2.2.2.2.2.2.1) (x.2.2.2.2.2.2.2.2.2.2.2.2.2.2.2.2.2.2.2.2.2.1) (x.2.2.2.2.2.2.2.2.2.2.2.2.2.2.2.2.2.2.2.2.2.2.1) (x.2.2.2.2.2.2.2.2.2.2.2.2.2.2.2.2.2.2.2.2.2.2.2.1) (x.2.2.2.2.2.2.2.2.2.2.2.2.2.2.2.2.2.2.2.2.2.2.2.2.1) (x.2.2.2.2.2.2.2.2.2.2.2.2.2.2.2.2.2.2.2.2.2.2.2.2.2.1) (x.2.2.2.2.2.2.2.2.2.2.2.2.2.2.2.2.2.2.2.2.2.2.2.2.2.2.1) (x.2.2.2.2.2.2.2.2.2.2.2.2.2.2.2.2.2.2.2.2.2.2.2.2.2.2.2.1) (x.2.2.2.2.2.2.2.2.2.2.2.2.2.2.2.2.2.2.2.2.2.2.2.2.2.2.2.2.1) (x.2.2.2.2.2.2.2.2.2.2.2.2.2.2.2.2.2.2.2.2.2.2.2.2.2.2.2.2.2.1) (x.2.2.2.2.2.2.2.2.2.2.2.2.2.2.2.2.2.2.2.2.2.2.2.2.2.2.2.2.2.2.1) (x.2.2.2.2.2.2.2.2.2.2.2.2.2.2.2.2.2.2.2.2.2.2.2.2.2.2.2.2.2.2.2.1) (x.2.2.2.2.2.2.2.2.2.2.2.2.2.2.2.2.2.2.2.2.2.2.2.2.2.2.2.2.2.2.2.2) (m.2.1) (m.2.2.1) (m.2.2.2.1) (m.2.2.2.2.1) (m.2.2.2.2.2.1) (m.2.2.2.2.2.2.1) (m.2.2.2.2.2.2.2.1) (m.2.2.2.2.2.2.2.2.1) (m.2.2.2.2.2.2.2.2.2.1) (m.2.2.2.2.2.2.2.2.2.2.1) (m.2.2.2.2.2.2.2.2.2.2.2.1) (m.2.2.2.2.2.2.2.2.2.2.2.2.1) (m.2.2.2.2.2.2.2.2.2.2.2.2.2.1) (m.2.2.2.2.2.2.2.2.2.2.2.2.2.2.1) (m.2.2.2.2.2.2.2.2.2.2.2.2.2.2.2.1) (m.2.2.2.2.2.2.2.2.2.2.2.2.2.2.2.2.1) (m.2.2.2.2.2.2.2.2.2.2.2.2.2.2.2.2.2.1) (m.2.2.2.2.2.2.2.2.2.2.2.2.2.2.2.2.2.2.1) (m.2.2.2.2.2.2.2.2.2.2.2.2.2.2.2.2.2.2.2.1) (m.2.2.2.2.2.2.2.2.2.2.2.2.2.2.2.2.2.2.2.2.1) (m.2.2.2.2.2.2.2.2.2.2.2.2.2.2.2.2.2.2.2.2.2.1) (m.2.2.2.2.2.2.2.2.2.2.2.2.2.2.2.2.2.2.2.2.2.2.1) (m.2.2.2.2.2.2.2.2.2.2.2.2.2.2.2.2.2.2.2.2.2.2.2.1) (m.2.2.2.2.2.2.2.2.2.2.2.2.2.2.2.2.2.2.2.2.2.2.2.2.1) (m.2.2.2.2.2.2.2.2.2.2.2.2.2.2.2.2.2.2.2.2.2.2.2.2.2.1) (m.2.2.2.2.2.2.2.2.2.2.2.2.2.2.2.2.2.2.2.2.2.2.2.2.2.2.1) (m.2.2.2.2.2.2.2.2.2.2.2.2.2.2.2.2.2.2.2.2.2.2.2.2.2.2.2.1) (m.2.2.2.2.2.2.2.2.2.2.2.2.2.2.2.2.2.2.2.2.2.2.2.2.2.2.2.2.1) (m.2.2.2.2.2.2.2.2.2.2.2.2.2.2.2.2.2.2.2.2.2.2.2.2.2.2.2.2.2.1) (m.2.2.2.2.2.2.2.2.2.2.2.2.2.2.2.2.2.2.2.2.2.2.2.2.2.2.2.2.2.2.1) (m.2.2.2.2.2.2.2.2.2.2.2.2.2.2.2.2.2.2.2.2.2.2.2.2.2.2.2.2.2.2.2.1) (m.2.2.2.2.2.2.2.2.2.2.2.2.2.2.2.2.2.2.2.2.2.2.2.2.2.2.2.2.2.2.2.2.1) (m.2.2.2.2.2.2.2.2.2.2.2.2.2.2.2.2.2.2.2.2.2.2.2.2.2.2.2.2.2.2.2.2.2.1) (m.2.2.2.2.2.2.2.2.2.2.2.2.2.2.2.2.2.2.2.2.2.2.2.2.2.2.2.2.2.2.2.2.2.2.1) (m.2.2.2.2.2.2.2.2.2.2.2.2.2.2.2.2.2.2.2.2.2.2.2.2.2.2.2.2.2.2.2.2.2.2.2) o = some R ∧ Inv R.1 R.2.1 R.2.2 := by
  obtain ⟨b, c, tn, tx, pn, pg, hC, hw, hmw, hB, hp, ht⟩ := h
  rw [hw, hmw, mC_43]
  have h1 : mX11_negativeShare_L4 (x.1) (bI b) k 0 0 = some (nI (smN (ngc b c) 8)) := pr_cshare hC 8 0 k (by omega) (by omega)
  have h2 : mX13_negativeShare_L9 (bI b) (m.2.2.1) k 0 0 = some (nI (smN (ngc b c) 8)) := pr_rshare hB 8 0 k (by omega) (by omega)
  have hs : smN (ngc b c) 8 ≤ 8 * 1 := smN_le (fun q => by unfold ngc; cases ((c q).setWidth (wd b)).msb <;> decide) 8
  obtain ⟨m1, m2, m3⟩ := share_ok (smN (ngc b c) 8) (by omega)
  rw [mX11_negativeShare, h1, mX13_negativeShare, h2]
  simp only [Option.bind_some]
  rw [m1, if_neg (by decide), if_neg (by decide)]
  simp only [Option.bind_some]
  rw [m2, if_neg (by decide), if_neg (by decide), if_pos m3]
  exact ⟨_, rfl, ⟨b, c, tn, tx, pn, pg, hC, rfl, rfl, hB, hp, ht⟩⟩
