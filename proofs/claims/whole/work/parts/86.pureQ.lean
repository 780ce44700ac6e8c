/-! pure: reading a piece of the text or the page; typing; examples -/
theorem pr_take_x {b p : Bool} {xc : Nat → Int64} {c : Nat → BitVec 64} {f : Nat → Int32} {g : Nat → Nat} {len i a e k : Nat} {r : Int32} {v : Int64} (hC : isC xc c) (hi : i < 8) (ha : a ≤ e) (he : e ≤ len) (hl : len ≤ 300) (hk : 301 < k) (hf : ∀ q, q < len → f q = nI (g q)) (hg : ∀ q, q < len → g q < 256) : ∃ f2 v2, mX2_takePiece_x k 300 xc v (bI b) f (nI len) (nI i) (nI a) (nI e) r (bI p) = some (bI (pcOK p (wd b) r g a e), f2, v2) ∧ isC f2 (if pcOK p (wd b) r g a e then upC c i ((vz (pcN g a e) (pcV r g a e) (wd b)).signExtend 64) else c) := by
  have h1 := pr_canRead (b := b) (p := p) (N := 300) (k := k) (r := r) (v := v) ha he hl (by omega) (by omega) hf hg
  rw [mX2_takePiece_x, h1]
  simp only [Option.bind_some]
  cases hok : pcOK p (wd b) r g a e with
  | false =>
    simp only [Bool.false_eq_true, if_false, if_true]
    exact ⟨xc, v, rfl, hC⟩
  | true =>
    simp only [if_true, e10, if_false]
    rw [pr_put b _ hi]
    simp only [Option.bind_some]
    have hs : sgn b (vz (pcN g a e) (pcV r g a e) 64) = (vz (pcN g a e) (pcV r g a e) (wd b)).signExtend 64 := sgn_of (vz_low (wd_le b))
    refine ⟨_, _, rfl, ?_⟩
    rw [← hs]
    exact hC.up i _
theorem pr_reads_x {b p : Bool} {B : Nat → Nat → Int32} {c : Nat → BitVec 64} {fr found : Nat → Int32} {g : Nat → Nat} {i a e k : Nat} {r : Int32} (hB : isB B c) (hi : i < 8) (ha : a ≤ e) (he : e ≤ 300) (hk : 301 < k) (hf : ∀ q, q < e → fr q = nI (g q)) (hg : ∀ q, q < e → g q < 256) : ∃ B2 fd2, mX12_reads_x k (bI b) B found fr (nI i) (nI a) (nI e) r (bI p) = some (bI (pcOK p (wd b) r g a e), B2, fd2) ∧ isB B2 (if pcOK p (wd b) r g a e then upC c i ((vz (pcN g a e) (pcV r g a e) (wd b)).signExtend 64) else c) := by
  obtain ⟨f2, e1, h1⟩ := pr_finds_x (p := p) (W := wd b) (k := k) (r := r) (found := found) (wd_pos b) (wd_le b) ha he (by omega) hf hg
  rw [mX12_reads_x, pr_bits]
  simp only [Option.bind_some]
  rw [e1]
  simp only [Option.bind_some]
  cases hok : pcOK p (wd b) r g a e with
  | false =>
    rw [if_pos bI_f, if_neg (bI_nn _), if_neg (by decide)]
    exact ⟨B, f2, rfl, hB⟩
  | true =>
    obtain ⟨R, e2, h2⟩ := pr_puts_found (k := k) (B := B) (h1 hok) hi (by omega)
    rw [if_neg (by decide), e2]
    simp only [Option.bind_some]
    rw [if_neg (bI_nn _), if_pos trivial]
    exact ⟨R, f2, rfl, putsTo.up hB h2⟩
theorem pr_take_o {b p : Bool} {xc : Nat → Int64} {c : Nat → BitVec 64} {f : Nat → Int32} {g : Nat → Nat} {len i a e k : Nat} {r : Int32} {v : Int64} (hC : isC xc c) (hi : i < 8) (ha : a ≤ e) (he : e ≤ len) (hl : len ≤ 65) (hk : 301 < k) (hf : ∀ q, q < len → f q = nI (g q)) (hg : ∀ q, q < len → g q < 256) : ∃ f2 v2, mX2_takePiece_o k 65 xc f (nI len) v (bI b) (nI i) (nI a) (nI e) r (bI p) = some (bI (pcOK p (wd b) r g a e), f2, v2) ∧ isC f2 (if pcOK p (wd b) r g a e then upC c i ((vz (pcN g a e) (pcV r g a e) (wd b)).signExtend 64) else c) := by
  have h1 := pr_canRead (b := b) (p := p) (N := 65) (k := k) (r := r) (v := v) ha he hl (by omega) (by omega) hf hg
  rw [mX2_takePiece_o, h1]
  simp only [Option.bind_some]
  cases hok : pcOK p (wd b) r g a e with
  | false =>
    simp only [Bool.false_eq_true, if_false, if_true]
    exact ⟨xc, v, rfl, hC⟩
  | true =>
    simp only [if_true, e10, if_false]
    rw [pr_put b _ hi]
    simp only [Option.bind_some]
    have hs : sgn b (vz (pcN g a e) (pcV r g a e) 64) = (vz (pcN g a e) (pcV r g a e) (wd b)).signExtend 64 := sgn_of (vz_low (wd_le b))
    refine ⟨_, _, rfl, ?_⟩
    rw [← hs]
    exact hC.up i _
theorem pr_reads_o {b p : Bool} {B : Nat → Nat → Int32} {c : Nat → BitVec 64} {fr found : Nat → Int32} {g : Nat → Nat} {i a e k : Nat} {r : Int32} (hB : isB B c) (hi : i < 8) (ha : a ≤ e) (he : e ≤ 66) (hk : 301 < k) (hf : ∀ q, q < e → fr q = nI (g q)) (hg : ∀ q, q < e → g q < 256) : ∃ B2 fd2, mX12_reads_o k (bI b) B fr found (nI i) (nI a) (nI e) r (bI p) = some (bI (pcOK p (wd b) r g a e), B2, fd2) ∧ isB B2 (if pcOK p (wd b) r g a e then upC c i ((vz (pcN g a e) (pcV r g a e) (wd b)).signExtend 64) else c) := by
  obtain ⟨f2, e1, h1⟩ := pr_finds_o (p := p) (W := wd b) (k := k) (r := r) (found := found) (wd_pos b) (wd_le b) ha he (by omega) hf hg
  rw [mX12_reads_o, pr_bits]
  simp only [Option.bind_some]
  rw [e1]
  simp only [Option.bind_some]
  cases hok : pcOK p (wd b) r g a e with
  | false =>
    rw [if_pos bI_f, if_neg (bI_nn _), if_neg (by decide)]
    exact ⟨B, f2, rfl, hB⟩
  | true =>
    obtain ⟨R, e2, h2⟩ := pr_puts_found (k := k) (B := B) (h1 hok) hi (by omega)
    rw [if_neg (by decide), e2]
    simp only [Option.bind_some]
    rw [if_neg (bI_nn _), if_pos trivial]
    exact ⟨R, f2, rfl, putsTo.up hB h2⟩
def rdBad (n : Nat) (p2 p3 : Int32) : Prop := p2 < 0 ∨ p3 < p2 ∨ ¬ p3 ≤ nI n
theorem rd_or {n : Nat} (hn : n < 1000) (p2 p3 : Int32) : rdBad n p2 p3 ∨ ∃ a e : Nat, a ≤ e ∧ e ≤ n ∧ p2 = nI a ∧ p3 = nI e := by
  by_cases h1 : p2 < 0
  · exact Or.inl (Or.inl h1)
  · by_cases h2 : p3 < p2
    · exact Or.inl (Or.inr (Or.inl h2))
    · by_cases h3 : p3 ≤ nI n
      · refine Or.inr ?_
        have h4 : ¬ p3 < 0 := fun z => h2 (Int32.lt_iff_toInt_lt.mpr (by
          have a1 := Int32.lt_iff_toInt_lt.mp z
          have z0 : (0 : Int32).toInt = 0 := rfl
          rw [Int32.lt_iff_toInt_lt] at h1
          omega))
        obtain ⟨a, ha, e1⟩ := nI_of h1
        obtain ⟨e, he, e2⟩ := nI_of h4
        subst e1
        subst e2
        exact ⟨a, e, Nat.le_of_not_lt (fun z => h2 (nI_lt z ha)), (nI_leI he (by omega)).mp h3, rfl, rfl⟩
      · exact Or.inl (Or.inr (Or.inr h3))
theorem cl_read_bad {k n : Nat} {xc : Nat → Int64} {v : Int64} {w p1 p2 p3 r q : Int32} {f : Nat → Int32} {o : Nat → Int64} (h : cellBad p1 ∨ (∃ i, i < 8 ∧ p1 = nI i) ∧ rdBad n p2 p3) : mL_read k 300 xc v w f (nI n) o p1 p2 p3 r q = some (1, xc, v, o) := by
  rcases h with h | ⟨⟨i, hi, e⟩, h⟩
  · rw [mL_read, mL_read_N, mX11_read, ck_bad h, mL_read_T1_10, mX11_read_T1_10, ckT_bad h]
    rfl
  · subst e
    have eN : mX11_read k 300 xc v w f (nI n) (nI i) p2 p3 r q = none := by
      rw [mX11_read, ck_ok hi, mX6_size]
      simp only [Option.bind_some]
      by_cases h1 : p2 < 0
      · rw [if_pos h1]
      · rw [if_neg h1]
        by_cases h2 : p3 < p2
        · rw [if_pos h2]
        · rw [if_neg h2, if_neg ((h.resolve_left h1).resolve_left h2)]
    have eT : mX11_read_T24 k 300 xc v w f (nI n) (nI i) p2 p3 r q = some () := by
      rw [mX11_read_T24, ck_ok hi, mX6_size]
      simp only [Option.bind_some]
      by_cases h1 : p2 < 0
      · rw [if_pos h1]
        rfl
      · rw [if_neg h1]
        by_cases h2 : p3 < p2
        · rw [if_pos h2]
          rfl
        · rw [if_neg h2, if_neg ((h.resolve_left h1).resolve_left h2)]
          rfl
    rw [mL_read, mL_read_N, eN, mL_read_T1_10, mX11_read_T1_10, ckT_ok hi, mL_read_T24, eT]
    rfl
theorem in_any {a b c : Int32} : mX13_in a b c = some (if a < b ∨ c < a then 0 else 1) := by
  rw [mX13_in]
  by_cases h1 : a < b
  · rw [if_pos h1, if_pos (Or.inl h1)]
  · rw [if_neg h1]
    by_cases h2 : c < a
    · rw [if_pos h2, if_pos (Or.inr h2)]
    · rw [if_neg h2, if_neg (fun z => z.elim h1 h2)]
theorem rf_read_bad {k n : Nat} {w p1 p2 p3 r q : Int32} {B : Nat → Nat → Int32} {f1 f2 : Nat → Int32} (hn : n < 1000) (h : cellBad p1 ∨ (∃ i, i < 8 ∧ p1 = nI i) ∧ rdBad n p2 p3) : mX13_read k w B f1 f2 (nI n) p1 p2 p3 r q = some (0, 1, B, f1) := by
  rcases h with h | ⟨⟨i, hi, e⟩, h⟩
  · rw [mX13_read, ic_bad h]
    rfl
  · subst e
    have hx : ((mX13_in p2 0 (nI n)).bind (fun r_11 => (if r_11 = 0 then some 0 else ((mX13_in p3 p2 (nI n)).bind (fun r_13 => (if r_13 = 0 then some 0 else some 1))))) : Option Int32) = some 0 := by
      rw [in_any]
      simp only [Option.bind_some]
      by_cases h1 : p2 < 0 ∨ nI n < p2
      · rw [if_pos h1, if_pos rfl]
      · rw [if_neg h1, if_neg (by decide), in_any]
        simp only [Option.bind_some]
        have h2 : p3 < p2 ∨ nI n < p3 := by
          rcases h.resolve_left (fun z => h1 (Or.inl z)) with h3 | h3
          · exact Or.inl h3
          · rw [Int32.le_iff_toInt_le] at h3
            exact Or.inr (Int32.lt_iff_toInt_lt.mpr (by omega))
        rw [if_pos h2, if_pos rfl]
    rw [mX13_read, ic_ok hi]
    simp only [Option.bind_some]
    rw [if_neg (by decide), hx]
    rfl
theorem rf_read_ok {k n i a e : Nat} {w r q : Int32} {t : Bool} {B B2 : Nat → Nat → Int32} {f1 f2 f3 : Nat → Int32} (hn : n < 1000) (hi : i < 8) (ha : a ≤ e) (he : e ≤ n) (h : mX12_reads_x k w B f1 f2 (nI i) (nI a) (nI e) r q = some (bI t, B2, f3)) : mX13_read k w B f1 f2 (nI n) (nI i) (nI a) (nI e) r q = some (bI t, 0, B2, f3) := by
  have i1 : mX13_in (nI a) 0 (nI n) = some 1 := by rw [mX13_in, if_neg (nI_pos (by omega)), if_neg (nI_nlt (by omega) (by omega))]
  have i2 : mX13_in (nI e) (nI a) (nI n) = some 1 := by rw [mX13_in, if_neg (nI_nlt (by omega) (by omega)), if_neg (nI_nlt (by omega) (by omega))]
  rw [mX13_read, ic_ok hi]
  simp only [Option.bind_some]
  rw [if_neg (by decide), i1]
  simp only [Option.bind_some]
  rw [if_neg (by decide), i2]
  simp only [Option.bind_some]
  rw [if_neg (by decide)]
  simp only [Option.bind_some, ps_11]
  rw [if_neg (by decide), h]
  simp only [Option.bind_some]
  rw [if_neg (bI_nn _)]
set_option maxHeartbeats 4000000 in
set_option maxRecDepth 100000 in
theorem hs_10 {k L j : Nat} {xs : Nat → Int32} {ax : Nat → Nat} {x : XS} {m : MS} {o : Nat → Int64} (hk : 1000 ≤ k) (hL : j + 6 ≤ L) (hL2 : L ≤ 3072) (h : Inv x m o) : ∃ R, mC_10 k xs L (nI j) (x.1) (x.2.1) (x.2.2.1) (x.2.2.2.1) (x.2.2.2.2.1) (x.2.2.2.2.2.1) (x.2.2.2.2.2.2.1) (x.2.2.2.2.2.2.2.1) (x.2.2.2.2.2.2.2.2.1) (x.2.2.2.2.2.2.2.2.2.1) (x.2.2.2.2.2.2.2.2.2.2.1) (x.2.2.2.2.2.2.2.2.2.2.2.1) (x.2.2.2.2.2.2.2.2.2.2.2.2.1) (x.2.2.2.2.2.2.2.2.2.2.2.2.2.1) (x.2.2.2.2.2.2.2.2.2.2.2.2.2.2.1) (x.2.2.2.2.2.2.2.2.2.2.2.2.2.2.2.1) (x.2.2.2.2.2.2.2.2.2.2.2.2.2.2.2.2.1) (x.2.2.2.2.2.2.2.2.2.2.2.2.2.2.2.2.2.1) (x.2.2.2.2.2.2.2.2.2.2.2.2.2.2.2.2.2.2.1) (x.2.2.2.2.2.2.2.2.2.2.2.2.2.2.2.2.2.2.2.1) (x.2.2.2.2.2.2.2.2.2.2.2.2.2.2.2.2.2.2.2.2.1) (x.2.2.2.2.2.2.2.2.2.2.2.2.2.2.2.2.2.2.2.2.2.1) (x.2.2.2.2.2.2.2.2.2.2.2.2.2.2.2.2.2.2.2.2.2.2.1) (x.2.2.2.2.2.2.2.2.2.2.2.2.2.2.2.2.2.2.2.2.2.2.2.1) (x.2.2.2.2.2.2.2.2.2.2.2.2.2.2.2.2.2.2.2.2.2.2.2.2.1) (x.2.2.2.2.2.2.2.2.2.2.2.2.2.2.2.2.2.2.2.2.2.2.2.2.2.1) (x.2.2.2.2.2.2.2.2.2.2.2.2.2.2.2.2.2.2.2.2.2.2.2.2.2.2.1) (x.2.2.2.2.2.2.2.2.2.2.2.2.2.2.2.2.2.2.2.2.2.2.2.2.2.2.2.1) (x.2.2.2.2.2.2.2.2.2.2.2.2.2.2.2.2.2.2.2.2.2.2.2.2.2.2.2.2.1) (x.2.2.2.2.2.2.2.2.2.2.2.2.2.2.2.2.2.2.2.2.2.2.2.2.2.2.2.2.2.1) (x.2.2.2.2.2.2.2.2.2.2.2.2.2.2.2.2.2.2.2.2.2.2.2.2.2.2.2.2.2.2.1) (x.2.2.2.2.2.2.2.2.2.2.2.2.2.2.2.2.2.2.2.2.2.2.2.2.2.2.2.2.2.2.2.1) (x.2.2.2.2.2.2.2.2.2.2.2.2.2.2.2.2.2.2.2.2.2.2.2.2.2.2.2.2.2.2.2.2) (m.2.1) (m.2.2.1) (m.2.2.2.1) (m.2.2.2.2.1) (m.2.2.2.2.2.1) (m.2.2.2.2.2.2.1) (m.2.2.2.2.2.2.2.1) (m.2.2.2.2.2.2.2.2.1) (m.2.2.2.2.2.2.2.2.2.1) (m.2.2.2.2.2.2.2.2.2.2.1) (m.2.2.2.2.2.2.2.2.2.2.2.1) (m.2.2.2.2.2.2.2.2.2.2.2.2.1) (m.2.2.2.2.2.2.2.2.2.2.2.2.2.1) (m.2.2.2.2.2.2.2.2.2.2.2.2.2.2.1) (m.2.2.2.2.2.2.2.2.2.2.2.2.2.2.2.1) (m.2.2.2.2.2.2.2.2.2.2.2.2.2.2.2.2.1) (m.2.2.2.2.2.2.2.2.2.2.2.2.2.2.2.2.2.1) (m.2.2.2.2.2.2.2.2.2.2.2.2.2.2.2.2.2.2.1) (m.2.2.2.2.2.2.2.2.2.2.2.2.2.2.2.2.2.2.2.1) (m.2.2.2.2.2.2.2.2.2.2.2.2.2.2.2.2.2.2.2.2.1) (m.2.2.2.2.2.2.2.2.2.2.2.2.2.2.2.2.2.2.2.2.2.1) (m.2.2.2.2.2.2.2.2.2.2.2.2.2.2.2.2.2.2.2.2.2.2.1) (m.2.2.2.2.2.2.2.2.2.2.2.2.2.2.2.2.2.2.2.2.2.2.2.1) (m.2.2.2.2.2.2.2.2.2.2.2.2.2.2.2.2.2.2.2.2.2.2.2.2.1) (m.2.2.2.2.2.2.2.2.2.2.2.2.2.2.2.2.2.2.2.2.2.2.2.2.2.1) (m.2.2.2.2.2.2.2.2.2.2.2.2.2.2.2.2.2.2.2.2.2.2.2.2.2.2.1) (m.2.2.2.2.2.2.2.2.2.2.2.2.2.2.2.2.2.2.2.2.2.2.2.2.2.2.2.1) (m.2.2.2.2.2.2.2.2.2.2.2.2.2.2.2.2.2.2.2.2.2.2.2.2.2.2.2.2.1) (m.2.2.2.2.2.2.2.2.2.2.2.2.2.2.2.2.2.2.2.2.2.2.2.2.2.2.2.2.2.1) (m.2.2.2.2.2.2.2.2.2.2.2.2.2.2.2.2.2.2.2.2.2.2.2.2.2.2.2.2.2.2.1) (m.2.2.2.2.2.2.2.2.2.2.2.2.2.2.2.2.2.2.2.2.2.2.2.2.2.2.2.2.2.2.2.1) (m.2.2.2.2.2.2.2.2.2.2.2.2.2.2.2.2.2.2.2.2.2.2.2.2.2.2.2.2.2.2.2.2.1) (m.2.2.2.2.2.2.2.2.2.2.2.2.2.2.2.2.2.2.2.2.2.2.2.2.2.2.2.2.2.2.2.2.2.1) (m.2.2.2.2.2.2.2.2.2.2.2.2.2.2.2.2.2.2.2.2.2.2.2.2.2.2.2.2.2.2.2.2.2.2.1) (m.2.2.2.2.2.2.2.2.2.2.2.2.2.2.2.2.2.2.2.2.2.2.2.2.2.2.2.2.2.2.2.2.2.2.2) o = some R ∧ Inv R.1 R.2.1 R.2.2 := by
  obtain ⟨b, c, tn, tx, pn, pg, hC, hw, hmw, hB, hp, ht⟩ := h
  rw [hw, hmw, mC_10]
  simp only [gd1 hL hL2, gd2 hL hL2, gd3 hL hL2, gd4 hL hL2, gd5 hL hL2, if_false]
  obtain ⟨h1, h2, h3, h4⟩ := ht
  rw [h2, h3]
  generalize xs (nI j + 1).toNatClampNeg = p1
  generalize xs (nI j + 2).toNatClampNeg = p2
  generalize xs (nI j + 3).toNatClampNeg = p3
  generalize xs (nI j + 4).toNatClampNeg = r
  obtain ⟨q4, e4⟩ := flg (xs (nI j + 5).toNatClampNeg)
  rw [e4]
  simp only [Option.bind_some]
  by_cases hb : cellBad p1 ∨ (∃ i, i < 8 ∧ p1 = nI i) ∧ rdBad tn p2 p3
  · rw [cl_read_bad hb]
    simp only [Option.bind_some]
    rw [rf_read_bad (by omega) hb]
    simp only [Option.bind_some, mX13_thrown, if_true, e10, e20, if_false]
    exact ⟨_, rfl, ⟨b, c, tn, tx, pn, pg, hC, rfl, rfl, hB, hp, ⟨h1, rfl, rfl, h4⟩⟩⟩
  · obtain ⟨i, hi, e1⟩ := (cell_or p1).resolve_left (fun z => hb (Or.inl z))
    obtain ⟨a, e, ha, he, e2, e3⟩ := (rd_or (by omega) p2 p3).resolve_left (fun z => hb (Or.inr ⟨⟨i, hi, e1⟩, z⟩))
    subst e1
    subst e2
    subst e3
    obtain ⟨f2, v2, e5, hC2⟩ := pr_take_x (b := b) (p := q4) (k := k) (r := r) (v := (x.2.2.2.2.1)) hC hi ha he h1 (by omega) (fun q hq => (h4 q hq).1) (fun q hq => (h4 q hq).2.2)
    obtain ⟨B2, fd2, e6, hB2⟩ := pr_reads_x (b := b) (p := q4) (k := k) (r := r) (found := (m.2.2.2.2.2.2.2.2.1)) hB hi ha (by omega) (by omega) (fun q hq => (h4 q (by omega)).2.1) (fun q hq => (h4 q (by omega)).2.2)
    have eL : mL_read k 300 (x.1) (x.2.2.2.2.1) (bI b) (x.2.2.2.2.2.2.1) (nI tn) o (nI i) (nI a) (nI e) r (bI q4) = some (0, f2, v2, vp_updL o 0 (lN (pcOK q4 (wd b) r tx a e).toNat)) := by
      rw [mL_read, mL_read_N, mX11_read, ck_ok hi, mX6_size]
      simp only [Option.bind_some]
      rw [if_neg (nI_pos (by omega)), if_neg (nI_nlt ha (by omega)), if_pos (nI_le he (by omega)), e5]
      simp only [Option.bind_some]
      rw [if_neg (bI_nn _)]
      simp only [Option.bind_some]
      rw [bit_L]
      simp only [Option.bind_some, c00, z00, if_false]
    rw [eL]
    simp only [Option.bind_some]
    rw [rf_read_ok (by omega) hi ha he e6]
    simp only [Option.bind_some, mX13_thrown, if_true, c00, z00, if_false, up_0]
    rw [bit_L]
    simp only [Option.bind_some]
    rw [if_pos ((lg_cmp_eq _ _).mpr rfl)]
    exact ⟨_, rfl, ⟨b, _, tn, tx, pn, pg, hC2, rfl, rfl, hB2, hp, ⟨h1, rfl, rfl, h4⟩⟩⟩
theorem cl_readPage_bad {k n : Nat} {xc : Nat → Int64} {v : Int64} {w p1 r q l : Int32} {f : Nat → Int32} {o : Nat → Int64} (h : cellBad p1) : mL_readPage k 65 xc f l v w o p1 r q = some (1, xc, v, o) := by
  rw [mL_readPage, mL_readPage_N, mX11_readPage, ck_bad h, mL_readPage_T1_10, mX11_readPage_T1_10, ckT_bad h]
  rfl
theorem rf_readPage_bad {k : Nat} {w p1 r q l : Int32} {B : Nat → Nat → Int32} {f1 f2 : Nat → Int32} (h : cellBad p1) : mX13_readPage k w B f1 l f2 p1 r q = some (0, 1, B, f2) := by
  rw [mX13_readPage, ic_bad h]
  rfl
theorem pr_takePage {b p : Bool} {xc : Nat → Int64} {c : Nat → BitVec 64} {f : Nat → Int32} {g : Nat → Nat} {len i k : Nat} {r : Int32} {v : Int64} (hC : isC xc c) (hi : i < 8) (hl : len ≤ 65) (hk : 301 < k) (hf : ∀ q, q < len → f q = nI (g q)) (hg : ∀ q, q < len → g q < 256) : ∃ f2 v2, mX2_takePage k 65 xc f (nI len) v (bI b) (nI i) r (bI p) = some (bI (pcOK p (wd b) r g 0 len), f2, v2) ∧ isC f2 (if pcOK p (wd b) r g 0 len then upC c i ((vz (pcN g 0 len) (pcV r g 0 len) (wd b)).signExtend 64) else c) := by
  obtain ⟨f2, v2, e5, hC2⟩ := pr_take_o (b := b) (p := p) (k := k) (r := r) (v := v) hC hi (Nat.zero_le len) (Nat.le_refl len) hl hk hf hg
  refine ⟨f2, v2, ?_, hC2⟩
  have e5' : mX2_takePiece_o k 65 xc f (nI len) v (bI b) (nI i) 0 (nI len) r (bI p) = _ := e5
  rw [mX2_takePage, mX6_size]
  simp only [Option.bind_some]
  rw [e5']
  simp only [Option.bind_some]
  rw [if_neg (bI_nn _)]
theorem pr_readsPage {b p : Bool} {B : Nat → Nat → Int32} {c : Nat → BitVec 64} {fr found : Nat → Int32} {g : Nat → Nat} {len i k : Nat} {r : Int32} (hB : isB B c) (hi : i < 8) (hl : len ≤ 65) (hk : 301 < k) (hf : ∀ q, q < len → fr q = nI (g q)) (hg : ∀ q, q < len → g q < 256) : ∃ B2 fd2, mX12_readsPage k (bI b) B fr (nI len) found (nI i) r (bI p) = some (bI (pcOK p (wd b) r g 0 len), B2, fd2) ∧ isB B2 (if pcOK p (wd b) r g 0 len then upC c i ((vz (pcN g 0 len) (pcV r g 0 len) (wd b)).signExtend 64) else c) := by
  obtain ⟨B2, fd2, e6, hB2⟩ := pr_reads_o (b := b) (p := p) (k := k) (r := r) (found := found) hB hi (Nat.zero_le len) (by omega) hk hf hg
  refine ⟨B2, fd2, ?_, hB2⟩
  have e6' : mX12_reads_o k (bI b) B fr found (nI i) 0 (nI len) r (bI p) = _ := e6
  rw [mX12_readsPage, e6']
  simp only [Option.bind_some]
  rw [if_neg (bI_nn _)]
set_option maxHeartbeats 4000000 in
set_option maxRecDepth 100000 in
theorem hs_17 {k L j : Nat} {xs : Nat → Int32} {ax : Nat → Nat} {x : XS} {m : MS} {o : Nat → Int64} (hk : 1000 ≤ k) (hL : j + 6 ≤ L) (hL2 : L ≤ 3072) (h : Inv x m o) : ∃ R, mC_17 k xs L (nI j) (x.1) (x.2.1) (x.2.2.1) (x.2.2.2.1) (x.2.2.2.2.1) (x.2.2.2.2.2.1) (x.2.2.2.2.2.2.1) (x.2.2.2.2.2.2.2.1) (x.2.2.2.2.2.2.2.2.1) (x.2.2.2.2.2.2.2.2.2.1) (x.2.2.2.2.2.2.2.2.2.2.1) (x.2.2.2.2.2.2.2.2.2.2.2.1) (x.2.2.2.2.2.2.2.2.2.2.2.2.1) (x.2.2.2.2.2.2.2.2.2.2.2.2.2.1) (x.2.2.2.2.2.2.2.2.2.2.2.2.2.2.1) (x.2.2.2.2.2.2.2.2.2.2.2.2.2.2.2.1) (x.2.2.2.2.2.2.2.2.2.2.2.2.2.2.2.2.1) (x.2.2.2.2.2.2.2.2.2.2.2.2.2.2.2.2.2.1) (x.2.2.2.2.2.2.2.2.2.2.2.2.2.2.2.2.2.2.1) (x.2.2.2.2.2.2.2.2.2.2.2.2.2.2.2.2.2.2.2.1) (x.2.2.2.2.2.2.2.2.2.2.2.2.2.2.2.2.2.2.2.2.1) (x.2.2.2.2.2.2.2.2.2.2.2.2.2.2.2.2.2.2.2.2.2.1) (x.2.2.2.2.2.2.2.2.2.2.2.2.2.2.2.2.2.2.2.2.2.2.1) (x.2.2.2.2.2.2.2.2.2.2.2.2.2.2.2.2.2.2.2.2.2.2.2.1) (x.2.2.2.2.2.2.2.2.2.2.2.2.2.2.2.2.2.2.2.2.2.2.2.2.1) (x.2.2.2.2.2.2.2.2.2.2.2.2.2.2.2.2.2.2.2.2.2.2.2.2.2.1) (x.2.2.2.2.2.2.2.2.2.2.2.2.2.2.2.2.2.2.2.2.2.2.2.2.2.2.1) (x.2.2.2.2.2.2.2.2.2.2.2.2.2.2.2.2.2.2.2.2.2.2.2.2.2.2.2.1) (x.2.2.2.2.2.2.2.2.2.2.2.2.2.2.2.2.2.2.2.2.2.2.2.2.2.2.2.2.1) (x.2.2.2.2.2.2.2.2.2.2.2.2.2.2.2.2.2.2.2.2.2.2.2.2.2.2.2.2.2.1) (x.2.2.2.2.2.2.2.2.2.2.2.2.2.2.2.2.2.2.2.2.2.2.2.2.2.2.2.2.2.2.1) (x.2.2.2.2.2.2.2.2.2.2.2.2.2.2.2.2.2.2.2.2.2.2.2.2.2.2.2.2.2.2.2.1) (x.2.2.2.2.2.2.2.2.2.2.2.2.2.2.2.2.2.2.2.2.2.2.2.2.2.2.2.2.2.2.2.2) (m.2.1) (m.2.2.1) (m.2.2.2.1) (m.2.2.2.2.1) (m.2.2.2.2.2.1) (m.2.2.2.2.2.2.1) (m.2.2.2.2.2.2.2.1) (m.2.2.2.2.2.2.2.2.1) (m.2.2.2.2.2.2.2.2.2.1) (m.2.2.2.2.2.2.2.2.2.2.1) (m.2.2.2.2.2.2.2.2.2.2.2.1) (m.2.2.2.2.2.2.2.2.2.2.2.2.1) (m.2.2.2.2.2.2.2.2.2.2.2.2.2.1) (m.2.2.2.2.2.2.2.2.2.2.2.2.2.2.1) (m.2.2.2.2.2.2.2.2.2.2.2.2.2.2.2.1) (m.2.2.2.2.2.2.2.2.2.2.2.2.2.2.2.2.1) (m.2.2.2.2.2.2.2.2.2.2.2.2.2.2.2.2.2.1) (m.2.2.2.2.2.2.2.2.2.2.2.2.2.2.2.2.2.2.1) (m.2.2.2.2.2.2.2.2.2.2.2.2.2.2.2.2.2.2.2.1) (m.2.2.2.2.2.2.2.2.2.2.2.2.2.2.2.2.2.2.2.2.1) (m.2.2.2.2.2.2.2.2.2.2.2.2.2.2.2.2.2.2.2.2.2.1) (m.2.2.2.2.2.2.2.2.2.2.2.2.2.2.2.2.2.2.2.2.2.2.1) (m.2.2.2.2.2.2.2.2.2.2.2.2.2.2.2.2.2.2.2.2.2.2.2.1) (m.2.2.2.2.2.2.2.2.2.2.2.2.2.2.2.2.2.2.2.2.2.2.2.2.1) (m.2.2.2.2.2.2.2.2.2.2.2.2.2.2.2.2.2.2.2.2.2.2.2.2.2.1) (m.2.2.2.2.2.2.2.2.2.2.2.2.2.2.2.2.2.2.2.2.2.2.2.2.2.2.1) (m.2.2.2.2.2.2.2.2.2.2.2.2.2.2.2.2.2.2.2.2.2.2.2.2.2.2.2.1) (m.2.2.2.2.2.2.2.2.2.2.2.2.2.2.2.2.2.2.2.2.2.2.2.2.2.2.2.2.1) (m.2.2.2.2.2.2.2.2.2.2.2.2.2.2.2.2.2.2.2.2.2.2.2.2.2.2.2.2.2.1) (m.2.2.2.2.2.2.2.2.2.2.2.2.2.2.2.2.2.2.2.2.2.2.2.2.2.2.2.2.2.2.1) (m.2.2.2.2.2.2.2.2.2.2.2.2.2.2.2.2.2.2.2.2.2.2.2.2.2.2.2.2.2.2.2.1) (m.2.2.2.2.2.2.2.2.2.2.2.2.2.2.2.2.2.2.2.2.2.2.2.2.2.2.2.2.2.2.2.2.1) (m.2.2.2.2.2.2.2.2.2.2.2.2.2.2.2.2.2.2.2.2.2.2.2.2.2.2.2.2.2.2.2.2.2.1) (m.2.2.2.2.2.2.2.2.2.2.2.2.2.2.2.2.2.2.2.2.2.2.2.2.2.2.2.2.2.2.2.2.2.2.1) (m.2.2.2.2.2.2.2.2.2.2.2.2.2.2.2.2.2.2.2.2.2.2.2.2.2.2.2.2.2.2.2.2.2.2.2) o = some R ∧ Inv R.1 R.2.1 R.2.2 := by
  obtain ⟨b, c, tn, tx, pn, pg, hC, hw, hmw, hB, hp, ht⟩ := h
  rw [hw, hmw, mC_17]
  simp only [gd1 hL hL2, gd2 hL hL2, gd3 hL hL2, gd4 hL hL2, gd5 hL hL2, if_false]
  obtain ⟨h1, h2, h3, h4⟩ := hp
  rw [h2, h3]
  generalize xs (nI j + 1).toNatClampNeg = p1
  generalize xs (nI j + 2).toNatClampNeg = r
  obtain ⟨q4, e4⟩ := flg (xs (nI j + 3).toNatClampNeg)
  rw [e4]
  simp only [Option.bind_some]
  rcases cell_or p1 with hb | ⟨i, hi, e⟩
  · rw [cl_readPage_bad (n := 0) hb]
    simp only [Option.bind_some]
    rw [rf_readPage_bad hb]
    simp only [Option.bind_some, mX13_thrown, if_true, e10, e20, if_false]
    exact ⟨_, rfl, ⟨b, c, tn, tx, pn, pg, hC, rfl, rfl, hB, ⟨h1, rfl, rfl, h4⟩, ht⟩⟩
  · subst e
    obtain ⟨f2, v2, e5, hC2⟩ := pr_takePage (b := b) (p := q4) (k := k) (r := r) (v := (x.2.2.2.2.1)) hC hi h1 (by omega) (fun q hq => (h4 q hq).1) (fun q hq => (h4 q hq).2.2.2)
    obtain ⟨B2, fd2, e6, hB2⟩ := pr_readsPage (b := b) (p := q4) (k := k) (r := r) (found := (m.2.2.2.2.2.2.2.2.1)) hB hi h1 (by omega) (fun q hq => (h4 q hq).2.1) (fun q hq => (h4 q hq).2.2.2)
    have eL : mL_readPage k 65 (x.1) (x.2.2.1) (nI pn) (x.2.2.2.2.1) (bI b) o (nI i) r (bI q4) = some (0, f2, v2, vp_updL o 0 (lN (pcOK q4 (wd b) r pg 0 pn).toNat)) := by
      rw [mL_readPage, mL_readPage_N, mX11_readPage, ck_ok hi]
      simp only [Option.bind_some]
      rw [e5]
      simp only [Option.bind_some]
      rw [if_neg (bI_nn _)]
      simp only [Option.bind_some]
      rw [bit_L]
      simp only [Option.bind_some, c00, z00, if_false]
    have eM : mX13_readPage k (bI b) (m.2.2.1) (m.2.2.2.1) (nI pn) (m.2.2.2.2.2.2.2.2.1) (nI i) r (bI q4) = some (bI (pcOK q4 (wd b) r pg 0 pn), 0, B2, fd2) := by
      rw [mX13_readPage, ic_ok hi]
      simp only [Option.bind_some, ps_11]
      rw [if_neg (by decide), e6]
      simp only [Option.bind_some]
      cases pcOK q4 (wd b) r pg 0 pn <;> rfl
    rw [eL]
    simp only [Option.bind_some]
    rw [eM]
    simp only [Option.bind_some, mX13_thrown, if_true, c00, z00, if_false, up_0]
    rw [bit_L]
    simp only [Option.bind_some]
    rw [if_pos ((lg_cmp_eq _ _).mpr rfl)]
    exact ⟨_, rfl, ⟨b, _, tn, tx, pn, pg, hC2, rfl, rfl, hB2, ⟨h1, rfl, rfl, h4⟩, ht⟩⟩
