/-! pure: pages -/
def dB (d : Nat) : Nat := if 10 ≤ d then 87 + d else 48 + d
theorem dB_lt {d : Nat} (h : d < 36) : dB d < 123 := by
  unfold dB
  split <;> omega
theorem pr_byteFor {d : Nat} (h : d < 36) : mX3_byteFor (nI d) = some (nI (dB d)) := by
  have e97 : (97 : Int32) = nI 97 := rfl
  have e10 : (10 : Int32) = nI 10 := rfl
  have e48 : (48 : Int32) = nI 48 := rfl
  unfold dB
  rw [mX3_byteFor, e97, e10, e48]
  by_cases h1 : 10 ≤ d
  · rw [if_pos (nI_le h1 (by omega)), if_pos h1, nI_add, pk_sub (by omega)]
    congr 2
    omega
  · rw [if_neg (nI_ge (by omega) (by omega)), if_neg h1, nI_add]
theorem pr_signOf {d : Nat} (h : d < 36) : mX13_signOf (nI d) = some (nI (dB d)) := pr_byteFor h
theorem pr_append {N len : Nat} {f : Nat → Int32} (v : Int32) (h : len < N) (hN : N < 1000) : mX6_append N f (nI len) v = some (upd f len v, nI (len + 1)) := by
  rw [mX6_append, if_neg (nI_ge h (by omega)), if_neg (nI_in h (by omega)), nI_clamp (by omega), nI_1]
theorem pr_wr53 {A R n : Nat} (hR : 2 ≤ R) (hR2 : R ≤ 36) (hA : A < 2 ^ 64) (hn : isND R A n) : ∀ (d m k : Nat) (f : Nat → Int32), m + d = n → d < k → (∀ j, j < m → f j = nI (dB (A / R ^ j % R))) → ∃ f2, mX3_writeOn_L53 (nI R) 65 k (lN (A / R ^ m)) (nI m) (nI m) f = some (nI n, f2) ∧ ∀ j, j < n → f2 j = nI (dB (A / R ^ j % R))
  | _, _, 0, _, _, hk, _ => absurd hk (Nat.not_lt_zero _)
  | 0, m, k + 1, f, h, _, q1 => ⟨f, by
    obtain ⟨n1, n2, n3, n4⟩ := hn
    have hm : m = n := by omega
    subst hm
    rw [mX3_writeOn_L53]
    by_cases h64 : 64 ≤ m
    · rw [if_pos (show (64 : Int32) ≤ nI m from nI_le (a := 64) h64 (by omega))]
    · rw [if_neg (show ¬ (64 : Int32) ≤ nI m from nI_ge (b := 64) (by omega) (by omega))]
      show (if nI m = 0 then _ else _) = _
      rw [if_neg (nI_ne0 (by omega) (by omega)), n3, if_pos ((lg_cmp_eq (lN 0) 0).mpr rfl)], fun j hj => q1 j (by omega)⟩
  | d + 1, m, k + 1, f, h, hk, q1 => by
    obtain ⟨n1, n2, n3, n4⟩ := hn
    obtain ⟨f2, e, r2⟩ := pr_wr53 hR hR2 hA ⟨n1, n2, n3, n4⟩ d (m + 1) k (upd f m (nI (dB (A / R ^ m % R)))) (by omega) (by omega) (fun j hj => by
      by_cases hjm : j = m
      · rw [hjm, pk_us]
      · rw [pk_un hjm]
        exact q1 j (by omega))
    refine ⟨f2, ?_, r2⟩
    have hAm : A / R ^ m < 2 ^ 64 := Nat.lt_of_le_of_lt (Nat.div_le_self _ _) hA
    have eL : (nI R).toInt64 = lN R := nI_l (by omega)
    have hj : ((mX1_plainQuotient (lN (A / R ^ m)) ((nI R).toInt64)).bind (fun r_35 => ((mX3_byteFor ((lN (A / R ^ m) - (r_35 * ((nI R).toInt64))).toInt32)).bind (fun r_36 => ((mX6_append 65 f (nI m) r_36).bind (fun r_37 => (mX3_writeOn_L53 (nI R) 65 k r_35 (nI m + 1) r_37.2 r_37.1))))))) = some (nI n, f2) := by
      have q2 : A / R ^ m / R * R ≤ A / R ^ m := Nat.div_mul_le_self _ _
      have q3 : A / R ^ m - A / R ^ m / R * R = A / R ^ m % R := by
        have := Nat.div_add_mod (A / R ^ m) R
        rw [Nat.mul_comm] at this
        omega
      rw [eL, pr_pq hAm (by omega) (by omega)]
      simp only [Option.bind_some]
      rw [lN_mul, lN_sub q2, lI, q3, pr_byteFor (Nat.lt_of_lt_of_le (Nat.mod_lt _ (by omega)) hR2)]
      simp only [Option.bind_some]
      rw [pr_append _ (by omega) (by omega)]
      simp only [Option.bind_some]
      rw [nI_1, ← dg_step]
      exact e
    rw [mX3_writeOn_L53, if_neg (show ¬ (64 : Int32) ≤ nI m from nI_ge (b := 64) (by omega) (by omega))]
    show (if nI m = 0 then _ else (if lg_cmp (lN (A / R ^ m)) 0 = 0 then _ else _)) = _
    by_cases hm : m = 0
    · subst hm
      rw [if_pos nI_0]
      exact hj
    · rw [if_neg (nI_ne0 (by omega) (by omega)), if_neg (fun z => by
        have h9 := congrArg (fun q => q.toBitVec.toNat) ((lg_cmp_eq _ _).mp z)
        simp only [lN_nat hAm] at h9
        exact n4 m (by omega) (by omega) h9)]
      exact hj
theorem pr_turnA {L : Nat} {g : Nat → Int32} (hL : 1 ≤ L) (hL2 : L ≤ 65) : ∀ (k i : Nat) (f : Nat → Int32), L < k + 2 * i → 2 * i ≤ L → (∀ q, q < i ∨ (L - 1 - i < q ∧ q < L) → f q = g (L - 1 - q)) → (∀ q, i ≤ q → q ≤ L - 1 - i → f q = g q) → ∃ f2, mX6_turnAround_L9 65 k (nI i) (nI (L - 1 - i)) f = some f2 ∧ ∀ q, q < L → f2 q = g (L - 1 - q)
  | 0, i, f, h, h2, _, _ => by omega
  | k + 1, i, f, h, h2, q1, q2 => by
    by_cases hc : L - 1 - i ≤ i
    · refine ⟨f, by rw [mX6_turnAround_L9, if_pos (nI_le hc (by omega))], fun q hq => ?_⟩
      by_cases hm : q < i ∨ (L - 1 - i < q ∧ q < L)
      · exact q1 q hm
      · rw [q2 q (by omega) (by omega), show L - 1 - q = q by omega]
    · have c1 : (nI i).toNatClampNeg = i := nI_clamp (by omega)
      have c2 : (nI (L - 1 - i)).toNatClampNeg = L - 1 - i := nI_clamp (by omega)
      have g1 : (nI i < 0 ∨ 65 ≤ i) = False := eq_false (nI_in2 (by omega) (by omega))
      have g2 : (nI (L - 1 - i) < 0 ∨ 65 ≤ L - 1 - i) = False := eq_false (nI_in2 (by omega) (by omega))
      obtain ⟨f2, e, r2⟩ := pr_turnA hL hL2 k (i + 1) (upd (upd f i (f (L - 1 - i))) (L - 1 - i) (f i)) (by omega) (by omega) (fun q hq => by
        by_cases ha : q = L - 1 - i
        · rw [ha, pk_us, q2 i (Nat.le_refl _) (by omega), show L - 1 - (L - 1 - i) = i by omega]
        · rw [pk_un ha]
          by_cases hb : q = i
          · rw [hb, pk_us, q2 _ (by omega) (Nat.le_refl _)]
          · rw [pk_un hb]
            exact q1 q (by omega)) (fun q h1 h3 => by
        rw [pk_un (by omega), pk_un (by omega)]
        exact q2 q (by omega) (by omega))
      refine ⟨f2, ?_, r2⟩
      rw [mX6_turnAround_L9, if_neg (nI_ge (by omega) (by omega))]
      simp only [c1, c2, g1, g2, if_false, Option.bind_some]
      have em : nI (L - 1 - i) + (-1) = nI (L - 1 - (i + 1)) := by
        have h9 := pk_m1 (L - 1 - (i + 1))
        rw [show L - 1 - (i + 1) + 1 = L - 1 - i by omega] at h9
        exact h9
      rw [nI_1, em]
      exact e
/-- the byte of a written number -/
def pgB (ng : Bool) (R A n i : Nat) : Nat := if ng = true ∧ i = 0 then 45 else dB (A / R ^ (n + ng.toNat - 1 - i) % R)
theorem neg_nat {u : BitVec 64} (h : u.toInt < 0) : -(Int64.ofBitVec u) = lN (u.toInt.natAbs) := by
  apply Int64.toBitVec_inj.mp
  apply BitVec.eq_of_toNat_eq
  have e : isNg false u = true := by rw [isNg_int, decide_eq_true h]
  have h1 := mag_nat u
  unfold mag at h1
  rw [e, if_pos rfl] at h1
  show (-u).toNat = _
  rw [h1]
  show _ = (BitVec.ofNat 64 u.toInt.natAbs).toNat
  rw [BitVec.toNat_ofNat, Nat.mod_eq_of_lt]
  rw [← h1]
  exact (-u).isLt
theorem pr_left (b p : Bool) (v : BitVec 64) : ((if bI p = 0 then (if (0 : Int32) ≤ (lg_cmp (Int64.ofBitVec (vlu b p v)) 0) then some 0 else some 1) else some 0) : Option Int32) = some (bI (szN b p v)) ∧ ((if bI (szN b p v) = 0 then some (Int64.ofBitVec (vlu b p v)) else some (-(Int64.ofBitVec (vlu b p v)))) : Option Int64) = some (lN (szA b p v)) := by
  cases p with
  | true =>
    refine ⟨by rw [if_neg (by decide)]; rfl, ?_⟩
    have e : szN b true v = false := rfl
    rw [e, if_pos bI_f]
    show some (Int64.ofBitVec (pln b v)) = _
    rw [← lN_bv64, pln_nat]
    rfl
  | false =>
    have ei : (Int64.ofBitVec (sgn b v)).toInt = (v.setWidth (wd b)).toInt := sgn_int b v
    have z0 : (0 : Int64).toInt = 0 := rfl
    have eN : szN b false v = decide ((v.setWidth (wd b)).toInt < 0) := isNg_int _
    have eA : szA b false v = (v.setWidth (wd b)).toInt.natAbs := mag_nat _
    rw [if_pos bI_f, eN, eA]
    show ((if (0 : Int32) ≤ (lg_cmp (Int64.ofBitVec (sgn b v)) 0) then some 0 else some 1) : Option Int32) = _ ∧ ((if _ then some (Int64.ofBitVec (sgn b v)) else some (-(Int64.ofBitVec (sgn b v)))) : Option Int64) = _
    by_cases h : (v.setWidth (wd b)).toInt < 0
    · rw [decide_eq_true h, if_neg (fun z => by
        have h9 := Int64.le_iff_toInt_le.mp ((lg_cmp_ge _ _).mp z)
        rw [ei, z0] at h9
        omega), if_neg (by decide), neg_nat (by rw [sgn_int]; exact h), sgn_int]
      exact ⟨rfl, rfl⟩
    · rw [decide_eq_false h, if_pos ((lg_cmp_ge _ _).mpr (Int64.le_iff_toInt_le.mpr (by rw [ei, z0]; omega))), if_pos bI_f]
      refine ⟨rfl, ?_⟩
      congr 1
      rw [← lN_bv64]
      congr 1
      have h1 := BitVec.toInt_eq_msb_cond (sgn b v)
      have h2 : (sgn b v).msb = false := by
        rw [BitVec.msb_eq_toInt, sgn_int]
        exact decide_eq_false h
      rw [h2, sgn_int] at h1
      have h3 : (v.setWidth (wd b)).toInt = ((sgn b v).toNat : Int) := h1
      rw [h3]
      rfl
theorem pr_writeOn {b p : Bool} {v : BitVec 64} {k n : Nat} {r : Int32} {f : Nat → Int32} (hk : 130 < k) (hn : isND (rdx r) (szA b p v) n) : ∃ f2, mX3_writeOn k 65 f (Int64.ofBitVec (vlu b p v)) r (bI p) = some (f2, nI (n + (szN b p v).toNat)) ∧ ∀ i, i < n + (szN b p v).toNat → f2 i = nI (pgB (szN b p v) (rdx r) (szA b p v) n i) := by
  obtain ⟨R1, R2, -⟩ := rdx_spec r
  have hn2 := hn.2.1
  have hn1 := hn.1
  obtain ⟨l1, l2⟩ := pr_left b p v
  obtain ⟨f1, e1, q1⟩ := pr_wr53 R1 R2 (szA_lt64 b p v) hn n 0 k f (by omega) (by omega) (fun j hj => absurd hj (Nat.not_lt_zero _))
  rw [Nat.pow_zero, Nat.div_one] at e1
  have e1' : mX3_writeOn_L53 (nI (rdx r)) 65 k (lN (szA b p v)) 0 0 f = some (nI n, f1) := e1
  have fin : ∀ (g : Nat → Int32) (L : Nat), L = n + (szN b p v).toNat → ((if bI (szN b p v) = 0 then some (nI n, f1) else ((mX6_append 65 f1 (nI n) 45).bind (fun r_45 => some (r_45.2, r_45.1)))) : Option (Int32 × (Nat → Int32))) = some (nI L, g) → (∀ q, q < L → g q = nI (pgB (szN b p v) (rdx r) (szA b p v) n (L - 1 - q))) → ∃ f2, mX3_writeOn k 65 f (Int64.ofBitVec (vlu b p v)) r (bI p) = some (f2, nI (n + (szN b p v).toNat)) ∧ ∀ i, i < n + (szN b p v).toNat → f2 i = nI (pgB (szN b p v) (rdx r) (szA b p v) n i) := by
    intro g L hL e2 q2
    have hL65 : L ≤ 65 := by
      have : (szN b p v).toNat ≤ 1 := by cases szN b p v <;> decide
      omega
    obtain ⟨f2, e3, q3⟩ := pr_turnA (L := L) (g := g) (by omega) hL65 k 0 g (by omega) (by omega) (fun q hq => by omega) (fun q _ _ => rfl)
    refine ⟨f2, ?_, fun i hi => ?_⟩
    · rw [mX3_writeOn, pr_isRadix]
      simp only [Option.bind_some]
      rw [pr_base]
      simp only [Option.bind_some]
      rw [l1]
      simp only [Option.bind_some]
      rw [l2]
      simp only [Option.bind_some]
      rw [mX6_empty]
      simp only [Option.bind_some]
      rw [e1']
      simp only [Option.bind_some] at e2 ⊢
      rw [e2]
      simp only [Option.bind_some]
      rw [mX6_turnAround]
      simp only [Option.bind_some]
      have e3' : mX6_turnAround_L9 65 k 0 (nI L - 1) g = some f2 := by
        have h9 : nI L - 1 = nI (L - 1) := pk_sub (b := 1) (by omega)
        rw [h9]
        exact e3
      rw [e3', ← hL]
      rfl
    · rw [← hL] at hi
      rw [q3 i hi, q2 _ (by omega), show L - 1 - (L - 1 - i) = i by omega]
  cases hN : szN b p v with
  | false =>
    rw [hN] at fin
    refine fin f1 n rfl (by rw [if_pos bI_f]) (fun q hq => ?_)
    rw [q1 q hq, pgB, if_neg (fun z => by cases z.1)]
    show _ = nI (dB (szA b p v / rdx r ^ (n + 0 - 1 - (n - 1 - q)) % rdx r))
    rw [show n + 0 - 1 - (n - 1 - q) = q by omega]
  | true =>
    rw [hN] at fin
    refine fin (upd f1 n 45) (n + 1) rfl (by rw [if_neg (by decide), pr_append _ (by omega) (by omega)]; rfl) (fun q hq => ?_)
    rw [pgB]
    by_cases hq0 : q = n
    · rw [hq0, pk_us, if_pos ⟨rfl, by omega⟩]
      rfl
    · rw [pk_un hq0, if_neg (fun z => by have := z.2; omega), q1 q (by omega)]
      show _ = nI (dB (szA b p v / rdx r ^ (n + 1 - 1 - (n + 1 - 1 - q)) % rdx r))
      rw [show n + 1 - 1 - (n + 1 - 1 - q) = q by omega]
theorem pr_wr40 {N A R n : Nat} {ng : Bool} {ds : Nat → Int32} {r1 : (Nat → Int32) × Int32 × Int32 × (Nat → Int32)} (hr1 : r1.1 = ds) (hR : 2 ≤ R) (hR2 : R ≤ 36) (hn : n ≤ 64) (hN : N = n + ng.toNat) (hds : ∀ q, q < n → ds q = nI (A / R ^ q % R)) : ∀ (t k : Nat) (f : Nat → Int32), t ≤ n → t < k → (∀ i, i < N - t → f i = nI (pgB ng R A n i)) → ∃ f2, mX12_writes_L40 r1 k (dn t) (nI (N - t)) f = some (nI N, f2) ∧ ∀ i, i < N → f2 i = nI (pgB ng R A n i)
  | _, 0, _, _, hk, _ => absurd hk (Nat.not_lt_zero _)
  | 0, k + 1, f, _, _, q => ⟨f, by rw [mX12_writes_L40, if_pos dn_neg]; rfl, q⟩
  | t + 1, k + 1, f, ht, hk, q => by
    have hg : ng.toNat ≤ 1 := by cases ng <;> decide
    have hb : pgB ng R A n (N - (t + 1)) = dB (A / R ^ t % R) := by
      rw [pgB, if_neg (fun z => by
        have h1 := z.2
        rw [z.1] at hN
        have h2 : N = n + 1 := hN
        omega), show n + ng.toNat - 1 - (N - (t + 1)) = t by omega]
    obtain ⟨f2, e, r2⟩ := pr_wr40 hr1 hR hR2 hn hN hds t k (upd f (N - (t + 1)) (nI (dB (A / R ^ t % R)))) (by omega) (by omega) (fun i hi => by
      by_cases hi2 : i = N - (t + 1)
      · rw [hi2, pk_us, hb]
      · rw [pk_un hi2]
        exact q i (by omega))
    refine ⟨f2, ?_, r2⟩
    rw [mX12_writes_L40, dn_s, if_neg (nI_pos (by omega)), if_neg (nI_in (show t < 64 by omega) (by omega)), nI_clamp (show t < 2 ^ 31 by omega), hr1, hds t (by omega), pr_signOf (Nat.lt_of_lt_of_le (Nat.mod_lt _ (by omega)) hR2)]
    simp only [Option.bind_some]
    rw [if_neg (nI_in (show N - (t + 1) < 66 by omega) (by omega)), nI_clamp (by omega), nI_1, dn_m, show N - (t + 1) + 1 = N - t by omega]
    exact e
theorem pr_writes {b p : Bool} {j k n : Nat} {r : Int32} {B : Nat → Nat → Int32} {c : Nat → BitVec 64} {pg ds one : Nat → Int32} (hB : isB B c) (hj : j < 8) (hk : 66 < k) (hn : isND (rdx r) (szA b p (c j)) n) : ∃ pg2 ds2 one2, mX12_writes k (bI b) B pg ds one (nI j) r (bI p) = some (nI (n + (szN b p (c j)).toNat), pg2, nI (n + (szN b p (c j)).toNat), ds2, nI n, bI (szN b p (c j)), one2) ∧ ∀ i, i < n + (szN b p (c j)).toNat → pg2 i = nI (pgB (szN b p (c j)) (rdx r) (szA b p (c j)) n i) := by
  obtain ⟨R1, R2, -⟩ := rdx_spec r
  have hn1 := hn.1
  have hn2 := hn.2.1
  obtain ⟨ds2, one2, e1, q1⟩ := pr_digits (k := k) (ds := ds) (one := one) hB hj hk hn
  obtain ⟨f1, e2, q2⟩ : ∃ f1, ((if bI (szN b p (c j)) = 0 then some (0, pg) else (if (0 : Int32) < 0 ∨ 66 ≤ (0 : Int32).toNatClampNeg then none else some (1, (upd pg (0 : Int32).toNatClampNeg 45)))) : Option (Int32 × (Nat → Int32))) = some (nI (szN b p (c j)).toNat, f1) ∧ ∀ i, i < n + (szN b p (c j)).toNat - n → f1 i = nI (pgB (szN b p (c j)) (rdx r) (szA b p (c j)) n i) := by
    cases hN : szN b p (c j) with
    | false => exact ⟨pg, by rw [if_pos bI_f]; rfl, fun i hi => by have h0 : i < n + 0 - n := hi; omega⟩
    | true =>
      refine ⟨upd pg 0 45, by rw [if_neg (by decide), if_neg (by decide)]; rfl, fun i hi => ?_⟩
      have h0 : i < n + 1 - n := hi
      have hi0 : i = 0 := by omega
      rw [hi0, pk_us, pgB, if_pos ⟨rfl, rfl⟩]
      rfl
  obtain ⟨pg2, e3, q3⟩ := pr_wr40 (r1 := (ds2, nI n, bI (szN b p (c j)), one2)) rfl R1 R2 hn2 rfl q1 n k f1 (Nat.le_refl _) (by omega) q2
  refine ⟨pg2, ds2, one2, ?_, q3⟩
  rw [mX12_writes, e1]
  simp only [Option.bind_some]
  rw [e2]
  simp only [Option.bind_some]
  rw [show n + (szN b p (c j)).toNat - n = (szN b p (c j)).toNat by omega] at e3
  have e3' : mX12_writes_L40 (ds2, nI n, bI (szN b p (c j)), one2) k (nI n - 1) (nI (szN b p (c j)).toNat) f1 = some (nI (n + (szN b p (c j)).toNat), pg2) := e3
  rw [e3']
  rfl
