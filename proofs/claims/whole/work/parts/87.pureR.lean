/-! pure: typing; examples -/
def byt (v : Int64) (i : Nat) : Nat := v.toBitVec.toNat / 2 ^ (8 * i) % 256
theorem byt_lt (v : Int64) (i : Nat) : byt v i < 256 := Nat.mod_lt _ (by decide)
theorem pr_byteOf {v : Int64} {i : Nat} (hi : i < 8) : mX11_byteOf v (nI (8 * i)) = some (nI (byt v i)) := by
  have ha : (((nI (8 * i)).toInt64.toUInt64 &&& Int64.toUInt64 63).toBitVec % 64).toNat = 8 * i := by
    rw [am_uL, am_x, pk_tn (by omega), Nat.mod_eq_of_lt (by omega)]
  rw [mX11_byteOf, pk_and _ (m := 255) 8 (by decide), Int64.toBitVec_toInt32, t_ushrL _ _ ha, sx32, BitVec.toNat_setWidth, BitVec.toNat_ushiftRight, Nat.shiftRight_eq_div_pow]
  congr 2
  unfold byt
  omega
theorem pr_rbyte {v : Int64} {i : Nat} (hi : i < 8) : ((v >>> ((8 * nI i).toInt64 &&& 63))) &&& 255 = lN (byt v i) := by
  have e8 : 8 * nI i = nI (8 * i) := pk_mul 8 i
  have ha : (((nI (8 * i)).toInt64 &&& 63).toBitVec.smod 64).toNat = 8 * i := by
    rw [am_lL, am_x, pk_tn (by omega), Nat.mod_eq_of_lt (by omega)]
  have hm : ∀ q, q < 64 → (255 : Int64).toBitVec.getLsbD q = decide (q < 8) := by decide +kernel
  apply Int64.toBitVec_inj.mp
  apply BitVec.eq_of_getLsbD_eq
  intro q hq
  rw [e8, Int64.toBitVec_and, BitVec.getLsbD_and, hm q hq, Int64.toBitVec_shiftRight]
  show (((v.toBitVec.sshiftRight (((nI (8 * i)).toInt64 &&& 63).toBitVec.smod 64).toNat).getLsbD q) && decide (q < 8)) = (BitVec.ofNat 64 (byt v i)).getLsbD q
  rw [ha, BitVec.getLsbD_sshiftRight, ofN_bit hq]
  have h256 : byt v i = v.toBitVec.toNat / 2 ^ (8 * i) % 2 ^ 8 := rfl
  rw [h256, Nat.testBit_mod_two_pow, Nat.testBit_div_two_pow]
  by_cases h8 : q < 8
  · rw [decide_eq_true h8, if_pos (by omega), decide_eq_false (show ¬ 64 ≤ q by omega)]
    simp
    show v.toBitVec.toNat.testBit (8 * i + q) = _
    congr 1
    omega
  · rw [decide_eq_false h8]
    simp
/-- how many of the lowest n bytes are not 0 -/
def nzc (v : Int64) : Nat → Nat
  | 0 => 0
  | n + 1 => nzc v n + if byt v n = 0 then 0 else 1
theorem nzc_le (v : Int64) : ∀ n, nzc v n ≤ n
  | 0 => Nat.le_refl _
  | n + 1 => by
    have h := nzc_le v n
    rw [nzc]
    split <;> omega
theorem nzc_mono (v : Int64) (n : Nat) : nzc v n ≤ nzc v (n + 1) := by
  rw [nzc]
  omega
theorem pr_bw5 {v : Int64} : ∀ (i k s : Nat), i ≤ 8 → i < k → s + nzc v i = nzc v 8 → mX11_bytesWithin_L5 v k (nI s) (nI (8 * i) - 8) = some (nI (nzc v 8))
  | _, 0, _, _, hk, _ => absurd hk (Nat.not_lt_zero _)
  | 0, k + 1, s, _, _, hs => by
    rw [mX11_bytesWithin_L5, if_pos (by decide)]
    have h2 : s + 0 = nzc v 8 := hs
    rw [← h2, Nat.add_zero]
  | i + 1, k + 1, s, hi, hk, hs => by
    have e : nI (8 * (i + 1)) - 8 = nI (8 * i) := by
      have h9 : nI (8 * (i + 1)) - nI 8 = nI (8 * (i + 1) - 8) := pk_sub (by omega)
      rw [show 8 * (i + 1) - 8 = 8 * i by omega] at h9
      exact h9
    have e2 : nI (8 * i) + (-8) = nI (8 * i) - 8 := (Int32.sub_eq_add_neg _ _).symm
    rw [nzc] at hs
    rw [mX11_bytesWithin_L5, e, if_neg (nI_pos (by omega)), pr_byteOf (by omega)]
    simp only [Option.bind_some]
    have hb := byt_lt v i
    rw [e2]
    by_cases h0 : byt v i = 0
    · rw [if_pos h0] at hs
      rw [h0, if_pos nI_0]
      exact pr_bw5 i k s (by omega) (by omega) (by omega)
    · rw [if_neg h0] at hs
      rw [if_neg (nI_ne0 (by omega) (by omega)), nI_1]
      exact pr_bw5 i k (s + 1) (by omega) (by omega) (by omega)
theorem pr_rt5 {v : Int64} : ∀ (d i k : Nat), i + d = 8 → d < k → mX13_type_L5 v k (nI (nzc v i)) (nI i) = some (nI (nzc v 8))
  | _, _, 0, _, hk => absurd hk (Nat.not_lt_zero _)
  | 0, i, k + 1, h, _ => by rw [mX13_type_L5, if_pos (show (8 : Int32) ≤ nI i from nI_le (a := 8) (by omega) (by omega)), show i = 8 by omega]
  | d + 1, i, k + 1, h, hk => by
    have hb := byt_lt v i
    have e := pr_rt5 (v := v) d (i + 1) k (by omega) (by omega)
    have e1 : ((if (lg_cmp (lN (byt v i)) 0) = 0 then some 0 else some 1) : Option Int32) = some (nI (if byt v i = 0 then 0 else 1)) := by
      by_cases h0 : byt v i = 0
      · rw [if_pos ((lg_cmp_eq _ _).mpr (by rw [h0]; rfl)), if_pos h0]
        rfl
      · rw [if_neg (fun z => h0 ((lN_eq (a := byt v i) (b := 0) (by omega) (by omega)).mp ((lg_cmp_eq (lN (byt v i)) 0).mp z))), if_neg h0]
        rfl
    rw [mX13_type_L5, if_neg (show ¬ (8 : Int32) ≤ nI i from nI_ge (b := 8) (by omega) (by omega)), pr_rbyte (by omega), e1]
    simp only [Option.bind_some]
    rw [nI_add, nI_1]
    rw [nzc] at e
    exact e
def tyN (v : Int64) : Nat → Nat → Nat
  | 0, n => n
  | i + 1, n => if byt v i = 0 then tyN v i n else tyN v i (n + 1)
def tyX (v : Int64) : Nat → Nat → (Nat → Nat) → Nat → Nat
  | 0, _, t => t
  | i + 1, n, t => if byt v i = 0 then tyX v i n t else tyX v i (n + 1) (fun q => if q = n then byt v i else t q)
theorem tyN_eq (v : Int64) : ∀ i n, tyN v i n = n + nzc v i
  | 0, n => rfl
  | i + 1, n => by
    rw [tyN, nzc]
    split
    · rw [tyN_eq v i]
      rfl
    · rw [tyN_eq v i]
      omega
theorem tyX_lt (v : Int64) : ∀ i n t, (∀ q, q < n → t q < 256) → ∀ q, q < tyN v i n → tyX v i n t q < 256
  | 0, n, t, h, q, hq => h q hq
  | i + 1, n, t, h, q, hq => by
    rw [tyN] at hq
    rw [tyX]
    by_cases h0 : byt v i = 0
    · rw [if_pos h0] at hq ⊢
      exact tyX_lt v i n t h q hq
    · rw [if_neg h0] at hq ⊢
      refine tyX_lt v i (n + 1) _ (fun r hr => ?_) q hq
      show (if r = n then byt v i else t r) < 256
      split
      · exact byt_lt v i
      · exact h r (by omega)
theorem pr_ct11 {v : Int64} : ∀ (i k n : Nat) (t : Nat → Nat) (f : Nat → Int32), i ≤ 8 → i < k → n + nzc v i ≤ 300 → (∀ q, q < n → f q = nI (t q)) → ∃ f2, mX11_type_L11 v 300 k (nI (8 * i) - 8) (nI n) f = some (nI (tyN v i n), f2) ∧ ∀ q, q < tyN v i n → f2 q = nI (tyX v i n t q)
  | _, 0, _, _, _, _, hk, _, _ => absurd hk (Nat.not_lt_zero _)
  | 0, k + 1, n, t, f, _, _, _, q1 => ⟨f, by rw [mX11_type_L11, if_pos (by decide)]; rfl, q1⟩
  | i + 1, k + 1, n, t, f, hi, hk, hn, q1 => by
    have e : nI (8 * (i + 1)) - 8 = nI (8 * i) := by
      have h9 : nI (8 * (i + 1)) - nI 8 = nI (8 * (i + 1) - 8) := pk_sub (by omega)
      rw [show 8 * (i + 1) - 8 = 8 * i by omega] at h9
      exact h9
    have e2 : nI (8 * i) + (-8) = nI (8 * i) - 8 := (Int32.sub_eq_add_neg _ _).symm
    have hb := byt_lt v i
    rw [nzc] at hn
    rw [mX11_type_L11, e, if_neg (nI_pos (by omega)), pr_byteOf (by omega), tyN, tyX]
    simp only [Option.bind_some]
    rw [e2]
    by_cases h0 : byt v i = 0
    · rw [if_pos h0] at hn
      rw [h0, if_pos nI_0, if_pos rfl, if_pos rfl]
      exact pr_ct11 i k n t f (by omega) (by omega) (by omega) q1
    · rw [if_neg h0] at hn
      rw [if_neg (nI_ne0 (by omega) (by omega)), pr_append _ (by omega) (by omega), if_neg h0, if_neg h0]
      simp only [Option.bind_some]
      refine pr_ct11 i k (n + 1) _ _ (by omega) (by omega) (by omega) (fun q hq => ?_)
      by_cases hqn : q = n
      · rw [hqn, pk_us, if_pos rfl]
      · rw [pk_un hqn, if_neg hqn]
        exact q1 q (by omega)
theorem pr_rt73 {v : Int64} : ∀ (i k n : Nat) (t : Nat → Nat) (f : Nat → Int32), i ≤ 8 → i < k → n + nzc v i ≤ 300 → (∀ q, q < n → f q = nI (t q)) → ∃ f2, mX13_type_L73 v k (dn i) (nI n) f = some (nI (tyN v i n), f2) ∧ ∀ q, q < tyN v i n → f2 q = nI (tyX v i n t q)
  | _, 0, _, _, _, _, hk, _, _ => absurd hk (Nat.not_lt_zero _)
  | 0, k + 1, n, t, f, _, _, _, q1 => ⟨f, by rw [mX13_type_L73, if_pos dn_neg]; rfl, q1⟩
  | i + 1, k + 1, n, t, f, hi, hk, hn, q1 => by
    have hb := byt_lt v i
    rw [nzc] at hn
    rw [mX13_type_L73, dn_s, if_neg (nI_pos (by omega)), pr_rbyte (by omega), lI, tyN, tyX]
    by_cases h0 : byt v i = 0
    · rw [if_pos h0] at hn
      rw [if_pos h0, if_pos h0, h0, pr_typed0]
      simp only [Option.bind_some]
      rw [dn_m]
      exact pr_rt73 i k n t f (by omega) (by omega) (by omega) q1
    · rw [if_neg h0] at hn
      rw [if_neg h0, if_neg h0, pr_typed (by omega) (by omega) (by omega)]
      simp only [Option.bind_some]
      rw [dn_m]
      refine pr_rt73 i k (n + 1) _ _ (by omega) (by omega) (by omega) (fun q hq => ?_)
      by_cases hqn : q = n
      · rw [hqn, pk_us, if_pos rfl]
      · rw [pk_un hqn, if_neg hqn]
        exact q1 q (by omega)
set_option maxHeartbeats 4000000 in
set_option maxRecDepth 100000 in
theorem hs_5 {k L j : Nat} {xs : Nat → Int32} {ax : Nat → Nat} {x : XS} {m : MS} {o : Nat → Int64} (hk : 1000 ≤ k) (hL : j + 6 ≤ L) (hL2 : L ≤ 3072) (h : Inv x m o) : ∃ R, mC_5 k xs L (nI j) (x.1) (x.2.1) (x.2.2.1) (x.2.2.2.1) (x.2.2.2.2.1) (x.2.2.2.2.2.1) (x.2.2.2.2.2.2.1) (x.2.2.2.2.2.2.2.1) (x.2.2.2.2.2.2.2.2.1) (x.2.2.2.2.2.2.2.2.2.1) (x.2.2.2.2.2.2.2.2.2.2.1) (x.2.2.2.2.2.2.2.2.2.2.2.1) (x.2.2.2.2.2.2.2.2.2.2.2.2.1) (x.2.2.2.2.2.2.2.2.2.2.2.2.2.1) (x.2.2.2.2.2.2.2.2.2.2.2.2.2.2.1) (x.2.2.2.2.2.2.2.2.2.2.2.2.2.2.2.1) (x.2.2.2.2.2.2.2.2.2.2.2.2.2.2.2.2.1) (x.2.2.2.2.2.2.2.2.2.2.2.2.2.2.2.2.2.1) (x.2.2.2.2.2.2.2.2.2.2.2.2.2.2.2.2.2.2.1) (x.2.2.2.2.2.2.2.2.2.2.2.2.2.2.2.2.2.2.2.1) (x.2.2.2.2.2.2.2.2.2.2.2.2.2.2.2.2.2.2.2.2.1) (x.2.2.2.2.2.2.2.2.2.2.2.2.2.2.2.2.2.2.2.2.2.1) (x.2.2.2.2.2.2.2.2.2.2.2.2.2.2.2.2.2.2.2.2.2.2.1) (x.2.2.2.2.2.2.2.2.2.2.2.2.2.2.2.2.2.2.2.2.2.2.2.1) (x.2.2.2.2.2.2.2.2.2.2.2.2.2.2.2.2.2.2.2.2.2.2.2.2.1) (x.2.2.2.2.2.2.2.2.2.2.2.2.2.2.2.2.2.2.2.2.2.2.2.2.2.1) (x.2.2.2.2.2.2.2.2.2.2.2.2.2.2.2.2.2.2.2.2.2.2.2.2.2.2.1) (x.2.2.2.2.2.2.2.2.2.2.2.2.2.2.2.2.2.2.2.2.2.2.2.2.2.2.2.1) (x.2.2.2.2.2.2.2.2.2.2.2.2.2.2.2.2.2.2.2.2.2.2.2.2.2.2.2.2.1) (x.2.2.2.2.2.2.2.2.2.2.2.2.2.2.2.2.2.2.2.2.2.2.2.2.2.2.2.2.2.1) (x.2.2.2.2.2.2.2.2.2.2.2.2.2.2.2.2.2.2.2.2.2.2.2.2.2.2.2.2.2.2.1) (x.2.2.2.2.2.2.2.2.2.2.2.2.2.2.2.2.2.2.2.2.2.2.2.2.2.2.2.2.2.2.2.1) (x.2.2.2.2.2.2.2.2.2.2.2.2.2.2.2.2.2.2.2.2.2.2.2.2.2.2.2.2.2.2.2.2) (m.2.1) (m.2.2.1) (m.2.2.2.1) (m.2.2.2.2.1) (m.2.2.2.2.2.1) (m.2.2.2.2.2.2.1) (m.2.2.2.2.2.2.2.1) (m.2.2.2.2.2.2.2.2.1) (m.2.2.2.2.2.2.2.2.2.1) (m.2.2.2.2.2.2.2.2.2.2.1) (m.2.2.2.2.2.2.2.2.2.2.2.1) (m.2.2.2.2.2.2.2.2.2.2.2.2.1) (m.2.2.2.2.2.2.2.2.2.2.2.2.2.1) (m.2.2.2.2.2.2.2.2.2.2.2.2.2.2.1) (m.2.2.2.2.2.2.2.2.2.2.2.2.2.2.2.1) (m.2.2.2.2.2.2.2.2.2.2.2.2.2.2.2.2.1) (m.2.2.2.2.2.2.2.2.2.2.2.2.2.2.2.2.2.1) (m.2.2.2.2.2.2.2.2.2.2.2.2.2.2.2.2.2.2.1) (m.2.2.2.2.2.2.2.2.2.2.2.2.2.2.2.2.2.2.2.1) (m.2.2.2.2.2.2.2.2.2.2.2.2.2.2.2.2.2.2.2.2.1) (m.2.2.2.2.2.2.2.2.2.2.2.2.2.2.2.2.2.2.2.2.2.1) (m.2.2.2.2.2.2.2.2.2.2.2.2.2.2.2.2.2.2.2.2.2.2.1) (m.2.2.2.2.2.2.2.2.2.2.2.2.2.2.2.2.2.2.2.2.2.2.2.1) (m.2.2.2.2.2.2.2.2.2.2.2.2.2.2.2.2.2.2.2.2.2.2.2.2.1) (m.2.2.2.2.2.2.2.2.2.2.2.2.2.2.2.2.2.2.2.2.2.2.2.2.2.1) (m.2.2.2.2.2.2.2.2.2.2.2.2.2.2.2.2.2.2.2.2.2.2.2.2.2.2.1) (m.2.2.2.2.2.2.2.2.2.2.2.2.2.2.2.2.2.2.2.2.2.2.2.2.2.2.2.1) (m.2.2.2.2.2.2.2.2.2.2.2.2.2.2.2.2.2.2.2.2.2.2.2.2.2.2.2.2.1) (m.2.2.2.2.2.2.2.2.2.2.2.2.2.2.2.2.2.2.2.2.2.2.2.2.2.2.2.2.2.1) (m.2.2.2.2.2.2.2.2.2.2.2.2.2.2.2.2.2.2.2.2.2.2.2.2.2.2.2.2.2.2.1) (m.2.2.2.2.2.2.2.2.2.2.2.2.2.2.2.2.2.2.2.2.2.2.2.2.2.2.2.2.2.2.2.1) (m.2.2.2.2.2.2.2.2.2.2.2.2.2.2.2.2.2.2.2.2.2.2.2.2.2.2.2.2.2.2.2.2.1) (m.2.2.2.2.2.2.2.2.2.2.2.2.2.2.2.2.2.2.2.2.2.2.2.2.2.2.2.2.2.2.2.2.2.1) (m.2.2.2.2.2.2.2.2.2.2.2.2.2.2.2.2.2.2.2.2.2.2.2.2.2.2.2.2.2.2.2.2.2.2.1) (m.2.2.2.2.2.2.2.2.2.2.2.2.2.2.2.2.2.2.2.2.2.2.2.2.2.2.2.2.2.2.2.2.2.2.2) o = some R ∧ Inv R.1 R.2.1 R.2.2 := by
  obtain ⟨b, c, tn, tx, pn, pg, hC, hw, hmw, hB, hp, ht⟩ := h
  obtain ⟨h1, h2, h3, h4⟩ := ht
  rw [h2, h3, mC_5]
  simp only [gd1 hL hL2, gd2 hL hL2, gd3 hL hL2, gd4 hL hL2, gd5 hL hL2, if_false]
  generalize ((((((xs (nI j + 1).toNatClampNeg).toInt64) <<< ((32 : Int32).toInt64 &&& 63))) ||| (((xs (nI j + 2).toNatClampNeg).toInt64) &&& 4294967295))) = v
  have hn8 := nzc_le v 8
  have b1 : mX11_bytesWithin k v = some (nI (nzc v 8)) := by
    have h9 : mX11_bytesWithin_L5 v k 0 56 = some (nI (nzc v 8)) := pr_bw5 8 k 0 (by omega) (by omega) (Nat.zero_add _)
    rw [mX11_bytesWithin, h9]
    rfl
  have b2 : mX13_type_L5 v k 0 0 = some (nI (nzc v 8)) := pr_rt5 8 0 k (by omega) (by omega)
  by_cases hr : tn + nzc v 8 ≤ 300
  · obtain ⟨f2, e1, a1⟩ := pr_ct11 (v := v) 8 k tn tx (x.2.2.2.2.2.2.1) (by omega) (by omega) hr (fun q hq => (h4 q hq).1)
    obtain ⟨f3, e2, a2⟩ := pr_rt73 (v := v) 8 k tn tx (m.2.2.2.2.2.2.2.2.2.2.2.2.2.2.2.2.2.2.2.2.2.2.2.2.2.1) (by omega) (by omega) hr (fun q hq => (h4 q hq).2.1)
    have hN := tyN_eq v 8 tn
    have e1' : mX11_type_L11 v 300 k 56 (nI tn) (x.2.2.2.2.2.2.1) = some (nI (tyN v 8 tn), f2) := e1
    have e2' : mX13_type_L73 v k 7 (nI tn) (m.2.2.2.2.2.2.2.2.2.2.2.2.2.2.2.2.2.2.2.2.2.2.2.2.2.1) = some (nI (tyN v 8 tn), f3) := e2
    have eL : mL_type k 300 (x.2.2.2.2.2.2.1) (nI tn) o v = some (0, f2, nI (tyN v 8 tn), vp_updL o 0 ((nI (tyN v 8 tn)).toInt64)) := by
      rw [mL_type, mL_type_N, mX11_type, b1]
      simp only [Option.bind_some]
      rw [mX11_checkRoom, mX6_size]
      simp only [Option.bind_some]
      rw [nI_add, if_pos (show nI (tn + nzc v 8) ≤ (300 : Int32) from nI_le (b := 300) hr (by omega))]
      simp only [Option.bind_some]
      rw [e1']
      simp only [Option.bind_some, mX6_size, c00, z00, if_false]
    have eM : mX13_type k (m.2.2.2.2.2.2.2.2.2.2.2.2.2.2.2.2.2.2.2.2.2.2.2.2.2.1) (nI tn) v = some (nI (tyN v 8 tn), 0, f3, nI (tyN v 8 tn)) := by
      rw [mX13_type, b2]
      simp only [Option.bind_some]
      rw [nI_add, if_neg (show ¬ (300 : Int32) < nI (tn + nzc v 8) from nI_nlt (a := 300) (by omega) (by omega))]
      simp only [Option.bind_some, ps_11]
      rw [if_neg (by decide), e2']
      rfl
    rw [eL]
    simp only [Option.bind_some]
    rw [eM]
    simp only [Option.bind_some, mX13_thrown, if_true, c00, z00, if_false, up_0]
    rw [if_pos ((lg_cmp_eq _ _).mpr rfl)]
    exact ⟨_, rfl, ⟨b, c, tyN v 8 tn, tyX v 8 tn tx, pn, pg, hC, hw, hmw, hB, hp, ⟨by omega, rfl, rfl, fun q hq => ⟨a1 q hq, a2 q hq, tyX_lt v 8 tn tx (fun r hr => (h4 r hr).2.2) q hq⟩⟩⟩⟩
  · have eL : mL_type k 300 (x.2.2.2.2.2.2.1) (nI tn) o v = some (1, (x.2.2.2.2.2.2.1), nI tn, o) := by
      rw [mL_type, mL_type_N, mX11_type, b1, mL_type_T5_15, mX11_type_T5_15, b1]
      simp only [Option.bind_some]
      rw [mX11_checkRoom, mX6_size, mX11_checkRoom_T15, mX6_size]
      simp only [Option.bind_some]
      rw [nI_add, if_neg (show ¬ nI (tn + nzc v 8) ≤ (300 : Int32) from nI_ge (a := 300) (by omega) (by omega)), if_neg (show ¬ nI (tn + nzc v 8) ≤ (300 : Int32) from nI_ge (a := 300) (by omega) (by omega))]
      rfl
    have eM : mX13_type k (m.2.2.2.2.2.2.2.2.2.2.2.2.2.2.2.2.2.2.2.2.2.2.2.2.2.1) (nI tn) v = some (0, 1, (m.2.2.2.2.2.2.2.2.2.2.2.2.2.2.2.2.2.2.2.2.2.2.2.2.2.1), nI tn) := by
      rw [mX13_type, b2]
      simp only [Option.bind_some]
      rw [nI_add, if_pos (show (300 : Int32) < nI (tn + nzc v 8) from nI_lt (a := 300) (by omega) (by omega))]
      rfl
    rw [eL]
    simp only [Option.bind_some]
    rw [eM]
    simp only [Option.bind_some, mX13_thrown, if_true, e10, e20, if_false]
    exact ⟨_, rfl, ⟨b, c, tn, tx, pn, pg, hC, hw, hmw, hB, hp, ⟨h1, rfl, rfl, h4⟩⟩⟩
def chN (i1 q : Nat) : Nat := (sByt i1 q &&& 255).toBitVec.toNat
def exOK (i1 : Nat) : Prop := mJ0_length_8abf5 i1 = some (nI (sLen i1)) ∧ sLen i1 ≤ 300 ∧ ∀ q, q < sLen i1 → mJ0_charAt_5068e (nI q) i1 = some (nI (chN i1 q)) ∧ 0 < chN i1 q ∧ chN i1 q < 256
set_option maxRecDepth 100000 in
theorem ex_39 : exOK 39 := ⟨by decide +kernel, by decide +kernel, by decide +kernel⟩
set_option maxRecDepth 100000 in
theorem ex_40 : exOK 40 := ⟨by decide +kernel, by decide +kernel, by decide +kernel⟩
set_option maxRecDepth 100000 in
theorem ex_41 : exOK 41 := ⟨by decide +kernel, by decide +kernel, by decide +kernel⟩
theorem pr_ex6 {i1 : Nat} (hx : exOK i1) : ∀ (d i k : Nat) (f : Nat → Int32), i + d = sLen i1 → d < k → (∀ q, q < i → f q = nI (chN i1 q)) → ∃ f2, mX6_becomeText_L6 i1 300 k (nI i) (nI i) f = some (nI (sLen i1), f2) ∧ ∀ q, q < sLen i1 → f2 q = nI (chN i1 q)
  | _, _, 0, _, _, hk, _ => absurd hk (Nat.not_lt_zero _)
  | 0, i, k + 1, f, h, _, q1 => ⟨f, by
    have h2 := hx.2.1
    rw [mX6_becomeText_L6, hx.1]
    simp only [Option.bind_some]
    rw [if_pos (nI_le (by omega) (by omega)), show i = sLen i1 by omega], fun q hq => q1 q (by omega)⟩
  | d + 1, i, k + 1, f, h, hk, q1 => by
    have h2 := hx.2.1
    have h3 := hx.2.2 i (by omega)
    obtain ⟨f2, e, r⟩ := pr_ex6 hx d (i + 1) k (upd f i (nI (chN i1 i))) (by omega) (by omega) (fun q hq => by
      by_cases hqi : q = i
      · rw [hqi, pk_us]
      · rw [pk_un hqi]
        exact q1 q (by omega))
    refine ⟨f2, ?_, r⟩
    rw [mX6_becomeText_L6, hx.1]
    simp only [Option.bind_some]
    rw [if_neg (nI_ge (by omega) (by omega)), h3.1]
    simp only [Option.bind_some]
    rw [pr_append _ (by omega) (by omega)]
    simp only [Option.bind_some]
    rw [nI_1]
    exact e
theorem pr_ex28 {i1 : Nat} (hx : exOK i1) : ∀ (d i k : Nat) (f : Nat → Int32), i + d = sLen i1 → d < k → (∀ q, q < i → f q = nI (chN i1 q)) → ∃ f2, mX13_example_L28 i1 k (nI i) (nI i) f = some (nI (sLen i1), f2) ∧ ∀ q, q < sLen i1 → f2 q = nI (chN i1 q)
  | _, _, 0, _, _, hk, _ => absurd hk (Nat.not_lt_zero _)
  | 0, i, k + 1, f, h, _, q1 => ⟨f, by
    have h2 := hx.2.1
    rw [mX13_example_L28, hx.1]
    simp only [Option.bind_some]
    rw [if_pos (nI_le (by omega) (by omega)), show i = sLen i1 by omega], fun q hq => q1 q (by omega)⟩
  | d + 1, i, k + 1, f, h, hk, q1 => by
    have h2 := hx.2.1
    have h3 := hx.2.2 i (by omega)
    obtain ⟨f2, e, r⟩ := pr_ex28 hx d (i + 1) k (upd f i (nI (chN i1 i))) (by omega) (by omega) (fun q hq => by
      by_cases hqi : q = i
      · rw [hqi, pk_us]
      · rw [pk_un hqi]
        exact q1 q (by omega))
    refine ⟨f2, ?_, r⟩
    rw [mX13_example_L28, hx.1]
    simp only [Option.bind_some]
    rw [if_neg (nI_ge (by omega) (by omega)), h3.1]
    simp only [Option.bind_some]
    rw [pr_typed h3.2.1 (by omega) (by omega)]
    simp only [Option.bind_some]
    rw [nI_1]
    exact e
theorem pr_cex {i1 k : Nat} {f : Nat → Int32} (hx : exOK i1) (hk : 301 < k) : ∃ f2, mX6_becomeText k 300 f i1 = some (f2, nI (sLen i1)) ∧ ∀ q, q < sLen i1 → f2 q = nI (chN i1 q) := by
  have h2 := hx.2.1
  obtain ⟨f2, e, r⟩ := pr_ex6 hx (sLen i1) 0 k f (by omega) (by omega) (fun q hq => absurd hq (Nat.not_lt_zero _))
  have e' : mX6_becomeText_L6 i1 300 k 0 0 f = some (nI (sLen i1), f2) := e
  refine ⟨f2, ?_, r⟩
  rw [mX6_becomeText, mX6_empty]
  simp only [Option.bind_some]
  rw [e']
  rfl
theorem cl_example_bad {k : Nat} {f : Nat → Int32} {l p : Int32} {o : Nat → Int64} (h3 : p < 0 ∨ ¬ p ≤ 2) : mL_example k 300 f l o p = some (1, f, l, o) := by
  have eN : mX11_example k 300 f p = none := by
    rw [mX11_example]
    by_cases h0 : p < 0
    · rw [if_pos h0]
    · rw [if_neg h0, if_neg (h3.resolve_left h0)]
  have eT : mX11_example_T9 k 300 f p = some () := by
    rw [mX11_example_T9]
    by_cases h0 : p < 0
    · rw [if_pos h0]
      rfl
    · rw [if_neg h0, if_neg (h3.resolve_left h0)]
      rfl
  rw [mL_example, mL_example_N, eN, mL_example_T9, eT]
  rfl
theorem rf_example_bad {k : Nat} {f : Nat → Int32} {l p : Int32} (h3 : p < 0 ∨ ¬ p ≤ 2) : mX13_example k f l p = some (0, 1, f, l) := by
  rw [mX13_example, in2_bad h3]
  rfl
set_option maxHeartbeats 4000000 in
set_option maxRecDepth 100000 in
theorem hs_9 {k L j : Nat} {xs : Nat → Int32} {ax : Nat → Nat} {x : XS} {m : MS} {o : Nat → Int64} (hk : 1000 ≤ k) (hL : j + 6 ≤ L) (hL2 : L ≤ 3072) (h : Inv x m o) : ∃ R, mC_9 k xs L (nI j) (x.1) (x.2.1) (x.2.2.1) (x.2.2.2.1) (x.2.2.2.2.1) (x.2.2.2.2.2.1) (x.2.2.2.2.2.2.1) (x.2.2.2.2.2.2.2.1) (x.2.2.2.2.2.2.2.2.1) (x.2.2.2.2.2.2.2.2.2.1) (x.2.2.2.2.2.2.2.2.2.2.1) (x.2.2.2.2.2.2.2.2.2.2.2.1) (x.2.2.2.2.2.2.2.2.2.2.2.2.1) (x.2.2.2.2.2.2.2.2.2.2.2.2.2.1) (x.2.2.2.2.2.2.2.2.2.2.2.2.2.2.1) (x.2.2.2.2.2.2.2.2.2.2.2.2.2.2.2.1) (x.2.2.2.2.2.2.2.2.2.2.2.2.2.2.2.2.1) (x.2.2.2.2.2.2.2.2.2.2.2.2.2.2.2.2.2.1) (x.2.2.2.2.2.2.2.2.2.2.2.2.2.2.2.2.2.2.1) (x.2.2.2.2.2.2.2.2.2.2.2.2.2.2.2.2.2.2.2.1) (x.2.2.2.2.2.2.2.2.2.2.2.2.2.2.2.2.2.2.2.2.1) (x.2.2.2.2.2.2.2.2.2.2.2.2.2.2.2.2.2.2.2.2.2.1) (x.2.2.2.2.2.2.2.2.2.2.2.2.2.2.2.2.2.2.2.2.2.2.1) (x.2.2.2.2.2.2.2.2.2.2.2.2.2.2.2.2.2.2.2.2.2.2.2.1) (x.2.2.2.2.2.2.2.2.2.2.2.2.2.2.2.2.2.2.2.2.2.2.2.2.1) (x.2.2.2.2.2.2.2.2.2.2.2.2.2.2.2.2.2.2.2.2.2.2.2.2.2.1) (x.2.2.2.2.2.2.2.2.2.2.2.2.2.2.2.2.2.2.2.2.2.2.2.2.2.2.1) (x.2.2.2.2.2.2.2.2.2.2.2.2.2.2.2.2.2.2.2.2.2.2.2.2.2.2.2.1) (x.2.2.2.2.2.2.2.2.2.2.2.2.2.2.2.2.2.2.2.2.2.2.2.2.2.2.2.2.1) (x.2.2.2.2.2.2.2.2.2.2.2.2.2.2.2.2.2.2.2.2.2.2.2.2.2.2.2.2.2.1) (x.2.2.2.2.2.2.2.2.2.2.2.2.2.2.2.2.2.2.2.2.2.2.2.2.2.2.2.2.2.2.1) (x.2.2.2.2.2.2.2.2.2.2.2.2.2.2.2.2.2.2.2.2.2.2.2.2.2.2.2.2.2.2.2.1) (x.2.2.2.2.2.2.2.2.2.2.2.2.2.2.2.2.2.2.2.2.2.2.2.2.2.2.2.2.2.2.2.2) (m.2.1) (m.2.2.1) (m.2.2.2.1) (m.2.2.2.2.1) (m.2.2.2.2.2.1) (m.2.2.2.2.2.2.1) (m.2.2.2.2.2.2.2.1) (m.2.2.2.2.2.2.2.2.1) (m.2.2.2.2.2.2.2.2.2.1) (m.2.2.2.2.2.2.2.2.2.2.1) (m.2.2.2.2.2.2.2.2.2.2.2.1) (m.2.2.2.2.2.2.2.2.2.2.2.2.1) (m.2.2.2.2.2.2.2.2.2.2.2.2.2.1) (m.2.2.2.2.2.2.2.2.2.2.2.2.2.2.1) (m.2.2.2.2.2.2.2.2.2.2.2.2.2.2.2.1) (m.2.2.2.2.2.2.2.2.2.2.2.2.2.2.2.2.1) (m.2.2.2.2.2.2.2.2.2.2.2.2.2.2.2.2.2.1) (m.2.2.2.2.2.2.2.2.2.2.2.2.2.2.2.2.2.2.1) (m.2.2.2.2.2.2.2.2.2.2.2.2.2.2.2.2.2.2.2.1) (m.2.2.2.2.2.2.2.2.2.2.2.2.2.2.2.2.2.2.2.2.1) (m.2.2.2.2.2.2.2.2.2.2.2.2.2.2.2.2.2.2.2.2.2.1) (m.2.2.2.2.2.2.2.2.2.2.2.2.2.2.2.2.2.2.2.2.2.2.1) (m.2.2.2.2.2.2.2.2.2.2.2.2.2.2.2.2.2.2.2.2.2.2.2.1) (m.2.2.2.2.2.2.2.2.2.2.2.2.2.2.2.2.2.2.2.2.2.2.2.2.1) (m.2.2.2.2.2.2.2.2.2.2.2.2.2.2.2.2.2.2.2.2.2.2.2.2.2.1) (m.2.2.2.2.2.2.2.2.2.2.2.2.2.2.2.2.2.2.2.2.2.2.2.2.2.2.1) (m.2.2.2.2.2.2.2.2.2.2.2.2.2.2.2.2.2.2.2.2.2.2.2.2.2.2.2.1) (m.2.2.2.2.2.2.2.2.2.2.2.2.2.2.2.2.2.2.2.2.2.2.2.2.2.2.2.2.1) (m.2.2.2.2.2.2.2.2.2.2.2.2.2.2.2.2.2.2.2.2.2.2.2.2.2.2.2.2.2.1) (m.2.2.2.2.2.2.2.2.2.2.2.2.2.2.2.2.2.2.2.2.2.2.2.2.2.2.2.2.2.2.1) (m.2.2.2.2.2.2.2.2.2.2.2.2.2.2.2.2.2.2.2.2.2.2.2.2.2.2.2.2.2.2.2.1) (m.2.2.2.2.2.2.2.2.2.2.2.2.2.2.2.2.2.2.2.2.2.2.2.2.2.2.2.2.2.2.2.2.1) (m.2.2.2.2.2.2.2.2.2.2.2.2.2.2.2.2.2.2.2.2.2.2.2.2.2.2.2.2.2.2.2.2.2.1) (m.2.2.2.2.2.2.2.2.2.2.2.2.2.2.2.2.2.2.2.2.2.2.2.2.2.2.2.2.2.2.2.2.2.2.1) (m.2.2.2.2.2.2.2.2.2.2.2.2.2.2.2.2.2.2.2.2.2.2.2.2.2.2.2.2.2.2.2.2.2.2.2) o = some R ∧ Inv R.1 R.2.1 R.2.2 := by
  obtain ⟨b, c, tn, tx, pn, pg, hC, hw, hmw, hB, hp, ht⟩ := h
  obtain ⟨h1, h2, h3, h4⟩ := ht
  rw [mC_9]
  simp only [gd1 hL hL2, gd2 hL hL2, gd3 hL hL2, gd4 hL hL2, gd5 hL hL2, if_false]
  generalize xs (nI j + 1).toNatClampNeg = p
  by_cases hb : p < 0 ∨ ¬ p ≤ 2
  · rw [cl_example_bad hb]
    simp only [Option.bind_some]
    rw [rf_example_bad hb]
    simp only [Option.bind_some, mX13_thrown, if_true, e10, e20, if_false]
    exact ⟨_, rfl, ⟨b, c, tn, tx, pn, pg, hC, hw, hmw, hB, hp, ⟨h1, h2, h3, h4⟩⟩⟩
  · have hn : ¬ p < 0 := fun z => hb (Or.inl z)
    have hle : p ≤ 2 := Decidable.byContradiction (fun z => hb (Or.inr z))
    obtain ⟨i1, hx, ei, hi44, ec⟩ : ∃ i1, exOK i1 ∧ mX13_exampleOf p = some i1 ∧ i1 < 44 ∧ (if p = 0 then ((mX6_becomeText k 300 (x.2.2.2.2.2.2.1) 39).bind (fun r_20 => ((mX6_size r_20.2).bind (fun r_21 => some (r_21, r_20.1, r_20.2))))) else (if p = 1 then ((mX6_becomeText k 300 (x.2.2.2.2.2.2.1) 40).bind (fun r_18 => ((mX6_size r_18.2).bind (fun r_19 => some (r_19, r_18.1, r_18.2))))) else ((mX6_becomeText k 300 (x.2.2.2.2.2.2.1) 41).bind (fun r_16 => ((mX6_size r_16.2).bind (fun r_17 => some (r_17, r_16.1, r_16.2))))))) = ((mX6_becomeText k 300 (x.2.2.2.2.2.2.1) i1).bind (fun r_20 => ((mX6_size r_20.2).bind (fun r_21 => some (r_21, r_20.1, r_20.2))))) := by
      by_cases h0 : p = 0
      · exact ⟨39, ex_39, by rw [mX13_exampleOf, if_pos h0], by decide, by rw [if_pos h0]⟩
      · by_cases h10 : p = 1
        · exact ⟨40, ex_40, by rw [mX13_exampleOf, if_neg h0, if_pos h10], by decide, by rw [if_neg h0, if_pos h10]⟩
        · exact ⟨41, ex_41, by rw [mX13_exampleOf, if_neg h0, if_neg h10], by decide, by rw [if_neg h0, if_neg h10]⟩
    obtain ⟨f2, e1, a1⟩ := pr_cex (k := k) (f := (x.2.2.2.2.2.2.1)) hx (by omega)
    have hl := hx.2.1
    obtain ⟨f3, e2, a2⟩ := pr_ex28 hx (sLen i1) 0 k (m.2.2.2.2.2.2.2.2.2.2.2.2.2.2.2.2.2.2.2.2.2.2.2.2.2.1) (by omega) (by omega) (fun q hq => absurd hq (Nat.not_lt_zero _))
    have e2' : mX13_example_L28 i1 k 0 0 (m.2.2.2.2.2.2.2.2.2.2.2.2.2.2.2.2.2.2.2.2.2.2.2.2.2.1) = some (nI (sLen i1), f3) := e2
    have eL : mL_example k 300 (x.2.2.2.2.2.2.1) (x.2.2.2.2.2.2.2.1) o p = some (0, f2, nI (sLen i1), vp_updL o 0 ((nI (sLen i1)).toInt64)) := by
      rw [mL_example, mL_example_N, mX11_example, if_neg hn, if_pos hle, ec, e1]
      simp only [Option.bind_some, mX6_size, c00, z00, if_false]
    have eM : mX13_example k (m.2.2.2.2.2.2.2.2.2.2.2.2.2.2.2.2.2.2.2.2.2.2.2.2.2.1) (m.2.2.2.2.2.2.2.2.2.2.2.2.2.2.2.2.2.2.2.2.2.2.2.2.2.2.1) p = some (nI (sLen i1), 0, f3, nI (sLen i1)) := by
      rw [mX13_example, in2_ok hb]
      simp only [Option.bind_some, ps_11]
      rw [if_neg (by decide), ei]
      simp only [Option.bind_some]
      rw [if_neg (by omega), e2']
      rfl
    rw [eL]
    simp only [Option.bind_some]
    rw [eM]
    simp only [Option.bind_some, mX13_thrown, if_true, c00, z00, if_false, up_0]
    rw [if_pos ((lg_cmp_eq _ _).mpr rfl)]
    exact ⟨_, rfl, ⟨b, c, sLen i1, chN i1, pn, pg, hC, hw, hmw, hB, hp, ⟨hl, rfl, rfl, fun q hq => ⟨a1 q hq, a2 q hq, (hx.2.2 q hq).2.2⟩⟩⟩⟩
