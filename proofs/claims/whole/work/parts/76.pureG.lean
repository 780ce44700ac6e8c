/-! pure: quotients of the class -/
theorem lN_div {a d : Nat} (ha : a < 2 ^ 63) (h0 : 0 < d) (hd : d < 2 ^ 63) : lN a / lN d = lN (a / d) := by
  apply Int64.toInt_inj.mp
  have e1 := pk_lT ha
  have e2 := pk_lT hd
  rw [lg_ldiv_nonneg (by rw [e1]; omega) (by rw [e2]; omega), e1, e2, pk_lT (Nat.lt_of_le_of_lt (Nat.div_le_self _ _) ha)]
  rfl
theorem pr_pq {a d : Nat} (ha : a < 2 ^ 64) (h0 : 0 < d) (hd : d < 2 ^ 64) : mX1_plainQuotient (lN a) (lN d) = some (lN (a / d)) := by
  have ia := lN_ti ha
  have id := lN_ti hd
  have z0 : (0 : Int64).toInt = 0 := rfl
  rw [mX1_plainQuotient]
  by_cases hd2 : d < 2 ^ 63
  · rw [if_pos hd2] at id
    have hne : ¬ lN d = 0 := fun z => by
      rw [z, z0] at id
      omega
    rw [if_pos ((lg_cmp_gt _ _).mpr (Int64.lt_iff_toInt_lt.mpr (by rw [id, z0]; omega)))]
    by_cases ha2 : a < 2 ^ 63
    · rw [if_pos ha2] at ia
      rw [if_neg (fun z => by
        have h9 := Int64.lt_iff_toInt_lt.mp ((lg_cmp_lt _ _).mp z)
        rw [ia, z0] at h9
        omega), if_neg hne, lN_div ha2 h0 hd2]
    · rw [if_neg ha2] at ia
      rw [if_pos ((lg_cmp_lt _ _).mpr (Int64.lt_iff_toInt_lt.mpr (by rw [ia, z0]; omega))), if_neg hne, k_wshr ha (k := 1) (by decide), lN_div (by omega) h0 hd2]
      have l2 : lN (a / 2 ^ 1 / d) * 2 = lN (a / 2 / d * 2) := lN_mul _ 2
      have q1 : a / 2 / d * d ≤ a / 2 := Nat.div_mul_le_self _ _
      have q2 : a / 2 < a / 2 / d * d + d := Nat.lt_div_mul_add h0
      have q3 : a / 2 / d * 2 * d = 2 * (a / 2 / d * d) := by rw [Nat.mul_right_comm, Nat.mul_comm]
      rw [l2]
      simp only [Option.bind_some]
      rw [lN_mul, q3, lN_sub (by omega)]
      have q5 : (a / 2 / d * 2 + 1) * d = 2 * (a / 2 / d * d) + d := by rw [Nat.add_mul, q3, Nat.one_mul]
      have q6 : (a / 2 / d * 2 + 1 + 1) * d = 2 * (a / 2 / d * d) + d + d := by rw [Nat.add_mul, q5, Nat.one_mul]
      have hbig : d ≤ a - 2 * (a / 2 / d * d) → a / d = a / 2 / d * 2 + 1 := fun h => Nat.div_eq_of_lt_le (by rw [q5]; omega) (by rw [q6]; omega)
      have hsm : a - 2 * (a / 2 / d * d) < d → a / d = a / 2 / d * 2 := fun h => Nat.div_eq_of_lt_le (by rw [q3]; omega) (by rw [q5]; omega)
      generalize a / 2 / d * d = M at *
      have il := lN_ti (m := a - 2 * M) (by omega)
      by_cases hl : a - 2 * M < 2 ^ 63
      · rw [if_pos hl] at il
        rw [if_neg (fun z => by
          have h9 := Int64.lt_iff_toInt_lt.mp ((lg_cmp_lt _ _).mp z)
          rw [il, z0] at h9
          omega)]
        by_cases hld : a - 2 * M < d
        · rw [if_pos ((lg_cmp_lt _ _).mpr (Int64.lt_iff_toInt_lt.mpr (by rw [il, id]; omega))), hsm hld]
        · rw [if_neg (fun z => by
            have h9 := Int64.lt_iff_toInt_lt.mp ((lg_cmp_lt _ _).mp z)
            rw [il, id] at h9
            omega), hbig (by omega), lN_1]
      · rw [if_neg hl] at il
        rw [if_pos ((lg_cmp_lt _ _).mpr (Int64.lt_iff_toInt_lt.mpr (by rw [il, z0]; omega))), hbig (by omega), lN_1]
  · rw [if_neg hd2] at id
    rw [if_neg (fun z => by
      have h9 := Int64.lt_iff_toInt_lt.mp ((lg_cmp_gt _ _).mp z)
      rw [id, z0] at h9
      omega)]
    by_cases ha2 : a < 2 ^ 63
    · rw [if_pos ha2] at ia
      rw [if_pos ((lg_cmp_ge _ _).mpr (Int64.le_iff_toInt_le.mpr (by rw [ia, z0]; omega))), Nat.div_eq_of_lt (by omega)]
      rfl
    · rw [if_neg ha2] at ia
      rw [if_neg (fun z => by
        have h9 := Int64.le_iff_toInt_le.mp ((lg_cmp_ge _ _).mp z)
        rw [ia, z0] at h9
        omega)]
      by_cases hlt : a < d
      · rw [if_pos ((lg_cmp_lt _ _).mpr (Int64.lt_iff_toInt_lt.mpr (by rw [ia, id]; omega))), Nat.div_eq_of_lt hlt]
        rfl
      · rw [if_neg (fun z => by
          have h9 := Int64.lt_iff_toInt_lt.mp ((lg_cmp_lt _ _).mp z)
          rw [ia, id] at h9
          omega), Nat.div_eq_of_lt_le (k := 1) (by omega) (by omega)]
        rfl
theorem pr_plainQuotient (u v : BitVec 64) (hv : v ≠ 0#64) : mX1_plainQuotient (Int64.ofBitVec u) (Int64.ofBitVec v) = some (Int64.ofBitVec (u / v)) := by
  have h0 : 0 < v.toNat := Nat.pos_of_ne_zero (fun z => hv (BitVec.eq_of_toNat_eq (by rw [z]; rfl)))
  rw [← lN_bv64 u, ← lN_bv64 v, pr_pq u.isLt h0 v.isLt, ← lN_bv64 (u / v), BitVec.toNat_udiv]
/-- the quotient of w bits -/
def quo (p : Bool) {w : Nat} (x y : BitVec w) : BitVec w := if isNg p x != isNg p y then -(mag p x / mag p y) else mag p x / mag p y
theorem isNg_int {w : Nat} (x : BitVec w) : isNg false x = decide (x.toInt < 0) := by
  show (true && x.msb) = _
  rw [Bool.true_and, BitVec.msb_eq_toInt]
theorem mag_nat {w : Nat} (x : BitVec w) : (mag false x).toNat = x.toInt.natAbs := by
  have h := BitVec.toInt_eq_msb_cond x
  have hlt := x.isLt
  have e : isNg false x = x.msb := Bool.true_and _
  unfold mag
  rw [e]
  cases hm : x.msb with
  | false =>
    rw [hm] at h
    have h2 : x.toInt = (x.toNat : Int) := h
    rw [if_neg (by decide), h2]
    rfl
  | true =>
    rw [hm] at h
    have h2 : x.toInt = (x.toNat : Int) - (2 ^ w : Nat) := h
    have hpos : 0 < x.toNat := by
      apply Nat.pos_of_ne_zero
      intro z
      have h3 : x = 0#w := BitVec.eq_of_toNat_eq (by rw [z]; simp)
      rw [h3] at hm
      simp at hm
    rw [if_pos rfl, h2, BitVec.toNat_neg, Nat.mod_eq_of_lt (by omega)]
    omega
theorem sdiv_quo (u v : BitVec 64) : u.sdiv v = quo false u v := by
  rw [BitVec.sdiv_eq]
  unfold quo mag isNg
  cases u.msb <;> cases v.msb <;> rfl
theorem div_low {w : Nat} (hw : w ≤ 64) {u v : BitVec 64} {x y : BitVec w} (h1 : u.toNat = x.toNat) (h2 : v.toNat = y.toNat) : (u / v).setWidth w = x / y := by
  apply BitVec.eq_of_toNat_eq
  rw [BitVec.toNat_setWidth, BitVec.toNat_udiv, BitVec.toNat_udiv, h1, h2, Nat.mod_eq_of_lt (Nat.lt_of_le_of_lt (Nat.div_le_self _ _) x.isLt)]
theorem quo_low {b : Bool} (x y : BitVec 64) : (quo false (sgn b x) (sgn b y)).setWidth (wd b) = quo false (x.setWidth (wd b)) (y.setWidth (wd b)) := by
  unfold quo
  rw [isNg_int, isNg_int, isNg_int, isNg_int, sgn_int, sgn_int]
  have hd : (mag false (sgn b x) / mag false (sgn b y)).setWidth (wd b) = mag false (x.setWidth (wd b)) / mag false (y.setWidth (wd b)) := div_low (wd_le b) (by rw [mag_nat, mag_nat, sgn_int]) (by rw [mag_nat, mag_nat, sgn_int])
  split
  · rw [BitVec.setWidth_neg_of_le (wd_le b), hd]
  · exact hd
theorem quo_p {w : Nat} (x y : BitVec w) : quo true x y = x / y := rfl
theorem vlu_low {b p : Bool} (v : BitVec 64) : (vlu b p v).setWidth (wd b) = v.setWidth (wd b) := by
  unfold vlu
  split
  · exact pln_low v
  · exact sgn_low v
theorem vlu_0 {b p : Bool} (v : BitVec 64) : vlu b p v = 0#64 ↔ v.setWidth (wd b) = 0#(wd b) := by
  constructor
  · intro h
    rw [← vlu_low (b := b) (p := p) v, h]
    simp
  · intro h
    cases p with
    | true =>
      show pln b v = _
      unfold pln
      rw [h]
      cases b <;> decide
    | false =>
      show sgn b v = _
      unfold sgn
      rw [h]
      cases b <;> decide
theorem pr_divideInto0 {b p : Bool} {f : Nat → Int64} {c : Nat → BitVec 64} {i j : Nat} (r : Int32) (hC : isC f c) (hi : i < 8) (hj : j < 8) (h0 : (c j).setWidth (wd b) = 0#(wd b)) : mX2_divideInto f (bI b) (nI i) (nI j) r (bI p) = some (0, f) := by
  rw [mX2_divideInto, pr_valueOf b p hC hi, pr_valueOf b p hC hj]
  simp only [Option.bind_some]
  rw [(vlu_0 _).mpr h0, if_pos ((lg_cmp_eq (Int64.ofBitVec 0#64) 0).mpr rfl)]
theorem pr_divideInto {b p : Bool} {f : Nat → Int64} {c : Nat → BitVec 64} {i j r : Nat} (hC : isC f c) (hi : i < 8) (hj : j < 8) (hr : r < 8) (h0 : (c j).setWidth (wd b) ≠ 0#(wd b)) : ∃ f2, mX2_divideInto f (bI b) (nI i) (nI j) (nI r) (bI p) = some (1, f2) ∧ isC f2 (upC (upC c i ((quo p ((c i).setWidth (wd b)) ((c j).setWidth (wd b))).signExtend 64)) r (((c i).setWidth (wd b) - quo p ((c i).setWidth (wd b)) ((c j).setWidth (wd b)) * (c j).setWidth (wd b)).signExtend 64)) := by
  have hw := wd_le b
  have hv : vlu b p (c j) ≠ 0#64 := fun z => h0 ((vlu_0 _).mp z)
  have hv2 : ¬ Int64.ofBitVec (vlu b p (c j)) = 0 := fun h => hv (show (Int64.ofBitVec (vlu b p (c j))).toBitVec = (0 : Int64).toBitVec from congrArg Int64.toBitVec h)
  obtain ⟨z, ez, hz⟩ : ∃ z : BitVec 64, ((if bI p = 0 then (if Int64.ofBitVec (vlu b p (c j)) = 0 then none else some (Int64.ofBitVec (vlu b p (c i)) / Int64.ofBitVec (vlu b p (c j)))) else ((mX1_plainQuotient (Int64.ofBitVec (vlu b p (c i))) (Int64.ofBitVec (vlu b p (c j)))).bind (fun r_9 => some r_9))) : Option Int64) = some (Int64.ofBitVec z) ∧ z.setWidth (wd b) = quo p ((c i).setWidth (wd b)) ((c j).setWidth (wd b)) := by
    cases p with
    | true =>
      refine ⟨vlu b true (c i) / vlu b true (c j), ?_, ?_⟩
      · rw [if_neg (by decide), pr_plainQuotient _ _ hv]
        rfl
      · rw [quo_p]
        exact div_low hw (pln_nat b _) (pln_nat b _)
    | false =>
      refine ⟨quo false (sgn b (c i)) (sgn b (c j)), ?_, quo_low _ _⟩
      rw [if_pos bI_f, if_neg hv2, ← sdiv_quo]
      rfl
  have hq : sgn b z = (quo p ((c i).setWidth (wd b)) ((c j).setWidth (wd b))).signExtend 64 := sgn_of hz
  have hr2 : sgn b (vlu b p (c i) - z * vlu b p (c j)) = ((c i).setWidth (wd b) - quo p ((c i).setWidth (wd b)) ((c j).setWidth (wd b)) * (c j).setWidth (wd b)).signExtend 64 := by
    refine sgn_of ?_
    rw [BitVec.sub_eq_add_neg, BitVec.setWidth_add _ _ hw, BitVec.setWidth_neg_of_le hw, BitVec.setWidth_mul _ _ hw, vlu_low, vlu_low, hz, ← BitVec.sub_eq_add_neg]
  have hC1 := hC.up i (sgn b z)
  have hC2 := hC1.up r (sgn b (vlu b p (c i) - z * vlu b p (c j)))
  rw [hr2, hq] at hC2
  refine ⟨_, ?_, hC2⟩
  rw [mX2_divideInto, pr_valueOf b p hC hi, pr_valueOf b p hC hj]
  simp only [Option.bind_some]
  rw [if_neg (fun h => hv2 ((lg_cmp_eq _ _).mp h))]
  rw [ez]
  simp only [Option.bind_some]
  rw [pr_put b z hi]
  simp only [Option.bind_some]
  have e2 : Int64.ofBitVec (vlu b p (c i)) - Int64.ofBitVec z * Int64.ofBitVec (vlu b p (c j)) = Int64.ofBitVec (vlu b p (c i) - z * vlu b p (c j)) := rfl
  rw [e2, pr_put b _ hr, hr2, hq]
  rfl
