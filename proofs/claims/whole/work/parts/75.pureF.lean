/-! pure: combine -/
def cmb (p3 : Int32) {w : Nat} (x y : BitVec w) : BitVec w := if p3 = 0 then x + y else if p3 = 1 then x - y else if p3 = 2 then x * y else if p3 = 3 then x &&& y else if p3 = 4 then x ||| y else x ^^^ y
theorem cmb_low (p3 : Int32) {w : Nat} (hw : w ≤ 64) (u v : BitVec 64) : (cmb p3 u v).setWidth w = cmb p3 (u.setWidth w) (v.setWidth w) := by
  unfold cmb
  by_cases h0 : p3 = 0
  · rw [if_pos h0, if_pos h0, BitVec.setWidth_add _ _ hw]
  · rw [if_neg h0, if_neg h0]
    by_cases h1 : p3 = 1
    · rw [if_pos h1, if_pos h1, BitVec.sub_eq_add_neg, BitVec.sub_eq_add_neg, BitVec.setWidth_add _ _ hw, BitVec.setWidth_neg_of_le hw]
    · rw [if_neg h1, if_neg h1]
      by_cases h2 : p3 = 2
      · rw [if_pos h2, if_pos h2, BitVec.setWidth_mul _ _ hw]
      · rw [if_neg h2, if_neg h2]
        by_cases h3 : p3 = 3
        · rw [if_pos h3, if_pos h3, BitVec.setWidth_and]
        · rw [if_neg h3, if_neg h3]
          by_cases h4 : p3 = 4
          · rw [if_pos h4, if_pos h4, BitVec.setWidth_or]
          · rw [if_neg h4, if_neg h4, BitVec.setWidth_xor]
theorem pr_combined {b : Bool} {f : Nat → Int64} {c : Nat → BitVec 64} {i j : Nat} (p3 : Int32) (h : isC f c) (hi : i < 8) (hj : j < 8) : mX2_combined f (bI b) (nI i) (nI j) p3 = some (Int64.ofBitVec (cmb p3 (sgn b (c i)) (sgn b (c j)))) := by
  rw [mX2_combined, pr_csigned b h hi, pr_csigned b h hj]
  simp only [Option.bind_some]
  unfold cmb
  by_cases h0 : p3 = 0
  · rw [if_pos h0, if_pos h0]
    rfl
  · rw [if_neg h0, if_neg h0]
    by_cases h1 : p3 = 1
    · rw [if_pos h1, if_pos h1]
      rfl
    · rw [if_neg h1, if_neg h1]
      by_cases h2 : p3 = 2
      · rw [if_pos h2, if_pos h2]
        rfl
      · rw [if_neg h2, if_neg h2]
        by_cases h3 : p3 = 3
        · rw [if_pos h3, if_pos h3]
          rfl
        · rw [if_neg h3, if_neg h3]
          by_cases h4 : p3 = 4
          · rw [if_pos h4, if_pos h4]
            rfl
          · rw [if_neg h4, if_neg h4]
            rfl
/-- the product by the lowest s bits -/
def mulp {w : Nat} (x y : BitVec w) (s : Nat) : BitVec w := BitVec.ofNat w (x.toNat * (y.toNat % 2 ^ s))
theorem shl_nat {w : Nat} (x : BitVec w) (s : Nat) : x <<< s = BitVec.ofNat w (x.toNat * 2 ^ s) := by
  apply BitVec.eq_of_toNat_eq
  rw [BitVec.toNat_shiftLeft, BitVec.toNat_ofNat, Nat.shiftLeft_eq]
theorem mod_bit (a s : Nat) : a % 2 ^ (s + 1) = a % 2 ^ s + 2 ^ s * (a.testBit s).toNat := by
  have h1 := nat_bit a s
  have h2 := Nat.div_add_mod a (2 ^ s)
  have h3 := Nat.div_add_mod a (2 ^ (s + 1))
  have h4 := Nat.mod_lt a (Nat.two_pow_pos (s + 1))
  have e : 2 ^ (s + 1) = 2 ^ s * 2 := Nat.pow_succ ..
  rw [h1, Nat.mul_add, ← Nat.mul_assoc, ← e] at h2
  omega
theorem mulp_s {w : Nat} (x y : BitVec w) (s : Nat) : mulp x y (s + 1) = if y.getLsbD s then mulp x y s + x <<< s else mulp x y s := by
  unfold mulp
  rw [mod_bit, shl_nat]
  show _ = if y.toNat.testBit s = true then _ else _
  cases y.toNat.testBit s with
  | true =>
    have e1 : true.toNat = 1 := rfl
    rw [if_pos rfl, ← BitVec.ofNat_add, Nat.mul_add, e1, Nat.mul_one]
  | false =>
    rw [if_neg (by decide)]
    rfl
theorem mulp_0 {w : Nat} (x y : BitVec w) : mulp x y 0 = 0#w := by
  unfold mulp
  rw [Nat.pow_zero, Nat.mod_one, Nat.mul_zero]
theorem mulp_w {w : Nat} (x y : BitVec w) : mulp x y w = x * y := by
  apply BitVec.eq_of_toNat_eq
  unfold mulp
  rw [Nat.mod_eq_of_lt y.isLt, BitVec.toNat_ofNat, BitVec.toNat_mul]
theorem pr_mul33 {b : Bool} {i1 s : Nat} {B : Nat → Nat → Int32} {x : BitVec (wd b)} (hB : isR (wd b) (B i1) x) : ∀ (d i k : Nat) (f : Nat → Int32), i + d = wd b → d < k → s ≤ i → (∀ q, q < i → f q = bI ((x <<< s).getLsbD q)) → ∃ R, mX12_multiplies_L33 (bI b) (nI s) B i1 k (nI i) f = some R ∧ isR (wd b) R (x <<< s)
  | _, _, 0, _, _, hk, _, _ => absurd hk (Nat.not_lt_zero _)
  | 0, i, k + 1, f, h, _, _, q1 => ⟨f, by
    have hw := wd_le b
    rw [mX12_multiplies_L33, pr_bits]
    simp only [Option.bind_some]
    rw [if_pos (nI_le (by omega) (by omega))], fun q hq => q1 q (by omega)⟩
  | d + 1, i, k + 1, f, h, hk, hs, q1 => by
    have hw := wd_le b
    have hi : i < wd b := by omega
    have hx : (x <<< s).getLsbD i = x.getLsbD (i - s) := by
      rw [BitVec.getLsbD_shiftLeft, decide_eq_true hi, decide_eq_false (show ¬ i < s by omega)]
      rfl
    obtain ⟨R, e, r1⟩ := pr_mul33 (s := s) hB d (i + 1) k (upd f i (bI ((x <<< s).getLsbD i))) (by omega) (by omega) (by omega) (fun q hq => by
      by_cases hqi : q = i
      · rw [hqi, pk_us]
      · rw [pk_un hqi]
        exact q1 q (by omega))
    refine ⟨R, ?_, r1⟩
    rw [mX12_multiplies_L33, pr_bits]
    simp only [Option.bind_some]
    rw [if_neg (nI_ge (by omega) (by omega)), pk_sub hs, if_neg (nI_in (show i - s < 64 by omega) (by omega)), if_neg (nI_in (show i < 65 by omega) (by omega)), nI_clamp (show i < 2 ^ 31 by omega), nI_clamp (show i - s < 2 ^ 31 by omega), hB _ (by omega), ← hx, nar_b, nI_1]
    exact e
theorem pr_mul9 {b : Bool} {i1 i2 K : Nat} {B : Nat → Nat → Int32} {x y : BitVec (wd b)} (h1 : isR (wd b) (B i1) x) (h2 : isR (wd b) (B i2) y) (hK : 65 < K) : ∀ (d s k : Nat) (one sum : Nat → Int32), s + d = wd b → d < k → isR (wd b) sum (mulp x y s) → ∃ one2 R, mX12_multiplies_L9 (bI b) B i2 K i1 k (nI s) one sum = some (one2, R) ∧ isR (wd b) R (x * y)
  | _, _, 0, _, _, _, hk, _ => absurd hk (Nat.not_lt_zero _)
  | 0, s, k + 1, one, sum, h, _, q1 => ⟨one, sum, by
    have hw := wd_le b
    rw [mX12_multiplies_L9, pr_bits]
    simp only [Option.bind_some]
    rw [if_pos (nI_le (by omega) (by omega))], by
    rw [show s = wd b by omega, mulp_w] at q1
    exact q1⟩
  | d + 1, s, k + 1, one, sum, h, hk, q1 => by
    have hw := wd_le b
    have hs : s < wd b := by omega
    have hm := mulp_s x y s
    cases hb : y.getLsbD s with
    | false =>
      rw [hb, if_neg (by decide)] at hm
      obtain ⟨o2, R, e, r1⟩ := pr_mul9 h1 h2 hK d (s + 1) k one sum (by omega) (by omega) (by rw [hm]; exact q1)
      refine ⟨o2, R, ?_, r1⟩
      rw [mX12_multiplies_L9, pr_bits]
      simp only [Option.bind_some]
      rw [if_neg (nI_ge hs (by omega)), if_neg (nI_in (show s < 64 by omega) (by omega)), nI_clamp (by omega), h2 s hs, hb, if_pos bI_f, nI_1]
      exact e
    | true =>
      rw [hb, if_pos rfl] at hm
      obtain ⟨f1, e1, a1, a2⟩ := pr_clear (N := 65) (k := K) (f := one) (by omega) (by omega)
      obtain ⟨f2, e2, a3⟩ := pr_mul33 (s := s) h1 (wd b - s) s K f1 (by omega) (by omega) (Nat.le_refl _) (fun q hq => by
        rw [a1 q (by omega), BitVec.getLsbD_shiftLeft, decide_eq_true hq]
        simp
        rfl)
      obtain ⟨f3, e3, a4, a5⟩ := pr_adds (N1 := 65) (N2 := 65) (k := K) false q1 a3 (by omega) (by omega) (by omega) (by omega) (by omega) (by omega)
      rw [if_neg (by decide), ← hm] at a4
      obtain ⟨o2, R, e, r1⟩ := pr_mul9 h1 h2 hK d (s + 1) k f2 f3 (by omega) (by omega) a4
      refine ⟨o2, R, ?_, r1⟩
      rw [mX12_multiplies_L9, pr_bits]
      simp only [Option.bind_some]
      rw [if_neg (nI_ge hs (by omega)), if_neg (nI_in (show s < 64 by omega) (by omega)), nI_clamp (by omega), h2 s hs, hb, if_neg (by decide), e1]
      simp only [Option.bind_some]
      rw [e2]
      simp only [Option.bind_some]
      have e3' : mX13_adds K 65 65 sum f2 (nI (wd b)) 0 = some f3 := e3
      rw [e3', nI_1]
      exact e
theorem pr_multiplies {b : Bool} {i1 i2 k : Nat} {B : Nat → Nat → Int32} {x y : BitVec (wd b)} {one sum : Nat → Int32} (h1 : isR (wd b) (B i1) x) (h2 : isR (wd b) (B i2) y) (hk : 65 < k) : ∃ one2 R, mX12_multiplies k (bI b) B one sum i1 i2 = some (one2, R) ∧ isR (wd b) R (x * y) := by
  have hw := wd_le b
  obtain ⟨f1, e1, a1, a2⟩ := pr_clear (N := 65) (k := k) (f := sum) (by omega) (by omega)
  obtain ⟨o2, R, e, r1⟩ := pr_mul9 h1 h2 hk (wd b) 0 k one f1 (by omega) (by omega) (fun q hq => by
    rw [a1 q (by omega), mulp_0, BitVec.getLsbD_zero]
    rfl)
  refine ⟨o2, R, ?_, r1⟩
  rw [mX12_multiplies, e1]
  simp only [Option.bind_some]
  have e' : mX12_multiplies_L9 (bI b) B i2 k i1 k 0 one f1 = some (o2, R) := e
  rw [e']
  rfl
def opb (p3 : Int32) (a b : Bool) : Bool := if p3 = 3 then a && b else if p3 = 4 then a || b else a ^^ b
theorem pr_comb83 {b : Bool} {i j : Nat} {p3 : Int32} {B : Nat → Nat → Int32} {x y z : BitVec (wd b)} (hx : isR (wd b) (B i) x) (hy : isR (wd b) (B j) y) (hi : i < 8) (hj : j < 8) (hz : ∀ q, q < wd b → z.getLsbD q = opb p3 (x.getLsbD q) (y.getLsbD q)) : ∀ (d q k : Nat) (f : Nat → Int32), q + d = wd b → d < k → (∀ t, t < q → f t = bI (z.getLsbD t)) → ∃ R, mX12_combines_L83 (bI b) p3 B (nI i) (nI j) k (nI q) f = some R ∧ isR (wd b) R z
  | _, _, 0, _, _, hk, _ => absurd hk (Nat.not_lt_zero _)
  | 0, q, k + 1, f, h, _, q1 => ⟨f, by
    have hw := wd_le b
    rw [mX12_combines_L83, pr_bits]
    simp only [Option.bind_some]
    rw [if_pos (nI_le (by omega) (by omega))], fun t ht => q1 t (by omega)⟩
  | d + 1, q, k + 1, f, h, hk, q1 => by
    have hw := wd_le b
    have hq : q < wd b := by omega
    obtain ⟨R, e, r1⟩ := pr_comb83 hx hy hi hj hz d (q + 1) k (upd f q (bI (z.getLsbD q))) (by omega) (by omega) (fun t ht => by
      by_cases htq : t = q
      · rw [htq, pk_us]
      · rw [pk_un htq]
        exact q1 t (by omega))
    refine ⟨R, ?_, r1⟩
    have c1 : (nI i).toNatClampNeg = i := nI_clamp (by omega)
    have c2 : (nI j).toNatClampNeg = j := nI_clamp (by omega)
    have c3 : (nI q).toNatClampNeg = q := nI_clamp (by omega)
    have g1 : (nI q < 0 ∨ 64 ≤ q) = False := eq_false (nI_in2 (by omega) (by omega))
    have g2 : (nI q < 0 ∨ 65 ≤ q) = False := eq_false (nI_in2 (by omega) (by omega))
    have ev : ((if p3 = 3 then (if bI (x.getLsbD q) = 0 then some 0 else (if bI (y.getLsbD q) = 0 then some 0 else some 1)) else (if p3 = 4 then (if bI (x.getLsbD q) = 0 then (if bI (y.getLsbD q) = 0 then some 0 else some 1) else some 1) else (if bI (x.getLsbD q) = bI (y.getLsbD q) then some 0 else some 1))) : Option Int32) = some (bI (z.getLsbD q)) := by
      rw [hz q hq]
      unfold opb
      by_cases h3 : p3 = 3
      · rw [if_pos h3, if_pos h3]
        cases x.getLsbD q <;> cases y.getLsbD q <;> rfl
      · rw [if_neg h3, if_neg h3]
        by_cases h4 : p3 = 4
        · rw [if_pos h4, if_pos h4]
          cases x.getLsbD q <;> cases y.getLsbD q <;> rfl
        · rw [if_neg h4, if_neg h4]
          cases x.getLsbD q <;> cases y.getLsbD q <;> rfl
    rw [mX12_combines_L83, pr_bits]
    simp only [Option.bind_some]
    rw [if_neg (nI_ge (by omega) (by omega))]
    simp only [c1, c2, c3, g1, g2, if_false, hx q hq, hy q hq]
    rw [ev]
    simp only [Option.bind_some]
    rw [nar_b, nI_1]
    exact e
theorem pr_combines {b : Bool} {i j k : Nat} {p3 : Int32} {B : Nat → Nat → Int32} {c : Nat → BitVec 64} {one sum : Nat → Int32} (hB : isB B c) (hi : i < 8) (hj : j < 8) (hk : 65 < k) : ∃ R o2 s2, mX12_combines k (bI b) B one sum (nI i) (nI j) p3 = some (Int64.ofBitVec ((cmb p3 ((c i).setWidth (wd b)) ((c j).setWidth (wd b))).signExtend 64), R, o2, s2) ∧ putsTo i B R (cmb p3 ((c i).setWidth (wd b)) ((c j).setWidth (wd b))) := by
  have hw := wd_le b
  have hx := (hB i hi).sub hw
  have hy := (hB j hj).sub hw
  obtain ⟨x, ex⟩ : ∃ x, x = (c i).setWidth (wd b) := ⟨_, rfl⟩
  obtain ⟨y, ey⟩ : ∃ y, y = (c j).setWidth (wd b) := ⟨_, rfl⟩
  rw [← ex] at hx ⊢
  rw [← ey] at hy ⊢
  obtain ⟨f1, e1, a1, a2⟩ := pr_copy (w := wd b) (N1 := 64) (N2 := 65) (k := k) (g := B i) (f := sum) hw (by omega) (by omega) (by omega) (by omega)
  have hf1 : isR (wd b) f1 x := fun q hq => by rw [a1 q hq, hx q hq, nar_b]
  have c1 : (nI i).toNatClampNeg = i := nI_clamp (by omega)
  have c2 : (nI j).toNatClampNeg = j := nI_clamp (by omega)
  have fin : ∀ o2 s2, isR (wd b) s2 (cmb p3 x y) → ((if p3 = 0 then ((mX12_bits (bI b)).bind (fun r_72 => (((if p3 = 1 then some 1 else some 0) : Option (Int32)).bind (fun x_74 => ((mX13_adds k 65 64 f1 (B j) r_72 x_74).bind (fun r_75 => some (one, r_75))))))) else (if p3 = 1 then ((mX12_bits (bI b)).bind (fun r_132 => (((if p3 = 1 then some 1 else some 0) : Option (Int32)).bind (fun x_134 => ((mX13_adds k 65 64 f1 (B j) r_132 x_134).bind (fun r_135 => some (one, r_135))))))) else (if p3 = 2 then ((mX12_multiplies k (bI b) B one f1 i j).bind (fun r_131 => some (r_131.1, r_131.2))) else ((mX12_combines_L83 (bI b) p3 B (nI i) (nI j) k 0 f1).bind (fun r_130 => some (one, r_130)))))) : Option ((Nat → Int32) × (Nat → Int32))) = some (o2, s2) → ∃ R o2 s2, mX12_combines k (bI b) B one sum (nI i) (nI j) p3 = some (Int64.ofBitVec ((cmb p3 x y).signExtend 64), R, o2, s2) ∧ putsTo i B R (cmb p3 x y) := by
    intro o2 s2 hs e2
    obtain ⟨R, e3, r2⟩ := pr_puts_sum (k := k) (B := B) hs hi (by omega)
    refine ⟨R, o2, s2, ?_, r2⟩
    rw [mX12_combines, if_neg (nI_in hi (by omega)), if_neg (nI_in hj (by omega)), pr_bits]
    simp only [Option.bind_some, c1, c2] at e2 ⊢
    rw [e1]
    simp only [Option.bind_some]
    rw [pr_bits] at e2
    simp only [Option.bind_some] at e2
    rw [e2]
    simp only [Option.bind_some]
    rw [e3]
    rfl
  by_cases h0 : p3 = 0
  · obtain ⟨f2, e2, b1, b2⟩ := pr_adds (N1 := 65) (N2 := 64) (k := k) false hf1 hy (by omega) (by omega) (by omega) (by omega) (by omega) (by omega)
    refine fin one f2 (by rw [cmb, if_pos h0]; rw [if_neg (by decide)] at b1; exact b1) ?_
    have h1 : ¬ p3 = 1 := by rw [h0]; decide
    rw [if_pos h0, pr_bits]
    simp only [Option.bind_some]
    rw [if_neg h1]
    simp only [Option.bind_some]
    have e2' : mX13_adds k 65 64 f1 (B j) (nI (wd b)) 0 = some f2 := e2
    rw [e2']
    rfl
  · by_cases h1 : p3 = 1
    · obtain ⟨f2, e2, b1, b2⟩ := pr_adds (N1 := 65) (N2 := 64) (k := k) true hf1 hy (by omega) (by omega) (by omega) (by omega) (by omega) (by omega)
      refine fin one f2 (by rw [cmb, if_neg h0, if_pos h1]; rw [if_pos rfl] at b1; exact b1) ?_
      rw [if_neg h0, if_pos h1, pr_bits]
      simp only [Option.bind_some]
      rw [if_pos h1]
      simp only [Option.bind_some]
      have e2' : mX13_adds k 65 64 f1 (B j) (nI (wd b)) 1 = some f2 := e2
      rw [e2']
      rfl
    · by_cases h2 : p3 = 2
      · obtain ⟨o2, s2, e2, b1⟩ := pr_multiplies (one := one) (sum := f1) hx hy hk
        refine fin o2 s2 (by rw [cmb, if_neg h0, if_neg h1, if_pos h2]; exact b1) ?_
        rw [if_neg h0, if_neg h1, if_pos h2, e2]
        rfl
      · obtain ⟨f2, e2, b1⟩ := pr_comb83 (p3 := p3) (z := cmb p3 x y) hx hy hi hj (fun q hq => by
          unfold cmb opb
          rw [if_neg h0, if_neg h1, if_neg h2]
          by_cases h3 : p3 = 3
          · rw [if_pos h3, if_pos h3, BitVec.getLsbD_and]
          · rw [if_neg h3, if_neg h3]
            by_cases h4 : p3 = 4
            · rw [if_pos h4, if_pos h4, BitVec.getLsbD_or]
            · rw [if_neg h4, if_neg h4, BitVec.getLsbD_xor]) (wd b) 0 k f1 (by omega) (by omega) (fun q hq => absurd hq (Nat.not_lt_zero _))
        refine fin one f2 b1 ?_
        have e2' : mX12_combines_L83 (bI b) p3 B (nI i) (nI j) k 0 f1 = some f2 := e2
        rw [if_neg h0, if_neg h1, if_neg h2, e2']
        rfl
