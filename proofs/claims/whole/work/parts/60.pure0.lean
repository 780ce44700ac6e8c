/-! pure: bits as ints, rows of bits as numbers of w bits -/
def bI (b : Bool) : Int32 := if b then 1 else 0
theorem bI_t : bI true = 1 := rfl
theorem bI_f : bI false = 0 := rfl
theorem bI_inj {a b : Bool} : bI a = bI b ↔ a = b := by cases a <;> cases b <;> decide
theorem bI_0 {a : Bool} : bI a = 0 ↔ a = false := by cases a <;> decide
theorem bI_01 (a : Bool) : bI a = 0 ∨ bI a = 1 := by
  cases a
  · exact Or.inl rfl
  · exact Or.inr rfl
theorem bI_nn (a : Bool) : ¬ ¬ (bI a = 0 ∨ bI a = 1) := fun h => h (bI_01 a)
theorem nar_0 : vp_nar .boolean 0 = 0 := by decide
theorem nar_1 : vp_nar .boolean 1 = 1 := by decide
theorem nar_b (a : Bool) : vp_nar .boolean (bI a) = bI a := by cases a <;> decide
def isR (w : Nat) (f : Nat → Int32) (x : BitVec w) : Prop := ∀ i, i < w → f i = bI (x.getLsbD i)
/-- counting down: i - 1 -/
def dn (i : Nat) : Int32 := nI i - 1
theorem dn_neg : dn 0 < 0 := by decide
theorem dn_s (i : Nat) : dn (i + 1) = nI i := nI_pred i
theorem dn_m (i : Nat) : nI i + (-1) = dn i := (Int32.sub_eq_add_neg _ _).symm
theorem nI_in2 {c N : Nat} (h : c < N) (hN : N < 2 ^ 31) : ¬ (nI c < 0 ∨ N ≤ c) := fun z => z.elim (nI_pos (by omega)) (fun y => by omega)
theorem nat_bit (a i : Nat) : a / 2 ^ i = 2 * (a / 2 ^ (i + 1)) + (a.testBit i).toNat := by
  have h1 : a / 2 ^ (i + 1) = a / 2 ^ i / 2 := by rw [Nat.pow_succ, Nat.div_div_eq_div_mul]
  rw [h1, Nat.testBit_eq_decide_div_mod_eq]
  by_cases h : a / 2 ^ i % 2 = 1
  · rw [decide_eq_true h]
    show _ = _ + 1
    omega
  · rw [decide_eq_false h]
    show _ = _ + 0
    omega
theorem bv_tb {w : Nat} (x : BitVec w) (i : Nat) : x.getLsbD i = x.toNat.testBit i := rfl
/-! clear, copy -/
theorem pr_clear_L {N : Nat} (hN : N < 1000) : ∀ (d i k : Nat) (f : Nat → Int32), i + d = N → d < k → ∃ R, mX13_clear_L2 N k (nI i) f = some R ∧ (∀ j, i ≤ j → j < N → R j = 0) ∧ ∀ j, j < i ∨ N ≤ j → R j = f j
  | _, _, 0, _, _, hk => absurd hk (Nat.not_lt_zero _)
  | 0, i, k + 1, f, h, _ => ⟨f, by rw [mX13_clear_L2, if_pos (nI_le (by omega) (by omega))], fun j h1 h2 => by omega, fun _ _ => rfl⟩
  | d + 1, i, k + 1, f, h, hk => by
    obtain ⟨R, e, h1, h2⟩ := pr_clear_L hN d (i + 1) k (upd f i (vp_nar .boolean 0)) (by omega) (by omega)
    refine ⟨R, ?_, fun j a b => ?_, fun j a => ?_⟩
    · rw [mX13_clear_L2, if_neg (nI_ge (by omega) (by omega)), if_neg (nI_in (by omega) (by omega)), nI_clamp (by omega), nI_1]
      exact e
    · by_cases hj : j = i
      · subst hj
        rw [h2 j (Or.inl (by omega)), pk_us]
        exact nar_0
      · exact h1 j (by omega) b
    · rw [h2 j (by omega), pk_un (by omega)]
theorem pr_clear {N k : Nat} {f : Nat → Int32} (hN : N < 1000) (hk : N < k) : ∃ R, mX13_clear k N f = some R ∧ (∀ j, j < N → R j = 0) ∧ ∀ j, N ≤ j → R j = f j := by
  obtain ⟨R, e, h1, h2⟩ := pr_clear_L hN N 0 k f (by omega) hk
  refine ⟨R, ?_, fun j h => h1 j (Nat.zero_le _) h, fun j h => h2 j (Or.inr h)⟩
  rw [mX13_clear]
  show (mX13_clear_L2 N k (nI 0) f).bind _ = _
  rw [e]
  rfl
theorem pr_copy_L {w N1 N2 : Nat} {g : Nat → Int32} (h1 : w ≤ N1) (h2 : w ≤ N2) (hN1 : N1 < 1000) (hN2 : N2 < 1000) : ∀ (d i k : Nat) (f : Nat → Int32), i + d = w → d < k → ∃ R, mX13_copy_L2 (nI w) N1 N2 g k (nI i) f = some R ∧ (∀ j, i ≤ j → j < w → R j = vp_nar .boolean (g j)) ∧ ∀ j, j < i ∨ w ≤ j → R j = f j
  | _, _, 0, _, _, hk => absurd hk (Nat.not_lt_zero _)
  | 0, i, k + 1, f, h, _ => ⟨f, by rw [mX13_copy_L2, if_pos (nI_le (by omega) (by omega))], fun j h1 h2 => by omega, fun _ _ => rfl⟩
  | d + 1, i, k + 1, f, h, hk => by
    obtain ⟨R, e, h3, h4⟩ := pr_copy_L h1 h2 hN1 hN2 d (i + 1) k (upd f i (vp_nar .boolean (g i))) (by omega) (by omega)
    refine ⟨R, ?_, fun j a b => ?_, fun j a => ?_⟩
    · rw [mX13_copy_L2, if_neg (nI_ge (by omega) (by omega)), if_neg (nI_in (by omega) (by omega)), if_neg (nI_in (by omega) (by omega)), nI_clamp (by omega), nI_1]
      exact e
    · by_cases hj : j = i
      · subst hj
        rw [h4 j (Or.inl (by omega)), pk_us]
      · exact h3 j (by omega) b
    · rw [h4 j (by omega), pk_un (by omega)]
theorem pr_copy {w N1 N2 k : Nat} {g f : Nat → Int32} (h1 : w ≤ N1) (h2 : w ≤ N2) (hN1 : N1 < 1000) (hN2 : N2 < 1000) (hk : w < k) : ∃ R, mX13_copy k N1 N2 g f (nI w) = some R ∧ (∀ j, j < w → R j = vp_nar .boolean (g j)) ∧ ∀ j, w ≤ j → R j = f j := by
  obtain ⟨R, e, h3, h4⟩ := pr_copy_L (g := g) h1 h2 hN1 hN2 w 0 k f (by omega) hk
  refine ⟨R, ?_, fun j h => h3 j (Nat.zero_le _) h, fun j h => h4 j (Or.inr h)⟩
  rw [mX13_copy]
  show (mX13_copy_L2 (nI w) N1 N2 g k (nI 0) f).bind _ = _
  rw [e]
  rfl
/-! compared -/
def cmpI (a b : Nat) : Int32 := if a < b then -1 else if a = b then 0 else 1
theorem pr_compared_L {w N1 N2 : Nat} {f g : Nat → Int32} {x y : BitVec w} (hf : isR w f x) (hg : isR w g y) (h1 : w ≤ N1) (h2 : w ≤ N2) (hN1 : N1 < 1000) (hN2 : N2 < 1000) : ∀ (i k : Nat), i ≤ w → i < k → x.toNat / 2 ^ i = y.toNat / 2 ^ i → mX13_compared_L4 N1 N2 f g k (dn i) = some (cmpI x.toNat y.toNat)
  | _, 0, _, hk, _ => absurd hk (Nat.not_lt_zero _)
  | 0, k + 1, _, _, h => by
    have e : x.toNat = y.toNat := by simpa using h
    rw [mX13_compared_L4, if_pos dn_neg, e]
    simp [cmpI]
  | i + 1, k + 1, hi, hk, h => by
    have bx := nat_bit x.toNat i
    have by9 := nat_bit y.toNat i
    have ex : f i = bI (x.toNat.testBit i) := hf i (by omega)
    have ey : g i = bI (y.toNat.testBit i) := hg i (by omega)
    rw [mX13_compared_L4, dn_s, if_neg (nI_pos (by omega)), if_neg (nI_in (by omega) (by omega)), if_neg (nI_in (by omega) (by omega)), nI_clamp (by omega), ex, ey]
    have hp : 0 < 2 ^ i := Nat.two_pow_pos i
    cases hx : x.toNat.testBit i <;> cases hy : y.toNat.testBit i
    · rw [if_pos rfl, dn_m]
      exact pr_compared_L hf hg h1 h2 hN1 hN2 i k (by omega) (by omega) (by rw [bx, by9, hx, hy, h])
    · rw [if_neg (by decide), if_neg (nI_in2 (by omega) (by omega)), if_pos bI_f]
      have hlt : x.toNat < y.toNat := by
        rw [hx] at bx
        rw [hy] at by9
        have h9 : x.toNat / 2 ^ i < y.toNat / 2 ^ i := by
          rw [bx, by9, h]
          simp
        exact Nat.lt_of_not_le (fun z => absurd (Nat.div_le_div_right (c := 2 ^ i) z) (by omega))
      simp [cmpI, hlt]
    · rw [if_neg (by decide), if_neg (nI_in2 (by omega) (by omega)), if_neg (by decide)]
      have hlt : y.toNat < x.toNat := by
        rw [hx] at bx
        rw [hy] at by9
        have h9 : y.toNat / 2 ^ i < x.toNat / 2 ^ i := by
          rw [bx, by9, h]
          simp
        exact Nat.lt_of_not_le (fun z => absurd (Nat.div_le_div_right (c := 2 ^ i) z) (by omega))
      rw [cmpI, if_neg (by omega), if_neg (by omega)]
    · rw [if_pos rfl, dn_m]
      exact pr_compared_L hf hg h1 h2 hN1 hN2 i k (by omega) (by omega) (by rw [bx, by9, hx, hy, h])
theorem pr_compared {w N1 N2 k : Nat} {f g : Nat → Int32} {x y : BitVec w} (hf : isR w f x) (hg : isR w g y) (h1 : w ≤ N1) (h2 : w ≤ N2) (hN1 : N1 < 1000) (hN2 : N2 < 1000) (hk : w < k) : mX13_compared k N1 N2 f g (nI w) = some (cmpI x.toNat y.toNat) :=
  pr_compared_L hf hg h1 h2 hN1 hN2 w k (Nat.le_refl _) hk (by rw [Nat.div_eq_of_lt x.isLt, Nat.div_eq_of_lt y.isLt])
/-! adds, negates -/
theorem bI_xor (a b : Bool) : ((if bI a = bI b then some 0 else some 1) : Option Int32) = some (bI (a ^^ b)) := by cases a <;> cases b <;> rfl
theorem pr_adds_s {N1 N2 w i n : Nat} {g row : Nat → Int32} {a b less c : Bool} (hw : w < 1000) (hi : i < w) (h1 : w ≤ N1) (h2 : w ≤ N2) (hN1 : N1 < 1000) (hN2 : N2 < 1000) (ha : row i = bI a) (hb : g i = bI b) :
    mX13_adds_L6 (nI w) N2 g (bI less) N1 (n + 1) (bI c) (nI i) row = mX13_adds_L6 (nI w) N2 g (bI less) N1 n (bI (Bool.atLeastTwo a (b ^^ less) c)) (nI (i + 1)) (upd row i (bI (a ^^ ((b ^^ less) ^^ c)))) := by
  have g1 : (nI i < 0 ∨ N1 ≤ i) = False := eq_false (nI_in2 (by omega) (by omega))
  have g2 : (nI i < 0 ∨ N2 ≤ i) = False := eq_false (nI_in2 (by omega) (by omega))
  rw [mX13_adds_L6, if_neg (nI_ge hi (by omega)), nI_clamp (by omega)]
  simp only [g1, g2, if_false, ha, hb, bI_xor, Option.bind_some, nI_1]
  cases a <;> cases b <;> cases less <;> cases c <;> rfl
theorem pr_adds_L {w N1 N2 : Nat} {g f : Nat → Int32} {x y y2 s : BitVec w} {less : Bool} (hf : isR w f x) (hg : isR w g y) (hw : w < 1000) (h1 : w ≤ N1) (h2 : w ≤ N2) (hN1 : N1 < 1000) (hN2 : N2 < 1000) (hy : ∀ i, i < w → y2.getLsbD i = (y.getLsbD i ^^ less)) (hs : ∀ i, i < w → s.getLsbD i = (x.getLsbD i ^^ (y2.getLsbD i ^^ BitVec.carry i x y2 less))) :
    ∀ (d i k : Nat) (row : Nat → Int32), i + d = w → d < k → (∀ j, j < i → row j = bI (s.getLsbD j)) → (∀ j, i ≤ j → row j = f j) → ∃ R, mX13_adds_L6 (nI w) N2 g (bI less) N1 k (bI (BitVec.carry i x y2 less)) (nI i) row = some R ∧ isR w R s ∧ ∀ j, w ≤ j → R j = f j
  | _, _, 0, _, _, hk, _, _ => absurd hk (Nat.not_lt_zero _)
  | 0, i, k + 1, row, h, _, q1, q2 => ⟨row, by rw [mX13_adds_L6, if_pos (nI_le (by omega) (by omega))], fun j hj => q1 j (by omega), fun j hj => q2 j (by omega)⟩
  | d + 1, i, k + 1, row, h, hk, q1, q2 => by
    obtain ⟨R, e, r1, r2⟩ := pr_adds_L hf hg hw h1 h2 hN1 hN2 hy hs d (i + 1) k (upd row i (bI (s.getLsbD i))) (by omega) (by omega) (fun j hj => by
      by_cases hji : j = i
      · subst hji
        rw [pk_us]
      · rw [pk_un hji]
        exact q1 j (by omega)) (fun j hj => by
      rw [pk_un (by omega)]
      exact q2 j (by omega))
    refine ⟨R, ?_, r1, r2⟩
    rw [pr_adds_s (a := x.getLsbD i) (b := y.getLsbD i) hw (by omega) h1 h2 hN1 hN2 (by rw [q2 i (Nat.le_refl _)]; exact hf i (by omega)) (hg i (by omega)), ← hy i (by omega), ← hs i (by omega), ← BitVec.carry_succ]
    exact e
theorem pr_adds {w N1 N2 k : Nat} {f g : Nat → Int32} {x y : BitVec w} (less : Bool) (hf : isR w f x) (hg : isR w g y) (hw : w < 1000) (h1 : w ≤ N1) (h2 : w ≤ N2) (hN1 : N1 < 1000) (hN2 : N2 < 1000) (hk : w < k) : ∃ R, mX13_adds k N1 N2 f g (nI w) (bI less) = some R ∧ isR w R (if less then x - y else x + y) ∧ ∀ j, w ≤ j → R j = f j := by
  have key : ∀ y2 : BitVec w, (∀ i, i < w → y2.getLsbD i = (y.getLsbD i ^^ less)) → x + y2 + BitVec.setWidth w (BitVec.ofBool less) = (if less then x - y else x + y) → ∃ R, mX13_adds k N1 N2 f g (nI w) (bI less) = some R ∧ isR w R (if less then x - y else x + y) ∧ ∀ j, w ≤ j → R j = f j := by
    intro y2 hy he
    obtain ⟨R, e, r1, r2⟩ := pr_adds_L (s := if less then x - y else x + y) hf hg hw h1 h2 hN1 hN2 hy (fun i hi => by rw [← he]; exact BitVec.getLsbD_add_add_bool hi x y2 less) w 0 k f (by omega) hk (fun j hj => absurd hj (Nat.not_lt_zero _)) (fun _ _ => rfl)
    refine ⟨R, ?_, r1, r2⟩
    rw [BitVec.carry_zero] at e
    rw [mX13_adds]
    show (mX13_adds_L6 (nI w) N2 g (bI less) N1 k (bI less) (nI 0) f).bind _ = _
    rw [e]
    rfl
  cases less with
  | false =>
    refine key y (fun i _ => by simp) ?_
    show x + y + BitVec.setWidth w (BitVec.ofBool false) = x + y
    have h0 : BitVec.setWidth w (BitVec.ofBool false) = 0#w := by
      apply BitVec.eq_of_toNat_eq
      simp
    rw [h0, BitVec.add_zero]
  | true =>
    refine key (~~~y) (fun i hi => by simp [hi]) ?_
    show x + ~~~y + BitVec.setWidth w (BitVec.ofBool true) = x - y
    have h1 : BitVec.setWidth w (BitVec.ofBool true) = 1#w := by
      apply BitVec.eq_of_toNat_eq
      simp
    rw [h1, BitVec.sub_eq_add_neg, BitVec.neg_eq_not_add, BitVec.add_assoc]
theorem pr_neg_s {N w i n : Nat} {row : Nat → Int32} {a c : Bool} (hw : w < 1000) (hi : i < w) (h1 : w ≤ N) (hN : N < 1000) (ha : row i = bI a) :
    mX13_negates_L4 (nI w) N (n + 1) (bI c) (nI i) row = mX13_negates_L4 (nI w) N n (bI (!a && c)) (nI (i + 1)) (upd row i (bI (!a ^^ c))) := by
  have g1 : (nI i < 0 ∨ N ≤ i) = False := eq_false (nI_in2 (by omega) (by omega))
  have e1 : ((if bI a = 0 then some 1 else some 0) : Option Int32) = some (bI (!a)) := by cases a <;> rfl
  rw [mX13_negates_L4, if_neg (nI_ge hi (by omega)), nI_clamp (by omega)]
  simp only [g1, if_false, ha, e1, bI_xor, Option.bind_some, nI_1]
  cases a <;> cases c <;> rfl
theorem pr_neg_L {w N : Nat} {f : Nat → Int32} {x s : BitVec w} (hf : isR w f x) (hw : w < 1000) (h1 : w ≤ N) (hN : N < 1000) (hs : ∀ i, i < w → s.getLsbD i = (!x.getLsbD i ^^ BitVec.carry i (~~~x) 0#w true)) :
    ∀ (d i k : Nat) (row : Nat → Int32), i + d = w → d < k → (∀ j, j < i → row j = bI (s.getLsbD j)) → (∀ j, i ≤ j → row j = f j) → ∃ R, mX13_negates_L4 (nI w) N k (bI (BitVec.carry i (~~~x) 0#w true)) (nI i) row = some R ∧ isR w R s ∧ ∀ j, w ≤ j → R j = f j
  | _, _, 0, _, _, hk, _, _ => absurd hk (Nat.not_lt_zero _)
  | 0, i, k + 1, row, h, _, q1, q2 => ⟨row, by rw [mX13_negates_L4, if_pos (nI_le (by omega) (by omega))], fun j hj => q1 j (by omega), fun j hj => q2 j (by omega)⟩
  | d + 1, i, k + 1, row, h, hk, q1, q2 => by
    obtain ⟨R, e, r1, r2⟩ := pr_neg_L hf hw h1 hN hs d (i + 1) k (upd row i (bI (s.getLsbD i))) (by omega) (by omega) (fun j hj => by
      by_cases hji : j = i
      · subst hji
        rw [pk_us]
      · rw [pk_un hji]
        exact q1 j (by omega)) (fun j hj => by
      rw [pk_un (by omega)]
      exact q2 j (by omega))
    refine ⟨R, ?_, r1, r2⟩
    have hi : i < w := by omega
    rw [pr_neg_s (a := x.getLsbD i) hw (by omega) h1 hN (by rw [q2 i (Nat.le_refl _)]; exact hf i (by omega)), ← hs i (by omega)]
    have ec : BitVec.carry (i + 1) (~~~x) 0#w true = (!x.getLsbD i && BitVec.carry i (~~~x) 0#w true) := by
      rw [BitVec.carry_succ]
      simp [Bool.atLeastTwo, hi]
    rw [← ec]
    exact e
theorem pr_negates {w N k : Nat} {f : Nat → Int32} {x : BitVec w} (hf : isR w f x) (hw : w < 1000) (h1 : w ≤ N) (hN : N < 1000) (hk : w < k) : ∃ R, mX13_negates k N f (nI w) = some R ∧ isR w R (-x) ∧ ∀ j, w ≤ j → R j = f j := by
  obtain ⟨R, e, r1, r2⟩ := pr_neg_L (s := -x) hf hw h1 hN (fun i hi => by
    have h9 := BitVec.getLsbD_add_add_bool hi (~~~x) 0#w true
    have h8 : BitVec.setWidth w (BitVec.ofBool true) = 1#w := by
      apply BitVec.eq_of_toNat_eq
      simp
    rw [h8, BitVec.add_zero, ← BitVec.neg_eq_not_add] at h9
    rw [h9]
    simp [hi]) w 0 k f (by omega) hk (fun j hj => absurd hj (Nat.not_lt_zero _)) (fun _ _ => rfl)
  refine ⟨R, ?_, r1, r2⟩
  rw [BitVec.carry_zero] at e
  rw [mX13_negates]
  show (mX13_negates_L4 (nI w) N k (bI true) (nI 0) f).bind _ = _
  rw [e]
  rfl
/-! isNothing -/
theorem pr_nothing_L {w N : Nat} {f : Nat → Int32} {x : BitVec w} (hf : isR w f x) (hw : w < 1000) (h1 : w ≤ N) (hN : N < 1000) : ∀ (d i k : Nat), i + d = w → d < k → (∀ j, j < i → x.getLsbD j = false) → mX13_isNothing_L2 (nI w) N f k (nI i) = some (bI (decide (x = 0#w)))
  | _, _, 0, _, hk, _ => absurd hk (Nat.not_lt_zero _)
  | 0, i, k + 1, h, _, q => by
    have e : x = 0#w := BitVec.eq_of_getLsbD_eq (fun j hj => by rw [q j (by omega)]; simp)
    rw [mX13_isNothing_L2, if_pos (nI_le (by omega) (by omega)), e, decide_eq_true rfl]
    rfl
  | d + 1, i, k + 1, h, hk, q => by
    rw [mX13_isNothing_L2, if_neg (nI_ge (by omega) (by omega)), if_neg (nI_in (by omega) (by omega)), nI_clamp (by omega), hf i (by omega)]
    cases hb : x.getLsbD i with
    | false =>
      rw [if_pos bI_f, nI_1]
      exact pr_nothing_L hf hw h1 hN d (i + 1) k (by omega) (by omega) (fun j hj => by
        by_cases hji : j = i
        · rw [hji]; exact hb
        · exact q j (by omega))
    | true =>
      have e : ¬ x = 0#w := fun z => by
        rw [z] at hb
        simp at hb
      rw [if_neg (by decide), decide_eq_false e]
      rfl
theorem pr_nothing {w N k : Nat} {f : Nat → Int32} {x : BitVec w} (hf : isR w f x) (hw : w < 1000) (h1 : w ≤ N) (hN : N < 1000) (hk : w < k) : mX13_isNothing k N f (nI w) = some (bI (decide (x = 0#w))) :=
  pr_nothing_L hf hw h1 hN w 0 k (by omega) hk (fun j hj => absurd hj (Nat.not_lt_zero _))
