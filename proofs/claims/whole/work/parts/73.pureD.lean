/-! pure: bitCount -/
def hS (p : Nat) : Nat → (Nat → Nat) → Nat
  | 0, _ => 0
  | n + 1, f => f 0 + p * hS p n (fun i => f (i + 1))
theorem hS_add (p : Nat) : ∀ (n : Nat) (f g : Nat → Nat), hS p n f + hS p n g = hS p n (fun i => f i + g i)
  | 0, _, _ => rfl
  | n + 1, f, g => by
    show (f 0 + p * hS p n (fun i => f (i + 1))) + (g 0 + p * hS p n (fun i => g (i + 1))) = (f 0 + g 0) + p * hS p n (fun i => f (i + 1) + g (i + 1))
    rw [← hS_add p n (fun i => f (i + 1)) (fun i => g (i + 1)), Nat.mul_add]
    omega
theorem hS_congr (p : Nat) : ∀ (n : Nat) (f g : Nat → Nat), (∀ i, f i = g i) → hS p n f = hS p n g := fun n f g h => by rw [show f = g from funext h]
theorem hS_last (p : Nat) : ∀ (n : Nat) (f : Nat → Nat), f n = 0 → hS p (n + 1) f = hS p n f
  | 0, f, h => by
    show f 0 + p * 0 = 0
    rw [h, Nat.mul_zero]
  | n + 1, f, h => by
    show f 0 + p * hS p (n + 1) (fun i => f (i + 1)) = f 0 + p * hS p n (fun i => f (i + 1))
    rw [hS_last p n (fun i => f (i + 1)) h]
theorem hS_div {p : Nat} : ∀ (n : Nat) (f : Nat → Nat), f 0 < p → f n = 0 → hS p n f / p = hS p n (fun i => f (i + 1))
  | 0, _, _, _ => Nat.zero_div _
  | n + 1, f, h, h2 => by
    rw [hS_last p n (fun i => f (i + 1)) h2]
    show (f 0 + p * hS p n (fun i => f (i + 1))) / p = _
    rw [Nat.add_mul_div_left _ _ (by omega), Nat.div_eq_of_lt h, Nat.zero_add]
theorem hS_lt {p : Nat} : ∀ (n : Nat) (f : Nat → Nat), (∀ i, f i < p) → hS p n f < p ^ n
  | 0, _, _ => by
    show 0 < p ^ 0
    simp
  | n + 1, f, h => by
    have h1 := hS_lt n (fun i => f (i + 1)) (fun i => h (i + 1))
    have h2 : p * (hS p n (fun i => f (i + 1)) + 1) ≤ p * p ^ n := Nat.mul_le_mul_left p h1
    have h3 := h 0
    show f 0 + p * hS p n (fun i => f (i + 1)) < p ^ (n + 1)
    rw [Nat.mul_add] at h2
    rw [Nat.pow_succ, Nat.mul_comm (p ^ n) p]
    omega
theorem hS_pair (p : Nat) : ∀ (n : Nat) (f : Nat → Nat), hS p (2 * n) f = hS (p * p) n (fun i => f (2 * i) + p * f (2 * i + 1))
  | 0, _ => rfl
  | n + 1, f => by
    show f 0 + p * (f 1 + p * hS p (2 * n) (fun i => f (i + 1 + 1))) = (f 0 + p * f 1) + p * p * hS (p * p) n (fun i => f (2 * i + 1 + 1) + p * f (2 * i + 1 + 1 + 1))
    rw [hS_pair p n (fun i => f (i + 1 + 1)), Nat.mul_add, Nat.mul_assoc, Nat.add_assoc]
theorem and_split {s a b c d : Nat} (ha : a < 2 ^ s) (hc : c < 2 ^ s) : (a + 2 ^ s * b) &&& (c + 2 ^ s * d) = (a &&& c) + 2 ^ s * (b &&& d) := by
  apply Nat.eq_of_testBit_eq
  intro i
  rw [Nat.testBit_and, Nat.add_comm a, Nat.add_comm c, Nat.add_comm (a &&& c), Nat.testBit_two_pow_mul_add _ ha, Nat.testBit_two_pow_mul_add _ hc, Nat.testBit_two_pow_mul_add _ (Nat.and_lt_two_pow a hc)]
  split <;> rw [Nat.testBit_and]
theorem hS_and {s p : Nat} (hp : p = 2 ^ s) : ∀ (n : Nat) (f g : Nat → Nat), (∀ i, f i < p) → (∀ i, g i < p) → hS p n f &&& hS p n g = hS p n (fun i => f i &&& g i)
  | 0, _, _, _, _ => by
    show (0 : Nat) &&& 0 = 0
    decide
  | n + 1, f, g, hf, hg => by
    show (f 0 + p * hS p n (fun i => f (i + 1))) &&& (g 0 + p * hS p n (fun i => g (i + 1))) = (f 0 &&& g 0) + p * hS p n (fun i => f (i + 1) &&& g (i + 1))
    rw [← hS_and hp n (fun i => f (i + 1)) (fun i => g (i + 1)) (fun i => hf _) (fun i => hg _)]
    have h1 := hf 0
    have h2 := hg 0
    rw [hp] at h1 h2 ⊢
    exact and_split h1 h2
theorem hS_mid {s p : Nat} (hp : p = 2 ^ s) (n : Nat) (f : Nat → Nat) (hf : ∀ i, f i < p) : hS p (2 * n) f &&& hS (p * p) n (fun _ => p - 1) = hS (p * p) n (fun i => f (2 * i)) := by
  have h0 : 0 < p := by rw [hp]; exact Nat.two_pow_pos s
  have hpp : p * p = 2 ^ (s + s) := by rw [hp, Nat.pow_add]
  rw [hS_pair, hS_and hpp n _ _ (fun i => by
    have h1 := hf (2 * i)
    have h2 : p * (f (2 * i + 1) + 1) ≤ p * p := Nat.mul_le_mul_left p (hf _)
    rw [Nat.mul_add] at h2
    show f (2 * i) + p * f (2 * i + 1) < p * p
    omega) (fun i => by
    have h2 : p * 1 ≤ p * p := Nat.mul_le_mul_left p h0
    show p - 1 < p * p
    omega)]
  apply hS_congr
  intro i
  have h5 : (f (2 * i) + p * f (2 * i + 1)) &&& (p - 1) = (f (2 * i) + p * f (2 * i + 1)) % p := by
    rw [hp]
    exact Nat.and_two_pow_sub_one_eq_mod _ s
  rw [h5, Nat.add_mul_mod_self_left, Nat.mod_eq_of_lt (hf _)]
theorem hS_bits : ∀ (m n : Nat), n < 2 ^ m → hS 2 m (fun i => (n.testBit i).toNat) = n
  | 0, n, h => by
    have h2 : n < 1 := h
    show 0 = n
    omega
  | m + 1, n, h => by
    have e : (fun i => (n.testBit (i + 1)).toNat) = fun i => ((n / 2).testBit i).toNat := funext fun i => by rw [Nat.testBit_succ]
    have h0 : (n.testBit 0).toNat = n % 2 := by
      rw [Nat.testBit_zero]
      rcases Nat.mod_two_eq_zero_or_one n with z | z <;> rw [z] <;> rfl
    show (n.testBit 0).toNat + 2 * hS 2 m (fun i => (n.testBit (i + 1)).toNat) = n
    rw [e, hS_bits m (n / 2) (by rw [Nat.pow_succ] at h; omega), h0]
    omega
def smN (f : Nat → Nat) : Nat → Nat
  | 0 => 0
  | n + 1 => smN f n + f n
theorem smN_pair (f : Nat → Nat) : ∀ n, smN f (2 * n) = smN (fun i => f (2 * i) + f (2 * i + 1)) n
  | 0 => rfl
  | n + 1 => by
    show (smN f (2 * n) + f (2 * n)) + f (2 * n + 1) = smN (fun i => f (2 * i) + f (2 * i + 1)) n + (f (2 * n) + f (2 * n + 1))
    rw [smN_pair f n, Nat.add_assoc]
theorem cnt_sm (x : BitVec 64) : ∀ n, cnt x n = smN (fun i => (x.toNat.testBit i).toNat) n
  | 0 => rfl
  | n + 1 => by rw [cnt, cnt_sm x n]; rfl
theorem lN_and (a b : Nat) : lN a &&& lN b = lN (a &&& b) := by
  apply Int64.toBitVec_inj.mp
  rw [Int64.toBitVec_and]
  show BitVec.ofNat 64 a &&& BitVec.ofNat 64 b = BitVec.ofNat 64 (a &&& b)
  exact (BitVec.ofNat_and).symm
theorem pop_nat (n : Nat) (hn : n < 2 ^ 64) (b : Nat → Nat) (hb : b = fun i => (n.testBit i).toNat) : ∃ x1 x2 x3 x4 x5 x6 : Nat, x1 = n - (n / 2 ^ 1 &&& 6148914691236517205) ∧ (n / 2 ^ 1 &&& 6148914691236517205) ≤ n ∧ x2 = (x1 &&& 3689348814741910323) + (x1 / 2 ^ 2 &&& 3689348814741910323) ∧ x3 = (x2 + x2 / 2 ^ 4) &&& 1085102592571150095 ∧ x4 = x3 + x3 / 2 ^ 8 ∧ x5 = x4 + x4 / 2 ^ 16 ∧ x6 = x5 + x5 / 2 ^ 32 ∧ x1 < 2 ^ 64 ∧ x2 < 2 ^ 64 ∧ x3 < 2 ^ 64 ∧ x4 < 2 ^ 64 ∧ x5 < 2 ^ 64 ∧ x6 % 128 = smN b 64 := by
  have b1 : ∀ i, b i ≤ 1 := fun i => by rw [hb]; show (n.testBit i).toNat ≤ 1; cases n.testBit i <;> decide
  have b0 : ∀ i, 64 ≤ i → b i = 0 := fun i hi => by
    rw [hb]
    show (n.testBit i).toNat = 0
    rw [Nat.testBit_lt_two_pow (Nat.lt_of_lt_of_le hn (Nat.pow_le_pow_right (by decide) hi))]
    rfl
  have en : n = hS 2 64 b := by rw [hb, hS_bits 64 n hn]
  clear hb
  obtain ⟨c1, hc1⟩ : ∃ c1 : Nat → Nat, ∀ i, c1 i = b (2 * i) + b (2 * i + 1) := ⟨_, fun _ => rfl⟩
  obtain ⟨c2, hc2⟩ : ∃ c2 : Nat → Nat, ∀ i, c2 i = c1 (2 * i) + c1 (2 * i + 1) := ⟨_, fun _ => rfl⟩
  obtain ⟨c3, hc3⟩ : ∃ c3 : Nat → Nat, ∀ i, c3 i = c2 (2 * i) + c2 (2 * i + 1) := ⟨_, fun _ => rfl⟩
  have l1 : ∀ i, c1 i ≤ 2 := fun i => by have h1 := b1 (2 * i); have h2 := b1 (2 * i + 1); have h3 := hc1 i; omega
  have l2 : ∀ i, c2 i ≤ 4 := fun i => by have h1 := l1 (2 * i); have h2 := l1 (2 * i + 1); have h3 := hc2 i; omega
  have l3 : ∀ i, c3 i ≤ 8 := fun i => by have h1 := l2 (2 * i); have h2 := l2 (2 * i + 1); have h3 := hc3 i; omega
  have z1 : ∀ i, 32 ≤ i → c1 i = 0 := fun i hi => by rw [hc1, b0 _ (by omega), b0 _ (by omega)]
  have z2 : ∀ i, 16 ≤ i → c2 i = 0 := fun i hi => by rw [hc2, z1 _ (by omega), z1 _ (by omega)]
  have z3 : ∀ i, 8 ≤ i → c3 i = 0 := fun i hi => by rw [hc3, z2 _ (by omega), z2 _ (by omega)]
  have m1 : (6148914691236517205 : Nat) = hS (2 * 2) 32 (fun _ => 2 - 1) := by decide +kernel
  have m2 : (3689348814741910323 : Nat) = hS (4 * 4) 16 (fun _ => 4 - 1) := by decide +kernel
  have m3 : (1085102592571150095 : Nat) = hS (16 * 16) 8 (fun _ => 16 - 1) := by decide +kernel
  have y1 : n / 2 ^ 1 &&& 6148914691236517205 = hS 4 32 (fun i => b (2 * i + 1)) := by
    have d1 : n / 2 ^ 1 = hS 2 (2 * 32) (fun i => b (i + 1)) := by
      rw [en]
      exact hS_div 64 b (by have := b1 0; omega) (b0 64 (by omega))
    rw [d1, m1]
    exact hS_mid (s := 1) rfl 32 (fun i => b (i + 1)) (fun i => by have := b1 (i + 1); omega)
  have n4 : n = hS 4 32 (fun i => b (2 * i + 1)) + hS 4 32 c1 := by
    rw [hS_add]
    have h9 : hS 2 (2 * 32) b = hS (2 * 2) 32 (fun i => b (2 * i) + 2 * b (2 * i + 1)) := hS_pair 2 32 b
    refine en.trans (h9.trans (hS_congr 4 32 _ _ (fun i => ?_)))
    have := hc1 i
    show b (2 * i) + 2 * b (2 * i + 1) = b (2 * i + 1) + c1 i
    omega
  have x1e : n - (n / 2 ^ 1 &&& 6148914691236517205) = hS 4 32 c1 := by rw [y1]; omega
  have x1l : hS 4 32 c1 < 2 ^ 64 := hS_lt 32 c1 (fun i => by have := l1 i; omega)
  have y2 : (hS 4 32 c1 &&& 3689348814741910323) + (hS 4 32 c1 / 2 ^ 2 &&& 3689348814741910323) = hS 16 16 c2 := by
    have d1 : hS 4 32 c1 / 2 ^ 2 = hS 4 (2 * 16) (fun i => c1 (i + 1)) := hS_div 32 c1 (by have := l1 0; omega) (z1 32 (by omega))
    have a1 : hS 4 32 c1 &&& 3689348814741910323 = hS 16 16 (fun i => c1 (2 * i)) := by
      rw [m2]
      exact hS_mid (s := 2) rfl 16 c1 (fun i => by have := l1 i; omega)
    have a2 : hS 4 (2 * 16) (fun i => c1 (i + 1)) &&& 3689348814741910323 = hS 16 16 (fun i => c1 (2 * i + 1)) := by
      rw [m2]
      exact hS_mid (s := 2) rfl 16 (fun i => c1 (i + 1)) (fun i => by have := l1 (i + 1); omega)
    rw [d1, a1, a2, hS_add]
    exact hS_congr 16 16 _ _ (fun i => (hc2 i).symm)
  have x2l : hS 16 16 c2 < 2 ^ 64 := hS_lt 16 c2 (fun i => by have := l2 i; omega)
  have y3 : (hS 16 16 c2 + hS 16 16 c2 / 2 ^ 4) &&& 1085102592571150095 = hS 256 8 c3 := by
    have d1 : hS 16 16 c2 / 2 ^ 4 = hS 16 16 (fun i => c2 (i + 1)) := hS_div 16 c2 (by have := l2 0; omega) (z2 16 (by omega))
    rw [d1, hS_add, m3]
    refine (hS_mid (s := 4) rfl 8 (fun i => c2 i + c2 (i + 1)) (fun i => ?_)).trans (hS_congr 256 8 _ _ (fun i => (hc3 i).symm))
    have h1 := l2 i
    have h2 := l2 (i + 1)
    show c2 i + c2 (i + 1) < 16
    omega
  have x3l : hS 256 8 c3 < 2 ^ 64 := hS_lt 8 c3 (fun i => by have := l3 i; omega)
  have y4 : hS 256 8 c3 + hS 256 8 c3 / 2 ^ 8 = hS 256 8 (fun i => c3 i + c3 (i + 1)) := by
    have d1 : hS 256 8 c3 / 2 ^ 8 = hS 256 8 (fun i => c3 (i + 1)) := hS_div 8 c3 (by have := l3 0; omega) (z3 8 (by omega))
    rw [d1, hS_add]
  obtain ⟨e1, he1⟩ : ∃ e1 : Nat → Nat, e1 = fun i => c3 i + c3 (i + 1) := ⟨_, rfl⟩
  have f1 : ∀ i, e1 i = c3 i + c3 (i + 1) := fun i => by rw [he1]
  rw [← he1] at y4
  have le1 : ∀ i, e1 i ≤ 16 := fun i => by have h1 := l3 i; have h2 := l3 (i + 1); have h3 := f1 i; omega
  have ze1 : ∀ i, 8 ≤ i → e1 i = 0 := fun i hi => by rw [f1, z3 _ hi, z3 _ (by omega)]
  have x4l : hS 256 8 e1 < 2 ^ 64 := hS_lt 8 e1 (fun i => by have := le1 i; omega)
  have y5 : hS 256 8 e1 + hS 256 8 e1 / 2 ^ 16 = hS 256 8 (fun i => e1 i + e1 (i + 1 + 1)) := by
    have d1 : hS 256 8 e1 / 256 = hS 256 8 (fun i => e1 (i + 1)) := hS_div 8 e1 (by have := le1 0; omega) (ze1 8 (by omega))
    have d2 : hS 256 8 (fun i => e1 (i + 1)) / 256 = hS 256 8 (fun i => e1 (i + 1 + 1)) := hS_div 8 (fun i => e1 (i + 1)) (Nat.lt_of_le_of_lt (le1 _) (by decide)) (ze1 9 (by omega))
    rw [show (2 : Nat) ^ 16 = 256 * 256 from rfl, ← Nat.div_div_eq_div_mul, d1, d2, hS_add]
  obtain ⟨e2, he2⟩ : ∃ e2 : Nat → Nat, e2 = fun i => e1 i + e1 (i + 1 + 1) := ⟨_, rfl⟩
  have f2 : ∀ i, e2 i = e1 i + e1 (i + 1 + 1) := fun i => by rw [he2]
  rw [← he2] at y5
  have le2 : ∀ i, e2 i ≤ 32 := fun i => by have h1 := le1 i; have h2 := le1 (i + 1 + 1); have h3 := f2 i; omega
  have ze2 : ∀ i, 8 ≤ i → e2 i = 0 := fun i hi => by rw [f2, ze1 _ hi, ze1 _ (by omega)]
  have x5l : hS 256 8 e2 < 2 ^ 64 := hS_lt 8 e2 (fun i => by have := le2 i; omega)
  have y6 : hS 256 8 e2 + hS 256 8 e2 / 2 ^ 32 = hS 256 8 (fun i => e2 i + e2 (i + 1 + 1 + 1 + 1)) := by
    have d1 : hS 256 8 e2 / 256 = hS 256 8 (fun i => e2 (i + 1)) := hS_div 8 e2 (by have := le2 0; omega) (ze2 8 (by omega))
    have d2 : hS 256 8 (fun i => e2 (i + 1)) / 256 = hS 256 8 (fun i => e2 (i + 1 + 1)) := hS_div 8 (fun i => e2 (i + 1)) (Nat.lt_of_le_of_lt (le2 _) (by decide)) (ze2 9 (by omega))
    have d3 : hS 256 8 (fun i => e2 (i + 1 + 1)) / 256 = hS 256 8 (fun i => e2 (i + 1 + 1 + 1)) := hS_div 8 (fun i => e2 (i + 1 + 1)) (Nat.lt_of_le_of_lt (le2 _) (by decide)) (ze2 10 (by omega))
    have d4 : hS 256 8 (fun i => e2 (i + 1 + 1 + 1)) / 256 = hS 256 8 (fun i => e2 (i + 1 + 1 + 1 + 1)) := hS_div 8 (fun i => e2 (i + 1 + 1 + 1)) (Nat.lt_of_le_of_lt (le2 _) (by decide)) (ze2 11 (by omega))
    rw [show (2 : Nat) ^ 32 = 256 * 256 * 256 * 256 from rfl, ← Nat.div_div_eq_div_mul, ← Nat.div_div_eq_div_mul, ← Nat.div_div_eq_div_mul, d1, d2, d3, d4, hS_add]
  have y7 : hS 256 8 (fun i => e2 i + e2 (i + 1 + 1 + 1 + 1)) % 128 = smN b 64 := by
    have h1 : smN b (2 * 32) = smN c1 32 := (smN_pair b 32).trans (by rw [show (fun i => b (2 * i) + b (2 * i + 1)) = c1 from funext fun i => (hc1 i).symm])
    have h2 : smN c1 (2 * 16) = smN c2 16 := (smN_pair c1 16).trans (by rw [show (fun i => c1 (2 * i) + c1 (2 * i + 1)) = c2 from funext fun i => (hc2 i).symm])
    have h3 : smN c2 (2 * 8) = smN c3 8 := (smN_pair c2 8).trans (by rw [show (fun i => c2 (2 * i) + c2 (2 * i + 1)) = c3 from funext fun i => (hc3 i).symm])
    have h4 : smN c3 8 = 0 + c3 0 + c3 1 + c3 2 + c3 3 + c3 4 + c3 5 + c3 6 + c3 7 := rfl
    have h5 : smN b 64 = smN c3 8 := h1.trans (h2.trans h3)
    have h6 : hS 256 8 (fun i => e2 i + e2 (i + 1 + 1 + 1 + 1)) = (e2 0 + e2 4) + 256 * hS 256 7 (fun i => e2 (i + 1) + e2 (i + 1 + 1 + 1 + 1 + 1)) := rfl
    rw [h6, h5, h4]
    have q0 := f2 0
    have q4 := f2 4
    have p0 := f1 0
    have p2 := f1 2
    have p4 := f1 4
    have p6 := f1 6
    have r0 := le2 0
    have r4 := le2 4
    simp only [Nat.zero_add, Nat.reduceAdd] at q0 q4 p0 p2 p4 p6
    omega
  refine ⟨hS 4 32 c1, hS 16 16 c2, hS 256 8 c3, hS 256 8 e1, hS 256 8 e2, hS 256 8 (fun i => e2 i + e2 (i + 1 + 1 + 1 + 1)), x1e.symm, by omega, y2.symm, y3.symm, y4.symm, y5.symm, y6.symm, x1l, x2l, x3l, x4l, x5l, y7⟩
theorem pr_bitCount (v : BitVec 64) : mJ13_bitCount_95d88 (Int64.ofBitVec v) = some (nI (cnt v 64)) := by
  obtain ⟨x1, x2, x3, x4, x5, x6, e1, e0, e2, e3, e4, e5, e6, l1, l2, l3, l4, l5, e7⟩ := pop_nat v.toNat v.isLt _ rfl
  rw [← cnt_sm] at e7
  have m1 : (6148914691236517205 : Int64) = lN 6148914691236517205 := rfl
  have m2 : (3689348814741910323 : Int64) = lN 3689348814741910323 := rfl
  have m3 : (1085102592571150095 : Int64) = lN 1085102592571150095 := rfl
  rw [← lN_bv64, mJ13_bitCount_95d88, m1, m2, m3]
  rw [k_wshr v.isLt (k := 1) (by decide), lN_and, lN_sub e0, ← e1]
  simp only [Option.bind_some]
  rw [k_wshr l1 (k := 2) (by decide), lN_and, lN_and, lN_add, ← e2]
  rw [k_wshr l2 (k := 4) (by decide), lN_add, lN_and, ← e3]
  rw [k_wshr l3 (k := 8) (by decide), lN_add, ← e4]
  rw [k_wshr l4 (k := 16) (by decide), lN_add, ← e5]
  rw [k_wshr l5 (k := 32) (by decide), lN_add, ← e6, lI, pk_and _ (m := 127) 7 (by decide)]
  congr 2
  show (BitVec.ofNat 32 x6).toNat % 2 ^ 7 = _
  rw [BitVec.toNat_ofNat]
  omega
theorem cnt_congr {x y : BitVec 64} : ∀ n, (∀ i, i < n → x.getLsbD i = y.getLsbD i) → cnt x n = cnt y n
  | 0, _ => rfl
  | n + 1, h => by rw [cnt, cnt, cnt_congr n (fun i hi => h i (by omega)), h n (by omega)]
theorem cnt_hi {x : BitVec 64} {w : Nat} (h : ∀ i, w ≤ i → x.getLsbD i = false) : ∀ d, cnt x (w + d) = cnt x w
  | 0 => rfl
  | d + 1 => by
    rw [show w + (d + 1) = (w + d) + 1 from rfl, cnt, cnt_hi h d, h _ (by omega)]
    rfl
theorem pr_ones {b : Bool} {f : Nat → Int64} {c : Nat → BitVec 64} {j : Nat} (h : isC f c) (hj : j < 8) : mX2_ones f (bI b) (nI j) = some (nI (cnt (c j) (wd b))) := by
  rw [mX2_ones, pr_cplain b h hj]
  simp only [Option.bind_some]
  rw [pr_bitCount]
  simp only [Option.bind_some]
  congr 2
  have hw := wd_le b
  have hb : ∀ i, (pln b (c j)).getLsbD i = (decide (i < 64) && (decide (i < wd b) && (c j).getLsbD i)) := fun i => by rw [pln, BitVec.getLsbD_setWidth, BitVec.getLsbD_setWidth]
  have h1 : cnt (pln b (c j)) (wd b + (64 - wd b)) = cnt (pln b (c j)) (wd b) := cnt_hi (fun i hi => by rw [hb, decide_eq_false (show ¬ i < wd b by omega), Bool.false_and, Bool.and_false]) _
  rw [show wd b + (64 - wd b) = 64 by omega] at h1
  rw [h1]
  exact cnt_congr _ (fun i hi => by rw [hb, decide_eq_true hi, decide_eq_true (show i < 64 by omega)]; rfl)
