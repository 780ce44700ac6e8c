/-! pure: what a piece says, and how the class reads it -/
def dgv (x : Nat) : Nat := if 48 ≤ x ∧ x ≤ 57 then x - 48 else if 97 ≤ x ∧ x ≤ 122 then x - 87 else if 65 ≤ x ∧ x ≤ 90 then x - 55 else 99
theorem pr_digVal : ∀ x, x < 256 → mX3_valueOf (nI x) = some (if dgv x < 36 then nI (dgv x) else -1) := by decide +kernel
theorem pr_digitOf : ∀ x, x < 256 → mX13_digitOf (nI x) = some (if dgv x < 36 then nI (dgv x) else -1) := by decide +kernel
/-- the number of d digits from i on, behind s -/
def hval (R : Nat) (g : Nat → Nat) : Nat → Nat → Nat → Nat
  | 0, _, s => s
  | d + 1, i, s => hval R g d (i + 1) (s * R + dgv (g i))
def alld (R : Nat) (g : Nat → Nat) : Nat → Nat → Bool
  | 0, _ => true
  | d + 1, i => decide (dgv (g i) < R) && alld R g d (i + 1)
theorem hval_ge {R : Nat} {g : Nat → Nat} (hR : 1 ≤ R) : ∀ (d i s : Nat), s ≤ hval R g d i s
  | 0, _, s => Nat.le_refl s
  | d + 1, i, s => by
    have h := hval_ge (g := g) hR d (i + 1) (s * R + dgv (g i))
    have h2 : s * 1 ≤ s * R := Nat.mul_le_mul_left s hR
    rw [hval]
    omega
/-- the largest size -/
def mostN (p ng : Bool) (W : Nat) : Nat := if p then 2 ^ W - 1 else if ng then 2 ^ (W - 1) else 2 ^ (W - 1) - 1
theorem pr_mostSize (p ng b : Bool) : mX5_mostSize (bI ng) (bI p) (bI b) = some (lN (mostN p ng (wd b))) := by
  cases p <;> cases ng <;> cases b <;> decide +kernel
theorem mostN_lt (p ng b : Bool) : mostN p ng (wd b) < 2 ^ 64 := by
  cases p <;> cases ng <;> cases b <;> decide +kernel
theorem fits_iff {s d R M : Nat} (hR : 0 < R) (hd : d < R) : s * R + d ≤ M ↔ s < M / R ∨ (s = M / R ∧ d ≤ M % R) := by
  have h1 := Nat.div_add_mod M R
  have h2 := Nat.mod_lt M hR
  generalize M / R = q at *
  generalize M % R = r at *
  rcases Nat.lt_trichotomy s q with h | h | h
  · have h3 : (s + 1) * R ≤ q * R := Nat.mul_le_mul_right R h
    rw [Nat.add_mul, Nat.one_mul] at h3
    rw [Nat.mul_comm] at h1
    constructor
    · intro _
      exact Or.inl h
    · intro _
      omega
  · subst h
    rw [Nat.mul_comm] at h1
    constructor
    · intro h4
      exact Or.inr ⟨rfl, by omega⟩
    · intro h4
      rcases h4 with h4 | h4
      · omega
      · omega
  · have h3 : (q + 1) * R ≤ s * R := Nat.mul_le_mul_right R h
    rw [Nat.add_mul, Nat.one_mul] at h3
    rw [Nat.mul_comm] at h1
    constructor
    · intro h4
      omega
    · intro h4
      omega
theorem pr_byteAt {N len i : Nat} {f : Nat → Int32} (h : i < len) (hl : len ≤ N) (hN : N < 1000) : mX6_byteAt N f (nI len) (nI i) = some (f i) := by
  rw [mX6_byteAt, if_neg (nI_pos (by omega)), if_neg (nI_ge h (by omega)), if_neg (nI_in (by omega) (by omega)), nI_clamp (by omega)]
theorem pr_byteAt0 {N len i : Nat} {f : Nat → Int32} (h : len ≤ i) (hi : i < 1000) : mX6_byteAt N f (nI len) (nI i) = some 0 := by
  rw [mX6_byteAt, if_neg (nI_pos (by omega)), if_pos (nI_le h (by omega))]
theorem ord_lN {a c : Nat} (ha : a < 2 ^ 64) (hc : c < 2 ^ 64) : mX1_plainOrder (lN a) (lN c) = some (cmpI a c) := by
  have e : ∀ q : Nat, lN q = Int64.ofBitVec (BitVec.ofNat 64 q) := fun _ => rfl
  rw [e a, e c, pr_plainOrder, BitVec.toNat_ofNat, BitVec.toNat_ofNat, Nat.mod_eq_of_lt ha, Nat.mod_eq_of_lt hc]
theorem pr_rd107 {N len e R M : Nat} {ng : Bool} {f : Nat → Int32} {g : Nat → Nat} {v : Int64} (hR : 2 ≤ R) (hR2 : R ≤ 36) (hM : M < 2 ^ 64) (he : e ≤ len) (hl : len ≤ N) (hN : N < 1000) (hf : ∀ i, i < len → f i = nI (g i)) (hg : ∀ i, i < len → g i < 256) : ∀ (d i k s : Nat), i + d = e → d < k → s ≤ M → mX5_canRead_L107 (nI e) (bI ng) N f (nI len) v (nI R) (lN (M / R)) (lN (M % R)) k (lN s) (nI i) = some (if (alld R g d i && decide (hval R g d i s ≤ M)) = true then (1, if ng then -(lN (hval R g d i s)) else lN (hval R g d i s)) else (0, v))
  | _, _, 0, _, _, hk, _ => absurd hk (Nat.not_lt_zero _)
  | 0, i, k + 1, s, h, _, hs => by
    rw [mX5_canRead_L107, if_pos (nI_le (by omega) (by omega)), alld, hval, decide_eq_true hs]
    cases ng with
    | false => rw [if_pos bI_f]; rfl
    | true => rw [if_neg (show ¬ bI true = 0 by decide)]; rfl
  | d + 1, i, k + 1, s, h, hk, hs => by
    have hi : i < len := by omega
    rw [mX5_canRead_L107, if_neg (nI_ge (by omega) (by omega)), pr_byteAt hi hl hN]
    simp only [Option.bind_some]
    rw [hf i hi, pr_digVal _ (hg i hi), alld, hval]
    simp only [Option.bind_some]
    by_cases hd : dgv (g i) < R
    · rw [decide_eq_true hd, Bool.true_and, if_pos (show dgv (g i) < 36 by omega), if_neg (nI_pos (n := dgv (g i)) (by omega)), if_pos (nI_lt hd (by omega))]
      have hMR : M / R < 2 ^ 64 := Nat.lt_of_le_of_lt (Nat.div_le_self _ _) hM
      have hMr : M % R < R := Nat.mod_lt _ (by omega)
      rw [ord_lN (by omega) hMR]
      simp only [Option.bind_some]
      have fi := fits_iff (s := s) (M := M) (by omega) hd
      have eR : (nI R).toInt64 = lN R := nI_l (by omega)
      have eD : (nI (dgv (g i))).toInt64 = lN (dgv (g i)) := nI_l (by omega)
      have go : s * R + dgv (g i) ≤ M → mX5_canRead_L107 (nI e) (bI ng) N f (nI len) v (nI R) (lN (M / R)) (lN (M % R)) k (lN s * (nI R).toInt64 + (nI (dgv (g i))).toInt64) (nI i + 1) = some (if (alld R g d (i + 1) && decide (hval R g d (i + 1) (s * R + dgv (g i)) ≤ M)) = true then (1, if ng then -(lN (hval R g d (i + 1) (s * R + dgv (g i)))) else lN (hval R g d (i + 1) (s * R + dgv (g i)))) else (0, v)) := fun hle => by
        rw [eR, eD, lN_mul, lN_add, nI_1]
        exact pr_rd107 hR hR2 hM he hl hN hf hg d (i + 1) k (s * R + dgv (g i)) (by omega) (by omega) hle
      have no : ¬ s * R + dgv (g i) ≤ M → (if (alld R g d (i + 1) && decide (hval R g d (i + 1) (s * R + dgv (g i)) ≤ M)) = true then ((1 : Int32), if ng then -(lN (hval R g d (i + 1) (s * R + dgv (g i)))) else lN (hval R g d (i + 1) (s * R + dgv (g i)))) else (0, v)) = (0, v) := fun hle => by
        have h9 := hval_ge (g := g) (show 1 ≤ R by omega) d (i + 1) (s * R + dgv (g i))
        rw [decide_eq_false (by omega), Bool.and_false, if_neg (by decide)]
      rcases Nat.lt_trichotomy s (M / R) with h1 | h1 | h1
      · rw [cmpI_lt h1, if_neg (by decide)]
        show (if (-1 : Int32) = 0 then _ else _) = _
        rw [if_neg (by decide)]
        exact go (fi.mpr (Or.inl h1))
      · rw [cmpI_eq h1, if_neg (by decide)]
        show (if (0 : Int32) = 0 then (if lg_cmp (nI (dgv (g i))).toInt64 (lN (M % R)) ≤ 0 then _ else _) else _) = _
        rw [if_pos rfl]
        by_cases h2 : dgv (g i) ≤ M % R
        · rw [if_pos ((lg_cmp_le _ _).mpr (by rw [eD]; exact (lN_le (by omega) (by omega)).mpr h2))]
          exact go (fi.mpr (Or.inr ⟨h1, h2⟩))
        · rw [if_neg (fun z => h2 ((lN_le (by omega) (by omega)).mp (by have h9 := (lg_cmp_le _ _).mp z; rw [eD] at h9; exact h9))), no (fun z => by
            rcases fi.mp z with h3 | h3
            · omega
            · exact h2 h3.2)]
      · rw [cmpI_gt h1, if_pos (by decide), no (fun z => by
          rcases fi.mp z with h3 | h3 <;> omega)]
    · rw [decide_eq_false hd, Bool.false_and, Bool.false_and, if_neg (show ¬ false = true by decide)]
      by_cases h36 : dgv (g i) < 36
      · rw [if_pos h36, if_neg (nI_pos (by omega)), if_neg (nI_nlt (by omega) (by omega))]
      · rw [if_neg h36, if_pos (by decide)]
/-- the sign of a piece, its first digit, whether it is a number, and its size -/
def pcN (g : Nat → Nat) (a e : Nat) : Bool := decide (a < e) && decide (g a = 45)
def pcF (g : Nat → Nat) (a e : Nat) : Nat := if a < e ∧ (g a = 45 ∨ g a = 43) then a + 1 else a
def pcV (r : Int32) (g : Nat → Nat) (a e : Nat) : Nat := hval (rdx r) g (e - pcF g a e) (pcF g a e) 0
def pcOK (p : Bool) (W : Nat) (r : Int32) (g : Nat → Nat) (a e : Nat) : Bool := !decide (r < 2 ∨ 36 < r) && (decide (pcF g a e < e) && (!(pcN g a e && p) && (alld (rdx r) g (e - pcF g a e) (pcF g a e) && decide (pcV r g a e ≤ mostN p (pcN g a e) W))))
def vz (ng : Bool) (V W : Nat) : BitVec W := if ng then -(BitVec.ofNat W V) else BitVec.ofNat W V
theorem vz_low {ng : Bool} {V W : Nat} (hW : W ≤ 64) : (vz ng V 64).setWidth W = vz ng V W := by
  have e : (BitVec.ofNat 64 V).setWidth W = BitVec.ofNat W V := by
    apply BitVec.eq_of_toNat_eq
    rw [BitVec.toNat_setWidth, BitVec.toNat_ofNat, BitVec.toNat_ofNat, Nat.mod_mod_of_dvd _ (Nat.pow_dvd_pow 2 hW)]
  unfold vz
  split
  · rw [BitVec.setWidth_neg_of_le hW, e]
  · exact e
theorem pr_canRead {b p : Bool} {N len a e k : Nat} {r : Int32} {f : Nat → Int32} {g : Nat → Nat} {v : Int64} (ha : a ≤ e) (he : e ≤ len) (hl : len ≤ N) (hN : N < 1000) (hk : N < k) (hf : ∀ i, i < len → f i = nI (g i)) (hg : ∀ i, i < len → g i < 256) : mX5_canRead k N v f (nI len) (nI a) (nI e) r (bI p) (bI b) = some (if pcOK p (wd b) r g a e = true then (1, Int64.ofBitVec (vz (pcN g a e) (pcV r g a e) 64)) else (0, v)) := by
  obtain ⟨R1, R2, R3⟩ := rdx_spec r
  by_cases hr : r < 2 ∨ 36 < r
  · have eo : pcOK p (wd b) r g a e = false := by rw [pcOK, decide_eq_true hr]; rfl
    rw [eo, if_neg (by decide), mX5_canRead]
    have hb : ∃ z, mX6_byteAt N f (nI len) (nI a) = some z := by
      by_cases h : a < len
      · exact ⟨_, pr_byteAt h hl hN⟩
      · exact ⟨_, pr_byteAt0 (by omega) (by omega)⟩
    obtain ⟨z, ez⟩ := hb
    rw [ez]
    simp only [Option.bind_some]
    have h1 : ∃ x3, ((if z = 45 then some 1 else some 0) : Option Int32) = some x3 := by split <;> exact ⟨_, rfl⟩
    obtain ⟨x3, e3⟩ := h1
    rw [e3]
    simp only [Option.bind_some]
    have h2 : ∃ x6, ((if x3 = 0 then (if z = 43 then some (nI a + 1) else some (nI a)) else some (nI a + 1)) : Option Int32) = some x6 := by
      split
      · split <;> exact ⟨_, rfl⟩
      · exact ⟨_, rfl⟩
    obtain ⟨x6, e6⟩ := h2
    rw [e6]
    simp only [Option.bind_some]
    rw [pr_isRadix]
    simp only [Option.bind_some]
    rw [if_pos hr, if_pos rfl]
  · have er : nI (rdx r) = r := by rw [← R3, if_neg hr]
    rw [mX5_canRead]
    by_cases hae : a < e
    · have hb := pr_byteAt (f := f) (show a < len by omega) hl hN
      rw [hb]
      simp only [Option.bind_some]
      have ga := hg a (by omega)
      rw [hf a (by omega)]
      have e45 : (45 : Int32) = nI 45 := rfl
      have e43 : (43 : Int32) = nI 43 := rfl
      have h45 : nI (g a) = 45 ↔ g a = 45 := by rw [e45]; exact nI_eq (by omega) (by omega)
      have h43 : nI (g a) = 43 ↔ g a = 43 := by rw [e43]; exact nI_eq (by omega) (by omega)
      have eN : pcN g a e = decide (g a = 45) := by rw [pcN, decide_eq_true hae, Bool.true_and]
      have e3 : ((if nI (g a) = 45 then some 1 else some 0) : Option Int32) = some (bI (pcN g a e)) := by
        rw [eN]
        by_cases h : g a = 45
        · rw [if_pos (h45.mpr h), decide_eq_true h]; rfl
        · rw [if_neg (fun z => h (h45.mp z)), decide_eq_false h]; rfl
      have e6 : ((if bI (pcN g a e) = 0 then (if nI (g a) = 43 then some (nI a + 1) else some (nI a)) else some (nI a + 1)) : Option Int32) = some (nI (pcF g a e)) := by
        rw [eN, pcF]
        by_cases h : g a = 45
        · rw [decide_eq_true h, if_neg (by decide), if_pos ⟨hae, Or.inl h⟩, nI_1]
        · rw [decide_eq_false h, if_pos bI_f]
          by_cases h4 : g a = 43
          · rw [if_pos (h43.mpr h4), if_pos ⟨hae, Or.inr h4⟩, nI_1]
          · rw [if_neg (fun z => h4 (h43.mp z)), if_neg (fun z => z.2.elim h h4)]
      rw [e3]
      simp only [Option.bind_some]
      rw [e6]
      simp only [Option.bind_some]
      rw [pr_isRadix]
      simp only [Option.bind_some]
      rw [if_neg hr, if_neg (by decide)]
      have hFle : pcF g a e ≤ a + 1 := by
        unfold pcF
        split <;> omega
      have h68 : pcF g a e < e → mX5_canRead_j68 (bI (pcN g a e)) (bI p) (bI b) r (nI e) N f (nI len) v k (nI (pcF g a e)) = some (if (alld (rdx r) g (e - pcF g a e) (pcF g a e) && decide (pcV r g a e ≤ mostN p (pcN g a e) (wd b))) = true then (1, Int64.ofBitVec (vz (pcN g a e) (pcV r g a e) 64)) else (0, v)) := fun hF => by
        have hm := mostN_lt p (pcN g a e) b
        have h9 := pr_rd107 (ng := pcN g a e) (M := mostN p (pcN g a e) (wd b)) (v := v) R1 R2 hm he hl hN hf hg (e - pcF g a e) (pcF g a e) k 0 (by omega) (by omega) (Nat.zero_le _)
        have eR : r.toInt64 = lN (rdx r) := by rw [← er]; rw [nI_l (by omega), er]
        rw [mX5_canRead_j68, pr_mostSize]
        simp only [Option.bind_some]
        rw [eR, pr_pq hm (by omega) (by omega)]
        simp only [Option.bind_some]
        have q2 : mostN p (pcN g a e) (wd b) / rdx r * rdx r ≤ mostN p (pcN g a e) (wd b) := Nat.div_mul_le_self _ _
        have q3 : mostN p (pcN g a e) (wd b) - mostN p (pcN g a e) (wd b) / rdx r * rdx r = mostN p (pcN g a e) (wd b) % rdx r := by
          have := Nat.div_add_mod (mostN p (pcN g a e) (wd b)) (rdx r)
          rw [Nat.mul_comm] at this
          omega
        rw [lN_mul, lN_sub q2, q3]
        rw [er] at h9
        refine h9.trans ?_
        show some (if (alld (rdx r) g (e - pcF g a e) (pcF g a e) && decide (pcV r g a e ≤ mostN p (pcN g a e) (wd b))) = true then (1, if pcN g a e then -(lN (pcV r g a e)) else lN (pcV r g a e)) else (0, v)) = _
        congr 2
        unfold vz
        cases pcN g a e <;> rfl
      by_cases hF : pcF g a e < e
      · rw [if_neg (nI_ge hF (by omega)), pcOK, decide_eq_false hr, decide_eq_true hF]
        cases hn : pcN g a e with
        | false =>
          rw [hn] at h68
          rw [if_pos bI_f, h68 hF]
          rfl
        | true =>
          rw [hn] at h68
          rw [if_neg (by decide)]
          cases p with
          | false =>
            rw [if_pos bI_f, h68 hF]
            rfl
          | true =>
            rw [if_neg (by decide)]
            rfl
      · rw [if_pos (nI_le (by omega) (by omega)), pcOK, decide_eq_false hF]
        simp
    · have eF : pcF g a e = a := by rw [pcF, if_neg (fun z => hae z.1)]
      have eo : pcOK p (wd b) r g a e = false := by rw [pcOK, eF, decide_eq_false hae]; simp
      rw [eo, if_neg (by decide)]
      have hb : ∃ z, mX6_byteAt N f (nI len) (nI a) = some z := by
        by_cases h : a < len
        · exact ⟨_, pr_byteAt h hl hN⟩
        · exact ⟨_, pr_byteAt0 (by omega) (by omega)⟩
      obtain ⟨z, ez⟩ := hb
      rw [ez]
      simp only [Option.bind_some]
      have h1 : ∃ x3, ((if z = 45 then some 1 else some 0) : Option Int32) = some x3 := by split <;> exact ⟨_, rfl⟩
      obtain ⟨x3, e3⟩ := h1
      rw [e3]
      simp only [Option.bind_some]
      have h2 : ∃ x6, ((if x3 = 0 then (if z = 43 then some (nI a + 1) else some (nI a)) else some (nI a + 1)) : Option Int32) = some x6 ∧ nI e ≤ x6 := by
        split
        · split
          · exact ⟨_, rfl, by rw [nI_1]; exact nI_le (by omega) (by omega)⟩
          · exact ⟨_, rfl, nI_le (by omega) (by omega)⟩
        · exact ⟨_, rfl, by rw [nI_1]; exact nI_le (by omega) (by omega)⟩
      obtain ⟨x6, e6, h6⟩ := h2
      rw [e6]
      simp only [Option.bind_some]
      rw [pr_isRadix]
      simp only [Option.bind_some]
      rw [if_neg hr, if_neg (by decide), if_pos h6]
