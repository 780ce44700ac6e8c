/-! pure: how the reference reads a piece -/
theorem pr_fi135_x {W R F dg : Nat} (hW : W ≤ 64) (hR2 : R ≤ 36) (hd : dg < 36) : ∀ (q t k : Nat) (f : Nat → Int32), t + q = W → q < k → (∀ j, j < t → f j = bI ((F * R + dg).testBit j)) → (∀ j, t ≤ j → j < W → f j = bI (F.testBit j)) → ∃ f2, mX12_finds_x_L135 (nI W) (nI R) k (nI ((F % 2 ^ t * R + dg) / 2 ^ t)) (nI t) f = some (nI ((F % 2 ^ W * R + dg) / 2 ^ W), f2) ∧ ∀ j, j < W → f2 j = bI ((F * R + dg).testBit j)
  | _, _, 0, _, _, hk, _, _ => absurd hk (Nat.not_lt_zero _)
  | 0, t, k + 1, f, h, _, q1, _ => ⟨f, by
    rw [mX12_finds_x_L135, if_pos (nI_le (by omega) (by omega)), show t = W by omega], fun j hj => q1 j (by omega)⟩
  | q + 1, t, k + 1, f, h, hk, q1, q2 => by
    have hp : 0 < 2 ^ t := Nat.two_pow_pos t
    have e2 : 2 ^ (t + 1) = 2 ^ t * 2 := Nat.pow_succ ..
    have hm := mod_bit F t
    obtain ⟨x, hx⟩ : ∃ x, x = (F % 2 ^ t * R + dg) / 2 ^ t + (F.testBit t).toNat * R := ⟨_, rfl⟩
    have hc : (F % 2 ^ t * R + dg) / 2 ^ t < 72 := by
      rw [Nat.div_lt_iff_lt_mul hp]
      have h1 : F % 2 ^ t * R ≤ F % 2 ^ t * 36 := Nat.mul_le_mul_left _ hR2
      have h2 := Nat.mod_lt F hp
      omega
    have hx1 : x = (F % 2 ^ (t + 1) * R + dg) / 2 ^ t := by
      rw [hx, hm]
      have e3 : (F % 2 ^ t + 2 ^ t * (F.testBit t).toNat) * R + dg = (F % 2 ^ t * R + dg) + 2 ^ t * ((F.testBit t).toNat * R) := by
        rw [Nat.add_mul, Nat.mul_assoc]
        omega
      rw [e3, Nat.add_mul_div_left _ _ hp]
    have hx2 : x / 2 = (F % 2 ^ (t + 1) * R + dg) / 2 ^ (t + 1) := by rw [hx1, Nat.div_div_eq_div_mul, e2]
    have hxb : (F * R + dg).testBit t = decide (x % 2 = 1) := by
      rw [Nat.testBit_eq_decide_div_mod_eq, hx1]
      have h3 := Nat.div_add_mod F (2 ^ (t + 1))
      have e4 : F * R + dg = (F % 2 ^ (t + 1) * R + dg) + 2 ^ t * (2 * (F / 2 ^ (t + 1) * R)) := by
        have e5 : F * R = (2 ^ (t + 1) * (F / 2 ^ (t + 1)) + F % 2 ^ (t + 1)) * R := by rw [h3]
        rw [e5, e2, Nat.add_mul]
        have e6 : 2 ^ t * 2 * (F / (2 ^ t * 2)) * R = 2 ^ t * (2 * (F / (2 ^ t * 2) * R)) := by
          rw [Nat.mul_assoc, Nat.mul_assoc]
        rw [e6]
        omega
      rw [e4, Nat.add_mul_div_left _ _ hp, Nat.add_mul_mod_self_left]
    have hxl : x < 200 := by
      have h1 : (F.testBit t).toNat ≤ 1 := by cases F.testBit t <;> decide
      have h2 : (F.testBit t).toNat * R ≤ 1 * R := Nat.mul_le_mul_right R h1
      omega
    have g1 : (nI t < 0 ∨ 64 ≤ t) = False := eq_false (nI_in2 (by omega) (by omega))
    have c1 : (nI t).toNatClampNeg = t := nI_clamp (by omega)
    have e7 : (((if bI (F.testBit t) = 0 then some 0 else some (nI R)) : Option Int32).bind (fun x_123 => ((some (nI ((F % 2 ^ t * R + dg) / 2 ^ t) + x_123) : Option Int32)))) = some (nI x) := by
      rw [hx]
      cases F.testBit t with
      | true =>
        rw [if_neg (by decide)]
        simp only [Option.bind_some]
        rw [nI_add]
        show some (nI (_ + R)) = some (nI (_ + 1 * R))
        rw [Nat.one_mul]
      | false =>
        rw [if_pos bI_f]
        simp only [Option.bind_some]
        show some (nI _ + nI 0) = some (nI (_ + 0 * R))
        rw [nI_add, Nat.zero_mul]
    have e8 : ((if (nI x - nI x / 2 * 2) = 1 then some 1 else some 0) : Option Int32) = some (bI ((F * R + dg).testBit t)) := by
      have h9 : nI x - nI x / 2 * 2 = nI (x % 2) := pk_rem (d := 2) (by omega) (by decide) (by decide)
      rw [h9, hxb]
      by_cases h1 : x % 2 = 1
      · rw [h1, if_pos (show nI 1 = 1 from rfl), decide_eq_true rfl]
        rfl
      · rw [show x % 2 = 0 by omega, if_neg (by decide), decide_eq_false (by decide)]
        rfl
    have e9 : nI x / 2 = nI (x / 2) := pk_div (d := 2) (by omega) (by decide) (by decide)
    obtain ⟨f2, e, r2⟩ := pr_fi135_x (F := F) (dg := dg) hW hR2 hd q (t + 1) k (upd f t (bI ((F * R + dg).testBit t))) (by omega) (by omega) (fun j hj => by
      by_cases hjt : j = t
      · rw [hjt, pk_us]
      · rw [pk_un hjt]
        exact q1 j (by omega)) (fun j h1 h2 => by
      rw [pk_un (by omega)]
      exact q2 j (by omega) h2)
    refine ⟨f2, ?_, r2⟩
    rw [mX12_finds_x_L135, if_neg (nI_ge (by omega) (by omega))]
    simp only [c1, g1, if_false]
    rw [q2 t (Nat.le_refl _) (by omega)]
    cases hy : ((if bI (F.testBit t) = 0 then some 0 else some (nI R)) : Option Int32) with
    | none =>
      rw [hy] at e7
      cases e7
    | some z =>
      rw [hy] at e7
      simp only [Option.bind_some] at e7 ⊢
      rw [Option.some.inj e7, e8]
      simp only [Option.bind_some]
      rw [e9, nar_b, nI_1, hx2]
      exact e
theorem pr_fi102_x {W R e K : Nat} {p ng : Bool} {fr : Nat → Int32} {g : Nat → Nat} (hW0 : 1 ≤ W) (hW : W ≤ 64) (hR : 2 ≤ R) (hR2 : R ≤ 36) (he : e ≤ 300) (hf : ∀ i, i < e → fr i = nI (g i)) (hg : ∀ i, i < e → g i < 256) (hK : 66 < K) (hpn : (ng && p) = false) : ∀ (d i k s : Nat) (f : Nat → Int32), i + d = e → d < k → (∀ j, j < W → f j = bI (s.testBit j)) → ∃ f2, mX12_finds_x_L102 (nI e) (bI ng) K (nI W) (bI p) fr (nI R) k (bI (decide (2 ^ W ≤ s))) (nI i) f = some (bI (alld R g d i && decide (hval R g d i s ≤ mostN p ng W)), f2) ∧ ((alld R g d i && decide (hval R g d i s ≤ mostN p ng W)) = true → isR W f2 (vz ng (hval R g d i s) W))
  | _, _, 0, _, _, _, hk, _ => absurd hk (Nat.not_lt_zero _)
  | 0, i, k + 1, s, f, h, _, q1 => by
    have hp1 : 2 ^ W = 2 ^ (W - 1) * 2 := by rw [← Nat.pow_succ, show (W - 1).succ = W by omega]
    have hp0 : 0 < 2 ^ (W - 1) := Nat.two_pow_pos _
    have hfs : isR W f (BitVec.ofNat W s) := fun j hj => by rw [q1 j hj, ofN_bit hj]
    have em : nI W - 1 = nI (W - 1) := pk_sub (b := 1) hW0
    have hz := pr_nothing (w := W - 1) (N := 64) (k := K) (f := f) (x := BitVec.ofNat (W - 1) s) (fun j hj => by rw [q1 j (by omega), ofN_bit hj]) (by omega) (by omega) (by omega) (by omega)
    rw [mX12_finds_x_L102, if_pos (nI_le (by omega) (by omega)), alld, hval, Bool.true_and, em, hz]
    simp only [Option.bind_some]
    have h271 : ∃ f2, mX12_finds_x_j271 (bI ng) f K (nI W) = some (1, f2) ∧ isR W f2 (vz ng s W) := by
      cases ng with
      | false => exact ⟨f, by rw [mX12_finds_x_j271, if_pos bI_f], hfs⟩
      | true =>
        obtain ⟨f2, e2, r1, r2⟩ := pr_negates (N := 64) (k := K) hfs (by omega) (by omega) (by omega) (by omega)
        refine ⟨f2, ?_, r1⟩
        rw [mX12_finds_x_j271, if_neg (by decide), e2]
        rfl
    obtain ⟨f2, e271, r271⟩ := h271
    have hb0 : BitVec.ofNat (W - 1) s = 0#(W - 1) ↔ s % 2 ^ (W - 1) = 0 := by
      constructor
      · intro z
        have h9 := congrArg BitVec.toNat z
        rw [BitVec.toNat_ofNat] at h9
        simpa using h9
      · intro z
        apply BitVec.eq_of_toNat_eq
        rw [BitVec.toNat_ofNat, z]
        simp
    have e89 : ∃ lz : Bool, lz = (ng && decide (s % 2 ^ (W - 1) = 0)) ∧ ((if bI ng = 0 then some 0 else (if bI (decide (BitVec.ofNat (W - 1) s = 0#(W - 1))) = 0 then some 0 else some 1)) : Option Int32) = some (bI lz) := by
      refine ⟨_, rfl, ?_⟩
      have e1 : decide (BitVec.ofNat (W - 1) s = 0#(W - 1)) = decide (s % 2 ^ (W - 1) = 0) := decide_eq_decide.mpr hb0
      rw [e1]
      cases ng <;> cases decide (s % 2 ^ (W - 1) = 0) <;> rfl
    obtain ⟨lz, hlz, e89⟩ := e89
    rw [e89]
    simp only [Option.bind_some]
    by_cases hov : 2 ^ W ≤ s
    · rw [decide_eq_true hov, if_neg (by decide)]
      have hno : decide (s ≤ mostN p ng W) = false := by
        refine decide_eq_false ?_
        have hm : mostN p ng W < 2 ^ W := by
          cases p with
          | true => show 2 ^ W - 1 < 2 ^ W; omega
          | false =>
            cases ng with
            | true => show 2 ^ (W - 1) < 2 ^ W; omega
            | false => show 2 ^ (W - 1) - 1 < 2 ^ W; omega
        omega
      rw [hno]
      exact ⟨f, rfl, fun z => by cases z⟩
    · rw [decide_eq_false hov, if_pos bI_f]
      have htop : s.testBit (W - 1) = decide (2 ^ (W - 1) ≤ s) := by
        rw [Nat.testBit_eq_decide_div_mod_eq]
        by_cases h1 : 2 ^ (W - 1) ≤ s
        · rw [decide_eq_true h1]
          have h2 : s / 2 ^ (W - 1) = 1 := Nat.div_eq_of_lt_le (by omega) (by omega)
          rw [h2]
          rfl
        · rw [decide_eq_false h1, Nat.div_eq_of_lt (by omega)]
          rfl
      cases p with
      | true =>
        have hng : ng = false := by simpa using hpn
        subst hng
        rw [if_neg (by decide), e271]
        have hyes : decide (s ≤ mostN true false W) = true := decide_eq_true (by show s ≤ 2 ^ W - 1; omega)
        rw [hyes]
        exact ⟨f2, rfl, fun _ => r271⟩
      | false =>
        rw [if_pos bI_f, if_neg (nI_in (show W - 1 < 64 by omega) (by omega)), nI_clamp (by omega), q1 (W - 1) (by omega), htop]
        by_cases h1 : 2 ^ (W - 1) ≤ s
        · rw [decide_eq_true h1, if_neg (by decide)]
          have hmod : s % 2 ^ (W - 1) = s - 2 ^ (W - 1) := by
            rw [Nat.mod_eq_sub_mod h1, Nat.mod_eq_of_lt (by omega)]
          cases ng with
          | false =>
            have hl : lz = false := hlz
            rw [hl, if_pos bI_f]
            have hno : decide (s ≤ mostN false false W) = false := decide_eq_false (by show ¬ s ≤ 2 ^ (W - 1) - 1; omega)
            rw [hno]
            exact ⟨f, rfl, fun z => by cases z⟩
          | true =>
            have hl : lz = decide (s % 2 ^ (W - 1) = 0) := by rw [hlz, Bool.true_and]
            have hM : mostN false true W = 2 ^ (W - 1) := rfl
            rw [hl, hM, hmod]
            by_cases h2 : s - 2 ^ (W - 1) = 0
            · rw [decide_eq_true h2, if_neg (by decide), e271, decide_eq_true (show s ≤ 2 ^ (W - 1) by omega)]
              exact ⟨f2, rfl, fun _ => r271⟩
            · rw [decide_eq_false h2, if_pos bI_f, decide_eq_false (show ¬ s ≤ 2 ^ (W - 1) by omega)]
              exact ⟨f, rfl, fun z => by cases z⟩
        · rw [decide_eq_false h1, if_pos bI_f, e271]
          have hyes : decide (s ≤ mostN false ng W) = true := by
            refine decide_eq_true ?_
            cases ng with
            | true => show s ≤ 2 ^ (W - 1); omega
            | false => show s ≤ 2 ^ (W - 1) - 1; omega
          rw [hyes]
          exact ⟨f2, rfl, fun _ => r271⟩
  | d + 1, i, k + 1, s, f, h, hk, q1 => by
    have hi : i < e := by omega
    have gi := hg i hi
    have gl : dgv (g i) < 36 ∨ dgv (g i) = 99 := by
      unfold dgv
      split
      · omega
      · split
        · omega
        · split <;> omega
    rw [mX12_finds_x_L102, if_neg (nI_ge (by omega) (by omega)), if_neg (nI_in (show i < 300 by omega) (by omega)), nI_clamp (by omega), hf i hi, pr_digitOf _ gi]
    simp only [Option.bind_some]
    have eR1 : nI R - 1 = nI (R - 1) := pk_sub (b := 1) (by omega)
    rw [eR1, alld, hval]
    by_cases hd : dgv (g i) < R
    · rw [decide_eq_true hd, Bool.true_and, if_pos (by omega)]
      have ein : mX13_in (nI (dgv (g i))) 0 (nI (R - 1)) = some 1 := by
        rw [mX13_in, if_neg (nI_pos (by omega)), if_neg (nI_nlt (by omega) (by omega))]
      rw [ein]
      simp only [Option.bind_some]
      rw [if_neg (by decide)]
      obtain ⟨F, hF⟩ : ∃ F, F = s % 2 ^ W := ⟨_, rfl⟩
      have hFl : F < 2 ^ W := by rw [hF]; exact Nat.mod_lt _ (Nat.two_pow_pos W)
      have hFb : ∀ j, j < W → F.testBit j = s.testBit j := fun j hj => by rw [hF, Nat.testBit_mod_two_pow, decide_eq_true hj, Bool.true_and]
      have hFs : (F * R + dgv (g i)) % 2 ^ W = (s * R + dgv (g i)) % 2 ^ W := by
        rw [hF, Nat.add_mod, Nat.mod_mul_mod, ← Nat.add_mod]
      have hTb : ∀ j, j < W → (F * R + dgv (g i)).testBit j = (s * R + dgv (g i)).testBit j := fun j hj => by
        have h1 : ((F * R + dgv (g i)) % 2 ^ W).testBit j = ((s * R + dgv (g i)) % 2 ^ W).testBit j := by rw [hFs]
        rw [Nat.testBit_mod_two_pow, Nat.testBit_mod_two_pow, decide_eq_true hj, Bool.true_and, Bool.true_and] at h1
        exact h1
      obtain ⟨f1, e1, r1⟩ := pr_fi135_x (W := W) (R := R) (F := F) (dg := dgv (g i)) hW hR2 (by omega) W 0 K f (by omega) (by omega) (fun j hj => absurd hj (Nat.not_lt_zero _)) (fun j _ hj => by rw [q1 j hj, hFb j hj])
      have e0 : (F % 2 ^ 0 * R + dgv (g i)) / 2 ^ 0 = dgv (g i) := by
        rw [Nat.pow_zero, Nat.mod_one, Nat.zero_mul, Nat.zero_add, Nat.div_one]
      rw [e0, Nat.mod_eq_of_lt hFl] at e1
      have e1' : mX12_finds_x_L135 (nI W) (nI R) K (nI (dgv (g i))) 0 f = some (nI ((F * R + dgv (g i)) / 2 ^ W), f1) := e1
      rw [e1']
      simp only [Option.bind_some]
      have hcl : (F * R + dgv (g i)) / 2 ^ W < 72 := by
        rw [Nat.div_lt_iff_lt_mul (Nat.two_pow_pos W)]
        have h1 : F * R ≤ F * 36 := Nat.mul_le_mul_left _ hR2
        omega
      have e2 : ((if nI ((F * R + dgv (g i)) / 2 ^ W) ≤ 0 then some 0 else some 1) : Option Int32) = some (bI (decide (2 ^ W ≤ F * R + dgv (g i)))) := by
        by_cases h1 : 2 ^ W ≤ F * R + dgv (g i)
        · have h2 : 0 < (F * R + dgv (g i)) / 2 ^ W := Nat.div_pos h1 (Nat.two_pow_pos W)
          rw [if_neg (nI_nle h2 (by omega)), decide_eq_true h1]
          rfl
        · rw [Nat.div_eq_of_lt (by omega), if_pos (by decide), decide_eq_false h1]
          rfl
      rw [e2]
      simp only [Option.bind_some]
      have e3 : bI (decide (2 ^ W ≤ s)) ||| bI (decide (2 ^ W ≤ F * R + dgv (g i))) = bI (decide (2 ^ W ≤ s * R + dgv (g i))) := by
        by_cases h1 : 2 ^ W ≤ s
        · have h2 : s * 1 ≤ s * R := Nat.mul_le_mul_left s (by omega)
          rw [decide_eq_true h1, decide_eq_true (show 2 ^ W ≤ s * R + dgv (g i) by omega)]
          cases decide (2 ^ W ≤ F * R + dgv (g i)) <;> rfl
        · have h2 : F = s := by rw [hF, Nat.mod_eq_of_lt (by omega)]
          rw [decide_eq_false h1, h2]
          cases decide (2 ^ W ≤ s * R + dgv (g i)) <;> rfl
      rw [e3, nI_1]
      exact pr_fi102_x hW0 hW hR hR2 he hf hg hK hpn d (i + 1) k (s * R + dgv (g i)) f1 (by omega) (by omega) (fun j hj => by rw [r1 j hj, hTb j hj])
    · refine ⟨f, ?_, fun z => by rw [decide_eq_false hd, Bool.false_and, Bool.false_and] at z; cases z⟩
      rw [decide_eq_false hd, Bool.false_and, Bool.false_and]
      by_cases h36 : dgv (g i) < 36
      · have ein : mX13_in (nI (dgv (g i))) 0 (nI (R - 1)) = some 0 := by
          rw [mX13_in, if_neg (nI_pos (by omega)), if_pos (nI_lt (by omega) (by omega))]
        rw [if_pos h36, ein]
        rfl
      · have ein : mX13_in (-1) 0 (nI (R - 1)) = some 0 := by
          rw [mX13_in, if_pos (by decide)]
        rw [if_neg h36, ein]
        rfl
theorem pr_finds_x {p : Bool} {W a e k : Nat} {r : Int32} {fr found : Nat → Int32} {g : Nat → Nat} (hW0 : 1 ≤ W) (hW : W ≤ 64) (ha : a ≤ e) (he : e ≤ 300) (hk : 300 < k) (hf : ∀ i, i < e → fr i = nI (g i)) (hg : ∀ i, i < e → g i < 256) : ∃ f2, mX12_finds_x k found fr (nI a) (nI e) r (bI p) (nI W) = some (bI (pcOK p W r g a e), f2) ∧ (pcOK p W r g a e = true → isR W f2 (vz (pcN g a e) (pcV r g a e) W)) := by
  obtain ⟨R1, R2, R3⟩ := rdx_spec r
  have e3 : ((if nI e ≤ nI a then some 0 else (if nI a < 0 ∨ 300 ≤ (nI a).toNatClampNeg then none else (if fr (nI a).toNatClampNeg = 45 then some 1 else some 0))) : Option Int32) = some (bI (pcN g a e)) := by
    by_cases hae : a < e
    · have ga := hg a hae
      have h45 : nI (g a) = 45 ↔ g a = 45 := nI_eq (b := 45) (by omega) (by omega)
      rw [if_neg (nI_ge hae (by omega)), if_neg (nI_in (show a < 300 by omega) (by omega)), nI_clamp (by omega), hf a hae, pcN, decide_eq_true hae, Bool.true_and]
      by_cases h : g a = 45
      · rw [if_pos (h45.mpr h), decide_eq_true h]; rfl
      · rw [if_neg (fun z => h (h45.mp z)), decide_eq_false h]; rfl
    · rw [if_pos (nI_le (by omega) (by omega)), pcN, decide_eq_false hae]
      rfl
  have e7 : ∃ sg : Bool, ((if bI (pcN g a e) = 0 then (if nI e ≤ nI a then some 0 else (if nI a < 0 ∨ 300 ≤ (nI a).toNatClampNeg then none else (if fr (nI a).toNatClampNeg = 43 then some 1 else some 0))) else some 1) : Option Int32) = some (bI sg) ∧ ((if bI sg = 0 then some (nI a) else some (nI a + 1)) : Option Int32) = some (nI (pcF g a e)) := by
    by_cases hae : a < e
    · have ga := hg a hae
      have h43 : nI (g a) = 43 ↔ g a = 43 := nI_eq (b := 43) (by omega) (by omega)
      rw [if_neg (nI_ge hae (by omega)), if_neg (nI_in (show a < 300 by omega) (by omega)), nI_clamp (by omega), hf a hae, pcN, decide_eq_true hae, Bool.true_and, pcF]
      by_cases h : g a = 45
      · refine ⟨true, by rw [decide_eq_true h, if_neg (by decide)]; rfl, ?_⟩
        rw [if_neg (by decide), if_pos ⟨hae, Or.inl h⟩, nI_1]
      · rw [decide_eq_false h, if_pos bI_f]
        by_cases h4 : g a = 43
        · refine ⟨true, by rw [if_pos (h43.mpr h4)]; rfl, ?_⟩
          rw [if_neg (by decide), if_pos ⟨hae, Or.inr h4⟩, nI_1]
        · refine ⟨false, by rw [if_neg (fun z => h4 (h43.mp z))]; rfl, ?_⟩
          rw [if_pos bI_f, if_neg (fun z => z.2.elim h h4)]
    · refine ⟨false, ?_, ?_⟩
      · rw [pcN, decide_eq_false hae, Bool.false_and, if_pos bI_f, if_pos (nI_le (by omega) (by omega))]
        rfl
      · rw [if_pos bI_f, pcF, if_neg (fun z => hae z.1)]
  obtain ⟨sg, e7, e9⟩ := e7
  have hFle : pcF g a e ≤ e := by
    unfold pcF
    split <;> omega
  have hin : mX13_in r 2 36 = some (if r < 2 ∨ 36 < r then 0 else 1) := pr_isRadix r
  rw [mX12_finds_x, e3]
  simp only [Option.bind_some]
  rw [e7]
  simp only [Option.bind_some]
  rw [e9]
  simp only [Option.bind_some]
  rw [hin]
  simp only [Option.bind_some]
  by_cases hr : r < 2 ∨ 36 < r
  · have eo : pcOK p W r g a e = false := by rw [pcOK, decide_eq_true hr]; rfl
    rw [eo, if_pos hr, if_pos rfl]
    exact ⟨found, rfl, fun z => by cases z⟩
  · have er : nI (rdx r) = r := by rw [← R3, if_neg hr]
    rw [if_neg hr, if_neg (by decide)]
    by_cases hF : pcF g a e < e
    · rw [if_neg (fun z => by have := (nI_eq (by omega) (by omega)).mp z; omega), pcOK, decide_eq_false hr, decide_eq_true hF]
      by_cases hnp : (pcN g a e && p) = true
      · have h1 : pcN g a e = true := by revert hnp; cases pcN g a e <;> cases p <;> decide
        have h2 : p = true := by revert hnp; cases pcN g a e <;> cases p <;> decide
        rw [hnp, h1, h2, if_neg (by decide), if_neg (by decide)]
        exact ⟨found, rfl, fun z => by cases z⟩
      · have hnp0 : (pcN g a e && p) = false := by simpa using hnp
        obtain ⟨f1, c1, a1, a2⟩ := pr_clear (N := 64) (k := k) (f := found) (by omega) (by omega)
        obtain ⟨f2, c2, r2⟩ := pr_fi102_x (W := W) (K := k) (fr := fr) (g := g) hW0 hW R1 R2 he hf hg (by omega) hnp0 (e - pcF g a e) (pcF g a e) k 0 f1 (by omega) (by omega) (fun j hj => by rw [a1 j (by omega), Nat.zero_testBit]; rfl)
        have h88 : mX12_finds_x_j88 k found (nI e) (bI (pcN g a e)) (nI W) (bI p) fr r (nI (pcF g a e)) = some (bI (alld (rdx r) g (e - pcF g a e) (pcF g a e) && decide (pcV r g a e ≤ mostN p (pcN g a e) W)), f2) := by
          rw [decide_eq_false (show ¬ 2 ^ W ≤ 0 by have := Nat.two_pow_pos W; omega), er] at c2
          rw [mX12_finds_x_j88, c1]
          simp only [Option.bind_some]
          exact c2
        rw [h88, hnp0]
        refine ⟨f2, ?_, fun z => r2 z⟩
        have esim : (!false && (true && (!false && (alld (rdx r) g (e - pcF g a e) (pcF g a e) && decide (pcV r g a e ≤ mostN p (pcN g a e) W))))) = (alld (rdx r) g (e - pcF g a e) (pcF g a e) && decide (pcV r g a e ≤ mostN p (pcN g a e) W)) := rfl
        rw [esim]
        cases hn : pcN g a e with
        | false => rw [if_pos bI_f]
        | true =>
          have hp : p = false := by rw [hn] at hnp0; simpa using hnp0
          rw [if_neg (by decide), hp, if_pos bI_f]
    · have eq : pcF g a e = e := by omega
      have eo : pcOK p W r g a e = false := by rw [pcOK, decide_eq_false hF]; simp
      rw [eo, eq, if_pos rfl]
      exact ⟨found, rfl, fun z => by cases z⟩
theorem pr_fi135_o {W R F dg : Nat} (hW : W ≤ 64) (hR2 : R ≤ 36) (hd : dg < 36) : ∀ (q t k : Nat) (f : Nat → Int32), t + q = W → q < k → (∀ j, j < t → f j = bI ((F * R + dg).testBit j)) → (∀ j, t ≤ j → j < W → f j = bI (F.testBit j)) → ∃ f2, mX12_finds_o_L135 (nI W) (nI R) k (nI ((F % 2 ^ t * R + dg) / 2 ^ t)) (nI t) f = some (nI ((F % 2 ^ W * R + dg) / 2 ^ W), f2) ∧ ∀ j, j < W → f2 j = bI ((F * R + dg).testBit j)
  | _, _, 0, _, _, hk, _, _ => absurd hk (Nat.not_lt_zero _)
  | 0, t, k + 1, f, h, _, q1, _ => ⟨f, by
    rw [mX12_finds_o_L135, if_pos (nI_le (by omega) (by omega)), show t = W by omega], fun j hj => q1 j (by omega)⟩
  | q + 1, t, k + 1, f, h, hk, q1, q2 => by
    have hp : 0 < 2 ^ t := Nat.two_pow_pos t
    have e2 : 2 ^ (t + 1) = 2 ^ t * 2 := Nat.pow_succ ..
    have hm := mod_bit F t
    obtain ⟨x, hx⟩ : ∃ x, x = (F % 2 ^ t * R + dg) / 2 ^ t + (F.testBit t).toNat * R := ⟨_, rfl⟩
    have hc : (F % 2 ^ t * R + dg) / 2 ^ t < 72 := by
      rw [Nat.div_lt_iff_lt_mul hp]
      have h1 : F % 2 ^ t * R ≤ F % 2 ^ t * 36 := Nat.mul_le_mul_left _ hR2
      have h2 := Nat.mod_lt F hp
      omega
    have hx1 : x = (F % 2 ^ (t + 1) * R + dg) / 2 ^ t := by
      rw [hx, hm]
      have e3 : (F % 2 ^ t + 2 ^ t * (F.testBit t).toNat) * R + dg = (F % 2 ^ t * R + dg) + 2 ^ t * ((F.testBit t).toNat * R) := by
        rw [Nat.add_mul, Nat.mul_assoc]
        omega
      rw [e3, Nat.add_mul_div_left _ _ hp]
    have hx2 : x / 2 = (F % 2 ^ (t + 1) * R + dg) / 2 ^ (t + 1) := by rw [hx1, Nat.div_div_eq_div_mul, e2]
    have hxb : (F * R + dg).testBit t = decide (x % 2 = 1) := by
      rw [Nat.testBit_eq_decide_div_mod_eq, hx1]
      have h3 := Nat.div_add_mod F (2 ^ (t + 1))
      have e4 : F * R + dg = (F % 2 ^ (t + 1) * R + dg) + 2 ^ t * (2 * (F / 2 ^ (t + 1) * R)) := by
        have e5 : F * R = (2 ^ (t + 1) * (F / 2 ^ (t + 1)) + F % 2 ^ (t + 1)) * R := by rw [h3]
        rw [e5, e2, Nat.add_mul]
        have e6 : 2 ^ t * 2 * (F / (2 ^ t * 2)) * R = 2 ^ t * (2 * (F / (2 ^ t * 2) * R)) := by
          rw [Nat.mul_assoc, Nat.mul_assoc]
        rw [e6]
        omega
      rw [e4, Nat.add_mul_div_left _ _ hp, Nat.add_mul_mod_self_left]
    have hxl : x < 200 := by
      have h1 : (F.testBit t).toNat ≤ 1 := by cases F.testBit t <;> decide
      have h2 : (F.testBit t).toNat * R ≤ 1 * R := Nat.mul_le_mul_right R h1
      omega
    have g1 : (nI t < 0 ∨ 64 ≤ t) = False := eq_false (nI_in2 (by omega) (by omega))
    have c1 : (nI t).toNatClampNeg = t := nI_clamp (by omega)
    have e7 : (((if bI (F.testBit t) = 0 then some 0 else some (nI R)) : Option Int32).bind (fun x_123 => ((some (nI ((F % 2 ^ t * R + dg) / 2 ^ t) + x_123) : Option Int32)))) = some (nI x) := by
      rw [hx]
      cases F.testBit t with
      | true =>
        rw [if_neg (by decide)]
        simp only [Option.bind_some]
        rw [nI_add]
        show some (nI (_ + R)) = some (nI (_ + 1 * R))
        rw [Nat.one_mul]
      | false =>
        rw [if_pos bI_f]
        simp only [Option.bind_some]
        show some (nI _ + nI 0) = some (nI (_ + 0 * R))
        rw [nI_add, Nat.zero_mul]
    have e8 : ((if (nI x - nI x / 2 * 2) = 1 then some 1 else some 0) : Option Int32) = some (bI ((F * R + dg).testBit t)) := by
      have h9 : nI x - nI x / 2 * 2 = nI (x % 2) := pk_rem (d := 2) (by omega) (by decide) (by decide)
      rw [h9, hxb]
      by_cases h1 : x % 2 = 1
      · rw [h1, if_pos (show nI 1 = 1 from rfl), decide_eq_true rfl]
        rfl
      · rw [show x % 2 = 0 by omega, if_neg (by decide), decide_eq_false (by decide)]
        rfl
    have e9 : nI x / 2 = nI (x / 2) := pk_div (d := 2) (by omega) (by decide) (by decide)
    obtain ⟨f2, e, r2⟩ := pr_fi135_o (F := F) (dg := dg) hW hR2 hd q (t + 1) k (upd f t (bI ((F * R + dg).testBit t))) (by omega) (by omega) (fun j hj => by
      by_cases hjt : j = t
      · rw [hjt, pk_us]
      · rw [pk_un hjt]
        exact q1 j (by omega)) (fun j h1 h2 => by
      rw [pk_un (by omega)]
      exact q2 j (by omega) h2)
    refine ⟨f2, ?_, r2⟩
    rw [mX12_finds_o_L135, if_neg (nI_ge (by omega) (by omega))]
    simp only [c1, g1, if_false]
    rw [q2 t (Nat.le_refl _) (by omega)]
    cases hy : ((if bI (F.testBit t) = 0 then some 0 else some (nI R)) : Option Int32) with
    | none =>
      rw [hy] at e7
      cases e7
    | some z =>
      rw [hy] at e7
      simp only [Option.bind_some] at e7 ⊢
      rw [Option.some.inj e7, e8]
      simp only [Option.bind_some]
      rw [e9, nar_b, nI_1, hx2]
      exact e
theorem pr_fi102_o {W R e K : Nat} {p ng : Bool} {fr : Nat → Int32} {g : Nat → Nat} (hW0 : 1 ≤ W) (hW : W ≤ 64) (hR : 2 ≤ R) (hR2 : R ≤ 36) (he : e ≤ 66) (hf : ∀ i, i < e → fr i = nI (g i)) (hg : ∀ i, i < e → g i < 256) (hK : 66 < K) (hpn : (ng && p) = false) : ∀ (d i k s : Nat) (f : Nat → Int32), i + d = e → d < k → (∀ j, j < W → f j = bI (s.testBit j)) → ∃ f2, mX12_finds_o_L102 (nI e) (bI ng) K (nI W) (bI p) fr (nI R) k (bI (decide (2 ^ W ≤ s))) (nI i) f = some (bI (alld R g d i && decide (hval R g d i s ≤ mostN p ng W)), f2) ∧ ((alld R g d i && decide (hval R g d i s ≤ mostN p ng W)) = true → isR W f2 (vz ng (hval R g d i s) W))
  | _, _, 0, _, _, _, hk, _ => absurd hk (Nat.not_lt_zero _)
  | 0, i, k + 1, s, f, h, _, q1 => by
    have hp1 : 2 ^ W = 2 ^ (W - 1) * 2 := by rw [← Nat.pow_succ, show (W - 1).succ = W by omega]
    have hp0 : 0 < 2 ^ (W - 1) := Nat.two_pow_pos _
    have hfs : isR W f (BitVec.ofNat W s) := fun j hj => by rw [q1 j hj, ofN_bit hj]
    have em : nI W - 1 = nI (W - 1) := pk_sub (b := 1) hW0
    have hz := pr_nothing (w := W - 1) (N := 64) (k := K) (f := f) (x := BitVec.ofNat (W - 1) s) (fun j hj => by rw [q1 j (by omega), ofN_bit hj]) (by omega) (by omega) (by omega) (by omega)
    rw [mX12_finds_o_L102, if_pos (nI_le (by omega) (by omega)), alld, hval, Bool.true_and, em, hz]
    simp only [Option.bind_some]
    have h271 : ∃ f2, mX12_finds_o_j271 (bI ng) f K (nI W) = some (1, f2) ∧ isR W f2 (vz ng s W) := by
      cases ng with
      | false => exact ⟨f, by rw [mX12_finds_o_j271, if_pos bI_f], hfs⟩
      | true =>
        obtain ⟨f2, e2, r1, r2⟩ := pr_negates (N := 64) (k := K) hfs (by omega) (by omega) (by omega) (by omega)
        refine ⟨f2, ?_, r1⟩
        rw [mX12_finds_o_j271, if_neg (by decide), e2]
        rfl
    obtain ⟨f2, e271, r271⟩ := h271
    have hb0 : BitVec.ofNat (W - 1) s = 0#(W - 1) ↔ s % 2 ^ (W - 1) = 0 := by
      constructor
      · intro z
        have h9 := congrArg BitVec.toNat z
        rw [BitVec.toNat_ofNat] at h9
        simpa using h9
      · intro z
        apply BitVec.eq_of_toNat_eq
        rw [BitVec.toNat_ofNat, z]
        simp
    have e89 : ∃ lz : Bool, lz = (ng && decide (s % 2 ^ (W - 1) = 0)) ∧ ((if bI ng = 0 then some 0 else (if bI (decide (BitVec.ofNat (W - 1) s = 0#(W - 1))) = 0 then some 0 else some 1)) : Option Int32) = some (bI lz) := by
      refine ⟨_, rfl, ?_⟩
      have e1 : decide (BitVec.ofNat (W - 1) s = 0#(W - 1)) = decide (s % 2 ^ (W - 1) = 0) := decide_eq_decide.mpr hb0
      rw [e1]
      cases ng <;> cases decide (s % 2 ^ (W - 1) = 0) <;> rfl
    obtain ⟨lz, hlz, e89⟩ := e89
    rw [e89]
    simp only [Option.bind_some]
    by_cases hov : 2 ^ W ≤ s
    · rw [decide_eq_true hov, if_neg (by decide)]
      have hno : decide (s ≤ mostN p ng W) = false := by
        refine decide_eq_false ?_
        have hm : mostN p ng W < 2 ^ W := by
          cases p with
          | true => show 2 ^ W - 1 < 2 ^ W; omega
          | false =>
            cases ng with
            | true => show 2 ^ (W - 1) < 2 ^ W; omega
            | false => show 2 ^ (W - 1) - 1 < 2 ^ W; omega
        omega
      rw [hno]
      exact ⟨f, rfl, fun z => by cases z⟩
    · rw [decide_eq_false hov, if_pos bI_f]
      have htop : s.testBit (W - 1) = decide (2 ^ (W - 1) ≤ s) := by
        rw [Nat.testBit_eq_decide_div_mod_eq]
        by_cases h1 : 2 ^ (W - 1) ≤ s
        · rw [decide_eq_true h1]
          have h2 : s / 2 ^ (W - 1) = 1 := Nat.div_eq_of_lt_le (by omega) (by omega)
          rw [h2]
          rfl
        · rw [decide_eq_false h1, Nat.div_eq_of_lt (by omega)]
          rfl
      cases p with
      | true =>
        have hng : ng = false := by simpa using hpn
        subst hng
        rw [if_neg (by decide), e271]
        have hyes : decide (s ≤ mostN true false W) = true := decide_eq_true (by show s ≤ 2 ^ W - 1; omega)
        rw [hyes]
        exact ⟨f2, rfl, fun _ => r271⟩
      | false =>
        rw [if_pos bI_f, if_neg (nI_in (show W - 1 < 64 by omega) (by omega)), nI_clamp (by omega), q1 (W - 1) (by omega), htop]
        by_cases h1 : 2 ^ (W - 1) ≤ s
        · rw [decide_eq_true h1, if_neg (by decide)]
          have hmod : s % 2 ^ (W - 1) = s - 2 ^ (W - 1) := by
            rw [Nat.mod_eq_sub_mod h1, Nat.mod_eq_of_lt (by omega)]
          cases ng with
          | false =>
            have hl : lz = false := hlz
            rw [hl, if_pos bI_f]
            have hno : decide (s ≤ mostN false false W) = false := decide_eq_false (by show ¬ s ≤ 2 ^ (W - 1) - 1; omega)
            rw [hno]
            exact ⟨f, rfl, fun z => by cases z⟩
          | true =>
            have hl : lz = decide (s % 2 ^ (W - 1) = 0) := by rw [hlz, Bool.true_and]
            have hM : mostN false true W = 2 ^ (W - 1) := rfl
            rw [hl, hM, hmod]
            by_cases h2 : s - 2 ^ (W - 1) = 0
            · rw [decide_eq_true h2, if_neg (by decide), e271, decide_eq_true (show s ≤ 2 ^ (W - 1) by omega)]
              exact ⟨f2, rfl, fun _ => r271⟩
            · rw [decide_eq_false h2, if_pos bI_f, decide_eq_false (show ¬ s ≤ 2 ^ (W - 1) by omega)]
              exact ⟨f, rfl, fun z => by cases z⟩
        · rw [decide_eq_false h1, if_pos bI_f, e271]
          have hyes : decide (s ≤ mostN false ng W) = true := by
            refine decide_eq_true ?_
            cases ng with
            | true => show s ≤ 2 ^ (W - 1); omega
            | false => show s ≤ 2 ^ (W - 1) - 1; omega
          rw [hyes]
          exact ⟨f2, rfl, fun _ => r271⟩
  | d + 1, i, k + 1, s, f, h, hk, q1 => by
    have hi : i < e := by omega
    have gi := hg i hi
    have gl : dgv (g i) < 36 ∨ dgv (g i) = 99 := by
      unfold dgv
      split
      · omega
      · split
        · omega
        · split <;> omega
    rw [mX12_finds_o_L102, if_neg (nI_ge (by omega) (by omega)), if_neg (nI_in (show i < 66 by omega) (by omega)), nI_clamp (by omega), hf i hi, pr_digitOf _ gi]
    simp only [Option.bind_some]
    have eR1 : nI R - 1 = nI (R - 1) := pk_sub (b := 1) (by omega)
    rw [eR1, alld, hval]
    by_cases hd : dgv (g i) < R
    · rw [decide_eq_true hd, Bool.true_and, if_pos (by omega)]
      have ein : mX13_in (nI (dgv (g i))) 0 (nI (R - 1)) = some 1 := by
        rw [mX13_in, if_neg (nI_pos (by omega)), if_neg (nI_nlt (by omega) (by omega))]
      rw [ein]
      simp only [Option.bind_some]
      rw [if_neg (by decide)]
      obtain ⟨F, hF⟩ : ∃ F, F = s % 2 ^ W := ⟨_, rfl⟩
      have hFl : F < 2 ^ W := by rw [hF]; exact Nat.mod_lt _ (Nat.two_pow_pos W)
      have hFb : ∀ j, j < W → F.testBit j = s.testBit j := fun j hj => by rw [hF, Nat.testBit_mod_two_pow, decide_eq_true hj, Bool.true_and]
      have hFs : (F * R + dgv (g i)) % 2 ^ W = (s * R + dgv (g i)) % 2 ^ W := by
        rw [hF, Nat.add_mod, Nat.mod_mul_mod, ← Nat.add_mod]
      have hTb : ∀ j, j < W → (F * R + dgv (g i)).testBit j = (s * R + dgv (g i)).testBit j := fun j hj => by
        have h1 : ((F * R + dgv (g i)) % 2 ^ W).testBit j = ((s * R + dgv (g i)) % 2 ^ W).testBit j := by rw [hFs]
        rw [Nat.testBit_mod_two_pow, Nat.testBit_mod_two_pow, decide_eq_true hj, Bool.true_and, Bool.true_and] at h1
        exact h1
      obtain ⟨f1, e1, r1⟩ := pr_fi135_o (W := W) (R := R) (F := F) (dg := dgv (g i)) hW hR2 (by omega) W 0 K f (by omega) (by omega) (fun j hj => absurd hj (Nat.not_lt_zero _)) (fun j _ hj => by rw [q1 j hj, hFb j hj])
      have e0 : (F % 2 ^ 0 * R + dgv (g i)) / 2 ^ 0 = dgv (g i) := by
        rw [Nat.pow_zero, Nat.mod_one, Nat.zero_mul, Nat.zero_add, Nat.div_one]
      rw [e0, Nat.mod_eq_of_lt hFl] at e1
      have e1' : mX12_finds_o_L135 (nI W) (nI R) K (nI (dgv (g i))) 0 f = some (nI ((F * R + dgv (g i)) / 2 ^ W), f1) := e1
      rw [e1']
      simp only [Option.bind_some]
      have hcl : (F * R + dgv (g i)) / 2 ^ W < 72 := by
        rw [Nat.div_lt_iff_lt_mul (Nat.two_pow_pos W)]
        have h1 : F * R ≤ F * 36 := Nat.mul_le_mul_left _ hR2
        omega
      have e2 : ((if nI ((F * R + dgv (g i)) / 2 ^ W) ≤ 0 then some 0 else some 1) : Option Int32) = some (bI (decide (2 ^ W ≤ F * R + dgv (g i)))) := by
        by_cases h1 : 2 ^ W ≤ F * R + dgv (g i)
        · have h2 : 0 < (F * R + dgv (g i)) / 2 ^ W := Nat.div_pos h1 (Nat.two_pow_pos W)
          rw [if_neg (nI_nle h2 (by omega)), decide_eq_true h1]
          rfl
        · rw [Nat.div_eq_of_lt (by omega), if_pos (by decide), decide_eq_false h1]
          rfl
      rw [e2]
      simp only [Option.bind_some]
      have e3 : bI (decide (2 ^ W ≤ s)) ||| bI (decide (2 ^ W ≤ F * R + dgv (g i))) = bI (decide (2 ^ W ≤ s * R + dgv (g i))) := by
        by_cases h1 : 2 ^ W ≤ s
        · have h2 : s * 1 ≤ s * R := Nat.mul_le_mul_left s (by omega)
          rw [decide_eq_true h1, decide_eq_true (show 2 ^ W ≤ s * R + dgv (g i) by omega)]
          cases decide (2 ^ W ≤ F * R + dgv (g i)) <;> rfl
        · have h2 : F = s := by rw [hF, Nat.mod_eq_of_lt (by omega)]
          rw [decide_eq_false h1, h2]
          cases decide (2 ^ W ≤ s * R + dgv (g i)) <;> rfl
      rw [e3, nI_1]
      exact pr_fi102_o hW0 hW hR hR2 he hf hg hK hpn d (i + 1) k (s * R + dgv (g i)) f1 (by omega) (by omega) (fun j hj => by rw [r1 j hj, hTb j hj])
    · refine ⟨f, ?_, fun z => by rw [decide_eq_false hd, Bool.false_and, Bool.false_and] at z; cases z⟩
      rw [decide_eq_false hd, Bool.false_and, Bool.false_and]
      by_cases h36 : dgv (g i) < 36
      · have ein : mX13_in (nI (dgv (g i))) 0 (nI (R - 1)) = some 0 := by
          rw [mX13_in, if_neg (nI_pos (by omega)), if_pos (nI_lt (by omega) (by omega))]
        rw [if_pos h36, ein]
        rfl
      · have ein : mX13_in (-1) 0 (nI (R - 1)) = some 0 := by
          rw [mX13_in, if_pos (by decide)]
        rw [if_neg h36, ein]
        rfl
theorem pr_finds_o {p : Bool} {W a e k : Nat} {r : Int32} {fr found : Nat → Int32} {g : Nat → Nat} (hW0 : 1 ≤ W) (hW : W ≤ 64) (ha : a ≤ e) (he : e ≤ 66) (hk : 66 < k) (hf : ∀ i, i < e → fr i = nI (g i)) (hg : ∀ i, i < e → g i < 256) : ∃ f2, mX12_finds_o k fr found (nI a) (nI e) r (bI p) (nI W) = some (bI (pcOK p W r g a e), f2) ∧ (pcOK p W r g a e = true → isR W f2 (vz (pcN g a e) (pcV r g a e) W)) := by
  obtain ⟨R1, R2, R3⟩ := rdx_spec r
  have e3 : ((if nI e ≤ nI a then some 0 else (if nI a < 0 ∨ 66 ≤ (nI a).toNatClampNeg then none else (if fr (nI a).toNatClampNeg = 45 then some 1 else some 0))) : Option Int32) = some (bI (pcN g a e)) := by
    by_cases hae : a < e
    · have ga := hg a hae
      have h45 : nI (g a) = 45 ↔ g a = 45 := nI_eq (b := 45) (by omega) (by omega)
      rw [if_neg (nI_ge hae (by omega)), if_neg (nI_in (show a < 66 by omega) (by omega)), nI_clamp (by omega), hf a hae, pcN, decide_eq_true hae, Bool.true_and]
      by_cases h : g a = 45
      · rw [if_pos (h45.mpr h), decide_eq_true h]; rfl
      · rw [if_neg (fun z => h (h45.mp z)), decide_eq_false h]; rfl
    · rw [if_pos (nI_le (by omega) (by omega)), pcN, decide_eq_false hae]
      rfl
  have e7 : ∃ sg : Bool, ((if bI (pcN g a e) = 0 then (if nI e ≤ nI a then some 0 else (if nI a < 0 ∨ 66 ≤ (nI a).toNatClampNeg then none else (if fr (nI a).toNatClampNeg = 43 then some 1 else some 0))) else some 1) : Option Int32) = some (bI sg) ∧ ((if bI sg = 0 then some (nI a) else some (nI a + 1)) : Option Int32) = some (nI (pcF g a e)) := by
    by_cases hae : a < e
    · have ga := hg a hae
      have h43 : nI (g a) = 43 ↔ g a = 43 := nI_eq (b := 43) (by omega) (by omega)
      rw [if_neg (nI_ge hae (by omega)), if_neg (nI_in (show a < 66 by omega) (by omega)), nI_clamp (by omega), hf a hae, pcN, decide_eq_true hae, Bool.true_and, pcF]
      by_cases h : g a = 45
      · refine ⟨true, by rw [decide_eq_true h, if_neg (by decide)]; rfl, ?_⟩
        rw [if_neg (by decide), if_pos ⟨hae, Or.inl h⟩, nI_1]
      · rw [decide_eq_false h, if_pos bI_f]
        by_cases h4 : g a = 43
        · refine ⟨true, by rw [if_pos (h43.mpr h4)]; rfl, ?_⟩
          rw [if_neg (by decide), if_pos ⟨hae, Or.inr h4⟩, nI_1]
        · refine ⟨false, by rw [if_neg (fun z => h4 (h43.mp z))]; rfl, ?_⟩
          rw [if_pos bI_f, if_neg (fun z => z.2.elim h h4)]
    · refine ⟨false, ?_, ?_⟩
      · rw [pcN, decide_eq_false hae, Bool.false_and, if_pos bI_f, if_pos (nI_le (by omega) (by omega))]
        rfl
      · rw [if_pos bI_f, pcF, if_neg (fun z => hae z.1)]
  obtain ⟨sg, e7, e9⟩ := e7
  have hFle : pcF g a e ≤ e := by
    unfold pcF
    split <;> omega
  have hin : mX13_in r 2 36 = some (if r < 2 ∨ 36 < r then 0 else 1) := pr_isRadix r
  rw [mX12_finds_o, e3]
  simp only [Option.bind_some]
  rw [e7]
  simp only [Option.bind_some]
  rw [e9]
  simp only [Option.bind_some]
  rw [hin]
  simp only [Option.bind_some]
  by_cases hr : r < 2 ∨ 36 < r
  · have eo : pcOK p W r g a e = false := by rw [pcOK, decide_eq_true hr]; rfl
    rw [eo, if_pos hr, if_pos rfl]
    exact ⟨found, rfl, fun z => by cases z⟩
  · have er : nI (rdx r) = r := by rw [← R3, if_neg hr]
    rw [if_neg hr, if_neg (by decide)]
    by_cases hF : pcF g a e < e
    · rw [if_neg (fun z => by have := (nI_eq (by omega) (by omega)).mp z; omega), pcOK, decide_eq_false hr, decide_eq_true hF]
      by_cases hnp : (pcN g a e && p) = true
      · have h1 : pcN g a e = true := by revert hnp; cases pcN g a e <;> cases p <;> decide
        have h2 : p = true := by revert hnp; cases pcN g a e <;> cases p <;> decide
        rw [hnp, h1, h2, if_neg (by decide), if_neg (by decide)]
        exact ⟨found, rfl, fun z => by cases z⟩
      · have hnp0 : (pcN g a e && p) = false := by simpa using hnp
        obtain ⟨f1, c1, a1, a2⟩ := pr_clear (N := 64) (k := k) (f := found) (by omega) (by omega)
        obtain ⟨f2, c2, r2⟩ := pr_fi102_o (W := W) (K := k) (fr := fr) (g := g) hW0 hW R1 R2 he hf hg (by omega) hnp0 (e - pcF g a e) (pcF g a e) k 0 f1 (by omega) (by omega) (fun j hj => by rw [a1 j (by omega), Nat.zero_testBit]; rfl)
        have h88 : mX12_finds_o_j88 k found (nI e) (bI (pcN g a e)) (nI W) (bI p) fr r (nI (pcF g a e)) = some (bI (alld (rdx r) g (e - pcF g a e) (pcF g a e) && decide (pcV r g a e ≤ mostN p (pcN g a e) W)), f2) := by
          rw [decide_eq_false (show ¬ 2 ^ W ≤ 0 by have := Nat.two_pow_pos W; omega), er] at c2
          rw [mX12_finds_o_j88, c1]
          simp only [Option.bind_some]
          exact c2
        rw [h88, hnp0]
        refine ⟨f2, ?_, fun z => r2 z⟩
        have esim : (!false && (true && (!false && (alld (rdx r) g (e - pcF g a e) (pcF g a e) && decide (pcV r g a e ≤ mostN p (pcN g a e) W))))) = (alld (rdx r) g (e - pcF g a e) (pcF g a e) && decide (pcV r g a e ≤ mostN p (pcN g a e) W)) := rfl
        rw [esim]
        cases hn : pcN g a e with
        | false => rw [if_pos bI_f]
        | true =>
          have hp : p = false := by rw [hn] at hnp0; simpa using hnp0
          rw [if_neg (by decide), hp, if_pos bI_f]
    · have eq : pcF g a e = e := by omega
      have eo : pcOK p W r g a e = false := by rw [pcOK, decide_eq_false hF]; simp
      rw [eo, eq, if_pos rfl]
      exact ⟨found, rfl, fun z => by cases z⟩
