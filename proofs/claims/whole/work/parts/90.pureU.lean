/-! pure: errors of the reference -/
theorem pr_copyR {k i : Nat} {Bd Bt : Nat → Nat → Int32} {c c2 : Nat → BitVec 64} (hD : isB Bd c) (hT : isB Bt c2) (hi : i < 8) (hk : 64 < k) : ∃ f1, mX13_copy k 64 64 (Bd i) (Bt i) 64 = some f1 ∧ isB (upR Bt i f1) (upC c2 i (c i)) := by
  obtain ⟨f1, e1, a1, a2⟩ := pr_copy (w := 64) (N1 := 64) (N2 := 64) (k := k) (g := Bd i) (f := Bt i) (Nat.le_refl _) (Nat.le_refl _) (by omega) (by omega) hk
  exact ⟨f1, e1, hT.row (fun t ht => by rw [a1 t ht, hD i hi t ht, nar_b])⟩
theorem upC_eq {c c2 : Nat → BitVec 64} {i : Nat} (h : ∀ q, q < 8 → q ≠ i → c2 q = c q) {B : Nat → Nat → Int32} (hB : isB B (upC c2 i (c i))) : isB B c := fun q hq => by
  have h1 := hB q hq
  unfold upC at h1
  by_cases e : q = i
  · rw [if_pos e] at h1
    rw [e] at h1 ⊢
    exact h1
  · rw [if_neg e, h q hq e] at h1
    exact h1
theorem pr_isOther {b : Bool} {k i : Nat} {Bd Bt : Nat → Nat → Int32} {c c2 : Nat → BitVec 64} (hD : isB Bd c) (hT : isB Bt c2) (hi : i < 8) (hk : 64 < k) (h : ∀ q, q < 8 → q ≠ i → c2 q = c q) (hl : (c2 i).setWidth (wd b) = (c i).setWidth (wd b)) : ∃ B2, mX13_isOther k (bI b) Bd Bt (nI i) = some (0, B2) ∧ isB B2 c := by
  have hw := wd_le b
  obtain ⟨f1, e1, h1⟩ := pr_copyR (k := k) hD hT hi hk
  refine ⟨upR Bt i f1, ?_, upC_eq h h1⟩
  have hc := pr_compared (N1 := 64) (N2 := 64) (k := k) ((hT i hi).sub hw) ((hD i hi).sub hw) hw hw (by omega) (by omega) (by omega)
  rw [hl, cmpI_eq rfl] at hc
  rw [mX13_isOther, if_neg (nI_in hi (by omega)), pr_bits]
  simp only [Option.bind_some]
  rw [if_neg (nI_in hi (by omega)), nI_clamp (by omega), hc]
  simp only [Option.bind_some, if_true]
  rw [if_neg (nI_in2 hi (by omega)), e1]
  simp only [Option.bind_some]
  rw [if_neg (nI_in2 hi (by omega))]
theorem pr_failsIn {b p : Bool} {k i R : Nat} {Bd Bt : Nat → Nat → Int32} {c : Nat → BitVec 64} {pg ds fd one : Nat → Int32} (hD : isB Bd c) (hT : isB Bt c) (hi : i < 8) (hR : 2 ≤ R) (hR2 : R ≤ 36) (hk : 310 < k) : ∃ B2 g1 l1 g2 l2 l3 g3 g4, mX13_failsIn k (bI b) Bd (bI b) Bt pg ds fd one (nI i) (nI R) (bI p) = some (0, B2, g1, l1, g2, l2, l3, g3, g4) ∧ isB B2 c := by
  have hw := wd_le b
  obtain ⟨r1, r2⟩ := rdx_ok hR hR2
  obtain ⟨n, hn⟩ := nd_get (A := szA b p (c i)) hR (szA_lt64 b p (c i))
  have hn2 := hn.2.1
  have hg : (szN b p (c i)).toNat ≤ 1 := by cases szN b p (c i) <;> decide
  obtain ⟨pg2, ds2, one2, e1, a1⟩ := pr_writes (k := k) (r := nI R) (pg := pg) (ds := ds) (one := one) hT hi (by omega) (by rw [r1]; exact hn)
  rw [r1] at a1
  obtain ⟨t1, t2, t3⟩ := rt_ok (p := p) hR hR2 hn
  obtain ⟨B1, fd2, e2, h2⟩ := pr_readsPage (b := b) (p := p) (k := k) (r := nI R) (found := fd) (fr := pg2) (g := pgB (szN b p (c i)) R (szA b p (c i)) n) (len := n + (szN b p (c i)).toNat) hT hi (by omega) (by omega) a1 (fun q _ => (pgB_bd hR2 (by omega)).2)
  rw [t1, t2, t3, if_pos rfl, vz_x] at h2
  rw [t3] at e2
  obtain ⟨f1, e3, h3⟩ := pr_copyR (k := k) hD h2 hi (by omega)
  have hlow : (upC c i (((c i).setWidth (wd b)).signExtend 64) i).setWidth (wd b) = (c i).setWidth (wd b) := by
    unfold upC
    rw [if_pos rfl, se_low hw]
  have hc := pr_compared (N1 := 64) (N2 := 64) (k := k) ((h2 i hi).sub hw) ((hD i hi).sub hw) hw hw (by omega) (by omega) (by omega)
  rw [hlow, cmpI_eq rfl] at hc
  have e2' : mX12_readsPage k (bI b) Bt pg2 (nI (n + (szN b p (c i)).toNat)) fd (nI i) (nI R) (bI p) = some (1, B1, fd2) := e2
  have e : mX13_failsIn k (bI b) Bd (bI b) Bt pg ds fd one (nI i) (nI R) (bI p) = some (0, upR B1 i f1, pg2, nI (n + (szN b p (c i)).toNat), ds2, nI n, bI (szN b p (c i)), fd2, one2) := by
    rw [mX13_failsIn, e1]
    simp only [Option.bind_some]
    rw [e2']
    simp only [Option.bind_some, e10, if_false]
    rw [if_neg (nI_in hi (by omega)), pr_bits]
    simp only [Option.bind_some]
    rw [if_neg (nI_in hi (by omega)), nI_clamp (by omega), hc]
    simp only [Option.bind_some, if_true]
    rw [if_neg (nI_in2 hi (by omega)), if_neg (nI_in2 hi (by omega)), e3]
    simp only [Option.bind_some, e10, if_false]
  exact ⟨_, _, _, _, _, _, _, _, e, upC_eq (fun q hq hne => if_neg hne) h3⟩
theorem pr_failsTwice {b : Bool} {k i : Nat} {Bd Bt : Nat → Nat → Int32} {c : Nat → BitVec 64} {sm : Nat → Int32} (hD : isB Bd c) (hT : isB Bt c) (hi : i < 8) (hk : 310 < k) : ∃ B2 s2, mX13_failsTwice k (bI b) Bd (bI b) Bt sm (nI i) = some (0, B2, s2) ∧ isB B2 c := by
  have hw := wd_le b
  have hw0 := wd_pos b
  have hwc := wd_cases b
  have hx : ∀ q, q < wd b → ((c i).setWidth (wd b)).getLsbD q = (c i).getLsbD q := fun q hq => by rw [BitVec.getLsbD_setWidth, decide_eq_true hq, Bool.true_and]
  have hup : ∀ {w : Nat} (y : BitVec w) (q : Nat), q ≠ i → upC c i (y.signExtend 64) q = c q := fun y q hne => if_neg hne
  have hup2 : ∀ (u v : BitVec 64) (q : Nat), q ≠ i → upC (upC c i u) i v q = c q := fun u v q hne => by
    unfold upC
    rw [if_neg hne, if_neg hne]
  have hat : ∀ (f : Nat → BitVec 64) (v : BitVec 64), upC f i v i = v := fun f v => if_pos rfl
  have hbit : ∀ (y : BitVec (wd b)) (q : Nat), q < wd b → (y.signExtend 64).getLsbD q = y.getLsbD q := fun y q hq => by
    rw [BitVec.getLsbD_signExtend, decide_eq_true (by omega), Bool.true_and, if_pos hq]
  obtain ⟨z1, -, hz1⟩ := pr_turned b (c i)
  have hy : ∀ (z : BitVec 64) q, q < wd b → (z.setWidth (wd b)).getLsbD q = z.getLsbD q := fun z q hq => by rw [BitVec.getLsbD_setWidth, decide_eq_true hq, Bool.true_and]
  obtain ⟨B1, s1, e1, p1⟩ := pr_reverses (k := k) (B := Bt) (f := sm) (y := z1.setWidth (wd b)) (hT i hi) hi (by omega) (fun q hq => (hy z1 q hq).trans (hz1 q hq))
  have hB1 := putsTo.up hT p1
  obtain ⟨B2, s2, e2, p2⟩ := pr_reverses (b := b) (k := k) (B := B1) (f := s1) (y := (c i).setWidth (wd b)) (hB1 i hi) hi (by omega) (fun q hq => by
    rw [hat, hbit _ _ (by omega), hy z1 _ (by omega), hz1 _ (by omega), hx q hq, show wd b - 1 - (wd b - 1 - q) = q by omega])
  have hB2 := putsTo.up hB1 p2
  obtain ⟨B3, e3, hB3⟩ := pr_isOther (b := b) (k := k) hD hB2 hi (by omega) (fun q _ hne => hup2 _ _ q hne) (by rw [hat, se_low hw])
  obtain ⟨z2, -, hz2⟩ := pr_bytesTurned b (c i)
  obtain ⟨B4, s4, e4, p4⟩ := pr_reversesBytes (k := k) (B := B3) (f := s2) (y := z2.setWidth (wd b)) (hB3 i hi) hi (by omega) (fun q hq => (hy z2 q hq).trans (hz2 q hq))
  have hB4 := putsTo.up hB3 p4
  obtain ⟨B5, s5, e5, p5⟩ := pr_reversesBytes (b := b) (k := k) (B := B4) (f := s4) (y := (c i).setWidth (wd b)) (hB4 i hi) hi (by omega) (fun q hq => by
    rw [hat, hbit _ _ (by omega), hy z2 _ (by omega), hz2 _ (by omega), hx q hq]
    congr 1
    omega)
  have hB5 := putsTo.up hB4 p5
  obtain ⟨B6, e6, hB6⟩ := pr_isOther (b := b) (k := k) hD hB5 hi (by omega) (fun q _ hne => hup2 _ _ q hne) (by rw [hat, se_low hw])
  obtain ⟨z3, -, hz3⟩ := pr_rotL1 (b := b) (left := true) (c i) (nI (cnt (c i) (wd b)))
  obtain ⟨B7, s7, e7, p7⟩ := pr_turns (left := true) (k := k) (B := B6) (f := s5) (y := z3.setWidth (wd b)) (nI (cnt (c i) (wd b))) (hB6 i hi) hi (by omega) (fun q hq => (hy z3 q hq).trans (hz3 q hq))
  have hB7 := putsTo.up hB6 p7
  obtain ⟨B8, s8, e8, p8⟩ := pr_turns (b := b) (left := false) (k := k) (B := B7) (f := s7) (y := (c i).setWidth (wd b)) (nI (cnt (c i) (wd b))) (hB7 i hi) hi (by omega) (fun q hq => by
    rw [hat, hbit _ _ (Nat.mod_lt _ hw0), hy z3 _ (Nat.mod_lt _ hw0), hz3 _ (Nat.mod_lt _ hw0), rof_back hq, hx q hq])
  have hB8 := putsTo.up hB7 p8
  obtain ⟨B9, e9, hB9⟩ := pr_isOther (b := b) (k := k) hD hB8 hi (by omega) (fun q _ hne => hup2 _ _ q hne) (by rw [hat, se_low hw])
  have e7' : mX12_turns k (bI b) B6 s5 (nI i) (nI (cnt (c i) (wd b))) 1 = _ := e7
  have e8' : mX12_turns k (bI b) B7 s7 (nI i) (nI (cnt (c i) (wd b))) 0 = _ := e8
  refine ⟨B9, s8, ?_, hB9⟩
  rw [mX13_failsTwice, e1]
  simp only [Option.bind_some]
  rw [e2]
  simp only [Option.bind_some]
  rw [e3]
  simp only [Option.bind_some]
  rw [e4]
  simp only [Option.bind_some]
  rw [e5]
  simp only [Option.bind_some]
  rw [e6]
  simp only [Option.bind_some]
  rw [pr_count (hB6 i hi) hi (by omega)]
  simp only [Option.bind_some]
  rw [e7']
  simp only [Option.bind_some]
  rw [e8']
  simp only [Option.bind_some]
  rw [e9]
  rfl
theorem m8 {i : Nat} (hi : i < 100) (a : Nat) (ha : a < 10) : (nI i + nI a) - (nI i + nI a) / 8 * 8 = nI ((i + a) % 8) := by
  rw [nI_add]
  exact pk_rem (d := 8) (by omega) (by decide) (by decide)
theorem pr_failsDivided {b : Bool} {k i : Nat} {Bd Bt : Nat → Nat → Int32} {c : Nat → BitVec 64} {on ot sm rs : Nat → Int32} (hD : isB Bd c) (hT : isB Bt c) (hi : i < 8) (hk : 310 < k) : ∃ B2 s1 s2 s3 s4, mX13_failsDivided k (bI b) Bd (bI b) Bt on ot sm rs (nI i) = some (0, B2, s1, s2, s3, s4) ∧ isB B2 c := by
  have hw := wd_le b
  obtain ⟨j, hj⟩ : ∃ j, j = (i + 1) % 8 := ⟨_, rfl⟩
  obtain ⟨r, hr⟩ : ∃ r, r = (i + 2) % 8 := ⟨_, rfl⟩
  have hj8 : j < 8 := by omega
  have hr8 : r < 8 := by omega
  have hij : j ≠ i := by omega
  have hir : r ≠ i := by omega
  have hjr : j ≠ r := by omega
  have x1 : (nI i + 1) - (nI i + 1) / 8 * 8 = nI j := by rw [hj]; exact m8 (by omega) 1 (by decide)
  have x2 : (nI i + 2) - (nI i + 2) / 8 * 8 = nI r := by rw [hr]; exact m8 (by omega) 2 (by decide)
  rw [mX13_failsDivided, x1, x2]
  simp only [Option.bind_some]
  by_cases h0 : (c j).setWidth (wd b) = 0#(wd b)
  · have e := pr_divides0 (p := true) (i := i) (k := k) (r := nI r) (one := on) (other := ot) (sum := sm) (rest := rs) hT hj8 (by omega) h0
    have e' : mX12_divides k (bI b) Bt on ot sm rs (nI i) (nI j) (nI r) 1 = _ := e
    rw [e']
    simp only [Option.bind_some, if_true]
    exact ⟨Bt, on, ot, sm, rs, rfl, hT⟩
  · obtain ⟨B1, o1, o2, s2, r2, e, hB1⟩ := pr_divides (p := true) (k := k) (one := on) (other := ot) (sum := sm) (rest := rs) hT hi hj8 hr8 (by omega) h0
    have e' : mX12_divides k (bI b) Bt on ot sm rs (nI i) (nI j) (nI r) 1 = _ := e
    rw [e']
    simp only [Option.bind_some, e10, if_false]
    obtain ⟨x, hx⟩ : ∃ x, x = (c i).setWidth (wd b) := ⟨_, rfl⟩
    obtain ⟨y, hy⟩ : ∃ y, y = (c j).setWidth (wd b) := ⟨_, rfl⟩
    rw [← hx, ← hy] at hB1
    rw [← hy] at h0
    obtain ⟨t, ht⟩ : ∃ t, t = x - quo true x y * y := ⟨_, rfl⟩
    rw [← ht] at hB1
    have htn : t.toNat = x.toNat % y.toNat := by
      have h9 := rem_quo (p := true) x y
      have h8 : x % y = t := by rw [ht, ← h9]; rfl
      rw [← h8, BitVec.toNat_umod]
    have hy0 : 0 < y.toNat := Nat.pos_of_ne_zero (fun z => h0 (BitVec.eq_of_toNat_eq (by rw [z]; simp)))
    obtain ⟨c1, hc1⟩ : ∃ c1, c1 = upC (upC c i ((quo true x y).signExtend 64)) r (t.signExtend 64) := ⟨_, rfl⟩
    rw [← hc1] at hB1
    have c1r : c1 r = t.signExtend 64 := by rw [hc1]; exact if_pos rfl
    have c1j : c1 j = c j := by
      rw [hc1]
      unfold upC
      rw [if_neg hjr, if_neg hij]
    have c1i : c1 i = (quo true x y).signExtend 64 := by
      rw [hc1]
      unfold upC
      rw [if_neg (Ne.symm hir), if_pos rfl]
    have e2 := pr_rcompares (b := b) (p := true) (k := k) hB1 hr8 hj8 (by omega)
    have eo : ordr b true (c1 r) (c1 j) = -1 := by
      unfold ordr
      rw [if_pos rfl, c1r, c1j, se_low hw, ← hy, htn, cmpI_lt (Nat.mod_lt _ hy0)]
    rw [eo] at e2
    have e2' : mX12_compares k (bI b) B1 1 r j = some (-1) := e2
    obtain ⟨B2, u1, v1, e3, p3⟩ := pr_combines (b := b) (p3 := 2) (k := k) (one := o1) (sum := s2) hB1 hi hj8 (by omega)
    have hB2 := putsTo.up hB1 p3
    have q2 : cmb 2 ((c1 i).setWidth (wd b)) ((c1 j).setWidth (wd b)) = quo true x y * y := by
      rw [c1i, c1j, se_low hw, ← hy]
      rfl
    rw [q2] at hB2
    obtain ⟨c2, hc2⟩ : ∃ c2, c2 = upC c1 i ((quo true x y * y).signExtend 64) := ⟨_, rfl⟩
    rw [← hc2] at hB2
    obtain ⟨B3, u2, v2, e4, p4⟩ := pr_combines (b := b) (p3 := 0) (k := k) (one := u1) (sum := v1) hB2 hi hr8 (by omega)
    have hB3 := putsTo.up hB2 p4
    have c2i : c2 i = (quo true x y * y).signExtend 64 := by rw [hc2]; exact if_pos rfl
    have c2r : c2 r = t.signExtend 64 := by
      rw [hc2]
      unfold upC
      rw [if_neg hir]
      exact c1r
    have q3 : cmb 0 ((c2 i).setWidth (wd b)) ((c2 r).setWidth (wd b)) = x := by
      rw [c2i, c2r, se_low hw, se_low hw]
      show quo true x y * y + t = x
      rw [ht, BitVec.add_comm, BitVec.sub_add_cancel]
    rw [q3] at hB3
    obtain ⟨f5, e5, hB5⟩ := pr_copyR (k := k) hD hB3 hr8 (by omega)
    obtain ⟨B6, e6, hB6⟩ := pr_isOther (b := b) (k := k) hD hB5 hi (by omega) (fun q _ hne => by
      unfold upC
      by_cases hqr : q = r
      · rw [if_pos hqr, hqr]
      · rw [if_neg hqr, if_neg hne, hc2]
        unfold upC
        rw [if_neg hne, hc1]
        unfold upC
        rw [if_neg hqr, if_neg hne]) (by
      unfold upC
      rw [if_neg (Ne.symm hir), if_pos rfl, se_low hw, hx])
    rw [if_neg (nI_in hr8 (by omega)), if_neg (nI_in hj8 (by omega)), nI_clamp (show r < 2 ^ 31 by omega), nI_clamp (show j < 2 ^ 31 by omega), e2']
    simp only [Option.bind_some]
    rw [if_neg (show ¬ (0 : Int32) ≤ -1 by decide)]
    simp only [Option.bind_some]
    rw [e3]
    simp only [Option.bind_some]
    rw [e4]
    simp only [Option.bind_some]
    rw [if_neg (nI_in2 hr8 (by omega)), if_neg (nI_in2 hr8 (by omega)), e5]
    simp only [Option.bind_some]
    rw [e6]
    simp only [Option.bind_some, if_true, e10, if_false]
    exact ⟨B6, _, _, _, _, rfl, hB6⟩
theorem pr_e28 {b : Bool} {K i : Nat} {Bd : Nat → Nat → Int32} {c : Nat → BitVec 64} {r1 : Int32 × (Nat → Nat → Int32) × (Nat → Int32) × Int32} (hr1 : r1.1 = bI b) (hD : isB Bd c) (hi : i < 8) (hK : 310 < K) : ∀ (d R k : Nat) (sum l1 l2 l3 : Int32) (g1 g2 g3 g4 : Nat → Int32) (Bt : Nat → Nat → Int32), R + d = 37 → d < k → 2 ≤ R → isB Bt c → ∃ m1 m2 m3 h1 h2 h3 h4 B2, mX13_errors_L28 K (bI b) Bd r1 (nI i) k sum (nI R) l1 l2 l3 g1 g2 g3 g4 Bt = some (sum, m1, m2, m3, h1, h2, h3, h4, B2) ∧ isB B2 c
  | _, _, 0, _, _, _, _, _, _, _, _, _, _, hk, _, _ => absurd hk (Nat.not_lt_zero _)
  | 0, R, k + 1, sum, l1, l2, l3, g1, g2, g3, g4, Bt, h, _, _, hT => ⟨l1, l2, l3, g1, g2, g3, g4, Bt, by rw [mX13_errors_L28, if_pos (show (36 : Int32) < nI R from nI_lt (a := 36) (by omega) (by omega))], hT⟩
  | d + 1, R, k + 1, sum, l1, l2, l3, g1, g2, g3, g4, Bt, h, hk, hR, hT => by
    obtain ⟨B1, a1, b1, a2, b2, b3, a3, a4, e1, hB1⟩ := pr_failsIn (b := b) (p := false) (k := K) (pg := g1) (ds := g2) (fd := g3) (one := g4) hD hT hi hR (show R ≤ 36 by omega) hK
    obtain ⟨B2, w1, x1, w2, x2, x3, w3, w4, e2, hB2⟩ := pr_failsIn (b := b) (p := true) (k := K) (pg := a1) (ds := a2) (fd := a3) (one := a4) hD hB1 hi hR (show R ≤ 36 by omega) hK
    obtain ⟨m1, m2, m3, h1, h2, h3, h4, B3, e3, hB3⟩ := pr_e28 hr1 hD hi hK d (R + 1) k sum x1 x2 x3 w1 w2 w3 w4 B2 (by omega) (by omega) (by omega) hB2
    have e1' : mX13_failsIn K (bI b) Bd (bI b) Bt g1 g2 g3 g4 (nI i) (nI R) 0 = _ := e1
    have e2' : mX13_failsIn K (bI b) Bd (bI b) B1 a1 a2 a3 a4 (nI i) (nI R) 1 = _ := e2
    refine ⟨m1, m2, m3, h1, h2, h3, h4, B3, ?_, hB3⟩
    rw [mX13_errors_L28, if_neg (show ¬ (36 : Int32) < nI R from nI_nlt (a := 36) (by omega) (by omega)), hr1, e1']
    simp only [Option.bind_some]
    rw [e2']
    simp only [Option.bind_some, add0]
    rw [nI_1]
    exact e3
theorem pr_e20 {b : Bool} {K : Nat} {Bd : Nat → Nat → Int32} {c : Nat → BitVec 64} {r1 : Int32 × (Nat → Nat → Int32) × (Nat → Int32) × Int32} (hr1 : r1.1 = bI b) (hD : isB Bd c) (hK : 310 < K) : ∀ (d i k : Nat) (sum l1 l2 l3 : Int32) (g1 g2 g3 g4 g5 g6 g7 : Nat → Int32) (Bt : Nat → Nat → Int32), i + d = 8 → d < k → isB Bt c → ∃ m1 m2 m3 h1 h2 h3 h4 h5 h6 h7 B2, mX13_errors_L20 K (bI b) Bd r1 k sum (nI i) l1 l2 l3 g1 g2 g3 g4 g5 g6 g7 Bt = some (sum, m1, m2, m3, h1, h2, h3, h4, h5, h6, h7, B2)
  | _, _, 0, _, _, _, _, _, _, _, _, _, _, _, _, _, hk, _ => absurd hk (Nat.not_lt_zero _)
  | 0, i, k + 1, sum, l1, l2, l3, g1, g2, g3, g4, g5, g6, g7, Bt, h, _, hT => ⟨l1, l2, l3, g1, g2, g3, g4, g5, g6, g7, Bt, by rw [mX13_errors_L20, if_pos (show (8 : Int32) ≤ nI i from nI_le (a := 8) (by omega) (by omega))]⟩
  | d + 1, i, k + 1, sum, l1, l2, l3, g1, g2, g3, g4, g5, g6, g7, Bt, h, hk, hT => by
    have hi : i < 8 := by omega
    obtain ⟨m1, m2, m3, h1, h2, h3, h4, B1, e1, hB1⟩ := pr_e28 (b := b) hr1 hD hi hK 35 2 K sum l1 l2 l3 g1 g2 g3 g4 Bt (by omega) (by omega) (by omega) hT
    obtain ⟨B2, s2, e2, hB2⟩ := pr_failsTwice (b := b) (k := K) (sm := g6) hD hB1 hi hK
    obtain ⟨B3, u1, u2, u3, u4, e3, hB3⟩ := pr_failsDivided (b := b) (k := K) (on := h4) (ot := g5) (sm := s2) (rs := g7) hD hB2 hi hK
    obtain ⟨n1, n2, n3, i1, i2, i3, i4, i5, i6, i7, B4, e4⟩ := pr_e20 hr1 hD hK d (i + 1) k sum m1 m2 m3 h1 h2 h3 u1 u2 u3 u4 B3 (by omega) (by omega) hB3
    have e1' : mX13_errors_L28 K (bI b) Bd r1 (nI i) K sum 2 l1 l2 l3 g1 g2 g3 g4 Bt = _ := e1
    refine ⟨n1, n2, n3, i1, i2, i3, i4, i5, i6, i7, B4, ?_⟩
    rw [mX13_errors_L20, if_neg (show ¬ (8 : Int32) ≤ nI i from nI_ge (b := 8) (by omega) (by omega)), e1']
    simp only [Option.bind_some]
    rw [hr1, e2]
    simp only [Option.bind_some]
    rw [e3]
    simp only [Option.bind_some, add0]
    rw [nI_1]
    exact e4
set_option maxHeartbeats 4000000 in
set_option maxRecDepth 100000 in
theorem hs_41 {k L j : Nat} {xs : Nat → Int32} {ax : Nat → Nat} {x : XS} {m : MS} {o : Nat → Int64} (hk : 1000 ≤ k) (hL : j + 6 ≤ L) (hL2 : L ≤ 3072) (h : Inv x m o) : ∃ R, mC_41 k (x.1) (x.2.1) (x.2.2.1) (x.2.2.2.1) (x.2.2.2.2.1) (x.2.2.2.2.2.1) (x.2.2.2.2.2.2.1) (x.2.2.2.2.2.2.2.1) (x.2.2.2.2.2.2.2.2.1) (x.2.2.2.2.2.2.2.2.2.1) (x.2.2.2.2.2.2.2.2.2.2.1) (x.2.2.2.2.2.2.2.2.2.2.2.1) (x.2.2.2.2.2.2.2.2.2.2.2.2.1) (x.2.2.2.2.2.2.2.2.2.2.2.2.2.1) (x.2.2.2.2.2.2.2.2.2.2.2.2.2.2.1) (x.2.2.2.2.2.2.2.2.2.2.2.2.2.2.2.1) (x.2.2.2.2.2.2.2.2.2.2.2.2.2.2.2.2.1) (x.2.2.2.2.2.2.2.2.2.2.2.2.2.2.2.2.2.1) (x.2.2.2.2.2.2.2.2.2.2.2.2.2.2.2.2.2.2.1) (x.2.2.2.2.2.2.2.2.2.2.2.2.2.2.2.2.2.2.2.1) (x.2.2.2.2.2.2.2.2.2.2.2.2.2.2.2.2.2.2.2.2.1) (x.2.2.2.2.2.2.2.2.2.2.2.2.2.2.2.2.2.2.2.2.2.1) (x.2.2.2.2.2.2.2.2.2.2.2.2.2.2.2.2.2.2.2.2.2.2.1) (x.2.2.2.2.2.2.2.2.2.2.2.2.2.2.2.2.2.2.2.2.2.2.2.1) (x.2.2.2.2.2.2.2.2.2.2.2.2.2.2.2.2.2.2.2.2.2.2.2.2.1) (x.2.2.2.2.2.2.2.2.2.2.2.2.2.2.2.2.2.2.2.2.2.2.2.2.2.1) (x.2.2.2.2.2.2.2.2.2.2.2.2.2.2.2.2.2.2.2.2.2.2.2.2.2.2.1) (x.2.2.2.2.2.2.2.2.2.2.2.2.2.2.2.2.2.2.2.2.2.2.2.2.2.2.2.1) (x.2.2.2.2.2.2.2.2.2.2.2.2.2.2.2.2.2.2.2.2.2.2.2.2.2.2.2.2.1) (x.2.2.2.2.2.2.2.2.2.2.2.2.2.2.2.2.2.2.2.2.2.2.2.2.2.2.2.2.2.1) (x.2.2.2.2.2.2.2.2.2.2.2.2.2.2.2.2.2.2.2.2.2.2.2.2.2.2.2.2.2.2.1) (x.2.2.2.2.2.2.2.2.2.2.2.2.2.2.2.2.2.2.2.2.2.2.2.2.2.2.2.2.2.2.2.1) (x.2.2.2.2.2.2.2.2.2.2.2.2.2.2.2.2.2.2.2.2.2.2.2.2.2.2.2.2.2.2.2.2) (m.2.1) (m.2.2.1) (m.2.2.2.1) (m.2.2.2.2.1) (m.2.2.2.2.2.1) (m.2.2.2.2.2.2.1) (m.2.2.2.2.2.2.2.1) (m.2.2.2.2.2.2.2.2.1) (m.2.2.2.2.2.2.2.2.2.1) (m.2.2.2.2.2.2.2.2.2.2.1) (m.2.2.2.2.2.2.2.2.2.2.2.1) (m.2.2.2.2.2.2.2.2.2.2.2.2.1) (m.2.2.2.2.2.2.2.2.2.2.2.2.2.2.1) (m.2.2.2.2.2.2.2.2.2.2.2.2.2.2.2.1) (m.2.2.2.2.2.2.2.2.2.2.2.2.2.2.2.2.2.1) (m.2.2.2.2.2.2.2.2.2.2.2.2.2.2.2.2.2.2.1) (m.2.2.2.2.2.2.2.2.2.2.2.2.2.2.2.2.2.2.2.1) (m.2.2.2.2.2.2.2.2.2.2.2.2.2.2.2.2.2.2.2.2.1) (m.2.2.2.2.2.2.2.2.2.2.2.2.2.2.2.2.2.2.2.2.2.1) (m.2.2.2.2.2.2.2.2.2.2.2.2.2.2.2.2.2.2.2.2.2.2.1) (m.2.2.2.2.2.2.2.2.2.2.2.2.2.2.2.2.2.2.2.2.2.2.2.1) (m.2.2.2.2.2.2.2.2.2.2.2.2.2.2.2.2.2.2.2.2.2.2.2.2.1) (m.2.2.2.2.2.2.2.2.2.2.2.2.2.2.2.2.2.2.2.2.2.2.2.2.2.1) (m.2.2.2.2.2.2.2.2.2.2.2.2.2.2.2.2.2.2.2.2.2.2.2.2.2.2.1) (m.2.2.2.2.2.2.2.2.2.2.2.2.2.2.2.2.2.2.2.2.2.2.2.2.2.2.2.1) (m.2.2.2.2.2.2.2.2.2.2.2.2.2.2.2.2.2.2.2.2.2.2.2.2.2.2.2.2.1) (m.2.2.2.2.2.2.2.2.2.2.2.2.2.2.2.2.2.2.2.2.2.2.2.2.2.2.2.2.2.1) (m.2.2.2.2.2.2.2.2.2.2.2.2.2.2.2.2.2.2.2.2.2.2.2.2.2.2.2.2.2.2.1) (m.2.2.2.2.2.2.2.2.2.2.2.2.2.2.2.2.2.2.2.2.2.2.2.2.2.2.2.2.2.2.2.1) (m.2.2.2.2.2.2.2.2.2.2.2.2.2.2.2.2.2.2.2.2.2.2.2.2.2.2.2.2.2.2.2.2.1) (m.2.2.2.2.2.2.2.2.2.2.2.2.2.2.2.2.2.2.2.2.2.2.2.2.2.2.2.2.2.2.2.2.2.1) (m.2.2.2.2.2.2.2.2.2.2.2.2.2.2.2.2.2.2.2.2.2.2.2.2.2.2.2.2.2.2.2.2.2.2.1) (m.2.2.2.2.2.2.2.2.2.2.2.2.2.2.2.2.2.2.2.2.2.2.2.2.2.2.2.2.2.2.2.2.2.2.2) o = some R ∧ Inv R.1 R.2.1 R.2.2 := by
  obtain ⟨b, c, tn, tx, pn, pg, hC, hw, hmw, hB, hp, ht⟩ := h
  rw [hw, hmw, mC_41]
  obtain ⟨p1, p2, p3, p4⟩ := hp
  obtain ⟨s2, v2, f2, e1⟩ := pr_f4 (b := b) (K := k) hC (by omega) 8 0 k 0 (x.2.2.2.2.2.2.2.2.2.2.2.2.2.2.2.2.2.2.2.2.2.2.2.2.2.2.2.2.2.2.1) (x.2.2.2.2.2.2.2.2.2.2.2.2.2.2.2.2.2.2.2.2.2.2.2.2.2.2.2.2.2.2.2.1) (x.2.2.2.2.2.2.2.2.2.2.2.2.2.2.2.2.2.2.2.2.2.2.2.2.2.2.2.2.2.1) (by omega) (by omega)
  have e1' : mX8_failures_L4 k 65 (x.1) (bI b) k 0 0 (x.2.2.2.2.2.2.2.2.2.2.2.2.2.2.2.2.2.2.2.2.2.2.2.2.2.2.2.2.2.2.1) (x.2.2.2.2.2.2.2.2.2.2.2.2.2.2.2.2.2.2.2.2.2.2.2.2.2.2.2.2.2.2.2.1) (x.2.2.2.2.2.2.2.2.2.2.2.2.2.2.2.2.2.2.2.2.2.2.2.2.2.2.2.2.2.1) = _ := e1
  obtain ⟨B2, g2, e2, hB2, hg2⟩ := pr_tk_r (b := b) (Bt := (m.2.2.2.2.2.2.2.2.2.2.2.2.2.2.1)) (ft := (m.2.2.2.2.2.2.2.2.2.2.2.2.2.2.2.1)) (k := k) hB (by omega) p1 (by omega) (fun q hq => (p4 q hq).2.1)
  obtain ⟨n1, n2, n3, i1, i2, i3, i4, i5, i6, i7, B4, e3⟩ := pr_e20 (b := b) (K := k) (r1 := (bI b, B2, g2, nI pn)) rfl hB (by omega) 8 0 k 0 (nI pn) (m.2.2.2.2.2.2.2.2.2.2.2.2.2.2.2.2.2.2.1) (m.2.2.2.2.2.2.2.2.2.2.2.2.2.2.2.2.2.2.2.1) g2 (m.2.2.2.2.2.2.2.2.2.2.2.2.2.2.2.2.2.1) (m.2.2.2.2.2.2.2.2.2.2.2.2.2.2.2.2.2.2.2.2.1) (m.2.2.2.2.2.2.2.2.2.2.2.2.2.2.2.2.2.2.2.2.2.1) (m.2.2.2.2.2.2.2.2.2.2.2.2.2.2.2.2.2.2.2.2.2.2.1) (m.2.2.2.2.2.2.2.2.2.2.2.2.2.2.2.2.2.2.2.2.2.2.2.1) (m.2.2.2.2.2.2.2.2.2.2.2.2.2.2.2.2.2.2.2.2.2.2.2.2.1) B2 (by omega) (by omega) hB2
  have e3' : mX13_errors_L20 k (bI b) (m.2.2.1) (bI b, B2, g2, nI pn) k 0 0 (nI pn) (m.2.2.2.2.2.2.2.2.2.2.2.2.2.2.2.2.2.2.1) (m.2.2.2.2.2.2.2.2.2.2.2.2.2.2.2.2.2.2.2.1) g2 (m.2.2.2.2.2.2.2.2.2.2.2.2.2.2.2.2.2.1) (m.2.2.2.2.2.2.2.2.2.2.2.2.2.2.2.2.2.2.2.2.1) (m.2.2.2.2.2.2.2.2.2.2.2.2.2.2.2.2.2.2.2.2.2.1) (m.2.2.2.2.2.2.2.2.2.2.2.2.2.2.2.2.2.2.2.2.2.2.1) (m.2.2.2.2.2.2.2.2.2.2.2.2.2.2.2.2.2.2.2.2.2.2.2.1) (m.2.2.2.2.2.2.2.2.2.2.2.2.2.2.2.2.2.2.2.2.2.2.2.2.1) B2 = _ := e3
  rw [mX11_errors, mX8_failures, e1']
  simp only [Option.bind_some]
  rw [p3, mX13_errors, e2]
  simp only [Option.bind_some]
  rw [e3']
  simp only [Option.bind_some, if_true]
  exact ⟨_, rfl, ⟨b, c, tn, tx, pn, pg, hC, rfl, rfl, hB, ⟨p1, p2, rfl, p4⟩, ht⟩⟩
