/-! pure: sort -/
def sigOK (B : Nat → Nat → Int32) (c : Nat → BitVec 64) (sig : Nat → Nat) : Prop := (∀ j, j < 8 → sig j < 8) ∧ (∀ i j, i < 8 → j < 8 → sig i = sig j → i = j) ∧ (∀ j, j < 8 → isR 64 (B (sig j)) (c j)) ∧ List.Perm ((List.range 8).map sig) (List.range 8)
theorem perm_swap (sig : Nat → Nat) : ∀ i, i < 7 → List.Perm ((List.range 8).map (upN (upN sig (i + 1) (sig i)) i (sig (i + 1)))) ((List.range 8).map sig)
  | 0, _ => List.Perm.swap (sig 0) (sig 1) _
  | 1, _ => List.Perm.cons _ (List.Perm.swap (sig 1) (sig 2) _)
  | 2, _ => List.Perm.cons _ (List.Perm.cons _ (List.Perm.swap (sig 2) (sig 3) _))
  | 3, _ => List.Perm.cons _ (List.Perm.cons _ (List.Perm.cons _ (List.Perm.swap (sig 3) (sig 4) _)))
  | 4, _ => List.Perm.cons _ (List.Perm.cons _ (List.Perm.cons _ (List.Perm.cons _ (List.Perm.swap (sig 4) (sig 5) _))))
  | 5, _ => List.Perm.cons _ (List.Perm.cons _ (List.Perm.cons _ (List.Perm.cons _ (List.Perm.cons _ (List.Perm.swap (sig 5) (sig 6) _)))))
  | 6, _ => List.Perm.cons _ (List.Perm.cons _ (List.Perm.cons _ (List.Perm.cons _ (List.Perm.cons _ (List.Perm.cons _ (List.Perm.swap (sig 6) (sig 7) _))))))
  | i + 7, h => absurd h (by omega)
theorem sig_swap {B : Nat → Nat → Int32} {c : Nat → BitVec 64} {sig : Nat → Nat} (h : sigOK B c sig) {i : Nat} (hi : i < 7) : sigOK B (upC (upC c (i + 1) (c i)) i (c (i + 1))) (upN (upN sig (i + 1) (sig i)) i (sig (i + 1))) := by
  obtain ⟨h1, h2, h3, h4⟩ := h
  have ev : ∀ j, upN (upN sig (i + 1) (sig i)) i (sig (i + 1)) j = sig (if j = i then i + 1 else if j = i + 1 then i else j) := fun j => by
    unfold upN
    split
    · rfl
    · split <;> rfl
  have ec : ∀ j, upC (upC c (i + 1) (c i)) i (c (i + 1)) j = c (if j = i then i + 1 else if j = i + 1 then i else j) := fun j => by
    unfold upC
    split
    · rfl
    · split <;> rfl
  have hb : ∀ j, j < 8 → (if j = i then i + 1 else if j = i + 1 then i else j) < 8 := fun j hj => by
    split
    · omega
    · split <;> omega
  refine ⟨fun j hj => by rw [ev]; exact h1 _ (hb j hj), fun q j hq hj e => ?_, fun j hj => by rw [ev, ec]; exact h3 _ (hb j hj), (perm_swap sig i hi).trans h4⟩
  rw [ev, ev] at e
  have e2 := h2 _ _ (hb q hq) (hb j hj) e
  repeat' split at e2
  all_goals omega
theorem pr_allBits' {f : Nat → Int64} {c : Nat → BitVec 64} {j : Nat} (h : isC f c) (hj : j < 8) : mX2_allBits f (nI j) = some (f j) := by rw [pr_allBits h hj, h j hj]
theorem pr_move {b p : Bool} {B : Nat → Nat → Int32} {K : Nat} (hK : 64 < K) : ∀ (i k : Nat) (f : Nat → Int64) (c : Nat → BitVec 64) (sig : Nat → Nat), i < 8 → i < k → isC f c → sigOK B c sig → ∃ f2 c2 sig2, mX2_moveForward_L2 (bI b) (bI p) k (nI i) f = some f2 ∧ mX12_sorts_L48 K (bI b) B (bI p) k (nI i) sig = some sig2 ∧ isC f2 c2 ∧ sigOK B c2 sig2
  | _, 0, _, _, _, _, hk, _, _ => absurd hk (Nat.not_lt_zero _)
  | 0, k + 1, f, c, sig, _, _, hC, hS => ⟨f, c, sig, by rw [mX2_moveForward_L2, if_pos (by decide)], by rw [mX12_sorts_L48, if_pos (by decide)], hC, hS⟩
  | i + 1, k + 1, f, c, sig, hi, hk, hC, hS => by
    have hc := pr_ccompared (b := b) (p := p) hC (show i < 8 by omega) hi
    have hr := pr_rcompared (b := b) (p := p) (k := K) (hS.2.2.1 i (by omega)) (hS.2.2.1 (i + 1) hi) hK
    have c1 : (nI i).toNatClampNeg = i := nI_clamp (by omega)
    have c2 : (nI (i + 1)).toNatClampNeg = i + 1 := nI_clamp (by omega)
    have g1 : (nI i < 0 ∨ 8 ≤ i) = False := eq_false (nI_in2 (by omega) (by omega))
    have g2 : (nI (i + 1) < 0 ∨ 8 ≤ i + 1) = False := eq_false (nI_in2 (by omega) (by omega))
    have g3 : (8 ≤ sig i) = False := eq_false (Nat.not_le.mpr (hS.1 i (by omega)))
    have g4 : (8 ≤ sig (i + 1)) = False := eq_false (Nat.not_le.mpr (hS.1 (i + 1) hi))
    have g5 : (sig i = sig (i + 1)) = False := eq_false (fun z => by have := hS.2.1 i (i + 1) (by omega) hi z; omega)
    by_cases h0 : ordr b p (c i) (c (i + 1)) ≤ 0
    · refine ⟨f, c, sig, ?_, ?_, hC, hS⟩
      · rw [mX2_moveForward_L2, if_neg (nI_nle (by omega) (by omega)), nI_pred, hc]
        simp only [Option.bind_some]
        rw [if_pos h0]
      · rw [mX12_sorts_L48, if_neg (nI_nle (by omega) (by omega)), nI_pred]
        simp only [c1, c2, g1, g2, g3, g4, g5, if_false]
        rw [hr]
        simp only [Option.bind_some]
        rw [if_pos h0]
    · have hC2 := (hC.up (i + 1) (c i)).up i (c (i + 1))
      obtain ⟨f2, c3, sig2, e1, e2, q1, q2⟩ := pr_move hK i k _ _ _ (by omega) (by omega) hC2 (sig_swap hS (show i < 7 by omega))
      refine ⟨f2, c3, sig2, ?_, ?_, q1, q2⟩
      · rw [mX2_moveForward_L2, if_neg (nI_nle (by omega) (by omega)), nI_pred, hc]
        simp only [Option.bind_some]
        rw [if_neg h0, pr_allBits hC hi, pr_allBits hC (by omega)]
        simp only [Option.bind_some]
        rw [pr_keep _ hi]
        simp only [Option.bind_some]
        rw [pr_keep _ (by omega)]
        simp only [Option.bind_some]
        rw [pk_m1]
        exact e1
      · rw [mX12_sorts_L48, if_neg (nI_nle (by omega) (by omega)), nI_pred]
        simp only [c1, c2, g1, g2, g3, g4, g5, if_false]
        rw [hr]
        simp only [Option.bind_some]
        rw [if_neg h0, pk_m1]
        exact e2
theorem pr_move2 {b p : Bool} {B : Nat → Nat → Int32} {K : Nat} (hK : 64 < K) : ∀ (d i k : Nat) (f : Nat → Int64) (c : Nat → BitVec 64) (sig : Nat → Nat), i + d = 8 → d < k → isC f c → sigOK B c sig → ∃ f2 c2 sig2, mX2_sortCells_L30 K (bI b) (bI p) k (nI i) f = some f2 ∧ mX12_sorts_L39 K (bI b) B (bI p) k (nI i) sig = some sig2 ∧ isC f2 c2 ∧ sigOK B c2 sig2
  | _, _, 0, _, _, _, _, hk, _, _ => absurd hk (Nat.not_lt_zero _)
  | 0, i, k + 1, f, c, sig, h, _, hC, hS => ⟨f, c, sig, by rw [mX2_sortCells_L30, if_pos (show (8 : Int32) ≤ nI i from nI_le (a := 8) (by omega) (by omega))], by rw [mX12_sorts_L39, if_pos (show (8 : Int32) ≤ nI i from nI_le (a := 8) (by omega) (by omega))], hC, hS⟩
  | d + 1, i, k + 1, f, c, sig, h, hk, hC, hS => by
    obtain ⟨f1, c1, sig1, e1, e2, q1, q2⟩ := pr_move (b := b) (p := p) hK i K f c sig (by omega) (by omega) hC hS
    obtain ⟨f2, c2, sig2, e3, e4, q3, q4⟩ := pr_move2 (b := b) (p := p) hK d (i + 1) k f1 c1 sig1 (by omega) (by omega) q1 q2
    refine ⟨f2, c2, sig2, ?_, ?_, q3, q4⟩
    · rw [mX2_sortCells_L30, if_neg (show ¬ (8 : Int32) ≤ nI i from nI_ge (b := 8) (by omega) (by omega)), mX2_moveForward, e1]
      simp only [Option.bind_some]
      rw [nI_1]
      exact e3
    · rw [mX12_sorts_L39, if_neg (show ¬ (8 : Int32) ≤ nI i from nI_ge (b := 8) (by omega) (by omega)), e2]
      simp only [Option.bind_some]
      rw [nI_1]
      exact e4
theorem pr_before {f : Nat → Int64} {c : Nat → BitVec 64} (hC : isC f c) : ∀ (d i k : Nat) (g : Nat → Int64), i + d = 8 → d < k → (∀ j, j < i → g j = f j) → ∃ g2, mX2_sortCells_L2 f k (nI i) g = some g2 ∧ ∀ j, j < 8 → g2 j = f j
  | _, _, 0, _, _, hk, _ => absurd hk (Nat.not_lt_zero _)
  | 0, i, k + 1, g, h, _, q => ⟨g, by rw [mX2_sortCells_L2, if_pos (show (8 : Int32) ≤ nI i from nI_le (a := 8) (by omega) (by omega))], fun j hj => q j (by omega)⟩
  | d + 1, i, k + 1, g, h, hk, q => by
    obtain ⟨g2, e, q2⟩ := pr_before hC d (i + 1) k (vp_updL g i (f i)) (by omega) (by omega) (fun j hj => by
      by_cases hji : j = i
      · rw [hji, pk_uLs]
      · rw [pk_uLn hji]
        exact q j (by omega))
    refine ⟨g2, ?_, q2⟩
    rw [mX2_sortCells_L2, if_neg (show ¬ (8 : Int32) ≤ nI i from nI_ge (b := 8) (by omega) (by omega)), pr_allBits' hC (by omega)]
    simp only [Option.bind_some]
    rw [if_neg (nI_in (show i < 8 by omega) (by omega)), nI_clamp (by omega), nI_1]
    exact e
theorem pr_rbefore {B : Nat → Nat → Int32} {c : Nat → BitVec 64} {K : Nat} (hB : isB B c) (hK : 64 < K) : ∀ (d i k : Nat) (g : Nat → Nat → Int32), i + d = 8 → d < k → (∀ j, j < i → isR 64 (g j) (c j)) → ∃ g2, mX12_sorts_L11 K B k (nI i) g = some g2 ∧ isB g2 c
  | _, _, 0, _, _, hk, _ => absurd hk (Nat.not_lt_zero _)
  | 0, i, k + 1, g, h, _, q => ⟨g, by rw [mX12_sorts_L11, if_pos (show (8 : Int32) ≤ nI i from nI_le (a := 8) (by omega) (by omega))], fun j hj => q j (by omega)⟩
  | d + 1, i, k + 1, g, h, hk, q => by
    obtain ⟨f1, e1, a1, a2⟩ := pr_copy (w := 64) (N1 := 64) (N2 := 64) (k := K) (g := B i) (f := g i) (Nat.le_refl _) (Nat.le_refl _) (by omega) (by omega) hK
    obtain ⟨g2, e, q2⟩ := pr_rbefore hB hK d (i + 1) k (upR g i f1) (by omega) (by omega) (fun j hj => by
      unfold upR
      by_cases hji : j = i
      · rw [if_pos hji, hji]
        exact fun t ht => by rw [a1 t ht, hB i (by omega) t ht, nar_b]
      · rw [if_neg hji]
        exact q j (by omega))
    refine ⟨g2, ?_, q2⟩
    rw [mX12_sorts_L11, if_neg (show ¬ (8 : Int32) ≤ nI i from nI_ge (b := 8) (by omega) (by omega)), if_neg (nI_in (show i < 8 by omega) (by omega)), if_neg (nI_in (show i < 8 by omega) (by omega)), nI_clamp (by omega)]
    have e1' : mX13_copy K 64 64 (B i) (g i) 64 = some f1 := e1
    rw [e1']
    simp only [Option.bind_some]
    rw [nI_1]
    exact e
/-- how many of the lowest n cells are others -/
def chg (c c2 : Nat → BitVec 64) : Nat → Nat
  | 0 => 0
  | n + 1 => chg c c2 n + if c2 n = c n then 0 else 1
theorem chg_le (c c2 : Nat → BitVec 64) : ∀ n, chg c c2 n ≤ n
  | 0 => Nat.le_refl _
  | n + 1 => by
    have h := chg_le c c2 n
    rw [chg]
    split <;> omega
theorem pr_moved {f g : Nat → Int64} {c c2 : Nat → BitVec 64} (hC : isC f c2) (hg : ∀ j, j < 8 → g j = Int64.ofBitVec (c j)) : ∀ (d i k : Nat), i + d = 8 → d < k → mX2_sortCells_L52 f g k (nI (chg c c2 i)) (nI i) = some (nI (chg c c2 8))
  | _, _, 0, _, hk => absurd hk (Nat.not_lt_zero _)
  | 0, i, k + 1, h, _ => by rw [mX2_sortCells_L52, if_pos (show (8 : Int32) ≤ nI i from nI_le (a := 8) (by omega) (by omega)), show i = 8 by omega]
  | d + 1, i, k + 1, h, hk => by
    have e := pr_moved hC hg d (i + 1) k (by omega) (by omega)
    rw [mX2_sortCells_L52, if_neg (show ¬ (8 : Int32) ≤ nI i from nI_ge (b := 8) (by omega) (by omega)), pr_allBits hC (by omega)]
    simp only [Option.bind_some]
    rw [if_neg (nI_in (show i < 8 by omega) (by omega)), nI_clamp (by omega), hg i (by omega), nI_1, nI_1]
    rw [chg] at e
    by_cases h2 : c2 i = c i
    · rw [if_pos h2] at e
      rw [if_pos ((lg_cmp_eq _ _).mpr (by rw [h2]))]
      exact e
    · rw [if_neg h2] at e
      rw [if_neg (fun z => h2 (show (Int64.ofBitVec (c2 i)).toBitVec = (Int64.ofBitVec (c i)).toBitVec from congrArg Int64.toBitVec ((lg_cmp_eq _ _).mp z)))]
      exact e
theorem cmpI_ne {w : Nat} (x y : BitVec w) : ((if cmpI x.toNat y.toNat = 0 then some 0 else some 1) : Option Int32) = some (nI (if y = x then 0 else 1)) := by
  rcases Nat.lt_trichotomy x.toNat y.toNat with h | h | h
  · rw [cmpI_lt h, if_neg (show ¬ (-1 : Int32) = 0 by decide), if_neg (fun z : y = x => by rw [z] at h; exact Nat.lt_irrefl _ h)]
    rfl
  · rw [cmpI_eq h, if_pos rfl, if_pos (BitVec.eq_of_toNat_eq h.symm)]
    rfl
  · rw [cmpI_gt h, if_neg (show ¬ (1 : Int32) = 0 by decide), if_neg (fun z : y = x => by rw [z] at h; exact Nat.lt_irrefl _ h)]
    rfl
theorem pr_rmoved {B G : Nat → Nat → Int32} {c c2 : Nat → BitVec 64} {sig : Nat → Nat} {K : Nat} (hS : sigOK B c2 sig) (hG : isB G c) (hK : 64 < K) : ∀ (d i k : Nat), i + d = 8 → d < k → mX12_sorts_L130 sig K G B k (nI (chg c c2 i)) (nI i) = some (nI (chg c c2 8))
  | _, _, 0, _, hk => absurd hk (Nat.not_lt_zero _)
  | 0, i, k + 1, h, _ => by rw [mX12_sorts_L130, if_pos (show (8 : Int32) ≤ nI i from nI_le (a := 8) (by omega) (by omega)), show i = 8 by omega]
  | d + 1, i, k + 1, h, hk => by
    have e := pr_rmoved hS hG hK d (i + 1) k (by omega) (by omega)
    have hc := pr_compared (N1 := 64) (N2 := 64) (k := K) (hG i (by omega)) (hS.2.2.1 i (by omega)) (Nat.le_refl _) (Nat.le_refl _) (by omega) (by omega) hK
    have hc' : mX13_compared K 64 64 (G i) (B (sig i)) 64 = some (cmpI (c i).toNat (c2 i).toNat) := hc
    rw [mX12_sorts_L130, if_neg (show ¬ (8 : Int32) ≤ nI i from nI_ge (b := 8) (by omega) (by omega)), if_neg (nI_in (show i < 8 by omega) (by omega)), if_neg (nI_in (show i < 8 by omega) (by omega)), nI_clamp (by omega), if_neg (Nat.not_le.mpr (hS.1 i (by omega))), hc']
    simp only [Option.bind_some]
    rw [cmpI_ne]
    simp only [Option.bind_some]
    rw [nI_add, nI_1]
    rw [chg] at e
    exact e
theorem pr_sorts {b p : Bool} {f g : Nat → Int64} {B : Nat → Nat → Int32} {c : Nat → BitVec 64} {k : Nat} (hC : isC f c) (hB : isB B c) (hk : 64 < k) : ∃ n f2 g2 c2 sig, mX2_sortCells k f g (bI b) (bI p) = some (n, f2, g2) ∧ mX12_sorts k (bI b) B (bI p) = some (n, sig) ∧ isC f2 c2 ∧ isB (fun j => B (sig j)) c2 ∧ perm8 sig = true := by
  obtain ⟨g2, e1, q1⟩ := pr_before hC 8 0 k g (by omega) (by omega) (fun j hj => absurd hj (Nat.not_lt_zero _))
  obtain ⟨G, e2, q2⟩ := pr_rbefore hB hk 8 0 k (fun _ _ => 0) (by omega) (by omega) (fun j hj => absurd hj (Nat.not_lt_zero _))
  obtain ⟨f2, c2, sig, e3, e4, q3, q4⟩ := pr_move2 (b := b) (p := p) hk 7 1 k f c (fun j => j) (by omega) (by omega) hC ⟨fun _ h => h, fun _ _ _ _ h => h, fun j hj => hB j hj, by
    show List.Perm ((List.range 8).map id) (List.range 8)
    rw [List.map_id]⟩
  have e5 := pr_moved (g := g2) (c := c) q3 (fun j hj => by rw [q1 j hj, hC j hj]) 8 0 k (by omega) (by omega)
  have e6 := pr_rmoved (c := c) q4 q2 hk 8 0 k (by omega) (by omega)
  have e1' : mX2_sortCells_L2 f k 0 g = some g2 := e1
  have e2' : mX12_sorts_L11 k B k 0 (fun _ _ => 0) = some G := e2
  have e3' : mX2_sortCells_L30 k (bI b) (bI p) k 1 f = some f2 := e3
  have e4' : mX12_sorts_L39 k (bI b) B (bI p) k 1 (fun j => j) = some sig := e4
  have e5' : mX2_sortCells_L52 f2 g2 k 0 0 = some (nI (chg c c2 8)) := e5
  have e6' : mX12_sorts_L130 sig k G B k 0 0 = some (nI (chg c c2 8)) := e6
  refine ⟨nI (chg c c2 8), f2, g2, c2, sig, ?_, ?_, q3, fun j hj => q4.2.2.1 j hj, List.isPerm_iff.mpr q4.2.2.2⟩
  · rw [mX2_sortCells, e1']
    simp only [Option.bind_some]
    rw [e3']
    simp only [Option.bind_some]
    rw [e5']
    rfl
  · rw [mX12_sorts, e2']
    simp only [Option.bind_some]
    rw [e4']
    simp only [Option.bind_some]
    rw [e6']
    rfl
