/-! pure: spreads, leaves of the reference -/
theorem pr_spreads_L {j : Nat} {x : BitVec 64} (hj : j < 8) : ∀ (d i k : Nat) (B : Nat → Nat → Int32), i + d = 64 → d < k → 32 ≤ i → (∀ q, q < 32 → B j q = bI (x.getLsbD q)) → (∀ q, 32 ≤ q → q < i → B j q = 0) → ∃ R, mX12_spreads_L3 (nI j) k (nI i) B = some R ∧ isR 64 (R j) ((x.setWidth 32).setWidth 64) ∧ ∀ q, q ≠ j → R q = B q
  | _, _, 0, _, _, hk, _, _, _ => absurd hk (Nat.not_lt_zero _)
  | 0, i, k + 1, B, h, _, _, q1, q2 => ⟨B, by rw [mX12_spreads_L3, if_pos (show (64 : Int32) ≤ nI i from nI_le (a := 64) (by omega) (by omega))], fun q hq => by
    rw [BitVec.getLsbD_setWidth, BitVec.getLsbD_setWidth, decide_eq_true hq, Bool.true_and]
    by_cases h32 : q < 32
    · rw [q1 q h32, decide_eq_true h32, Bool.true_and]
    · rw [q2 q (by omega) (by omega), decide_eq_false h32, Bool.false_and]
      rfl, fun _ _ => rfl⟩
  | d + 1, i, k + 1, B, h, hk, hi, q1, q2 => by
    obtain ⟨R, e, r1, r2⟩ := pr_spreads_L hj d (i + 1) k (upR B j (upd (B j) i 0)) (by omega) (by omega) (by omega) (fun q hq => by
      have e0 : upR B j (upd (B j) i 0) j = upd (B j) i 0 := if_pos rfl
      rw [e0, pk_un (by omega)]
      exact q1 q hq) (fun q h1 h2 => by
      have e0 : upR B j (upd (B j) i 0) j = upd (B j) i 0 := if_pos rfl
      rw [e0]
      by_cases hqi : q = i
      · rw [hqi, pk_us]
      · rw [pk_un hqi]
        exact q2 q h1 (by omega))
    refine ⟨R, ?_, r1, fun q hq => (r2 q hq).trans (if_neg hq)⟩
    rw [mX12_spreads_L3, if_neg (show ¬ (64 : Int32) ≤ nI i from nI_ge (b := 64) (by omega) (by omega)), if_neg (nI_in hj (by omega)), if_neg (nI_in (by omega) (by omega)), nI_clamp (by omega), nI_clamp (by omega), nI_1, nar_0]
    exact e
theorem pr_spreads {b : Bool} {j k : Nat} {B : Nat → Nat → Int32} {c : Nat → BitVec 64} (hB : isB B c) (hj : j < 8) (hk : 64 < k) : ∃ R, mX12_spreads k (bI b) B (nI j) = some (Int64.ofBitVec (sgn b (((c j).setWidth 32).setWidth 64)), R) ∧ isB R (upC c j (((c j).setWidth 32).setWidth 64)) := by
  obtain ⟨R, e, r1, r2⟩ := pr_spreads_L (x := c j) hj 32 32 k B (by omega) (by omega) (by omega) (fun q hq => hB j hj q (by omega)) (fun q h1 h2 => by omega)
  have hR : isB R (upC c j (((c j).setWidth 32).setWidth 64)) := fun q hq => by
    unfold upC
    by_cases e9 : q = j
    · rw [if_pos e9, e9]
      exact r1
    · rw [if_neg e9, r2 q e9]
      exact hB q hq
  have ej : upC c j (((c j).setWidth 32).setWidth 64) j = ((c j).setWidth 32).setWidth 64 := if_pos rfl
  refine ⟨R, ?_, hR⟩
  rw [mX12_spreads]
  show (mX12_spreads_L3 (nI j) k (nI 32) B).bind _ = _
  rw [e]
  simp only [Option.bind_some]
  rw [pr_number hR hj hk, ej]
  rfl
theorem pr_leaves {b above : Bool} {j k : Nat} {B : Nat → Nat → Int32} {f : Nat → Int32} {x : BitVec 64} {y : BitVec (wd b)} (hB : isR 64 (B j) x) (hj : j < 8) (hk : 65 < k) (hy : ∀ i, i < wd b → y.getLsbD i = (decide (alk false above (wd b) x < wd b) && decide (i = pick above (wd b) (alk false above (wd b) x)))) : ∃ R f2, mX12_leaves k (bI b) B f (nI j) (bI above) = some (Int64.ofBitVec (y.signExtend 64), R, f2) ∧ putsTo j B R y := by
  have hw := wd_le b
  have hw0 := wd_pos b
  obtain ⟨z, hz⟩ : ∃ z, z = alk false above (wd b) x := ⟨_, rfl⟩
  have hzl : z ≤ wd b := by
    rw [hz]
    have := (fst1_spec (fun i => x.getLsbD (pick above (wd b) i) != false) (wd b) 0).2.1
    simpa [alk] using this
  obtain ⟨f1, e1, a1, a2⟩ := pr_clear (N := 65) (k := k) (f := f) (by omega) (by omega)
  rw [← hz] at hy
  have hal := pr_alike (b := b) (bit := false) (above := above) (k := k) hB hj (by omega)
  rw [← hz] at hal
  have hput : ∀ f2 : Nat → Int32, isR (wd b) f2 y → (if nI (wd b) ≤ nI z then some f1 else (((if bI above = 0 then some (nI z) else ((some (nI (wd b)) : Option Int32).bind (fun r_14 => some ((r_14 - 1) - nI z)))) : Option Int32).bind (fun x_13 => if x_13 < 0 ∨ 65 ≤ x_13.toNatClampNeg then none else some (upd f1 x_13.toNatClampNeg (vp_nar .boolean 1))))) = some f2 → ∃ R f2, mX12_leaves k (bI b) B f (nI j) (bI above) = some (Int64.ofBitVec (y.signExtend 64), R, f2) ∧ putsTo j B R y := by
    intro f2 hf e2
    obtain ⟨R, e3, r2⟩ := pr_puts_sum (k := k) (B := B) hf hj (by omega)
    refine ⟨R, f2, ?_, r2⟩
    rw [mX12_leaves]
    show (mX12_alike k (bI b) B (nI j) (bI false) (bI above)).bind _ = _
    rw [hal]
    simp only [Option.bind_some]
    rw [e1]
    simp only [Option.bind_some]
    rw [pr_bits]
    simp only [Option.bind_some] at e2 ⊢
    rw [e2]
    simp only [Option.bind_some]
    rw [e3]
    rfl
  by_cases hlt : z < wd b
  · have hp : pick above (wd b) z < wd b := pick_lt hlt
    have em : nI (wd b) - 1 - nI z = nI (wd b - 1 - z) := by
      have e9 : nI (wd b) - 1 = nI (wd b - 1) := pk_sub (b := 1) hw0
      rw [e9, pk_sub (by omega)]
    refine hput (upd f1 (pick above (wd b) z) 1) (fun i hi => ?_) ?_
    · rw [hy i hi, decide_eq_true hlt, Bool.true_and]
      by_cases hi2 : i = pick above (wd b) z
      · rw [hi2, pk_us, decide_eq_true rfl]
        rfl
      · rw [pk_un hi2, a1 i (by omega), decide_eq_false hi2]
        rfl
    · have e3 : ((if bI above = 0 then some (nI z) else ((some (nI (wd b)) : Option Int32).bind (fun r_14 => some ((r_14 - 1) - nI z)))) : Option Int32) = some (nI (pick above (wd b) z)) := by
        cases above with
        | false => rfl
        | true =>
          show some (nI (wd b) - 1 - nI z) = _
          rw [em]
          rfl
      rw [if_neg (nI_ge hlt (by omega)), e3]
      simp only [Option.bind_some]
      rw [if_neg (nI_in (by omega) (by omega)), nI_clamp (by omega), nar_1]
  · refine hput f1 (fun i hi => ?_) ?_
    · rw [hy i hi, decide_eq_false hlt, Bool.false_and, a1 i (by omega)]
      rfl
    · rw [if_pos (nI_le (by omega) (by omega))]
