/-! pure: numberOfLeadingZeros -/
theorem nlz_st {v N s r : Nat} {A S M P : Int32} (hv : v < 2 ^ 31) (h : isTop r v) (hb : v < 2 ^ (s + s)) (hs : s < 31) (hsN : s ≤ N) (hrN : r ≤ N) (hA : nI N = A) (hS : ((S.toUInt32 &&& Int32.toUInt32 31).toBitVec % 32).toNat = s) (hM : -nI s = M) (hP : nI (2 ^ s) = P) :
    ∃ N2 v2 r2, ((if nI v < P then some (A, nI v) else ((some (((nI v).toUInt32 >>> (S.toUInt32 &&& Int32.toUInt32 31)).toInt32) : Option Int32).bind (fun x => some ((A + M), x)))) : Option (Int32 × Int32)) = some (nI N2, nI v2) ∧ isTop r2 v2 ∧ v2 < 2 ^ s ∧ v2 < 2 ^ 31 ∧ r2 ≤ N2 ∧ N2 - r2 = N - r ∧ N - s ≤ N2 := by
  subst hA
  have e := nlz_s (N := N) hv hs hsN hS hM hP
  by_cases hc : v < 2 ^ s
  · rw [if_pos hc, if_pos hc] at e
    exact ⟨N, v, r, e, h, hc, hv, hrN, rfl, Nat.sub_le _ _⟩
  · rw [if_neg hc, if_neg hc] at e
    obtain ⟨h1, h2⟩ := top_shift h (Nat.le_of_not_lt hc)
    refine ⟨N - s, v / 2 ^ s, r - s, e, h2, ?_, Nat.lt_of_le_of_lt (Nat.div_le_self _ _) hv, by omega, by omega, Nat.le_refl _⟩
    rw [Nat.div_lt_iff_lt_mul (Nat.two_pow_pos s), ← Nat.pow_add]
    exact hb
theorem top4 {r v : Nat} (h : isTop r v) (h4 : v < 4) : v / 2 = r := by
  have h1 := top_small (s := 2) h h4
  obtain ⟨a, b⟩ := h
  have h2 : r = 0 ∨ r = 1 := by omega
  rcases h2 with h2 | h2
  · subst h2
    have a2 : 1 ≤ v := a
    have b2 : v < 2 := b
    omega
  · subst h2
    have a2 : 2 ≤ v := a
    omega
theorem pr_nlz32 {v r : Nat} (hv : v < 2 ^ 31) (h : isTop r v) : mJ6_numberOfLeadingZeros_0f7a4 (nI v) = some (nI (31 - r)) := by
  have h0 : 0 < v := Nat.lt_of_lt_of_le (Nat.two_pow_pos r) h.1
  have hr := top_small h hv
  rw [mJ6_numberOfLeadingZeros_0f7a4, if_pos (show (0 : Int32) < nI v from nI_lt (a := 0) h0 hv)]
  obtain ⟨N1, v1, r1, e1, t1, a1, b1, c1, d1, f1⟩ := nlz_st (A := 31) (S := 16) (M := -16) (P := 65536) (N := 31) (s := 16) hv h (Nat.lt_trans hv (by decide)) (by decide) (by decide) (by omega) (by decide) (by decide) (by decide) (by decide)
  obtain ⟨N2, v2, r2, e2, t2, a2, b2, c2, d2, f2⟩ := nlz_st (S := 8) (M := -8) (P := 256) (N := N1) (s := 8) b1 t1 a1 (by decide) (by omega) c1 rfl (by decide) (by decide) (by decide)
  obtain ⟨N3, v3, r3, e3, t3, a3, b3, c3, d3, f3⟩ := nlz_st (S := 4) (M := -4) (P := 16) (N := N2) (s := 4) b2 t2 a2 (by decide) (by omega) c2 rfl (by decide) (by decide) (by decide)
  have a4 : v3 < 16 := a3
  have hN3 : 3 ≤ N3 := by omega
  have s2 : ((nI v3).toUInt32 >>> ((2 : Int32).toUInt32 &&& Int32.toUInt32 31)).toInt32 = nI (v3 / 4) := pk_ushrN (by omega) 2 2 (by decide)
  have s1 : ∀ z : Nat, z < 16 → ((nI z).toUInt32 >>> ((1 : Int32).toUInt32 &&& Int32.toUInt32 31)).toInt32 = nI (z / 2) := fun z hz => pk_ushrN (by omega) 1 1 (by decide)
  have eR : 31 - r = N3 - r3 := by omega
  simp only [Option.bind_some] at e1 e2 e3 ⊢
  rw [e1]
  simp only [Option.bind_some]
  rw [e2]
  simp only [Option.bind_some]
  rw [e3]
  simp only [Option.bind_some]
  by_cases h4 : v3 < 4
  · rw [if_pos (show nI v3 < (4 : Int32) from nI_lt (b := 4) h4 (by omega)), s1 _ a4, pk_sub (by rw [top4 t3 h4]; exact c3), top4 t3 h4, eR]
  · have hs2 := top_shift (s := 2) t3 (Nat.le_of_not_lt h4)
    have h5 : v3 / 4 < 4 := by omega
    have h6 : v3 / 4 / 2 = r3 - 2 := top4 hs2.2 h5
    have h7 : nI N3 + (-2) = nI (N3 - 2) := by
      rw [← Int32.sub_eq_add_neg]
      exact pk_sub (b := 2) (by omega)
    rw [if_neg (show ¬ nI v3 < (4 : Int32) from nI_nlt (b := 4) (by omega) (by omega)), s2, s1 _ (by omega), h6, h7, pk_sub (by omega), eR]
    congr 2
    omega
