/-! pure: the JDK's bit methods -/
/-- the place of the highest 1 -/
def isTop (r v : Nat) : Prop := 2 ^ r ≤ v ∧ v < 2 ^ (r + 1)
theorem top_ex : ∀ (n v : Nat), 0 < v → v < 2 ^ n → ∃ r, r < n ∧ isTop r v
  | 0, v, h, h2 => by simp at h2; omega
  | n + 1, v, h, h2 => by
    by_cases h3 : v < 2 ^ n
    · obtain ⟨r, a, b⟩ := top_ex n v h h3
      exact ⟨r, by omega, b⟩
    · exact ⟨n, by omega, by omega, h2⟩
theorem top_shift {r v s : Nat} (h : isTop r v) (hs : 2 ^ s ≤ v) : s ≤ r ∧ isTop (r - s) (v / 2 ^ s) := by
  have h1 : s ≤ r := by
    apply Nat.le_of_not_lt
    intro z
    have h2 : 2 ^ (r + 1) ≤ 2 ^ s := Nat.pow_le_pow_right (by decide) z
    have h3 := h.2
    omega
  refine ⟨h1, ?_, ?_⟩
  · rw [Nat.le_div_iff_mul_le (Nat.two_pow_pos s), ← Nat.pow_add, Nat.sub_add_cancel h1]
    exact h.1
  · rw [Nat.div_lt_iff_lt_mul (Nat.two_pow_pos s), ← Nat.pow_add]
    have e : r - s + 1 + s = r + 1 := by omega
    rw [e]
    exact h.2
theorem top_small {r v s : Nat} (h : isTop r v) (hs : v < 2 ^ s) : r < s := by
  apply Nat.lt_of_not_le
  intro z
  have h2 : 2 ^ s ≤ 2 ^ r := Nat.pow_le_pow_right (by decide) z
  have h3 := h.1
  omega
theorem top_bit {r v : Nat} (h : isTop r v) : v.testBit r = true := by
  rw [Nat.testBit_eq_decide_div_mod_eq]
  have h1 : v / 2 ^ r = 1 := by
    apply Nat.div_eq_of_lt_le
    · rw [Nat.one_mul]
      exact h.1
    · have h2 := h.2
      rw [Nat.pow_succ] at h2
      omega
  rw [h1]
  rfl
theorem top_above {r v q : Nat} (h : isTop r v) (hq : r < q) : v.testBit q = false :=
  Nat.testBit_lt_two_pow (Nat.lt_of_lt_of_le h.2 (Nat.pow_le_pow_right (by decide) hq))
theorem nlz_s {v N s : Nat} {S M P : Int32} (hv : v < 2 ^ 31) (hs : s < 31) (hsN : s ≤ N) (hS : ((S.toUInt32 &&& Int32.toUInt32 31).toBitVec % 32).toNat = s) (hM : -nI s = M) (hP : nI (2 ^ s) = P) : ((if nI v < P then some (nI N, nI v) else ((some (((nI v).toUInt32 >>> (S.toUInt32 &&& Int32.toUInt32 31)).toInt32) : Option Int32).bind (fun x => some ((nI N + M), x)))) : Option (Int32 × Int32)) = some (nI (if v < 2 ^ s then N else N - s), nI (if v < 2 ^ s then v else v / 2 ^ s)) := by
  subst hM
  subst hP
  have hp : 2 ^ s < 2 ^ 31 := Nat.pow_lt_pow_right (by decide) hs
  by_cases h : v < 2 ^ s
  · rw [if_pos (nI_lt h hp), if_pos h, if_pos h]
  · rw [if_neg (nI_nlt (by omega) (by omega)), if_neg h, if_neg h, pk_ushrN (by omega) S s hS]
    simp only [Option.bind_some]
    rw [← Int32.sub_eq_add_neg, pk_sub hsN]
