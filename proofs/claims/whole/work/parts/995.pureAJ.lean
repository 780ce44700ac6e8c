/-! pure: the first state, and every call of the law (written by p995.py) -/
theorem inv_0 (wt : Nat) (rw : Nat → Nat) : Inv (x0 wt) (m0 rw) (fun _ => 0) := by
  refine ⟨false, fun _ => 0, 0, fun _ => 0, 0, fun _ => 0, fun j _ => (by decide : (0 : Int64) = Int64.ofBitVec 0), rfl, rfl, fun j _ t _ => ?_, ⟨Nat.zero_le _, nI_0.symm, nI_0.symm, fun i hi => absurd hi (Nat.not_lt_zero i)⟩, ⟨Nat.zero_le _, nI_0.symm, nI_0.symm, fun i hi => absurd hi (Nat.not_lt_zero i)⟩⟩
  show (0 : Int32) = bI ((0#64).getLsbD t)
  rw [BitVec.getLsbD_zero]
  rfl
set_option maxHeartbeats 4000000 in
set_option maxRecDepth 100000 in
theorem hstep_all {L j : Nat} {xs : Nat → Int32} {ax : Nat → Nat} {x : XS} {m : MS} {o : Nat → Int64} (hL : j + 6 ≤ L) (hL2 : L ≤ 3072) (h : Inv x m o) (c : Nat) : ∃ R, mStep c 1000 xs L (nI j) ax x m o = some R ∧ Inv R.1 R.2.1 R.2.2 := by
  by_cases h0 : c = 0
  · subst h0
    exact hs_0 (k := 1000) (L := L) (j := j) (xs := xs) (ax := ax) (Nat.le_refl _) hL hL2 h
  by_cases h1 : c = 1
  · subst h1
    exact hs_1 (k := 1000) (L := L) (j := j) (xs := xs) (ax := ax) (Nat.le_refl _) hL hL2 h
  by_cases h2 : c = 2
  · subst h2
    exact hs_2 (k := 1000) (L := L) (j := j) (xs := xs) (ax := ax) (Nat.le_refl _) hL hL2 h
  by_cases h3 : c = 3
  · subst h3
    exact hs_3 (k := 1000) (L := L) (j := j) (xs := xs) (ax := ax) (Nat.le_refl _) hL hL2 h
  by_cases h4 : c = 4
  · subst h4
    exact hs_4 (k := 1000) (L := L) (j := j) (xs := xs) (ax := ax) (Nat.le_refl _) hL hL2 h
  by_cases h5 : c = 5
  · subst h5
    exact hs_5 (k := 1000) (L := L) (j := j) (xs := xs) (ax := ax) (Nat.le_refl _) hL hL2 h
  by_cases h6 : c = 6
  · subst h6
    exact hs_6 (k := 1000) (L := L) (j := j) (xs := xs) (ax := ax) (Nat.le_refl _) hL hL2 h
  by_cases h7 : c = 7
  · subst h7
    exact hs_7 (k := 1000) (L := L) (j := j) (xs := xs) (ax := ax) (Nat.le_refl _) hL hL2 h
  by_cases h8 : c = 8
  · subst h8
    exact hs_8 (k := 1000) (L := L) (j := j) (xs := xs) (ax := ax) (Nat.le_refl _) hL hL2 h
  by_cases h9 : c = 9
  · subst h9
    exact hs_9 (k := 1000) (L := L) (j := j) (xs := xs) (ax := ax) (Nat.le_refl _) hL hL2 h
  by_cases h10 : c = 10
  · subst h10
    exact hs_10 (k := 1000) (L := L) (j := j) (xs := xs) (ax := ax) (Nat.le_refl _) hL hL2 h
  by_cases h11 : c = 11
  · subst h11
    exact hs_11 (k := 1000) (L := L) (j := j) (xs := xs) (ax := ax) (Nat.le_refl _) hL hL2 h
  by_cases h12 : c = 12
  · subst h12
    exact hs_12 (k := 1000) (L := L) (j := j) (xs := xs) (ax := ax) (Nat.le_refl _) hL hL2 h
  by_cases h13 : c = 13
  · subst h13
    exact hs_13 (k := 1000) (L := L) (j := j) (xs := xs) (ax := ax) (Nat.le_refl _) hL hL2 h
  by_cases h14 : c = 14
  · subst h14
    exact hs_14 (k := 1000) (L := L) (j := j) (xs := xs) (ax := ax) (Nat.le_refl _) hL hL2 h
  by_cases h15 : c = 15
  · subst h15
    exact hs_15 (k := 1000) (L := L) (j := j) (xs := xs) (ax := ax) (Nat.le_refl _) hL hL2 h
  by_cases h16 : c = 16
  · subst h16
    exact hs_16 (k := 1000) (L := L) (j := j) (xs := xs) (ax := ax) (Nat.le_refl _) hL hL2 h
  by_cases h17 : c = 17
  · subst h17
    exact hs_17 (k := 1000) (L := L) (j := j) (xs := xs) (ax := ax) (Nat.le_refl _) hL hL2 h
  by_cases h18 : c = 18
  · subst h18
    exact hs_18 (k := 1000) (L := L) (j := j) (xs := xs) (ax := ax) (Nat.le_refl _) hL hL2 h
  by_cases h19 : c = 19
  · subst h19
    exact hs_19 (k := 1000) (L := L) (j := j) (xs := xs) (ax := ax) (Nat.le_refl _) hL hL2 h
  by_cases h20 : c = 20
  · subst h20
    exact hs_20 (k := 1000) (L := L) (j := j) (xs := xs) (ax := ax) (Nat.le_refl _) hL hL2 h
  by_cases h21 : c = 21
  · subst h21
    exact hs_21 (k := 1000) (L := L) (j := j) (xs := xs) (ax := ax) (Nat.le_refl _) hL hL2 h
  by_cases h22 : c = 22
  · subst h22
    exact hs_22 (k := 1000) (L := L) (j := j) (xs := xs) (ax := ax) (Nat.le_refl _) hL hL2 h
  by_cases h23 : c = 23
  · subst h23
    exact hs_23 (k := 1000) (L := L) (j := j) (xs := xs) (ax := ax) (Nat.le_refl _) hL hL2 h
  by_cases h24 : c = 24
  · subst h24
    exact hs_24 (k := 1000) (L := L) (j := j) (xs := xs) (ax := ax) (Nat.le_refl _) hL hL2 h
  by_cases h25 : c = 25
  · subst h25
    exact hs_25 (k := 1000) (L := L) (j := j) (xs := xs) (ax := ax) (Nat.le_refl _) hL hL2 h
  by_cases h26 : c = 26
  · subst h26
    exact hs_26 (k := 1000) (L := L) (j := j) (xs := xs) (ax := ax) (Nat.le_refl _) hL hL2 h
  by_cases h27 : c = 27
  · subst h27
    exact hs_27 (k := 1000) (L := L) (j := j) (xs := xs) (ax := ax) (Nat.le_refl _) hL hL2 h
  by_cases h28 : c = 28
  · subst h28
    exact hs_28 (k := 1000) (L := L) (j := j) (xs := xs) (ax := ax) (Nat.le_refl _) hL hL2 h
  by_cases h29 : c = 29
  · subst h29
    exact hs_29 (k := 1000) (L := L) (j := j) (xs := xs) (ax := ax) (Nat.le_refl _) hL hL2 h
  by_cases h30 : c = 30
  · subst h30
    exact hs_30 (k := 1000) (L := L) (j := j) (xs := xs) (ax := ax) (Nat.le_refl _) hL hL2 h
  by_cases h31 : c = 31
  · subst h31
    exact hs_31 (k := 1000) (L := L) (j := j) (xs := xs) (ax := ax) (Nat.le_refl _) hL hL2 h
  by_cases h32 : c = 32
  · subst h32
    exact hs_32 (k := 1000) (L := L) (j := j) (xs := xs) (ax := ax) (Nat.le_refl _) hL hL2 h
  by_cases h33 : c = 33
  · subst h33
    exact hs_33 (k := 1000) (L := L) (j := j) (xs := xs) (ax := ax) (Nat.le_refl _) hL hL2 h
  by_cases h34 : c = 34
  · subst h34
    exact hs_34 (k := 1000) (L := L) (j := j) (xs := xs) (ax := ax) (Nat.le_refl _) hL hL2 h
  by_cases h35 : c = 35
  · subst h35
    exact hs_35 (k := 1000) (L := L) (j := j) (xs := xs) (ax := ax) (Nat.le_refl _) hL hL2 h
  by_cases h36 : c = 36
  · subst h36
    exact hs_36 (k := 1000) (L := L) (j := j) (xs := xs) (ax := ax) (Nat.le_refl _) hL hL2 h
  by_cases h37 : c = 37
  · subst h37
    exact hs_37 (k := 1000) (L := L) (j := j) (xs := xs) (ax := ax) (Nat.le_refl _) hL hL2 h
  by_cases h38 : c = 38
  · subst h38
    exact hs_38 (L := L) (j := j) (xs := xs) (ax := ax) hL hL2 h
  by_cases h39 : c = 39
  · subst h39
    exact hs_39 (L := L) (j := j) (xs := xs) (ax := ax) hL hL2 h
  by_cases h40 : c = 40
  · subst h40
    exact hs_40 (L := L) (j := j) (xs := xs) (ax := ax) hL hL2 h
  by_cases h41 : c = 41
  · subst h41
    exact hs_41 (k := 1000) (L := L) (j := j) (xs := xs) (ax := ax) (Nat.le_refl _) hL hL2 h
  by_cases h42 : c = 42
  · subst h42
    exact hs_42 (k := 1000) (L := L) (j := j) (xs := xs) (ax := ax) (Nat.le_refl _) hL hL2 h
  by_cases h43 : c = 43
  · subst h43
    exact hs_43 (k := 1000) (L := L) (j := j) (xs := xs) (ax := ax) (Nat.le_refl _) hL hL2 h
  obtain ⟨q, rfl⟩ : ∃ q, c = q + 44 := ⟨c - 44, by omega⟩
  exact ⟨(x, m, o), rfl, h⟩
