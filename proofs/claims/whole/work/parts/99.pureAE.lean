/-! pure: programs: a statement other than a loop does alike on both sides (written by p99.py) -/
theorem cell8 : ∀ i, i < 8 → (lN i).toInt32 = nI i := by decide
theorem lN_of {z : BitVec 64} {n : Nat} (hn : n < 1000) (h : z.toInt = n) : Int64.ofBitVec z = lN n := by
  apply Int64.toInt_inj.mp
  rw [lN_toInt (by omega)]
  exact h
theorem ag_cell {tx : Nat → Nat} {len nw w v q : Nat} {pf pt : Int32} {as vs : Nat → Int64} (h : agA tx len nw w v q pf pt as vs) (hL : alet v q = 67) : ∃ i, i < 8 ∧ (as q).toInt32 = nI i ∧ (vs (w + 1 + q)).toInt32 = nI i := by
  obtain ⟨h1, h2, h3⟩ := h.2.2 (by rw [hL]; decide)
  rw [hL] at h1
  have h4 : 0 ≤ (z10 tx len (w + 1 + q)).toInt ∧ (z10 tx len (w + 1 + q)).toInt < 8 := of_decide_eq_true h1
  have h5 := lN_of (z := z10 tx len (w + 1 + q)) (n := (z10 tx len (w + 1 + q)).toInt.toNat) (by omega) (by omega)
  have h6 : (z10 tx len (w + 1 + q)).toInt.toNat < 8 := by omega
  exact ⟨_, h6, by rw [h2, h5, cell8 _ h6], by rw [h3, h5, cell8 _ h6]⟩
theorem ag_same {tx : Nat → Nat} {len nw w v q : Nat} {pf pt : Int32} {as vs : Nat → Int64} (h : agA tx len nw w v q pf pt as vs) (hL : alet v q ≠ 80) : as q = vs (w + 1 + q) := by
  obtain ⟨h1, h2, h3⟩ := h.2.2 hL
  rw [h2, h3]
theorem hd_lt {tx : Nat → Nat} {len nw s w v : Nat} {A : SA} {vs : Nat → Int64} (h : hdA tx len nw A vs s w v) : ∀ q, q ≤ alen v → w + q < nw
  | 0, _ => h.1
  | q + 1, hq => by
    have h1 := hd_lt h q (by omega)
    have h2 := (h.2.2.2.2.2 q (by omega)).1
    have h3 : ¬ w + 1 + q = nw := fun z => h2 (Or.inl z)
    omega
set_option maxHeartbeats 4000000 in
set_option maxRecDepth 100000 in
theorem do_st {tx : Nat → Nat} {len nw k s w v : Nat} {f fr bs es : Nat → Int32} {A : SA} {vs : Nat → Int64} {X : CT} {M : RT} (hf : txR f tx len) (hr : txR fr tx len) (h : wdR tx len nw bs es) (hk : 310 < k) (hd : hdA tx len nw A vs s w v) (hv30 : v ≠ 30) (T : TRR X M) : ∃ ok X2 M2, mX4_carryOut k 300 65 A.1 A.2.2.1 A.2.2.2.1 A.2.2.2.2.2 f (nI len) X.1 X.2.1 X.2.2.1 X.2.2.2.1 X.2.2.2.2 s = some (ok, X2) ∧ mX13_does k M.1 M.2.1 M.2.2.1 M.2.2.2.1 M.2.2.2.2.1 M.2.2.2.2.2.1 M.2.2.2.2.2.2.1 M.2.2.2.2.2.2.2.1 M.2.2.2.2.2.2.2.2.1 M.2.2.2.2.2.2.2.2.2.1 M.2.2.2.2.2.2.2.2.2.2.1 M.2.2.2.2.2.2.2.2.2.2.2 fr bs es vs (nI v) (nI w) = some (ok, M2) ∧ TRR X2 M2 := by
  have hlt := hd_lt hd
  obtain ⟨hw, hv, hnm, hvb, hpl, H⟩ := hd
  have hnl := h.1
  have hl := hf.1
  have hw3 : ∀ q, q ≤ alen v → w + q < 300 := fun q hq => by have := hlt q hq; omega
  obtain ⟨xc, xp, xl, rv, xw⟩ := X
  obtain ⟨mw, B, mp, ml, ds, mn, mi, fd, on, ot, su, re⟩ := M
  obtain ⟨b, c, pn, pg, hC, h1, h2, hB, hp1, h3, h4, hp2⟩ := T
  have h1 : xw = bI b := h1
  have h2 : mw = bI b := h2
  have h3 : xl = nI pn := h3
  have h4 : ml = nI pn := h4
  subst h1 h2 h3 h4
  have hcase : v = 0 ∨ v = 1 ∨ v = 2 ∨ v = 3 ∨ v = 4 ∨ v = 5 ∨ v = 6 ∨ v = 7 ∨ v = 8 ∨ v = 9 ∨ v = 10 ∨ v = 11 ∨ v = 12 ∨ v = 13 ∨ v = 14 ∨ v = 15 ∨ v = 16 ∨ v = 17 ∨ v = 18 ∨ v = 19 ∨ v = 20 ∨ v = 21 ∨ v = 22 ∨ v = 23 ∨ v = 24 ∨ v = 25 ∨ v = 26 ∨ v = 27 ∨ v = 28 ∨ v = 29 := by omega
  rcases hcase with rfl | rfl | rfl | rfl | rfl | rfl | rfl | rfl | rfl | rfl | rfl | rfl | rfl | rfl | rfl | rfl | rfl | rfl | rfl | rfl | rfl | rfl | rfl | rfl | rfl | rfl | rfl | rfl | rfl | rfl
  · exact dv_0 hk hvb hC hB ⟨hp1, hp2⟩
  · exact dv_1 hk hvb hC hB ⟨hp1, hp2⟩
  · obtain ⟨i0, hi0, a0, g0⟩ := ag_cell (H 0 (by decide)) (by decide)
    have a1 := ag_same (H 1 (by decide)) (by decide)
    exact dv_2 hk hvb hC hB ⟨hp1, hp2⟩ hi0 a0 g0 a1 rfl (hw3 2 (by decide))
  · obtain ⟨i0, hi0, a0, g0⟩ := ag_cell (H 0 (by decide)) (by decide)
    have a1 := congrArg Int64.toInt32 (ag_same (H 1 (by decide)) (by decide))
    obtain ⟨p1, p2⟩ := (H 2 (by decide)).2.1 (by decide)
    obtain ⟨p3, p4⟩ := h.2.2.2 (w + 3) (hlt 3 (by decide))
    obtain ⟨p5, p6⟩ := WE_le tx len (w + 3)
    exact dv_3 hk hvb hC hB ⟨hp1, hp2⟩ hi0 a0 g0 a1 rfl p5 p6 hl (fun q hq => (hf.2 q hq).1) (fun q hq => (hr.2 q hq).1) (fun q hq => (hf.2 q hq).2) p1 p2 p3 p4 (hw3 3 (by decide))
  · obtain ⟨i0, hi0, a0, g0⟩ := ag_cell (H 0 (by decide)) (by decide)
    have a1 := congrArg Int64.toInt32 (ag_same (H 1 (by decide)) (by decide))
    obtain ⟨p1, p2⟩ := (H 2 (by decide)).2.1 (by decide)
    obtain ⟨p3, p4⟩ := h.2.2.2 (w + 3) (hlt 3 (by decide))
    obtain ⟨p5, p6⟩ := WE_le tx len (w + 3)
    exact dv_4 hk hvb hC hB ⟨hp1, hp2⟩ hi0 a0 g0 a1 rfl p5 p6 hl (fun q hq => (hf.2 q hq).1) (fun q hq => (hr.2 q hq).1) (fun q hq => (hf.2 q hq).2) p1 p2 p3 p4 (hw3 3 (by decide))
  · obtain ⟨i0, hi0, a0, g0⟩ := ag_cell (H 0 (by decide)) (by decide)
    have a1 := congrArg Int64.toInt32 (ag_same (H 1 (by decide)) (by decide))
    exact dv_5 hk hvb hC hB ⟨hp1, hp2⟩ hi0 a0 g0 a1 rfl (hw3 2 (by decide))
  · obtain ⟨i0, hi0, a0, g0⟩ := ag_cell (H 0 (by decide)) (by decide)
    have a1 := congrArg Int64.toInt32 (ag_same (H 1 (by decide)) (by decide))
    exact dv_6 hk hvb hC hB ⟨hp1, hp2⟩ hi0 a0 g0 a1 rfl (hw3 2 (by decide))
  · obtain ⟨i0, hi0, a0, g0⟩ := ag_cell (H 0 (by decide)) (by decide)
    have a1 := congrArg Int64.toInt32 (ag_same (H 1 (by decide)) (by decide))
    exact dv_7 hk hvb hC hB ⟨hp1, hp2⟩ hi0 a0 g0 a1 rfl (hw3 2 (by decide))
  · obtain ⟨i0, hi0, a0, g0⟩ := ag_cell (H 0 (by decide)) (by decide)
    have a1 := congrArg Int64.toInt32 (ag_same (H 1 (by decide)) (by decide))
    exact dv_8 hk hvb hC hB ⟨hp1, hp2⟩ hi0 a0 g0 a1 rfl (hw3 2 (by decide))
  · obtain ⟨i0, hi0, a0, g0⟩ := ag_cell (H 0 (by decide)) (by decide)
    exact dv_9 hk hvb hC hB ⟨hp1, hp2⟩ hi0 a0 g0 (hw3 1 (by decide))
  · obtain ⟨i0, hi0, a0, g0⟩ := ag_cell (H 0 (by decide)) (by decide)
    exact dv_10 hk hvb hC hB ⟨hp1, hp2⟩ hi0 a0 g0 (hw3 1 (by decide))
  · obtain ⟨i0, hi0, a0, g0⟩ := ag_cell (H 0 (by decide)) (by decide)
    exact dv_11 hk hvb hC hB ⟨hp1, hp2⟩ hi0 a0 g0 (hw3 1 (by decide))
  · obtain ⟨i0, hi0, a0, g0⟩ := ag_cell (H 0 (by decide)) (by decide)
    exact dv_12 hk hvb hC hB ⟨hp1, hp2⟩ hi0 a0 g0 (hw3 1 (by decide))
  · obtain ⟨i0, hi0, a0, g0⟩ := ag_cell (H 0 (by decide)) (by decide)
    exact dv_13 hk hvb hC hB ⟨hp1, hp2⟩ hi0 a0 g0 (hw3 1 (by decide))
  · obtain ⟨i0, hi0, a0, g0⟩ := ag_cell (H 0 (by decide)) (by decide)
    obtain ⟨i1, hi1, a1, g1⟩ := ag_cell (H 1 (by decide)) (by decide)
    exact dv_14 hk hvb hC hB ⟨hp1, hp2⟩ hi0 a0 g0 hi1 a1 g1 (hw3 2 (by decide))
  · obtain ⟨i0, hi0, a0, g0⟩ := ag_cell (H 0 (by decide)) (by decide)
    obtain ⟨i1, hi1, a1, g1⟩ := ag_cell (H 1 (by decide)) (by decide)
    exact dv_15 hk hvb hC hB ⟨hp1, hp2⟩ hi0 a0 g0 hi1 a1 g1 (hw3 2 (by decide))
  · obtain ⟨i0, hi0, a0, g0⟩ := ag_cell (H 0 (by decide)) (by decide)
    obtain ⟨i1, hi1, a1, g1⟩ := ag_cell (H 1 (by decide)) (by decide)
    exact dv_16 hk hvb hC hB ⟨hp1, hp2⟩ hi0 a0 g0 hi1 a1 g1 (hw3 2 (by decide))
  · obtain ⟨i0, hi0, a0, g0⟩ := ag_cell (H 0 (by decide)) (by decide)
    obtain ⟨i1, hi1, a1, g1⟩ := ag_cell (H 1 (by decide)) (by decide)
    exact dv_17 hk hvb hC hB ⟨hp1, hp2⟩ hi0 a0 g0 hi1 a1 g1 (hw3 2 (by decide))
  · obtain ⟨i0, hi0, a0, g0⟩ := ag_cell (H 0 (by decide)) (by decide)
    obtain ⟨i1, hi1, a1, g1⟩ := ag_cell (H 1 (by decide)) (by decide)
    exact dv_18 hk hvb hC hB ⟨hp1, hp2⟩ hi0 a0 g0 hi1 a1 g1 (hw3 2 (by decide))
  · obtain ⟨i0, hi0, a0, g0⟩ := ag_cell (H 0 (by decide)) (by decide)
    obtain ⟨i1, hi1, a1, g1⟩ := ag_cell (H 1 (by decide)) (by decide)
    exact dv_19 hk hvb hC hB ⟨hp1, hp2⟩ hi0 a0 g0 hi1 a1 g1 (hw3 2 (by decide))
  · obtain ⟨i0, hi0, a0, g0⟩ := ag_cell (H 0 (by decide)) (by decide)
    obtain ⟨i1, hi1, a1, g1⟩ := ag_cell (H 1 (by decide)) (by decide)
    exact dv_20 hk hvb hC hB ⟨hp1, hp2⟩ hi0 a0 g0 hi1 a1 g1 (hw3 2 (by decide))
  · obtain ⟨i0, hi0, a0, g0⟩ := ag_cell (H 0 (by decide)) (by decide)
    obtain ⟨i1, hi1, a1, g1⟩ := ag_cell (H 1 (by decide)) (by decide)
    exact dv_21 hk hvb hC hB ⟨hp1, hp2⟩ hi0 a0 g0 hi1 a1 g1 (hw3 2 (by decide))
  · obtain ⟨i0, hi0, a0, g0⟩ := ag_cell (H 0 (by decide)) (by decide)
    obtain ⟨i1, hi1, a1, g1⟩ := ag_cell (H 1 (by decide)) (by decide)
    exact dv_22 hk hvb hC hB ⟨hp1, hp2⟩ hi0 a0 g0 hi1 a1 g1 (hw3 2 (by decide))
  · obtain ⟨i0, hi0, a0, g0⟩ := ag_cell (H 0 (by decide)) (by decide)
    obtain ⟨i1, hi1, a1, g1⟩ := ag_cell (H 1 (by decide)) (by decide)
    exact dv_23 hk hvb hC hB ⟨hp1, hp2⟩ hi0 a0 g0 hi1 a1 g1 (hw3 2 (by decide))
  · obtain ⟨i0, hi0, a0, g0⟩ := ag_cell (H 0 (by decide)) (by decide)
    obtain ⟨i1, hi1, a1, g1⟩ := ag_cell (H 1 (by decide)) (by decide)
    exact dv_24 hk hvb hC hB ⟨hp1, hp2⟩ hi0 a0 g0 hi1 a1 g1 (hw3 2 (by decide))
  · obtain ⟨i0, hi0, a0, g0⟩ := ag_cell (H 0 (by decide)) (by decide)
    obtain ⟨i1, hi1, a1, g1⟩ := ag_cell (H 1 (by decide)) (by decide)
    exact dv_25 hk hvb hC hB ⟨hp1, hp2⟩ hi0 a0 g0 hi1 a1 g1 (hw3 2 (by decide))
  · obtain ⟨i0, hi0, a0, g0⟩ := ag_cell (H 0 (by decide)) (by decide)
    obtain ⟨i1, hi1, a1, g1⟩ := ag_cell (H 1 (by decide)) (by decide)
    obtain ⟨i2, hi2, a2, g2⟩ := ag_cell (H 2 (by decide)) (by decide)
    exact dv_26 hk hvb hC hB ⟨hp1, hp2⟩ hi0 a0 g0 hi1 a1 g1 hi2 a2 g2 (hw3 3 (by decide))
  · obtain ⟨i0, hi0, a0, g0⟩ := ag_cell (H 0 (by decide)) (by decide)
    obtain ⟨i1, hi1, a1, g1⟩ := ag_cell (H 1 (by decide)) (by decide)
    obtain ⟨i2, hi2, a2, g2⟩ := ag_cell (H 2 (by decide)) (by decide)
    exact dv_27 hk hvb hC hB ⟨hp1, hp2⟩ hi0 a0 g0 hi1 a1 g1 hi2 a2 g2 (hw3 3 (by decide))
  · obtain ⟨i0, hi0, a0, g0⟩ := ag_cell (H 0 (by decide)) (by decide)
    obtain ⟨i1, hi1, a1, g1⟩ := ag_cell (H 1 (by decide)) (by decide)
    obtain ⟨i2, hi2, a2, g2⟩ := ag_cell (H 2 (by decide)) (by decide)
    exact dv_28 hk hvb hC hB ⟨hp1, hp2⟩ hi0 a0 g0 hi1 a1 g1 hi2 a2 g2 (hw3 3 (by decide))
  · obtain ⟨i0, hi0, a0, g0⟩ := ag_cell (H 0 (by decide)) (by decide)
    obtain ⟨i1, hi1, a1, g1⟩ := ag_cell (H 1 (by decide)) (by decide)
    obtain ⟨i2, hi2, a2, g2⟩ := ag_cell (H 2 (by decide)) (by decide)
    exact dv_29 hk hvb hC hB ⟨hp1, hp2⟩ hi0 a0 g0 hi1 a1 g1 hi2 a2 g2 (hw3 3 (by decide))
