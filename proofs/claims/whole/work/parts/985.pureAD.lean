/-! pure: programs: divide (written by p98.py) -/
set_option maxHeartbeats 4000000 in
set_option maxRecDepth 100000 in
theorem dv_26 {k s w len : Nat} {vb : Nat → Nat} {pf pt f fr bs es : Nat → Int32} {ar : Nat → Nat → Int64} {vs : Nat → Int64} {b : Bool} {c : Nat → BitVec 64} {pn : Nat} {pg : Nat → Nat} {xc : Nat → Int64} {xp : Nat → Int32} {rv : Int64} {B : Nat → Nat → Int32} {mp ds fd on ot su re : Nat → Int32} {mn mi : Int32} (hk : 310 < k) (hvb : vb s = 26) (hC : isC xc c) (hB : isB B c) (hp : pn ≤ 65 ∧ ∀ i, i < pn → xp i = nI (pg i) ∧ mp i = nI (pg i) ∧ 0 < pg i ∧ pg i < 256) {i : Nat} (hi : i < 8) (a1 : (ar s 0).toInt32 = nI i) (g1 : (vs (w + 1)).toInt32 = nI i) {q : Nat} (hq : q < 8) (a2 : (ar s 1).toInt32 = nI q) (g2 : (vs (w + 2)).toInt32 = nI q) {r : Nat} (hr : r < 8) (a3 : (ar s 2).toInt32 = nI r) (g3 : (vs (w + 3)).toInt32 = nI r) (hw : w + 3 < 300) : ∃ ok X2 M2, mX4_carryOut k 300 65 vb pf pt ar f (nI len) xc xp (nI pn) rv (bI b) s = some (ok, X2) ∧ mX13_does k (bI b) B mp (nI pn) ds mn mi fd on ot su re fr bs es vs (nI 26) (nI w) = some (ok, M2) ∧ TRR X2 M2 := by
  by_cases h0 : (c q).setWidth (wd b) = 0#(wd b)
  · have e5' : mX2_divideInto xc (bI b) (nI i) (nI q) (nI r) 0 = some (0, xc) := pr_divideInto0 (p := false) (nI r) hC hi hq h0
    have e6' : mX12_divides k (bI b) B on ot su re (nI i) (nI q) (nI r) 0 = some (0, B, on, ot, su, re) := pr_divides0 (p := false) hB hq (by omega) h0
    have eC : mX4_carryOut k 300 65 vb pf pt ar f (nI len) xc xp (nI pn) rv (bI b) s = some (0, xc, xp, nI pn, rv, bI b) := by
      rw [mX4_carryOut, sm0, Option.bind_some, sm1, Option.bind_some, sm2, Option.bind_some]
      rw [hvb, if_neg (show ¬ 31 ≤ 26 by decide), if_neg (show ¬ (nI 26 < 0 ∨ 31 ≤ (nI 26).toNatClampNeg) by decide), show swI (nI 26).toNatClampNeg = 11 from by decide, if_neg (show ¬ (11 : Int32) = 1 by decide), if_neg (show ¬ (11 : Int32) = 2 by decide), if_neg (show ¬ (11 : Int32) = 3 by decide), if_neg (show ¬ (11 : Int32) = 4 by decide), if_neg (show ¬ (11 : Int32) = 5 by decide), if_neg (show ¬ (11 : Int32) = 6 by decide), if_neg (show ¬ (11 : Int32) = 7 by decide), if_neg (show ¬ (11 : Int32) = 8 by decide), if_neg (show ¬ (11 : Int32) = 9 by decide), if_neg (show ¬ (11 : Int32) = 10 by decide), if_pos (show (11 : Int32) = 11 from rfl), a1, a2, a3, e5', Option.bind_some, if_neg (show ¬ ¬ ((0 : Int32) = 0 ∨ (0 : Int32) = 1) by decide)]
    have eR : mX13_does k (bI b) B mp (nI pn) ds mn mi fd on ot su re fr bs es vs (nI 26) (nI w) = some (0, bI b, B, mp, nI pn, ds, mn, mi, fd, on, ot, su, re) := by
      rw [mX13_does, if_neg (show ¬ nI 26 = 0 by decide), if_neg (show ¬ nI 26 = 1 by decide), ce1 (by omega), Option.bind_some, g1]
      rw [show mX13_in (nI 26) 2 8 = some 0 from by decide, Option.bind_some, if_pos (show (0 : Int32) = 0 from rfl)]
      rw [show mX13_in (nI 26) 9 13 = some 0 from by decide, Option.bind_some, if_pos (show (0 : Int32) = 0 from rfl)]
      rw [ce2 (by omega), Option.bind_some, g2]
      rw [show mX13_in (nI 26) 26 27 = some 1 from by decide, Option.bind_some, if_neg (show ¬ (1 : Int32) = 0 by decide)]
      rw [ce3 hw, Option.bind_some, g3, if_neg (show ¬ nI 26 = 27 by decide), Option.bind_some, e6', Option.bind_some, if_neg (show ¬ ¬ ((0 : Int32) = 0 ∨ (0 : Int32) = 1) by decide)]
    exact ⟨_, (xc, xp, nI pn, rv, bI b), (bI b, B, mp, nI pn, ds, mn, mi, fd, on, ot, su, re), eC, eR, ⟨b, _, _, _, hC, rfl, rfl, hB, hp.1, rfl, rfl, hp.2⟩⟩
  · obtain ⟨f2, e5, hC2⟩ := pr_divideInto (p := false) hC hi hq hr h0
    obtain ⟨B2, u1, u2, u3, u4, e6, hB2⟩ := pr_divides (p := false) (k := k) (one := on) (other := ot) (sum := su) (rest := re) hB hi hq hr (by omega) h0
    have e5' : mX2_divideInto xc (bI b) (nI i) (nI q) (nI r) 0 = some (1, f2) := e5
    have e6' : mX12_divides k (bI b) B on ot su re (nI i) (nI q) (nI r) 0 = some (1, B2, u1, u2, u3, u4) := e6
    have eC : mX4_carryOut k 300 65 vb pf pt ar f (nI len) xc xp (nI pn) rv (bI b) s = some (1, f2, xp, nI pn, rv, bI b) := by
      rw [mX4_carryOut, sm0, Option.bind_some, sm1, Option.bind_some, sm2, Option.bind_some]
      rw [hvb, if_neg (show ¬ 31 ≤ 26 by decide), if_neg (show ¬ (nI 26 < 0 ∨ 31 ≤ (nI 26).toNatClampNeg) by decide), show swI (nI 26).toNatClampNeg = 11 from by decide, if_neg (show ¬ (11 : Int32) = 1 by decide), if_neg (show ¬ (11 : Int32) = 2 by decide), if_neg (show ¬ (11 : Int32) = 3 by decide), if_neg (show ¬ (11 : Int32) = 4 by decide), if_neg (show ¬ (11 : Int32) = 5 by decide), if_neg (show ¬ (11 : Int32) = 6 by decide), if_neg (show ¬ (11 : Int32) = 7 by decide), if_neg (show ¬ (11 : Int32) = 8 by decide), if_neg (show ¬ (11 : Int32) = 9 by decide), if_neg (show ¬ (11 : Int32) = 10 by decide), if_pos (show (11 : Int32) = 11 from rfl), a1, a2, a3, e5', Option.bind_some, if_neg (show ¬ ¬ ((1 : Int32) = 0 ∨ (1 : Int32) = 1) by decide)]
    have eR : mX13_does k (bI b) B mp (nI pn) ds mn mi fd on ot su re fr bs es vs (nI 26) (nI w) = some (1, bI b, B2, mp, nI pn, ds, mn, mi, fd, u1, u2, u3, u4) := by
      rw [mX13_does, if_neg (show ¬ nI 26 = 0 by decide), if_neg (show ¬ nI 26 = 1 by decide), ce1 (by omega), Option.bind_some, g1]
      rw [show mX13_in (nI 26) 2 8 = some 0 from by decide, Option.bind_some, if_pos (show (0 : Int32) = 0 from rfl)]
      rw [show mX13_in (nI 26) 9 13 = some 0 from by decide, Option.bind_some, if_pos (show (0 : Int32) = 0 from rfl)]
      rw [ce2 (by omega), Option.bind_some, g2]
      rw [show mX13_in (nI 26) 26 27 = some 1 from by decide, Option.bind_some, if_neg (show ¬ (1 : Int32) = 0 by decide)]
      rw [ce3 hw, Option.bind_some, g3, if_neg (show ¬ nI 26 = 27 by decide), Option.bind_some, e6', Option.bind_some, if_neg (show ¬ ¬ ((1 : Int32) = 0 ∨ (1 : Int32) = 1) by decide)]
    exact ⟨_, (f2, xp, nI pn, rv, bI b), (bI b, B2, mp, nI pn, ds, mn, mi, fd, u1, u2, u3, u4), eC, eR, ⟨b, _, _, _, hC2, rfl, rfl, hB2, hp.1, rfl, rfl, hp.2⟩⟩
set_option maxHeartbeats 4000000 in
set_option maxRecDepth 100000 in
theorem dv_27 {k s w len : Nat} {vb : Nat → Nat} {pf pt f fr bs es : Nat → Int32} {ar : Nat → Nat → Int64} {vs : Nat → Int64} {b : Bool} {c : Nat → BitVec 64} {pn : Nat} {pg : Nat → Nat} {xc : Nat → Int64} {xp : Nat → Int32} {rv : Int64} {B : Nat → Nat → Int32} {mp ds fd on ot su re : Nat → Int32} {mn mi : Int32} (hk : 310 < k) (hvb : vb s = 27) (hC : isC xc c) (hB : isB B c) (hp : pn ≤ 65 ∧ ∀ i, i < pn → xp i = nI (pg i) ∧ mp i = nI (pg i) ∧ 0 < pg i ∧ pg i < 256) {i : Nat} (hi : i < 8) (a1 : (ar s 0).toInt32 = nI i) (g1 : (vs (w + 1)).toInt32 = nI i) {q : Nat} (hq : q < 8) (a2 : (ar s 1).toInt32 = nI q) (g2 : (vs (w + 2)).toInt32 = nI q) {r : Nat} (hr : r < 8) (a3 : (ar s 2).toInt32 = nI r) (g3 : (vs (w + 3)).toInt32 = nI r) (hw : w + 3 < 300) : ∃ ok X2 M2, mX4_carryOut k 300 65 vb pf pt ar f (nI len) xc xp (nI pn) rv (bI b) s = some (ok, X2) ∧ mX13_does k (bI b) B mp (nI pn) ds mn mi fd on ot su re fr bs es vs (nI 27) (nI w) = some (ok, M2) ∧ TRR X2 M2 := by
  by_cases h0 : (c q).setWidth (wd b) = 0#(wd b)
  · have e5' : mX2_divideInto xc (bI b) (nI i) (nI q) (nI r) 1 = some (0, xc) := pr_divideInto0 (p := true) (nI r) hC hi hq h0
    have e6' : mX12_divides k (bI b) B on ot su re (nI i) (nI q) (nI r) 1 = some (0, B, on, ot, su, re) := pr_divides0 (p := true) hB hq (by omega) h0
    have eC : mX4_carryOut k 300 65 vb pf pt ar f (nI len) xc xp (nI pn) rv (bI b) s = some (0, xc, xp, nI pn, rv, bI b) := by
      rw [mX4_carryOut, sm0, Option.bind_some, sm1, Option.bind_some, sm2, Option.bind_some]
      rw [hvb, if_neg (show ¬ 31 ≤ 27 by decide), if_neg (show ¬ (nI 27 < 0 ∨ 31 ≤ (nI 27).toNatClampNeg) by decide), show swI (nI 27).toNatClampNeg = 12 from by decide, if_neg (show ¬ (12 : Int32) = 1 by decide), if_neg (show ¬ (12 : Int32) = 2 by decide), if_neg (show ¬ (12 : Int32) = 3 by decide), if_neg (show ¬ (12 : Int32) = 4 by decide), if_neg (show ¬ (12 : Int32) = 5 by decide), if_neg (show ¬ (12 : Int32) = 6 by decide), if_neg (show ¬ (12 : Int32) = 7 by decide), if_neg (show ¬ (12 : Int32) = 8 by decide), if_neg (show ¬ (12 : Int32) = 9 by decide), if_neg (show ¬ (12 : Int32) = 10 by decide), if_neg (show ¬ (12 : Int32) = 11 by decide), if_pos (show (12 : Int32) = 12 from rfl), a1, a2, a3, e5', Option.bind_some, if_neg (show ¬ ¬ ((0 : Int32) = 0 ∨ (0 : Int32) = 1) by decide)]
    have eR : mX13_does k (bI b) B mp (nI pn) ds mn mi fd on ot su re fr bs es vs (nI 27) (nI w) = some (0, bI b, B, mp, nI pn, ds, mn, mi, fd, on, ot, su, re) := by
      rw [mX13_does, if_neg (show ¬ nI 27 = 0 by decide), if_neg (show ¬ nI 27 = 1 by decide), ce1 (by omega), Option.bind_some, g1]
      rw [show mX13_in (nI 27) 2 8 = some 0 from by decide, Option.bind_some, if_pos (show (0 : Int32) = 0 from rfl)]
      rw [show mX13_in (nI 27) 9 13 = some 0 from by decide, Option.bind_some, if_pos (show (0 : Int32) = 0 from rfl)]
      rw [ce2 (by omega), Option.bind_some, g2]
      rw [show mX13_in (nI 27) 26 27 = some 1 from by decide, Option.bind_some, if_neg (show ¬ (1 : Int32) = 0 by decide)]
      rw [ce3 hw, Option.bind_some, g3, if_pos (show nI 27 = 27 from rfl), Option.bind_some, e6', Option.bind_some, if_neg (show ¬ ¬ ((0 : Int32) = 0 ∨ (0 : Int32) = 1) by decide)]
    exact ⟨_, (xc, xp, nI pn, rv, bI b), (bI b, B, mp, nI pn, ds, mn, mi, fd, on, ot, su, re), eC, eR, ⟨b, _, _, _, hC, rfl, rfl, hB, hp.1, rfl, rfl, hp.2⟩⟩
  · obtain ⟨f2, e5, hC2⟩ := pr_divideInto (p := true) hC hi hq hr h0
    obtain ⟨B2, u1, u2, u3, u4, e6, hB2⟩ := pr_divides (p := true) (k := k) (one := on) (other := ot) (sum := su) (rest := re) hB hi hq hr (by omega) h0
    have e5' : mX2_divideInto xc (bI b) (nI i) (nI q) (nI r) 1 = some (1, f2) := e5
    have e6' : mX12_divides k (bI b) B on ot su re (nI i) (nI q) (nI r) 1 = some (1, B2, u1, u2, u3, u4) := e6
    have eC : mX4_carryOut k 300 65 vb pf pt ar f (nI len) xc xp (nI pn) rv (bI b) s = some (1, f2, xp, nI pn, rv, bI b) := by
      rw [mX4_carryOut, sm0, Option.bind_some, sm1, Option.bind_some, sm2, Option.bind_some]
      rw [hvb, if_neg (show ¬ 31 ≤ 27 by decide), if_neg (show ¬ (nI 27 < 0 ∨ 31 ≤ (nI 27).toNatClampNeg) by decide), show swI (nI 27).toNatClampNeg = 12 from by decide, if_neg (show ¬ (12 : Int32) = 1 by decide), if_neg (show ¬ (12 : Int32) = 2 by decide), if_neg (show ¬ (12 : Int32) = 3 by decide), if_neg (show ¬ (12 : Int32) = 4 by decide), if_neg (show ¬ (12 : Int32) = 5 by decide), if_neg (show ¬ (12 : Int32) = 6 by decide), if_neg (show ¬ (12 : Int32) = 7 by decide), if_neg (show ¬ (12 : Int32) = 8 by decide), if_neg (show ¬ (12 : Int32) = 9 by decide), if_neg (show ¬ (12 : Int32) = 10 by decide), if_neg (show ¬ (12 : Int32) = 11 by decide), if_pos (show (12 : Int32) = 12 from rfl), a1, a2, a3, e5', Option.bind_some, if_neg (show ¬ ¬ ((1 : Int32) = 0 ∨ (1 : Int32) = 1) by decide)]
    have eR : mX13_does k (bI b) B mp (nI pn) ds mn mi fd on ot su re fr bs es vs (nI 27) (nI w) = some (1, bI b, B2, mp, nI pn, ds, mn, mi, fd, u1, u2, u3, u4) := by
      rw [mX13_does, if_neg (show ¬ nI 27 = 0 by decide), if_neg (show ¬ nI 27 = 1 by decide), ce1 (by omega), Option.bind_some, g1]
      rw [show mX13_in (nI 27) 2 8 = some 0 from by decide, Option.bind_some, if_pos (show (0 : Int32) = 0 from rfl)]
      rw [show mX13_in (nI 27) 9 13 = some 0 from by decide, Option.bind_some, if_pos (show (0 : Int32) = 0 from rfl)]
      rw [ce2 (by omega), Option.bind_some, g2]
      rw [show mX13_in (nI 27) 26 27 = some 1 from by decide, Option.bind_some, if_neg (show ¬ (1 : Int32) = 0 by decide)]
      rw [ce3 hw, Option.bind_some, g3, if_pos (show nI 27 = 27 from rfl), Option.bind_some, e6', Option.bind_some, if_neg (show ¬ ¬ ((1 : Int32) = 0 ∨ (1 : Int32) = 1) by decide)]
    exact ⟨_, (f2, xp, nI pn, rv, bI b), (bI b, B2, mp, nI pn, ds, mn, mi, fd, u1, u2, u3, u4), eC, eR, ⟨b, _, _, _, hC2, rfl, rfl, hB2, hp.1, rfl, rfl, hp.2⟩⟩
