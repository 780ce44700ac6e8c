/-! pure: programs: what a statement does on both sides (written by p98.py) -/
abbrev CT := (Nat → Int64) × (Nat → Int32) × Int32 × Int64 × Int32
abbrev RT := Int32 × (Nat → Nat → Int32) × (Nat → Int32) × Int32 × (Nat → Int32) × Int32 × Int32 × (Nat → Int32) × (Nat → Int32) × (Nat → Int32) × (Nat → Int32) × (Nat → Int32)
/-- the two trials stand alike -/
def TRR (X : CT) (M : RT) : Prop := ∃ (b : Bool) (c : Nat → BitVec 64) (pn : Nat) (pg : Nat → Nat), isC X.1 c ∧ X.2.2.2.2 = bI b ∧ M.1 = bI b ∧ isB M.2.1 c ∧ pn ≤ 65 ∧ X.2.2.1 = nI pn ∧ M.2.2.2.1 = nI pn ∧ ∀ i, i < pn → X.2.1 i = nI (pg i) ∧ M.2.2.1 i = nI (pg i) ∧ 0 < pg i ∧ pg i < 256
theorem nI_2 (w : Nat) : nI w + 2 = nI (w + 2) := by
  have e : (2 : Int32) = 1 + 1 := by decide
  rw [e, ← Int32.add_assoc, nI_1, nI_1]
theorem nI_3 (w : Nat) : nI w + 3 = nI (w + 3) := by
  have e : (3 : Int32) = 2 + 1 := by decide
  rw [e, ← Int32.add_assoc, nI_2, nI_1]
theorem sm0 (A : Nat → Int64) : mX7_smallArgument A 0 = some ((A 0).toInt32) := rfl
theorem sm1 (A : Nat → Int64) : mX7_smallArgument A 1 = some ((A 1).toInt32) := rfl
theorem sm2 (A : Nat → Int64) : mX7_smallArgument A 2 = some ((A 2).toInt32) := rfl
theorem ag1 (A : Nat → Int64) : mX7_argument A 1 = some (A 1) := rfl
theorem ce1 {vs : Nat → Int64} {w : Nat} (h : w + 1 < 300) : mX13_cellAt vs (nI w + 1) = some ((vs (w + 1)).toInt32) := by
  rw [nI_1, mX13_cellAt, if_neg (nI_in h (by omega)), nI_clamp (by omega)]
theorem ce2 {vs : Nat → Int64} {w : Nat} (h : w + 2 < 300) : mX13_cellAt vs (nI w + 2) = some ((vs (w + 2)).toInt32) := by
  rw [nI_2, mX13_cellAt, if_neg (nI_in h (by omega)), nI_clamp (by omega)]
theorem ce3 {vs : Nat → Int64} {w : Nat} (h : w + 3 < 300) : mX13_cellAt vs (nI w + 3) = some ((vs (w + 3)).toInt32) := by
  rw [nI_3, mX13_cellAt, if_neg (nI_in h (by omega)), nI_clamp (by omega)]
theorem pr_pn {b : Bool} {k q : Nat} {B : Nat → Nat → Int32} {c : Nat → BitVec 64} {su : Nat → Int32} (x : Int64) (hB : isB B c) (hq : q < 8) (hk : 64 < k) : ∃ B2 s2, mX12_putsNumber k (bI b) B su (nI q) x = some (B2, s2) ∧ isB B2 (upC c q (sgn b x.toBitVec)) := by
  obtain ⟨R, e1, h1, -⟩ := pr_lays (N := 65) (k := k) (f := su) x (by omega) (by omega) hk
  obtain ⟨B2, e2, h2, h3⟩ := pr_puts_sum (b := b) (k := k) (B := B) (h1.sub (wd_le b)) hq hk
  refine ⟨B2, R, ?_, putsTo.up (y := x.toBitVec.setWidth (wd b)) hB ⟨h2, h3⟩⟩
  rw [mX12_putsNumber, e1]
  simp only [Option.bind_some]
  rw [e2]
  rfl
theorem told32 {x : BitVec 64} : (lN ((x.setWidth 32).signExtend 64).toNat).toInt32 = (Int64.ofBitVec x).toInt32 := by
  rw [lN_bv64]
  apply Int32.toBitVec_inj.mp
  rw [Int64.toBitVec_toInt32, Int64.toBitVec_toInt32]
  rw [sx32, sx32]
  exact se_low (by decide) (x.setWidth 32)
set_option maxHeartbeats 4000000 in
set_option maxRecDepth 100000 in
theorem dv_0 {k s w len : Nat} {vb : Nat → Nat} {pf pt f fr bs es : Nat → Int32} {ar : Nat → Nat → Int64} {vs : Nat → Int64} {b : Bool} {c : Nat → BitVec 64} {pn : Nat} {pg : Nat → Nat} {xc : Nat → Int64} {xp : Nat → Int32} {rv : Int64} {B : Nat → Nat → Int32} {mp ds fd on ot su re : Nat → Int32} {mn mi : Int32} (hk : 310 < k) (hvb : vb s = 0) (hC : isC xc c) (hB : isB B c) (hp : pn ≤ 65 ∧ ∀ i, i < pn → xp i = nI (pg i) ∧ mp i = nI (pg i) ∧ 0 < pg i ∧ pg i < 256)  : ∃ ok X2 M2, mX4_carryOut k 300 65 vb pf pt ar f (nI len) xc xp (nI pn) rv (bI b) s = some (ok, X2) ∧ mX13_does k (bI b) B mp (nI pn) ds mn mi fd on ot su re fr bs es vs (nI 0) (nI w) = some (ok, M2) ∧ TRR X2 M2 := by
  have eC : mX4_carryOut k 300 65 vb pf pt ar f (nI len) xc xp (nI pn) rv (bI b) s = some (1, xc, xp, nI pn, rv, 1) := by
    rw [mX4_carryOut, sm0, Option.bind_some, sm1, Option.bind_some, sm2, Option.bind_some]
    rw [hvb, if_neg (show ¬ 31 ≤ 0 by decide), if_neg (show ¬ (nI 0 < 0 ∨ 31 ≤ (nI 0).toNatClampNeg) by decide), show swI (nI 0).toNatClampNeg = 1 from by decide, if_pos (show (1 : Int32) = 1 from rfl)]
  have eR : mX13_does k (bI b) B mp (nI pn) ds mn mi fd on ot su re fr bs es vs (nI 0) (nI w) = some (1, 1, B, mp, nI pn, ds, mn, mi, fd, on, ot, su, re) := by
    rfl
  exact ⟨_, (xc, xp, nI pn, rv, 1), (1, B, mp, nI pn, ds, mn, mi, fd, on, ot, su, re), eC, eR, ⟨true, _, _, _, hC, rfl, rfl, hB, hp.1, rfl, rfl, hp.2⟩⟩
set_option maxHeartbeats 4000000 in
set_option maxRecDepth 100000 in
theorem dv_1 {k s w len : Nat} {vb : Nat → Nat} {pf pt f fr bs es : Nat → Int32} {ar : Nat → Nat → Int64} {vs : Nat → Int64} {b : Bool} {c : Nat → BitVec 64} {pn : Nat} {pg : Nat → Nat} {xc : Nat → Int64} {xp : Nat → Int32} {rv : Int64} {B : Nat → Nat → Int32} {mp ds fd on ot su re : Nat → Int32} {mn mi : Int32} (hk : 310 < k) (hvb : vb s = 1) (hC : isC xc c) (hB : isB B c) (hp : pn ≤ 65 ∧ ∀ i, i < pn → xp i = nI (pg i) ∧ mp i = nI (pg i) ∧ 0 < pg i ∧ pg i < 256)  : ∃ ok X2 M2, mX4_carryOut k 300 65 vb pf pt ar f (nI len) xc xp (nI pn) rv (bI b) s = some (ok, X2) ∧ mX13_does k (bI b) B mp (nI pn) ds mn mi fd on ot su re fr bs es vs (nI 1) (nI w) = some (ok, M2) ∧ TRR X2 M2 := by
  have eC : mX4_carryOut k 300 65 vb pf pt ar f (nI len) xc xp (nI pn) rv (bI b) s = some (1, xc, xp, nI pn, rv, 0) := by
    rw [mX4_carryOut, sm0, Option.bind_some, sm1, Option.bind_some, sm2, Option.bind_some]
    rw [hvb, if_neg (show ¬ 31 ≤ 1 by decide), if_neg (show ¬ (nI 1 < 0 ∨ 31 ≤ (nI 1).toNatClampNeg) by decide), show swI (nI 1).toNatClampNeg = 2 from by decide, if_neg (show ¬ (2 : Int32) = 1 by decide), if_pos (show (2 : Int32) = 2 from rfl)]
  have eR : mX13_does k (bI b) B mp (nI pn) ds mn mi fd on ot su re fr bs es vs (nI 1) (nI w) = some (1, 0, B, mp, nI pn, ds, mn, mi, fd, on, ot, su, re) := by
    rfl
  exact ⟨_, (xc, xp, nI pn, rv, 0), (0, B, mp, nI pn, ds, mn, mi, fd, on, ot, su, re), eC, eR, ⟨false, _, _, _, hC, rfl, rfl, hB, hp.1, rfl, rfl, hp.2⟩⟩
set_option maxHeartbeats 4000000 in
set_option maxRecDepth 100000 in
theorem dv_2 {k s w len : Nat} {vb : Nat → Nat} {pf pt f fr bs es : Nat → Int32} {ar : Nat → Nat → Int64} {vs : Nat → Int64} {b : Bool} {c : Nat → BitVec 64} {pn : Nat} {pg : Nat → Nat} {xc : Nat → Int64} {xp : Nat → Int32} {rv : Int64} {B : Nat → Nat → Int32} {mp ds fd on ot su re : Nat → Int32} {mn mi : Int32} (hk : 310 < k) (hvb : vb s = 2) (hC : isC xc c) (hB : isB B c) (hp : pn ≤ 65 ∧ ∀ i, i < pn → xp i = nI (pg i) ∧ mp i = nI (pg i) ∧ 0 < pg i ∧ pg i < 256) {i : Nat} (hi : i < 8) (a1 : (ar s 0).toInt32 = nI i) (g1 : (vs (w + 1)).toInt32 = nI i) {z : Int64} (a2 : ar s 1 = z) (g2 : vs (w + 2) = z) (hw : w + 2 < 300) : ∃ ok X2 M2, mX4_carryOut k 300 65 vb pf pt ar f (nI len) xc xp (nI pn) rv (bI b) s = some (ok, X2) ∧ mX13_does k (bI b) B mp (nI pn) ds mn mi fd on ot su re fr bs es vs (nI 2) (nI w) = some (ok, M2) ∧ TRR X2 M2 := by
  obtain ⟨R, e2, h2, -⟩ := pr_lays (N := 64) (k := k) (f := B i) z (by omega) (by omega) (by omega)
  have eC : mX4_carryOut k 300 65 vb pf pt ar f (nI len) xc xp (nI pn) rv (bI b) s = some (1, vp_updL xc i z, xp, nI pn, rv, bI b) := by
    rw [mX4_carryOut, sm0, Option.bind_some, sm1, Option.bind_some, sm2, Option.bind_some]
    rw [hvb, if_neg (show ¬ 31 ≤ 2 by decide), if_neg (show ¬ (nI 2 < 0 ∨ 31 ≤ (nI 2).toNatClampNeg) by decide), show swI (nI 2).toNatClampNeg = 3 from by decide, if_neg (show ¬ (3 : Int32) = 1 by decide), if_neg (show ¬ (3 : Int32) = 2 by decide), if_pos (show (3 : Int32) = 3 from rfl), ag1]
    simp only [Option.bind_some]
    rw [a1, a2, pr_keep z hi]
    rfl
  have eR : mX13_does k (bI b) B mp (nI pn) ds mn mi fd on ot su re fr bs es vs (nI 2) (nI w) = some (1, bI b, upR B i R, mp, nI pn, ds, mn, mi, fd, on, ot, su, re) := by
    rw [mX13_does, if_neg (show ¬ nI 2 = 0 by decide), if_neg (show ¬ nI 2 = 1 by decide), ce1 (by omega), Option.bind_some, g1]
    rw [show mX13_in (nI 2) 2 8 = some 1 from by decide, Option.bind_some, if_neg (show ¬ (1 : Int32) = 0 by decide)]
    rw [mX13_writesOrReads, if_pos (show nI 2 = 2 from rfl), nI_2, if_neg (nI_in hi (by omega)), if_neg (nI_in hw (by omega)), nI_clamp (show i < 2 ^ 31 by omega), nI_clamp (show w + 2 < 2 ^ 31 by omega), g2, e2]
    rfl
  exact ⟨_, (vp_updL xc i z, xp, nI pn, rv, bI b), (bI b, upR B i R, mp, nI pn, ds, mn, mi, fd, on, ot, su, re), eC, eR, ⟨b, _, _, _, hC.upL i z, rfl, rfl, hB.row h2, hp.1, rfl, rfl, hp.2⟩⟩
set_option maxHeartbeats 4000000 in
set_option maxRecDepth 100000 in
theorem dv_3 {k s w len : Nat} {vb : Nat → Nat} {pf pt f fr bs es : Nat → Int32} {ar : Nat → Nat → Int64} {vs : Nat → Int64} {b : Bool} {c : Nat → BitVec 64} {pn : Nat} {pg : Nat → Nat} {xc : Nat → Int64} {xp : Nat → Int32} {rv : Int64} {B : Nat → Nat → Int32} {mp ds fd on ot su re : Nat → Int32} {mn mi : Int32} (hk : 310 < k) (hvb : vb s = 3) (hC : isC xc c) (hB : isB B c) (hp : pn ≤ 65 ∧ ∀ i, i < pn → xp i = nI (pg i) ∧ mp i = nI (pg i) ∧ 0 < pg i ∧ pg i < 256) {i : Nat} (hi : i < 8) (a1 : (ar s 0).toInt32 = nI i) (g1 : (vs (w + 1)).toInt32 = nI i) {r : Int32} (a2 : (ar s 1).toInt32 = r) (g2 : (vs (w + 2)).toInt32 = r) {g : Nat → Nat} {a e : Nat} (ha : a ≤ e) (he : e ≤ len) (hl : len ≤ 300) (hf : ∀ q, q < len → f q = nI (g q)) (hfr : ∀ q, q < len → fr q = nI (g q)) (hg : ∀ q, q < len → g q < 256) (hpf : pf s = nI a) (hpt : pt s = nI e) (hbs : bs (w + 3) = nI a) (hes : es (w + 3) = nI e) (hw : w + 3 < 300) : ∃ ok X2 M2, mX4_carryOut k 300 65 vb pf pt ar f (nI len) xc xp (nI pn) rv (bI b) s = some (ok, X2) ∧ mX13_does k (bI b) B mp (nI pn) ds mn mi fd on ot su re fr bs es vs (nI 3) (nI w) = some (ok, M2) ∧ TRR X2 M2 := by
  obtain ⟨f2, v2, e5, hC2⟩ := pr_take_x (b := b) (p := false) (k := k) (r := r) (v := rv) hC hi ha he hl (by omega) hf hg
  obtain ⟨B2, fd2, e6, hB2⟩ := pr_reads_x (b := b) (p := false) (k := k) (r := r) (found := fd) (fr := fr) (g := g) hB hi ha (by omega) (by omega) (fun q hq => hfr q (by omega)) (fun q hq => hg q (by omega))
  have e5' : mX2_takePiece_x k 300 xc rv (bI b) f (nI len) (nI i) (nI a) (nI e) r 0 = some (bI (pcOK false (wd b) r g a e), f2, v2) := e5
  have e6' : mX12_reads_x k (bI b) B fd fr (nI i) (nI a) (nI e) r 0 = some (bI (pcOK false (wd b) r g a e), B2, fd2) := e6
  have eC : mX4_carryOut k 300 65 vb pf pt ar f (nI len) xc xp (nI pn) rv (bI b) s = some (bI (pcOK false (wd b) r g a e), f2, xp, nI pn, v2, bI b) := by
    rw [mX4_carryOut, sm0, Option.bind_some, sm1, Option.bind_some, sm2, Option.bind_some]
    rw [hvb, if_neg (show ¬ 31 ≤ 3 by decide), if_neg (show ¬ (nI 3 < 0 ∨ 31 ≤ (nI 3).toNatClampNeg) by decide), show swI (nI 3).toNatClampNeg = 4 from by decide, if_neg (show ¬ (4 : Int32) = 1 by decide), if_neg (show ¬ (4 : Int32) = 2 by decide), if_neg (show ¬ (4 : Int32) = 3 by decide), if_pos (show (4 : Int32) = 4 from rfl), a1, a2, hpf, hpt, e5']
    simp only [Option.bind_some]
    rw [if_neg (bI_nn _)]
  have eR : mX13_does k (bI b) B mp (nI pn) ds mn mi fd on ot su re fr bs es vs (nI 3) (nI w) = some (bI (pcOK false (wd b) r g a e), bI b, B2, mp, nI pn, ds, mn, mi, fd2, on, ot, su, re) := by
    rw [mX13_does, if_neg (show ¬ nI 3 = 0 by decide), if_neg (show ¬ nI 3 = 1 by decide), ce1 (by omega), Option.bind_some, g1]
    rw [show mX13_in (nI 3) 2 8 = some 1 from by decide, Option.bind_some, if_neg (show ¬ (1 : Int32) = 0 by decide)]
    rw [mX13_writesOrReads, if_neg (show ¬ nI 3 = 2 by decide), ce2 (by omega)]
    simp only [Option.bind_some]
    rw [g2]
    rw [show mX13_in (nI 3) 3 4 = some 1 from by decide, Option.bind_some, if_neg (show ¬ (1 : Int32) = 0 by decide)]
    rw [nI_3, if_neg (nI_in hw (by omega)), if_neg (nI_in hw (by omega)), if_neg (show ¬ nI 3 = 4 by decide)]
    simp only [Option.bind_some]
    rw [nI_clamp (show w + 3 < 2 ^ 31 by omega), hbs, hes, e6']
    simp only [Option.bind_some]
    rw [if_neg (bI_nn _)]
    simp only [Option.bind_some]
    rw [if_neg (bI_nn _)]
  exact ⟨_, (f2, xp, nI pn, v2, bI b), (bI b, B2, mp, nI pn, ds, mn, mi, fd2, on, ot, su, re), eC, eR, ⟨b, _, _, _, hC2, rfl, rfl, hB2, hp.1, rfl, rfl, hp.2⟩⟩
set_option maxHeartbeats 4000000 in
set_option maxRecDepth 100000 in
theorem dv_4 {k s w len : Nat} {vb : Nat → Nat} {pf pt f fr bs es : Nat → Int32} {ar : Nat → Nat → Int64} {vs : Nat → Int64} {b : Bool} {c : Nat → BitVec 64} {pn : Nat} {pg : Nat → Nat} {xc : Nat → Int64} {xp : Nat → Int32} {rv : Int64} {B : Nat → Nat → Int32} {mp ds fd on ot su re : Nat → Int32} {mn mi : Int32} (hk : 310 < k) (hvb : vb s = 4) (hC : isC xc c) (hB : isB B c) (hp : pn ≤ 65 ∧ ∀ i, i < pn → xp i = nI (pg i) ∧ mp i = nI (pg i) ∧ 0 < pg i ∧ pg i < 256) {i : Nat} (hi : i < 8) (a1 : (ar s 0).toInt32 = nI i) (g1 : (vs (w + 1)).toInt32 = nI i) {r : Int32} (a2 : (ar s 1).toInt32 = r) (g2 : (vs (w + 2)).toInt32 = r) {g : Nat → Nat} {a e : Nat} (ha : a ≤ e) (he : e ≤ len) (hl : len ≤ 300) (hf : ∀ q, q < len → f q = nI (g q)) (hfr : ∀ q, q < len → fr q = nI (g q)) (hg : ∀ q, q < len → g q < 256) (hpf : pf s = nI a) (hpt : pt s = nI e) (hbs : bs (w + 3) = nI a) (hes : es (w + 3) = nI e) (hw : w + 3 < 300) : ∃ ok X2 M2, mX4_carryOut k 300 65 vb pf pt ar f (nI len) xc xp (nI pn) rv (bI b) s = some (ok, X2) ∧ mX13_does k (bI b) B mp (nI pn) ds mn mi fd on ot su re fr bs es vs (nI 4) (nI w) = some (ok, M2) ∧ TRR X2 M2 := by
  obtain ⟨f2, v2, e5, hC2⟩ := pr_take_x (b := b) (p := true) (k := k) (r := r) (v := rv) hC hi ha he hl (by omega) hf hg
  obtain ⟨B2, fd2, e6, hB2⟩ := pr_reads_x (b := b) (p := true) (k := k) (r := r) (found := fd) (fr := fr) (g := g) hB hi ha (by omega) (by omega) (fun q hq => hfr q (by omega)) (fun q hq => hg q (by omega))
  have e5' : mX2_takePiece_x k 300 xc rv (bI b) f (nI len) (nI i) (nI a) (nI e) r 1 = some (bI (pcOK true (wd b) r g a e), f2, v2) := e5
  have e6' : mX12_reads_x k (bI b) B fd fr (nI i) (nI a) (nI e) r 1 = some (bI (pcOK true (wd b) r g a e), B2, fd2) := e6
  have eC : mX4_carryOut k 300 65 vb pf pt ar f (nI len) xc xp (nI pn) rv (bI b) s = some (bI (pcOK true (wd b) r g a e), f2, xp, nI pn, v2, bI b) := by
    rw [mX4_carryOut, sm0, Option.bind_some, sm1, Option.bind_some, sm2, Option.bind_some]
    rw [hvb, if_neg (show ¬ 31 ≤ 4 by decide), if_neg (show ¬ (nI 4 < 0 ∨ 31 ≤ (nI 4).toNatClampNeg) by decide), show swI (nI 4).toNatClampNeg = 5 from by decide, if_neg (show ¬ (5 : Int32) = 1 by decide), if_neg (show ¬ (5 : Int32) = 2 by decide), if_neg (show ¬ (5 : Int32) = 3 by decide), if_neg (show ¬ (5 : Int32) = 4 by decide), if_pos (show (5 : Int32) = 5 from rfl), a1, a2, hpf, hpt, e5']
    simp only [Option.bind_some]
    rw [if_neg (bI_nn _)]
  have eR : mX13_does k (bI b) B mp (nI pn) ds mn mi fd on ot su re fr bs es vs (nI 4) (nI w) = some (bI (pcOK true (wd b) r g a e), bI b, B2, mp, nI pn, ds, mn, mi, fd2, on, ot, su, re) := by
    rw [mX13_does, if_neg (show ¬ nI 4 = 0 by decide), if_neg (show ¬ nI 4 = 1 by decide), ce1 (by omega), Option.bind_some, g1]
    rw [show mX13_in (nI 4) 2 8 = some 1 from by decide, Option.bind_some, if_neg (show ¬ (1 : Int32) = 0 by decide)]
    rw [mX13_writesOrReads, if_neg (show ¬ nI 4 = 2 by decide), ce2 (by omega)]
    simp only [Option.bind_some]
    rw [g2]
    rw [show mX13_in (nI 4) 3 4 = some 1 from by decide, Option.bind_some, if_neg (show ¬ (1 : Int32) = 0 by decide)]
    rw [nI_3, if_neg (nI_in hw (by omega)), if_neg (nI_in hw (by omega)), if_pos (show nI 4 = 4 from rfl)]
    simp only [Option.bind_some]
    rw [nI_clamp (show w + 3 < 2 ^ 31 by omega), hbs, hes, e6']
    simp only [Option.bind_some]
    rw [if_neg (bI_nn _)]
    simp only [Option.bind_some]
    rw [if_neg (bI_nn _)]
  exact ⟨_, (f2, xp, nI pn, v2, bI b), (bI b, B2, mp, nI pn, ds, mn, mi, fd2, on, ot, su, re), eC, eR, ⟨b, _, _, _, hC2, rfl, rfl, hB2, hp.1, rfl, rfl, hp.2⟩⟩
set_option maxHeartbeats 4000000 in
set_option maxRecDepth 100000 in
theorem dv_5 {k s w len : Nat} {vb : Nat → Nat} {pf pt f fr bs es : Nat → Int32} {ar : Nat → Nat → Int64} {vs : Nat → Int64} {b : Bool} {c : Nat → BitVec 64} {pn : Nat} {pg : Nat → Nat} {xc : Nat → Int64} {xp : Nat → Int32} {rv : Int64} {B : Nat → Nat → Int32} {mp ds fd on ot su re : Nat → Int32} {mn mi : Int32} (hk : 310 < k) (hvb : vb s = 5) (hC : isC xc c) (hB : isB B c) (hp : pn ≤ 65 ∧ ∀ i, i < pn → xp i = nI (pg i) ∧ mp i = nI (pg i) ∧ 0 < pg i ∧ pg i < 256) {i : Nat} (hi : i < 8) (a1 : (ar s 0).toInt32 = nI i) (g1 : (vs (w + 1)).toInt32 = nI i) {r : Int32} (a2 : (ar s 1).toInt32 = r) (g2 : (vs (w + 2)).toInt32 = r) (hw : w + 2 < 300) : ∃ ok X2 M2, mX4_carryOut k 300 65 vb pf pt ar f (nI len) xc xp (nI pn) rv (bI b) s = some (ok, X2) ∧ mX13_does k (bI b) B mp (nI pn) ds mn mi fd on ot su re fr bs es vs (nI 5) (nI w) = some (ok, M2) ∧ TRR X2 M2 := by
  obtain ⟨R1, R2, -⟩ := rdx_spec r
  obtain ⟨n, hn⟩ := nd_get (A := szA b false (c i)) R1 (szA_lt64 b false (c i))
  have hn2 := hn.2.1
  have hn1 := hn.1
  have hg : (szN b false (c i)).toNat ≤ 1 := by cases szN b false (c i) <;> decide
  obtain ⟨f2, e1, u1⟩ := pr_cwrite (k := k) (f := xp) hC hi (by omega) hn
  obtain ⟨pg2, ds2, one2, e2, u2⟩ := pr_writes (k := k) (pg := mp) (ds := ds) (one := on) hB hi (by omega) hn
  have e1' : mX2_writePage k 65 xc xp (bI b) (nI i) r 0 = some (f2, nI (n + (szN b false (c i)).toNat)) := e1
  have e2' : mX12_writes k (bI b) B mp ds on (nI i) r 0 = some (nI (n + (szN b false (c i)).toNat), pg2, nI (n + (szN b false (c i)).toNat), ds2, nI n, bI (szN b false (c i)), one2) := e2
  have eC : mX4_carryOut k 300 65 vb pf pt ar f (nI len) xc xp (nI pn) rv (bI b) s = some (1, xc, f2, nI (n + (szN b false (c i)).toNat), rv, bI b) := by
    rw [mX4_carryOut, sm0, Option.bind_some, sm1, Option.bind_some, sm2, Option.bind_some]
    rw [hvb, if_neg (show ¬ 31 ≤ 5 by decide), if_neg (show ¬ (nI 5 < 0 ∨ 31 ≤ (nI 5).toNatClampNeg) by decide), show swI (nI 5).toNatClampNeg = 6 from by decide, if_neg (show ¬ (6 : Int32) = 1 by decide), if_neg (show ¬ (6 : Int32) = 2 by decide), if_neg (show ¬ (6 : Int32) = 3 by decide), if_neg (show ¬ (6 : Int32) = 4 by decide), if_neg (show ¬ (6 : Int32) = 5 by decide), if_pos (show (6 : Int32) = 6 from rfl), a1, a2, e1']
    rfl
  have eR : mX13_does k (bI b) B mp (nI pn) ds mn mi fd on ot su re fr bs es vs (nI 5) (nI w) = some (1, bI b, B, pg2, nI (n + (szN b false (c i)).toNat), ds2, nI n, bI (szN b false (c i)), fd, one2, ot, su, re) := by
    rw [mX13_does, if_neg (show ¬ nI 5 = 0 by decide), if_neg (show ¬ nI 5 = 1 by decide), ce1 (by omega), Option.bind_some, g1]
    rw [show mX13_in (nI 5) 2 8 = some 1 from by decide, Option.bind_some, if_neg (show ¬ (1 : Int32) = 0 by decide)]
    rw [mX13_writesOrReads, if_neg (show ¬ nI 5 = 2 by decide), ce2 (by omega)]
    simp only [Option.bind_some]
    rw [g2]
    rw [show mX13_in (nI 5) 3 4 = some 0 from by decide, Option.bind_some, if_pos (show (0 : Int32) = 0 from rfl)]
    rw [show mX13_in (nI 5) 5 6 = some 1 from by decide, Option.bind_some, if_neg (show ¬ (1 : Int32) = 0 by decide)]
    rw [if_neg (show ¬ nI 5 = 6 by decide)]
    simp only [Option.bind_some]
    rw [e2']
    simp only [Option.bind_some]
    rw [if_neg (show ¬ nI (n + (szN b false (c i)).toNat) ≤ (0 : Int32) from nI_ge (a := 0) (by omega) (by omega))]
    rfl
  exact ⟨_, (xc, f2, nI (n + (szN b false (c i)).toNat), rv, bI b), (bI b, B, pg2, nI (n + (szN b false (c i)).toNat), ds2, nI n, bI (szN b false (c i)), fd, one2, ot, su, re), eC, eR, ⟨b, _, n + (szN b false (c i)).toNat, _, hC, rfl, rfl, hB, by omega, rfl, rfl, fun q hq => ⟨u1 q hq, u2 q hq, pgB_bd R2 (by omega)⟩⟩⟩
set_option maxHeartbeats 4000000 in
set_option maxRecDepth 100000 in
theorem dv_6 {k s w len : Nat} {vb : Nat → Nat} {pf pt f fr bs es : Nat → Int32} {ar : Nat → Nat → Int64} {vs : Nat → Int64} {b : Bool} {c : Nat → BitVec 64} {pn : Nat} {pg : Nat → Nat} {xc : Nat → Int64} {xp : Nat → Int32} {rv : Int64} {B : Nat → Nat → Int32} {mp ds fd on ot su re : Nat → Int32} {mn mi : Int32} (hk : 310 < k) (hvb : vb s = 6) (hC : isC xc c) (hB : isB B c) (hp : pn ≤ 65 ∧ ∀ i, i < pn → xp i = nI (pg i) ∧ mp i = nI (pg i) ∧ 0 < pg i ∧ pg i < 256) {i : Nat} (hi : i < 8) (a1 : (ar s 0).toInt32 = nI i) (g1 : (vs (w + 1)).toInt32 = nI i) {r : Int32} (a2 : (ar s 1).toInt32 = r) (g2 : (vs (w + 2)).toInt32 = r) (hw : w + 2 < 300) : ∃ ok X2 M2, mX4_carryOut k 300 65 vb pf pt ar f (nI len) xc xp (nI pn) rv (bI b) s = some (ok, X2) ∧ mX13_does k (bI b) B mp (nI pn) ds mn mi fd on ot su re fr bs es vs (nI 6) (nI w) = some (ok, M2) ∧ TRR X2 M2 := by
  obtain ⟨R1, R2, -⟩ := rdx_spec r
  obtain ⟨n, hn⟩ := nd_get (A := szA b true (c i)) R1 (szA_lt64 b true (c i))
  have hn2 := hn.2.1
  have hn1 := hn.1
  have hg : (szN b true (c i)).toNat ≤ 1 := by cases szN b true (c i) <;> decide
  obtain ⟨f2, e1, u1⟩ := pr_cwrite (k := k) (f := xp) hC hi (by omega) hn
  obtain ⟨pg2, ds2, one2, e2, u2⟩ := pr_writes (k := k) (pg := mp) (ds := ds) (one := on) hB hi (by omega) hn
  have e1' : mX2_writePage k 65 xc xp (bI b) (nI i) r 1 = some (f2, nI (n + (szN b true (c i)).toNat)) := e1
  have e2' : mX12_writes k (bI b) B mp ds on (nI i) r 1 = some (nI (n + (szN b true (c i)).toNat), pg2, nI (n + (szN b true (c i)).toNat), ds2, nI n, bI (szN b true (c i)), one2) := e2
  have eC : mX4_carryOut k 300 65 vb pf pt ar f (nI len) xc xp (nI pn) rv (bI b) s = some (1, xc, f2, nI (n + (szN b true (c i)).toNat), rv, bI b) := by
    rw [mX4_carryOut, sm0, Option.bind_some, sm1, Option.bind_some, sm2, Option.bind_some]
    rw [hvb, if_neg (show ¬ 31 ≤ 6 by decide), if_neg (show ¬ (nI 6 < 0 ∨ 31 ≤ (nI 6).toNatClampNeg) by decide), show swI (nI 6).toNatClampNeg = 7 from by decide, if_neg (show ¬ (7 : Int32) = 1 by decide), if_neg (show ¬ (7 : Int32) = 2 by decide), if_neg (show ¬ (7 : Int32) = 3 by decide), if_neg (show ¬ (7 : Int32) = 4 by decide), if_neg (show ¬ (7 : Int32) = 5 by decide), if_neg (show ¬ (7 : Int32) = 6 by decide), if_pos (show (7 : Int32) = 7 from rfl), a1, a2, e1']
    rfl
  have eR : mX13_does k (bI b) B mp (nI pn) ds mn mi fd on ot su re fr bs es vs (nI 6) (nI w) = some (1, bI b, B, pg2, nI (n + (szN b true (c i)).toNat), ds2, nI n, bI (szN b true (c i)), fd, one2, ot, su, re) := by
    rw [mX13_does, if_neg (show ¬ nI 6 = 0 by decide), if_neg (show ¬ nI 6 = 1 by decide), ce1 (by omega), Option.bind_some, g1]
    rw [show mX13_in (nI 6) 2 8 = some 1 from by decide, Option.bind_some, if_neg (show ¬ (1 : Int32) = 0 by decide)]
    rw [mX13_writesOrReads, if_neg (show ¬ nI 6 = 2 by decide), ce2 (by omega)]
    simp only [Option.bind_some]
    rw [g2]
    rw [show mX13_in (nI 6) 3 4 = some 0 from by decide, Option.bind_some, if_pos (show (0 : Int32) = 0 from rfl)]
    rw [show mX13_in (nI 6) 5 6 = some 1 from by decide, Option.bind_some, if_neg (show ¬ (1 : Int32) = 0 by decide)]
    rw [if_pos (show nI 6 = 6 from rfl)]
    simp only [Option.bind_some]
    rw [e2']
    simp only [Option.bind_some]
    rw [if_neg (show ¬ nI (n + (szN b true (c i)).toNat) ≤ (0 : Int32) from nI_ge (a := 0) (by omega) (by omega))]
    rfl
  exact ⟨_, (xc, f2, nI (n + (szN b true (c i)).toNat), rv, bI b), (bI b, B, pg2, nI (n + (szN b true (c i)).toNat), ds2, nI n, bI (szN b true (c i)), fd, one2, ot, su, re), eC, eR, ⟨b, _, n + (szN b true (c i)).toNat, _, hC, rfl, rfl, hB, by omega, rfl, rfl, fun q hq => ⟨u1 q hq, u2 q hq, pgB_bd R2 (by omega)⟩⟩⟩
set_option maxHeartbeats 4000000 in
set_option maxRecDepth 100000 in
theorem dv_7 {k s w len : Nat} {vb : Nat → Nat} {pf pt f fr bs es : Nat → Int32} {ar : Nat → Nat → Int64} {vs : Nat → Int64} {b : Bool} {c : Nat → BitVec 64} {pn : Nat} {pg : Nat → Nat} {xc : Nat → Int64} {xp : Nat → Int32} {rv : Int64} {B : Nat → Nat → Int32} {mp ds fd on ot su re : Nat → Int32} {mn mi : Int32} (hk : 310 < k) (hvb : vb s = 7) (hC : isC xc c) (hB : isB B c) (hp : pn ≤ 65 ∧ ∀ i, i < pn → xp i = nI (pg i) ∧ mp i = nI (pg i) ∧ 0 < pg i ∧ pg i < 256) {i : Nat} (hi : i < 8) (a1 : (ar s 0).toInt32 = nI i) (g1 : (vs (w + 1)).toInt32 = nI i) {r : Int32} (a2 : (ar s 1).toInt32 = r) (g2 : (vs (w + 2)).toInt32 = r) (hw : w + 2 < 300) : ∃ ok X2 M2, mX4_carryOut k 300 65 vb pf pt ar f (nI len) xc xp (nI pn) rv (bI b) s = some (ok, X2) ∧ mX13_does k (bI b) B mp (nI pn) ds mn mi fd on ot su re fr bs es vs (nI 7) (nI w) = some (ok, M2) ∧ TRR X2 M2 := by
  obtain ⟨f2, v2, e5, hC2⟩ := pr_takePage (b := b) (p := false) (k := k) (r := r) (v := rv) hC hi hp.1 (by omega) (fun q hq => (hp.2 q hq).1) (fun q hq => (hp.2 q hq).2.2.2)
  obtain ⟨B2, fd2, e6, hB2⟩ := pr_readsPage (b := b) (p := false) (k := k) (r := r) (found := fd) hB hi hp.1 (by omega) (fun q hq => (hp.2 q hq).2.1) (fun q hq => (hp.2 q hq).2.2.2)
  have e5' : mX2_takePage k 65 xc xp (nI pn) rv (bI b) (nI i) r 0 = some (bI (pcOK false (wd b) r pg 0 pn), f2, v2) := e5
  have e6' : mX12_readsPage k (bI b) B mp (nI pn) fd (nI i) r 0 = some (bI (pcOK false (wd b) r pg 0 pn), B2, fd2) := e6
  have eC : mX4_carryOut k 300 65 vb pf pt ar f (nI len) xc xp (nI pn) rv (bI b) s = some (bI (pcOK false (wd b) r pg 0 pn), f2, xp, nI pn, v2, bI b) := by
    rw [mX4_carryOut, sm0, Option.bind_some, sm1, Option.bind_some, sm2, Option.bind_some]
    rw [hvb, if_neg (show ¬ 31 ≤ 7 by decide), if_neg (show ¬ (nI 7 < 0 ∨ 31 ≤ (nI 7).toNatClampNeg) by decide), show swI (nI 7).toNatClampNeg = 8 from by decide, if_neg (show ¬ (8 : Int32) = 1 by decide), if_neg (show ¬ (8 : Int32) = 2 by decide), if_neg (show ¬ (8 : Int32) = 3 by decide), if_neg (show ¬ (8 : Int32) = 4 by decide), if_neg (show ¬ (8 : Int32) = 5 by decide), if_neg (show ¬ (8 : Int32) = 6 by decide), if_neg (show ¬ (8 : Int32) = 7 by decide), if_pos (show (8 : Int32) = 8 from rfl), a1, a2, e5']
    simp only [Option.bind_some]
    rw [if_neg (bI_nn _)]
  have eR : mX13_does k (bI b) B mp (nI pn) ds mn mi fd on ot su re fr bs es vs (nI 7) (nI w) = some (bI (pcOK false (wd b) r pg 0 pn), bI b, B2, mp, nI pn, ds, mn, mi, fd2, on, ot, su, re) := by
    rw [mX13_does, if_neg (show ¬ nI 7 = 0 by decide), if_neg (show ¬ nI 7 = 1 by decide), ce1 (by omega), Option.bind_some, g1]
    rw [show mX13_in (nI 7) 2 8 = some 1 from by decide, Option.bind_some, if_neg (show ¬ (1 : Int32) = 0 by decide)]
    rw [mX13_writesOrReads, if_neg (show ¬ nI 7 = 2 by decide), ce2 (by omega)]
    simp only [Option.bind_some]
    rw [g2]
    rw [show mX13_in (nI 7) 3 4 = some 0 from by decide, Option.bind_some, if_pos (show (0 : Int32) = 0 from rfl)]
    rw [show mX13_in (nI 7) 5 6 = some 0 from by decide, Option.bind_some, if_pos (show (0 : Int32) = 0 from rfl)]
    rw [if_neg (show ¬ nI 7 = 8 by decide)]
    simp only [Option.bind_some]
    rw [e6']
    simp only [Option.bind_some]
    rw [if_neg (bI_nn _)]
    simp only [Option.bind_some]
    rw [if_neg (bI_nn _)]
  exact ⟨_, (f2, xp, nI pn, v2, bI b), (bI b, B2, mp, nI pn, ds, mn, mi, fd2, on, ot, su, re), eC, eR, ⟨b, _, _, _, hC2, rfl, rfl, hB2, hp.1, rfl, rfl, hp.2⟩⟩
set_option maxHeartbeats 4000000 in
set_option maxRecDepth 100000 in
theorem dv_8 {k s w len : Nat} {vb : Nat → Nat} {pf pt f fr bs es : Nat → Int32} {ar : Nat → Nat → Int64} {vs : Nat → Int64} {b : Bool} {c : Nat → BitVec 64} {pn : Nat} {pg : Nat → Nat} {xc : Nat → Int64} {xp : Nat → Int32} {rv : Int64} {B : Nat → Nat → Int32} {mp ds fd on ot su re : Nat → Int32} {mn mi : Int32} (hk : 310 < k) (hvb : vb s = 8) (hC : isC xc c) (hB : isB B c) (hp : pn ≤ 65 ∧ ∀ i, i < pn → xp i = nI (pg i) ∧ mp i = nI (pg i) ∧ 0 < pg i ∧ pg i < 256) {i : Nat} (hi : i < 8) (a1 : (ar s 0).toInt32 = nI i) (g1 : (vs (w + 1)).toInt32 = nI i) {r : Int32} (a2 : (ar s 1).toInt32 = r) (g2 : (vs (w + 2)).toInt32 = r) (hw : w + 2 < 300) : ∃ ok X2 M2, mX4_carryOut k 300 65 vb pf pt ar f (nI len) xc xp (nI pn) rv (bI b) s = some (ok, X2) ∧ mX13_does k (bI b) B mp (nI pn) ds mn mi fd on ot su re fr bs es vs (nI 8) (nI w) = some (ok, M2) ∧ TRR X2 M2 := by
  obtain ⟨f2, v2, e5, hC2⟩ := pr_takePage (b := b) (p := true) (k := k) (r := r) (v := rv) hC hi hp.1 (by omega) (fun q hq => (hp.2 q hq).1) (fun q hq => (hp.2 q hq).2.2.2)
  obtain ⟨B2, fd2, e6, hB2⟩ := pr_readsPage (b := b) (p := true) (k := k) (r := r) (found := fd) hB hi hp.1 (by omega) (fun q hq => (hp.2 q hq).2.1) (fun q hq => (hp.2 q hq).2.2.2)
  have e5' : mX2_takePage k 65 xc xp (nI pn) rv (bI b) (nI i) r 1 = some (bI (pcOK true (wd b) r pg 0 pn), f2, v2) := e5
  have e6' : mX12_readsPage k (bI b) B mp (nI pn) fd (nI i) r 1 = some (bI (pcOK true (wd b) r pg 0 pn), B2, fd2) := e6
  have eC : mX4_carryOut k 300 65 vb pf pt ar f (nI len) xc xp (nI pn) rv (bI b) s = some (bI (pcOK true (wd b) r pg 0 pn), f2, xp, nI pn, v2, bI b) := by
    rw [mX4_carryOut, sm0, Option.bind_some, sm1, Option.bind_some, sm2, Option.bind_some]
    rw [hvb, if_neg (show ¬ 31 ≤ 8 by decide), if_neg (show ¬ (nI 8 < 0 ∨ 31 ≤ (nI 8).toNatClampNeg) by decide), show swI (nI 8).toNatClampNeg = 9 from by decide, if_neg (show ¬ (9 : Int32) = 1 by decide), if_neg (show ¬ (9 : Int32) = 2 by decide), if_neg (show ¬ (9 : Int32) = 3 by decide), if_neg (show ¬ (9 : Int32) = 4 by decide), if_neg (show ¬ (9 : Int32) = 5 by decide), if_neg (show ¬ (9 : Int32) = 6 by decide), if_neg (show ¬ (9 : Int32) = 7 by decide), if_neg (show ¬ (9 : Int32) = 8 by decide), if_pos (show (9 : Int32) = 9 from rfl), a1, a2, e5']
    simp only [Option.bind_some]
    rw [if_neg (bI_nn _)]
  have eR : mX13_does k (bI b) B mp (nI pn) ds mn mi fd on ot su re fr bs es vs (nI 8) (nI w) = some (bI (pcOK true (wd b) r pg 0 pn), bI b, B2, mp, nI pn, ds, mn, mi, fd2, on, ot, su, re) := by
    rw [mX13_does, if_neg (show ¬ nI 8 = 0 by decide), if_neg (show ¬ nI 8 = 1 by decide), ce1 (by omega), Option.bind_some, g1]
    rw [show mX13_in (nI 8) 2 8 = some 1 from by decide, Option.bind_some, if_neg (show ¬ (1 : Int32) = 0 by decide)]
    rw [mX13_writesOrReads, if_neg (show ¬ nI 8 = 2 by decide), ce2 (by omega)]
    simp only [Option.bind_some]
    rw [g2]
    rw [show mX13_in (nI 8) 3 4 = some 0 from by decide, Option.bind_some, if_pos (show (0 : Int32) = 0 from rfl)]
    rw [show mX13_in (nI 8) 5 6 = some 0 from by decide, Option.bind_some, if_pos (show (0 : Int32) = 0 from rfl)]
    rw [if_pos (show nI 8 = 8 from rfl)]
    simp only [Option.bind_some]
    rw [e6']
    simp only [Option.bind_some]
    rw [if_neg (bI_nn _)]
    simp only [Option.bind_some]
    rw [if_neg (bI_nn _)]
  exact ⟨_, (f2, xp, nI pn, v2, bI b), (bI b, B2, mp, nI pn, ds, mn, mi, fd2, on, ot, su, re), eC, eR, ⟨b, _, _, _, hC2, rfl, rfl, hB2, hp.1, rfl, rfl, hp.2⟩⟩
set_option maxHeartbeats 4000000 in
set_option maxRecDepth 100000 in
theorem dv_9 {k s w len : Nat} {vb : Nat → Nat} {pf pt f fr bs es : Nat → Int32} {ar : Nat → Nat → Int64} {vs : Nat → Int64} {b : Bool} {c : Nat → BitVec 64} {pn : Nat} {pg : Nat → Nat} {xc : Nat → Int64} {xp : Nat → Int32} {rv : Int64} {B : Nat → Nat → Int32} {mp ds fd on ot su re : Nat → Int32} {mn mi : Int32} (hk : 310 < k) (hvb : vb s = 9) (hC : isC xc c) (hB : isB B c) (hp : pn ≤ 65 ∧ ∀ i, i < pn → xp i = nI (pg i) ∧ mp i = nI (pg i) ∧ 0 < pg i ∧ pg i < 256) {i : Nat} (hi : i < 8) (a1 : (ar s 0).toInt32 = nI i) (g1 : (vs (w + 1)).toInt32 = nI i) (hw : w + 1 < 300) : ∃ ok X2 M2, mX4_carryOut k 300 65 vb pf pt ar f (nI len) xc xp (nI pn) rv (bI b) s = some (ok, X2) ∧ mX13_does k (bI b) B mp (nI pn) ds mn mi fd on ot su re fr bs es vs (nI 9) (nI w) = some (ok, M2) ∧ TRR X2 M2 := by
  obtain ⟨z, ez, hz⟩ := pr_turned b (c i)
  have hy : ∀ q, q < wd b → (z.setWidth (wd b)).getLsbD q = z.getLsbD q := fun q hq => by rw [BitVec.getLsbD_setWidth, decide_eq_true hq, Bool.true_and]
  obtain ⟨B2, s2, e2, hP⟩ := pr_reverses (k := k) (B := B) (f := su) (y := z.setWidth (wd b)) (hB i hi) hi (by omega) (fun q hq => (hy q hq).trans (hz q hq))
  have e2' : mX12_reverses k (bI b) B su (nI i) = some (Int64.ofBitVec ((z.setWidth (wd b)).signExtend 64), B2, s2) := e2
  have eC : mX4_carryOut k 300 65 vb pf pt ar f (nI len) xc xp (nI pn) rv (bI b) s = some (1, vp_updL xc i (Int64.ofBitVec (sgn b z)), xp, nI pn, rv, bI b) := by
    rw [mX4_carryOut, sm0, Option.bind_some, sm1, Option.bind_some, sm2, Option.bind_some]
    rw [hvb, if_neg (show ¬ 31 ≤ 9 by decide), if_neg (show ¬ (nI 9 < 0 ∨ 31 ≤ (nI 9).toNatClampNeg) by decide), show swI (nI 9).toNatClampNeg = 19 from by decide, if_neg (show ¬ (19 : Int32) = 1 by decide), if_neg (show ¬ (19 : Int32) = 2 by decide), if_neg (show ¬ (19 : Int32) = 3 by decide), if_neg (show ¬ (19 : Int32) = 4 by decide), if_neg (show ¬ (19 : Int32) = 5 by decide), if_neg (show ¬ (19 : Int32) = 6 by decide), if_neg (show ¬ (19 : Int32) = 7 by decide), if_neg (show ¬ (19 : Int32) = 8 by decide), if_neg (show ¬ (19 : Int32) = 9 by decide), if_neg (show ¬ (19 : Int32) = 10 by decide), if_neg (show ¬ (19 : Int32) = 11 by decide), if_neg (show ¬ (19 : Int32) = 12 by decide), if_neg (show ¬ (19 : Int32) = 13 by decide), if_neg (show ¬ (19 : Int32) = 14 by decide), if_neg (show ¬ (19 : Int32) = 15 by decide), if_neg (show ¬ (19 : Int32) = 16 by decide), if_neg (show ¬ (19 : Int32) = 17 by decide), if_neg (show ¬ (19 : Int32) = 18 by decide), if_neg (show ¬ 31 ≤ 9 by decide), mX4_changed, if_neg (show ¬ (nI 9 < 0 ∨ 31 ≤ (nI 9).toNatClampNeg) by decide), show swI (nI 9).toNatClampNeg = 19 from by decide, if_pos (show (19 : Int32) = 19 from rfl), a1, mX2_bitsTurned, pr_allBits hC hi]
    simp only [Option.bind_some]
    rw [ez]
    simp only [Option.bind_some]
    rw [pr_put b z hi]
    rfl
  have eR : mX13_does k (bI b) B mp (nI pn) ds mn mi fd on ot su re fr bs es vs (nI 9) (nI w) = some (1, bI b, B2, mp, nI pn, ds, mn, mi, fd, on, ot, s2, re) := by
    rw [mX13_does, if_neg (show ¬ nI 9 = 0 by decide), if_neg (show ¬ nI 9 = 1 by decide), ce1 (by omega), Option.bind_some, g1]
    rw [show mX13_in (nI 9) 2 8 = some 0 from by decide, Option.bind_some, if_pos (show (0 : Int32) = 0 from rfl)]
    rw [show mX13_in (nI 9) 9 13 = some 1 from by decide, Option.bind_some, if_neg (show ¬ (1 : Int32) = 0 by decide)]
    rw [if_pos (show nI 9 = 9 from rfl)]
    rw [e2']
    rfl
  exact ⟨_, (vp_updL xc i (Int64.ofBitVec (sgn b z)), xp, nI pn, rv, bI b), (bI b, B2, mp, nI pn, ds, mn, mi, fd, on, ot, s2, re), eC, eR, ⟨b, _, _, _, hC.up i (sgn b z), rfl, rfl, putsTo.up hB hP, hp.1, rfl, rfl, hp.2⟩⟩
set_option maxHeartbeats 4000000 in
set_option maxRecDepth 100000 in
theorem dv_10 {k s w len : Nat} {vb : Nat → Nat} {pf pt f fr bs es : Nat → Int32} {ar : Nat → Nat → Int64} {vs : Nat → Int64} {b : Bool} {c : Nat → BitVec 64} {pn : Nat} {pg : Nat → Nat} {xc : Nat → Int64} {xp : Nat → Int32} {rv : Int64} {B : Nat → Nat → Int32} {mp ds fd on ot su re : Nat → Int32} {mn mi : Int32} (hk : 310 < k) (hvb : vb s = 10) (hC : isC xc c) (hB : isB B c) (hp : pn ≤ 65 ∧ ∀ i, i < pn → xp i = nI (pg i) ∧ mp i = nI (pg i) ∧ 0 < pg i ∧ pg i < 256) {i : Nat} (hi : i < 8) (a1 : (ar s 0).toInt32 = nI i) (g1 : (vs (w + 1)).toInt32 = nI i) (hw : w + 1 < 300) : ∃ ok X2 M2, mX4_carryOut k 300 65 vb pf pt ar f (nI len) xc xp (nI pn) rv (bI b) s = some (ok, X2) ∧ mX13_does k (bI b) B mp (nI pn) ds mn mi fd on ot su re fr bs es vs (nI 10) (nI w) = some (ok, M2) ∧ TRR X2 M2 := by
  obtain ⟨z, ez, hz⟩ := pr_bytesTurned b (c i)
  have hy : ∀ q, q < wd b → (z.setWidth (wd b)).getLsbD q = z.getLsbD q := fun q hq => by rw [BitVec.getLsbD_setWidth, decide_eq_true hq, Bool.true_and]
  obtain ⟨B2, s2, e2, hP⟩ := pr_reversesBytes (k := k) (B := B) (f := su) (y := z.setWidth (wd b)) (hB i hi) hi (by omega) (fun q hq => (hy q hq).trans (hz q hq))
  have e2' : mX12_reversesBytes k (bI b) B su (nI i) = some (Int64.ofBitVec ((z.setWidth (wd b)).signExtend 64), B2, s2) := e2
  have eC : mX4_carryOut k 300 65 vb pf pt ar f (nI len) xc xp (nI pn) rv (bI b) s = some (1, vp_updL xc i (Int64.ofBitVec (sgn b z)), xp, nI pn, rv, bI b) := by
    rw [mX4_carryOut, sm0, Option.bind_some, sm1, Option.bind_some, sm2, Option.bind_some]
    rw [hvb, if_neg (show ¬ 31 ≤ 10 by decide), if_neg (show ¬ (nI 10 < 0 ∨ 31 ≤ (nI 10).toNatClampNeg) by decide), show swI (nI 10).toNatClampNeg = 20 from by decide, if_neg (show ¬ (20 : Int32) = 1 by decide), if_neg (show ¬ (20 : Int32) = 2 by decide), if_neg (show ¬ (20 : Int32) = 3 by decide), if_neg (show ¬ (20 : Int32) = 4 by decide), if_neg (show ¬ (20 : Int32) = 5 by decide), if_neg (show ¬ (20 : Int32) = 6 by decide), if_neg (show ¬ (20 : Int32) = 7 by decide), if_neg (show ¬ (20 : Int32) = 8 by decide), if_neg (show ¬ (20 : Int32) = 9 by decide), if_neg (show ¬ (20 : Int32) = 10 by decide), if_neg (show ¬ (20 : Int32) = 11 by decide), if_neg (show ¬ (20 : Int32) = 12 by decide), if_neg (show ¬ (20 : Int32) = 13 by decide), if_neg (show ¬ (20 : Int32) = 14 by decide), if_neg (show ¬ (20 : Int32) = 15 by decide), if_neg (show ¬ (20 : Int32) = 16 by decide), if_neg (show ¬ (20 : Int32) = 17 by decide), if_neg (show ¬ (20 : Int32) = 18 by decide), if_neg (show ¬ 31 ≤ 10 by decide), mX4_changed, if_neg (show ¬ (nI 10 < 0 ∨ 31 ≤ (nI 10).toNatClampNeg) by decide), show swI (nI 10).toNatClampNeg = 20 from by decide, if_neg (show ¬ (20 : Int32) = 19 by decide), if_pos (show (20 : Int32) = 20 from rfl), a1, mX2_bytesTurned, pr_allBits hC hi]
    simp only [Option.bind_some]
    rw [ez]
    simp only [Option.bind_some]
    rw [pr_put b z hi]
    rfl
  have eR : mX13_does k (bI b) B mp (nI pn) ds mn mi fd on ot su re fr bs es vs (nI 10) (nI w) = some (1, bI b, B2, mp, nI pn, ds, mn, mi, fd, on, ot, s2, re) := by
    rw [mX13_does, if_neg (show ¬ nI 10 = 0 by decide), if_neg (show ¬ nI 10 = 1 by decide), ce1 (by omega), Option.bind_some, g1]
    rw [show mX13_in (nI 10) 2 8 = some 0 from by decide, Option.bind_some, if_pos (show (0 : Int32) = 0 from rfl)]
    rw [show mX13_in (nI 10) 9 13 = some 1 from by decide, Option.bind_some, if_neg (show ¬ (1 : Int32) = 0 by decide)]
    rw [if_neg (show ¬ nI 10 = 9 by decide), if_pos (show nI 10 = 10 from rfl)]
    rw [e2']
    rfl
  exact ⟨_, (vp_updL xc i (Int64.ofBitVec (sgn b z)), xp, nI pn, rv, bI b), (bI b, B2, mp, nI pn, ds, mn, mi, fd, on, ot, s2, re), eC, eR, ⟨b, _, _, _, hC.up i (sgn b z), rfl, rfl, putsTo.up hB hP, hp.1, rfl, rfl, hp.2⟩⟩
set_option maxHeartbeats 4000000 in
set_option maxRecDepth 100000 in
theorem dv_11 {k s w len : Nat} {vb : Nat → Nat} {pf pt f fr bs es : Nat → Int32} {ar : Nat → Nat → Int64} {vs : Nat → Int64} {b : Bool} {c : Nat → BitVec 64} {pn : Nat} {pg : Nat → Nat} {xc : Nat → Int64} {xp : Nat → Int32} {rv : Int64} {B : Nat → Nat → Int32} {mp ds fd on ot su re : Nat → Int32} {mn mi : Int32} (hk : 310 < k) (hvb : vb s = 11) (hC : isC xc c) (hB : isB B c) (hp : pn ≤ 65 ∧ ∀ i, i < pn → xp i = nI (pg i) ∧ mp i = nI (pg i) ∧ 0 < pg i ∧ pg i < 256) {i : Nat} (hi : i < 8) (a1 : (ar s 0).toInt32 = nI i) (g1 : (vs (w + 1)).toInt32 = nI i) (hw : w + 1 < 300) : ∃ ok X2 M2, mX4_carryOut k 300 65 vb pf pt ar f (nI len) xc xp (nI pn) rv (bI b) s = some (ok, X2) ∧ mX13_does k (bI b) B mp (nI pn) ds mn mi fd on ot su re fr bs es vs (nI 11) (nI w) = some (ok, M2) ∧ TRR X2 M2 := by
  obtain ⟨z, ez, hz⟩ := pr_highestBit b (c i)
  have hy : ∀ q, q < wd b → (z.setWidth (wd b)).getLsbD q = z.getLsbD q := fun q hq => by rw [BitVec.getLsbD_setWidth, decide_eq_true hq, Bool.true_and]
  obtain ⟨B2, s2, e2, hP⟩ := pr_leaves (above := true) (k := k) (B := B) (f := su) (y := z.setWidth (wd b)) (hB i hi) hi (by omega) (fun q hq => (hy q hq).trans (hz q hq))
  have e2' : mX12_leaves k (bI b) B su (nI i) 1 = some (Int64.ofBitVec ((z.setWidth (wd b)).signExtend 64), B2, s2) := e2
  have eC : mX4_carryOut k 300 65 vb pf pt ar f (nI len) xc xp (nI pn) rv (bI b) s = some (1, vp_updL xc i (Int64.ofBitVec (sgn b z)), xp, nI pn, rv, bI b) := by
    rw [mX4_carryOut, sm0, Option.bind_some, sm1, Option.bind_some, sm2, Option.bind_some]
    rw [hvb, if_neg (show ¬ 31 ≤ 11 by decide), if_neg (show ¬ (nI 11 < 0 ∨ 31 ≤ (nI 11).toNatClampNeg) by decide), show swI (nI 11).toNatClampNeg = 21 from by decide, if_neg (show ¬ (21 : Int32) = 1 by decide), if_neg (show ¬ (21 : Int32) = 2 by decide), if_neg (show ¬ (21 : Int32) = 3 by decide), if_neg (show ¬ (21 : Int32) = 4 by decide), if_neg (show ¬ (21 : Int32) = 5 by decide), if_neg (show ¬ (21 : Int32) = 6 by decide), if_neg (show ¬ (21 : Int32) = 7 by decide), if_neg (show ¬ (21 : Int32) = 8 by decide), if_neg (show ¬ (21 : Int32) = 9 by decide), if_neg (show ¬ (21 : Int32) = 10 by decide), if_neg (show ¬ (21 : Int32) = 11 by decide), if_neg (show ¬ (21 : Int32) = 12 by decide), if_neg (show ¬ (21 : Int32) = 13 by decide), if_neg (show ¬ (21 : Int32) = 14 by decide), if_neg (show ¬ (21 : Int32) = 15 by decide), if_neg (show ¬ (21 : Int32) = 16 by decide), if_neg (show ¬ (21 : Int32) = 17 by decide), if_neg (show ¬ (21 : Int32) = 18 by decide), if_neg (show ¬ 31 ≤ 11 by decide), mX4_changed, if_neg (show ¬ (nI 11 < 0 ∨ 31 ≤ (nI 11).toNatClampNeg) by decide), show swI (nI 11).toNatClampNeg = 21 from by decide, if_neg (show ¬ (21 : Int32) = 19 by decide), if_neg (show ¬ (21 : Int32) = 20 by decide), if_pos (show (21 : Int32) = 21 from rfl), a1, mX2_highestBit, pr_allBits hC hi]
    simp only [Option.bind_some]
    rw [ez]
    simp only [Option.bind_some]
    rw [pr_put b z hi]
    rfl
  have eR : mX13_does k (bI b) B mp (nI pn) ds mn mi fd on ot su re fr bs es vs (nI 11) (nI w) = some (1, bI b, B2, mp, nI pn, ds, mn, mi, fd, on, ot, s2, re) := by
    rw [mX13_does, if_neg (show ¬ nI 11 = 0 by decide), if_neg (show ¬ nI 11 = 1 by decide), ce1 (by omega), Option.bind_some, g1]
    rw [show mX13_in (nI 11) 2 8 = some 0 from by decide, Option.bind_some, if_pos (show (0 : Int32) = 0 from rfl)]
    rw [show mX13_in (nI 11) 9 13 = some 1 from by decide, Option.bind_some, if_neg (show ¬ (1 : Int32) = 0 by decide)]
    rw [if_neg (show ¬ nI 11 = 9 by decide), if_neg (show ¬ nI 11 = 10 by decide), if_neg (show ¬ nI 11 = 13 by decide)]
    rw [if_pos (show nI 11 = 11 from rfl)]
    simp only [Option.bind_some]
    rw [e2']
    rfl
  exact ⟨_, (vp_updL xc i (Int64.ofBitVec (sgn b z)), xp, nI pn, rv, bI b), (bI b, B2, mp, nI pn, ds, mn, mi, fd, on, ot, s2, re), eC, eR, ⟨b, _, _, _, hC.up i (sgn b z), rfl, rfl, putsTo.up hB hP, hp.1, rfl, rfl, hp.2⟩⟩
set_option maxHeartbeats 4000000 in
set_option maxRecDepth 100000 in
theorem dv_12 {k s w len : Nat} {vb : Nat → Nat} {pf pt f fr bs es : Nat → Int32} {ar : Nat → Nat → Int64} {vs : Nat → Int64} {b : Bool} {c : Nat → BitVec 64} {pn : Nat} {pg : Nat → Nat} {xc : Nat → Int64} {xp : Nat → Int32} {rv : Int64} {B : Nat → Nat → Int32} {mp ds fd on ot su re : Nat → Int32} {mn mi : Int32} (hk : 310 < k) (hvb : vb s = 12) (hC : isC xc c) (hB : isB B c) (hp : pn ≤ 65 ∧ ∀ i, i < pn → xp i = nI (pg i) ∧ mp i = nI (pg i) ∧ 0 < pg i ∧ pg i < 256) {i : Nat} (hi : i < 8) (a1 : (ar s 0).toInt32 = nI i) (g1 : (vs (w + 1)).toInt32 = nI i) (hw : w + 1 < 300) : ∃ ok X2 M2, mX4_carryOut k 300 65 vb pf pt ar f (nI len) xc xp (nI pn) rv (bI b) s = some (ok, X2) ∧ mX13_does k (bI b) B mp (nI pn) ds mn mi fd on ot su re fr bs es vs (nI 12) (nI w) = some (ok, M2) ∧ TRR X2 M2 := by
  obtain ⟨z, ez, hz⟩ := pr_lowestBit b (c i)
  have hy : ∀ q, q < wd b → (z.setWidth (wd b)).getLsbD q = z.getLsbD q := fun q hq => by rw [BitVec.getLsbD_setWidth, decide_eq_true hq, Bool.true_and]
  obtain ⟨B2, s2, e2, hP⟩ := pr_leaves (above := false) (k := k) (B := B) (f := su) (y := z.setWidth (wd b)) (hB i hi) hi (by omega) (fun q hq => (hy q hq).trans (hz q hq))
  have e2' : mX12_leaves k (bI b) B su (nI i) 0 = some (Int64.ofBitVec ((z.setWidth (wd b)).signExtend 64), B2, s2) := e2
  have eC : mX4_carryOut k 300 65 vb pf pt ar f (nI len) xc xp (nI pn) rv (bI b) s = some (1, vp_updL xc i (Int64.ofBitVec (sgn b z)), xp, nI pn, rv, bI b) := by
    rw [mX4_carryOut, sm0, Option.bind_some, sm1, Option.bind_some, sm2, Option.bind_some]
    rw [hvb, if_neg (show ¬ 31 ≤ 12 by decide), if_neg (show ¬ (nI 12 < 0 ∨ 31 ≤ (nI 12).toNatClampNeg) by decide), show swI (nI 12).toNatClampNeg = 22 from by decide, if_neg (show ¬ (22 : Int32) = 1 by decide), if_neg (show ¬ (22 : Int32) = 2 by decide), if_neg (show ¬ (22 : Int32) = 3 by decide), if_neg (show ¬ (22 : Int32) = 4 by decide), if_neg (show ¬ (22 : Int32) = 5 by decide), if_neg (show ¬ (22 : Int32) = 6 by decide), if_neg (show ¬ (22 : Int32) = 7 by decide), if_neg (show ¬ (22 : Int32) = 8 by decide), if_neg (show ¬ (22 : Int32) = 9 by decide), if_neg (show ¬ (22 : Int32) = 10 by decide), if_neg (show ¬ (22 : Int32) = 11 by decide), if_neg (show ¬ (22 : Int32) = 12 by decide), if_neg (show ¬ (22 : Int32) = 13 by decide), if_neg (show ¬ (22 : Int32) = 14 by decide), if_neg (show ¬ (22 : Int32) = 15 by decide), if_neg (show ¬ (22 : Int32) = 16 by decide), if_neg (show ¬ (22 : Int32) = 17 by decide), if_neg (show ¬ (22 : Int32) = 18 by decide), if_neg (show ¬ 31 ≤ 12 by decide), mX4_changed, if_neg (show ¬ (nI 12 < 0 ∨ 31 ≤ (nI 12).toNatClampNeg) by decide), show swI (nI 12).toNatClampNeg = 22 from by decide, if_neg (show ¬ (22 : Int32) = 19 by decide), if_neg (show ¬ (22 : Int32) = 20 by decide), if_neg (show ¬ (22 : Int32) = 21 by decide), if_pos (show (22 : Int32) = 22 from rfl), a1, mX2_lowestBit, pr_allBits hC hi]
    simp only [Option.bind_some]
    rw [ez]
    simp only [Option.bind_some]
    rw [pr_put b z hi]
    rfl
  have eR : mX13_does k (bI b) B mp (nI pn) ds mn mi fd on ot su re fr bs es vs (nI 12) (nI w) = some (1, bI b, B2, mp, nI pn, ds, mn, mi, fd, on, ot, s2, re) := by
    rw [mX13_does, if_neg (show ¬ nI 12 = 0 by decide), if_neg (show ¬ nI 12 = 1 by decide), ce1 (by omega), Option.bind_some, g1]
    rw [show mX13_in (nI 12) 2 8 = some 0 from by decide, Option.bind_some, if_pos (show (0 : Int32) = 0 from rfl)]
    rw [show mX13_in (nI 12) 9 13 = some 1 from by decide, Option.bind_some, if_neg (show ¬ (1 : Int32) = 0 by decide)]
    rw [if_neg (show ¬ nI 12 = 9 by decide), if_neg (show ¬ nI 12 = 10 by decide), if_neg (show ¬ nI 12 = 13 by decide)]
    rw [if_neg (show ¬ nI 12 = 11 by decide)]
    simp only [Option.bind_some]
    rw [e2']
    rfl
  exact ⟨_, (vp_updL xc i (Int64.ofBitVec (sgn b z)), xp, nI pn, rv, bI b), (bI b, B2, mp, nI pn, ds, mn, mi, fd, on, ot, s2, re), eC, eR, ⟨b, _, _, _, hC.up i (sgn b z), rfl, rfl, putsTo.up hB hP, hp.1, rfl, rfl, hp.2⟩⟩
set_option maxHeartbeats 4000000 in
set_option maxRecDepth 100000 in
theorem dv_13 {k s w len : Nat} {vb : Nat → Nat} {pf pt f fr bs es : Nat → Int32} {ar : Nat → Nat → Int64} {vs : Nat → Int64} {b : Bool} {c : Nat → BitVec 64} {pn : Nat} {pg : Nat → Nat} {xc : Nat → Int64} {xp : Nat → Int32} {rv : Int64} {B : Nat → Nat → Int32} {mp ds fd on ot su re : Nat → Int32} {mn mi : Int32} (hk : 310 < k) (hvb : vb s = 13) (hC : isC xc c) (hB : isB B c) (hp : pn ≤ 65 ∧ ∀ i, i < pn → xp i = nI (pg i) ∧ mp i = nI (pg i) ∧ 0 < pg i ∧ pg i < 256) {i : Nat} (hi : i < 8) (a1 : (ar s 0).toInt32 = nI i) (g1 : (vs (w + 1)).toInt32 = nI i) (hw : w + 1 < 300) : ∃ ok X2 M2, mX4_carryOut k 300 65 vb pf pt ar f (nI len) xc xp (nI pn) rv (bI b) s = some (ok, X2) ∧ mX13_does k (bI b) B mp (nI pn) ds mn mi fd on ot su re fr bs es vs (nI 13) (nI w) = some (ok, M2) ∧ TRR X2 M2 := by
  obtain ⟨B2, e2, hB2⟩ := pr_spreads (b := b) (k := k) hB hi (by omega)
  have eC : mX4_carryOut k 300 65 vb pf pt ar f (nI len) xc xp (nI pn) rv (bI b) s = some (1, vp_updL xc i (Int64.ofBitVec (((c i).setWidth 32).setWidth 64)), xp, nI pn, rv, bI b) := by
    rw [mX4_carryOut, sm0, Option.bind_some, sm1, Option.bind_some, sm2, Option.bind_some]
    rw [hvb, if_neg (show ¬ 31 ≤ 13 by decide), if_neg (show ¬ (nI 13 < 0 ∨ 31 ≤ (nI 13).toNatClampNeg) by decide), show swI (nI 13).toNatClampNeg = 10 from by decide, if_neg (show ¬ (10 : Int32) = 1 by decide), if_neg (show ¬ (10 : Int32) = 2 by decide), if_neg (show ¬ (10 : Int32) = 3 by decide), if_neg (show ¬ (10 : Int32) = 4 by decide), if_neg (show ¬ (10 : Int32) = 5 by decide), if_neg (show ¬ (10 : Int32) = 6 by decide), if_neg (show ¬ (10 : Int32) = 7 by decide), if_neg (show ¬ (10 : Int32) = 8 by decide), if_neg (show ¬ (10 : Int32) = 9 by decide), if_pos (show (10 : Int32) = 10 from rfl), a1, pr_cspread hC hi]
    rfl
  have eR : mX13_does k (bI b) B mp (nI pn) ds mn mi fd on ot su re fr bs es vs (nI 13) (nI w) = some (1, bI b, B2, mp, nI pn, ds, mn, mi, fd, on, ot, su, re) := by
    rw [mX13_does, if_neg (show ¬ nI 13 = 0 by decide), if_neg (show ¬ nI 13 = 1 by decide), ce1 (by omega), Option.bind_some, g1]
    rw [show mX13_in (nI 13) 2 8 = some 0 from by decide, Option.bind_some, if_pos (show (0 : Int32) = 0 from rfl)]
    rw [show mX13_in (nI 13) 9 13 = some 1 from by decide, Option.bind_some, if_neg (show ¬ (1 : Int32) = 0 by decide)]
    rw [if_neg (show ¬ nI 13 = 9 by decide), if_neg (show ¬ nI 13 = 10 by decide), if_pos (show nI 13 = 13 from rfl), e2]
    rfl
  exact ⟨_, (vp_updL xc i (Int64.ofBitVec (((c i).setWidth 32).setWidth 64)), xp, nI pn, rv, bI b), (bI b, B2, mp, nI pn, ds, mn, mi, fd, on, ot, su, re), eC, eR, ⟨b, _, _, _, hC.up i (((c i).setWidth 32).setWidth 64), rfl, rfl, hB2, hp.1, rfl, rfl, hp.2⟩⟩
set_option maxHeartbeats 4000000 in
set_option maxRecDepth 100000 in
theorem dv_14 {k s w len : Nat} {vb : Nat → Nat} {pf pt f fr bs es : Nat → Int32} {ar : Nat → Nat → Int64} {vs : Nat → Int64} {b : Bool} {c : Nat → BitVec 64} {pn : Nat} {pg : Nat → Nat} {xc : Nat → Int64} {xp : Nat → Int32} {rv : Int64} {B : Nat → Nat → Int32} {mp ds fd on ot su re : Nat → Int32} {mn mi : Int32} (hk : 310 < k) (hvb : vb s = 14) (hC : isC xc c) (hB : isB B c) (hp : pn ≤ 65 ∧ ∀ i, i < pn → xp i = nI (pg i) ∧ mp i = nI (pg i) ∧ 0 < pg i ∧ pg i < 256) {i : Nat} (hi : i < 8) (a1 : (ar s 0).toInt32 = nI i) (g1 : (vs (w + 1)).toInt32 = nI i) {q : Nat} (hq : q < 8) (a2 : (ar s 1).toInt32 = nI q) (g2 : (vs (w + 2)).toInt32 = nI q) (hw : w + 2 < 300) : ∃ ok X2 M2, mX4_carryOut k 300 65 vb pf pt ar f (nI len) xc xp (nI pn) rv (bI b) s = some (ok, X2) ∧ mX13_does k (bI b) B mp (nI pn) ds mn mi fd on ot su re fr bs es vs (nI 14) (nI w) = some (ok, M2) ∧ TRR X2 M2 := by
  have e3 : mX12_count k (bI b) B (nI i) = some (nI (cnt (c i) (wd b))) := pr_count (hB i hi) hi (by omega)
  obtain ⟨B2, s2, e2, hB2⟩ := pr_pn (b := b) (k := k) (su := su) ((nI (cnt (c i) (wd b))).toInt64) hB hq (by omega)
  have eP : mX2_put xc (bI b) (nI q) ((nI (cnt (c i) (wd b))).toInt64) = some (Int64.ofBitVec (sgn b ((nI (cnt (c i) (wd b))).toInt64).toBitVec), vp_updL xc q (Int64.ofBitVec (sgn b ((nI (cnt (c i) (wd b))).toInt64).toBitVec))) := pr_put b _ hq
  have eC : mX4_carryOut k 300 65 vb pf pt ar f (nI len) xc xp (nI pn) rv (bI b) s = some (1, vp_updL xc q (Int64.ofBitVec (sgn b ((nI (cnt (c i) (wd b))).toInt64).toBitVec)), xp, nI pn, rv, bI b) := by
    rw [mX4_carryOut, sm0, Option.bind_some, sm1, Option.bind_some, sm2, Option.bind_some]
    rw [hvb, if_neg (show ¬ 31 ≤ 14 by decide), if_neg (show ¬ (nI 14 < 0 ∨ 31 ≤ (nI 14).toNatClampNeg) by decide), show swI (nI 14).toNatClampNeg = 15 from by decide, if_neg (show ¬ (15 : Int32) = 1 by decide), if_neg (show ¬ (15 : Int32) = 2 by decide), if_neg (show ¬ (15 : Int32) = 3 by decide), if_neg (show ¬ (15 : Int32) = 4 by decide), if_neg (show ¬ (15 : Int32) = 5 by decide), if_neg (show ¬ (15 : Int32) = 6 by decide), if_neg (show ¬ (15 : Int32) = 7 by decide), if_neg (show ¬ (15 : Int32) = 8 by decide), if_neg (show ¬ (15 : Int32) = 9 by decide), if_neg (show ¬ (15 : Int32) = 10 by decide), if_neg (show ¬ (15 : Int32) = 11 by decide), if_neg (show ¬ (15 : Int32) = 12 by decide), if_neg (show ¬ (15 : Int32) = 13 by decide), if_neg (show ¬ (15 : Int32) = 14 by decide), if_pos (show (15 : Int32) = 15 from rfl), a1, a2, pr_ones hC hi]
    simp only [Option.bind_some]
    rw [eP]
    rfl
  have eR : mX13_does k (bI b) B mp (nI pn) ds mn mi fd on ot su re fr bs es vs (nI 14) (nI w) = some (1, bI b, B2, mp, nI pn, ds, mn, mi, fd, on, ot, s2, re) := by
    rw [mX13_does, if_neg (show ¬ nI 14 = 0 by decide), if_neg (show ¬ nI 14 = 1 by decide), ce1 (by omega), Option.bind_some, g1]
    rw [show mX13_in (nI 14) 2 8 = some 0 from by decide, Option.bind_some, if_pos (show (0 : Int32) = 0 from rfl)]
    rw [show mX13_in (nI 14) 9 13 = some 0 from by decide, Option.bind_some, if_pos (show (0 : Int32) = 0 from rfl)]
    rw [ce2 (by omega), Option.bind_some, g2]
    rw [show mX13_in (nI 14) 26 27 = some 0 from by decide, Option.bind_some, if_pos (show (0 : Int32) = 0 from rfl)]
    rw [show mX13_in (nI 14) 28 29 = some 0 from by decide, Option.bind_some, if_pos (show (0 : Int32) = 0 from rfl)]
    rw [show mX13_in (nI 14) 18 19 = some 0 from by decide, Option.bind_some, if_pos (show (0 : Int32) = 0 from rfl)]
    rw [show mX13_in (nI 14) 14 17 = some 1 from by decide, Option.bind_some, if_neg (show ¬ (1 : Int32) = 0 by decide)]
    rw [if_pos (show nI 14 = 14 from rfl), e3]
    simp only [Option.bind_some]
    rw [e2]
    rfl
  exact ⟨_, (vp_updL xc q (Int64.ofBitVec (sgn b ((nI (cnt (c i) (wd b))).toInt64).toBitVec)), xp, nI pn, rv, bI b), (bI b, B2, mp, nI pn, ds, mn, mi, fd, on, ot, s2, re), eC, eR, ⟨b, _, _, _, hC.up q _, rfl, rfl, hB2, hp.1, rfl, rfl, hp.2⟩⟩
set_option maxHeartbeats 4000000 in
set_option maxRecDepth 100000 in
theorem dv_15 {k s w len : Nat} {vb : Nat → Nat} {pf pt f fr bs es : Nat → Int32} {ar : Nat → Nat → Int64} {vs : Nat → Int64} {b : Bool} {c : Nat → BitVec 64} {pn : Nat} {pg : Nat → Nat} {xc : Nat → Int64} {xp : Nat → Int32} {rv : Int64} {B : Nat → Nat → Int32} {mp ds fd on ot su re : Nat → Int32} {mn mi : Int32} (hk : 310 < k) (hvb : vb s = 15) (hC : isC xc c) (hB : isB B c) (hp : pn ≤ 65 ∧ ∀ i, i < pn → xp i = nI (pg i) ∧ mp i = nI (pg i) ∧ 0 < pg i ∧ pg i < 256) {i : Nat} (hi : i < 8) (a1 : (ar s 0).toInt32 = nI i) (g1 : (vs (w + 1)).toInt32 = nI i) {q : Nat} (hq : q < 8) (a2 : (ar s 1).toInt32 = nI q) (g2 : (vs (w + 2)).toInt32 = nI q) (hw : w + 2 < 300) : ∃ ok X2 M2, mX4_carryOut k 300 65 vb pf pt ar f (nI len) xc xp (nI pn) rv (bI b) s = some (ok, X2) ∧ mX13_does k (bI b) B mp (nI pn) ds mn mi fd on ot su re fr bs es vs (nI 15) (nI w) = some (ok, M2) ∧ TRR X2 M2 := by
  have e3 : mX12_alike k (bI b) B (nI i) 0 1 = some (nI (alk false true (wd b) (c i))) := pr_alike (bit := false) (above := true) (hB i hi) hi (by omega)
  obtain ⟨B2, s2, e2, hB2⟩ := pr_pn (b := b) (k := k) (su := su) ((nI (alk false true (wd b) (c i))).toInt64) hB hq (by omega)
  have eP : mX2_put xc (bI b) (nI q) ((nI (alk false true (wd b) (c i))).toInt64) = some (Int64.ofBitVec (sgn b ((nI (alk false true (wd b) (c i))).toInt64).toBitVec), vp_updL xc q (Int64.ofBitVec (sgn b ((nI (alk false true (wd b) (c i))).toInt64).toBitVec))) := pr_put b _ hq
  have eC : mX4_carryOut k 300 65 vb pf pt ar f (nI len) xc xp (nI pn) rv (bI b) s = some (1, vp_updL xc q (Int64.ofBitVec (sgn b ((nI (alk false true (wd b) (c i))).toInt64).toBitVec)), xp, nI pn, rv, bI b) := by
    rw [mX4_carryOut, sm0, Option.bind_some, sm1, Option.bind_some, sm2, Option.bind_some]
    rw [hvb, if_neg (show ¬ 31 ≤ 15 by decide), if_neg (show ¬ (nI 15 < 0 ∨ 31 ≤ (nI 15).toNatClampNeg) by decide), show swI (nI 15).toNatClampNeg = 16 from by decide, if_neg (show ¬ (16 : Int32) = 1 by decide), if_neg (show ¬ (16 : Int32) = 2 by decide), if_neg (show ¬ (16 : Int32) = 3 by decide), if_neg (show ¬ (16 : Int32) = 4 by decide), if_neg (show ¬ (16 : Int32) = 5 by decide), if_neg (show ¬ (16 : Int32) = 6 by decide), if_neg (show ¬ (16 : Int32) = 7 by decide), if_neg (show ¬ (16 : Int32) = 8 by decide), if_neg (show ¬ (16 : Int32) = 9 by decide), if_neg (show ¬ (16 : Int32) = 10 by decide), if_neg (show ¬ (16 : Int32) = 11 by decide), if_neg (show ¬ (16 : Int32) = 12 by decide), if_neg (show ¬ (16 : Int32) = 13 by decide), if_neg (show ¬ (16 : Int32) = 14 by decide), if_neg (show ¬ (16 : Int32) = 15 by decide), if_pos (show (16 : Int32) = 16 from rfl), a1, a2, mX2_zerosInFront, pr_allBits hC hi]
    simp only [Option.bind_some]
    rw [pr_zerosInFront]
    simp only [Option.bind_some]
    rw [eP]
    rfl
  have eR : mX13_does k (bI b) B mp (nI pn) ds mn mi fd on ot su re fr bs es vs (nI 15) (nI w) = some (1, bI b, B2, mp, nI pn, ds, mn, mi, fd, on, ot, s2, re) := by
    rw [mX13_does, if_neg (show ¬ nI 15 = 0 by decide), if_neg (show ¬ nI 15 = 1 by decide), ce1 (by omega), Option.bind_some, g1]
    rw [show mX13_in (nI 15) 2 8 = some 0 from by decide, Option.bind_some, if_pos (show (0 : Int32) = 0 from rfl)]
    rw [show mX13_in (nI 15) 9 13 = some 0 from by decide, Option.bind_some, if_pos (show (0 : Int32) = 0 from rfl)]
    rw [ce2 (by omega), Option.bind_some, g2]
    rw [show mX13_in (nI 15) 26 27 = some 0 from by decide, Option.bind_some, if_pos (show (0 : Int32) = 0 from rfl)]
    rw [show mX13_in (nI 15) 28 29 = some 0 from by decide, Option.bind_some, if_pos (show (0 : Int32) = 0 from rfl)]
    rw [show mX13_in (nI 15) 18 19 = some 0 from by decide, Option.bind_some, if_pos (show (0 : Int32) = 0 from rfl)]
    rw [show mX13_in (nI 15) 14 17 = some 1 from by decide, Option.bind_some, if_neg (show ¬ (1 : Int32) = 0 by decide)]
    rw [if_neg (show ¬ nI 15 = 14 by decide), if_neg (show ¬ nI 15 = 17 by decide)]
    simp only [Option.bind_some]
    rw [if_pos (show nI 15 = 15 from rfl)]
    simp only [Option.bind_some]
    rw [e3]
    simp only [Option.bind_some]
    rw [e2]
    rfl
  exact ⟨_, (vp_updL xc q (Int64.ofBitVec (sgn b ((nI (alk false true (wd b) (c i))).toInt64).toBitVec)), xp, nI pn, rv, bI b), (bI b, B2, mp, nI pn, ds, mn, mi, fd, on, ot, s2, re), eC, eR, ⟨b, _, _, _, hC.up q _, rfl, rfl, hB2, hp.1, rfl, rfl, hp.2⟩⟩
set_option maxHeartbeats 4000000 in
set_option maxRecDepth 100000 in
theorem dv_16 {k s w len : Nat} {vb : Nat → Nat} {pf pt f fr bs es : Nat → Int32} {ar : Nat → Nat → Int64} {vs : Nat → Int64} {b : Bool} {c : Nat → BitVec 64} {pn : Nat} {pg : Nat → Nat} {xc : Nat → Int64} {xp : Nat → Int32} {rv : Int64} {B : Nat → Nat → Int32} {mp ds fd on ot su re : Nat → Int32} {mn mi : Int32} (hk : 310 < k) (hvb : vb s = 16) (hC : isC xc c) (hB : isB B c) (hp : pn ≤ 65 ∧ ∀ i, i < pn → xp i = nI (pg i) ∧ mp i = nI (pg i) ∧ 0 < pg i ∧ pg i < 256) {i : Nat} (hi : i < 8) (a1 : (ar s 0).toInt32 = nI i) (g1 : (vs (w + 1)).toInt32 = nI i) {q : Nat} (hq : q < 8) (a2 : (ar s 1).toInt32 = nI q) (g2 : (vs (w + 2)).toInt32 = nI q) (hw : w + 2 < 300) : ∃ ok X2 M2, mX4_carryOut k 300 65 vb pf pt ar f (nI len) xc xp (nI pn) rv (bI b) s = some (ok, X2) ∧ mX13_does k (bI b) B mp (nI pn) ds mn mi fd on ot su re fr bs es vs (nI 16) (nI w) = some (ok, M2) ∧ TRR X2 M2 := by
  have e3 : mX12_alike k (bI b) B (nI i) 0 0 = some (nI (alk false false (wd b) (c i))) := pr_alike (bit := false) (above := false) (hB i hi) hi (by omega)
  obtain ⟨B2, s2, e2, hB2⟩ := pr_pn (b := b) (k := k) (su := su) ((nI (alk false false (wd b) (c i))).toInt64) hB hq (by omega)
  have eP : mX2_put xc (bI b) (nI q) ((nI (alk false false (wd b) (c i))).toInt64) = some (Int64.ofBitVec (sgn b ((nI (alk false false (wd b) (c i))).toInt64).toBitVec), vp_updL xc q (Int64.ofBitVec (sgn b ((nI (alk false false (wd b) (c i))).toInt64).toBitVec))) := pr_put b _ hq
  have eC : mX4_carryOut k 300 65 vb pf pt ar f (nI len) xc xp (nI pn) rv (bI b) s = some (1, vp_updL xc q (Int64.ofBitVec (sgn b ((nI (alk false false (wd b) (c i))).toInt64).toBitVec)), xp, nI pn, rv, bI b) := by
    rw [mX4_carryOut, sm0, Option.bind_some, sm1, Option.bind_some, sm2, Option.bind_some]
    rw [hvb, if_neg (show ¬ 31 ≤ 16 by decide), if_neg (show ¬ (nI 16 < 0 ∨ 31 ≤ (nI 16).toNatClampNeg) by decide), show swI (nI 16).toNatClampNeg = 17 from by decide, if_neg (show ¬ (17 : Int32) = 1 by decide), if_neg (show ¬ (17 : Int32) = 2 by decide), if_neg (show ¬ (17 : Int32) = 3 by decide), if_neg (show ¬ (17 : Int32) = 4 by decide), if_neg (show ¬ (17 : Int32) = 5 by decide), if_neg (show ¬ (17 : Int32) = 6 by decide), if_neg (show ¬ (17 : Int32) = 7 by decide), if_neg (show ¬ (17 : Int32) = 8 by decide), if_neg (show ¬ (17 : Int32) = 9 by decide), if_neg (show ¬ (17 : Int32) = 10 by decide), if_neg (show ¬ (17 : Int32) = 11 by decide), if_neg (show ¬ (17 : Int32) = 12 by decide), if_neg (show ¬ (17 : Int32) = 13 by decide), if_neg (show ¬ (17 : Int32) = 14 by decide), if_neg (show ¬ (17 : Int32) = 15 by decide), if_neg (show ¬ (17 : Int32) = 16 by decide), if_pos (show (17 : Int32) = 17 from rfl), a1, a2, mX2_zerosBehind, pr_allBits hC hi]
    simp only [Option.bind_some]
    rw [pr_zerosBehind]
    simp only [Option.bind_some]
    rw [eP]
    rfl
  have eR : mX13_does k (bI b) B mp (nI pn) ds mn mi fd on ot su re fr bs es vs (nI 16) (nI w) = some (1, bI b, B2, mp, nI pn, ds, mn, mi, fd, on, ot, s2, re) := by
    rw [mX13_does, if_neg (show ¬ nI 16 = 0 by decide), if_neg (show ¬ nI 16 = 1 by decide), ce1 (by omega), Option.bind_some, g1]
    rw [show mX13_in (nI 16) 2 8 = some 0 from by decide, Option.bind_some, if_pos (show (0 : Int32) = 0 from rfl)]
    rw [show mX13_in (nI 16) 9 13 = some 0 from by decide, Option.bind_some, if_pos (show (0 : Int32) = 0 from rfl)]
    rw [ce2 (by omega), Option.bind_some, g2]
    rw [show mX13_in (nI 16) 26 27 = some 0 from by decide, Option.bind_some, if_pos (show (0 : Int32) = 0 from rfl)]
    rw [show mX13_in (nI 16) 28 29 = some 0 from by decide, Option.bind_some, if_pos (show (0 : Int32) = 0 from rfl)]
    rw [show mX13_in (nI 16) 18 19 = some 0 from by decide, Option.bind_some, if_pos (show (0 : Int32) = 0 from rfl)]
    rw [show mX13_in (nI 16) 14 17 = some 1 from by decide, Option.bind_some, if_neg (show ¬ (1 : Int32) = 0 by decide)]
    rw [if_neg (show ¬ nI 16 = 14 by decide), if_neg (show ¬ nI 16 = 17 by decide)]
    simp only [Option.bind_some]
    rw [if_neg (show ¬ nI 16 = 15 by decide)]
    simp only [Option.bind_some]
    rw [e3]
    simp only [Option.bind_some]
    rw [e2]
    rfl
  exact ⟨_, (vp_updL xc q (Int64.ofBitVec (sgn b ((nI (alk false false (wd b) (c i))).toInt64).toBitVec)), xp, nI pn, rv, bI b), (bI b, B2, mp, nI pn, ds, mn, mi, fd, on, ot, s2, re), eC, eR, ⟨b, _, _, _, hC.up q _, rfl, rfl, hB2, hp.1, rfl, rfl, hp.2⟩⟩
set_option maxHeartbeats 4000000 in
set_option maxRecDepth 100000 in
theorem dv_17 {k s w len : Nat} {vb : Nat → Nat} {pf pt f fr bs es : Nat → Int32} {ar : Nat → Nat → Int64} {vs : Nat → Int64} {b : Bool} {c : Nat → BitVec 64} {pn : Nat} {pg : Nat → Nat} {xc : Nat → Int64} {xp : Nat → Int32} {rv : Int64} {B : Nat → Nat → Int32} {mp ds fd on ot su re : Nat → Int32} {mn mi : Int32} (hk : 310 < k) (hvb : vb s = 17) (hC : isC xc c) (hB : isB B c) (hp : pn ≤ 65 ∧ ∀ i, i < pn → xp i = nI (pg i) ∧ mp i = nI (pg i) ∧ 0 < pg i ∧ pg i < 256) {i : Nat} (hi : i < 8) (a1 : (ar s 0).toInt32 = nI i) (g1 : (vs (w + 1)).toInt32 = nI i) {q : Nat} (hq : q < 8) (a2 : (ar s 1).toInt32 = nI q) (g2 : (vs (w + 2)).toInt32 = nI q) (hw : w + 2 < 300) : ∃ ok X2 M2, mX4_carryOut k 300 65 vb pf pt ar f (nI len) xc xp (nI pn) rv (bI b) s = some (ok, X2) ∧ mX13_does k (bI b) B mp (nI pn) ds mn mi fd on ot su re fr bs es vs (nI 17) (nI w) = some (ok, M2) ∧ TRR X2 M2 := by
  have e3 : mX12_alike k (bI b) B (nI i) 1 0 = some (nI (alk true false (wd b) (c i))) := pr_alike (bit := true) (above := false) (hB i hi) hi (by omega)
  obtain ⟨B2, s2, e2, hB2⟩ := pr_pn (b := b) (k := k) (su := su) ((nI (alk true false (wd b) (c i))).toInt64) hB hq (by omega)
  have eP : mX2_put xc (bI b) (nI q) ((nI (alk true false (wd b) (c i))).toInt64) = some (Int64.ofBitVec (sgn b ((nI (alk true false (wd b) (c i))).toInt64).toBitVec), vp_updL xc q (Int64.ofBitVec (sgn b ((nI (alk true false (wd b) (c i))).toInt64).toBitVec))) := pr_put b _ hq
  have eC : mX4_carryOut k 300 65 vb pf pt ar f (nI len) xc xp (nI pn) rv (bI b) s = some (1, vp_updL xc q (Int64.ofBitVec (sgn b ((nI (alk true false (wd b) (c i))).toInt64).toBitVec)), xp, nI pn, rv, bI b) := by
    rw [mX4_carryOut, sm0, Option.bind_some, sm1, Option.bind_some, sm2, Option.bind_some]
    rw [hvb, if_neg (show ¬ 31 ≤ 17 by decide), if_neg (show ¬ (nI 17 < 0 ∨ 31 ≤ (nI 17).toNatClampNeg) by decide), show swI (nI 17).toNatClampNeg = 18 from by decide, if_neg (show ¬ (18 : Int32) = 1 by decide), if_neg (show ¬ (18 : Int32) = 2 by decide), if_neg (show ¬ (18 : Int32) = 3 by decide), if_neg (show ¬ (18 : Int32) = 4 by decide), if_neg (show ¬ (18 : Int32) = 5 by decide), if_neg (show ¬ (18 : Int32) = 6 by decide), if_neg (show ¬ (18 : Int32) = 7 by decide), if_neg (show ¬ (18 : Int32) = 8 by decide), if_neg (show ¬ (18 : Int32) = 9 by decide), if_neg (show ¬ (18 : Int32) = 10 by decide), if_neg (show ¬ (18 : Int32) = 11 by decide), if_neg (show ¬ (18 : Int32) = 12 by decide), if_neg (show ¬ (18 : Int32) = 13 by decide), if_neg (show ¬ (18 : Int32) = 14 by decide), if_neg (show ¬ (18 : Int32) = 15 by decide), if_neg (show ¬ (18 : Int32) = 16 by decide), if_neg (show ¬ (18 : Int32) = 17 by decide), if_pos (show (18 : Int32) = 18 from rfl), a1, a2, mX2_onesBehind, pr_allBits hC hi]
    simp only [Option.bind_some]
    rw [xor_ones, pr_zerosBehind, alk_one _ (wd_le b)]
    simp only [Option.bind_some]
    rw [eP]
    rfl
  have eR : mX13_does k (bI b) B mp (nI pn) ds mn mi fd on ot su re fr bs es vs (nI 17) (nI w) = some (1, bI b, B2, mp, nI pn, ds, mn, mi, fd, on, ot, s2, re) := by
    rw [mX13_does, if_neg (show ¬ nI 17 = 0 by decide), if_neg (show ¬ nI 17 = 1 by decide), ce1 (by omega), Option.bind_some, g1]
    rw [show mX13_in (nI 17) 2 8 = some 0 from by decide, Option.bind_some, if_pos (show (0 : Int32) = 0 from rfl)]
    rw [show mX13_in (nI 17) 9 13 = some 0 from by decide, Option.bind_some, if_pos (show (0 : Int32) = 0 from rfl)]
    rw [ce2 (by omega), Option.bind_some, g2]
    rw [show mX13_in (nI 17) 26 27 = some 0 from by decide, Option.bind_some, if_pos (show (0 : Int32) = 0 from rfl)]
    rw [show mX13_in (nI 17) 28 29 = some 0 from by decide, Option.bind_some, if_pos (show (0 : Int32) = 0 from rfl)]
    rw [show mX13_in (nI 17) 18 19 = some 0 from by decide, Option.bind_some, if_pos (show (0 : Int32) = 0 from rfl)]
    rw [show mX13_in (nI 17) 14 17 = some 1 from by decide, Option.bind_some, if_neg (show ¬ (1 : Int32) = 0 by decide)]
    rw [if_neg (show ¬ nI 17 = 14 by decide), if_pos (show nI 17 = 17 from rfl)]
    simp only [Option.bind_some]
    rw [if_neg (show ¬ nI 17 = 15 by decide)]
    simp only [Option.bind_some]
    rw [e3]
    simp only [Option.bind_some]
    rw [e2]
    rfl
  exact ⟨_, (vp_updL xc q (Int64.ofBitVec (sgn b ((nI (alk true false (wd b) (c i))).toInt64).toBitVec)), xp, nI pn, rv, bI b), (bI b, B2, mp, nI pn, ds, mn, mi, fd, on, ot, s2, re), eC, eR, ⟨b, _, _, _, hC.up q _, rfl, rfl, hB2, hp.1, rfl, rfl, hp.2⟩⟩
set_option maxHeartbeats 4000000 in
set_option maxRecDepth 100000 in
theorem dv_18 {k s w len : Nat} {vb : Nat → Nat} {pf pt f fr bs es : Nat → Int32} {ar : Nat → Nat → Int64} {vs : Nat → Int64} {b : Bool} {c : Nat → BitVec 64} {pn : Nat} {pg : Nat → Nat} {xc : Nat → Int64} {xp : Nat → Int32} {rv : Int64} {B : Nat → Nat → Int32} {mp ds fd on ot su re : Nat → Int32} {mn mi : Int32} (hk : 310 < k) (hvb : vb s = 18) (hC : isC xc c) (hB : isB B c) (hp : pn ≤ 65 ∧ ∀ i, i < pn → xp i = nI (pg i) ∧ mp i = nI (pg i) ∧ 0 < pg i ∧ pg i < 256) {i : Nat} (hi : i < 8) (a1 : (ar s 0).toInt32 = nI i) (g1 : (vs (w + 1)).toInt32 = nI i) {q : Nat} (hq : q < 8) (a2 : (ar s 1).toInt32 = nI q) (g2 : (vs (w + 2)).toInt32 = nI q) (hw : w + 2 < 300) : ∃ ok X2 M2, mX4_carryOut k 300 65 vb pf pt ar f (nI len) xc xp (nI pn) rv (bI b) s = some (ok, X2) ∧ mX13_does k (bI b) B mp (nI pn) ds mn mi fd on ot su re fr bs es vs (nI 18) (nI w) = some (ok, M2) ∧ TRR X2 M2 := by
  obtain ⟨z, ez, hz⟩ := pr_rotated (b := b) (left := true) ((Int64.ofBitVec (c q)).toInt32) hC hi
  have hy : ∀ q, q < wd b → (z.setWidth (wd b)).getLsbD q = z.getLsbD q := fun q hq => by rw [BitVec.getLsbD_setWidth, decide_eq_true hq, Bool.true_and]
  obtain ⟨B2, s2, e2, hP⟩ := pr_turns (left := true) (k := k) (B := B) (f := su) (y := z.setWidth (wd b)) ((Int64.ofBitVec (c q)).toInt32) (hB i hi) hi (by omega) (fun q hq => (hy q hq).trans (hz q hq))
  have ez' : mX2_rotated xc (bI b) (nI i) ((Int64.ofBitVec (c q)).toInt32) 1 = some (Int64.ofBitVec z) := ez
  have e2' : mX12_turns k (bI b) B su (nI i) ((Int64.ofBitVec (c q)).toInt32) 1 = some (Int64.ofBitVec ((z.setWidth (wd b)).signExtend 64), B2, s2) := e2
  have e3 : mX12_told_r k B 32 q = some (lN (((c q).setWidth 32).signExtend 64).toNat) := pr_told ((hB q hq).sub (by decide)) (by decide) (by decide) (by omega)
  have eC : mX4_carryOut k 300 65 vb pf pt ar f (nI len) xc xp (nI pn) rv (bI b) s = some (1, vp_updL xc i (Int64.ofBitVec (sgn b z)), xp, nI pn, rv, bI b) := by
    rw [mX4_carryOut, sm0, Option.bind_some, sm1, Option.bind_some, sm2, Option.bind_some]
    rw [hvb, if_neg (show ¬ 31 ≤ 18 by decide), if_neg (show ¬ (nI 18 < 0 ∨ 31 ≤ (nI 18).toNatClampNeg) by decide), show swI (nI 18).toNatClampNeg = 23 from by decide, if_neg (show ¬ (23 : Int32) = 1 by decide), if_neg (show ¬ (23 : Int32) = 2 by decide), if_neg (show ¬ (23 : Int32) = 3 by decide), if_neg (show ¬ (23 : Int32) = 4 by decide), if_neg (show ¬ (23 : Int32) = 5 by decide), if_neg (show ¬ (23 : Int32) = 6 by decide), if_neg (show ¬ (23 : Int32) = 7 by decide), if_neg (show ¬ (23 : Int32) = 8 by decide), if_neg (show ¬ (23 : Int32) = 9 by decide), if_neg (show ¬ (23 : Int32) = 10 by decide), if_neg (show ¬ (23 : Int32) = 11 by decide), if_neg (show ¬ (23 : Int32) = 12 by decide), if_neg (show ¬ (23 : Int32) = 13 by decide), if_neg (show ¬ (23 : Int32) = 14 by decide), if_neg (show ¬ (23 : Int32) = 15 by decide), if_neg (show ¬ (23 : Int32) = 16 by decide), if_neg (show ¬ (23 : Int32) = 17 by decide), if_neg (show ¬ (23 : Int32) = 18 by decide), if_neg (show ¬ 31 ≤ 18 by decide), mX4_changed, if_neg (show ¬ (nI 18 < 0 ∨ 31 ≤ (nI 18).toNatClampNeg) by decide), show swI (nI 18).toNatClampNeg = 23 from by decide, if_neg (show ¬ (23 : Int32) = 19 by decide), if_neg (show ¬ (23 : Int32) = 20 by decide), if_neg (show ¬ (23 : Int32) = 21 by decide), if_neg (show ¬ (23 : Int32) = 22 by decide), if_pos (show (23 : Int32) = 23 from rfl), a1, a2, pr_allBits hC hq]
    simp only [Option.bind_some]
    rw [ez']
    simp only [Option.bind_some]
    rw [pr_put b z hi]
    rfl
  have eR : mX13_does k (bI b) B mp (nI pn) ds mn mi fd on ot su re fr bs es vs (nI 18) (nI w) = some (1, bI b, B2, mp, nI pn, ds, mn, mi, fd, on, ot, s2, re) := by
    rw [mX13_does, if_neg (show ¬ nI 18 = 0 by decide), if_neg (show ¬ nI 18 = 1 by decide), ce1 (by omega), Option.bind_some, g1]
    rw [show mX13_in (nI 18) 2 8 = some 0 from by decide, Option.bind_some, if_pos (show (0 : Int32) = 0 from rfl)]
    rw [show mX13_in (nI 18) 9 13 = some 0 from by decide, Option.bind_some, if_pos (show (0 : Int32) = 0 from rfl)]
    rw [ce2 (by omega), Option.bind_some, g2]
    rw [show mX13_in (nI 18) 26 27 = some 0 from by decide, Option.bind_some, if_pos (show (0 : Int32) = 0 from rfl)]
    rw [show mX13_in (nI 18) 28 29 = some 0 from by decide, Option.bind_some, if_pos (show (0 : Int32) = 0 from rfl)]
    rw [show mX13_in (nI 18) 18 19 = some 1 from by decide, Option.bind_some, if_neg (show ¬ (1 : Int32) = 0 by decide)]
    rw [if_neg (nI_in hq (by omega)), nI_clamp (show q < 2 ^ 31 by omega), e3]
    simp only [Option.bind_some]
    rw [told32, if_pos (show nI 18 = 18 from rfl)]
    simp only [Option.bind_some]
    rw [e2']
    rfl
  exact ⟨_, (vp_updL xc i (Int64.ofBitVec (sgn b z)), xp, nI pn, rv, bI b), (bI b, B2, mp, nI pn, ds, mn, mi, fd, on, ot, s2, re), eC, eR, ⟨b, _, _, _, hC.up i (sgn b z), rfl, rfl, putsTo.up hB hP, hp.1, rfl, rfl, hp.2⟩⟩
set_option maxHeartbeats 4000000 in
set_option maxRecDepth 100000 in
theorem dv_19 {k s w len : Nat} {vb : Nat → Nat} {pf pt f fr bs es : Nat → Int32} {ar : Nat → Nat → Int64} {vs : Nat → Int64} {b : Bool} {c : Nat → BitVec 64} {pn : Nat} {pg : Nat → Nat} {xc : Nat → Int64} {xp : Nat → Int32} {rv : Int64} {B : Nat → Nat → Int32} {mp ds fd on ot su re : Nat → Int32} {mn mi : Int32} (hk : 310 < k) (hvb : vb s = 19) (hC : isC xc c) (hB : isB B c) (hp : pn ≤ 65 ∧ ∀ i, i < pn → xp i = nI (pg i) ∧ mp i = nI (pg i) ∧ 0 < pg i ∧ pg i < 256) {i : Nat} (hi : i < 8) (a1 : (ar s 0).toInt32 = nI i) (g1 : (vs (w + 1)).toInt32 = nI i) {q : Nat} (hq : q < 8) (a2 : (ar s 1).toInt32 = nI q) (g2 : (vs (w + 2)).toInt32 = nI q) (hw : w + 2 < 300) : ∃ ok X2 M2, mX4_carryOut k 300 65 vb pf pt ar f (nI len) xc xp (nI pn) rv (bI b) s = some (ok, X2) ∧ mX13_does k (bI b) B mp (nI pn) ds mn mi fd on ot su re fr bs es vs (nI 19) (nI w) = some (ok, M2) ∧ TRR X2 M2 := by
  obtain ⟨z, ez, hz⟩ := pr_rotated (b := b) (left := false) ((Int64.ofBitVec (c q)).toInt32) hC hi
  have hy : ∀ q, q < wd b → (z.setWidth (wd b)).getLsbD q = z.getLsbD q := fun q hq => by rw [BitVec.getLsbD_setWidth, decide_eq_true hq, Bool.true_and]
  obtain ⟨B2, s2, e2, hP⟩ := pr_turns (left := false) (k := k) (B := B) (f := su) (y := z.setWidth (wd b)) ((Int64.ofBitVec (c q)).toInt32) (hB i hi) hi (by omega) (fun q hq => (hy q hq).trans (hz q hq))
  have ez' : mX2_rotated xc (bI b) (nI i) ((Int64.ofBitVec (c q)).toInt32) 0 = some (Int64.ofBitVec z) := ez
  have e2' : mX12_turns k (bI b) B su (nI i) ((Int64.ofBitVec (c q)).toInt32) 0 = some (Int64.ofBitVec ((z.setWidth (wd b)).signExtend 64), B2, s2) := e2
  have e3 : mX12_told_r k B 32 q = some (lN (((c q).setWidth 32).signExtend 64).toNat) := pr_told ((hB q hq).sub (by decide)) (by decide) (by decide) (by omega)
  have eC : mX4_carryOut k 300 65 vb pf pt ar f (nI len) xc xp (nI pn) rv (bI b) s = some (1, vp_updL xc i (Int64.ofBitVec (sgn b z)), xp, nI pn, rv, bI b) := by
    rw [mX4_carryOut, sm0, Option.bind_some, sm1, Option.bind_some, sm2, Option.bind_some]
    rw [hvb, if_neg (show ¬ 31 ≤ 19 by decide), if_neg (show ¬ (nI 19 < 0 ∨ 31 ≤ (nI 19).toNatClampNeg) by decide), show swI (nI 19).toNatClampNeg = 24 from by decide, if_neg (show ¬ (24 : Int32) = 1 by decide), if_neg (show ¬ (24 : Int32) = 2 by decide), if_neg (show ¬ (24 : Int32) = 3 by decide), if_neg (show ¬ (24 : Int32) = 4 by decide), if_neg (show ¬ (24 : Int32) = 5 by decide), if_neg (show ¬ (24 : Int32) = 6 by decide), if_neg (show ¬ (24 : Int32) = 7 by decide), if_neg (show ¬ (24 : Int32) = 8 by decide), if_neg (show ¬ (24 : Int32) = 9 by decide), if_neg (show ¬ (24 : Int32) = 10 by decide), if_neg (show ¬ (24 : Int32) = 11 by decide), if_neg (show ¬ (24 : Int32) = 12 by decide), if_neg (show ¬ (24 : Int32) = 13 by decide), if_neg (show ¬ (24 : Int32) = 14 by decide), if_neg (show ¬ (24 : Int32) = 15 by decide), if_neg (show ¬ (24 : Int32) = 16 by decide), if_neg (show ¬ (24 : Int32) = 17 by decide), if_neg (show ¬ (24 : Int32) = 18 by decide), if_neg (show ¬ 31 ≤ 19 by decide), mX4_changed, if_neg (show ¬ (nI 19 < 0 ∨ 31 ≤ (nI 19).toNatClampNeg) by decide), show swI (nI 19).toNatClampNeg = 24 from by decide, if_neg (show ¬ (24 : Int32) = 19 by decide), if_neg (show ¬ (24 : Int32) = 20 by decide), if_neg (show ¬ (24 : Int32) = 21 by decide), if_neg (show ¬ (24 : Int32) = 22 by decide), if_neg (show ¬ (24 : Int32) = 23 by decide), if_pos (show (24 : Int32) = 24 from rfl), a1, a2, pr_allBits hC hq]
    simp only [Option.bind_some]
    rw [ez']
    simp only [Option.bind_some]
    rw [pr_put b z hi]
    rfl
  have eR : mX13_does k (bI b) B mp (nI pn) ds mn mi fd on ot su re fr bs es vs (nI 19) (nI w) = some (1, bI b, B2, mp, nI pn, ds, mn, mi, fd, on, ot, s2, re) := by
    rw [mX13_does, if_neg (show ¬ nI 19 = 0 by decide), if_neg (show ¬ nI 19 = 1 by decide), ce1 (by omega), Option.bind_some, g1]
    rw [show mX13_in (nI 19) 2 8 = some 0 from by decide, Option.bind_some, if_pos (show (0 : Int32) = 0 from rfl)]
    rw [show mX13_in (nI 19) 9 13 = some 0 from by decide, Option.bind_some, if_pos (show (0 : Int32) = 0 from rfl)]
    rw [ce2 (by omega), Option.bind_some, g2]
    rw [show mX13_in (nI 19) 26 27 = some 0 from by decide, Option.bind_some, if_pos (show (0 : Int32) = 0 from rfl)]
    rw [show mX13_in (nI 19) 28 29 = some 0 from by decide, Option.bind_some, if_pos (show (0 : Int32) = 0 from rfl)]
    rw [show mX13_in (nI 19) 18 19 = some 1 from by decide, Option.bind_some, if_neg (show ¬ (1 : Int32) = 0 by decide)]
    rw [if_neg (nI_in hq (by omega)), nI_clamp (show q < 2 ^ 31 by omega), e3]
    simp only [Option.bind_some]
    rw [told32, if_neg (show ¬ nI 19 = 18 by decide)]
    simp only [Option.bind_some]
    rw [e2']
    rfl
  exact ⟨_, (vp_updL xc i (Int64.ofBitVec (sgn b z)), xp, nI pn, rv, bI b), (bI b, B2, mp, nI pn, ds, mn, mi, fd, on, ot, s2, re), eC, eR, ⟨b, _, _, _, hC.up i (sgn b z), rfl, rfl, putsTo.up hB hP, hp.1, rfl, rfl, hp.2⟩⟩
set_option maxHeartbeats 4000000 in
set_option maxRecDepth 100000 in
theorem dv_20 {k s w len : Nat} {vb : Nat → Nat} {pf pt f fr bs es : Nat → Int32} {ar : Nat → Nat → Int64} {vs : Nat → Int64} {b : Bool} {c : Nat → BitVec 64} {pn : Nat} {pg : Nat → Nat} {xc : Nat → Int64} {xp : Nat → Int32} {rv : Int64} {B : Nat → Nat → Int32} {mp ds fd on ot su re : Nat → Int32} {mn mi : Int32} (hk : 310 < k) (hvb : vb s = 20) (hC : isC xc c) (hB : isB B c) (hp : pn ≤ 65 ∧ ∀ i, i < pn → xp i = nI (pg i) ∧ mp i = nI (pg i) ∧ 0 < pg i ∧ pg i < 256) {i : Nat} (hi : i < 8) (a1 : (ar s 0).toInt32 = nI i) (g1 : (vs (w + 1)).toInt32 = nI i) {q : Nat} (hq : q < 8) (a2 : (ar s 1).toInt32 = nI q) (g2 : (vs (w + 2)).toInt32 = nI q) (hw : w + 2 < 300) : ∃ ok X2 M2, mX4_carryOut k 300 65 vb pf pt ar f (nI len) xc xp (nI pn) rv (bI b) s = some (ok, X2) ∧ mX13_does k (bI b) B mp (nI pn) ds mn mi fd on ot su re fr bs es vs (nI 20) (nI w) = some (ok, M2) ∧ TRR X2 M2 := by
  obtain ⟨B2, o2, s2, e2, hP⟩ := pr_combines (b := b) (p3 := 0) (k := k) (one := on) (sum := su) hB hi hq (by omega)
  have hs : sgn b (cmb 0 (sgn b (c i)) (sgn b (c q))) = (cmb 0 ((c i).setWidth (wd b)) ((c q).setWidth (wd b))).signExtend 64 := sgn_of (by rw [cmb_low 0 (wd_le b), sgn_low, sgn_low])
  have eC : mX4_carryOut k 300 65 vb pf pt ar f (nI len) xc xp (nI pn) rv (bI b) s = some (1, vp_updL xc i (Int64.ofBitVec (sgn b (cmb 0 (sgn b (c i)) (sgn b (c q))))), xp, nI pn, rv, bI b) := by
    rw [mX4_carryOut, sm0, Option.bind_some, sm1, Option.bind_some, sm2, Option.bind_some]
    rw [hvb, if_neg (show ¬ 31 ≤ 20 by decide), if_neg (show ¬ (nI 20 < 0 ∨ 31 ≤ (nI 20).toNatClampNeg) by decide), show swI (nI 20).toNatClampNeg = 25 from by decide, if_neg (show ¬ (25 : Int32) = 1 by decide), if_neg (show ¬ (25 : Int32) = 2 by decide), if_neg (show ¬ (25 : Int32) = 3 by decide), if_neg (show ¬ (25 : Int32) = 4 by decide), if_neg (show ¬ (25 : Int32) = 5 by decide), if_neg (show ¬ (25 : Int32) = 6 by decide), if_neg (show ¬ (25 : Int32) = 7 by decide), if_neg (show ¬ (25 : Int32) = 8 by decide), if_neg (show ¬ (25 : Int32) = 9 by decide), if_neg (show ¬ (25 : Int32) = 10 by decide), if_neg (show ¬ (25 : Int32) = 11 by decide), if_neg (show ¬ (25 : Int32) = 12 by decide), if_neg (show ¬ (25 : Int32) = 13 by decide), if_neg (show ¬ (25 : Int32) = 14 by decide), if_neg (show ¬ (25 : Int32) = 15 by decide), if_neg (show ¬ (25 : Int32) = 16 by decide), if_neg (show ¬ (25 : Int32) = 17 by decide), if_neg (show ¬ (25 : Int32) = 18 by decide), if_neg (show ¬ 31 ≤ 20 by decide), mX4_changed, if_neg (show ¬ (nI 20 < 0 ∨ 31 ≤ (nI 20).toNatClampNeg) by decide), show swI (nI 20).toNatClampNeg = 25 from by decide, if_neg (show ¬ (25 : Int32) = 19 by decide), if_neg (show ¬ (25 : Int32) = 20 by decide), if_neg (show ¬ (25 : Int32) = 21 by decide), if_neg (show ¬ (25 : Int32) = 22 by decide), if_neg (show ¬ (25 : Int32) = 23 by decide), if_neg (show ¬ (25 : Int32) = 24 by decide), if_pos (show (25 : Int32) = 25 from rfl), a1, a2, pr_combined 0 hC hi hq]
    simp only [Option.bind_some]
    rw [pr_put b _ hi]
    rfl
  have eR : mX13_does k (bI b) B mp (nI pn) ds mn mi fd on ot su re fr bs es vs (nI 20) (nI w) = some (1, bI b, B2, mp, nI pn, ds, mn, mi, fd, o2, ot, s2, re) := by
    rw [mX13_does, if_neg (show ¬ nI 20 = 0 by decide), if_neg (show ¬ nI 20 = 1 by decide), ce1 (by omega), Option.bind_some, g1]
    rw [show mX13_in (nI 20) 2 8 = some 0 from by decide, Option.bind_some, if_pos (show (0 : Int32) = 0 from rfl)]
    rw [show mX13_in (nI 20) 9 13 = some 0 from by decide, Option.bind_some, if_pos (show (0 : Int32) = 0 from rfl)]
    rw [ce2 (by omega), Option.bind_some, g2]
    rw [show mX13_in (nI 20) 26 27 = some 0 from by decide, Option.bind_some, if_pos (show (0 : Int32) = 0 from rfl)]
    rw [show mX13_in (nI 20) 28 29 = some 0 from by decide, Option.bind_some, if_pos (show (0 : Int32) = 0 from rfl)]
    rw [show mX13_in (nI 20) 18 19 = some 0 from by decide, Option.bind_some, if_pos (show (0 : Int32) = 0 from rfl)]
    rw [show mX13_in (nI 20) 14 17 = some 0 from by decide, Option.bind_some, if_pos (show (0 : Int32) = 0 from rfl)]
    rw [show nI 20 - 20 = 0 from by decide, e2]
    rfl
  exact ⟨_, (vp_updL xc i (Int64.ofBitVec (sgn b (cmb 0 (sgn b (c i)) (sgn b (c q))))), xp, nI pn, rv, bI b), (bI b, B2, mp, nI pn, ds, mn, mi, fd, o2, ot, s2, re), eC, eR, ⟨b, _, _, _, hC.up i _, rfl, rfl, (hs ▸ putsTo.up hB hP), hp.1, rfl, rfl, hp.2⟩⟩
set_option maxHeartbeats 4000000 in
set_option maxRecDepth 100000 in
theorem dv_21 {k s w len : Nat} {vb : Nat → Nat} {pf pt f fr bs es : Nat → Int32} {ar : Nat → Nat → Int64} {vs : Nat → Int64} {b : Bool} {c : Nat → BitVec 64} {pn : Nat} {pg : Nat → Nat} {xc : Nat → Int64} {xp : Nat → Int32} {rv : Int64} {B : Nat → Nat → Int32} {mp ds fd on ot su re : Nat → Int32} {mn mi : Int32} (hk : 310 < k) (hvb : vb s = 21) (hC : isC xc c) (hB : isB B c) (hp : pn ≤ 65 ∧ ∀ i, i < pn → xp i = nI (pg i) ∧ mp i = nI (pg i) ∧ 0 < pg i ∧ pg i < 256) {i : Nat} (hi : i < 8) (a1 : (ar s 0).toInt32 = nI i) (g1 : (vs (w + 1)).toInt32 = nI i) {q : Nat} (hq : q < 8) (a2 : (ar s 1).toInt32 = nI q) (g2 : (vs (w + 2)).toInt32 = nI q) (hw : w + 2 < 300) : ∃ ok X2 M2, mX4_carryOut k 300 65 vb pf pt ar f (nI len) xc xp (nI pn) rv (bI b) s = some (ok, X2) ∧ mX13_does k (bI b) B mp (nI pn) ds mn mi fd on ot su re fr bs es vs (nI 21) (nI w) = some (ok, M2) ∧ TRR X2 M2 := by
  obtain ⟨B2, o2, s2, e2, hP⟩ := pr_combines (b := b) (p3 := 1) (k := k) (one := on) (sum := su) hB hi hq (by omega)
  have hs : sgn b (cmb 1 (sgn b (c i)) (sgn b (c q))) = (cmb 1 ((c i).setWidth (wd b)) ((c q).setWidth (wd b))).signExtend 64 := sgn_of (by rw [cmb_low 1 (wd_le b), sgn_low, sgn_low])
  have eC : mX4_carryOut k 300 65 vb pf pt ar f (nI len) xc xp (nI pn) rv (bI b) s = some (1, vp_updL xc i (Int64.ofBitVec (sgn b (cmb 1 (sgn b (c i)) (sgn b (c q))))), xp, nI pn, rv, bI b) := by
    rw [mX4_carryOut, sm0, Option.bind_some, sm1, Option.bind_some, sm2, Option.bind_some]
    rw [hvb, if_neg (show ¬ 31 ≤ 21 by decide), if_neg (show ¬ (nI 21 < 0 ∨ 31 ≤ (nI 21).toNatClampNeg) by decide), show swI (nI 21).toNatClampNeg = 26 from by decide, if_neg (show ¬ (26 : Int32) = 1 by decide), if_neg (show ¬ (26 : Int32) = 2 by decide), if_neg (show ¬ (26 : Int32) = 3 by decide), if_neg (show ¬ (26 : Int32) = 4 by decide), if_neg (show ¬ (26 : Int32) = 5 by decide), if_neg (show ¬ (26 : Int32) = 6 by decide), if_neg (show ¬ (26 : Int32) = 7 by decide), if_neg (show ¬ (26 : Int32) = 8 by decide), if_neg (show ¬ (26 : Int32) = 9 by decide), if_neg (show ¬ (26 : Int32) = 10 by decide), if_neg (show ¬ (26 : Int32) = 11 by decide), if_neg (show ¬ (26 : Int32) = 12 by decide), if_neg (show ¬ (26 : Int32) = 13 by decide), if_neg (show ¬ (26 : Int32) = 14 by decide), if_neg (show ¬ (26 : Int32) = 15 by decide), if_neg (show ¬ (26 : Int32) = 16 by decide), if_neg (show ¬ (26 : Int32) = 17 by decide), if_neg (show ¬ (26 : Int32) = 18 by decide), if_neg (show ¬ 31 ≤ 21 by decide), mX4_changed, if_neg (show ¬ (nI 21 < 0 ∨ 31 ≤ (nI 21).toNatClampNeg) by decide), show swI (nI 21).toNatClampNeg = 26 from by decide, if_neg (show ¬ (26 : Int32) = 19 by decide), if_neg (show ¬ (26 : Int32) = 20 by decide), if_neg (show ¬ (26 : Int32) = 21 by decide), if_neg (show ¬ (26 : Int32) = 22 by decide), if_neg (show ¬ (26 : Int32) = 23 by decide), if_neg (show ¬ (26 : Int32) = 24 by decide), if_neg (show ¬ (26 : Int32) = 25 by decide), if_pos (show (26 : Int32) = 26 from rfl), a1, a2, pr_combined 1 hC hi hq]
    simp only [Option.bind_some]
    rw [pr_put b _ hi]
    rfl
  have eR : mX13_does k (bI b) B mp (nI pn) ds mn mi fd on ot su re fr bs es vs (nI 21) (nI w) = some (1, bI b, B2, mp, nI pn, ds, mn, mi, fd, o2, ot, s2, re) := by
    rw [mX13_does, if_neg (show ¬ nI 21 = 0 by decide), if_neg (show ¬ nI 21 = 1 by decide), ce1 (by omega), Option.bind_some, g1]
    rw [show mX13_in (nI 21) 2 8 = some 0 from by decide, Option.bind_some, if_pos (show (0 : Int32) = 0 from rfl)]
    rw [show mX13_in (nI 21) 9 13 = some 0 from by decide, Option.bind_some, if_pos (show (0 : Int32) = 0 from rfl)]
    rw [ce2 (by omega), Option.bind_some, g2]
    rw [show mX13_in (nI 21) 26 27 = some 0 from by decide, Option.bind_some, if_pos (show (0 : Int32) = 0 from rfl)]
    rw [show mX13_in (nI 21) 28 29 = some 0 from by decide, Option.bind_some, if_pos (show (0 : Int32) = 0 from rfl)]
    rw [show mX13_in (nI 21) 18 19 = some 0 from by decide, Option.bind_some, if_pos (show (0 : Int32) = 0 from rfl)]
    rw [show mX13_in (nI 21) 14 17 = some 0 from by decide, Option.bind_some, if_pos (show (0 : Int32) = 0 from rfl)]
    rw [show nI 21 - 20 = 1 from by decide, e2]
    rfl
  exact ⟨_, (vp_updL xc i (Int64.ofBitVec (sgn b (cmb 1 (sgn b (c i)) (sgn b (c q))))), xp, nI pn, rv, bI b), (bI b, B2, mp, nI pn, ds, mn, mi, fd, o2, ot, s2, re), eC, eR, ⟨b, _, _, _, hC.up i _, rfl, rfl, (hs ▸ putsTo.up hB hP), hp.1, rfl, rfl, hp.2⟩⟩
set_option maxHeartbeats 4000000 in
set_option maxRecDepth 100000 in
theorem dv_22 {k s w len : Nat} {vb : Nat → Nat} {pf pt f fr bs es : Nat → Int32} {ar : Nat → Nat → Int64} {vs : Nat → Int64} {b : Bool} {c : Nat → BitVec 64} {pn : Nat} {pg : Nat → Nat} {xc : Nat → Int64} {xp : Nat → Int32} {rv : Int64} {B : Nat → Nat → Int32} {mp ds fd on ot su re : Nat → Int32} {mn mi : Int32} (hk : 310 < k) (hvb : vb s = 22) (hC : isC xc c) (hB : isB B c) (hp : pn ≤ 65 ∧ ∀ i, i < pn → xp i = nI (pg i) ∧ mp i = nI (pg i) ∧ 0 < pg i ∧ pg i < 256) {i : Nat} (hi : i < 8) (a1 : (ar s 0).toInt32 = nI i) (g1 : (vs (w + 1)).toInt32 = nI i) {q : Nat} (hq : q < 8) (a2 : (ar s 1).toInt32 = nI q) (g2 : (vs (w + 2)).toInt32 = nI q) (hw : w + 2 < 300) : ∃ ok X2 M2, mX4_carryOut k 300 65 vb pf pt ar f (nI len) xc xp (nI pn) rv (bI b) s = some (ok, X2) ∧ mX13_does k (bI b) B mp (nI pn) ds mn mi fd on ot su re fr bs es vs (nI 22) (nI w) = some (ok, M2) ∧ TRR X2 M2 := by
  obtain ⟨B2, o2, s2, e2, hP⟩ := pr_combines (b := b) (p3 := 2) (k := k) (one := on) (sum := su) hB hi hq (by omega)
  have hs : sgn b (cmb 2 (sgn b (c i)) (sgn b (c q))) = (cmb 2 ((c i).setWidth (wd b)) ((c q).setWidth (wd b))).signExtend 64 := sgn_of (by rw [cmb_low 2 (wd_le b), sgn_low, sgn_low])
  have eC : mX4_carryOut k 300 65 vb pf pt ar f (nI len) xc xp (nI pn) rv (bI b) s = some (1, vp_updL xc i (Int64.ofBitVec (sgn b (cmb 2 (sgn b (c i)) (sgn b (c q))))), xp, nI pn, rv, bI b) := by
    rw [mX4_carryOut, sm0, Option.bind_some, sm1, Option.bind_some, sm2, Option.bind_some]
    rw [hvb, if_neg (show ¬ 31 ≤ 22 by decide), if_neg (show ¬ (nI 22 < 0 ∨ 31 ≤ (nI 22).toNatClampNeg) by decide), show swI (nI 22).toNatClampNeg = 27 from by decide, if_neg (show ¬ (27 : Int32) = 1 by decide), if_neg (show ¬ (27 : Int32) = 2 by decide), if_neg (show ¬ (27 : Int32) = 3 by decide), if_neg (show ¬ (27 : Int32) = 4 by decide), if_neg (show ¬ (27 : Int32) = 5 by decide), if_neg (show ¬ (27 : Int32) = 6 by decide), if_neg (show ¬ (27 : Int32) = 7 by decide), if_neg (show ¬ (27 : Int32) = 8 by decide), if_neg (show ¬ (27 : Int32) = 9 by decide), if_neg (show ¬ (27 : Int32) = 10 by decide), if_neg (show ¬ (27 : Int32) = 11 by decide), if_neg (show ¬ (27 : Int32) = 12 by decide), if_neg (show ¬ (27 : Int32) = 13 by decide), if_neg (show ¬ (27 : Int32) = 14 by decide), if_neg (show ¬ (27 : Int32) = 15 by decide), if_neg (show ¬ (27 : Int32) = 16 by decide), if_neg (show ¬ (27 : Int32) = 17 by decide), if_neg (show ¬ (27 : Int32) = 18 by decide), if_neg (show ¬ 31 ≤ 22 by decide), mX4_changed, if_neg (show ¬ (nI 22 < 0 ∨ 31 ≤ (nI 22).toNatClampNeg) by decide), show swI (nI 22).toNatClampNeg = 27 from by decide, if_neg (show ¬ (27 : Int32) = 19 by decide), if_neg (show ¬ (27 : Int32) = 20 by decide), if_neg (show ¬ (27 : Int32) = 21 by decide), if_neg (show ¬ (27 : Int32) = 22 by decide), if_neg (show ¬ (27 : Int32) = 23 by decide), if_neg (show ¬ (27 : Int32) = 24 by decide), if_neg (show ¬ (27 : Int32) = 25 by decide), if_neg (show ¬ (27 : Int32) = 26 by decide), if_pos (show (27 : Int32) = 27 from rfl), a1, a2, pr_combined 2 hC hi hq]
    simp only [Option.bind_some]
    rw [pr_put b _ hi]
    rfl
  have eR : mX13_does k (bI b) B mp (nI pn) ds mn mi fd on ot su re fr bs es vs (nI 22) (nI w) = some (1, bI b, B2, mp, nI pn, ds, mn, mi, fd, o2, ot, s2, re) := by
    rw [mX13_does, if_neg (show ¬ nI 22 = 0 by decide), if_neg (show ¬ nI 22 = 1 by decide), ce1 (by omega), Option.bind_some, g1]
    rw [show mX13_in (nI 22) 2 8 = some 0 from by decide, Option.bind_some, if_pos (show (0 : Int32) = 0 from rfl)]
    rw [show mX13_in (nI 22) 9 13 = some 0 from by decide, Option.bind_some, if_pos (show (0 : Int32) = 0 from rfl)]
    rw [ce2 (by omega), Option.bind_some, g2]
    rw [show mX13_in (nI 22) 26 27 = some 0 from by decide, Option.bind_some, if_pos (show (0 : Int32) = 0 from rfl)]
    rw [show mX13_in (nI 22) 28 29 = some 0 from by decide, Option.bind_some, if_pos (show (0 : Int32) = 0 from rfl)]
    rw [show mX13_in (nI 22) 18 19 = some 0 from by decide, Option.bind_some, if_pos (show (0 : Int32) = 0 from rfl)]
    rw [show mX13_in (nI 22) 14 17 = some 0 from by decide, Option.bind_some, if_pos (show (0 : Int32) = 0 from rfl)]
    rw [show nI 22 - 20 = 2 from by decide, e2]
    rfl
  exact ⟨_, (vp_updL xc i (Int64.ofBitVec (sgn b (cmb 2 (sgn b (c i)) (sgn b (c q))))), xp, nI pn, rv, bI b), (bI b, B2, mp, nI pn, ds, mn, mi, fd, o2, ot, s2, re), eC, eR, ⟨b, _, _, _, hC.up i _, rfl, rfl, (hs ▸ putsTo.up hB hP), hp.1, rfl, rfl, hp.2⟩⟩
set_option maxHeartbeats 4000000 in
set_option maxRecDepth 100000 in
theorem dv_23 {k s w len : Nat} {vb : Nat → Nat} {pf pt f fr bs es : Nat → Int32} {ar : Nat → Nat → Int64} {vs : Nat → Int64} {b : Bool} {c : Nat → BitVec 64} {pn : Nat} {pg : Nat → Nat} {xc : Nat → Int64} {xp : Nat → Int32} {rv : Int64} {B : Nat → Nat → Int32} {mp ds fd on ot su re : Nat → Int32} {mn mi : Int32} (hk : 310 < k) (hvb : vb s = 23) (hC : isC xc c) (hB : isB B c) (hp : pn ≤ 65 ∧ ∀ i, i < pn → xp i = nI (pg i) ∧ mp i = nI (pg i) ∧ 0 < pg i ∧ pg i < 256) {i : Nat} (hi : i < 8) (a1 : (ar s 0).toInt32 = nI i) (g1 : (vs (w + 1)).toInt32 = nI i) {q : Nat} (hq : q < 8) (a2 : (ar s 1).toInt32 = nI q) (g2 : (vs (w + 2)).toInt32 = nI q) (hw : w + 2 < 300) : ∃ ok X2 M2, mX4_carryOut k 300 65 vb pf pt ar f (nI len) xc xp (nI pn) rv (bI b) s = some (ok, X2) ∧ mX13_does k (bI b) B mp (nI pn) ds mn mi fd on ot su re fr bs es vs (nI 23) (nI w) = some (ok, M2) ∧ TRR X2 M2 := by
  obtain ⟨B2, o2, s2, e2, hP⟩ := pr_combines (b := b) (p3 := 3) (k := k) (one := on) (sum := su) hB hi hq (by omega)
  have hs : sgn b (cmb 3 (sgn b (c i)) (sgn b (c q))) = (cmb 3 ((c i).setWidth (wd b)) ((c q).setWidth (wd b))).signExtend 64 := sgn_of (by rw [cmb_low 3 (wd_le b), sgn_low, sgn_low])
  have eC : mX4_carryOut k 300 65 vb pf pt ar f (nI len) xc xp (nI pn) rv (bI b) s = some (1, vp_updL xc i (Int64.ofBitVec (sgn b (cmb 3 (sgn b (c i)) (sgn b (c q))))), xp, nI pn, rv, bI b) := by
    rw [mX4_carryOut, sm0, Option.bind_some, sm1, Option.bind_some, sm2, Option.bind_some]
    rw [hvb, if_neg (show ¬ 31 ≤ 23 by decide), if_neg (show ¬ (nI 23 < 0 ∨ 31 ≤ (nI 23).toNatClampNeg) by decide), show swI (nI 23).toNatClampNeg = 28 from by decide, if_neg (show ¬ (28 : Int32) = 1 by decide), if_neg (show ¬ (28 : Int32) = 2 by decide), if_neg (show ¬ (28 : Int32) = 3 by decide), if_neg (show ¬ (28 : Int32) = 4 by decide), if_neg (show ¬ (28 : Int32) = 5 by decide), if_neg (show ¬ (28 : Int32) = 6 by decide), if_neg (show ¬ (28 : Int32) = 7 by decide), if_neg (show ¬ (28 : Int32) = 8 by decide), if_neg (show ¬ (28 : Int32) = 9 by decide), if_neg (show ¬ (28 : Int32) = 10 by decide), if_neg (show ¬ (28 : Int32) = 11 by decide), if_neg (show ¬ (28 : Int32) = 12 by decide), if_neg (show ¬ (28 : Int32) = 13 by decide), if_neg (show ¬ (28 : Int32) = 14 by decide), if_neg (show ¬ (28 : Int32) = 15 by decide), if_neg (show ¬ (28 : Int32) = 16 by decide), if_neg (show ¬ (28 : Int32) = 17 by decide), if_neg (show ¬ (28 : Int32) = 18 by decide), if_neg (show ¬ 31 ≤ 23 by decide), mX4_changed, if_neg (show ¬ (nI 23 < 0 ∨ 31 ≤ (nI 23).toNatClampNeg) by decide), show swI (nI 23).toNatClampNeg = 28 from by decide, if_neg (show ¬ (28 : Int32) = 19 by decide), if_neg (show ¬ (28 : Int32) = 20 by decide), if_neg (show ¬ (28 : Int32) = 21 by decide), if_neg (show ¬ (28 : Int32) = 22 by decide), if_neg (show ¬ (28 : Int32) = 23 by decide), if_neg (show ¬ (28 : Int32) = 24 by decide), if_neg (show ¬ (28 : Int32) = 25 by decide), if_neg (show ¬ (28 : Int32) = 26 by decide), if_neg (show ¬ (28 : Int32) = 27 by decide), if_pos (show (28 : Int32) = 28 from rfl), a1, a2, pr_combined 3 hC hi hq]
    simp only [Option.bind_some]
    rw [pr_put b _ hi]
    rfl
  have eR : mX13_does k (bI b) B mp (nI pn) ds mn mi fd on ot su re fr bs es vs (nI 23) (nI w) = some (1, bI b, B2, mp, nI pn, ds, mn, mi, fd, o2, ot, s2, re) := by
    rw [mX13_does, if_neg (show ¬ nI 23 = 0 by decide), if_neg (show ¬ nI 23 = 1 by decide), ce1 (by omega), Option.bind_some, g1]
    rw [show mX13_in (nI 23) 2 8 = some 0 from by decide, Option.bind_some, if_pos (show (0 : Int32) = 0 from rfl)]
    rw [show mX13_in (nI 23) 9 13 = some 0 from by decide, Option.bind_some, if_pos (show (0 : Int32) = 0 from rfl)]
    rw [ce2 (by omega), Option.bind_some, g2]
    rw [show mX13_in (nI 23) 26 27 = some 0 from by decide, Option.bind_some, if_pos (show (0 : Int32) = 0 from rfl)]
    rw [show mX13_in (nI 23) 28 29 = some 0 from by decide, Option.bind_some, if_pos (show (0 : Int32) = 0 from rfl)]
    rw [show mX13_in (nI 23) 18 19 = some 0 from by decide, Option.bind_some, if_pos (show (0 : Int32) = 0 from rfl)]
    rw [show mX13_in (nI 23) 14 17 = some 0 from by decide, Option.bind_some, if_pos (show (0 : Int32) = 0 from rfl)]
    rw [show nI 23 - 20 = 3 from by decide, e2]
    rfl
  exact ⟨_, (vp_updL xc i (Int64.ofBitVec (sgn b (cmb 3 (sgn b (c i)) (sgn b (c q))))), xp, nI pn, rv, bI b), (bI b, B2, mp, nI pn, ds, mn, mi, fd, o2, ot, s2, re), eC, eR, ⟨b, _, _, _, hC.up i _, rfl, rfl, (hs ▸ putsTo.up hB hP), hp.1, rfl, rfl, hp.2⟩⟩
set_option maxHeartbeats 4000000 in
set_option maxRecDepth 100000 in
theorem dv_24 {k s w len : Nat} {vb : Nat → Nat} {pf pt f fr bs es : Nat → Int32} {ar : Nat → Nat → Int64} {vs : Nat → Int64} {b : Bool} {c : Nat → BitVec 64} {pn : Nat} {pg : Nat → Nat} {xc : Nat → Int64} {xp : Nat → Int32} {rv : Int64} {B : Nat → Nat → Int32} {mp ds fd on ot su re : Nat → Int32} {mn mi : Int32} (hk : 310 < k) (hvb : vb s = 24) (hC : isC xc c) (hB : isB B c) (hp : pn ≤ 65 ∧ ∀ i, i < pn → xp i = nI (pg i) ∧ mp i = nI (pg i) ∧ 0 < pg i ∧ pg i < 256) {i : Nat} (hi : i < 8) (a1 : (ar s 0).toInt32 = nI i) (g1 : (vs (w + 1)).toInt32 = nI i) {q : Nat} (hq : q < 8) (a2 : (ar s 1).toInt32 = nI q) (g2 : (vs (w + 2)).toInt32 = nI q) (hw : w + 2 < 300) : ∃ ok X2 M2, mX4_carryOut k 300 65 vb pf pt ar f (nI len) xc xp (nI pn) rv (bI b) s = some (ok, X2) ∧ mX13_does k (bI b) B mp (nI pn) ds mn mi fd on ot su re fr bs es vs (nI 24) (nI w) = some (ok, M2) ∧ TRR X2 M2 := by
  obtain ⟨B2, o2, s2, e2, hP⟩ := pr_combines (b := b) (p3 := 4) (k := k) (one := on) (sum := su) hB hi hq (by omega)
  have hs : sgn b (cmb 4 (sgn b (c i)) (sgn b (c q))) = (cmb 4 ((c i).setWidth (wd b)) ((c q).setWidth (wd b))).signExtend 64 := sgn_of (by rw [cmb_low 4 (wd_le b), sgn_low, sgn_low])
  have eC : mX4_carryOut k 300 65 vb pf pt ar f (nI len) xc xp (nI pn) rv (bI b) s = some (1, vp_updL xc i (Int64.ofBitVec (sgn b (cmb 4 (sgn b (c i)) (sgn b (c q))))), xp, nI pn, rv, bI b) := by
    rw [mX4_carryOut, sm0, Option.bind_some, sm1, Option.bind_some, sm2, Option.bind_some]
    rw [hvb, if_neg (show ¬ 31 ≤ 24 by decide), if_neg (show ¬ (nI 24 < 0 ∨ 31 ≤ (nI 24).toNatClampNeg) by decide), show swI (nI 24).toNatClampNeg = 29 from by decide, if_neg (show ¬ (29 : Int32) = 1 by decide), if_neg (show ¬ (29 : Int32) = 2 by decide), if_neg (show ¬ (29 : Int32) = 3 by decide), if_neg (show ¬ (29 : Int32) = 4 by decide), if_neg (show ¬ (29 : Int32) = 5 by decide), if_neg (show ¬ (29 : Int32) = 6 by decide), if_neg (show ¬ (29 : Int32) = 7 by decide), if_neg (show ¬ (29 : Int32) = 8 by decide), if_neg (show ¬ (29 : Int32) = 9 by decide), if_neg (show ¬ (29 : Int32) = 10 by decide), if_neg (show ¬ (29 : Int32) = 11 by decide), if_neg (show ¬ (29 : Int32) = 12 by decide), if_neg (show ¬ (29 : Int32) = 13 by decide), if_neg (show ¬ (29 : Int32) = 14 by decide), if_neg (show ¬ (29 : Int32) = 15 by decide), if_neg (show ¬ (29 : Int32) = 16 by decide), if_neg (show ¬ (29 : Int32) = 17 by decide), if_neg (show ¬ (29 : Int32) = 18 by decide), if_neg (show ¬ 31 ≤ 24 by decide), mX4_changed, if_neg (show ¬ (nI 24 < 0 ∨ 31 ≤ (nI 24).toNatClampNeg) by decide), show swI (nI 24).toNatClampNeg = 29 from by decide, if_neg (show ¬ (29 : Int32) = 19 by decide), if_neg (show ¬ (29 : Int32) = 20 by decide), if_neg (show ¬ (29 : Int32) = 21 by decide), if_neg (show ¬ (29 : Int32) = 22 by decide), if_neg (show ¬ (29 : Int32) = 23 by decide), if_neg (show ¬ (29 : Int32) = 24 by decide), if_neg (show ¬ (29 : Int32) = 25 by decide), if_neg (show ¬ (29 : Int32) = 26 by decide), if_neg (show ¬ (29 : Int32) = 27 by decide), if_neg (show ¬ (29 : Int32) = 28 by decide), if_pos (show (29 : Int32) = 29 from rfl), a1, a2, pr_combined 4 hC hi hq]
    simp only [Option.bind_some]
    rw [pr_put b _ hi]
    rfl
  have eR : mX13_does k (bI b) B mp (nI pn) ds mn mi fd on ot su re fr bs es vs (nI 24) (nI w) = some (1, bI b, B2, mp, nI pn, ds, mn, mi, fd, o2, ot, s2, re) := by
    rw [mX13_does, if_neg (show ¬ nI 24 = 0 by decide), if_neg (show ¬ nI 24 = 1 by decide), ce1 (by omega), Option.bind_some, g1]
    rw [show mX13_in (nI 24) 2 8 = some 0 from by decide, Option.bind_some, if_pos (show (0 : Int32) = 0 from rfl)]
    rw [show mX13_in (nI 24) 9 13 = some 0 from by decide, Option.bind_some, if_pos (show (0 : Int32) = 0 from rfl)]
    rw [ce2 (by omega), Option.bind_some, g2]
    rw [show mX13_in (nI 24) 26 27 = some 0 from by decide, Option.bind_some, if_pos (show (0 : Int32) = 0 from rfl)]
    rw [show mX13_in (nI 24) 28 29 = some 0 from by decide, Option.bind_some, if_pos (show (0 : Int32) = 0 from rfl)]
    rw [show mX13_in (nI 24) 18 19 = some 0 from by decide, Option.bind_some, if_pos (show (0 : Int32) = 0 from rfl)]
    rw [show mX13_in (nI 24) 14 17 = some 0 from by decide, Option.bind_some, if_pos (show (0 : Int32) = 0 from rfl)]
    rw [show nI 24 - 20 = 4 from by decide, e2]
    rfl
  exact ⟨_, (vp_updL xc i (Int64.ofBitVec (sgn b (cmb 4 (sgn b (c i)) (sgn b (c q))))), xp, nI pn, rv, bI b), (bI b, B2, mp, nI pn, ds, mn, mi, fd, o2, ot, s2, re), eC, eR, ⟨b, _, _, _, hC.up i _, rfl, rfl, (hs ▸ putsTo.up hB hP), hp.1, rfl, rfl, hp.2⟩⟩
set_option maxHeartbeats 4000000 in
set_option maxRecDepth 100000 in
theorem dv_25 {k s w len : Nat} {vb : Nat → Nat} {pf pt f fr bs es : Nat → Int32} {ar : Nat → Nat → Int64} {vs : Nat → Int64} {b : Bool} {c : Nat → BitVec 64} {pn : Nat} {pg : Nat → Nat} {xc : Nat → Int64} {xp : Nat → Int32} {rv : Int64} {B : Nat → Nat → Int32} {mp ds fd on ot su re : Nat → Int32} {mn mi : Int32} (hk : 310 < k) (hvb : vb s = 25) (hC : isC xc c) (hB : isB B c) (hp : pn ≤ 65 ∧ ∀ i, i < pn → xp i = nI (pg i) ∧ mp i = nI (pg i) ∧ 0 < pg i ∧ pg i < 256) {i : Nat} (hi : i < 8) (a1 : (ar s 0).toInt32 = nI i) (g1 : (vs (w + 1)).toInt32 = nI i) {q : Nat} (hq : q < 8) (a2 : (ar s 1).toInt32 = nI q) (g2 : (vs (w + 2)).toInt32 = nI q) (hw : w + 2 < 300) : ∃ ok X2 M2, mX4_carryOut k 300 65 vb pf pt ar f (nI len) xc xp (nI pn) rv (bI b) s = some (ok, X2) ∧ mX13_does k (bI b) B mp (nI pn) ds mn mi fd on ot su re fr bs es vs (nI 25) (nI w) = some (ok, M2) ∧ TRR X2 M2 := by
  obtain ⟨B2, o2, s2, e2, hP⟩ := pr_combines (b := b) (p3 := 5) (k := k) (one := on) (sum := su) hB hi hq (by omega)
  have hs : sgn b (cmb 5 (sgn b (c i)) (sgn b (c q))) = (cmb 5 ((c i).setWidth (wd b)) ((c q).setWidth (wd b))).signExtend 64 := sgn_of (by rw [cmb_low 5 (wd_le b), sgn_low, sgn_low])
  have eC : mX4_carryOut k 300 65 vb pf pt ar f (nI len) xc xp (nI pn) rv (bI b) s = some (1, vp_updL xc i (Int64.ofBitVec (sgn b (cmb 5 (sgn b (c i)) (sgn b (c q))))), xp, nI pn, rv, bI b) := by
    rw [mX4_carryOut, sm0, Option.bind_some, sm1, Option.bind_some, sm2, Option.bind_some]
    rw [hvb, if_neg (show ¬ 31 ≤ 25 by decide), if_neg (show ¬ (nI 25 < 0 ∨ 31 ≤ (nI 25).toNatClampNeg) by decide), show swI (nI 25).toNatClampNeg = 30 from by decide, if_neg (show ¬ (30 : Int32) = 1 by decide), if_neg (show ¬ (30 : Int32) = 2 by decide), if_neg (show ¬ (30 : Int32) = 3 by decide), if_neg (show ¬ (30 : Int32) = 4 by decide), if_neg (show ¬ (30 : Int32) = 5 by decide), if_neg (show ¬ (30 : Int32) = 6 by decide), if_neg (show ¬ (30 : Int32) = 7 by decide), if_neg (show ¬ (30 : Int32) = 8 by decide), if_neg (show ¬ (30 : Int32) = 9 by decide), if_neg (show ¬ (30 : Int32) = 10 by decide), if_neg (show ¬ (30 : Int32) = 11 by decide), if_neg (show ¬ (30 : Int32) = 12 by decide), if_neg (show ¬ (30 : Int32) = 13 by decide), if_neg (show ¬ (30 : Int32) = 14 by decide), if_neg (show ¬ (30 : Int32) = 15 by decide), if_neg (show ¬ (30 : Int32) = 16 by decide), if_neg (show ¬ (30 : Int32) = 17 by decide), if_neg (show ¬ (30 : Int32) = 18 by decide), if_neg (show ¬ 31 ≤ 25 by decide), mX4_changed, if_neg (show ¬ (nI 25 < 0 ∨ 31 ≤ (nI 25).toNatClampNeg) by decide), show swI (nI 25).toNatClampNeg = 30 from by decide, if_neg (show ¬ (30 : Int32) = 19 by decide), if_neg (show ¬ (30 : Int32) = 20 by decide), if_neg (show ¬ (30 : Int32) = 21 by decide), if_neg (show ¬ (30 : Int32) = 22 by decide), if_neg (show ¬ (30 : Int32) = 23 by decide), if_neg (show ¬ (30 : Int32) = 24 by decide), if_neg (show ¬ (30 : Int32) = 25 by decide), if_neg (show ¬ (30 : Int32) = 26 by decide), if_neg (show ¬ (30 : Int32) = 27 by decide), if_neg (show ¬ (30 : Int32) = 28 by decide), if_neg (show ¬ (30 : Int32) = 29 by decide), if_pos (show (30 : Int32) = 30 from rfl), a1, a2, pr_combined 5 hC hi hq]
    simp only [Option.bind_some]
    rw [pr_put b _ hi]
    rfl
  have eR : mX13_does k (bI b) B mp (nI pn) ds mn mi fd on ot su re fr bs es vs (nI 25) (nI w) = some (1, bI b, B2, mp, nI pn, ds, mn, mi, fd, o2, ot, s2, re) := by
    rw [mX13_does, if_neg (show ¬ nI 25 = 0 by decide), if_neg (show ¬ nI 25 = 1 by decide), ce1 (by omega), Option.bind_some, g1]
    rw [show mX13_in (nI 25) 2 8 = some 0 from by decide, Option.bind_some, if_pos (show (0 : Int32) = 0 from rfl)]
    rw [show mX13_in (nI 25) 9 13 = some 0 from by decide, Option.bind_some, if_pos (show (0 : Int32) = 0 from rfl)]
    rw [ce2 (by omega), Option.bind_some, g2]
    rw [show mX13_in (nI 25) 26 27 = some 0 from by decide, Option.bind_some, if_pos (show (0 : Int32) = 0 from rfl)]
    rw [show mX13_in (nI 25) 28 29 = some 0 from by decide, Option.bind_some, if_pos (show (0 : Int32) = 0 from rfl)]
    rw [show mX13_in (nI 25) 18 19 = some 0 from by decide, Option.bind_some, if_pos (show (0 : Int32) = 0 from rfl)]
    rw [show mX13_in (nI 25) 14 17 = some 0 from by decide, Option.bind_some, if_pos (show (0 : Int32) = 0 from rfl)]
    rw [show nI 25 - 20 = 5 from by decide, e2]
    rfl
  exact ⟨_, (vp_updL xc i (Int64.ofBitVec (sgn b (cmb 5 (sgn b (c i)) (sgn b (c q))))), xp, nI pn, rv, bI b), (bI b, B2, mp, nI pn, ds, mn, mi, fd, o2, ot, s2, re), eC, eR, ⟨b, _, _, _, hC.up i _, rfl, rfl, (hs ▸ putsTo.up hB hP), hp.1, rfl, rfl, hp.2⟩⟩
set_option maxHeartbeats 4000000 in
set_option maxRecDepth 100000 in
theorem dv_28 {k s w len : Nat} {vb : Nat → Nat} {pf pt f fr bs es : Nat → Int32} {ar : Nat → Nat → Int64} {vs : Nat → Int64} {b : Bool} {c : Nat → BitVec 64} {pn : Nat} {pg : Nat → Nat} {xc : Nat → Int64} {xp : Nat → Int32} {rv : Int64} {B : Nat → Nat → Int32} {mp ds fd on ot su re : Nat → Int32} {mn mi : Int32} (hk : 310 < k) (hvb : vb s = 28) (hC : isC xc c) (hB : isB B c) (hp : pn ≤ 65 ∧ ∀ i, i < pn → xp i = nI (pg i) ∧ mp i = nI (pg i) ∧ 0 < pg i ∧ pg i < 256) {i : Nat} (hi : i < 8) (a1 : (ar s 0).toInt32 = nI i) (g1 : (vs (w + 1)).toInt32 = nI i) {q : Nat} (hq : q < 8) (a2 : (ar s 1).toInt32 = nI q) (g2 : (vs (w + 2)).toInt32 = nI q) {r : Nat} (hr : r < 8) (a3 : (ar s 2).toInt32 = nI r) (g3 : (vs (w + 3)).toInt32 = nI r) (hw : w + 3 < 300) : ∃ ok X2 M2, mX4_carryOut k 300 65 vb pf pt ar f (nI len) xc xp (nI pn) rv (bI b) s = some (ok, X2) ∧ mX13_does k (bI b) B mp (nI pn) ds mn mi fd on ot su re fr bs es vs (nI 28) (nI w) = some (ok, M2) ∧ TRR X2 M2 := by
  have e5 : mX2_compared xc (bI b) (nI i) (nI q) 0 = some (ordr b false (c i) (c q)) := pr_ccompared (p := false) hC hi hq
  have e6 : mX12_compares k (bI b) B 0 i q = some (ordr b false (c i) (c q)) := pr_rcompares (p := false) hB hi hq (by omega)
  obtain ⟨B2, s2, e2, hB2⟩ := pr_pn (b := b) (k := k) (su := su) (Int32.toInt64 (ordr b false (c i) (c q))) hB hr (by omega)
  have eP : mX2_put xc (bI b) (nI r) (Int32.toInt64 (ordr b false (c i) (c q))) = some (Int64.ofBitVec (sgn b (Int32.toInt64 (ordr b false (c i) (c q))).toBitVec), vp_updL xc r (Int64.ofBitVec (sgn b (Int32.toInt64 (ordr b false (c i) (c q))).toBitVec))) := pr_put b _ hr
  have eC : mX4_carryOut k 300 65 vb pf pt ar f (nI len) xc xp (nI pn) rv (bI b) s = some (1, vp_updL xc r (Int64.ofBitVec (sgn b (Int32.toInt64 (ordr b false (c i) (c q))).toBitVec)), xp, nI pn, rv, bI b) := by
    rw [mX4_carryOut, sm0, Option.bind_some, sm1, Option.bind_some, sm2, Option.bind_some]
    rw [hvb, if_neg (show ¬ 31 ≤ 28 by decide), if_neg (show ¬ (nI 28 < 0 ∨ 31 ≤ (nI 28).toNatClampNeg) by decide), show swI (nI 28).toNatClampNeg = 13 from by decide, if_neg (show ¬ (13 : Int32) = 1 by decide), if_neg (show ¬ (13 : Int32) = 2 by decide), if_neg (show ¬ (13 : Int32) = 3 by decide), if_neg (show ¬ (13 : Int32) = 4 by decide), if_neg (show ¬ (13 : Int32) = 5 by decide), if_neg (show ¬ (13 : Int32) = 6 by decide), if_neg (show ¬ (13 : Int32) = 7 by decide), if_neg (show ¬ (13 : Int32) = 8 by decide), if_neg (show ¬ (13 : Int32) = 9 by decide), if_neg (show ¬ (13 : Int32) = 10 by decide), if_neg (show ¬ (13 : Int32) = 11 by decide), if_neg (show ¬ (13 : Int32) = 12 by decide), if_pos (show (13 : Int32) = 13 from rfl), a1, a2, a3, e5]
    simp only [Option.bind_some]
    rw [eP]
    rfl
  have eR : mX13_does k (bI b) B mp (nI pn) ds mn mi fd on ot su re fr bs es vs (nI 28) (nI w) = some (1, bI b, B2, mp, nI pn, ds, mn, mi, fd, on, ot, s2, re) := by
    rw [mX13_does, if_neg (show ¬ nI 28 = 0 by decide), if_neg (show ¬ nI 28 = 1 by decide), ce1 (by omega), Option.bind_some, g1]
    rw [show mX13_in (nI 28) 2 8 = some 0 from by decide, Option.bind_some, if_pos (show (0 : Int32) = 0 from rfl)]
    rw [show mX13_in (nI 28) 9 13 = some 0 from by decide, Option.bind_some, if_pos (show (0 : Int32) = 0 from rfl)]
    rw [ce2 (by omega), Option.bind_some, g2]
    rw [show mX13_in (nI 28) 26 27 = some 0 from by decide, Option.bind_some, if_pos (show (0 : Int32) = 0 from rfl)]
    rw [show mX13_in (nI 28) 28 29 = some 1 from by decide, Option.bind_some, if_neg (show ¬ (1 : Int32) = 0 by decide)]
    rw [ce3 hw]
    simp only [Option.bind_some]
    rw [g3, if_neg (nI_in hi (by omega)), if_neg (nI_in hq (by omega)), nI_clamp (show i < 2 ^ 31 by omega), nI_clamp (show q < 2 ^ 31 by omega), if_neg (show ¬ nI 28 = 29 by decide)]
    simp only [Option.bind_some]
    rw [e6]
    simp only [Option.bind_some]
    rw [e2]
    rfl
  exact ⟨_, (vp_updL xc r (Int64.ofBitVec (sgn b (Int32.toInt64 (ordr b false (c i) (c q))).toBitVec)), xp, nI pn, rv, bI b), (bI b, B2, mp, nI pn, ds, mn, mi, fd, on, ot, s2, re), eC, eR, ⟨b, _, _, _, hC.up r _, rfl, rfl, hB2, hp.1, rfl, rfl, hp.2⟩⟩
set_option maxHeartbeats 4000000 in
set_option maxRecDepth 100000 in
theorem dv_29 {k s w len : Nat} {vb : Nat → Nat} {pf pt f fr bs es : Nat → Int32} {ar : Nat → Nat → Int64} {vs : Nat → Int64} {b : Bool} {c : Nat → BitVec 64} {pn : Nat} {pg : Nat → Nat} {xc : Nat → Int64} {xp : Nat → Int32} {rv : Int64} {B : Nat → Nat → Int32} {mp ds fd on ot su re : Nat → Int32} {mn mi : Int32} (hk : 310 < k) (hvb : vb s = 29) (hC : isC xc c) (hB : isB B c) (hp : pn ≤ 65 ∧ ∀ i, i < pn → xp i = nI (pg i) ∧ mp i = nI (pg i) ∧ 0 < pg i ∧ pg i < 256) {i : Nat} (hi : i < 8) (a1 : (ar s 0).toInt32 = nI i) (g1 : (vs (w + 1)).toInt32 = nI i) {q : Nat} (hq : q < 8) (a2 : (ar s 1).toInt32 = nI q) (g2 : (vs (w + 2)).toInt32 = nI q) {r : Nat} (hr : r < 8) (a3 : (ar s 2).toInt32 = nI r) (g3 : (vs (w + 3)).toInt32 = nI r) (hw : w + 3 < 300) : ∃ ok X2 M2, mX4_carryOut k 300 65 vb pf pt ar f (nI len) xc xp (nI pn) rv (bI b) s = some (ok, X2) ∧ mX13_does k (bI b) B mp (nI pn) ds mn mi fd on ot su re fr bs es vs (nI 29) (nI w) = some (ok, M2) ∧ TRR X2 M2 := by
  have e5 : mX2_compared xc (bI b) (nI i) (nI q) 1 = some (ordr b true (c i) (c q)) := pr_ccompared (p := true) hC hi hq
  have e6 : mX12_compares k (bI b) B 1 i q = some (ordr b true (c i) (c q)) := pr_rcompares (p := true) hB hi hq (by omega)
  obtain ⟨B2, s2, e2, hB2⟩ := pr_pn (b := b) (k := k) (su := su) (Int32.toInt64 (ordr b true (c i) (c q))) hB hr (by omega)
  have eP : mX2_put xc (bI b) (nI r) (Int32.toInt64 (ordr b true (c i) (c q))) = some (Int64.ofBitVec (sgn b (Int32.toInt64 (ordr b true (c i) (c q))).toBitVec), vp_updL xc r (Int64.ofBitVec (sgn b (Int32.toInt64 (ordr b true (c i) (c q))).toBitVec))) := pr_put b _ hr
  have eC : mX4_carryOut k 300 65 vb pf pt ar f (nI len) xc xp (nI pn) rv (bI b) s = some (1, vp_updL xc r (Int64.ofBitVec (sgn b (Int32.toInt64 (ordr b true (c i) (c q))).toBitVec)), xp, nI pn, rv, bI b) := by
    rw [mX4_carryOut, sm0, Option.bind_some, sm1, Option.bind_some, sm2, Option.bind_some]
    rw [hvb, if_neg (show ¬ 31 ≤ 29 by decide), if_neg (show ¬ (nI 29 < 0 ∨ 31 ≤ (nI 29).toNatClampNeg) by decide), show swI (nI 29).toNatClampNeg = 14 from by decide, if_neg (show ¬ (14 : Int32) = 1 by decide), if_neg (show ¬ (14 : Int32) = 2 by decide), if_neg (show ¬ (14 : Int32) = 3 by decide), if_neg (show ¬ (14 : Int32) = 4 by decide), if_neg (show ¬ (14 : Int32) = 5 by decide), if_neg (show ¬ (14 : Int32) = 6 by decide), if_neg (show ¬ (14 : Int32) = 7 by decide), if_neg (show ¬ (14 : Int32) = 8 by decide), if_neg (show ¬ (14 : Int32) = 9 by decide), if_neg (show ¬ (14 : Int32) = 10 by decide), if_neg (show ¬ (14 : Int32) = 11 by decide), if_neg (show ¬ (14 : Int32) = 12 by decide), if_neg (show ¬ (14 : Int32) = 13 by decide), if_pos (show (14 : Int32) = 14 from rfl), a1, a2, a3, e5]
    simp only [Option.bind_some]
    rw [eP]
    rfl
  have eR : mX13_does k (bI b) B mp (nI pn) ds mn mi fd on ot su re fr bs es vs (nI 29) (nI w) = some (1, bI b, B2, mp, nI pn, ds, mn, mi, fd, on, ot, s2, re) := by
    rw [mX13_does, if_neg (show ¬ nI 29 = 0 by decide), if_neg (show ¬ nI 29 = 1 by decide), ce1 (by omega), Option.bind_some, g1]
    rw [show mX13_in (nI 29) 2 8 = some 0 from by decide, Option.bind_some, if_pos (show (0 : Int32) = 0 from rfl)]
    rw [show mX13_in (nI 29) 9 13 = some 0 from by decide, Option.bind_some, if_pos (show (0 : Int32) = 0 from rfl)]
    rw [ce2 (by omega), Option.bind_some, g2]
    rw [show mX13_in (nI 29) 26 27 = some 0 from by decide, Option.bind_some, if_pos (show (0 : Int32) = 0 from rfl)]
    rw [show mX13_in (nI 29) 28 29 = some 1 from by decide, Option.bind_some, if_neg (show ¬ (1 : Int32) = 0 by decide)]
    rw [ce3 hw]
    simp only [Option.bind_some]
    rw [g3, if_neg (nI_in hi (by omega)), if_neg (nI_in hq (by omega)), nI_clamp (show i < 2 ^ 31 by omega), nI_clamp (show q < 2 ^ 31 by omega), if_pos (show nI 29 = 29 from rfl)]
    simp only [Option.bind_some]
    rw [e6]
    simp only [Option.bind_some]
    rw [e2]
    rfl
  exact ⟨_, (vp_updL xc r (Int64.ofBitVec (sgn b (Int32.toInt64 (ordr b true (c i) (c q))).toBitVec)), xp, nI pn, rv, bI b), (bI b, B2, mp, nI pn, ds, mn, mi, fd, on, ot, s2, re), eC, eR, ⟨b, _, _, _, hC.up r _, rfl, rfl, hB2, hp.1, rfl, rfl, hp.2⟩⟩
