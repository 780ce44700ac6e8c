/-! pure: programs: tried out alike on both sides (written by p993.py) -/
abbrev T1R := (Nat → Nat) × (Nat → Int32) × (Nat → Int32) × (Nat → Int32) × (Nat → Int32) × (Nat → Nat → Int64) × Int32 × Int32 × Int64 × (Nat → Int64) × (Nat → Int32) × Int32 × Int64 × Int32 × Int32 × Int32 × Int32 × Int32
abbrev T2R := Int32 × (Nat → Nat → Int32) × (Nat → Int32) × Int32 × (Nat → Int32) × Int32 × Int32 × (Nat → Int32) × (Nat → Int32) × (Nat → Int32) × (Nat → Int32) × (Nat → Int32) × (Nat → Int32) × (Nat → Int32) × (Nat → Int64) × Int32 × Int32 × Int32 × Int32 × Int32
theorem ob2i {α β : Type} {x : Option α} {v : α} {f : α → Option β} (h : x = some v) : x.bind f = f v := by
  rw [h]
  rfl
theorem pr_bc2 {f : Nat → Int64} {c : Nat → BitVec 64} (hC : isC f c) : ∀ (d i k : Nat) (g : Nat → Int64), i + d = 8 → d < k → (∀ j, j < i → g j = Int64.ofBitVec (c j)) → ∃ g2, mX2_become_L2 f k (nI i) g = some g2 ∧ isC g2 c
  | _, _, 0, _, _, hk, _ => absurd hk (Nat.not_lt_zero _)
  | 0, i, k + 1, g, h, _, q1 => ⟨g, by rw [mX2_become_L2, if_pos (show (8 : Int32) ≤ nI i from nI_le (a := 8) (by omega) (by omega))], fun j hj => q1 j (by omega)⟩
  | d + 1, i, k + 1, g, h, hk, q1 => by
    obtain ⟨g2, e, r⟩ := pr_bc2 hC d (i + 1) k (vp_updL g i (Int64.ofBitVec (c i))) (by omega) (by omega) (fun j hj => by
      unfold vp_updL
      by_cases e : j = i
      · rw [if_pos e, e]
      · rw [if_neg e]
        exact q1 j (by omega))
    refine ⟨g2, ?_, r⟩
    rw [mX2_become_L2, if_neg (show ¬ (8 : Int32) ≤ nI i from nI_ge (b := 8) (by omega) (by omega)), pr_allBits hC (by omega), Option.bind_some, if_neg (nI_in (show i < 8 by omega) (by omega)), nI_clamp (by omega), nI_1]
    exact e
theorem pr_ar7 {pn N M : Nat} {pg : Nat → Nat} {fp : Nat → Int32} (hN : N < 1000) (hM : M < 1000) (hp : pn ≤ N) (hpt : pn ≤ M) (hfp : ∀ q, q < pn → fp q = nI (pg q)) : ∀ (d i k : Nat) (f : Nat → Int32), i + d = pn → d < k → (∀ q, q < i → f q = nI (pg q)) → ∃ f2, mX6_appendRow_L7 (nI pn) N fp M k (nI i) (nI i) f = some (nI pn, f2) ∧ ∀ q, q < pn → f2 q = nI (pg q)
  | _, _, 0, _, _, hk, _ => absurd hk (Nat.not_lt_zero _)
  | 0, i, k + 1, f, h, _, q1 => ⟨f, by rw [mX6_appendRow_L7, if_pos (nI_le (by omega) (by omega)), show i = pn by omega], fun q hq => q1 q (by omega)⟩
  | d + 1, i, k + 1, f, h, hk, q1 => by
    obtain ⟨f2, e, r⟩ := pr_ar7 hN hM hp hpt hfp d (i + 1) k (upd f i (nI (pg i))) (by omega) (by omega) (fun q hq => by
      by_cases hqi : q = i
      · rw [hqi, pk_us]
      · rw [pk_un hqi]
        exact q1 q (by omega))
    refine ⟨f2, ?_, r⟩
    rw [mX6_appendRow_L7, if_neg (nI_ge (by omega) (by omega)), pr_byteAt (show i < pn by omega) hp hN]
    simp only [Option.bind_some]
    rw [pr_append _ (show i < M by omega) (by omega), hfp i (by omega)]
    simp only [Option.bind_some]
    rw [nI_1]
    exact e
theorem pr_become {b : Bool} {xc tc : Nat → Int64} {c : Nat → BitVec 64} {k pn : Nat} {pg : Nat → Nat} {fp ft : Nat → Int32} (hC : isC xc c) (hk : 70 < k) (hp : pn ≤ 65) (hfp : ∀ q, q < pn → fp q = nI (pg q)) : ∃ c2 f2, mX2_become k 65 65 tc ft xc fp (nI pn) (bI b) = some (c2, f2, nI pn, bI b) ∧ isC c2 c ∧ ∀ q, q < pn → f2 q = nI (pg q) := by
  obtain ⟨c2, e1, h1⟩ := pr_bc2 hC 8 0 k tc (by omega) (by omega) (fun j hj => absurd hj (Nat.not_lt_zero _))
  obtain ⟨f2, e2, h2⟩ := pr_ar7 (N := 65) (M := 65) (by omega) (by omega) hp hp hfp pn 0 k ft (by omega) (by omega) (fun j hj => absurd hj (Nat.not_lt_zero _))
  have e1' : mX2_become_L2 xc k 0 tc = some c2 := e1
  have e2' : mX6_appendRow_L7 (nI pn) 65 fp 65 k 0 0 ft = some (nI pn, f2) := e2
  refine ⟨c2, f2, ?_, h1, h2⟩
  rw [mX2_become, e1', Option.bind_some, mX6_become, mX6_empty, Option.bind_some, mX6_appendRow, e2', Option.bind_some, Option.bind_some, Option.bind_some, if_neg (bI_nn _)]
theorem pr_begin {tx : Nat → Nat} {len k : Nat} {f : Nat → Int32} (hf : txR f tx len) (hk : 301 < k) : mX10_begin k 300 f (nI len) = some (nI (WB tx len 0), nI (WE tx len 0)) := by
  have e1 : mX10_advance k 300 f (nI len) 0 = _ := pr_advance (e := 0) hf (Nat.zero_le _) hk
  rw [mX10_begin, e1]
  rfl
theorem c22_err' {f : Nat → Int32} {len p2 d s st kd ep : Int32} {k : Nat} {A : SA} {rC : CRec} {X : CT} (hk : 0 < k) (h : ¬ kd = 0) : mX4_carryOutBlockF_L22 p2 A.1 A.2.2.2.2.2 rC 1000 300 65 A.2.1 A.2.2.1 A.2.2.2.1 A.2.2.2.2.1 f len d k s st kd ep X.2.2.2.2 X.2.2.1 X.2.2.2.1 X.1 X.2.1 = some (CR X st kd ep) := by
  obtain ⟨n, rfl⟩ : ∃ n, k = n + 1 := ⟨k - 1, by omega⟩
  rw [mX4_carryOutBlockF_L22]
  by_cases h1 : p2 ≤ s
  · rw [if_pos h1]
  · rw [if_neg h1, if_neg h]
theorem cb_err {f : Nat → Int32} {len p2 st kd ep : Int32} {A : SA} {rC : CRec} {X : CT} (h : ¬ kd = 0) : mX4_carryOutBlockF rC 1000 300 65 A.1 A.2.1 A.2.2.1 A.2.2.2.1 A.2.2.2.2.1 A.2.2.2.2.2 f len X.1 X.2.1 X.2.2.1 X.2.2.2.1 X.2.2.2.2 st kd ep 0 p2 0 = some (CR X st kd ep) := by
  rw [mX4_carryOutBlockF, if_neg (show ¬ (0 : Int32) < 0 by decide)]
  by_cases h1 : (60 : Int32) < p2
  · rw [if_pos h1]
  · rw [if_neg h1, if_pos (show (0 : Int32) ≤ 4 by decide)]
    exact c22_err' (by decide) h
theorem cb_ok {f : Nat → Int32} {len s2 : Nat} {st kd ep : Int32} {A : SA} {rC : CRec} {X : CT} {R : (Nat → Int64) × (Nat → Int32) × Int32 × Int64 × Int32 × Int32 × Int32 × Int32} (hs : s2 ≤ 60) (h : C22 f len s2 A rC 0 1000 0 st kd ep X = some R) : mX4_carryOutBlockF rC 1000 300 65 A.1 A.2.1 A.2.2.1 A.2.2.2.1 A.2.2.2.2.1 A.2.2.2.2.2 f (nI len) X.1 X.2.1 X.2.2.1 X.2.2.2.1 X.2.2.2.2 st kd ep 0 (nI s2) 0 = some R := by
  rw [mX4_carryOutBlockF, if_neg (show ¬ (0 : Int32) < 0 by decide), if_neg (show ¬ (60 : Int32) < nI s2 from nI_nlt (a := 60) hs (by omega)), if_pos (show (0 : Int32) ≤ 4 by decide)]
  exact h
theorem pr_take1 {b : Bool} {B Bt : Nat → Nat → Int32} {c : Nat → BitVec 64} {pn : Nat} {pg : Nat → Nat} {fp ft : Nat → Int32} (hB : isB B c) (hp : pn ≤ 65) (hfp : ∀ q, q < pn → fp q = nI (pg q)) : ∃ B2 f2, mX12_take_r 1000 Bt ft (bI b) B fp (nI pn) = some (bI b, B2, f2, nI pn) ∧ isB B2 c ∧ ∀ q, q < pn → f2 q = nI (pg q) := pr_tk_r hB (by decide) hp (by decide) hfp
set_option maxHeartbeats 4000000 in
theorem pr_try {b : Bool} {c : Nat → BitVec 64} {tn pn : Nat} {tx pg : Nat → Nat} {xc : Nat → Int64} {xp xt mp mt : Nat → Int32} {mB : Nat → Nat → Int32} (vb : Nat → Nat) (pl pf pt nx : Nat → Int32) (ar : Nat → Nat → Int64) (rv : Int64) (tc : Nat → Int64) (tp : Nat → Int32) (trv : Int64) (tw : Int32) (tB : Nat → Nat → Int32) (tpp : Nat → Int32) (tpm : Int32) (ds : Nat → Int32) (mn mi : Int32) (fd on ot su re bs es : Nat → Int32) (vs : Nat → Int64) (hC : isC xc c) (hB : isB mB c) (hp : pn ≤ 65) (hpg : ∀ i, i < pn → xp i = nI (pg i) ∧ mp i = nI (pg i) ∧ 0 < pg i ∧ pg i < 256) (hf : txR xt tx tn) (hr : txR mt tx tn) : ∃ (R1 : T1R) (c1 : Nat) (R2 : T2R), mX4_tryOut 1000 65 300 65 vb pl pf pt nx ar rv tc tp trv xt (nI tn) xc xp (nI pn) (bI b) = some R1 ∧ mX13_tries 1000 (bI b) mB mp (nI pn) tw tB tpp tpm ds mn mi fd on ot su re mt (nI tn) bs es vs = some (c1, R2) ∧ c1 ≤ 300 ∧ R1.2.2.2.2.2.2.2.2.2.2.2.2.2.2.2.2.1 = R2.2.2.2.2.2.2.2.2.2.2.2.2.2.2.2.2.2.1 ∧ R1.2.2.2.2.2.2.2.2.2.2.2.2.2.2.2.2.2 = R2.2.2.2.2.2.2.2.2.2.2.2.2.2.2.2.2.2.2.1 ∧ (R1.2.2.2.2.2.2.2.2.2.2.2.2.2.2.2.2.1 = 0 → R1.2.2.2.2.2.2.2.2.2.2.2.2.2.2.2.1 = R2.2.2.2.2.2.2.2.2.2.2.2.2.2.2.2.2.2.2.2 ∧ TRR (R1.2.2.2.2.2.2.2.2.2.1, R1.2.2.2.2.2.2.2.2.2.2.1, R1.2.2.2.2.2.2.2.2.2.2.2.1, R1.2.2.2.2.2.2.2.2.2.2.2.2.1, R1.2.2.2.2.2.2.2.2.2.2.2.2.2.1) (R2.1, R2.2.1, R2.2.2.1, R2.2.2.2.1, R2.2.2.2.2.1, R2.2.2.2.2.2.1, R2.2.2.2.2.2.2.1, R2.2.2.2.2.2.2.2.1, R2.2.2.2.2.2.2.2.2.1, R2.2.2.2.2.2.2.2.2.2.1, R2.2.2.2.2.2.2.2.2.2.2.1, R2.2.2.2.2.2.2.2.2.2.2.2.1)) := by
  obtain ⟨c2, g2, e1, hc2, hg2⟩ := pr_become (b := b) (k := 1000) (tc := tc) (ft := tp) hC (by decide) hp (fun q hq => (hpg q hq).1)
  have e2 := pr_begin (k := 1000) hf (by decide)
  obtain ⟨nw, bs2, es2, f1, h⟩ := pr_splits (k := 1000) (bs := bs) (es := es) hr (by decide)
  obtain ⟨A2, fo, to, rv2, sz, kd, ep, kd2, ep2, fd2, vs2, w2, c1, J1, J2, J3, J4, J5⟩ := jtop hf hr h (vb, pl, pf, pt, nx, ar) rv fd vs 0 0 0 1000 1000 (by have := h.1; have := hf.1; omega) (by have := h.1; have := hf.1; omega) (Nat.zero_le _) (Nat.zero_le _) (Nat.le_refl _)
  have hc1 : c1 ≤ 300 := by have := h.1; have := hf.1; omega
  have J1' : mX4_parseBlockF_L2 (nI tn) 300 xt mX4_parseStatement_0 1000 0 1000 0 0 0 (-1) (nI (WB tx tn 0)) (nI (WE tx tn 0)) rv nx pf pl pt vb ar = some (sz, kd, ep, fo, to, rv2, A2.2.2.2.2.1, A2.2.2.1, A2.2.1, A2.2.2.2.1, A2.1, A2.2.2.2.2.2) := J1
  have e4 : mX4_parseBlock_0 1000 300 vb pl pf pt nx ar xt (nI tn) (nI (WB tx tn 0)) (nI (WE tx tn 0)) rv 0 0 (-1) 0 = some (A2.1, A2.2.1, A2.2.2.1, A2.2.2.2.1, A2.2.2.2.2.1, A2.2.2.2.2.2, fo, to, rv2, sz, kd, ep) := by
    show mX4_parseBlockF mX4_parseStatement_0 1000 300 vb pl pf pt nx ar xt (nI tn) (nI (WB tx tn 0)) (nI (WE tx tn 0)) rv 0 0 (-1) 0 = _
    rw [mX4_parseBlockF]
    exact (ob1 J1').trans rfl
  have J3' : mX13_tries_L24 (bs2, es2, nI nw) 1000 mt (nI tn) 1000 0 0 (-1) fd vs = some (c1, (nI w2, kd2, ep2, fd2, vs2)) := J3
  rcases J5 with J5 | ⟨s2, q1, q2, q3, q4, q5, q6, q7, q8⟩
  · refine ⟨(A2.1, A2.2.1, A2.2.2.1, A2.2.2.2.1, A2.2.2.2.2.1, A2.2.2.2.2.2, fo, to, rv2, c2, g2, nI pn, trv, bI b, sz, 0, kd2, ep2), c1 + 0, (tw, tB, tpp, tpm, ds, mn, mi, fd2, on, ot, su, re, bs2, es2, vs2, nI nw, nI w2, kd2, ep2, 0), ?_, ?_, hc1, rfl, rfl, fun z => absurd z J5⟩
    · rw [mX4_tryOut]
      exact (ob1 e1).trans ((ob1 e2).trans ((ob1 e4).trans ((ob1 J2).trans ((ob1 (cb_err (A := A2) (X := (c2, g2, nI pn, trv, bI b)) (rC := mX4_carryOutBlock_1) (st := 0) J5)).trans rfl))))
    · rw [mX13_tries]
      exact (ob1 f1).trans ((ob1 J3').trans ((congrArg (cst c1) (if_neg J5)).trans rfl))
  · subst q1 q2 q3
    obtain ⟨B2, f2, e3, hB2, hf2⟩ := pr_take1 (b := b) (Bt := tB) (ft := tpp) hB hp (fun q hq => (hpg q hq).2.1)
    have T : TRR (c2, g2, nI pn, trv, bI b) (bI b, B2, f2, nI pn, ds, mn, mi, fd2, on, ot, su, re) := ⟨b, c, pn, pg, hc2, rfl, rfl, hB2, hp, rfl, rfl, fun i hi => ⟨hg2 i hi, hf2 i hi, (hpg i hi).2.2.1, (hpg i hi).2.2.2⟩⟩
    have hnw : nw ≤ 300 := Nat.le_trans h.1 hf.1
    obtain ⟨st2, at2, kd3, ep3, X2, M2, K1, K2, K3, K4⟩ := jr73 (c1 := c1) (a0 := nI w2) (k0 := 0) (e0 := -1) (fd0 := fd2) hr h (jr_all hf hr h) (nw + 1) 0 s2 0 nw 0 1000 1000 _ _ (by omega) (q8 (nw + 1) (by omega)) q5 rfl (by omega) T (by omega) (by omega)
    have K4' : mX13_tries_L73 (bs2, es2, nI nw) 1000 mt (c1, (nI w2, 0, -1, fd2, vs2)) 1000 0 0 (-1) 0 (bI b) (nI pn) mn mi f2 ds fd2 on ot su re B2 = some (RLo M2 at2 kd3 ep3 (nI st2)) := K4
    refine ⟨(A2.1, A2.2.1, A2.2.2.1, A2.2.2.2.1, A2.2.2.2.2.1, A2.2.2.2.2.2, fo, to, rv2, X2.1, X2.2.1, X2.2.2.1, X2.2.2.2.1, X2.2.2.2.2, nI s2, nI st2, kd3, ep3), c1 + 0, (M2.1, M2.2.1, M2.2.2.1, M2.2.2.2.1, M2.2.2.2.2.1, M2.2.2.2.2.2.1, M2.2.2.2.2.2.2.1, M2.2.2.2.2.2.2.2.1, M2.2.2.2.2.2.2.2.2.1, M2.2.2.2.2.2.2.2.2.2.1, M2.2.2.2.2.2.2.2.2.2.2.1, M2.2.2.2.2.2.2.2.2.2.2.2, bs2, es2, vs2, nI nw, at2, kd3, ep3, nI st2), ?_, ?_, hc1, rfl, rfl, fun _ => ⟨rfl, K2⟩⟩
    · rw [mX4_tryOut]
      exact (ob1 e1).trans ((ob1 e2).trans ((ob1 e4).trans ((ob1 J2).trans ((ob1 (cb_ok (A := A2) (X := (c2, g2, nI pn, trv, bI b)) (rC := mX4_carryOutBlock_1) (st := 0) q5 K3)).trans rfl))))
    · rw [mX13_tries]
      exact (ob1 f1).trans ((ob1 J3').trans ((congrArg (cst c1) (if_pos rfl)).trans ((congrArg (cst c1) (ob1 e3)).trans ((congrArg (cst c1) (ob1 K4')).trans rfl))))
set_option maxHeartbeats 4000000 in
theorem run_ok {vb : Nat → Nat} {pl pf pt nx : Nat → Int32} {ar : Nat → Nat → Int64} {rv : Int64} {tc : Nat → Int64} {tp : Nat → Int32} {trv : Int64} {xc : Nat → Int64} {xp xt : Nat → Int32} {xl xw tl : Int32} {o : Nat → Int64} {R1 : T1R} {B3 : (Nat → Int64) × (Nat → Int32) × Int32 × Int32} (hT : mX4_tryOut 1000 65 300 65 vb pl pf pt nx ar rv tc tp trv xt tl xc xp xl xw = some R1) (hk : R1.2.2.2.2.2.2.2.2.2.2.2.2.2.2.2.2.1 = 0) (hb : mX2_become 1000 65 65 xc xp R1.2.2.2.2.2.2.2.2.2.1 R1.2.2.2.2.2.2.2.2.2.2.1 R1.2.2.2.2.2.2.2.2.2.2.2.1 R1.2.2.2.2.2.2.2.2.2.2.2.2.2.1 = some B3) : mL_run 1000 65 300 65 xc xp xl xw xt tl vb pl pf pt nx ar rv tc tp trv o = some (0, B3.1, B3.2.1, B3.2.2.1, B3.2.2.2, R1.1, R1.2.1, R1.2.2.1, R1.2.2.2.1, R1.2.2.2.2.1, R1.2.2.2.2.2.1, R1.2.2.2.2.2.2.1, R1.2.2.2.2.2.2.2.1, R1.2.2.2.2.2.2.2.2.1, R1.2.2.2.2.2.2.2.2.2.1, R1.2.2.2.2.2.2.2.2.2.2.1, R1.2.2.2.2.2.2.2.2.2.2.2.1, R1.2.2.2.2.2.2.2.2.2.2.2.2.1, R1.2.2.2.2.2.2.2.2.2.2.2.2.2.1, R1.2.2.2.2.2.2.2.2.2.2.2.2.2.2.1, R1.2.2.2.2.2.2.2.2.2.2.2.2.2.2.2.1, R1.2.2.2.2.2.2.2.2.2.2.2.2.2.2.2.2.1, R1.2.2.2.2.2.2.2.2.2.2.2.2.2.2.2.2.2, vp_updL o 0 ((R1.2.2.2.2.2.2.2.2.2.2.2.2.2.2.2.1).toInt64)) := by
  have e : mX11_run 1000 65 300 65 xc xp xl xw xt tl vb pl pf pt nx ar rv tc tp trv = some (R1.2.2.2.2.2.2.2.2.2.2.2.2.2.2.2.1, B3.1, B3.2.1, B3.2.2.1, B3.2.2.2, R1.1, R1.2.1, R1.2.2.1, R1.2.2.2.1, R1.2.2.2.2.1, R1.2.2.2.2.2.1, R1.2.2.2.2.2.2.1, R1.2.2.2.2.2.2.2.1, R1.2.2.2.2.2.2.2.2.1, R1.2.2.2.2.2.2.2.2.2.1, R1.2.2.2.2.2.2.2.2.2.2.1, R1.2.2.2.2.2.2.2.2.2.2.2.1, R1.2.2.2.2.2.2.2.2.2.2.2.2.1, R1.2.2.2.2.2.2.2.2.2.2.2.2.2.1, R1.2.2.2.2.2.2.2.2.2.2.2.2.2.2.1, R1.2.2.2.2.2.2.2.2.2.2.2.2.2.2.2.1, R1.2.2.2.2.2.2.2.2.2.2.2.2.2.2.2.2.1, R1.2.2.2.2.2.2.2.2.2.2.2.2.2.2.2.2.2) := by
    rw [mX11_run]
    exact (ob1 hT).trans ((if_pos hk).trans ((ob1 hb).trans rfl))
  rw [mL_run, mL_run_N, e]
  rfl
set_option maxHeartbeats 4000000 in
theorem run_bad {vb : Nat → Nat} {pl pf pt nx : Nat → Int32} {ar : Nat → Nat → Int64} {rv : Int64} {tc : Nat → Int64} {tp : Nat → Int32} {trv : Int64} {xc : Nat → Int64} {xp xt : Nat → Int32} {xl xw tl : Int32} {o : Nat → Int64} {R1 : T1R} (hT : mX4_tryOut 1000 65 300 65 vb pl pf pt nx ar rv tc tp trv xt tl xc xp xl xw = some R1) (hk : ¬ R1.2.2.2.2.2.2.2.2.2.2.2.2.2.2.2.2.1 = 0) : mL_run 1000 65 300 65 xc xp xl xw xt tl vb pl pf pt nx ar rv tc tp trv o = some (1, xc, xp, xl, xw, R1.1, R1.2.1, R1.2.2.1, R1.2.2.2.1, R1.2.2.2.2.1, R1.2.2.2.2.2.1, R1.2.2.2.2.2.2.1, R1.2.2.2.2.2.2.2.1, R1.2.2.2.2.2.2.2.2.1, R1.2.2.2.2.2.2.2.2.2.1, R1.2.2.2.2.2.2.2.2.2.2.1, R1.2.2.2.2.2.2.2.2.2.2.2.1, R1.2.2.2.2.2.2.2.2.2.2.2.2.1, R1.2.2.2.2.2.2.2.2.2.2.2.2.2.1, R1.2.2.2.2.2.2.2.2.2.2.2.2.2.2.1, R1.2.2.2.2.2.2.2.2.2.2.2.2.2.2.2.1, R1.2.2.2.2.2.2.2.2.2.2.2.2.2.2.2.2.1, R1.2.2.2.2.2.2.2.2.2.2.2.2.2.2.2.2.2, o) := by
  have e : mX11_run 1000 65 300 65 xc xp xl xw xt tl vb pl pf pt nx ar rv tc tp trv = none := by
    rw [mX11_run]
    exact (ob1 hT).trans (if_neg hk)
  have e2 : mX11_run_T25 1000 65 300 65 xc xp xl xw xt tl vb pl pf pt nx ar rv tc tp trv = some (R1.1, R1.2.1, R1.2.2.1, R1.2.2.2.1, R1.2.2.2.2.1, R1.2.2.2.2.2.1, R1.2.2.2.2.2.2.1, R1.2.2.2.2.2.2.2.1, R1.2.2.2.2.2.2.2.2.1, R1.2.2.2.2.2.2.2.2.2.1, R1.2.2.2.2.2.2.2.2.2.2.1, R1.2.2.2.2.2.2.2.2.2.2.2.1, R1.2.2.2.2.2.2.2.2.2.2.2.2.1, R1.2.2.2.2.2.2.2.2.2.2.2.2.2.1, R1.2.2.2.2.2.2.2.2.2.2.2.2.2.2.1, R1.2.2.2.2.2.2.2.2.2.2.2.2.2.2.2.1, R1.2.2.2.2.2.2.2.2.2.2.2.2.2.2.2.2.1, R1.2.2.2.2.2.2.2.2.2.2.2.2.2.2.2.2.2) := by
    rw [mX11_run_T25]
    exact (ob1 hT).trans ((if_neg hk).trans rfl)
  rw [mL_run, mL_run_N, e, mL_run_T25, e2]
  rfl
set_option maxHeartbeats 4000000 in
theorem rrun_ok {dw : Int32} {dB : Nat → Nat → Int32} {dp : Nat → Int32} {dm : Int32} {tw : Int32} {tB : Nat → Nat → Int32} {tpp : Nat → Int32} {tpm : Int32} {ds : Nat → Int32} {mn mi : Int32} {fd on ot su re mt : Nat → Int32} {tl : Int32} {bs es : Nat → Int32} {vs : Nat → Int64} {c1 : Nat} {R2 : T2R} {B3 : Int32 × (Nat → Nat → Int32) × (Nat → Int32) × Int32} (hT : mX13_tries 1000 dw dB dp dm tw tB tpp tpm ds mn mi fd on ot su re mt tl bs es vs = some (c1, R2)) (hk : R2.2.2.2.2.2.2.2.2.2.2.2.2.2.2.2.2.2.1 = 0) (hb : mX12_take 1000 dB dp R2.1 R2.2.1 R2.2.2.1 R2.2.2.2.1 = some B3) : mX13_run 1000 dw dB dp dm tw tB tpp tpm ds mn mi fd on ot su re mt tl bs es vs = some (c1 + 0, (R2.2.2.2.2.2.2.2.2.2.2.2.2.2.2.2.2.2.2.2, 0, B3.1, B3.2.1, B3.2.2.1, B3.2.2.2, R2.1, R2.2.1, R2.2.2.1, R2.2.2.2.1, R2.2.2.2.2.1, R2.2.2.2.2.2.1, R2.2.2.2.2.2.2.1, R2.2.2.2.2.2.2.2.1, R2.2.2.2.2.2.2.2.2.1, R2.2.2.2.2.2.2.2.2.2.1, R2.2.2.2.2.2.2.2.2.2.2.1, R2.2.2.2.2.2.2.2.2.2.2.2.1, R2.2.2.2.2.2.2.2.2.2.2.2.2.1, R2.2.2.2.2.2.2.2.2.2.2.2.2.2.1, R2.2.2.2.2.2.2.2.2.2.2.2.2.2.2.1, R2.2.2.2.2.2.2.2.2.2.2.2.2.2.2.2.1, R2.2.2.2.2.2.2.2.2.2.2.2.2.2.2.2.2.1, R2.2.2.2.2.2.2.2.2.2.2.2.2.2.2.2.2.2.1, R2.2.2.2.2.2.2.2.2.2.2.2.2.2.2.2.2.2.2.1, R2.2.2.2.2.2.2.2.2.2.2.2.2.2.2.2.2.2.2.2)) := by
  rw [mX13_run]
  refine (ob1 hT).trans ((congrArg (cst c1) (ob2i (if_pos hk))).trans ?_)
  exact (congrArg (cst c1) (ob1 (show mX13_passes 1 1 = some (1, 0) from rfl))).trans ((congrArg (cst c1) (if_neg (show ¬ (1 : Int32) = 0 by decide))).trans ((congrArg (cst c1) (ob1 hb)).trans rfl))
set_option maxHeartbeats 4000000 in
theorem rrun_bad {dw : Int32} {dB : Nat → Nat → Int32} {dp : Nat → Int32} {dm : Int32} {tw : Int32} {tB : Nat → Nat → Int32} {tpp : Nat → Int32} {tpm : Int32} {ds : Nat → Int32} {mn mi : Int32} {fd on ot su re mt : Nat → Int32} {tl : Int32} {bs es : Nat → Int32} {vs : Nat → Int64} {c1 : Nat} {R2 : T2R} (hT : mX13_tries 1000 dw dB dp dm tw tB tpp tpm ds mn mi fd on ot su re mt tl bs es vs = some (c1, R2)) (hk : ¬ R2.2.2.2.2.2.2.2.2.2.2.2.2.2.2.2.2.2.1 = 0) : mX13_run 1000 dw dB dp dm tw tB tpp tpm ds mn mi fd on ot su re mt tl bs es vs = some (c1 + 0, (0, 1, dw, dB, dp, dm, R2.1, R2.2.1, R2.2.2.1, R2.2.2.2.1, R2.2.2.2.2.1, R2.2.2.2.2.2.1, R2.2.2.2.2.2.2.1, R2.2.2.2.2.2.2.2.1, R2.2.2.2.2.2.2.2.2.1, R2.2.2.2.2.2.2.2.2.2.1, R2.2.2.2.2.2.2.2.2.2.2.1, R2.2.2.2.2.2.2.2.2.2.2.2.1, R2.2.2.2.2.2.2.2.2.2.2.2.2.1, R2.2.2.2.2.2.2.2.2.2.2.2.2.2.1, R2.2.2.2.2.2.2.2.2.2.2.2.2.2.2.1, R2.2.2.2.2.2.2.2.2.2.2.2.2.2.2.2.1, R2.2.2.2.2.2.2.2.2.2.2.2.2.2.2.2.2.1, R2.2.2.2.2.2.2.2.2.2.2.2.2.2.2.2.2.2.1, R2.2.2.2.2.2.2.2.2.2.2.2.2.2.2.2.2.2.2.1, R2.2.2.2.2.2.2.2.2.2.2.2.2.2.2.2.2.2.2.2)) := by
  rw [mX13_run]
  refine (ob1 hT).trans ((congrArg (cst c1) (ob2i (if_neg hk))).trans ?_)
  exact (congrArg (cst c1) (ob1 (show mX13_passes 0 1 = some (0, 1) from rfl))).trans ((congrArg (cst c1) (if_pos rfl)).trans rfl)
set_option maxHeartbeats 4000000 in
theorem rkind_eq {dw : Int32} {dB : Nat → Nat → Int32} {dp : Nat → Int32} {dm : Int32} {tw : Int32} {tB : Nat → Nat → Int32} {tpp : Nat → Int32} {tpm : Int32} {ds : Nat → Int32} {mn mi : Int32} {fd on ot su re mt : Nat → Int32} {tl : Int32} {bs es : Nat → Int32} {vs : Nat → Int64} {c1 : Nat} {R2 : T2R} (hT : mX13_tries 1000 dw dB dp dm tw tB tpp tpm ds mn mi fd on ot su re mt tl bs es vs = some (c1, R2)) : mX13_errorKind 1000 dw dB dp dm tw tB tpp tpm ds mn mi fd on ot su re mt tl bs es vs = some (c1 + 0, (R2.2.2.2.2.2.2.2.2.2.2.2.2.2.2.2.2.2.1, 0, R2.1, R2.2.1, R2.2.2.1, R2.2.2.2.1, R2.2.2.2.2.1, R2.2.2.2.2.2.1, R2.2.2.2.2.2.2.1, R2.2.2.2.2.2.2.2.1, R2.2.2.2.2.2.2.2.2.1, R2.2.2.2.2.2.2.2.2.2.1, R2.2.2.2.2.2.2.2.2.2.2.1, R2.2.2.2.2.2.2.2.2.2.2.2.1, R2.2.2.2.2.2.2.2.2.2.2.2.2.1, R2.2.2.2.2.2.2.2.2.2.2.2.2.2.1, R2.2.2.2.2.2.2.2.2.2.2.2.2.2.2.1, R2.2.2.2.2.2.2.2.2.2.2.2.2.2.2.2.1, R2.2.2.2.2.2.2.2.2.2.2.2.2.2.2.2.2.1, R2.2.2.2.2.2.2.2.2.2.2.2.2.2.2.2.2.2.1, R2.2.2.2.2.2.2.2.2.2.2.2.2.2.2.2.2.2.2.1, R2.2.2.2.2.2.2.2.2.2.2.2.2.2.2.2.2.2.2.2)) := by
  rw [mX13_errorKind, hT, Option.bind_some]
  rfl
set_option maxHeartbeats 4000000 in
theorem rplace_eq {dw : Int32} {dB : Nat → Nat → Int32} {dp : Nat → Int32} {dm : Int32} {tw : Int32} {tB : Nat → Nat → Int32} {tpp : Nat → Int32} {tpm : Int32} {ds : Nat → Int32} {mn mi : Int32} {fd on ot su re mt : Nat → Int32} {tl : Int32} {bs es : Nat → Int32} {vs : Nat → Int64} {c1 : Nat} {R2 : T2R} (hT : mX13_tries 1000 dw dB dp dm tw tB tpp tpm ds mn mi fd on ot su re mt tl bs es vs = some (c1, R2)) : mX13_errorPlace 1000 dw dB dp dm tw tB tpp tpm ds mn mi fd on ot su re mt tl bs es vs = some (c1 + 0, (R2.2.2.2.2.2.2.2.2.2.2.2.2.2.2.2.2.2.2.1, 0, R2.1, R2.2.1, R2.2.2.1, R2.2.2.2.1, R2.2.2.2.2.1, R2.2.2.2.2.2.1, R2.2.2.2.2.2.2.1, R2.2.2.2.2.2.2.2.1, R2.2.2.2.2.2.2.2.2.1, R2.2.2.2.2.2.2.2.2.2.1, R2.2.2.2.2.2.2.2.2.2.2.1, R2.2.2.2.2.2.2.2.2.2.2.2.1, R2.2.2.2.2.2.2.2.2.2.2.2.2.1, R2.2.2.2.2.2.2.2.2.2.2.2.2.2.1, R2.2.2.2.2.2.2.2.2.2.2.2.2.2.2.1, R2.2.2.2.2.2.2.2.2.2.2.2.2.2.2.2.1, R2.2.2.2.2.2.2.2.2.2.2.2.2.2.2.2.2.1, R2.2.2.2.2.2.2.2.2.2.2.2.2.2.2.2.2.2.1, R2.2.2.2.2.2.2.2.2.2.2.2.2.2.2.2.2.2.2.1, R2.2.2.2.2.2.2.2.2.2.2.2.2.2.2.2.2.2.2.2)) := by
  rw [mX13_errorPlace, hT, Option.bind_some]
  rfl
set_option maxHeartbeats 4000000 in
theorem xkind_eq {vb : Nat → Nat} {pl pf pt nx : Nat → Int32} {ar : Nat → Nat → Int64} {rv : Int64} {tc : Nat → Int64} {tp : Nat → Int32} {trv : Int64} {xc : Nat → Int64} {xp xt : Nat → Int32} {xl xw tl : Int32} {o : Nat → Int64} {R1 : T1R} (hT : mX4_tryOut 1000 65 300 65 vb pl pf pt nx ar rv tc tp trv xt tl xc xp xl xw = some R1) : mX11_errorKind 1000 65 300 65 xc xp xl xw xt tl vb pl pf pt nx ar rv tc tp trv = some (R1.2.2.2.2.2.2.2.2.2.2.2.2.2.2.2.2.1, R1.1, R1.2.1, R1.2.2.1, R1.2.2.2.1, R1.2.2.2.2.1, R1.2.2.2.2.2.1, R1.2.2.2.2.2.2.1, R1.2.2.2.2.2.2.2.1, R1.2.2.2.2.2.2.2.2.1, R1.2.2.2.2.2.2.2.2.2.1, R1.2.2.2.2.2.2.2.2.2.2.1, R1.2.2.2.2.2.2.2.2.2.2.2.1, R1.2.2.2.2.2.2.2.2.2.2.2.2.1, R1.2.2.2.2.2.2.2.2.2.2.2.2.2.1, R1.2.2.2.2.2.2.2.2.2.2.2.2.2.2.1, R1.2.2.2.2.2.2.2.2.2.2.2.2.2.2.2.1, R1.2.2.2.2.2.2.2.2.2.2.2.2.2.2.2.2.1, R1.2.2.2.2.2.2.2.2.2.2.2.2.2.2.2.2.2) := by
  rw [mX11_errorKind, hT]
  rfl
set_option maxHeartbeats 4000000 in
theorem xplace_eq {vb : Nat → Nat} {pl pf pt nx : Nat → Int32} {ar : Nat → Nat → Int64} {rv : Int64} {tc : Nat → Int64} {tp : Nat → Int32} {trv : Int64} {xc : Nat → Int64} {xp xt : Nat → Int32} {xl xw tl : Int32} {o : Nat → Int64} {R1 : T1R} (hT : mX4_tryOut 1000 65 300 65 vb pl pf pt nx ar rv tc tp trv xt tl xc xp xl xw = some R1) : mX11_errorPlace 1000 65 300 65 xc xp xl xw xt tl vb pl pf pt nx ar rv tc tp trv = some (R1.2.2.2.2.2.2.2.2.2.2.2.2.2.2.2.2.2, R1.1, R1.2.1, R1.2.2.1, R1.2.2.2.1, R1.2.2.2.2.1, R1.2.2.2.2.2.1, R1.2.2.2.2.2.2.1, R1.2.2.2.2.2.2.2.1, R1.2.2.2.2.2.2.2.2.1, R1.2.2.2.2.2.2.2.2.2.1, R1.2.2.2.2.2.2.2.2.2.2.1, R1.2.2.2.2.2.2.2.2.2.2.2.1, R1.2.2.2.2.2.2.2.2.2.2.2.2.1, R1.2.2.2.2.2.2.2.2.2.2.2.2.2.1, R1.2.2.2.2.2.2.2.2.2.2.2.2.2.2.1, R1.2.2.2.2.2.2.2.2.2.2.2.2.2.2.2.1, R1.2.2.2.2.2.2.2.2.2.2.2.2.2.2.2.2.1, R1.2.2.2.2.2.2.2.2.2.2.2.2.2.2.2.2.2) := by
  rw [mX11_errorPlace, hT]
  rfl
