/-! pure: programs: a statement is read alike on both sides -/
theorem pr_exp1 {k : Nat} {f : Nat → Int32} {len fo to kd ep m : Int32} (h : ¬ kd = 0) : mX4_expect k 300 f len fo to kd ep m = some (fo, to, kd, ep) := by
  rw [mX4_expect, if_neg h]
theorem pr_expect {tx : Nat → Nat} {len nw w m k : Nat} {f bs es : Nat → Int32} (hf : txR f tx len) (h : wdR tx len nw bs es) (hw : w ≤ nw) (hk : 301 < k) (h0 : 0 < m) (hm : m < 256) {ep : Int32} : mX4_expect k 300 f (nI len) (nI (WB tx len w)) (nI (WE tx len w)) 0 ep (nI m) = some (if mk tx len nw w m = true then (nI (WB tx len (w + 1)), nI (WE tx len (w + 1)), 0, ep) else (nI (WB tx len w), nI (WE tx len w), 1, nI (WB tx len w))) := by
  rw [mX4_expect, if_pos rfl, pr_cmk hf h hw h0 hm]
  simp only [Option.bind_some]
  cases hmk : mk tx len nw w m with
  | false =>
    rw [if_pos bI_f]
    rfl
  | true =>
    rw [if_neg (by decide), pr_adv hf hk]
    rfl
theorem pr_mark {tx : Nat → Nat} {len nw w m : Nat} {fr bs es : Nat → Int32} (hr : txR fr tx len) (h : wdR tx len nw bs es) (hw : w ≤ nw) (hm : m < 256) {ep : Int32} : mX13_mark fr (nI len) bs (nI nw) (nI w) 0 ep (nI m) = some (if mk tx len nw w m = true then (nI (w + 1), 0, ep) else (nI w, 1, nI (WB tx len w))) := by
  have h1 := hr.1
  have h2 := h.1
  rw [mX13_mark, pr_rmk hr h (by omega) hm]
  simp only [Option.bind_some]
  cases hmk : mk tx len nw w m with
  | false =>
    rw [if_pos bI_f, pr_rfailsHere h hr.1 hw]
    rfl
  | true =>
    rw [if_neg (by decide), nI_1]
    rfl
theorem WB_adv {tx : Nat → Nat} {len nw w : Nat} {bs es : Nat → Int32} (h : wdR tx len nw bs es) (hw : w < nw) : WB tx len w + 1 ≤ WB tx len (w + 1) := by
  have h1 := WB_step (h.2.2.1 w hw)
  omega
theorem WB_many {tx : Nat → Nat} {len nw : Nat} {bs es : Nat → Int32} (h : wdR tx len nw bs es) : ∀ (d w : Nat), w + d ≤ nw → WB tx len w + d ≤ WB tx len (w + d)
  | 0, _, _ => Nat.le_refl _
  | d + 1, w, hw => by
    have h1 := WB_many h d w (by omega)
    have h2 := WB_adv h (w := w + d) (by omega)
    have e : w + (d + 1) = w + d + 1 := rfl
    rw [e]
    omega
theorem nm_len {tx : Nat → Nat} {a e : Nat} (h : nmOf tx a e < 31) : e - a = sLen (nmOf tx a e) := by
  have h1 := (fst1_spec (fun v => isNm tx v a e) 31 0).2.2.2 (by exact h)
  exact (of_decide_eq_true h1).1
theorem v_len : ∀ v, v < 31 → 5 ≤ sLen v + alen v + 1 := by decide +kernel
/-- the first words of a statement -/
theorem st_len {tx : Nat → Nat} {len nw w j : Nat} {bs es : Nat → Int32} (h : wdR tx len nw bs es) (hw : w < nw) (hv : nmOf tx (WB tx len w) (WE tx len w) < 31) (hj : w + 2 + alen (nmOf tx (WB tx len w) (WE tx len w)) ≤ j) (hj2 : j ≤ nw) : WB tx len w + 5 ≤ WB tx len j := by
  have h1 := WB_step (h.2.2.1 w hw)
  have h2 := nm_len hv
  have h3 := v_len _ hv
  have h4 := WB_many h (j - (w + 1)) (w + 1) (by omega)
  have e : w + 1 + (j - (w + 1)) = j := by omega
  rw [e] at h4
  omega
theorem jst {tx : Nat → Nat} {len nw d : Nat} {f fr bs es : Nat → Int32} {recC : CSt} {recR : RSt} (hf : txR f tx len) (hr : txR fr tx len) (h : wdR tx len nw bs es) (hd : d ≤ 4) (hrec : d < 4 → ∃ cS rS, recC = mX4_parseBlockF cS ∧ recR = mX13_checkBlockF rS ∧ JS tx len nw f fr bs es (d + 1) cS rS) : JS tx len nw f fr bs es d (mX4_parseStatementF recC) (mX13_checkStatementF recR) := by
  intro A rv fd vs w s hw hs
  obtain ⟨vb, pl, pf, pt, nx, ar⟩ := A
  have hl := hf.1
  have hnl := h.1
  have hb := h.2.2.1 w hw
  have hs60 : s < 60 := by omega
  obtain ⟨he1, he2⟩ := WE_le tx len w
  obtain ⟨hbw, hew⟩ := h.2.2.2 w hw
  have V1 := pr_verb (k := 1000) hf he2 he1 (by omega)
  have V2 := pr_nameOf (k := 1000) (w := w) (bs := bs) (es := es) hr he2 he1 (by omega) hbw hew (by omega)
  by_cases hv : nmOf tx (WB tx len w) (WE tx len w) < 31
  · rw [if_pos hv] at V1 V2
    obtain ⟨v, hve⟩ : ∃ v, v = nmOf tx (WB tx len w) (WE tx len w) := ⟨_, rfl⟩
    rw [← hve] at V1 V2 hv
    have hv1 : ¬ nI v = -1 := fun z => by
      have h9 : (nI v).toInt = -1 := by rw [z]; decide
      rw [nI_toInt (by omega)] at h9
      omega
    by_cases hdeep : v = 30 ∧ d = 4
    · have e1 : mX4_parseStatementF recC 1000 300 vb pl pf pt nx ar f (nI len) (nI (WB tx len w)) (nI (WE tx len w)) rv (nI s) 0 (-1) (nI d) = some (vb, pl, pf, pt, nx, ar, nI (WB tx len w), nI (WE tx len w), rv, nI s, 2, nI (WB tx len w)) := by
        rw [mX4_parseStatementF, V1]
        simp only [Option.bind_some]
        rw [if_neg (by omega), if_pos (show nI s < 60 from nI_lt (b := 60) hs60 (by omega)), if_pos hdeep.1, if_neg (show ¬ nI d < 4 by rw [hdeep.2]; decide)]
        rfl
      have e2 : mX13_checkStatementF recR 1000 fd fr (nI len) bs es vs (nI nw) (nI w) 0 (-1) (nI d) = some (0, (fd, vs, nI w, 2, nI (WB tx len w))) := by
        rw [mX13_checkStatementF, V2]
        simp only [Option.bind_some]
        rw [if_neg hv1, if_pos (by rw [hdeep.1]; decide), if_pos (by rw [hdeep.2]; decide), if_neg (nI_in (show w < 300 by omega) (by omega)), nI_clamp (show w < 2 ^ 31 by omega), hbw]
        rfl
      exact ⟨(vb, pl, pf, pt, nx, ar), _, _, _, _, _, _, _, _, w, 0, e1, e2, Or.inl ⟨by decide, Nat.zero_le _⟩⟩
    · have c1 : mX4_parseStatementF recC 1000 300 vb pl pf pt nx ar f (nI len) (nI (WB tx len w)) (nI (WE tx len w)) rv (nI s) 0 (-1) (nI d) = mX4_parseStatementF_j62 (nI s) (nI (WB tx len w)) v 1000 300 f (nI len) (nI (WE tx len w)) 0 (-1) rv pf pt ar recC vb pl nx (nI d) := by
        rw [mX4_parseStatementF, V1]
        simp only [Option.bind_some]
        rw [if_neg (by omega), if_pos (show nI s < 60 from nI_lt (b := 60) hs60 (by omega))]
        by_cases h30 : v = 30
        · rw [if_pos h30, if_pos (show nI d < 4 from nI_lt (b := 4) (by omega) (by omega))]
        · rw [if_neg h30]
      have r1 : mX13_checkStatementF recR 1000 fd fr (nI len) bs es vs (nI nw) (nI w) 0 (-1) (nI d) = mX13_checkStatementF_j45 1000 (nI v) fr (nI len) bs es (nI nw) (nI w) 0 (-1) fd vs recR (nI d) := by
        rw [mX13_checkStatementF, V2]
        simp only [Option.bind_some]
        rw [if_neg hv1]
        by_cases h30 : v = 30
        · rw [if_pos (by rw [h30]; decide), if_neg (show ¬ nI d = 4 from fun z => hdeep ⟨h30, (nI_eq (a := d) (b := 4) (by omega) (by omega)).mp z⟩)]
        · rw [if_neg (show ¬ nI v = 30 from fun z => h30 ((nI_eq (a := v) (b := 30) (by omega) (by omega)).mp z))]
      obtain ⟨r, hsh, hR⟩ := sh_get hv
      obtain ⟨kd, ep, fo, to, pf2, pt2, ar2, rv2, fd2, vs2, w2, G1, G2, G3⟩ := pr_args (w := w) (k := 1000) (s := s) hf hr h (by omega) hs60 hv hR (alen v) 0 1000 1000 pf pt ar rv fd vs (by omega) (by have := (ar_ok v hv).2.1; omega) (by have := (ar_ok v hv).2.1; omega) (by omega)
      have G1' : mX4_parseStatementF_L104 v 1000 300 f (nI len) (nI s) 1000 0 0 (-1) (nI (WB tx len (w + 1))) (nI (WE tx len (w + 1))) rv pf pt ar = some (kd, ep, fo, to, rv2, pf2, pt2, ar2) := G1
      have G2' : mX13_checkStatementF_L63 r 1000 fr (nI len) bs es (nI nw) 1000 0 (nI (w + 1)) 0 (-1) fd vs = some (nI w2, kd, ep, fd2, vs2) := G2
      obtain ⟨vb1, hvb1⟩ : ∃ vb1, vb1 = upN vb s v := ⟨_, rfl⟩
      obtain ⟨pl1, hpl1⟩ : ∃ pl1, pl1 = upN pl s (nI (WB tx len w)) := ⟨_, rfl⟩
      have c2 : mX4_parseStatementF_j62 (nI s) (nI (WB tx len w)) v 1000 300 f (nI len) (nI (WE tx len w)) 0 (-1) rv pf pt ar recC vb pl nx (nI d) = (((if v = 30 then ((mX4_expect 1000 300 f (nI len) fo to kd ep 123).bind (fun r_49 => ((recC 1000 300 vb1 pl1 pf2 pt2 nx ar2 f (nI len) r_49.1 r_49.2.1 rv2 (nI (s + 1)) r_49.2.2.1 r_49.2.2.2 (nI (d + 1))).bind (fun r_50 => ((mX4_expect 1000 300 f (nI len) r_50.2.2.2.2.2.2.1 r_50.2.2.2.2.2.2.2.1 r_50.2.2.2.2.2.2.2.2.2.2.1 r_50.2.2.2.2.2.2.2.2.2.2.2 125).bind (fun r_51 => some (r_50.2.2.2.2.2.2.2.2.2.1, r_51.2.2.1, r_51.2.2.2, r_51.1, r_51.2.1, r_50.2.2.2.2.2.2.2.2.1, r_50.1, r_50.2.1, r_50.2.2.1, r_50.2.2.2.1, r_50.2.2.2.2.1, r_50.2.2.2.2.2.1))))))) else ((mX4_expect 1000 300 f (nI len) fo to kd ep 59).bind (fun r_48 => some (nI (s + 1), r_48.2.2.1, r_48.2.2.2, r_48.1, r_48.2.1, rv2, vb1, pl1, pf2, pt2, nx, ar2)))) : Option (Int32 × Int32 × Int32 × Int32 × Int32 × Int64 × (Nat → Nat) × (Nat → Int32) × (Nat → Int32) × (Nat → Int32) × (Nat → Int32) × (Nat → Nat → Int64))).bind (fun x_47 => some (x_47.2.2.2.2.2.2.1, x_47.2.2.2.2.2.2.2.1, x_47.2.2.2.2.2.2.2.2.1, x_47.2.2.2.2.2.2.2.2.2.1, (upN x_47.2.2.2.2.2.2.2.2.2.2.1 s x_47.1), x_47.2.2.2.2.2.2.2.2.2.2.2, x_47.2.2.2.1, x_47.2.2.2.2.1, x_47.2.2.2.2.2.1, x_47.1, x_47.2.1, x_47.2.2.1))) := by
        rw [mX4_parseStatementF_j62, if_neg (nI_in hs60 (by omega)), mX7_begin]
        simp only [Option.bind_some]
        rw [pr_adv hf (by omega)]
        simp only [Option.bind_some]
        rw [G1']
        simp only [Option.bind_some]
        rw [nI_clamp (show s < 2 ^ 31 by omega), nI_1, nI_1, hvb1, hpl1]
      have r2 : mX13_checkStatementF_j45 1000 (nI v) fr (nI len) bs es (nI nw) (nI w) 0 (-1) fd vs recR (nI d) = (cst 1 (if kd = 0 then (if nI v = 30 then ((recR 1000 fd2 fr (nI len) bs es vs2 (nI nw) (nI w2) kd ep (nI (d + 1))).bind (fun r_50 => (cst r_50.1 (some (0, (r_50.2.1, r_50.2.2.1, r_50.2.2.2.1, r_50.2.2.2.2.1, r_50.2.2.2.2.2)))))) else (mX13_checkStatementF_j129 (nI w2, kd, ep, fd2, vs2) fr (nI len) bs (nI nw))) else (mX13_checkStatementF_j129 (nI w2, kd, ep, fd2, vs2) fr (nI len) bs (nI nw)))) := by
        rw [mX13_checkStatementF_j45, hsh]
        simp only [Option.bind_some]
        rw [nI_1, G2']
        simp only [Option.bind_some]
        rw [nI_1]
      rw [c1, c2, r1, r2]
      have hA1 : ∀ i, i ≠ s → vb1 i = vb i ∧ pl1 i = pl i := fun i hi => ⟨by rw [hvb1, upN_ne hi], by rw [hpl1, upN_ne hi]⟩
      have hvs1 : vb1 s = v := by rw [hvb1, upN_s]
      have hpls : pl1 s = nI (WB tx len w) := by rw [hpl1, upN_s]
      rcases G3 with G3 | ⟨g1, g2, g3, g4, g5, g6, g7, g8, g9, g10, g11⟩
      · have r3 : mX13_checkStatementF_j129 (nI w2, kd, ep, fd2, vs2) fr (nI len) bs (nI nw) = some (0, (fd2, vs2, nI w2, kd, ep)) := by
          rw [mX13_checkStatementF_j129, if_neg G3]
        rw [if_neg G3, r3]
        by_cases h30 : v = 30
        · obtain ⟨cS, rS, q1, q2, -⟩ := hrec (by omega)
          rw [if_pos h30, pr_exp1 G3]
          simp only [Option.bind_some]
          rw [q1, mX4_parseBlockF, c2_err (i := 0) (by decide) G3]
          simp only [Option.bind_some]
          rw [pr_exp1 G3]
          simp only [Option.bind_some]
          exact ⟨(vb1, pl1, pf2, pt2, upN nx s (nI (s + 1)), ar2), _, _, _, _, _, _, _, _, w2, 1 + 0, rfl, rfl, Or.inl ⟨G3, by omega⟩⟩
        · rw [if_neg h30, pr_exp1 G3]
          simp only [Option.bind_some]
          exact ⟨(vb1, pl1, pf2, pt2, upN nx s (nI (s + 1)), ar2), _, _, _, _, _, _, _, _, w2, 1 + 0, rfl, rfl, Or.inl ⟨G3, by omega⟩⟩
      · subst g1 g2 g5 g6
        rw [if_pos rfl]
        by_cases h30 : v = 30
        · obtain ⟨cS, rS, q1, q2, hJ⟩ := hrec (by omega)
          have hal : alen v = 1 := by rw [h30]; decide
          have E1 : mX4_expect 1000 300 f (nI len) (nI (WB tx len w2)) (nI (WE tx len w2)) 0 (-1) 123 = _ := pr_expect (m := 123) hf h g4 (by omega) (by decide) (by decide)
          have M1 : mX13_mark fr (nI len) bs (nI nw) (nI w2) 0 (-1) 123 = _ := pr_mark (m := 123) hr h g4 (by decide)
          rw [if_pos h30, if_pos (by rw [h30]; decide), E1, q1, q2, mX13_checkBlockF, M1]
          cases hmk : mk tx len nw w2 123 with
          | false =>
            simp only [Bool.false_eq_true, if_false, Option.bind_some]
            rw [mX4_parseBlockF, c2_err (i := 0) (by decide) (show ¬ (1 : Int32) = 0 by decide), r6_err (by decide) (show ¬ (1 : Int32) = 0 by decide)]
            simp only [Option.bind_some, e10, if_false]
            rw [pr_exp1 (show ¬ (1 : Int32) = 0 by decide)]
            simp only [Option.bind_some]
            exact ⟨(vb1, pl1, pf2, pt2, upN nx s (nI (s + 1)), ar2), _, _, _, _, _, _, _, _, w2, 1 + 0, rfl, rfl, Or.inl ⟨by decide, by omega⟩⟩
          | true =>
            simp only [if_true, Option.bind_some]
            have hw2 : w2 < nw := by
              rw [mk, Bool.and_eq_true] at hmk
              exact of_decide_eq_true hmk.1
            have h5s := st_len (j := w2 + 1) h hw (by rw [← hve]; exact hv) (by rw [← hve]; omega) hw2
            obtain ⟨A3, fo3, to3, rv3, sz3, kd3, ep3, fd3, vs3, w3, c3, K1, K2, K3⟩ := jblk hf hr h hJ (vb1, pl1, pf2, pt2, nx, ar2) rv2 fd2 vs2 (w2 + 1) (s + 1) 0 1000 1000 (by omega) (by omega) hw2 (by omega) (Nat.zero_le _)
            have K1' : mX4_parseBlockF_L2 (nI len) 300 f cS 1000 (nI (d + 1)) 1000 0 (nI (s + 1)) 0 (-1) (nI (WB tx len (w2 + 1))) (nI (WE tx len (w2 + 1))) rv2 nx pf2 pl1 pt2 vb1 ar2 = some (sz3, kd3, ep3, fo3, to3, rv3, A3.2.2.2.2.1, A3.2.2.1, A3.2.1, A3.2.2.2.1, A3.1, A3.2.2.2.2.2) := K1
            rw [mX4_parseBlockF, K1', K2]
            simp only [Option.bind_some]
            rcases K3 with ⟨k1, k2⟩ | ⟨s3, q1, q2, q3, q4, q5, q6, q7, q8, q9, q10, q10', q11, q12, q13⟩
            · rw [pr_exp1 k1, if_neg k1]
              simp only [Option.bind_some]
              exact ⟨(A3.1, A3.2.1, A3.2.2.1, A3.2.2.2.1, upN A3.2.2.2.2.1 s sz3, A3.2.2.2.2.2), _, _, _, _, _, _, _, _, w3, 1 + (c3 + 0 + 0), rfl, rfl, Or.inl ⟨k1, by omega⟩⟩
            · subst q1 q2 q6 q7 q8
              have E3 : mX4_expect 1000 300 f (nI len) (nI (WB tx len w3)) (nI (WE tx len w3)) 0 (-1) 125 = _ := pr_expect (m := 125) hf h q3 (by omega) (by decide) (by decide)
              have M3 : mX13_mark fr (nI len) bs (nI nw) (nI w3) 0 (-1) 125 = _ := pr_mark (m := 125) hr h q3 (by decide)
              rw [E3, if_pos rfl, M3]
              cases hm3 : mk tx len nw w3 125 with
              | false =>
                simp only [Bool.false_eq_true, if_false, Option.bind_some]
                exact ⟨(A3.1, A3.2.1, A3.2.2.1, A3.2.2.2.1, upN A3.2.2.2.2.1 s (nI s3), A3.2.2.2.2.2), _, _, _, _, _, _, _, _, w3, 1 + (c3 + 0 + 0), rfl, rfl, Or.inl ⟨by decide, by omega⟩⟩
              | true =>
                simp only [if_true, Option.bind_some]
                have hw3 : w3 < nw := by
                  rw [mk, Bool.and_eq_true] at hm3
                  exact of_decide_eq_true hm3.1
                have h5t := WB_adv h hw3
                have hag : ∀ i, i ≠ s → agS A3 (A3.1, A3.2.1, A3.2.2.1, A3.2.2.2.1, upN A3.2.2.2.2.1 s (nI s3), A3.2.2.2.2.2) i := fun i hi => ⟨rfl, rfl, rfl, rfl, (upN_ne hi).symm, rfl⟩
                refine ⟨(A3.1, A3.2.1, A3.2.2.1, A3.2.2.2.1, upN A3.2.2.2.2.1 s (nI s3), A3.2.2.2.2.2), _, _, _, _, _, _, _, _, w3 + 1, 1 + (c3 + 0 + 0), rfl, rfl, Or.inr ⟨s3, rfl, rfl, hw3, by omega, by omega, rfl, rfl, rfl, by omega, by omega, ?_, ?_, ?_⟩⟩
                · intro i hi
                  have hne : i ≠ s := by omega
                  obtain ⟨y1, y2, y3⟩ := g8 i hne
                  obtain ⟨y4, y5⟩ := hA1 i hne
                  exact (hag i hne).sy.tr ((q11 i (by omega)).tr ⟨y4, y5, y1, y2, rfl, y3⟩)
                · intro i hi
                  exact (q12 i (by omega)).trans (g10 i (by omega))
                · intro n hn
                  have hw2e : w + 2 = w2 := by omega
                  have hmk2 : mk tx len nw (w + 2) 123 = true := by rw [hw2e]; exact hmk
                  obtain ⟨z1, z2, z3, z4, z5, z6⟩ := q11 s (Nat.lt_succ_self _)
                  refine ⟨by omega, by omega, upN_s, v, ⟨hw, hv, hve.symm, z1.trans hvs1, z2.trans hpls, fun q hq => ?_⟩, Or.inr ⟨h30, by omega, hmk2, w3, ?_, by omega, hm3, rfl⟩⟩
                  · obtain ⟨b1, b2, b3⟩ := g7 q (Nat.zero_le _) hq
                    refine ⟨b1, fun y => ?_, fun y => ?_⟩
                    · obtain ⟨y1, y2⟩ := b2 y
                      exact ⟨z3.trans y1, z4.trans y2⟩
                    · obtain ⟨y1, y2, y3⟩ := b3 y
                      exact ⟨y1, (congrFun z6 q).trans y2, (q12 _ (by omega)).trans y3⟩
                  · have hw3' : w + 3 = w2 + 1 := by omega
                    rw [hw3']
                    exact Blk.cg n (d + 1) (s + 1) s3 (w2 + 1) w3 (fun i i1 i2 => hag i (by omega)) (fun i _ _ => rfl) (q13 n (by omega))
        · have E1 : mX4_expect 1000 300 f (nI len) (nI (WB tx len w2)) (nI (WE tx len w2)) 0 (-1) 59 = _ := pr_expect (m := 59) hf h g4 (by omega) (by decide) (by decide)
          have M1 : mX13_mark fr (nI len) bs (nI nw) (nI w2) 0 (-1) 59 = _ := pr_mark (m := 59) hr h g4 (by decide)
          rw [if_neg h30, if_neg (show ¬ nI v = 30 from fun z => h30 ((nI_eq (a := v) (b := 30) (by omega) (by omega)).mp z)), E1, mX13_checkStatementF_j129, if_pos rfl, M1]
          cases hmk : mk tx len nw w2 59 with
          | false =>
            simp only [Bool.false_eq_true, if_false, Option.bind_some]
            exact ⟨(vb1, pl1, pf2, pt2, upN nx s (nI (s + 1)), ar2), _, _, _, _, _, _, _, _, w2, 1 + 0, rfl, rfl, Or.inl ⟨by decide, by omega⟩⟩
          | true =>
            simp only [if_true, Option.bind_some]
            have hw2 : w2 < nw := by
              rw [mk, Bool.and_eq_true] at hmk
              exact of_decide_eq_true hmk.1
            have h5s := st_len (j := w2 + 1) h hw (by rw [← hve]; exact hv) (by rw [← hve]; omega) hw2
            refine ⟨(vb1, pl1, pf2, pt2, upN nx s (nI (s + 1)), ar2), _, _, _, _, _, _, _, _, w2 + 1, 1 + 0, rfl, rfl, Or.inr ⟨s + 1, rfl, rfl, hw2, by omega, by omega, rfl, rfl, rfl, by omega, by omega, ?_, ?_, ?_⟩⟩
            · intro i hi
              have hne : i ≠ s := by omega
              obtain ⟨y1, y2, y3⟩ := g8 i hne
              obtain ⟨y4, y5⟩ := hA1 i hne
              exact ⟨y4, y5, y1, y2, upN_ne hne, y3⟩
            · intro i hi
              exact g10 i (by omega)
            · intro n hn
              exact ⟨by omega, by omega, upN_s, v, ⟨hw, hv, hve.symm, hvs1, hpls, fun q hq => g7 q (Nat.zero_le _) hq⟩, Or.inl ⟨h30, rfl, by omega, by rw [← hmk, g3]⟩⟩
  · rw [if_neg hv] at V1 V2
    have e1 : mX4_parseStatementF recC 1000 300 vb pl pf pt nx ar f (nI len) (nI (WB tx len w)) (nI (WE tx len w)) rv (nI s) 0 (-1) (nI d) = some (vb, pl, pf, pt, nx, ar, nI (WB tx len w), nI (WE tx len w), rv, nI s, 1, nI (WB tx len w)) := by
      rw [mX4_parseStatementF, V1]
      rfl
    have e2 : mX13_checkStatementF recR 1000 fd fr (nI len) bs es vs (nI nw) (nI w) 0 (-1) (nI d) = some (0, (fd, vs, nI w, 1, nI (WB tx len w))) := by
      rw [mX13_checkStatementF, V2]
      simp only [Option.bind_some]
      rw [if_pos trivial, pr_rfailsHere h hr.1 (by omega)]
      rfl
    exact ⟨(vb, pl, pf, pt, nx, ar), _, _, _, _, _, _, _, _, w, 0, e1, e2, Or.inl ⟨by decide, Nat.zero_le _⟩⟩
