/-! pure: programs: the whole text is read alike on both sides -/
theorem js_all {tx : Nat → Nat} {len nw : Nat} {f fr bs es : Nat → Int32} (hf : txR f tx len) (hr : txR fr tx len) (h : wdR tx len nw bs es) : JS tx len nw f fr bs es 0 mX4_parseStatement_0 mX13_checkStatement_0 := by
  have j4 : JS tx len nw f fr bs es 4 mX4_parseStatement_4 mX13_checkStatement_4 := jst hf hr h (by decide) (fun z => absurd z (by decide))
  have j3 : JS tx len nw f fr bs es 3 mX4_parseStatement_3 mX13_checkStatement_3 := jst hf hr h (by decide) (fun _ => ⟨_, _, rfl, rfl, j4⟩)
  have j2 : JS tx len nw f fr bs es 2 mX4_parseStatement_2 mX13_checkStatement_2 := jst hf hr h (by decide) (fun _ => ⟨_, _, rfl, rfl, j3⟩)
  have j1 : JS tx len nw f fr bs es 1 mX4_parseStatement_1 mX13_checkStatement_1 := jst hf hr h (by decide) (fun _ => ⟨_, _, rfl, rfl, j2⟩)
  exact jst hf hr h (by decide) (fun _ => ⟨_, _, rfl, rfl, j1⟩)
theorem mk_one {tx : Nat → Nat} {len nw w m : Nat} (hm : mrkN m = true) (h : mk tx len nw w m = true) : ¬ nmOf tx (WB tx len w) (WE tx len w) < 31 := by
  intro hv
  rw [mk, Bool.and_eq_true] at h
  have h1 := of_decide_eq_true h.2
  have h2 := nm_len hv
  have h3 := (nm_ok _ hv).2.2.1
  have h4 : WE tx len w ≤ WB tx len w + 1 := by
    rw [WE, wew]
    by_cases hl : len ≤ WB tx len w
    · rw [if_pos hl]
      omega
    · rw [if_neg hl, h1, if_pos hm]
      omega
  omega
theorem chk_none {tx : Nat → Nat} {len nw w k : Nat} {fr bs es : Nat → Int32} {recR : RSt} {fd : Nat → Int32} {vs : Nat → Int64} {d : Int32} (hr : txR fr tx len) (h : wdR tx len nw bs es) (hk : 40 < k) (hw : w < nw) (hv : ¬ nmOf tx (WB tx len w) (WE tx len w) < 31) : mX13_checkStatementF recR k fd fr (nI len) bs es vs (nI nw) (nI w) 0 (-1) d = some (0, (fd, vs, nI w, 1, nI (WB tx len w))) := by
  have hl := hr.1
  have hnl := h.1
  obtain ⟨he1, he2⟩ := WE_le tx len w
  obtain ⟨hbw, hew⟩ := h.2.2.2 w hw
  have V2 := pr_nameOf (k := k) (w := w) (bs := bs) (es := es) hr he2 he1 (by omega) hbw hew (by omega)
  rw [if_neg hv] at V2
  rw [mX13_checkStatementF, V2]
  simp only [Option.bind_some]
  rw [if_pos trivial, pr_rfailsHere h hr.1 (by omega)]
  rfl
theorem r24_err {r1 : (Nat → Int32) × (Nat → Int32) × Int32} {k kr : Nat} {fr fd : Nat → Int32} {len a kd ep : Int32} {vs : Nat → Int64} (hk : 0 < kr) (h : ¬ kd = 0) : mX13_tries_L24 r1 k fr len kr a kd ep fd vs = some (0, (a, kd, ep, fd, vs)) := by
  obtain ⟨kr', rfl⟩ : ∃ kr', kr = kr' + 1 := ⟨kr - 1, by omega⟩
  rw [mX13_tries_L24, if_neg h]
theorem jtop {tx : Nat → Nat} {len nw : Nat} {f fr bs es : Nat → Int32} (hf : txR f tx len) (hr : txR fr tx len) (h : wdR tx len nw bs es) : ∀ (A : SA) (rv : Int64) (fd : Nat → Int32) (vs : Nat → Int64) (w s i kc kr : Nat), nw - w < kc → nw - w + 1 < kr → w ≤ nw → 5 * s ≤ WB tx len w → i ≤ s → ∃ (A2 : SA) (fo to : Int32) (rv2 : Int64) (sz kd ep kd2 ep2 : Int32) (fd2 : Nat → Int32) (vs2 : Nat → Int64) (w2 c1 : Nat), mX4_parseBlockF_L2 (nI len) 300 f mX4_parseStatement_0 1000 0 kc (nI i) (nI s) 0 (-1) (nI (WB tx len w)) (nI (WE tx len w)) rv A.2.2.2.2.1 A.2.2.1 A.2.1 A.2.2.2.1 A.1 A.2.2.2.2.2 = some (sz, kd, ep, fo, to, rv2, A2.2.2.2.2.1, A2.2.2.1, A2.2.1, A2.2.2.2.1, A2.1, A2.2.2.2.2.2) ∧ mX4_expectEnd (nI len) fo kd ep = some (kd2, ep2) ∧ mX13_tries_L24 (bs, es, nI nw) 1000 fr (nI len) kr (nI w) 0 (-1) fd vs = some (c1, (nI w2, kd2, ep2, fd2, vs2)) ∧ c1 ≤ nw - w ∧ (¬ kd2 = 0 ∨ ∃ s2, kd2 = 0 ∧ ep2 = -1 ∧ sz = nI s2 ∧ s ≤ s2 ∧ s2 ≤ 60 ∧ (∀ i, i < s → agS A2 A i) ∧ (∀ i, i < w → vs2 i = vs i) ∧ ∀ n, nw - w < n → Blk tx len nw A2 vs2 n 0 s s2 w nw)
  | _, _, _, _, _, _, _, 0, _, h2, _, _, _, _ => absurd h2 (Nat.not_lt_zero _)
  | _, _, _, _, _, _, _, _, 0, _, h2, _, _, _ => absurd h2 (Nat.not_lt_zero _)
  | A, rv, fd, vs, w, s, i, kc + 1, kr + 1, h2, h3, h4, h5, h6 => by
    have h7 := hf.1
    have h8 := h.1
    have h9 := WB_le tx len w
    have hi : ¬ (300 : Int32) ≤ nI i := nI_ge (b := 300) (show i < 300 by omega) (by omega)
    by_cases he : w = nw
    · have e1 : mX4_parseBlockF_L2 (nI len) 300 f mX4_parseStatement_0 1000 0 (kc + 1) (nI i) (nI s) 0 (-1) (nI (WB tx len w)) (nI (WE tx len w)) rv A.2.2.2.2.1 A.2.2.1 A.2.1 A.2.2.2.1 A.1 A.2.2.2.2.2 = some (nI s, 0, -1, nI (WB tx len w), nI (WE tx len w), rv, A.2.2.2.2.1, A.2.2.1, A.2.1, A.2.2.2.1, A.1, A.2.2.2.2.2) := by
        rw [mX4_parseBlockF_L2, if_neg hi, if_pos rfl, pr_cend h7 h h4, decide_eq_true he]
        simp only [Option.bind_some]
        rw [if_neg (by decide)]
      have e3 : mX4_expectEnd (nI len) (nI (WB tx len w)) 0 (-1) = some (0, -1) := by
        rw [mX4_expectEnd, if_pos rfl, pr_cend h7 h h4, decide_eq_true he]
        simp only [Option.bind_some]
        rw [if_neg (by decide)]
      have e2 : mX13_tries_L24 (bs, es, nI nw) 1000 fr (nI len) (kr + 1) (nI w) 0 (-1) fd vs = some (0, (nI w, 0, -1, fd, vs)) := by
        rw [mX13_tries_L24, if_pos rfl, if_pos (show nI nw ≤ nI w from nI_le (by omega) (by omega))]
      refine ⟨A, _, _, _, _, _, _, _, _, _, _, w, 0, e1, e3, e2, Nat.zero_le _, Or.inr ⟨s, rfl, rfl, rfl, Nat.le_refl _, by omega, fun _ _ => agS.rfl', fun _ _ => rfl, fun n hn => ?_⟩⟩
      obtain ⟨n', rfl⟩ : ∃ n', n = n' + 1 := ⟨n - 1, by omega⟩
      exact Or.inl ⟨rfl, he⟩
    · have hlt : w < nw := by omega
      cases hm : mk tx len nw w 125 with
      | true =>
        have e1 : mX4_parseBlockF_L2 (nI len) 300 f mX4_parseStatement_0 1000 0 (kc + 1) (nI i) (nI s) 0 (-1) (nI (WB tx len w)) (nI (WE tx len w)) rv A.2.2.2.2.1 A.2.2.1 A.2.1 A.2.2.2.1 A.1 A.2.2.2.2.2 = some (nI s, 0, -1, nI (WB tx len w), nI (WE tx len w), rv, A.2.2.2.2.1, A.2.2.1, A.2.1, A.2.2.2.1, A.1, A.2.2.2.2.2) := by
          have e3 : mX10_isSign 300 f (nI len) (nI (WB tx len w)) 125 = some (bI (mk tx len nw w 125)) := pr_cmk (m := 125) hf h h4 (by decide) (by decide)
          rw [mX4_parseBlockF_L2, if_neg hi, if_pos rfl, pr_cend h7 h h4, decide_eq_false he]
          simp only [Option.bind_some]
          rw [if_pos bI_f, e3, hm]
          simp only [Option.bind_some]
          rw [if_neg (by decide)]
        have e3 : mX4_expectEnd (nI len) (nI (WB tx len w)) 0 (-1) = some (1, nI (WB tx len w)) := by
          rw [mX4_expectEnd, if_pos rfl, pr_cend h7 h h4, decide_eq_false he]
          simp only [Option.bind_some]
          rw [if_pos bI_f]
          rfl
        have e4 : mX13_checkStatement_0 1000 fd fr (nI len) bs es vs (nI nw) (nI w) 0 (-1) 0 = some (0, (fd, vs, nI w, 1, nI (WB tx len w))) := chk_none hr h (by decide) hlt (mk_one (by decide) hm)
        have e2 : mX13_tries_L24 (bs, es, nI nw) 1000 fr (nI len) (kr + 1) (nI w) 0 (-1) fd vs = some (0 + 0, (nI w, 1, nI (WB tx len w), fd, vs)) := by
          rw [mX13_tries_L24, if_pos rfl, if_neg (show ¬ nI nw ≤ nI w from nI_ge hlt (by omega)), e4]
          simp only [Option.bind_some]
          rw [r24_err (by omega) (by decide)]
          rfl
        exact ⟨A, _, _, _, _, _, _, _, _, _, _, w, 0 + 0, e1, e3, e2, Nat.zero_le _, Or.inl (by decide)⟩
      | false =>
        obtain ⟨A2, fo, to, rv2, sz, kd, ep, fd2, vs2, w2, c1, J1, J2, J3⟩ := js_all hf hr h A rv fd vs w s hlt h5
        have e1 : mX4_parseBlockF_L2 (nI len) 300 f mX4_parseStatement_0 1000 0 (kc + 1) (nI i) (nI s) 0 (-1) (nI (WB tx len w)) (nI (WE tx len w)) rv A.2.2.2.2.1 A.2.2.1 A.2.1 A.2.2.2.1 A.1 A.2.2.2.2.2 = mX4_parseBlockF_L2 (nI len) 300 f mX4_parseStatement_0 1000 0 kc (nI (i + 1)) sz kd ep fo to rv2 A2.2.2.2.2.1 A2.2.2.1 A2.2.1 A2.2.2.2.1 A2.1 A2.2.2.2.2.2 := by
          have e3 : mX10_isSign 300 f (nI len) (nI (WB tx len w)) 125 = some (bI (mk tx len nw w 125)) := pr_cmk (m := 125) hf h h4 (by decide) (by decide)
          have J1' : mX4_parseStatement_0 1000 300 A.1 A.2.1 A.2.2.1 A.2.2.2.1 A.2.2.2.2.1 A.2.2.2.2.2 f (nI len) (nI (WB tx len w)) (nI (WE tx len w)) rv (nI s) 0 (-1) 0 = _ := J1
          rw [mX4_parseBlockF_L2, if_neg hi, if_pos rfl, pr_cend h7 h h4, decide_eq_false he]
          simp only [Option.bind_some]
          rw [if_pos bI_f, e3, hm]
          simp only [Option.bind_some]
          rw [if_pos bI_f, J1']
          simp only [Option.bind_some]
          rw [nI_1]
        have e2 : ∀ X, mX13_tries_L24 (bs, es, nI nw) 1000 fr (nI len) kr (nI w2) kd ep fd2 vs2 = some X → mX13_tries_L24 (bs, es, nI nw) 1000 fr (nI len) (kr + 1) (nI w) 0 (-1) fd vs = some (c1 + X.1, X.2) := by
          intro X hX
          have J2' : mX13_checkStatement_0 1000 fd fr (nI len) bs es vs (nI nw) (nI w) 0 (-1) 0 = _ := J2
          rw [mX13_tries_L24, if_pos rfl, if_neg (show ¬ nI nw ≤ nI w from nI_ge hlt (by omega)), J2']
          simp only [Option.bind_some]
          rw [hX]
          rfl
        rcases J3 with ⟨k1, k2⟩ | ⟨s2, g1, g2, g3, g4, g5, g6, g7, g8, g9, g10, g11, g12, g13⟩
        · have e3 : mX4_expectEnd (nI len) fo kd ep = some (kd, ep) := by
            rw [mX4_expectEnd, if_neg k1]
          exact ⟨A2, _, _, _, _, _, _, _, _, _, _, w2, c1 + 0, e1.trans (c2_err (by omega) k1), e3, e2 _ (r24_err (by omega) k1), k2, Or.inl k1⟩
        · subst g1 g2 g6 g7 g8
          obtain ⟨A3, fo3, to3, rv3, sz3, kd3, ep3, kd4, ep4, fd3, vs3, w3, c3, K1, K1', K2, K4, K3⟩ := jtop hf hr h A2 rv2 fd2 vs2 w2 s2 (i + 1) kc kr (by omega) (by omega) g3 g10 (by omega)
          refine ⟨A3, fo3, to3, rv3, sz3, kd3, ep3, kd4, ep4, fd3, vs3, w3, c1 + c3, e1.trans K1, K1', e2 _ K2, by omega, K3.imp id ?_⟩
          rintro ⟨s3, q1, q2, q3, q4, q5, q6, q7, q8⟩
          refine ⟨s3, q1, q2, q3, by omega, q5, fun i hi => (q6 i (by omega)).tr (g11 i hi), fun i hi => (q7 i (by omega)).trans (g12 i hi), fun n hn => ?_⟩
          obtain ⟨n', rfl⟩ : ∃ n', n = n' + 1 := ⟨n - 1, by omega⟩
          refine Or.inr ⟨s2, w2, (g13 n' (by omega)).cg (q6 s g9).sy (fun i _ i2 => q7 i i2) (fun u2 hu2 hP => ?_), q8 n' (by omega)⟩
          exact Blk.cg n' (0 + 1) (s + 1) s2 (w + 3) u2 (fun i _ i2 => (q6 i i2).sy) (fun i _ i2 => q7 i (by omega)) hP
