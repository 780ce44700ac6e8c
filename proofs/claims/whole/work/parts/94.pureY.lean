/-! pure: all arguments of a statement on both sides -/
theorem updL_ne {f : Nat → Int64} {j q : Nat} {v : Int64} (h : q ≠ j) : vp_updL f j v q = f q := by
  unfold vp_updL
  rw [if_neg h]
theorem upN_s {α : Type} {f : Nat → α} {i : Nat} {v : α} : upN f i v i = v := if_pos rfl
theorem upN_ne {α : Type} {f : Nat → α} {i q : Nat} {v : α} (h : q ≠ i) : upN f i v q = f q := if_neg h
def shR (v : Nat) (r : Nat × (Nat → Int32)) : Prop := mJ0_length_w r.1 = some (nI r.1) ∧ ((alen v = 0 ∧ r.1 = 1 ∧ mJ0_charAt_w r.1 r.2 0 = some 46) ∨ (alen v ≠ 0 ∧ r.1 = alen v ∧ ∀ q, q < alen v → mJ0_charAt_w r.1 r.2 (nI q) = some (nI (alet v q))))
theorem sh_get {v : Nat} (hv : v < 31) : ∃ r, mX13_shapeOf 1000 (nI v) = some r ∧ shR v r := by
  have h := sh_ok v hv
  rw [shB] at h
  cases hs : mX13_shapeOf 1000 (nI v) with
  | none =>
    rw [hs] at h
    cases h
  | some r =>
    rw [hs] at h
    simp only [Bool.and_eq_true, decide_eq_true_iff] at h
    refine ⟨r, rfl, h.1, ?_⟩
    have h2 := h.2
    by_cases h0 : alen v = 0
    · rw [if_pos h0] at h2
      simp only [Bool.and_eq_true, decide_eq_true_iff] at h2
      exact Or.inl ⟨h0, h2.1, h2.2⟩
    · rw [if_neg h0] at h2
      simp only [Bool.and_eq_true, decide_eq_true_iff] at h2
      exact Or.inr ⟨h0, h2.1, h2.2⟩
theorem let_P : ∀ v, v < 31 → ∀ q, q < alen v → alet v q = 80 → q = 2 := by decide +kernel
/-- argument q of the statement at word w, as it is kept on both sides -/
def agA (tx : Nat → Nat) (len nw w v q : Nat) (pf pt : Int32) (as vs : Nat → Int64) : Prop := ¬ noArg tx len nw (w + 1 + q) ∧ (alet v q = 80 → pf = nI (WB tx len (w + 1 + q)) ∧ pt = nI (WE tx len (w + 1 + q))) ∧ (alet v q ≠ 80 → inL (alet v q) (z10 tx len (w + 1 + q)) = true ∧ as q = Int64.ofBitVec (z10 tx len (w + 1 + q)) ∧ vs (w + 1 + q) = Int64.ofBitVec (z10 tx len (w + 1 + q)))
theorem c104_err {v k s : Nat} {f : Nat → Int32} {len : Int32} (hv : v < 31) (hs : s < 60) {kd ep fo to : Int32} {rv : Int64} {pf pt : Nat → Int32} {ar : Nat → Nat → Int64} (hkd : ¬ kd = 0) : ∀ (d q kc : Nat), q + d = alen v → d < kc → mX4_parseStatementF_L104 v k 300 f len (nI s) kc (nI q) kd ep fo to rv pf pt ar = some (kd, ep, fo, to, rv, pf, pt, ar)
  | _, _, 0, _, h2 => absurd h2 (Nat.not_lt_zero _)
  | 0, q, kc + 1, h1, h2 => by
    obtain ⟨a1, a2, a3⟩ := ar_ok v hv
    rw [mX4_parseStatementF_L104, a1]
    simp only [Option.bind_some]
    rw [if_pos (nI_le (by omega) (by omega))]
  | d + 1, q, kc + 1, h1, h2 => by
    obtain ⟨a1, a2, a3⟩ := ar_ok v hv
    obtain ⟨a4, a5⟩ := a3 q (by omega)
    rw [mX4_parseStatementF_L104, a1]
    simp only [Option.bind_some]
    rw [if_neg (nI_ge (show q < alen v by omega) (by omega)), a4]
    simp only [Option.bind_some]
    rw [mX4_parseArgument, if_neg hkd]
    simp only [Option.bind_some]
    rw [nI_1]
    exact c104_err hv hs hkd d (q + 1) kc (by omega) (by omega)
theorem r63_err {v k nw : Nat} {r : Nat × (Nat → Int32)} {fr bs es : Nat → Int32} {len : Int32} (hR : shR v r) {kd ep : Int32} {fd : Nat → Int32} {vs : Nat → Int64} (hkd : ¬ kd = 0) {q at' : Int32} {kr : Nat} (hkr : 0 < kr) : mX13_checkStatementF_L63 r k fr len bs es (nI nw) kr q at' kd ep fd vs = some (at', kd, ep, fd, vs) := by
  obtain ⟨kr', rfl⟩ : ∃ kr', kr = kr' + 1 := ⟨kr - 1, by omega⟩
  rw [mX13_checkStatementF_L63, hR.1]
  simp only [Option.bind_some]
  by_cases h : nI r.1 ≤ q
  · rw [if_pos h]
  · rw [if_neg h, if_neg hkd]
theorem pr_args {tx : Nat → Nat} {len nw w v k s : Nat} {f fr bs es : Nat → Int32} {r : Nat × (Nat → Int32)} (hf : txR f tx len) (hr : txR fr tx len) (h : wdR tx len nw bs es) (hk : 301 < k) (hs : s < 60) (hv : v < 31) (hR : shR v r) : ∀ (d q kc kr : Nat) (pf pt : Nat → Int32) (ar : Nat → Nat → Int64) (rv : Int64) (fd : Nat → Int32) (vs : Nat → Int64), q + d = alen v → d < kc → d + 1 < kr → w + 1 + q ≤ nw → ∃ kd ep fo to pf2 pt2 ar2 rv2 fd2 vs2 w2, mX4_parseStatementF_L104 v k 300 f (nI len) (nI s) kc (nI q) 0 (-1) (nI (WB tx len (w + 1 + q))) (nI (WE tx len (w + 1 + q))) rv pf pt ar = some (kd, ep, fo, to, rv2, pf2, pt2, ar2) ∧ mX13_checkStatementF_L63 r k fr (nI len) bs es (nI nw) kr (nI q) (nI (w + 1 + q)) 0 (-1) fd vs = some (nI w2, kd, ep, fd2, vs2) ∧ (¬ kd = 0 ∨ (kd = 0 ∧ ep = -1 ∧ w2 = w + 1 + alen v ∧ w2 ≤ nw ∧ fo = nI (WB tx len w2) ∧ to = nI (WE tx len w2) ∧ (∀ q', q ≤ q' → q' < alen v → agA tx len nw w v q' (pf2 s) (pt2 s) (ar2 s) vs2) ∧ (∀ i, i ≠ s → pf2 i = pf i ∧ pt2 i = pt i ∧ ar2 i = ar i) ∧ (∀ q', q' < q → ar2 s q' = ar s q') ∧ (∀ i, i < w + 1 + q → vs2 i = vs i) ∧ ((∀ q', q ≤ q' → q' < alen v → alet v q' ≠ 80) → pf2 = pf ∧ pt2 = pt)))
  | _, _, 0, _, _, _, _, _, _, _, _, h2, _, _ => absurd h2 (Nat.not_lt_zero _)
  | _, _, _, 0, _, _, _, _, _, _, _, _, h2, _ => absurd h2 (Nat.not_lt_zero _)
  | 0, q, kc + 1, kr + 1, pf, pt, ar, rv, fd, vs, h1, h2, h3, h4 => by
    obtain ⟨a1, a2, a3⟩ := ar_ok v hv
    have h5 := h.1
    have h6 := hr.1
    have e1 : mX4_parseStatementF_L104 v k 300 f (nI len) (nI s) (kc + 1) (nI q) 0 (-1) (nI (WB tx len (w + 1 + q))) (nI (WE tx len (w + 1 + q))) rv pf pt ar = some (0, -1, nI (WB tx len (w + 1 + q)), nI (WE tx len (w + 1 + q)), rv, pf, pt, ar) := by
      rw [mX4_parseStatementF_L104, a1]
      simp only [Option.bind_some]
      rw [if_pos (nI_le (by omega) (by omega))]
    have e2 : mX13_checkStatementF_L63 r k fr (nI len) bs es (nI nw) (kr + 1) (nI q) (nI (w + 1 + q)) 0 (-1) fd vs = some (nI (w + 1 + q), 0, -1, fd, vs) := by
      rw [mX13_checkStatementF_L63, hR.1]
      simp only [Option.bind_some]
      rcases hR.2 with ⟨b1, b2, b3⟩ | ⟨b1, b2, b3⟩
      · have hq : q = 0 := by omega
        subst hq
        have b3' : mJ0_charAt_w r.1 r.2 (nI 0) = some 46 := b3
        rw [if_neg (nI_ge (show 0 < r.1 by omega) (by omega)), if_pos trivial, b3']
        simp only [Option.bind_some, if_true]
      · rw [if_pos (nI_le (by omega) (by omega))]
    refine ⟨_, _, _, _, _, _, _, _, _, _, _, e1, e2, Or.inr ⟨rfl, rfl, by omega, by omega, rfl, rfl, fun q' g1 g2 => absurd g1 (by omega), fun i _ => ⟨rfl, rfl, rfl⟩, fun q' _ => rfl, fun i _ => rfl, fun _ => ⟨rfl, rfl⟩⟩⟩
  | d + 1, q, kc + 1, kr + 1, pf, pt, ar, rv, fd, vs, h1, h2, h3, h4 => by
    obtain ⟨a1, a2, a3⟩ := ar_ok v hv
    obtain ⟨a4, a5⟩ := a3 q (by omega)
    have h5 := h.1
    have h6 := hr.1
    have hL46 : ¬ nI (alet v q) = 46 := fun z => by
      have hl2 : alet v q < 2 ^ 31 := by rcases a5 with hh | hh | hh | hh | hh <;> omega
      have := (nI_eq (a := alet v q) (b := 46) hl2 (by omega)).mp z
      rcases a5 with hh | hh | hh | hh | hh <;> omega
    obtain ⟨b1, b2, b3⟩ : alen v ≠ 0 ∧ r.1 = alen v ∧ ∀ q, q < alen v → mJ0_charAt_w r.1 r.2 (nI q) = some (nI (alet v q)) := by
      rcases hR.2 with ⟨b1, b2, b3⟩ | hb
      · exact absurd b1 (by omega)
      · exact hb
    have E1 : ∀ X, mX4_parseArgument k 300 pf pt ar f (nI len) (nI (WB tx len (w + 1 + q))) (nI (WE tx len (w + 1 + q))) rv 0 (-1) (nI q) (nI (alet v q)) s = some X → mX4_parseStatementF_L104 v k 300 f (nI len) (nI s) (kc + 1) (nI q) 0 (-1) (nI (WB tx len (w + 1 + q))) (nI (WE tx len (w + 1 + q))) rv pf pt ar = mX4_parseStatementF_L104 v k 300 f (nI len) (nI s) kc (nI (q + 1)) X.2.2.2.2.2.2.1 X.2.2.2.2.2.2.2 X.2.2.2.1 X.2.2.2.2.1 X.2.2.2.2.2.1 X.1 X.2.1 X.2.2.1 := by
      intro X hX
      rw [mX4_parseStatementF_L104, a1]
      simp only [Option.bind_some]
      rw [if_neg (nI_ge (show q < alen v by omega) (by omega)), a4]
      simp only [Option.bind_some]
      rw [nI_clamp (show s < 2 ^ 31 by omega), hX]
      simp only [Option.bind_some]
      rw [nI_1]
    have E2 : ∀ X, mX13_operand k fd fr (nI len) bs es vs (nI nw) (nI (w + 1 + q)) 0 (-1) (nI (alet v q)) = some X → mX13_checkStatementF_L63 r k fr (nI len) bs es (nI nw) (kr + 1) (nI q) (nI (w + 1 + q)) 0 (-1) fd vs = mX13_checkStatementF_L63 r k fr (nI len) bs es (nI nw) kr (nI (q + 1)) X.2.2.1 X.2.2.2.1 X.2.2.2.2 X.1 X.2.1 := by
      intro X hX
      rw [mX13_checkStatementF_L63, hR.1]
      simp only [Option.bind_some]
      rw [if_neg (nI_ge (show q < r.1 by omega) (by omega)), if_pos trivial, b3 q (by omega)]
      simp only [Option.bind_some]
      rw [if_neg hL46, hX]
      simp only [Option.bind_some]
      rw [nI_1]
    by_cases hb : noArg tx len nw (w + 1 + q)
    · have F1 := E1 _ (ca_no (L := 0) hf h h4 hk hb)
      have F2 := E2 _ (ra_no (L := 0) hr h h4 hk hb)
      have G1 := F1.trans (c104_err hv hs (show ¬ (1 : Int32) = 0 by decide) d (q + 1) kc (by omega) (by omega))
      have G2 := F2.trans (r63_err hR (show ¬ (1 : Int32) = 0 by decide) (by omega))
      exact ⟨_, _, _, _, _, _, _, _, _, _, _, G1, G2, Or.inl (show ¬ (1 : Int32) = 0 by decide)⟩
    · by_cases h80 : alet v q = 80
      · have hq2 := let_P v hv q (by omega) h80
        have e80 : nI (alet v q) = nI 80 := by rw [h80]
        have hlt : w + 1 + q < nw := by
          rcases Nat.lt_or_eq_of_le h4 with hh | hh
          · exact hh
          · exact absurd (Or.inl hh) hb
        have F1 := E1 _ (by rw [e80]; exact ca_piece (L := 0) hf h h4 hk hb)
        have F2 := E2 _ (by rw [e80]; exact ra_piece (L := 0) hr h h4 hk hb)
        obtain ⟨kd, ep, fo, to, pf2, pt2, ar2, rv2, fd2, vs2, w2, G1, G2, G3⟩ := pr_args (w := w) hf hr h hk hs hv hR d (q + 1) kc kr (upN pf s (nI (WB tx len (w + 1 + q)))) (upN pt s (nI (WE tx len (w + 1 + q)))) ar rv fd vs (by omega) (by omega) (by omega) (by omega)
        refine ⟨kd, ep, fo, to, pf2, pt2, ar2, rv2, fd2, vs2, w2, F1.trans G1, F2.trans G2, G3.imp id ?_⟩
        rintro ⟨g1, g2, g3, g4, g5, g6, g7, g8, g9, g10, g11⟩
        obtain ⟨g12, g13⟩ := g11 (fun q' y1 y2 y3 => by
          have := let_P v hv q' y2 y3
          omega)
        refine ⟨g1, g2, g3, g4, g5, g6, ?_, ?_, fun q' hq' => g9 q' (by omega), fun i hi => g10 i (by omega), fun y => absurd h80 (y q (Nat.le_refl _) (by omega))⟩
        · intro q' y1 y2
          rcases Nat.lt_or_eq_of_le y1 with y3 | y3
          · exact g7 q' y3 y2
          · subst y3
            exact ⟨hb, fun _ => ⟨by rw [g12, upN_s], by rw [g13, upN_s]⟩, fun y => absurd h80 y⟩
        · intro i hi
          obtain ⟨y1, y2, y3⟩ := g8 i hi
          exact ⟨by rw [y1, upN_ne hi], by rw [y2, upN_ne hi], y3⟩
      · have hl : letN (alet v q) := by
          rcases a5 with hh | hh | hh | hh | hh
          · exact Or.inl hh
          · exact Or.inr (Or.inl hh)
          · exact absurd hh h80
          · exact Or.inr (Or.inr (Or.inl hh))
          · exact Or.inr (Or.inr (Or.inr hh))
        have hlt : w + 1 + q < nw := by
          rcases Nat.lt_or_eq_of_le h4 with hh | hh
          · exact hh
          · exact absurd (Or.inl hh) hb
        obtain ⟨fd1, vs1, R1, R2⟩ := ra_val (fd := fd) (vs := vs) (ep := -1) hr h h4 hk hb hl
        cases hn : (ok10 tx len (w + 1 + q) && inL (alet v q) (z10 tx len (w + 1 + q))) with
        | false =>
          rw [hn] at R1
          simp only [Bool.false_eq_true, if_false] at R1
          obtain ⟨rv1, C1⟩ := ca_bad (k := k) (q := q) (pf := pf) (pt := pt) (ar := ar) (rv := rv) (ep := -1) (i1 := s) hf h h4 hk hb hl hn
          have G1 := (E1 _ C1).trans (c104_err hv hs (show ¬ (2 : Int32) = 0 by decide) d (q + 1) kc (by omega) (by omega))
          have G2 := (E2 _ R1).trans (r63_err hR (show ¬ (2 : Int32) = 0 by decide) (by omega))
          exact ⟨_, _, _, _, _, _, _, _, _, _, _, G1, G2, Or.inl (show ¬ (2 : Int32) = 0 by decide)⟩
        | true =>
          rw [hn] at R1
          simp only [if_true] at R1
          have R3 := R2 hn
          have C1 := ca_ok (k := k) (q := q) (pf := pf) (pt := pt) (ar := ar) (rv := rv) (ep := -1) (i1 := s) hf h h4 hk hb hl (by omega) hn
          obtain ⟨kd, ep, fo, to, pf2, pt2, ar2, rv2, fd2, vs2, w2, G1, G2, G3⟩ := pr_args (w := w) hf hr h hk hs hv hR d (q + 1) kc kr pf pt (upN ar s (vp_updL (ar s) q (Int64.ofBitVec (z10 tx len (w + 1 + q))))) (Int64.ofBitVec (z10 tx len (w + 1 + q))) fd1 vs1 (by omega) (by omega) (by omega) (by omega)
          refine ⟨kd, ep, fo, to, pf2, pt2, ar2, rv2, fd2, vs2, w2, (E1 _ C1).trans G1, (E2 _ R1).trans G2, G3.imp id ?_⟩
          rintro ⟨g1, g2, g3, g4, g5, g6, g7, g8, g9, g10, g11⟩
          rw [Bool.and_eq_true] at hn
          refine ⟨g1, g2, g3, g4, g5, g6, ?_, ?_, ?_, ?_, fun y => g11 (fun q' y1 y2 => y q' (by omega) y2)⟩
          · intro q' y1 y2
            rcases Nat.lt_or_eq_of_le y1 with y3 | y3
            · exact g7 q' y3 y2
            · subst y3
              exact ⟨hb, fun y => absurd y h80, fun _ => ⟨hn.2, by rw [g9 q (Nat.lt_succ_self _), upN_s, pk_uLs], by rw [g10 (w + 1 + q) (by omega), R3, pk_uLs]⟩⟩
          · intro i hi
            obtain ⟨y1, y2, y3⟩ := g8 i hi
            exact ⟨y1, y2, by rw [y3, upN_ne hi]⟩
          · intro q' hq'
            rw [g9 q' (by omega), upN_s, updL_ne (by omega)]
          · intro i hi
            rw [g10 i (by omega), R3, updL_ne (by omega)]
