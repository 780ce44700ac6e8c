/-! pure: programs: a block as both sides keep it -/
abbrev SA := (Nat → Nat) × (Nat → Int32) × (Nat → Int32) × (Nat → Int32) × (Nat → Int32) × (Nat → Nat → Int64)
abbrev CSt := Nat → Nat → (Nat → Nat) → (Nat → Int32) → (Nat → Int32) → (Nat → Int32) → (Nat → Int32) → (Nat → Nat → Int64) → (Nat → Int32) → Int32 → Int32 → Int32 → Int64 → Int32 → Int32 → Int32 → Int32 → Option ((Nat → Nat) × (Nat → Int32) × (Nat → Int32) × (Nat → Int32) × (Nat → Int32) × (Nat → Nat → Int64) × Int32 × Int32 × Int64 × Int32 × Int32 × Int32)
abbrev RSt := Nat → (Nat → Int32) → (Nat → Int32) → Int32 → (Nat → Int32) → (Nat → Int32) → (Nat → Int64) → Int32 → Int32 → Int32 → Int32 → Int32 → Option (Nat × ((Nat → Int32) × (Nat → Int64) × Int32 × Int32 × Int32))
def agS (A B : SA) (i : Nat) : Prop := A.1 i = B.1 i ∧ A.2.1 i = B.2.1 i ∧ A.2.2.1 i = B.2.2.1 i ∧ A.2.2.2.1 i = B.2.2.2.1 i ∧ A.2.2.2.2.1 i = B.2.2.2.2.1 i ∧ A.2.2.2.2.2 i = B.2.2.2.2.2 i
theorem agS.rfl' {A : SA} {i : Nat} : agS A A i := ⟨rfl, rfl, rfl, rfl, rfl, rfl⟩
theorem agS.tr {A B C : SA} {i : Nat} (h : agS A B i) (g : agS B C i) : agS A C i := ⟨h.1.trans g.1, h.2.1.trans g.2.1, h.2.2.1.trans g.2.2.1, h.2.2.2.1.trans g.2.2.2.1, h.2.2.2.2.1.trans g.2.2.2.2.1, h.2.2.2.2.2.trans g.2.2.2.2.2⟩
theorem agS.sy {A B : SA} {i : Nat} (h : agS A B i) : agS B A i := ⟨h.1.symm, h.2.1.symm, h.2.2.1.symm, h.2.2.2.1.symm, h.2.2.2.2.1.symm, h.2.2.2.2.2.symm⟩
/-- the head of statement s stands at word w -/
def hdA (tx : Nat → Nat) (len nw : Nat) (A : SA) (vs : Nat → Int64) (s w v : Nat) : Prop := w < nw ∧ v < 31 ∧ nmOf tx (WB tx len w) (WE tx len w) = v ∧ A.1 s = v ∧ A.2.1 s = nI (WB tx len w) ∧ ∀ q, q < alen v → agA tx len nw w v q (A.2.2.1 s) (A.2.2.2.1 s) (A.2.2.2.2.2 s) vs
/-- statements s to s2 are the one statement of the words w to w2 -/
def St1 (tx : Nat → Nat) (len nw : Nat) (A : SA) (vs : Nat → Int64) (P : Nat → Nat → Nat → Nat → Prop) (d s s2 w w2 : Nat) : Prop := s < s2 ∧ w < w2 ∧ A.2.2.2.2.1 s = nI s2 ∧ ∃ v, hdA tx len nw A vs s w v ∧ ((v ≠ 30 ∧ s2 = s + 1 ∧ w2 = w + 2 + alen v ∧ mk tx len nw (w + 1 + alen v) 59 = true) ∨ (v = 30 ∧ d < 4 ∧ mk tx len nw (w + 2) 123 = true ∧ ∃ u2, P (s + 1) s2 (w + 3) u2 ∧ w + 3 ≤ u2 ∧ mk tx len nw u2 125 = true ∧ w2 = u2 + 1))
def Blk (tx : Nat → Nat) (len nw : Nat) (A : SA) (vs : Nat → Int64) : Nat → Nat → Nat → Nat → Nat → Nat → Prop
  | 0, _, _, _, _, _ => False
  | n + 1, d, s, t, w, u => (s = t ∧ w = u) ∨ ∃ s2 w2, St1 tx len nw A vs (Blk tx len nw A vs n (d + 1)) d s s2 w w2 ∧ Blk tx len nw A vs n d s2 t w2 u
theorem Blk.le {tx : Nat → Nat} {len nw : Nat} {A : SA} {vs : Nat → Int64} : ∀ (n d s t w u : Nat), Blk tx len nw A vs n d s t w u → s ≤ t ∧ w ≤ u
  | 0, _, _, _, _, _, h => h.elim
  | n + 1, d, s, t, w, u, h => by
    rcases h with ⟨h1, h2⟩ | ⟨s2, w2, h1, h2⟩
    · omega
    · have h3 := Blk.le n d s2 t w2 u h2
      have h4 := h1.1
      have h5 := h1.2.1
      omega
theorem hdA.cg {tx : Nat → Nat} {len nw s w v : Nat} {A B : SA} {vs vs2 : Nat → Int64} (hA : agS A B s) (hV : ∀ q, q < alen v → vs2 (w + 1 + q) = vs (w + 1 + q)) (h : hdA tx len nw A vs s w v) : hdA tx len nw B vs2 s w v := by
  obtain ⟨h1, h2, h3, h4, h5, h6⟩ := h
  obtain ⟨a1, a2, a3, a4, a5, a6⟩ := hA
  refine ⟨h1, h2, h3, by rw [← a1, h4], by rw [← a2, h5], fun q hq => ?_⟩
  obtain ⟨b1, b2, b3⟩ := h6 q hq
  refine ⟨b1, by rw [← a3, ← a4]; exact b2, fun y => ?_⟩
  obtain ⟨c1, c2, c3⟩ := b3 y
  exact ⟨c1, by rw [← a6]; exact c2, by rw [hV q hq]; exact c3⟩
theorem St1.cg {tx : Nat → Nat} {len nw d s s2 w w2 : Nat} {A B : SA} {vs vs2 : Nat → Int64} {P Q : Nat → Nat → Nat → Nat → Prop} (hA : agS A B s) (hV : ∀ i, w ≤ i → i < w2 → vs2 i = vs i) (hP : ∀ u2, u2 < w2 → P (s + 1) s2 (w + 3) u2 → Q (s + 1) s2 (w + 3) u2) (h : St1 tx len nw A vs P d s s2 w w2) : St1 tx len nw B vs2 Q d s s2 w w2 := by
  obtain ⟨h1, h2, h3, v, h4, h5⟩ := h
  refine ⟨h1, h2, by rw [← hA.2.2.2.2.1, h3], v, ?_, ?_⟩
  · refine hdA.cg hA (fun q hq => hV _ (by omega) ?_) h4
    rcases h5 with ⟨c1, c2, c3, c4⟩ | ⟨c1, c2, c3, u2, c4, c5, c6, c7⟩
    · omega
    · have h7 : alen v = 1 := by rw [c1]; decide
      omega
  · rcases h5 with h6 | ⟨c1, c2, c3, u2, c4, c5, c6, c7⟩
    · exact Or.inl h6
    · exact Or.inr ⟨c1, c2, c3, u2, hP u2 (by omega) c4, c5, c6, c7⟩
theorem Blk.cg {tx : Nat → Nat} {len nw : Nat} {A B : SA} {vs vs2 : Nat → Int64} : ∀ (n d s t w u : Nat), (∀ i, s ≤ i → i < t → agS A B i) → (∀ i, w ≤ i → i < u → vs2 i = vs i) → Blk tx len nw A vs n d s t w u → Blk tx len nw B vs2 n d s t w u
  | 0, _, _, _, _, _, _, _, h => h.elim
  | n + 1, d, s, t, w, u, hA, hV, h => by
    rcases h with h1 | ⟨s2, w2, h1, h2⟩
    · exact Or.inl h1
    · have h3 := Blk.le n d s2 t w2 u h2
      have h4 := h1.1
      have h5 := h1.2.1
      refine Or.inr ⟨s2, w2, h1.cg (hA s (by omega) (by omega)) (fun i i1 i2 => hV i i1 (by omega)) (fun u2 hu2 hP => ?_), Blk.cg n d s2 t w2 u (fun i i1 i2 => hA i (by omega) i2) (fun i i1 i2 => hV i (by omega) i2) h2⟩
      exact Blk.cg n (d + 1) (s + 1) s2 (w + 3) u2 (fun i i1 i2 => hA i (by omega) (by omega)) (fun i i1 i2 => hV i (by omega) (by omega)) hP
/-- the two readers of a statement at depth d agree -/
def JS (tx : Nat → Nat) (len nw : Nat) (f fr bs es : Nat → Int32) (d : Nat) (cS : CSt) (rS : RSt) : Prop := ∀ (A : SA) (rv : Int64) (fd : Nat → Int32) (vs : Nat → Int64) (w s : Nat), w < nw → 5 * s ≤ WB tx len w → ∃ (A2 : SA) (fo to : Int32) (rv2 : Int64) (sz kd ep : Int32) (fd2 : Nat → Int32) (vs2 : Nat → Int64) (w2 c1 : Nat), cS 1000 300 A.1 A.2.1 A.2.2.1 A.2.2.2.1 A.2.2.2.2.1 A.2.2.2.2.2 f (nI len) (nI (WB tx len w)) (nI (WE tx len w)) rv (nI s) 0 (-1) (nI d) = some (A2.1, A2.2.1, A2.2.2.1, A2.2.2.2.1, A2.2.2.2.2.1, A2.2.2.2.2.2, fo, to, rv2, sz, kd, ep) ∧ rS 1000 fd fr (nI len) bs es vs (nI nw) (nI w) 0 (-1) (nI d) = some (c1, (fd2, vs2, nI w2, kd, ep)) ∧ ((¬ kd = 0 ∧ c1 ≤ nw - w) ∨ ∃ s2, kd = 0 ∧ ep = -1 ∧ w2 ≤ nw ∧ w < w2 ∧ c1 ≤ w2 - w ∧ fo = nI (WB tx len w2) ∧ to = nI (WE tx len w2) ∧ sz = nI s2 ∧ s < s2 ∧ 5 * s2 ≤ WB tx len w2 ∧ (∀ i, i < s → agS A2 A i) ∧ (∀ i, i < w → vs2 i = vs i) ∧ ∀ n, w2 - w ≤ n → St1 tx len nw A2 vs2 (Blk tx len nw A2 vs2 n (d + 1)) d s s2 w w2)
theorem c2_err {len : Int32} {f : Nat → Int32} {cS : CSt} {k kc : Nat} {p1 i sz kd ep fo to : Int32} {rv : Int64} {nx pf pl pt : Nat → Int32} {vb : Nat → Nat} {ar : Nat → Nat → Int64} (hk : 0 < kc) (h : ¬ kd = 0) : mX4_parseBlockF_L2 len 300 f cS k p1 kc i sz kd ep fo to rv nx pf pl pt vb ar = some (sz, kd, ep, fo, to, rv, nx, pf, pl, pt, vb, ar) := by
  obtain ⟨kc', rfl⟩ : ∃ kc', kc = kc' + 1 := ⟨kc - 1, by omega⟩
  rw [mX4_parseBlockF_L2]
  by_cases h1 : (300 : Int32) ≤ i
  · rw [if_pos h1]
  · rw [if_neg h1, if_neg h]
theorem r6_err {nw len p1 a kd ep : Int32} {fr bs es fd : Nat → Int32} {vs : Nat → Int64} {rS : RSt} {k kr : Nat} (hk : 0 < kr) (h : ¬ kd = 0) : mX13_checkBlockF_L6 nw fr bs rS k len es p1 kr a kd ep fd vs = some (0, (a, kd, ep, fd, vs)) := by
  obtain ⟨kr', rfl⟩ : ∃ kr', kr = kr' + 1 := ⟨kr - 1, by omega⟩
  rw [mX13_checkBlockF_L6, if_neg h]
theorem WB_300 {tx : Nat → Nat} {len nw w : Nat} {f bs es : Nat → Int32} (hf : txR f tx len) : WB tx len w ≤ 300 := Nat.le_trans (WB_le tx len w) hf.1
theorem jblk {tx : Nat → Nat} {len nw d : Nat} {f fr bs es : Nat → Int32} {cS : CSt} {rS : RSt} (hf : txR f tx len) (hr : txR fr tx len) (h : wdR tx len nw bs es) (hJ : JS tx len nw f fr bs es d cS rS) : ∀ (A : SA) (rv : Int64) (fd : Nat → Int32) (vs : Nat → Int64) (w s i kc kr : Nat), nw - w < kc → nw - w < kr → w ≤ nw → 5 * s ≤ WB tx len w → i ≤ s → ∃ (A2 : SA) (fo to : Int32) (rv2 : Int64) (sz kd ep : Int32) (fd2 : Nat → Int32) (vs2 : Nat → Int64) (w2 c1 : Nat), mX4_parseBlockF_L2 (nI len) 300 f cS 1000 (nI d) kc (nI i) (nI s) 0 (-1) (nI (WB tx len w)) (nI (WE tx len w)) rv A.2.2.2.2.1 A.2.2.1 A.2.1 A.2.2.2.1 A.1 A.2.2.2.2.2 = some (sz, kd, ep, fo, to, rv2, A2.2.2.2.2.1, A2.2.2.1, A2.2.1, A2.2.2.2.1, A2.1, A2.2.2.2.2.2) ∧ mX13_checkBlockF_L6 (nI nw) fr bs rS 1000 (nI len) es (nI d) kr (nI w) 0 (-1) fd vs = some (c1, (nI w2, kd, ep, fd2, vs2)) ∧ ((¬ kd = 0 ∧ c1 ≤ nw - w) ∨ ∃ s2, kd = 0 ∧ ep = -1 ∧ w2 ≤ nw ∧ w ≤ w2 ∧ c1 ≤ w2 - w ∧ fo = nI (WB tx len w2) ∧ to = nI (WE tx len w2) ∧ sz = nI s2 ∧ s ≤ s2 ∧ 5 * s2 ≤ WB tx len w2 ∧ (w2 = nw ∨ mk tx len nw w2 125 = true) ∧ (∀ i, i < s → agS A2 A i) ∧ (∀ i, i < w → vs2 i = vs i) ∧ ∀ n, w2 - w < n → Blk tx len nw A2 vs2 n d s s2 w w2)
  | _, _, _, _, _, _, _, 0, _, h2, _, _, _, _ => absurd h2 (Nat.not_lt_zero _)
  | _, _, _, _, _, _, _, _, 0, _, h2, _, _, _ => absurd h2 (Nat.not_lt_zero _)
  | A, rv, fd, vs, w, s, i, kc + 1, kr + 1, h2, h3, h4, h5, h6 => by
    have h7 := hf.1
    have h8 := h.1
    have h9 := WB_le tx len w
    have hi : ¬ (300 : Int32) ≤ nI i := nI_ge (b := 300) (show i < 300 by omega) (by omega)
    have hdone : ∀ n, w - w < n → Blk tx len nw A vs n d s s w w := by
      intro n hn
      obtain ⟨n', rfl⟩ : ∃ n', n = n' + 1 := ⟨n - 1, by omega⟩
      exact Or.inl ⟨rfl, rfl⟩
    by_cases he : w = nw
    · have e1 : mX4_parseBlockF_L2 (nI len) 300 f cS 1000 (nI d) (kc + 1) (nI i) (nI s) 0 (-1) (nI (WB tx len w)) (nI (WE tx len w)) rv A.2.2.2.2.1 A.2.2.1 A.2.1 A.2.2.2.1 A.1 A.2.2.2.2.2 = some (nI s, 0, -1, nI (WB tx len w), nI (WE tx len w), rv, A.2.2.2.2.1, A.2.2.1, A.2.1, A.2.2.2.1, A.1, A.2.2.2.2.2) := by
        rw [mX4_parseBlockF_L2, if_neg hi, if_pos rfl, pr_cend h7 h h4, decide_eq_true he]
        simp only [Option.bind_some]
        rw [if_neg (by decide)]
      have e2 : mX13_checkBlockF_L6 (nI nw) fr bs rS 1000 (nI len) es (nI d) (kr + 1) (nI w) 0 (-1) fd vs = some (0, (nI w, 0, -1, fd, vs)) := by
        rw [mX13_checkBlockF_L6, if_pos rfl, if_pos (nI_le (by omega) (by omega))]
      exact ⟨A, _, _, _, _, _, _, _, _, w, 0, e1, e2, Or.inr ⟨s, rfl, rfl, h4, Nat.le_refl _, Nat.zero_le _, rfl, rfl, rfl, Nat.le_refl _, h5, Or.inl he, fun _ _ => agS.rfl', fun _ _ => rfl, hdone⟩⟩
    · have hlt : w < nw := by omega
      cases hm : mk tx len nw w 125 with
      | true =>
        have e1 : mX4_parseBlockF_L2 (nI len) 300 f cS 1000 (nI d) (kc + 1) (nI i) (nI s) 0 (-1) (nI (WB tx len w)) (nI (WE tx len w)) rv A.2.2.2.2.1 A.2.2.1 A.2.1 A.2.2.2.1 A.1 A.2.2.2.2.2 = some (nI s, 0, -1, nI (WB tx len w), nI (WE tx len w), rv, A.2.2.2.2.1, A.2.2.1, A.2.1, A.2.2.2.1, A.1, A.2.2.2.2.2) := by
          have e3 : mX10_isSign 300 f (nI len) (nI (WB tx len w)) 125 = some (bI (mk tx len nw w 125)) := pr_cmk (m := 125) hf h h4 (by decide) (by decide)
          rw [mX4_parseBlockF_L2, if_neg hi, if_pos rfl, pr_cend h7 h h4, decide_eq_false he]
          simp only [Option.bind_some]
          rw [if_pos bI_f, e3, hm]
          simp only [Option.bind_some]
          rw [if_neg (by decide)]
        have e2 : mX13_checkBlockF_L6 (nI nw) fr bs rS 1000 (nI len) es (nI d) (kr + 1) (nI w) 0 (-1) fd vs = some (0, (nI w, 0, -1, fd, vs)) := by
          have e3 : mX13_isMarkAt fr bs (nI nw) (nI w) 125 = some (bI (mk tx len nw w 125)) := pr_rmk (m := 125) hr h (by omega) (by decide)
          rw [mX13_checkBlockF_L6, if_pos rfl, if_neg (nI_ge hlt (by omega)), e3, hm]
          simp only [Option.bind_some]
          rw [if_neg (by decide)]
        exact ⟨A, _, _, _, _, _, _, _, _, w, 0, e1, e2, Or.inr ⟨s, rfl, rfl, h4, Nat.le_refl _, Nat.zero_le _, rfl, rfl, rfl, Nat.le_refl _, h5, Or.inr hm, fun _ _ => agS.rfl', fun _ _ => rfl, hdone⟩⟩
      | false =>
        obtain ⟨A2, fo, to, rv2, sz, kd, ep, fd2, vs2, w2, c1, J1, J2, J3⟩ := hJ A rv fd vs w s hlt h5
        have e1 : mX4_parseBlockF_L2 (nI len) 300 f cS 1000 (nI d) (kc + 1) (nI i) (nI s) 0 (-1) (nI (WB tx len w)) (nI (WE tx len w)) rv A.2.2.2.2.1 A.2.2.1 A.2.1 A.2.2.2.1 A.1 A.2.2.2.2.2 = mX4_parseBlockF_L2 (nI len) 300 f cS 1000 (nI d) kc (nI (i + 1)) sz kd ep fo to rv2 A2.2.2.2.2.1 A2.2.2.1 A2.2.1 A2.2.2.2.1 A2.1 A2.2.2.2.2.2 := by
          have e3 : mX10_isSign 300 f (nI len) (nI (WB tx len w)) 125 = some (bI (mk tx len nw w 125)) := pr_cmk (m := 125) hf h h4 (by decide) (by decide)
          rw [mX4_parseBlockF_L2, if_neg hi, if_pos rfl, pr_cend h7 h h4, decide_eq_false he]
          simp only [Option.bind_some]
          rw [if_pos bI_f, e3, hm]
          simp only [Option.bind_some]
          rw [if_pos bI_f, J1]
          simp only [Option.bind_some]
          rw [nI_1]
        have e2 : ∀ X, mX13_checkBlockF_L6 (nI nw) fr bs rS 1000 (nI len) es (nI d) kr (nI w2) kd ep fd2 vs2 = some X → mX13_checkBlockF_L6 (nI nw) fr bs rS 1000 (nI len) es (nI d) (kr + 1) (nI w) 0 (-1) fd vs = some (c1 + X.1, X.2) := by
          intro X hX
          have e3 : mX13_isMarkAt fr bs (nI nw) (nI w) 125 = some (bI (mk tx len nw w 125)) := pr_rmk (m := 125) hr h (by omega) (by decide)
          rw [mX13_checkBlockF_L6, if_pos rfl, if_neg (nI_ge hlt (by omega)), e3, hm]
          simp only [Option.bind_some]
          rw [if_pos bI_f, J2]
          simp only [Option.bind_some]
          rw [hX]
          rfl
        rcases J3 with ⟨k1, k2⟩ | ⟨s2, g1, g2, g3, g4, g5, g6, g7, g8, g9, g10, g11, g12, g13⟩
        · exact ⟨A2, _, _, _, _, _, _, _, _, w2, c1 + 0, e1.trans (c2_err (by omega) k1), e2 _ (r6_err (by omega) k1), Or.inl ⟨k1, k2⟩⟩
        · subst g1 g2 g6 g7 g8
          obtain ⟨A3, fo3, to3, rv3, sz3, kd3, ep3, fd3, vs3, w3, c3, K1, K2, K3⟩ := jblk hf hr h hJ A2 rv2 fd2 vs2 w2 s2 (i + 1) kc kr (by omega) (by omega) g3 g10 (by omega)
          refine ⟨A3, fo3, to3, rv3, sz3, kd3, ep3, fd3, vs3, w3, c1 + c3, e1.trans K1, e2 _ K2, ?_⟩
          rcases K3 with ⟨k1, k2⟩ | ⟨s3, q1, q2, q3, q4, q5, q6, q7, q8, q9, q10, q10', q11, q12, q13⟩
          · exact Or.inl ⟨k1, by omega⟩
          · refine Or.inr ⟨s3, q1, q2, q3, by omega, by omega, q6, q7, q8, by omega, q10, q10', fun i hi => (q11 i (by omega)).tr (g11 i hi), fun i hi => (q12 i (by omega)).trans (g12 i hi), fun n hn => ?_⟩
            obtain ⟨n', rfl⟩ : ∃ n', n = n' + 1 := ⟨n - 1, by omega⟩
            refine Or.inr ⟨s2, w2, (g13 n' (by omega)).cg (q11 s g9).sy (fun i _ i2 => q12 i i2) (fun u2 hu2 hP => ?_), q13 n' (by omega)⟩
            exact Blk.cg n' (d + 1) (s + 1) s2 (w + 3) u2 (fun i _ i2 => (q11 i i2).sy) (fun i _ i2 => q12 i (by omega)) hP
