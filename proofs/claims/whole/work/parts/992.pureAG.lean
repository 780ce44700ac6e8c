/-! pure: programs: the run alike on both sides (written by p992.py) -/
abbrev CRec := Nat → Nat → Nat → (Nat → Nat) → (Nat → Int32) → (Nat → Int32) → (Nat → Int32) → (Nat → Int32) → (Nat → Nat → Int64) → (Nat → Int32) → Int32 → (Nat → Int64) → (Nat → Int32) → Int32 → Int64 → Int32 → Int32 → Int32 → Int32 → Int32 → Int32 → Int32 → Option ((Nat → Int64) × (Nat → Int32) × Int32 × Int64 × Int32 × Int32 × Int32 × Int32)
abbrev RRs := Nat → Int32 → (Nat → Nat → Int32) → (Nat → Int32) → Int32 → (Nat → Int32) → Int32 → Int32 → (Nat → Int32) → (Nat → Int32) → (Nat → Int32) → (Nat → Int32) → (Nat → Int32) → (Nat → Int32) → (Nat → Int32) → (Nat → Int32) → (Nat → Int64) → Int32 → Int32 → Int32 → Int32 → Int32 → Option (Int32 × (Nat → Nat → Int32) × (Nat → Int32) × Int32 × (Nat → Int32) × Int32 × Int32 × (Nat → Int32) × (Nat → Int32) × (Nat → Int32) × (Nat → Int32) × (Nat → Int32) × Int32 × Int32 × Int32 × Int32)
abbrev RRl := Nat → Int32 → (Nat → Nat → Int32) → (Nat → Int32) → Int32 → (Nat → Int32) → Int32 → Int32 → (Nat → Int32) → (Nat → Int32) → (Nat → Int32) → (Nat → Int32) → (Nat → Int32) → (Nat → Int32) → (Nat → Int32) → (Nat → Int32) → (Nat → Int64) → Int32 → Int32 → Int32 → Int32 → Int32 → Int32 → Option (Int32 × (Nat → Nat → Int32) × (Nat → Int32) × Int32 × (Nat → Int32) × Int32 × Int32 × (Nat → Int32) × (Nat → Int32) × (Nat → Int32) × (Nat → Int32) × (Nat → Int32) × Int32 × Int32 × Int32 × Int32)
abbrev CR (X : CT) (st kd ep : Int32) : (Nat → Int64) × (Nat → Int32) × Int32 × Int64 × Int32 × Int32 × Int32 × Int32 := (X.1, X.2.1, X.2.2.1, X.2.2.2.1, X.2.2.2.2, st, kd, ep)
abbrev CL (X : CT) (st kd ep : Int32) : Int32 × Int32 × Int32 × Int32 × Int32 × Int64 × (Nat → Int64) × (Nat → Int32) := (st, kd, ep, X.2.2.2.2, X.2.2.1, X.2.2.2.1, X.1, X.2.1)
abbrev RR (M : RT) (at_ kd ep st : Int32) : Int32 × (Nat → Nat → Int32) × (Nat → Int32) × Int32 × (Nat → Int32) × Int32 × Int32 × (Nat → Int32) × (Nat → Int32) × (Nat → Int32) × (Nat → Int32) × (Nat → Int32) × Int32 × Int32 × Int32 × Int32 := (M.1, M.2.1, M.2.2.1, M.2.2.2.1, M.2.2.2.2.1, M.2.2.2.2.2.1, M.2.2.2.2.2.2.1, M.2.2.2.2.2.2.2.1, M.2.2.2.2.2.2.2.2.1, M.2.2.2.2.2.2.2.2.2.1, M.2.2.2.2.2.2.2.2.2.2.1, M.2.2.2.2.2.2.2.2.2.2.2, at_, kd, ep, st)
abbrev RLo (M : RT) (at_ kd ep st : Int32) : Int32 × Int32 × Int32 × Int32 × Int32 × Int32 × Int32 × Int32 × (Nat → Int32) × (Nat → Int32) × (Nat → Int32) × (Nat → Int32) × (Nat → Int32) × (Nat → Int32) × (Nat → Int32) × (Nat → Nat → Int32) := (at_, kd, ep, st, M.1, M.2.2.2.1, M.2.2.2.2.2.1, M.2.2.2.2.2.2.1, M.2.2.1, M.2.2.2.2.1, M.2.2.2.2.2.2.2.1, M.2.2.2.2.2.2.2.2.1, M.2.2.2.2.2.2.2.2.2.1, M.2.2.2.2.2.2.2.2.2.2.1, M.2.2.2.2.2.2.2.2.2.2.2, M.2.1)
abbrev C22 (f : Nat → Int32) (len t : Nat) (A : SA) (rC : CRec) (d n s : Nat) (st kd ep : Int32) (X : CT) := mX4_carryOutBlockF_L22 (nI t) A.1 A.2.2.2.2.2 rC 1000 300 65 A.2.1 A.2.2.1 A.2.2.2.1 A.2.2.2.2.1 f (nI len) (nI d) n (nI s) st kd ep X.2.2.2.2 X.2.2.1 X.2.2.2.1 X.1 X.2.1
abbrev C97 (f : Nat → Int32) (len T : Nat) (A : SA) (rC : CRec) (d s n i : Nat) (st kd ep : Int32) (X : CT) := mX4_carryOutBlockF_L97 (nI T) rC 1000 300 65 A.1 A.2.1 A.2.2.1 A.2.2.2.1 A.2.2.2.2.1 A.2.2.2.2.2 f (nI len) (nI s) (nI d) n (nI i) st kd ep X.2.2.2.2 X.2.2.1 X.2.2.2.1 X.1 X.2.1
abbrev R29 (fr bs es : Nat → Int32) (vs : Nat → Int64) (nw : Nat) (rS : RRs) (n : Nat) (at_ kd ep st : Int32) (M : RT) := mX13_runLoopF_L29 fr bs (nI nw) rS 1000 es vs n at_ kd ep st M.1 M.2.2.2.1 M.2.2.2.2.2.1 M.2.2.2.2.2.2.1 M.2.2.1 M.2.2.2.2.1 M.2.2.2.2.2.2.2.1 M.2.2.2.2.2.2.2.2.1 M.2.2.2.2.2.2.2.2.2.1 M.2.2.2.2.2.2.2.2.2.2.1 M.2.2.2.2.2.2.2.2.2.2.2 M.2.1
abbrev R6 (fr bs es : Nat → Int32) (vs : Nat → Int64) (nw w : Nat) (rS : RRs) (n i : Nat) (at_ kd ep st : Int32) (M : RT) := mX13_runLoopF_L6 vs (nI w) fr bs (nI nw) rS 1000 es n (nI i) at_ kd ep st M.1 M.2.2.2.1 M.2.2.2.2.2.1 M.2.2.2.2.2.2.1 M.2.2.1 M.2.2.2.2.1 M.2.2.2.2.2.2.2.1 M.2.2.2.2.2.2.2.2.1 M.2.2.2.2.2.2.2.2.2.1 M.2.2.2.2.2.2.2.2.2.2.1 M.2.2.2.2.2.2.2.2.2.2.2 M.2.1
abbrev RS (fr bs es : Nat → Int32) (vs : Nat → Int64) (nw : Nat) (rS : RRs) (M : RT) (at_ kd ep st : Int32) := rS 1000 M.1 M.2.1 M.2.2.1 M.2.2.2.1 M.2.2.2.2.1 M.2.2.2.2.2.1 M.2.2.2.2.2.2.1 M.2.2.2.2.2.2.2.1 M.2.2.2.2.2.2.2.2.1 M.2.2.2.2.2.2.2.2.2.1 M.2.2.2.2.2.2.2.2.2.2.1 M.2.2.2.2.2.2.2.2.2.2.2 fr bs es vs (nI nw) at_ kd ep st
theorem ob1 {α β : Type} {x : Option α} {v : α} {f : α → Option β} (h : x = some v) : x.bind f = f v := by
  rw [h]
  rfl
theorem ob2 {α β γ : Type} {x : Option α} {v : α} {f : α → Option β} {g : β → Option γ} (h : x = some v) : (x.bind f).bind g = (f v).bind g := by
  rw [h]
  rfl
theorem obc {α β : Type} {c : Nat} {x : Option α} {v : α} {f : α → Option (Nat × β)} (h : x = some v) : cst c (x.bind f) = cst c (f v) := by
  rw [h]
  rfl
theorem c22_err {f : Nat → Int32} {len t d n s : Nat} {A : SA} {rC : CRec} {st kd ep : Int32} {X : CT} (h : ¬ kd = 0) : C22 f len t A rC d (n + 1) s st kd ep X = some (CR X st kd ep) := by
  rw [C22, mX4_carryOutBlockF_L22]
  by_cases h1 : nI t ≤ nI s
  · rw [if_pos h1]
  · rw [if_neg h1, if_neg h]
theorem c97_err {f : Nat → Int32} {len T d n s i : Nat} {A : SA} {rC : CRec} {st kd ep : Int32} {X : CT} (h : ¬ kd = 0) : C97 f len T A rC d s (n + 1) i st kd ep X = some (CL X st kd ep) := by
  rw [C97, mX4_carryOutBlockF_L97]
  by_cases h1 : nI T ≤ nI i
  · rw [if_pos h1]
  · rw [if_neg h1, if_neg h]
theorem r29_err {fr bs es : Nat → Int32} {vs : Nat → Int64} {nw n : Nat} {rS : RRs} {at_ kd ep st : Int32} {M : RT} (h : ¬ kd = 0) : R29 fr bs es vs nw rS (n + 1) at_ kd ep st M = some (RLo M at_ kd ep st) := by
  rw [R29, mX13_runLoopF_L29, if_neg h]
theorem rr6_err {fr bs es : Nat → Int32} {vs : Nat → Int64} {nw w n i : Nat} {rS : RRs} {at_ kd ep st : Int32} {M : RT} (hw : w + 1 < 300) (h : ¬ kd = 0) : R6 fr bs es vs nw w rS (n + 1) i at_ kd ep st M = some (RLo M at_ kd ep st) := by
  rw [R6, mX13_runLoopF_L6, ce1 hw, Option.bind_some]
  by_cases h1 : (vs (w + 1)).toInt32 ≤ nI i
  · rw [if_pos h1]
  · rw [if_neg h1, if_neg h]
theorem cell51 : ∀ i, i < 51 → (lN i).toInt32 = nI i := by decide
theorem ag_times {tx : Nat → Nat} {len nw w v q : Nat} {pf pt : Int32} {as vs : Nat → Int64} (h : agA tx len nw w v q pf pt as vs) (hL : alet v q = 84) : ∃ i, i < 51 ∧ (as q).toInt32 = nI i ∧ (vs (w + 1 + q)).toInt32 = nI i := by
  obtain ⟨h1, h2, h3⟩ := h.2.2 (by rw [hL]; decide)
  rw [hL] at h1
  have h4 : 0 ≤ (z10 tx len (w + 1 + q)).toInt ∧ (z10 tx len (w + 1 + q)).toInt ≤ 50 := of_decide_eq_true h1
  have h5 := lN_of (z := z10 tx len (w + 1 + q)) (n := (z10 tx len (w + 1 + q)).toInt.toNat) (by omega) (by omega)
  have h6 : (z10 tx len (w + 1 + q)).toInt.toNat < 51 := by omega
  exact ⟨_, h6, by rw [h2, h5, cell51 _ h6], by rw [h3, h5, cell51 _ h6]⟩
/-- one statement at depth d is carried out alike -/
def JR (tx : Nat → Nat) (len nw : Nat) (f fr bs es : Nat → Int32) (A : SA) (vs : Nat → Int64) (d : Nat) (rC : CRec) (rS : RRs) : Prop := ∀ (N s s2 w w2 st : Nat) (X : CT) (M : RT), N < 880 → St1 tx len nw A vs (Blk tx len nw A vs N (d + 1)) d s s2 w w2 → s2 ≤ 60 → st ≤ 500 → TRR X M → ∃ (st2 w3 : Nat) (kd ep : Int32) (X2 : CT) (M2 : RT), st2 ≤ 500 ∧ TRR X2 M2 ∧ RS fr bs es vs nw rS M (nI w) 0 (-1) (nI st) = some (RR M2 (nI w3) kd ep (nI st2)) ∧ ((¬ kd = 0 ∧ ∀ t n, s < t → t ≤ 60 → C22 f len t A rC d (n + 2) s (nI st) 0 (-1) X = some (CR X2 (nI st2) kd ep)) ∨ (kd = 0 ∧ ep = -1 ∧ w3 = w2 ∧ ∀ t n, s < t → t ≤ 60 → C22 f len t A rC d (n + 2) s (nI st) 0 (-1) X = C22 f len t A rC d (n + 1) s2 (nI st2) 0 (-1) X2))
theorem jr29 {tx : Nat → Nat} {len nw d : Nat} {f fr bs es : Nat → Int32} {A : SA} {vs : Nat → Int64} {rC : CRec} {rS : RRs} (hr : txR fr tx len) (h : wdR tx len nw bs es) (hJ : JR tx len nw f fr bs es A vs d rC rS) : ∀ (N s t w u st n m : Nat) (X : CT) (M : RT), N < 880 → Blk tx len nw A vs N d s t w u → t ≤ 60 → u < nw → mk tx len nw u 125 = true → st ≤ 500 → TRR X M → t - s + 1 < n → N < m → ∃ (st2 w3 : Nat) (kd ep : Int32) (X2 : CT) (M2 : RT), st2 ≤ 500 ∧ TRR X2 M2 ∧ C22 f len t A rC d n s (nI st) 0 (-1) X = some (CR X2 (nI st2) kd ep) ∧ R29 fr bs es vs nw rS m (nI w) 0 (-1) (nI st) M = some (RLo M2 (nI w3) kd ep (nI st2)) ∧ (¬ kd = 0 ∨ (kd = 0 ∧ ep = -1))
  | 0, _, _, _, _, _, _, _, _, _, _, hB, _, _, _, _, _, _, _ => hB.elim
  | N + 1, s, t, w, u, st, n, m, X, M, hN, hB, ht, hu, hmu, hst, T, hn, hm => by
    have h5 := hr.1
    have h6 := h.1
    obtain ⟨n', rfl⟩ : ∃ n', n = n' + 2 := ⟨n - 2, by omega⟩
    obtain ⟨m', rfl⟩ : ∃ m', m = m' + 1 := ⟨m - 1, by omega⟩
    rcases hB with ⟨h1, h2⟩ | ⟨s2, w2, h1, h2⟩
    · subst h1 h2
      have e : mX13_isMarkAt fr bs (nI nw) (nI w) 125 = some (bI (mk tx len nw w 125)) := pr_rmk (m := 125) hr h (by omega) (by decide)
      refine ⟨st, w, 0, -1, X, M, hst, T, ?_, ?_, Or.inr ⟨rfl, rfl⟩⟩
      · rw [C22, mX4_carryOutBlockF_L22, if_pos (nI_le (Nat.le_refl s) (by omega))]
      · rw [R29, mX13_runLoopF_L29, if_pos rfl, e, hmu, Option.bind_some, if_neg (show ¬ bI true = 0 by decide)]
    · have hle := Blk.le N d s2 t w2 u h2
      have hss := h1.1
      obtain ⟨v, g4⟩ := h1.2.2.2
      have e : mX13_isMarkAt fr bs (nI nw) (nI w) 125 = some (bI (mk tx len nw w 125)) := pr_rmk (m := 125) hr h (by have := h1.2.1; omega) (by decide)
      have e2 : mk tx len nw w 125 = false := hd_mk (by decide) g4.1 0 (by omega)
      obtain ⟨st2, w3, kd, ep, X2, M2, J1, J2, J3, J4⟩ := hJ N s s2 w w2 st X M (by omega) h1 (by omega) hst T
      have e3 : R29 fr bs es vs nw rS (m' + 1) (nI w) 0 (-1) (nI st) M = R29 fr bs es vs nw rS m' (nI w3) kd ep (nI st2) M2 := by
        rw [R29, mX13_runLoopF_L29, if_pos rfl, e, e2, Option.bind_some, if_pos bI_f]
        exact (ob1 J3).trans rfl
      rcases J4 with ⟨k1, k2⟩ | ⟨k1, k2, k3, k4⟩
      · obtain ⟨m2, rfl⟩ : ∃ m2, m' = m2 + 1 := ⟨m' - 1, by omega⟩
        exact ⟨st2, w3, kd, ep, X2, M2, J1, J2, k2 t n' (by omega) ht, e3.trans (r29_err k1), Or.inl k1⟩
      · subst k1 k2 k3
        obtain ⟨st3, w4, kd3, ep3, X3, M3, K1, K2, K3, K4, K5⟩ := jr29 hr h hJ N s2 t w3 u st2 (n' + 1) m' X2 M2 (by omega) h2 ht hu hmu J1 J2 (by omega) (by omega)
        exact ⟨st3, w4, kd3, ep3, X3, M3, K1, K2, (k4 t n' (by omega) ht).trans K3, e3.trans K4, K5⟩
theorem jr6 {tx : Nat → Nat} {len nw d N T s s2 w u : Nat} {f fr bs es : Nat → Int32} {A : SA} {vs : Nat → Int64} {rC : CRec} {rS : RRs} (hr : txR fr tx len) (h : wdR tx len nw bs es) (hJ : JR tx len nw f fr bs es A vs (d + 1) rC rS) (hd : d < 4) (hN : N < 880) (hB : Blk tx len nw A vs N (d + 1) (s + 1) s2 (w + 3) u) (hs : s < s2) (hs2 : s2 ≤ 60) (hu : u < nw) (hmu : mk tx len nw u 125 = true) (hnx : A.2.2.2.2.1 s = nI s2) (hw : w + 1 < 300) (hT : T < 51) (hT2 : (vs (w + 1)).toInt32 = nI T) : ∀ (e i st n m : Nat) (at_ : Int32) (X : CT) (M : RT), i + e = T → e < n → e < m → st ≤ 500 → TRR X M → ∃ (st2 : Nat) (at2 kd ep : Int32) (X2 : CT) (M2 : RT), st2 ≤ 500 ∧ TRR X2 M2 ∧ C97 f len T A (mX4_carryOutBlockF rC) d s n i (nI st) 0 (-1) X = some (CL X2 (nI st2) kd ep) ∧ R6 fr bs es vs nw w rS m i at_ 0 (-1) (nI st) M = some (RLo M2 at2 kd ep (nI st2)) ∧ (¬ kd = 0 ∨ (kd = 0 ∧ ep = -1))
  | _, _, _, 0, _, _, _, _, _, h1, _, _, _ => absurd h1 (Nat.not_lt_zero _)
  | _, _, _, _, 0, _, _, _, _, _, h1, _, _ => absurd h1 (Nat.not_lt_zero _)
  | 0, i, st, n + 1, m + 1, at_, X, M, h1, _, _, hst, TR => by
    have hi : i = T := h1
    refine ⟨st, at_, 0, -1, X, M, hst, TR, ?_, ?_, Or.inr ⟨rfl, rfl⟩⟩
    · rw [C97, mX4_carryOutBlockF_L97, if_pos (nI_le (show T ≤ i by omega) (by omega))]
    · rw [R6, mX13_runLoopF_L6, ce1 hw, Option.bind_some, hT2, if_pos (nI_le (show T ≤ i by omega) (by omega))]
  | e + 1, i, st, n + 1, m + 1, at_, X, M, h1, h2, h3, hst, TR => by
    obtain ⟨n', rfl⟩ : ∃ n', n = n' + 1 := ⟨n - 1, by omega⟩
    obtain ⟨m', rfl⟩ : ∃ m', m = m' + 1 := ⟨m - 1, by omega⟩
    obtain ⟨st2, w3, kd, ep, X2, M2, J1, J2, J3, J4, J5⟩ := jr29 hr h hJ N (s + 1) s2 (w + 3) u st 1000 1000 X M hN hB hs2 hu hmu hst TR (by omega) (by omega)
    have e1 : C97 f len T A (mX4_carryOutBlockF rC) d s (n' + 1 + 1) i (nI st) 0 (-1) X = C97 f len T A (mX4_carryOutBlockF rC) d s (n' + 1) (i + 1) (nI st2) kd ep X2 := by
      rw [C97, mX4_carryOutBlockF_L97, if_neg (nI_ge (show i < T by omega) (by omega)), if_pos rfl, nI_clamp (show s < 2 ^ 31 by omega), hnx, nI_1 s, nI_1 d, nI_1 i, mX4_carryOutBlockF, if_neg (nI_pos (show s + 1 < 2 ^ 31 by omega)), if_neg (show ¬ (60 : Int32) < nI s2 from nI_nlt (a := 60) hs2 (by omega)), if_pos (show nI (d + 1) ≤ 4 from nI_le (b := 4) (by omega) (by omega))]
      exact (ob1 J3).trans rfl
    have e2 : R6 fr bs es vs nw w rS (m' + 1 + 1) i at_ 0 (-1) (nI st) M = R6 fr bs es vs nw w rS (m' + 1) (i + 1) (nI w3) kd ep (nI st2) M2 := by
      rw [R6, mX13_runLoopF_L6, ce1 hw, Option.bind_some, hT2, if_neg (nI_ge (show i < T by omega) (by omega)), if_pos rfl, nI_3 w, nI_1 i]
      exact (ob1 J4).trans rfl
    rcases J5 with k1 | ⟨k1, k2⟩
    · exact ⟨st2, nI w3, kd, ep, X2, M2, J1, J2, e1.trans (c97_err k1), e2.trans (rr6_err hw k1), Or.inl k1⟩
    · subst k1 k2
      obtain ⟨st3, at3, kd3, ep3, X3, M3, K1, K2, K3, K4, K5⟩ := jr6 hr h hJ hd hN hB hs hs2 hu hmu hnx hw hT hT2 e (i + 1) st2 (n' + 1) (m' + 1) (nI w3) X2 M2 (by omega) (by omega) (by omega) J1 J2
      exact ⟨st3, at3, kd3, ep3, X3, M3, K1, K2, e1.trans K3, e2.trans K4, K5⟩
theorem jrst {tx : Nat → Nat} {len nw d : Nat} {f fr bs es : Nat → Int32} {A : SA} {vs : Nat → Int64} {recC : CRec} {recL : RRl} (hf : txR f tx len) (hr : txR fr tx len) (h : wdR tx len nw bs es) (hrec : d < 4 → ∃ rC rS, recC = mX4_carryOutBlockF rC ∧ recL = mX13_runLoopF rS ∧ JR tx len nw f fr bs es A vs (d + 1) rC rS) : JR tx len nw f fr bs es A vs d recC (mX13_runStatementF recL) := by
  intro N s s2 w w2 st X M hN h1 hs2 hst T
  obtain ⟨g1, g2, g3, v, g4, g5⟩ := h1
  have hl := hr.1
  have hnl := h.1
  have hlt := hd_lt g4
  have g4c := g4
  obtain ⟨q1, q2, q3, q4, q5, q6⟩ := g4c
  obtain ⟨he1, he2⟩ := WE_le tx len w
  obtain ⟨hbw, hew⟩ := h.2.2.2 w q1
  have NM := pr_nameOf (k := 1000) (w := w) (bs := bs) (es := es) hr he2 he1 (by omega) hbw hew (by omega)
  rw [q3, if_pos q2] at NM
  by_cases h500 : st = 500
  · have e1 : RS fr bs es vs nw (mX13_runStatementF recL) M (nI w) 0 (-1) (nI st) = some (RR M (nI w) 4 (nI (WB tx len w)) (nI st)) := by
      rw [RS, mX13_runStatementF, NM, Option.bind_some, if_pos (show nI st = 500 by rw [h500]; rfl), if_neg (nI_in (show w < 300 by omega) (by omega)), nI_clamp (show w < 2 ^ 31 by omega), hbw]
      rfl
    refine ⟨st, w, 4, nI (WB tx len w), X, M, hst, T, e1, Or.inl ⟨by decide, fun t n ht ht2 => ?_⟩⟩
    rw [C22, mX4_carryOutBlockF_L22, if_neg (nI_ge ht (by omega)), if_pos rfl, if_neg (nI_in (show s < 60 by omega) (by omega)), nI_clamp (show s < 2 ^ 31 by omega), if_neg (show ¬ nI st < 500 by rw [h500]; decide), q5]
    rfl
  · have hn500 : ¬ nI st = 500 := fun z => h500 ((nI_eq (a := st) (b := 500) (by omega) (by omega)).mp z)
    have hl500 : nI st < 500 := nI_lt (b := 500) (by omega) (by omega)
    by_cases h30 : v = 30
    · rcases g5 with ⟨c1, c2, c3, c4⟩ | ⟨c1, c2, c3, u, c4, c5, c6, c7⟩
      · exact absurd h30 c1
      · obtain ⟨rC, rS, z1, z2, hJ⟩ := hrec c2
        have hal : alen v = 1 := by rw [h30]; decide
        obtain ⟨T1, t1, t2, t3⟩ := ag_times (q6 0 (by omega)) (by rw [h30]; decide)
        have t3' : (vs (w + 1)).toInt32 = nI T1 := t3
        have hw1 := hlt 1 (by omega)
        have hun : u < nw := by
          rw [mk, Bool.and_eq_true] at c6
          exact of_decide_eq_true c6.1
        obtain ⟨st2, at2, kd, ep, X2, M2, J1, J2, J3, J4, J5⟩ := jr6 (T := T1) (s := s) (w := w) hr h hJ c2 hN c4 g1 hs2 hun c6 g3 (by omega) t1 t3' T1 0 (st + 1) 1000 1000 (nI w) X M (Nat.zero_add _) (by omega) (by omega) (by omega) T
        have S1 := pr_skips (w := w + 2) (k := 1000) hr h c4 hun (by omega) c3 c6 (by omega)
        have e1 : RS fr bs es vs nw (mX13_runStatementF recL) M (nI w) 0 (-1) (nI st) = some (RR M2 (nI w2) kd ep (nI st2)) := by
          rw [RS, mX13_runStatementF, NM, Option.bind_some, if_neg hn500, if_pos (show nI v = 30 by rw [h30]; rfl), z2, mX13_runLoopF, nI_1 st, nI_2 w, S1, c7]
          exact (ob2 J4).trans rfl
        have e2 : ∀ t n, s < t → t ≤ 60 → C22 f len t A recC d (n + 2) s (nI st) 0 (-1) X = C22 f len t A recC d (n + 1) s2 (nI st2) kd ep X2 := by
          intro t n ht ht2
          rw [C22, mX4_carryOutBlockF_L22, if_neg (nI_ge ht (by omega)), if_pos rfl, if_neg (nI_in (show s < 60 by omega) (by omega)), nI_clamp (show s < 2 ^ 31 by omega), if_pos hl500, q4, if_neg (show ¬ 31 ≤ v by omega), if_pos h30, g3, nI_1 s, if_neg (show ¬ nI s2 < nI (s + 1) from nI_nlt (by omega) (by omega)), sm0, t2, Option.bind_some, nI_1 st, z1]
          exact (ob2 J3).trans rfl
        rcases J5 with k1 | ⟨k1, k2⟩
        · exact ⟨st2, w2, kd, ep, X2, M2, J1, J2, e1, Or.inl ⟨k1, fun t n ht ht2 => (e2 t n ht ht2).trans (c22_err k1)⟩⟩
        · subst k1 k2
          exact ⟨st2, w2, 0, -1, X2, M2, J1, J2, e1, Or.inr ⟨rfl, rfl, rfl, e2⟩⟩
    · rcases g5 with ⟨c1, c2, c3, c4⟩ | ⟨c1, c2⟩
      · obtain ⟨ok, X2, M2, D1, D2, D3⟩ := do_st (k := 1000) hf hr h (by decide) g4 h30 T
        have hn30 : ¬ nI v = 30 := fun z => h30 ((nI_eq (a := v) (b := 30) (by omega) (by omega)).mp z)
        have hmk := c4
        rw [mk, Bool.and_eq_true] at hmk
        have hlt2 := of_decide_eq_true hmk.1
        have eW : w + (1 + alen v) = w + 1 + alen v := by omega
        have P75 := pr_L75 hr h (1 + alen v) w 1000 (by omega) (by omega) (hd_mk (by decide) g4) (by rw [eW]; exact c4)
        have eW2 : w + (1 + alen v) + 1 = w2 := by omega
        by_cases hok : ok = 0
        · have e1 : RS fr bs es vs nw (mX13_runStatementF recL) M (nI w) 0 (-1) (nI st) = some (RR M2 (nI w2) 3 (nI (WB tx len w)) (nI (st + 1))) := by
            rw [RS, mX13_runStatementF, NM, Option.bind_some, if_neg hn500, if_neg hn30, D2, Option.bind_some, if_pos (show ((ok, M2) : Int32 × RT).1 = 0 from hok), if_neg (nI_in (show w < 300 by omega) (by omega)), nI_clamp (show w < 2 ^ 31 by omega), hbw, P75, nI_1 st, ← eW2, ← nI_1 (w + (1 + alen v))]
            rfl
          have e2 : ∀ t n, s < t → t ≤ 60 → C22 f len t A recC d (n + 2) s (nI st) 0 (-1) X = C22 f len t A recC d (n + 1) s2 (nI (st + 1)) 3 (nI (WB tx len w)) X2 := by
            intro t n ht ht2
            rw [C22, mX4_carryOutBlockF_L22, if_neg (nI_ge ht (by omega)), if_pos rfl, if_neg (nI_in (show s < 60 by omega) (by omega)), nI_clamp (show s < 2 ^ 31 by omega), if_pos hl500, q4, if_neg (show ¬ 31 ≤ v by omega), if_neg h30, g3, nI_1 s, if_neg (show ¬ nI s2 < nI (s + 1) from nI_nlt (by omega) (by omega)), D1, Option.bind_some, if_pos (show ((ok, X2) : Int32 × CT).1 = 0 from hok), q5, nI_1 st]
            rfl
          exact ⟨st + 1, w2, 3, _, X2, M2, by omega, D3, e1, Or.inl ⟨by decide, fun t n ht ht2 => (e2 t n ht ht2).trans (c22_err (by decide))⟩⟩
        · have e1 : RS fr bs es vs nw (mX13_runStatementF recL) M (nI w) 0 (-1) (nI st) = some (RR M2 (nI w2) 0 (-1) (nI (st + 1))) := by
            rw [RS, mX13_runStatementF, NM, Option.bind_some, if_neg hn500, if_neg hn30, D2, Option.bind_some, if_neg (show ¬ ((ok, M2) : Int32 × RT).1 = 0 from hok), P75, nI_1 st, ← eW2, ← nI_1 (w + (1 + alen v))]
            rfl
          have e2 : ∀ t n, s < t → t ≤ 60 → C22 f len t A recC d (n + 2) s (nI st) 0 (-1) X = C22 f len t A recC d (n + 1) s2 (nI (st + 1)) 0 (-1) X2 := by
            intro t n ht ht2
            rw [C22, mX4_carryOutBlockF_L22, if_neg (nI_ge ht (by omega)), if_pos rfl, if_neg (nI_in (show s < 60 by omega) (by omega)), nI_clamp (show s < 2 ^ 31 by omega), if_pos hl500, q4, if_neg (show ¬ 31 ≤ v by omega), if_neg h30, g3, nI_1 s, if_neg (show ¬ nI s2 < nI (s + 1) from nI_nlt (by omega) (by omega)), D1, Option.bind_some, if_neg (show ¬ ((ok, X2) : Int32 × CT).1 = 0 from hok), nI_1 st]
            rfl
          exact ⟨st + 1, w2, 0, -1, X2, M2, by omega, D3, e1, Or.inr ⟨rfl, rfl, rfl, e2⟩⟩
      · exact absurd c1 h30
theorem jr_all {tx : Nat → Nat} {len nw : Nat} {f fr bs es : Nat → Int32} {A : SA} {vs : Nat → Int64} (hf : txR f tx len) (hr : txR fr tx len) (h : wdR tx len nw bs es) : JR tx len nw f fr bs es A vs 0 mX4_carryOutBlock_1 mX13_runStatement_0 := by
  have j4 : JR tx len nw f fr bs es A vs 4 mX4_carryOutBlock_5 mX13_runStatement_4 := jrst hf hr h (fun z => absurd z (by decide))
  have j3 : JR tx len nw f fr bs es A vs 3 mX4_carryOutBlock_4 mX13_runStatement_3 := jrst hf hr h (fun _ => ⟨_, _, rfl, rfl, j4⟩)
  have j2 : JR tx len nw f fr bs es A vs 2 mX4_carryOutBlock_3 mX13_runStatement_2 := jrst hf hr h (fun _ => ⟨_, _, rfl, rfl, j3⟩)
  have j1 : JR tx len nw f fr bs es A vs 1 mX4_carryOutBlock_2 mX13_runStatement_1 := jrst hf hr h (fun _ => ⟨_, _, rfl, rfl, j2⟩)
  exact jrst hf hr h (fun _ => ⟨_, _, rfl, rfl, j1⟩)
abbrev R73 (fr bs es : Nat → Int32) (vs : Nat → Int64) (nw c1 : Nat) (a0 k0 e0 : Int32) (fd0 : Nat → Int32) (n : Nat) (at_ kd ep st : Int32) (M : RT) := mX13_tries_L73 (bs, es, nI nw) 1000 fr (c1, (a0, k0, e0, fd0, vs)) n at_ kd ep st M.1 M.2.2.2.1 M.2.2.2.2.2.1 M.2.2.2.2.2.2.1 M.2.2.1 M.2.2.2.2.1 M.2.2.2.2.2.2.2.1 M.2.2.2.2.2.2.2.2.1 M.2.2.2.2.2.2.2.2.2.1 M.2.2.2.2.2.2.2.2.2.2.1 M.2.2.2.2.2.2.2.2.2.2.2 M.2.1
theorem r73_err {fr bs es : Nat → Int32} {vs : Nat → Int64} {nw c1 n : Nat} {a0 k0 e0 : Int32} {fd0 : Nat → Int32} {at_ kd ep st : Int32} {M : RT} (h : ¬ kd = 0) : R73 fr bs es vs nw c1 a0 k0 e0 fd0 (n + 1) at_ kd ep st M = some (RLo M at_ kd ep st) := by
  rw [R73, mX13_tries_L73, if_neg h]
theorem jr73 {tx : Nat → Nat} {len nw c1 : Nat} {a0 k0 e0 : Int32} {fd0 : Nat → Int32} {f fr bs es : Nat → Int32} {A : SA} {vs : Nat → Int64} {rC : CRec} (hr : txR fr tx len) (h : wdR tx len nw bs es) (hJ : JR tx len nw f fr bs es A vs 0 rC mX13_runStatement_0) : ∀ (N s t w u st n m : Nat) (X : CT) (M : RT), N < 880 → Blk tx len nw A vs N 0 s t w u → t ≤ 60 → u = nw → st ≤ 500 → TRR X M → t - s + 1 < n → N < m → ∃ (st2 : Nat) (at2 kd ep : Int32) (X2 : CT) (M2 : RT), st2 ≤ 500 ∧ TRR X2 M2 ∧ C22 f len t A rC 0 n s (nI st) 0 (-1) X = some (CR X2 (nI st2) kd ep) ∧ R73 fr bs es vs nw c1 a0 k0 e0 fd0 m (nI w) 0 (-1) (nI st) M = some (RLo M2 at2 kd ep (nI st2))
  | 0, _, _, _, _, _, _, _, _, _, _, hB, _, _, _, _, _, _ => hB.elim
  | N + 1, s, t, w, u, st, n, m, X, M, hN, hB, ht, hu, hst, T, hn, hm => by
    have h5 := hr.1
    have h6 := h.1
    obtain ⟨n', rfl⟩ : ∃ n', n = n' + 2 := ⟨n - 2, by omega⟩
    obtain ⟨m', rfl⟩ : ∃ m', m = m' + 1 := ⟨m - 1, by omega⟩
    rcases hB with ⟨h1, h2⟩ | ⟨s2, w2, h1, h2⟩
    · subst h1
      refine ⟨st, nI w, 0, -1, X, M, hst, T, ?_, ?_⟩
      · rw [C22, mX4_carryOutBlockF_L22, if_pos (nI_le (Nat.le_refl s) (by omega))]
      · rw [R73, mX13_tries_L73, if_pos rfl, if_pos (show nI nw ≤ nI w from nI_le (by omega) (by omega))]
    · have hle := Blk.le N 0 s2 t w2 u h2
      have hss := h1.1
      have hww := h1.2.1
      obtain ⟨st2, w3, kd, ep, X2, M2, J1, J2, J3, J4⟩ := hJ N s s2 w w2 st X M (by omega) h1 (by omega) hst T
      have e3 : R73 fr bs es vs nw c1 a0 k0 e0 fd0 (m' + 1) (nI w) 0 (-1) (nI st) M = R73 fr bs es vs nw c1 a0 k0 e0 fd0 m' (nI w3) kd ep (nI st2) M2 := by
        rw [R73, mX13_tries_L73, if_pos rfl, if_neg (show ¬ nI nw ≤ nI w from nI_ge (by omega) (by omega))]
        exact (ob1 J3).trans rfl
      rcases J4 with ⟨k1, k2⟩ | ⟨k1, k2, k3, k4⟩
      · obtain ⟨m2, rfl⟩ : ∃ m2, m' = m2 + 1 := ⟨m' - 1, by omega⟩
        exact ⟨st2, nI w3, kd, ep, X2, M2, J1, J2, k2 t n' (by omega) ht, e3.trans (r73_err k1)⟩
      · subst k1 k2 k3
        obtain ⟨st3, w4, kd3, ep3, X3, M3, K1, K2, K3, K4⟩ := jr73 hr h hJ N s2 t w3 u st2 (n' + 1) m' X2 M2 (by omega) h2 ht hu J1 J2 (by omega) (by omega)
        exact ⟨st3, w4, kd3, ep3, X3, M3, K1, K2, (k4 t n' (by omega) ht).trans K3, e3.trans K4⟩
