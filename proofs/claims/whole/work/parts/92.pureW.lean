/-! pure: names of the statements and their shapes -/
def isNm (tx : Nat → Nat) (v a e : Nat) : Bool := decide (e - a = sLen v ∧ ∀ q, q < sLen v → tx (a + q) = chN v q)
def nmOf (tx : Nat → Nat) (a e : Nat) : Nat := fst1 (fun v => isNm tx v a e) 31 0
def ofsN : Nat → Nat
  | 0 => 0
  | v + 1 => ofsN v + sLen v + 1
set_option maxRecDepth 100000 in
theorem nm_ok : ∀ v, v < 31 → mJ0_length_8abf5 v = some (nI (sLen v)) ∧ sLen v < 15 ∧ 2 ≤ sLen v ∧ ofsN v < 500 ∧ ofsN v < ofsN 31 ∧ ∀ q, q < sLen v → mJ0_charAt_5068e (nI q) v = some (nI (chN v q)) ∧ chN v q < 256 ∧ 64 < chN v q := by decide +kernel
set_option maxRecDepth 100000 in
theorem nms_ok : mJ0_length_8abf5 42 = some (nI (ofsN 31)) ∧ ofsN 31 < 500 ∧ ∀ v, v < 31 → mJ0_charAt_5068e (nI (ofsN v + sLen v)) 42 = some 32 ∧ ∀ q, q < sLen v → mJ0_charAt_5068e (nI (ofsN v + q)) 42 = some (nI (chN v q)) := by decide +kernel
def alen (v : Nat) : Nat := sLen (vArg v)
def alet (v q : Nat) : Nat := chN (vArg v) q
set_option maxRecDepth 100000 in
theorem ar_ok : ∀ v, v < 31 → mJ0_length_8abf5 (vArg v) = some (nI (alen v)) ∧ alen v ≤ 3 ∧ ∀ q, q < alen v → mJ0_charAt_5068e (nI q) (vArg v) = some (nI (alet v q)) ∧ (alet v q = 67 ∨ alet v q = 78 ∨ alet v q = 80 ∨ alet v q = 82 ∨ alet v q = 84) := by decide +kernel
def shB (v : Nat) : Bool :=
  match mX13_shapeOf 1000 (nI v) with
  | none => false
  | some r => decide (mJ0_length_w r.1 = some (nI r.1)) && (if alen v = 0 then decide (r.1 = 1) && decide (mJ0_charAt_w r.1 r.2 0 = some 46) else decide (r.1 = alen v) && decide (∀ q, q < alen v → mJ0_charAt_w r.1 r.2 (nI q) = some (nI (alet v q))))
set_option maxRecDepth 100000 in
theorem sh_ok : ∀ v, v < 31 → shB v = true := by decide +kernel
theorem pr_isWord20 {f : Nat → Int32} {tx : Nat → Nat} {len a e v : Nat} (hf : txR f tx len) (hv : v < 31) (he : e ≤ len) (ha : a ≤ e) (hl : e - a = sLen v) : ∀ (d q k : Nat), q + d = sLen v → d < k → (∀ r, r < q → tx (a + r) = chN v r) → mX10_isWord_L20 v 300 f (nI len) (nI a) k (nI q) = some (bI (isNm tx v a e))
  | _, _, 0, _, hk, _ => absurd hk (Nat.not_lt_zero _)
  | 0, q, k + 1, h, _, hq => by
    obtain ⟨n1, n2, -, -, -, n3⟩ := nm_ok v hv
    have hyes : isNm tx v a e = true := decide_eq_true ⟨hl, fun r hr => hq r (by omega)⟩
    rw [mX10_isWord_L20, n1]
    simp only [Option.bind_some]
    rw [if_pos (nI_le (by omega) (by omega)), hyes]
    rfl
  | d + 1, q, k + 1, h, hk, hq => by
    obtain ⟨n1, n2, -, -, -, n3⟩ := nm_ok v hv
    obtain ⟨c1, c2, -⟩ := n3 q (by omega)
    have h3 := hf.1
    obtain ⟨e1, hb⟩ := hf.2 (a + q) (by omega)
    rw [mX10_isWord_L20, n1]
    simp only [Option.bind_some]
    rw [if_neg (nI_ge (by omega) (by omega)), nI_add, pr_byteAt (by omega) hf.1 (by omega), e1, c1]
    simp only [Option.bind_some]
    by_cases hx : tx (a + q) = chN v q
    · rw [if_pos (by rw [hx]), nI_1]
      exact pr_isWord20 hf hv he ha hl d (q + 1) k (by omega) (by omega) (fun r hr => by
        by_cases hrq : r = q
        · rw [hrq]; exact hx
        · exact hq r (by omega))
    · have hno : isNm tx v a e = false := decide_eq_false (fun z => hx (z.2 q (by omega)))
      rw [if_neg (fun z => hx ((nI_eq (by omega) (by omega)).mp z)), hno]
      rfl
theorem pr_isWord {f : Nat → Int32} {tx : Nat → Nat} {len a e v k : Nat} (hf : txR f tx len) (hv : v < 31) (he : e ≤ len) (ha : a ≤ e) (hk : 20 < k) : mX10_isWord k 300 f (nI len) (nI a) (nI e) v = some (bI (isNm tx v a e)) := by
  obtain ⟨n1, n2, -, -, -, n3⟩ := nm_ok v hv
  have h3 := hf.1
  rw [mX10_isWord, n1, pk_sub ha]
  simp only [Option.bind_some]
  by_cases hl : e - a = sLen v
  · rw [if_pos (by rw [hl])]
    exact pr_isWord20 hf hv he ha hl (sLen v) 0 k (by omega) (by omega) (fun r hr => absurd hr (Nat.not_lt_zero _))
  · have hno : isNm tx v a e = false := decide_eq_false (fun z => hl z.1)
    rw [if_neg (fun z => hl ((nI_eq (by omega) (by omega)).mp z)), hno]
    rfl
theorem pr_verb2 {f : Nat → Int32} {tx : Nat → Nat} {len a e K : Nat} (hf : txR f tx len) (he : e ≤ len) (ha : a ≤ e) (hK : 20 < K) : ∀ (d v k : Nat), v + d = 31 → d < k → mX10_verb_L2 K 300 f (nI len) (nI a) (nI e) k (nI v) = some (if fst1 (fun v => isNm tx v a e) d v < 31 then some (fst1 (fun v => isNm tx v a e) d v) else none)
  | _, _, 0, _, hk => absurd hk (Nat.not_lt_zero _)
  | 0, v, k + 1, h, _ => by
    rw [mX10_verb_L2, if_pos (show (31 : Int32) ≤ nI v from nI_le (a := 31) (by omega) (by omega)), fst1, if_neg (by omega)]
  | d + 1, v, k + 1, h, hk => by
    rw [mX10_verb_L2, if_neg (show ¬ (31 : Int32) ≤ nI v from nI_ge (b := 31) (by omega) (by omega)), if_neg (nI_in (show v < 31 by omega) (by omega)), nI_clamp (by omega), pr_isWord hf (show v < 31 by omega) he ha hK, fst1]
    simp only [Option.bind_some]
    cases hm : isNm tx v a e with
    | true =>
      rw [if_neg (by decide), if_neg (nI_in2 (show v < 31 by omega) (by omega))]
      simp only [if_true]
      rw [if_pos (by omega)]
    | false =>
      rw [if_pos bI_f, nI_1]
      exact pr_verb2 hf he ha hK d (v + 1) k (by omega) (by omega)
theorem pr_verb {f : Nat → Int32} {tx : Nat → Nat} {len a e k : Nat} (hf : txR f tx len) (he : e ≤ len) (ha : a ≤ e) (hk : 40 < k) : mX10_verb k 300 f (nI len) (nI a) (nI e) = some (if nmOf tx a e < 31 then some (nmOf tx a e) else none) := pr_verb2 hf he ha (by omega) 31 0 k (by omega) (by omega)
def allm (tx : Nat → Nat) (v a e : Nat) : Nat → Nat → Bool
  | 0, _ => true
  | d + 1, q => (decide (a + q < e) && decide (tx (a + q) = chN v q)) && allm tx v a e d (q + 1)
theorem allm_iff {tx : Nat → Nat} {v a e : Nat} : ∀ (d q : Nat), allm tx v a e d q = true ↔ ∀ r, q ≤ r → r < q + d → a + r < e ∧ tx (a + r) = chN v r
  | 0, q => ⟨fun _ r h1 h2 => by omega, fun _ => rfl⟩
  | d + 1, q => by
    have ih := allm_iff (tx := tx) (v := v) (a := a) (e := e) d (q + 1)
    rw [allm, Bool.and_eq_true, Bool.and_eq_true, decide_eq_true_iff, decide_eq_true_iff, ih]
    constructor
    · intro h r h1 h2
      by_cases hrq : r = q
      · rw [hrq]; exact h.1
      · exact h.2 r (by omega) (by omega)
    · intro h
      exact ⟨h q (Nat.le_refl _) (by omega), fun r h1 h2 => h r (by omega) (by omega)⟩
theorem isNm_allm {tx : Nat → Nat} {v a e : Nat} (ha : a ≤ e) : isNm tx v a e = (allm tx v a e (sLen v) 0 && decide (e - a = sLen v)) := by
  rw [Bool.eq_iff_iff, Bool.and_eq_true, allm_iff, decide_eq_true_iff]
  unfold isNm
  rw [decide_eq_true_iff]
  constructor
  · intro h
    exact ⟨fun r _ h2 => ⟨by omega, h.2 r (by omega)⟩, h.1⟩
  · intro h
    exact ⟨h.2, fun q hq => (h.1 q (Nat.zero_le _) (by omega)).2⟩
theorem pr_nm19 {f bs es : Nat → Int32} {tx : Nat → Nat} {len a e v w : Nat} (hf : txR f tx len) (hv : v < 31) (he : e ≤ len) (hw : w < 300) (hb : bs w = nI a) (hE : es w = nI e) (hal : a ≤ len) : ∀ (d q k : Nat) (is : Bool), q + d = sLen v → d < k → mX13_nameOf_L19 (nI (ofsN v)) (nI w) es bs f k (nI q) (bI is) = some (nI (sLen v), bI (is && allm tx v a e d q))
  | _, _, 0, _, _, hk => absurd hk (Nat.not_lt_zero _)
  | 0, q, k + 1, is, h, _ => by
    have h32 := (nms_ok.2.2 v hv).1
    rw [mX13_nameOf_L19, nI_add, show q = sLen v by omega, h32]
    simp only [Option.bind_some, if_true]
    rw [allm, Bool.and_true]
  | d + 1, q, k + 1, is, h, hk => by
    obtain ⟨n1, n2, -, -, -, n3⟩ := nm_ok v hv
    obtain ⟨c1, c2, c3⟩ := n3 q (by omega)
    have hc := (nms_ok.2.2 v hv).2 q (by omega)
    have h3 := hf.1
    have e9 : ((if bI is = 0 then some 0 else (if nI w < 0 ∨ 300 ≤ (nI w).toNatClampNeg then none else (if nI w < 0 ∨ 300 ≤ (nI w).toNatClampNeg then none else (if (es (nI w).toNatClampNeg) ≤ ((bs (nI w).toNatClampNeg) + nI q) then some 0 else (if nI w < 0 ∨ 300 ≤ (nI w).toNatClampNeg then none else (if ((bs (nI w).toNatClampNeg) + nI q) < 0 ∨ 300 ≤ ((bs (nI w).toNatClampNeg) + nI q).toNatClampNeg then none else ((mJ0_charAt_5068e (nI (ofsN v + q)) 42).bind (fun r_121 => (if (f ((bs (nI w).toNatClampNeg) + nI q).toNatClampNeg) = r_121 then some 1 else some 0))))))))) : Option Int32) = some (bI (is && (decide (a + q < e) && decide (tx (a + q) = chN v q)))) := by
      cases is with
      | false => rw [if_pos bI_f]; rfl
      | true =>
        rw [if_neg (by decide), if_neg (nI_in hw (by omega)), if_neg (nI_in hw (by omega)), nI_clamp (show w < 2 ^ 31 by omega), hb, hE, nI_add, Bool.true_and]
        by_cases hlt : a + q < e
        · obtain ⟨e1, hbx⟩ := hf.2 (a + q) (by omega)
          rw [if_neg (nI_ge hlt (by omega)), if_neg (nI_in2 hw (by omega)), if_neg (nI_in (show a + q < 300 by omega) (by omega)), nI_clamp (show a + q < 2 ^ 31 by omega), hc, e1, decide_eq_true hlt, Bool.true_and]
          simp only [Option.bind_some]
          by_cases hx : tx (a + q) = chN v q
          · rw [if_pos (by rw [hx]), decide_eq_true hx]
            rfl
          · rw [if_neg (fun z => hx ((nI_eq (by omega) (by omega)).mp z)), decide_eq_false hx]
            rfl
        · rw [if_pos (nI_le (by omega) (by omega)), decide_eq_false hlt]
          rfl
    rw [mX13_nameOf_L19, nI_add, hc]
    simp only [Option.bind_some]
    rw [if_neg (fun z : nI (chN v q) = 32 => by have := (nI_eq (a := chN v q) (b := 32) (by omega) (by omega)).mp z; omega)]
    rw [hc] at e9
    simp only [Option.bind_some] at e9
    rw [e9]
    simp only [Option.bind_some]
    rw [nI_1, allm]
    have h9 := pr_nm19 hf hv he hw hb hE hal d (q + 1) k (is && (decide (a + q < e) && decide (tx (a + q) = chN v q))) (by omega) (by omega)
    rw [h9, Bool.and_assoc]
theorem pr_nm4 {f bs es : Nat → Int32} {tx : Nat → Nat} {len a e w K : Nat} (hf : txR f tx len) (he : e ≤ len) (ha : a ≤ e) (hw : w < 300) (hb : bs w = nI a) (hE : es w = nI e) (hK : 20 < K) : ∀ (d v k : Nat), v + d = 31 → d < k → mX13_nameOf_L4 (nI w) es bs f K k (nI v) (nI (ofsN v)) = some (if fst1 (fun v => isNm tx v a e) d v < 31 then nI (fst1 (fun v => isNm tx v a e) d v) else -1)
  | _, _, 0, _, hk => absurd hk (Nat.not_lt_zero _)
  | 0, v, k + 1, h, _ => by
    have hv31 : v = 31 := by omega
    subst hv31
    rw [mX13_nameOf_L4, nms_ok.1]
    simp only [Option.bind_some]
    rw [if_pos (nI_le (Nat.le_refl _) (by have := nms_ok.2.1; omega)), fst1, if_neg (by omega)]
  | d + 1, v, k + 1, h, hk => by
    have hv : v < 31 := by omega
    have h3 := hf.1
    obtain ⟨n1, n2, -, n4, n5, -⟩ := nm_ok v hv
    have e19 : mX13_nameOf_L19 (nI (ofsN v)) (nI w) es bs f K 0 1 = some (nI (sLen v), bI (true && allm tx v a e (sLen v) 0)) := pr_nm19 hf hv he hw hb hE (by omega) (sLen v) 0 K true (by omega) (by omega)
    have go : ((some (nI (ofsN v) + (nI (sLen v) + 1)) : Option Int32).bind (fun x_126 => (mX13_nameOf_L4 (nI w) es bs f K k (nI v + 1) x_126))) = some (if fst1 (fun v => isNm tx v a e) d (v + 1) < 31 then nI (fst1 (fun v => isNm tx v a e) d (v + 1)) else -1) := by
      simp only [Option.bind_some]
      rw [nI_1, nI_1, nI_add]
      exact pr_nm4 hf he ha hw hb hE hK d (v + 1) k (by omega) (by omega)
    rw [mX13_nameOf_L4, nms_ok.1]
    simp only [Option.bind_some]
    rw [if_neg (nI_ge n5 (by have := nms_ok.2.1; omega)), e19, Bool.true_and, fst1, isNm_allm ha]
    simp only [Option.bind_some] at go ⊢
    cases hm : allm tx v a e (sLen v) 0 with
    | false =>
      rw [if_pos bI_f, Bool.false_and, if_neg (show ¬ (false = true) by decide)]
      exact go
    | true =>
      rw [if_neg (by decide), if_neg (nI_in hw (by omega)), if_neg (nI_in hw (by omega)), nI_clamp (show w < 2 ^ 31 by omega), hb, hE, pk_sub ha, Bool.true_and]
      by_cases hl : e - a = sLen v
      · rw [if_pos (by rw [hl]), decide_eq_true hl, if_pos rfl, if_pos hv]
      · rw [if_neg (fun z => hl ((nI_eq (by omega) (by omega)).mp z)), decide_eq_false hl, if_neg (show ¬ (false = true) by decide)]
        exact go
theorem pr_nameOf {f bs es : Nat → Int32} {tx : Nat → Nat} {len a e w k : Nat} (hf : txR f tx len) (he : e ≤ len) (ha : a ≤ e) (hw : w < 300) (hb : bs w = nI a) (hE : es w = nI e) (hk : 40 < k) : mX13_nameOf k f bs es (nI w) = some (if nmOf tx a e < 31 then nI (nmOf tx a e) else -1) := by
  rw [mX13_nameOf]
  exact pr_nm4 hf he ha hw hb hE (by omega) 31 0 k (by omega) (by omega)
