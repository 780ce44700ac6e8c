/-! rows of a square of boolean rows -/
def rowsW (c : ClassId) (rw : Nat → Nat) (B : Nat → Nat → Int32) : va_W := [(rw 0, .inl (c, 64, .inl (B 0))), (rw 1, .inl (c, 64, .inl (B 1))), (rw 2, .inl (c, 64, .inl (B 2))), (rw 3, .inl (c, 64, .inl (B 3))), (rw 4, .inl (c, 64, .inl (B 4))), (rw 5, .inl (c, 64, .inl (B 5))), (rw 6, .inl (c, 64, .inl (B 6))), (rw 7, .inl (c, 64, .inl (B 7)))]
def upR (B : Nat → Nat → Int32) (i : Nat) (f : Nat → Int32) : Nat → Nat → Int32 := fun k => if k = i then f else B k
theorem co_8 {P : Nat → Prop} (h0 : P 0) (h1 : P 1) (h2 : P 2) (h3 : P 3) (h4 : P 4) (h5 : P 5) (h6 : P 6) (h7 : P 7) {i : Nat} (hi : i < 8) : P i := by
  match i, hi with
  | 0, _ => exact h0
  | 1, _ => exact h1
  | 2, _ => exact h2
  | 3, _ => exact h3
  | 4, _ => exact h4
  | 5, _ => exact h5
  | 6, _ => exact h6
  | 7, _ => exact h7
theorem rowsW_len {c : ClassId} {rw : Nat → Nat} {B : Nat → Nat → Int32} : (rowsW c rw B).length = 8 := rfl
theorem rowsW_get {c : ClassId} {rw : Nat → Nat} {B : Nat → Nat → Int32} {i : Nat} (hi : i < 8) : (rowsW c rw B)[i]? = some (rw i, .inl (c, 64, .inl (B i))) := co_8 (P := fun i => (rowsW c rw B)[i]? = some (rw i, .inl (c, 64, .inl (B i)))) rfl rfl rfl rfl rfl rfl rfl rfl hi
theorem rowsW_set {c : ClassId} {rw : Nat → Nat} {B : Nat → Nat → Int32} {f : Nat → Int32} {i : Nat} (hi : i < 8) : (rowsW c rw B).set i (rw i, .inl (c, 64, .inl f)) = rowsW c rw (upR B i f) := co_8 (P := fun i => (rowsW c rw B).set i (rw i, .inl (c, 64, .inl f)) = rowsW c rw (upR B i f)) rfl rfl rfl rfl rfl rfl rfl rfl hi
theorem rowsW_fst {c c' : ClassId} {rw : Nat → Nat} {B B' : Nat → Nat → Int32} : (rowsW c rw B).map Prod.fst = (rowsW c' rw B').map Prod.fst := rfl
theorem row_get {X Za Zb : va_W} {c : ClassId} {rw : Nat → Nat} {B : Nat → Nat → Int32} {i : Nat} (hi : i < 8) : (X ++ (Za ++ (rowsW c rw B ++ Zb)))[X.length + (Za.length + i)]? = some (rw i, .inl (c, 64, .inl (B i))) := by
  rw [List.getElem?_append_right (by omega), Nat.add_sub_cancel_left, List.getElem?_append_right (by omega), Nat.add_sub_cancel_left, List.getElem?_append_left (by rw [rowsW_len]; exact hi)]
  exact rowsW_get hi
theorem row_set {X Za Zb : va_W} {c : ClassId} {rw : Nat → Nat} {B : Nat → Nat → Int32} {f : Nat → Int32} {i : Nat} (hi : i < 8) : (X ++ (Za ++ (rowsW c rw B ++ Zb))).set (X.length + (Za.length + i)) (rw i, .inl (c, 64, .inl f)) = X ++ (Za ++ (rowsW c rw (upR B i f) ++ Zb)) := by
  rw [List.set_append_right _ _ (by omega), Nat.add_sub_cancel_left, List.set_append_right _ _ (by omega), Nat.add_sub_cancel_left, List.set_append_left _ _ (by rw [rowsW_len]; exact hi), rowsW_set hi]
theorem cs_nil {ws : va_W} : ([] : List Nat).map (fun i => ws[i]?) = ([] : va_W).map some := rfl
theorem cs_cons {ws wc : va_W} {a : Nat} {x : Nat × va_E} {is : List Nat} (h : ws[a]? = some x) (t : is.map (fun i => ws[i]?) = wc.map some) : (a :: is).map (fun i => ws[i]?) = (x :: wc).map some := by
  rw [List.map_cons, List.map_cons, h, t]
theorem ps_nil {ws : va_W} : pall ws [] [] = ws := rfl
theorem ps_cons {ws ws1 ws' : va_W} {a : Nat} {x : Nat × va_E} {is : List Nat} {xs : va_W} (e : ws.set a x = ws1) (t : pall ws1 is xs = ws') : pall ws (a :: is) (x :: xs) = ws' := by
  subst e; exact t
theorem set_same {ws : va_W} {a : Nat} {x : Nat × va_E} (h : ws[a]? = some x) : ws.set a x = ws := by
  apply List.ext_getElem?
  intro j
  by_cases hj : j = a
  · subst hj
    rw [List.getElem?_set_self (List.getElem?_eq_some_iff.mp h).1, h]
  · rw [List.getElem?_set_ne (Ne.symm hj)]
/-- the places of some cells of X, and of a whole part behind -/
def isZ (is : List Nat) (b n : Nat) : List Nat := is ++ (List.range n).map (fun j => b + j)
theorem va_nd_of : ∀ (l : List Nat), l.Nodup → va_nd l = true
  | [], _ => rfl
  | a :: l, h => by
    rw [List.nodup_cons] at h
    simp only [va_nd, Bool.and_eq_true, decide_eq_true_eq]
    exact ⟨h.1, va_nd_of l h.2⟩
theorem va_nd_to : ∀ (l : List Nat), va_nd l = true → l.Nodup
  | [], _ => List.nodup_nil
  | a :: l, h => by
    simp only [va_nd, Bool.and_eq_true, decide_eq_true_eq] at h
    exact List.nodup_cons.mpr ⟨h.1, va_nd_to l h.2⟩
theorem lt_of_map {X cx : va_W} {is : List Nat} (h : is.map (fun i => X[i]?) = cx.map some) : ∀ i ∈ is, i < X.length := by
  intro i hi
  have h1 : X[i]? ∈ is.map (fun i => X[i]?) := List.mem_map.mpr ⟨i, hi, rfl⟩
  rw [h] at h1
  obtain ⟨x, -, hx⟩ := List.mem_map.mp h1
  exact (List.getElem?_eq_some_iff.mp hx.symm).1
theorem zn {X cx : va_W} {is : List Nat} {n a : Nat} (hn : va_nd is = true) (h : is.map (fun i => X[i]?) = cx.map some) : va_nd (isZ is (X.length + a) n) = true := by
  refine va_nd_of _ (List.nodup_append.mpr ⟨va_nd_to _ hn, ?_, fun x hx y hy => ?_⟩)
  · rw [List.Nodup, List.pairwise_map]
    exact List.Pairwise.imp (fun h => by omega) (List.nodup_range (n := n))
  · obtain ⟨j, -, rfl⟩ := List.mem_map.mp hy
    have := lt_of_map h x hx
    omega
theorem zq {X cx Z : va_W} {is : List Nat} (h : is.map (fun i => X[i]?) = cx.map some) : is.map (fun i => (X ++ Z)[i]?) = cx.map some := by
  rw [← h]
  apply List.map_congr_left
  intro i hi
  rw [List.getElem?_append_left (lt_of_map h i hi)]
theorem zc {X Za Zc Zb cx : va_W} {is : List Nat} (h : is.map (fun i => X[i]?) = cx.map some) : (isZ is (X.length + Za.length) Zc.length).map (fun i => (X ++ (Za ++ (Zc ++ Zb)))[i]?) = (cx ++ (Zc ++ [])).map some := by
  rw [isZ, List.map_append, List.map_append, List.append_nil, zq h, List.map_map]
  congr 1
  apply List.ext_getElem?
  intro j
  rw [List.getElem?_map, List.getElem?_map]
  by_cases hj : j < Zc.length
  · rw [List.getElem?_range hj]
    simp only [Option.map_some, Function.comp_apply]
    rw [List.getElem?_append_right (by omega), List.getElem?_append_right (by omega), List.getElem?_append_left (by omega), show X.length + Za.length + j - X.length - Za.length = j by omega, List.getElem?_eq_getElem hj]
    rfl
  · rw [List.getElem?_eq_none (by simpa using hj), List.getElem?_eq_none (by simpa using hj)]
    rfl
theorem pall_X {Z : va_W} : ∀ (is : List Nat) (w1 X : va_W), (∀ i ∈ is, i < X.length) → pall (X ++ Z) is w1 = pall X is w1 ++ Z
  | [], w1, X, _ => by cases w1 <;> rfl
  | i :: is, [], X, _ => rfl
  | i :: is, x :: xs, X, h => by
    show pall ((X ++ Z).set i x) is xs = pall (X.set i x) is xs ++ Z
    rw [List.set_append_left _ _ (h i List.mem_cons_self)]
    exact pall_X is xs (X.set i x) (fun j hj => by rw [List.length_set]; exact h j (List.mem_cons_of_mem _ hj))
theorem pall_len : ∀ (is : List Nat) (w1 X : va_W), (pall X is w1).length = X.length
  | [], w1, X => by cases w1 <;> rfl
  | i :: is, [], X => rfl
  | i :: is, x :: xs, X => by
    show (pall (X.set i x) is xs).length = X.length
    rw [pall_len is xs (X.set i x), List.length_set]
theorem pall_app : ∀ (is js : List Nat) (w1 w2 X : va_W), is.length = w1.length → pall X (is ++ js) (w1 ++ w2) = pall (pall X is w1) js w2
  | [], js, w1, w2, X, h => by
    cases w1 with
    | nil => cases js <;> cases w2 <;> rfl
    | cons _ _ => simp at h
  | i :: is, js, [], w2, X, h => by simp at h
  | i :: is, js, x :: xs, w2, X, h => pall_app is js xs w2 (X.set i x) (by simpa using h)
theorem pall_rng {X Zb : va_W} : ∀ (Zc1 Zc Y : va_W), Zc1.length = Zc.length → pall (Y ++ (Zc ++ Zb)) ((List.range Zc.length).map (fun j => Y.length + j)) Zc1 = Y ++ (Zc1 ++ Zb)
  | [], Zc, Y, h => by
    cases Zc with
    | nil => rfl
    | cons _ _ => simp at h
  | x :: xs, Zc, Y, h => by
    cases Zc with
    | nil => simp at h
    | cons z zs =>
      rw [List.length_cons, List.range_succ_eq_map, List.map_cons, List.map_map]
      show pall ((Y ++ (z :: zs ++ Zb)).set (Y.length + 0) x) _ xs = _
      rw [List.set_append_right _ _ (by omega), Nat.add_sub_cancel_left]
      have h2 := pall_rng (X := X) (Zb := Zb) xs zs (Y ++ [x]) (by simpa using h)
      rw [List.append_assoc, List.append_assoc] at h2
      refine Eq.trans ?_ h2
      show pall (Y ++ (x :: (zs ++ Zb))) _ xs = pall (Y ++ ([x] ++ (zs ++ Zb))) _ xs
      congr 1
      apply List.map_congr_left
      intro j _
      show Y.length + (j + 1) = (Y ++ [x]).length + j
      rw [List.length_append]
      simp only [List.length_cons, List.length_nil]
      omega
theorem zw {X Za Zc Zb Zc1 cx cx1 X' : va_W} {is : List Nat} (h : is.map (fun i => X[i]?) = cx.map some) (he : cx1.map Prod.fst = cx.map Prod.fst) (hz : Zc1.length = Zc.length) (hx : pall X is cx1 = X') : pall (X ++ (Za ++ (Zc ++ Zb))) (isZ is (X.length + Za.length) Zc.length) (cx1 ++ (Zc1 ++ [])) = X' ++ (Za ++ (Zc1 ++ Zb)) := by
  have hl : is.length = cx1.length := by
    have h1 := congrArg List.length h
    have h2 := congrArg List.length he
    simp only [List.length_map] at h1 h2
    omega
  rw [isZ, pall_app _ _ _ _ _ hl, pall_X is cx1 X (lt_of_map h), hx, List.append_nil]
  have hX' : X'.length = X.length := by rw [← hx, pall_len]
  have h3 := pall_rng (X := X) (Zb := Zb) Zc1 Zc (X' ++ Za) hz
  rw [List.length_append, hX', List.append_assoc, List.append_assoc] at h3
  exact h3
theorem zqw {X Z cx cx1 X' : va_W} {is : List Nat} (h : is.map (fun i => X[i]?) = cx.map some) (hx : pall X is cx1 = X') : pall (X ++ Z) is cx1 = X' ++ Z := by
  rw [pall_X is cx1 X (lt_of_map h), hx]
theorem ze {Zc Zc1 cx cx1 : va_W} (he : cx1.map Prod.fst = cx.map Prod.fst) (hz : Zc1.map Prod.fst = Zc.map Prod.fst) : (cx1 ++ (Zc1 ++ [])).map Prod.fst = (cx ++ (Zc ++ [])).map Prod.fst := by
  simp only [List.map_append, he, hz]
theorem row_get1 {X Za Zb : va_W} {c : ClassId} {rw : Nat → Nat} {B : Nat → Nat → Int32} {i b : Nat} (hb : X.length + Za.length = b) (hi : i < 8) : (X ++ (Za ++ (rowsW c rw B ++ Zb)))[b + i]? = some (rw i, .inl (c, 64, .inl (B i))) := by
  subst hb
  rw [Nat.add_assoc]
  exact row_get hi
theorem row_set1 {X Za Zb : va_W} {c : ClassId} {rw : Nat → Nat} {B : Nat → Nat → Int32} {f : Nat → Int32} {i b : Nat} (hb : X.length + Za.length = b) (hi : i < 8) : (X ++ (Za ++ (rowsW c rw B ++ Zb))).set (b + i) (rw i, .inl (c, 64, .inl f)) = X ++ (Za ++ (rowsW c rw (upR B i f) ++ Zb)) := by
  subst hb
  rw [Nat.add_assoc]
  exact row_set hi
theorem row_get0 {X Zb : va_W} {c : ClassId} {rw : Nat → Nat} {B : Nat → Nat → Int32} {i b : Nat} (hb : X.length = b) (hi : i < 8) : (X ++ (rowsW c rw B ++ Zb))[b + i]? = some (rw i, .inl (c, 64, .inl (B i))) := row_get1 (X := X) (Za := []) hb hi
theorem row_set0 {X Zb : va_W} {c : ClassId} {rw : Nat → Nat} {B : Nat → Nat → Int32} {f : Nat → Int32} {i b : Nat} (hb : X.length = b) (hi : i < 8) : (X ++ (rowsW c rw B ++ Zb)).set (b + i) (rw i, .inl (c, 64, .inl f)) = X ++ (rowsW c rw (upR B i f) ++ Zb) := row_set1 (X := X) (Za := []) hb hi
theorem zc1 {X Za Zc Zb cx : va_W} {is : List Nat} {b n : Nat} (h : is.map (fun i => X[i]?) = cx.map some) (hb : X.length + Za.length = b) (hn : Zc.length = n) : (isZ is b n).map (fun i => (X ++ (Za ++ (Zc ++ Zb)))[i]?) = (cx ++ (Zc ++ [])).map some := by
  subst hb; subst hn
  exact zc h
theorem zc0 {X Zc Zb cx : va_W} {is : List Nat} {b n : Nat} (h : is.map (fun i => X[i]?) = cx.map some) (hb : X.length = b) (hn : Zc.length = n) : (isZ is b n).map (fun i => (X ++ (Zc ++ Zb))[i]?) = (cx ++ (Zc ++ [])).map some := zc1 (X := X) (Za := []) h hb hn
theorem zw1 {X Za Zc Zb Zc1 cx cx1 X' : va_W} {is : List Nat} {b n : Nat} (h : is.map (fun i => X[i]?) = cx.map some) (he : cx1.map Prod.fst = cx.map Prod.fst) (hz : Zc1.length = Zc.length) (hx : pall X is cx1 = X') (hb : X.length + Za.length = b) (hn : Zc.length = n) : pall (X ++ (Za ++ (Zc ++ Zb))) (isZ is b n) (cx1 ++ (Zc1 ++ [])) = X' ++ (Za ++ (Zc1 ++ Zb)) := by
  subst hb; subst hn
  exact zw h he hz hx
theorem zw0 {X Zc Zb Zc1 cx cx1 X' : va_W} {is : List Nat} {b n : Nat} (h : is.map (fun i => X[i]?) = cx.map some) (he : cx1.map Prod.fst = cx.map Prod.fst) (hz : Zc1.length = Zc.length) (hx : pall X is cx1 = X') (hb : X.length = b) (hn : Zc.length = n) : pall (X ++ (Zc ++ Zb)) (isZ is b n) (cx1 ++ (Zc1 ++ [])) = X' ++ (Zc1 ++ Zb) := zw1 (X := X) (Za := []) h he hz hx hb hn
theorem zcT {X Z cx : va_W} {is : List Nat} {b n : Nat} (h : is.map (fun i => X[i]?) = cx.map some) (hb : X.length = b) (hn : Z.length = n) : (isZ is b n).map (fun i => (X ++ Z)[i]?) = (cx ++ Z).map some := by
  have h2 := zc0 (Zc := Z) (Zb := []) h hb hn
  rw [List.append_nil] at h2
  exact h2
theorem zwT {X Z Z1 cx cx1 X' : va_W} {is : List Nat} {b n : Nat} (h : is.map (fun i => X[i]?) = cx.map some) (he : cx1.map Prod.fst = cx.map Prod.fst) (hz : Z1.length = Z.length) (hx : pall X is cx1 = X') (hb : X.length = b) (hn : Z.length = n) : pall (X ++ Z) (isZ is b n) (cx1 ++ Z1) = X' ++ Z1 := by
  have h2 := zw0 (Zc := Z) (Zb := []) (Zc1 := Z1) h he hz hx hb hn
  simp only [List.append_nil] at h2
  exact h2
theorem zeT {Z Z1 cx cx1 : va_W} (he : cx1.map Prod.fst = cx.map Prod.fst) (hz : Z1.map Prod.fst = Z.map Prod.fst) : (cx1 ++ Z1).map Prod.fst = (cx ++ Z).map Prod.fst := by
  simp only [List.map_append, he, hz]
theorem nd2 {a b : Nat} (h : ¬ a = b) : va_nd [a, b] = true := va_nd_of _ (by simp [h])
theorem nd3 {a b c : Nat} (h : ¬ a = b) (h2 : ¬ a = c) (h3 : ¬ b = c) : va_nd [a, b, c] = true := va_nd_of _ (by simp [h, h2, h3])
theorem P_eq {D : va_G} {ws ws' : va_W} {H : Heap} (e : ws = ws') (h : va_P D classes ws H) : va_P D classes ws' H := e ▸ h
theorem D_eq {A : Nat → Prop} {ws ws' : va_W} (e : ws = ws') (h : va_D A ws) : va_D A ws' := e ▸ h
