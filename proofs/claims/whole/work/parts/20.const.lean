/-! rows for the constants; the statements in a row -/
def upN {α : Type} (f : Nat → α) (i : Nat) (v : α) : Nat → α := fun k => if k = i then v else f k
theorem upN_self {α : Type} (f : Nat → α) (i : Nat) : upN f i (f i) = f := by
  funext k
  simp only [upN]
  split
  · next h => rw [h]
  · rfl
def segN (n : Nat) (f : Nat → Nat × va_E) : va_W := (List.range n).map f
theorem segN_len {n : Nat} {f : Nat → Nat × va_E} : (segN n f).length = n := by simp [segN]
theorem segN_get {n i : Nat} {f : Nat → Nat × va_E} (h : i < n) : (segN n f)[i]? = some (f i) := by
  simp [segN, h]
theorem segN_set {n i : Nat} {f : Nat → Nat × va_E} {x : Nat × va_E} (_h : i < n) : (segN n f).set i x = segN n (upN f i x) := by
  apply List.ext_getElem?
  intro j
  by_cases hj : j = i
  · subst hj
    rw [List.getElem?_set_self (by rw [segN_len]; exact _h), segN_get _h]
    simp [upN]
  · rw [List.getElem?_set_ne (Ne.symm hj)]
    by_cases hn : j < n
    · rw [segN_get hn, segN_get hn]
      simp [upN, hj]
    · rw [List.getElem?_eq_none (by rw [segN_len]; omega), List.getElem?_eq_none (by rw [segN_len]; omega)]
theorem seg_get {X Za Zb : va_W} {n i b : Nat} {f : Nat → Nat × va_E} (hb : X.length + Za.length = b) (h : i < n) : (X ++ (Za ++ (segN n f ++ Zb)))[b + i]? = some (f i) := by
  subst hb
  rw [List.getElem?_append_right (by omega), List.getElem?_append_right (by omega), List.getElem?_append_left (by rw [segN_len]; omega), show X.length + Za.length + i - X.length - Za.length = i by omega]
  exact segN_get h
theorem seg_set {X Za Zb : va_W} {n i b : Nat} {f : Nat → Nat × va_E} {x : Nat × va_E} (hb : X.length + Za.length = b) (h : i < n) : (X ++ (Za ++ (segN n f ++ Zb))).set (b + i) x = X ++ (Za ++ (segN n (upN f i x) ++ Zb)) := by
  subst hb
  rw [List.set_append_right _ _ (by omega), List.set_append_right _ _ (by omega), List.set_append_left _ _ (by rw [segN_len]; omega), show X.length + Za.length + i - X.length - Za.length = i by omega, segN_set h]
def stW (g : Nat → Nat) (sa aa vb : Nat → Nat) (pl pf pt nx : Nat → Int32) : va_W := segN 60 (fun k => (sa k, .inr (4, [.ref (aa k), .ref (g (200 + vb k)), .int (pl k), .int (pf k), .int (pt k), .int (nx k)])))
def argW (c : ClassId) (aa : Nat → Nat) (ar : Nat → Nat → Int64) : va_W := segN 60 (fun k => (aa k, .inl (c, 3, .inr (.inl (ar k)))))
theorem stW_len {g sa aa vb : Nat → Nat} {pl pf pt nx : Nat → Int32} : (stW g sa aa vb pl pf pt nx).length = 60 := segN_len
theorem argW_len {c : ClassId} {aa : Nat → Nat} {ar : Nat → Nat → Int64} : (argW c aa ar).length = 60 := segN_len
theorem stm_get1 {X Za Zb : va_W} {b i : Nat} {g sa aa vb : Nat → Nat} {pl pf pt nx : Nat → Int32} (hb : X.length + Za.length = b) (h : i < 60) : (X ++ (Za ++ (stW g sa aa vb pl pf pt nx ++ Zb)))[b + i]? = some (sa i, .inr (4, [.ref (aa i), .ref (g (200 + vb i)), .int (pl i), .int (pf i), .int (pt i), .int (nx i)])) := seg_get hb h
theorem stm_get0 {X Zb : va_W} {b i : Nat} {g sa aa vb : Nat → Nat} {pl pf pt nx : Nat → Int32} (hb : X.length = b) (h : i < 60) : (X ++ (stW g sa aa vb pl pf pt nx ++ Zb))[b + i]? = some (sa i, .inr (4, [.ref (aa i), .ref (g (200 + vb i)), .int (pl i), .int (pf i), .int (pt i), .int (nx i)])) := stm_get1 (X := X) (Za := []) hb h
theorem arg_get1 {X Za Zb : va_W} {b i : Nat} {c : ClassId} {aa : Nat → Nat} {ar : Nat → Nat → Int64} (hb : X.length + Za.length = b) (h : i < 60) : (X ++ (Za ++ (argW c aa ar ++ Zb)))[b + i]? = some (aa i, .inl (c, 3, .inr (.inl (ar i)))) := seg_get hb h
theorem arg_get0 {X Zb : va_W} {b i : Nat} {c : ClassId} {aa : Nat → Nat} {ar : Nat → Nat → Int64} (hb : X.length = b) (h : i < 60) : (X ++ (argW c aa ar ++ Zb))[b + i]? = some (aa i, .inl (c, 3, .inr (.inl (ar i)))) := arg_get1 (X := X) (Za := []) hb h
theorem stW_up {g sa aa vb vb' : Nat → Nat} {pl pf pt nx pl' pf' pt' nx' : Nat → Int32} {i v : Nat} {a b c d : Int32} (e1 : upN vb i v = vb') (e2 : upN pl i a = pl') (e3 : upN pf i b = pf') (e4 : upN pt i c = pt') (e5 : upN nx i d = nx') : segN 60 (upN (fun k => (sa k, (.inr (4, [.ref (aa k), .ref (g (200 + vb k)), .int (pl k), .int (pf k), .int (pt k), .int (nx k)]) : va_E))) i (sa i, .inr (4, [.ref (aa i), .ref (g (200 + v)), .int a, .int b, .int c, .int d]))) = stW g sa aa vb' pl' pf' pt' nx' := by
  subst e1; subst e2; subst e3; subst e4; subst e5
  unfold stW
  congr 1
  funext k
  by_cases h : k = i
  · subst h
    simp [upN]
  · simp [upN, h]
theorem stm_set1 {X Za Zb : va_W} {bb i : Nat} {g sa aa vb vb' : Nat → Nat} {pl pf pt nx pl' pf' pt' nx' : Nat → Int32} {v : Nat} {a b c d : Int32} (hb : X.length + Za.length = bb) (h : i < 60) (e1 : upN vb i v = vb') (e2 : upN pl i a = pl') (e3 : upN pf i b = pf') (e4 : upN pt i c = pt') (e5 : upN nx i d = nx') : (X ++ (Za ++ (stW g sa aa vb pl pf pt nx ++ Zb))).set (bb + i) (sa i, .inr (4, [.ref (aa i), .ref (g (200 + v)), .int a, .int b, .int c, .int d])) = X ++ (Za ++ (stW g sa aa vb' pl' pf' pt' nx' ++ Zb)) := by
  rw [← stW_up e1 e2 e3 e4 e5]
  exact seg_set hb h
theorem stm_set0 {X Zb : va_W} {bb i : Nat} {g sa aa vb vb' : Nat → Nat} {pl pf pt nx pl' pf' pt' nx' : Nat → Int32} {v : Nat} {a b c d : Int32} (hb : X.length = bb) (h : i < 60) (e1 : upN vb i v = vb') (e2 : upN pl i a = pl') (e3 : upN pf i b = pf') (e4 : upN pt i c = pt') (e5 : upN nx i d = nx') : (X ++ (stW g sa aa vb pl pf pt nx ++ Zb)).set (bb + i) (sa i, .inr (4, [.ref (aa i), .ref (g (200 + v)), .int a, .int b, .int c, .int d])) = X ++ (stW g sa aa vb' pl' pf' pt' nx' ++ Zb) := stm_set1 (X := X) (Za := []) hb h e1 e2 e3 e4 e5
theorem argW_up {c : ClassId} {aa : Nat → Nat} {ar : Nat → Nat → Int64} {i : Nat} {f : Nat → Int64} : segN 60 (upN (fun k => (aa k, (.inl (c, 3, .inr (.inl (ar k))) : va_E))) i (aa i, .inl (c, 3, .inr (.inl f)))) = argW c aa (upN ar i f) := by
  unfold argW
  congr 1
  funext k
  by_cases h : k = i
  · subst h
    simp [upN]
  · simp [upN, h]
theorem arg_set1 {X Za Zb : va_W} {bb i : Nat} {c : ClassId} {aa : Nat → Nat} {ar : Nat → Nat → Int64} {f : Nat → Int64} (hb : X.length + Za.length = bb) (h : i < 60) : (X ++ (Za ++ (argW c aa ar ++ Zb))).set (bb + i) (aa i, .inl (c, 3, .inr (.inl f))) = X ++ (Za ++ (argW c aa (upN ar i f) ++ Zb)) := by
  rw [← argW_up]
  exact seg_set hb h
theorem arg_set0 {X Zb : va_W} {bb i : Nat} {c : ClassId} {aa : Nat → Nat} {ar : Nat → Nat → Int64} {f : Nat → Int64} (hb : X.length = bb) (h : i < 60) : (X ++ (argW c aa ar ++ Zb)).set (bb + i) (aa i, .inl (c, 3, .inr (.inl f))) = X ++ (argW c aa (upN ar i f) ++ Zb) := arg_set1 (X := X) (Za := []) hb h
theorem vArg_lt {v : Nat} (h : v < 31) : vArg v < 44 := by
  have h2 : (List.range 31).all (fun v => decide (vArg v < 44)) = true := by decide +kernel
  exact of_decide_eq_true (List.all_eq_true.mp h2 v (List.mem_range.mpr h))
theorem vg_inj {g : Nat → Nat} {A : Nat → Prop} {U : State} {H : Heap} (hC : CX g A U H) {v w : Nat} (hv : v < 31) (hw : w < 31) (e : g (200 + v) = g (200 + w)) : v = w := by
  obtain ⟨cf, k, i, f, cell, h1, h2, h3, h4, h5, h6⟩ := (hC.2.1 v hv).2.1
  obtain ⟨cf', k', i', f', cell', g1, g2, g3, g4, g5, g6⟩ := (hC.2.1 w hw).2.1
  rw [h1] at g1
  cases g1
  rw [e, g3] at h3
  cases h3
  rw [h5] at g5
  have h9 : nI v = nI w := Value.int.inj (Option.some.inj g5)
  exact (nI_eq (by omega) (by omega)).mp h9
section KZ
variable {p : Program} {l : Launch} {e : Env} {R : Room} {s : State} {m : MethodId} {ar : Array Value} {below : List Frame} {meth : Method} {c : Code} {H : Heap} {locs : List Loc} {cells slots : Nat} {Q : State → Prop}
variable {cc : ByteArray} {pc nL : Nat} {ls : Array Slot} {rest st0 : List Value} {D : va_G} {cl : List vw_C} {A : Nat → Prop} {a : Nat} {tys : List (ClassId × FieldType)} {ws : va_W} {g : Nat → Nat}
theorem k_aldO (hexec : p.tables.exec = Jvm.exec) (hb : c.code = cc) (hK : va_K D cl tys s) (hP : va_P D cl ws H) (q0 t0 : Nat) {cA : ClassId} {C : String} {n : Nat} {rw : Nat → Nat} (ha : ws[q0]? = some (a, .inl (cA, n, .inr (.inr (.inr (.inr (fun j => some (rw j)))))))) (ht : tys[t0]? = some (cA, .object C)) {i : Int32} (hin : vp_in i n) (hdg : decode cc pc = .ok (.aaload, 1))
    (kk : W p l e R s m ar below meth c H locs cells slots Q (F0 m (pc + 1) ls (.ref (rw i.toNatClampNeg) :: rest))) : W p l e R s m ar below meth c H locs cells slots Q (F0 m pc ls (.int i :: .ref a :: rest)) := va_aldq hexec hb hK hP q0 t0 ha ht hin hdg kk
theorem k_tq (hexec : p.tables.exec = Jvm.exec) (hb : c.code = cc) {C : String} {t N : Nat} {f : Nat → Value} (hT : va_T (.object C) t N f A s s.heap) (hS : va_S A s.heap H locs) {i : Int32} (hin : vp_in i N) {v : Value} (hv : f i.toNatClampNeg = v) (hdg : decode cc pc = .ok (.aaload, 1))
    (kk : W p l e R s m ar below meth c H locs cells slots Q (F0 m (pc + 1) ls (v :: rest))) : W p l e R s m ar below meth c H locs cells slots Q (F0 m pc ls (.int i :: .ref t :: rest)) := by
  obtain ⟨cell, h1, h2, h3, h4, h5, h6, h7⟩ := hT
  have hlt : i.toNatClampNeg < N := Nat.not_le.mp fun q => hin (Or.inr q)
  have hin' : ¬ (i < 0 ∨ cell.slots.size ≤ i.toNatClampNeg) := by
    intro q
    rcases q with q | q
    · exact hin (Or.inl q)
    · omega
  exact W.aald (v := v) (ty := .object C) hexec hb (by rw [hS.2.1 t (Array.getElem?_eq_some_iff.mp h1).1 h7]; exact h1) h2 rfl h3 hin' (by rw [h6 _ hlt, hv]) rfl rfl hdg kk
theorem k_getfN (hexec : p.tables.exec = Jvm.exec) (hb : c.code = cc) {o n d own ref host : String} {index q : Nat} {v : Value} (hE : va_OF o n d v q A s s.heap) (hS : va_S A s.heap H locs) (hown : s.vm.findClass own = some m.cls) (hlink : (Cond.fieldLinkNest own index ref n d host).before ar s = true) (hsame : ∀ x, s.fieldFound? o n d = some x → s.fieldFound? ref n d = some x) (hdg : decode cc pc = .ok (.getfield index, 3))
    (kk : W p l e R s m ar below meth c H locs cells slots Q (F0 m (pc + 3) ls (v :: rest))) : W p l e R s m ar below meth c H locs cells slots Q (F0 m pc ls (.ref q :: rest)) := by
  obtain ⟨cf, k, fi, f, cell, h1, h2, h3, h4, h5, h6⟩ := hE.kept hS.2.1
  exact va_Wgetf hexec hb hown hlink (hsame _ h1) h2 h3 h4 (v := v) h5 rfl rfl hdg kk
theorem k_acmp_ne (hexec : p.tables.exec = Jvm.exec) (hb : c.code = cc) {v w : Nat} {off : Int} {tgt : Nat} (hC : CX g A s s.heap) (hv : v < 31) (hw : w < 31) (hdg : decode cc pc = .ok (.if_acmp .ne off, 3)) (ht : (pc : Int) + off = (tgt : Int)) (kt : ¬ v = w → W p l e R s m ar below meth c H locs cells slots Q (F0 m tgt ls rest)) (kf : v = w → W p l e R s m ar below meth c H locs cells slots Q (F0 m (pc + 3) ls rest)) : W p l e R s m ar below meth c H locs cells slots Q (F0 m pc ls (.ref (g (200 + w)) :: .ref (g (200 + v)) :: rest)) :=
  lv_acmp_ne (rx := some (g (200 + v))) (ry := some (g (200 + w))) hexec hb hdg ht (fun h => kt (fun e => h (by rw [e]))) (fun h => kf (vg_inj hC hv hw (Option.some.inj h)))
theorem k_aret {D : va_G} {w1 : va_W} {rv : Option Value} {Qc : Array Value → State → Outcome → State → Prop} {v : Value} {rt : FieldType} (hx : p.tables.exec = Jvm.exec) (hb : c.code = cc) (hr : meth.sig.returnType = some rt) (hrt : (∃ n, rt = .object n) ∨ ∃ t, rt = .array t) (hv : v = .null ∨ ∃ a, v = .ref a) (hlocks : meth.locks = false) (hQc : Qc = QW D w1 rv A) (hP : va_P D classes ws H) (hS : va_S A s.heap H locs) (hrv : rv = some v) (hw : ws = w1) (hdg : decode cc pc = .ok (.areturn, 1)) : W p l e R s m ar below meth c H locs cells slots (MQ below Qc ar s cells slots A) (F0 m pc ls [v]) := by
  subst hQc; subst hrv; subst hw
  exact W.aret hx hb hr hrt hv (fun t ht hW => ⟨rfl, by rw [ht]; exact hP, hS.F ht⟩) hS.2.2 hdg hlocks
theorem k_cret {D : va_G} {w1 : va_W} {rv : Option Value} {Qc : Array Value → State → Outcome → State → Prop} {v : Int32} {rt : FieldType} (hx : p.tables.exec = Jvm.exec) (hb : c.code = cc) (hr : meth.sig.returnType = some rt) (hn : narrow rt (.int v) = .int v) (hlocks : meth.locks = false) (hQc : Qc = QW D w1 rv A) (hP : va_P D classes ws H) (hS : va_S A s.heap H locs) (hrv : rv = some (.int v)) (hw : ws = w1) (hdg : decode cc pc = .ok (.ireturn, 1)) : W p l e R s m ar below meth c H locs cells slots (MQ below Qc ar s cells slots A) (F0 m pc ls [.int v]) := by
  subst hQc; subst hrv; subst hw
  exact W.zret hx hb hr hn (fun t ht hW => ⟨rfl, by rw [ht]; exact hP, hS.F ht⟩) hS.2.2 hdg hlocks
theorem k_astore_n {r : Option Nat} (hexec : p.tables.exec = Jvm.exec) (hb : c.code = cc) {k : Fin 4} {i : Nat} {lv lv' : List (Nat × Value)} (hdg : decode cc pc = .ok (.astore_n k, 1)) (hi : (k : Nat) = i) (h : lv_has ls nL lv) (hn : i < nL) (hl : (i, va_rf r) :: lv.filter (fun q => !(q.1 == i) && !(q.1 + 1 == i && q.2.category == 2)) = lv') (kk : ∀ ls' : Array Slot, lv_has ls' nL lv' → W p l e R s m ar below meth c H locs cells slots Q (F0 m (pc + 1) ls' rest)) : W p l e R s m ar below meth c H locs cells slots Q (F0 m pc ls (va_rf r :: rest)) := by
  cases r with
  | none => exact lv_astore_nN hexec hb hdg hi h hn hl kk
  | some a => exact lv_astore_n hexec hb hdg hi h hn hl kk
variable {cy : Nat → ClassId} {y : MethodName} {bb : ByteArray} {n index : Nat} {ret : Option FieldType} {fr lo mc ms fr0 lo0 mc0 ms0 : Nat} {as : List Value} {wc w1 ws' : va_W} {rv : Option Value} {own : String} {st2 : List Value} {lvs : List (Nat × Value)} {host : String}
theorem k_VC (hx : p.tables.exec = Jvm.exec) (hb : c.code = cc) (hml : c.maxLocals = nL) (hown : s.vm.findClass own = some m.cls) (ht : ∀ w ∈ LW, w.before ar s = true) (hK : KX D cy s) (hP : va_P D classes ws H) (hD : va_D A ws) (hS : va_S A s.heap H locs) (hA : ∀ q : Nat, s.heap.size ≤ q → A q) (hC : CX g A s s.heap) (hR : R = { frames := fr0, cells := mc0, slots := ms0, locals := lo0 }) (hl : lv_has ls nL lvs)
    {h0 : Nat} {E : String} (hM : Con l D cy g y bb n ret fr lo mc ms (.ref h0 :: as) wc w1 rv) (is : List Nat) (hwl : Cond.methodLink own index y ∈ LW) (hwi : Cond.instanceMethod y ∈ LW) (hws9 : Cond.selects y.cls y y ∈ LW) (hwn : Cond.initialized y.cls ∈ LW) (hwc : Cond.code y bb n ret ∈ LW) (hy : y.cls ≠ "java/lang/invoke/MethodHandle" ∧ y.cls ≠ "java/lang/invoke/VarHandle" ∧ (parseMethodDescriptor y.desc).map (fun d => d.parameters.length) = some as.length)
    (hrc : va_O E h0 A s s.heap) (hrE : E = y.cls)
    (hfr : fr + 1 ≤ fr0 ∧ 8 + (n + 11) + lo ≤ lo0 ∧ cells + mc ≤ mc0 ∧ slots + ms ≤ ms0) (hn : va_nd is = true) (hcs : is.map (fun i => ws[i]?) = wc.map some) (he : w1.map Prod.fst = wc.map Prod.fst) (hst0 : st0 = as.reverse ++ .ref h0 :: rest) (hroom : (rest.map fun v => v.category).sum ≤ 8) (hdg : decode cc pc = .ok (.invokevirtual index, 3)) (hws : pall ws is w1 = ws') (hst : rv.toList ++ rest = st2)
    (kk : ∀ (H1 : Heap) (locs1 : List Loc), va_P D classes ws' H1 → va_D A ws' → va_S A s.heap H1 locs1 → W p l e R s m ar below meth c H1 locs1 (cells + mc) (slots + ms) Q (F0 m (pc + 3) ls st2)) : W p l e R s m ar below meth c H locs cells slots Q (F0 m pc ls st0) := by
  subst hR
  subst hrE
  have hpre := k_pre (as := .ref h0 :: as) hK hP hD hS hA hC is hn hcs
  have hrec : ∃ cell : Cell, H[h0]? = some cell ∧ cell.vm.isStatics = false ∧ s.vm.findClass y.cls = some cell.cls := by
    obtain ⟨cell, h1, h2, h3, -⟩ := hrc.kept hS.2.1
    exact ⟨cell, h1, h2, h3⟩
  refine k_call (as := .ref h0 :: as) (va_runV (As := as) (rest := rest) ⟨hx, hb, hml, hown, ht⟩ (hM H.size) (cwV as.length ht (fun w h => ?_) rfl rfl rfl ⟨rfl, hy⟩ ⟨hfr.1, hfr.2.1⟩) ⟨hpre.1, hrec, hpre.2⟩ rfl rfl hl.1 hst0 (lv_room hroom) hdg ⟨hfr.2.2.1, hfr.2.2.2⟩) hP hD hS hA is hn hcs he hws hst kk
  simp only [wsV, List.mem_append, List.mem_cons, List.not_mem_nil, or_false] at h
  rcases h with (rfl | rfl | rfl | rfl) | rfl | h
  · exact ⟨hwl, Or.inl rfl⟩
  · exact ⟨hwi, Or.inl rfl⟩
  · exact ⟨hws9, Or.inl rfl⟩
  · exact ⟨hwn, Or.inl rfl⟩
  · exact ⟨hwc, Or.inl rfl⟩
  · exact ⟨h, good_of_word (LW_good w h)⟩
theorem k_UO (hx : p.tables.exec = Jvm.exec) (hb : c.code = cc) (hml : c.maxLocals = nL) (hown : s.vm.findClass own = some m.cls) (ht : ∀ w ∈ LW, w.before ar s = true) (hK : KX D cy s) (hP : va_P D classes ws H) (hD : va_D A ws) (hS : va_S A s.heap H locs) (hA : ∀ q : Nat, s.heap.size ≤ q → A q) (hC : CX g A s s.heap) (hR : R = { frames := fr0, cells := mc0, slots := ms0, locals := lo0 }) (hl : lv_has ls nL lvs)
    {h0 : Nat} {E owner : String} {x : MethodName} (hM : Con l D cy g y bb n ret fr lo mc ms (.ref h0 :: as) wc w1 rv) (is : List Nat) (hwl : Cond.methodLink own index x ∈ LW) (hwm : Cond.sameMethod x.cls owner x.name x.desc ∈ LW) (hws9 : Cond.selects E x y ∈ LW) (hwi : Cond.instanceMethod y ∈ LW) (hwn : Cond.initialized y.cls ∈ LW) (hwc : Cond.code y bb n ret ∈ LW) (hyx : y = ⟨owner, x.name, x.desc⟩) (hy : owner ≠ "java/lang/invoke/MethodHandle" ∧ owner ≠ "java/lang/invoke/VarHandle" ∧ (parseMethodDescriptor x.desc).map (fun d => d.parameters.length) = some as.length)
    (hrc : va_O E h0 A s s.heap)
    (hfr : fr + 1 ≤ fr0 ∧ 8 + (n + 11) + lo ≤ lo0 ∧ cells + mc ≤ mc0 ∧ slots + ms ≤ ms0) (hn : va_nd is = true) (hcs : is.map (fun i => ws[i]?) = wc.map some) (he : w1.map Prod.fst = wc.map Prod.fst) (hst0 : st0 = as.reverse ++ .ref h0 :: rest) (hroom : (rest.map fun v => v.category).sum ≤ 8) (hdg : decode cc pc = .ok (.invokevirtual index, 3)) (hws : pall ws is w1 = ws') (hst : rv.toList ++ rest = st2)
    (kk : ∀ (H1 : Heap) (locs1 : List Loc), va_P D classes ws' H1 → va_D A ws' → va_S A s.heap H1 locs1 → W p l e R s m ar below meth c H1 locs1 (cells + mc) (slots + ms) Q (F0 m (pc + 3) ls st2)) : W p l e R s m ar below meth c H locs cells slots Q (F0 m pc ls st0) := by
  subst hR
  have hpre := k_pre (as := .ref h0 :: as) hK hP hD hS hA hC is hn hcs
  have hrec : ∃ cell : Cell, H[h0]? = some cell ∧ cell.vm.isStatics = false ∧ s.vm.findClass E = some cell.cls := by
    obtain ⟨cell, h1, h2, h3, -⟩ := hrc.kept hS.2.1
    exact ⟨cell, h1, h2, h3⟩
  refine k_call (as := .ref h0 :: as) (va_runU (As := as) (rest := rest) ⟨hx, hb, hml, hown, ht⟩ (hM H.size) (va_cwU as.length ht (fun w h => ?_) rfl rfl rfl hyx hy ⟨hfr.1, hfr.2.1⟩) ⟨hpre.1, hrec, hpre.2⟩ rfl rfl hl.1 hst0 (lv_room hroom) hdg ⟨hfr.2.2.1, hfr.2.2.2⟩) hP hD hS hA is hn hcs he hws hst kk
  simp only [va_wsU, List.mem_append, List.mem_cons, List.not_mem_nil, or_false] at h
  rcases h with (rfl | rfl | rfl | rfl | rfl) | rfl | h
  · exact ⟨hwl, Or.inl rfl⟩
  · exact ⟨hwm, Or.inl rfl⟩
  · exact ⟨hws9, Or.inl rfl⟩
  · exact ⟨hwi, Or.inl rfl⟩
  · exact ⟨hwn, Or.inl rfl⟩
  · exact ⟨hwc, Or.inl rfl⟩
  · exact ⟨h, good_of_word (LW_good w h)⟩
end KZ
theorem k_lk1 {x : Int32} {a : Int} (h : ¬ x = Int32.ofInt a) : ¬ a = x.toInt := fun e => h (by rw [e, Int32.ofInt_toInt])
theorem k_lkout2 {x : Int32} {a b o1 o2 d : Int} (h1 : ¬ x = Int32.ofInt a) (h2 : ¬ x = Int32.ofInt b) : Op.lookupswitch.offset [(a, o1), (b, o2)] d x.toInt = d := by
  simp only [Op.lookupswitch.offset, if_neg (k_lk1 h1), if_neg (k_lk1 h2)]
theorem k_lkout3 {x : Int32} {a b c o1 o2 o3 d : Int} (h1 : ¬ x = Int32.ofInt a) (h2 : ¬ x = Int32.ofInt b) (h3 : ¬ x = Int32.ofInt c) : Op.lookupswitch.offset [(a, o1), (b, o2), (c, o3)] d x.toInt = d := by
  simp only [Op.lookupswitch.offset, if_neg (k_lk1 h1), if_neg (k_lk1 h2), if_neg (k_lk1 h3)]
