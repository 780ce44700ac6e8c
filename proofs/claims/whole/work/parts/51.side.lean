/-! the law's calls: the worlds of the desk and of the reference side by side -/
theorem k_ndof : ∀ {l : List Nat}, l.Nodup → va_nd l = true
  | [], _ => rfl
  | i :: is, h => by
    rw [List.nodup_cons] at h
    simp only [va_nd, Bool.and_eq_true, decide_eq_true_eq]
    exact ⟨h.1, k_ndof h.2⟩
theorem pall_range : ∀ (w0 w1 pre wb : va_W), w1.length = w0.length → pall (pre ++ (w0 ++ wb)) (List.range' pre.length w0.length) w1 = pre ++ (w1 ++ wb)
  | [], w1, pre, wb, h => by
    cases w1 with
    | nil => simp [pall]
    | cons _ _ => simp at h
  | c :: w0, w1, pre, wb, h => by
    cases w1 with
    | nil => simp at h
    | cons d w1 =>
      have h1 : w1.length = w0.length := by simpa using h
      have e1 : List.range' pre.length (c :: w0).length = pre.length :: List.range' (pre.length + 1) w0.length := by simp [List.range'_succ]
      rw [e1]
      show pall ((pre ++ (c :: w0 ++ wb)).set pre.length d) (List.range' (pre.length + 1) w0.length) w1 = _
      have e2 : (pre ++ (c :: w0 ++ wb)).set pre.length d = (pre ++ [d]) ++ (w0 ++ wb) := by
        rw [List.set_append_right _ _ (Nat.le_refl _)]
        simp
      rw [e2]
      have e3 := pall_range w0 w1 (pre ++ [d]) wb h1
      rw [show (pre ++ [d]).length = pre.length + 1 by simp] at e3
      rw [e3]
      simp
theorem pall_pre {w0 w1 wb : va_W} (h : w1.length = w0.length) : pall (w0 ++ wb) (List.range' 0 w0.length) w1 = w1 ++ wb := by
  simpa using pall_range w0 w1 [] wb h
theorem pre_cs {w0 wb : va_W} : (List.range' 0 w0.length).map (fun i => (w0 ++ wb)[i]?) = w0.map some := by
  apply List.ext_getElem?
  intro j
  rw [List.getElem?_map, List.getElem?_map]
  by_cases hj : j < w0.length
  · rw [List.getElem?_range' (by simpa using hj)]
    simp [List.getElem?_append_left hj, List.getElem?_eq_getElem hj]
  · rw [List.getElem?_eq_none (by simpa using hj), List.getElem?_eq_none (by simpa using hj)]
    rfl
theorem pre_nd {n : Nat} : va_nd (List.range' 0 n) = true := k_ndof (List.nodup_range' 1 (by decide))
theorem len_fst {a b : va_W} (h : a.map Prod.fst = b.map Prod.fst) : a.length = b.length := by simpa using congrArg List.length h
theorem va_A_perm {w0 w1 : va_W} (hp : w0.Perm w1) (sz : Nat) : va_A w0 sz = va_A w1 sz := by
  funext q
  apply propext
  have key : ∀ {a b : va_W}, a.Perm b → va_A a sz q → va_A b sz q := by
    intro a b hp h
    rcases h with ⟨k, e, hk⟩ | h
    · obtain ⟨j, hj⟩ := List.getElem?_of_mem (hp.mem_iff.mp (List.mem_of_getElem? hk))
      exact Or.inl ⟨j, e, hj⟩
    · exact Or.inr h
  exact ⟨key hp, key hp.symm⟩
theorem Met.perm {l : Launch} {y : MethodName} {ws : List Cond} {rm : Room} {Pc Pc2 : Array Value → State → Prop} {Qc Qc2 : Array Value → State → Outcome → State → Prop} {mc ms : Nat} {free free2 : Addr → Prop} (h : Met l y ws rm Pc Qc mc ms free) (hP : ∀ a s, Pc2 a s → Pc a s) (hQ : ∀ a s o t, Qc a s o t → Qc2 a s o t) (hf : free = free2) : Met l y ws rm Pc2 Qc2 mc ms free2 := by
  subst hf
  intro p e ha hc hk s m args below hf hfit hP2 hT
  obtain ⟨k, o, h1, h2, h3, h4, h5⟩ := h p e ha hc hk s m args below hf hfit (hP _ _ hP2) hT
  exact ⟨k, o, h1, h2, h3, hQ _ _ _ _ h4, h5⟩
theorem PW.perm {D : va_G} {cy : Nat → ClassId} {g : Nat → Nat} {w0 w1 : va_W} {sz : Nat} {U : State} (hp : w0.Perm w1) (h : PW D cy g w1 sz U) : PW D cy g w0 sz U := by
  obtain ⟨h1, h2, h3, h4, h5⟩ := h
  exact ⟨h1, k_permP hp.symm h2, h3, k_permD hp.symm h4, by rw [va_A_perm hp]; exact h5⟩
theorem Con.perm {l : Launch} {D : va_G} {cy : Nat → ClassId} {g : Nat → Nat} {y : MethodName} {b : ByteArray} {n : Nat} {ret : Option FieldType} {fr lo mc ms : Nat} {as : List Value} {w0 w1 v0 v1 : va_W} {rv : Option Value} (h : Con l D cy g y b n ret fr lo mc ms as w0 w1 rv) (h0 : w0.Perm v0) (h1 : w1.Perm v1) : Con l D cy g y b n ret fr lo mc ms as v0 v1 rv := fun sz =>
  Met.perm (h sz) (fun _ _ ⟨a, b⟩ => ⟨a, PW.perm h0 b⟩) (fun _ _ _ _ ⟨a, b, c⟩ => ⟨a, k_permP h1 b, by rw [← va_A_perm h0]; exact c⟩) (va_A_perm h0 sz)
theorem ConE.perm {l : Launch} {D : va_G} {cy : Nat → ClassId} {g : Nat → Nat} {y : MethodName} {b : ByteArray} {n : Nat} {ret : Option FieldType} {fr lo mc ms : Nat} {as : List Value} {w0 w1 v0 v1 : va_W} {rv : Option Value} (h : ConE l D cy g y b n ret fr lo mc ms as w0 (fun _ => w1) (fun _ => []) (fun _ => rv)) (h0 : w0.Perm v0) (h1 : w1.Perm v1) : ConE l D cy g y b n ret fr lo mc ms as v0 (fun _ => v1) (fun _ => []) (fun _ => rv) := fun sz =>
  Met.perm (h sz) (fun _ _ ⟨a, b, c⟩ => ⟨a, PW.perm h0 b, c⟩) (fun _ _ _ _ ⟨⟨u, a, b, c⟩, d⟩ => ⟨⟨u, a, by rw [List.append_nil] at b ⊢; exact k_permP h1 b, c⟩, by rw [← va_A_perm h0]; exact d⟩) (va_A_perm h0 sz)
theorem ConH.perm {l : Launch} {D : va_G} {cy : Nat → ClassId} {g : Nat → Nat} {y : MethodName} {b : ByteArray} {n : Nat} {ret : Option FieldType} {hh : List (Nat × Nat × Nat × Nat)} {fr lo mc ms : Nat} {as : List Value} {w0 w1 v0 v1 : va_W} {rv : Option Value} (h : ConH l D cy g y b n ret hh fr lo mc ms as w0 w1 rv) (h0 : w0.Perm v0) (h1 : w1.Perm v1) : ConH l D cy g y b n ret hh fr lo mc ms as v0 v1 rv := fun sz =>
  Met.perm (h sz) (fun _ _ ⟨a, ⟨b, c⟩, d⟩ => ⟨a, ⟨PW.perm h0 b, c⟩, d⟩) (fun _ _ _ _ ⟨⟨u, a, b, c⟩, d⟩ => ⟨⟨u, a, by rw [List.append_nil] at b ⊢; exact k_permP h1 b, c⟩, by rw [← va_A_perm h0]; exact d⟩) (va_A_perm h0 sz)
theorem perm_o (l s : va_W) (o : Nat × va_E) : ((l ++ [o]) ++ s).Perm (o :: (l ++ s)) := by
  rw [List.append_assoc]
  exact List.perm_middle
theorem perm_x (o : Nat × va_E) (x m : va_W) : (o :: (x ++ m)).Perm (x ++ (m ++ [o])) := by
  rw [← List.append_assoc]
  exact (List.perm_append_comm (l₁ := x ++ m) (l₂ := [o])).symm
theorem perm_m (o : Nat × va_E) (x m : va_W) : (o :: (x ++ m)).Perm (m ++ (o :: x)) :=
  (List.perm_append_comm (l₁ := o :: x) (l₂ := m))
section K51
variable {p : Program} {l : Launch} {e : Env} {R : Room} {s : State} {m : MethodId} {ar : Array Value} {below : List Frame} {meth : Method} {c : Code} {H : Heap} {locs : List Loc} {cells slots : Nat} {Q : State → Prop}
variable {D : va_G} {A : Nat → Prop} {cc : ByteArray} {pc nL : Nat} {ls : Array Slot} {rest st0 : List Value} {cy : Nat → ClassId}
variable {y : MethodName} {bb : ByteArray} {n index : Nat} {ret : Option FieldType} {fr lo mc ms fr0 lo0 mc0 ms0 : Nat} {g : Nat → Nat} {as : List Value} {wx wx' wm wm' : va_W} {oc oc' : Nat × va_E} {rv : Option Value} {own : String} {st2 : List Value} {lvs : List (Nat × Value)} {hh : List (Nat × Nat × Nat × Nat)}
theorem k_preH {ws wc : va_W} (hK : KX D cy s) (hY : KY s) (hN : NX s) (hP : va_P D classes ws H) (hD : va_D A ws) (hS : va_S A s.heap H locs) (hA : ∀ q : Nat, s.heap.size ≤ q → A q) (hC : CX g A s s.heap) (is : List Nat) (hn : va_nd is = true) (hcs : is.map (fun i => ws[i]?) = wc.map some) : PreS s H (va_Pc as (PWH D cy g wc H.size)) as := by
  obtain ⟨h1, h2⟩ := k_preE (as := as) hK hY hP hD hS hA hC is hn hcs
  refine ⟨fun a U f mk q => ?_, fun U hU hW => ?_⟩
  · obtain ⟨q0, q1, q2⟩ := q
    have h3 := h1 a U f mk ⟨q0, q1⟩
    exact ⟨h3.1, h3.2, q2.calling⟩
  · have h3 := h2 U hU hW
    exact ⟨h3.1, h3.2, hN.warm hW⟩
/-- a call of one of the law's own methods: the desk's world and the answer's cell -/
theorem kl_H (hx : p.tables.exec = Jvm.exec) (hb : c.code = cc) (hml : c.maxLocals = nL) (hown : s.vm.findClass own = some m.cls) (ht : ∀ w ∈ LW, w.before ar s = true) (hK : KX D cy s) (hY : KY s) (hN : NX s) (hP : va_P D classes (oc :: (wx ++ wm)) H) (hD : va_D A (oc :: (wx ++ wm))) (hS : va_S A s.heap H locs) (hA : ∀ q : Nat, s.heap.size ≤ q → A q) (hC : CX g A s s.heap) (hR : R = { frames := fr0, cells := mc0, slots := ms0, locals := lo0 }) (hl : lv_has ls nL lvs)
    (hM : ConH l D cy g y bb n ret hh fr lo mc ms as (oc :: wx) (oc' :: wx') rv) (hwl : Cond.methodLink own index y ∈ LW) (hwi : Cond.static y ∈ LW) (hwn : Cond.initialized y.cls ∈ LW) (hwc : Cond.codeWith y bb n ret hh ∈ LW) (hy : y.cls ≠ "java/lang/invoke/MethodHandle" ∧ y.cls ≠ "java/lang/invoke/VarHandle" ∧ (parseMethodDescriptor y.desc).map (fun d => d.parameters.length) = some as.length)
    (hfr : fr + 1 ≤ fr0 ∧ 8 + (n + 11) + lo ≤ lo0 ∧ cells + mc ≤ mc0 ∧ slots + ms ≤ ms0) (he : (oc' :: wx').map Prod.fst = (oc :: wx).map Prod.fst) (hst0 : st0 = as.reverse ++ rest) (hroom : (rest.map fun v => v.category).sum ≤ 8) (hdg : decode cc pc = .ok (.invokestatic index, 3)) (hst : rv.toList ++ rest = st2)
    (kk : ∀ (H1 : Heap) (locs1 : List Loc), va_P D classes (oc' :: (wx' ++ wm)) H1 → va_D A (oc' :: (wx' ++ wm)) → va_S A s.heap H1 locs1 → W p l e R s m ar below meth c H1 locs1 (cells + mc) (slots + ms) Q (F0 m (pc + 3) ls st2)) : W p l e R s m ar below meth c H locs cells slots Q (F0 m pc ls st0) := by
  subst hR
  refine k_callE0 (as := as) (ws := (oc :: wx) ++ wm) (ws' := (oc' :: wx') ++ wm) (vx_runSW (As := as) (rest := rest) ⟨hx, hb, hml, hown, ht⟩ (hM H.size) (vx_cwSW as.length ht (fun w h => ?_) rfl rfl rfl hy ⟨hfr.1, hfr.2.1⟩) (k_preH (ws := (oc :: wx) ++ wm) (wc := oc :: wx) hK hY hN hP hD hS hA hC _ pre_nd pre_cs) rfl rfl hl.1 hst0 (lv_room hroom) hdg ⟨hfr.2.2.1, hfr.2.2.2⟩) hP hD hS hA _ pre_nd pre_cs he (pall_pre (len_fst he)) hst kk
  simp only [va_wsS, List.mem_append, List.mem_cons, List.not_mem_nil, or_false] at h
  rcases h with (rfl | rfl | rfl) | rfl | h
  · exact ⟨hwl, Or.inl rfl⟩
  · exact ⟨hwi, Or.inl rfl⟩
  · exact ⟨hwn, Or.inl rfl⟩
  · exact ⟨hwc, Or.inl rfl⟩
  · exact ⟨h, good_of_word (LW_good w h)⟩
theorem kl_V0 {h0 ci : Nat} {fs : List Value} {q0 : vw_C} {wc wc' wb : va_W} (hx : p.tables.exec = Jvm.exec) (hb : c.code = cc) (hml : c.maxLocals = nL) (hown : s.vm.findClass own = some m.cls) (ht : ∀ w ∈ LW, w.before ar s = true) (hK : KX D cy s) (hP : va_P D classes (wc ++ wb) H) (hD : va_D A (wc ++ wb)) (hS : va_S A s.heap H locs) (hA : ∀ q : Nat, s.heap.size ≤ q → A q) (hC : CX g A s s.heap) (hR : R = { frames := fr0, cells := mc0, slots := ms0, locals := lo0 }) (hl : lv_has ls nL lvs)
    (hM : Con l D cy g y bb n ret fr lo mc ms (.ref h0 :: as) wc wc' rv) (hwl : Cond.methodLink own index y ∈ LW) (hwi : Cond.instanceMethod y ∈ LW) (hws9 : Cond.selects y.cls y y ∈ LW) (hwn : Cond.initialized y.cls ∈ LW) (hwc : Cond.code y bb n ret ∈ LW) (hy : y.cls ≠ "java/lang/invoke/MethodHandle" ∧ y.cls ≠ "java/lang/invoke/VarHandle" ∧ (parseMethodDescriptor y.desc).map (fun d => d.parameters.length) = some as.length)
    (hrc : wc[0]? = some (h0, .inr (ci, fs)) ∧ classes[ci]? = some q0 ∧ q0.1 = y.cls)
    (hfr : fr + 1 ≤ fr0 ∧ 8 + (n + 11) + lo ≤ lo0 ∧ cells + mc ≤ mc0 ∧ slots + ms ≤ ms0) (he : wc'.map Prod.fst = wc.map Prod.fst) (hst0 : st0 = as.reverse ++ .ref h0 :: rest) (hroom : (rest.map fun v => v.category).sum ≤ 8) (hdg : decode cc pc = .ok (.invokevirtual index, 3)) (hst : rv.toList ++ rest = st2)
    (kk : ∀ (H1 : Heap) (locs1 : List Loc), va_P D classes (wc' ++ wb) H1 → va_D A (wc' ++ wb) → va_S A s.heap H1 locs1 → W p l e R s m ar below meth c H1 locs1 (cells + mc) (slots + ms) Q (F0 m (pc + 3) ls st2)) : W p l e R s m ar below meth c H locs cells slots Q (F0 m pc ls st0) := by
  subst hR
  have hpre := k_pre (as := .ref h0 :: as) hK hP hD hS hA hC _ pre_nd pre_cs
  have hrec := va_recv hK.1 hP hrc.2.1 (by rw [List.getElem?_append_left (List.getElem?_eq_some_iff.mp hrc.1).1]; exact hrc.1)
  rw [hrc.2.2] at hrec
  refine k_call (as := .ref h0 :: as) (va_runV (As := as) (rest := rest) ⟨hx, hb, hml, hown, ht⟩ (hM H.size) (cwV as.length ht (fun w h => ?_) rfl rfl rfl ⟨rfl, hy⟩ ⟨hfr.1, hfr.2.1⟩) ⟨hpre.1, hrec, hpre.2⟩ rfl rfl hl.1 hst0 (lv_room hroom) hdg ⟨hfr.2.2.1, hfr.2.2.2⟩) hP hD hS hA _ pre_nd pre_cs he (pall_pre (len_fst he)) hst kk
  simp only [wsV, List.mem_append, List.mem_cons, List.not_mem_nil, or_false] at h
  rcases h with (rfl | rfl | rfl | rfl) | rfl | h
  · exact ⟨hwl, Or.inl rfl⟩
  · exact ⟨hwi, Or.inl rfl⟩
  · exact ⟨hws9, Or.inl rfl⟩
  · exact ⟨hwn, Or.inl rfl⟩
  · exact ⟨hwc, Or.inl rfl⟩
  · exact ⟨h, good_of_word (LW_good w h)⟩
theorem kl_V0E {h0 ci : Nat} {fs : List Value} {q0 : vw_C} {wc wc' wb : va_W} (hx : p.tables.exec = Jvm.exec) (hb : c.code = cc) (hml : c.maxLocals = nL) (hown : s.vm.findClass own = some m.cls) (ht : ∀ w ∈ LW, w.before ar s = true) (hK : KX D cy s) (hY : KY s) (hP : va_P D classes (wc ++ wb) H) (hD : va_D A (wc ++ wb)) (hS : va_S A s.heap H locs) (hA : ∀ q : Nat, s.heap.size ≤ q → A q) (hC : CX g A s s.heap) (hR : R = { frames := fr0, cells := mc0, slots := ms0, locals := lo0 }) (hl : lv_has ls nL lvs)
    (hM : ConE l D cy g y bb n ret fr lo mc ms (.ref h0 :: as) wc (fun _ => wc') (fun _ => []) (fun _ => rv)) (hwl : Cond.methodLink own index y ∈ LW) (hwi : Cond.instanceMethod y ∈ LW) (hws9 : Cond.selects y.cls y y ∈ LW) (hwn : Cond.initialized y.cls ∈ LW) (hwc : Cond.code y bb n ret ∈ LW) (hy : y.cls ≠ "java/lang/invoke/MethodHandle" ∧ y.cls ≠ "java/lang/invoke/VarHandle" ∧ (parseMethodDescriptor y.desc).map (fun d => d.parameters.length) = some as.length)
    (hrc : wc[0]? = some (h0, .inr (ci, fs)) ∧ classes[ci]? = some q0 ∧ q0.1 = y.cls)
    (hfr : fr + 1 ≤ fr0 ∧ 8 + (n + 11) + lo ≤ lo0 ∧ cells + mc ≤ mc0 ∧ slots + ms ≤ ms0) (he : wc'.map Prod.fst = wc.map Prod.fst) (hst0 : st0 = as.reverse ++ .ref h0 :: rest) (hroom : (rest.map fun v => v.category).sum ≤ 8) (hdg : decode cc pc = .ok (.invokevirtual index, 3)) (hst : rv.toList ++ rest = st2)
    (kk : ∀ (H1 : Heap) (locs1 : List Loc), va_P D classes (wc' ++ wb) H1 → va_D A (wc' ++ wb) → va_S A s.heap H1 locs1 → W p l e R s m ar below meth c H1 locs1 (cells + mc) (slots + ms) Q (F0 m (pc + 3) ls st2)) : W p l e R s m ar below meth c H locs cells slots Q (F0 m pc ls st0) := by
  subst hR
  have hpre := k_preE (as := .ref h0 :: as) hK hY hP hD hS hA hC _ pre_nd pre_cs
  have hrec := va_recv hK.1 hP hrc.2.1 (by rw [List.getElem?_append_left (List.getElem?_eq_some_iff.mp hrc.1).1]; exact hrc.1)
  rw [hrc.2.2] at hrec
  refine k_callE0 (as := .ref h0 :: as) (va_runV (As := as) (rest := rest) ⟨hx, hb, hml, hown, ht⟩ (hM H.size) (cwV as.length ht (fun w h => ?_) rfl rfl rfl ⟨rfl, hy⟩ ⟨hfr.1, hfr.2.1⟩) ⟨hpre.1, hrec, hpre.2⟩ rfl rfl hl.1 hst0 (lv_room hroom) hdg ⟨hfr.2.2.1, hfr.2.2.2⟩) hP hD hS hA _ pre_nd pre_cs he (pall_pre (len_fst he)) hst kk
  simp only [wsV, List.mem_append, List.mem_cons, List.not_mem_nil, or_false] at h
  rcases h with (rfl | rfl | rfl | rfl) | rfl | h
  · exact ⟨hwl, Or.inl rfl⟩
  · exact ⟨hwi, Or.inl rfl⟩
  · exact ⟨hws9, Or.inl rfl⟩
  · exact ⟨hwn, Or.inl rfl⟩
  · exact ⟨hwc, Or.inl rfl⟩
  · exact ⟨h, good_of_word (LW_good w h)⟩
/-- a call of the desk's method -/
theorem kl_X {h0 ci : Nat} {fs : List Value} {q0 : vw_C} (hx : p.tables.exec = Jvm.exec) (hb : c.code = cc) (hml : c.maxLocals = nL) (hown : s.vm.findClass own = some m.cls) (ht : ∀ w ∈ LW, w.before ar s = true) (hK : KX D cy s) (hP : va_P D classes (oc :: (wx ++ wm)) H) (hD : va_D A (oc :: (wx ++ wm))) (hS : va_S A s.heap H locs) (hA : ∀ q : Nat, s.heap.size ≤ q → A q) (hC : CX g A s s.heap) (hR : R = { frames := fr0, cells := mc0, slots := ms0, locals := lo0 }) (hl : lv_has ls nL lvs)
    (hM : Con l D cy g y bb n ret fr lo mc ms (.ref h0 :: as) wx wx' rv) (hwl : Cond.methodLink own index y ∈ LW) (hwi : Cond.instanceMethod y ∈ LW) (hws9 : Cond.selects y.cls y y ∈ LW) (hwn : Cond.initialized y.cls ∈ LW) (hwc : Cond.code y bb n ret ∈ LW) (hy : y.cls ≠ "java/lang/invoke/MethodHandle" ∧ y.cls ≠ "java/lang/invoke/VarHandle" ∧ (parseMethodDescriptor y.desc).map (fun d => d.parameters.length) = some as.length)
    (hrc : wx[0]? = some (h0, .inr (ci, fs)) ∧ classes[ci]? = some q0 ∧ q0.1 = y.cls)
    (hfr : fr + 1 ≤ fr0 ∧ 8 + (n + 11) + lo ≤ lo0 ∧ cells + mc ≤ mc0 ∧ slots + ms ≤ ms0) (he : wx'.map Prod.fst = wx.map Prod.fst) (hst0 : st0 = as.reverse ++ .ref h0 :: rest) (hroom : (rest.map fun v => v.category).sum ≤ 8) (hdg : decode cc pc = .ok (.invokevirtual index, 3)) (hst : rv.toList ++ rest = st2)
    (kk : ∀ (H1 : Heap) (locs1 : List Loc), va_P D classes (oc :: (wx' ++ wm)) H1 → va_D A (oc :: (wx' ++ wm)) → va_S A s.heap H1 locs1 → W p l e R s m ar below meth c H1 locs1 (cells + mc) (slots + ms) Q (F0 m (pc + 3) ls st2)) : W p l e R s m ar below meth c H locs cells slots Q (F0 m pc ls st0) :=
  kl_V0 hx hb hml hown ht hK (k_permP (perm_x oc wx wm) hP) (k_permD (perm_x oc wx wm) hD) hS hA hC hR hl hM hwl hwi hws9 hwn hwc hy hrc hfr he hst0 hroom hdg hst (fun H1 locs1 h1 h2 h3 => kk H1 locs1 (k_permP (perm_x oc wx' wm).symm h1) (k_permD (perm_x oc wx' wm).symm h2) h3)
/-- a call of the reference's method -/
theorem kl_M {h0 ci : Nat} {fs : List Value} {q0 : vw_C} (hx : p.tables.exec = Jvm.exec) (hb : c.code = cc) (hml : c.maxLocals = nL) (hown : s.vm.findClass own = some m.cls) (ht : ∀ w ∈ LW, w.before ar s = true) (hK : KX D cy s) (hP : va_P D classes (oc :: (wx ++ wm)) H) (hD : va_D A (oc :: (wx ++ wm))) (hS : va_S A s.heap H locs) (hA : ∀ q : Nat, s.heap.size ≤ q → A q) (hC : CX g A s s.heap) (hR : R = { frames := fr0, cells := mc0, slots := ms0, locals := lo0 }) (hl : lv_has ls nL lvs)
    (hM : Con l D cy g y bb n ret fr lo mc ms (.ref h0 :: as) wm wm' rv) (hwl : Cond.methodLink own index y ∈ LW) (hwi : Cond.instanceMethod y ∈ LW) (hws9 : Cond.selects y.cls y y ∈ LW) (hwn : Cond.initialized y.cls ∈ LW) (hwc : Cond.code y bb n ret ∈ LW) (hy : y.cls ≠ "java/lang/invoke/MethodHandle" ∧ y.cls ≠ "java/lang/invoke/VarHandle" ∧ (parseMethodDescriptor y.desc).map (fun d => d.parameters.length) = some as.length)
    (hrc : wm[0]? = some (h0, .inr (ci, fs)) ∧ classes[ci]? = some q0 ∧ q0.1 = y.cls)
    (hfr : fr + 1 ≤ fr0 ∧ 8 + (n + 11) + lo ≤ lo0 ∧ cells + mc ≤ mc0 ∧ slots + ms ≤ ms0) (he : wm'.map Prod.fst = wm.map Prod.fst) (hst0 : st0 = as.reverse ++ .ref h0 :: rest) (hroom : (rest.map fun v => v.category).sum ≤ 8) (hdg : decode cc pc = .ok (.invokevirtual index, 3)) (hst : rv.toList ++ rest = st2)
    (kk : ∀ (H1 : Heap) (locs1 : List Loc), va_P D classes (oc :: (wx ++ wm')) H1 → va_D A (oc :: (wx ++ wm')) → va_S A s.heap H1 locs1 → W p l e R s m ar below meth c H1 locs1 (cells + mc) (slots + ms) Q (F0 m (pc + 3) ls st2)) : W p l e R s m ar below meth c H locs cells slots Q (F0 m pc ls st0) :=
  kl_V0 hx hb hml hown ht hK (k_permP (perm_m oc wx wm) hP) (k_permD (perm_m oc wx wm) hD) hS hA hC hR hl hM hwl hwi hws9 hwn hwc hy hrc hfr he hst0 hroom hdg hst (fun H1 locs1 h1 h2 h3 => kk H1 locs1 (k_permP (perm_m oc wx wm').symm h1) (k_permD (perm_m oc wx wm').symm h2) h3)
theorem kl_ME {h0 ci : Nat} {fs : List Value} {q0 : vw_C} (hx : p.tables.exec = Jvm.exec) (hb : c.code = cc) (hml : c.maxLocals = nL) (hown : s.vm.findClass own = some m.cls) (ht : ∀ w ∈ LW, w.before ar s = true) (hK : KX D cy s) (hY : KY s) (hP : va_P D classes (oc :: (wx ++ wm)) H) (hD : va_D A (oc :: (wx ++ wm))) (hS : va_S A s.heap H locs) (hA : ∀ q : Nat, s.heap.size ≤ q → A q) (hC : CX g A s s.heap) (hR : R = { frames := fr0, cells := mc0, slots := ms0, locals := lo0 }) (hl : lv_has ls nL lvs)
    (hM : ConE l D cy g y bb n ret fr lo mc ms (.ref h0 :: as) wm (fun _ => wm') (fun _ => []) (fun _ => rv)) (hwl : Cond.methodLink own index y ∈ LW) (hwi : Cond.instanceMethod y ∈ LW) (hws9 : Cond.selects y.cls y y ∈ LW) (hwn : Cond.initialized y.cls ∈ LW) (hwc : Cond.code y bb n ret ∈ LW) (hy : y.cls ≠ "java/lang/invoke/MethodHandle" ∧ y.cls ≠ "java/lang/invoke/VarHandle" ∧ (parseMethodDescriptor y.desc).map (fun d => d.parameters.length) = some as.length)
    (hrc : wm[0]? = some (h0, .inr (ci, fs)) ∧ classes[ci]? = some q0 ∧ q0.1 = y.cls)
    (hfr : fr + 1 ≤ fr0 ∧ 8 + (n + 11) + lo ≤ lo0 ∧ cells + mc ≤ mc0 ∧ slots + ms ≤ ms0) (he : ∃ v : va_W, v.Perm wm' ∧ v.map Prod.fst = wm.map Prod.fst) (hst0 : st0 = as.reverse ++ .ref h0 :: rest) (hroom : (rest.map fun v => v.category).sum ≤ 8) (hdg : decode cc pc = .ok (.invokevirtual index, 3)) (hst : rv.toList ++ rest = st2)
    (kk : ∀ (H1 : Heap) (locs1 : List Loc), va_P D classes (oc :: (wx ++ wm')) H1 → va_D A (oc :: (wx ++ wm')) → va_S A s.heap H1 locs1 → W p l e R s m ar below meth c H1 locs1 (cells + mc) (slots + ms) Q (F0 m (pc + 3) ls st2)) : W p l e R s m ar below meth c H locs cells slots Q (F0 m pc ls st0) := by
  obtain ⟨v, hv, he⟩ := he
  have hM2 := hM.perm (List.Perm.refl _) hv.symm
  exact kl_V0E hx hb hml hown ht hK hY (k_permP (perm_m oc wx wm) hP) (k_permD (perm_m oc wx wm) hD) hS hA hC hR hl hM2 hwl hwi hws9 hwn hwc hy hrc hfr he hst0 hroom hdg hst (fun H1 locs1 h1 h2 h3 => kk H1 locs1 (k_permP ((perm_m oc wx wm').trans (hv.symm.append_right _)).symm h1) (k_permD ((perm_m oc wx wm').trans (hv.symm.append_right _)).symm h2) h3)
end K51

abbrev XS : Type := (Nat → Int64) × (Nat → Int64) × (Nat → Int32) × Int32 × Int64 × Int32 × (Nat → Int32) × Int32 × (Nat → Int32) × Int32 × (Nat → Nat) × (Nat → Int32) × (Nat → Int32) × (Nat → Int32) × (Nat → Int32) × (Nat → Nat → Int64) × Int32 × Int32 × Int64 × (Nat → Int64) × (Nat → Int64) × (Nat → Int32) × Int32 × Int64 × Int32 × Int32 × Int32 × Int32 × Int32 × (Nat → Int32) × Int32 × Int64 × Nat
abbrev MS : Type := Int32 × Int32 × (Nat → Nat → Int32) × (Nat → Int32) × Int32 × (Nat → Int32) × Int32 × Int32 × (Nat → Int32) × (Nat → Int32) × (Nat → Int32) × (Nat → Int32) × (Nat → Int32) × Int32 × (Nat → Nat → Int32) × (Nat → Int32) × Int32 × (Nat → Int32) × Int32 × Int32 × (Nat → Int32) × (Nat → Int32) × (Nat → Int32) × (Nat → Int32) × (Nat → Int32) × (Nat → Int32) × Int32 × (Nat → Int32) × (Nat → Int32) × (Nat → Int64) × Int32 × Int32 × Int32 × Int32 × Int32 × (Nat → Nat)
def WXc (cy : Nat → ClassId) (ax sa : Nat → Nat) (x : XS) : va_W := [((ax 0), .inr (7, [.ref (ax 1), .ref (ax 7), .ref (ax 9), .ref (ax 11), .ref (ax 21)])), ((ax 1), .inr (0, [.ref (ax 2), .ref (ax 3), .ref (ax 4), .ref (ax 6), .int x.2.2.2.2.2.1])), ((ax 2), .inl (cy 1, 8, .inr (.inl x.1))), ((ax 3), .inl (cy 1, 8, .inr (.inl x.2.1))), ((ax 4), .inr (3, [.ref (ax 5), .int x.2.2.2.1])), ((ax 5), .inl (cy 0, 65, .inl x.2.2.1)), ((ax 6), .inr (2, [.long x.2.2.2.2.1])), ((ax 7), .inr (3, [.ref (ax 8), .int x.2.2.2.2.2.2.2.1])), ((ax 8), .inl (cy 0, 300, .inl x.2.2.2.2.2.2.1)), ((ax 9), .inr (3, [.ref (ax 10), .int x.2.2.2.2.2.2.2.2.2.1])), ((ax 10), .inl (cy 0, 65, .inl x.2.2.2.2.2.2.2.2.1)), ((ax 11), .inr (1, [.ref (ax 12), .ref (ax 13), .ref (ax 14), .ref (ax 15), .int x.2.2.2.2.2.2.2.2.2.2.2.2.2.2.2.2.2.2.2.2.2.2.2.2.2.1, .int x.2.2.2.2.2.2.2.2.2.2.2.2.2.2.2.2.2.2.2.2.2.2.2.2.2.2.1, .int x.2.2.2.2.2.2.2.2.2.2.2.2.2.2.2.2.2.2.2.2.2.2.2.2.2.2.2.1, .int x.2.2.2.2.2.2.2.2.2.2.2.2.2.2.2.2.2.2.2.2.2.2.2.2.2.2.2.2.1])), ((ax 12), .inl (cy 3, 60, .inr (.inr (.inr (.inr (fun j => some (sa j))))))), ((ax 13), .inr (6, [.ref x.2.2.2.2.2.2.2.2.2.2.2.2.2.2.2.2.2.2.2.2.2.2.2.2.2.2.2.2.2.2.2.2, .int x.2.2.2.2.2.2.2.2.2.2.2.2.2.2.2.2.1, .int x.2.2.2.2.2.2.2.2.2.2.2.2.2.2.2.2.2.1])), ((ax 14), .inr (2, [.long x.2.2.2.2.2.2.2.2.2.2.2.2.2.2.2.2.2.2.1])), ((ax 15), .inr (0, [.ref (ax 16), .ref (ax 17), .ref (ax 18), .ref (ax 20), .int x.2.2.2.2.2.2.2.2.2.2.2.2.2.2.2.2.2.2.2.2.2.2.2.2.1])), ((ax 16), .inl (cy 1, 8, .inr (.inl x.2.2.2.2.2.2.2.2.2.2.2.2.2.2.2.2.2.2.2.1))), ((ax 17), .inl (cy 1, 8, .inr (.inl x.2.2.2.2.2.2.2.2.2.2.2.2.2.2.2.2.2.2.2.2.1))), ((ax 18), .inr (3, [.ref (ax 19), .int x.2.2.2.2.2.2.2.2.2.2.2.2.2.2.2.2.2.2.2.2.2.2.1])), ((ax 19), .inl (cy 0, 65, .inl x.2.2.2.2.2.2.2.2.2.2.2.2.2.2.2.2.2.2.2.2.2.1)), ((ax 20), .inr (2, [.long x.2.2.2.2.2.2.2.2.2.2.2.2.2.2.2.2.2.2.2.2.2.2.2.1])), ((ax 21), .inr (5, [.ref (ax 22), .ref (ax 24)])), ((ax 22), .inr (3, [.ref (ax 23), .int x.2.2.2.2.2.2.2.2.2.2.2.2.2.2.2.2.2.2.2.2.2.2.2.2.2.2.2.2.2.2.1])), ((ax 23), .inl (cy 0, 65, .inl x.2.2.2.2.2.2.2.2.2.2.2.2.2.2.2.2.2.2.2.2.2.2.2.2.2.2.2.2.2.1)), ((ax 24), .inr (2, [.long x.2.2.2.2.2.2.2.2.2.2.2.2.2.2.2.2.2.2.2.2.2.2.2.2.2.2.2.2.2.2.2.1]))]
def WXs (cy : Nat → ClassId) (g : Nat → Nat) (sa aa : Nat → Nat) (x : XS) : va_W := (stW g sa aa x.2.2.2.2.2.2.2.2.2.2.1 x.2.2.2.2.2.2.2.2.2.2.2.1 x.2.2.2.2.2.2.2.2.2.2.2.2.1 x.2.2.2.2.2.2.2.2.2.2.2.2.2.1 x.2.2.2.2.2.2.2.2.2.2.2.2.2.2.1 ++ (argW (cy 1) aa x.2.2.2.2.2.2.2.2.2.2.2.2.2.2.2.1 ++ ([] : va_W)))
def WMc (cy : Nat → ClassId) (bx rwt : Nat → Nat) (mm : MS) : va_W := [((bx 0), .inr (9, [.int mm.1, .ref (bx 1), .ref (bx 10), .ref (bx 19), .int mm.2.2.2.2.2.2.2.2.2.2.2.2.2.2.2.2.2.2.2.2.2.2.2.2.2.2.1, .ref (bx 20), .ref (bx 21), .ref (bx 22), .int mm.2.2.2.2.2.2.2.2.2.2.2.2.2.2.2.2.2.2.2.2.2.2.2.2.2.2.2.2.2.2.1, .int mm.2.2.2.2.2.2.2.2.2.2.2.2.2.2.2.2.2.2.2.2.2.2.2.2.2.2.2.2.2.2.2.1, .int mm.2.2.2.2.2.2.2.2.2.2.2.2.2.2.2.2.2.2.2.2.2.2.2.2.2.2.2.2.2.2.2.2.1, .int mm.2.2.2.2.2.2.2.2.2.2.2.2.2.2.2.2.2.2.2.2.2.2.2.2.2.2.2.2.2.2.2.2.2.1, .int mm.2.2.2.2.2.2.2.2.2.2.2.2.2.2.2.2.2.2.2.2.2.2.2.2.2.2.2.2.2.2.2.2.2.2.1])), ((bx 1), .inr (8, [.int mm.2.1, .ref (bx 2), .ref (bx 3), .int mm.2.2.2.2.1, .ref (bx 4), .int mm.2.2.2.2.2.2.1, .int mm.2.2.2.2.2.2.2.1, .ref (bx 5), .ref (bx 6), .ref (bx 7), .ref (bx 8), .ref (bx 9)])), ((bx 2), .inl (cy 5, 8, .inr (.inr (.inr (.inr (fun j => some (mm.2.2.2.2.2.2.2.2.2.2.2.2.2.2.2.2.2.2.2.2.2.2.2.2.2.2.2.2.2.2.2.2.2.2.2 j))))))), ((bx 3), .inl (cy 0, 66, .inl mm.2.2.2.1)), ((bx 4), .inl (cy 0, 64, .inl mm.2.2.2.2.2.1)), ((bx 5), .inl (cy 2, 64, .inl mm.2.2.2.2.2.2.2.2.1)), ((bx 6), .inl (cy 2, 65, .inl mm.2.2.2.2.2.2.2.2.2.1)), ((bx 7), .inl (cy 2, 65, .inl mm.2.2.2.2.2.2.2.2.2.2.1)), ((bx 8), .inl (cy 2, 65, .inl mm.2.2.2.2.2.2.2.2.2.2.2.1)), ((bx 9), .inl (cy 2, 65, .inl mm.2.2.2.2.2.2.2.2.2.2.2.2.1)), ((bx 10), .inr (8, [.int mm.2.2.2.2.2.2.2.2.2.2.2.2.2.1, .ref (bx 11), .ref (bx 12), .int mm.2.2.2.2.2.2.2.2.2.2.2.2.2.2.2.2.1, .ref (bx 13), .int mm.2.2.2.2.2.2.2.2.2.2.2.2.2.2.2.2.2.2.1, .int mm.2.2.2.2.2.2.2.2.2.2.2.2.2.2.2.2.2.2.2.1, .ref (bx 14), .ref (bx 15), .ref (bx 16), .ref (bx 17), .ref (bx 18)])), ((bx 11), .inl (cy 5, 8, .inr (.inr (.inr (.inr (fun j => some (rwt j))))))), ((bx 12), .inl (cy 0, 66, .inl mm.2.2.2.2.2.2.2.2.2.2.2.2.2.2.2.1)), ((bx 13), .inl (cy 0, 64, .inl mm.2.2.2.2.2.2.2.2.2.2.2.2.2.2.2.2.2.1)), ((bx 14), .inl (cy 2, 64, .inl mm.2.2.2.2.2.2.2.2.2.2.2.2.2.2.2.2.2.2.2.2.1)), ((bx 15), .inl (cy 2, 65, .inl mm.2.2.2.2.2.2.2.2.2.2.2.2.2.2.2.2.2.2.2.2.2.1)), ((bx 16), .inl (cy 2, 65, .inl mm.2.2.2.2.2.2.2.2.2.2.2.2.2.2.2.2.2.2.2.2.2.2.1)), ((bx 17), .inl (cy 2, 65, .inl mm.2.2.2.2.2.2.2.2.2.2.2.2.2.2.2.2.2.2.2.2.2.2.2.1)), ((bx 18), .inl (cy 2, 65, .inl mm.2.2.2.2.2.2.2.2.2.2.2.2.2.2.2.2.2.2.2.2.2.2.2.2.1)), ((bx 19), .inl (cy 0, 300, .inl mm.2.2.2.2.2.2.2.2.2.2.2.2.2.2.2.2.2.2.2.2.2.2.2.2.2.1)), ((bx 20), .inl (cy 0, 300, .inl mm.2.2.2.2.2.2.2.2.2.2.2.2.2.2.2.2.2.2.2.2.2.2.2.2.2.2.2.1)), ((bx 21), .inl (cy 0, 300, .inl mm.2.2.2.2.2.2.2.2.2.2.2.2.2.2.2.2.2.2.2.2.2.2.2.2.2.2.2.2.1)), ((bx 22), .inl (cy 1, 300, .inr (.inl mm.2.2.2.2.2.2.2.2.2.2.2.2.2.2.2.2.2.2.2.2.2.2.2.2.2.2.2.2.2.1)))]
def WMs (cy : Nat → ClassId) (rwt : Nat → Nat) (mm : MS) : va_W := (rowsW (cy 2) mm.2.2.2.2.2.2.2.2.2.2.2.2.2.2.2.2.2.2.2.2.2.2.2.2.2.2.2.2.2.2.2.2.2.2.2 mm.2.2.1 ++ (rowsW (cy 2) rwt mm.2.2.2.2.2.2.2.2.2.2.2.2.2.2.1 ++ ([] : va_W)))
def WX (cy : Nat → ClassId) (g : Nat → Nat) (ax sa aa : Nat → Nat) (x : XS) : va_W := WXc cy ax sa x ++ WXs cy g sa aa x
def WM (cy : Nat → ClassId) (bx rwt : Nat → Nat) (mm : MS) : va_W := WMc cy bx rwt mm ++ WMs cy rwt mm
set_option maxRecDepth 100000 in
theorem WX_fst {cy : Nat → ClassId} {g ax sa aa : Nat → Nat} {x x2 : XS} : (WX cy g ax sa aa x2).map Prod.fst = (WX cy g ax sa aa x).map Prod.fst := rfl
set_option maxRecDepth 100000 in
theorem WM_fst {cy : Nat → ClassId} {bx rwt : Nat → Nat} {x x2 : MS} (h : x2.2.2.2.2.2.2.2.2.2.2.2.2.2.2.2.2.2.2.2.2.2.2.2.2.2.2.2.2.2.2.2.2.2.2.2 = x.2.2.2.2.2.2.2.2.2.2.2.2.2.2.2.2.2.2.2.2.2.2.2.2.2.2.2.2.2.2.2.2.2.2.2) : (WM cy bx rwt x2).map Prod.fst = (WM cy bx rwt x).map Prod.fst := by
  unfold WM WMc WMs rowsW
  rw [h]
  rfl
/-- eight places in another order -/
def perm8 (sig : Nat → Nat) : Bool := ((List.range 8).map sig).isPerm (List.range 8)
theorem rowsW_eq (c : ClassId) (rw : Nat → Nat) (B : Nat → Nat → Int32) : rowsW c rw B = (List.range 8).map (fun j => (rw j, .inl (c, 64, .inl (B j)))) := rfl
theorem rowsW_sig {c : ClassId} {rw : Nat → Nat} {B : Nat → Nat → Int32} {sig : Nat → Nat} (h : ¬ perm8 sig = false) : (rowsW c rw B).Perm (rowsW c (fun j => rw (sig j)) (fun j => B (sig j))) := by
  have h1 : ((List.range 8).map sig).Perm (List.range 8) := by
    cases h2 : perm8 sig with
    | false => exact absurd h2 h
    | true => exact List.isPerm_iff.mp h2
  rw [rowsW_eq, rowsW_eq]
  have h3 := (h1.map (fun j => ((rw j, .inl (c, 64, .inl (B j))) : Nat × va_E))).symm
  rw [List.map_map] at h3
  exact h3
/-- what holds while the law runs -/
def LF (p : Program) (l : Launch) (s : State) (m : MethodId) (ar : Array Value) (c : Code) (A : Nat → Prop) (D : va_G) (cy : Nat → ClassId) (g : Nat → Nat) (b L : Nat) (xs : Nat → Int32) (RM : Room) : Prop :=
  p.tables.exec = Jvm.exec ∧ c.code = code ∧ c.maxLocals = 9 ∧ s.vm.findClass RL = some m.cls ∧ (∀ w ∈ LW, w.before ar s = true) ∧ KX D cy s ∧ KY s ∧ NX s ∧ (∀ q : Nat, s.heap.size ≤ q → A q) ∧ CX g A s s.heap ∧ RM = { frames := 2048, cells := 601024, slots := 7293033, locals := 84000 } ∧ va_X b L xs s s.heap ∧ b < s.heap.size ∧ ¬ A b ∧ l.stackTraces = false ∧ MNA8 D cy

theorem sortP {cy : Nat → ClassId} {bx rwt : Nat → Nat} {mm : MS} {th : Int32} {sig : Nat → Nat} (hp8 : ¬ perm8 sig = false) : (WMc cy bx rwt (th, mm.2.1, (fun j => mm.2.2.1 (sig j)), mm.2.2.2.1, mm.2.2.2.2.1, mm.2.2.2.2.2.1, mm.2.2.2.2.2.2.1, mm.2.2.2.2.2.2.2.1, mm.2.2.2.2.2.2.2.2.1, mm.2.2.2.2.2.2.2.2.2.1, mm.2.2.2.2.2.2.2.2.2.2.1, mm.2.2.2.2.2.2.2.2.2.2.2.1, mm.2.2.2.2.2.2.2.2.2.2.2.2.1, mm.2.2.2.2.2.2.2.2.2.2.2.2.2.1, mm.2.2.2.2.2.2.2.2.2.2.2.2.2.2.1, mm.2.2.2.2.2.2.2.2.2.2.2.2.2.2.2.1, mm.2.2.2.2.2.2.2.2.2.2.2.2.2.2.2.2.1, mm.2.2.2.2.2.2.2.2.2.2.2.2.2.2.2.2.2.1, mm.2.2.2.2.2.2.2.2.2.2.2.2.2.2.2.2.2.2.1, mm.2.2.2.2.2.2.2.2.2.2.2.2.2.2.2.2.2.2.2.1, mm.2.2.2.2.2.2.2.2.2.2.2.2.2.2.2.2.2.2.2.2.1, mm.2.2.2.2.2.2.2.2.2.2.2.2.2.2.2.2.2.2.2.2.2.1, mm.2.2.2.2.2.2.2.2.2.2.2.2.2.2.2.2.2.2.2.2.2.2.1, mm.2.2.2.2.2.2.2.2.2.2.2.2.2.2.2.2.2.2.2.2.2.2.2.1, mm.2.2.2.2.2.2.2.2.2.2.2.2.2.2.2.2.2.2.2.2.2.2.2.2.1, mm.2.2.2.2.2.2.2.2.2.2.2.2.2.2.2.2.2.2.2.2.2.2.2.2.2.1, mm.2.2.2.2.2.2.2.2.2.2.2.2.2.2.2.2.2.2.2.2.2.2.2.2.2.2.1, mm.2.2.2.2.2.2.2.2.2.2.2.2.2.2.2.2.2.2.2.2.2.2.2.2.2.2.2.1, mm.2.2.2.2.2.2.2.2.2.2.2.2.2.2.2.2.2.2.2.2.2.2.2.2.2.2.2.2.1, mm.2.2.2.2.2.2.2.2.2.2.2.2.2.2.2.2.2.2.2.2.2.2.2.2.2.2.2.2.2.1, mm.2.2.2.2.2.2.2.2.2.2.2.2.2.2.2.2.2.2.2.2.2.2.2.2.2.2.2.2.2.2.1, mm.2.2.2.2.2.2.2.2.2.2.2.2.2.2.2.2.2.2.2.2.2.2.2.2.2.2.2.2.2.2.2.1, mm.2.2.2.2.2.2.2.2.2.2.2.2.2.2.2.2.2.2.2.2.2.2.2.2.2.2.2.2.2.2.2.2.1, mm.2.2.2.2.2.2.2.2.2.2.2.2.2.2.2.2.2.2.2.2.2.2.2.2.2.2.2.2.2.2.2.2.2.1, mm.2.2.2.2.2.2.2.2.2.2.2.2.2.2.2.2.2.2.2.2.2.2.2.2.2.2.2.2.2.2.2.2.2.2.1, (fun j => mm.2.2.2.2.2.2.2.2.2.2.2.2.2.2.2.2.2.2.2.2.2.2.2.2.2.2.2.2.2.2.2.2.2.2.2 (sig j))) ++ (rowsW (cy 2) mm.2.2.2.2.2.2.2.2.2.2.2.2.2.2.2.2.2.2.2.2.2.2.2.2.2.2.2.2.2.2.2.2.2.2.2 mm.2.2.1 ++ (rowsW (cy 2) rwt mm.2.2.2.2.2.2.2.2.2.2.2.2.2.2.1 ++ ([] : va_W)))).Perm (WM cy bx rwt (th, mm.2.1, (fun j => mm.2.2.1 (sig j)), mm.2.2.2.1, mm.2.2.2.2.1, mm.2.2.2.2.2.1, mm.2.2.2.2.2.2.1, mm.2.2.2.2.2.2.2.1, mm.2.2.2.2.2.2.2.2.1, mm.2.2.2.2.2.2.2.2.2.1, mm.2.2.2.2.2.2.2.2.2.2.1, mm.2.2.2.2.2.2.2.2.2.2.2.1, mm.2.2.2.2.2.2.2.2.2.2.2.2.1, mm.2.2.2.2.2.2.2.2.2.2.2.2.2.1, mm.2.2.2.2.2.2.2.2.2.2.2.2.2.2.1, mm.2.2.2.2.2.2.2.2.2.2.2.2.2.2.2.1, mm.2.2.2.2.2.2.2.2.2.2.2.2.2.2.2.2.1, mm.2.2.2.2.2.2.2.2.2.2.2.2.2.2.2.2.2.1, mm.2.2.2.2.2.2.2.2.2.2.2.2.2.2.2.2.2.2.1, mm.2.2.2.2.2.2.2.2.2.2.2.2.2.2.2.2.2.2.2.1, mm.2.2.2.2.2.2.2.2.2.2.2.2.2.2.2.2.2.2.2.2.1, mm.2.2.2.2.2.2.2.2.2.2.2.2.2.2.2.2.2.2.2.2.2.1, mm.2.2.2.2.2.2.2.2.2.2.2.2.2.2.2.2.2.2.2.2.2.2.1, mm.2.2.2.2.2.2.2.2.2.2.2.2.2.2.2.2.2.2.2.2.2.2.2.1, mm.2.2.2.2.2.2.2.2.2.2.2.2.2.2.2.2.2.2.2.2.2.2.2.2.1, mm.2.2.2.2.2.2.2.2.2.2.2.2.2.2.2.2.2.2.2.2.2.2.2.2.2.1, mm.2.2.2.2.2.2.2.2.2.2.2.2.2.2.2.2.2.2.2.2.2.2.2.2.2.2.1, mm.2.2.2.2.2.2.2.2.2.2.2.2.2.2.2.2.2.2.2.2.2.2.2.2.2.2.2.1, mm.2.2.2.2.2.2.2.2.2.2.2.2.2.2.2.2.2.2.2.2.2.2.2.2.2.2.2.2.1, mm.2.2.2.2.2.2.2.2.2.2.2.2.2.2.2.2.2.2.2.2.2.2.2.2.2.2.2.2.2.1, mm.2.2.2.2.2.2.2.2.2.2.2.2.2.2.2.2.2.2.2.2.2.2.2.2.2.2.2.2.2.2.1, mm.2.2.2.2.2.2.2.2.2.2.2.2.2.2.2.2.2.2.2.2.2.2.2.2.2.2.2.2.2.2.2.1, mm.2.2.2.2.2.2.2.2.2.2.2.2.2.2.2.2.2.2.2.2.2.2.2.2.2.2.2.2.2.2.2.2.1, mm.2.2.2.2.2.2.2.2.2.2.2.2.2.2.2.2.2.2.2.2.2.2.2.2.2.2.2.2.2.2.2.2.2.1, mm.2.2.2.2.2.2.2.2.2.2.2.2.2.2.2.2.2.2.2.2.2.2.2.2.2.2.2.2.2.2.2.2.2.2.1, (fun j => mm.2.2.2.2.2.2.2.2.2.2.2.2.2.2.2.2.2.2.2.2.2.2.2.2.2.2.2.2.2.2.2.2.2.2.2 (sig j)))) :=
  (List.Perm.append_right _ (rowsW_sig hp8)).append_left _
theorem sortW {cy : Nat → ClassId} {bx rwt : Nat → Nat} {mm : MS} {th : Int32} {sig : Nat → Nat} (hp8 : ¬ perm8 sig = false) : ∃ v : va_W, v.Perm (WM cy bx rwt (th, mm.2.1, (fun j => mm.2.2.1 (sig j)), mm.2.2.2.1, mm.2.2.2.2.1, mm.2.2.2.2.2.1, mm.2.2.2.2.2.2.1, mm.2.2.2.2.2.2.2.1, mm.2.2.2.2.2.2.2.2.1, mm.2.2.2.2.2.2.2.2.2.1, mm.2.2.2.2.2.2.2.2.2.2.1, mm.2.2.2.2.2.2.2.2.2.2.2.1, mm.2.2.2.2.2.2.2.2.2.2.2.2.1, mm.2.2.2.2.2.2.2.2.2.2.2.2.2.1, mm.2.2.2.2.2.2.2.2.2.2.2.2.2.2.1, mm.2.2.2.2.2.2.2.2.2.2.2.2.2.2.2.1, mm.2.2.2.2.2.2.2.2.2.2.2.2.2.2.2.2.1, mm.2.2.2.2.2.2.2.2.2.2.2.2.2.2.2.2.2.1, mm.2.2.2.2.2.2.2.2.2.2.2.2.2.2.2.2.2.2.1, mm.2.2.2.2.2.2.2.2.2.2.2.2.2.2.2.2.2.2.2.1, mm.2.2.2.2.2.2.2.2.2.2.2.2.2.2.2.2.2.2.2.2.1, mm.2.2.2.2.2.2.2.2.2.2.2.2.2.2.2.2.2.2.2.2.2.1, mm.2.2.2.2.2.2.2.2.2.2.2.2.2.2.2.2.2.2.2.2.2.2.1, mm.2.2.2.2.2.2.2.2.2.2.2.2.2.2.2.2.2.2.2.2.2.2.2.1, mm.2.2.2.2.2.2.2.2.2.2.2.2.2.2.2.2.2.2.2.2.2.2.2.2.1, mm.2.2.2.2.2.2.2.2.2.2.2.2.2.2.2.2.2.2.2.2.2.2.2.2.2.1, mm.2.2.2.2.2.2.2.2.2.2.2.2.2.2.2.2.2.2.2.2.2.2.2.2.2.2.1, mm.2.2.2.2.2.2.2.2.2.2.2.2.2.2.2.2.2.2.2.2.2.2.2.2.2.2.2.1, mm.2.2.2.2.2.2.2.2.2.2.2.2.2.2.2.2.2.2.2.2.2.2.2.2.2.2.2.2.1, mm.2.2.2.2.2.2.2.2.2.2.2.2.2.2.2.2.2.2.2.2.2.2.2.2.2.2.2.2.2.1, mm.2.2.2.2.2.2.2.2.2.2.2.2.2.2.2.2.2.2.2.2.2.2.2.2.2.2.2.2.2.2.1, mm.2.2.2.2.2.2.2.2.2.2.2.2.2.2.2.2.2.2.2.2.2.2.2.2.2.2.2.2.2.2.2.1, mm.2.2.2.2.2.2.2.2.2.2.2.2.2.2.2.2.2.2.2.2.2.2.2.2.2.2.2.2.2.2.2.2.1, mm.2.2.2.2.2.2.2.2.2.2.2.2.2.2.2.2.2.2.2.2.2.2.2.2.2.2.2.2.2.2.2.2.2.1, mm.2.2.2.2.2.2.2.2.2.2.2.2.2.2.2.2.2.2.2.2.2.2.2.2.2.2.2.2.2.2.2.2.2.2.1, (fun j => mm.2.2.2.2.2.2.2.2.2.2.2.2.2.2.2.2.2.2.2.2.2.2.2.2.2.2.2.2.2.2.2.2.2.2.2 (sig j)))) ∧ v.map Prod.fst = (WM cy bx rwt mm).map Prod.fst :=
  ⟨_, sortP hp8, rfl⟩
theorem kcM_sort (l : Launch) (D : va_G) (cy : Nat → ClassId) (g : Nat → Nat) (bx rwt : Nat → Nat) (mm : MS) (p1 : Int32) (k : Nat) (R : Int32 × Int32 × (Nat → Nat)) (hm : mX13_sort k mm.2.1 mm.2.2.1 p1 = some R) (hMN : MNA8 D cy) (hp8 : ¬ perm8 R.2.2 = false) : ConE l D cy g yX13_sort cX13_sort 2 (some .int) 3 72 9 520 [.ref (bx 0), .int p1] (WM cy bx rwt mm) (fun _ => WM cy bx rwt (R.2.1, mm.2.1, (fun j => mm.2.2.1 (R.2.2 j)), mm.2.2.2.1, mm.2.2.2.2.1, mm.2.2.2.2.2.1, mm.2.2.2.2.2.2.1, mm.2.2.2.2.2.2.2.1, mm.2.2.2.2.2.2.2.2.1, mm.2.2.2.2.2.2.2.2.2.1, mm.2.2.2.2.2.2.2.2.2.2.1, mm.2.2.2.2.2.2.2.2.2.2.2.1, mm.2.2.2.2.2.2.2.2.2.2.2.2.1, mm.2.2.2.2.2.2.2.2.2.2.2.2.2.1, mm.2.2.2.2.2.2.2.2.2.2.2.2.2.2.1, mm.2.2.2.2.2.2.2.2.2.2.2.2.2.2.2.1, mm.2.2.2.2.2.2.2.2.2.2.2.2.2.2.2.2.1, mm.2.2.2.2.2.2.2.2.2.2.2.2.2.2.2.2.2.1, mm.2.2.2.2.2.2.2.2.2.2.2.2.2.2.2.2.2.2.1, mm.2.2.2.2.2.2.2.2.2.2.2.2.2.2.2.2.2.2.2.1, mm.2.2.2.2.2.2.2.2.2.2.2.2.2.2.2.2.2.2.2.2.1, mm.2.2.2.2.2.2.2.2.2.2.2.2.2.2.2.2.2.2.2.2.2.1, mm.2.2.2.2.2.2.2.2.2.2.2.2.2.2.2.2.2.2.2.2.2.2.1, mm.2.2.2.2.2.2.2.2.2.2.2.2.2.2.2.2.2.2.2.2.2.2.2.1, mm.2.2.2.2.2.2.2.2.2.2.2.2.2.2.2.2.2.2.2.2.2.2.2.2.1, mm.2.2.2.2.2.2.2.2.2.2.2.2.2.2.2.2.2.2.2.2.2.2.2.2.2.1, mm.2.2.2.2.2.2.2.2.2.2.2.2.2.2.2.2.2.2.2.2.2.2.2.2.2.2.1, mm.2.2.2.2.2.2.2.2.2.2.2.2.2.2.2.2.2.2.2.2.2.2.2.2.2.2.2.1, mm.2.2.2.2.2.2.2.2.2.2.2.2.2.2.2.2.2.2.2.2.2.2.2.2.2.2.2.2.1, mm.2.2.2.2.2.2.2.2.2.2.2.2.2.2.2.2.2.2.2.2.2.2.2.2.2.2.2.2.2.1, mm.2.2.2.2.2.2.2.2.2.2.2.2.2.2.2.2.2.2.2.2.2.2.2.2.2.2.2.2.2.2.1, mm.2.2.2.2.2.2.2.2.2.2.2.2.2.2.2.2.2.2.2.2.2.2.2.2.2.2.2.2.2.2.2.1, mm.2.2.2.2.2.2.2.2.2.2.2.2.2.2.2.2.2.2.2.2.2.2.2.2.2.2.2.2.2.2.2.2.1, mm.2.2.2.2.2.2.2.2.2.2.2.2.2.2.2.2.2.2.2.2.2.2.2.2.2.2.2.2.2.2.2.2.2.1, mm.2.2.2.2.2.2.2.2.2.2.2.2.2.2.2.2.2.2.2.2.2.2.2.2.2.2.2.2.2.2.2.2.2.2.1, (fun j => mm.2.2.2.2.2.2.2.2.2.2.2.2.2.2.2.2.2.2.2.2.2.2.2.2.2.2.2.2.2.2.2.2.2.2.2 (R.2.2 j)))) (fun _ => []) (fun _ => some (.int R.1)) :=
  (kcX13_sort l D cy g (bx 0) (bx 1) (bx 2) (bx 3) (bx 4) (bx 5) (bx 6) (bx 7) (bx 8) (bx 9) (bx 10) (bx 11) (bx 12) (bx 13) (bx 14) (bx 15) (bx 16) (bx 17) (bx 18) (bx 19) (bx 20) (bx 21) (bx 22) mm.2.2.2.2.2.2.2.2.2.2.2.2.2.2.2.2.2.2.2.2.2.2.2.2.2.2.2.2.2.2.2.2.2.2.2 rwt mm.1 mm.2.1 mm.2.2.1 mm.2.2.2.1 mm.2.2.2.2.1 mm.2.2.2.2.2.1 mm.2.2.2.2.2.2.1 mm.2.2.2.2.2.2.2.1 mm.2.2.2.2.2.2.2.2.1 mm.2.2.2.2.2.2.2.2.2.1 mm.2.2.2.2.2.2.2.2.2.2.1 mm.2.2.2.2.2.2.2.2.2.2.2.1 mm.2.2.2.2.2.2.2.2.2.2.2.2.1 mm.2.2.2.2.2.2.2.2.2.2.2.2.2.1 mm.2.2.2.2.2.2.2.2.2.2.2.2.2.2.1 mm.2.2.2.2.2.2.2.2.2.2.2.2.2.2.2.1 mm.2.2.2.2.2.2.2.2.2.2.2.2.2.2.2.2.1 mm.2.2.2.2.2.2.2.2.2.2.2.2.2.2.2.2.2.1 mm.2.2.2.2.2.2.2.2.2.2.2.2.2.2.2.2.2.2.1 mm.2.2.2.2.2.2.2.2.2.2.2.2.2.2.2.2.2.2.2.1 mm.2.2.2.2.2.2.2.2.2.2.2.2.2.2.2.2.2.2.2.2.1 mm.2.2.2.2.2.2.2.2.2.2.2.2.2.2.2.2.2.2.2.2.2.1 mm.2.2.2.2.2.2.2.2.2.2.2.2.2.2.2.2.2.2.2.2.2.2.1 mm.2.2.2.2.2.2.2.2.2.2.2.2.2.2.2.2.2.2.2.2.2.2.2.1 mm.2.2.2.2.2.2.2.2.2.2.2.2.2.2.2.2.2.2.2.2.2.2.2.2.1 mm.2.2.2.2.2.2.2.2.2.2.2.2.2.2.2.2.2.2.2.2.2.2.2.2.2.1 mm.2.2.2.2.2.2.2.2.2.2.2.2.2.2.2.2.2.2.2.2.2.2.2.2.2.2.1 mm.2.2.2.2.2.2.2.2.2.2.2.2.2.2.2.2.2.2.2.2.2.2.2.2.2.2.2.1 mm.2.2.2.2.2.2.2.2.2.2.2.2.2.2.2.2.2.2.2.2.2.2.2.2.2.2.2.2.1 mm.2.2.2.2.2.2.2.2.2.2.2.2.2.2.2.2.2.2.2.2.2.2.2.2.2.2.2.2.2.1 mm.2.2.2.2.2.2.2.2.2.2.2.2.2.2.2.2.2.2.2.2.2.2.2.2.2.2.2.2.2.2.1 mm.2.2.2.2.2.2.2.2.2.2.2.2.2.2.2.2.2.2.2.2.2.2.2.2.2.2.2.2.2.2.2.1 mm.2.2.2.2.2.2.2.2.2.2.2.2.2.2.2.2.2.2.2.2.2.2.2.2.2.2.2.2.2.2.2.2.1 mm.2.2.2.2.2.2.2.2.2.2.2.2.2.2.2.2.2.2.2.2.2.2.2.2.2.2.2.2.2.2.2.2.2.1 mm.2.2.2.2.2.2.2.2.2.2.2.2.2.2.2.2.2.2.2.2.2.2.2.2.2.2.2.2.2.2.2.2.2.2.1 p1 k R hm hMN).perm (List.Perm.refl _) (sortP hp8)
theorem q_42 : Cond.initialized RL ∈ LW := LW_of 42 (by decide +kernel) rfl
theorem q_271 : Cond.methodLink RL 128 yX11_setWide ∈ LW := LW_of 271 (by decide +kernel) rfl
theorem q_272 : Cond.instanceMethod yX11_setWide ∈ LW := LW_of 272 (by decide +kernel) rfl
theorem q_273 : Cond.selects yX11_setWide.cls yX11_setWide yX11_setWide ∈ LW := LW_of 273 (by decide +kernel) rfl
theorem q_274 : Cond.code yX11_setWide cX11_setWide 3 (some .boolean) ∈ LW := LW_of 274 (by decide +kernel) rfl
theorem q_275 : Cond.methodLink RL 133 yX11_isWide ∈ LW := LW_of 275 (by decide +kernel) rfl
theorem q_276 : Cond.instanceMethod yX11_isWide ∈ LW := LW_of 276 (by decide +kernel) rfl
theorem q_277 : Cond.selects yX11_isWide.cls yX11_isWide yX11_isWide ∈ LW := LW_of 277 (by decide +kernel) rfl
theorem q_278 : Cond.code yX11_isWide cX11_isWide 1 (some .boolean) ∈ LW := LW_of 278 (by decide +kernel) rfl
theorem q_279 : Cond.methodLink RL 149 yX11_fill ∈ LW := LW_of 279 (by decide +kernel) rfl
theorem q_280 : Cond.instanceMethod yX11_fill ∈ LW := LW_of 280 (by decide +kernel) rfl
theorem q_281 : Cond.selects yX11_fill.cls yX11_fill yX11_fill ∈ LW := LW_of 281 (by decide +kernel) rfl
theorem q_282 : Cond.code yX11_fill cX11_fill 6 (some .long) ∈ LW := LW_of 282 (by decide +kernel) rfl
theorem q_298 : Cond.methodLink RL 162 yX11_clearText ∈ LW := LW_of 298 (by decide +kernel) rfl
theorem q_299 : Cond.instanceMethod yX11_clearText ∈ LW := LW_of 299 (by decide +kernel) rfl
theorem q_300 : Cond.selects yX11_clearText.cls yX11_clearText yX11_clearText ∈ LW := LW_of 300 (by decide +kernel) rfl
theorem q_301 : Cond.code yX11_clearText cX11_clearText 2 (some .int) ∈ LW := LW_of 301 (by decide +kernel) rfl
theorem q_310 : Cond.methodLink RL 166 yX11_textLength ∈ LW := LW_of 310 (by decide +kernel) rfl
theorem q_311 : Cond.instanceMethod yX11_textLength ∈ LW := LW_of 311 (by decide +kernel) rfl
theorem q_312 : Cond.selects yX11_textLength.cls yX11_textLength yX11_textLength ∈ LW := LW_of 312 (by decide +kernel) rfl
theorem q_313 : Cond.code yX11_textLength cX11_textLength 1 (some .int) ∈ LW := LW_of 313 (by decide +kernel) rfl
theorem q_314 : Cond.methodLink RL 192 yX11_pageLength ∈ LW := LW_of 314 (by decide +kernel) rfl
theorem q_315 : Cond.instanceMethod yX11_pageLength ∈ LW := LW_of 315 (by decide +kernel) rfl
theorem q_316 : Cond.selects yX11_pageLength.cls yX11_pageLength yX11_pageLength ∈ LW := LW_of 316 (by decide +kernel) rfl
theorem q_317 : Cond.code yX11_pageLength cX11_pageLength 1 (some .int) ∈ LW := LW_of 317 (by decide +kernel) rfl
theorem q_318 : Cond.methodLink RL 216 yX11_longest ∈ LW := LW_of 318 (by decide +kernel) rfl
theorem q_319 : Cond.instanceMethod yX11_longest ∈ LW := LW_of 319 (by decide +kernel) rfl
theorem q_320 : Cond.selects yX11_longest.cls yX11_longest yX11_longest ∈ LW := LW_of 320 (by decide +kernel) rfl
theorem q_321 : Cond.code yX11_longest cX11_longest 6 (some .int) ∈ LW := LW_of 321 (by decide +kernel) rfl
theorem q_365 : Cond.methodLink RL 266 yX11_sort ∈ LW := LW_of 365 (by decide +kernel) rfl
theorem q_366 : Cond.instanceMethod yX11_sort ∈ LW := LW_of 366 (by decide +kernel) rfl
theorem q_367 : Cond.selects yX11_sort.cls yX11_sort yX11_sort ∈ LW := LW_of 367 (by decide +kernel) rfl
theorem q_368 : Cond.code yX11_sort cX11_sort 2 (some .int) ∈ LW := LW_of 368 (by decide +kernel) rfl
theorem q_393 : Cond.methodLink RL 271 yX11_errorKind ∈ LW := LW_of 393 (by decide +kernel) rfl
theorem q_394 : Cond.instanceMethod yX11_errorKind ∈ LW := LW_of 394 (by decide +kernel) rfl
theorem q_395 : Cond.selects yX11_errorKind.cls yX11_errorKind yX11_errorKind ∈ LW := LW_of 395 (by decide +kernel) rfl
theorem q_396 : Cond.code yX11_errorKind cX11_errorKind 1 (some .int) ∈ LW := LW_of 396 (by decide +kernel) rfl
theorem q_776 : Cond.methodLink RL 275 yX11_errorPlace ∈ LW := LW_of 776 (by decide +kernel) rfl
theorem q_777 : Cond.instanceMethod yX11_errorPlace ∈ LW := LW_of 777 (by decide +kernel) rfl
theorem q_778 : Cond.selects yX11_errorPlace.cls yX11_errorPlace yX11_errorPlace ∈ LW := LW_of 778 (by decide +kernel) rfl
theorem q_779 : Cond.code yX11_errorPlace cX11_errorPlace 1 (some .int) ∈ LW := LW_of 779 (by decide +kernel) rfl
theorem q_780 : Cond.methodLink RL 282 yX11_errors ∈ LW := LW_of 780 (by decide +kernel) rfl
theorem q_781 : Cond.instanceMethod yX11_errors ∈ LW := LW_of 781 (by decide +kernel) rfl
theorem q_782 : Cond.selects yX11_errors.cls yX11_errors yX11_errors ∈ LW := LW_of 782 (by decide +kernel) rfl
theorem q_783 : Cond.code yX11_errors cX11_errors 1 (some .int) ∈ LW := LW_of 783 (by decide +kernel) rfl
theorem q_819 : Cond.methodLink RL 286 yX11_meanCount ∈ LW := LW_of 819 (by decide +kernel) rfl
theorem q_820 : Cond.instanceMethod yX11_meanCount ∈ LW := LW_of 820 (by decide +kernel) rfl
theorem q_821 : Cond.selects yX11_meanCount.cls yX11_meanCount yX11_meanCount ∈ LW := LW_of 821 (by decide +kernel) rfl
theorem q_822 : Cond.code yX11_meanCount cX11_meanCount 3 (some .double) ∈ LW := LW_of 822 (by decide +kernel) rfl
theorem q_825 : Cond.methodLink RL 291 yX11_negativeShare ∈ LW := LW_of 825 (by decide +kernel) rfl
theorem q_826 : Cond.instanceMethod yX11_negativeShare ∈ LW := LW_of 826 (by decide +kernel) rfl
theorem q_827 : Cond.selects yX11_negativeShare.cls yX11_negativeShare yX11_negativeShare ∈ LW := LW_of 827 (by decide +kernel) rfl
theorem q_828 : Cond.code yX11_negativeShare cX11_negativeShare 3 (some .float) ∈ LW := LW_of 828 (by decide +kernel) rfl
theorem q_830 : Cond.methodLink RL 140 yL_set ∈ LW := LW_of 830 (by decide +kernel) rfl
theorem q_831 : Cond.static yL_set ∈ LW := LW_of 831 (by decide +kernel) rfl
theorem q_832 : Cond.codeWith yL_set cL_set 6 (some .int) [(0, 10, 13, 13)] ∈ LW := LW_of 832 (by decide +kernel) rfl
theorem q_910 : Cond.methodLink RL 154 yL_number ∈ LW := LW_of 910 (by decide +kernel) rfl
theorem q_911 : Cond.static yL_number ∈ LW := LW_of 911 (by decide +kernel) rfl
theorem q_912 : Cond.codeWith yL_number cL_number 4 (some .int) [(0, 8, 11, 13)] ∈ LW := LW_of 912 (by decide +kernel) rfl
theorem q_917 : Cond.methodLink RL 158 yL_type ∈ LW := LW_of 917 (by decide +kernel) rfl
theorem q_918 : Cond.static yL_type ∈ LW := LW_of 918 (by decide +kernel) rfl
theorem q_919 : Cond.codeWith yL_type cL_type 5 (some .int) [(0, 9, 12, 23)] ∈ LW := LW_of 919 (by decide +kernel) rfl
theorem q_952 : Cond.methodLink RL 170 yL_textAt ∈ LW := LW_of 952 (by decide +kernel) rfl
theorem q_953 : Cond.static yL_textAt ∈ LW := LW_of 953 (by decide +kernel) rfl
theorem q_954 : Cond.codeWith yL_textAt cL_textAt 4 (some .int) [(0, 9, 12, 13)] ∈ LW := LW_of 954 (by decide +kernel) rfl
theorem q_963 : Cond.methodLink RL 173 yL_example ∈ LW := LW_of 963 (by decide +kernel) rfl
theorem q_964 : Cond.static yL_example ∈ LW := LW_of 964 (by decide +kernel) rfl
theorem q_965 : Cond.codeWith yL_example cL_example 4 (some .int) [(0, 9, 12, 32)] ∈ LW := LW_of 965 (by decide +kernel) rfl
theorem q_996 : Cond.methodLink RL 176 yL_read ∈ LW := LW_of 996 (by decide +kernel) rfl
theorem q_997 : Cond.static yL_read ∈ LW := LW_of 997 (by decide +kernel) rfl
theorem q_998 : Cond.codeWith yL_read cL_read 8 (some .int) [(0, 23, 26, 13)] ∈ LW := LW_of 998 (by decide +kernel) rfl
theorem q_1005 : Cond.methodLink RL 180 yL_write ∈ LW := LW_of 1005 (by decide +kernel) rfl
theorem q_1006 : Cond.static yL_write ∈ LW := LW_of 1006 (by decide +kernel) rfl
theorem q_1007 : Cond.codeWith yL_write cL_write 6 (some .int) [(0, 12, 15, 13)] ∈ LW := LW_of 1007 (by decide +kernel) rfl
theorem q_1013 : Cond.methodLink RL 184 yL_writeBits ∈ LW := LW_of 1013 (by decide +kernel) rfl
theorem q_1014 : Cond.static yL_writeBits ∈ LW := LW_of 1014 (by decide +kernel) rfl
theorem q_1015 : Cond.codeWith yL_writeBits cL_writeBits 5 (some .int) [(0, 10, 13, 13), (0, 10, 17, 32)] ∈ LW := LW_of 1015 (by decide +kernel) rfl
theorem q_1021 : Cond.methodLink RL 188 yL_writeTen ∈ LW := LW_of 1021 (by decide +kernel) rfl
theorem q_1022 : Cond.static yL_writeTen ∈ LW := LW_of 1022 (by decide +kernel) rfl
theorem q_1023 : Cond.codeWith yL_writeTen cL_writeTen 5 (some .int) [(0, 10, 13, 13)] ∈ LW := LW_of 1023 (by decide +kernel) rfl
theorem q_1028 : Cond.methodLink RL 196 yL_pageAt ∈ LW := LW_of 1028 (by decide +kernel) rfl
theorem q_1029 : Cond.static yL_pageAt ∈ LW := LW_of 1029 (by decide +kernel) rfl
theorem q_1030 : Cond.codeWith yL_pageAt cL_pageAt 4 (some .int) [(0, 9, 12, 13)] ∈ LW := LW_of 1030 (by decide +kernel) rfl
theorem q_1035 : Cond.methodLink RL 199 yL_copyPage ∈ LW := LW_of 1035 (by decide +kernel) rfl
theorem q_1036 : Cond.static yL_copyPage ∈ LW := LW_of 1036 (by decide +kernel) rfl
theorem q_1037 : Cond.codeWith yL_copyPage cL_copyPage 3 (some .int) [(0, 8, 11, 23)] ∈ LW := LW_of 1037 (by decide +kernel) rfl
theorem q_1043 : Cond.methodLink RL 203 yL_readPage ∈ LW := LW_of 1043 (by decide +kernel) rfl
theorem q_1044 : Cond.static yL_readPage ∈ LW := LW_of 1044 (by decide +kernel) rfl
theorem q_1045 : Cond.codeWith yL_readPage cL_readPage 6 (some .int) [(0, 19, 22, 13)] ∈ LW := LW_of 1045 (by decide +kernel) rfl
theorem q_1051 : Cond.methodLink RL 206 yL_digitAt ∈ LW := LW_of 1051 (by decide +kernel) rfl
theorem q_1052 : Cond.static yL_digitAt ∈ LW := LW_of 1052 (by decide +kernel) rfl
theorem q_1053 : Cond.codeWith yL_digitAt cL_digitAt 7 (some .int) [(0, 14, 17, 13), (0, 14, 21, 65)] ∈ LW := LW_of 1053 (by decide +kernel) rfl
theorem q_1076 : Cond.methodLink RL 210 yL_digitSum ∈ LW := LW_of 1076 (by decide +kernel) rfl
theorem q_1077 : Cond.static yL_digitSum ∈ LW := LW_of 1077 (by decide +kernel) rfl
theorem q_1078 : Cond.codeWith yL_digitSum cL_digitSum 6 (some .int) [(0, 12, 15, 13)] ∈ LW := LW_of 1078 (by decide +kernel) rfl
theorem q_1083 : Cond.methodLink RL 213 yL_isMirror ∈ LW := LW_of 1083 (by decide +kernel) rfl
theorem q_1084 : Cond.static yL_isMirror ∈ LW := LW_of 1084 (by decide +kernel) rfl
theorem q_1085 : Cond.codeWith yL_isMirror cL_isMirror 6 (some .int) [(0, 19, 22, 13)] ∈ LW := LW_of 1085 (by decide +kernel) rfl
theorem q_1090 : Cond.methodLink RL 220 yL_count ∈ LW := LW_of 1090 (by decide +kernel) rfl
theorem q_1091 : Cond.static yL_count ∈ LW := LW_of 1091 (by decide +kernel) rfl
theorem q_1092 : Cond.codeWith yL_count cL_count 4 (some .int) [(0, 9, 12, 13)] ∈ LW := LW_of 1092 (by decide +kernel) rfl
theorem q_1097 : Cond.methodLink RL 223 yL_leading ∈ LW := LW_of 1097 (by decide +kernel) rfl
theorem q_1098 : Cond.static yL_leading ∈ LW := LW_of 1098 (by decide +kernel) rfl
theorem q_1099 : Cond.codeWith yL_leading cL_leading 4 (some .int) [(0, 9, 12, 13)] ∈ LW := LW_of 1099 (by decide +kernel) rfl
theorem q_1105 : Cond.methodLink RL 226 yL_trailing ∈ LW := LW_of 1105 (by decide +kernel) rfl
theorem q_1106 : Cond.static yL_trailing ∈ LW := LW_of 1106 (by decide +kernel) rfl
theorem q_1107 : Cond.codeWith yL_trailing cL_trailing 4 (some .int) [(0, 9, 12, 13)] ∈ LW := LW_of 1107 (by decide +kernel) rfl
theorem q_1113 : Cond.methodLink RL 229 yL_leadingOnes ∈ LW := LW_of 1113 (by decide +kernel) rfl
theorem q_1114 : Cond.static yL_leadingOnes ∈ LW := LW_of 1114 (by decide +kernel) rfl
theorem q_1115 : Cond.codeWith yL_leadingOnes cL_leadingOnes 4 (some .int) [(0, 9, 12, 13)] ∈ LW := LW_of 1115 (by decide +kernel) rfl
theorem q_1124 : Cond.methodLink RL 232 yL_trailingOnes ∈ LW := LW_of 1124 (by decide +kernel) rfl
theorem q_1125 : Cond.static yL_trailingOnes ∈ LW := LW_of 1125 (by decide +kernel) rfl
theorem q_1126 : Cond.codeWith yL_trailingOnes cL_trailingOnes 4 (some .int) [(0, 9, 12, 13)] ∈ LW := LW_of 1126 (by decide +kernel) rfl
theorem q_1132 : Cond.methodLink RL 235 yL_sign ∈ LW := LW_of 1132 (by decide +kernel) rfl
theorem q_1133 : Cond.static yL_sign ∈ LW := LW_of 1133 (by decide +kernel) rfl
theorem q_1134 : Cond.codeWith yL_sign cL_sign 4 (some .int) [(0, 9, 12, 13)] ∈ LW := LW_of 1134 (by decide +kernel) rfl
theorem q_1142 : Cond.methodLink RL 238 yL_reverse ∈ LW := LW_of 1142 (by decide +kernel) rfl
theorem q_1143 : Cond.static yL_reverse ∈ LW := LW_of 1143 (by decide +kernel) rfl
theorem q_1144 : Cond.codeWith yL_reverse cL_reverse 4 (some .int) [(0, 8, 11, 13)] ∈ LW := LW_of 1144 (by decide +kernel) rfl
theorem q_1151 : Cond.methodLink RL 241 yL_reverseBytes ∈ LW := LW_of 1151 (by decide +kernel) rfl
theorem q_1152 : Cond.static yL_reverseBytes ∈ LW := LW_of 1152 (by decide +kernel) rfl
theorem q_1153 : Cond.codeWith yL_reverseBytes cL_reverseBytes 4 (some .int) [(0, 8, 11, 13)] ∈ LW := LW_of 1153 (by decide +kernel) rfl
theorem q_1159 : Cond.methodLink RL 244 yL_rotate ∈ LW := LW_of 1159 (by decide +kernel) rfl
theorem q_1160 : Cond.static yL_rotate ∈ LW := LW_of 1160 (by decide +kernel) rfl
theorem q_1161 : Cond.codeWith yL_rotate cL_rotate 6 (some .int) [(0, 11, 14, 13)] ∈ LW := LW_of 1161 (by decide +kernel) rfl
theorem q_1167 : Cond.methodLink RL 247 yL_highest ∈ LW := LW_of 1167 (by decide +kernel) rfl
theorem q_1168 : Cond.static yL_highest ∈ LW := LW_of 1168 (by decide +kernel) rfl
theorem q_1169 : Cond.codeWith yL_highest cL_highest 4 (some .int) [(0, 8, 11, 13)] ∈ LW := LW_of 1169 (by decide +kernel) rfl
theorem q_1175 : Cond.methodLink RL 250 yL_lowest ∈ LW := LW_of 1175 (by decide +kernel) rfl
theorem q_1176 : Cond.static yL_lowest ∈ LW := LW_of 1176 (by decide +kernel) rfl
theorem q_1177 : Cond.codeWith yL_lowest cL_lowest 4 (some .int) [(0, 8, 11, 13)] ∈ LW := LW_of 1177 (by decide +kernel) rfl
theorem q_1183 : Cond.methodLink RL 253 yL_spread ∈ LW := LW_of 1183 (by decide +kernel) rfl
theorem q_1184 : Cond.static yL_spread ∈ LW := LW_of 1184 (by decide +kernel) rfl
theorem q_1185 : Cond.codeWith yL_spread cL_spread 4 (some .int) [(0, 8, 11, 13)] ∈ LW := LW_of 1185 (by decide +kernel) rfl
theorem q_1191 : Cond.methodLink RL 256 yL_combine ∈ LW := LW_of 1191 (by decide +kernel) rfl
theorem q_1192 : Cond.static yL_combine ∈ LW := LW_of 1192 (by decide +kernel) rfl
theorem q_1193 : Cond.codeWith yL_combine cL_combine 6 (some .int) [(0, 11, 14, 13), (0, 11, 18, 32)] ∈ LW := LW_of 1193 (by decide +kernel) rfl
theorem q_1200 : Cond.methodLink RL 260 yL_divide ∈ LW := LW_of 1200 (by decide +kernel) rfl
theorem q_1201 : Cond.static yL_divide ∈ LW := LW_of 1201 (by decide +kernel) rfl
theorem q_1202 : Cond.codeWith yL_divide cL_divide 7 (some .int) [(0, 21, 24, 13)] ∈ LW := LW_of 1202 (by decide +kernel) rfl
theorem q_1208 : Cond.methodLink RL 263 yL_compare ∈ LW := LW_of 1208 (by decide +kernel) rfl
theorem q_1209 : Cond.static yL_compare ∈ LW := LW_of 1209 (by decide +kernel) rfl
theorem q_1210 : Cond.codeWith yL_compare cL_compare 6 (some .int) [(0, 12, 15, 13)] ∈ LW := LW_of 1210 (by decide +kernel) rfl
theorem q_1216 : Cond.methodLink RL 279 yL_run ∈ LW := LW_of 1216 (by decide +kernel) rfl
theorem q_1217 : Cond.static yL_run ∈ LW := LW_of 1217 (by decide +kernel) rfl
theorem q_1218 : Cond.codeWith yL_run cL_run 3 (some .int) [(0, 8, 11, 23)] ∈ LW := LW_of 1218 (by decide +kernel) rfl
theorem q_1225 : Cond.methodLink RL 146 yX13_thrown ∈ LW := LW_of 1225 (by decide +kernel) rfl
theorem q_1226 : Cond.instanceMethod yX13_thrown ∈ LW := LW_of 1226 (by decide +kernel) rfl
theorem q_1227 : Cond.selects yX13_thrown.cls yX13_thrown yX13_thrown ∈ LW := LW_of 1227 (by decide +kernel) rfl
theorem q_1228 : Cond.code yX13_thrown cX13_thrown 1 (some .int) ∈ LW := LW_of 1228 (by decide +kernel) rfl
theorem q_1328 : Cond.methodLink RL 132 yX13_setWide ∈ LW := LW_of 1328 (by decide +kernel) rfl
theorem q_1329 : Cond.instanceMethod yX13_setWide ∈ LW := LW_of 1329 (by decide +kernel) rfl
theorem q_1330 : Cond.selects yX13_setWide.cls yX13_setWide yX13_setWide ∈ LW := LW_of 1330 (by decide +kernel) rfl
theorem q_1331 : Cond.code yX13_setWide cX13_setWide 3 (some .boolean) ∈ LW := LW_of 1331 (by decide +kernel) rfl
theorem q_1332 : Cond.methodLink RL 137 yX13_isWide ∈ LW := LW_of 1332 (by decide +kernel) rfl
theorem q_1333 : Cond.instanceMethod yX13_isWide ∈ LW := LW_of 1333 (by decide +kernel) rfl
theorem q_1334 : Cond.selects yX13_isWide.cls yX13_isWide yX13_isWide ∈ LW := LW_of 1334 (by decide +kernel) rfl
theorem q_1335 : Cond.code yX13_isWide cX13_isWide 1 (some .boolean) ∈ LW := LW_of 1335 (by decide +kernel) rfl
theorem q_1336 : Cond.methodLink RL 145 yX13_set ∈ LW := LW_of 1336 (by decide +kernel) rfl
theorem q_1337 : Cond.instanceMethod yX13_set ∈ LW := LW_of 1337 (by decide +kernel) rfl
theorem q_1338 : Cond.selects yX13_set.cls yX13_set yX13_set ∈ LW := LW_of 1338 (by decide +kernel) rfl
theorem q_1339 : Cond.code yX13_set cX13_set 6 (some .long) ∈ LW := LW_of 1339 (by decide +kernel) rfl
theorem q_1367 : Cond.methodLink RL 153 yX13_fill ∈ LW := LW_of 1367 (by decide +kernel) rfl
theorem q_1368 : Cond.instanceMethod yX13_fill ∈ LW := LW_of 1368 (by decide +kernel) rfl
theorem q_1369 : Cond.selects yX13_fill.cls yX13_fill yX13_fill ∈ LW := LW_of 1369 (by decide +kernel) rfl
theorem q_1370 : Cond.code yX13_fill cX13_fill 8 (some .long) ∈ LW := LW_of 1370 (by decide +kernel) rfl
theorem q_1371 : Cond.methodLink RL 157 yX13_number ∈ LW := LW_of 1371 (by decide +kernel) rfl
theorem q_1372 : Cond.instanceMethod yX13_number ∈ LW := LW_of 1372 (by decide +kernel) rfl
theorem q_1373 : Cond.selects yX13_number.cls yX13_number yX13_number ∈ LW := LW_of 1373 (by decide +kernel) rfl
theorem q_1374 : Cond.code yX13_number cX13_number 2 (some .long) ∈ LW := LW_of 1374 (by decide +kernel) rfl
theorem q_1375 : Cond.methodLink RL 161 yX13_type ∈ LW := LW_of 1375 (by decide +kernel) rfl
theorem q_1376 : Cond.instanceMethod yX13_type ∈ LW := LW_of 1376 (by decide +kernel) rfl
theorem q_1377 : Cond.selects yX13_type.cls yX13_type yX13_type ∈ LW := LW_of 1377 (by decide +kernel) rfl
theorem q_1378 : Cond.code yX13_type cX13_type 6 (some .int) ∈ LW := LW_of 1378 (by decide +kernel) rfl
theorem q_1384 : Cond.methodLink RL 165 yX13_clearText ∈ LW := LW_of 1384 (by decide +kernel) rfl
theorem q_1385 : Cond.instanceMethod yX13_clearText ∈ LW := LW_of 1385 (by decide +kernel) rfl
theorem q_1386 : Cond.selects yX13_clearText.cls yX13_clearText yX13_clearText ∈ LW := LW_of 1386 (by decide +kernel) rfl
theorem q_1387 : Cond.code yX13_clearText cX13_clearText 2 (some .int) ∈ LW := LW_of 1387 (by decide +kernel) rfl
theorem q_1388 : Cond.methodLink RL 169 yX13_textLength ∈ LW := LW_of 1388 (by decide +kernel) rfl
theorem q_1389 : Cond.instanceMethod yX13_textLength ∈ LW := LW_of 1389 (by decide +kernel) rfl
theorem q_1390 : Cond.selects yX13_textLength.cls yX13_textLength yX13_textLength ∈ LW := LW_of 1390 (by decide +kernel) rfl
theorem q_1391 : Cond.code yX13_textLength cX13_textLength 1 (some .int) ∈ LW := LW_of 1391 (by decide +kernel) rfl
theorem q_1392 : Cond.methodLink RL 172 yX13_textAt ∈ LW := LW_of 1392 (by decide +kernel) rfl
theorem q_1393 : Cond.instanceMethod yX13_textAt ∈ LW := LW_of 1393 (by decide +kernel) rfl
theorem q_1394 : Cond.selects yX13_textAt.cls yX13_textAt yX13_textAt ∈ LW := LW_of 1394 (by decide +kernel) rfl
theorem q_1395 : Cond.code yX13_textAt cX13_textAt 2 (some .int) ∈ LW := LW_of 1395 (by decide +kernel) rfl
theorem q_1396 : Cond.methodLink RL 175 yX13_example ∈ LW := LW_of 1396 (by decide +kernel) rfl
theorem q_1397 : Cond.instanceMethod yX13_example ∈ LW := LW_of 1397 (by decide +kernel) rfl
theorem q_1398 : Cond.selects yX13_example.cls yX13_example yX13_example ∈ LW := LW_of 1398 (by decide +kernel) rfl
theorem q_1399 : Cond.code yX13_example cX13_example 5 (some .int) ∈ LW := LW_of 1399 (by decide +kernel) rfl
theorem q_1408 : Cond.methodLink RL 179 yX13_read ∈ LW := LW_of 1408 (by decide +kernel) rfl
theorem q_1409 : Cond.instanceMethod yX13_read ∈ LW := LW_of 1409 (by decide +kernel) rfl
theorem q_1410 : Cond.selects yX13_read.cls yX13_read yX13_read ∈ LW := LW_of 1410 (by decide +kernel) rfl
theorem q_1411 : Cond.code yX13_read cX13_read 6 (some .boolean) ∈ LW := LW_of 1411 (by decide +kernel) rfl
theorem q_1438 : Cond.methodLink RL 183 yX13_write ∈ LW := LW_of 1438 (by decide +kernel) rfl
theorem q_1439 : Cond.instanceMethod yX13_write ∈ LW := LW_of 1439 (by decide +kernel) rfl
theorem q_1440 : Cond.selects yX13_write.cls yX13_write yX13_write ∈ LW := LW_of 1440 (by decide +kernel) rfl
theorem q_1441 : Cond.code yX13_write cX13_write 4 (some .int) ∈ LW := LW_of 1441 (by decide +kernel) rfl
theorem q_1460 : Cond.methodLink RL 187 yX13_writeBits ∈ LW := LW_of 1460 (by decide +kernel) rfl
theorem q_1461 : Cond.instanceMethod yX13_writeBits ∈ LW := LW_of 1461 (by decide +kernel) rfl
theorem q_1462 : Cond.selects yX13_writeBits.cls yX13_writeBits yX13_writeBits ∈ LW := LW_of 1462 (by decide +kernel) rfl
theorem q_1463 : Cond.code yX13_writeBits cX13_writeBits 3 (some .int) ∈ LW := LW_of 1463 (by decide +kernel) rfl
theorem q_1464 : Cond.methodLink RL 191 yX13_writeTen ∈ LW := LW_of 1464 (by decide +kernel) rfl
theorem q_1465 : Cond.instanceMethod yX13_writeTen ∈ LW := LW_of 1465 (by decide +kernel) rfl
theorem q_1466 : Cond.selects yX13_writeTen.cls yX13_writeTen yX13_writeTen ∈ LW := LW_of 1466 (by decide +kernel) rfl
theorem q_1467 : Cond.code yX13_writeTen cX13_writeTen 3 (some .int) ∈ LW := LW_of 1467 (by decide +kernel) rfl
theorem q_1468 : Cond.methodLink RL 195 yX13_pageLength ∈ LW := LW_of 1468 (by decide +kernel) rfl
theorem q_1469 : Cond.instanceMethod yX13_pageLength ∈ LW := LW_of 1469 (by decide +kernel) rfl
theorem q_1470 : Cond.selects yX13_pageLength.cls yX13_pageLength yX13_pageLength ∈ LW := LW_of 1470 (by decide +kernel) rfl
theorem q_1471 : Cond.code yX13_pageLength cX13_pageLength 1 (some .int) ∈ LW := LW_of 1471 (by decide +kernel) rfl
theorem q_1472 : Cond.methodLink RL 198 yX13_pageAt ∈ LW := LW_of 1472 (by decide +kernel) rfl
theorem q_1473 : Cond.instanceMethod yX13_pageAt ∈ LW := LW_of 1473 (by decide +kernel) rfl
theorem q_1474 : Cond.selects yX13_pageAt.cls yX13_pageAt yX13_pageAt ∈ LW := LW_of 1474 (by decide +kernel) rfl
theorem q_1475 : Cond.code yX13_pageAt cX13_pageAt 2 (some .int) ∈ LW := LW_of 1475 (by decide +kernel) rfl
theorem q_1476 : Cond.methodLink RL 202 yX13_copyPage ∈ LW := LW_of 1476 (by decide +kernel) rfl
theorem q_1477 : Cond.instanceMethod yX13_copyPage ∈ LW := LW_of 1477 (by decide +kernel) rfl
theorem q_1478 : Cond.selects yX13_copyPage.cls yX13_copyPage yX13_copyPage ∈ LW := LW_of 1478 (by decide +kernel) rfl
theorem q_1479 : Cond.code yX13_copyPage cX13_copyPage 3 (some .int) ∈ LW := LW_of 1479 (by decide +kernel) rfl
theorem q_1480 : Cond.methodLink RL 205 yX13_readPage ∈ LW := LW_of 1480 (by decide +kernel) rfl
theorem q_1481 : Cond.instanceMethod yX13_readPage ∈ LW := LW_of 1481 (by decide +kernel) rfl
theorem q_1482 : Cond.selects yX13_readPage.cls yX13_readPage yX13_readPage ∈ LW := LW_of 1482 (by decide +kernel) rfl
theorem q_1483 : Cond.code yX13_readPage cX13_readPage 4 (some .boolean) ∈ LW := LW_of 1483 (by decide +kernel) rfl
theorem q_1489 : Cond.methodLink RL 209 yX13_digitAt ∈ LW := LW_of 1489 (by decide +kernel) rfl
theorem q_1490 : Cond.instanceMethod yX13_digitAt ∈ LW := LW_of 1490 (by decide +kernel) rfl
theorem q_1491 : Cond.selects yX13_digitAt.cls yX13_digitAt yX13_digitAt ∈ LW := LW_of 1491 (by decide +kernel) rfl
theorem q_1492 : Cond.code yX13_digitAt cX13_digitAt 6 (some .int) ∈ LW := LW_of 1492 (by decide +kernel) rfl
theorem q_1494 : Cond.methodLink RL 212 yX13_digitSum ∈ LW := LW_of 1494 (by decide +kernel) rfl
theorem q_1495 : Cond.instanceMethod yX13_digitSum ∈ LW := LW_of 1495 (by decide +kernel) rfl
theorem q_1496 : Cond.selects yX13_digitSum.cls yX13_digitSum yX13_digitSum ∈ LW := LW_of 1496 (by decide +kernel) rfl
theorem q_1497 : Cond.code yX13_digitSum cX13_digitSum 6 (some .int) ∈ LW := LW_of 1497 (by decide +kernel) rfl
theorem q_1498 : Cond.methodLink RL 215 yX13_isMirror ∈ LW := LW_of 1498 (by decide +kernel) rfl
theorem q_1499 : Cond.instanceMethod yX13_isMirror ∈ LW := LW_of 1499 (by decide +kernel) rfl
theorem q_1500 : Cond.selects yX13_isMirror.cls yX13_isMirror yX13_isMirror ∈ LW := LW_of 1500 (by decide +kernel) rfl
theorem q_1501 : Cond.code yX13_isMirror cX13_isMirror 5 (some .boolean) ∈ LW := LW_of 1501 (by decide +kernel) rfl
theorem q_1502 : Cond.methodLink RL 219 yX13_longest ∈ LW := LW_of 1502 (by decide +kernel) rfl
theorem q_1503 : Cond.instanceMethod yX13_longest ∈ LW := LW_of 1503 (by decide +kernel) rfl
theorem q_1504 : Cond.selects yX13_longest.cls yX13_longest yX13_longest ∈ LW := LW_of 1504 (by decide +kernel) rfl
theorem q_1505 : Cond.code yX13_longest cX13_longest 6 (some .int) ∈ LW := LW_of 1505 (by decide +kernel) rfl
theorem q_1510 : Cond.methodLink RL 222 yX13_count ∈ LW := LW_of 1510 (by decide +kernel) rfl
theorem q_1511 : Cond.instanceMethod yX13_count ∈ LW := LW_of 1511 (by decide +kernel) rfl
theorem q_1512 : Cond.selects yX13_count.cls yX13_count yX13_count ∈ LW := LW_of 1512 (by decide +kernel) rfl
theorem q_1513 : Cond.code yX13_count cX13_count 2 (some .int) ∈ LW := LW_of 1513 (by decide +kernel) rfl
theorem q_1518 : Cond.methodLink RL 225 yX13_leading ∈ LW := LW_of 1518 (by decide +kernel) rfl
theorem q_1519 : Cond.instanceMethod yX13_leading ∈ LW := LW_of 1519 (by decide +kernel) rfl
theorem q_1520 : Cond.selects yX13_leading.cls yX13_leading yX13_leading ∈ LW := LW_of 1520 (by decide +kernel) rfl
theorem q_1521 : Cond.code yX13_leading cX13_leading 2 (some .int) ∈ LW := LW_of 1521 (by decide +kernel) rfl
theorem q_1526 : Cond.methodLink RL 228 yX13_trailing ∈ LW := LW_of 1526 (by decide +kernel) rfl
theorem q_1527 : Cond.instanceMethod yX13_trailing ∈ LW := LW_of 1527 (by decide +kernel) rfl
theorem q_1528 : Cond.selects yX13_trailing.cls yX13_trailing yX13_trailing ∈ LW := LW_of 1528 (by decide +kernel) rfl
theorem q_1529 : Cond.code yX13_trailing cX13_trailing 2 (some .int) ∈ LW := LW_of 1529 (by decide +kernel) rfl
theorem q_1530 : Cond.methodLink RL 231 yX13_leadingOnes ∈ LW := LW_of 1530 (by decide +kernel) rfl
theorem q_1531 : Cond.instanceMethod yX13_leadingOnes ∈ LW := LW_of 1531 (by decide +kernel) rfl
theorem q_1532 : Cond.selects yX13_leadingOnes.cls yX13_leadingOnes yX13_leadingOnes ∈ LW := LW_of 1532 (by decide +kernel) rfl
theorem q_1533 : Cond.code yX13_leadingOnes cX13_leadingOnes 2 (some .int) ∈ LW := LW_of 1533 (by decide +kernel) rfl
theorem q_1534 : Cond.methodLink RL 234 yX13_trailingOnes ∈ LW := LW_of 1534 (by decide +kernel) rfl
theorem q_1535 : Cond.instanceMethod yX13_trailingOnes ∈ LW := LW_of 1535 (by decide +kernel) rfl
theorem q_1536 : Cond.selects yX13_trailingOnes.cls yX13_trailingOnes yX13_trailingOnes ∈ LW := LW_of 1536 (by decide +kernel) rfl
theorem q_1537 : Cond.code yX13_trailingOnes cX13_trailingOnes 2 (some .int) ∈ LW := LW_of 1537 (by decide +kernel) rfl
theorem q_1538 : Cond.methodLink RL 237 yX13_sign ∈ LW := LW_of 1538 (by decide +kernel) rfl
theorem q_1539 : Cond.instanceMethod yX13_sign ∈ LW := LW_of 1539 (by decide +kernel) rfl
theorem q_1540 : Cond.selects yX13_sign.cls yX13_sign yX13_sign ∈ LW := LW_of 1540 (by decide +kernel) rfl
theorem q_1541 : Cond.code yX13_sign cX13_sign 2 (some .int) ∈ LW := LW_of 1541 (by decide +kernel) rfl
theorem q_1543 : Cond.methodLink RL 240 yX13_reverse ∈ LW := LW_of 1543 (by decide +kernel) rfl
theorem q_1544 : Cond.instanceMethod yX13_reverse ∈ LW := LW_of 1544 (by decide +kernel) rfl
theorem q_1545 : Cond.selects yX13_reverse.cls yX13_reverse yX13_reverse ∈ LW := LW_of 1545 (by decide +kernel) rfl
theorem q_1546 : Cond.code yX13_reverse cX13_reverse 2 (some .long) ∈ LW := LW_of 1546 (by decide +kernel) rfl
theorem q_1551 : Cond.methodLink RL 243 yX13_reverseBytes ∈ LW := LW_of 1551 (by decide +kernel) rfl
theorem q_1552 : Cond.instanceMethod yX13_reverseBytes ∈ LW := LW_of 1552 (by decide +kernel) rfl
theorem q_1553 : Cond.selects yX13_reverseBytes.cls yX13_reverseBytes yX13_reverseBytes ∈ LW := LW_of 1553 (by decide +kernel) rfl
theorem q_1554 : Cond.code yX13_reverseBytes cX13_reverseBytes 2 (some .long) ∈ LW := LW_of 1554 (by decide +kernel) rfl
theorem q_1559 : Cond.methodLink RL 246 yX13_rotate ∈ LW := LW_of 1559 (by decide +kernel) rfl
theorem q_1560 : Cond.instanceMethod yX13_rotate ∈ LW := LW_of 1560 (by decide +kernel) rfl
theorem q_1561 : Cond.selects yX13_rotate.cls yX13_rotate yX13_rotate ∈ LW := LW_of 1561 (by decide +kernel) rfl
theorem q_1562 : Cond.code yX13_rotate cX13_rotate 4 (some .long) ∈ LW := LW_of 1562 (by decide +kernel) rfl
theorem q_1567 : Cond.methodLink RL 249 yX13_highest ∈ LW := LW_of 1567 (by decide +kernel) rfl
theorem q_1568 : Cond.instanceMethod yX13_highest ∈ LW := LW_of 1568 (by decide +kernel) rfl
theorem q_1569 : Cond.selects yX13_highest.cls yX13_highest yX13_highest ∈ LW := LW_of 1569 (by decide +kernel) rfl
theorem q_1570 : Cond.code yX13_highest cX13_highest 2 (some .long) ∈ LW := LW_of 1570 (by decide +kernel) rfl
theorem q_1576 : Cond.methodLink RL 252 yX13_lowest ∈ LW := LW_of 1576 (by decide +kernel) rfl
theorem q_1577 : Cond.instanceMethod yX13_lowest ∈ LW := LW_of 1577 (by decide +kernel) rfl
theorem q_1578 : Cond.selects yX13_lowest.cls yX13_lowest yX13_lowest ∈ LW := LW_of 1578 (by decide +kernel) rfl
theorem q_1579 : Cond.code yX13_lowest cX13_lowest 2 (some .long) ∈ LW := LW_of 1579 (by decide +kernel) rfl
theorem q_1580 : Cond.methodLink RL 255 yX13_spread ∈ LW := LW_of 1580 (by decide +kernel) rfl
theorem q_1581 : Cond.instanceMethod yX13_spread ∈ LW := LW_of 1581 (by decide +kernel) rfl
theorem q_1582 : Cond.selects yX13_spread.cls yX13_spread yX13_spread ∈ LW := LW_of 1582 (by decide +kernel) rfl
theorem q_1583 : Cond.code yX13_spread cX13_spread 2 (some .long) ∈ LW := LW_of 1583 (by decide +kernel) rfl
theorem q_1588 : Cond.methodLink RL 259 yX13_combine ∈ LW := LW_of 1588 (by decide +kernel) rfl
theorem q_1589 : Cond.instanceMethod yX13_combine ∈ LW := LW_of 1589 (by decide +kernel) rfl
theorem q_1590 : Cond.selects yX13_combine.cls yX13_combine yX13_combine ∈ LW := LW_of 1590 (by decide +kernel) rfl
theorem q_1591 : Cond.code yX13_combine cX13_combine 4 (some .long) ∈ LW := LW_of 1591 (by decide +kernel) rfl
theorem q_1603 : Cond.methodLink RL 262 yX13_divide ∈ LW := LW_of 1603 (by decide +kernel) rfl
theorem q_1604 : Cond.instanceMethod yX13_divide ∈ LW := LW_of 1604 (by decide +kernel) rfl
theorem q_1605 : Cond.selects yX13_divide.cls yX13_divide yX13_divide ∈ LW := LW_of 1605 (by decide +kernel) rfl
theorem q_1606 : Cond.code yX13_divide cX13_divide 5 (some .boolean) ∈ LW := LW_of 1606 (by decide +kernel) rfl
theorem q_1614 : Cond.methodLink RL 265 yX13_compare ∈ LW := LW_of 1614 (by decide +kernel) rfl
theorem q_1615 : Cond.instanceMethod yX13_compare ∈ LW := LW_of 1615 (by decide +kernel) rfl
theorem q_1616 : Cond.selects yX13_compare.cls yX13_compare yX13_compare ∈ LW := LW_of 1616 (by decide +kernel) rfl
theorem q_1617 : Cond.code yX13_compare cX13_compare 4 (some .int) ∈ LW := LW_of 1617 (by decide +kernel) rfl
theorem q_1622 : Cond.methodLink RL 270 yX13_sort ∈ LW := LW_of 1622 (by decide +kernel) rfl
theorem q_1623 : Cond.instanceMethod yX13_sort ∈ LW := LW_of 1623 (by decide +kernel) rfl
theorem q_1624 : Cond.selects yX13_sort.cls yX13_sort yX13_sort ∈ LW := LW_of 1624 (by decide +kernel) rfl
theorem q_1625 : Cond.code yX13_sort cX13_sort 2 (some .int) ∈ LW := LW_of 1625 (by decide +kernel) rfl
theorem q_1631 : Cond.methodLink RL 274 yX13_errorKind ∈ LW := LW_of 1631 (by decide +kernel) rfl
theorem q_1632 : Cond.instanceMethod yX13_errorKind ∈ LW := LW_of 1632 (by decide +kernel) rfl
theorem q_1633 : Cond.selects yX13_errorKind.cls yX13_errorKind yX13_errorKind ∈ LW := LW_of 1633 (by decide +kernel) rfl
theorem q_1634 : Cond.code yX13_errorKind cX13_errorKind 1 (some .int) ∈ LW := LW_of 1634 (by decide +kernel) rfl
theorem q_2006 : Cond.methodLink RL 278 yX13_errorPlace ∈ LW := LW_of 2006 (by decide +kernel) rfl
theorem q_2007 : Cond.instanceMethod yX13_errorPlace ∈ LW := LW_of 2007 (by decide +kernel) rfl
theorem q_2008 : Cond.selects yX13_errorPlace.cls yX13_errorPlace yX13_errorPlace ∈ LW := LW_of 2008 (by decide +kernel) rfl
theorem q_2009 : Cond.code yX13_errorPlace cX13_errorPlace 1 (some .int) ∈ LW := LW_of 2009 (by decide +kernel) rfl
theorem q_2010 : Cond.methodLink RL 281 yX13_run ∈ LW := LW_of 2010 (by decide +kernel) rfl
theorem q_2011 : Cond.instanceMethod yX13_run ∈ LW := LW_of 2011 (by decide +kernel) rfl
theorem q_2012 : Cond.selects yX13_run.cls yX13_run yX13_run ∈ LW := LW_of 2012 (by decide +kernel) rfl
theorem q_2013 : Cond.code yX13_run cX13_run 1 (some .int) ∈ LW := LW_of 2013 (by decide +kernel) rfl
theorem q_2014 : Cond.methodLink RL 285 yX13_errors ∈ LW := LW_of 2014 (by decide +kernel) rfl
theorem q_2015 : Cond.instanceMethod yX13_errors ∈ LW := LW_of 2015 (by decide +kernel) rfl
theorem q_2016 : Cond.selects yX13_errors.cls yX13_errors yX13_errors ∈ LW := LW_of 2016 (by decide +kernel) rfl
theorem q_2017 : Cond.code yX13_errors cX13_errors 4 (some .int) ∈ LW := LW_of 2017 (by decide +kernel) rfl
theorem q_2036 : Cond.methodLink RL 290 yX13_meanCount ∈ LW := LW_of 2036 (by decide +kernel) rfl
theorem q_2037 : Cond.instanceMethod yX13_meanCount ∈ LW := LW_of 2037 (by decide +kernel) rfl
theorem q_2038 : Cond.selects yX13_meanCount.cls yX13_meanCount yX13_meanCount ∈ LW := LW_of 2038 (by decide +kernel) rfl
theorem q_2039 : Cond.code yX13_meanCount cX13_meanCount 3 (some .double) ∈ LW := LW_of 2039 (by decide +kernel) rfl
theorem q_2041 : Cond.methodLink RL 295 yX13_negativeShare ∈ LW := LW_of 2041 (by decide +kernel) rfl
theorem q_2042 : Cond.instanceMethod yX13_negativeShare ∈ LW := LW_of 2042 (by decide +kernel) rfl
theorem q_2043 : Cond.selects yX13_negativeShare.cls yX13_negativeShare yX13_negativeShare ∈ LW := LW_of 2043 (by decide +kernel) rfl
theorem q_2044 : Cond.code yX13_negativeShare cX13_negativeShare 3 (some .float) ∈ LW := LW_of 2044 (by decide +kernel) rfl
theorem q_2046 : Cond.constantLong RL 138 4294967295 ∈ LW := LW_of 2046 (by decide +kernel) rfl
theorem hyL_combine : yL_combine.cls ≠ "java/lang/invoke/MethodHandle" ∧ yL_combine.cls ≠ "java/lang/invoke/VarHandle" ∧ (parseMethodDescriptor yL_combine.desc).map (fun d => d.parameters.length) = some 5 := by decide +kernel
theorem hyL_compare : yL_compare.cls ≠ "java/lang/invoke/MethodHandle" ∧ yL_compare.cls ≠ "java/lang/invoke/VarHandle" ∧ (parseMethodDescriptor yL_compare.desc).map (fun d => d.parameters.length) = some 5 := by decide +kernel
theorem hyL_copyPage : yL_copyPage.cls ≠ "java/lang/invoke/MethodHandle" ∧ yL_copyPage.cls ≠ "java/lang/invoke/VarHandle" ∧ (parseMethodDescriptor yL_copyPage.desc).map (fun d => d.parameters.length) = some 2 := by decide +kernel
theorem hyL_count : yL_count.cls ≠ "java/lang/invoke/MethodHandle" ∧ yL_count.cls ≠ "java/lang/invoke/VarHandle" ∧ (parseMethodDescriptor yL_count.desc).map (fun d => d.parameters.length) = some 3 := by decide +kernel
theorem hyL_digitAt : yL_digitAt.cls ≠ "java/lang/invoke/MethodHandle" ∧ yL_digitAt.cls ≠ "java/lang/invoke/VarHandle" ∧ (parseMethodDescriptor yL_digitAt.desc).map (fun d => d.parameters.length) = some 6 := by decide +kernel
theorem hyL_digitSum : yL_digitSum.cls ≠ "java/lang/invoke/MethodHandle" ∧ yL_digitSum.cls ≠ "java/lang/invoke/VarHandle" ∧ (parseMethodDescriptor yL_digitSum.desc).map (fun d => d.parameters.length) = some 5 := by decide +kernel
theorem hyL_divide : yL_divide.cls ≠ "java/lang/invoke/MethodHandle" ∧ yL_divide.cls ≠ "java/lang/invoke/VarHandle" ∧ (parseMethodDescriptor yL_divide.desc).map (fun d => d.parameters.length) = some 6 := by decide +kernel
theorem hyL_example : yL_example.cls ≠ "java/lang/invoke/MethodHandle" ∧ yL_example.cls ≠ "java/lang/invoke/VarHandle" ∧ (parseMethodDescriptor yL_example.desc).map (fun d => d.parameters.length) = some 3 := by decide +kernel
theorem hyL_highest : yL_highest.cls ≠ "java/lang/invoke/MethodHandle" ∧ yL_highest.cls ≠ "java/lang/invoke/VarHandle" ∧ (parseMethodDescriptor yL_highest.desc).map (fun d => d.parameters.length) = some 3 := by decide +kernel
theorem hyL_isMirror : yL_isMirror.cls ≠ "java/lang/invoke/MethodHandle" ∧ yL_isMirror.cls ≠ "java/lang/invoke/VarHandle" ∧ (parseMethodDescriptor yL_isMirror.desc).map (fun d => d.parameters.length) = some 5 := by decide +kernel
theorem hyL_leading : yL_leading.cls ≠ "java/lang/invoke/MethodHandle" ∧ yL_leading.cls ≠ "java/lang/invoke/VarHandle" ∧ (parseMethodDescriptor yL_leading.desc).map (fun d => d.parameters.length) = some 3 := by decide +kernel
theorem hyL_leadingOnes : yL_leadingOnes.cls ≠ "java/lang/invoke/MethodHandle" ∧ yL_leadingOnes.cls ≠ "java/lang/invoke/VarHandle" ∧ (parseMethodDescriptor yL_leadingOnes.desc).map (fun d => d.parameters.length) = some 3 := by decide +kernel
theorem hyL_lowest : yL_lowest.cls ≠ "java/lang/invoke/MethodHandle" ∧ yL_lowest.cls ≠ "java/lang/invoke/VarHandle" ∧ (parseMethodDescriptor yL_lowest.desc).map (fun d => d.parameters.length) = some 3 := by decide +kernel
theorem hyL_number : yL_number.cls ≠ "java/lang/invoke/MethodHandle" ∧ yL_number.cls ≠ "java/lang/invoke/VarHandle" ∧ (parseMethodDescriptor yL_number.desc).map (fun d => d.parameters.length) = some 3 := by decide +kernel
theorem hyL_pageAt : yL_pageAt.cls ≠ "java/lang/invoke/MethodHandle" ∧ yL_pageAt.cls ≠ "java/lang/invoke/VarHandle" ∧ (parseMethodDescriptor yL_pageAt.desc).map (fun d => d.parameters.length) = some 3 := by decide +kernel
theorem hyL_read : yL_read.cls ≠ "java/lang/invoke/MethodHandle" ∧ yL_read.cls ≠ "java/lang/invoke/VarHandle" ∧ (parseMethodDescriptor yL_read.desc).map (fun d => d.parameters.length) = some 7 := by decide +kernel
theorem hyL_readPage : yL_readPage.cls ≠ "java/lang/invoke/MethodHandle" ∧ yL_readPage.cls ≠ "java/lang/invoke/VarHandle" ∧ (parseMethodDescriptor yL_readPage.desc).map (fun d => d.parameters.length) = some 5 := by decide +kernel
theorem hyL_reverse : yL_reverse.cls ≠ "java/lang/invoke/MethodHandle" ∧ yL_reverse.cls ≠ "java/lang/invoke/VarHandle" ∧ (parseMethodDescriptor yL_reverse.desc).map (fun d => d.parameters.length) = some 3 := by decide +kernel
theorem hyL_reverseBytes : yL_reverseBytes.cls ≠ "java/lang/invoke/MethodHandle" ∧ yL_reverseBytes.cls ≠ "java/lang/invoke/VarHandle" ∧ (parseMethodDescriptor yL_reverseBytes.desc).map (fun d => d.parameters.length) = some 3 := by decide +kernel
theorem hyL_rotate : yL_rotate.cls ≠ "java/lang/invoke/MethodHandle" ∧ yL_rotate.cls ≠ "java/lang/invoke/VarHandle" ∧ (parseMethodDescriptor yL_rotate.desc).map (fun d => d.parameters.length) = some 5 := by decide +kernel
theorem hyL_run : yL_run.cls ≠ "java/lang/invoke/MethodHandle" ∧ yL_run.cls ≠ "java/lang/invoke/VarHandle" ∧ (parseMethodDescriptor yL_run.desc).map (fun d => d.parameters.length) = some 2 := by decide +kernel
theorem hyL_set : yL_set.cls ≠ "java/lang/invoke/MethodHandle" ∧ yL_set.cls ≠ "java/lang/invoke/VarHandle" ∧ (parseMethodDescriptor yL_set.desc).map (fun d => d.parameters.length) = some 4 := by decide +kernel
theorem hyL_sign : yL_sign.cls ≠ "java/lang/invoke/MethodHandle" ∧ yL_sign.cls ≠ "java/lang/invoke/VarHandle" ∧ (parseMethodDescriptor yL_sign.desc).map (fun d => d.parameters.length) = some 3 := by decide +kernel
theorem hyL_spread : yL_spread.cls ≠ "java/lang/invoke/MethodHandle" ∧ yL_spread.cls ≠ "java/lang/invoke/VarHandle" ∧ (parseMethodDescriptor yL_spread.desc).map (fun d => d.parameters.length) = some 3 := by decide +kernel
theorem hyL_textAt : yL_textAt.cls ≠ "java/lang/invoke/MethodHandle" ∧ yL_textAt.cls ≠ "java/lang/invoke/VarHandle" ∧ (parseMethodDescriptor yL_textAt.desc).map (fun d => d.parameters.length) = some 3 := by decide +kernel
theorem hyL_trailing : yL_trailing.cls ≠ "java/lang/invoke/MethodHandle" ∧ yL_trailing.cls ≠ "java/lang/invoke/VarHandle" ∧ (parseMethodDescriptor yL_trailing.desc).map (fun d => d.parameters.length) = some 3 := by decide +kernel
theorem hyL_trailingOnes : yL_trailingOnes.cls ≠ "java/lang/invoke/MethodHandle" ∧ yL_trailingOnes.cls ≠ "java/lang/invoke/VarHandle" ∧ (parseMethodDescriptor yL_trailingOnes.desc).map (fun d => d.parameters.length) = some 3 := by decide +kernel
theorem hyL_type : yL_type.cls ≠ "java/lang/invoke/MethodHandle" ∧ yL_type.cls ≠ "java/lang/invoke/VarHandle" ∧ (parseMethodDescriptor yL_type.desc).map (fun d => d.parameters.length) = some 3 := by decide +kernel
theorem hyL_write : yL_write.cls ≠ "java/lang/invoke/MethodHandle" ∧ yL_write.cls ≠ "java/lang/invoke/VarHandle" ∧ (parseMethodDescriptor yL_write.desc).map (fun d => d.parameters.length) = some 5 := by decide +kernel
theorem hyL_writeBits : yL_writeBits.cls ≠ "java/lang/invoke/MethodHandle" ∧ yL_writeBits.cls ≠ "java/lang/invoke/VarHandle" ∧ (parseMethodDescriptor yL_writeBits.desc).map (fun d => d.parameters.length) = some 4 := by decide +kernel
theorem hyL_writeTen : yL_writeTen.cls ≠ "java/lang/invoke/MethodHandle" ∧ yL_writeTen.cls ≠ "java/lang/invoke/VarHandle" ∧ (parseMethodDescriptor yL_writeTen.desc).map (fun d => d.parameters.length) = some 4 := by decide +kernel
theorem hyX11_clearText : yX11_clearText.cls ≠ "java/lang/invoke/MethodHandle" ∧ yX11_clearText.cls ≠ "java/lang/invoke/VarHandle" ∧ (parseMethodDescriptor yX11_clearText.desc).map (fun d => d.parameters.length) = some 0 := by decide +kernel
theorem hyX11_errorKind : yX11_errorKind.cls ≠ "java/lang/invoke/MethodHandle" ∧ yX11_errorKind.cls ≠ "java/lang/invoke/VarHandle" ∧ (parseMethodDescriptor yX11_errorKind.desc).map (fun d => d.parameters.length) = some 0 := by decide +kernel
theorem hyX11_errorPlace : yX11_errorPlace.cls ≠ "java/lang/invoke/MethodHandle" ∧ yX11_errorPlace.cls ≠ "java/lang/invoke/VarHandle" ∧ (parseMethodDescriptor yX11_errorPlace.desc).map (fun d => d.parameters.length) = some 0 := by decide +kernel
theorem hyX11_errors : yX11_errors.cls ≠ "java/lang/invoke/MethodHandle" ∧ yX11_errors.cls ≠ "java/lang/invoke/VarHandle" ∧ (parseMethodDescriptor yX11_errors.desc).map (fun d => d.parameters.length) = some 0 := by decide +kernel
theorem hyX11_fill : yX11_fill.cls ≠ "java/lang/invoke/MethodHandle" ∧ yX11_fill.cls ≠ "java/lang/invoke/VarHandle" ∧ (parseMethodDescriptor yX11_fill.desc).map (fun d => d.parameters.length) = some 2 := by decide +kernel
theorem hyX11_isWide : yX11_isWide.cls ≠ "java/lang/invoke/MethodHandle" ∧ yX11_isWide.cls ≠ "java/lang/invoke/VarHandle" ∧ (parseMethodDescriptor yX11_isWide.desc).map (fun d => d.parameters.length) = some 0 := by decide +kernel
theorem hyX11_longest : yX11_longest.cls ≠ "java/lang/invoke/MethodHandle" ∧ yX11_longest.cls ≠ "java/lang/invoke/VarHandle" ∧ (parseMethodDescriptor yX11_longest.desc).map (fun d => d.parameters.length) = some 2 := by decide +kernel
theorem hyX11_meanCount : yX11_meanCount.cls ≠ "java/lang/invoke/MethodHandle" ∧ yX11_meanCount.cls ≠ "java/lang/invoke/VarHandle" ∧ (parseMethodDescriptor yX11_meanCount.desc).map (fun d => d.parameters.length) = some 0 := by decide +kernel
theorem hyX11_negativeShare : yX11_negativeShare.cls ≠ "java/lang/invoke/MethodHandle" ∧ yX11_negativeShare.cls ≠ "java/lang/invoke/VarHandle" ∧ (parseMethodDescriptor yX11_negativeShare.desc).map (fun d => d.parameters.length) = some 0 := by decide +kernel
theorem hyX11_pageLength : yX11_pageLength.cls ≠ "java/lang/invoke/MethodHandle" ∧ yX11_pageLength.cls ≠ "java/lang/invoke/VarHandle" ∧ (parseMethodDescriptor yX11_pageLength.desc).map (fun d => d.parameters.length) = some 0 := by decide +kernel
theorem hyX11_setWide : yX11_setWide.cls ≠ "java/lang/invoke/MethodHandle" ∧ yX11_setWide.cls ≠ "java/lang/invoke/VarHandle" ∧ (parseMethodDescriptor yX11_setWide.desc).map (fun d => d.parameters.length) = some 1 := by decide +kernel
theorem hyX11_sort : yX11_sort.cls ≠ "java/lang/invoke/MethodHandle" ∧ yX11_sort.cls ≠ "java/lang/invoke/VarHandle" ∧ (parseMethodDescriptor yX11_sort.desc).map (fun d => d.parameters.length) = some 1 := by decide +kernel
theorem hyX11_textLength : yX11_textLength.cls ≠ "java/lang/invoke/MethodHandle" ∧ yX11_textLength.cls ≠ "java/lang/invoke/VarHandle" ∧ (parseMethodDescriptor yX11_textLength.desc).map (fun d => d.parameters.length) = some 0 := by decide +kernel
theorem hyX13_clearText : yX13_clearText.cls ≠ "java/lang/invoke/MethodHandle" ∧ yX13_clearText.cls ≠ "java/lang/invoke/VarHandle" ∧ (parseMethodDescriptor yX13_clearText.desc).map (fun d => d.parameters.length) = some 0 := by decide +kernel
theorem hyX13_combine : yX13_combine.cls ≠ "java/lang/invoke/MethodHandle" ∧ yX13_combine.cls ≠ "java/lang/invoke/VarHandle" ∧ (parseMethodDescriptor yX13_combine.desc).map (fun d => d.parameters.length) = some 3 := by decide +kernel
theorem hyX13_compare : yX13_compare.cls ≠ "java/lang/invoke/MethodHandle" ∧ yX13_compare.cls ≠ "java/lang/invoke/VarHandle" ∧ (parseMethodDescriptor yX13_compare.desc).map (fun d => d.parameters.length) = some 3 := by decide +kernel
theorem hyX13_copyPage : yX13_copyPage.cls ≠ "java/lang/invoke/MethodHandle" ∧ yX13_copyPage.cls ≠ "java/lang/invoke/VarHandle" ∧ (parseMethodDescriptor yX13_copyPage.desc).map (fun d => d.parameters.length) = some 0 := by decide +kernel
theorem hyX13_count : yX13_count.cls ≠ "java/lang/invoke/MethodHandle" ∧ yX13_count.cls ≠ "java/lang/invoke/VarHandle" ∧ (parseMethodDescriptor yX13_count.desc).map (fun d => d.parameters.length) = some 1 := by decide +kernel
theorem hyX13_digitAt : yX13_digitAt.cls ≠ "java/lang/invoke/MethodHandle" ∧ yX13_digitAt.cls ≠ "java/lang/invoke/VarHandle" ∧ (parseMethodDescriptor yX13_digitAt.desc).map (fun d => d.parameters.length) = some 4 := by decide +kernel
theorem hyX13_digitSum : yX13_digitSum.cls ≠ "java/lang/invoke/MethodHandle" ∧ yX13_digitSum.cls ≠ "java/lang/invoke/VarHandle" ∧ (parseMethodDescriptor yX13_digitSum.desc).map (fun d => d.parameters.length) = some 3 := by decide +kernel
theorem hyX13_divide : yX13_divide.cls ≠ "java/lang/invoke/MethodHandle" ∧ yX13_divide.cls ≠ "java/lang/invoke/VarHandle" ∧ (parseMethodDescriptor yX13_divide.desc).map (fun d => d.parameters.length) = some 4 := by decide +kernel
theorem hyX13_errorKind : yX13_errorKind.cls ≠ "java/lang/invoke/MethodHandle" ∧ yX13_errorKind.cls ≠ "java/lang/invoke/VarHandle" ∧ (parseMethodDescriptor yX13_errorKind.desc).map (fun d => d.parameters.length) = some 0 := by decide +kernel
theorem hyX13_errorPlace : yX13_errorPlace.cls ≠ "java/lang/invoke/MethodHandle" ∧ yX13_errorPlace.cls ≠ "java/lang/invoke/VarHandle" ∧ (parseMethodDescriptor yX13_errorPlace.desc).map (fun d => d.parameters.length) = some 0 := by decide +kernel
theorem hyX13_errors : yX13_errors.cls ≠ "java/lang/invoke/MethodHandle" ∧ yX13_errors.cls ≠ "java/lang/invoke/VarHandle" ∧ (parseMethodDescriptor yX13_errors.desc).map (fun d => d.parameters.length) = some 0 := by decide +kernel
theorem hyX13_example : yX13_example.cls ≠ "java/lang/invoke/MethodHandle" ∧ yX13_example.cls ≠ "java/lang/invoke/VarHandle" ∧ (parseMethodDescriptor yX13_example.desc).map (fun d => d.parameters.length) = some 1 := by decide +kernel
theorem hyX13_fill : yX13_fill.cls ≠ "java/lang/invoke/MethodHandle" ∧ yX13_fill.cls ≠ "java/lang/invoke/VarHandle" ∧ (parseMethodDescriptor yX13_fill.desc).map (fun d => d.parameters.length) = some 2 := by decide +kernel
theorem hyX13_highest : yX13_highest.cls ≠ "java/lang/invoke/MethodHandle" ∧ yX13_highest.cls ≠ "java/lang/invoke/VarHandle" ∧ (parseMethodDescriptor yX13_highest.desc).map (fun d => d.parameters.length) = some 1 := by decide +kernel
theorem hyX13_isMirror : yX13_isMirror.cls ≠ "java/lang/invoke/MethodHandle" ∧ yX13_isMirror.cls ≠ "java/lang/invoke/VarHandle" ∧ (parseMethodDescriptor yX13_isMirror.desc).map (fun d => d.parameters.length) = some 3 := by decide +kernel
theorem hyX13_isWide : yX13_isWide.cls ≠ "java/lang/invoke/MethodHandle" ∧ yX13_isWide.cls ≠ "java/lang/invoke/VarHandle" ∧ (parseMethodDescriptor yX13_isWide.desc).map (fun d => d.parameters.length) = some 0 := by decide +kernel
theorem hyX13_leading : yX13_leading.cls ≠ "java/lang/invoke/MethodHandle" ∧ yX13_leading.cls ≠ "java/lang/invoke/VarHandle" ∧ (parseMethodDescriptor yX13_leading.desc).map (fun d => d.parameters.length) = some 1 := by decide +kernel
theorem hyX13_leadingOnes : yX13_leadingOnes.cls ≠ "java/lang/invoke/MethodHandle" ∧ yX13_leadingOnes.cls ≠ "java/lang/invoke/VarHandle" ∧ (parseMethodDescriptor yX13_leadingOnes.desc).map (fun d => d.parameters.length) = some 1 := by decide +kernel
theorem hyX13_longest : yX13_longest.cls ≠ "java/lang/invoke/MethodHandle" ∧ yX13_longest.cls ≠ "java/lang/invoke/VarHandle" ∧ (parseMethodDescriptor yX13_longest.desc).map (fun d => d.parameters.length) = some 2 := by decide +kernel
theorem hyX13_lowest : yX13_lowest.cls ≠ "java/lang/invoke/MethodHandle" ∧ yX13_lowest.cls ≠ "java/lang/invoke/VarHandle" ∧ (parseMethodDescriptor yX13_lowest.desc).map (fun d => d.parameters.length) = some 1 := by decide +kernel
theorem hyX13_meanCount : yX13_meanCount.cls ≠ "java/lang/invoke/MethodHandle" ∧ yX13_meanCount.cls ≠ "java/lang/invoke/VarHandle" ∧ (parseMethodDescriptor yX13_meanCount.desc).map (fun d => d.parameters.length) = some 0 := by decide +kernel
theorem hyX13_negativeShare : yX13_negativeShare.cls ≠ "java/lang/invoke/MethodHandle" ∧ yX13_negativeShare.cls ≠ "java/lang/invoke/VarHandle" ∧ (parseMethodDescriptor yX13_negativeShare.desc).map (fun d => d.parameters.length) = some 0 := by decide +kernel
theorem hyX13_number : yX13_number.cls ≠ "java/lang/invoke/MethodHandle" ∧ yX13_number.cls ≠ "java/lang/invoke/VarHandle" ∧ (parseMethodDescriptor yX13_number.desc).map (fun d => d.parameters.length) = some 1 := by decide +kernel
theorem hyX13_pageAt : yX13_pageAt.cls ≠ "java/lang/invoke/MethodHandle" ∧ yX13_pageAt.cls ≠ "java/lang/invoke/VarHandle" ∧ (parseMethodDescriptor yX13_pageAt.desc).map (fun d => d.parameters.length) = some 1 := by decide +kernel
theorem hyX13_pageLength : yX13_pageLength.cls ≠ "java/lang/invoke/MethodHandle" ∧ yX13_pageLength.cls ≠ "java/lang/invoke/VarHandle" ∧ (parseMethodDescriptor yX13_pageLength.desc).map (fun d => d.parameters.length) = some 0 := by decide +kernel
theorem hyX13_read : yX13_read.cls ≠ "java/lang/invoke/MethodHandle" ∧ yX13_read.cls ≠ "java/lang/invoke/VarHandle" ∧ (parseMethodDescriptor yX13_read.desc).map (fun d => d.parameters.length) = some 5 := by decide +kernel
theorem hyX13_readPage : yX13_readPage.cls ≠ "java/lang/invoke/MethodHandle" ∧ yX13_readPage.cls ≠ "java/lang/invoke/VarHandle" ∧ (parseMethodDescriptor yX13_readPage.desc).map (fun d => d.parameters.length) = some 3 := by decide +kernel
theorem hyX13_reverse : yX13_reverse.cls ≠ "java/lang/invoke/MethodHandle" ∧ yX13_reverse.cls ≠ "java/lang/invoke/VarHandle" ∧ (parseMethodDescriptor yX13_reverse.desc).map (fun d => d.parameters.length) = some 1 := by decide +kernel
theorem hyX13_reverseBytes : yX13_reverseBytes.cls ≠ "java/lang/invoke/MethodHandle" ∧ yX13_reverseBytes.cls ≠ "java/lang/invoke/VarHandle" ∧ (parseMethodDescriptor yX13_reverseBytes.desc).map (fun d => d.parameters.length) = some 1 := by decide +kernel
theorem hyX13_rotate : yX13_rotate.cls ≠ "java/lang/invoke/MethodHandle" ∧ yX13_rotate.cls ≠ "java/lang/invoke/VarHandle" ∧ (parseMethodDescriptor yX13_rotate.desc).map (fun d => d.parameters.length) = some 3 := by decide +kernel
theorem hyX13_run : yX13_run.cls ≠ "java/lang/invoke/MethodHandle" ∧ yX13_run.cls ≠ "java/lang/invoke/VarHandle" ∧ (parseMethodDescriptor yX13_run.desc).map (fun d => d.parameters.length) = some 0 := by decide +kernel
theorem hyX13_set : yX13_set.cls ≠ "java/lang/invoke/MethodHandle" ∧ yX13_set.cls ≠ "java/lang/invoke/VarHandle" ∧ (parseMethodDescriptor yX13_set.desc).map (fun d => d.parameters.length) = some 2 := by decide +kernel
theorem hyX13_setWide : yX13_setWide.cls ≠ "java/lang/invoke/MethodHandle" ∧ yX13_setWide.cls ≠ "java/lang/invoke/VarHandle" ∧ (parseMethodDescriptor yX13_setWide.desc).map (fun d => d.parameters.length) = some 1 := by decide +kernel
theorem hyX13_sign : yX13_sign.cls ≠ "java/lang/invoke/MethodHandle" ∧ yX13_sign.cls ≠ "java/lang/invoke/VarHandle" ∧ (parseMethodDescriptor yX13_sign.desc).map (fun d => d.parameters.length) = some 1 := by decide +kernel
theorem hyX13_sort : yX13_sort.cls ≠ "java/lang/invoke/MethodHandle" ∧ yX13_sort.cls ≠ "java/lang/invoke/VarHandle" ∧ (parseMethodDescriptor yX13_sort.desc).map (fun d => d.parameters.length) = some 1 := by decide +kernel
theorem hyX13_spread : yX13_spread.cls ≠ "java/lang/invoke/MethodHandle" ∧ yX13_spread.cls ≠ "java/lang/invoke/VarHandle" ∧ (parseMethodDescriptor yX13_spread.desc).map (fun d => d.parameters.length) = some 1 := by decide +kernel
theorem hyX13_textAt : yX13_textAt.cls ≠ "java/lang/invoke/MethodHandle" ∧ yX13_textAt.cls ≠ "java/lang/invoke/VarHandle" ∧ (parseMethodDescriptor yX13_textAt.desc).map (fun d => d.parameters.length) = some 1 := by decide +kernel
theorem hyX13_textLength : yX13_textLength.cls ≠ "java/lang/invoke/MethodHandle" ∧ yX13_textLength.cls ≠ "java/lang/invoke/VarHandle" ∧ (parseMethodDescriptor yX13_textLength.desc).map (fun d => d.parameters.length) = some 0 := by decide +kernel
theorem hyX13_thrown : yX13_thrown.cls ≠ "java/lang/invoke/MethodHandle" ∧ yX13_thrown.cls ≠ "java/lang/invoke/VarHandle" ∧ (parseMethodDescriptor yX13_thrown.desc).map (fun d => d.parameters.length) = some 0 := by decide +kernel
theorem hyX13_trailing : yX13_trailing.cls ≠ "java/lang/invoke/MethodHandle" ∧ yX13_trailing.cls ≠ "java/lang/invoke/VarHandle" ∧ (parseMethodDescriptor yX13_trailing.desc).map (fun d => d.parameters.length) = some 1 := by decide +kernel
theorem hyX13_trailingOnes : yX13_trailingOnes.cls ≠ "java/lang/invoke/MethodHandle" ∧ yX13_trailingOnes.cls ≠ "java/lang/invoke/VarHandle" ∧ (parseMethodDescriptor yX13_trailingOnes.desc).map (fun d => d.parameters.length) = some 1 := by decide +kernel
theorem hyX13_type : yX13_type.cls ≠ "java/lang/invoke/MethodHandle" ∧ yX13_type.cls ≠ "java/lang/invoke/VarHandle" ∧ (parseMethodDescriptor yX13_type.desc).map (fun d => d.parameters.length) = some 1 := by decide +kernel
theorem hyX13_write : yX13_write.cls ≠ "java/lang/invoke/MethodHandle" ∧ yX13_write.cls ≠ "java/lang/invoke/VarHandle" ∧ (parseMethodDescriptor yX13_write.desc).map (fun d => d.parameters.length) = some 3 := by decide +kernel
theorem hyX13_writeBits : yX13_writeBits.cls ≠ "java/lang/invoke/MethodHandle" ∧ yX13_writeBits.cls ≠ "java/lang/invoke/VarHandle" ∧ (parseMethodDescriptor yX13_writeBits.desc).map (fun d => d.parameters.length) = some 2 := by decide +kernel
theorem hyX13_writeTen : yX13_writeTen.cls ≠ "java/lang/invoke/MethodHandle" ∧ yX13_writeTen.cls ≠ "java/lang/invoke/VarHandle" ∧ (parseMethodDescriptor yX13_writeTen.desc).map (fun d => d.parameters.length) = some 2 := by decide +kernel
