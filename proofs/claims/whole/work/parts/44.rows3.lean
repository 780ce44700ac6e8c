theorem k_astA0 {s : State} {cy : Nat → ClassId} {D : va_G} (hK : KX D cy s) (hY : KY s) : ∃ (kA kC : Class), s.vm.classes[cy 5]? = some kA ∧ kA.kind = .array (cy 2) (.array .boolean) ∧ s.vm.classes[cy 2]? = some kC ∧ s.vm.assignable (cy 2) (cy 2) = true := by
  obtain ⟨comp, c, k, h1, h2, h3, h4, h5⟩ := arrayOverA_spec hY.2
  have e5 : s.vm.findClass ("[" ++ (FieldType.array .boolean).toString) = some (cy 5) := (hK.1.2 5 _ rfl).2
  have e2' : s.vm.findClass (FieldType.array .boolean).toString = some (cy 2) := (hK.1.2 2 _ rfl).2
  cases h5.symm.trans e5
  cases h1.symm.trans e2'
  obtain ⟨kC, hkC, -⟩ := Vm.findClass_spec e2'
  refine ⟨k, kC, h3, h4, hkC, ?_⟩
  show s.vm.assignableAux (255 + 1) _ _ = true
  rw [Vm.assignableAux, Bool.or_eq_true]
  exact Or.inl (beq_self_eq_true _)
section KAA
variable {p : Program} {l : Launch} {e : Env} {R : Room} {s : State} {m : MethodId} {ar : Array Value} {below : List Frame} {meth : Method} {c : Code} {H : Heap} {locs : List Loc} {cells slots : Nat} {Q : State → Prop}
variable {D : va_G} {A : Nat → Prop} {cc : ByteArray} {pc : Nat} {ls : Array Slot} {rest : List Value} {cy : Nat → ClassId} {ws : va_W}
theorem k_astA (hx : p.tables.exec = Jvm.exec) (hb : c.code = cc) (hK : KX D cy s) (hY : KY s) (hP : va_P D classes ws H) (hD : va_D A ws) (hS : va_S A s.heap H locs) (q0 qk : Nat) {a n N2 v : Nat} {f : Nat → Option Nat} {f2 : Nat → Int32} (ha : ws[q0]? = some (a, .inl (cy 5, n, .inr (.inr (.inr (.inr f)))))) (hv : ws[qk]? = some (v, .inl (cy 2, N2, .inl f2))) {i : Int32} (hin : vp_in i n) (hdg : decode cc pc = .ok (.aastore, 1))
    (kk : ∀ (H1 : Heap) (locs1 : List Loc), va_P D classes (ws.set q0 (a, .inl (cy 5, n, .inr (.inr (.inr (.inr (va_up f i.toNatClampNeg (some v)))))))) H1 → va_D A (ws.set q0 (a, .inl (cy 5, n, .inr (.inr (.inr (.inr (va_up f i.toNatClampNeg (some v)))))))) → va_S A s.heap H1 locs1 → W p l e R s m ar below meth c H1 locs1 cells slots Q (F0 m (pc + 1) ls rest)) : W p l e R s m ar below meth c H locs cells slots Q (F0 m pc ls (.ref v :: .int i :: .ref a :: rest)) := by
  have hlt : i.toNatClampNeg < n := Nat.not_le.mp fun q => hin (Or.inr q)
  have h0 : ¬ i < 0 := fun q => hin (Or.inl q)
  obtain ⟨kA, kC, k1, k2, k3, k4⟩ := k_astA0 hK hY
  refine W.aast hx hb (hP q0 _ ha) (fun q h => by cases h) (fun h => by cases h) k1 k2 rfl k3 ⟨h0, by show _ < (arrV _ _ _).slots.size; rw [arrV_size]; exact hlt⟩ (hP qk _ hv) (fun q h => by cases h) k3 k4 rfl rfl hdg fun H1 e z oq => ?_
  refine kk H1 _ (hP.set hD ha ?_ oq) (hD.set ha) (hS.put z oq (hD.2 q0 _ ha))
  show H1[a]? = some (vp_cell _ _)
  rw [e]
  rw [vp_cell_q, vp_cell_q, arrV_store]
  congr 2
  funext q
  by_cases hq : q = i.toNatClampNeg
  · subst hq
    simp [updV, va_up, va_rf]
  · simp [updV, va_up, hq]
end KAA
theorem k_dropP {D : va_G} {a x b : va_W} {H : Heap} (h : va_P D classes ((a ++ x) ++ b) H) : va_P D classes (a ++ b) H := by
  have h2 := h.swap
  exact fun k q hk => h2 k q (by rw [List.getElem?_append_left (List.getElem?_eq_some_iff.mp hk).1]; exact hk)
theorem k_dropD {A : Nat → Prop} {a x b : va_W} (h : va_D A ((a ++ x) ++ b)) : va_D A (a ++ b) := by
  have h2 := h.swap
  refine ⟨fun i j p q hi hj hpq => h2.1 i j p q ?_ ?_ hpq, fun k q hk => h2.2 k q ?_⟩
  · rw [List.getElem?_append_left (List.getElem?_eq_some_iff.mp hi).1]; exact hi
  · rw [List.getElem?_append_left (List.getElem?_eq_some_iff.mp hj).1]; exact hj
  · rw [List.getElem?_append_left (List.getElem?_eq_some_iff.mp hk).1]; exact hk
section KVE
variable {p : Program} {l : Launch} {e : Env} {R : Room} {s : State} {m : MethodId} {ar : Array Value} {below : List Frame} {meth : Method} {c : Code} {H : Heap} {locs : List Loc} {cells slots : Nat} {Q : State → Prop}
variable {D : va_G} {A : Nat → Prop} {cc : ByteArray} {pc nL : Nat} {ls : Array Slot} {rest st0 : List Value} {cy : Nat → ClassId}
variable {y : MethodName} {bb : ByteArray} {n index : Nat} {ret : Option FieldType} {fr lo mc ms fr0 lo0 mc0 ms0 : Nat} {g : Nat → Nat} {as : List Value} {wc w1 ws ws' : va_W} {rv : Option Value} {own : String} {st2 : List Value} {lvs : List (Nat × Value)}
theorem k_callE0 (hr : va_Run p l e R s m ar below meth c H locs cells slots mc ms (F0 m pc ls st0) rest (QWE D (fun _ => w1) (fun _ => []) (fun _ => rv) (va_A wc H.size) as.toArray) (va_A wc H.size)) (hP : va_P D classes ws H) (hD : va_D A ws) (hS : va_S A s.heap H locs) (hA : ∀ q : Nat, s.heap.size ≤ q → A q) (is : List Nat) (hn : va_nd is = true) (hcs : is.map (fun i => ws[i]?) = wc.map some) (he : w1.map Prod.fst = wc.map Prod.fst) (hws : pall ws is w1 = ws') (hst : rv.toList ++ rest = st2)
    (kk : ∀ (H1 : Heap) (locs1 : List Loc), va_P D classes ws' H1 → va_D A ws' → va_S A s.heap H1 locs1 → W p l e R s m ar below meth c H1 locs1 (cells + mc) (slots + ms) Q (F0 m (pc + 3) ls st2)) : W p l e R s m ar below meth c H locs cells slots Q (F0 m pc ls st0) := by
  refine k_callE (wa := fun _ => ws') (wb := fun _ => []) hr hP hD hS hA is hn hcs (fun _ => he) (fun _ => by rw [hws, List.append_nil]) (fun u H1 locs1 h1 h2 h3 => ?_)
  rw [List.append_nil, List.append_nil] at h1 h2
  rw [hst]
  exact kk H1 locs1 h1 h2 h3
theorem k_VE (hx : p.tables.exec = Jvm.exec) (hb : c.code = cc) (hml : c.maxLocals = nL) (hown : s.vm.findClass own = some m.cls) (ht : ∀ w ∈ LW, w.before ar s = true) (hK : KX D cy s) (hY : KY s) (hP : va_P D classes ws H) (hD : va_D A ws) (hS : va_S A s.heap H locs) (hA : ∀ q : Nat, s.heap.size ≤ q → A q) (hC : CX g A s s.heap) (hR : R = { frames := fr0, cells := mc0, slots := ms0, locals := lo0 }) (hl : lv_has ls nL lvs)
    {h0 ci i0 : Nat} {fs : List Value} {q0 : vw_C} (hM : ConE l D cy g y bb n ret fr lo mc ms (.ref h0 :: as) wc (fun _ => w1) (fun _ => []) (fun _ => rv)) (is : List Nat) (hwl : Cond.methodLink own index y ∈ LW) (hwi : Cond.instanceMethod y ∈ LW) (hws9 : Cond.selects y.cls y y ∈ LW) (hwn : Cond.initialized y.cls ∈ LW) (hwc : Cond.code y bb n ret ∈ LW) (hy : y.cls ≠ "java/lang/invoke/MethodHandle" ∧ y.cls ≠ "java/lang/invoke/VarHandle" ∧ (parseMethodDescriptor y.desc).map (fun d => d.parameters.length) = some as.length)
    (hrc : ws[i0]? = some (h0, .inr (ci, fs)) ∧ classes[ci]? = some q0 ∧ q0.1 = y.cls)
    (hfr : fr + 1 ≤ fr0 ∧ 8 + (n + 11) + lo ≤ lo0 ∧ cells + mc ≤ mc0 ∧ slots + ms ≤ ms0) (hn : va_nd is = true) (hcs : is.map (fun i => ws[i]?) = wc.map some) (he : w1.map Prod.fst = wc.map Prod.fst) (hst0 : st0 = as.reverse ++ .ref h0 :: rest) (hroom : (rest.map fun v => v.category).sum ≤ 8) (hdg : decode cc pc = .ok (.invokevirtual index, 3)) (hws : pall ws is w1 = ws') (hst : rv.toList ++ rest = st2)
    (kk : ∀ (H1 : Heap) (locs1 : List Loc), va_P D classes ws' H1 → va_D A ws' → va_S A s.heap H1 locs1 → W p l e R s m ar below meth c H1 locs1 (cells + mc) (slots + ms) Q (F0 m (pc + 3) ls st2)) : W p l e R s m ar below meth c H locs cells slots Q (F0 m pc ls st0) := by
  subst hR
  have hpre := k_preE (as := .ref h0 :: as) hK hY hP hD hS hA hC is hn hcs
  have hrec := va_recv hK.1 hP hrc.2.1 hrc.1
  rw [hrc.2.2] at hrec
  refine k_callE0 (as := .ref h0 :: as) (va_runV (As := as) (rest := rest) ⟨hx, hb, hml, hown, ht⟩ (hM H.size) (cwV as.length ht (fun w h => ?_) rfl rfl rfl ⟨rfl, hy⟩ ⟨hfr.1, hfr.2.1⟩) ⟨hpre.1, hrec, hpre.2⟩ rfl rfl hl.1 hst0 (lv_room hroom) hdg ⟨hfr.2.2.1, hfr.2.2.2⟩) hP hD hS hA is hn hcs he hws hst kk
  simp only [wsV, List.mem_append, List.mem_cons, List.not_mem_nil, or_false] at h
  rcases h with (rfl | rfl | rfl | rfl) | rfl | h
  · exact ⟨hwl, Or.inl rfl⟩
  · exact ⟨hwi, Or.inl rfl⟩
  · exact ⟨hws9, Or.inl rfl⟩
  · exact ⟨hwn, Or.inl rfl⟩
  · exact ⟨hwc, Or.inl rfl⟩
  · exact ⟨h, good_of_word (LW_good w h)⟩
end KVE
theorem k_sig {ws ws' : va_W} {k a n i x : Nat} {cA : ClassId} {rw sig : Nat → Nat} (h1 : ws.set k (a, .inl (cA, n, .inr (.inr (.inr (.inr (fun j => some (rw (upN sig i x j)))))))) = ws') : ws.set k (a, .inl (cA, n, .inr (.inr (.inr (.inr (va_up (fun j => some (rw (sig j))) i (some (rw x)))))))) = ws' := by
  rw [← h1]
  have e : va_up (fun j => some (rw (sig j))) i (some (rw x)) = fun j => some (rw (upN sig i x j)) := by
    funext j
    unfold va_up upN
    by_cases h : j = i <;> simp [h]
  rw [e]
theorem k_sub3 {a cn sn b : va_W} : List.Sublist (a ++ b) ((a ++ cn) ++ (sn ++ b)) :=
  List.Sublist.append (List.sublist_append_left a cn) (List.sublist_append_right sn b)
theorem k_drop3P {D : va_G} {a cn sn b : va_W} {H : Heap} (h : va_P D classes ((a ++ cn) ++ (sn ++ b)) H) : va_P D classes (a ++ b) H := by
  intro k q hk
  obtain ⟨j, hj⟩ := List.getElem?_of_mem (k_sub3.subset (List.mem_of_getElem? hk) : q ∈ (a ++ cn) ++ (sn ++ b))
  exact h j q hj
theorem k_drop3D {A : Nat → Prop} {a cn sn b : va_W} (h : va_D A ((a ++ cn) ++ (sn ++ b))) : va_D A (a ++ b) := by
  rw [k_D_iff] at h ⊢
  exact ⟨h.1.sublist (k_sub3.map Prod.fst), fun q hq => h.2 q (k_sub3.subset hq)⟩
