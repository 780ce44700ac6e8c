/-! texts: new byte arrays and strings made of the program's constants -/
theorem k_fitb : ∀ i, i < 44 → ∀ j, fits .byte (.int (sByt i j)) = true := by
  have key : ∀ i, i < 44 → ∀ x ∈ strL.getD i [], fits .byte (.int x) = true := by decide +kernel
  intro i hi j
  unfold sByt
  rw [List.getD_eq_getElem?_getD]
  cases h : (strL.getD i [])[j]? with
  | none => rfl
  | some x => exact key i hi x (List.mem_of_getElem? h)
theorem k_len3 {v : Int32} (h : ¬ (v < 1 ∨ 3 < v)) : ¬ v < 0 ∧ v.toNatClampNeg ≤ 3 := by
  have h1 : ¬ v < 1 := fun q => h (Or.inl q)
  have h2 : ¬ (3 : Int32) < v := fun q => h (Or.inr q)
  rw [Int32.lt_iff_toInt_lt] at h1 h2
  have e1 : (1 : Int32).toInt = 1 := rfl
  have e3 : (3 : Int32).toInt = 3 := rfl
  rw [e1] at h1
  rw [e3] at h2
  refine ⟨fun q => ?_, ?_⟩
  · rw [Int32.lt_iff_toInt_lt] at q
    have e0 : (0 : Int32).toInt = 0 := rfl
    rw [e0] at q
    omega
  · show v.toInt.toNat ≤ 3
    omega
theorem k_stretch {cell : Cell} {c1 : ClassId} {n0 n1 sp dp n : Nat} {f g : Nat → Int32} (hs : sp + n ≤ n0) (hf : ∀ j, j < n0 → cell.slots[j]? = some (.int (f j))) :
    (arrV c1 n1 (fun j => .int (g j))).storeRun dp (cell.stretch sp n) = arrV c1 n1 (fun j => .int (va_cpy f g sp dp n j)) := by
  rw [← va_copied (fun z => .int z) c1 c1 (n0 := n0) f g hs]
  congr 1
  unfold Cell.stretch
  apply List.map_congr_left
  intro i hi
  have hi' := List.mem_range.mp hi
  rw [Array.getD_eq_getD_getElem?, Array.getD_eq_getD_getElem?, hf _ (by omega), arrV_read _ _ (by omega)]
section K46
variable {p : Program} {l : Launch} {e : Env} {R : Room} {s : State} {m : MethodId} {ar : Array Value} {below : List Frame} {meth : Method} {c : Code} {H : Heap} {locs : List Loc} {cells slots : Nat} {Q : State → Prop}
variable {D : va_G} {A : Nat → Prop} {cc : ByteArray} {pc nL : Nat} {ls : Array Slot} {rest st0 : List Value} {cy : Nat → ClassId}
variable {y : MethodName} {bb : ByteArray} {n index : Nat} {ret : Option FieldType} {fr lo mc ms fr0 lo0 mc0 ms0 : Nat} {g : Nat → Nat} {as : List Value} {wc w1 ws ws' : va_W} {rv : Option Value} {own : String} {st2 : List Value} {lvs : List (Nat × Value)}
theorem k_copyT (hexec : p.tables.exec = Jvm.exec) (hb : c.code = cc) (hml : c.maxLocals = ls.size) (hown : s.vm.findClass own = some m.cls) (hlink : (Cond.methodLink own index arraycopyName).before ar s = true) (hnat : (Cond.native arraycopyName).before ar s = true) (hstat : (Cond.static arraycopyName).before ar s = true) (hini : (Cond.initialized "java/lang/System").before ar s = true)
    (hK : va_K D classes (TYS cy) s) (hP : va_P D classes ws H) (hD : va_D A ws) (hS : va_S A s.heap H locs) (hC : CX g A s s.heap) {i : Nat} (hi : i < 44) (q1 : Nat) {a n1 : Nat} {f1 : Nat → Int32} (ha1 : ws[q1]? = some (a, .inl (cy 4, n1, .inl f1)))
    {sp n9 : Int32} (hin : ¬ (sp < 0 ∨ n9 < 0 ∨ sLen i < sp.toNatClampNeg + n9.toNatClampNeg ∨ n1 < n9.toNatClampNeg))
    (hframes : 1 ≤ R.frames) (hlocals : (rest.map fun v => v.category).sum + (nativeFrameWords "java/lang/System" "arraycopy" 5 + 11) ≤ R.locals) (hdg : decode cc pc = .ok (.invokestatic index, 3))
    (kk : ∀ (H1 : Heap) (locs1 : List Loc), va_P D classes (ws.set q1 (a, .inl (cy 4, n1, .inl (va_cpy (sByt i) f1 sp.toNatClampNeg 0 n9.toNatClampNeg)))) H1 → va_D A (ws.set q1 (a, .inl (cy 4, n1, .inl (va_cpy (sByt i) f1 sp.toNatClampNeg 0 n9.toNatClampNeg)))) → va_S A s.heap H1 locs1 → W p l e R s m ar below meth c H1 locs1 cells slots Q (F0 m (pc + 3) ls rest)) : W p l e R s m ar below meth c H locs cells slots Q (F0 m pc ls (.int n9 :: .int 0 :: .ref a :: .int sp :: .ref (g (100 + i)) :: rest)) := by
  have h1 : ¬ sp < 0 := fun q => hin (Or.inl q)
  have h3 : ¬ n9 < 0 := fun q => hin (Or.inr (Or.inl q))
  have h4 : sp.toNatClampNeg + n9.toNatClampNeg ≤ sLen i := Nat.not_lt.mp fun q => hin (Or.inr (Or.inr (Or.inl q)))
  have h5 : n9.toNatClampNeg ≤ n1 := Nat.not_lt.mp fun q => hin (Or.inr (Or.inr (Or.inr q)))
  have nn : ∀ z : Int32, ¬ z < 0 → z.toInt = (z.toNatClampNeg : Int) := by
    intro z hz
    have hz0 : (0 : Int) ≤ z.toInt := by simpa using Int32.le_iff_toInt_le.mp (Int32.not_lt.mp hz)
    show z.toInt = ((z.toInt.toNat : Nat) : Int)
    omega
  intro T hT X
  obtain ⟨cell, t1, ⟨t2s, k0, hk0, cm0, hkk0⟩, t3, t4, t5, t6, t7⟩ := ((hC.1 i hi).2.2.2).kept hS.2.1
  have hc1 : H[a]? = some (vp_cell (cy 4) (n1, .inl f1)) := hP q1 _ ha1
  obtain ⟨-, k1, hk1, cm1, hkk1⟩ := (hK.2 4 _ rfl).1 n1 (fun j => .int (f1 j))
  obtain ⟨vm', X', step⟩ := X.arraycopy hexec hown hlink hnat hstat hini (src := g (100 + i)) (dst := a) (cs := cell) (cd := vp_cell (cy 4) (n1, .inl f1)) (srcPos := sp) (destPos := 0) (n := n9) (by rw [hT]; exact t1) (by rw [hT]; exact hc1)
    t2s (fun _ h => by cases h) t3 (fun h => by cases h) hk0 hk1 hkk0 hkk1 rfl h1 (by decide) h3
    (by rw [nn sp h1, nn n9 h3]; omega)
    (by rw [nn n9 h3]; show ¬ (0 : Int) + _ > ((arrV (cy 4) n1 (fun j => .int (f1 j))).slots.size : Int); rw [arrV_size]; omega)
    (fun vm₁ _ j hj => by
      have e : cell.slots.getD (sp.toNatClampNeg + j) .null = .int (sByt i (sp.toNatClampNeg + j)) := by
        rw [Array.getD_eq_getD_getElem?, t6 _ (by omega)]
        rfl
      refine ⟨?_, ?_⟩
      · rw [e]
        exact k_fitb i hi _
      · rw [e]
        exact trivial)
    (g := F0 m pc ls (.int n9 :: .int 0 :: .ref a :: .int sp :: .ref (g (100 + i)) :: rest)) rfl (by rw [hml]) (rest := rest) rfl (by rw [hb]; exact hdg) hframes (by show 2 * 0 + _ + _ ≤ _; omega)
  have e1 : copied cell (vp_cell (cy 4) (n1, .inl f1)) sp 0 n9 = vp_cell (cy 4) (n1, .inl (va_cpy (sByt i) f1 sp.toNatClampNeg 0 n9.toNatClampNeg)) := k_stretch h4 t6
  rw [e1] at X' step
  have hl : a < H.size := (Array.getElem?_eq_some_iff.mp hc1).1
  have hheap : ((T.setVm vm').setCell a (vp_cell (cy 4) (n1, .inl (va_cpy (sByt i) f1 sp.toNatClampNeg 0 n9.toNatClampNeg)))).heap = H.setIfInBounds a (vp_cell (cy 4) (n1, .inl (va_cpy (sByt i) f1 sp.toNatClampNeg 0 n9.toNatClampNeg))) := by rw [← hT]; rfl
  have oq : ∀ q : Nat, q ≠ a → (H.setIfInBounds a (vp_cell (cy 4) (n1, .inl (va_cpy (sByt i) f1 sp.toNatClampNeg 0 n9.toNatClampNeg))))[q]? = H[q]? := fun q hq => by simp [Array.getElem?_setIfInBounds, Ne.symm hq]
  obtain ⟨t, a1, b1⟩ := kk _ _ (hP.set hD ha1 (show (H.setIfInBounds a _)[a]? = some _ by simp [Array.getElem?_setIfInBounds, hl]) oq) (hD.set ha1) ⟨by simp; exact hS.1, fun q g1 g2 => by
      rw [oq q (fun e => g2 (by rw [e]; exact hD.2 q1 _ ha1))]
      exact hS.2.1 q g1 g2, fun q hq => by
      rcases List.mem_append.mp hq with h | h
      · exact hS.2.2 q h
      · obtain ⟨z, -, hz⟩ := List.mem_map.mp h
        rw [← hz]
        exact hD.2 q1 _ ha1⟩ _ hheap X'
  exact ⟨t, step t a1, b1⟩
theorem k_newaS {wa wb : va_W} (hx : p.tables.exec = Jvm.exec) (hb : c.code = cc) (ht : ∀ w ∈ LW, w.before ar s = true) (harr : Cond.arrayClass (newarray.typeOf .byte) ∈ LW) (hK : KX D cy s) (hP : va_P D classes (wa ++ wb) H) (hD : va_D A (wa ++ wb)) (hS : va_S A s.heap H locs) (hA : ∀ q : Nat, s.heap.size ≤ q → A q) (hR : R = { frames := fr0, cells := mc0, slots := ms0, locals := lo0 })
    {v : Int32} (hg : ¬ (v < 1 ∨ 3 < v)) (hfr : cells + 1 ≤ mc0 ∧ slots + 3 ≤ ms0) (hdg : decode cc pc = .ok (.newarray .byte, 2))
    (kk : ∀ (q : Nat) (H1 : Heap), va_P D classes ((wa ++ [(q, .inl (cy 4, v.toNatClampNeg, .inl (fun _ => 0)))]) ++ wb) H1 → va_D A ((wa ++ [(q, .inl (cy 4, v.toNatClampNeg, .inl (fun _ => 0)))]) ++ wb) → va_S A s.heap H1 locs →
      W p l e R s m ar below meth c H1 locs (cells + 1) (slots + 3) Q (F0 m (pc + 2) ls (.ref q :: rest))) : W p l e R s m ar below meth c H locs cells slots Q (F0 m pc ls (.int v :: rest)) := by
  obtain ⟨h1, h3⟩ := k_len3 hg
  refine k_newa (atype := .byte) (ty := .byte) (N' := v.toNatClampNeg) (a0 := (v.toNatClampNeg, .inl (fun _ => 0))) hx hb 4 ht harr rfl rfl hK hP hD hS hA hR (fun _ => rfl) h1 rfl (Nat.le_trans (Nat.mul_le_mul_right _ h3) (by decide)) ⟨hfr.1, by omega⟩ hdg (fun q H1 a1 a2 a3 => ?_)
  exact W.widen (Nat.le_refl _) (by omega) (kk q H1 a1 a2 a3)
theorem k_IE0 (hx : p.tables.exec = Jvm.exec) (hb : c.code = cc) (hml : c.maxLocals = nL) (hown : s.vm.findClass own = some m.cls) (ht : ∀ w ∈ LW, w.before ar s = true) (hK : KX D cy s) (hY : KY s) (hP : va_P D classes ws H) (hD : va_D A ws) (hS : va_S A s.heap H locs) (hA : ∀ q : Nat, s.heap.size ≤ q → A q) (hC : CX g A s s.heap) (hR : R = { frames := fr0, cells := mc0, slots := ms0, locals := lo0 }) (hl : lv_has ls nL lvs)
    {h0 : Nat} (hM : ConE l D cy g y bb n none fr lo mc ms (.ref h0 :: as) wc (fun _ => w1) (fun _ => []) (fun _ => none)) (is : List Nat) (hwl : Cond.methodLink own index y ∈ LW) (hwi : Cond.instanceMethod y ∈ LW) (hwn : Cond.initialized y.cls ∈ LW) (hwc : Cond.code y bb n none ∈ LW) (hy : y.cls ≠ "java/lang/invoke/MethodHandle" ∧ y.cls ≠ "java/lang/invoke/VarHandle" ∧ (parseMethodDescriptor y.desc).map (fun d => d.parameters.length) = some as.length) (hy1 : y.name = "<init>")
    (hfr : fr + 1 ≤ fr0 ∧ 8 + (n + 11) + lo ≤ lo0 ∧ cells + mc ≤ mc0 ∧ slots + ms ≤ ms0) (hn : va_nd is = true) (hcs : is.map (fun i => ws[i]?) = wc.map some) (he : w1.map Prod.fst = wc.map Prod.fst) (hst0 : st0 = as.reverse ++ .ref h0 :: rest) (hroom : (rest.map fun v => v.category).sum ≤ 8) (hdg : decode cc pc = .ok (.invokespecial index, 3)) (hws : pall ws is w1 = ws') (hst : rest = st2)
    (kk : ∀ (H1 : Heap) (locs1 : List Loc), va_P D classes ws' H1 → va_D A ws' → va_S A s.heap H1 locs1 → W p l e R s m ar below meth c H1 locs1 (cells + mc) (slots + ms) Q (F0 m (pc + 3) ls st2)) : W p l e R s m ar below meth c H locs cells slots Q (F0 m pc ls st0) := by
  subst hst
  refine k_IE (wa := fun _ => ws') (wb := fun _ => []) hx hb hml hown ht hK hY hP hD hS hA hC hR hl hM is hwl hwi hwn hwc hy hy1 hfr hn hcs (fun _ => he) hst0 hroom hdg (fun _ => by rw [hws, List.append_nil]) (fun u H1 locs1 h1 h2 h3 => ?_)
  rw [List.append_nil, List.append_nil] at h1 h2
  exact kk H1 locs1 h1 h2 h3
variable {w2 E2 wa wb : (Nat → Nat → Nat) → va_W} {rv2 : (Nat → Nat → Nat) → Option Value}
theorem k_SE (hx : p.tables.exec = Jvm.exec) (hb : c.code = cc) (hml : c.maxLocals = nL) (hown : s.vm.findClass own = some m.cls) (ht : ∀ w ∈ LW, w.before ar s = true) (hK : KX D cy s) (hY : KY s) (hP : va_P D classes ws H) (hD : va_D A ws) (hS : va_S A s.heap H locs) (hA : ∀ q : Nat, s.heap.size ≤ q → A q) (hC : CX g A s s.heap) (hR : R = { frames := fr0, cells := mc0, slots := ms0, locals := lo0 }) (hl : lv_has ls nL lvs)
    (hM : ConE l D cy g y bb n ret fr lo mc ms as wc w2 E2 rv2) (is : List Nat) (hwl : Cond.methodLink own index y ∈ LW) (hwi : Cond.static y ∈ LW) (hwn : Cond.initialized y.cls ∈ LW) (hwc : Cond.code y bb n ret ∈ LW) (hy : y.cls ≠ "java/lang/invoke/MethodHandle" ∧ y.cls ≠ "java/lang/invoke/VarHandle" ∧ (parseMethodDescriptor y.desc).map (fun d => d.parameters.length) = some as.length)
    (hfr : fr + 1 ≤ fr0 ∧ 8 + (n + 11) + lo ≤ lo0 ∧ cells + mc ≤ mc0 ∧ slots + ms ≤ ms0) (hn : va_nd is = true) (hcs : is.map (fun i => ws[i]?) = wc.map some) (he : ∀ u, (w2 u).map Prod.fst = wc.map Prod.fst) (hst0 : st0 = as.reverse ++ rest) (hroom : (rest.map fun v => v.category).sum ≤ 8) (hdg : decode cc pc = .ok (.invokestatic index, 3)) (hws : ∀ u, pall ws is (w2 u) = wa u ++ wb u)
    (kk : ∀ (u : Nat → Nat → Nat) (H1 : Heap) (locs1 : List Loc), va_P D classes ((wa u ++ E2 u) ++ wb u) H1 → va_D A ((wa u ++ E2 u) ++ wb u) → va_S A s.heap H1 locs1 → W p l e R s m ar below meth c H1 locs1 (cells + mc) (slots + ms) Q (F0 m (pc + 3) ls ((rv2 u).toList ++ rest))) : W p l e R s m ar below meth c H locs cells slots Q (F0 m pc ls st0) := by
  subst hR
  refine k_callE (as := as) (va_runS (As := as) (rest := rest) ⟨hx, hb, hml, hown, ht⟩ (hM H.size) (va_cwS as.length ht (fun w h => ?_) rfl rfl rfl hy ⟨hfr.1, hfr.2.1⟩) (k_preE hK hY hP hD hS hA hC is hn hcs) rfl rfl hl.1 hst0 (lv_room hroom) hdg ⟨hfr.2.2.1, hfr.2.2.2⟩) hP hD hS hA is hn hcs he hws kk
  simp only [va_wsS, List.mem_append, List.mem_cons, List.not_mem_nil, or_false] at h
  rcases h with (rfl | rfl | rfl) | rfl | h
  · exact ⟨hwl, Or.inl rfl⟩
  · exact ⟨hwi, Or.inl rfl⟩
  · exact ⟨hwn, Or.inl rfl⟩
  · exact ⟨hwc, Or.inl rfl⟩
  · exact ⟨h, good_of_word (LW_good w h)⟩
theorem k_VCE (hx : p.tables.exec = Jvm.exec) (hb : c.code = cc) (hml : c.maxLocals = nL) (hown : s.vm.findClass own = some m.cls) (ht : ∀ w ∈ LW, w.before ar s = true) (hK : KX D cy s) (hY : KY s) (hP : va_P D classes ws H) (hD : va_D A ws) (hS : va_S A s.heap H locs) (hA : ∀ q : Nat, s.heap.size ≤ q → A q) (hC : CX g A s s.heap) (hR : R = { frames := fr0, cells := mc0, slots := ms0, locals := lo0 }) (hl : lv_has ls nL lvs)
    {h0 : Nat} {E : String} (hM : ConE l D cy g y bb n ret fr lo mc ms (.ref h0 :: as) wc w2 E2 rv2) (is : List Nat) (hwl : Cond.methodLink own index y ∈ LW) (hwi : Cond.instanceMethod y ∈ LW) (hws9 : Cond.selects y.cls y y ∈ LW) (hwn : Cond.initialized y.cls ∈ LW) (hwc : Cond.code y bb n ret ∈ LW) (hy : y.cls ≠ "java/lang/invoke/MethodHandle" ∧ y.cls ≠ "java/lang/invoke/VarHandle" ∧ (parseMethodDescriptor y.desc).map (fun d => d.parameters.length) = some as.length)
    (hrc : va_O E h0 A s s.heap) (hrE : E = y.cls)
    (hfr : fr + 1 ≤ fr0 ∧ 8 + (n + 11) + lo ≤ lo0 ∧ cells + mc ≤ mc0 ∧ slots + ms ≤ ms0) (hn : va_nd is = true) (hcs : is.map (fun i => ws[i]?) = wc.map some) (he : ∀ u, (w2 u).map Prod.fst = wc.map Prod.fst) (hst0 : st0 = as.reverse ++ .ref h0 :: rest) (hroom : (rest.map fun v => v.category).sum ≤ 8) (hdg : decode cc pc = .ok (.invokevirtual index, 3)) (hws : ∀ u, pall ws is (w2 u) = wa u ++ wb u)
    (kk : ∀ (u : Nat → Nat → Nat) (H1 : Heap) (locs1 : List Loc), va_P D classes ((wa u ++ E2 u) ++ wb u) H1 → va_D A ((wa u ++ E2 u) ++ wb u) → va_S A s.heap H1 locs1 → W p l e R s m ar below meth c H1 locs1 (cells + mc) (slots + ms) Q (F0 m (pc + 3) ls ((rv2 u).toList ++ rest))) : W p l e R s m ar below meth c H locs cells slots Q (F0 m pc ls st0) := by
  subst hR
  subst hrE
  have hpre := k_preE (as := .ref h0 :: as) hK hY hP hD hS hA hC is hn hcs
  have hrec : ∃ cell : Cell, H[h0]? = some cell ∧ cell.vm.isStatics = false ∧ s.vm.findClass y.cls = some cell.cls := by
    obtain ⟨cell, h1, h2, h3, -⟩ := hrc.kept hS.2.1
    exact ⟨cell, h1, h2, h3⟩
  refine k_callE (as := .ref h0 :: as) (va_runV (As := as) (rest := rest) ⟨hx, hb, hml, hown, ht⟩ (hM H.size) (cwV as.length ht (fun w h => ?_) rfl rfl rfl ⟨rfl, hy⟩ ⟨hfr.1, hfr.2.1⟩) ⟨hpre.1, hrec, hpre.2⟩ rfl rfl hl.1 hst0 (lv_room hroom) hdg ⟨hfr.2.2.1, hfr.2.2.2⟩) hP hD hS hA is hn hcs he hws kk
  simp only [wsV, List.mem_append, List.mem_cons, List.not_mem_nil, or_false] at h
  rcases h with (rfl | rfl | rfl | rfl) | rfl | h
  · exact ⟨hwl, Or.inl rfl⟩
  · exact ⟨hwi, Or.inl rfl⟩
  · exact ⟨hws9, Or.inl rfl⟩
  · exact ⟨hwn, Or.inl rfl⟩
  · exact ⟨hwc, Or.inl rfl⟩
  · exact ⟨h, good_of_word (LW_good w h)⟩
end K46

theorem q_74 : Cond.initialized RJ7 ∈ LW := LW_of 74 (by decide +kernel) rfl
theorem q_78 : Cond.initialized "java/lang/System" ∈ LW := LW_of 78 (by decide +kernel) rfl
theorem q_909 : Cond.arrayClass (newarray.typeOf .byte) ∈ LW := LW_of 909 (by decide +kernel) rfl
theorem q_1670 : Cond.methodLink RX13 184 yJ0_indexOf_7cf53 ∈ LW := LW_of 1670 (by decide +kernel) rfl
theorem q_1671 : Cond.instanceMethod yJ0_indexOf_7cf53 ∈ LW := LW_of 1671 (by decide +kernel) rfl
theorem q_1672 : Cond.selects yJ0_indexOf_7cf53.cls yJ0_indexOf_7cf53 yJ0_indexOf_7cf53 ∈ LW := LW_of 1672 (by decide +kernel) rfl
theorem q_1673 : Cond.code yJ0_indexOf_7cf53 cJ0_indexOf_7cf53 3 (some .int) ∈ LW := LW_of 1673 (by decide +kernel) rfl
theorem q_1674 : Cond.methodLink RJ0 505 yJ0_length_8abf5 ∈ LW := LW_of 1674 (by decide +kernel) rfl
theorem q_1675 : Cond.methodLink RJ0 637 yJ1_indexOf_4cfef ∈ LW := LW_of 1675 (by decide +kernel) rfl
theorem q_1676 : Cond.static yJ1_indexOf_4cfef ∈ LW := LW_of 1676 (by decide +kernel) rfl
theorem q_1677 : Cond.code yJ1_indexOf_4cfef cJ1_indexOf_4cfef 4 (some .int) ∈ LW := LW_of 1677 (by decide +kernel) rfl
theorem q_1678 : Cond.methodLink RJ1 88 yJ1_canEncode_9a6ad ∈ LW := LW_of 1678 (by decide +kernel) rfl
theorem q_1679 : Cond.static yJ1_canEncode_9a6ad ∈ LW := LW_of 1679 (by decide +kernel) rfl
theorem q_1680 : Cond.code yJ1_canEncode_9a6ad cJ1_canEncode_9a6ad 1 (some .boolean) ∈ LW := LW_of 1680 (by decide +kernel) rfl
theorem q_1681 : Cond.methodLink RJ1 92 yJ9_max_7cf53 ∈ LW := LW_of 1681 (by decide +kernel) rfl
theorem q_1682 : Cond.methodLink RJ1 38 yJ9_min_7cf53 ∈ LW := LW_of 1682 (by decide +kernel) rfl
theorem q_1683 : Cond.methodLink RJ1 95 yJ1_indexOfChar_4cfef ∈ LW := LW_of 1683 (by decide +kernel) rfl
theorem q_1684 : Cond.static yJ1_indexOfChar_4cfef ∈ LW := LW_of 1684 (by decide +kernel) rfl
theorem q_1685 : Cond.code yJ1_indexOfChar_4cfef cJ1_indexOfChar_4cfef 6 (some .int) ∈ LW := LW_of 1685 (by decide +kernel) rfl
theorem q_1699 : Cond.static yJ0_checkBoundsBeginEnd_23922 ∈ LW := LW_of 1699 (by decide +kernel) rfl
theorem q_1700 : Cond.code yJ0_checkBoundsBeginEnd_23922 cJ0_checkBoundsBeginEnd_23922 3 none ∈ LW := LW_of 1700 (by decide +kernel) rfl
theorem q_1701 : Cond.methodLink RJ0 1062 yJ3_checkFromToIndex_8c36e ∈ LW := LW_of 1701 (by decide +kernel) rfl
theorem q_1702 : Cond.static yJ3_checkFromToIndex_8c36e ∈ LW := LW_of 1702 (by decide +kernel) rfl
theorem q_1703 : Cond.code yJ3_checkFromToIndex_8c36e cJ3_checkFromToIndex_8c36e 4 (some .int) ∈ LW := LW_of 1703 (by decide +kernel) rfl
theorem q_1721 : Cond.methodLink RX13 188 yJ0_substring_37a41 ∈ LW := LW_of 1721 (by decide +kernel) rfl
theorem q_1722 : Cond.instanceMethod yJ0_substring_37a41 ∈ LW := LW_of 1722 (by decide +kernel) rfl
theorem q_1723 : Cond.selects yJ0_substring_37a41.cls yJ0_substring_37a41 yJ0_substring_37a41 ∈ LW := LW_of 1723 (by decide +kernel) rfl
theorem q_1724 : Cond.code yJ0_substring_37a41 cJ0_substring_37a41 5 (some (.object "java/lang/String")) ∈ LW := LW_of 1724 (by decide +kernel) rfl
theorem q_1725 : Cond.methodLink RJ0 521 yJ0_checkBoundsBeginEnd_23922 ∈ LW := LW_of 1725 (by decide +kernel) rfl
theorem q_1726 : Cond.methodLink RJ0 685 yJ1_newString_b4f7a ∈ LW := LW_of 1726 (by decide +kernel) rfl
theorem q_1727 : Cond.static yJ1_newString_b4f7a ∈ LW := LW_of 1727 (by decide +kernel) rfl
theorem q_1728 : Cond.code yJ1_newString_b4f7a cJ1_newString_b4f7a 3 (some (.object "java/lang/String")) ∈ LW := LW_of 1728 (by decide +kernel) rfl
theorem q_1730 : Cond.classLink RJ1 1 RJ0 ∈ LW := LW_of 1730 (by decide +kernel) rfl
theorem q_1731 : Cond.instantiable RJ0 4 ∈ LW := LW_of 1731 (by decide +kernel) rfl
theorem q_1732 : Cond.methodLink RJ1 232 yJ7_copyOfRange_39247 ∈ LW := LW_of 1732 (by decide +kernel) rfl
theorem q_1733 : Cond.static yJ7_copyOfRange_39247 ∈ LW := LW_of 1733 (by decide +kernel) rfl
theorem q_1734 : Cond.code yJ7_copyOfRange_39247 cJ7_copyOfRange_39247 3 (some (.array .byte)) ∈ LW := LW_of 1734 (by decide +kernel) rfl
theorem q_1735 : Cond.methodLink RJ7 339 yJ7_copyOfRangeByte_39247 ∈ LW := LW_of 1735 (by decide +kernel) rfl
theorem q_1736 : Cond.static yJ7_copyOfRangeByte_39247 ∈ LW := LW_of 1736 (by decide +kernel) rfl
theorem q_1737 : Cond.code yJ7_copyOfRangeByte_39247 cJ7_copyOfRangeByte_39247 5 (some (.array .byte)) ∈ LW := LW_of 1737 (by decide +kernel) rfl
theorem q_1738 : Cond.methodLink RJ7 343 yJ7_checkLength_df160 ∈ LW := LW_of 1738 (by decide +kernel) rfl
theorem q_1739 : Cond.static yJ7_checkLength_df160 ∈ LW := LW_of 1739 (by decide +kernel) rfl
theorem q_1740 : Cond.code yJ7_checkLength_df160 cJ7_checkLength_df160 2 none ∈ LW := LW_of 1740 (by decide +kernel) rfl
theorem q_1809 : Cond.methodLink RJ7 304 yJ9_min_7cf53 ∈ LW := LW_of 1809 (by decide +kernel) rfl
theorem q_1810 : Cond.methodLink RJ7 150 arraycopyName ∈ LW := LW_of 1810 (by decide +kernel) rfl
theorem q_1811 : Cond.static arraycopyName ∈ LW := LW_of 1811 (by decide +kernel) rfl
theorem q_1812 : Cond.native arraycopyName ∈ LW := LW_of 1812 (by decide +kernel) rfl
theorem q_1897 : Cond.methodLink RJ0 1 Lib.objectInit ∈ LW := LW_of 1897 (by decide +kernel) rfl
theorem q_1935 : Cond.methodLink RJ1 112 yJ0_init_031fb ∈ LW := LW_of 1935 (by decide +kernel) rfl
theorem q_1936 : Cond.instanceMethod yJ0_init_031fb ∈ LW := LW_of 1936 (by decide +kernel) rfl
theorem q_1937 : Cond.code yJ0_init_031fb cJ0_init_031fb 3 none ∈ LW := LW_of 1937 (by decide +kernel) rfl
theorem hyJ0_checkBoundsBeginEnd_23922 : yJ0_checkBoundsBeginEnd_23922.cls ≠ "java/lang/invoke/MethodHandle" ∧ yJ0_checkBoundsBeginEnd_23922.cls ≠ "java/lang/invoke/VarHandle" ∧ (parseMethodDescriptor yJ0_checkBoundsBeginEnd_23922.desc).map (fun d => d.parameters.length) = some 3 := by decide +kernel
theorem hyJ0_indexOf_7cf53 : yJ0_indexOf_7cf53.cls ≠ "java/lang/invoke/MethodHandle" ∧ yJ0_indexOf_7cf53.cls ≠ "java/lang/invoke/VarHandle" ∧ (parseMethodDescriptor yJ0_indexOf_7cf53.desc).map (fun d => d.parameters.length) = some 2 := by decide +kernel
theorem hyJ0_init_031fb : yJ0_init_031fb.cls ≠ "java/lang/invoke/MethodHandle" ∧ yJ0_init_031fb.cls ≠ "java/lang/invoke/VarHandle" ∧ (parseMethodDescriptor yJ0_init_031fb.desc).map (fun d => d.parameters.length) = some 2 := by decide +kernel
theorem hyJ0_substring_37a41 : yJ0_substring_37a41.cls ≠ "java/lang/invoke/MethodHandle" ∧ yJ0_substring_37a41.cls ≠ "java/lang/invoke/VarHandle" ∧ (parseMethodDescriptor yJ0_substring_37a41.desc).map (fun d => d.parameters.length) = some 2 := by decide +kernel
theorem hyJ1_canEncode_9a6ad : yJ1_canEncode_9a6ad.cls ≠ "java/lang/invoke/MethodHandle" ∧ yJ1_canEncode_9a6ad.cls ≠ "java/lang/invoke/VarHandle" ∧ (parseMethodDescriptor yJ1_canEncode_9a6ad.desc).map (fun d => d.parameters.length) = some 1 := by decide +kernel
theorem hyJ1_indexOfChar_4cfef : yJ1_indexOfChar_4cfef.cls ≠ "java/lang/invoke/MethodHandle" ∧ yJ1_indexOfChar_4cfef.cls ≠ "java/lang/invoke/VarHandle" ∧ (parseMethodDescriptor yJ1_indexOfChar_4cfef.desc).map (fun d => d.parameters.length) = some 4 := by decide +kernel
theorem hyJ1_indexOf_4cfef : yJ1_indexOf_4cfef.cls ≠ "java/lang/invoke/MethodHandle" ∧ yJ1_indexOf_4cfef.cls ≠ "java/lang/invoke/VarHandle" ∧ (parseMethodDescriptor yJ1_indexOf_4cfef.desc).map (fun d => d.parameters.length) = some 4 := by decide +kernel
theorem hyJ1_newString_b4f7a : yJ1_newString_b4f7a.cls ≠ "java/lang/invoke/MethodHandle" ∧ yJ1_newString_b4f7a.cls ≠ "java/lang/invoke/VarHandle" ∧ (parseMethodDescriptor yJ1_newString_b4f7a.desc).map (fun d => d.parameters.length) = some 3 := by decide +kernel
theorem hyJ3_checkFromToIndex_8c36e : yJ3_checkFromToIndex_8c36e.cls ≠ "java/lang/invoke/MethodHandle" ∧ yJ3_checkFromToIndex_8c36e.cls ≠ "java/lang/invoke/VarHandle" ∧ (parseMethodDescriptor yJ3_checkFromToIndex_8c36e.desc).map (fun d => d.parameters.length) = some 4 := by decide +kernel
theorem hyJ7_checkLength_df160 : yJ7_checkLength_df160.cls ≠ "java/lang/invoke/MethodHandle" ∧ yJ7_checkLength_df160.cls ≠ "java/lang/invoke/VarHandle" ∧ (parseMethodDescriptor yJ7_checkLength_df160.desc).map (fun d => d.parameters.length) = some 2 := by decide +kernel
theorem hyJ7_copyOfRangeByte_39247 : yJ7_copyOfRangeByte_39247.cls ≠ "java/lang/invoke/MethodHandle" ∧ yJ7_copyOfRangeByte_39247.cls ≠ "java/lang/invoke/VarHandle" ∧ (parseMethodDescriptor yJ7_copyOfRangeByte_39247.desc).map (fun d => d.parameters.length) = some 3 := by decide +kernel
theorem hyJ7_copyOfRange_39247 : yJ7_copyOfRange_39247.cls ≠ "java/lang/invoke/MethodHandle" ∧ yJ7_copyOfRange_39247.cls ≠ "java/lang/invoke/VarHandle" ∧ (parseMethodDescriptor yJ7_copyOfRange_39247.desc).map (fun d => d.parameters.length) = some 3 := by decide +kernel
theorem dJ1_canEncode_9a6ad_0 : decode cJ1_canEncode_9a6ad 0 = .ok (.iload_n 0, 1) := by decide +kernel
theorem dJ1_canEncode_9a6ad_1 : decode cJ1_canEncode_9a6ad 1 = .ok (.ifCond .lt 14, 3) := by decide +kernel
theorem dJ1_canEncode_9a6ad_4 : decode cJ1_canEncode_9a6ad 4 = .ok (.iload_n 0, 1) := by decide +kernel
theorem dJ1_canEncode_9a6ad_5 : decode cJ1_canEncode_9a6ad 5 = .ok (.sipush 255, 3) := by decide +kernel
theorem dJ1_canEncode_9a6ad_8 : decode cJ1_canEncode_9a6ad 8 = .ok (.if_icmp .gt 7, 3) := by decide +kernel
theorem dJ1_canEncode_9a6ad_11 : decode cJ1_canEncode_9a6ad 11 = .ok (.iconst 1, 1) := by decide +kernel
theorem dJ1_canEncode_9a6ad_12 : decode cJ1_canEncode_9a6ad 12 = .ok (.goto 4, 3) := by decide +kernel
theorem dJ1_canEncode_9a6ad_15 : decode cJ1_canEncode_9a6ad 15 = .ok (.iconst 0, 1) := by decide +kernel
theorem dJ1_canEncode_9a6ad_16 : decode cJ1_canEncode_9a6ad 16 = .ok (.ireturn, 1) := by decide +kernel
def mJ1_canEncode_9a6ad (p0 : Int32) : Option (Int32) := (if p0 < 0 then some 0 else (if (255 : Int32) < p0 then some 0 else some 1))
set_option maxHeartbeats 4000000 in
set_option maxRecDepth 100000 in
theorem kcJ1_canEncode_9a6ad (l : Launch) (D : va_G) (cy : Nat → ClassId) (g : Nat → Nat) (p0 : Int32) (R : Int32) (hm : mJ1_canEncode_9a6ad p0 = some R) : Con l D cy g yJ1_canEncode_9a6ad cJ1_canEncode_9a6ad 1 (some .boolean) 0 0 0 0 [.int p0] [] [] (some (.int R)) := by
  refine Con.of (by decide +kernel) (Nat.le_of_ble_eq_true rfl) ?_
  intro p e RM s m ar below meth c A Qc ls hx hb hr hml hown hlocks hnm ht hK hP hD hS hA hR hC hQc hl
  have hown : s.vm.findClass RJ1 = some m.cls := hown
  have hl : lv_has ls 1 [(0, .int p0)] := hl
  rw [mJ1_canEncode_9a6ad] at hm
  refine lv_iload_n hx hb dJ1_canEncode_9a6ad_0 rfl (lv_at hl 0 rfl) ?_
  refine lv_if_lt (tgt := 15) hx hb dJ1_canEncode_9a6ad_1 (by decide) (fun c_1 => ?_) (fun c_1 => ?_)
  · replace hm := hm_t c_1 hm
    refine lv_iconst (v := 0) hx hb dJ1_canEncode_9a6ad_15 (by decide) ?_
    obtain rfl := Option.some.inj hm
    exact k_zret hx hb hr hlocks hQc rfl hP hS rfl rfl dJ1_canEncode_9a6ad_16
  · replace hm := hm_f c_1 hm
    refine lv_iload_n hx hb dJ1_canEncode_9a6ad_4 rfl (lv_at hl 0 rfl) ?_
    refine lv_sipush (v := 255) hx hb dJ1_canEncode_9a6ad_5 (by decide) ?_
    refine lv_icmp_gt (tgt := 15) hx hb dJ1_canEncode_9a6ad_8 (by decide) (fun c_2 => ?_) (fun c_2 => ?_)
    · replace hm := hm_t c_2 hm
      refine lv_iconst (v := 0) hx hb dJ1_canEncode_9a6ad_15 (by decide) ?_
      obtain rfl := Option.some.inj hm
      exact k_zret hx hb hr hlocks hQc rfl hP hS rfl rfl dJ1_canEncode_9a6ad_16
    · replace hm := hm_f c_2 hm
      refine lv_iconst (v := 1) hx hb dJ1_canEncode_9a6ad_11 (by decide) ?_
      refine lv_goto (tgt := 16) hx hb dJ1_canEncode_9a6ad_12 (by decide) ?_
      obtain rfl := Option.some.inj hm
      exact k_zret hx hb hr hlocks hQc rfl hP hS rfl rfl dJ1_canEncode_9a6ad_16
theorem dJ1_indexOfChar_4cfef_0 : decode cJ1_indexOfChar_4cfef 0 = .ok (.iload_n 1, 1) := by decide +kernel
theorem dJ1_indexOfChar_4cfef_1 : decode cJ1_indexOfChar_4cfef 1 = .ok (.i2b, 1) := by decide +kernel
theorem dJ1_indexOfChar_4cfef_2 : decode cJ1_indexOfChar_4cfef 2 = .ok (.istore 4, 2) := by decide +kernel
theorem dJ1_indexOfChar_4cfef_4 : decode cJ1_indexOfChar_4cfef 4 = .ok (.iload_n 2, 1) := by decide +kernel
theorem dJ1_indexOfChar_4cfef_5 : decode cJ1_indexOfChar_4cfef 5 = .ok (.istore 5, 2) := by decide +kernel
theorem dJ1_indexOfChar_4cfef_7 : decode cJ1_indexOfChar_4cfef 7 = .ok (.iload 5, 2) := by decide +kernel
theorem dJ1_indexOfChar_4cfef_9 : decode cJ1_indexOfChar_4cfef 9 = .ok (.iload_n 3, 1) := by decide +kernel
theorem dJ1_indexOfChar_4cfef_10 : decode cJ1_indexOfChar_4cfef 10 = .ok (.if_icmp .ge 21, 3) := by decide +kernel
theorem dJ1_indexOfChar_4cfef_13 : decode cJ1_indexOfChar_4cfef 13 = .ok (.aload_n 0, 1) := by decide +kernel
theorem dJ1_indexOfChar_4cfef_14 : decode cJ1_indexOfChar_4cfef 14 = .ok (.iload 5, 2) := by decide +kernel
theorem dJ1_indexOfChar_4cfef_16 : decode cJ1_indexOfChar_4cfef 16 = .ok (.baload, 1) := by decide +kernel
theorem dJ1_indexOfChar_4cfef_17 : decode cJ1_indexOfChar_4cfef 17 = .ok (.iload 4, 2) := by decide +kernel
theorem dJ1_indexOfChar_4cfef_19 : decode cJ1_indexOfChar_4cfef 19 = .ok (.if_icmp .ne 6, 3) := by decide +kernel
theorem dJ1_indexOfChar_4cfef_22 : decode cJ1_indexOfChar_4cfef 22 = .ok (.iload 5, 2) := by decide +kernel
theorem dJ1_indexOfChar_4cfef_24 : decode cJ1_indexOfChar_4cfef 24 = .ok (.ireturn, 1) := by decide +kernel
theorem dJ1_indexOfChar_4cfef_25 : decode cJ1_indexOfChar_4cfef 25 = .ok (.iinc 5 1, 3) := by decide +kernel
theorem dJ1_indexOfChar_4cfef_28 : decode cJ1_indexOfChar_4cfef 28 = .ok (.goto (-21), 3) := by decide +kernel
theorem dJ1_indexOfChar_4cfef_31 : decode cJ1_indexOfChar_4cfef 31 = .ok (.iconst (-1), 1) := by decide +kernel
theorem dJ1_indexOfChar_4cfef_32 : decode cJ1_indexOfChar_4cfef 32 = .ok (.ireturn, 1) := by decide +kernel
def mJ1_indexOfChar_4cfef_L7 (p3 : Int32) (i1 : Nat) (x_1 : Int32) : Nat → Int32 → Option (Int32)
  | 0, _ => none
  | n_ + 1, y_7 => (if p3 ≤ y_7 then some (-1) else (if y_7 < 0 ∨ (sLen i1) ≤ y_7.toNatClampNeg then none else (if (sByt i1 y_7.toNatClampNeg) = x_1 then some y_7 else (mJ1_indexOfChar_4cfef_L7 p3 i1 x_1 n_ (y_7 + 1)))))
def mJ1_indexOfChar_4cfef (k : Nat) (p1 : Int32) (p2 : Int32) (p3 : Int32) (i1 : Nat) : Option (Int32) := ((some (p1.toInt8.toInt32) : Option Int32).bind (fun x_1 => (mJ1_indexOfChar_4cfef_L7 p3 i1 x_1 k p2)))
set_option maxHeartbeats 4000000 in
set_option maxRecDepth 100000 in
theorem kcJ1_indexOfChar_4cfef (l : Launch) (D : va_G) (cy : Nat → ClassId) (g : Nat → Nat) (p1 : Int32) (p2 : Int32) (p3 : Int32) (i1 : Nat) (h_i1 : i1 < 44) (k : Nat) (R : Int32) (hm : mJ1_indexOfChar_4cfef k p1 p2 p3 i1 = some R) : Con l D cy g yJ1_indexOfChar_4cfef cJ1_indexOfChar_4cfef 6 (some .int) 0 0 0 0 [.ref (g (100 + i1)), .int p1, .int p2, .int p3] [] [] (some (.int R)) := by
  refine Con.of (by decide +kernel) (Nat.le_of_ble_eq_true rfl) ?_
  intro p e RM s m ar below meth c A Qc ls hx hb hr hml hown hlocks hnm ht hK hP hD hS hA hR hC hQc hl
  have hown : s.vm.findClass RJ1 = some m.cls := hown
  have hl : lv_has ls 6 [(0, .ref (g (100 + i1))), (1, .int p1), (2, .int p2), (3, .int p3)] := hl
  rw [mJ1_indexOfChar_4cfef] at hm
  refine lv_iload_n hx hb dJ1_indexOfChar_4cfef_0 rfl (lv_at hl 1 rfl) ?_
  refine lv_i2b hx hb dJ1_indexOfChar_4cfef_1 rfl ?_
  obtain ⟨x_1, hx_, hm⟩ := hm_b hm
  refine k_topi (y := x_1) (Option.some.inj hx_) ?_
  refine lv_istore (lv' := [(4, .int x_1), (0, .ref (g (100 + i1))), (1, .int p1), (2, .int p2), (3, .int p3)]) hx hb dJ1_indexOfChar_4cfef_2 hl (by decide) rfl (fun ls hl => ?_)
  refine lv_iload_n hx hb dJ1_indexOfChar_4cfef_4 rfl (lv_at hl 3 rfl) ?_
  refine lv_istore (lv' := [(5, .int p2), (4, .int x_1), (0, .ref (g (100 + i1))), (1, .int p1), (2, .int p2), (3, .int p3)]) hx hb dJ1_indexOfChar_4cfef_5 hl (by decide) rfl (fun ls hl => ?_)
  have L7 : ∀ (n_ : Nat), ∀ (y_7 : Int32), mJ1_indexOfChar_4cfef_L7 p3 i1 x_1 n_ y_7 = some R → ∀ (H : Heap) (locs : List Loc) (ls : Array Slot), va_P D classes [] H → va_D A [] → va_S A s.heap H locs → lv_has ls 6 [(5, .int y_7), (4, .int x_1), (0, .ref (g (100 + i1))), (3, .int p3)] → W p l e RM s m ar below meth c H locs 0 0 (MQ below Qc ar s 0 0 A) (F0 m 7 ls []) := by
    intro n_
    induction n_ with
    | zero => intro y_7 hm; rw [mJ1_indexOfChar_4cfef_L7] at hm; cases hm
    | succ n_ ih =>
      intro y_7 hm H locs ls hP hD hS hl
      rw [mJ1_indexOfChar_4cfef_L7] at hm
      refine lv_iload hx hb dJ1_indexOfChar_4cfef_7 (lv_at hl 0 rfl) ?_
      refine lv_iload_n hx hb dJ1_indexOfChar_4cfef_9 rfl (lv_at hl 3 rfl) ?_
      refine lv_icmp_ge (tgt := 31) hx hb dJ1_indexOfChar_4cfef_10 (by decide) (fun c_8 => ?_) (fun c_8 => ?_)
      · replace hm := hm_t c_8 hm
        refine lv_iconst (v := (-1)) hx hb dJ1_indexOfChar_4cfef_31 (by decide) ?_
        obtain rfl := Option.some.inj hm
        exact k_iret hx hb hr hlocks hQc hP hS rfl rfl dJ1_indexOfChar_4cfef_32
      · replace hm := hm_f c_8 hm
        refine lv_aload_n hx hb dJ1_indexOfChar_4cfef_13 rfl (lv_at hl 2 rfl) ?_
        refine lv_iload hx hb dJ1_indexOfChar_4cfef_14 (lv_at hl 0 rfl) ?_
        obtain ⟨hin, hm⟩ := hm_g hm
        refine va_tb (v := .int (sByt i1 y_7.toNatClampNeg)) hx hb (hC.1 _ h_i1).2.2.2 hS hin rfl dJ1_indexOfChar_4cfef_16 ?_
        refine lv_iload hx hb dJ1_indexOfChar_4cfef_17 (lv_at hl 1 rfl) ?_
        refine lv_icmp_ne (tgt := 25) hx hb dJ1_indexOfChar_4cfef_19 (by decide) (fun c_9 => ?_) (fun c_9 => ?_)
        · replace hm := hm_f c_9 hm
          refine lv_iinc (v := (y_7 + 1)) (lv' := [(5, .int (y_7 + 1)), (4, .int x_1), (0, .ref (g (100 + i1))), (3, .int p3)]) hx hb dJ1_indexOfChar_4cfef_25 hl (k := 0) rfl rfl (by decide) rfl (fun ls hl => ?_)
          refine lv_goto (tgt := 7) hx hb dJ1_indexOfChar_4cfef_28 (by decide) ?_
          exact ih (y_7 + 1) hm _ _ _ hP hD hS (lv_sub hl [0, 1, 2, 3] rfl)
        · replace hm := hm_t c_9 hm
          refine lv_iload hx hb dJ1_indexOfChar_4cfef_22 (lv_at hl 0 rfl) ?_
          obtain rfl := Option.some.inj hm
          exact k_iret hx hb hr hlocks hQc hP hS rfl rfl dJ1_indexOfChar_4cfef_24
  exact L7 k p2 hm _ _ _ hP hD hS (lv_sub hl [0, 1, 2, 5] rfl)
theorem dJ1_indexOf_4cfef_0 : decode cJ1_indexOf_4cfef 0 = .ok (.iload_n 1, 1) := by decide +kernel
theorem dJ1_indexOf_4cfef_1 : decode cJ1_indexOf_4cfef 1 = .ok (.invokestatic 88, 3) := by decide +kernel
theorem dJ1_indexOf_4cfef_4 : decode cJ1_indexOf_4cfef 4 = .ok (.ifCond .ne 5, 3) := by decide +kernel
theorem dJ1_indexOf_4cfef_7 : decode cJ1_indexOf_4cfef 7 = .ok (.iconst (-1), 1) := by decide +kernel
theorem dJ1_indexOf_4cfef_8 : decode cJ1_indexOf_4cfef 8 = .ok (.ireturn, 1) := by decide +kernel
theorem dJ1_indexOf_4cfef_9 : decode cJ1_indexOf_4cfef 9 = .ok (.iload_n 2, 1) := by decide +kernel
theorem dJ1_indexOf_4cfef_10 : decode cJ1_indexOf_4cfef 10 = .ok (.iconst 0, 1) := by decide +kernel
theorem dJ1_indexOf_4cfef_11 : decode cJ1_indexOf_4cfef 11 = .ok (.invokestatic 92, 3) := by decide +kernel
theorem dJ1_indexOf_4cfef_14 : decode cJ1_indexOf_4cfef 14 = .ok (.istore_n 2, 1) := by decide +kernel
theorem dJ1_indexOf_4cfef_15 : decode cJ1_indexOf_4cfef 15 = .ok (.iload_n 3, 1) := by decide +kernel
theorem dJ1_indexOf_4cfef_16 : decode cJ1_indexOf_4cfef 16 = .ok (.aload_n 0, 1) := by decide +kernel
theorem dJ1_indexOf_4cfef_17 : decode cJ1_indexOf_4cfef 17 = .ok (.arraylength, 1) := by decide +kernel
theorem dJ1_indexOf_4cfef_18 : decode cJ1_indexOf_4cfef 18 = .ok (.invokestatic 38, 3) := by decide +kernel
theorem dJ1_indexOf_4cfef_21 : decode cJ1_indexOf_4cfef 21 = .ok (.istore_n 3, 1) := by decide +kernel
theorem dJ1_indexOf_4cfef_22 : decode cJ1_indexOf_4cfef 22 = .ok (.iload_n 2, 1) := by decide +kernel
theorem dJ1_indexOf_4cfef_23 : decode cJ1_indexOf_4cfef 23 = .ok (.iload_n 3, 1) := by decide +kernel
theorem dJ1_indexOf_4cfef_24 : decode cJ1_indexOf_4cfef 24 = .ok (.if_icmp .lt 5, 3) := by decide +kernel
theorem dJ1_indexOf_4cfef_27 : decode cJ1_indexOf_4cfef 27 = .ok (.iconst (-1), 1) := by decide +kernel
theorem dJ1_indexOf_4cfef_28 : decode cJ1_indexOf_4cfef 28 = .ok (.ireturn, 1) := by decide +kernel
theorem dJ1_indexOf_4cfef_29 : decode cJ1_indexOf_4cfef 29 = .ok (.aload_n 0, 1) := by decide +kernel
theorem dJ1_indexOf_4cfef_30 : decode cJ1_indexOf_4cfef 30 = .ok (.iload_n 1, 1) := by decide +kernel
theorem dJ1_indexOf_4cfef_31 : decode cJ1_indexOf_4cfef 31 = .ok (.iload_n 2, 1) := by decide +kernel
theorem dJ1_indexOf_4cfef_32 : decode cJ1_indexOf_4cfef 32 = .ok (.iload_n 3, 1) := by decide +kernel
theorem dJ1_indexOf_4cfef_33 : decode cJ1_indexOf_4cfef 33 = .ok (.invokestatic 95, 3) := by decide +kernel
theorem dJ1_indexOf_4cfef_36 : decode cJ1_indexOf_4cfef 36 = .ok (.ireturn, 1) := by decide +kernel
def mJ1_indexOf_4cfef (k : Nat) (p1 : Int32) (p2 : Int32) (p3 : Int32) (i1 : Nat) : Option (Int32) := ((mJ1_canEncode_9a6ad p1).bind (fun r_1 => (if r_1 = 0 then some (-1) else ((some (if p2 < 0 then 0 else p2) : Option Int32).bind (fun x_3 => ((some (if (nI (sLen i1)) < p3 then (nI (sLen i1)) else p3) : Option Int32).bind (fun x_4 => (if x_3 < x_4 then ((mJ1_indexOfChar_4cfef k p1 x_3 x_4 i1).bind (fun r_6 => some r_6)) else some (-1)))))))))
set_option maxHeartbeats 4000000 in
set_option maxRecDepth 100000 in
theorem kcJ1_indexOf_4cfef (l : Launch) (D : va_G) (cy : Nat → ClassId) (g : Nat → Nat) (p1 : Int32) (p2 : Int32) (p3 : Int32) (i1 : Nat) (h_i1 : i1 < 44) (k : Nat) (R : Int32) (hm : mJ1_indexOf_4cfef k p1 p2 p3 i1 = some R) : Con l D cy g yJ1_indexOf_4cfef cJ1_indexOf_4cfef 4 (some .int) 1 25 0 0 [.ref (g (100 + i1)), .int p1, .int p2, .int p3] [] [] (some (.int R)) := by
  refine Con.of (by decide +kernel) (Nat.le_of_ble_eq_true rfl) ?_
  intro p e RM s m ar below meth c A Qc ls hx hb hr hml hown hlocks hnm ht hK hP hD hS hA hR hC hQc hl
  have hown : s.vm.findClass RJ1 = some m.cls := hown
  have hl : lv_has ls 4 [(0, .ref (g (100 + i1))), (1, .int p1), (2, .int p2), (3, .int p3)] := hl
  rw [mJ1_indexOf_4cfef] at hm
  refine lv_iload_n hx hb dJ1_indexOf_4cfef_0 rfl (lv_at hl 1 rfl) ?_
  obtain ⟨r_1, hr_1, hm⟩ := hm_b hm
  refine k_S (as := [.int p1]) (rest := []) (ws' := []) (st2 := [.int r_1]) hx hb hml hown ht hK hP hD hS hA hC hR hl (kcJ1_canEncode_9a6ad l D cy g p1 r_1 hr_1) [] q_1678 q_1679 q_64 q_1680 hyJ1_canEncode_9a6ad ⟨Nat.le_of_ble_eq_true rfl, Nat.le_of_ble_eq_true rfl, Nat.le_of_ble_eq_true rfl, Nat.le_of_ble_eq_true rfl⟩ rfl rfl rfl rfl (Nat.le_of_ble_eq_true rfl) dJ1_indexOf_4cfef_1 rfl rfl (fun H locs hP hD hS => ?_)
  refine lv_if_ne (tgt := 9) hx hb dJ1_indexOf_4cfef_4 (by decide) (fun c_2 => ?_) (fun c_2 => ?_)
  · replace hm := hm_f c_2 hm
    refine lv_iload_n hx hb dJ1_indexOf_4cfef_9 rfl (lv_at hl 2 rfl) ?_
    refine lv_iconst (v := 0) hx hb dJ1_indexOf_4cfef_10 (by decide) ?_
    refine va_mmax hx hb (hml.trans hl.1.symm) hown (ht _ q_1681) (ht _ q_100) (ht _ q_46) (ht _ q_101) (by rw [hR]; exact Nat.le_of_ble_eq_true rfl) (by rw [hR]; exact Nat.le_of_ble_eq_true rfl) (by rw [hR]; exact Nat.le_of_ble_eq_true rfl) (by rw [hR]; exact Nat.le_of_ble_eq_true rfl) dJ1_indexOf_4cfef_11 ?_
    obtain ⟨x_3, hx_, hm⟩ := hm_b hm
    refine k_topi (y := x_3) (Option.some.inj hx_) ?_
    refine lv_istore_n (lv' := [(2, .int x_3), (0, .ref (g (100 + i1))), (1, .int p1), (3, .int p3)]) hx hb dJ1_indexOf_4cfef_14 rfl hl (by decide) rfl (fun ls hl => ?_)
    refine lv_iload_n hx hb dJ1_indexOf_4cfef_15 rfl (lv_at hl 3 rfl) ?_
    refine lv_aload_n hx hb dJ1_indexOf_4cfef_16 rfl (lv_at hl 1 rfl) ?_
    refine va_tlen (v := (nI (sLen i1))) hx hb (hC.1 _ h_i1).2.2.2 hS rfl dJ1_indexOf_4cfef_17 ?_
    refine va_mmin hx hb (hml.trans hl.1.symm) hown (ht _ q_1682) (ht _ q_430) (ht _ q_46) (ht _ q_431) (by rw [hR]; exact Nat.le_of_ble_eq_true rfl) (by rw [hR]; exact Nat.le_of_ble_eq_true rfl) (by rw [hR]; exact Nat.le_of_ble_eq_true rfl) (by rw [hR]; exact Nat.le_of_ble_eq_true rfl) dJ1_indexOf_4cfef_18 ?_
    obtain ⟨x_4, hx_, hm⟩ := hm_b hm
    refine k_topi (y := x_4) (Option.some.inj hx_) ?_
    refine lv_istore_n (lv' := [(3, .int x_4), (2, .int x_3), (0, .ref (g (100 + i1))), (1, .int p1)]) hx hb dJ1_indexOf_4cfef_21 rfl hl (by decide) rfl (fun ls hl => ?_)
    refine lv_iload_n hx hb dJ1_indexOf_4cfef_22 rfl (lv_at hl 1 rfl) ?_
    refine lv_iload_n hx hb dJ1_indexOf_4cfef_23 rfl (lv_at hl 0 rfl) ?_
    refine lv_icmp_lt (tgt := 29) hx hb dJ1_indexOf_4cfef_24 (by decide) (fun c_5 => ?_) (fun c_5 => ?_)
    · replace hm := hm_t c_5 hm
      refine lv_aload_n hx hb dJ1_indexOf_4cfef_29 rfl (lv_at hl 2 rfl) ?_
      refine lv_iload_n hx hb dJ1_indexOf_4cfef_30 rfl (lv_at hl 3 rfl) ?_
      refine lv_iload_n hx hb dJ1_indexOf_4cfef_31 rfl (lv_at hl 1 rfl) ?_
      refine lv_iload_n hx hb dJ1_indexOf_4cfef_32 rfl (lv_at hl 0 rfl) ?_
      obtain ⟨r_6, hr_6, hm⟩ := hm_b hm
      refine k_S (as := [.ref (g (100 + i1)), .int p1, .int x_3, .int x_4]) (rest := []) (ws' := []) (st2 := [.int r_6]) hx hb hml hown ht hK hP hD hS hA hC hR hl (kcJ1_indexOfChar_4cfef l D cy g p1 x_3 x_4 i1 h_i1 k r_6 hr_6) [] q_1683 q_1684 q_64 q_1685 hyJ1_indexOfChar_4cfef ⟨Nat.le_of_ble_eq_true rfl, Nat.le_of_ble_eq_true rfl, Nat.le_of_ble_eq_true rfl, Nat.le_of_ble_eq_true rfl⟩ rfl rfl rfl rfl (Nat.le_of_ble_eq_true rfl) dJ1_indexOf_4cfef_33 rfl rfl (fun H locs hP hD hS => ?_)
      obtain rfl := Option.some.inj hm
      exact k_iret hx hb hr hlocks hQc hP hS rfl rfl dJ1_indexOf_4cfef_36
    · replace hm := hm_f c_5 hm
      refine lv_iconst (v := (-1)) hx hb dJ1_indexOf_4cfef_27 (by decide) ?_
      obtain rfl := Option.some.inj hm
      exact k_iret hx hb hr hlocks hQc hP hS rfl rfl dJ1_indexOf_4cfef_28
  · replace hm := hm_t c_2 hm
    refine lv_iconst (v := (-1)) hx hb dJ1_indexOf_4cfef_7 (by decide) ?_
    obtain rfl := Option.some.inj hm
    exact k_iret hx hb hr hlocks hQc hP hS rfl rfl dJ1_indexOf_4cfef_8
theorem dJ0_indexOf_7cf53_0 : decode cJ0_indexOf_7cf53 0 = .ok (.aload_n 0, 1) := by decide +kernel
theorem dJ0_indexOf_7cf53_1 : decode cJ0_indexOf_7cf53 1 = .ok (.invokevirtual 492, 3) := by decide +kernel
theorem dJ0_indexOf_7cf53_4 : decode cJ0_indexOf_7cf53 4 = .ok (.ifCond .eq 19, 3) := by decide +kernel
theorem dJ0_indexOf_7cf53_7 : decode cJ0_indexOf_7cf53 7 = .ok (.aload_n 0, 1) := by decide +kernel
theorem dJ0_indexOf_7cf53_8 : decode cJ0_indexOf_7cf53 8 = .ok (.getfield 9, 3) := by decide +kernel
theorem dJ0_indexOf_7cf53_11 : decode cJ0_indexOf_7cf53 11 = .ok (.iload_n 1, 1) := by decide +kernel
theorem dJ0_indexOf_7cf53_12 : decode cJ0_indexOf_7cf53 12 = .ok (.iload_n 2, 1) := by decide +kernel
theorem dJ0_indexOf_7cf53_13 : decode cJ0_indexOf_7cf53 13 = .ok (.aload_n 0, 1) := by decide +kernel
theorem dJ0_indexOf_7cf53_14 : decode cJ0_indexOf_7cf53 14 = .ok (.invokevirtual 505, 3) := by decide +kernel
theorem dJ0_indexOf_7cf53_17 : decode cJ0_indexOf_7cf53 17 = .ok (.invokestatic 637, 3) := by decide +kernel
theorem dJ0_indexOf_7cf53_20 : decode cJ0_indexOf_7cf53 20 = .ok (.goto 16, 3) := by decide +kernel
theorem dJ0_indexOf_7cf53_23 : decode cJ0_indexOf_7cf53 23 = .ok (.aload_n 0, 1) := by decide +kernel
theorem dJ0_indexOf_7cf53_24 : decode cJ0_indexOf_7cf53 24 = .ok (.getfield 9, 3) := by decide +kernel
theorem dJ0_indexOf_7cf53_27 : decode cJ0_indexOf_7cf53 27 = .ok (.iload_n 1, 1) := by decide +kernel
theorem dJ0_indexOf_7cf53_28 : decode cJ0_indexOf_7cf53 28 = .ok (.iload_n 2, 1) := by decide +kernel
theorem dJ0_indexOf_7cf53_29 : decode cJ0_indexOf_7cf53 29 = .ok (.aload_n 0, 1) := by decide +kernel
theorem dJ0_indexOf_7cf53_30 : decode cJ0_indexOf_7cf53 30 = .ok (.invokevirtual 505, 3) := by decide +kernel
theorem dJ0_indexOf_7cf53_33 : decode cJ0_indexOf_7cf53 33 = .ok (.invokestatic 640, 3) := by decide +kernel
theorem dJ0_indexOf_7cf53_36 : decode cJ0_indexOf_7cf53 36 = .ok (.ireturn, 1) := by decide +kernel
def mJ0_indexOf_7cf53 (k : Nat) (p1 : Int32) (p2 : Int32) (i1 : Nat) : Option (Int32) := ((mJ0_isLatin1_aae02).bind (fun r_1 => (if r_1 = 0 then none else ((mJ0_length_8abf5 i1).bind (fun r_3 => ((mJ1_indexOf_4cfef k p1 p2 r_3 i1).bind (fun r_4 => some r_4)))))))
set_option maxHeartbeats 4000000 in
set_option maxRecDepth 100000 in
theorem kcJ0_indexOf_7cf53 (l : Launch) (D : va_G) (cy : Nat → ClassId) (g : Nat → Nat) (p1 : Int32) (p2 : Int32) (i1 : Nat) (h_i1 : i1 < 44) (k : Nat) (R : Int32) (hm : mJ0_indexOf_7cf53 k p1 p2 i1 = some R) : Con l D cy g yJ0_indexOf_7cf53 cJ0_indexOf_7cf53 3 (some .int) 2 48 0 0 [.ref (g i1), .int p1, .int p2] [] [] (some (.int R)) := by
  refine Con.of (by decide +kernel) (Nat.le_of_ble_eq_true rfl) ?_
  intro p e RM s m ar below meth c A Qc ls hx hb hr hml hown hlocks hnm ht hK hP hD hS hA hR hC hQc hl
  have hown : s.vm.findClass RJ0 = some m.cls := hown
  have hl : lv_has ls 3 [(0, .ref (g i1)), (1, .int p1), (2, .int p2)] := hl
  rw [mJ0_indexOf_7cf53] at hm
  refine lv_aload_n hx hb dJ0_indexOf_7cf53_0 rfl (lv_at hl 0 rfl) ?_
  obtain ⟨r_1, hr_1, hm⟩ := hm_b hm
  refine k_VC (as := []) (rest := []) (ws' := []) (st2 := [.int r_1]) hx hb hml hown ht hK hP hD hS hA hC hR hl (kcJ0_isLatin1_aae02 l D cy g i1 h_i1 r_1 hr_1) [] q_479 q_480 q_481 q_63 q_482 hyJ0_isLatin1_aae02 (hC.1 _ h_i1).1 rfl ⟨Nat.le_of_ble_eq_true rfl, Nat.le_of_ble_eq_true rfl, Nat.le_of_ble_eq_true rfl, Nat.le_of_ble_eq_true rfl⟩ rfl rfl rfl rfl (Nat.le_of_ble_eq_true rfl) dJ0_indexOf_7cf53_1 rfl rfl (fun H locs hP hD hS => ?_)
  refine lv_if_eq (tgt := 23) hx hb dJ0_indexOf_7cf53_4 (by decide) (fun c_2 => ?_) (fun c_2 => ?_)
  · replace hm := hm_t c_2 hm
    cases hm
  · replace hm := hm_f c_2 hm
    refine lv_aload_n hx hb dJ0_indexOf_7cf53_7 rfl (lv_at hl 0 rfl) ?_
    refine vk_getf (v := .ref (g (100 + i1))) hx hb (hC.1 _ h_i1).2.2.1 hS hown (ht _ q_1923) (fun _ h9 => h9) dJ0_indexOf_7cf53_8 ?_
    refine lv_iload_n hx hb dJ0_indexOf_7cf53_11 rfl (lv_at hl 1 rfl) ?_
    refine lv_iload_n hx hb dJ0_indexOf_7cf53_12 rfl (lv_at hl 2 rfl) ?_
    refine lv_aload_n hx hb dJ0_indexOf_7cf53_13 rfl (lv_at hl 0 rfl) ?_
    obtain ⟨r_3, hr_3, hm⟩ := hm_b hm
    refine k_VC (as := []) (rest := [.int p2, .int p1, .ref (g (100 + i1))]) (ws' := []) (st2 := [.int r_3, .int p2, .int p1, .ref (g (100 + i1))]) hx hb hml hown ht hK hP hD hS hA hC hR hl (kcJ0_length_8abf5 l D cy g i1 h_i1 r_3 hr_3) [] q_1674 q_466 q_467 q_63 q_468 hyJ0_length_8abf5 (hC.1 _ h_i1).1 rfl ⟨Nat.le_of_ble_eq_true rfl, Nat.le_of_ble_eq_true rfl, Nat.le_of_ble_eq_true rfl, Nat.le_of_ble_eq_true rfl⟩ rfl rfl rfl rfl (Nat.le_of_ble_eq_true rfl) dJ0_indexOf_7cf53_14 rfl rfl (fun H locs hP hD hS => ?_)
    obtain ⟨r_4, hr_4, hm⟩ := hm_b hm
    refine k_S (as := [.ref (g (100 + i1)), .int p1, .int p2, .int r_3]) (rest := []) (ws' := []) (st2 := [.int r_4]) hx hb hml hown ht hK hP hD hS hA hC hR hl (kcJ1_indexOf_4cfef l D cy g p1 p2 r_3 i1 h_i1 k r_4 hr_4) [] q_1675 q_1676 q_64 q_1677 hyJ1_indexOf_4cfef ⟨Nat.le_of_ble_eq_true rfl, Nat.le_of_ble_eq_true rfl, Nat.le_of_ble_eq_true rfl, Nat.le_of_ble_eq_true rfl⟩ rfl rfl rfl rfl (Nat.le_of_ble_eq_true rfl) dJ0_indexOf_7cf53_17 rfl rfl (fun H locs hP hD hS => ?_)
    refine lv_goto (tgt := 36) hx hb dJ0_indexOf_7cf53_20 (by decide) ?_
    obtain rfl := Option.some.inj hm
    exact k_iret hx hb hr hlocks hQc hP hS rfl rfl dJ0_indexOf_7cf53_36
theorem dJ3_checkFromToIndex_8c36e_0 : decode cJ3_checkFromToIndex_8c36e 0 = .ok (.iload_n 0, 1) := by decide +kernel
theorem dJ3_checkFromToIndex_8c36e_1 : decode cJ3_checkFromToIndex_8c36e 1 = .ok (.ifCond .lt 13, 3) := by decide +kernel
theorem dJ3_checkFromToIndex_8c36e_4 : decode cJ3_checkFromToIndex_8c36e 4 = .ok (.iload_n 0, 1) := by decide +kernel
theorem dJ3_checkFromToIndex_8c36e_5 : decode cJ3_checkFromToIndex_8c36e 5 = .ok (.iload_n 1, 1) := by decide +kernel
theorem dJ3_checkFromToIndex_8c36e_6 : decode cJ3_checkFromToIndex_8c36e 6 = .ok (.if_icmp .gt 8, 3) := by decide +kernel
theorem dJ3_checkFromToIndex_8c36e_9 : decode cJ3_checkFromToIndex_8c36e 9 = .ok (.iload_n 1, 1) := by decide +kernel
theorem dJ3_checkFromToIndex_8c36e_10 : decode cJ3_checkFromToIndex_8c36e 10 = .ok (.iload_n 2, 1) := by decide +kernel
theorem dJ3_checkFromToIndex_8c36e_11 : decode cJ3_checkFromToIndex_8c36e 11 = .ok (.if_icmp .le 11, 3) := by decide +kernel
theorem dJ3_checkFromToIndex_8c36e_14 : decode cJ3_checkFromToIndex_8c36e 14 = .ok (.aload_n 3, 1) := by decide +kernel
theorem dJ3_checkFromToIndex_8c36e_15 : decode cJ3_checkFromToIndex_8c36e 15 = .ok (.iload_n 0, 1) := by decide +kernel
theorem dJ3_checkFromToIndex_8c36e_16 : decode cJ3_checkFromToIndex_8c36e 16 = .ok (.iload_n 1, 1) := by decide +kernel
theorem dJ3_checkFromToIndex_8c36e_17 : decode cJ3_checkFromToIndex_8c36e 17 = .ok (.iload_n 2, 1) := by decide +kernel
theorem dJ3_checkFromToIndex_8c36e_18 : decode cJ3_checkFromToIndex_8c36e 18 = .ok (.invokestatic 99, 3) := by decide +kernel
theorem dJ3_checkFromToIndex_8c36e_21 : decode cJ3_checkFromToIndex_8c36e 21 = .ok (.athrow, 1) := by decide +kernel
theorem dJ3_checkFromToIndex_8c36e_22 : decode cJ3_checkFromToIndex_8c36e 22 = .ok (.iload_n 0, 1) := by decide +kernel
theorem dJ3_checkFromToIndex_8c36e_23 : decode cJ3_checkFromToIndex_8c36e 23 = .ok (.ireturn, 1) := by decide +kernel
def mJ3_checkFromToIndex_n (p0 : Int32) (p1 : Int32) (p2 : Int32) : Option (Int32) := (if p0 < 0 then none else (if p1 < p0 then none else (if p1 ≤ p2 then some p0 else none)))
set_option maxHeartbeats 4000000 in
set_option maxRecDepth 100000 in
theorem kcJ3_checkFromToIndex_n (l : Launch) (D : va_G) (cy : Nat → ClassId) (g : Nat → Nat) (p0 : Int32) (p1 : Int32) (p2 : Int32) (R : Int32) (hm : mJ3_checkFromToIndex_n p0 p1 p2 = some R) : Con l D cy g yJ3_checkFromToIndex_8c36e cJ3_checkFromToIndex_8c36e 4 (some .int) 0 0 0 0 [.int p0, .int p1, .int p2, .null] [] [] (some (.int R)) := by
  refine Con.of (by decide +kernel) (Nat.le_of_ble_eq_true rfl) ?_
  intro p e RM s m ar below meth c A Qc ls hx hb hr hml hown hlocks hnm ht hK hP hD hS hA hR hC hQc hl
  have hown : s.vm.findClass RJ3 = some m.cls := hown
  have hl : lv_has ls 4 [(0, .int p0), (1, .int p1), (2, .int p2), (3, .null)] := hl
  rw [mJ3_checkFromToIndex_n] at hm
  refine lv_iload_n hx hb dJ3_checkFromToIndex_8c36e_0 rfl (lv_at hl 0 rfl) ?_
  refine lv_if_lt (tgt := 14) hx hb dJ3_checkFromToIndex_8c36e_1 (by decide) (fun c_1 => ?_) (fun c_1 => ?_)
  · replace hm := hm_t c_1 hm
    cases hm
  · replace hm := hm_f c_1 hm
    refine lv_iload_n hx hb dJ3_checkFromToIndex_8c36e_4 rfl (lv_at hl 0 rfl) ?_
    refine lv_iload_n hx hb dJ3_checkFromToIndex_8c36e_5 rfl (lv_at hl 1 rfl) ?_
    refine lv_icmp_gt (tgt := 14) hx hb dJ3_checkFromToIndex_8c36e_6 (by decide) (fun c_4 => ?_) (fun c_4 => ?_)
    · replace hm := hm_t c_4 hm
      cases hm
    · replace hm := hm_f c_4 hm
      refine lv_iload_n hx hb dJ3_checkFromToIndex_8c36e_9 rfl (lv_at hl 1 rfl) ?_
      refine lv_iload_n hx hb dJ3_checkFromToIndex_8c36e_10 rfl (lv_at hl 2 rfl) ?_
      refine lv_icmp_le (tgt := 22) hx hb dJ3_checkFromToIndex_8c36e_11 (by decide) (fun c_6 => ?_) (fun c_6 => ?_)
      · replace hm := hm_t c_6 hm
        refine lv_iload_n hx hb dJ3_checkFromToIndex_8c36e_22 rfl (lv_at hl 0 rfl) ?_
        obtain rfl := Option.some.inj hm
        exact k_iret hx hb hr hlocks hQc hP hS rfl rfl dJ3_checkFromToIndex_8c36e_23
      · replace hm := hm_f c_6 hm
        cases hm
def mJ3_checkFromToIndex_r (p0 : Int32) (p1 : Int32) (p2 : Int32) : Option (Int32) := (if p0 < 0 then none else (if p1 < p0 then none else (if p1 ≤ p2 then some p0 else none)))
set_option maxHeartbeats 4000000 in
set_option maxRecDepth 100000 in
theorem kcJ3_checkFromToIndex_r (l : Launch) (D : va_G) (cy : Nat → ClassId) (g : Nat → Nat) (t9 : Nat) (p0 : Int32) (p1 : Int32) (p2 : Int32) (R : Int32) (hm : mJ3_checkFromToIndex_r p0 p1 p2 = some R) : Con l D cy g yJ3_checkFromToIndex_8c36e cJ3_checkFromToIndex_8c36e 4 (some .int) 0 0 0 0 [.int p0, .int p1, .int p2, .ref t9] [] [] (some (.int R)) := by
  refine Con.of (by decide +kernel) (Nat.le_of_ble_eq_true rfl) ?_
  intro p e RM s m ar below meth c A Qc ls hx hb hr hml hown hlocks hnm ht hK hP hD hS hA hR hC hQc hl
  have hown : s.vm.findClass RJ3 = some m.cls := hown
  have hl : lv_has ls 4 [(0, .int p0), (1, .int p1), (2, .int p2), (3, .ref t9)] := hl
  rw [mJ3_checkFromToIndex_r] at hm
  refine lv_iload_n hx hb dJ3_checkFromToIndex_8c36e_0 rfl (lv_at hl 0 rfl) ?_
  refine lv_if_lt (tgt := 14) hx hb dJ3_checkFromToIndex_8c36e_1 (by decide) (fun c_1 => ?_) (fun c_1 => ?_)
  · replace hm := hm_t c_1 hm
    cases hm
  · replace hm := hm_f c_1 hm
    refine lv_iload_n hx hb dJ3_checkFromToIndex_8c36e_4 rfl (lv_at hl 0 rfl) ?_
    refine lv_iload_n hx hb dJ3_checkFromToIndex_8c36e_5 rfl (lv_at hl 1 rfl) ?_
    refine lv_icmp_gt (tgt := 14) hx hb dJ3_checkFromToIndex_8c36e_6 (by decide) (fun c_4 => ?_) (fun c_4 => ?_)
    · replace hm := hm_t c_4 hm
      cases hm
    · replace hm := hm_f c_4 hm
      refine lv_iload_n hx hb dJ3_checkFromToIndex_8c36e_9 rfl (lv_at hl 1 rfl) ?_
      refine lv_iload_n hx hb dJ3_checkFromToIndex_8c36e_10 rfl (lv_at hl 2 rfl) ?_
      refine lv_icmp_le (tgt := 22) hx hb dJ3_checkFromToIndex_8c36e_11 (by decide) (fun c_6 => ?_) (fun c_6 => ?_)
      · replace hm := hm_t c_6 hm
        refine lv_iload_n hx hb dJ3_checkFromToIndex_8c36e_22 rfl (lv_at hl 0 rfl) ?_
        obtain rfl := Option.some.inj hm
        exact k_iret hx hb hr hlocks hQc hP hS rfl rfl dJ3_checkFromToIndex_8c36e_23
      · replace hm := hm_f c_6 hm
        cases hm
theorem dJ0_checkBoundsBeginEnd_23922_0 : decode cJ0_checkBoundsBeginEnd_23922 0 = .ok (.iload_n 0, 1) := by decide +kernel
theorem dJ0_checkBoundsBeginEnd_23922_1 : decode cJ0_checkBoundsBeginEnd_23922 1 = .ok (.iload_n 1, 1) := by decide +kernel
theorem dJ0_checkBoundsBeginEnd_23922_2 : decode cJ0_checkBoundsBeginEnd_23922 2 = .ok (.iload_n 2, 1) := by decide +kernel
theorem dJ0_checkBoundsBeginEnd_23922_3 : decode cJ0_checkBoundsBeginEnd_23922 3 = .ok (.getstatic 1053, 3) := by decide +kernel
theorem dJ0_checkBoundsBeginEnd_23922_6 : decode cJ0_checkBoundsBeginEnd_23922 6 = .ok (.invokestatic 1062, 3) := by decide +kernel
theorem dJ0_checkBoundsBeginEnd_23922_9 : decode cJ0_checkBoundsBeginEnd_23922 9 = .ok (.pop, 1) := by decide +kernel
theorem dJ0_checkBoundsBeginEnd_23922_10 : decode cJ0_checkBoundsBeginEnd_23922 10 = .ok (.return_, 1) := by decide +kernel
def mJ0_checkBoundsBeginEnd_23922 (p0 : Int32) (p1 : Int32) (p2 : Int32) : Option (Unit) := ((mJ3_checkFromToIndex_n p0 p1 p2).bind (fun r_1 => some ()))
set_option maxHeartbeats 4000000 in
set_option maxRecDepth 100000 in
theorem kcJ0_checkBoundsBeginEnd_23922 (l : Launch) (D : va_G) (cy : Nat → ClassId) (g : Nat → Nat) (p0 : Int32) (p1 : Int32) (p2 : Int32) (R : Unit) (hm : mJ0_checkBoundsBeginEnd_23922 p0 p1 p2 = some R) : Con l D cy g yJ0_checkBoundsBeginEnd_23922 cJ0_checkBoundsBeginEnd_23922 3 none 1 23 0 0 [.int p0, .int p1, .int p2] [] [] none := by
  refine Con.of (by decide +kernel) (Nat.le_of_ble_eq_true rfl) ?_
  intro p e RM s m ar below meth c A Qc ls hx hb hr hml hown hlocks hnm ht hK hP hD hS hA hR hC hQc hl
  have hown : s.vm.findClass RJ0 = some m.cls := hown
  have hl : lv_has ls 3 [(0, .int p0), (1, .int p1), (2, .int p2)] := hl
  rw [mJ0_checkBoundsBeginEnd_23922] at hm
  refine lv_iload_n hx hb dJ0_checkBoundsBeginEnd_23922_0 rfl (lv_at hl 0 rfl) ?_
  refine lv_iload_n hx hb dJ0_checkBoundsBeginEnd_23922_1 rfl (lv_at hl 1 rfl) ?_
  refine lv_iload_n hx hb dJ0_checkBoundsBeginEnd_23922_2 rfl (lv_at hl 2 rfl) ?_
  rcases hC.2.2.1.2.1 with hz | ⟨tq, hz⟩
  · refine va_gets (v := .null) hx hb hz hS hown (ht _ q_489) (fun _ h9 => h9) dJ0_checkBoundsBeginEnd_23922_3 ?_
    obtain ⟨r_1, hr_1, hm⟩ := hm_b hm
    refine k_S (as := [.int p0, .int p1, .int p2, .null]) (rest := []) (ws' := []) (st2 := [.int r_1]) hx hb hml hown ht hK hP hD hS hA hC hR hl (kcJ3_checkFromToIndex_n l D cy g p0 p1 p2 r_1 hr_1) [] q_1701 q_1702 q_65 q_1703 hyJ3_checkFromToIndex_8c36e ⟨Nat.le_of_ble_eq_true rfl, Nat.le_of_ble_eq_true rfl, Nat.le_of_ble_eq_true rfl, Nat.le_of_ble_eq_true rfl⟩ rfl rfl rfl rfl (Nat.le_of_ble_eq_true rfl) dJ0_checkBoundsBeginEnd_23922_6 rfl rfl (fun H locs hP hD hS => ?_)
    refine lv_pop hx hb dJ0_checkBoundsBeginEnd_23922_9 rfl ?_
    obtain rfl := Option.some.inj hm
    exact k_vret hx hb hr hlocks hQc hP hS rfl rfl dJ0_checkBoundsBeginEnd_23922_10
  · refine va_gets (v := .ref tq) hx hb hz hS hown (ht _ q_489) (fun _ h9 => h9) dJ0_checkBoundsBeginEnd_23922_3 ?_
    obtain ⟨r_1, hr_1, hm⟩ := hm_b hm
    refine k_S (as := [.int p0, .int p1, .int p2, .ref tq]) (rest := []) (ws' := []) (st2 := [.int r_1]) hx hb hml hown ht hK hP hD hS hA hC hR hl (kcJ3_checkFromToIndex_r l D cy g tq p0 p1 p2 r_1 hr_1) [] q_1701 q_1702 q_65 q_1703 hyJ3_checkFromToIndex_8c36e ⟨Nat.le_of_ble_eq_true rfl, Nat.le_of_ble_eq_true rfl, Nat.le_of_ble_eq_true rfl, Nat.le_of_ble_eq_true rfl⟩ rfl rfl rfl rfl (Nat.le_of_ble_eq_true rfl) dJ0_checkBoundsBeginEnd_23922_6 rfl rfl (fun H locs hP hD hS => ?_)
    refine lv_pop hx hb dJ0_checkBoundsBeginEnd_23922_9 rfl ?_
    obtain rfl := Option.some.inj hm
    exact k_vret hx hb hr hlocks hQc hP hS rfl rfl dJ0_checkBoundsBeginEnd_23922_10
theorem dJ7_checkLength_df160_0 : decode cJ7_checkLength_df160 0 = .ok (.iload_n 1, 1) := by decide +kernel
theorem dJ7_checkLength_df160_1 : decode cJ7_checkLength_df160 1 = .ok (.iload_n 0, 1) := by decide +kernel
theorem dJ7_checkLength_df160_2 : decode cJ7_checkLength_df160 2 = .ok (.if_icmp .ge 35, 3) := by decide +kernel
theorem dJ7_checkLength_df160_5 : decode cJ7_checkLength_df160 5 = .ok (.new 43, 3) := by decide +kernel
theorem dJ7_checkLength_df160_8 : decode cJ7_checkLength_df160 8 = .ok (.dup, 1) := by decide +kernel
theorem dJ7_checkLength_df160_9 : decode cJ7_checkLength_df160 9 = .ok (.new 45, 3) := by decide +kernel
theorem dJ7_checkLength_df160_12 : decode cJ7_checkLength_df160 12 = .ok (.dup, 1) := by decide +kernel
theorem dJ7_checkLength_df160_13 : decode cJ7_checkLength_df160 13 = .ok (.invokespecial 47, 3) := by decide +kernel
theorem dJ7_checkLength_df160_16 : decode cJ7_checkLength_df160 16 = .ok (.iload_n 0, 1) := by decide +kernel
theorem dJ7_checkLength_df160_17 : decode cJ7_checkLength_df160 17 = .ok (.invokevirtual 54, 3) := by decide +kernel
theorem dJ7_checkLength_df160_20 : decode cJ7_checkLength_df160 20 = .ok (.ldc_w 337, 3) := by decide +kernel
theorem dJ7_checkLength_df160_23 : decode cJ7_checkLength_df160 23 = .ok (.invokevirtual 50, 3) := by decide +kernel
theorem dJ7_checkLength_df160_26 : decode cJ7_checkLength_df160 26 = .ok (.iload_n 1, 1) := by decide +kernel
theorem dJ7_checkLength_df160_27 : decode cJ7_checkLength_df160 27 = .ok (.invokevirtual 54, 3) := by decide +kernel
theorem dJ7_checkLength_df160_30 : decode cJ7_checkLength_df160 30 = .ok (.invokevirtual 61, 3) := by decide +kernel
theorem dJ7_checkLength_df160_33 : decode cJ7_checkLength_df160 33 = .ok (.invokespecial 65, 3) := by decide +kernel
theorem dJ7_checkLength_df160_36 : decode cJ7_checkLength_df160 36 = .ok (.athrow, 1) := by decide +kernel
theorem dJ7_checkLength_df160_37 : decode cJ7_checkLength_df160 37 = .ok (.return_, 1) := by decide +kernel
def mJ7_checkLength_df160 (p0 : Int32) (p1 : Int32) : Option (Unit) := (if p0 ≤ p1 then some () else none)
set_option maxHeartbeats 4000000 in
set_option maxRecDepth 100000 in
theorem kcJ7_checkLength_df160 (l : Launch) (D : va_G) (cy : Nat → ClassId) (g : Nat → Nat) (p0 : Int32) (p1 : Int32) (R : Unit) (hm : mJ7_checkLength_df160 p0 p1 = some R) : Con l D cy g yJ7_checkLength_df160 cJ7_checkLength_df160 2 none 0 0 0 0 [.int p0, .int p1] [] [] none := by
  refine Con.of (by decide +kernel) (Nat.le_of_ble_eq_true rfl) ?_
  intro p e RM s m ar below meth c A Qc ls hx hb hr hml hown hlocks hnm ht hK hP hD hS hA hR hC hQc hl
  have hown : s.vm.findClass RJ7 = some m.cls := hown
  have hl : lv_has ls 2 [(0, .int p0), (1, .int p1)] := hl
  rw [mJ7_checkLength_df160] at hm
  refine lv_iload_n hx hb dJ7_checkLength_df160_0 rfl (lv_at hl 1 rfl) ?_
  refine lv_iload_n hx hb dJ7_checkLength_df160_1 rfl (lv_at hl 0 rfl) ?_
  refine lv_icmp_ge (tgt := 37) hx hb dJ7_checkLength_df160_2 (by decide) (fun c_1 => ?_) (fun c_1 => ?_)
  · replace hm := hm_t c_1 hm
    obtain rfl := Option.some.inj hm
    exact k_vret hx hb hr hlocks hQc hP hS rfl rfl dJ7_checkLength_df160_37
  · replace hm := hm_f c_1 hm
    cases hm
def mJ0_coder_w  : Option (Int32) := (if (1 : Int32) = 0 then (if ¬ (narrow .byte (.int 1) = .int 1) then none else some 1) else (if ¬ (narrow .byte (.int 0) = .int 0) then none else some 0))
set_option maxHeartbeats 4000000 in
set_option maxRecDepth 100000 in
theorem kcJ0_coder_w (l : Launch) (D : va_G) (cy : Nat → ClassId) (g : Nat → Nat) (a_t : Nat) (a_t_value : Nat) (n_t_value : Nat) (f_t_value : Nat → Int32) (R : Int32) (hm : mJ0_coder_w = some R) : Con l D cy g yJ0_coder_7d493 cJ0_coder_7d493 1 (some .byte) 0 0 0 0 [.ref a_t] [(a_t, .inr (10, [.ref a_t_value, .int 0, .int 0, .int 0])), (a_t_value, .inl (cy 4, n_t_value, .inl f_t_value))] [(a_t, .inr (10, [.ref a_t_value, .int 0, .int 0, .int 0])), (a_t_value, .inl (cy 4, n_t_value, .inl f_t_value))] (some (.int R)) := by
  refine Con.of (by decide +kernel) (Nat.le_of_ble_eq_true rfl) ?_
  intro p e RM s m ar below meth c A Qc ls hx hb hr hml hown hlocks hnm ht hK hP hD hS hA hR hC hQc hl
  have hown : s.vm.findClass RJ0 = some m.cls := hown
  have hl : lv_has ls 1 [(0, .ref a_t)] := hl
  rw [mJ0_coder_w] at hm
  refine va_gets (v := .int 1) hx hb hC.2.2.1.1 hS hown (ht _ q_473) (fun _ h9 => h9) dJ0_coder_7d493_0 ?_
  refine lv_if_eq (tgt := 13) hx hb dJ0_coder_7d493_3 (by decide) (fun c_1 => ?_) (fun c_1 => ?_)
  · replace hm := hm_t c_1 hm
    refine lv_iconst (v := 1) hx hb dJ0_coder_7d493_13 (by decide) ?_
    obtain ⟨hbz, hm⟩ := hm_g hm
    obtain rfl := Option.some.inj hm
    exact k_cret hx hb hr (Decidable.not_not.mp hbz) hlocks hQc hP hS rfl rfl dJ0_coder_7d493_14
  · replace hm := hm_f c_1 hm
    refine lv_aload_n hx hb dJ0_coder_7d493_6 rfl (lv_at hl 0 rfl) ?_
    refine va_get (D := D) (cl := classes) (ci := 10) (v := .int 0) (C := RJ0) (T := TJ0) (N := 4) hx hb ht in_RJ0 hown hK.1 hP 0 rfl rfl 1 (by decide) (ht _ q_1924) (fun _ h9 => h9) rfl dJ0_coder_7d493_7 ?_
    refine lv_goto (tgt := 14) hx hb dJ0_coder_7d493_10 (by decide) ?_
    obtain ⟨hbz, hm⟩ := hm_g hm
    obtain rfl := Option.some.inj hm
    exact k_cret hx hb hr (Decidable.not_not.mp hbz) hlocks hQc hP hS rfl rfl dJ0_coder_7d493_14
def mJ0_length_w (n_t_value : Nat) : Option (Int32) := ((mJ0_coder_w).bind (fun r_1 => some (((nI n_t_value) >>> (r_1 &&& 31)))))
set_option maxHeartbeats 4000000 in
set_option maxRecDepth 100000 in
theorem kcJ0_length_w (l : Launch) (D : va_G) (cy : Nat → ClassId) (g : Nat → Nat) (a_t : Nat) (a_t_value : Nat) (n_t_value : Nat) (f_t_value : Nat → Int32) (R : Int32) (hm : mJ0_length_w n_t_value = some R) : Con l D cy g yJ0_length_8abf5 cJ0_length_8abf5 1 (some .int) 1 20 0 0 [.ref a_t] [(a_t, .inr (10, [.ref a_t_value, .int 0, .int 0, .int 0])), (a_t_value, .inl (cy 4, n_t_value, .inl f_t_value))] [(a_t, .inr (10, [.ref a_t_value, .int 0, .int 0, .int 0])), (a_t_value, .inl (cy 4, n_t_value, .inl f_t_value))] (some (.int R)) := by
  refine Con.of (by decide +kernel) (Nat.le_of_ble_eq_true rfl) ?_
  intro p e RM s m ar below meth c A Qc ls hx hb hr hml hown hlocks hnm ht hK hP hD hS hA hR hC hQc hl
  have hown : s.vm.findClass RJ0 = some m.cls := hown
  have hl : lv_has ls 1 [(0, .ref a_t)] := hl
  rw [mJ0_length_w] at hm
  refine lv_aload_n hx hb dJ0_length_8abf5_0 rfl (lv_at hl 0 rfl) ?_
  refine va_get (D := D) (cl := classes) (ci := 10) (v := .ref a_t_value) (C := RJ0) (T := TJ0) (N := 4) hx hb ht in_RJ0 hown hK.1 hP 0 rfl rfl 0 (by decide) (ht _ q_1923) (fun _ h9 => h9) rfl dJ0_length_8abf5_1 ?_
  refine va_alen (v := (nI n_t_value)) hx hb hK.1 hP 1 4 rfl rfl rfl dJ0_length_8abf5_4 ?_
  refine lv_aload_n hx hb dJ0_length_8abf5_5 rfl (lv_at hl 0 rfl) ?_
  obtain ⟨r_1, hr_1, hm⟩ := hm_b hm
  refine k_V (as := []) (rest := [.int (nI n_t_value)]) (ws' := [(a_t, .inr (10, [.ref a_t_value, .int 0, .int 0, .int 0])), (a_t_value, .inl (cy 4, n_t_value, .inl f_t_value))]) (st2 := [.int r_1, .int (nI n_t_value)]) (i0 := 0) hx hb hml hown ht hK hP hD hS hA hC hR hl (kcJ0_coder_w l D cy g a_t a_t_value n_t_value f_t_value r_1 hr_1) [0, 1] q_469 q_470 q_471 q_63 q_472 hyJ0_coder_7d493 ⟨rfl, rfl, rfl⟩ ⟨Nat.le_of_ble_eq_true rfl, Nat.le_of_ble_eq_true rfl, Nat.le_of_ble_eq_true rfl, Nat.le_of_ble_eq_true rfl⟩ rfl rfl rfl rfl (Nat.le_of_ble_eq_true rfl) dJ0_length_8abf5_6 rfl rfl (fun H locs hP hD hS => ?_)
  refine lv_ishr hx hb dJ0_length_8abf5_9 ?_
  obtain rfl := Option.some.inj hm
  exact k_iret hx hb hr hlocks hQc hP hS rfl rfl dJ0_length_8abf5_10
def mJ0_isLatin1_w  : Option (Int32) := (if (1 : Int32) = 0 then some 0 else (if (0 : Int32) = 0 then some 1 else some 0))
set_option maxHeartbeats 4000000 in
set_option maxRecDepth 100000 in
theorem kcJ0_isLatin1_w (l : Launch) (D : va_G) (cy : Nat → ClassId) (g : Nat → Nat) (a_t : Nat) (a_t_value : Nat) (n_t_value : Nat) (f_t_value : Nat → Int32) (R : Int32) (hm : mJ0_isLatin1_w = some R) : Con l D cy g yJ0_isLatin1_aae02 cJ0_isLatin1_aae02 1 (some .boolean) 0 0 0 0 [.ref a_t] [(a_t, .inr (10, [.ref a_t_value, .int 0, .int 0, .int 0])), (a_t_value, .inl (cy 4, n_t_value, .inl f_t_value))] [(a_t, .inr (10, [.ref a_t_value, .int 0, .int 0, .int 0])), (a_t_value, .inl (cy 4, n_t_value, .inl f_t_value))] (some (.int R)) := by
  refine Con.of (by decide +kernel) (Nat.le_of_ble_eq_true rfl) ?_
  intro p e RM s m ar below meth c A Qc ls hx hb hr hml hown hlocks hnm ht hK hP hD hS hA hR hC hQc hl
  have hown : s.vm.findClass RJ0 = some m.cls := hown
  have hl : lv_has ls 1 [(0, .ref a_t)] := hl
  rw [mJ0_isLatin1_w] at hm
  refine va_gets (v := .int 1) hx hb hC.2.2.1.1 hS hown (ht _ q_473) (fun _ h9 => h9) dJ0_isLatin1_aae02_0 ?_
  refine lv_if_eq (tgt := 17) hx hb dJ0_isLatin1_aae02_3 (by decide) (fun c_1 => ?_) (fun c_1 => ?_)
  · replace hm := hm_t c_1 hm
    refine lv_iconst (v := 0) hx hb dJ0_isLatin1_aae02_17 (by decide) ?_
    obtain rfl := Option.some.inj hm
    exact k_zret hx hb hr hlocks hQc rfl hP hS rfl rfl dJ0_isLatin1_aae02_18
  · replace hm := hm_f c_1 hm
    refine lv_aload_n hx hb dJ0_isLatin1_aae02_6 rfl (lv_at hl 0 rfl) ?_
    refine va_get (D := D) (cl := classes) (ci := 10) (v := .int 0) (C := RJ0) (T := TJ0) (N := 4) hx hb ht in_RJ0 hown hK.1 hP 0 rfl rfl 1 (by decide) (ht _ q_1924) (fun _ h9 => h9) rfl dJ0_isLatin1_aae02_7 ?_
    refine lv_if_ne (tgt := 17) hx hb dJ0_isLatin1_aae02_10 (by decide) (fun c_2 => ?_) (fun c_2 => ?_)
    · replace hm := hm_f c_2 hm
      refine lv_iconst (v := 0) hx hb dJ0_isLatin1_aae02_17 (by decide) ?_
      obtain rfl := Option.some.inj hm
      exact k_zret hx hb hr hlocks hQc rfl hP hS rfl rfl dJ0_isLatin1_aae02_18
    · replace hm := hm_t c_2 hm
      refine lv_iconst (v := 1) hx hb dJ0_isLatin1_aae02_13 (by decide) ?_
      refine lv_goto (tgt := 18) hx hb dJ0_isLatin1_aae02_14 (by decide) ?_
      obtain rfl := Option.some.inj hm
      exact k_zret hx hb hr hlocks hQc rfl hP hS rfl rfl dJ0_isLatin1_aae02_18
def mJ1_charAt_w (n_p1 : Nat) (f_p1 : Nat → Int32) (p2 : Int32) : Option (Int32) := ((mJ0_checkIndex_df160 p2 (nI n_p1)).bind (fun r_1 => (if p2 < 0 ∨ n_p1 ≤ p2.toNatClampNeg then none else (if ¬ (narrow .char (.int ((((f_p1 p2.toNatClampNeg) &&& 255).toUInt32 % 65536).toInt32)) = .int ((((f_p1 p2.toNatClampNeg) &&& 255).toUInt32 % 65536).toInt32)) then none else some ((((f_p1 p2.toNatClampNeg) &&& 255).toUInt32 % 65536).toInt32)))))
set_option maxHeartbeats 4000000 in
set_option maxRecDepth 100000 in
theorem kcJ1_charAt_w (l : Launch) (D : va_G) (cy : Nat → ClassId) (g : Nat → Nat) (a_p1 : Nat) (n_p1 : Nat) (f_p1 : Nat → Int32) (p2 : Int32) (R : Int32) (hm : mJ1_charAt_w n_p1 f_p1 p2 = some R) : Con l D cy g yJ1_charAt_3b067 cJ1_charAt_3b067 2 (some .char) 2 43 0 0 [.ref a_p1, .int p2] [(a_p1, .inl (cy 4, n_p1, .inl f_p1))] [(a_p1, .inl (cy 4, n_p1, .inl f_p1))] (some (.int R)) := by
  refine Con.of (by decide +kernel) (Nat.le_of_ble_eq_true rfl) ?_
  intro p e RM s m ar below meth c A Qc ls hx hb hr hml hown hlocks hnm ht hK hP hD hS hA hR hC hQc hl
  have hown : s.vm.findClass RJ1 = some m.cls := hown
  have hl : lv_has ls 2 [(0, .ref a_p1), (1, .int p2)] := hl
  rw [mJ1_charAt_w] at hm
  refine lv_iload_n hx hb dJ1_charAt_3b067_0 rfl (lv_at hl 1 rfl) ?_
  refine lv_aload_n hx hb dJ1_charAt_3b067_1 rfl (lv_at hl 0 rfl) ?_
  refine va_alen (v := (nI n_p1)) hx hb hK.1 hP 0 4 rfl rfl rfl dJ1_charAt_3b067_2 ?_
  obtain ⟨r_1, hr_1, hm⟩ := hm_b hm
  refine k_S (as := [.int p2, .int (nI n_p1)]) (rest := []) (ws' := [(a_p1, .inl (cy 4, n_p1, .inl f_p1))]) (st2 := []) hx hb hml hown ht hK hP hD hS hA hC hR hl (kcJ0_checkIndex_df160 l D cy g p2 (nI n_p1) r_1 hr_1) [] q_486 q_487 q_63 q_488 hyJ0_checkIndex_df160 ⟨Nat.le_of_ble_eq_true rfl, Nat.le_of_ble_eq_true rfl, Nat.le_of_ble_eq_true rfl, Nat.le_of_ble_eq_true rfl⟩ rfl rfl rfl rfl (Nat.le_of_ble_eq_true rfl) dJ1_charAt_3b067_3 rfl rfl (fun H locs hP hD hS => ?_)
  refine lv_aload_n hx hb dJ1_charAt_3b067_6 rfl (lv_at hl 0 rfl) ?_
  refine lv_iload_n hx hb dJ1_charAt_3b067_7 rfl (lv_at hl 1 rfl) ?_
  obtain ⟨hin, hm⟩ := hm_g hm
  refine va_bald hx hb hK.1 hP 0 4 rfl rfl hin dJ1_charAt_3b067_8 ?_
  refine lv_sipush (v := 255) hx hb dJ1_charAt_3b067_9 (by decide) ?_
  refine lv_iand hx hb dJ1_charAt_3b067_12 ?_
  refine lv_i2c hx hb dJ1_charAt_3b067_13 rfl ?_
  obtain ⟨hbz, hm⟩ := hm_g hm
  obtain rfl := Option.some.inj hm
  exact k_cret hx hb hr (Decidable.not_not.mp hbz) hlocks hQc hP hS rfl rfl dJ1_charAt_3b067_14
def mJ0_charAt_w (n_t_value : Nat) (f_t_value : Nat → Int32) (p2 : Int32) : Option (Int32) := ((mJ0_isLatin1_w).bind (fun r_1 => (if r_1 = 0 then none else ((mJ1_charAt_w n_t_value f_t_value p2).bind (fun r_3 => (if ¬ (narrow .char (.int r_3) = .int r_3) then none else some r_3))))))
set_option maxHeartbeats 4000000 in
set_option maxRecDepth 100000 in
theorem kcJ0_charAt_w (l : Launch) (D : va_G) (cy : Nat → ClassId) (g : Nat → Nat) (a_t : Nat) (a_t_value : Nat) (n_t_value : Nat) (f_t_value : Nat → Int32) (p2 : Int32) (R : Int32) (hm : mJ0_charAt_w n_t_value f_t_value p2 = some R) : Con l D cy g yJ0_charAt_5068e cJ0_charAt_5068e 2 (some .char) 3 64 0 0 [.ref a_t, .int p2] [(a_t, .inr (10, [.ref a_t_value, .int 0, .int 0, .int 0])), (a_t_value, .inl (cy 4, n_t_value, .inl f_t_value))] [(a_t, .inr (10, [.ref a_t_value, .int 0, .int 0, .int 0])), (a_t_value, .inl (cy 4, n_t_value, .inl f_t_value))] (some (.int R)) := by
  refine Con.of (by decide +kernel) (Nat.le_of_ble_eq_true rfl) ?_
  intro p e RM s m ar below meth c A Qc ls hx hb hr hml hown hlocks hnm ht hK hP hD hS hA hR hC hQc hl
  have hown : s.vm.findClass RJ0 = some m.cls := hown
  have hl : lv_has ls 2 [(0, .ref a_t), (1, .int p2)] := hl
  rw [mJ0_charAt_w] at hm
  refine lv_aload_n hx hb dJ0_charAt_5068e_0 rfl (lv_at hl 0 rfl) ?_
  obtain ⟨r_1, hr_1, hm⟩ := hm_b hm
  refine k_V (as := []) (rest := []) (ws' := [(a_t, .inr (10, [.ref a_t_value, .int 0, .int 0, .int 0])), (a_t_value, .inl (cy 4, n_t_value, .inl f_t_value))]) (st2 := [.int r_1]) (i0 := 0) hx hb hml hown ht hK hP hD hS hA hC hR hl (kcJ0_isLatin1_w l D cy g a_t a_t_value n_t_value f_t_value r_1 hr_1) [0, 1] q_479 q_480 q_481 q_63 q_482 hyJ0_isLatin1_aae02 ⟨rfl, rfl, rfl⟩ ⟨Nat.le_of_ble_eq_true rfl, Nat.le_of_ble_eq_true rfl, Nat.le_of_ble_eq_true rfl, Nat.le_of_ble_eq_true rfl⟩ rfl rfl rfl rfl (Nat.le_of_ble_eq_true rfl) dJ0_charAt_5068e_1 rfl rfl (fun H locs hP hD hS => ?_)
  refine lv_if_eq (tgt := 16) hx hb dJ0_charAt_5068e_4 (by decide) (fun c_2 => ?_) (fun c_2 => ?_)
  · replace hm := hm_t c_2 hm
    cases hm
  · replace hm := hm_f c_2 hm
    refine lv_aload_n hx hb dJ0_charAt_5068e_7 rfl (lv_at hl 0 rfl) ?_
    refine va_get (D := D) (cl := classes) (ci := 10) (v := .ref a_t_value) (C := RJ0) (T := TJ0) (N := 4) hx hb ht in_RJ0 hown hK.1 hP 0 rfl rfl 0 (by decide) (ht _ q_1923) (fun _ h9 => h9) rfl dJ0_charAt_5068e_8 ?_
    refine lv_iload_n hx hb dJ0_charAt_5068e_11 rfl (lv_at hl 1 rfl) ?_
    obtain ⟨r_3, hr_3, hm⟩ := hm_b hm
    refine k_S (as := [.ref a_t_value, .int p2]) (rest := []) (ws' := [(a_t, .inr (10, [.ref a_t_value, .int 0, .int 0, .int 0])), (a_t_value, .inl (cy 4, n_t_value, .inl f_t_value))]) (st2 := [.int r_3]) hx hb hml hown ht hK hP hD hS hA hC hR hl (kcJ1_charAt_w l D cy g a_t_value n_t_value f_t_value p2 r_3 hr_3) [1] q_483 q_484 q_64 q_485 hyJ1_charAt_3b067 ⟨Nat.le_of_ble_eq_true rfl, Nat.le_of_ble_eq_true rfl, Nat.le_of_ble_eq_true rfl, Nat.le_of_ble_eq_true rfl⟩ rfl rfl rfl rfl (Nat.le_of_ble_eq_true rfl) dJ0_charAt_5068e_12 rfl rfl (fun H locs hP hD hS => ?_)
    obtain ⟨hbz, hm⟩ := hm_g hm
    obtain rfl := Option.some.inj hm
    exact k_cret hx hb hr (Decidable.not_not.mp hbz) hlocks hQc hP hS rfl rfl dJ0_charAt_5068e_15
theorem dJ0_init_031fb_0 : decode cJ0_init_031fb 0 = .ok (.aload_n 0, 1) := by decide +kernel
theorem dJ0_init_031fb_1 : decode cJ0_init_031fb 1 = .ok (.invokespecial 1, 3) := by decide +kernel
theorem dJ0_init_031fb_4 : decode cJ0_init_031fb 4 = .ok (.aload_n 0, 1) := by decide +kernel
theorem dJ0_init_031fb_5 : decode cJ0_init_031fb 5 = .ok (.aload_n 1, 1) := by decide +kernel
theorem dJ0_init_031fb_6 : decode cJ0_init_031fb 6 = .ok (.putfield 9, 3) := by decide +kernel
theorem dJ0_init_031fb_9 : decode cJ0_init_031fb 9 = .ok (.aload_n 0, 1) := by decide +kernel
theorem dJ0_init_031fb_10 : decode cJ0_init_031fb 10 = .ok (.iload_n 2, 1) := by decide +kernel
theorem dJ0_init_031fb_11 : decode cJ0_init_031fb 11 = .ok (.putfield 15, 3) := by decide +kernel
theorem dJ0_init_031fb_14 : decode cJ0_init_031fb 14 = .ok (.return_, 1) := by decide +kernel
def mJ0_init_031fb  : Option (Unit) := some ()
set_option maxHeartbeats 4000000 in
set_option maxRecDepth 100000 in
theorem kcJ0_init_031fb (l : Launch) (D : va_G) (cy : Nat → ClassId) (g : Nat → Nat) (a_t : Nat) (p1 : Nat) (R : Unit) (hm : mJ0_init_031fb = some R) : ConE l D cy g yJ0_init_031fb cJ0_init_031fb 3 none 1 12 0 0 [.ref a_t, .ref p1, .int 0] [(a_t, .inr (10, [.null, .int 0, .int 0, .int 0]))] (fun _ => [(a_t, .inr (10, [.ref p1, .int 0, .int 0, .int 0]))]) (fun _ => []) (fun _ => none) := by
  refine ConE.of (by decide +kernel) (Nat.le_of_ble_eq_true rfl) ?_
  intro p e RM s m ar below meth c A Qc ls hx hb hr hml hown hlocks hnm ht hK hY hP hD hS hA hA9 hR hC hQc hl
  have hown : s.vm.findClass RJ0 = some m.cls := hown
  have hl : lv_has ls 3 [(0, .ref a_t), (1, .ref p1), (2, .int 0)] := hl
  rw [mJ0_init_031fb] at hm
  refine lv_aload_n hx hb dJ0_init_031fb_0 rfl (lv_at hl 0 rfl) ?_
  refine k_obj hx hb hml hown ht hR hl q_1897 q_85 q_86 ⟨Nat.le_of_ble_eq_true rfl, Nat.le_of_ble_eq_true rfl⟩ dJ0_init_031fb_1 ?_
  refine lv_aload_n hx hb dJ0_init_031fb_4 rfl (lv_at hl 0 rfl) ?_
  refine lv_aload_n hx hb dJ0_init_031fb_5 rfl (lv_at hl 1 rfl) ?_
  refine va_putF (D := D) (cl := classes) (ci := 10) (v := .ref p1) (ty := .array .byte) (C := RJ0) (T := TJ0) (N := 4) hx hb ht in_RJ0 tyJ0 tyJ0_ok nmJ0 hown hK.1 hP hD hS 0 rfl rfl 0 (by decide) (ht _ q_1923) (fun _ h9 => h9) rfl hnm rfl (by decide +kernel) rfl rfl (Nat.le_of_ble_eq_true rfl) dJ0_init_031fb_6 (fun H locs hP hD hS => ?_)
  have hP : va_P D classes [(a_t, .inr (10, [.ref p1, .int 0, .int 0, .int 0]))] H := hP
  have hD : va_D A [(a_t, .inr (10, [.ref p1, .int 0, .int 0, .int 0]))] := hD
  refine lv_aload_n hx hb dJ0_init_031fb_9 rfl (lv_at hl 0 rfl) ?_
  refine lv_iload_n hx hb dJ0_init_031fb_10 rfl (lv_at hl 2 rfl) ?_
  refine va_putF (D := D) (cl := classes) (ci := 10) (v := .int 0) (ty := .byte) (C := RJ0) (T := TJ0) (N := 4) hx hb ht in_RJ0 tyJ0 tyJ0_ok nmJ0 hown hK.1 hP hD hS 0 rfl rfl 1 (by decide) (ht _ q_1924) (fun _ h9 => h9) rfl hnm rfl (by decide +kernel) rfl rfl (Nat.le_of_ble_eq_true rfl) dJ0_init_031fb_11 (fun H locs hP hD hS => ?_)
  have hP : va_P D classes [(a_t, .inr (10, [.ref p1, .int 0, .int 0, .int 0]))] H := hP
  have hD : va_D A [(a_t, .inr (10, [.ref p1, .int 0, .int 0, .int 0]))] := hD
  obtain rfl := Option.some.inj hm
  exact k_vretE (w0 := [(a_t, .inr (10, [.null, .int 0, .int 0, .int 0]))]) hx hb hr hlocks hQc hA9 hP hD hS (fun _ _ => 0) rfl (List.append_nil _).symm (fun _ => rfl) dJ0_init_031fb_14
theorem dJ7_copyOfRangeByte_39247_0 : decode cJ7_copyOfRangeByte_39247 0 = .ok (.iload_n 1, 1) := by decide +kernel
theorem dJ7_copyOfRangeByte_39247_1 : decode cJ7_copyOfRangeByte_39247 1 = .ok (.iload_n 2, 1) := by decide +kernel
theorem dJ7_copyOfRangeByte_39247_2 : decode cJ7_copyOfRangeByte_39247 2 = .ok (.invokestatic 343, 3) := by decide +kernel
theorem dJ7_copyOfRangeByte_39247_5 : decode cJ7_copyOfRangeByte_39247 5 = .ok (.iload_n 2, 1) := by decide +kernel
theorem dJ7_copyOfRangeByte_39247_6 : decode cJ7_copyOfRangeByte_39247 6 = .ok (.iload_n 1, 1) := by decide +kernel
theorem dJ7_copyOfRangeByte_39247_7 : decode cJ7_copyOfRangeByte_39247 7 = .ok (.isub, 1) := by decide +kernel
theorem dJ7_copyOfRangeByte_39247_8 : decode cJ7_copyOfRangeByte_39247 8 = .ok (.istore_n 3, 1) := by decide +kernel
theorem dJ7_copyOfRangeByte_39247_9 : decode cJ7_copyOfRangeByte_39247 9 = .ok (.iload_n 3, 1) := by decide +kernel
theorem dJ7_copyOfRangeByte_39247_10 : decode cJ7_copyOfRangeByte_39247 10 = .ok (.newarray .byte, 2) := by decide +kernel
theorem dJ7_copyOfRangeByte_39247_12 : decode cJ7_copyOfRangeByte_39247 12 = .ok (.astore 4, 2) := by decide +kernel
theorem dJ7_copyOfRangeByte_39247_14 : decode cJ7_copyOfRangeByte_39247 14 = .ok (.aload_n 0, 1) := by decide +kernel
theorem dJ7_copyOfRangeByte_39247_15 : decode cJ7_copyOfRangeByte_39247 15 = .ok (.iload_n 1, 1) := by decide +kernel
theorem dJ7_copyOfRangeByte_39247_16 : decode cJ7_copyOfRangeByte_39247 16 = .ok (.aload 4, 2) := by decide +kernel
theorem dJ7_copyOfRangeByte_39247_18 : decode cJ7_copyOfRangeByte_39247 18 = .ok (.iconst 0, 1) := by decide +kernel
theorem dJ7_copyOfRangeByte_39247_19 : decode cJ7_copyOfRangeByte_39247 19 = .ok (.aload_n 0, 1) := by decide +kernel
theorem dJ7_copyOfRangeByte_39247_20 : decode cJ7_copyOfRangeByte_39247 20 = .ok (.arraylength, 1) := by decide +kernel
theorem dJ7_copyOfRangeByte_39247_21 : decode cJ7_copyOfRangeByte_39247 21 = .ok (.iload_n 1, 1) := by decide +kernel
theorem dJ7_copyOfRangeByte_39247_22 : decode cJ7_copyOfRangeByte_39247 22 = .ok (.isub, 1) := by decide +kernel
theorem dJ7_copyOfRangeByte_39247_23 : decode cJ7_copyOfRangeByte_39247 23 = .ok (.iload_n 3, 1) := by decide +kernel
theorem dJ7_copyOfRangeByte_39247_24 : decode cJ7_copyOfRangeByte_39247 24 = .ok (.invokestatic 304, 3) := by decide +kernel
theorem dJ7_copyOfRangeByte_39247_27 : decode cJ7_copyOfRangeByte_39247 27 = .ok (.invokestatic 150, 3) := by decide +kernel
theorem dJ7_copyOfRangeByte_39247_30 : decode cJ7_copyOfRangeByte_39247 30 = .ok (.aload 4, 2) := by decide +kernel
theorem dJ7_copyOfRangeByte_39247_32 : decode cJ7_copyOfRangeByte_39247 32 = .ok (.areturn, 1) := by decide +kernel
def mJ7_copyOfRangeByte_39247 (p1 : Int32) (p2 : Int32) (i1 : Nat) : Option (Nat × (Nat → Int32)) := ((mJ7_checkLength_df160 p1 p2).bind (fun r_1 => (if (p2 - p1) < 1 ∨ 3 < (p2 - p1) then none else ((some (if (p2 - p1) < ((nI (sLen i1)) - p1) then (p2 - p1) else ((nI (sLen i1)) - p1)) : Option Int32).bind (fun x_3 => (if p1 < 0 ∨ x_3 < 0 ∨ sLen i1 < p1.toNatClampNeg + x_3.toNatClampNeg ∨ (p2 - p1).toNatClampNeg < x_3.toNatClampNeg then none else some ((p2 - p1).toNatClampNeg, (va_cpy (sByt i1) (fun _ => 0) p1.toNatClampNeg 0 x_3.toNatClampNeg))))))))
set_option maxHeartbeats 4000000 in
set_option maxRecDepth 100000 in
theorem kcJ7_copyOfRangeByte_39247 (l : Launch) (D : va_G) (cy : Nat → ClassId) (g : Nat → Nat) (p1 : Int32) (p2 : Int32) (i1 : Nat) (h_i1 : i1 < 44) (R : Nat × (Nat → Int32)) (hm : mJ7_copyOfRangeByte_39247 p1 p2 i1 = some R) : ConE l D cy g yJ7_copyOfRangeByte_39247 cJ7_copyOfRangeByte_39247 5 (some (.array .byte)) 1 40 1 3 [.ref (g (100 + i1)), .int p1, .int p2] [] (fun _ => []) (fun u => [((u 0 0), .inl (cy 4, R.1, .inl R.2))]) (fun u => some (.ref (u 0 0))) := by
  refine ConE.of (by decide +kernel) (Nat.le_of_ble_eq_true rfl) ?_
  intro p e RM s m ar below meth c A Qc ls hx hb hr hml hown hlocks hnm ht hK hY hP hD hS hA hA9 hR hC hQc hl
  have hown : s.vm.findClass RJ7 = some m.cls := hown
  have hl : lv_has ls 5 [(0, .ref (g (100 + i1))), (1, .int p1), (2, .int p2)] := hl
  rw [mJ7_copyOfRangeByte_39247] at hm
  refine lv_iload_n hx hb dJ7_copyOfRangeByte_39247_0 rfl (lv_at hl 1 rfl) ?_
  refine lv_iload_n hx hb dJ7_copyOfRangeByte_39247_1 rfl (lv_at hl 2 rfl) ?_
  obtain ⟨r_1, hr_1, hm⟩ := hm_b hm
  refine k_S (as := [.int p1, .int p2]) (rest := []) (ws' := []) (st2 := []) hx hb hml hown ht hK hP hD hS hA hC hR hl (kcJ7_checkLength_df160 l D cy g p1 p2 r_1 hr_1) [] q_1738 q_1739 q_74 q_1740 hyJ7_checkLength_df160 ⟨Nat.le_of_ble_eq_true rfl, Nat.le_of_ble_eq_true rfl, Nat.le_of_ble_eq_true rfl, Nat.le_of_ble_eq_true rfl⟩ rfl rfl rfl rfl (Nat.le_of_ble_eq_true rfl) dJ7_copyOfRangeByte_39247_2 rfl rfl (fun H locs hP hD hS => ?_)
  refine lv_iload_n hx hb dJ7_copyOfRangeByte_39247_5 rfl (lv_at hl 2 rfl) ?_
  refine lv_iload_n hx hb dJ7_copyOfRangeByte_39247_6 rfl (lv_at hl 1 rfl) ?_
  refine lv_isub hx hb dJ7_copyOfRangeByte_39247_7 ?_
  refine lv_istore_n (lv' := [(3, .int (p2 - p1)), (0, .ref (g (100 + i1))), (1, .int p1), (2, .int p2)]) hx hb dJ7_copyOfRangeByte_39247_8 rfl hl (by decide) rfl (fun ls hl => ?_)
  refine lv_iload_n hx hb dJ7_copyOfRangeByte_39247_9 rfl (lv_at hl 0 rfl) ?_
  obtain ⟨hin, hm⟩ := hm_g hm
  refine k_newaS (wa := []) (wb := ([] : va_W)) hx hb ht q_909 hK hP hD hS hA hR hin ⟨Nat.le_of_ble_eq_true rfl, Nat.le_of_ble_eq_true rfl⟩ dJ7_copyOfRangeByte_39247_10 (fun q_2 H hP hD hS => ?_)
  have hP : va_P D classes [(q_2, .inl (cy 4, (p2 - p1).toNatClampNeg, .inl (fun _ => 0)))] H := hP
  have hD : va_D A [(q_2, .inl (cy 4, (p2 - p1).toNatClampNeg, .inl (fun _ => 0)))] := hD
  refine lv_astore (lv' := [(4, .ref q_2), (3, .int (p2 - p1)), (0, .ref (g (100 + i1))), (1, .int p1), (2, .int p2)]) hx hb dJ7_copyOfRangeByte_39247_12 hl (by decide) rfl (fun ls hl => ?_)
  refine lv_aload_n hx hb dJ7_copyOfRangeByte_39247_14 rfl (lv_at hl 2 rfl) ?_
  refine lv_iload_n hx hb dJ7_copyOfRangeByte_39247_15 rfl (lv_at hl 3 rfl) ?_
  refine lv_aload hx hb dJ7_copyOfRangeByte_39247_16 (lv_at hl 0 rfl) ?_
  refine lv_iconst (v := 0) hx hb dJ7_copyOfRangeByte_39247_18 (by decide) ?_
  refine lv_aload_n hx hb dJ7_copyOfRangeByte_39247_19 rfl (lv_at hl 2 rfl) ?_
  refine va_tlen (v := (nI (sLen i1))) hx hb (hC.1 _ h_i1).2.2.2 hS rfl dJ7_copyOfRangeByte_39247_20 ?_
  refine lv_iload_n hx hb dJ7_copyOfRangeByte_39247_21 rfl (lv_at hl 3 rfl) ?_
  refine lv_isub hx hb dJ7_copyOfRangeByte_39247_22 ?_
  refine lv_iload_n hx hb dJ7_copyOfRangeByte_39247_23 rfl (lv_at hl 1 rfl) ?_
  refine va_mmin hx hb (hml.trans hl.1.symm) hown (ht _ q_1809) (ht _ q_430) (ht _ q_46) (ht _ q_431) (by rw [hR]; exact Nat.le_of_ble_eq_true rfl) (by rw [hR]; exact Nat.le_of_ble_eq_true rfl) (by rw [hR]; exact Nat.le_of_ble_eq_true rfl) (by rw [hR]; exact Nat.le_of_ble_eq_true rfl) dJ7_copyOfRangeByte_39247_24 ?_
  obtain ⟨x_3, hx_, hm⟩ := hm_b hm
  refine k_topi (y := x_3) (Option.some.inj hx_) ?_
  obtain ⟨hin, hm⟩ := hm_g hm
  refine k_copyT hx hb (hml.trans hl.1.symm) hown (ht _ q_1810) (ht _ q_1812) (ht _ q_1811) (ht _ q_78) hK.1 hP hD hS hC h_i1 0 rfl hin (by rw [hR]; exact Nat.le_of_ble_eq_true rfl) (by rw [hR]; exact Nat.le_of_ble_eq_true rfl) dJ7_copyOfRangeByte_39247_27 (fun H locs hP hD hS => ?_)
  have hP : va_P D classes [(q_2, .inl (cy 4, (p2 - p1).toNatClampNeg, .inl (va_cpy (sByt i1) (fun _ => 0) p1.toNatClampNeg 0 x_3.toNatClampNeg)))] H := hP
  have hD : va_D A [(q_2, .inl (cy 4, (p2 - p1).toNatClampNeg, .inl (va_cpy (sByt i1) (fun _ => 0) p1.toNatClampNeg 0 x_3.toNatClampNeg)))] := hD
  refine lv_aload hx hb dJ7_copyOfRangeByte_39247_30 (lv_at hl 0 rfl) ?_
  obtain rfl := Option.some.inj hm
  exact k_aretE (w0 := []) hx hb hr (Or.inr ⟨_, rfl⟩) hlocks hQc hA9 hP hD hS (fun n9 => ([(fun _ => q_2)] : List (Nat → Nat)).getD n9 (fun _ => 0)) rfl rfl (fun _ => rfl) dJ7_copyOfRangeByte_39247_32
theorem dJ7_copyOfRange_39247_0 : decode cJ7_copyOfRange_39247 0 = .ok (.iload_n 1, 1) := by decide +kernel
theorem dJ7_copyOfRange_39247_1 : decode cJ7_copyOfRange_39247 1 = .ok (.ifCond .ne 9, 3) := by decide +kernel
theorem dJ7_copyOfRange_39247_4 : decode cJ7_copyOfRange_39247 4 = .ok (.iload_n 2, 1) := by decide +kernel
theorem dJ7_copyOfRange_39247_5 : decode cJ7_copyOfRange_39247 5 = .ok (.aload_n 0, 1) := by decide +kernel
theorem dJ7_copyOfRange_39247_6 : decode cJ7_copyOfRange_39247 6 = .ok (.arraylength, 1) := by decide +kernel
theorem dJ7_copyOfRange_39247_7 : decode cJ7_copyOfRange_39247 7 = .ok (.if_icmp .eq 10, 3) := by decide +kernel
theorem dJ7_copyOfRange_39247_10 : decode cJ7_copyOfRange_39247 10 = .ok (.aload_n 0, 1) := by decide +kernel
theorem dJ7_copyOfRange_39247_11 : decode cJ7_copyOfRange_39247 11 = .ok (.iload_n 1, 1) := by decide +kernel
theorem dJ7_copyOfRange_39247_12 : decode cJ7_copyOfRange_39247 12 = .ok (.iload_n 2, 1) := by decide +kernel
theorem dJ7_copyOfRange_39247_13 : decode cJ7_copyOfRange_39247 13 = .ok (.invokestatic 339, 3) := by decide +kernel
theorem dJ7_copyOfRange_39247_16 : decode cJ7_copyOfRange_39247 16 = .ok (.areturn, 1) := by decide +kernel
theorem dJ7_copyOfRange_39247_17 : decode cJ7_copyOfRange_39247 17 = .ok (.aload_n 0, 1) := by decide +kernel
theorem dJ7_copyOfRange_39247_18 : decode cJ7_copyOfRange_39247 18 = .ok (.invokevirtual 310, 3) := by decide +kernel
theorem dJ7_copyOfRange_39247_21 : decode cJ7_copyOfRange_39247 21 = .ok (.checkcast 311, 3) := by decide +kernel
theorem dJ7_copyOfRange_39247_24 : decode cJ7_copyOfRange_39247 24 = .ok (.areturn, 1) := by decide +kernel
def mJ7_copyOfRange_39247 (p1 : Int32) (p2 : Int32) (i1 : Nat) : Option (Nat × (Nat → Int32)) := (((if p1 = 0 then (if p2 = (nI (sLen i1)) then none else some ()) else some ()) : Option (Unit)).bind (fun x_3 => ((mJ7_copyOfRangeByte_39247 p1 p2 i1).bind (fun r_4 => some (r_4.1, r_4.2)))))
set_option maxHeartbeats 4000000 in
set_option maxRecDepth 100000 in
theorem kcJ7_copyOfRange_39247 (l : Launch) (D : va_G) (cy : Nat → ClassId) (g : Nat → Nat) (p1 : Int32) (p2 : Int32) (i1 : Nat) (h_i1 : i1 < 44) (R : Nat × (Nat → Int32)) (hm : mJ7_copyOfRange_39247 p1 p2 i1 = some R) : ConE l D cy g yJ7_copyOfRange_39247 cJ7_copyOfRange_39247 3 (some (.array .byte)) 2 64 1 3 [.ref (g (100 + i1)), .int p1, .int p2] [] (fun _ => []) (fun u => [((u 0 0), .inl (cy 4, R.1, .inl R.2))]) (fun u => some (.ref (u 0 0))) := by
  refine ConE.of (by decide +kernel) (Nat.le_of_ble_eq_true rfl) ?_
  intro p e RM s m ar below meth c A Qc ls hx hb hr hml hown hlocks hnm ht hK hY hP hD hS hA hA9 hR hC hQc hl
  have hown : s.vm.findClass RJ7 = some m.cls := hown
  have hl : lv_has ls 3 [(0, .ref (g (100 + i1))), (1, .int p1), (2, .int p2)] := hl
  rw [mJ7_copyOfRange_39247] at hm
  refine lv_iload_n hx hb dJ7_copyOfRange_39247_0 rfl (lv_at hl 1 rfl) ?_
  obtain ⟨x_3, hreg, hm⟩ := hm_b hm
  have J10 : ∀ (H : Heap) (locs : List Loc) (ls : Array Slot), va_P D classes [] H → va_D A [] → va_S A s.heap H locs → lv_has ls 3 [(0, .ref (g (100 + i1))), (1, .int p1), (2, .int p2)] → W p l e RM s m ar below meth c H locs 0 0 (MQ below Qc ar s 1 3 A) (F0 m 10 ls []) := by
    intro H locs ls hP hD hS hl
    refine lv_aload_n hx hb dJ7_copyOfRange_39247_10 rfl (lv_at hl 0 rfl) ?_
    refine lv_iload_n hx hb dJ7_copyOfRange_39247_11 rfl (lv_at hl 1 rfl) ?_
    refine lv_iload_n hx hb dJ7_copyOfRange_39247_12 rfl (lv_at hl 2 rfl) ?_
    obtain ⟨r_4, hr_4, hm⟩ := hm_b hm
    refine k_SE (as := [.ref (g (100 + i1)), .int p1, .int p2]) (rest := []) (wa := fun _ => []) (wb := fun _ => ([] : va_W)) hx hb hml hown ht hK hY hP hD hS hA hC hR hl (kcJ7_copyOfRangeByte_39247 l D cy g p1 p2 i1 h_i1 r_4 hr_4) [] q_1735 q_1736 q_74 q_1737 hyJ7_copyOfRangeByte_39247 ⟨Nat.le_of_ble_eq_true rfl, Nat.le_of_ble_eq_true rfl, Nat.le_of_ble_eq_true rfl, Nat.le_of_ble_eq_true rfl⟩ rfl rfl (fun _ => rfl) rfl (Nat.le_of_ble_eq_true rfl) dJ7_copyOfRange_39247_13 (fun _ => rfl) (fun u_5 H locs hP hD hS => ?_)
    rw [List.append_nil] at hP hD
    have hP : va_P D classes [((u_5 0 0), .inl (cy 4, r_4.1, .inl r_4.2))] H := hP
    have hD : va_D A [((u_5 0 0), .inl (cy 4, r_4.1, .inl r_4.2))] := hD
    show W p l e RM s m ar below meth c H locs 1 3 (MQ below Qc ar s 1 3 A) (F0 m 16 ls [.ref (u_5 0 0)])
    obtain rfl := Option.some.inj hm
    exact k_aretE (w0 := []) hx hb hr (Or.inr ⟨_, rfl⟩) hlocks hQc hA9 hP hD hS (fun n9 => ([(u_5 0)] : List (Nat → Nat)).getD n9 (fun _ => 0)) rfl rfl (fun _ => rfl) dJ7_copyOfRange_39247_16
  replace hm := hreg
  refine lv_if_ne (tgt := 10) hx hb dJ7_copyOfRange_39247_1 (by decide) (fun c_1 => ?_) (fun c_1 => ?_)
  · replace hm := hm_f c_1 hm
    obtain rfl := Option.some.inj hm
    exact J10 _ _ _ hP hD hS (lv_sub hl [0, 1, 2] rfl)
  · replace hm := hm_t c_1 hm
    refine lv_iload_n hx hb dJ7_copyOfRange_39247_4 rfl (lv_at hl 2 rfl) ?_
    refine lv_aload_n hx hb dJ7_copyOfRange_39247_5 rfl (lv_at hl 0 rfl) ?_
    refine va_tlen (v := (nI (sLen i1))) hx hb (hC.1 _ h_i1).2.2.2 hS rfl dJ7_copyOfRange_39247_6 ?_
    refine lv_icmp_eq (tgt := 17) hx hb dJ7_copyOfRange_39247_7 (by decide) (fun c_6 => ?_) (fun c_6 => ?_)
    · replace hm := hm_t c_6 hm
      cases hm
    · replace hm := hm_f c_6 hm
      obtain rfl := Option.some.inj hm
      exact J10 _ _ _ hP hD hS (lv_sub hl [0, 1, 2] rfl)
theorem dJ1_newString_b4f7a_0 : decode cJ1_newString_b4f7a 0 = .ok (.iload_n 2, 1) := by decide +kernel
theorem dJ1_newString_b4f7a_1 : decode cJ1_newString_b4f7a 1 = .ok (.ifCond .ne 6, 3) := by decide +kernel
theorem dJ1_newString_b4f7a_4 : decode cJ1_newString_b4f7a 4 = .ok (.ldc 151, 2) := by decide +kernel
theorem dJ1_newString_b4f7a_6 : decode cJ1_newString_b4f7a 6 = .ok (.areturn, 1) := by decide +kernel
theorem dJ1_newString_b4f7a_7 : decode cJ1_newString_b4f7a 7 = .ok (.new 1, 3) := by decide +kernel
theorem dJ1_newString_b4f7a_10 : decode cJ1_newString_b4f7a 10 = .ok (.dup, 1) := by decide +kernel
theorem dJ1_newString_b4f7a_11 : decode cJ1_newString_b4f7a 11 = .ok (.aload_n 0, 1) := by decide +kernel
theorem dJ1_newString_b4f7a_12 : decode cJ1_newString_b4f7a 12 = .ok (.iload_n 1, 1) := by decide +kernel
theorem dJ1_newString_b4f7a_13 : decode cJ1_newString_b4f7a 13 = .ok (.iload_n 1, 1) := by decide +kernel
theorem dJ1_newString_b4f7a_14 : decode cJ1_newString_b4f7a 14 = .ok (.iload_n 2, 1) := by decide +kernel
theorem dJ1_newString_b4f7a_15 : decode cJ1_newString_b4f7a 15 = .ok (.iadd, 1) := by decide +kernel
theorem dJ1_newString_b4f7a_16 : decode cJ1_newString_b4f7a 16 = .ok (.invokestatic 232, 3) := by decide +kernel
theorem dJ1_newString_b4f7a_19 : decode cJ1_newString_b4f7a 19 = .ok (.iconst 0, 1) := by decide +kernel
theorem dJ1_newString_b4f7a_20 : decode cJ1_newString_b4f7a 20 = .ok (.invokespecial 112, 3) := by decide +kernel
theorem dJ1_newString_b4f7a_23 : decode cJ1_newString_b4f7a 23 = .ok (.areturn, 1) := by decide +kernel
def mJ1_newString_b4f7a (p1 : Int32) (p2 : Int32) (i1 : Nat) : Option (Nat × (Nat → Int32)) := (if p2 = 0 then none else ((mJ7_copyOfRange_39247 p1 (p1 + p2) i1).bind (fun r_3 => ((mJ0_init_031fb).bind (fun r_5 => some (r_3.1, r_3.2))))))
set_option maxHeartbeats 4000000 in
set_option maxRecDepth 100000 in
theorem kcJ1_newString_b4f7a (l : Launch) (D : va_G) (cy : Nat → ClassId) (g : Nat → Nat) (p1 : Int32) (p2 : Int32) (i1 : Nat) (h_i1 : i1 < 44) (R : Nat × (Nat → Int32)) (hm : mJ1_newString_b4f7a p1 p2 i1 = some R) : ConE l D cy g yJ1_newString_b4f7a cJ1_newString_b4f7a 3 (some (.object "java/lang/String")) 3 86 2 7 [.ref (g (100 + i1)), .int p1, .int p2] [] (fun _ => []) (fun u => [((u 0 0), .inr (10, [.ref (u 1 0), .int 0, .int 0, .int 0])), ((u 1 0), .inl (cy 4, R.1, .inl R.2))]) (fun u => some (.ref (u 0 0))) := by
  refine ConE.of (by decide +kernel) (Nat.le_of_ble_eq_true rfl) ?_
  intro p e RM s m ar below meth c A Qc ls hx hb hr hml hown hlocks hnm ht hK hY hP hD hS hA hA9 hR hC hQc hl
  have hown : s.vm.findClass RJ1 = some m.cls := hown
  have hl : lv_has ls 3 [(0, .ref (g (100 + i1))), (1, .int p1), (2, .int p2)] := hl
  rw [mJ1_newString_b4f7a] at hm
  refine lv_iload_n hx hb dJ1_newString_b4f7a_0 rfl (lv_at hl 2 rfl) ?_
  refine lv_if_ne (tgt := 7) hx hb dJ1_newString_b4f7a_1 (by decide) (fun c_1 => ?_) (fun c_1 => ?_)
  · replace hm := hm_f c_1 hm
    refine k_new (wa := []) (wb := ([] : va_W)) (C := RJ0) (T := TJ0) (N := 4) (ci := 10) (fs := [.null, .int 0, .int 0, .int 0]) hx hb ht in_RJ0 tyJ0 tyJ0_ok hown q_1730 q_1731 q_63 hK hP hD hS hA hR rfl df_J0 ⟨Nat.le_of_ble_eq_true rfl, Nat.le_of_ble_eq_true rfl⟩ dJ1_newString_b4f7a_7 (fun q_2 H hP hD hS => ?_)
    have hP : va_P D classes [(q_2, .inr (10, [.null, .int 0, .int 0, .int 0]))] H := hP
    have hD : va_D A [(q_2, .inr (10, [.null, .int 0, .int 0, .int 0]))] := hD
    refine lv_dup hx hb dJ1_newString_b4f7a_10 rfl ?_
    refine lv_aload_n hx hb dJ1_newString_b4f7a_11 rfl (lv_at hl 0 rfl) ?_
    refine lv_iload_n hx hb dJ1_newString_b4f7a_12 rfl (lv_at hl 1 rfl) ?_
    refine lv_iload_n hx hb dJ1_newString_b4f7a_13 rfl (lv_at hl 1 rfl) ?_
    refine lv_iload_n hx hb dJ1_newString_b4f7a_14 rfl (lv_at hl 2 rfl) ?_
    refine lv_iadd hx hb dJ1_newString_b4f7a_15 ?_
    obtain ⟨r_3, hr_3, hm⟩ := hm_b hm
    refine k_SE (as := [.ref (g (100 + i1)), .int p1, .int (p1 + p2)]) (rest := [.ref q_2, .ref q_2]) (wa := fun _ => [(q_2, .inr (10, [.null, .int 0, .int 0, .int 0]))]) (wb := fun _ => ([] : va_W)) hx hb hml hown ht hK hY hP hD hS hA hC hR hl (kcJ7_copyOfRange_39247 l D cy g p1 (p1 + p2) i1 h_i1 r_3 hr_3) [] q_1732 q_1733 q_74 q_1734 hyJ7_copyOfRange_39247 ⟨Nat.le_of_ble_eq_true rfl, Nat.le_of_ble_eq_true rfl, Nat.le_of_ble_eq_true rfl, Nat.le_of_ble_eq_true rfl⟩ rfl rfl (fun _ => rfl) rfl (Nat.le_of_ble_eq_true rfl) dJ1_newString_b4f7a_16 (fun _ => rfl) (fun u_4 H locs hP hD hS => ?_)
    rw [List.append_nil] at hP hD
    have hP : va_P D classes [(q_2, .inr (10, [.null, .int 0, .int 0, .int 0])), ((u_4 0 0), .inl (cy 4, r_3.1, .inl r_3.2))] H := hP
    have hD : va_D A [(q_2, .inr (10, [.null, .int 0, .int 0, .int 0])), ((u_4 0 0), .inl (cy 4, r_3.1, .inl r_3.2))] := hD
    show W p l e RM s m ar below meth c H locs 2 7 (MQ below Qc ar s 2 7 A) (F0 m 19 ls [.ref (u_4 0 0), .ref q_2, .ref q_2])
    refine lv_iconst (v := 0) hx hb dJ1_newString_b4f7a_19 (by decide) ?_
    obtain ⟨r_5, hr_5, hm⟩ := hm_b hm
    refine k_IE0 (as := [.ref (u_4 0 0), .int 0]) (rest := [.ref q_2]) (ws' := [(q_2, .inr (10, [.ref (u_4 0 0), .int 0, .int 0, .int 0])), ((u_4 0 0), .inl (cy 4, r_3.1, .inl r_3.2))]) (st2 := [.ref q_2]) hx hb hml hown ht hK hY hP hD hS hA hC hR hl (kcJ0_init_031fb l D cy g q_2 (u_4 0 0) r_5 hr_5) [0] q_1935 q_1936 q_63 q_1937 hyJ0_init_031fb rfl ⟨Nat.le_of_ble_eq_true rfl, Nat.le_of_ble_eq_true rfl, Nat.le_of_ble_eq_true rfl, Nat.le_of_ble_eq_true rfl⟩ rfl rfl rfl rfl (Nat.le_of_ble_eq_true rfl) dJ1_newString_b4f7a_20 rfl rfl (fun H locs hP hD hS => ?_)
    obtain rfl := Option.some.inj hm
    exact k_aretE (w0 := []) hx hb hr (Or.inl ⟨_, rfl⟩) hlocks hQc hA9 hP hD hS (fun n9 => ([(fun _ => q_2), (u_4 0)] : List (Nat → Nat)).getD n9 (fun _ => 0)) rfl rfl (fun _ => rfl) dJ1_newString_b4f7a_23
  · replace hm := hm_t c_1 hm
    cases hm
theorem dJ0_substring_37a41_0 : decode cJ0_substring_37a41 0 = .ok (.aload_n 0, 1) := by decide +kernel
theorem dJ0_substring_37a41_1 : decode cJ0_substring_37a41 1 = .ok (.invokevirtual 505, 3) := by decide +kernel
theorem dJ0_substring_37a41_4 : decode cJ0_substring_37a41 4 = .ok (.istore_n 3, 1) := by decide +kernel
theorem dJ0_substring_37a41_5 : decode cJ0_substring_37a41 5 = .ok (.iload_n 1, 1) := by decide +kernel
theorem dJ0_substring_37a41_6 : decode cJ0_substring_37a41 6 = .ok (.iload_n 2, 1) := by decide +kernel
theorem dJ0_substring_37a41_7 : decode cJ0_substring_37a41 7 = .ok (.iload_n 3, 1) := by decide +kernel
theorem dJ0_substring_37a41_8 : decode cJ0_substring_37a41 8 = .ok (.invokestatic 521, 3) := by decide +kernel
theorem dJ0_substring_37a41_11 : decode cJ0_substring_37a41 11 = .ok (.iload_n 1, 1) := by decide +kernel
theorem dJ0_substring_37a41_12 : decode cJ0_substring_37a41 12 = .ok (.ifCond .ne 10, 3) := by decide +kernel
theorem dJ0_substring_37a41_15 : decode cJ0_substring_37a41 15 = .ok (.iload_n 2, 1) := by decide +kernel
theorem dJ0_substring_37a41_16 : decode cJ0_substring_37a41 16 = .ok (.iload_n 3, 1) := by decide +kernel
theorem dJ0_substring_37a41_17 : decode cJ0_substring_37a41 17 = .ok (.if_icmp .ne 5, 3) := by decide +kernel
theorem dJ0_substring_37a41_20 : decode cJ0_substring_37a41 20 = .ok (.aload_n 0, 1) := by decide +kernel
theorem dJ0_substring_37a41_21 : decode cJ0_substring_37a41 21 = .ok (.areturn, 1) := by decide +kernel
theorem dJ0_substring_37a41_22 : decode cJ0_substring_37a41 22 = .ok (.iload_n 2, 1) := by decide +kernel
theorem dJ0_substring_37a41_23 : decode cJ0_substring_37a41 23 = .ok (.iload_n 1, 1) := by decide +kernel
theorem dJ0_substring_37a41_24 : decode cJ0_substring_37a41 24 = .ok (.isub, 1) := by decide +kernel
theorem dJ0_substring_37a41_25 : decode cJ0_substring_37a41 25 = .ok (.istore 4, 2) := by decide +kernel
theorem dJ0_substring_37a41_27 : decode cJ0_substring_37a41 27 = .ok (.aload_n 0, 1) := by decide +kernel
theorem dJ0_substring_37a41_28 : decode cJ0_substring_37a41 28 = .ok (.invokevirtual 492, 3) := by decide +kernel
theorem dJ0_substring_37a41_31 : decode cJ0_substring_37a41 31 = .ok (.ifCond .eq 16, 3) := by decide +kernel
theorem dJ0_substring_37a41_34 : decode cJ0_substring_37a41 34 = .ok (.aload_n 0, 1) := by decide +kernel
theorem dJ0_substring_37a41_35 : decode cJ0_substring_37a41 35 = .ok (.getfield 9, 3) := by decide +kernel
theorem dJ0_substring_37a41_38 : decode cJ0_substring_37a41 38 = .ok (.iload_n 1, 1) := by decide +kernel
theorem dJ0_substring_37a41_39 : decode cJ0_substring_37a41 39 = .ok (.iload 4, 2) := by decide +kernel
theorem dJ0_substring_37a41_41 : decode cJ0_substring_37a41 41 = .ok (.invokestatic 685, 3) := by decide +kernel
theorem dJ0_substring_37a41_44 : decode cJ0_substring_37a41 44 = .ok (.goto 13, 3) := by decide +kernel
theorem dJ0_substring_37a41_47 : decode cJ0_substring_37a41 47 = .ok (.aload_n 0, 1) := by decide +kernel
theorem dJ0_substring_37a41_48 : decode cJ0_substring_37a41 48 = .ok (.getfield 9, 3) := by decide +kernel
theorem dJ0_substring_37a41_51 : decode cJ0_substring_37a41 51 = .ok (.iload_n 1, 1) := by decide +kernel
theorem dJ0_substring_37a41_52 : decode cJ0_substring_37a41 52 = .ok (.iload 4, 2) := by decide +kernel
theorem dJ0_substring_37a41_54 : decode cJ0_substring_37a41 54 = .ok (.invokestatic 689, 3) := by decide +kernel
theorem dJ0_substring_37a41_57 : decode cJ0_substring_37a41 57 = .ok (.areturn, 1) := by decide +kernel
def mJ0_substring_37a41 (p1 : Int32) (p2 : Int32) (i1 : Nat) : Option (Nat × (Nat → Int32)) := ((mJ0_length_8abf5 i1).bind (fun r_1 => ((mJ0_checkBoundsBeginEnd_23922 p1 p2 r_1).bind (fun r_2 => (((if p1 = 0 then (if p2 = r_1 then none else some ()) else some ()) : Option (Unit)).bind (fun x_5 => ((mJ0_isLatin1_aae02).bind (fun r_6 => (if r_6 = 0 then none else ((mJ1_newString_b4f7a p1 (p2 - p1) i1).bind (fun r_8 => some (r_8.1, r_8.2))))))))))))
set_option maxHeartbeats 4000000 in
set_option maxRecDepth 100000 in
theorem kcJ0_substring_37a41 (l : Launch) (D : va_G) (cy : Nat → ClassId) (g : Nat → Nat) (p1 : Int32) (p2 : Int32) (i1 : Nat) (h_i1 : i1 < 44) (R : Nat × (Nat → Int32)) (hm : mJ0_substring_37a41 p1 p2 i1 = some R) : ConE l D cy g yJ0_substring_37a41 cJ0_substring_37a41 5 (some (.object "java/lang/String")) 4 108 2 7 [.ref (g i1), .int p1, .int p2] [] (fun _ => []) (fun u => [((u 0 0), .inr (10, [.ref (u 1 0), .int 0, .int 0, .int 0])), ((u 1 0), .inl (cy 4, R.1, .inl R.2))]) (fun u => some (.ref (u 0 0))) := by
  refine ConE.of (by decide +kernel) (Nat.le_of_ble_eq_true rfl) ?_
  intro p e RM s m ar below meth c A Qc ls hx hb hr hml hown hlocks hnm ht hK hY hP hD hS hA hA9 hR hC hQc hl
  have hown : s.vm.findClass RJ0 = some m.cls := hown
  have hl : lv_has ls 5 [(0, .ref (g i1)), (1, .int p1), (2, .int p2)] := hl
  rw [mJ0_substring_37a41] at hm
  refine lv_aload_n hx hb dJ0_substring_37a41_0 rfl (lv_at hl 0 rfl) ?_
  obtain ⟨r_1, hr_1, hm⟩ := hm_b hm
  refine k_VC (as := []) (rest := []) (ws' := []) (st2 := [.int r_1]) hx hb hml hown ht hK hP hD hS hA hC hR hl (kcJ0_length_8abf5 l D cy g i1 h_i1 r_1 hr_1) [] q_1674 q_466 q_467 q_63 q_468 hyJ0_length_8abf5 (hC.1 _ h_i1).1 rfl ⟨Nat.le_of_ble_eq_true rfl, Nat.le_of_ble_eq_true rfl, Nat.le_of_ble_eq_true rfl, Nat.le_of_ble_eq_true rfl⟩ rfl rfl rfl rfl (Nat.le_of_ble_eq_true rfl) dJ0_substring_37a41_1 rfl rfl (fun H locs hP hD hS => ?_)
  refine lv_istore_n (lv' := [(3, .int r_1), (0, .ref (g i1)), (1, .int p1), (2, .int p2)]) hx hb dJ0_substring_37a41_4 rfl hl (by decide) rfl (fun ls hl => ?_)
  refine lv_iload_n hx hb dJ0_substring_37a41_5 rfl (lv_at hl 2 rfl) ?_
  refine lv_iload_n hx hb dJ0_substring_37a41_6 rfl (lv_at hl 3 rfl) ?_
  refine lv_iload_n hx hb dJ0_substring_37a41_7 rfl (lv_at hl 0 rfl) ?_
  obtain ⟨r_2, hr_2, hm⟩ := hm_b hm
  refine k_S (as := [.int p1, .int p2, .int r_1]) (rest := []) (ws' := []) (st2 := []) hx hb hml hown ht hK hP hD hS hA hC hR hl (kcJ0_checkBoundsBeginEnd_23922 l D cy g p1 p2 r_1 r_2 hr_2) [] q_1725 q_1699 q_63 q_1700 hyJ0_checkBoundsBeginEnd_23922 ⟨Nat.le_of_ble_eq_true rfl, Nat.le_of_ble_eq_true rfl, Nat.le_of_ble_eq_true rfl, Nat.le_of_ble_eq_true rfl⟩ rfl rfl rfl rfl (Nat.le_of_ble_eq_true rfl) dJ0_substring_37a41_8 rfl rfl (fun H locs hP hD hS => ?_)
  refine lv_iload_n hx hb dJ0_substring_37a41_11 rfl (lv_at hl 2 rfl) ?_
  obtain ⟨x_5, hreg, hm⟩ := hm_b hm
  have J22 : ∀ (H : Heap) (locs : List Loc) (ls : Array Slot), va_P D classes [] H → va_D A [] → va_S A s.heap H locs → lv_has ls 5 [(0, .ref (g i1)), (1, .int p1), (2, .int p2)] → W p l e RM s m ar below meth c H locs 0 0 (MQ below Qc ar s 2 7 A) (F0 m 22 ls []) := by
    intro H locs ls hP hD hS hl
    refine lv_iload_n hx hb dJ0_substring_37a41_22 rfl (lv_at hl 2 rfl) ?_
    refine lv_iload_n hx hb dJ0_substring_37a41_23 rfl (lv_at hl 1 rfl) ?_
    refine lv_isub hx hb dJ0_substring_37a41_24 ?_
    refine lv_istore (lv' := [(4, .int (p2 - p1)), (0, .ref (g i1)), (1, .int p1), (2, .int p2)]) hx hb dJ0_substring_37a41_25 hl (by decide) rfl (fun ls hl => ?_)
    refine lv_aload_n hx hb dJ0_substring_37a41_27 rfl (lv_at hl 1 rfl) ?_
    obtain ⟨r_6, hr_6, hm⟩ := hm_b hm
    refine k_VC (as := []) (rest := []) (ws' := []) (st2 := [.int r_6]) hx hb hml hown ht hK hP hD hS hA hC hR hl (kcJ0_isLatin1_aae02 l D cy g i1 h_i1 r_6 hr_6) [] q_479 q_480 q_481 q_63 q_482 hyJ0_isLatin1_aae02 (hC.1 _ h_i1).1 rfl ⟨Nat.le_of_ble_eq_true rfl, Nat.le_of_ble_eq_true rfl, Nat.le_of_ble_eq_true rfl, Nat.le_of_ble_eq_true rfl⟩ rfl rfl rfl rfl (Nat.le_of_ble_eq_true rfl) dJ0_substring_37a41_28 rfl rfl (fun H locs hP hD hS => ?_)
    refine lv_if_eq (tgt := 47) hx hb dJ0_substring_37a41_31 (by decide) (fun c_7 => ?_) (fun c_7 => ?_)
    · replace hm := hm_t c_7 hm
      cases hm
    · replace hm := hm_f c_7 hm
      refine lv_aload_n hx hb dJ0_substring_37a41_34 rfl (lv_at hl 1 rfl) ?_
      refine vk_getf (v := .ref (g (100 + i1))) hx hb (hC.1 _ h_i1).2.2.1 hS hown (ht _ q_1923) (fun _ h9 => h9) dJ0_substring_37a41_35 ?_
      refine lv_iload_n hx hb dJ0_substring_37a41_38 rfl (lv_at hl 2 rfl) ?_
      refine lv_iload hx hb dJ0_substring_37a41_39 (lv_at hl 0 rfl) ?_
      obtain ⟨r_8, hr_8, hm⟩ := hm_b hm
      refine k_SE (as := [.ref (g (100 + i1)), .int p1, .int (p2 - p1)]) (rest := []) (wa := fun _ => []) (wb := fun _ => ([] : va_W)) hx hb hml hown ht hK hY hP hD hS hA hC hR hl (kcJ1_newString_b4f7a l D cy g p1 (p2 - p1) i1 h_i1 r_8 hr_8) [] q_1726 q_1727 q_64 q_1728 hyJ1_newString_b4f7a ⟨Nat.le_of_ble_eq_true rfl, Nat.le_of_ble_eq_true rfl, Nat.le_of_ble_eq_true rfl, Nat.le_of_ble_eq_true rfl⟩ rfl rfl (fun _ => rfl) rfl (Nat.le_of_ble_eq_true rfl) dJ0_substring_37a41_41 (fun _ => rfl) (fun u_9 H locs hP hD hS => ?_)
      rw [List.append_nil] at hP hD
      have hP : va_P D classes [((u_9 0 0), .inr (10, [.ref (u_9 1 0), .int 0, .int 0, .int 0])), ((u_9 1 0), .inl (cy 4, r_8.1, .inl r_8.2))] H := hP
      have hD : va_D A [((u_9 0 0), .inr (10, [.ref (u_9 1 0), .int 0, .int 0, .int 0])), ((u_9 1 0), .inl (cy 4, r_8.1, .inl r_8.2))] := hD
      show W p l e RM s m ar below meth c H locs 2 7 (MQ below Qc ar s 2 7 A) (F0 m 44 ls [.ref (u_9 0 0)])
      refine lv_goto (tgt := 57) hx hb dJ0_substring_37a41_44 (by decide) ?_
      obtain rfl := Option.some.inj hm
      exact k_aretE (w0 := []) hx hb hr (Or.inl ⟨_, rfl⟩) hlocks hQc hA9 hP hD hS (fun n9 => ([(u_9 0), (u_9 1)] : List (Nat → Nat)).getD n9 (fun _ => 0)) rfl rfl (fun _ => rfl) dJ0_substring_37a41_57
  replace hm := hreg
  refine lv_if_ne (tgt := 22) hx hb dJ0_substring_37a41_12 (by decide) (fun c_3 => ?_) (fun c_3 => ?_)
  · replace hm := hm_f c_3 hm
    obtain rfl := Option.some.inj hm
    exact J22 _ _ _ hP hD hS (lv_sub hl [1, 2, 3] rfl)
  · replace hm := hm_t c_3 hm
    refine lv_iload_n hx hb dJ0_substring_37a41_15 rfl (lv_at hl 3 rfl) ?_
    refine lv_iload_n hx hb dJ0_substring_37a41_16 rfl (lv_at hl 0 rfl) ?_
    refine lv_icmp_ne (tgt := 22) hx hb dJ0_substring_37a41_17 (by decide) (fun c_10 => ?_) (fun c_10 => ?_)
    · replace hm := hm_f c_10 hm
      obtain rfl := Option.some.inj hm
      exact J22 _ _ _ hP hD hS (lv_sub hl [1, 2, 3] rfl)
    · replace hm := hm_t c_10 hm
      cases hm
theorem dX13_shapeOf_0 : decode cX13_shapeOf 0 = .ok (.iconst 0, 1) := by decide +kernel
theorem dX13_shapeOf_1 : decode cX13_shapeOf 1 = .ok (.istore_n 1, 1) := by decide +kernel
theorem dX13_shapeOf_2 : decode cX13_shapeOf 2 = .ok (.iconst 0, 1) := by decide +kernel
theorem dX13_shapeOf_3 : decode cX13_shapeOf 3 = .ok (.istore_n 2, 1) := by decide +kernel
theorem dX13_shapeOf_4 : decode cX13_shapeOf 4 = .ok (.iload_n 2, 1) := by decide +kernel
theorem dX13_shapeOf_5 : decode cX13_shapeOf 5 = .ok (.iload_n 0, 1) := by decide +kernel
theorem dX13_shapeOf_6 : decode cX13_shapeOf 6 = .ok (.if_icmp .ge 20, 3) := by decide +kernel
theorem dX13_shapeOf_9 : decode cX13_shapeOf 9 = .ok (.ldc 182, 2) := by decide +kernel
theorem dX13_shapeOf_11 : decode cX13_shapeOf 11 = .ok (.bipush 32, 2) := by decide +kernel
theorem dX13_shapeOf_13 : decode cX13_shapeOf 13 = .ok (.iload_n 1, 1) := by decide +kernel
theorem dX13_shapeOf_14 : decode cX13_shapeOf 14 = .ok (.invokevirtual 184, 3) := by decide +kernel
theorem dX13_shapeOf_17 : decode cX13_shapeOf 17 = .ok (.iconst 1, 1) := by decide +kernel
theorem dX13_shapeOf_18 : decode cX13_shapeOf 18 = .ok (.iadd, 1) := by decide +kernel
theorem dX13_shapeOf_19 : decode cX13_shapeOf 19 = .ok (.istore_n 1, 1) := by decide +kernel
theorem dX13_shapeOf_20 : decode cX13_shapeOf 20 = .ok (.iinc 2 1, 3) := by decide +kernel
theorem dX13_shapeOf_23 : decode cX13_shapeOf 23 = .ok (.goto (-19), 3) := by decide +kernel
theorem dX13_shapeOf_26 : decode cX13_shapeOf 26 = .ok (.ldc 182, 2) := by decide +kernel
theorem dX13_shapeOf_28 : decode cX13_shapeOf 28 = .ok (.iload_n 1, 1) := by decide +kernel
theorem dX13_shapeOf_29 : decode cX13_shapeOf 29 = .ok (.ldc 182, 2) := by decide +kernel
theorem dX13_shapeOf_31 : decode cX13_shapeOf 31 = .ok (.bipush 32, 2) := by decide +kernel
theorem dX13_shapeOf_33 : decode cX13_shapeOf 33 = .ok (.iload_n 1, 1) := by decide +kernel
theorem dX13_shapeOf_34 : decode cX13_shapeOf 34 = .ok (.invokevirtual 184, 3) := by decide +kernel
theorem dX13_shapeOf_37 : decode cX13_shapeOf 37 = .ok (.invokevirtual 188, 3) := by decide +kernel
theorem dX13_shapeOf_40 : decode cX13_shapeOf 40 = .ok (.areturn, 1) := by decide +kernel
def mX13_shapeOf_L4 (p0 : Int32) (k : Nat) : Nat → Int32 → Int32 → Option (Int32)
  | 0, _, _ => none
  | n_ + 1, y_7, y_8 => (if p0 ≤ y_8 then some y_7 else ((mJ0_indexOf_7cf53 k 32 y_7 43).bind (fun r_10 => (mX13_shapeOf_L4 p0 k n_ (r_10 + 1) (y_8 + 1)))))
def mX13_shapeOf (k : Nat) (p0 : Int32) : Option (Nat × (Nat → Int32)) := ((mX13_shapeOf_L4 p0 k k 0 0).bind (fun r_11 => ((mJ0_indexOf_7cf53 k 32 r_11 43).bind (fun r_12 => ((mJ0_substring_37a41 r_11 r_12 43).bind (fun r_13 => some (r_13.1, r_13.2)))))))
set_option maxHeartbeats 4000000 in
set_option maxRecDepth 100000 in
theorem kcX13_shapeOf (l : Launch) (D : va_G) (cy : Nat → ClassId) (g : Nat → Nat) (p0 : Int32) (k : Nat) (R : Nat × (Nat → Int32)) (hm : mX13_shapeOf k p0 = some R) : ConE l D cy g yX13_shapeOf cX13_shapeOf 3 (some (.object "java/lang/String")) 5 132 2 7 [.int p0] [] (fun _ => []) (fun u => [((u 0 0), .inr (10, [.ref (u 1 0), .int 0, .int 0, .int 0])), ((u 1 0), .inl (cy 4, R.1, .inl R.2))]) (fun u => some (.ref (u 0 0))) := by
  refine ConE.of (by decide +kernel) (Nat.le_of_ble_eq_true rfl) ?_
  intro p e RM s m ar below meth c A Qc ls hx hb hr hml hown hlocks hnm ht hK hY hP hD hS hA hA9 hR hC hQc hl
  have hown : s.vm.findClass RX13 = some m.cls := hown
  have hl : lv_has ls 3 [(0, .int p0)] := hl
  rw [mX13_shapeOf] at hm
  refine lv_iconst (v := 0) hx hb dX13_shapeOf_0 (by decide) ?_
  refine lv_istore_n (lv' := [(1, .int 0), (0, .int p0)]) hx hb dX13_shapeOf_1 rfl hl (by decide) rfl (fun ls hl => ?_)
  refine lv_iconst (v := 0) hx hb dX13_shapeOf_2 (by decide) ?_
  refine lv_istore_n (lv' := [(2, .int 0), (1, .int 0), (0, .int p0)]) hx hb dX13_shapeOf_3 rfl hl (by decide) rfl (fun ls hl => ?_)
  have L4 : ∀ (rr : Int32) (kk : ∀ (H : Heap) (locs : List Loc) (ls : Array Slot), va_P D classes [] H → va_D A [] → va_S A s.heap H locs → lv_has ls 3 [(1, .int rr)] → W p l e RM s m ar below meth c H locs 0 0 (MQ below Qc ar s 2 7 A) (F0 m 26 ls [])) (n_ : Nat), ∀ (y_7 : Int32) (y_8 : Int32), mX13_shapeOf_L4 p0 k n_ y_7 y_8 = some rr → ∀ (H : Heap) (locs : List Loc) (ls : Array Slot), va_P D classes [] H → va_D A [] → va_S A s.heap H locs → lv_has ls 3 [(2, .int y_8), (1, .int y_7), (0, .int p0)] → W p l e RM s m ar below meth c H locs 0 0 (MQ below Qc ar s 2 7 A) (F0 m 4 ls []) := by
    intro rr kk n_
    induction n_ with
    | zero => intro y_7 y_8 hm; rw [mX13_shapeOf_L4] at hm; cases hm
    | succ n_ ih =>
      intro y_7 y_8 hm H locs ls hP hD hS hl
      rw [mX13_shapeOf_L4] at hm
      refine lv_iload_n hx hb dX13_shapeOf_4 rfl (lv_at hl 0 rfl) ?_
      refine lv_iload_n hx hb dX13_shapeOf_5 rfl (lv_at hl 2 rfl) ?_
      refine lv_icmp_ge (tgt := 26) hx hb dX13_shapeOf_6 (by decide) (fun c_9 => ?_) (fun c_9 => ?_)
      · replace hm := hm_t c_9 hm
        obtain rfl := Option.some.inj hm
        exact kk _ _ _ hP hD hS (lv_sub hl [1] rfl)
      · replace hm := hm_f c_9 hm
        refine va_ldcS (q := g 43) hx hb hown (hC.2.2.2 _ (List.mem_of_getElem? (i := 7) rfl)) dX13_shapeOf_9 ?_
        refine lv_bipush (v := 32) hx hb dX13_shapeOf_11 (by decide) ?_
        refine lv_iload_n hx hb dX13_shapeOf_13 rfl (lv_at hl 1 rfl) ?_
        obtain ⟨r_10, hr_10, hm⟩ := hm_b hm
        refine k_VC (as := [.int 32, .int y_7]) (rest := []) (ws' := []) (st2 := [.int r_10]) hx hb hml hown ht hK hP hD hS hA hC hR hl (kcJ0_indexOf_7cf53 l D cy g 32 y_7 43 (by decide : (43 : Nat) < 44) k r_10 hr_10) [] q_1670 q_1671 q_1672 q_63 q_1673 hyJ0_indexOf_7cf53 (hC.1 _ (by decide : (43 : Nat) < 44)).1 rfl ⟨Nat.le_of_ble_eq_true rfl, Nat.le_of_ble_eq_true rfl, Nat.le_of_ble_eq_true rfl, Nat.le_of_ble_eq_true rfl⟩ rfl rfl rfl rfl (Nat.le_of_ble_eq_true rfl) dX13_shapeOf_14 rfl rfl (fun H locs hP hD hS => ?_)
        refine lv_iconst (v := 1) hx hb dX13_shapeOf_17 (by decide) ?_
        refine lv_iadd hx hb dX13_shapeOf_18 ?_
        refine lv_istore_n (lv' := [(1, .int (r_10 + 1)), (2, .int y_8), (0, .int p0)]) hx hb dX13_shapeOf_19 rfl hl (by decide) rfl (fun ls hl => ?_)
        refine lv_iinc (v := (y_8 + 1)) (lv' := [(2, .int (y_8 + 1)), (1, .int (r_10 + 1)), (0, .int p0)]) hx hb dX13_shapeOf_20 hl (k := 1) rfl rfl (by decide) rfl (fun ls hl => ?_)
        refine lv_goto (tgt := 4) hx hb dX13_shapeOf_23 (by decide) ?_
        exact ih (r_10 + 1) (y_8 + 1) hm _ _ _ hP hD hS (lv_sub hl [0, 1, 2] rfl)
  obtain ⟨r_11, hL, hm⟩ := hm_b hm
  refine L4 r_11 ?_ k 0 0 hL _ _ _ hP hD hS (lv_sub hl [0, 1, 2] rfl)
  intro H locs ls hP hD hS hl
  refine va_ldcS (q := g 43) hx hb hown (hC.2.2.2 _ (List.mem_of_getElem? (i := 7) rfl)) dX13_shapeOf_26 ?_
  refine lv_iload_n hx hb dX13_shapeOf_28 rfl (lv_at hl 0 rfl) ?_
  refine va_ldcS (q := g 43) hx hb hown (hC.2.2.2 _ (List.mem_of_getElem? (i := 7) rfl)) dX13_shapeOf_29 ?_
  refine lv_bipush (v := 32) hx hb dX13_shapeOf_31 (by decide) ?_
  refine lv_iload_n hx hb dX13_shapeOf_33 rfl (lv_at hl 0 rfl) ?_
  obtain ⟨r_12, hr_12, hm⟩ := hm_b hm
  refine k_VC (as := [.int 32, .int r_11]) (rest := [.int r_11, .ref (g 43)]) (ws' := []) (st2 := [.int r_12, .int r_11, .ref (g 43)]) hx hb hml hown ht hK hP hD hS hA hC hR hl (kcJ0_indexOf_7cf53 l D cy g 32 r_11 43 (by decide : (43 : Nat) < 44) k r_12 hr_12) [] q_1670 q_1671 q_1672 q_63 q_1673 hyJ0_indexOf_7cf53 (hC.1 _ (by decide : (43 : Nat) < 44)).1 rfl ⟨Nat.le_of_ble_eq_true rfl, Nat.le_of_ble_eq_true rfl, Nat.le_of_ble_eq_true rfl, Nat.le_of_ble_eq_true rfl⟩ rfl rfl rfl rfl (Nat.le_of_ble_eq_true rfl) dX13_shapeOf_34 rfl rfl (fun H locs hP hD hS => ?_)
  obtain ⟨r_13, hr_13, hm⟩ := hm_b hm
  refine k_VCE (as := [.int r_11, .int r_12]) (rest := []) (wa := fun _ => []) (wb := fun _ => ([] : va_W)) hx hb hml hown ht hK hY hP hD hS hA hC hR hl (kcJ0_substring_37a41 l D cy g r_11 r_12 43 (by decide : (43 : Nat) < 44) r_13 hr_13) [] q_1721 q_1722 q_1723 q_63 q_1724 hyJ0_substring_37a41 (hC.1 _ (by decide : (43 : Nat) < 44)).1 rfl ⟨Nat.le_of_ble_eq_true rfl, Nat.le_of_ble_eq_true rfl, Nat.le_of_ble_eq_true rfl, Nat.le_of_ble_eq_true rfl⟩ rfl rfl (fun _ => rfl) rfl (Nat.le_of_ble_eq_true rfl) dX13_shapeOf_37 (fun _ => rfl) (fun u_14 H locs hP hD hS => ?_)
  rw [List.append_nil] at hP hD
  have hP : va_P D classes [((u_14 0 0), .inr (10, [.ref (u_14 1 0), .int 0, .int 0, .int 0])), ((u_14 1 0), .inl (cy 4, r_13.1, .inl r_13.2))] H := hP
  have hD : va_D A [((u_14 0 0), .inr (10, [.ref (u_14 1 0), .int 0, .int 0, .int 0])), ((u_14 1 0), .inl (cy 4, r_13.1, .inl r_13.2))] := hD
  show W p l e RM s m ar below meth c H locs 2 7 (MQ below Qc ar s 2 7 A) (F0 m 40 ls [.ref (u_14 0 0)])
  obtain rfl := Option.some.inj hm
  exact k_aretE (w0 := []) hx hb hr (Or.inl ⟨_, rfl⟩) hlocks hQc hA9 hP hD hS (fun n9 => ([(u_14 0), (u_14 1)] : List (Nat → Nat)).getD n9 (fun _ => 0)) rfl rfl (fun _ => rfl) dX13_shapeOf_40
